/-! ===== contents of declared elements are well written (pure) ===== -/
/-- where the names of a mixed group begin -/
def mx0 (l : List Int) : Nat := sk isSp (gd l) l.length 1 + 7
def GDx (x : EDc) : Prop := (0 < x.2.2.length ∧ gd x.2.2 (x.2.2.length - 1) = 62) ∧ (x.2.1 = 3 → ∃ r, (gd x.2.2 0 = 40 ∧ mdk (gd x.2.2) x.2.2.length (x.2.2.length + 2) [0] true 1 0 1 = some r) ∧ r.2.1 ≤ 255 ∧ r.2.2 ≤ 60 ∧ r.1 < x.2.2.length ∧ gd x.2.2 r.1 ≠ 63) ∧ (x.2.1 = 2 → ∃ z, (∀ q, q < mx0 x.2.2 → gd x.2.2 q ≠ 41 ∧ gd x.2.2 q ≠ 124) ∧ mx0 x.2.2 < x.2.2.length ∧ mxk (gd x.2.2) x.2.2.length (x.2.2.length + 1) false (mx0 x.2.2) = some z)
def GDl (a : AS) : Prop := ∀ x ∈ aD a, GDx x
section Gdl
variable {rm nd : Nat} {a a' : AS}
theorem gd_sl {T : Nat → Int} {c n i : Nat} (h : i < n) : gd (sl T c n) i = T (c + i) := by
  unfold gd
  rw [List.getD_eq_getElem?_getD, sl_get h]
  rfl
theorem eld_GDx {T : Nat → Int} {e c k : Nat} (hce : c ≤ e) (hk : wd T e [62] (asp T e (cnt T e c)) = some k) (hno : ¬ (cnK T e c = 3 ∧ (255 < ((mdl T e c).getD (0, 0, 0)).2.1 ∨ 60 < ((mdl T e c).getD (0, 0, 0)).2.2))) (nm : Str) : GDx (nm, cnK T e c, sl T c (k - c)) := by
  cases hm : cnt T e c with
  | none => rw [hm] at hk; cases hk
  | some m =>
    rw [hm] at hk
    have hk' : (if mt T e (sk isSp T e m) [62] = true then some (sk isSp T e m + 1) else none) = some k := hk
    have hmg := cnt_gt hm
    split at hk'
    · rename_i h62
      rw [mt_1] at h62
      have h62' : lk T e (sk isSp T e m) = 62 := by simpa using h62
      have hkw := Option.some.inj hk'
      have hwe : sk isSp T e m < e := by
        refine Classical.byContradiction (fun hc => ?_)
        rw [lk_ge hc] at h62'
        exact absurd h62' (by decide)
      have hmw : m ≤ sk isSp T e m := sk_gt
      have hTw : T (k - 1) = 62 := by
        rw [← hkw, show sk isSp T e m + 1 - 1 = sk isSp T e m by omega, ← lk_b (T := T) hwe]
        exact h62'
      have hsen : SEN T e k := ⟨by omega, by omega, hTw⟩
      have hlen : (sl T c (k - c)).length = k - c := sl_ln
      have hsh : SHT (gd (sl T c (k - c))) T (k - c) c := fun i hi => (gd_sl hi).symm
      have ek : c + (k - c) = k := by omega
      have h63 : T m ≠ 63 := fun z => by
        by_cases y : m = sk isSp T e m
        · rw [y, ← lk_b (T := T) hwe, h62'] at z
          exact absurd z (by decide)
        · have := sk_all (p := isSp) (T := T) (e := e) (i := m) m (Nat.le_refl _) (by omega)
          rw [z] at this
          exact absurd this (by decide)
      refine ⟨⟨by show 0 < (sl T c (k - c)).length; omega, ?_⟩, fun h3 => ?_, fun h2 => ?_⟩
      · show gd (sl T c (k - c)) ((sl T c (k - c)).length - 1) = 62
        rw [hlen, gd_sl (by omega), show c + (k - c - 1) = k - 1 by omega]
        exact hTw
      · -- a model
        have h3' : cnK T e c = 3 := h3
        unfold cnt at hm
        rw [h3', if_neg (by decide), if_neg (by decide), if_neg (by decide)] at hm
        cases hr : mdl T e c with
        | none => rw [hr] at hm; cases hm
        | some r =>
          rw [hr] at hm hno
          have hm' : r.1 = m := Option.some.inj hm
          have hno' : ¬ (cnK T e c = 3 ∧ (255 < r.2.1 ∨ 60 < r.2.2)) := hno
          unfold mdl at hr
          split at hr
          · rename_i h40
            rw [mt_1] at h40
            have h40' : lk T e c = 40 := by simpa using h40
            have hcl : c < k := by omega
            have hc1 : c + 1 < k := hsen.nxt hcl (by rw [← hsen.lkE hcl]; omega)
            rw [hsen.mdkE _ _ _ _ _ _ hc1] at hr
            have hr2 := sh_mdk hsh (e + 2) [0] true 1 0 1
            rw [ek, hr] at hr2
            cases hr3 : mdk (gd (sl T c (k - c))) (k - c) (e + 2) [0] true 1 0 1 with
            | none => rw [hr3] at hr2; cases hr2
            | some r' =>
              rw [hr3] at hr2
              have hr4 : r = (c + r'.1, r'.2) := Option.some.inj hr2
              have f1 : r.1 = c + r'.1 := by rw [hr4]
              have f2 : r.2 = r'.2 := by rw [hr4]
              refine ⟨r', ⟨?_, ?_⟩, ?_, ?_, ?_, ?_⟩
              · show gd (sl T c (k - c)) 0 = 40
                rw [gd_sl (by omega), Nat.add_zero, ← lk_b (T := T) (show c < e by omega)]
                exact h40'
              · show mdk (gd (sl T c (k - c))) (sl T c (k - c)).length ((sl T c (k - c)).length + 2) [0] true 1 0 1 = some r'
                rw [hlen, mdk_fuel (k - c + 2) (e + 2) _ _ _ _ _ (by omega) (by omega) (by omega)]
                exact hr3
              · rw [← f2]; omega
              · rw [← f2]; omega
              · show r'.1 < (sl T c (k - c)).length
                omega
              · show gd (sl T c (k - c)) r'.1 ≠ 63
                rw [gd_sl (by omega), ← f1, hm']
                exact h63
          · cases hr
      · -- a mixed group
        have h2' : cnK T e c = 2 := h2
        unfold cnt at hm
        rw [h2', if_neg (by decide), if_neg (by decide), if_pos rfl] at hm
        split at hm
        · rename_i h40
          rw [mt_1] at h40
          have h40' : lk T e c = 40 := by simpa using h40
          have hcl : c < k := by omega
          have hc1 : c + 1 < k := hsen.nxt hcl (by rw [← hsen.lkE hcl]; omega)
          have hpc : mt T e (sk isSp T e (c + 1)) [35, 80, 67, 68, 65, 84, 65] = true := by
            unfold cnK at h2'
            split at h2'
            · cases h2'
            · split at h2'
              · cases h2'
              · split at h2'
                · assumption
                · cases h2'
          have e1 : sk isSp T e (c + 1) = c + sk isSp (gd (sl T c (k - c))) (k - c) 1 := by
            rw [hsen.skE (by decide) hc1]
            have := sh_sk hsh (p := isSp) 1
            rw [ek] at this
            exact this
          rw [e1] at hpc hm
          generalize hx : sk isSp (gd (sl T c (k - c))) (k - c) 1 = x at *
          have hsk1 := sk_le (p := isSp) (T := gd (sl T c (k - c))) (show 1 ≤ k - c by omega)
          rw [hx] at hsk1
          simp only [mt, Bool.and_eq_true, beq_iff_eq] at hpc
          obtain ⟨p0, p1, p2, p3, p4, p5, p6, -⟩ := hpc
          have hx6 : c + x + 1 + 1 + 1 + 1 + 1 + 1 < e := by
            refine Classical.byContradiction (fun hc' => ?_)
            rw [lk_ge hc'] at p6
            exact absurd p6 (by decide)
          have hmxk := mxk_le _ _ _ _ (by omega) hm
          have e0 : mx0 (sl T c (k - c)) = x + 7 := by
            unfold mx0
            rw [hlen, hx]
          have hkl : c + x + 7 < k := by omega
          have hmx2 := sh_mxk hsh (e + 1) false (x + 7)
          rw [ek, ← Nat.add_assoc, ← (hsen.mxkE (e + 1) false _ hkl).1, hm] at hmx2
          obtain ⟨z, hz1, hz2⟩ := mvo_eq_some.mp hmx2.symm
          refine ⟨z, fun q hq => ?_, ?_, ?_⟩
          · show gd (sl T c (k - c)) q ≠ 41 ∧ gd (sl T c (k - c)) q ≠ 124
            have hq' : q < x + 7 := by rw [← e0]; exact hq
            rw [gd_sl (by omega)]
            by_cases y0 : q = 0
            · rw [y0, Nat.add_zero, ← lk_b (T := T) (show c < e by omega), h40']; decide
            · by_cases y1 : q < x
              · have := sk_all (p := isSp) (T := gd (sl T c (k - c))) (e := k - c) (i := 1) q (by omega) (by omega)
                rw [gd_sl (by omega)] at this
                unfold isSp at this
                simp only [Bool.or_eq_true, beq_iff_eq] at this
                omega
              · have hq7 : q = x ∨ q = x + 1 ∨ q = x + 2 ∨ q = x + 3 ∨ q = x + 4 ∨ q = x + 5 ∨ q = x + 6 := by omega
                rw [lk_b (by omega)] at p0 p1 p2 p3 p4 p5 p6
                rcases hq7 with y | y | y | y | y | y | y
                · rw [y, p0]; decide
                · rw [y, show c + (x + 1) = c + x + 1 by omega, p1]; decide
                · rw [y, show c + (x + 2) = c + x + 1 + 1 by omega, p2]; decide
                · rw [y, show c + (x + 3) = c + x + 1 + 1 + 1 by omega, p3]; decide
                · rw [y, show c + (x + 4) = c + x + 1 + 1 + 1 + 1 by omega, p4]; decide
                · rw [y, show c + (x + 5) = c + x + 1 + 1 + 1 + 1 + 1 by omega, p5]; decide
                · rw [y, show c + (x + 6) = c + x + 1 + 1 + 1 + 1 + 1 + 1 by omega, p6]; decide
          · show mx0 (sl T c (k - c)) < (sl T c (k - c)).length
            rw [e0, hlen]; omega
          · show mxk (gd (sl T c (k - c))) (sl T c (k - c)).length ((sl T c (k - c)).length + 1) false (mx0 (sl T c (k - c))) = some z
            rw [e0, hlen, mxk_fuel (k - c + 1) (e + 1) _ _ (by omega) (by omega) (by omega)]
            exact hz1
        · cases hm
    · cases hk'
theorem GDl.stpE (h : GDl a) (hs : stp rm nd a = .inr a') : GDl a' := by
  rcases stp_shp hs with h1 | h1 | h1 | h1
  · intro x hx
    rw [h1.2.2.2] at hx
    exact h x hx
  · unfold iEld at h1
    split at h1
    · rename_i s k h2 h3
      split at h1
      · rename_i n c h4 h5
        split at h1
        · cases h1
        · rename_i hno
          cases h1
          have hD : ∀ (X : AS) (i : Nat), aD (adv X i) = aD X := fun X i => (adv_other (a := X) (k := i)).2.2.2.1
          intro x hx
          rw [hD] at hx
          rcases List.mem_append.mp hx with z | z
          · exact h x z
          · rw [List.mem_singleton.mp z]
            have h3' : wd (gd (cur a)) (cur a).length [62] (asp (gd (cur a)) (cur a).length ((elc (gd (cur a)) (cur a).length 0).bind (cnt (gd (cur a)) (cur a).length))) = some k := h3
            rw [h5, Option.bind_some] at h3'
            have h5' : spc (gd (cur a)) (cur a).length (nmg (gd (cur a)) (cur a).length true (spc (gd (cur a)) (cur a).length (some (0 + 9)))) = some c := h5
            rw [show 0 + 9 = 9 from rfl, h2, h4] at h5'
            have g2 := nmg_lt h4
            have g3 := spc_gt g2.2.2 h5'
            exact eld_GDx (by omega) h3' hno _
      · cases h1
    · cases h1
  · unfold iAtl at h1
    split at h1
    · split at h1
      · split at h1
        · cases h1
        · rename_i c m ad hd
          cases h1
          intro x hx
          have hD : ∀ k, aD (adv (sN (sN (sA a ad) 0 c) 1 m) k) = aD a := fun k => (adv_other (a := sN (sN (sA a ad) 0 c) 1 m) (k := k)).2.2.2.1
          rw [hD] at hx
          exact h x hx
      · cases h1
    · cases h1
  · unfold iTag at h1
    split at h1
    · rename_i k n hk hn
      split at h1
      · cases h1
      · rename_i c m gv hg
        split at h1
        · cases h1
        · cases h1
          have hD : ∀ (nm : Str) (al : List Att), aD (nel a nm gv al k c m) = aD a := fun nm al => ((S0.tchE (a := a) (b := false)).advE (k := k)).2.2.2
          intro x hx
          refine h x ?_
          split at hx
          · rw [(S0.clsE (S0.refl (a := nel a (sl (gd (cur a)) 1 (n - 1)) gv (gv ++ dfl (aA a) (sl (gd (cur a)) 1 (n - 1)) gv) k c m))).2.2.2, hD] at hx
            exact hx
          · rw [hD] at hx
            exact hx
    · cases h1
theorem jdg_GDl {B : Nat → Int} {n : Nat} (hn : n ≤ 65536) (h : jdg rm nd B n = .inr a') : GDl a' :=
  jdg_inv GDl (fun _ _ _ hV hs => GDl.stpE hV hs) (fun l st k => ⟨fun x hx => (by cases hx), fun x hx => by
    rw [(S0.advE (a := a0 l) (X := sN (a0 l) 5 st) (k := k) ⟨rfl, rfl, rfl, rfl⟩).2.2.2] at hx
    cases hx⟩) hn h
end Gdl
