/-! ===== the trees of models (pure): the tree of a text means what the text means ===== -/
section Kbo
variable {t t' : List KNd} {G G' : Nat → KGv} {ns : List Str} {g g1 : Nat} {gl : List Nat} {s s' : Int} {o o' : Option MVl} {fs : List MFr} {due : Bool} {la gr kd h ch c : Int} {nm : Str} {v : MVl} {T : Nat → Int} {e : Nat}
theorem bld_s {e' m k lf : Nat} : bld T e' (m + 1) k gr la lf t = if e' ≤ k then t
    else if T k = 40 then bld T e' m (k + 1) (t.length : Int) (-1) lf (knw 1 [] (-1) gr la t)
    else if T k = 41 then bld T e' m (k + 1) (t.getD gr.toNat kdD).2.2.2.2.2 gr lf t
    else if T k = 124 then bld T e' m (k + 1) gr la lf (t.modify gr.toNat (fun x => (2, x.2)))
    else if T k = 63 ∨ T k = 42 ∨ T k = 43 then bld T e' m (k + 1) gr la lf (t.modify la.toNat (fun x => (x.1, T k, x.2.2)))
    else match nmg T e' true (some k) with
      | none => bld T e' m (k + 1) gr la lf t
      | some j => bld T e' m j gr (t.length : Int) (lf + 1) (knw 0 (sl T k (j - k)) (lf : Int) gr la t) := rfl
/-- how often -/
theorem bld_oft {e' m j x lf : Nat} (hz : oft T e j ≤ e') (he : e' ≤ e) (hm : e' < m + j) : ∃ t2 m2, bld T e' m j gr (x : Int) lf t = bld T e' m2 (oft T e j) gr (x : Int) lf t2 ∧ e' < m2 + oft T e j ∧ ((t2 = t ∧ hwf T e j = 0) ∨ t2 = t.modify x (fun q => (q.1, hwf T e j, q.2.2))) := by
  by_cases c : lk T e j = 63 ∨ (lk T e j = 42 ∨ lk T e j = 43)
  · have e1 : oft T e j = j + 1 := if_pos c
    have e2 : hwf T e j = lk T e j := if_pos c
    rw [e1] at hz ⊢
    have hT : lk T e j = T j := lk_b (by omega)
    rw [hT] at c e2
    obtain ⟨m, rfl⟩ : ∃ m', m = m' + 1 := ⟨m - 1, by omega⟩
    refine ⟨_, m, ?_, by omega, Or.inr rfl⟩
    rw [bld_s, if_neg (by omega), if_neg (by omega), if_neg (by omega), if_neg (by omega), if_pos c, e2]
    rfl
  · have e1 : oft T e j = j := if_neg c
    have e2 : hwf T e j = 0 := if_neg c
    rw [e1]
    exact ⟨t, m, rfl, hm, Or.inl ⟨rfl, e2⟩⟩
theorem OG.lens : ∀ {gl : List Nat} {fs : List MFr} {tl : List Nat} {n : Nat}, OG t G n tl gl fs → gl.length = fs.length
  | [], [], _, _, _ => rfl
  | [], _ :: _, _, _, h => h.elim
  | _ :: _, [], _, _, h => h.elim
  | _ :: gl, _ :: fs, _, _, h => by rw [List.length_cons, List.length_cons, OG.lens h.2]
theorem LAk.or (h : LAk (gch (G g)) la) (hl : ∀ c ∈ gch (G g), c < t.length) : la = -1 ∨ ∃ i : Nat, la = (i : Int) ∧ i < t.length := by
  rcases h with ⟨z1, z2⟩ | ⟨l, x, z1, z2⟩
  · exact Or.inl z2
  · exact Or.inr ⟨x, z2, hl x (by rw [z1]; exact List.mem_append_right _ (List.mem_singleton.mpr rfl))⟩
theorem RO.of {t2 : List KNd} (hg : g < t.length) (hk : kO t g = 0) (h2 : (t2 = t ∧ h = 0) ∨ t2 = t.modify g (fun q => (q.1, h, q.2.2))) : RO t t2 g h := by
  rcases h2 with ⟨z1, z2⟩ | z1
  · rw [z1, z2]
    refine ⟨rfl, fun p hp => ⟨rfl, ?_, rfl, rfl, rfl, rfl⟩⟩
    by_cases c : g = p
    · rw [if_pos c, ← c]; exact hk
    · rw [if_neg c]
  · rw [z1]
    exact kof_rd hg
theorem isSt_ne {x z : Int} (h : isSt x = true) (hz : isSt z = false) : x ≠ z := fun y => by rw [y, hz] at h; cases h
theorem bl_go : ∀ (N : Nat) (g : Nat) (gl : List Nat) (s : Int) (o : Option MVl) (fs : List MFr) (due : Bool) (k d : Nat) (ns : List Str) (r : Nat × Nat × Nat) (W : MVl) (NS : List Str) (t : List KNd) (G : Nat → KGv) (la : Int) (m : Nat), mdk T e N (s :: fs.map Prod.fst) due k ns.length d = some r → mdV T e N ((s, o) :: fs) due k ns = some (W, NS) → k ≤ e → r.1 ≤ e → r.2.2 ≤ 60 → fs.length + 1 ≤ d → BI t G ns g gl s o fs due la → r.1 < m + k → ∃ G', TFk (bld T r.1 m k (g : Int) la ns.length t) G' W NS := by
  intro N
  induction N with
  | zero => intro g gl s o fs due k d ns r W NS t G la m h1; cases h1
  | succ N ih =>
    intro g gl s o fs due k d ns r W NS t G la m h1 h2 hke hre hr6 hfd hB hm
    have hgl : gl.length = fs.length := by have := hB.2.1.lens; rw [List.length_cons, List.length_cons] at this; omega
    have hd60 : d ≤ 60 := by have := (mdk_mono _ _ _ _ _ _ h1).2; omega
    have hyl := sk_le (p := isSp) (T := T) hke
    obtain ⟨b1, ⟨⟨k1, k2, k3, k4, k5, k6, k7, k8, k9, k10, k11⟩, kt⟩, b3, b4, b5, b6, b7⟩ := id hB
    rw [List.append_nil] at k4 k5 k6 k9
    have hla := b3.or (fun c hc => (k6 c hc).2.2.1)
    have hgr : ((g : Nat) : Int) = -1 ∨ ∃ i : Nat, ((g : Nat) : Int) = (i : Int) ∧ i < t.length := Or.inr ⟨g, rfl, k1⟩
    unfold mdk at h1
    unfold mdV at h2
    generalize hy : sk isSp T e k = y at *
    -- the reader at what is no blank
    have hsk : y < r.1 → bld T r.1 m k (g : Int) la ns.length t = bld T r.1 (m - (y - k) - 1 + 1) y (g : Int) la ns.length t ∧ r.1 < (m - (y - k) - 1) + (y + 1) := fun hyr => by
      have := bld_sk (T := T) (e := e) (gr := (g : Int)) (la := la) (t := t) (e' := r.1) (y - k) (m - (y - k)) k (lf := ns.length) (by rw [hy]; omega) (by rw [hy]; exact hyr) hre
      rw [hy, show m - (y - k) + (y - k) = m by omega] at this
      rw [this, show m - (y - k) - 1 + 1 = m - (y - k) by omega]
      exact ⟨rfl, by omega⟩
    by_cases hd : due = true
    · subst hd
      rw [if_pos rfl] at h1 h2
      by_cases c4 : lk T e y = 40
      · rw [if_pos c4] at h1 h2
        have hyt := lk_lt (by decide) c4
        have hlen := (mdk_len _ _ _ _ _ _ _ (by omega) h1).2
        obtain ⟨e1, e2⟩ := hsk (by omega)
        rw [e1, bld_s, if_neg (by omega), if_pos hyt.2]
        have hrd : RD t (knw 1 [] (-1) (g : Int) la t) 1 0 [] (-1) (g : Int) la := knw_rd hla hgr
        obtain ⟨G1, hB1⟩ := hB.grp hrd
        refine ih t.length (g :: gl) 0 none ((s, o) :: fs) true (y + 1) _ ns r W NS _ G1 (-1) _ h1 h2 (by omega) hre hr6 ?_ hB1 e2
        rw [List.length_cons, List.length_map]
        split <;> omega
      · rw [if_neg c4] at h1 h2
        cases hn : nmg T e true (some y) with
        | none => rw [hn] at h1; cases h1
        | some j =>
          rw [hn] at h1 h2
          dsimp only at h1 h2
          have hnl := nmg_lt hn
          have hol := oft_le (T := T) hnl.2.2
          have hlen := (mdk_len _ _ _ _ _ _ _ hol.2 h1).2
          obtain ⟨e1, e2⟩ := hsk (by omega)
          have hst : isSt (T y) = true := by rw [← lk_b (T := T) (e := e) hnl.1]; exact nmg_at hn
          rw [e1, bld_s, if_neg (by omega), if_neg (isSt_ne hst (by decide)), if_neg (isSt_ne hst (by decide)), if_neg (isSt_ne hst (by decide)), if_neg (by rintro (z | z | z); exact isSt_ne hst (by decide) z; exact isSt_ne hst (by decide) z; exact isSt_ne hst (by decide) z), nmg_cut hn (by omega) hre]
          dsimp only
          have hrd : RD t (knw 0 (sl T y (j - y)) (ns.length : Int) (g : Int) la t) 0 0 (sl T y (j - y)) (ns.length : Int) (g : Int) la := knw_rd hla hgr
          obtain ⟨t2, m2, f1, f2, f3⟩ := bld_oft (T := T) (e := e) (e' := r.1) (m := m - (y - k) - 1) (j := j) (x := t.length) (gr := (g : Int)) (lf := ns.length + 1) (t := knw 0 (sl T y (j - y)) (ns.length : Int) (g : Int) la t) hlen hre (by omega)
          rw [f1]
          have hrd2 : RD t t2 0 (hwf T e j) (sl T y (j - y)) (ns.length : Int) (g : Int) la := by
            rcases f3 with ⟨z1, z2⟩ | z1
            · rw [z1, z2]; exact hrd
            · rw [z1]; exact hrd.often
          obtain ⟨G1, hB1⟩ := hB.nam (by omega) hrd2
          have hnl2 : (ns ++ [sl T y (j - y)]).length = ns.length + 1 := by rw [List.length_append, List.length_singleton]
          rw [← hnl2] at h1 ⊢
          exact ih g gl s _ fs false _ d (ns ++ [sl T y (j - y)]) r W NS t2 G1 (t.length : Int) m2 h1 h2 hol.2 hre hr6 hfd hB1 f2
    · have hdf : due = false := by simpa using hd
      subst hdf
      rw [if_neg hd] at h1 h2
      by_cases c4 : lk T e y = 41
      · rw [if_pos c4] at h1 h2
        have hyt := lk_lt (by decide) c4
        have hol := oft_le (T := T) (e := e) (k := y + 1) (by omega)
        have hlen := (mdk_len _ _ _ _ _ _ _ hol.2 h1).2
        obtain ⟨e1, e2⟩ := hsk (by omega)
        rw [e1, bld_s, if_neg (by omega), if_neg (by rw [hyt.2]; decide), if_pos hyt.2]
        have hgA : (t.getD (Int.toNat (g : Int)) kdD).2.2.2.2.2 = kA t g := rfl
        rw [hgA]
        cases o with
        | none => cases h2
        | some v =>
          dsimp only at h2
          obtain ⟨t2, m2, f1, f2, f3⟩ := bld_oft (T := T) (e := e) (e' := r.1) (m := m - (y - k) - 1) (j := y + 1) (x := g) (gr := kA t g) (lf := ns.length) (t := t) hlen hre (by omega)
          rw [f1]
          have hro : RO t t2 g (hwf T e (y + 1)) := RO.of k1 k3 f3
          cases fs with
          | nil =>
            have hgl0 : gl = [] := List.length_eq_zero_iff.mp hgl
            subst hgl0
            obtain ⟨G1, hT⟩ := hB.fin hro
            have h3 : some (vof (hwf T e (y + 1)) v, ns) = some (W, NS) := h2
            obtain ⟨w1, w2⟩ := Prod.mk.inj (Option.some.inj h3)
            have h1' : mdk T e N [] false (oft T e (y + 1)) ns.length d = some r := h1
            cases N with
            | zero => cases h1'
            | succ N =>
              have h4 : some (oft T e (y + 1), ns.length, d) = some r := h1'
              have h5 : oft T e (y + 1) = r.1 := by rw [← Option.some.inj h4]
              refine ⟨G1, ?_⟩
              obtain ⟨m2, rfl⟩ : ∃ m', m2 = m' + 1 := ⟨m2 - 1, by omega⟩
              rw [h5, bld_s, if_pos (Nat.le_refl _), ← w1, ← w2]
              exact hT
          | cons f fs' =>
            obtain ⟨s', o'⟩ := f
            cases gl with
            | nil => rw [List.length_cons] at hgl; cases hgl
            | cons g1 gl' =>
              rw [List.length_cons, List.length_cons] at hgl
              rw [List.length_cons] at hfd
              obtain ⟨G1, hB1⟩ := hB.cl (by omega) hro
              have hA1 : kA t g = (g1 : Int) := k11
              rw [hA1]
              exact ih g1 gl' s' _ fs' false _ d ns r W NS t2 G1 (g : Int) m2 h1 h2 hol.2 hre hr6 (by omega) hB1 f2
      · rw [if_neg c4] at h1 h2
        by_cases c5 : (lk T e y = 124 ∨ lk T e y = 44) ∧ (s = 0 ∨ s = lk T e y)
        · rw [if_pos c5] at h1 h2
          have hye : y < e := by
            refine Classical.byContradiction (fun z => ?_)
            have := c5.1
            rw [lk_ge z] at this
            omega
          have hyt : lk T e y = T y := lk_b hye
          have hlen := (mdk_len _ _ _ _ _ _ _ (by omega) h1).2
          obtain ⟨e1, e2⟩ := hsk (by omega)
          rw [e1, bld_s, if_neg (by omega)]
          rw [hyt] at c5 h1 h2
          by_cases c6 : T y = 124
          · rw [if_neg (by omega), if_neg (by omega), if_pos c6]
            have hr := kch_rd (t := t) k1
            rw [show Int.toNat (g : Int) = g from rfl]
            have hB1 := hB.sep (t' := t.modify g (fun x => (2, x.2))) c5.1 c5.2 hr.1 (fun p hp => by
              obtain ⟨a1, a2⟩ := hr.2 p hp
              refine ⟨?_, a2⟩
              rw [a1]
              by_cases cc : g = p
              · rw [if_pos cc, if_pos ⟨c6, cc⟩]
              · rw [if_neg cc, if_neg (fun z => cc z.2)])
            exact ih g gl (T y) o fs true (y + 1) d ns r W NS _ G la _ h1 h2 (by omega) hre hr6 hfd hB1 e2
          · have c7 : T y = 44 := by have := c5.1; omega
            have hnone : nmg T r.1 true (some y) = none := by
              show (if isSt (lk T r.1 y) = true then some (sk isNm T r.1 (y + 1)) else none) = none
              rw [lk_b (by omega), c7]
              rfl
            rw [if_neg (by omega), if_neg (by omega), if_neg c6, if_neg (by omega), hnone]
            have hB1 := hB.sep (t' := t) c5.1 c5.2 rfl (fun p hp => by
              refine ⟨?_, rfl, rfl, rfl, rfl, rfl⟩
              rw [if_neg (fun z => c6 z.1)])
            exact ih g gl (T y) o fs true (y + 1) d ns r W NS _ G la _ h1 h2 (by omega) hre hr6 hfd hB1 e2
        · rw [if_neg c5] at h1; cases h1
end Kbo
