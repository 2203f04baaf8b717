/-! ===== the class writes a tag ===== -/
/-- lengths of the writer's rows -/
def WLn (L : Nat → Nat) (n : Nat) : Prop := (L 162 = 262144 ∧ L 163 = 262144) ∧ n ≤ L 164
/-- since an element was entered -/
def WA (σ τ : IS) (D e : Nat) : Prop := WPx σ τ D ∧ (τ.2 158 = σ.2 158 ∧ τ.2 159 = σ.2 159) ∧ τ.1 11 8 = (e : Int) ∧ τ.1 11 9 = 1
section Wbg
variable {L : Nat → Nat} {σ τ υ : IS} {D e : Nat} {el : List Elm} {at_ : List Att} {E E0 : Str → Str} {out : List Int} {Q : IS → Prop}
theorem WA.wr (h : WA σ τ D e) (hD : D = 162 ∨ D = 163) (hx : WRx τ υ D) : WA σ υ D e := ⟨h.1.trans hx.wp, ⟨by rw [hx.2 158 (by omega)]; exact h.2.1.1, by rw [hx.2 159 (by omega)]; exact h.2.1.2⟩, by rw [hx.1 11 8 (by omega)]; exact h.2.2.1, by rw [hx.1 11 9 (by omega)]; exact h.2.2.2⟩
theorem WA.ox (h : WA σ τ D e) (hx : OX τ υ) : WA σ υ D e := ⟨h.1.trans hx.wp, ⟨by rw [hx.2 158 (by omega)]; exact h.2.1.1, by rw [hx.2 159 (by omega)]; exact h.2.1.2⟩, by rw [hx.1]; exact h.2.2.1, by rw [hx.1]; exact h.2.2.2⟩
theorem OX.wro (h : OX σ τ) (hD : D = 162 ∨ D = 163) (hw : WRo σ D out) : WRo τ D out := hw.mv (by rw [h.1]) (by rw [h.1]) (by rw [h.1]) (h.2 D (by omega))
/-- the attributes are written -/
theorem wr_atts {n : Nat} {g : Nat → Nat} {l : List Att} (hL : MLm L el at_) (hW : WLn L at_.length) (hnl : n ≤ at_.length) (ht : MTr L σ el at_) (ho : OR σ n g) (hg : ∀ i, i < n → g i < at_.length) (hl : (List.range n).map (fun i => at_.getD (g i) atD) = l) (hw : WRo σ D out) (hq : ∀ τ, WRx σ τ D → WRo τ D (out ++ (l.flatMap (fun t => (wAt t).flatMap u8b) ++ [62])) → Q τ) : WL (fun (K14 : Int → IS → Prop) (s16 : Int) (σ17 : IS) => if s16 < (n : Int) ∧ ((σ17.1 11 7) = 0) then w_Writer_put L 32 (fun σ18 => inL L 164 s16 ∧ inL L 161 (σ18.2 164 (Int.toNat s16)) ∧ w_Writer_putWord L (σ18.2 161 (Int.toNat (σ18.2 164 (Int.toNat s16)))) (fun σ20 => w_Writer_putText L 1085 (fun σ22 => inL L 164 s16 ∧ inL L 134 (σ22.2 164 (Int.toNat s16)) ∧ w_Writer_putValue L (σ22.2 134 (Int.toNat (σ22.2 164 (Int.toNat s16)))) (fun σ24 => w_Writer_put L 34 (fun σ26 => inR (s16 + 1) ∧ K14 (s16 + 1) σ26) σ24) σ22) σ20) σ18) σ17 else w_Writer_put L 62 (fun σ33 => Q σ33) σ17) 0 σ := by
  obtain ⟨hsl, ⟨l6, l7, l8⟩, ⟨m1, m2, m3, m4, m5⟩, ⟨n1, n2, n3, n4⟩, l160, hC⟩ := id hL
  have hD := hw.1
  have hll : l.length = n := by rw [← hl, List.length_map, List.length_range]
  have hlg : ∀ i, i < n → l.getD i atD = at_.getD (g i) atD := fun i hi => by
    rw [← hl, List.getD_eq_getElem?_getD, List.getElem?_map, List.getElem?_eq_getElem (by rw [List.length_range]; exact hi), List.getElem_range]
    rfl
  refine WL_ind (fun z τ => ∃ i : Nat, z = (i : Int) ∧ i ≤ n ∧ WRx σ τ D ∧ WRo τ D (out ++ (l.take i).flatMap (fun t => (wAt t).flatMap u8b))) (fun z _ => (n - z).toNat) ?_ 0 σ ⟨0, rfl, Nat.zero_le _, WRx.refl, by rw [List.take_zero, List.flatMap_nil, List.append_nil]; exact hw⟩
  rintro _ τ ⟨i, rfl, hi, h1, h2⟩ K hK
  by_cases c : i < n ∧ τ.1 11 7 = 0
  · rw [if_pos ⟨by omega, c.2⟩]
    have hgi := hg i c.1
    refine sp_Writer_put hW.1 h2 (fun τ1 x1 y1 => ?_)
    have t1 := h1.trans x1
    have e1 : τ1.2 164 i = (g i : Int) := by rw [t1.2 164 (by omega)]; exact ho i c.1
    have tr1 := t1.wp.tr hD ht
    obtain ⟨z1, z2⟩ := tr1.2.2.2 (g i) hgi
    rw [show Int.toNat (i : Int) = i from rfl, e1, show Int.toNat (g i : Int) = g i from rfl]
    refine ⟨⟨by omega, by have := hW.2; omega⟩, ⟨by omega, by omega⟩, ?_⟩
    obtain ⟨w, w1, w2, w3, -⟩ := z1
    rw [w1]
    refine sp_Writer_putWord hW.1 tr1.1 hsl w2 y1 (fun τ2 x2 y2 => sp_Writer_putText hW.1 y2 (fun τ3 x3 y3 => ?_))
    have t3 := (t1.trans x2).trans x3
    have e3 : τ3.2 164 i = (g i : Int) := by rw [t3.2 164 (by omega)]; exact ho i c.1
    have tr3 := t3.wp.tr hD ht
    obtain ⟨z3, z4⟩ := tr3.2.2.2 (g i) hgi
    rw [e3, show Int.toNat (g i : Int) = g i from rfl]
    refine ⟨⟨by omega, by have := hW.2; omega⟩, ⟨by omega, by omega⟩, ?_⟩
    obtain ⟨v, v1, v2, v3⟩ := z4
    rw [v1]
    refine sp_Writer_putValue hW.1 tr3.1 hsl v2 y3 (fun τ4 x4 y4 => sp_Writer_put hW.1 y4 (fun τ5 x5 y5 => ⟨⟨by omega, by omega⟩, hK _ _ ⟨i + 1, rfl, by omega, (t3.trans x4).trans x5, ?_⟩ (by omega)⟩))
    rw [w3, v3] at y5
    rw [flat_tk (d := atD) (by omega), hlg i c.1, wAt_b]
    simp only [List.append_assoc] at y5 ⊢
    exact y5
  · rw [if_neg (fun z => c ⟨by omega, z.2⟩)]
    have h3 : WRo τ D (out ++ l.flatMap (fun t => (wAt t).flatMap u8b)) := by
      have e : l.flatMap (fun t => (wAt t).flatMap u8b) = (l.take i).flatMap (fun t => (wAt t).flatMap u8b) ++ (l.drop i).flatMap (fun t => (wAt t).flatMap u8b) := by rw [← List.flatMap_append, List.take_append_drop]
      rw [e, ← List.append_assoc]
      by_cases y : i < n
      · exact h2.more (fun z => c ⟨y, z⟩)
      · rw [List.drop_eq_nil_of_le (by omega), List.flatMap_nil, List.append_nil]
        exact h2
    refine sp_Writer_put hW.1 h3 (fun τ' x1 x2 => hq τ' (h1.trans x1) ?_)
    rw [← List.append_assoc]
    exact x2
set_option maxHeartbeats 1000000 in
theorem sp_Writer_putBegin (hW : WLn L at_.length) (hL : MLm L el at_) (ht : MTr L σ el at_) (hc : jch L σ) (he : e < el.length) (hDs : DST at_ (el.getD e elD)) (hE : MEp σ E0) (hz : ∀ w, jw σ ≤ w → w < L 155 → σ.2 158 w = 0) (hEe : ent2 E0 (ats at_ (el.getD e elD)) = E) (hKD : KD E (ats at_ (el.getD e elD))) (hw : WRo σ D out)
    (hq : ∀ τ, WPx σ τ D → MEp τ E → OUT τ at_ (el.getD e elD) E0 → (∀ w, jw σ ≤ w → w < L 155 → τ.2 158 w = 0) → (∀ a, ¬ ((el.getD e elD).2.2.1 ≤ a ∧ a < (el.getD e elD).2.2.1 + (el.getD e elD).2.2.2.1) → τ.2 159 a = σ.2 159 a) → WRo τ D (out ++ (wTg E0 E (el.getD e elD).1 (ats at_ (el.getD e elD))).flatMap u8b) → τ.1 11 8 = (e : Int) → τ.1 11 9 = 1 → Q τ) : w_Writer_putBegin L (e : Int) Q σ := by
  obtain ⟨hsl, ⟨l6, l7, l8⟩, ⟨m1, m2, m3, m4, m5⟩, ⟨n1, n2, n3, n4⟩, l160, hC⟩ := id hL
  have hD := hw.1
  have hCe := hC (el.getD e elD) (by rw [List.getD_eq_getElem?_getD, List.getElem?_eq_getElem he]; exact List.getElem_mem he)
  unfold w_Writer_putBegin
  refine sp_Meanings_enter hL ht he hDs hE hz (fun σ1 r1 r2 r3 r4 r5 => ?_)
  rw [hEe] at r2
  generalize hσ2 : pf (pf σ1 11 8 (e : Int)) 11 9 1 = σ2
  have f2 : ∀ o k, ¬ (o = 11 ∧ (k = 8 ∨ k = 9)) → σ2.1 o k = σ1.1 o k := fun o k a => by rw [← hσ2, pf_1, if_neg (by omega), pf_1, if_neg (by omega)]
  have g2 : σ2.2 = σ1.2 := by rw [← hσ2]; rfl
  have wa2 : WA σ1 σ2 D e := ⟨⟨fun o k a => f2 o k (by omega), fun r _ _ _ _ => by rw [g2]⟩, ⟨by rw [g2], by rw [g2]⟩, by rw [← hσ2, pf_nk (by decide), pf_eq], by rw [← hσ2, pf_eq]⟩
  have w1 : WRo σ1 D out := hw.mv (r1.1 11 5) (r1.1 11 6) (r1.1 11 7) (r1.2 D (by omega) (by omega))
  have w2 : WRo σ2 D out := w1.mv (f2 11 5 (by omega)) (f2 11 6 (by omega)) (f2 11 7 (by omega)) (by rw [g2])
  have tr1 := r1.tr ht
  have hch1 : jch L σ1 := r1.wp.ch hD hc
  refine sp_Writer_put hW.1 w2 (fun σ3 x3 y3 => ?_)
  have wa3 := wa2.wr hD x3
  have tr3 := wa3.1.tr hD tr1
  obtain ⟨⟨w, k1, k2, k3, -⟩, k4, k5, k6⟩ := tr3.2.2.1 e he
  rw [show Int.toNat (e : Int) = e from rfl, k1]
  refine ⟨⟨by omega, by omega⟩, sp_Writer_putWord hW.1 tr3.1 hsl k2 y3 (fun σ5 x5 y5 => ?_)⟩
  rw [k3] at y5
  have wa5 := wa3.wr hD x5
  have tr5 := wa5.1.tr hD tr1
  obtain ⟨-, -, k7, k8⟩ := tr5.2.2.1 e he
  rw [k7]
  refine ⟨⟨by omega, by omega⟩, ?_⟩
  generalize hx : el.getD e elD = x at *
  refine WL_ind (fun (s : Int × Int) τ => ∃ i : Nat, s = (((chI E0 at_ x.2.2.1 i).length : Int), ((x.2.2.1 + i : Nat) : Int)) ∧ i ≤ x.2.2.2.1 ∧ WA σ1 τ D e ∧ OX σ5 τ ∧ OR τ (chI E0 at_ x.2.2.1 i).length (fun j => (chI E0 at_ x.2.2.1 i).getD j 0)) (fun s _ => ((x.2.2.1 + x.2.2.2.1 : Nat) - s.2).toNat) ?_ _ σ5 ⟨0, rfl, Nat.zero_le _, wa5, OX.refl, fun j hj => absurd hj (Nat.not_lt_zero _)⟩
  rintro _ τ ⟨i, rfl, hi, q1, q2, q3⟩ K hK
  dsimp only at hK ⊢
  have trt := q1.1.tr hD tr1
  obtain ⟨-, -, j7, j8⟩ := trt.2.2.1 e he
  rw [hx] at j7 j8
  rw [j7, j8]
  obtain ⟨ci1, ci2, ci3⟩ := chI_in (E0 := E0) (at_ := at_) (f := x.2.2.1) i
  refine ⟨⟨by omega, by omega⟩, ⟨by omega, by omega⟩, ⟨by omega, by omega⟩, ?_⟩
  by_cases c : i < x.2.2.2.1
  · rw [if_pos (by omega)]
    have ha : x.2.2.1 + i < at_.length := by omega
    obtain ⟨y161, y134⟩ := trt.2.2.2 _ ha
    have hl164 := hW.2
    have add : idl E0 (at_.getD (x.2.2.1 + i) atD) = false → inL L 164 ((chI E0 at_ x.2.2.1 i).length : Int) ∧ inR (((chI E0 at_ x.2.2.1 i).length : Int) + 1) ∧ inR (((x.2.2.1 + i : Nat) : Int) + 1) ∧ K (((chI E0 at_ x.2.2.1 i).length : Int) + 1, ((x.2.2.1 + i : Nat) : Int) + 1) (pr τ 164 (Int.toNat ((chI E0 at_ x.2.2.1 i).length : Int)) ((x.2.2.1 + i : Nat) : Int)) := fun hid => by
      have es : chI E0 at_ x.2.2.1 (i + 1) = chI E0 at_ x.2.2.1 i ++ [x.2.2.1 + i] := by rw [chI_s, hid, if_neg (by decide)]
      have ox : OX τ (pr τ 164 (chI E0 at_ x.2.2.1 i).length ((x.2.2.1 + i : Nat) : Int)) := ⟨rfl, fun r hr => by funext q; rw [pr_2, if_neg (fun z => hr z.1)]⟩
      rw [show Int.toNat ((chI E0 at_ x.2.2.1 i).length : Int) = (chI E0 at_ x.2.2.1 i).length from rfl]
      refine ⟨⟨by omega, by omega⟩, ⟨by omega, by omega⟩, ⟨by omega, by omega⟩, hK _ _ ⟨i + 1, ?_, by omega, q1.ox ox, q2.trans ox, fun j hj => ?_⟩ (by dsimp only; omega)⟩
      · rw [es, List.length_append, List.length_singleton]
        rfl
      · rw [es, List.length_append, List.length_singleton] at hj
        rw [pr_2, es]
        dsimp only
        by_cases z : j = (chI E0 at_ x.2.2.1 i).length
        · rw [if_pos ⟨rfl, z⟩, z, List.getD_eq_getElem?_getD, List.getElem?_append_right (Nat.le_refl _), Nat.sub_self]
          rfl
        · rw [if_neg (fun y => z y.2), q3 j (by omega)]
          dsimp only
          rw [List.getD_eq_getElem?_getD, List.getD_eq_getElem?_getD, List.getElem?_append_left (by omega)]
    refine sp_Meanings_declares trt.1 hsl ⟨l6, l7⟩ trt.2.1 (by omega) y161 (fun hd => ?_) (fun v p hd hv => ?_)
    · refine WJ_dir (WJ_dir ?_)
      rw [if_pos rfl]
      have := add (by unfold idl; rw [hd])
      exact ⟨this.1, this.2.1, this.2.2⟩
    · have hr := hv.rng trt.1
      refine WJ_dir (WJ_dir ?_)
      rw [if_neg (by omega)]
      have ou := (q1.1.ou hD q1.2.1.2 r3) i c p hd
      refine sp_Meanings_isIdle trt.1 ⟨by omega, by omega⟩ y134 ou ?_
      have hid : idl E0 (at_.getD (x.2.2.1 + i) atD) = decide ((at_.getD (x.2.2.1 + i) atD).2.1 = E0 p) := by unfold idl; rw [hd]
      by_cases y : (at_.getD (x.2.2.1 + i) atD).2.1 = E0 p
      · rw [decide_eq_true y, show b1 true = 1 from rfl, if_neg (by decide)]
        have es : chI E0 at_ x.2.2.1 (i + 1) = chI E0 at_ x.2.2.1 i := by rw [chI_s, hid, decide_eq_true y, if_pos rfl, List.append_nil]
        refine ⟨⟨by omega, by omega⟩, hK _ _ ⟨i + 1, by rw [es]; rfl, by omega, q1, q2, by rw [es]; exact q3⟩ (by dsimp only; omega)⟩
      · rw [decide_eq_false y] at hid ⊢
        rw [show b1 false = 0 from rfl, if_pos rfl]
        have := add hid
        exact ⟨this.1, this.2.1, this.2.2⟩
  · rw [if_neg (by omega)]
    have ei : i = x.2.2.2.1 := by omega
    rw [ei] at q3 ci1 ci2 ci3 ⊢
    generalize hn : (chI E0 at_ x.2.2.1 x.2.2.2.1).length = n at *
    have hgm : ∀ j, j < n → (chI E0 at_ x.2.2.1 x.2.2.2.1).getD j 0 < at_.length := fun j hj => by
      have hm : (chI E0 at_ x.2.2.1 x.2.2.2.1).getD j 0 ∈ chI E0 at_ x.2.2.1 x.2.2.2.1 := by
        rw [List.getD_eq_getElem?_getD, List.getElem?_eq_getElem (by omega)]
        exact List.getElem_mem _
      have := ci2 _ hm
      omega
    have hl164 := hW.2
    have hOB : OB L τ at_.length (fun v => wky E (at_.getD v atD).1) := fun τ' hox a b ha hb Q' hq' => by
      have wa' := q1.ox hox
      have tr' := wa'.1.tr hD tr1
      exact sp_Writer_isBefore tr'.1 hsl (wa'.1.ch hD hch1) ⟨l6, l7, l8⟩ tr'.2.1 (wa'.1.mep hD wa'.2.1.1 r2) (by omega) (by omega) (tr'.2.2.2 a ha).1 (tr'.2.2.2 b hb).1 hq'
    refine sp_Writer_sort (by omega) (by omega) hOB q3 hgm (fun τ2 g' z1 z2 z3 z4 => ?_)
    have hwl := wat_eq (E0 := E0) (E := E) (at_ := at_) (x := x) hn.symm (fun _ _ => rfl) z3 z4 hKD
    have wa6 := q1.ox z1
    have hg' : ∀ j, j < n → g' j < at_.length := fun j hj => by
      obtain ⟨q, qa, qb⟩ := z3.1 j hj
      rw [qb]
      exact hgm q qa
    refine wr_atts hL hW (by omega) (wa6.1.tr hD tr1) z2 hg' hwl ((q2.trans z1).wro hD y5) (fun τ3 u1 u2 => ?_)
    have wa7 := wa6.wr hD u1
    refine hq τ3 (r1.wp.trans wa7.1) (wa7.1.mep hD wa7.2.1.1 r2) (wa7.1.ou hD wa7.2.1.2 r3) (fun w h1 h2 => by rw [wa7.2.1.1]; exact r4 w h1 h2) (fun a ha => by rw [wa7.2.1.2]; exact r5 a ha) ?_ wa7.2.2.1 wa7.2.2.2
    rw [wTg_b]
    simp only [List.append_assoc] at u2 ⊢
    exact u2
end Wbg
