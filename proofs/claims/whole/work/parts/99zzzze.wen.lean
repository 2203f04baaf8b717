/-! ===== the class writes ends and instructions ===== -/
section Wen
variable {L : Nat → Nat} {σ τ υ : IS} {D e : Nat} {el : List Elm} {at_ : List Att} {E E0 : Str → Str} {out : List Int} {Q : IS → Prop}
theorem sp_Writer_putEnd (hW : WLn L at_.length) (hL : MLm L el at_) (ht : MTr L σ el at_) (he : e < el.length) (h8 : σ.1 11 8 = (e : Int)) (hE : MEp σ (ent2 E0 (ats at_ (el.getD e elD)))) (hO : OUT σ at_ (el.getD e elD) E0) (hz : ∀ w, jw σ ≤ w → w < L 155 → σ.2 158 w = 0) (hw : WRo σ D out)
    (hq : ∀ τ, WPx σ τ D → MEp τ E0 → (∀ w, jw σ ≤ w → w < L 155 → τ.2 158 w = 0) → τ.2 159 = σ.2 159 → τ.1 11 8 = (el.getD e elD).2.1 → τ.1 11 9 = σ.1 11 9 → WRo τ D (out ++ (wEn (el.getD e elD).1).flatMap u8b) → Q τ) : w_Writer_putEnd L Q σ := by
  obtain ⟨hsl, ⟨l6, l7, l8⟩, ⟨m1, m2, m3, m4, m5⟩, ⟨n1, n2, n3, n4⟩, l160, hC⟩ := id hL
  have hD := hw.1
  unfold w_Writer_putEnd
  refine WJ_dir ?_
  rw [if_neg (by omega)]
  refine sp_Writer_putText hW.1 hw (fun τ1 x1 y1 => ?_)
  have tr1 := x1.wp.tr hD ht
  obtain ⟨⟨w, k1, k2, k3, -⟩, -⟩ := tr1.2.2.1 e he
  rw [x1.1 11 8 (by omega), h8, show Int.toNat (e : Int) = e from rfl, k1]
  refine ⟨⟨by omega, by omega⟩, sp_Writer_putWord hW.1 tr1.1 hsl k2 y1 (fun τ2 x2 y2 => sp_Writer_put hW.1 y2 (fun τ3 x3 y3 => ?_))⟩
  have x := (x1.trans x2).trans x3
  have tr3 := x.wp.tr hD ht
  have e8 : τ3.1 11 8 = (e : Int) := by rw [x.1 11 8 (by omega)]; exact h8
  rw [e8]
  refine sp_Meanings_leave (E := E0) hL tr3 he (x.wp.mep hD (x.2 158 (by omega)) hE) (x.wp.ou hD (x.2 159 (by omega)) hO) (fun w h1 h2 => by rw [x.2 158 (by omega)]; exact hz w (by rw [← x.wp.jwE]; exact h1) h2) (fun τ4 r1 r2 r3 r4 => ?_)
  rw [r1.1, e8, show Int.toNat (e : Int) = e from rfl, r1.2 129 (by decide) (by decide), (tr3.2.2.1 e he).2.1]
  refine ⟨⟨by omega, by omega⟩, ?_⟩
  generalize hτ5 : pf τ4 11 8 (el.getD e elD).2.1 = τ5
  have f5 : ∀ o k, ¬ (o = 11 ∧ k = 8) → τ5.1 o k = τ4.1 o k := fun o k a => by rw [← hτ5, pf_1, if_neg (by omega)]
  have g5 : τ5.2 = τ4.2 := by rw [← hτ5]; rfl
  have p5 : WPx τ4 τ5 D := ⟨fun o k a => f5 o k (by omega), fun r _ _ _ _ => by rw [g5]⟩
  have w4 : WRo τ4 D ((((out ++ ti 1086) ++ (wst τ1 w).flatMap u8b)) ++ [62]) := y3.mv (r1.1 11 5) (r1.1 11 6) (r1.1 11 7) (r1.2 D (by omega) (by omega))
  refine hq τ5 ((x.wp.trans r1.wp).trans p5) (p5.mep hD (by rw [g5]) r2) (fun w' h1 h2 => by rw [g5]; exact r3 w' (by rw [x.wp.jwE]; exact h1) h2) (by rw [g5, r4, x.2 159 (by omega)]) (by rw [← hτ5, pf_eq]) (by rw [f5 11 9 (by omega), r1.1, x.1 11 9 (by omega)]) ?_
  have w5 := w4.mv (τ := τ5) (f5 11 5 (by omega)) (f5 11 6 (by omega)) (f5 11 7 (by omega)) (by rw [g5])
  rw [wEn_b]
  rw [k3] at w5
  simp only [List.append_assoc] at w5 ⊢
  exact w5
/-- a letter of an instruction -/
def pic (c : Int) : List Int := if c = 13 then ti 1088 else u8b c
theorem wPi_b {op bh : Bool} {t s : Str} : (wPi op bh t s).flatMap u8b = (if op = false ∧ bh = true then [10] else []) ++ (ti 1087 ++ (t.flatMap u8b ++ ((if s = [] then [] else [32]) ++ (s.flatMap pic ++ (ti 1089 ++ (if bh = false then [10] else [])))))) := by
  have e1 : (if op = false ∧ bh = true then [10] else ([] : Str)).flatMap u8b = if op = false ∧ bh = true then [10] else [] := by
    by_cases c : op = false ∧ bh = true
    · rw [if_pos c]; rfl
    · rw [if_neg c]; rfl
  have e2 : (if s = [] then [] else ([32] : Str)).flatMap u8b = if s = [] then [] else [32] := by
    by_cases c : s = []
    · rw [if_pos c]; rfl
    · rw [if_neg c]; rfl
  have e3 : (if bh = false then [10] else ([] : Str)).flatMap u8b = if bh = false then [10] else [] := by
    by_cases c : bh = false
    · rw [if_pos c]; rfl
    · rw [if_neg c]; rfl
  have e4 : (s.flatMap (fun c => if c = 13 then ti 1088 else [c])).flatMap u8b = s.flatMap pic := by
    rw [List.flatMap_assoc]
    congr 1
    funext c
    unfold pic
    by_cases y : c = 13
    · rw [if_pos y, if_pos y, ti_u8 _ (by decide)]
    · rw [if_neg y, if_neg y, List.flatMap_singleton]
  unfold wPi
  rw [List.flatMap_append, List.flatMap_append, List.flatMap_append, List.flatMap_append, List.flatMap_append, List.flatMap_append, e1, e2, e3, e4, ti_u8 _ (by decide), ti_u8 _ (by decide)]
theorem Jt_at {x : Int} {t : Str} (h : Jt σ x t) : ∃ p : Nat, x = (p : Int) ∧ p + t.length ≤ jtp σ ∧ ∀ j, j < t.length → σ.2 101 (p + j) = t.getD j 0 := by
  obtain ⟨p, h1, h2, h3⟩ := h
  refine ⟨p, h1, h2, fun j hj => ?_⟩
  conv => rhs; rw [← h3]
  rw [List.getD_eq_getElem?_getD, sl_get hj]
  rfl
set_option maxHeartbeats 1000000 in
theorem sp_Writer_putInstruction {a : Nat} {op bh : Bool} {t s : Str} (hL2 : L 162 = 262144 ∧ L 163 = 262144) (hS : SI L σ) (hl : SL L) (ha : a + 4 ≤ L 136 ∧ a < 1000000) (h8 : σ.1 11 8 = -1 ↔ op = false) (h9 : σ.1 11 9 = 0 ↔ bh = false) (ht : Jt σ (σ.2 136 a) t) (htl : σ.2 136 (a + 1) = (t.length : Int)) (hs : Jt σ (σ.2 136 (a + 2)) s) (hsl : σ.2 136 (a + 3) = (s.length : Int)) (hw : WRo σ D out) (hq : ∀ τ, WRx σ τ D → WRo τ D (out ++ (wPi op bh t s).flatMap u8b) → Q τ) : w_Writer_putInstruction L (a : Int) Q σ := by
  have hD := hw.1
  have l9 : L 101 < 1000000 := hl.2.2.2.2.2.2.2
  have hjt := hS.jtp_le
  obtain ⟨p, p1, p2, p3⟩ := Jt_at ht
  obtain ⟨q, q1, q2, q3⟩ := Jt_at hs
  have c9 : ∀ b : Bool, (b = true ↔ ¬ b = false) := fun b => by cases b <;> decide
  unfold w_Writer_putInstruction
  refine WJ_of (fun _ τ => WRx σ τ D ∧ WRo τ D (out ++ (if op = false ∧ bh = true then [10] else []))) (fun J hJ => ?_) ?_
  · by_cases c : op = false ∧ bh = true
    · rw [if_pos ⟨h8.mpr c.1, fun z => by have := h9.mp z; rw [c.2] at this; cases this⟩]
      refine sp_Writer_put hL2 hw (fun τ x y => hJ _ _ ⟨x, ?_⟩)
      rw [if_pos c]; exact y
    · rw [if_neg (fun z => c ⟨h8.mp z.1, (c9 bh).mpr (fun y => z.2 (h9.mpr y))⟩)]
      refine hJ _ _ ⟨WRx.refl, ?_⟩
      rw [if_neg c, List.append_nil]; exact hw
  rintro _ τ ⟨x0, y0⟩
  generalize ho1 : out ++ (if op = false ∧ bh = true then [10] else []) = o1 at y0
  refine sp_Writer_putText hL2 y0 (fun τ1 x1 y1 => ?_)
  have t1 := x0.trans x1
  have e0 : ∀ τ', WRx σ τ' D → τ'.2 136 = σ.2 136 ∧ τ'.2 101 = σ.2 101 := fun τ' h => ⟨h.2 136 (by omega), h.2 101 (by omega)⟩
  rw [show Int.toNat (a : Int) = a from rfl, (e0 _ t1).1, p1, show (a : Int) + 1 = ((a + 1 : Nat) : Int) by omega, show (a : Int) + 2 = ((a + 2 : Nat) : Int) by omega, show (a : Int) + 3 = ((a + 3 : Nat) : Int) by omega]
  refine ⟨⟨by omega, by omega⟩, ?_⟩
  refine WL_ind (fun z τ => ∃ j : Nat, z = ((p + j : Nat) : Int) ∧ j ≤ t.length ∧ WRx σ τ D ∧ WRo τ D (o1 ++ (ti 1087 ++ (t.take j).flatMap u8b))) (fun z _ => ((p + t.length : Nat) - z).toNat) ?_ _ τ1 ⟨0, rfl, Nat.zero_le _, t1, by rw [List.take_zero, List.flatMap_nil, List.append_nil]; exact y1⟩
  rintro _ τ2 ⟨j, rfl, hj, x2, y2⟩ K hK
  rw [show Int.toNat ((a + 1 : Nat) : Int) = a + 1 from rfl, show Int.toNat ((a + 2 : Nat) : Int) = a + 2 from rfl, show Int.toNat ((a + 3 : Nat) : Int) = a + 3 from rfl, (e0 _ x2).1, p1, htl, q1, hsl]
  refine ⟨⟨by omega, by omega⟩, ⟨by omega, by omega⟩, ⟨by omega, by omega⟩, ⟨by omega, by omega⟩, ?_⟩
  by_cases c : j < t.length
  · rw [if_pos (by omega), show Int.toNat ((p + j : Nat) : Int) = p + j from rfl, (e0 _ x2).2, p3 j c]
    refine ⟨⟨by omega, by omega⟩, sp_Writer_putBytes hL2 y2 (fun τ3 x3 y3 => ⟨⟨by omega, by omega⟩, hK _ _ ⟨j + 1, by omega, by omega, x2.trans x3, ?_⟩ (by omega)⟩)⟩
    rw [flat_take c]
    simp only [List.append_assoc] at y3 ⊢
    exact y3
  · rw [if_neg (by omega)]
    have ej : j = t.length := by omega
    rw [ej, List.take_length] at y2
    refine ⟨⟨by omega, by omega⟩, ⟨by omega, by omega⟩, ⟨by omega, by omega⟩, ⟨by omega, by omega⟩, ⟨by omega, by omega⟩, ?_⟩
    refine WJ_of (fun _ τ => WRx σ τ D ∧ WRo τ D (o1 ++ (ti 1087 ++ (t.flatMap u8b ++ (if s = [] then [] else [32]))))) (fun J hJ => ?_) ?_
    · by_cases c2 : s = []
      · rw [if_neg (by rw [c2]; simp)]
        refine hJ _ _ ⟨x2, ?_⟩
        rw [if_pos c2, List.append_nil]; exact y2
      · have : 0 < s.length := by cases s; exact absurd rfl c2; simp
        rw [if_pos (by omega)]
        refine sp_Writer_put hL2 y2 (fun τ3 x3 y3 => hJ _ _ ⟨x2.trans x3, ?_⟩)
        rw [if_neg c2]
        simp only [List.append_assoc] at y3 ⊢
        exact y3
    rintro _ τ3 ⟨x3, y3⟩
    refine WL_ind (fun z τ => ∃ j : Nat, z = ((q + j : Nat) : Int) ∧ j ≤ s.length ∧ WRx σ τ D ∧ WRo τ D (o1 ++ (ti 1087 ++ (t.flatMap u8b ++ ((if s = [] then [] else [32]) ++ (s.take j).flatMap pic))))) (fun z _ => ((q + s.length : Nat) - z).toNat) ?_ _ τ3 ⟨0, rfl, Nat.zero_le _, x3, by rw [List.take_zero, List.flatMap_nil, List.append_nil]; exact y3⟩
    rintro _ τ4 ⟨j4, rfl, hj4, x4, y4⟩ K4 hK4
    by_cases c4 : j4 < s.length ∧ τ4.1 11 7 = 0
    · rw [if_pos ⟨by omega, c4.2⟩, show Int.toNat ((q + j4 : Nat) : Int) = q + j4 from rfl, (e0 _ x4).2, q3 j4 c4.1]
      refine ⟨⟨by omega, by omega⟩, WJ_dir ?_⟩
      by_cases c5 : s.getD j4 0 = 13
      · rw [if_pos c5]
        refine sp_Writer_putText hL2 y4 (fun τ5 x5 y5 => ⟨⟨by omega, by omega⟩, hK4 _ _ ⟨j4 + 1, by omega, by omega, x4.trans x5, ?_⟩ (by omega)⟩)
        rw [flat_take c4.1, show pic (s.getD j4 0) = ti 1088 by unfold pic; rw [if_pos c5]]
        simp only [List.append_assoc] at y5 ⊢
        exact y5
      · rw [if_neg c5]
        refine ⟨⟨by omega, by omega⟩, sp_Writer_putBytes hL2 y4 (fun τ5 x5 y5 => ⟨⟨by omega, by omega⟩, hK4 _ _ ⟨j4 + 1, by omega, by omega, x4.trans x5, ?_⟩ (by omega)⟩)⟩
        rw [flat_take c4.1, show pic (s.getD j4 0) = u8b (s.getD j4 0) by unfold pic; rw [if_neg c5]]
        simp only [List.append_assoc] at y5 ⊢
        exact y5
    · rw [if_neg (fun z => c4 ⟨by omega, z.2⟩)]
      have y6 : WRo τ4 D (o1 ++ (ti 1087 ++ (t.flatMap u8b ++ ((if s = [] then [] else [32]) ++ s.flatMap pic)))) := by
        by_cases y : j4 < s.length
        · have := y4.more (l := (s.drop j4).flatMap pic) (fun z => c4 ⟨y, z⟩)
          have e : s.flatMap pic = (s.take j4).flatMap pic ++ (s.drop j4).flatMap pic := flat_rest
          rw [e]
          simp only [List.append_assoc] at this ⊢
          exact this
        · rw [List.take_of_length_le (by omega)] at y4
          exact y4
      refine sp_Writer_putText hL2 y6 (fun τ5 x5 y5 => WJ_dir ?_)
      have x45 := x4.trans x5
      rw [x45.1 11 9 (by omega)]
      by_cases c6 : bh = false
      · rw [if_pos (h9.mpr c6)]
        refine sp_Writer_put hL2 y5 (fun τ6 x6 y7 => hq τ6 (x45.trans x6) ?_)
        rw [wPi_b, ← List.append_assoc, ho1, if_pos c6]
        simp only [List.append_assoc] at y7 ⊢
        exact y7
      · rw [if_neg (fun z => c6 (h9.mp z))]
        refine hq τ5 x45 ?_
        rw [wPi_b, ← List.append_assoc, ho1, if_neg c6, List.append_nil]
        simp only [List.append_assoc] at y5 ⊢
        exact y5
end Wen
