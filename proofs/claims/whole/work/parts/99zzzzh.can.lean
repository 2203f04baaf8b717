/-! ===== the class: canonical ===== -/
/-- what canonical answers, and what is written then -/
noncomputable def anW (d : DOC) : Int × Option (List Int) := match d with
  | .inl _ => (-1, none)
  | .inr a => @ite _ (∃ k, k < 6 ∧ 0 < cnS a k) (Classical.propDecidable _) (-2, none) (if 0 < aN a 1 ∨ rlv (dvA (aL a) (aB a) (aL a).length) = true then (-3, none) else if ((cnW a).flatMap u8b).length ≤ 262144 then ((((cnW a).flatMap u8b).length : Int), some ((cnW a).flatMap u8b)) else (-4, none))
section Can
variable {L : Nat → Nat} {rm nd S : Nat} {σ τ : IS} {d : DOC} {P : List Int} {Q : Int → IS → Prop} {a : AS}
theorem sp_Meanings_sum {c : Nat → Nat} (hL : L 160 = 6) (hc : ∀ k, k < 6 → σ.2 160 k = (c k : Int)) (hq : ∀ v : Int, (0 < v ↔ ∃ k, k < 6 ∧ 0 < c k) → Q v σ) : w_Meanings_sum L Q σ := by
  unfold w_Meanings_sum
  refine WL_ind (fun (z : Int × Int) τ => τ = σ ∧ ∃ i : Nat, z.2 = (i : Int) ∧ i ≤ 6 ∧ 0 ≤ z.1 ∧ z.1 ≤ (i : Int) ∧ (0 < z.1 ↔ ∃ k, k < i ∧ 0 < c k)) (fun z _ => (6 - z.2).toNat) ?_ _ σ ⟨rfl, 0, rfl, by omega, by dsimp only; omega, by dsimp only; omega, ⟨fun z => by dsimp only at z; omega, fun ⟨k, z, _⟩ => absurd z (Nat.not_lt_zero _)⟩⟩
  rintro ⟨v, z⟩ τ ⟨rfl, i, hz, h2, h3, h4, h5⟩ K hK
  dsimp only at hz h3 h4 h5 hK ⊢
  subst hz
  by_cases y : i < 6
  · rw [if_pos (by omega), show Int.toNat (i : Int) = i from rfl, hc i y]
    by_cases w : 0 < c i
    · rw [if_pos (by omega)]
      exact ⟨⟨by omega, by omega⟩, ⟨by omega, by omega⟩, ⟨by omega, by omega⟩, hK _ _ ⟨rfl, i + 1, by dsimp only; omega, by omega, by dsimp only; omega, by dsimp only; omega, ⟨fun _ => ⟨i, by omega, w⟩, fun _ => by dsimp only; omega⟩⟩ (by dsimp only; omega)⟩
    · rw [if_neg (by omega), Int.add_zero]
      refine ⟨⟨by omega, by omega⟩, ⟨by omega, by omega⟩, ⟨by omega, by omega⟩, hK _ _ ⟨rfl, i + 1, by dsimp only; omega, by omega, by dsimp only; omega, by dsimp only; omega, ?_⟩ (by dsimp only; omega)⟩
      dsimp only
      rw [h5]
      constructor
      · rintro ⟨k, k1, k2⟩; exact ⟨k, by omega, k2⟩
      · rintro ⟨k, k1, k2⟩
        by_cases e : k = i
        · rw [e] at k2; exact absurd k2 w
        · exact ⟨k, by omega, k2⟩
  · rw [if_neg (by omega)]
    refine hq v ?_
    rw [h5, show i = 6 by omega]
theorem WQx.sgr (h : WQx σ τ) (hS : SI L σ) : SI L τ ∧ sgr σ τ := SI_of hS (σ' := τ) (h.1 1 14 (by decide)) (by rw [h.1 1 3 (by decide)]; have := hS.1; omega) (fun r y1 y2 => h.2 r (by omega)) (fun i _ => by rw [h.2 101 (by omega)])
theorem WQx.ji (h : WQx σ τ) (hz : ∀ w, jw σ ≤ w → w < L 155 → τ.2 158 w = 0) (hJ : JI L rm nd S σ) : JI L rm nd S τ := by
  obtain ⟨zS, zch, zw, zc, zst, zr, zz, z2⟩ := hJ
  have g := h.sgr zS
  have jwE : jw τ = jw σ := by unfold jw; rw [h.1 1 14 (by decide)]
  refine ⟨g.1, fun i hi => by rw [h.2 101 (by omega)]; exact zch i hi, ⟨by rw [jwE]; exact zw.1, fun i hi => by rw [g.2.2.2.1 i (by omega)]; exact zw.2 i hi⟩, ?_, ?_, fun j h1 h2 => ?_, fun r hr w hw1 hw2 => ?_, ?_⟩
  · rw [h.1 1 12 (by decide), h.1 1 0 (by decide), h.1 6 0 (by decide)]; exact zc
  · rw [h.1 1 16 (by decide), h.2 155 (by omega)]; exact zst
  · rw [h.1 2 j (by decide)]; exact zr j h1 h2
  · by_cases y : r = 158
    · rw [y]; exact hz w (by rw [← jwE]; exact hw1) hw2
    · rw [h.2 r (by omega)]
      exact zz r hr w (by rw [← jwE]; exact hw1) hw2
  · rw [h.1 1 2 (by decide), h.1 1 3 (by decide), h.2 102 (by omega), h.2 103 (by omega)]
    exact z2
theorem WQx.jnI (h : WQx σ τ) {x : Int} {s : Str} (hj : Jn σ x s) : Jn τ x s := by
  obtain ⟨w, a, b, c⟩ := hj
  refine ⟨w, a, ?_, ?_⟩
  · unfold jw at b ⊢; rw [h.1 1 14 (by decide)]; exact b
  · unfold wst wfr wsz at c ⊢
    rw [h.2 101 (by omega), h.2 102 (by omega), h.2 103 (by omega)]
    exact c
theorem WQx.tr {el : List Elm} {at_ : List Att} (h : WQx σ τ) (ht : MTr L σ el at_) : MTr L τ el at_ := by
  obtain ⟨a, b, c, e⟩ := ht
  have wE : ∀ w, wst τ w = wst σ w := fun w => by unfold wst wfr wsz; rw [h.2 101 (by omega), h.2 102 (by omega), h.2 103 (by omega)]
  have jE : jw τ = jw σ := by unfold jw; rw [h.1 1 14 (by decide)]
  have sp : ∀ {x : Int} {s : Str}, SPo σ x s → SPo τ x s := fun {x s} hs => by
    obtain ⟨w, k1, k2, k3, k4⟩ := hs
    refine ⟨w, k1, by rw [jE]; exact k2, by rw [wE]; exact k3, ?_⟩
    unfold SPW at k4 ⊢
    rw [wE, h.2 156 (by omega), h.2 157 (by omega)]
    refine ⟨?_, h.jnI k4.2⟩
    rcases k4.1 with y | ⟨p, y1, y2⟩
    · exact Or.inl y
    · exact Or.inr ⟨p, y1, h.jnI y2⟩
  refine ⟨(h.sgr a).1, ?_, fun i hi => ?_, fun i hi => ?_⟩
  · unfold CWd at b ⊢
    rw [jE, wE, wE, wE, wE, wE]
    exact b
  · rw [h.2 146 (by omega), h.2 129 (by omega), h.2 130 (by omega), h.2 131 (by omega)]
    exact ⟨sp (c i hi).1, (c i hi).2⟩
  · rw [h.2 161 (by omega), h.2 134 (by omega)]
    exact ⟨sp (e i hi).1, h.jnI (e i hi).2⟩
theorem WQx.jg (h : WQx σ τ) (hS : SI L σ) (hE : MEp τ env0) (hG : JG L σ a) : JG L τ a := by
  obtain ⟨g1, g2, g3, g4, g5, g6, -, g8, g9, g10⟩ := hG
  have sg := (h.sgr hS).2
  refine ⟨?_, g2.dep sg ⟨fun o k q => h.1 o k (by simp [fEl] at q; omega), fun r q => h.2 r (by simp [rEl] at q; omega)⟩, g3.dep sg ⟨fun o k q => h.1 o k (by simp [fAt] at q; omega), fun r q => h.2 r (by simp [rAt] at q; omega)⟩, g4.dep sg ⟨fun o k q => h.1 o k (by simp [fSt] at q; omega), fun r q => h.2 r (by simp [rSt] at q; omega)⟩, g5.dep ⟨fun o k q => h.1 o k (by simp [fNu] at q; omega), fun r q => by cases q⟩, h.tr g6, hE, fun k => by rw [h.2 149 (by omega)]; exact g8 k, fun k => by rw [h.2 160 (by omega)]; exact g9 k, by rw [h.1 10 7 (by decide)]; exact g10⟩
  rw [h.1 0 12 (by decide), h.1 0 13 (by decide), h.1 0 14 (by decide)]
  exact g1
/-- what is not violated: no two attributes have one key -/
theorem KD_all (hN : GN a) (h0 : ¬ ∃ k, k < 6 ∧ 0 < cnS a k) : ∀ m, m < (aL a).length → KD (EN (aL a) (aB a) (m : Int)) (ats (aB a) ((aL a).getD m elD)) := by
  intro m hm
  have hz : ∀ k, k < 6 → spE (aL a) (aB a) k m = 0 := fun k hk => by
    have h1 : cnS a k = 0 := by
      refine Classical.byContradiction (fun z => h0 ⟨k, hk, by omega⟩)
    unfold cnS at h1
    exact sn_zero (n := (aL a).length) (by omega) m hm
  have hx : (aL a).getD m elD ∈ aL a := by rw [List.getD_eq_getElem?_getD, List.getElem?_eq_getElem hm]; exact List.getElem_mem hm
  have z0 := hz 0 (by omega)
  have z1 := hz 1 (by omega)
  have z2 := hz 2 (by omega)
  unfold spE snE at z0 z1 z2
  rw [if_pos rfl] at z0
  rw [if_neg (by decide), if_pos rfl] at z1
  rw [if_neg (by decide), if_neg (by decide), if_pos rfl] at z2
  have hnd := (hN.2 (e5 ((aL a).getD m elD)) (List.mem_map.mpr ⟨_, hx, rfl⟩)).2
  exact KD_of (fun i hi => sn_zero (f := fun i => nm0 ((aB a).getD (((aL a).getD m elD).2.2.1 + i) atD).1) (n := ((aL a).getD m elD).2.2.2.1) (by omega) i hi) (fun i hi => sn_zero (f := fun i => nm1 (EN (aL a) (aB a) (m : Int)) ((aB a).getD (((aL a).getD m elD).2.2.1 + i) atD).1) (n := ((aL a).getD m elD).2.2.2.1) (by omega) i hi) (fun i hi => sn_zero (n := ((aL a).getD m elD).2.2.2.1) (by omega) i hi) hnd
set_option maxHeartbeats 1000000 in
theorem sp_J_canonical (hln : JLn L rm nd) (hlm : JLm L) (hlv : JLv L rm nd) (hls : JLs L nd) (hwl : WLn L nd) (hJ : JI L rm nd S σ) (h : JDc L rm nd σ d) (hP : PRd σ P) (hq : ∀ τ, WQx σ τ → JI L rm nd S τ → JDc L rm nd τ d → PRd τ ((anW d).2.getD P) → Q (anW d).1 τ) : w_J_canonical L Q σ := by
  have wrefl : WQx σ σ := ⟨fun _ _ _ => rfl, fun _ _ => rfl⟩
  unfold w_J_canonical
  cases d with
  | inl fp =>
    rw [h.1.1, if_pos rfl]
    exact hq σ wrefl hJ h hP
  | inr a =>
    obtain ⟨hG, gG, gF, gV, gS, gD, gW, gN⟩ := id h
    obtain ⟨g1, g2, g3, g4, g5, g6, g7, g8, g9, g10⟩ := id hG
    rw [g1.1, if_neg (by decide)]
    refine sp_Meanings_sum hls.2.2 (fun k _ => g9 k) (fun v hv => ?_)
    by_cases c1 : ∃ k, k < 6 ∧ 0 < cnS a k
    · have e : anW (.inr a) = (-2, none) := by unfold anW; dsimp only; rw [if_pos c1]
      rw [e] at hq
      rw [if_pos (hv.mpr c1)]
      exact hq σ wrefl hJ h hP
    · rw [if_neg (fun z => c1 (hv.mp z)), g5.2.1, g10]
      by_cases c2 : 0 < aN a 1 ∨ rlv (dvA (aL a) (aB a) (aL a).length) = true
      · have e : anW (.inr a) = (-3, none) := by unfold anW; dsimp only; rw [if_neg c1, if_pos c2]
        rw [e] at hq
        rw [if_neg (fun z => by
          rcases c2 with y | y
          · omega
          · rw [y] at z; exact absurd z.2 (by decide))]
        exact hq σ wrefl hJ h hP
      · rw [if_pos ⟨by omega, by
          cases hr : rlv (dvA (aL a) (aB a) (aL a).length) with
          | false => rfl
          | true => exact absurd (Or.inr hr) c2⟩]
        obtain ⟨fO, fL, f4⟩ := fin_of gF gG
        have hsl : SL L := hln.1
        have l136 : L 136 = rm := hln.2.2.2.2.2.2.2.2.2.2.2
        obtain ⟨-, ⟨hr1, hr2, hr3, hr4, hr5⟩, -, h102, -⟩ := id hln
        obtain ⟨⟨n129, n130, n131, n132, n133, n146, n150, n151, n152⟩, ⟨n134, n135, n161⟩, -, -, ⟨hLel, hLat, hLed, hLad⟩, -⟩ := val_nums hln hlv gG
        have gnum : evl (aS a) ≤ rm ∧ (aB a).length ≤ nd := by
          obtain ⟨⟨-, -, ⟨q1, q2, -, -⟩, ⟨-, -, -, q3, -, q5, -⟩, ⟨q7, q8⟩, -⟩, -⟩ := id gG
          omega
        have hML : MLm L (aL a) (aB a) := ⟨hsl, ⟨hlm.1, hls.1, hlm.2⟩, ⟨n146, n129, n130, n131, by omega⟩, ⟨n161, n134, by rw [hls.2.1]; exact gnum.2, by omega⟩, hls.2.2, fun x hx => (gG.2.2.1 x hx).1⟩
        have hstR : stR ((aL a).map (fun x => x.2.1)) (aS a) ([], 0) = some ([], (aL a).length) := by
          have := gW.2.1
          rw [fO] at this
          exact this
        refine sp_Writer_write (P := P) ⟨hwl.1, Nat.le_trans gnum.2 hwl.2⟩ hML ⟨by rw [l136]; exact gnum.1, by omega⟩ hstR (fun i hi => ?_) gS.1 (fun x hx => gN.dst hx) (KD_all gN c1) g6 hJ.2.1 g7 (fun w h1 h2 => hJ.2.2.2.2.2.2.1 158 (by omega) w h1 h2) g2.1 g4 hP (fun τ w1 w2 w3 => ?_)
        · exact gV.2 i (e5 ((aL a).getD i elD)) (by rw [List.getElem?_map, List.getElem?_eq_getElem hi, List.getD_eq_getElem?_getD, List.getElem?_eq_getElem hi]; rfl)
        · have hd : JDc L rm nd τ (.inr a) := ⟨w1.jg hJ.1 w2 hG, gG, gF, gV, gS, gD, gW, gN⟩
          have hji := w1.ji w3 hJ
          refine ⟨fun y1 y2 => ?_, fun y1 y2 => ?_⟩
          · have e : anW (.inr a) = ((((cnW a).flatMap u8b).length : Int), some ((cnW a).flatMap u8b)) := by
              unfold anW; dsimp only; rw [if_neg c1, if_neg c2]; exact if_pos y1
            rw [e] at hq
            have hs : τ.1 11 4 = (((cnW a).flatMap u8b).length : Int) := by
              obtain ⟨D, -, -, -, q4, -⟩ := y2
              exact q4
            rw [if_neg (by decide), hs]
            exact hq τ w1 hji hd y2
          · have e : anW (.inr a) = (-4, none) := by
              unfold anW; dsimp only; rw [if_neg c1, if_neg c2]; exact if_neg (Nat.not_le_of_gt y1)
            rw [e] at hq
            rw [if_pos rfl]
            exact hq τ w1 hji hd y2
end Can
