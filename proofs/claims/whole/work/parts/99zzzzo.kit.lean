/-! ===== items of the reference: comments, sections, runs ===== -/
section Kit
variable {L : Nat → Nat} {rm nd o : Nat} {σ τ : IS} {g g' : KG} {a a' : AS} {Q : IS → Prop} {R : Int → IS → Prop} {T : Nat → Int} {p e : Nat} {x : Int}
theorem kN2_mono {s : Nat × Bool} {v : Evt} : s.1 ≤ (kN2 s v).1 := by
  unfold kN2
  cases v with
  | inl c =>
    show s.1 ≤ (if 0 ≤ c then (if s.2 = true then s.1 else s.1 + 3, true) else (s.1 + 1, false)).1
    split
    · show s.1 ≤ if s.2 = true then s.1 else s.1 + 3
      split <;> omega
    · show s.1 ≤ s.1 + 1
      omega
  | inr q => show s.1 ≤ s.1 + 4; omega
theorem kN2_fold : ∀ (l : List Evt) (s : Nat × Bool), s.1 ≤ (l.foldl kN2 s).1
  | [], s => Nat.le_refl _
  | v :: l, s => Nat.le_trans kN2_mono (kN2_fold l (kN2 s v))
theorem kNs_mono {st st' : List Evt} : (kNs st).1 ≤ (kNs (st ++ st')).1 := by
  unfold kNs
  rw [List.foldl_append]
  exact kN2_fold _ _
/-- the first place where a word stands, or the end -/
theorem sp_sek {B : Int → IS → Prop} {s i : Nat} {l : List Int} (hK : KT L σ (p + e)) (hS : SHT T (σ.2 176) e p) (hs : ti s = l) (hi : i ≤ e) (hx : x = ((p + i : Nat) : Int)) (h : ∀ j, i ≤ j → j ≤ e → ((sek T e l i = some j ∧ j < e) ∨ (sek T e l i = none ∧ j = e)) → B ((p + j : Nat) : Int) σ) :
    WL (fun (K1 : Int → IS → Prop) (s3 : Int) (σ4 : IS) => WJ (fun (_ : Unit) (σ8 : IS) => B s3 σ8) (fun J5 => if s3 < (σ4.1 16 17) then w_KReader_says L s3 s (fun v22 σ21 => if v22 = 0 then inR (s3 + 1) ∧ K1 (s3 + 1) σ21 else J5 () σ21) σ4 else J5 () σ4)) x σ := by
  have h17 := hK.1
  have h26 := hK.2.2
  refine WL_ind (fun k ρ => ρ = σ ∧ ∃ j : Nat, k = ((p + j : Nat) : Int) ∧ i ≤ j ∧ j ≤ e ∧ sek T e l i = sek T e l j) (fun k _ => ((p + e : Nat) - k).toNat) ?_ x σ ⟨rfl, i, hx, Nat.le_refl _, hi, rfl⟩
  rintro k ρ ⟨rfl, j, rfl, j1, j2, j3⟩ K hI
  refine WJ_dir ?_
  by_cases c : j < e
  · rw [if_pos (by omega)]
    refine kr_says hK hS j rfl j2 hs ?_
    cases hm : mt T e j l with
    | true =>
      rw [if_neg (by decide)]
      exact h j j1 j2 (Or.inl ⟨by rw [j3]; exact sek_hit c hm, c⟩)
    | false =>
      rw [if_pos (by decide)]
      exact ⟨⟨by omega, by omega⟩, hI _ _ ⟨rfl, j + 1, by omega, by omega, by omega, by rw [j3]; exact sek_go c hm⟩ (by omega)⟩
  · rw [if_neg (by omega)]
    exact h j j1 j2 (Or.inr ⟨by rw [j3]; exact sek_end (by omega), by omega⟩)
theorem wd_e {c : Int} {l : List Int} (hc : c ≠ -1) : wd T e (c :: l) (some e) = none := by
  show (if mt T e e (c :: l) = true then some (e + (c :: l).length) else none) = none
  rw [if_neg]
  intro z
  have z' : ((lk T e e == c) && mt T e (e + 1) l) = true := z
  rw [Bool.and_eq_true] at z'
  have := lk_lt hc (show lk T e e = c by simpa using z'.1)
  omega
/-- the standing of an item that only went on -/
theorem KO.adv' {A : AS} {r : Nat ⊕ AS} {k : Nat} (hL : KLn L o rm nd) (hq : KO rm nd o σ g Q r [] (fun _ => 0)) (hr : r = .inr (adv A k)) (h : RK rm nd o τ g A) (hC : KC rm g A) (hk : k ≤ (cur A).length) (h4 : τ.1 16 4 = σ.1 16 4) (h15 : τ.1 16 15 = σ.1 16 15) (hx : x = τ.1 16 16 + (k : Int)) : Q (pf τ 16 16 x) := by
  subst hx
  exact hq.2 _ hr _ g (h.go hL hk) rfl (fun _ => rfl) (fun _ _ => rfl) (KC_adv hC hk) (by rw [pf_nk (by decide)]; exact h4) (by rw [pf_nk (by decide)]; omega)
theorem qI_cmt (hL : KLn L o rm nd) (h : RK rm nd o σ g a) (hG : GK rm nd a) (hC : KC rm g a) (hm : 4 ≤ (cur a).length) (hq : KO rm nd o σ g Q (iCmt a) [] (fun _ => 0)) : w_KReader_comment L Q σ := by
  obtain ⟨p, q, t, hF, h1, h2, hK, hc, hS, hp⟩ := h.at_ hL
  have hK2 := hK.2.2
  unfold w_KReader_comment
  rw [h1]
  refine ⟨⟨by omega, by omega⟩, ?_⟩
  refine sp_sek hK hS ti_1117 (i := 4) hm (by omega) (fun j j1 j2 j3 => ?_)
  have hcm : cmt (gd (cur a)) (cur a).length 0 = wd (gd (cur a)) (cur a).length [45, 45, 62] (some j) := by
    unfold cmt
    rcases j3 with ⟨y, -⟩ | ⟨y, z⟩
    · rw [Nat.zero_add, y]; rfl
    · rw [Nat.zero_add, y, z, wd_e (by decide)]; rfl
  refine kr_word hK hS (some j) rfl (fun i hi => by cases hi; exact j2) ti_1118 ?_
  rw [← hcm]
  refine sp_K_written rfl h.f3 (fun hn => ?_) (fun k hk hv => ?_)
  · refine WJ_dir ?_
    rw [if_pos rfl]
    exact hq.1 5 (by unfold iCmt; rw [mvo_eq_none.mp hn]) _ pf_eq (pf_nk (by decide))
  · refine WJ_dir ?_
    rw [if_neg (by decide)]
    obtain ⟨k', hk', e1⟩ := mvo_eq_some.mp hk
    refine sp_K_touch hL h hG (fun τ hτ t1 t2 => ?_)
    have hkl : k' ≤ (cur a).length := by
      rw [hcm] at hk'
      exact wdl_le ti_1118 (fun i hi => by cases hi; exact j2) _ hk'
    refine hq.adv' (k := k') hL (by unfold iCmt; rw [hk']) hτ (KC_tch hC) (by rw [tch_cur]; exact hkl) (by rw [t1]) (by rw [t1]) ?_
    rw [t1, h1, hv]
    omega
/-- the end of the declaration's own part -/
theorem qI_sbe (hL : KLn L o rm nd) (h : RK rm nd o σ g a) (hC : KC rm g a) (h1' : 1 ≤ (cur a).length) (hO : aO a = []) (hq : KO rm nd o σ g Q (iSbe a) [] (fun _ => 0)) : inR (σ.1 16 16 + 1) ∧ w_KReader_anySpaces L (σ.1 16 16 + 1) (fun v σ1 => w_KReader_word L v 1124 (fun v2 σ2 => w_KReader_written L v2 (fun v3 σ3 => if v3 = 0 then Q σ3 else Q (pf (pf σ3 16 16 v2) 16 19 0)) σ2) σ1) σ := by
  have ho := hL.2.1
  obtain ⟨p, q, t, hF', h1, h2, hK, hc, hS, hp⟩ := h.at_ hL
  have hK2 := hK.2.2
  rw [h1]
  refine ⟨⟨by omega, by omega⟩, kr_asp hK hS (some 1) rfl (fun i hi => by cases hi; exact h1') ?_⟩
  have hpl : ple (cur a).length (asp (gd (cur a)) (cur a).length (some 1)) := asp_le (fun i hi => by cases hi; exact h1')
  refine kr_word hK hS _ rfl hpl ti_1124 ?_
  refine sp_K_written rfl h.f3 (fun hn => ?_) (fun k hk hv => ?_)
  · rw [if_pos rfl]
    exact hq.1 5 (by unfold iSbe; rw [mvo_eq_none.mp hn]) _ pf_eq (pf_nk (by decide))
  · rw [if_neg (by decide)]
    obtain ⟨k', hk', e1⟩ := mvo_eq_some.mp hk
    have hkl : k' ≤ (cur a).length := wdl_le ti_1124 hpl _ hk'
    have hg := h.go hL hkl
    have hC' := KC_adv hC hkl
    have e2 : pf σ 16 16 (enc (mvo p (wd (gd (cur a)) (cur a).length [62] (asp (gd (cur a)) (cur a).length (some 1))))) = pf σ 16 16 (σ.1 16 16 + (k' : Int)) := by rw [hv, h1, e1]; congr 1
    rw [e2]
    generalize hs0 : pf σ 16 16 (σ.1 16 16 + (k' : Int)) = s0 at hg
    have hN := hg.2.2.2.1
    have e3 : adv (sN a 4 0) k' = sN (adv a k') 4 0 := by
      unfold adv
      show (match aF a with
        | [] => sN a 4 0
        | f :: t => sF (sN a 4 0) ((f.1.drop k', f.2) :: t)) = _
      rw [hF']
      rfl
    refine hq.2 (sN (adv a k') 4 0) (by unfold iSbe; rw [hk']; show (Sum.inr (adv (sN a 4 0) k') : Nat ⊕ AS) = _; rw [e3]) _ g ?_ rfl (fun _ => rfl) (fun _ _ => rfl) hC' (by rw [pf_nk (by decide), ← hs0, pf_nk (by decide)]) (by rw [pf_nk (by decide), ← hs0, pf_nk (by decide)]; omega)
    have hF : ∀ p k, ¬ (p = 16 ∧ k = 19) → (pf s0 16 19 0).1 p k = s0.1 p k := fun p k x => by rw [pf_1, if_neg x]
    have hR : ∀ r : Nat, ¬ (r < 0) → (pf s0 16 19 0).2 r = s0.2 r := fun _ _ => rfl
    have h := hg
    refine (RK.mk' ho h kle.refl cle.refl cle.refl (h.1.dep ho (fun p k x => hF p k (by omega)) (fun r x => hR r (by omega))) (Or.inl ⟨fun k x y => hF 16 k (by omega), fun r x y => hR r (by omega), rfl⟩) (Or.inl ⟨hF 16 32 (by omega), fun r x y => hR r (by omega), rfl, rfl⟩) (Or.inr ?_) (Or.inl ⟨hF 16 20 (by omega), hF 16 24 (by omega), rfl⟩) (Or.inl ⟨hF 16 40 (by omega), hF 16 47 (by omega), hF 16 58 (by omega), fun r x => hR r (by omega), rfl⟩) (Or.inl ⟨hF 16 56 (by omega), hF 16 58 (by omega), fun r x y => hR r (by omega), rfl⟩) (Or.inl ⟨hF 16 34 (by omega), hR 187 (by omega), rfl⟩) (Or.inl ⟨hF o 7 (by omega), fun k x y => hR _ (by have := rf_3 ho x y; omega), rfl⟩) (Or.inl ⟨hF 16 64 (by omega), hF 16 66 (by omega), fun r x y => hR r (by omega), hR 181 (by omega), rfl, rfl, rfl⟩) (Or.inl ⟨hF o 14 (by omega), fun k x y => hR _ (by have := rf_8 ho x y; omega), rfl, rfl⟩) (Or.inl ⟨fun k x => hF o k (by omega), hR _ (by have := rf_1 ho; omega), rfl, rfl, rfl⟩) (hF 16 3 (by omega)) (Or.inl ⟨hF 16 18 (by omega), hR 178 (by omega), rfl, rfl, rfl, hF 16 47 (by omega), hF 16 58 (by omega), rfl, rfl⟩))
    obtain ⟨n1, n2, n3, n4, n5, n6, n7⟩ := hN
    exact ⟨n1, n2, n3, pf_eq, n5, n6, n7⟩
theorem chr_tch {b : Bool} {l : List Int} : chr (tch a b) l = tch (chr a l) b := by
  unfold tch
  show chr (match aO a with
    | [] => a
    | e :: _ => sL a _) l = match aO a with
    | [] => chr a l
    | e :: _ => sL (chr a l) _
  cases aO a <;> rfl
theorem chr_nil : chr a [] = a := by
  unfold chr sS
  show (_, _, _, _, _, _, _, _, _, aS a ++ [], _) = a
  rw [List.append_nil]
  rfl
theorem chr_rem {l : List Int} : rem (chr a l) = rem a := rfl
theorem gd_ch (h : RK rm nd o σ g a) (hL : KLn L o rm nd) {i : Nat} (hi : i < (cur a).length) : 0 ≤ gd (cur a) i ∧ gd (cur a) i ≤ 1114111 := by
  obtain ⟨p, q, t, hF, h1, h2, hK, hc, hS, hp⟩ := h.at_ hL
  rw [← hS i hi]
  exact hc (p + i) (by omega)
theorem ltr_map : ∀ {l : List Int}, ltr (l.map (fun c => (Sum.inl c : Evt))) ≤ l.length
  | [] => Nat.le_refl _
  | c :: l => by
    show ltr (l.map _) + (if 0 ≤ c then 1 else 0) ≤ l.length + 1
    have := ltr_map (l := l)
    split <;> omega
/-- a letter goes into the text, while letters are put -/
theorem sp_K_txl {A : AS} {l : List Int} {c : Int} (hL : KLn L o rm nd) (h : RK rm nd o σ (gB g, gC g, gP g ++ l, gV g) (chr A l)) (hc : 0 ≤ c) (hC : KC rm g A) (hl : l.length < rem A) (hG : evl (aS A) + rem A ≤ aN A 0) (hev : (kNs (aS A ++ (l ++ [c]).map (fun c => Sum.inl c))).1 ≤ 120000) (hq : ∀ τ, RK rm nd o τ (gB g, gC g, gP g ++ (l ++ [c]), gV g) (chr A (l ++ [c])) → (∀ p k, p ≠ o → τ.1 p k = σ.1 p k) → (∀ r, r ≠ rfo o 1 → r ≠ rfo o 15 → τ.2 r = σ.2 r) → Q τ) : dyD (σ.1 16 2) ∧ w_KDoc_text L (Int.toNat (σ.1 16 2)) c Q σ := by
  obtain ⟨d1, d2⟩ := h.dy hL.2.1
  refine ⟨d2, ?_⟩
  rw [d1, show Int.toNat (o : Int) = o from rfl]
  have hl1 := hL.2.2.2.2.2.2.2.2.2.2.2.2.2.2.2.2.1
  have hrm := hL.2.2.1.1
  obtain ⟨c1, c2, c3, -⟩ := hC
  have e1 : aS (chr A l) = aS A ++ l.map (fun c => Sum.inl c) := rfl
  refine sp_K_text hL h hc ?_ ?_ ?_ (fun τ hτ t1 t2 => hq τ ?_ t1 t2)
  · show (gP g ++ l).length < _
    rw [List.length_append]; omega
  · rw [e1, List.append_assoc]
    rw [List.map_append] at hev
    exact hev
  · rw [e1, ltr_app]
    have := ltr_le (aS A)
    have := ltr_map (l := l)
    omega
  · rw [chr_chr] at hτ
    have e2 : ((gP g ++ l) ++ [c] : List Int) = gP g ++ (l ++ [c]) := List.append_assoc _ _ _
    have e3 : gP ((gB g, gC g, gP g ++ l, gV g) : KG) = gP g ++ l := rfl
    rw [e3, e2] at hτ
    exact hτ
theorem sl_app' {i m n : Nat} (h : m ≤ n) : sl T i n = sl T i m ++ sl T (i + m) (n - m) := by
  refine List.ext_getElem? (fun j => ?_)
  by_cases c : j < m
  · rw [sl_get (by omega), List.getElem?_append_left (by rw [sl_ln]; exact c), sl_get c]
  · rw [List.getElem?_append_right (by rw [sl_ln]; omega), sl_ln]
    by_cases d : j < n
    · rw [sl_get d, sl_get (by omega), show i + m + (j - m) = i + j by omega]
    · rw [List.getElem?_eq_none (by rw [sl_ln]; omega), List.getElem?_eq_none (by rw [sl_ln]; omega)]
set_option maxHeartbeats 1000000 in
theorem qI_sec (hL : KLn L o rm nd) (h : RK rm nd o σ g a) (hG : GK rm nd a) (hC : KC rm g a) (hph : aN a 4 = 2) (hm : 9 ≤ (cur a).length) (hev : ∀ a', iSec a = .inr a' → (kNs (aS a')).1 ≤ 120000) (hq : KO rm nd o σ g Q (iSec a) [] (fun _ => 0)) : w_KReader_section L Q σ := by
  obtain ⟨p, q, t, hF, h1, h2, hK, hc, hS, hp⟩ := h.at_ hL
  have hK2 := hK.2.2
  have ho := hL.2.1
  have r1 := rf_1 ho
  have hne : aO a ≠ [] := hG.2.2.2.1.2.mp hph
  have hoc := hG.2.2.2.2.1
  have hln : (aL a).length ≤ 16384 := by have := hG.2.2.1; have := hL.2.2.1.2; omega
  unfold w_KReader_section
  rw [h1]
  refine ⟨⟨by omega, by omega⟩, ?_⟩
  refine sp_sek hK hS ti_1146 (i := 9) hm (by omega) (fun j j1 j2 j3 => ?_)
  refine kr_word hK hS (some j) rfl (fun i hi => by cases hi; exact j2) ti_1146 ?_
  refine sp_K_written rfl h.f3 (fun hn => ?_) (fun k hk hv => ?_)
  · rw [if_pos rfl]
    have hn' := mvo_eq_none.mp hn
    refine hq.1 5 ?_ _ pf_eq (pf_nk (by decide))
    unfold iSec
    rcases j3 with ⟨y, z⟩ | ⟨y, z⟩
    · have := (sek_lt y).2.2
      have e1 : wd (gd (cur a)) (cur a).length [93, 93, 62] (some j) = some (j + 3) := by
        show (if mt (gd (cur a)) (cur a).length j [93, 93, 62] = true then some (j + [93, 93, 62].length) else none) = _
        rw [if_pos this]
        rfl
      rw [hn'] at e1
      cases e1
    · rw [y]
  · rw [if_neg (by decide)]
    obtain ⟨k', hk', e1⟩ := mvo_eq_some.mp hk
    have hj3 : sek (gd (cur a)) (cur a).length [93, 93, 62] 9 = some j := by
      rcases j3 with ⟨y, z⟩ | ⟨y, z⟩
      · exact y
      · rw [z, wd_e (by decide)] at hk'
        cases hk'
    have hm3 := (sek_lt hj3).2.2
    have hj3' : j + 3 ≤ (cur a).length := mt_le [93, 93, 62] j (by decide) j2 hm3
    have hsec : iSec a = .inr (adv (chr (tch a true) (sl (gd (cur a)) 9 (j - 9))) (j + 3)) := by
      unfold iSec
      rw [hj3]
    have hrem : rem (tch a true) = rem a := tch_rem
    have hremc : (cur a).length ≤ rem a := by
      unfold rem
      rw [hF, List.map_cons, List.sum_cons]
      exact Nat.le_add_right _ _
    have hev' := hev _ hsec
    rw [(adv_other).2.2.2.2.2.2.2.2.1] at hev'
    refine sp_K_touch hL h hG (fun τ hτ t1 t2 => ?_)
    refine sp_K_spoil hL hτ hoc hne hln (fun υ hυ u1 u2 => ?_)
    have hυ16 : υ.1 16 16 = (p : Int) := by rw [u1, t1]; exact h1
    have hυ176 : υ.2 176 = σ.2 176 := by rw [u2 176 (by decide), t2 176 (by decide)]
    have hυ4 : υ.1 16 4 = σ.1 16 4 := by rw [u1, t1]
    rw [hυ16]
    refine ⟨⟨by omega, by omega⟩, ?_⟩
    refine WL_ind (fun s ρ => ∃ n : Nat, s = ((p + (9 + n) : Nat) : Int) ∧ 9 + n ≤ j ∧ RK rm nd o ρ (gB g, gC g, gP g ++ sl (gd (cur a)) 9 n, gV g) (chr (tch a true) (sl (gd (cur a)) 9 n)) ∧ (∀ k, ρ.1 16 k = υ.1 16 k) ∧ ρ.2 176 = σ.2 176) (fun s _ => ((p + j : Nat) - s).toNat) ?_ _ υ ⟨0, by omega, by omega, ?_, fun _ => rfl, hυ176⟩
    · rintro s ρ ⟨n, rfl, n1, hρ, f1, f2⟩ K hI
      try dsimp only
      by_cases c : 9 + n < j
      · rw [if_pos (by omega), show Int.toNat ((p + (9 + n) : Nat) : Int) = p + (9 + n) from rfl, f2, hS (9 + n) (by omega)]
        have l176 := hL.2.2.2.1
        have hcc := gd_ch h hL (i := 9 + n) (by omega)
        have hw := sp_K_txl (g := g) (A := tch a true) (l := sl (gd (cur a)) 9 n) (c := gd (cur a) (9 + n)) (Q := fun σ25 => inR (((p + (9 + n) : Nat) : Int) + 1) ∧ K (((p + (9 + n) : Nat) : Int) + 1) σ25) hL hρ hcc.1 (KC_tch hC) (by rw [sl_ln, hrem]; omega) (by rw [hrem, tch_other.2.2.2.2.2.2.2.2.1, tch_other.2.2.1]; exact hG.2.1.1) ?_ (fun τ' hτ' g1 g2 => ?_)
        · exact ⟨hw.1, ⟨by omega, by omega⟩, hw.2⟩
        · refine Nat.le_trans ?_ hev'
          show (kNs (aS (tch a true) ++ _)).1 ≤ (kNs (aS (tch a true) ++ (sl (gd (cur a)) 9 (j - 9)).map (fun c => Sum.inl c))).1
          have e5 : sl (gd (cur a)) 9 (j - 9) = (sl (gd (cur a)) 9 n ++ [gd (cur a) (9 + n)]) ++ sl (gd (cur a)) (9 + (n + 1)) (j - 9 - (n + 1)) := by
            rw [← sl_succ]
            exact sl_app' (by omega)
          have e6 := congrArg (fun l => l.map (fun c => (Sum.inl c : Evt))) e5
          try dsimp only at e6
          rw [List.map_append] at e6
          rw [e6, ← List.append_assoc]
          exact kNs_mono
        · refine ⟨⟨by omega, by omega⟩, hI _ _ ⟨n + 1, by omega, by omega, ?_, fun k => (g1 16 k (by omega)).trans (f1 k), (g2 176 (by omega) (by omega)).trans f2⟩ (by omega)⟩
          rw [sl_succ]
          exact hτ'
      · rw [if_neg (by omega)]
        refine ⟨⟨by omega, by omega⟩, ?_⟩
        have hn : n = j - 9 := by omega
        subst hn
        have hcl : cur (chr (tch a true) (sl (gd (cur a)) 9 (j - 9))) = cur a := by
          show cur (tch a true) = cur a
          exact tch_cur
        have hg := hρ.go hL (k := j + 3) (by rw [hcl]; exact hj3')
        rw [f1 16, hυ16] at hg
        have e6 : ((p : Int) + ((j + 3 : Nat) : Int)) = ((p + j : Nat) : Int) + 3 := by omega
        rw [e6] at hg
        have hr3 : rem (adv (chr (tch a true) (sl (gd (cur a)) 9 (j - 9))) (j + 3)) + (j + 3) = rem a := by
          rw [rem_adv (by rw [hcl]; exact hj3'), chr_rem, hrem]
        have hN : aN (adv (chr (tch a true) (sl (gd (cur a)) 9 (j - 9))) (j + 3)) = aN a := by
          rw [(adv_other).2.1]
          exact tch_other.2.2.1
        refine hq.2 _ hsec _ _ hg rfl (fun _ => rfl) (fun _ _ => rfl) ⟨?_, ?_, by rw [hN]; exact hC.2.2.1, by rw [hN]; exact hC.2.2.2⟩ ?_ (by rw [pf_nk (by decide), f1 15, u1, t1]; omega)
        · show (gP g ++ sl (gd (cur a)) 9 (j - 9)).length + _ ≤ _
          rw [hN, List.length_append, sl_ln]
          have := hC.1
          omega
        · rw [hN]
          show (gC g).length + _ ≤ _
          have := hC.2.1
          omega
        · rw [pf_nk (by decide), f1 4, hυ4]
    · rw [sl_zero, List.append_nil, chr_nil]
      exact hυ
end Kit
