/-! ===== the class writes ===== -/
/-- what was written last -/
def PRd (σ : IS) (P : List Int) : Prop := ∃ D : Nat, (D = 162 ∨ D = 163) ∧ σ.1 11 3 = (D : Int) ∧ σ.1 11 5 = ((325 - D : Nat) : Int) ∧ σ.1 11 4 = (P.length : Int) ∧ P.length ≤ 262144 ∧ ∀ i, i < P.length → σ.2 D i = nb (P.getD i 0)
/-- what writing may change -/
def WQx (σ τ : IS) : Prop := (∀ o k, o ≠ 11 → τ.1 o k = σ.1 o k) ∧ ∀ r, ¬ (158 ≤ r ∧ r ≤ 164 ∧ r ≠ 160 ∧ r ≠ 161) → τ.2 r = σ.2 r
section Wwr
variable {L : Nat → Nat} {σ τ υ : IS} {D e : Nat} {el : List Elm} {at_ : List Att} {E E0 : Str → Str} {out P : List Int} {Q : Int → IS → Prop}
theorem WPx.wq (h : WPx σ τ D) (hD : D = 162 ∨ D = 163) : WQx σ τ := ⟨fun o k a => h.1 o k (by omega), fun r a => h.2 r (by omega) (by omega) (by omega) (by omega)⟩
theorem WQx.trans (h1 : WQx σ τ) (h2 : WQx τ υ) : WQx σ υ := ⟨fun o k a => (h2.1 o k a).trans (h1.1 o k a), fun r a => (h2.2 r a).trans (h1.2 r a)⟩
theorem och_len : ∀ {sk : List Nat} {m : Nat}, och el sk → (∀ e ∈ sk, e < m) → sk.length ≤ m
  | [], _, _, _ => Nat.zero_le _
  | e :: r, m, h, hm => by
    have h1 := och_len (sk := r) (m := e) h.2.2.2 h.2.2.1
    have h2 := hm e List.mem_cons_self
    rw [List.length_cons]
    omega
theorem wrS_pi {r : List Evt} {sk : List Nat} {m : Nat} {t s : Str} : wrS el at_ (.inr (t, s) :: r) sk m = wPi (!sk.isEmpty) (decide (0 < m)) t s ++ wrS el at_ r sk m := by rw [wrS]
theorem wrS_c {r : List Evt} {sk : List Nat} {m : Nat} {c : Int} : wrS el at_ (.inl c :: r) sk m = if c = -1 then (match sk with
      | [] => wrS el at_ r [] m
      | e :: q => wEn (el.getD e elD).1 ++ wrS el at_ r q m) else if c < 0 then wTg (EN el at_ (el.getD m elD).2.1) (EN el at_ (m : Int)) (el.getD m elD).1 (ats at_ (el.getD m elD)) ++ wrS el at_ r (m :: sk) (m + 1) else escL false c ++ wrS el at_ r sk m := by cases sk <;> rfl
theorem Jt_wp {x : Int} {t : Str} (h : WPx σ τ D) (hD : D = 162 ∨ D = 163) (ht : Jt σ x t) : Jt τ x t := by
  obtain ⟨a, h1, h2, h3⟩ := ht
  refine ⟨a, h1, ?_, ?_⟩
  · unfold jtp at h2 ⊢
    rw [h.1 1 3 (by omega)]
    exact h2
  · rw [h.2 101 (by omega) (by omega) (by omega) (by omega)]
    exact h3
/-- the end of writing: open elements are ended -/
theorem wr_close {σ0 : IS} (hW : WLn L at_.length) (hL : MLm L el at_) (hp : ∀ i, i < el.length → (el.getD i elD).2.1 = -1 ∨ (0 ≤ (el.getD i elD).2.1 ∧ (el.getD i elD).2.1 < (i : Int))) (h62 : σ0.1 6 2 = (el.length : Int)) {sk : List Nat} (ho : och el sk) (hol : sk.length ≤ el.length) (ht : MTr L σ0 el at_) (hE : MEp σ0 (EN el at_ (opn sk))) (hO : ∀ e ∈ sk, OUT σ0 at_ (el.getD e elD) (EN el at_ (el.getD e elD).2.1)) (hz : ∀ w, jw σ0 ≤ w → w < L 155 → σ0.2 158 w = 0) (h8 : σ0.1 11 8 = opn sk) (hw : WRo σ0 D out) {R : IS → Prop} (hq : ∀ τ, WPx σ0 τ D → MEp τ env0 → (∀ w, jw σ0 ≤ w → w < L 155 → τ.2 158 w = 0) → (∃ l, WRo τ D (out ++ l) ∧ (sk = [] → l = [])) → R τ) :
    WL (fun (K25 : Int → IS → Prop) (s27 : Int) (σ28 : IS) => if s27 < (σ28.1 6 2) ∧ (¬ (σ28.1 11 8) = (-1)) then w_Writer_putEnd L (fun σ29 => inR (s27 + 1) ∧ K25 (s27 + 1) σ29) σ28 else R σ28) 0 σ0 := by
  have hD := hw.1
  have hm5 : el.length < 1000000 := hL.2.2.1.2.2.2.2
  refine WL_ind (fun z τ => ∃ (t : Nat) (sk' : List Nat) (l : List Int), z = (t : Int) ∧ och el sk' ∧ t + sk'.length = sk.length ∧ WPx σ0 τ D ∧ MEp τ (EN el at_ (opn sk')) ∧ (∀ e ∈ sk', OUT τ at_ (el.getD e elD) (EN el at_ (el.getD e elD).2.1)) ∧ (∀ w, jw σ0 ≤ w → w < L 155 → τ.2 158 w = 0) ∧ τ.1 11 8 = opn sk' ∧ WRo τ D (out ++ l) ∧ (sk = [] → l = [])) (fun z _ => (sk.length - z).toNat) ?_ _ σ0 ⟨0, sk, [], rfl, ho, by omega, WPx.refl, hE, hO, hz, h8, by rw [List.append_nil]; exact hw, fun _ => rfl⟩
  rintro _ τ ⟨t, sk', l, rfl, a1, a2, a3, a4, a5, a6, a7, a8, a9⟩ K hK
  rw [a3.1 6 2 (by omega), h62, a7]
  cases sk' with
  | nil =>
    rw [if_neg (fun z => z.2 rfl)]
    rw [show opn [] = -1 from rfl, EN_neg] at a4
    exact hq τ a3 a4 a6 ⟨l, a8, a9⟩
  | cons e q =>
    obtain ⟨o1, o2, o3, o4⟩ := a1
    rw [List.length_cons] at a2
    have hop : opn (e :: q) = (e : Int) := rfl
    rw [hop] at a4 a7 ⊢
    rw [if_pos ⟨by omega, by omega⟩]
    refine sp_Writer_putEnd (E0 := EN el at_ (el.getD e elD).2.1) hW hL (a3.tr hD ht) o1 a7 (by rw [← EN_s hp o1]; exact a4) (a5 e List.mem_cons_self) (by rw [a3.jwE]; exact a6) a8 (fun τ' r1 r2 r3 r4 r5 r6 r7 => ⟨⟨by omega, by omega⟩, hK _ _ ⟨t + 1, q, l ++ (wEn (el.getD e elD).1).flatMap u8b, rfl, o4, by omega, a3.trans r1, by rw [← o2]; exact r2, fun x hx => r1.ou hD r4 (a5 x (List.mem_cons_of_mem _ hx)), by rw [← a3.jwE]; exact r3, by rw [r5]; exact o2, by rw [← List.append_assoc]; exact r7, fun z => ?_⟩ (by omega)⟩)
    rw [z] at a2
    simp at a2
theorem flat_len {l : Str} : (l.flatMap u8b).length ≤ ((l ++ P).flatMap u8b).length := by
  rw [List.flatMap_append, List.length_append]
  omega
set_option maxHeartbeats 2000000 in
theorem sp_Writer_write {st : List Evt} (hW : WLn L at_.length) (hL : MLm L el at_) (hN6 : evl st ≤ L 136 ∧ evl st < 1000000) (hst : stR (el.map (fun x => x.2.1)) st ([], 0) = some ([], el.length)) (hp : ∀ i, i < el.length → (el.getD i elD).2.1 = -1 ∨ (0 ≤ (el.getD i elD).2.1 ∧ (el.getD i elD).2.1 < (i : Int))) (hgs : (segs el).map Prod.fst = List.range at_.length) (hds : ∀ x ∈ el, DST at_ x) (hkd : ∀ m, m < el.length → KD (EN el at_ (m : Int)) (ats at_ (el.getD m elD))) (ht : MTr L σ el at_) (hc : jch L σ) (hE : MEp σ env0) (hz : ∀ w, jw σ ≤ w → w < L 155 → σ.2 158 w = 0) (h62 : σ.1 6 2 = (el.length : Int)) (hJ : JSt σ st) (hP : PRd σ P)
    (hq : ∀ τ, WQx σ τ → MEp τ env0 → (∀ w, jw σ ≤ w → w < L 155 → τ.2 158 w = 0) → (((wrS el at_ st [] 0).flatMap u8b).length ≤ 262144 → PRd τ ((wrS el at_ st [] 0).flatMap u8b) → Q 1 τ) ∧ (262144 < ((wrS el at_ st [] 0).flatMap u8b).length → PRd τ P → Q 0 τ)) : w_Writer_write L Q σ := by
  obtain ⟨hsl, ⟨l6, l7, l8⟩, ⟨m1, m2, m3, m4, m5⟩, ⟨n1, n2, n3, n4⟩, l160, hC⟩ := id hL
  obtain ⟨D', hD', p3, p5, p4, pl, pr'⟩ := hP
  generalize hDD : 325 - D' = D at p5
  have hD : D = 162 ∨ D = 163 := by omega
  unfold w_Writer_write
  generalize hσ0 : pf (pf (pf (pf σ 11 6 0) 11 7 0) 11 9 0) 11 8 (-1) = σ0
  have f0 : ∀ o k, ¬ (o = 11 ∧ 6 ≤ k ∧ k ≤ 9) → σ0.1 o k = σ.1 o k := fun o k a => by rw [← hσ0, pf_1, if_neg (by omega), pf_1, if_neg (by omega), pf_1, if_neg (by omega), pf_1, if_neg (by omega)]
  have g0 : σ0.2 = σ.2 := by rw [← hσ0]; rfl
  have x0 : WPx σ σ0 D := ⟨fun o k a => f0 o k a, fun r _ _ _ _ => by rw [g0]⟩
  have b0 : σ0.1 11 6 = 0 ∧ σ0.1 11 7 = 0 ∧ σ0.1 11 8 = -1 ∧ σ0.1 11 9 = 0 := by
    rw [← hσ0]
    refine ⟨?_, ?_, pf_eq, ?_⟩
    · rw [pf_nk (by decide), pf_nk (by decide), pf_nk (by decide), pf_eq]
    · rw [pf_nk (by decide), pf_nk (by decide), pf_eq]
    · rw [pf_nk (by decide), pf_eq]
  have w0 : WRo σ0 D [] := ⟨hD, by rw [f0 11 5 (by omega)]; exact p5, Or.inl ⟨b0.2.1, b0.1, Nat.zero_le _, fun i hi => absurd hi (Nat.not_lt_zero _)⟩⟩
  have e615 : ∀ τ, WPx σ τ D → τ.1 6 15 = (evl st : Int) := fun τ h => by rw [h.1 6 15 (by omega)]; exact hJ.1
  have e136 : ∀ τ, WPx σ τ D → τ.2 136 = σ.2 136 := fun τ h => h.2 136 (by omega) (by omega) (by omega) (by omega)
  generalize hall : wrS el at_ st [] 0 = all at hq
  -- what follows the first loop
  have hend : ∀ (τ : IS) (sk : List Nat) (pre suf : Str), och el sk → sk.length ≤ el.length → WPx σ τ D → MEp τ (EN el at_ (opn sk)) → (∀ e ∈ sk, OUT τ at_ (el.getD e elD) (EN el at_ (el.getD e elD).2.1)) → (∀ w, jw σ ≤ w → w < L 155 → τ.2 158 w = 0) → τ.1 11 8 = opn sk → WRo τ D (pre.flatMap u8b) → pre ++ suf = all → (τ.1 11 7 = 0 → sk = [] ∧ suf = []) →
      WL (fun (K25 : Int → IS → Prop) (s27 : Int) (σ28 : IS) => if s27 < (σ28.1 6 2) ∧ (¬ (σ28.1 11 8) = (-1)) then w_Writer_putEnd L (fun σ29 => inR (s27 + 1) ∧ K25 (s27 + 1) σ29) σ28 else WJ (fun (s34 : Unit) (σ35 : IS) => Q (if (σ35.1 11 7) = 0 then (1 : Int) else (0 : Int)) σ35) (fun J32 => if (σ28.1 11 7) = 0 then dyB (σ28.1 11 3) ∧ dyB (σ28.1 11 5) ∧ J32 () (pf (pf (pf σ28 11 3 (((Int.toNat (σ28.1 11 5)) : Nat) : Int)) 11 5 (((Int.toNat (σ28.1 11 3)) : Nat) : Int)) 11 4 (σ28.1 11 6)) else J32 () σ28)) 0 τ := by
    intro τ sk pre suf a1 a2 a3 a4 a5 a6 a7 a8 a9 a10
    refine wr_close hW hL hp (by rw [a3.1 6 2 (by omega)]; exact h62) a1 a2 (a3.tr hD ht) a4 a5 (by rw [a3.jwE]; exact a6) a7 a8 (fun τ' r1 r2 r3 r4 => WJ_dir ?_)
    obtain ⟨l, r4, r5⟩ := r4
    have ax := a3.trans r1
    rw [a3.jwE] at r3
    obtain ⟨w1, w2, w3⟩ := r4
    by_cases c : τ'.1 11 7 = 0
    · have cτ : τ.1 11 7 = 0 := by
        obtain ⟨-, -, y | y⟩ := a8
        · exact y.1
        · rcases w3 with z | z
          · rw [List.length_append] at z; omega
          · omega
      obtain ⟨hsk, hsuf⟩ := a10 cτ
      have hl0 := r5 hsk
      rw [hsuf, List.append_nil] at a9
      rcases w3 with ⟨z1, z2, z3, z4⟩ | ⟨z1, -⟩
      · rw [hl0, List.append_nil, a9] at z2 z3 z4
        rw [if_pos c, ax.1 11 3 (by omega), p3, w2, z2]
        rw [show Int.toNat (D : Int) = D from rfl, show Int.toNat (D' : Int) = D' from rfl]
        refine ⟨by rcases hD' with y | y <;> rw [y] <;> decide, by rcases hD with y | y <;> rw [y] <;> decide, ?_⟩
        generalize hυ : pf (pf (pf τ' 11 3 (D : Int)) 11 5 (D' : Int)) 11 4 ((all.flatMap u8b).length : Int) = υ
        have fu : ∀ o k, ¬ (o = 11 ∧ (k = 3 ∨ k = 4 ∨ k = 5)) → υ.1 o k = τ'.1 o k := fun o k a => by rw [← hυ, pf_1, if_neg (by omega), pf_1, if_neg (by omega), pf_1, if_neg (by omega)]
        have gu : υ.2 = τ'.2 := by rw [← hυ]; rfl
        have pu : υ.1 11 3 = (D : Int) ∧ υ.1 11 5 = (D' : Int) ∧ υ.1 11 4 = ((all.flatMap u8b).length : Int) := by
          rw [← hυ]
          refine ⟨?_, ?_, pf_eq⟩
          · rw [pf_nk (by decide), pf_nk (by decide), pf_eq]
          · rw [pf_nk (by decide), pf_eq]
        rw [fu 11 7 (by omega), if_pos c]
        have qx : WQx σ υ := (ax.wq hD).trans ⟨fun o k a => fu o k (by omega), fun r _ => by rw [gu]⟩
        refine (hq υ qx (fun w hw => ?_) (fun w h1 h2 => by rw [gu]; exact r3 w h1 h2)).1 z3 ⟨D, hD, pu.1, ?_, pu.2.2, z3, fun i hi => by rw [gu]; exact z4 i hi⟩
        · have := r2 w (by unfold jw at hw ⊢; rw [fu 1 14 (by omega)] at hw; exact hw)
          unfold Jn jw wst wfr wsz at this ⊢
          rw [gu, fu 1 14 (by omega)]
          exact this
        · rw [pu.2.1, show 325 - D = D' by omega]
      · omega
    · rw [if_neg c]
      dsimp only
      rw [if_neg c]
      have hlen : 262144 < (all.flatMap u8b).length := by
        have hpre : 262144 < (pre.flatMap u8b).length := by
          obtain ⟨-, -, y | y⟩ := a8
          · have := (a10 y.1).1
            have hl := r5 this
            rw [hl, List.append_nil] at w3
            rcases w3 with z | z
            · exact absurd z.1 c
            · exact z.2.2
          · exact y.2.2
        rw [← a9]
        exact Nat.lt_of_lt_of_le hpre flat_len
      refine (hq τ' (ax.wq hD) r2 r3).2 hlen ⟨D', hD', by rw [ax.1 11 3 (by omega)]; exact p3, by rw [ax.1 11 5 (by omega), hDD]; exact p5, by rw [ax.1 11 4 (by omega)]; exact p4, pl, fun i hi => by rw [ax.2 D' (by omega) (by omega) (by omega) (by omega)]; exact pr' i hi⟩
  refine WL_ind (fun (z : Int) τ => ∃ (rest : List Evt) (sk : List Nat) (m i : Nat) (pre : Str), z = (i : Int) ∧ (jev σ i rest (evl st) ∧ i + evl rest = evl st) ∧ stR (el.map (fun x => x.2.1)) rest (sk, m) = some ([], el.length) ∧ (och el sk ∧ m ≤ el.length ∧ ∀ e ∈ sk, e < m) ∧ WPx σ τ D ∧ MEp τ (EN el at_ (opn sk)) ∧ (∀ e ∈ sk, OUT τ at_ (el.getD e elD) (EN el at_ (el.getD e elD).2.1)) ∧ (∀ w, jw σ ≤ w → w < L 155 → τ.2 158 w = 0) ∧ τ.1 11 8 = opn sk ∧ (τ.1 11 9 = 0 ↔ m = 0) ∧ WRo τ D (pre.flatMap u8b) ∧ pre ++ wrS el at_ rest sk m = all) (fun z _ => (evl st - z).toNat) ?_ _ σ0 ⟨st, [], 0, 0, [], rfl, ⟨hJ.2.2, by omega⟩, hst, ⟨trivial, Nat.zero_le _, fun e he => (by cases he)⟩, x0, by rw [show opn [] = -1 from rfl, EN_neg]; exact x0.mep hD (by rw [g0]) hE, fun e he => (by cases he), by rw [g0]; exact hz, b0.2.2.1, ⟨fun _ => rfl, fun _ => b0.2.2.2⟩, w0, hall⟩
  rintro _ τ ⟨rest, sk, m, i, pre, rfl, ⟨hj1, hj2⟩, hsr, ⟨ho1, ho2, ho3⟩, q1, q4, q5, q6, q8, q9, q10, q11⟩ K hK
  have hskl : sk.length ≤ el.length := Nat.le_trans (och_len ho1 ho3) ho2
  have trt := q1.tr hD ht
  rw [e615 τ q1]
  by_cases cf : (i : Int) < (evl st : Int) ∧ τ.1 11 7 = 0
  · rw [if_pos cf]
    cases rest with
    | nil => have h' : i + 0 = evl st := hj2; omega
    | cons v r =>
      cases v with
      | inr qq =>
        obtain ⟨t, s⟩ := qq
        rw [evl_r] at hj2
        have hj' : σ.2 136 i = -2 ∧ (Jt σ (σ.2 136 (i + 1)) t ∧ σ.2 136 (i + 2) = (t.length : Int)) ∧ (Jt σ (σ.2 136 (i + 3)) s ∧ σ.2 136 (i + 4) = (s.length : Int)) ∧ jev σ (i + 5) r (evl st) := hj1
        rw [show Int.toNat (i : Int) = i from rfl, e136 τ q1, hj'.1]
        refine ⟨⟨by omega, by omega⟩, WJ_dir ?_⟩
        rw [if_pos (by decide), if_pos rfl, show (i : Int) + 1 = ((i + 1 : Nat) : Int) by omega]
        rw [wrS_pi] at q11
        refine ⟨⟨by omega, by omega⟩, sp_Writer_putInstruction (op := !sk.isEmpty) (bh := decide (0 < m)) (t := t) (s := s) hW.1 trt.1 hsl ⟨by omega, by omega⟩ ?_ ?_ ?_ ?_ ?_ ?_ q10 (fun τ' x1 y1 => ⟨⟨by omega, by omega⟩, ⟨by omega, by omega⟩, hK _ _ ⟨r, sk, m, i + 5, pre ++ wPi (!sk.isEmpty) (decide (0 < m)) t s, by omega, ⟨hj'.2.2.2, by omega⟩, hsr, ⟨ho1, ho2, ho3⟩, q1.trans x1.wp, x1.wp.mep hD (x1.2 158 (by omega)) q4, fun e he => x1.wp.ou hD (x1.2 159 (by omega)) (q5 e he), fun w h1 h2 => by rw [x1.2 158 (by omega)]; exact q6 w h1 h2, by rw [x1.1 11 8 (by omega)]; exact q8, by rw [x1.1 11 9 (by omega)]; exact q9, by rw [List.flatMap_append]; exact y1, by rw [List.append_assoc]; exact q11⟩ (by omega)⟩)⟩
        · rw [q8]
          cases sk with
          | nil => exact ⟨fun _ => rfl, fun _ => rfl⟩
          | cons e q => exact ⟨fun z => by have z' : (e : Int) = -1 := z; omega, fun z => by cases z⟩
        · rw [q9]
          constructor
          · intro z; exact decide_eq_false (by omega)
          · intro z; have := of_decide_eq_false z; omega
        · rw [e136 τ q1]; exact Jt_wp q1 hD hj'.2.1.1
        · rw [e136 τ q1]; exact hj'.2.1.2
        · rw [e136 τ q1]; exact Jt_wp q1 hD hj'.2.2.1.1
        · rw [e136 τ q1]; exact hj'.2.2.1.2
      | inl c =>
        rw [evl_c] at hj2
        have hj' : σ.2 136 i = c ∧ jev σ (i + 1) r (evl st) := hj1
        rw [stR_c] at hsr
        rw [wrS_c] at q11
        rw [show Int.toNat (i : Int) = i from rfl, e136 τ q1, hj'.1]
        refine ⟨⟨by omega, by omega⟩, WJ_dir ?_⟩
        by_cases c1 : c = -1
        · rw [if_pos c1] at hsr q11
          cases sk with
          | nil => cases hsr
          | cons e t =>
            dsimp only at hsr q11
            obtain ⟨o1, o2, o3, o4⟩ := ho1
            have hop : opn (e :: t) = (e : Int) := rfl
            rw [hop] at q4 q8
            rw [if_pos (by omega), if_neg (by omega), if_pos c1]
            refine sp_Writer_putEnd (E0 := EN el at_ (el.getD e elD).2.1) hW hL trt o1 q8 (by rw [← EN_s hp o1]; exact q4) (q5 e List.mem_cons_self) (by rw [q1.jwE]; exact q6) q10 (fun τ' r1 r2 r3 r4 r5 r6 r7 => ⟨⟨by omega, by omega⟩, hK _ _ ⟨r, t, m, i + 1, pre ++ wEn (el.getD e elD).1, by omega, ⟨hj'.2, by omega⟩, hsr, ⟨o4, ho2, fun x hx => ho3 x (List.mem_cons_of_mem _ hx)⟩, q1.trans r1, by rw [← o2]; exact r2, fun x hx => r1.ou hD r4 (q5 x (List.mem_cons_of_mem _ hx)), by rw [← q1.jwE]; exact r3, by rw [r5]; exact o2, by rw [r6]; exact q9, by rw [List.flatMap_append]; exact r7, by rw [List.append_assoc]; exact q11⟩ (by omega)⟩)
        · rw [if_neg c1] at hsr q11
          by_cases c2 : c < 0
          · rw [if_pos c2] at hsr q11
            by_cases c3 : c = -3 - (m : Int) ∧ m < (el.map (fun x => x.2.1)).length ∧ (el.map (fun x => x.2.1)).getD m 0 = opn sk
            · rw [if_pos c3] at hsr
              obtain ⟨d1, d2, d3⟩ := c3
              rw [List.length_map] at d2
              have d3' : (el.getD m elD).2.1 = opn sk := by
                rw [List.getD_eq_getElem?_getD, List.getElem?_map, List.getElem?_eq_getElem d2] at d3
                rw [List.getD_eq_getElem?_getD, List.getElem?_eq_getElem d2]
                exact d3
              have hmx : el.getD m elD ∈ el := by rw [List.getD_eq_getElem?_getD, List.getElem?_eq_getElem d2]; exact List.getElem_mem d2
              rw [if_pos c2, if_neg (by omega), if_neg c1, show -3 - c = (m : Int) by omega]
              rw [← d3'] at q4
              refine ⟨⟨by omega, by omega⟩, sp_Writer_putBegin (E0 := EN el at_ (el.getD m elD).2.1) (E := EN el at_ (m : Int)) hW hL trt (q1.ch hD hc) d2 (hds _ hmx) q4 (by rw [q1.jwE]; exact q6) (EN_s hp d2).symm (hkd m d2) q10 (fun τ' r1 r2 r3 r4 r5 r6 r7 r8 => ⟨⟨by omega, by omega⟩, hK _ _ ⟨r, m :: sk, m + 1, i + 1, pre ++ wTg (EN el at_ (el.getD m elD).2.1) (EN el at_ (m : Int)) (el.getD m elD).1 (ats at_ (el.getD m elD)), by omega, ⟨hj'.2, by omega⟩, hsr, ⟨⟨d2, d3', ho3, ho1⟩, by omega, fun x hx => ?_⟩, q1.trans r1, r2, fun x hx => ?_, by rw [← q1.jwE]; exact r4, r7, ⟨fun z => by omega, fun z => by omega⟩, by rw [List.flatMap_append]; exact r6, by rw [List.append_assoc]; exact q11⟩ (by omega)⟩)⟩
              · rcases List.mem_cons.mp hx with y | y
                · omega
                · have := ho3 x y; omega
              · rcases List.mem_cons.mp hx with y | y
                · rw [y]; exact r3
                · intro j hj3 p hp3
                  have hxl := ho3 x y
                  rw [r5 _ (fun hh => by
                    have := seg_sep hgs hxl d2 hj3 (show 0 < (el.getD m elD).2.2.2.1 by omega)
                    omega)]
                  exact (r1.jnI hD).mpr (q5 x y j hj3 p hp3)
            · rw [if_neg c3] at hsr
              cases hsr
          · rw [if_neg c2] at hsr q11
            rw [if_neg c2]
            refine sp_Writer_putCharacter (v := false) hW.1 q10 (fun τ' x1 y1 => ⟨⟨by omega, by omega⟩, hK _ _ ⟨r, sk, m, i + 1, pre ++ escL false c, by omega, ⟨hj'.2, by omega⟩, hsr, ⟨ho1, ho2, ho3⟩, q1.trans x1.wp, x1.wp.mep hD (x1.2 158 (by omega)) q4, fun e he => x1.wp.ou hD (x1.2 159 (by omega)) (q5 e he), fun w h1 h2 => by rw [x1.2 158 (by omega)]; exact q6 w h1 h2, by rw [x1.1 11 8 (by omega)]; exact q8, by rw [x1.1 11 9 (by omega)]; exact q9, by rw [List.flatMap_append, ← esc_L]; exact y1, by rw [List.append_assoc]; exact q11⟩ (by omega)⟩)
  · rw [if_neg cf]
    refine hend τ sk pre _ ho1 hskl q1 q4 q5 q6 q8 q10 q11 (fun h7 => ?_)
    have hi : ¬ (i : Int) < (evl st : Int) := fun z => cf ⟨z, h7⟩
    cases rest with
    | nil =>
      have hs' : some (sk, m) = some (([] : List Nat), el.length) := hsr
      have h1 : sk = [] := congrArg Prod.fst (Option.some.inj hs')
      exact ⟨h1, by rw [wrS]⟩
    | cons v r =>
      cases v with
      | inr qq => rw [evl_r] at hj2; omega
      | inl c => rw [evl_c] at hj2; omega
end Wwr
