/-! ===== the reference reads a text: the loop of items ===== -/
/-- the loop of items, and what comes behind it -/
def wLp (L : Nat → Nat) (Q : Int → IS → Prop) (σ : IS) : Prop := WL (fun (K10 : Unit → IS → Prop) (s12 : Unit) (σ13 : IS) => WJ (fun (s16 : Unit) (σ17 : IS) => if 0 < (σ17.1 16 3) then Q 0 σ17 else dyD (σ17.1 16 2) ∧ w_KReader_finish L  (fun σ20 => Q 1 σ20) (pf (pf σ17 16 4 (-1)) (Int.toNat (σ17.1 16 2)) 21 (σ17.1 16 25))) (fun J14 => if (σ13.1 16 3) = 0 then if ¬ (σ13.1 16 14) = 1 ∨ (¬ (σ13.1 16 16) = (σ13.1 16 17) ∨ (¬ (σ13.1 16 19) = 3)) then w_KReader_item L  (fun σ23 => K10 () σ23) (pf σ13 16 4 (if (σ13.1 16 14) = 1 then (σ13.1 16 16) else (σ13.1 16 18))) else J14 () σ13 else J14 () σ13)) () σ
section Klp
variable {L : Nat → Nat} {rm nd o : Nat} {σ : IS} {g : KG} {a : AS} {R : (Nat × Nat) ⊕ AS} {Q : Int → IS → Prop} {INV : AS → List Str → (Nat → Nat) → Prop}
/-- the place is no part of the picture -/
theorem RK.p4 (hL : KLn L o rm nd) (h : RK rm nd o σ g a) (v : Int) : RK rm nd o (pf σ 16 4 v) g a := by
  have ho := hL.2.1
  have hF : ∀ p k' : Nat, ¬ (p = 16 ∧ k' = 4) → (pf σ 16 4 v).1 p k' = σ.1 p k' := fun p k' x => by rw [pf_1, if_neg x]
  have hR : ∀ r : Nat, ¬ (r < 0) → (pf σ 16 4 v).2 r = σ.2 r := fun _ _ => rfl
  exact (RK.mk' ho h kle.refl cle.refl cle.refl (h.1.dep ho (fun p k x => hF p k (by omega)) (fun r x => hR r (by omega))) (Or.inl ⟨fun k x y => hF 16 k (by omega), fun r x y => hR r (by omega), rfl⟩) (Or.inl ⟨hF 16 32 (by omega), fun r x y => hR r (by omega), rfl, rfl⟩) (Or.inl ⟨fun k x => hF 16 k (by omega), hR _ (by have := rf_1 ho; omega), rfl⟩) (Or.inl ⟨hF 16 20 (by omega), hF 16 24 (by omega), rfl⟩) (Or.inl ⟨hF 16 40 (by omega), hF 16 47 (by omega), hF 16 58 (by omega), fun r x => hR r (by omega), rfl⟩) (Or.inl ⟨hF 16 56 (by omega), hF 16 58 (by omega), fun r x y => hR r (by omega), rfl⟩) (Or.inl ⟨hF 16 34 (by omega), hR 187 (by omega), rfl⟩) (Or.inl ⟨hF o 7 (by omega), fun k x y => hR _ (by have := rf_3 ho x y; omega), rfl⟩) (Or.inl ⟨hF 16 64 (by omega), hF 16 66 (by omega), fun r x y => hR r (by omega), hR 181 (by omega), rfl, rfl, rfl⟩) (Or.inl ⟨hF o 14 (by omega), fun k x y => hR _ (by have := rf_8 ho x y; omega), rfl, rfl⟩) (Or.inl ⟨fun k x => hF o k (by omega), hR _ (by have := rf_1 ho; omega), rfl, rfl, rfl⟩) (hF 16 3 (by omega)) (Or.inl ⟨hF 16 18 (by omega), hR 178 (by omega), rfl, rfl, rfl, hF 16 47 (by omega), hF 16 58 (by omega), rfl, rfl⟩))
/-- the place of what comes next -/
theorem RK.at4 (hL : KLn L o rm nd) (h : RK rm nd o σ g a) : (if σ.1 16 14 = 1 then σ.1 16 16 else σ.1 16 18) = ((plc a : Nat) : Int) := by
  obtain ⟨p, q, t, hF', h1, h2, hK, hc, hS, hp⟩ := h.at_ hL
  obtain ⟨f1, f2, -, f4, -⟩ := h.2.1
  obtain ⟨k1, k2, -⟩ := h.pl
  unfold plc
  cases t with
  | nil =>
    rw [hF'] at f1 f4 ⊢
    have f4' : σ.2 178 0 = σ.1 16 17 := f4
    rw [if_pos (by rw [f1]; rfl)]
    show σ.1 16 16 = ((aN a 8 - (cur a).length : Nat) : Int)
    omega
  | cons x r =>
    have hl : 1 < (aF a).length := by rw [hF', List.length_cons, List.length_cons]; omega
    rw [if_neg (by omega), k2 hl, hF']
/-- whether the text has ended well -/
theorem RK.fin_ (hL : KLn L o rm nd) (h : RK rm nd o σ g a) : (¬ (σ.1 16 14) = 1 ∨ (¬ (σ.1 16 16) = (σ.1 16 17) ∨ (¬ (σ.1 16 19) = 3))) ↔ ¬ fin a = true := by
  obtain ⟨p, q, t, hF', h1, h2, hK, hc, hS, hp⟩ := h.at_ hL
  have f1 : σ.1 16 14 = ((aF a).length : Int) := h.2.1.1
  have h19 : σ.1 16 19 = (aN a 4 : Int) := h.2.2.2.1.2.2.2.1
  have hfin : fin a = true ↔ (cur a).length = 0 ∧ (aF a).length = 1 ∧ aN a 4 = 3 := by
    unfold fin
    rw [Bool.and_eq_true, Bool.and_eq_true, beq_iff_eq, beq_iff_eq, List.isEmpty_iff, List.length_eq_zero_iff, and_assoc]
  rw [hfin]
  constructor
  · rintro (z | z | z) ⟨y1, y2, y3⟩ <;> omega
  · intro z
    by_cases c1 : σ.1 16 14 = 1
    · by_cases c2 : σ.1 16 16 = σ.1 16 17
      · exact Or.inr (Or.inr (fun c3 => z ⟨by omega, by omega, by omega⟩))
      · exact Or.inr (Or.inl c2)
    · exact Or.inl c1
theorem sp_K_loop {N : Nat} (hL : KLn L o rm nd)
    (hI : ∀ a bk v, INV a bk v → bk.Nodup → GK rm nd a ∧ KW L o a ∧ kcL bk (stN rm a) ∧ (∀ k, k ≠ 22 → v k ≤ 300000000) ∧ aN a 1 ≤ 300000000 ∧ (kNs (aS a)).1 ≤ 120000)
    (hSt : ∀ a bk v a', INV a bk v → stp rm nd a = .inr a' → gmu rm a' < gmu rm a ∧ ∀ v', (∀ k, k ≠ 22 → v' k = v k + stV rm a k) → INV a' (kpL bk (stN rm a)) v')
    (h : RK rm nd o σ g a) (hC : KC rm g a) (hV : INV a (gB g) (gV g)) (hs : σ.1 16 15 + (gmu rm a : Int) ≤ 1000000) (hN : gmu rm a < N) (hR : R = arn rm nd N a)
    (hbad : ∀ (f p : Nat) ρ, R = .inl (f, p) → f ≠ 0 → ρ.1 16 3 = (f : Int) → ρ.1 16 4 = (p : Int) → Q 0 ρ)
    (hgood : ∀ a' ρ g', R = .inr a' → RK rm nd o ρ g' a' → KC rm g' a' → INV a' (gB g') (gV g') → fin a' = true → ((∀ a bk v, INV a bk v → aE a = []) → gC g' = gC g) → dyD (ρ.1 16 2) ∧ w_KReader_finish L (fun σ20 => Q 1 σ20) (pf (pf ρ 16 4 (-1)) (Int.toNat (ρ.1 16 2)) 21 (ρ.1 16 25))) : wLp L Q σ := by
  unfold wLp
  refine WL_ind2 (fun n _ ρ => (∃ (a : AS) (gg : KG) (N : Nat), n = gmu rm a + 1 ∧ RK rm nd o ρ gg a ∧ KC rm gg a ∧ INV a (gB gg) (gV gg) ∧ ρ.1 16 15 + (gmu rm a : Int) ≤ 1000000 ∧ gmu rm a < N ∧ R = arn rm nd N a ∧ ((∀ a bk v, INV a bk v → aE a = []) → gC gg = gC g)) ∨ (n = 0 ∧ ∃ f p : Nat, R = .inl (f, p) ∧ f ≠ 0 ∧ ρ.1 16 3 = (f : Int) ∧ ρ.1 16 4 = (p : Int))) ?_ (gmu rm a + 1) () σ (Or.inl ⟨a, g, N, rfl, h, hC, hV, hs, hN, hR, fun _ => rfl⟩)
  rintro n s12 ρ hcs K hK
  try dsimp only
  refine WJ_dir ?_
  generalize hg0 : gC g = cs at *
  rcases hcs with ⟨a, g, N, rfl, h, hC, hV, hs, hN, hR, hcs⟩ | ⟨-, f, p, e1, e2, e3, e4⟩
  · have f3 := h.f3
    rw [if_pos f3]
    obtain ⟨N, rfl⟩ : ∃ m, N = m + 1 := ⟨N - 1, by omega⟩
    have hR' : R = if fin a = true then .inr a else match stp rm nd a with
      | .inl f => .inl (f, plc a)
      | .inr a' => arn rm nd N a' := hR
    by_cases c : fin a = true
    · rw [if_neg (fun z => (h.fin_ hL).mp z c)]
      dsimp only
      rw [if_neg (by rw [f3]; decide)]
      rw [if_pos c] at hR'
      exact hgood a ρ g hR' h hC hV c hcs
    · rw [if_neg c] at hR'
      rw [if_pos ((h.fin_ hL).mpr c), h.at4 hL]
      have hnd : (gB g).Nodup := h.1.2.1
      obtain ⟨i1, i2, i3, i4, i5, -⟩ := hI a (gB g) (gV g) hV hnd
      refine sp_K_item hL (h.p4 hL _) i1 hC i2 i3 (fun k => ?_) (by rw [pf_nk (by decide)]; omega) (fun a' ha' => ?_) ⟨fun f hf σ' e3 e4 => ?_, fun a' ha' σ' g' y1 y2 yc y3 y4 y5 y6 => ?_⟩
      · by_cases ck : k = 22
        · rw [ck, hC.2.2.2]; exact i5
        · exact i4 k ck
      · have := (hSt a _ _ a' hV ha').2 (fun k => gV g k + stV rm a k) (fun _ _ => rfl)
        exact (hI a' _ _ this (kpL_nd hnd)).2.2.2.2.2
      · rw [hf] at hR'
        exact hK 0 () σ' (Or.inr ⟨rfl, f, plc a, hR', stp_f0 hf, e3, by rw [e4, pf_eq]⟩) (by omega)
      · rw [ha'] at hR'
        obtain ⟨z1, z2⟩ := hSt a _ _ a' hV ha'
        rw [pf_nk (by decide)] at y6
        refine hK (gmu rm a' + 1) () σ' (Or.inl ⟨a', g', N, rfl, y1, y4, by rw [y2]; exact z2 _ y3, by omega, by omega, hR', fun hA => (yc (hA _ _ _ (z2 _ y3))).trans (hcs hA)⟩) (by omega)
  · rw [if_neg (by omega)]
    dsimp only
    rw [if_pos (by omega)]
    exact hbad f p ρ e1 e2 e3 e4
/-- what holds while a document is read -/
def INVd (rm nd : Nat) (a : AS) (bk : List Str) (v : Nat → Nat) : Prop := GZ rm nd a bk ∧ ∀ k, k ≠ 22 → v k = vv a k
theorem INVd_1 (hrm : rm ≤ 98304) (hnd : nd ≤ 16384) (hL8 : 32768 ≤ L (rfo o 8)) : ∀ a bk v, INVd rm nd a bk v → bk.Nodup → GK rm nd a ∧ KW L o a ∧ kcL bk (stN rm a) ∧ (∀ k, k ≠ 22 → v k ≤ 300000000) ∧ aN a 1 ≤ 300000000 ∧ (kNs (aS a)).1 ≤ 120000 := by
  rintro a bk v ⟨h1, h2⟩ hn
  have hg := h1.gk hrm
  have he := h1.ev hrm
  exact ⟨hg, h1.kw hrm hnd hL8, h1.cap hrm hn, fun k hk => by rw [h2 k hk]; exact vv_le h1 hrm hnd, by have := hg.2.2.2.2.2.2.2.2.2.2; have := hg.1; omega, by omega⟩
theorem INVd_2 : ∀ a bk v a', INVd rm nd a bk v → stp rm nd a = .inr a' → gmu rm a' < gmu rm a ∧ ∀ v', (∀ k, k ≠ 22 → v' k = v k + stV rm a k) → INVd rm nd a' (kpL bk (stN rm a)) v' := by
  rintro a bk v a' ⟨h1, h2⟩ hs
  refine ⟨(stk a a' h1.1 hs).2.1, fun v' hv => ⟨h1.stpE hs, fun k hk => ?_⟩⟩
  rw [hv k hk, h2 k hk, vv_stp h1.1 h1.2.1 h1.2.2.1 hs]
end Klp
