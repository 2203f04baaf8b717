/-! ===== the validator: words of a value, the loop ===== -/
section VWd
variable {L : Nat → Nat} {ρ : IS} {Q : IS → Prop}
set_option maxHeartbeats 1000000 in
theorem sp_Validator_countWords {w ty tm : Nat} {seen : List Str} (hS : SI L ρ) (hl : SL L) (hw : w < jw ρ) (hse : ∀ v, v < jw ρ → (ρ.2 155 v = ρ.1 8 13 ↔ wst ρ v ∈ seen)) (hkn : ∀ s ∈ seen, ∃ v, v < jw ρ ∧ wst ρ v = s) (h149 : L 149 = 23) (hc : 0 ≤ ρ.2 149 (kw ty)) (hb : 2 ≤ ty ∧ ty ≤ 5 → ρ.2 149 (kw ty) + ((tm * pct (cfw seen ty) [] (wst ρ w) : Nat) : Int) ≤ 2000000000)
    (hq0 : ¬ (2 ≤ ty ∧ ty ≤ 5) → Q ρ) (hq : 2 ≤ ty ∧ ty ≤ 5 → ∀ ρ', VXc ρ ρ' (kw ty) ((tm * pct (cfw seen ty) [] (wst ρ w) : Nat) : Int) → Q ρ') : w_Validator_countWords L (w : Int) ((ty : Int) + 10) (tm : Int) Q ρ := by
  obtain ⟨l1, l2, e1, e2, l3⟩ := hS.word hl hw
  have l9 : L 101 < 1000000 := hl.2.2.2.2.2.2.2
  have e155 : L 102 = L 155 := hl.2.2.2.1
  have hj := hS.jw_le
  have hi1 : (if (ty : Int) + 10 = 12 then (1 : Int) else (if (ty : Int) + 10 = 13 then (1 : Int) else (0 : Int))) = if ty = 2 ∨ ty = 3 then 1 else 0 := by
    repeat' split
    all_goals omega
  have hi2 : (if (ty : Int) + 10 = 14 then (1 : Int) else (if (ty : Int) + 10 = 15 then (1 : Int) else (0 : Int))) = if ty = 4 ∨ ty = 5 then 1 else 0 := by
    repeat' split
    all_goals omega
  unfold w_Validator_countWords
  rw [hi1, hi2]
  by_cases c : 2 ≤ ty ∧ ty ≤ 5
  · have hb := hb c
    have hn0 : ¬ ((if ty = 2 ∨ ty = 3 then (1 : Int) else 0) = 0 ∧ (if ty = 4 ∨ ty = 5 then (1 : Int) else 0) = 0) := by
      rintro ⟨y1, y2⟩
      split at y1 <;> split at y2 <;> omega
    rw [if_neg hn0, show Int.toNat (w : Int) = w from rfl, e1, e2]
    refine ⟨⟨by omega, by omega⟩, ⟨by omega, by omega⟩, ⟨by omega, by omega⟩, ⟨by omega, by omega⟩, ?_⟩
    generalize hT : ρ.2 101 = T at *
    generalize hfb : wfr ρ w = b at *
    generalize hsn : wsz ρ w = n at *
    have hst : wst ρ w = sl T b n := by unfold wst; rw [hT, hfb, hsn]
    have hln : (wst ρ w).length = n := by rw [hst, sl_ln]
    have hcl := cfw_le (seen := seen) (ty := ty)
    have hpl := pct_le hcl (wst ρ w) []
    generalize hk0 : kw ty = k0 at *
    have hbx : ∀ X : Nat, X ≤ pct (cfw seen ty) [] (wst ρ w) → ρ.2 149 k0 + ((tm * X : Nat) : Int) ≤ 2000000000 := fun X hX => by
      have := Nat.mul_le_mul_left tm hX
      omega
    have hdr : ∀ i, b ≤ i → i < b + n → (wst ρ w).drop (i - b) = T i :: (wst ρ w).drop (i + 1 - b) := fun i y1 y2 => by
      rw [hst, sl_drop2, sl_drop2, show n - (i - b) = (n - (i + 1 - b)) + 1 by omega, sl_cons2, show b + (i - b) = i by omega, show b + (i + 1 - b) = i + 1 by omega]
    refine WL_ind (fun z ρ1 => ∃ f i X : Nat, z = ((f : Int), (i : Int)) ∧ b ≤ f ∧ f ≤ i ∧ i ≤ b + n + 1 ∧ X ≤ pct (cfw seen ty) [] (wst ρ w) ∧ VXc ρ ρ1 k0 ((tm * X : Nat) : Int) ∧ (i ≤ b + n → X + pct (cfw seen ty) (sl T f (i - f)) ((wst ρ w).drop (i - b)) = pct (cfw seen ty) [] (wst ρ w)) ∧ (b + n < i → X = pct (cfw seen ty) [] (wst ρ w))) (fun z _ => (b + n + 1 - z.2).toNat) ?_ _ ρ ⟨b, b, 0, rfl, Nat.le_refl _, Nat.le_refl _, by omega, by omega, VXc.refl, fun _ => ?_, fun y => by omega⟩
    · rintro _ ρ1 ⟨f, i, X, rfl, hf, hfi, hi, hX, hV, h1, h2⟩ K hK
      dsimp only at hK ⊢
      by_cases ci : b + n < i
      · rw [if_pos (by omega)]
        rw [h2 ci] at hV
        exact hq c ρ1 hV
      · rw [if_neg (by omega)]
        have h1' := h1 (by omega)
        refine WJ_dir ⟨fun _ => ⟨by omega, by omega⟩, ?_⟩
        rw [hV.2.1 101 (by decide), hT, show Int.toNat (i : Int) = i from rfl]
        have hacc : sl T f (i - f) = [] ↔ ¬ f < i := by rw [sl_nil]; omega
        by_cases cs : i = b + n ∨ T i = 32
        · rw [if_pos (cs.imp (fun y => by omega) id)]
          -- the piece
          have hX' : X + (if f < i then cfw seen ty (sl T f (i - f)) else 0) ≤ pct (cfw seen ty) [] (wst ρ w) ∧ (i + 1 ≤ b + n → X + (if f < i then cfw seen ty (sl T f (i - f)) else 0) + pct (cfw seen ty) [] ((wst ρ w).drop (i + 1 - b)) = pct (cfw seen ty) [] (wst ρ w)) ∧ (b + n < i + 1 → X + (if f < i then cfw seen ty (sl T f (i - f)) else 0) = pct (cfw seen ty) [] (wst ρ w)) := by
            have hif : (if sl T f (i - f) = [] then 0 else cfw seen ty (sl T f (i - f))) = (if f < i then cfw seen ty (sl T f (i - f)) else 0) := by
              by_cases y : f < i
              · rw [if_pos y, if_neg (fun z => hacc.mp z y)]
              · rw [if_neg y, if_pos (hacc.mpr y)]
            by_cases ce : i = b + n
            · have hd : (wst ρ w).drop (i - b) = [] := List.drop_eq_nil_of_le (by omega)
              rw [hd] at h1'
              have : pct (cfw seen ty) (sl T f (i - f)) [] = (if f < i then cfw seen ty (sl T f (i - f)) else 0) := by rw [← hif]; rfl
              rw [this] at h1'
              exact ⟨by omega, fun y => by omega, fun _ => h1'⟩
            · have h32 : T i = 32 := cs.resolve_left ce
              rw [hdr i (by omega) (by omega), h32] at h1'
              have : pct (cfw seen ty) (sl T f (i - f)) ((32 : Int) :: (wst ρ w).drop (i + 1 - b)) = (if f < i then cfw seen ty (sl T f (i - f)) else 0) + pct (cfw seen ty) [] ((wst ρ w).drop (i + 1 - b)) := by
                rw [← hif]; rfl
              rw [this] at h1'
              exact ⟨by omega, fun _ => by omega, fun y => by omega⟩
          generalize hy : (if f < i then cfw seen ty (sl T f (i - f)) else 0) = y at *
          refine WJ_of (fun (_ : Unit) ρ2 => VXc ρ ρ2 k0 ((tm * (X + y) : Nat) : Int)) (fun J hJ => ?_) ?_
          · have hmul : ((tm * (X + y) : Nat) : Int) = ((tm * X : Nat) : Int) + ((tm * y : Nat) : Int) := by rw [Nat.mul_add, Int.natCast_add]
            have hbY : ρ.2 149 k0 + (((tm * X : Nat) : Int) + ((tm * y : Nat) : Int)) ≤ 2000000000 := by rw [← hmul]; exact hbx (X + y) hX'.1
            have h21 : 0 ≤ ρ.2 149 k0 := hc
            have e21 := hV.2.2 k0
            rw [if_pos rfl] at e21
            by_cases cf : f < i
            · rw [if_pos cf] at hy
              by_cases c45 : ty = 4 ∨ ty = 5
              · have hk : k0 = 21 := by rw [← hk0]; unfold kw; rw [if_pos c45]
                have y1 : y = 1 := by rw [← hy]; unfold cfw; rw [if_pos c45]
                rw [if_pos ⟨by omega, by rw [if_pos c45]; decide⟩, show Int.toNat 21 = 21 from rfl]
                rw [y1, Nat.mul_one] at hmul hbY
                generalize tm * X = tx at *
                rw [hk] at e21 h21 hbY
                refine ⟨⟨by omega, by omega⟩, ⟨by omega, by omega⟩, ⟨by omega, by omega⟩, hJ () _ ?_⟩
                rw [y1, hmul, ← hk]
                exact hV.add rfl
              · have hk : k0 = 12 := by rw [← hk0]; unfold kw; rw [if_neg c45]
                rw [if_neg (fun z => z.2 (if_neg c45)), if_pos (by omega)]
                have hyv : y = if sl T f (i - f) ∈ seen then 0 else 1 := by rw [← hy]; unfold cfw; rw [if_neg c45]
                have hadd : ∀ (h13 x : Int), x = ((tm * y : Nat) : Int) → J () (pr (pf ρ1 1 13 h13) 149 12 ((pf ρ1 1 13 h13).2 149 12 + x)) := fun h13 x hx => by
                  refine hJ () _ ?_
                  rw [hmul, ← hk]
                  exact (hV.p13 (y := h13)).add (by rw [hx])
                have hbz : ∀ (h13 x : Int), x = ((tm * y : Nat) : Int) → inR ((pf ρ1 1 13 h13).2 149 12 + x) := fun h13 x hx => by
                  rw [hk] at e21 h21 hbY
                  show inR (ρ1.2 149 12 + x)
                  rw [e21, hx]
                  exact ⟨by omega, by omega⟩
                have hsl : sl (ρ1.2 101) (f : Int).toNat ((i : Int) - (f : Int)).toNat = sl T f (i - f) := by rw [hV.2.1 101 (by decide), hT, show ((i : Int) - (f : Int)).toNat = i - f by omega]; rfl
                refine ⟨⟨by omega, by omega⟩, sp_Store_find (hV.si hS) hl ⟨by omega, by omega, by omega⟩ (fun v hv hvs => ?_) (fun hno => ?_)⟩
                · rw [show Int.toNat 12 = 12 from rfl, show Int.toNat (v : Int) = v from rfl]
                  have hvj : v < jw ρ := by rw [hV.1 1 14 (by omega)] at hv; omega
                  have hvs' : wst ρ v = sl T f (i - f) := by rw [← hV.wstE, hvs, hsl]
                  have hval : ∀ h13 : Int, (if (v : Int) = -1 then (tm : Int) else if (pf ρ1 1 13 h13).2 155 v = (pf ρ1 1 13 h13).1 8 13 then (0 : Int) else (tm : Int)) = ((tm * y : Nat) : Int) := fun h13 => by
                    rw [if_neg (by omega), pf_2, pf_no (by decide), hV.2.1 155 (by decide), hV.1 8 13 (by omega), hyv]
                    by_cases z : sl T f (i - f) ∈ seen
                    · rw [if_pos ((hse v hvj).mpr (by rw [hvs']; exact z)), if_pos z]; simp
                    · rw [if_neg (fun q => z (by rw [← hvs']; exact (hse v hvj).mp q)), if_neg z, Nat.mul_one]
                  exact ⟨⟨by omega, by omega⟩, fun _ => ⟨by omega, by omega⟩, hbz _ _ (hval _), ⟨by omega, by omega⟩, hadd _ _ (hval _)⟩
                · rw [show Int.toNat 12 = 12 from rfl]
                  have hns : ¬ sl T f (i - f) ∈ seen := fun z => by
                    obtain ⟨v, hv1, hv2⟩ := hkn _ z
                    refine hno v (by rw [hV.1 1 14 (by omega)]; omega) ?_
                    rw [hV.wstE, hv2, hsl]
                  have hval : ∀ x : Int, (if (-1 : Int) = -1 then (tm : Int) else x) = ((tm * y : Nat) : Int) := fun x => by rw [if_pos rfl, hyv, if_neg hns, Nat.mul_one]
                  exact ⟨⟨by omega, by omega⟩, fun z => absurd rfl z, hbz _ _ (hval _), ⟨by omega, by omega⟩, hadd _ _ (hval _)⟩
            · rw [if_neg cf] at hy
              rw [if_neg (fun z => cf (by omega)), if_neg (by omega)]
              refine hJ () ρ1 ?_
              rw [← hy, Nat.add_zero]
              exact hV
          · rintro _ ρ2 hV2
            refine ⟨⟨by omega, by omega⟩, ⟨by omega, by omega⟩, hK _ _ ⟨i + 1, i + 1, X + y, rfl, by omega, Nat.le_refl _, by omega, by omega, hV2, fun z => ?_, hX'.2.2⟩ (by dsimp only; omega)⟩
            rw [Nat.sub_self, sl_zero]
            exact hX'.2.1 z
        · rw [if_neg (fun y => cs (y.imp (fun y => by omega) id))]
          refine ⟨⟨by omega, by omega⟩, hK _ _ ⟨f, i + 1, X, rfl, hf, by omega, by omega, hX, hV, fun z => ?_, fun z => by omega⟩ (by dsimp only; omega)⟩
          rw [← h1', hdr i (by omega) (by omega), show i + 1 - f = (i - f) + 1 by omega, sl_succ, show f + (i - f) = i by omega]
          have : pct (cfw seen ty) (sl T f (i - f)) (T i :: (wst ρ w).drop (i + 1 - b)) = pct (cfw seen ty) (sl T f (i - f) ++ [T i]) ((wst ρ w).drop (i + 1 - b)) := by
            show (if T i = 32 then _ else _) = _
            rw [if_neg (fun y => cs (Or.inr y))]
          rw [this]
    · rw [Nat.sub_self, sl_zero, List.drop_zero, Nat.zero_add]
  · have h0 : (if ty = 2 ∨ ty = 3 then (1 : Int) else 0) = 0 ∧ (if ty = 4 ∨ ty = 5 then (1 : Int) else 0) = 0 := ⟨if_neg (by omega), if_neg (by omega)⟩
    rw [if_pos h0]
    exact hq0 c
end VWd
