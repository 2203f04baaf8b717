/-! ===== the validator: values and their types; the sum ===== -/
section Vm
variable {L : Nat → Nat} {σ : IS} {Q : Int → IS → Prop}
theorem is01_b1 {b : Bool} : is01 (b1 b) := by cases b <;> decide
theorem sp_Validator_isAsWanted {w d b t : Nat} {lst : List Str} (hS : SI L σ) (hl : SL L) (hw : w < jw σ) (hd : d < L 118 ∧ d < L 121 ∧ d < L 122) (h118 : σ.2 118 d = (t : Int) + 10) (h121 : σ.2 121 d = (b : Int)) (h122 : σ.2 122 d = (lst.length : Int)) (hb : b + lst.length ≤ L 124) (h9 : L 124 < 1000000) (hj : ∀ k, k < lst.length → Jn σ (σ.2 124 (b + k)) (lst.getD k [])) (hq : Q (b1 (asW t lst (wst σ w))) σ) : w_Validator_isAsWanted L (w : Int) (d : Int) Q σ := by
  unfold w_Validator_isAsWanted
  rw [show Int.toNat (d : Int) = d from rfl, h118]
  refine ⟨⟨by omega, by omega⟩, ?_⟩
  have hm : ∀ (nm sv : Bool), asW t lst (wst σ w) = mdo nm sv true (wst σ w) → w_Validator_isMadeOf L (w : Int) (b1 nm) (b1 sv) (fun v σ' => is01 v ∧ Q v σ') σ := fun nm sv e => sp_Validator_isMadeOf hS hl hw rfl rfl ⟨is01_b1, by rw [← e]; exact hq⟩
  unfold asW at hm
  by_cases c0 : t = 0
  · rw [if_pos (by omega)]
    unfold asW at hq
    rw [if_pos c0] at hq
    exact hq
  rw [if_neg (by omega)]
  rw [if_neg c0] at hm
  by_cases c1 : t = 1
  · rw [if_pos (by omega)]
    exact hm true false (by rw [if_pos (by omega)])
  rw [if_neg (by omega)]
  by_cases c2 : t = 2
  · rw [if_pos (by omega)]
    exact hm true false (by rw [if_pos (by omega)])
  rw [if_neg (by omega)]
  by_cases c3 : t = 3
  · rw [if_pos (by omega)]
    exact hm true true (by rw [if_neg (by omega), if_pos (by omega)])
  rw [if_neg (by omega)]
  by_cases c4 : t = 4
  · rw [if_pos (by omega)]
    exact hm true false (by rw [if_pos (by omega)])
  rw [if_neg (by omega)]
  by_cases c5 : t = 5
  · rw [if_pos (by omega)]
    exact hm true true (by rw [if_neg (by omega), if_pos (by omega)])
  rw [if_neg (by omega)]
  by_cases c6 : t = 6
  · rw [if_pos (by omega)]
    exact hm false false (by rw [if_neg (by omega), if_neg (by omega), if_pos (by omega)])
  rw [if_neg (by omega)]
  by_cases c7 : t = 7
  · rw [if_pos (by omega)]
    exact hm false true (by rw [if_neg (by omega), if_neg (by omega), if_neg (by omega), if_pos (by omega)])
  rw [if_neg (by omega)]
  refine sp_Validator_isListed hS hw hd.2 h121 h122 hb h9 hj ⟨is01_b1, ?_⟩
  unfold asW at hq
  rw [if_neg c0, if_neg (by omega), if_neg (by omega), if_neg (by omega), if_neg (by omega)] at hq
  exact hq
theorem sp_Validator_sum (h149 : L 149 = 23) (hq : ∀ v : Int, (v = 0 ↔ ∀ k, k < 23 → ¬ 0 < σ.2 149 k) → Q v σ) : w_Validator_sum L Q σ := by
  unfold w_Validator_sum
  refine WL_ind (fun s τ => σ = τ ∧ ∃ k v : Nat, s = ((v : Int), (k : Int)) ∧ k ≤ 23 ∧ v ≤ k ∧ (v = 0 ↔ ∀ j, j < k → ¬ 0 < σ.2 149 j)) (fun s _ => (23 - s.2).toNat) ?_ (0, 0) σ ⟨rfl, 0, 0, rfl, by omega, by omega, ⟨fun _ j h => absurd h (Nat.not_lt_zero j), fun _ => rfl⟩⟩
  rintro _ _ ⟨rfl, k, v, rfl, hk, hv, hz⟩ K hK
  dsimp only at hK ⊢
  by_cases c : k < 23
  · rw [if_pos (by omega), show Int.toNat (k : Int) = k from rfl]
    by_cases c1 : 0 < σ.2 149 k
    · rw [if_pos c1]
      refine ⟨⟨by omega, by omega⟩, ⟨by omega, by omega⟩, ⟨by omega, by omega⟩, hK _ _ ⟨rfl, k + 1, v + 1, rfl, by omega, by omega, ⟨fun y => by omega, fun y => absurd c1 (y k (by omega))⟩⟩ (by dsimp only; omega)⟩
    · rw [if_neg c1]
      refine ⟨⟨by omega, by omega⟩, ⟨by omega, by omega⟩, ⟨by omega, by omega⟩, hK _ _ ⟨rfl, k + 1, v, by rw [Int.add_zero]; rfl, by omega, by omega, ⟨fun y j hj => ?_, fun y => hz.mpr (fun j hj => y j (by omega))⟩⟩ (by dsimp only; omega)⟩
      by_cases cj : j = k
      · rw [cj]; exact c1
      · exact hz.mp y j (by omega)
  · rw [if_neg (by omega)]
    have ek : k = 23 := by omega
    refine hq _ ⟨fun y => ?_, fun y => ?_⟩
    · rw [← ek]; exact hz.mp (by omega)
    · rw [hz.mpr (by rw [ek]; exact y)]; rfl
end Vm
