/-! ===== the reference: lists of names ===== -/
/-- names in the row of lists, the last ones -/
def KLq (σ : IS) (bk : List Str) (b : Nat) (l : List Str) : Prop := σ.1 16 58 = ((b + l.length : Nat) : Int) ∧ ∀ k, k < l.length → Kn bk (σ.2 207 (b + k)) (l.getD k [])
section Kls
variable {L : Nat → Nat} {rm nd o : Nat} {σ ρ τ : IS} {g g' : KG} {Q : IS → Prop} {R : Int → IS → Prop} {T : Nat → Int} {p e : Nat} {x y : Int} {s : Str} {l : List Str}
theorem sp_K_list {n b : Nat} (hL : KLn L o rm nd) (h : KZ rm nd o σ g) (hq0 : KLq σ (gB g) b l) (hroom : b + l.length < 50000) (hpn : p + n ≤ 262144) (hx : x = (p : Int)) (hy : y = ((p + n : Nat) : Int)) (hs : sl (σ.2 176) p n = s) (hcap : kcS (gB g) s) (hq : ∀ τ, KZ rm nd o τ (kpS (gB g) s, g.2) → KLq τ (kpS (gB g) s) b (l ++ [s]) → (∀ p k, ¬ ((p = 13 ∧ (k = 1 ∨ k = 6)) ∨ (p = 16 ∧ k = 58)) → τ.1 p k = σ.1 p k) → (∀ r, ¬ (211 ≤ r ∧ r ≤ 215) → r ≠ 207 → τ.2 r = σ.2 r) → (∀ i, i < b + l.length → τ.2 207 i = σ.2 207 i) → Q τ) : w_KReader_list L x y Q σ := by
  subst hx hy
  have ho := hL.2.1
  have r1 := rf_1 ho
  have l176 := hL.2.2.2.1
  have l207 : L 207 = 50000 := hL.2.2.2.2.2.2.2.2.2.2.2.1
  have hdo : σ.1 16 2 = (o : Int) := h.2.2.2.2.1.1
  obtain ⟨h1, h2⟩ := hq0
  unfold w_KReader_list
  rw [show ((p + n : Nat) : Int) - (p : Int) = (n : Int) by omega]
  refine ⟨⟨by omega, by omega⟩, ⟨by show σ.1 16 2 = 14 ∨ σ.1 16 2 = 15; omega, sp_K_bkZ (p := p) (n := n) hL h (Or.inl (by decide)) ⟨by omega, by omega⟩ rfl rfl hs hcap (fun v τ w1 w2 w3 => ?_)⟩⟩
  have t58 : τ.1 16 58 = ((b + l.length : Nat) : Int) := by rw [w3.1 16 58 (by omega)]; exact h1
  dsimp only
  rw [h1, t58, show Int.toNat ((b + l.length : Nat) : Int) = b + l.length from rfl]
  refine ⟨⟨by omega, by omega⟩, ⟨by omega, by omega⟩, ?_⟩
  have wR : ∀ r, ¬ (211 ≤ r ∧ r ≤ 215) → τ.2 r = σ.2 r := fun r z => funext (fun i => w3.2 r i (by omega))
  refine hq _ ?_ ⟨?_, fun k hk => ?_⟩ (fun pp kk z => ?_) (fun r z1 z2 => ?_) (fun i hi => ?_)
  · exact w2.dep ho (fun pp kk z => by rw [pf_1, if_neg (by omega), pr_1]) (fun r z => by funext i; rw [pf_2, pr_2, if_neg (by omega)])
  · rw [pf_eq, List.length_append, List.length_singleton]; omega
  · rw [List.length_append, List.length_singleton] at hk
    rw [pf_2, pr_2, getD_snoc]
    by_cases c : k = l.length
    · rw [if_pos ⟨rfl, by omega⟩, if_neg (by omega), if_pos c]
      exact w1
    · rw [if_neg (by omega), if_pos (by omega), wR 207 (by omega)]
      exact (h2 k (by omega)).kp
  · rw [pf_1, if_neg (by omega), pr_1]
    exact w3.1 pp kk (by omega)
  · funext i
    rw [pf_2, pr_2, if_neg (fun y => z2 y.1), wR r z1]
  · rw [pf_2, pr_2, if_neg (by omega), wR 207 (by omega)]
theorem kr_often {i : Nat} (hK : KT L σ (p + e)) (hS : SHT T (σ.2 176) e p) (hx : x = ((p + i : Nat) : Int)) (hi : i ≤ e) (h : R ((p + oft T e i : Nat) : Int) σ) : w_KReader_often L x R σ := by
  subst hx
  have hK2 := hK.2.2
  unfold w_KReader_often
  refine kr_look hK hS i rfl ?_
  refine ⟨⟨fun _ => ⟨by omega, by omega⟩, fun _ => ⟨fun _ => ⟨by omega, by omega⟩, fun _ _ => ⟨by omega, by omega⟩⟩⟩, ?_⟩
  have e1 : (if lk T e i = 63 then (((p + i : Nat) : Int) + 1) else (if lk T e i = 42 then (((p + i : Nat) : Int) + 1) else (if lk T e i = 43 then (((p + i : Nat) : Int) + 1) else ((p + i : Nat) : Int)))) = ((p + oft T e i : Nat) : Int) := by
    unfold oft
    by_cases c1 : lk T e i = 63
    · rw [if_pos c1, if_pos (Or.inl c1)]; omega
    · rw [if_neg c1]
      by_cases c2 : lk T e i = 42
      · rw [if_pos c2, if_pos (Or.inr (Or.inl c2))]; omega
      · rw [if_neg c2]
        by_cases c3 : lk T e i = 43
        · rw [if_pos c3, if_pos (Or.inr (Or.inr c3))]; omega
        · rw [if_neg c3, if_neg (fun z => z.elim c1 (fun z => z.elim c2 c3))]
  rw [e1]
  exact h
end Kls
