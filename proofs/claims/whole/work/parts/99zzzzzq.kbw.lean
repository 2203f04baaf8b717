/-! ===== the reference: a list in brackets, whole ===== -/
section Kbw
variable {L : Nat → Nat} {rm nd o : Nat} {σ ρ τ : IS} {g g' : KG} {R : Int → IS → Prop} {T : Nat → Int} {p e : Nat} {x : Int} {l : List Str}
/-- the names of a list, if it begins at all -/
def brW (T : Nat → Int) (e : Nat) (b : Bool) (q : Option Nat) : List Str := match wd T e [40] q with
  | none => []
  | some w => brN T e b w
theorem sp_K_bracketed {bb : Bool} {b : Nat} {a2 : Int} (q : Option Nat) (hL : KLn L o rm nd) (h : KZ rm nd o σ g) (hq0 : KLq σ (gB g) b l) (hK : KT L σ (p + e)) (hS : SHT T (σ.2 176) e p) (hx : x = enc (mvo p q)) (hqe : ple e q) (ha : a2 = b1 bb) (hroom : b + l.length + (brW T e bb q).length ≤ 50000) (hcap : kcL (gB g) (brW T e bb q)) (hq : ∀ τ g2, KZ rm nd o τ g2 → gB g2 = kpL (gB g) (brW T e bb q) → g2.2 = g.2 → KLq τ (gB g2) b (l ++ brW T e bb q) → (∀ p k, ¬ ((p = 13 ∧ (k = 1 ∨ k = 6)) ∨ (p = 16 ∧ k = 58)) → τ.1 p k = σ.1 p k) → (∀ r, ¬ (211 ≤ r ∧ r ≤ 215) → r ≠ 207 → τ.2 r = σ.2 r) → (∀ i, i < b + l.length → τ.2 207 i = σ.2 207 i) → R (enc (mvo p (brt T e bb q))) τ) : w_KReader_bracketed L x a2 R σ := by
  unfold w_KReader_bracketed
  refine kr_word hK hS q hx hqe ti_1127 ?_
  have ebt : brt T e bb q = (wd T e [40] q).bind (brk T e bb (e + 1)) := rfl
  unfold brW at hroom hcap hq
  cases hw : wd T e [40] q with
  | none =>
    rw [hw] at ebt hq
    have ebt' : brt T e bb q = none := ebt
    rw [ebt'] at hq
    refine WL_ind (fun s ρ => s = -1 ∧ ρ = σ) (fun _ _ => 0) ?_ _ σ ⟨rfl, rfl⟩
    rintro s ρ ⟨rfl, rfl⟩ K hI
    rw [if_pos (by decide)]
    exact hq ρ g h rfl rfl (by rw [List.append_nil]; exact hq0) (fun _ _ _ => rfl) (fun _ _ _ => rfl) (fun _ _ => rfl)
  | some w =>
    rw [hw] at ebt hq hroom hcap
    have ebt' : brt T e bb q = brk T e bb (e + 1) w := ebt
    rw [ebt'] at hq
    exact sp_K_brk hL h hq0 hK hS (wdl_le ti_1127 hqe _ hw) ha hroom hcap hq
end Kbw
