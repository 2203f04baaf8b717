/-! ===== the reference: what was written is fed back ===== -/
section Kbk
variable {L : Nat → Nat} {σ : IS} {B P : List Int} {R : Int → IS → Prop}
theorem sp_K_back (hL : L 244 = 262144) (hL0 : L 165 = 65536) (hP : KPr σ P) (hB : KFd σ B) (hq : ∀ τ, BXk σ τ → (P.length ≠ 0 ∧ P.length ≤ 65536 → KFd τ (P.map (fun b => ia b 255)) → R (P.length : Int) τ) ∧ (¬ (P.length ≠ 0 ∧ P.length ≤ 65536) → KFd τ B → R (-1) τ)) : w_K_back L R σ := by
  obtain ⟨p4, pl, pr'⟩ := hP
  unfold w_K_back
  rw [p4]
  by_cases c : P.length ≠ 0 ∧ P.length ≤ 65536
  · rw [if_pos ⟨by omega, by omega⟩]
    refine WL_ind (fun s ρ => ∃ n : Nat, s = (n : Int) ∧ n ≤ P.length ∧ ρ.1 = (pf σ 12 11 0).1 ∧ (∀ r, r ≠ 165 → ρ.2 r = σ.2 r) ∧ ∀ j, j < n → ρ.2 165 j = nb (P.getD j 0)) (fun s _ => ((P.length : Int) - s).toNat) ?_ 0 _ ⟨0, rfl, Nat.zero_le _, rfl, fun _ _ => rfl, fun j hj => absurd hj (Nat.not_lt_zero j)⟩
    rintro s ρ ⟨n, rfl, hn, hf, hr, hz⟩ K hI
    have e9 : ρ.1 12 9 = (P.length : Int) := by rw [hf, pf_nk (by decide)]; exact p4
    try dsimp only
    rw [e9, show Int.toNat (n : Int) = n from rfl]
    by_cases cn : n < P.length
    · rw [if_pos (by omega), hr 244 (by decide), pr' n cn]
      refine ⟨⟨by omega, by omega⟩, ⟨by omega, by omega⟩, nb_in _, ⟨by omega, by omega⟩, hI _ _ ⟨n + 1, by omega, by omega, hf, fun r y => ?_, fun j hj => ?_⟩ (by omega)⟩
      · funext x
        rw [pr_2, if_neg (fun z => y z.1)]
        exact congrFun (hr r y) x
      · rw [pr_2]
        by_cases cj : j = n
        · rw [if_pos ⟨rfl, cj⟩, cj]
        · rw [if_neg (fun z => cj z.2)]; exact hz j (by omega)
    · rw [if_neg (by omega)]
      refine (hq (pf ρ 12 3 (P.length : Int)) ⟨fun p k z => ?_, ?_, fun r y => hr r y⟩).1 c ⟨by rw [pf_eq, List.length_map], by rw [List.length_map]; exact c.2, fun i hi => ?_, fun b hb => ?_⟩
      · rw [pf_1, if_neg (fun y => z ⟨y.1, by omega⟩), hf, pf_1, if_neg (fun y => z ⟨y.1, by omega⟩)]
      · rw [pf_nk (by decide), hf, pf_eq]
      · rw [List.length_map] at hi
        show ρ.2 165 i = _
        rw [hz i (by omega), List.getD_eq_getElem?_getD, List.getD_eq_getElem?_getD, List.getElem?_map, List.getElem?_eq_getElem hi]
        exact (nb_ia _).symm
      · obtain ⟨x, -, hx⟩ := List.mem_map.mp hb
        rw [← hx]
        exact byt_rg _
  · rw [if_neg (by omega)]
    exact (hq _ BXk.up).2 c hB.up
end Kbk
