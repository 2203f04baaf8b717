/-! ===== the letters of what is written (pure) ===== -/
section Rt18
variable {el : List Elm} {at_ : List Att} {S : List Evt}
def chN (s : Str) : Prop := ∀ c ∈ s, isCh c = true ∧ c ≠ 13
theorem chN_app {s t : Str} (h1 : chN s) (h2 : chN t) : chN (s ++ t) := fun c hc => by
  rcases List.mem_append.mp hc with z | z
  · exact h1 c z
  · exact h2 c z
theorem chN_cons {c : Int} {s : Str} (h1 : isCh c = true ∧ c ≠ 13) (h2 : chN s) : chN (c :: s) := fun d hd => by
  rcases List.mem_cons.mp hd with z | z
  · rw [z]; exact h1
  · exact h2 d z
theorem chN_nil : chN [] := fun c hc => by cases hc
theorem chN_fm {f : Int → Str} {s : Str} (h : ∀ c ∈ s, chN (f c)) : chN (s.flatMap f) := fun d hd => by
  obtain ⟨c, c1, c2⟩ := List.mem_flatMap.mp hd
  exact h c c1 d c2
theorem lgn_N {s : Str} (h : lgn s) : chN s := fun c hc => by
  have := isNm_nE (h.2 c hc)
  exact ⟨this.2.2.2.2, this.2.2.1⟩
theorem wAt_N {t : Att} (h : lgn t.1 ∧ chz t.2.1) : chN (wAt t) := by
  unfold wAt
  rw [ti_1085]
  exact chN_app (by unfold chN; decide) (chN_app (lgn_N h.1) (chN_app (by unfold chN; decide) (chN_app (chN_fm (fun c hc => escL_ch (h.2 c hc))) (by unfold chN; decide))))
theorem crE_N {c : Int} (h : isCh c = true) : chN (crE c) := by
  unfold crE
  split
  · rw [ti_1088]; unfold chN; decide
  · rename_i c13
    exact chN_cons ⟨h, c13⟩ chN_nil
theorem wPi_N {op bh : Bool} {t s : Str} (h : PIg t s) : chN (wPi op bh t s) := by
  rw [wPi_C]
  refine chN_app ?_ (chN_app ?_ ?_)
  · split
    · unfold chN; decide
    · exact chN_nil
  · unfold wPiC
    refine chN_app (by unfold chN; decide) (chN_app (lgn_N h.1) (chN_app ?_ (chN_app (chN_fm (fun c hc => crE_N (h.2.2.2.2 c hc))) (by unfold chN; decide))))
    split
    · exact chN_nil
    · unfold chN; decide
  · split
    · unfold chN; decide
    · exact chN_nil
theorem wrS_N (hc : RTc el at_ S) : ∀ (r : List Evt) (sk : List Nat) (m : Nat), (∀ v ∈ r, v ∈ S) → (∀ e ∈ sk, e < el.length) → (∃ q, stR (el.map (fun x => x.2.1)) r (sk, m) = some q) → chN (wrS el at_ r sk m)
  | [], sk, m, _, _, _ => chN_nil
  | .inr (t, s) :: r, sk, m, hS, hk, hq => by
    rw [wrS_pi]
    exact chN_app (wPi_N (hc.2.2.1 t s (hS _ List.mem_cons_self))) (wrS_N hc r sk m (fun v hv => hS v (List.mem_cons_of_mem _ hv)) hk hq)
  | .inl c :: r, sk, m, hS, hk, ⟨q, hq⟩ => by
    have hS' : ∀ v ∈ r, v ∈ S := fun v hv => hS v (List.mem_cons_of_mem _ hv)
    rw [wrS_c]
    rw [stR_c] at hq
    by_cases c1 : c = -1
    · rw [if_pos c1] at hq ⊢
      cases sk with
      | nil => cases hq
      | cons e sk =>
        dsimp only at hq ⊢
        refine chN_app ?_ (wrS_N hc r sk m hS' (fun x hx => hk x (List.mem_cons_of_mem _ hx)) ⟨q, hq⟩)
        unfold wEn
        rw [ti_1086]
        exact chN_app (by unfold chN; decide) (chN_app (lgn_N (hc.2.1 e (hk e List.mem_cons_self)).1) (by unfold chN; decide))
    · rw [if_neg c1] at hq ⊢
      by_cases c2 : c < 0
      · rw [if_pos c2] at hq ⊢
        split at hq
        · rename_i hcc
          have hm : m < el.length := by have := hcc.2.1; rw [List.length_map] at this; exact this
          refine chN_app ?_ (wrS_N hc r (m :: sk) (m + 1) hS' (fun x hx => ?_) ⟨q, hq⟩)
          · rw [wTg_tag]
            unfold wTag
            refine chN_cons (by decide) (chN_app (lgn_N (hc.2.1 m hm).1) (chN_app ?_ (by unfold chN; decide)))
            intro d hd
            obtain ⟨t, t1, t2⟩ := List.mem_flatMap.mp hd
            exact wAt_N ((WQa_ok hc hm).1 t t1) d t2
          · rcases List.mem_cons.mp hx with z | z
            · rw [z]; exact hm
            · exact hk x z
        · cases hq
      · rw [if_neg c2] at hq ⊢
        refine chN_app ?_ (wrS_N hc r sk m hS' hk ⟨q, hq⟩)
        rcases hc.2.2.2.1 (.inl c) (hS _ List.mem_cons_self) c rfl with z | z
        · omega
        · exact escL_ch z
theorem nle_id {w : List Int} (h : ∀ c ∈ w, c ≠ 13) : nle w = w := by
  have key : ∀ (w acc : List Int), (∀ c ∈ w, c ≠ 13) → (w.foldl nlc (acc, false)) = (acc ++ w, false) := fun w => by
    induction w with
    | nil => intro acc _; rw [List.append_nil]; rfl
    | cons c w ih =>
      intro acc hw
      have h1 := hw c List.mem_cons_self
      have h2 : nlc (acc, false) c = (acc ++ [c], false) := by
        unfold nlc
        dsimp only
        rw [if_neg (fun z => by cases z.2), if_neg h1, decide_eq_false h1]
      rw [List.foldl_cons, h2, ih _ (fun d hd => hw d (List.mem_cons_of_mem _ hd)), List.append_assoc]
      rfl
  unfold nle
  rw [key w [] h]
  rfl
end Rt18
