/-! ===== the stream is well nested, letters are characters, names in a tag are different (pure) ===== -/
/-- the stream gone through: what is not ended, how many elements began -/
def stR (pl : List Int) : List Evt → List Nat × Nat → Option (List Nat × Nat)
  | [], s => some s
  | .inr _ :: r, s => stR pl r s
  | .inl c :: r, (st, m) => if c = -1 then (match st with
      | [] => none
      | _ :: t => stR pl r (t, m)) else if c < 0 then (if c = -3 - (m : Int) ∧ m < pl.length ∧ pl.getD m 0 = opn st then stR pl r (m :: st, m + 1) else none) else stR pl r (st, m)
def pls (a : AS) : List Int := (aL a).map (fun x => x.2.1)
def GW (a : AS) : Prop := (∀ c, ltA a c → isCh c = true) ∧ stR (pls a) (aS a) ([], 0) = some (aO a, (aL a).length) ∧ ∀ v ∈ aS a, ∀ c, v = .inl c → c < 0 ∨ isCh c = true
section Str
variable {rm nd n : Nat} {B : Nat → Int} {a a' : AS} {pl : List Int}
theorem isCh_pos {c : Int} (h : isCh c = true) : 9 ≤ c := by
  unfold isCh inI at h
  simp only [Bool.or_eq_true, Bool.and_eq_true, beq_iff_eq, decide_eq_true_eq] at h
  omega
theorem stR_app : ∀ (l l' : List Evt) (s : List Nat × Nat), stR pl (l ++ l') s = (stR pl l s).bind (stR pl l') := by
  intro l
  induction l with
  | nil => intro l' s; rfl
  | cons v r ih =>
    intro l' s
    obtain ⟨st, m⟩ := s
    cases v with
    | inr q => exact ih l' (st, m)
    | inl c =>
      show (if c = -1 then (match st with
        | [] => none
        | _ :: t => stR pl (r ++ l') (t, m)) else if c < 0 then (if c = -3 - (m : Int) ∧ m < pl.length ∧ pl.getD m 0 = opn st then stR pl (r ++ l') (m :: st, m + 1) else none) else stR pl (r ++ l') (st, m)) = (if c = -1 then (match st with
        | [] => none
        | _ :: t => stR pl r (t, m)) else if c < 0 then (if c = -3 - (m : Int) ∧ m < pl.length ∧ pl.getD m 0 = opn st then stR pl r (m :: st, m + 1) else none) else stR pl r (st, m)).bind (stR pl l')
      by_cases c1 : c = -1
      · rw [if_pos c1, if_pos c1]
        cases st with
        | nil => rfl
        | cons e t => exact ih l' (t, m)
      · rw [if_neg c1, if_neg c1]
        by_cases c2 : c < 0
        · rw [if_pos c2, if_pos c2]
          by_cases c3 : c = -3 - (m : Int) ∧ m < pl.length ∧ pl.getD m 0 = opn st
          · rw [if_pos c3, if_pos c3]
            exact ih l' _
          · rw [if_neg c3, if_neg c3]
            rfl
        · rw [if_neg c2, if_neg c2]
          exact ih l' _
theorem stR_c {c : Int} {r : List Evt} {st : List Nat} {m : Nat} : stR pl (.inl c :: r) (st, m) = if c = -1 then (match st with
    | [] => none
    | _ :: t => stR pl r (t, m)) else if c < 0 then (if c = -3 - (m : Int) ∧ m < pl.length ∧ pl.getD m 0 = opn st then stR pl r (m :: st, m + 1) else none) else stR pl r (st, m) := rfl
theorem stR_grow {q : List Int} : ∀ (l : List Evt) (s r : List Nat × Nat), stR pl l s = some r → stR (pl ++ q) l s = some r := by
  intro l
  induction l with
  | nil => intro s r h; exact h
  | cons v l ih =>
    intro s r h
    obtain ⟨st, m⟩ := s
    cases v with
    | inr z => exact ih _ r h
    | inl c =>
      rw [stR_c] at h ⊢
      have h' := h
      clear h
      by_cases c1 : c = -1
      · rw [if_pos c1] at h' ⊢
        cases st with
        | nil => cases h'
        | cons e t => exact ih _ r h'
      · rw [if_neg c1] at h' ⊢
        by_cases c2 : c < 0
        · rw [if_pos c2] at h' ⊢
          by_cases c3 : c = -3 - (m : Int) ∧ m < pl.length ∧ pl.getD m 0 = opn st
          · rw [if_pos c3] at h'
            rw [if_pos ⟨c3.1, by rw [List.length_append]; omega, by rw [getD_app_l c3.2.1]; exact c3.2.2⟩]
            exact ih _ r h'
          · rw [if_neg c3] at h'
            cases h'
        · rw [if_neg c2] at h' ⊢
          exact ih _ r h'
theorem stR_chr : ∀ (l : List Evt) (s : List Nat × Nat), (∀ v ∈ l, ∀ c, v = .inl c → 0 ≤ c) → stR pl l s = some s := by
  intro l
  induction l with
  | nil => intro s _; rfl
  | cons v l ih =>
    intro s h
    obtain ⟨st, m⟩ := s
    cases v with
    | inr z => exact ih _ (fun v hv => h v (List.mem_cons_of_mem _ hv))
    | inl c =>
      have hc := h _ List.mem_cons_self c rfl
      show (if c = -1 then _ else if c < 0 then _ else stR pl l (st, m)) = _
      rw [if_neg (by omega), if_neg (by omega)]
      exact ih _ (fun v hv => h v (List.mem_cons_of_mem _ hv))
theorem par_opn : par a = opn (aO a) := by
  unfold par opn
  cases aO a <;> rfl
theorem GW.stpE (hG : GI rm nd a) (h : GW a) (hs : stp rm nd a = .inr a') : GW a' := by
  obtain ⟨h1, h2, h3⟩ := h
  have hch : ∀ (b : AS), (∀ c, ltA b c → ltA a c ∨ isCh c = true) → ∀ c, ltA b c → isCh c = true := fun b hb c hc => (hb c hc).elim (h1 c) id
  rcases stp_str hG hs with ⟨l, ⟨t1, t2, t3, t4⟩, hl⟩ | ⟨e, r, hO, t1, t2, t3, t4⟩ | ⟨t1, t3, ht⟩
  · have hl' : ∀ v ∈ l, ∀ c, v = .inl c → isCh c = true := fun v hv c hc => (hl v hv c hc).elim (h1 c) id
    have hlen : (aL a').length = (aL a).length := by have := congrArg List.length t3; rw [List.length_map, List.length_map] at this; exact this
    refine ⟨hch a' t1, ?_, fun v hv c hc => ?_⟩
    · unfold pls
      rw [t3, t4, t2, stR_app, hlen]
      unfold pls at h2
      rw [h2]
      exact stR_chr l _ (fun v hv c hc => by have := isCh_pos (hl' v hv c hc); omega)
    · rw [t4] at hv
      rcases List.mem_append.mp hv with y | y
      · exact h3 v y c hc
      · exact Or.inr (hl' v y c hc)
  · have hlen : (aL a').length = (aL a).length := by have := congrArg List.length t3; rw [List.length_map, List.length_map] at this; exact this
    refine ⟨hch a' t1, ?_, fun v hv c hc => ?_⟩
    · unfold pls
      rw [t3, t4, t2, stR_app, hlen]
      unfold pls at h2
      rw [h2, hO]
      rfl
    · rw [t4] at hv
      rcases List.mem_append.mp hv with y | y
      · exact h3 v y c hc
      · rw [List.mem_singleton.mp y] at hc
        cases hc
        exact Or.inl (by decide)
  · have hlen : (aL a').length = (aL a).length + 1 := by have := congrArg List.length t3; rw [List.length_map, List.length_append, List.length_map, List.length_singleton] at this; exact this
    have hbeg : ∀ r, stR (pls a') (.inl (-3 - ((aL a).length : Int)) :: r) (aO a, (aL a).length) = stR (pls a') r ((aL a).length :: aO a, (aL a).length + 1) := fun r => by
      show (if (-3 - ((aL a).length : Int)) = -1 then _ else if (-3 - ((aL a).length : Int)) < 0 then (if (-3 - ((aL a).length : Int)) = -3 - ((aL a).length : Int) ∧ (aL a).length < (pls a').length ∧ (pls a').getD (aL a).length 0 = opn (aO a) then _ else _) else _) = _
      rw [if_neg (by omega), if_pos (by omega), if_pos]
      refine ⟨rfl, by unfold pls; rw [List.length_map]; omega, ?_⟩
      unfold pls
      rw [t3, List.getD_eq_getElem?_getD, List.getElem?_append_right (by rw [List.length_map]; exact Nat.le_refl _), List.length_map, Nat.sub_self]
      show par a = _
      exact par_opn
    have hold : stR (pls a') (aS a) ([], 0) = some (aO a, (aL a).length) := by
      unfold pls
      rw [t3]
      exact stR_grow _ _ _ h2
    rcases ht with ⟨t2, t4⟩ | ⟨t2, t4⟩
    · refine ⟨hch a' t1, ?_, fun v hv c hc => ?_⟩
      · rw [t4, t2, stR_app, hold, hlen]
        exact hbeg []
      · rw [t4] at hv
        rcases List.mem_append.mp hv with y | y
        · exact h3 v y c hc
        · rw [List.mem_singleton.mp y] at hc
          have : -3 - ((aL a).length : Int) = c := by cases hc; rfl
          exact Or.inl (by omega)
    · refine ⟨hch a' t1, ?_, fun v hv c hc => ?_⟩
      · rw [t4, t2, stR_app, hold, hlen]
        show stR (pls a') _ (aO a, (aL a).length) = _
        rw [hbeg]
        rfl
      · rw [t4] at hv
        rcases List.mem_append.mp hv with y | y
        · exact h3 v y c hc
        · rcases List.mem_cons.mp y with y | y
          · rw [y] at hc
            have : -3 - ((aL a).length : Int) = c := by cases hc; rfl
            exact Or.inl (by omega)
          · rw [List.mem_singleton.mp y] at hc
            cases hc
            exact Or.inl (by decide)
theorem dcd_ch {u : Nat → Option (Int × Nat)} (hu : ∀ i c k, u i = some (c, k) → isCh c = true) : ∀ (m i : Nat) (w : List Int), dcd u n m i = .inr w → ∀ c ∈ w, isCh c = true := by
  intro m
  induction m with
  | zero => intro i w h; cases h
  | succ m ih =>
    intro i w h c hc
    unfold dcd at h
    split at h
    · cases h; cases hc
    · split at h
      · cases h
      · rename_i c0 k hck
        split at h
        · cases h
        · rename_i w' hw'
          cases h
          rcases List.mem_cons.mp hc with y | y
          · rw [y]; exact hu i c0 k hck
          · exact ih _ _ hw' c y
theorem ldT_ch {w : List Int} (h : ldT B n = .inr w) : ∀ c ∈ w, isCh c = true := by
  unfold ldT at h
  split at h
  · refine dcd_ch (fun i c k hu => ?_) _ _ _ h
    unfold u16 at hu
    split at hu
    · split at hu
      · split at hu
        · cases hu; assumption
        · cases hu
      · split at hu
        · cases hu; assumption
        · cases hu
    · cases hu
  · refine dcd_ch (fun i c k hu => ?_) _ _ _ h
    unfold u8 at hu
    split at hu
    · rename_i hh
      cases hu
      exact hh.2.2.2.2
    · cases hu
theorem nle_ch : ∀ (w : List Int) (s : List Int × Bool), (∀ c ∈ w, isCh c = true) → (∀ c ∈ s.1, isCh c = true) → ∀ c ∈ (w.foldl nlc s).1, isCh c = true := by
  intro w
  induction w with
  | nil => intro s _ h; exact h
  | cons x w ih =>
    intro s h1 h2
    refine ih _ (fun c hc => h1 c (List.mem_cons_of_mem _ hc)) (fun c hc => ?_)
    unfold nlc at hc
    dsimp only at hc
    split at hc
    · exact h2 c hc
    · rcases List.mem_append.mp hc with y | y
      · exact h2 c y
      · rw [List.mem_singleton.mp y]
        split
        · decide
        · exact h1 x List.mem_cons_self
theorem jdg_inv2 (P : AS → Prop) (hP : ∀ a a', GI rm nd a → P a → stp rm nd a = .inr a' → P a') (h0 : ∀ l, (∀ c ∈ l, isCh c = true) → ∀ st k, P (a0 l) ∧ P (adv (sN (a0 l) 5 st) k)) (hn : n ≤ 65536) (h : jdg rm nd B n = .inr a') : P a' := by
  unfold jdg at h
  split at h
  · cases h
  · rename_i w hw
    split at h
    · cases h
    · rename_i hl
      have hlen := ldT_len hw
      have hnl := nle_len w ([], false)
      rw [show (w.foldl nlc ([], false)).1 = nle w from rfl, List.length_nil] at hnl
      have hG : GI rm nd (a0 (nle w)) := GI_a0 (by omega) (by omega)
      have hch : ∀ c ∈ nle w, isCh c = true := nle_ch w ([], false) (ldT_ch hw) (fun c hc => by cases hc)
      have h0' := h0 (nle w) hch
      generalize nle w = l at *
      have hcl : cur (a0 l) = l := rfl
      unfold rdA at h
      rw [hcl] at h
      split at h
      · split at h
        · cases h
        · rename_i st en k hk
          split at h
          · obtain ⟨z1, z2, z3, -⟩ := hdk_le hk
            have hGn : GI rm nd (sN (a0 l) 5 st) := hG.n5 z1
            obtain ⟨⟨-, -, ⟨-, r2, -, -⟩, -, ⟨b1, b2⟩, -⟩, -⟩ := id hGn
            have hsk := SK.lit (X := sN (a0 l) 5 st) (k := k) (l := l) (g := (0, 0)) (t := []) hGn rfl rfl ⟨z2, z3⟩ (Or.inl rfl) le_k ⟨Nat.le_refl _, r2⟩ le_kk le_kk le_kk le_k le_k ⟨Nat.le_refl _, b2⟩ (fun _ _ => rfl) rfl rfl rfl (Or.inl rfl)
            exact arn_inv P hP _ _ _ hsk.1 (h0' st k).2 h
          · cases h
      · exact arn_inv P hP _ _ _ hG (h0' 0 0).1 h
theorem jdg_GW (hn : n ≤ 65536) (h : jdg rm nd B n = .inr a') : GW a' :=
  jdg_inv2 GW (fun _ _ hG hV hs => GW.stpE hG hV hs) (fun l hl st k => by
    have hlt : ∀ c, ltA (a0 l) c → isCh c = true := fun c hc => by
      rcases hc with ⟨f, hf, hcf⟩ | ⟨x, hx, -⟩
      · have hf' : f ∈ [(l, 0, 0)] := hf
        rw [List.mem_singleton.mp hf'] at hcf
        exact hl c hcf
      · cases hx
    refine ⟨⟨hlt, rfl, fun v hv => (by cases hv)⟩, ?_⟩
    obtain ⟨t1, t2, t3, t4⟩ := TRs.advE (a := a0 l) (X := sN (a0 l) 5 st) (k := k) (l := []) ⟨fun _ h => Or.inl h, rfl, rfl, rfl⟩
    refine ⟨fun c hc => (t1 c hc).elim (hlt c) id, ?_, fun v hv => ?_⟩
    · rw [t4, t2]
      have hl0 : (aL (adv (sN (a0 l) 5 st) k)).length = 0 := by have := congrArg List.length t3; rw [List.length_map] at this; exact this
      rw [hl0]
      rfl
    · rw [t4] at hv
      cases hv) hn h
end Str
