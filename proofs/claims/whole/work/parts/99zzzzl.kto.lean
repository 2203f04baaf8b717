/-! ===== the reference: what stands in an element ===== -/
/-- what the reference wants of the pure machine's state -/
def GK (rm nd : Nat) (a : AS) : Prop := (rem a ≤ aN a 0 ∧ aN a 0 ≤ rm) ∧ (evl (aS a) + rem a ≤ aN a 0 ∧ aN a 2 + rem a ≤ aN a 0) ∧ ((aL a).length + (aB a).length ≤ aN a 3 ∧ aN a 3 ≤ nd) ∧ (aN a 4 ≤ 3 ∧ (aN a 4 = 2 ↔ aO a ≠ [])) ∧ och (aL a) (aO a) ∧ (∀ f ∈ aF a, f.2.2 ≤ (aO a).length) ∧ (aN a 6 ≠ 0 → (aR a).isSome = true) ∧ ((aE a).length ≤ 8300 ∧ (aD a).length ≤ 8300 ∧ (aA a).length ≤ 8300 ∧ (aT a).length ≤ 8300) ∧ GO (aE a) (aF a) ∧ (∀ i, i + 1 < (aF a).length → 0 < ((aF a).getD i ([], 0, 0)).2.1) ∧ aN a 1 + rem a ≤ aN a 0
section Kto
variable {L : Nat → Nat} {rm nd o : Nat} {σ τ : IS} {g g' : KG} {a a' : AS} {Q : IS → Prop} {R : Int → IS → Prop}
theorem chd_mod {el : List Elm} {e i : Nat} {f : Elm → Elm} (hf : ∀ x, (f x).1 = x.1 ∧ (f x).2.1 = x.2.1) : chd (el.modify i f) e = chd el e := by
  unfold chd
  induction el generalizing i with
  | nil => cases i <;> rfl
  | cons x r ih =>
    cases i with
    | zero =>
      show ((f x :: r).filter _).map _ = ((x :: r).filter _).map _
      rw [List.filter_cons, List.filter_cons, (hf x).2]
      split
      · rw [List.map_cons, List.map_cons, (hf x).1]
      · rfl
    | succ i =>
      show ((x :: r.modify i f).filter _).map _ = ((x :: r).filter _).map _
      rw [List.filter_cons, List.filter_cons]
      split
      · rw [List.map_cons, List.map_cons, ih]
      · exact ih
theorem opK_top {e : Nat} {r : List Nat} : opK (e :: r) r.length = e := by
  unfold opK
  rw [List.length_cons, show r.length + 1 - 1 - r.length = 0 by omega]
  rfl
theorem opK_cons {e k : Nat} {r : List Nat} (h : k < r.length) : opK (e :: r) k = opK r k := by
  unfold opK
  rw [List.length_cons, show r.length + 1 - 1 - k = (r.length - 1 - k) + 1 by omega]
  rfl
theorem opK_mem {os : List Nat} {k : Nat} (h : k < os.length) : opK os k ∈ os := by
  unfold opK
  rw [List.getD_eq_getElem?_getD, List.getElem?_eq_getElem (by omega)]
  exact List.getElem_mem _
/-- the flags of the innermost element -/
theorem KOp.flg {bk : List Str} {fr : List Frm} {el : List Elm} {e : Nat} {r : List Nat} {b c : Bool} (ho : och el (e :: r)) (h : KOp σ bk fr el (e :: r)) (hf : τ.1 = σ.1) (hr : ∀ q, q ≠ 168 → q ≠ 169 → τ.2 q = σ.2 q) (h8 : ∀ k, τ.2 168 k = if k = r.length then b1 ((el.getD e elD).2.2.2.2.2.1 || b) else σ.2 168 k) (h9 : ∀ k, τ.2 169 k = if k = r.length then b1 ((el.getD e elD).2.2.2.2.2.2 || c) else σ.2 169 k) : KOp τ bk fr (el.modify e (fun x => (x.1, x.2.1, x.2.2.1, x.2.2.2.1, x.2.2.2.2.1, x.2.2.2.2.2.1 || b, x.2.2.2.2.2.2 || c))) (e :: r) := by
  obtain ⟨h1, h2, bs, h3, h4, h5⟩ := h
  have hlt := och_lt ho
  refine ⟨by rw [hf]; exact h1, fun k hk => ?_, bs, by rw [hf]; exact h3, by rw [List.length_modify]; exact h4, fun k hk => ?_⟩
  · obtain ⟨a1, a2, a3, j, b1', b2, b3, b4⟩ := h2 k hk
    rw [List.length_cons] at hk
    have hm := hlt _ (opK_mem (os := e :: r) (k := k) (by rw [List.length_cons]; exact hk))
    rw [hr 166 (by decide) (by decide), hr 167 (by decide) (by decide), hr 181 (by decide) (by decide), h8, h9, getD_mod hm]
    by_cases c1 : k = r.length
    · subst c1
      rw [if_pos rfl, if_pos rfl]
      rw [opK_top] at a1 a2 a3 ⊢
      rw [if_pos rfl]
      exact ⟨a1, rfl, rfl, j, b1', b2, b3, b4⟩
    · have hne : e ≠ opK (e :: r) k := by
        rw [opK_cons (by omega)]
        have := ho.2.2.1 _ (opK_mem (os := r) (k := k) (by omega))
        omega
      rw [if_neg c1, if_neg c1, if_neg hne]
      exact ⟨a1, a2, a3, j, b1', b2, b3, b4⟩
  · have hm : ∀ e', chd (el.modify e (fun x => (x.1, x.2.1, x.2.2.1, x.2.2.2.1, x.2.2.2.2.1, x.2.2.2.2.2.1 || b, x.2.2.2.2.2.2 || c))) e' = chd el e' := fun e' => chd_mod (fun x => ⟨rfl, rfl⟩)
    rw [hr 170 (by decide) (by decide), hr 171 (by decide) (by decide), hm]
    exact h5 k hk
theorem KEl.mod {bk : List Str} {el : List Elm} {e : Nat} {b c : Bool} (h : KEl o σ bk el) : KEl o σ bk (el.modify e (fun x => (x.1, x.2.1, x.2.2.1, x.2.2.2.1, x.2.2.2.2.1, x.2.2.2.2.2.1 || b, x.2.2.2.2.2.2 || c))) := by
  refine ⟨by rw [List.length_modify]; exact h.1, fun i hi => ?_⟩
  rw [List.length_modify] at hi
  have := h.2 i hi
  rw [getD_mod hi]
  by_cases y : e = i
  · rw [if_pos y]; exact this
  · rw [if_neg y]; exact this
/-- flags set in the rows of the innermost element -/
theorem RK.flg {e : Nat} {r : List Nat} {b c : Bool} (hL : KLn L o rm nd) (h : RK rm nd o σ g a) (hoc : och (aL a) (aO a)) (hO : aO a = e :: r) (hf : τ.1 = σ.1) (hr : ∀ q, q ≠ 168 → q ≠ 169 → τ.2 q = σ.2 q) (h8 : ∀ k, τ.2 168 k = if k = r.length then b1 (((aL a).getD e elD).2.2.2.2.2.1 || b) else σ.2 168 k) (h9 : ∀ k, τ.2 169 k = if k = r.length then b1 (((aL a).getD e elD).2.2.2.2.2.2 || c) else σ.2 169 k) : RK rm nd o τ g (sL a ((aL a).modify e (fun x => (x.1, x.2.1, x.2.2.1, x.2.2.2.1, x.2.2.2.2.1, x.2.2.2.2.2.1 || b, x.2.2.2.2.2.2 || c)))) := by
  have ho := hL.2.1
  have hF : ∀ p k' : Nat, ¬ (p = 16 ∧ k' = 100) → τ.1 p k' = σ.1 p k' := fun p k' _ => by rw [hf]
  have hR : ∀ q : Nat, ¬ (q = 168 ∨ q = 169) → τ.2 q = σ.2 q := fun q x => hr q (by omega) (by omega)
  have hop := h.2.2.2.2.2.2.2.2.2.1
  have hel := h.2.2.2.2.2.2.2.2.1
  rw [hO] at hop hoc
  refine (RK.mk' ho h kle.refl cle.refl cle.refl (h.1.dep ho (fun p k x => hF p k (by omega)) (fun r x => hR r (by omega))) (Or.inl ⟨fun k x y => hF 16 k (by omega), fun r x y => hR r (by omega), rfl⟩) (Or.inl ⟨hF 16 32 (by omega), fun r x y => hR r (by omega), rfl, rfl⟩) (Or.inl ⟨fun k x => hF 16 k (by omega), hR _ (by have := rf_1 ho; omega), rfl⟩) (Or.inl ⟨hF 16 20 (by omega), hF 16 24 (by omega), rfl⟩) (Or.inl ⟨hF 16 40 (by omega), hF 16 47 (by omega), hF 16 58 (by omega), fun r x => hR r (by omega), rfl⟩) (Or.inl ⟨hF 16 56 (by omega), hF 16 58 (by omega), fun r x y => hR r (by omega), rfl⟩) (Or.inl ⟨hF 16 34 (by omega), hR 187 (by omega), rfl⟩) (Or.inr ?_) (Or.inr ?_) (Or.inl ⟨hF o 14 (by omega), fun k x y => hR _ (by have := rf_8 ho x y; omega), rfl, rfl⟩) (Or.inl ⟨fun k x => hF o k (by omega), hR _ (by have := rf_1 ho; omega), rfl, rfl, (by show (List.modify _ _ _).length = _; rw [List.length_modify])⟩) (hF 16 3 (by omega)) (Or.inl ⟨hF 16 18 (by omega), hR 178 (by omega), rfl, rfl, rfl, hF 16 47 (by omega), hF 16 58 (by omega), rfl, rfl⟩))
  · exact KEl.mod (hel.dep kle.refl (hF o 7 (by omega)) (fun k x y => hR _ (by have := rf_3 ho x y; omega)))
  · show KOp τ (gB g) (aF a) _ (aO a)
    rw [hO]
    exact hop.flg hoc hf hr h8 h9
theorem b1_or {v : Int} {x : Bool} (h : v = b1 x) : (v = 0 ∨ v = 1) := by
  cases x
  · exact Or.inl h
  · exact Or.inr h
theorem sp_K_touch0 (hL : KLn L o rm nd) (h : RK rm nd o σ g a) (g3 : aN a 4 = 2 ↔ aO a ≠ []) (g4 : och (aL a) (aO a)) (hln : (aL a).length ≤ 16384) (hq : ∀ τ, RK rm nd o τ g (tch a false) → τ.1 = σ.1 → (∀ q, q ≠ 168 → τ.2 q = σ.2 q) → Q τ) : w_KReader_touch L Q σ := by
  have h19 : σ.1 16 19 = (aN a 4 : Int) := h.2.2.2.1.2.2.2.1
  have h64 : σ.1 16 64 = ((aO a).length : Int) := h.2.2.2.2.2.2.2.2.2.1.1
  unfold w_KReader_touch
  refine WJ_dir ?_
  cases hO : aO a with
  | nil =>
    rw [if_neg (fun z => g3.mp (by omega) hO)]
    exact hq σ (by rw [tch_nil hO]; exact h) rfl (fun _ _ => rfl)
  | cons e r =>
    have hph : aN a 4 = 2 := g3.mpr (by rw [hO]; exact List.cons_ne_nil _ _)
    have hlen := och_len g4 (och_lt g4)
    rw [hO, List.length_cons] at h64 hlen
    have h168 := hL.2.2.2.2.1 168 (by omega) (by omega)
    rw [if_pos (by omega), show σ.1 16 64 - 1 = (r.length : Int) by omega, show Int.toNat (r.length : Int) = r.length from rfl]
    refine ⟨⟨by omega, by omega⟩, ⟨by omega, by omega⟩, hq _ ?_ rfl (fun q hq' => by funext j; rw [pr_2, if_neg (fun z => hq' z.1)])⟩
    have e1 : tch a false = sL a ((aL a).modify e (fun x => (x.1, x.2.1, x.2.2.1, x.2.2.2.1, x.2.2.2.2.1, x.2.2.2.2.2.1 || true, x.2.2.2.2.2.2 || false))) := by
      unfold tch
      rw [hO]
      simp only [Bool.or_true]
    rw [e1]
    have hop := h.2.2.2.2.2.2.2.2.2.1.2.1 r.length (by rw [hO, List.length_cons]; omega)
    rw [hO, opK_top] at hop
    refine h.flg hL g4 hO rfl (fun q x y => by funext j; rw [pr_2, if_neg (fun z => x z.1)]) (fun k => ?_) (fun k => ?_)
    · rw [pr_2, Bool.or_true]
      by_cases c : k = r.length
      · rw [if_pos ⟨rfl, c⟩, if_pos c]; rfl
      · rw [if_neg (fun z => c z.2), if_neg c]
    · rw [pr_2, if_neg (by omega), Bool.or_false]
      by_cases c : k = r.length
      · rw [if_pos c, c]; exact hop.2.2.1
      · rw [if_neg c]
theorem sp_K_touch (hL : KLn L o rm nd) (h : RK rm nd o σ g a) (hG : GK rm nd a) (hq : ∀ τ, RK rm nd o τ g (tch a false) → τ.1 = σ.1 → (∀ q, q ≠ 168 → τ.2 q = σ.2 q) → Q τ) : w_KReader_touch L Q σ := sp_K_touch0 hL h hG.2.2.2.1.2 hG.2.2.2.2.1 (by have := hG.2.2.1; have := hL.2.2.1.2; omega) hq
theorem sp_K_spoil {bb : Bool} (hL : KLn L o rm nd) (h : RK rm nd o σ g (tch a bb)) (g4 : och (aL a) (aO a)) (hne : aO a ≠ []) (hln : (aL a).length ≤ 16384) (hq : ∀ τ, RK rm nd o τ g (tch a true) → τ.1 = σ.1 → (∀ q, q ≠ 169 → τ.2 q = σ.2 q) → Q τ) : w_KReader_spoil L Q σ := by
  have h64 : σ.1 16 64 = ((aO a).length : Int) := by
    have := h.2.2.2.2.2.2.2.2.2.1.1
    rw [tch_other.2.2.2.2.2.2.2.2.2] at this
    exact this
  unfold w_KReader_spoil
  cases hO : aO a with
  | nil => exact absurd hO hne
  | cons e r =>
    have hlen := och_len g4 (och_lt g4)
    rw [hO, List.length_cons] at h64 hlen
    have h169 := hL.2.2.2.2.1 169 (by omega) (by omega)
    rw [show σ.1 16 64 - 1 = (r.length : Int) by omega, show Int.toNat (r.length : Int) = r.length from rfl]
    refine ⟨⟨by omega, by omega⟩, ⟨by omega, by omega⟩, hq _ ?_ rfl (fun q hq' => by funext j; rw [pr_2, if_neg (fun z => hq' z.1)])⟩
    have hO' : aO (tch a bb) = e :: r := by rw [tch_other.2.2.2.2.2.2.2.2.2]; exact hO
    have e1 : tch a true = sL (tch a bb) ((aL (tch a bb)).modify e (fun x => (x.1, x.2.1, x.2.2.1, x.2.2.2.1, x.2.2.2.2.1, x.2.2.2.2.2.1 || true, x.2.2.2.2.2.2 || true))) := by
      have e2 : tch (tch a bb) true = tch a true := by rw [tch_tch, Bool.or_true]
      rw [← e2]
      generalize tch a bb = A at hO' ⊢
      unfold tch
      rw [hO']
      simp only [Bool.or_true]
    rw [e1]
    have hop := h.2.2.2.2.2.2.2.2.2.1.2.1 r.length (by rw [hO', List.length_cons]; omega)
    rw [hO', opK_top] at hop
    refine h.flg (b := true) (c := true) hL (och_tch.mpr g4) hO' rfl (fun q x y => by funext j; rw [pr_2, if_neg (fun z => y z.1)]) (fun k => ?_) (fun k => ?_)
    · have ht : ((aL (tch a bb)).getD e elD).2.2.2.2.2.1 = true := by
        have he := och_lt g4 e (by rw [hO]; exact List.mem_cons_self)
        rw [tch_L hO, getD_mod he, if_pos rfl]
      rw [pr_2, if_neg (by omega), Bool.or_true]
      by_cases c : k = r.length
      · rw [if_pos c, c, hop.2.1, ht]
      · rw [if_neg c]
    · rw [pr_2, Bool.or_true]
      by_cases c : k = r.length
      · rw [if_pos ⟨rfl, c⟩, if_pos c]; rfl
      · rw [if_neg (fun z => c z.2), if_neg c]
/-! ===== items of the reference: spaces, comments ===== -/
theorem KC_adv {k : Nat} (h : KC rm g a) (hk : k ≤ (cur a).length) : KC rm g (adv a k) := by
  have := rem_adv hk
  obtain ⟨-, o2, -⟩ := adv_other (a := a) (k := k)
  obtain ⟨h1, h2, h3, h4⟩ := h
  unfold KC
  rw [o2]
  exact ⟨by omega, by omega, h3, h4⟩
theorem tch_cur {b : Bool} : cur (tch a b) = cur a := by unfold cur; rw [tch_other.1]
theorem tch_rem {b : Bool} : rem (tch a b) = rem a := by unfold rem; rw [tch_other.1]
theorem KC_tch {b : Bool} (h : KC rm g a) : KC rm g (tch a b) := by
  unfold KC at h ⊢
  rw [tch_rem, tch_other.2.2.1]
  exact h
theorem kI_spc' (hL : KLn L o rm nd) (h : RK rm nd o σ g a) (hC : KC rm g a) (hq : KO rm nd o σ g Q (iSpc a) [] (fun _ => 0)) {v : Int} (hv : v = enc (asp (σ.2 176) (σ.1 16 17).toNat (some (σ.1 16 16).toNat))) : Q (pf σ 16 16 v) := by
  obtain ⟨p, q, t, hF, h1, h2, hK, hc, hS, hp⟩ := h.at_ hL
  have hk : sk isSp (gd (cur a)) (cur a).length 0 ≤ (cur a).length := (sk_le (Nat.zero_le _)).2
  have e : v = σ.1 16 16 + ((sk isSp (gd (cur a)) (cur a).length 0 : Nat) : Int) := by
    rw [hv, h2, h1, show Int.toNat ((p + (cur a).length : Nat) : Int) = p + (cur a).length from rfl, show Int.toNat (p : Int) = p from rfl]
    have := sh_asps hS 0
    rw [Nat.add_zero] at this
    rw [this]
    show enc (some (p + sk isSp (gd (cur a)) (cur a).length 0)) = _
    show ((p + sk isSp (gd (cur a)) (cur a).length 0 : Nat) : Int) = _
    omega
  rw [e]
  exact hq.2 _ rfl _ g (h.go hL hk) rfl (fun _ => rfl) (fun _ _ => rfl) (KC_adv hC hk) (pf_nk (by decide)) (by rw [pf_nk (by decide)]; omega)
end Kto
