/-! ===== what holds of the pure machine; the class's tree ===== -/
def och (el : List Elm) : List Nat → Prop
  | [] => True
  | e :: r => e < el.length ∧ (el.getD e elD).2.1 = opn r ∧ (∀ x ∈ r, x < e) ∧ och el r
/-- whether a name may be split at a colon -/
def spt (s : Str) : Bool := decide (3 ≤ s.length) && s.contains 58
/-- the different ones that may be split -/
def dst : List Str → List Str
  | [] => []
  | x :: r => if spt x = true ∧ ¬ x ∈ r then x :: dst r else dst r
/-- the names of elements and attributes -/
def nms (a : AS) : List Str := (aL a).map (fun x => x.1) ++ ((aB a).map (fun x => x.1) ++ (aA a).map (fun x => x.2.1))
def cnl (l : List EDc) : Nat := (l.map (fun x => x.2.2.length)).sum
/-- how many words more the names with a colon, and the contents, may want -/
def rsv (a : AS) : Nat := 4 * (dst (nms a)).length + cnl (aD a)
theorem nms_eq {a a' : AS} (hL : (aL a').map (fun x => x.1) = (aL a).map (fun x => x.1)) (hB : aB a' = aB a) (hA : aA a' = aA a) : nms a' = nms a := by
  unfold nms
  rw [hL, hB, hA]
theorem rsv_eq {a a' : AS} (hL : (aL a').map (fun x => x.1) = (aL a).map (fun x => x.1)) (hB : aB a' = aB a) (hA : aA a' = aA a) (hD : aD a' = aD a) : rsv a' = rsv a := by
  unfold rsv
  rw [nms_eq hL hB hA, hD]
theorem cnl_app {l : List EDc} {x : EDc} : cnl (l ++ [x]) = cnl l + x.2.2.length := by
  unfold cnl
  rw [List.map_append, List.sum_append]
  simp
def GA (rm nd : Nat) (a : AS) : Prop := GO (aE a) (aF a) ∧ (∀ i, i + 1 < (aF a).length → 0 < ((aF a).getD i ([], 0, 0)).2.1) ∧ (rem a ≤ aN a 0 ∧ aN a 0 ≤ rm ∧ aN a 8 ≤ aN a 0 ∧ aN a 8 ≤ 65536) ∧
  (14 * (aE a).length + rem a ≤ aN a 0 ∧ 16 * (aD a).length + rem a ≤ aN a 0 ∧ 8 * (aA a).length + rem a ≤ aN a 0 ∧ evl (aS a) + rem a ≤ aN a 0 ∧ aN a 1 + rem a ≤ aN a 0 ∧ aN a 2 + rem a ≤ aN a 0 ∧ (aT a).length + rem a ≤ aN a 0) ∧
  ((aL a).length + (aB a).length ≤ aN a 3 ∧ aN a 3 ≤ nd) ∧ (aN a 4 ≤ 3 ∧ (aN a 4 = 2 ↔ aO a ≠ []) ∧ aN a 5 ≤ 1 ∧ aN a 6 ≤ 1) ∧ och (aL a) (aO a) ∧ ((∀ f ∈ aF a, f.2.2 ≤ (aO a).length) ∧ (aF a).Pairwise (fun f g => g.2.2 ≤ f.2.2)) ∧ ((aN a 4 ≤ 1 → aL a = []) ∧ (aN a 4 = 1 → (aR a).isSome = true) ∧ (1 < (aF a).length → aN a 4 = 1 ∨ aN a 4 = 2) ∧ ((aF a).getLastD ([], 0, 0)).2 = (0, 0))
/-- room in the class's store -/
def JC (L : Nat → Nat) (σ : IS) (a : AS) : Prop := 2 * jw σ + rsv a + rem a ≤ aN a 0 + 38 + (aO a).length ∧ jtp σ + rem a ≤ (σ.1 1 2).toNat + aN a 8 + aN a 0 ∧ 2 * (σ.1 4 16).toNat + rem a ≤ aN a 0 ∧ 2 * jw σ + rem a ≤ aN a 0 + 38 ∧ σ.1 1 16 ≤ (L 999 : Int) + (aN a 3 : Int)
theorem cbt_tab : ∀ n : Nat, n < 8 → (0 ≤ io (n : Int) 1 ∧ io (n : Int) 1 ≤ 7 ∧ io (n : Int) 1 ≠ 0 ∧ (ia (io (n : Int) 1) 6 ≠ 0 ↔ ia (n : Int) 6 ≠ 0)) ∧ (0 ≤ io (n : Int) 2 ∧ io (n : Int) 2 ≤ 7 ∧ io (n : Int) 2 ≠ 0 ∧ ia (io (n : Int) 2) 6 ≠ 0) ∧ (0 ≤ io (n : Int) 5 ∧ io (n : Int) 5 ≤ 7 ∧ io (n : Int) 5 ≠ 0 ∧ ia (io (n : Int) 5) 6 ≠ 0) := by decide +kernel
theorem cbt_1 {v : Int} {t s : Bool} (h : cbt v t s) : cbt (io v 1) true (s || false) := by
  obtain ⟨n, rfl⟩ : ∃ n : Nat, v = (n : Int) := ⟨v.toNat, by have := h.1; omega⟩
  have := (cbt_tab n (by have := h.1; omega)).1
  refine ⟨⟨this.1, this.2.1⟩, ⟨fun z => absurd z this.2.2.1, fun z => by cases z⟩, ?_⟩
  rw [this.2.2.2, Bool.or_false]
  exact h.2.2
theorem cbt_25 {v b : Int} {t s : Bool} (h : cbt v t s) (hb : b = 2 ∨ b = 5) : cbt (io v b) true (s || true) := by
  obtain ⟨n, rfl⟩ : ∃ n : Nat, v = (n : Int) := ⟨v.toNat, by have := h.1; omega⟩
  have := (cbt_tab n (by have := h.1; omega)).2
  rw [Bool.or_true]
  rcases hb with rfl | rfl
  · exact ⟨⟨this.1.1, this.1.2.1⟩, ⟨fun z => absurd z this.1.2.2.1, fun z => by cases z⟩, ⟨fun _ => rfl, fun _ => this.1.2.2.2⟩⟩
  · exact ⟨⟨this.2.1, this.2.2.1⟩, ⟨fun z => absurd z this.2.2.2.1, fun z => by cases z⟩, ⟨fun _ => rfl, fun _ => this.2.2.2.2⟩⟩
section JTr
variable {L : Nat → Nat} {rm nd : Nat} {σ τ : IS} {a : AS}
theorem tch_other {sp : Bool} : aF (tch a sp) = aF a ∧ aE (tch a sp) = aE a ∧ aN (tch a sp) = aN a ∧ aR (tch a sp) = aR a ∧ aD (tch a sp) = aD a ∧ aA (tch a sp) = aA a ∧ aT (tch a sp) = aT a ∧ aB (tch a sp) = aB a ∧ aS (tch a sp) = aS a ∧ aO (tch a sp) = aO a := by
  unfold tch
  split
  · exact ⟨rfl, rfl, rfl, rfl, rfl, rfl, rfl, rfl, rfl, rfl⟩
  · exact ⟨rfl, rfl, rfl, rfl, rfl, rfl, rfl, rfl, rfl, rfl⟩
theorem tch_L {sp : Bool} {e : Nat} {r : List Nat} (h : aO a = e :: r) : aL (tch a sp) = (aL a).modify e (fun x => (x.1, x.2.1, x.2.2.1, x.2.2.2.1, x.2.2.2.2.1, true, x.2.2.2.2.2.2 || sp)) := by
  unfold tch
  rw [h]
  rfl
/-- only what is noted of elements differs -/
theorem RJ.cong {a' : AS} (h : RJ L rm nd σ a) (h1 : aF a' = aF a) (h2 : aE a' = aE a) (h3 : aN a' = aN a) (h4 : aR a' = aR a) (h5 : aD a' = aD a) (h6 : aA a' = aA a) (h7 : aT a' = aT a) (h8 : aL a' = aL a) (h9 : aB a' = aB a) (h10 : aS a' = aS a) (h11 : aO a' = aO a) : RJ L rm nd σ a' := by
  unfold RJ bsy at h ⊢
  rw [h1, h2, h3, h4, h5, h6, h7, h8, h9, h10, h11]
  exact h
/-- cells of the tree, or of nothing that is pictured, changed -/
theorem RJ.same (hln : JLn L rm nd) (h : RJ L rm nd σ a) (hf : ∀ o k, ¬ o = 6 ∨ k = 0 ∨ k = 1 → τ.1 o k = σ.1 o k) (hr : ∀ r, r < 129 ∨ (136 < r ∧ r ≠ 146 ∧ r ≠ 161) → τ.2 r = σ.2 r) : JZ L rm nd τ ∧ sgr σ τ ∧ JFr τ (aF a) (aO a) ∧ JEn L τ (aE a) (bsy a) ∧ JNu τ (aN a) ∧ JRo τ (aR a) ∧ JEd L τ (aD a) ∧ JAd L τ (aA a) ∧ JNt L τ (aT a) ∧ (τ.1 2 4 = 0 ∧ τ.1 2 6 = (aN a 2 : Int)) := by
  obtain ⟨hZ, h1, h2, h3, h4, h5, h6, h7, h8, h9, h10, h11, h12⟩ := h
  obtain ⟨z1, z2⟩ := hZ.out (σ' := τ) (fun o k hk => hf o k (by omega)) (fun r hr' => hr r (by omega))
  refine ⟨z1, z2, h1.dep z2 ⟨fun o k hk => hf o k ?_, fun r hk => hr r ?_⟩, h2.dep z2 z1.1 hln.1 ⟨fun o k hk => hf o k ?_, fun r hk => hr r ?_⟩, h3.dep ⟨fun o k hk => hf o k ?_, fun r hk => hr r ?_⟩, h4.dep z2 ⟨fun o k hk => hf o k ?_, fun r hk => hr r ?_⟩, h5.dep z2 z1.1 hln.1 ⟨fun o k hk => hf o k ?_, fun r hk => hr r ?_⟩, h6.dep z2 z1.1 hln.1 ⟨fun o k hk => hf o k ?_, fun r hk => hr r ?_⟩, h7.dep z2 z1.1 hln.1 ⟨fun o k hk => hf o k ?_, fun r hk => hr r ?_⟩, by rw [hf 2 4 (by omega)]; exact h11, by rw [hf 2 6 (by omega)]; exact h12⟩
  · simp [fFr] at hk; omega
  · simp [rFr] at hk; omega
  · simp [fEn] at hk; omega
  · simp [rEn] at hk; omega
  · simp [fNu] at hk; omega
  · simp [rNo] at hk
  · simp [fRo] at hk; omega
  · simp [rNo] at hk
  · simp [fEd] at hk; omega
  · simp [rEd] at hk; omega
  · simp [fAd] at hk; omega
  · simp [rAd] at hk; omega
  · simp [fNt] at hk; omega
  · simp [rNt] at hk; omega
theorem sp_note {Q : IS → Prop} {b : Int} {sp : Bool} (hln : JLn L rm nd) (h : RJ L rm nd σ a) (ho : och (aL a) (aO a)) (hn : (aL a).length ≤ nd) (hb : (b = 1 ∧ sp = false) ∨ ((b = 2 ∨ b = 5) ∧ sp = true)) (hq : ∀ σ', RJ L rm nd σ' (tch a sp) → (∀ o k, σ'.1 o k = σ.1 o k) → (∀ r, r ≠ 133 → σ'.2 r = σ.2 r) → Q σ') : w_Tree_note L b Q σ := by
  have hEl := h.2.2.2.2.2.2.2.2.1
  have h133 := hln.2.2.2.2.2.2.2.2.2.2.1.1 133 (by omega) (by omega)
  have hnd := hln.2.1
  unfold w_Tree_note
  refine WJ_dir ?_
  dsimp only
  rw [hEl.2.1]
  cases hO : aO a with
  | nil =>
    rw [if_pos (by rfl)]
    have e : tch a sp = a := by unfold tch; rw [hO]
    exact hq σ (by rw [e]; exact h) (fun _ _ => rfl) (fun _ _ => rfl)
  | cons e r =>
    rw [hO] at ho
    have he := ho.1
    have hop : opn (e :: r) = (e : Int) := rfl
    rw [hop, if_neg (by omega), show Int.toNat (e : Int) = e by omega]
    refine ⟨⟨by omega, by omega⟩, ⟨by omega, by omega⟩, ?_⟩
    obtain ⟨z1, z2, z3, z4, z5, z6, z7, z8, z9, z10⟩ := h.same (τ := pr σ 133 e (io (σ.2 133 e) b)) hln (fun _ _ _ => rfl) (fun q hq => funext (fun j => by rw [pr_2, if_neg (by omega)]))
    refine hq _ ?_ (fun _ _ => rfl) (fun q hq => funext (fun j => by rw [pr_2, if_neg (fun z => hq z.1)]))
    obtain ⟨t1, t2, t3, t4, t5, t6, t7, t8, t9, t10⟩ := tch_other (a := a) (sp := sp)
    have hbs : bsy (tch a sp) = bsy a := by unfold bsy; rw [t1]
    refine ⟨z1, by rw [t1, t10]; exact z3, by rw [t2, hbs]; exact z4, by rw [t3]; exact z5, by rw [t4]; exact z6, by rw [t5]; exact z7, by rw [t6]; exact z8, by rw [t7]; exact z9, ?_, by rw [t8]; exact h.2.2.2.2.2.2.2.2.2.1.dep z2 (ag.refl.pr rfl), by rw [t9]; exact h.2.2.2.2.2.2.2.2.2.2.1.dep z2 (ag.refl.pr rfl), by rw [t3]; exact z10⟩
    rw [t10, tch_L hO]
    refine ⟨by rw [List.length_modify]; exact hEl.1, hEl.2.1, fun i hi => ?_⟩
    rw [List.length_modify] at hi
    have hi' := hEl.2.2 i hi
    have hg : ((aL a).modify e (fun x => (x.1, x.2.1, x.2.2.1, x.2.2.2.1, x.2.2.2.2.1, true, x.2.2.2.2.2.2 || sp))).getD i elD = if e = i then (((aL a).getD i elD).1, ((aL a).getD i elD).2.1, ((aL a).getD i elD).2.2.1, ((aL a).getD i elD).2.2.2.1, ((aL a).getD i elD).2.2.2.2.1, true, ((aL a).getD i elD).2.2.2.2.2.2 || sp) else (aL a).getD i elD := by
      rw [List.getD_eq_getElem?_getD, List.getD_eq_getElem?_getD, List.getElem?_modify, List.getElem?_eq_getElem hi]
      by_cases c : e = i
      · rw [if_pos c]
        simp [c]
      · rw [if_neg c]
        simp [c]
    rw [hg]
    have hrw : ∀ q, q ≠ 133 → (pr σ 133 e (io (σ.2 133 e) b)).2 q i = σ.2 q i := fun q hq => by rw [pr_2, if_neg (fun z => hq z.1)]
    rw [hrw 146 (by decide), hrw 129 (by decide), hrw 130 (by decide), hrw 131 (by decide), hrw 132 (by decide), pr_2]
    by_cases c : e = i
    · subst c
      rw [if_pos rfl, if_pos ⟨rfl, rfl⟩]
      refine ⟨hi'.1.gr z2, hi'.2.1, hi'.2.2.1, hi'.2.2.2.1, hi'.2.2.2.2.1, ?_⟩
      rcases hb with ⟨rfl, rfl⟩ | ⟨hb, rfl⟩
      · exact cbt_1 hi'.2.2.2.2.2
      · exact cbt_25 hi'.2.2.2.2.2 hb
    · rw [if_neg c, if_neg (fun z => c z.2.symm)]
      exact ⟨hi'.1.gr z2, hi'.2⟩
/-- appended to the stream -/
theorem jev_app (g : sgr σ τ) {c : Int} {n : Nat} : ∀ (st : List Evt) (i : Nat), i + evl st = n → jev σ i st n → (∀ k, k < n → τ.2 136 k = σ.2 136 k) → τ.2 136 n = c → jev τ i (st ++ [.inl c]) (n + 1) := by
  intro st
  induction st with
  | nil =>
    intro i hi h hr hc
    have : i = n := h
    subst this
    exact ⟨hc, rfl⟩
  | cons v r ih =>
    intro i hi h hr hc
    cases v with
    | inl d =>
      have hi' : i + (evl r + 1) = n := hi
      have h' : σ.2 136 i = d ∧ jev σ (i + 1) r n := h
      exact ⟨by rw [hr i (by omega)]; exact h'.1, ih (i + 1) (by omega) h'.2 hr hc⟩
    | inr q =>
      obtain ⟨t, s⟩ := q
      have hi' : i + (evl r + 5) = n := hi
      have h' : σ.2 136 i = -2 ∧ (Jt σ (σ.2 136 (i + 1)) t ∧ σ.2 136 (i + 2) = (t.length : Int)) ∧ (Jt σ (σ.2 136 (i + 3)) s ∧ σ.2 136 (i + 4) = (s.length : Int)) ∧ jev σ (i + 5) r n := h
      exact ⟨by rw [hr i (by omega)]; exact h'.1, ⟨by rw [hr (i + 1) (by omega)]; exact h'.2.1.1.gr g, by rw [hr (i + 2) (by omega)]; exact h'.2.1.2⟩, ⟨by rw [hr (i + 3) (by omega)]; exact h'.2.2.1.1.gr g, by rw [hr (i + 4) (by omega)]; exact h'.2.2.1.2⟩, ih (i + 5) (by omega) h'.2.2.2 hr hc⟩
theorem evl_app {st st' : List Evt} : evl (st ++ st') = evl st + evl st' := by
  induction st with
  | nil => simp [evl]
  | cons v r ih =>
    cases v with
    | inl d => show evl (r ++ st') + 1 = evl r + 1 + evl st'; omega
    | inr q => show evl (r ++ st') + 5 = evl r + 5 + evl st'; omega
theorem ltr_app {st st' : List Evt} : ltr (st ++ st') = ltr st + ltr st' := by
  induction st with
  | nil => simp [ltr]
  | cons v r ih =>
    cases v with
    | inl d => show ltr (r ++ st') + (if 0 ≤ d then 1 else 0) = ltr r + (if 0 ≤ d then 1 else 0) + ltr st'; omega
    | inr q => show ltr (r ++ st') = ltr r + ltr st'; exact ih
/-- something in the stream -/
theorem sp_put {Q : IS → Prop} {c : Int} (hln : JLn L rm nd) (h : RJ L rm nd σ a) (hs : evl (aS a) < rm) (hq : ∀ σ', σ' = pf (pr σ 136 (evl (aS a)) c) 6 15 ((evl (aS a) : Int) + 1) → (∀ n : Nat, n = ltr (aS a) + (if 0 ≤ c then 1 else 0) → RJ L rm nd (pf σ' 6 16 (n : Int)) (sS a (aS a ++ [.inl c]))) → Q σ') : w_Tree_put L c Q σ := by
  have hSt := h.2.2.2.2.2.2.2.2.2.2.1
  have h136 : L 136 = rm := hln.2.2.2.2.2.2.2.2.2.2.2
  have hrm := hln.2.1
  unfold w_Tree_put
  refine WJ_dir ?_
  dsimp only
  rw [hSt.1, if_pos (by omega), show Int.toNat (evl (aS a) : Int) = evl (aS a) by omega]
  refine ⟨⟨by omega, by omega⟩, ⟨by omega, by omega⟩, ?_⟩
  refine hq _ rfl (fun n hn => ?_)
  obtain ⟨z1, z2, z3, z4, z5, z6, z7, z8, z9, z10⟩ := h.same (τ := pf (pf (pr σ 136 (evl (aS a)) c) 6 15 ((evl (aS a) : Int) + 1)) 6 16 (n : Int)) hln (fun o k hk => by rw [pf_1, if_neg (by omega), pf_1, if_neg (by omega)]; rfl) (fun q hq => funext (fun j => by rw [pf_2, pf_2, pr_2, if_neg (by omega)]))
  refine ⟨z1, z3, z4, z5, z6, z7, z8, z9, h.2.2.2.2.2.2.2.2.1.dep z2 (((ag.refl.pr rfl).pf rfl).pf rfl), h.2.2.2.2.2.2.2.2.2.1.dep z2 (((ag.refl.pr rfl).pf rfl).pf rfl), ⟨?_, ?_, ?_⟩, z10⟩
  · show _ = ((evl (aS a ++ [.inl c]) : Nat) : Int)
    rw [evl_app, pf_nk (by decide), pf_eq]
    show (evl (aS a) : Int) + 1 = ((evl (aS a) + 1 : Nat) : Int)
    omega
  · show _ = ((ltr (aS a ++ [.inl c]) : Nat) : Int)
    rw [ltr_app, pf_eq, hn]
    show _ = ((ltr (aS a) + (0 + if 0 ≤ c then 1 else 0) : Nat) : Int)
    rw [Nat.zero_add]
  · show jev _ 0 (aS a ++ [.inl c]) (evl (aS a ++ [.inl c]))
    rw [evl_app]
    exact jev_app z2 (aS a) 0 (by omega) hSt.2.2 (fun k hk => by rw [pf_2, pf_2, pr_2, if_neg (by omega)]) (by rw [pf_2, pf_2, pr_2, if_pos ⟨rfl, rfl⟩])
theorem sp_addCharacter {Q : IS → Prop} {c : Int} (hln : JLn L rm nd) (h : RJ L rm nd σ a) (hs : evl (aS a) < rm) (hc : 0 ≤ c) (hlt : ltr (aS a) ≤ evl (aS a)) (hq : ∀ σ', RJ L rm nd σ' (chr a [c]) → (∀ o k, o ≠ 6 → σ'.1 o k = σ.1 o k) → (∀ r, r ≠ 136 → σ'.2 r = σ.2 r) → Q σ') : w_Tree_addCharacter L c Q σ := by
  have hSt := h.2.2.2.2.2.2.2.2.2.2.1
  have hrm := hln.2.1
  unfold w_Tree_addCharacter
  refine sp_put hln h hs (fun σ' hσ hr => ?_)
  have e16 : σ'.1 6 16 = (ltr (aS a) : Int) := by rw [hσ, pf_nk (by decide)]; exact hSt.2.1
  rw [e16]
  refine ⟨⟨by omega, by omega⟩, ?_⟩
  rw [show (ltr (aS a) : Int) + 1 = ((ltr (aS a) + 1 : Nat) : Int) by omega]
  refine hq _ (hr _ (by rw [if_pos hc])) (fun o k ho => by rw [pf_no ho, hσ, pf_no ho]; rfl) (fun r hr => funext (fun j => by rw [pf_2, hσ, pf_2, pr_2, if_neg (fun z => hr z.1)]))
theorem ltr_le : ∀ st : List Evt, ltr st ≤ evl st := by
  intro st
  induction st with
  | nil => exact Nat.le_refl _
  | cons v r ih =>
    cases v with
    | inl d => show ltr r + (if 0 ≤ d then 1 else 0) ≤ evl r + 1; split <;> omega
    | inr q => show ltr r ≤ evl r + 5; omega
end JTr
