/-! ===== the reference at the end of a text: namespaces ===== -/
/-- the counts of namespaces -/
def R19 (o : Nat) (σ : IS) (c : Nat → Nat) : Prop := ∀ k, k < 6 → σ.2 (rfo o 19) k = (c k : Int)
/-- only they and the strings have changed -/
def FR9 (o : Nat) (σ ρ : IS) : Prop := (∀ p k, ¬ (p = 13 ∧ (k = 1 ∨ k = 6)) → ρ.1 p k = σ.1 p k) ∧ ∀ r, ¬ (211 ≤ r ∧ r ≤ 215) → r ≠ rfo o 19 → ρ.2 r = σ.2 r
def SPc (rm nd o : Nat) (σ0 ρ : IS) (g : KG) (a : AS) (c : Nat → Nat) : Prop := KFn rm nd o ρ g a ∧ R19 o ρ c ∧ FR9 o σ0 ρ
/-- what is wanted of a document -/
def PDx (L : Nat → Nat) (o : Nat) (a : AS) : Prop := (∀ i, i < (aL a).length → (((aL a).getD i elD).2.1 = -1 ∨ (0 ≤ ((aL a).getD i elD).2.1 ∧ ((aL a).getD i elD).2.1 < (i : Int)))) ∧ (∀ i, i < (aL a).length → ((aL a).getD i elD).2.2.1 + ((aL a).getD i elD).2.2.2.1 ≤ (aB a).length ∧ DST (aB a) ((aL a).getD i elD)) ∧ (aB a).length ≤ L (rfo o 8) ∧ (aL a).length ≤ 16384 ∧ GM a
/-- the counts of an element after so many attributes -/
noncomputable def SC (E : Str → Str) (at_ : List Att) (x : Elm) (k n : Nat) : Nat := snE E at_ x k n + (if k = 3 then sn (fun i => nm3 (at_.getD (x.2.2.1 + i) atD)) n else 0)
section Kso
variable {L : Nat → Nat} {rm nd o : Nat} {σ σ0 ρ : IS} {g : KG} {a : AS} {Q : IS → Prop} {R : Int → IS → Prop} {c : Nat → Nat} {s : Str} {v : Int} {E : Str → Str} {at_ : List Att} {x : Elm}
theorem SC_0 {k : Nat} : SC E at_ x k 0 = (if k = 0 then nm0 x.1 else 0) + (if k = 4 then nm4 x.1 else 0) + (if k = 1 then nm1 E x.1 else 0) := by
  unfold SC snE
  have z : ∀ f : Nat → Nat, sn f 0 = 0 := fun f => rfl
  rw [z, z, z, z]
  by_cases c0 : k = 0
  · subst c0; rfl
  by_cases c1 : k = 1
  · subst c1; show nm1 E x.1 + 0 + 0 = 0 + 0 + nm1 E x.1; omega
  by_cases c2 : k = 2
  · subst c2; rfl
  by_cases c4 : k = 4
  · subst c4; show nm4 x.1 + 0 = 0 + nm4 x.1 + 0; omega
  rw [if_neg c0, if_neg c1, if_neg c2, if_neg c4, if_neg c0, if_neg c1]
  split <;> rfl
theorem SC_s {k n : Nat} : SC E at_ x k (n + 1) = SC E at_ x k n + (if k = 0 then nm0 (at_.getD (x.2.2.1 + n) atD).1 else 0) + (if k = 1 then nm1 E (at_.getD (x.2.2.1 + n) atD).1 else 0) + (if k = 2 then nm2 E at_ x.2.2.1 n else 0) + (if k = 3 then nm3 (at_.getD (x.2.2.1 + n) atD) else 0) := by
  unfold SC snE
  rw [sn_s, sn_s, sn_s, sn_s]
  by_cases c0 : k = 0
  · subst c0; simp only [if_true, show ¬ (0 : Nat) = 1 by omega, show ¬ (0 : Nat) = 2 by omega, show ¬ (0 : Nat) = 3 by omega, if_false]; omega
  by_cases c1 : k = 1
  · subst c1; simp only [if_true, show ¬ (1 : Nat) = 0 by omega, show ¬ (1 : Nat) = 2 by omega, show ¬ (1 : Nat) = 3 by omega, if_false]; omega
  by_cases c2 : k = 2
  · subst c2; simp only [if_true, show ¬ (2 : Nat) = 0 by omega, show ¬ (2 : Nat) = 1 by omega, show ¬ (2 : Nat) = 3 by omega, if_false]; omega
  by_cases c3 : k = 3
  · subst c3; simp only [if_true, show ¬ (3 : Nat) = 0 by omega, show ¬ (3 : Nat) = 1 by omega, show ¬ (3 : Nat) = 2 by omega, show ¬ (3 : Nat) = 4 by omega, if_false]; omega
  rw [if_neg c0, if_neg c1, if_neg c2, if_neg c3, if_neg c0, if_neg c1, if_neg c2, if_neg c3, if_neg c0, if_neg c1, if_neg c2, if_neg c3]
theorem SC_le {k : Nat} (n : Nat) : SC E at_ x k n ≤ 4 * n + 3 := by
  induction n with
  | zero =>
    rw [SC_0]
    have := nm0_le (s := x.1)
    have := nm4_le (s := x.1)
    have := nm1_le (E := E) (s := x.1)
    split <;> split <;> split <;> omega
  | succ n ih =>
    rw [SC_s]
    have := nm0_le (s := (at_.getD (x.2.2.1 + n) atD).1)
    have := nm1_le (E := E) (s := (at_.getD (x.2.2.1 + n) atD).1)
    have := nm2_le (E := E) (at_ := at_) (f := x.2.2.1) (i := n)
    have := nm3_le (t := at_.getD (x.2.2.1 + n) atD)
    split <;> split <;> split <;> split <;> omega
theorem SPc.add {j m : Nat} (ho : o = 14 ∨ o = 15) (h : SPc rm nd o σ0 ρ g a c) (hv : v = ((c j + m : Nat) : Int)) : SPc rm nd o σ0 (pr ρ (rfo o 19) j v) g a (fun k => c k + if k = j then m else 0) := by
  have r1 := rf_1 ho
  obtain ⟨h1, h2, h3⟩ := h
  have hr : ∀ r, r ≠ rfo o 19 → (pr ρ (rfo o 19) j v).2 r = ρ.2 r := fun r y => by
    funext x
    rw [pr_2, if_neg (fun z => y z.1)]
  refine ⟨h1.dep ho (h1.1.dep ho (fun _ _ _ => rfl) (fun r y => hr r (by omega))) kle.refl rfl (fun _ _ _ _ _ => rfl) (fun r _ _ y _ => hr r y), fun k hk => ?_, h3.1, fun r y1 y2 => by rw [hr r y2]; exact h3.2 r y1 y2⟩
  show _ = ((c k + if k = j then m else 0 : Nat) : Int)
  rw [pr_2]
  by_cases ck : k = j
  · rw [if_pos ⟨rfl, ck⟩, if_pos ck, hv, ck]
  · rw [if_neg (fun z => ck z.2), if_neg ck]; exact h2 k hk
theorem SPc.kd (hL : KLn L o rm nd) (hP : PDx L o a) (h : SPc rm nd o σ0 ρ g a c) (hpl : (gP g).length ≤ L (rfo o 1)) : KD3 L rm nd o ρ g (aA a) (aL a) (aB a) :=
  ⟨hL, h.1.1, h.1.2.2.2.2.2.1, h.1.2.2.2.2.2.2.1, hP.1, hP.2.1, hP.2.2.1, hP.2.2.2.1, hpl⟩
theorem sp_K_colon2 (hL : KLn L o rm nd) (h : KZ rm nd o σ g) (hv : Kn (gB g) v s) (hnm : ∀ c ∈ s, isNm c = true) (hr : ∀ z : Int, (if z = (-2) then (1 : Int) else 0) = ((nm0 s : Nat) : Int) → R z σ) : w_KDoc_colon L o v R σ := by
  refine sp_K_colon hL h hv hnm (fun hok => hr _ ?_) (fun hno z hz => hr _ ?_)
  · have h1 := hok.2.1
    rw [if_neg (by omega)]
    unfold nm0
    rw [(prf_1 hok).1, if_neg (fun z => by cases z)]
    rfl
  · unfold nm0
    rcases hz with ⟨z1, z2⟩ | ⟨z1, z2⟩
    · rw [z1, (prf_0 z2).1, if_neg (by decide), if_neg (fun z => by cases z)]; rfl
    · rw [z1, (prf_n z2 hno).1, if_pos rfl, if_pos rfl]; rfl
theorem sp_K_prefix2 (hL : KLn L o rm nd) (h : SPc rm nd o σ0 σ g a c) (hv : Kn (gB g) v s) (hnm : ∀ c ∈ s, isNm c = true) (hcap : okq s → kcS (gB g) (pfx s)) (hr : ∀ w τ, KPx (kpL (gB g) ((plk s).take 1)) w s → SPc rm nd o σ0 τ (kpL (gB g) ((plk s).take 1), g.2) a c → R w τ) : w_KDoc_prefix L o v R σ := by
  have ho := hL.2.1
  have r1 := rf_1 ho
  refine sp_K_prefix hL h.1.1 hv hnm hcap (fun hok w τ h1 h2 h3 => ?_) (fun hno => ?_)
  · have e : kpL (gB g) ((plk s).take 1) = kpS (gB g) (pfx s) := by rw [plk_1 hok]; rfl
    rw [e] at hr
    refine hr w τ (Or.inl ⟨hok, h1⟩) ⟨h.1.dep ho h2 kpS_pre rfl (fun p k y _ _ => h3.1 p k y) (fun r y1 _ _ _ => funext (fun x => h3.2 r x (by omega))), fun k hk => ?_, fun p k y => ?_, fun r y1 y2 => ?_⟩
    · rw [h3.2 _ k (by omega)]; exact h.2.1 k hk
    · rw [h3.1 p k y]; exact h.2.2.1 p k y
    · rw [show τ.2 r = σ.2 r from funext (fun x => h3.2 r x (by omega))]; exact h.2.2.2 r y1 y2
  · have e : kpL (gB g) ((plk s).take 1) = gB g := by rw [plk_0 hno]; rfl
    rw [e] at hr
    exact hr (-1) σ (Or.inr ⟨hno, rfl⟩) h
theorem nm1_no (h : ¬ okq s) : nm1 E s = 0 := by
  unfold nm1
  rw [if_neg (fun z => z.1 (pfx_no h))]
theorem nm1_dcl (h : (dcl s).isSome = true) : nm1 E s = 0 := by
  by_cases c : okq s
  · rw [dcl_ok c] at h
    split at h
    · rename_i c2
      unfold nm1
      rw [if_neg (fun z => z.2.1 c2)]
    · cases h
  · exact nm1_no c
theorem nm1_ok (h : okq s) (hd : (dcl s).isSome = false) : nm1 E s = if E (pfx s) = [] then 1 else 0 := by
  have hx : pfx s ≠ sXn := fun z => by rw [dcl_ok h, if_pos z] at hd; cases hd
  unfold nm1
  by_cases c : E (pfx s) = []
  · rw [if_pos ⟨(pfx_okq h).2, hx, c⟩, if_pos c]
  · rw [if_neg (fun z => c z.2.2), if_neg c]
theorem nm3_no {t : Att} (hd : (dcl t.1).isSome = false) : nm3 t = 0 := by
  unfold nm3
  cases h : dcl t.1 with
  | none => rfl
  | some p => rw [h] at hd; cases hd
end Kso
