/-! ===== a model, from its text (pure) ===== -/
def mdV (T : Nat → Int) (e : Nat) : Nat → List MFr → Bool → Nat → List Str → Option (MVl × List Str)
  | 0, _, _, _, _ => none
  | _ + 1, [], _, _, _ => none
  | m + 1, (s, o) :: fs, due, k, ns => if due = true then (if lk T e (sk isSp T e k) = 40 then mdV T e m ((0, none) :: (s, o) :: fs) true (sk isSp T e k + 1) ns else (match nmg T e true (some (sk isSp T e k)) with
        | none => none
        | some j => mdV T e m ((s, some (vj s o (vof (hwf T e j) (vlf ns.length)))) :: fs) false (oft T e j) (ns ++ [sl T (sk isSp T e k) (j - sk isSp T e k)])))
      else if lk T e (sk isSp T e k) = 41 then (match o with
        | none => none
        | some v => match fs with
          | [] => some (vof (hwf T e (sk isSp T e k + 1)) v, ns)
          | (s', o') :: fs' => mdV T e m ((s', some (vj s' o' (vof (hwf T e (sk isSp T e k + 1)) v))) :: fs') false (oft T e (sk isSp T e k + 1)) ns)
      else if (lk T e (sk isSp T e k) = 124 ∨ lk T e (sk isSp T e k) = 44) ∧ (s = 0 ∨ s = lk T e (sk isSp T e k)) then mdV T e m ((lk T e (sk isSp T e k), o) :: fs) true (sk isSp T e k + 1) ns
      else none
/-- groups that wait for a part -/
def frO (fs : List MFr) : Prop := ∀ f ∈ fs, ∀ v, f.2 = some v → f.1 ≠ 0
def FRm : List MFr → Bool → Prop
  | [], _ => False
  | f :: t, due => frO t ∧ (if due = true then ∀ v, f.2 = some v → f.1 ≠ 0 else f.2.isSome = true)
/-- nothing from n on comes last, or has something behind it -/
def belV (n : Nat) (v : MVl) : Prop := ∀ p, n ≤ p → v.2.2.1 p = false ∧ ∀ q, v.2.2.2 p q = false
def belF (n : Nat) (fs : List MFr) : Prop := ∀ f ∈ fs, ∀ v, f.2 = some v → belV n v
section MdP
variable {T : Nat → Int} {e : Nat}
theorem belV.vof {n : Nat} {v : MVl} {h : Int} (hb : belV n v) : belV n (vof h v) := fun p hp => ⟨(hb p hp).1, fun q => by
  show (v.2.2.2 p q || (rpt h && (v.2.2.1 p && v.2.1 q))) = false
  rw [(hb p hp).2, (hb p hp).1]
  simp⟩
theorem belV.vj {n : Nat} {s : Int} {o : Option MVl} {x : MVl} (ho : ∀ v, o = some v → belV n v) (hx : belV n x) : belV n (vj s o x) := by
  cases o with
  | none => exact hx
  | some v =>
    have hv := ho v rfl
    show belV n (vjn (s == 124) v x)
    unfold vjn
    split
    · intro p hp
      exact ⟨by show (v.2.2.1 p || x.2.2.1 p) = false; rw [(hv p hp).1, (hx p hp).1]; rfl, fun q => by show (v.2.2.2 p q || x.2.2.2 p q) = false; rw [(hv p hp).2, (hx p hp).2]; rfl⟩
    · intro p hp
      exact ⟨by show (x.2.2.1 p || (x.1 && v.2.2.1 p)) = false; rw [(hv p hp).1, (hx p hp).1]; simp, fun q => by show ((v.2.2.2 p q || x.2.2.2 p q) || (v.2.2.1 p && x.2.1 q)) = false; rw [(hv p hp).2, (hx p hp).2, (hv p hp).1]; simp⟩
theorem belV.vlf {n : Nat} : belV (n + 1) (vlf n) := fun p hp => ⟨by show (p == n) = false; simp; omega, fun q => rfl⟩
theorem belV.mono {n m : Nat} {v : MVl} (h : belV n v) (hm : n ≤ m) : belV m v := fun p hp => h p (Nat.le_trans hm hp)
theorem belF.mono {n m : Nat} {fs : List MFr} (h : belF n fs) (hm : n ≤ m) : belF m fs := fun f hf v hv => (h f hf v hv).mono hm
theorem fwu_c {f : MFr} {t : List MFr} {p q : Nat} : fwu (f :: t) p q = ((match f.2 with
    | none => false
    | some v => v.2.2.2 p q) || fwu t p q) := rfl
theorem belF.fwu0 {n : Nat} : ∀ {fs : List MFr}, belF n fs → ∀ q, fwu fs n q = false := by
  intro fs
  induction fs with
  | nil => intro _ q; rfl
  | cons f t ih =>
    intro h q
    rw [fwu_c, ih (fun g hg => h g (List.mem_cons_of_mem _ hg)) q, Bool.or_false]
    cases hf : f.2 with
    | none => rfl
    | some v => exact (h f List.mem_cons_self v hf n (Nat.le_refl _)).2 q
/-- the part is joined: what may come behind what -/
theorem fwu_j {s : Int} {o : Option MVl} {x : MVl} {t : List MFr} {p q : Nat} : fwu ((s, some (vj s o x)) :: t) p q = ((fwu ((s, o) :: t) p q || x.2.2.2 p q) || match o with
    | none => false
    | some v => (!(s == 124)) && (v.2.2.1 p && x.2.1 q)) := by
  rw [fwu_c, fwu_c]
  cases o with
  | none =>
    show (x.2.2.2 p q || fwu t p q) = (((false || fwu t p q) || x.2.2.2 p q) || false)
    cases x.2.2.2 p q <;> cases fwu t p q <;> rfl
  | some v =>
    show ((vjn (s == 124) v x).2.2.2 p q || fwu t p q) = (((v.2.2.2 p q || fwu t p q) || x.2.2.2 p q) || ((!(s == 124)) && (v.2.2.1 p && x.2.1 q)))
    unfold vjn
    cases (s == 124) with
    | true =>
      rw [if_pos rfl]
      show ((v.2.2.2 p q || x.2.2.2 p q) || fwu t p q) = _
      cases v.2.2.2 p q <;> cases x.2.2.2 p q <;> cases fwu t p q <;> rfl
    | false =>
      rw [if_neg (by decide)]
      show (((v.2.2.2 p q || x.2.2.2 p q) || (v.2.2.1 p && x.2.1 q)) || fwu t p q) = _
      cases v.2.2.2 p q <;> cases x.2.2.2 p q <;> cases fwu t p q <;> cases v.2.2.1 p <;> cases x.2.1 q <;> rfl
theorem lk_ge {i : Nat} (h : ¬ i < e) : lk T e i = -1 := by unfold lk; rw [if_neg h]
theorem lk_b {i : Nat} (h : i < e) : lk T e i = T i := by unfold lk; rw [if_pos h]
theorem nmg_at {i j : Nat} (h : nmg T e true (some i) = some j) : isSt (lk T e i) = true := by
  have h' : (if (if true = true then isSt (lk T e i) else isNm (lk T e i)) = true then some (sk isNm T e (i + 1)) else none) = some j := h
  rw [if_pos rfl] at h'
  split at h'
  · assumption
  · cases h'
/-- a model goes on below the end -/
theorem mdk_in {N k n d : Nat} {s : Int} {st : List Int} {due : Bool} {r : Nat × Nat × Nat} (h : mdk T e N (s :: st) due k n d = some r) : k < e ∧ sk isSp T e k < e ∧ (due = false → lk T e k ≠ 63) := by
  have hk : sk isSp T e k < e := by
    refine Classical.byContradiction (fun hc => ?_)
    have hlk := lk_ge (T := T) hc
    cases N with
    | zero => cases h
    | succ N =>
      unfold mdk at h
      rw [hlk] at h
      cases due with
      | true =>
        rw [if_pos rfl, if_neg (by decide)] at h
        split at h
        · cases h
        · rename_i j hj
          have := nmg_at hj
          rw [hlk] at this
          exact absurd this (by decide)
      | false =>
        rw [if_neg (by decide), if_neg (by decide), if_neg (by rintro ⟨z | z, -⟩ <;> exact absurd z (by decide))] at h
        cases h
  have hke : k < e := Nat.lt_of_le_of_lt sk_gt hk
  refine ⟨hke, hk, fun hd z => ?_⟩
  have hT : T k = 63 := by rw [← lk_b (T := T) hke]; exact z
  have hs : sk isSp T e k = k := sk_stop (by rw [hT]; decide)
  cases N with
  | zero => cases h
  | succ N =>
    unfold mdk at h
    rw [hs, z, hd, if_neg (by decide), if_neg (by decide), if_neg (by rintro ⟨y | y, -⟩ <;> exact absurd y (by decide))] at h
    cases h
theorem mdk_mono : ∀ (N : Nat) (st : List Int) (due : Bool) (k n d : Nat) {r : Nat × Nat × Nat}, mdk T e N st due k n d = some r → n ≤ r.2.1 ∧ d ≤ r.2.2 := by
  intro N
  induction N with
  | zero => intro st due k n d r h; cases h
  | succ N ih =>
    intro st due k n d r h
    cases st with
    | nil =>
      have h' : some (k, n, d) = some r := h
      have := Option.some.inj h'
      rw [← this]
      exact ⟨Nat.le_refl _, Nat.le_refl _⟩
    | cons s st =>
      unfold mdk at h
      split at h
      · split at h
        · have := ih _ _ _ _ _ h
          refine ⟨this.1, Nat.le_trans ?_ this.2⟩
          split <;> omega
        · split at h
          · cases h
          · have := ih _ _ _ _ _ h
            omega
      · split at h
        · exact ih _ _ _ _ _ h
        · split at h
          · exact ih _ _ _ _ _ h
          · cases h
theorem mdk_sp {N k n d : Nat} {s : Int} {st : List Int} {due : Bool} (hk : k < e) (hs : isSp (T k) = true) : mdk T e N (s :: st) due k n d = mdk T e N (s :: st) due (k + 1) n d := by
  cases N with
  | zero => rfl
  | succ N =>
    unfold mdk
    rw [sk_go hk hs]
theorem mdV_sp {N k : Nat} {f : MFr} {fs : List MFr} {due : Bool} {ns : List Str} (hk : k < e) (hs : isSp (T k) = true) : mdV T e N (f :: fs) due k ns = mdV T e N (f :: fs) due (k + 1) ns := by
  cases N with
  | zero => rfl
  | succ N =>
    unfold mdV
    rw [sk_go hk hs]
/-- what is well written has a meaning -/
theorem mdV_ex : ∀ (N : Nat) (fs : List MFr) (due : Bool) (k d : Nat) (ns : List Str) {r : Nat × Nat × Nat}, fs ≠ [] → FRm fs due → mdk T e N (fs.map Prod.fst) due k ns.length d = some r → ∃ V NS, mdV T e N fs due k ns = some (V, NS) ∧ NS.length = r.2.1 := by
  intro N
  induction N with
  | zero => intro fs due k d ns r _ _ h; cases h
  | succ N ih =>
    intro fs due k d ns r hne hF h
    cases fs with
    | nil => exact absurd rfl hne
    | cons f t =>
      obtain ⟨s, o⟩ := f
      obtain ⟨hF1, hF2⟩ := hF
      have h' : mdk T e (N + 1) (s :: t.map Prod.fst) due k ns.length d = some r := h
      unfold mdk at h'
      unfold mdV
      by_cases hd : due = true
      · rw [if_pos hd] at h' ⊢ hF2
        by_cases h4 : lk T e (sk isSp T e k) = 40
        · rw [if_pos h4] at h' ⊢
          refine ih ((0, none) :: (s, o) :: t) true _ _ ns (by simp) ⟨fun f hf v hv => ?_, ?_⟩ h'
          · rcases List.mem_cons.mp hf with z | z
            · rw [z] at hv ⊢
              exact hF2 v hv
            · exact hF1 f z v hv
          · rw [if_pos rfl]
            intro v hv
            cases hv
        · rw [if_neg h4] at h' ⊢
          cases hn : nmg T e true (some (sk isSp T e k)) with
          | none => rw [hn] at h'; cases h'
          | some j =>
            rw [hn] at h'
            dsimp only at h' ⊢
            refine ih ((s, some (vj s o (vof (hwf T e j) (vlf ns.length)))) :: t) false _ _ _ (by simp) ⟨hF1, ?_⟩ (by rw [List.length_append, List.length_singleton]; exact h')
            rw [if_neg (by decide)]
            rfl
      · rw [if_neg hd] at h' ⊢ hF2
        by_cases h4 : lk T e (sk isSp T e k) = 41
        · rw [if_pos h4] at h' ⊢
          cases o with
          | none => cases hF2
          | some v =>
            dsimp only
            cases t with
            | nil =>
              have h2 : mdk T e N [] false (oft T e (sk isSp T e k + 1)) ns.length d = some r := h'
              refine ⟨_, _, rfl, ?_⟩
              have := mdk_mono N _ _ _ _ _ h2
              cases N with
              | zero => cases h2
              | succ N =>
                have h3 : some (oft T e (sk isSp T e k + 1), ns.length, d) = some r := h2
                rw [← Option.some.inj h3]
            | cons g t' =>
              obtain ⟨s', o'⟩ := g
              refine ih ((s', some (vj s' o' (vof (hwf T e (sk isSp T e k + 1)) v))) :: t') false _ _ ns (by simp) ⟨fun f hf => hF1 f (List.mem_cons_of_mem _ hf), ?_⟩ h'
              rw [if_neg (by decide)]
              rfl
        · rw [if_neg h4] at h' ⊢
          by_cases h5 : (lk T e (sk isSp T e k) = 124 ∨ lk T e (sk isSp T e k) = 44) ∧ (s = 0 ∨ s = lk T e (sk isSp T e k))
          · rw [if_pos h5] at h' ⊢
            refine ih ((lk T e (sk isSp T e k), o) :: t) true _ _ ns (by simp) ⟨hF1, ?_⟩ h'
            rw [if_pos rfl]
            intro v _
            show lk T e (sk isSp T e k) ≠ 0
            rcases h5.1 with z | z <;> rw [z] <;> decide
          · rw [if_neg h5] at h'
            cases h'
/-- a name takes a place, and so does what stands before it -/
theorem mdk_two : ∀ (N : Nat) (st : List Int) (due : Bool) (k n d : Nat) {r : Nat × Nat × Nat}, st ≠ [] → mdk T e N st due k n d = some r → 2 * r.2.1 + k + (if due = true then 0 else 1) ≤ 2 * n + r.1 ∧ r.1 ≤ e := by
  intro N
  induction N with
  | zero => intro st due k n d r _ h; cases h
  | succ N ih =>
    intro st due k n d r hne h
    cases st with
    | nil => exact absurd rfl hne
    | cons s st =>
      have hin := mdk_in h
      have hg : k ≤ sk isSp T e k := sk_gt
      unfold mdk at h
      by_cases hd : due = true
      · rw [if_pos hd] at h
        rw [if_pos hd]
        by_cases h4 : lk T e (sk isSp T e k) = 40
        · rw [if_pos h4] at h
          have := ih _ _ _ _ _ (by simp) h
          rw [if_pos rfl] at this
          omega
        · rw [if_neg h4] at h
          split at h
          · cases h
          · rename_i j hj
            have hjl := nmg_lt hj
            have ho := oft_le (T := T) hjl.2.2
            have := ih _ _ _ _ _ (by simp) h
            rw [if_neg (by decide)] at this
            omega
      · rw [if_neg hd] at h
        rw [if_neg hd]
        have ho := oft_le (T := T) (show sk isSp T e k + 1 ≤ e by omega)
        by_cases h4 : lk T e (sk isSp T e k) = 41
        · rw [if_pos h4] at h
          cases st with
          | nil =>
            cases N with
            | zero => cases h
            | succ N =>
              have h3 : some (oft T e (sk isSp T e k + 1), n, d) = some r := h
              rw [← Option.some.inj h3]
              dsimp only
              omega
          | cons s' st' =>
            have := ih _ _ _ _ _ (by simp) h
            rw [if_neg (by decide)] at this
            omega
        · rw [if_neg h4] at h
          by_cases h5 : (lk T e (sk isSp T e k) = 124 ∨ lk T e (sk isSp T e k) = 44) ∧ (s = 0 ∨ s = lk T e (sk isSp T e k))
          · rw [if_pos h5] at h
            have := ih _ _ _ _ _ (by simp) h
            rw [if_pos rfl] at this
            omega
          · rw [if_neg h5] at h
            cases h
end MdP
