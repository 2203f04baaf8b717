/-! ===== chains by a key (pure) ===== -/
/-- the first one, from j on, whose key is q -/
def nxk (κ : Nat → Option Nat) (n q j : Nat) : Option Nat := (List.range' j (n - j)).find? (fun i => κ i == some q)
/-- all of them -/
def chl (κ : Nat → Option Nat) (n q j : Nat) : List Nat := (List.range' j (n - j)).filter (fun i => κ i == some q)
/-- how many have none -/
def nnk (κ : Nat → Option Nat) (n j : Nat) : Nat := ((List.range' j (n - j)).filter (fun i => κ i == none)).length
section Nxk
variable {κ : Nat → Option Nat} {n q j i : Nat}
theorem rng_cons (h : j < n) : List.range' j (n - j) = j :: List.range' (j + 1) (n - (j + 1)) := by
  rw [show n - j = (n - (j + 1)) + 1 by omega, List.range'_succ]
theorem nxk_s (h : j < n) : nxk κ n q j = if κ j = some q then some j else nxk κ n q (j + 1) := by
  unfold nxk
  rw [rng_cons h, List.find?_cons]
  by_cases c : κ j = some q
  · rw [if_pos c, c]; simp
  · rw [if_neg c, show (κ j == some q) = false by simpa using c]
theorem nxk_e (h : n ≤ j) : nxk κ n q j = none := by
  unfold nxk
  rw [show n - j = 0 by omega]
  rfl
theorem chl_s (h : j < n) : chl κ n q j = if κ j = some q then j :: chl κ n q (j + 1) else chl κ n q (j + 1) := by
  unfold chl
  rw [rng_cons h, List.filter_cons]
  by_cases c : κ j = some q
  · rw [if_pos c, c]; simp
  · rw [if_neg c, show (κ j == some q) = false by simpa using c]; rfl
theorem chl_e (h : n ≤ j) : chl κ n q j = [] := by
  unfold chl
  rw [show n - j = 0 by omega]
  rfl
theorem nnk_s (h : j < n) : nnk κ n j = nnk κ n (j + 1) + if κ j = none then 1 else 0 := by
  unfold nnk
  rw [rng_cons h, List.filter_cons]
  by_cases c : κ j = none
  · rw [if_pos c, c]; simp
  · have e : (κ j == none) = false := by
      cases hq : κ j with
      | none => exact absurd hq c
      | some v => rfl
    rw [if_neg c, e]; rfl
theorem nnk_e (h : n ≤ j) : nnk κ n j = 0 := by
  unfold nnk
  rw [show n - j = 0 by omega]
  rfl
theorem nnk_le : nnk κ n j ≤ n := by
  unfold nnk
  refine Nat.le_trans (List.length_filter_le _ _) ?_
  rw [List.length_range']
  omega
/-- a chain is gone along -/
theorem chl_nxk : ∀ (m j : Nat), n - j = m → chl κ n q j = match nxk κ n q j with
    | none => []
    | some i => i :: chl κ n q (i + 1) := by
  intro m
  induction m with
  | zero => intro j h; rw [nxk_e (by omega), chl_e (by omega)]
  | succ m ih =>
    intro j h
    rw [chl_s (by omega), nxk_s (by omega)]
    by_cases c : κ j = some q
    · rw [if_pos c, if_pos c]
    · rw [if_neg c, if_neg c]
      exact ih (j + 1) (by omega)
theorem nxk_some : ∀ (m j : Nat), n - j = m → nxk κ n q j = some i → j ≤ i ∧ i < n ∧ κ i = some q := by
  intro m
  induction m with
  | zero => intro j h hs; rw [nxk_e (by omega)] at hs; cases hs
  | succ m ih =>
    intro j h hs
    rw [nxk_s (by omega)] at hs
    by_cases c : κ j = some q
    · rw [if_pos c] at hs
      have e := Option.some.inj hs
      rw [← e]
      exact ⟨Nat.le_refl _, by omega, c⟩
    · rw [if_neg c] at hs
      have := ih (j + 1) (by omega) hs
      exact ⟨by omega, this.2⟩
theorem chl_len : (chl κ n q j).length ≤ n := by
  unfold chl
  refine Nat.le_trans (List.length_filter_le _ _) ?_
  rw [List.length_range']
  omega
/-- rows of the first ones, and of the next ones -/
def LK (κ : Nat → Option Nat) (n m e : Nat) (f g : Nat → Int) : Prop := (∀ q, q < m → f q = en1 (nxk κ n q e) - 1) ∧ ∀ i, e ≤ i → i < n → ∀ q, κ i = some q → g i = en1 (nxk κ n q (i + 1)) - 1
theorem LK.skip {m e : Nat} {f g : Nat → Int} (h : LK κ n m (e + 1) f g) (he : e < n) (hk : κ e = none) : LK κ n m e f g := by
  refine ⟨fun q hq => ?_, fun i h1 h2 q hq => ?_⟩
  · rw [nxk_s he, hk, if_neg (by simp)]
    exact h.1 q hq
  · by_cases c : i = e
    · rw [c, hk] at hq; cases hq
    · exact h.2 i (by omega) h2 q hq
theorem LK.put {m e q : Nat} {f g f' g' : Nat → Int} (h : LK κ n m (e + 1) f g) (he : e < n) (hk : κ e = some q) (hq : q < m) (hf : ∀ j, f' j = if j = q then (e : Int) else f j) (hg : ∀ j, g' j = if j = e then f q else g j) : LK κ n m e f' g' := by
  refine ⟨fun p hp => ?_, fun i h1 h2 p hp => ?_⟩
  · rw [nxk_s he, hk, hf]
    by_cases c : p = q
    · rw [if_pos c, if_pos (by rw [c])]
      show (e : Int) = (e : Int) + 1 - 1
      omega
    · rw [if_neg c, if_neg (fun z => c (Option.some.inj z).symm)]
      exact h.1 p hp
  · rw [hg]
    by_cases c : i = e
    · rw [if_pos c, c]
      rw [c, hk] at hp
      rw [← Option.some.inj hp]
      exact h.1 q hq
    · rw [if_neg c]
      exact h.2 i (by omega) h2 p hp
end Nxk
/-- the parent of an element -/
def kpr (el : List Elm) (i : Nat) : Option Nat := if (el.getD i elD).2.1 = -1 then none else some (el.getD i elD).2.1.toNat
/-- the declaration of an element -/
def kdc (ed : List EDc) (el : List Elm) (i : Nat) : Option Nat := edf ed (el.getD i elD).1
/-- the rows of chains, and one count, have changed -/
def VLk (σ σ' : IS) : Prop := (∀ o k, σ'.1 o k = σ.1 o k) ∧ ∀ r, ¬ (149 ≤ r ∧ r ≤ 153) → σ'.2 r = σ.2 r
/-- the chains are there -/
def LNK (σ : IS) (ed : List EDc) (el : List Elm) : Prop := LK (kpr el) el.length el.length 0 (σ.2 150) (σ.2 151) ∧ LK (kdc ed el) el.length ed.length 0 (σ.2 153) (σ.2 152)
section VLi
variable {L : Nat → Nat} {σ : IS} {el : List Elm} {ed : List EDc} {Q : IS → Prop}
theorem edf_lt {s : Str} {d : Nat} (h : edf ed s = some d) : d < ed.length := by
  unfold edf at h
  rw [List.findIdx?_eq_some_iff_getElem] at h
  exact h.1
set_option maxHeartbeats 1000000 in
theorem sp_Validator_link (hS : SI L σ) (hl : SL L) (h62 : σ.1 6 2 = (el.length : Int)) (hE : ∀ e, e < el.length → Jn σ (σ.2 146 e) (el.getD e elD).1 ∧ σ.2 129 e = (el.getD e elD).2.1) (hD : JEd L σ ed) (hp : ∀ e, e < el.length → (el.getD e elD).2.1 = -1 ∨ (0 ≤ (el.getD e elD).2.1 ∧ (el.getD e elD).2.1 < (e : Int))) (hLe : el.length ≤ L 129 ∧ el.length ≤ L 146 ∧ el.length ≤ L 150 ∧ el.length ≤ L 151 ∧ el.length ≤ L 152 ∧ el.length < 1000000) (hLd : ed.length ≤ L 153 ∧ L 125 = L 102 ∧ L 149 = 23 ∧ ed.length < 1000000) (hc : 0 ≤ σ.2 149 5 ∧ σ.2 149 5 ≤ 1000000000)
    (hq : ∀ σ', VLk σ σ' → LNK σ' ed el → (∀ k, σ'.2 149 k = σ.2 149 k + if k = 5 then (nnk (kdc ed el) el.length 0 : Int) else 0) → Q σ') : w_Validator_link L Q σ := by
  obtain ⟨d1, d2, d3⟩ := hD
  have hj := hS.jw_le
  unfold w_Validator_link
  rw [h62, d1]
  refine ⟨⟨by omega, by omega, by omega⟩, ⟨by omega, by omega, by omega⟩, ⟨by omega, by omega⟩, ?_⟩
  rw [show Int.toNat (0 : Int) = 0 from rfl, show Int.toNat ((el.length : Nat) : Int) = el.length from rfl, show Int.toNat ((ed.length : Nat) : Int) = ed.length from rfl]
  refine WL_ind (fun s τ => ∃ e : Nat, s = (e : Int) - 1 ∧ e ≤ el.length ∧ VLk σ τ ∧ LK (kpr el) el.length el.length e (τ.2 150) (τ.2 151) ∧ LK (kdc ed el) el.length ed.length e (τ.2 153) (τ.2 152) ∧ ∀ k, τ.2 149 k = σ.2 149 k + if k = 5 then (nnk (kdc ed el) el.length e : Int) else 0) (fun s _ => (s + 1).toNat) ?_ _ _ ⟨el.length, rfl, Nat.le_refl _, ⟨fun _ _ => rfl, fun r hr => ?_⟩, ⟨fun q hq' => ?_, fun i h1 h2 => by omega⟩, ⟨fun q hq' => ?_, fun i h1 h2 => by omega⟩, fun k => ?_⟩
  · rintro _ τ ⟨e, rfl, he, v1, v2, v3, v4⟩ K hK
    cases e with
    | zero =>
      rw [if_pos (by omega)]
      exact hq τ v1 ⟨v2, v3⟩ v4
    | succ e =>
      rw [if_neg (by omega), show ((e + 1 : Nat) : Int) - 1 = (e : Int) by omega, show Int.toNat (e : Int) = e from rfl, v1.2 129 (by omega)]
      obtain ⟨⟨w, u1, u2, u3⟩, x129⟩ := hE e (by omega)
      have hpe := hp e (by omega)
      rw [x129]
      refine ⟨⟨by omega, by omega⟩, WJ_of (fun (_ : Unit) ρ => VLk σ ρ ∧ LK (kpr el) el.length el.length e (ρ.2 150) (ρ.2 151) ∧ ρ.2 153 = τ.2 153 ∧ ρ.2 152 = τ.2 152 ∧ ρ.2 149 = τ.2 149) (fun J hJ => ?_) ?_⟩
      · by_cases c : (el.getD e elD).2.1 = -1
        · rw [if_pos c]
          exact hJ () τ ⟨v1, v2.skip (by omega) (by unfold kpr; rw [if_pos c]), rfl, rfl, rfl⟩
        · rw [if_neg c]
          have hk : kpr el e = some (el.getD e elD).2.1.toNat := by unfold kpr; rw [if_neg c]
          refine ⟨⟨by omega, by omega⟩, ⟨by omega, by omega⟩, ⟨by omega, by omega⟩, hJ () _ ⟨⟨v1.1, fun r hr => ?_⟩, v2.put (by omega) hk (by omega) (fun j => ?_) (fun j => ?_), ?_, ?_, ?_⟩⟩
          · rw [← v1.2 r hr]
            funext j
            rw [pr_2, if_neg (by omega), pr_2, if_neg (by omega)]
          · rw [pr_2, pr_2]
            by_cases y : j = (el.getD e elD).2.1.toNat
            · rw [if_pos ⟨rfl, y⟩, if_pos y]
            · rw [if_neg (fun z => y z.2), if_neg y, if_neg (by omega)]
          · rw [pr_2, if_neg (by omega), pr_2]
            by_cases y : j = e
            · rw [if_pos ⟨rfl, y⟩, if_pos y]
            · rw [if_neg (fun z => y z.2), if_neg y]
          · funext j; rw [pr_2, if_neg (by omega), pr_2, if_neg (by omega)]
          · funext j; rw [pr_2, if_neg (by omega), pr_2, if_neg (by omega)]
          · funext j; rw [pr_2, if_neg (by omega), pr_2, if_neg (by omega)]
      · rintro _ ρ ⟨r1, r2, r3, r4, r5⟩
        have e125 : σ.2 125 w = en1 (edf ed (wst σ w)) := d3.1 w u2
        rw [r1.2 146 (by omega), r1.2 125 (by omega), u1, show Int.toNat (w : Int) = w from rfl, e125, u3, show Int.toNat 5 = 5 from rfl]
        have hnx : ∀ ρ', VLk σ ρ' → LK (kpr el) el.length el.length e (ρ'.2 150) (ρ'.2 151) → LK (kdc ed el) el.length ed.length e (ρ'.2 153) (ρ'.2 152) → (∀ k, ρ'.2 149 k = σ.2 149 k + if k = 5 then (nnk (kdc ed el) el.length e : Int) else 0) → inR ((e : Int) + (-1)) ∧ K ((e : Int) + (-1)) ρ' := fun ρ' z1 z2 z3 z4 => ⟨⟨by omega, by omega⟩, hK _ _ ⟨e, by omega, by omega, z1, z2, z3, z4⟩ (by omega)⟩
        have hnk := nnk_s (κ := kdc ed el) (n := el.length) (j := e) (by omega)
        have hnl := nnk_le (κ := kdc ed el) (n := el.length) (j := e)
        cases hd : edf ed (el.getD e elD).1 with
        | none =>
          have hk : kdc ed el e = none := hd
          refine ⟨⟨by omega, by omega⟩, ⟨by omega, by omega⟩, ⟨by decide, by decide⟩, WJ_dir ?_⟩
          have h5 := v4 5
          rw [if_pos rfl] at h5
          rw [if_pos hk] at hnk
          rw [if_pos (by decide), r5, h5]
          refine ⟨⟨by omega, by omega⟩, ⟨by omega, by omega⟩, ⟨by omega, by omega⟩, hnx _ ⟨r1.1, fun r hr => ?_⟩ ?_ ?_ (fun k => ?_)⟩
          · rw [← r1.2 r hr]
            funext j
            rw [pr_2, if_neg (by omega)]
          · have q1 : ∀ x, (pr ρ 149 5 x).2 150 = ρ.2 150 := fun x => funext (fun j => by rw [pr_2, if_neg (by omega)])
            have q2 : ∀ x, (pr ρ 149 5 x).2 151 = ρ.2 151 := fun x => funext (fun j => by rw [pr_2, if_neg (by omega)])
            rw [q1, q2]
            exact r2
          · have q1 : ∀ x, (pr ρ 149 5 x).2 153 = τ.2 153 := fun x => (funext (fun j => by rw [pr_2, if_neg (by omega)])).trans r3
            have q2 : ∀ x, (pr ρ 149 5 x).2 152 = τ.2 152 := fun x => (funext (fun j => by rw [pr_2, if_neg (by omega)])).trans r4
            rw [q1, q2]
            exact v3.skip (by omega) hk
          · rw [pr_2]
            by_cases y : k = 5
            · rw [if_pos ⟨rfl, y⟩, if_pos y, y]; omega
            · rw [if_neg (fun z => y z.2), if_neg y, r5, v4 k, if_neg y]
        | some d =>
          have hk : kdc ed el e = some d := hd
          have hdl := edf_lt hd
          have e1 : en1 (some d) - 1 = (d : Int) := by show (d : Int) + 1 - 1 = d; omega
          rw [e1]
          refine ⟨⟨by omega, by omega⟩, ⟨by omega, by omega⟩, ⟨by omega, by omega⟩, WJ_dir ?_⟩
          rw [if_neg (by omega), show Int.toNat (d : Int) = d from rfl]
          refine ⟨⟨by omega, by omega⟩, ⟨by omega, by omega⟩, ⟨by omega, by omega⟩, hnx _ ⟨r1.1, fun r hr => ?_⟩ ?_ (v3.put (by omega) hk hdl (fun j => ?_) (fun j => ?_)) (fun k => ?_)⟩
          · rw [← r1.2 r hr]
            funext j
            rw [pr_2, if_neg (by omega), pr_2, if_neg (by omega)]
          · have q1 : ∀ x y, (pr (pr ρ 152 e x) 153 d y).2 150 = ρ.2 150 := fun x y => funext (fun j => by rw [pr_2, if_neg (by omega), pr_2, if_neg (by omega)])
            have q2 : ∀ x y, (pr (pr ρ 152 e x) 153 d y).2 151 = ρ.2 151 := fun x y => funext (fun j => by rw [pr_2, if_neg (by omega), pr_2, if_neg (by omega)])
            rw [q1, q2]
            exact r2
          · rw [pr_2, pr_2, r3]
            by_cases y : j = d
            · rw [if_pos ⟨rfl, y⟩, if_pos y]
            · rw [if_neg (fun z => y z.2), if_neg y, if_neg (by omega)]
          · rw [pr_2, if_neg (by omega), pr_2, r3, r4]
            by_cases y : j = e
            · rw [if_pos ⟨rfl, y⟩, if_pos y]
            · rw [if_neg (fun z => y z.2), if_neg y]
          · rw [if_neg (by rw [hk]; simp)] at hnk
            rw [pr_2, if_neg (by omega), pr_2, if_neg (by omega), r5, v4 k]
            split <;> omega
  · funext j
    rw [fl_2, if_neg (by omega), fl_2, if_neg (by omega)]
  · rw [fl_2, if_neg (by omega), fl_2, if_pos ⟨rfl, Nat.zero_le _, hq'⟩, nxk_e (Nat.le_refl _)]
    rfl
  · rw [fl_2, if_pos ⟨rfl, Nat.zero_le _, hq'⟩, nxk_e (Nat.le_refl _)]
    rfl
  · rw [fl_2, if_neg (by omega), fl_2, if_neg (by omega), nnk_e (Nat.le_refl _)]
    split <;> simp
end VLi
