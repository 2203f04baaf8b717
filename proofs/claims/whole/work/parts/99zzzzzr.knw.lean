/-! ===== the reference: a new element ===== -/
section Knw
variable {L : Nat → Nat} {rm nd o : Nat} {σ τ : IS} {g g' : KG} {a a' A : AS} {Q : IS → Prop} {bk bk' : List Str} {pl pl' : List Int}
theorem chd_app {el : List Elm} {x : Elm} {e : Nat} : chd (el ++ [x]) e = chd el e ++ (if x.2.1 = (e : Int) then [x.1] else []) := by
  unfold chd
  rw [List.filter_append, List.map_append]
  congr 1
  by_cases c : x.2.1 = (e : Int)
  · rw [if_pos c, List.filter_cons, if_pos (by simpa using c)]
    rfl
  · rw [if_neg c, List.filter_cons, if_neg (by simpa using c)]
    rfl
theorem chd_new {el : List Elm} {n : Nat} (h : ∀ y ∈ el, y.2.1 < (n : Int)) : chd el n = [] := by
  unfold chd
  rw [List.filter_eq_nil_iff.mpr]
  · rfl
  · intro y hy
    have := h y hy
    have hn : y.2.1 ≠ (n : Int) := by omega
    simpa using hn
theorem opn_lt {el : List Elm} {os : List Nat} (h : och el os) : opn os < (el.length : Int) := by
  cases os with
  | nil => show (-1 : Int) < _; omega
  | cons e r =>
    have := h.1
    show ((e : Nat) : Int) < _
    omega
set_option maxHeartbeats 1000000 in
/-- a new element is opened -/
theorem KOp.new {fr : List Frm} {el : List Elm} {os : List Nat} {x : Elm} {v : Int} (h : KOp σ bk fr el os) (hk : kle bk bk') (hoc : och el os) (hpar : ∀ y ∈ el, y.2.1 < (el.length : Int)) (hx : x.2.1 = opn os) (hx1 : x.2.2.2.2.2.1 = false) (hx2 : x.2.2.2.2.2.2 = false) (hfr : 0 < fr.length) (hfl2 : (lvl fr (fr.length - 1)).2.2 ≤ os.length) (hn : Kn bk' v x.1)
    (h64 : τ.1 16 64 = σ.1 16 64 + 1) (h66 : τ.1 16 66 = σ.1 16 66 + (if os = [] then 0 else 1)) (h181 : τ.2 181 = σ.2 181) (h166 : ∀ k : Nat, τ.2 166 k = if k = os.length then (el.length : Int) else σ.2 166 k) (h167 : ∀ k : Nat, τ.2 167 k = if k = os.length then σ.2 181 (fr.length - 1) else σ.2 167 k) (h168 : ∀ k : Nat, τ.2 168 k = if k = os.length then 0 else σ.2 168 k) (h169 : ∀ k : Nat, τ.2 169 k = if k = os.length then 0 else σ.2 169 k) (h170 : ∀ k : Nat, τ.2 170 k = if k = os.length then τ.1 16 66 else σ.2 170 k) (h171 : ∀ k : Nat, τ.2 171 k = if os ≠ [] ∧ (k : Int) = σ.1 16 66 then v else σ.2 171 k) : KOp τ bk' fr (el ++ [x]) (el.length :: os) := by
  obtain ⟨h1, h2, bs, b1', b2, b3⟩ := h
  have hge : ∀ i, i < el.length → (el ++ [x]).getD i elD = el.getD i elD := fun i hi => by
    rw [List.getD_eq_getElem?_getD, List.getD_eq_getElem?_getD, List.getElem?_append_left hi]
  have hgn : (el ++ [x]).getD el.length elD = x := by
    rw [List.getD_eq_getElem?_getD, List.getElem?_append_right (Nat.le_refl _), Nat.sub_self]
    rfl
  have hlt : ∀ k, k < os.length → opK os k < el.length := fun k hk' => och_lt hoc _ (opK_mem hk')
  have mono : ∀ m, m ≤ os.length → ∀ k, k ≤ m → bs k ≤ bs m := by
    intro m
    induction m with
    | zero => intro _ k hk'; rw [show k = 0 by omega]; exact Nat.le_refl _
    | succ m ih =>
      intro hm k hk'
      by_cases c : k = m + 1
      · rw [c]; exact Nat.le_refl _
      · have := ih (by omega) k (by omega)
        have := (b3 m (by omega)).2.1
        omega
  have hop := opn_lt hoc
  refine ⟨by rw [h64, h1, List.length_cons]; omega, fun k hk' => ?_, fun k => if k < os.length then bs k else bs os.length + (if os = [] then 0 else 1), ?_, ?_, fun k hk' => ?_⟩
  · rw [List.length_cons] at hk'
    rw [h166, h167, h168, h169, h181]
    by_cases c : k = os.length
    · rw [c, opK_top, hgn, hx1, hx2, if_pos rfl, if_pos rfl, if_pos rfl, if_pos rfl]
      exact ⟨rfl, rfl, rfl, fr.length - 1, by omega, rfl, hfl2, fun i i1 i2 => by omega⟩
    · rw [opK_cons (by omega), if_neg c, if_neg c, if_neg c, if_neg c, hge _ (hlt k (by omega))]
      exact h2 k (by omega)
  · dsimp only
    rw [List.length_cons, if_neg (by omega), h66, b1']
    by_cases c : os = []
    · rw [if_pos c, if_pos c]; rfl
    · rw [if_neg c, if_neg c]; rfl
  · dsimp only
    rw [List.length_cons, if_neg (by omega), List.length_append, List.length_singleton]
    split <;> omega
  · rw [List.length_cons] at hk'
    dsimp only
    by_cases c : k = os.length
    · subst c
      rw [opK_top, if_neg (Nat.lt_irrefl _), if_neg (show ¬ os.length + 1 < os.length by omega), h170, if_pos rfl, chd_app, chd_new hpar, if_neg (show ¬ x.2.1 = (el.length : Int) by omega)]
      refine ⟨?_, rfl, fun j hj => absurd hj (Nat.not_lt_zero j)⟩
      rw [h66, b1']
      by_cases c : os = []
      · rw [if_pos c, if_pos c]; rfl
      · rw [if_neg c, if_neg c]; rfl
    · have hk2 : k < os.length := by omega
      have hne : os ≠ [] := fun z => by rw [z] at hk2; exact absurd hk2 (Nat.not_lt_zero k)
      obtain ⟨c1, c2, c3⟩ := b3 k hk2
      have hm1 := mono os.length (Nat.le_refl _) (k + 1) (by omega)
      rw [opK_cons hk2, if_pos hk2, h170, if_neg c, chd_app]
      by_cases c' : k + 1 = os.length
      · have hox : x.2.1 = ((opK os k : Nat) : Int) := by
          rw [hx]
          cases os with
          | nil => exact absurd rfl hne
          | cons e r =>
            rw [List.length_cons] at c'
            rw [show k = r.length by omega, opK_top]
            rfl
        rw [if_pos hox, if_neg (by omega), if_neg hne, List.length_append, List.length_singleton]
        refine ⟨c1, by rw [← c']; omega, fun j hj => ?_⟩
        rw [h171]
        by_cases cj : j = (chd el (opK os k)).length
        · rw [if_pos ⟨hne, by rw [b1', ← c']; omega⟩, cj, List.getD_eq_getElem?_getD, List.getElem?_append_right (Nat.le_refl _), Nat.sub_self]
          exact hn
        · rw [if_neg (fun z => by have := z.2; rw [b1', ← c'] at this; omega), List.getD_eq_getElem?_getD, List.getElem?_append_left (by omega)]
          have := c3 j (by omega)
          rw [List.getD_eq_getElem?_getD] at this
          exact this.le hk
      · have hox : ¬ x.2.1 = ((opK os k : Nat) : Int) := by
          rw [hx]
          cases os with
          | nil => exact absurd rfl hne
          | cons e r =>
            rw [List.length_cons] at hk2 c'
            have hkr : k < r.length := by omega
            rw [opK_cons hkr]
            have := hoc.2.2.1 _ (opK_mem hkr)
            show ¬ ((e : Nat) : Int) = _
            omega
        rw [if_neg hox, List.append_nil, if_pos (by omega)]
        refine ⟨c1, c2, fun j hj => ?_⟩
        rw [h171, if_neg (fun z => by have := z.2; rw [b1'] at this; omega)]
        exact (c3 j hj).le hk
/-- where no text is the last, the pool may grow -/
theorem KSt.plt {st : List Evt} {ne : Nat} (h : KSt o τ bk pl st ne) (t17 : τ.1 o 17 = -1) (hk : kle bk bk') (hp : cle pl pl') : KSt o τ bk' pl' st ne := by
  obtain ⟨G, h1, h2, h3, h4, h5, h6⟩ := h
  refine ⟨G, h1, kev.dep hk hp G 0 (fun _ _ _ => rfl) h2, h3, h4, h5, ?_⟩
  rcases h6 with h6 | ⟨G', l, e1, e2, e3⟩
  · exact Or.inl h6
  · omega
/-- one element more -/
theorem KEl.new {el : List Elm} {x : Elm} {v : Int} (h : KEl o σ bk el) (hk : kle bk bk') (hn : Kn bk' v x.1) (h7 : τ.1 o 7 = σ.1 o 7 + 1) (h3 : ∀ k : Nat, τ.2 (rfo o 3) k = if k = el.length then v else σ.2 (rfo o 3) k) (h4 : ∀ k : Nat, τ.2 (rfo o 4) k = if k = el.length then x.2.1 else σ.2 (rfo o 4) k) (h5 : ∀ k : Nat, τ.2 (rfo o 5) k = if k = el.length then (x.2.2.1 : Int) else σ.2 (rfo o 5) k) (h6 : ∀ k : Nat, τ.2 (rfo o 6) k = if k = el.length then (x.2.2.2.1 : Int) else σ.2 (rfo o 6) k) : KEl o τ bk' (el ++ [x]) := by
  refine ⟨by rw [h7, h.1, List.length_append, List.length_singleton]; omega, fun i hi => ?_⟩
  rw [List.length_append, List.length_singleton] at hi
  rw [h3, h4, h5, h6]
  by_cases c : i = el.length
  · rw [c, if_pos rfl, if_pos rfl, if_pos rfl, if_pos rfl, List.getD_eq_getElem?_getD, List.getElem?_append_right (Nat.le_refl _), Nat.sub_self]
    exact ⟨hn, rfl, rfl, rfl⟩
  · rw [if_neg c, if_neg c, if_neg c, if_neg c, List.getD_eq_getElem?_getD, List.getElem?_append_left (by omega), ← List.getD_eq_getElem?_getD]
    have := h.2 i (by omega)
    exact ⟨this.1.le hk, this.2⟩
/-- what an element that ends violates -/
def clV (A : AS) (k : Nat) : Nat := match aO A with
  | [] => 0
  | e :: _ => match edf (aD A) ((aL A).getD e elD).1 with
    | none => if k = 5 then 1 else 0
    | some i => if k = 6 ∧ fit (aD A) (aL A) ((aD A).getD i ([], 0, [])) e = false then 1 else 0
/-- what is wanted of the end of an element -/
def KCl (L : Nat → Nat) (rm nd o : Nat) (ed : List EDc) : Prop := ∀ (A : AS) (σ' : IS) (g' : KG) (Q' : IS → Prop), RK rm nd o σ' g' A → aD A = ed → aN A 4 = 2 → aO A ≠ [] → och (aL A) (aO A) → (aL A).length ≤ 16384 → (∀ y ∈ aL A, -1 ≤ y.2.1) → nLs (aD A) (aA A) ≤ 50000 → (kNs (aS A)).1 + 1 ≤ 120000 → (gV g' 5 ≤ 900000000 ∧ gV g' 6 ≤ 900000000) →
  (∀ τ g2, RK rm nd o τ g2 (cls A) → gB g2 = gB g' → gC g2 = gC g' → gP g2 = gP g' → (∀ k, gV g2 k = gV g' k + clV A k) → τ.1 16 4 = σ'.1 16 4 → τ.1 16 15 = σ'.1 16 15 → Q' τ) → w_KReader_close L Q' σ'
/-- how many attributes stand in a tag -/
def tgn (a : AS) : Nat := match nmg (gd (cur a)) (cur a).length true (some 1) with
  | none => 0
  | some n => (atL (gd (cur a)) (cur a).length ((cur a).length + 1) n).length
/-- what a tag keeps -/
noncomputable def nmT (rm : Nat) (a : AS) : List Str := match tgk (gd (cur a)) (cur a).length 0, nmg (gd (cur a)) (cur a).length true (some 1) with
  | some _, some n => sl (gd (cur a)) 1 (n - 1) :: (gnl (atN (gd (cur a)) (atL (gd (cur a)) (cur a).length ((cur a).length + 1) n)) ++ (match gvs rm a (gd (cur a)) (sl (gd (cur a)) 1 (n - 1)) (atL (gd (cur a)) (cur a).length ((cur a).length + 1) n) (aN a 0) (aN a 1) [] with
    | .inl _ => []
    | .inr (_, _, gv) => (dfl (aA a) (sl (gd (cur a)) 1 (n - 1)) gv).flatMap (fun z => plk z.1)))
  | _, _ => []
/-- what a tag violates -/
def dvT (rm : Nat) (a : AS) (k : Nat) : Nat := match tgk (gd (cur a)) (cur a).length 0, nmg (gd (cur a)) (cur a).length true (some 1) with
  | some kk, some n => (match gvs rm a (gd (cur a)) (sl (gd (cur a)) 1 (n - 1)) (atL (gd (cur a)) (cur a).length ((cur a).length + 1) n) (aN a 0) (aN a 1) [] with
    | .inl _ => 0
    | .inr (c, m, gv) => tgs (aA a) gv k + (if k = 9 then rqN (aA a) (sl (gd (cur a)) 1 (n - 1)) gv (aA a).length else 0) + (if gd (cur a) (kk - 2) = 47 then clV (nel a (sl (gd (cur a)) 1 (n - 1)) gv (gv ++ dfl (aA a) (sl (gd (cur a)) 1 (n - 1)) gv) kk c m) k else 0))
  | _, _ => 0
theorem tgz_o {ad : List ADc} {z : Att} {k : Nat} (h7 : k ≠ 7) (h8 : k ≠ 8) (h10 : k ≠ 10) : tgz ad z k = 0 := by
  unfold tgz
  split
  · exact if_neg h7
  · rw [if_neg h8, if_neg h10]
theorem tgs_o {ad : List ADc} {l : List Att} {k : Nat} (h7 : k ≠ 7) (h8 : k ≠ 8) (h10 : k ≠ 10) : tgs ad l k = 0 := by
  unfold tgs
  induction l with
  | nil => rfl
  | cons z r ih => rw [List.map_cons, List.sum_cons, tgz_o h7 h8 h10, ih]
theorem prr {s : IS} {r i : Nat} {v : Int} {j : Nat} : (pr s r i v).2 r j = if j = i then v else s.2 r j := by
  rw [pr_2]
  by_cases c : j = i
  · rw [if_pos ⟨rfl, c⟩, if_pos c]
  · rw [if_neg (fun z => c z.2), if_neg c]
theorem prn {s : IS} {r i q : Nat} {v : Int} (h : q ≠ r) : (pr s r i v).2 q = s.2 q := by
  funext j
  rw [pr_2, if_neg (fun z => h z.1)]
theorem pfr {s : IS} {p k : Nat} {v : Int} {r : Nat} : (pf s p k v).2 r = s.2 r := rfl
theorem tgk_at {T : Nat → Int} {e k : Nat} (h : tgk T e 0 = some k) : ∃ n κ, nmg T e true (some 1) = some n ∧ atk T e (e + 1) n = some κ ∧ 1 < n ∧ n ≤ κ ∧ κ < k ∧ k ≤ e := by
  unfold tgk at h
  rw [Nat.zero_add] at h
  cases hn : nmg T e true (some 1) with
  | none => rw [hn] at h; cases h
  | some n =>
    rw [hn] at h
    have hnl := nmg_lt hn
    cases hk : atk T e (e + 1) n with
    | none =>
      have : (some n).bind (atk T e (e + 1)) = none := hk
      rw [this] at h
      cases h
    | some κ =>
      have e1 : (some n).bind (atk T e (e + 1)) = some κ := hk
      rw [e1] at h
      have hkl := atk_le _ _ _ hnl.2.2 hk
      have hyl := sk_le (p := isSp) (T := T) hkl.2
      have h2 : wd T e [62] (if mt T e (sk isSp T e κ) [47] = true then some (sk isSp T e κ + 1) else some (sk isSp T e κ)) = some k := h
      refine ⟨n, κ, rfl, hk, by omega, hkl.1, ?_⟩
      by_cases c : mt T e (sk isSp T e κ) [47] = true
      · rw [if_pos c] at h2
        have := wd1 (by decide) h2
        omega
      · rw [if_neg c] at h2
        have := wd1 (by decide) h2
        omega
end Knw
