/-! ===== what the reference keeps of declarations ===== -/
/-- a node of a model: kind, how often, name, first child (of a name: its number among the names), next sibling, above -/
abbrev KNd : Type := Int × Int × Str × Int × Int × Int
abbrev kdD : KNd := (0, 0, [], -1, -1, -1)
/-- a new node -/
def knw (kd : Int) (nm : Str) (ch gr la : Int) (t : List KNd) : List KNd :=
  (if 0 ≤ la then t.modify la.toNat (fun x => (x.1, x.2.1, x.2.2.1, x.2.2.2.1, (t.length : Int), x.2.2.2.2.2)) else if 0 ≤ gr then t.modify gr.toNat (fun x => (x.1, x.2.1, x.2.2.1, (t.length : Int), x.2.2.2.2)) else t) ++ [(kd, 0, nm, ch, -1, gr)]
/-- the nodes of the model that stands from k on, up to e -/
def bld (T : Nat → Int) (e : Nat) : Nat → Nat → Int → Int → Nat → List KNd → List KNd
  | 0, _, _, _, _, t => t
  | n + 1, k, gr, la, lf, t => if e ≤ k then t
    else if T k = 40 then bld T e n (k + 1) (t.length : Int) (-1) lf (knw 1 [] (-1) gr la t)
    else if T k = 41 then bld T e n (k + 1) (t.getD gr.toNat kdD).2.2.2.2.2 gr lf t
    else if T k = 124 then bld T e n (k + 1) gr la lf (t.modify gr.toNat (fun x => (2, x.2)))
    else if T k = 63 ∨ T k = 42 ∨ T k = 43 then bld T e n (k + 1) gr la lf (t.modify la.toNat (fun x => (x.1, T k, x.2.2)))
    else match nmg T e true (some k) with
      | none => bld T e n (k + 1) gr la lf t
      | some j => bld T e n j gr (t.length : Int) (lf + 1) (knw 0 (sl T k (j - k)) (lf : Int) gr la t)
/-- where a model ends -/
def mdE (x : EDc) : Nat := ((mdl (gd x.2.2) x.2.2.length 0).getD (0, 0, 0)).1
def bldN (x : EDc) : List KNd := bld (gd x.2.2) (mdE x) (mdE x + 1) 0 (-1) (-1) 0 []
/-- the first declaration of each element -/
def fE (ed : List EDc) : List EDc := ed.foldl (fun acc x => if x.1 ∈ acc.map (fun y => y.1) then acc else acc ++ [x]) []
/-- a number of a node -/
def ksh (n0 : Nat) (x : Int) : Int := if x < 0 then -1 else x + (n0 : Int)
/-- the nodes of a model in the reference's rows -/
def KTr (σ : IS) (bk : List Str) (n0 : Nat) (t : List KNd) : Prop := ∀ j, j < t.length → σ.2 193 (n0 + j) = (t.getD j kdD).1 ∧ σ.2 194 (n0 + j) = (t.getD j kdD).2.1 ∧ ((t.getD j kdD).1 = 0 → Kn bk (σ.2 195 (n0 + j)) (t.getD j kdD).2.2.1 ∧ σ.2 196 (n0 + j) = (t.getD j kdD).2.2.2.1) ∧ ((t.getD j kdD).1 ≠ 0 → σ.2 196 (n0 + j) = ksh n0 (t.getD j kdD).2.2.2.1) ∧ σ.2 197 (n0 + j) = ksh n0 (t.getD j kdD).2.2.2.2.1 ∧ σ.2 198 (n0 + j) = ksh n0 (t.getD j kdD).2.2.2.2.2
/-- names in the row of lists -/
def KLs (σ : IS) (bk : List Str) (x : Int) (l : List Str) : Prop := ∃ b : Nat, x = (b : Int) ∧ (b : Int) + (l.length : Int) ≤ σ.1 16 58 ∧ ∀ k, k < l.length → Kn bk (σ.2 207 (b + k)) (l.getD k [])
def KEd (σ : IS) (bk : List Str) (ed : List EDc) : Prop := σ.1 16 40 = ((fE ed).length : Int) ∧ (∀ i, i < (fE ed).length → Kn bk (σ.2 189 i) ((fE ed).getD i ([], 0, [])).1 ∧ σ.2 190 i = (((fE ed).getD i ([], 0, [])).2.1 : Int) + 1 ∧ (((fE ed).getD i ([], 0, [])).2.1 = 2 → KLs σ bk (σ.2 191 i) (mxN ((fE ed).getD i ([], 0, []))) ∧ σ.2 192 i = ((mxN ((fE ed).getD i ([], 0, []))).length : Int)) ∧
    (((fE ed).getD i ([], 0, [])).2.1 = 3 → ∃ n0 : Nat, σ.2 191 i = (n0 : Int) ∧ (n0 : Int) + ((bldN ((fE ed).getD i ([], 0, []))).length : Int) ≤ σ.1 16 47 ∧ KTr σ bk n0 (bldN ((fE ed).getD i ([], 0, []))) ∧ ((n0 : Int) + ((bldN ((fE ed).getD i ([], 0, []))).length : Int) = σ.1 16 47 ∨ σ.2 198 (n0 + (bldN ((fE ed).getD i ([], 0, []))).length) = -1)) ∧ (((fE ed).getD i ([], 0, [])).2.1 ≠ 2 → σ.2 192 i = 0)) ∧ 0 ≤ σ.1 16 47 ∧ 0 ≤ σ.1 16 58
def KAd (σ : IS) (bk : List Str) (pl : List Int) (ad : List ADc) : Prop := σ.1 16 56 = (ad.length : Int) ∧ ∀ i, i < ad.length → Kn bk (σ.2 199 i) (ad.getD i adD).1 ∧ Kn bk (σ.2 200 i) (ad.getD i adD).2.1 ∧ σ.2 201 i = ((ad.getD i adD).2.2.1 : Int) ∧ σ.2 202 i = ((ad.getD i adD).2.2.2.1 : Int) ∧ (3 ≤ (ad.getD i adD).2.2.2.1 → Kpc pl (σ.2 203 i) (ad.getD i adD).2.2.2.2.1 ∧ σ.2 204 i = ((ad.getD i adD).2.2.2.2.1.length : Int)) ∧ KLs σ bk (σ.2 205 i) (ad.getD i adD).2.2.2.2.2 ∧ σ.2 206 i = ((ad.getD i adD).2.2.2.2.2.length : Int)
def KNt (σ : IS) (bk : List Str) (nt : List Str) : Prop := σ.1 16 34 = ((kpL [] nt).length : Int) ∧ ∀ i, i < (kpL [] nt).length → Kn bk (σ.2 187 i) ((kpL [] nt).getD i [])
/-- how many nodes and names of lists are kept of declarations -/
def nNd (ed : List EDc) : Nat := ((fE ed).map (fun x => if x.2.1 = 3 then (bldN x).length else 0)).sum
def nLs (ed : List EDc) (ad : List ADc) : Nat := ((fE ed).map (fun x => if x.2.1 = 2 then (mxN x).length else 0)).sum + (ad.map (fun x => x.2.2.2.2.2.length)).sum
/-- where the text itself ends, and the place of what is gone through -/
def KPl (σ : IS) (a : AS) : Prop := σ.2 178 0 = (aN a 8 : Int) ∧ (1 < (aF a).length → σ.1 16 18 = (aN a 7 : Int)) ∧ σ.1 16 47 = (nNd (aD a) : Int) ∧ σ.1 16 58 = (nLs (aD a) (aA a) : Int)
/-- the reference's state as a picture of the pure machine's -/
def RK (rm nd o : Nat) (σ : IS) (g : KG) (a : AS) : Prop := KZ rm nd o σ g ∧ KFr σ (gC g) (aF a) ∧ KEn σ (gB g) (gC g) (aE a) (bsy a) ∧ KNu o σ (aN a) ∧ KRo σ (gB g) (aR a) ∧ KEd σ (gB g) (aD a) ∧ KAd σ (gB g) (gP g) (aA a) ∧ KNt σ (gB g) (aT a) ∧ KEl o σ (gB g) (aL a) ∧ KOp σ (gB g) (aF a) (aL a) (aO a) ∧ KAt o σ (gB g) (gP g) (aA a) (aB a) ∧ KSt o σ (gB g) (gP g) (aS a) (aL a).length ∧ (σ.1 16 3 = 0) ∧ KPl σ a
section Kdp
variable {o : Nat} {σ τ : IS} {bk bk' : List Str} {cs cs' pl pl' : List Int}
theorem rf_1 (ho : o = 14 ∨ o = 15) : rfo o 1 = 223 + 14 * (o - 14) ∧ rfo o 15 = 220 + 14 * (o - 14) ∧ rfo o 18 = 221 + 14 * (o - 14) ∧ rfo o 19 = 222 + 14 * (o - 14) := by
  rcases ho with h | h <;> rw [h] <;> decide
theorem rf_3 (ho : o = 14 ∨ o = 15) {k : Nat} (h1 : 3 ≤ k) (h2 : k ≤ 6) : rfo o k = 213 + k + 14 * (o - 14) := by
  have h : k = 3 ∨ k = 4 ∨ k = 5 ∨ k = 6 := by omega
  rcases ho with y | y <;> rw [y] <;> rcases h with z | z | z | z <;> rw [z] <;> decide
theorem rf_8 (ho : o = 14 ∨ o = 15) {k : Nat} (h1 : 8 ≤ k) (h2 : k ≤ 13) : rfo o k = 216 + k + 14 * (o - 14) := by
  have h : k = 8 ∨ k = 9 ∨ k = 10 ∨ k = 11 ∨ k = 12 ∨ k = 13 := by omega
  rcases ho with y | y <;> rw [y] <;> rcases h with z | z | z | z | z | z <;> rw [z] <;> decide
/-- strings only grow -/
def kle (bk bk' : List Str) : Prop := ∃ r, bk' = bk ++ r
theorem kle.refl : kle bk bk := ⟨[], (List.append_nil _).symm⟩
theorem Kn.le {x : Int} {s : Str} (h : Kn bk x s) (hk : kle bk bk') : Kn bk' x s := by
  obtain ⟨r, hr⟩ := hk
  rw [hr]
  exact h.app
/-- and characters -/
def cle (cs cs' : List Int) : Prop := ∃ r, cs' = cs ++ r
theorem cle.refl : cle cs cs := ⟨[], (List.append_nil _).symm⟩
theorem Kpc.le {x : Int} {l : List Int} (h : Kpc cs x l) (hk : cle cs cs') : Kpc cs' x l := by
  obtain ⟨r, hr⟩ := hk
  rw [hr]
  exact h.app
theorem KFr.dep {fr : List Frm} (h : KFr σ cs fr) (hc : cle cs cs') (hf : ∀ k, 14 ≤ k → k ≤ 17 → τ.1 16 k = σ.1 16 k) (hr : ∀ r, 177 ≤ r → r ≤ 181 → τ.2 r = σ.2 r) : KFr τ cs' fr := by
  unfold KFr at h ⊢
  rw [hf 14 (by omega) (by omega), hf 15 (by omega) (by omega), hf 16 (by omega) (by omega), hf 17 (by omega) (by omega), hr 177 (by omega) (by omega), hr 178 (by omega) (by omega), hr 179 (by omega) (by omega), hr 180 (by omega) (by omega), hr 181 (by omega) (by omega)]
  obtain ⟨h1, h2, ⟨h3, h4⟩, h5, h6, h7⟩ := h
  exact ⟨h1, h2, ⟨h3.le hc, h4⟩, h5, h6, fun i hi => ⟨(h7 i hi).1.le hc, (h7 i hi).2⟩⟩
theorem KEn.dep {en : List Ent} {bs : List Nat} (h : KEn σ bk cs en bs) (hk : kle bk bk') (hc : cle cs cs') (hf : τ.1 16 32 = σ.1 16 32) (hr : ∀ r, 182 ≤ r → r ≤ 186 → τ.2 r = σ.2 r) : KEn τ bk' cs' en bs := by
  unfold KEn at h ⊢
  rw [hf, hr 182 (by omega) (by omega), hr 183 (by omega) (by omega), hr 184 (by omega) (by omega), hr 185 (by omega) (by omega), hr 186 (by omega) (by omega)]
  exact ⟨h.1, fun i hi => ⟨(h.2 i hi).1.le hk, (h.2 i hi).2.1, (h.2 i hi).2.2.1.le hc, (h.2 i hi).2.2.2⟩⟩
theorem KNu.dep {n : Nat → Nat} (h : KNu o σ n) (hf : ∀ k, k = 19 ∨ k = 21 ∨ k = 22 ∨ k = 25 ∨ k = 26 → τ.1 16 k = σ.1 16 k) (hr : τ.2 (rfo o 19) = σ.2 (rfo o 19)) : KNu o τ n := by
  unfold KNu at h ⊢
  rw [hf 19 (by omega), hf 21 (by omega), hf 22 (by omega), hf 25 (by omega), hf 26 (by omega), hr]
  exact h
theorem KRo.dep {r : Option Str} (h : KRo σ bk r) (hk : kle bk bk') (h20 : τ.1 16 20 = σ.1 16 20) (h24 : τ.1 16 24 = σ.1 16 24) : KRo τ bk' r := by
  unfold KRo at h ⊢
  rw [h20, h24]
  exact ⟨h.1, fun s hs => (h.2 s hs).le hk⟩
theorem KLs.dep {x : Int} {l : List Str} (h : KLs σ bk x l) (hk : kle bk bk') (h58 : σ.1 16 58 ≤ τ.1 16 58) (hr : ∀ i : Nat, (i : Int) < σ.1 16 58 → τ.2 207 i = σ.2 207 i) : KLs τ bk' x l := by
  obtain ⟨b, h1, h2, h3⟩ := h
  refine ⟨b, h1, by omega, fun k hk' => ?_⟩
  rw [hr (b + k) (by omega)]
  exact (h3 k hk').le hk
theorem KTr.dep {n0 : Nat} {t : List KNd} (h : KTr σ bk n0 t) (hk : kle bk bk') (hr : ∀ r, 193 ≤ r → r ≤ 198 → ∀ i, i < n0 + t.length → τ.2 r i = σ.2 r i) : KTr τ bk' n0 t := by
  intro j hj
  obtain ⟨h1, h2, h3, h4, h5, h6⟩ := h j hj
  rw [hr 193 (by omega) (by omega) _ (by omega), hr 194 (by omega) (by omega) _ (by omega), hr 195 (by omega) (by omega) _ (by omega), hr 196 (by omega) (by omega) _ (by omega), hr 197 (by omega) (by omega) _ (by omega), hr 198 (by omega) (by omega) _ (by omega)]
  exact ⟨h1, h2, fun z => ⟨(h3 z).1.le hk, (h3 z).2⟩, h4, h5, h6⟩
/-- lists and nodes may grow -/
theorem KEd.dep {ed : List EDc} (h : KEd σ bk ed) (hk : kle bk bk') (h40 : τ.1 16 40 = σ.1 16 40) (h47 : σ.1 16 47 ≤ τ.1 16 47) (h58 : σ.1 16 58 ≤ τ.1 16 58) (hr : ∀ r, 189 ≤ r → r ≤ 192 → τ.2 r = σ.2 r) (hn : ∀ r, 193 ≤ r → r ≤ 198 → ∀ i : Nat, (i : Int) < σ.1 16 47 → τ.2 r i = σ.2 r i) (hl : ∀ i : Nat, (i : Int) < σ.1 16 58 → τ.2 207 i = σ.2 207 i) (hx : τ.1 16 47 = σ.1 16 47 ∨ ∀ i : Nat, (i : Int) = σ.1 16 47 → τ.2 198 i = -1) : KEd τ bk' ed := by
  obtain ⟨h1, h2, h3, h4⟩ := h
  refine ⟨by rw [h40]; exact h1, fun i hi => ?_, by omega, by omega⟩
  rw [hr 189 (by omega) (by omega), hr 190 (by omega) (by omega), hr 191 (by omega) (by omega), hr 192 (by omega) (by omega)]
  obtain ⟨k1, k2, k3, k4, k5⟩ := h2 i hi
  refine ⟨k1.le hk, k2, fun z => ⟨(k3 z).1.dep hk h58 hl, (k3 z).2⟩, fun z => ?_, k5⟩
  obtain ⟨n0, m1, m2, m3, m4⟩ := k4 z
  refine ⟨n0, m1, by omega, m3.dep hk (fun r a b j hj => hn r a b j (by omega)), ?_⟩
  by_cases c : (n0 : Int) + ((bldN ((fE ed).getD i ([], 0, []))).length : Int) = σ.1 16 47
  · rcases hx with y | y
    · exact Or.inl (c.trans y.symm)
    · exact Or.inr (y (n0 + (bldN ((fE ed).getD i ([], 0, []))).length) (by omega))
  · refine Or.inr ?_
    have e := hn 198 (by omega) (by omega) (n0 + (bldN ((fE ed).getD i ([], 0, []))).length) (by omega)
    rw [e]
    exact m4.resolve_left c
theorem KAd.dep {ad : List ADc} (h : KAd σ bk pl ad) (hk : kle bk bk') (hp : cle pl pl') (h56 : τ.1 16 56 = σ.1 16 56) (h58 : σ.1 16 58 ≤ τ.1 16 58) (hr : ∀ r, 199 ≤ r → r ≤ 206 → τ.2 r = σ.2 r) (hl : ∀ i : Nat, (i : Int) < σ.1 16 58 → τ.2 207 i = σ.2 207 i) : KAd τ bk' pl' ad := by
  refine ⟨by rw [h56]; exact h.1, fun i hi => ?_⟩
  rw [hr 199 (by omega) (by omega), hr 200 (by omega) (by omega), hr 201 (by omega) (by omega), hr 202 (by omega) (by omega), hr 203 (by omega) (by omega), hr 204 (by omega) (by omega), hr 205 (by omega) (by omega), hr 206 (by omega) (by omega)]
  obtain ⟨k1, k2, k3, k4, k5, k6, k7⟩ := h.2 i hi
  exact ⟨k1.le hk, k2.le hk, k3, k4, fun z => ⟨(k5 z).1.le hp, (k5 z).2⟩, k6.dep hk h58 hl, k7⟩
theorem KNt.dep {nt : List Str} (h : KNt σ bk nt) (hk : kle bk bk') (hf : τ.1 16 34 = σ.1 16 34) (hr : τ.2 187 = σ.2 187) : KNt τ bk' nt := by
  unfold KNt at h ⊢
  rw [hf, hr]
  exact ⟨h.1, fun i hi => (h.2 i hi).le hk⟩
theorem KEl.dep {el : List Elm} (h : KEl o σ bk el) (hk : kle bk bk') (hf : τ.1 o 7 = σ.1 o 7) (hr : ∀ k, 3 ≤ k → k ≤ 6 → τ.2 (rfo o k) = σ.2 (rfo o k)) : KEl o τ bk' el := by
  unfold KEl at h ⊢
  rw [hf, hr 3 (by omega) (by omega), hr 4 (by omega) (by omega), hr 5 (by omega) (by omega), hr 6 (by omega) (by omega)]
  exact ⟨h.1, fun i hi => ⟨(h.2 i hi).1.le hk, (h.2 i hi).2⟩⟩
theorem KOp.dep {fr : List Frm} {el : List Elm} {os : List Nat} (h : KOp σ bk fr el os) (hk : kle bk bk') (h64 : τ.1 16 64 = σ.1 16 64) (h66 : τ.1 16 66 = σ.1 16 66) (hr : ∀ r, 166 ≤ r → r ≤ 171 → τ.2 r = σ.2 r) (h181 : τ.2 181 = σ.2 181) : KOp τ bk' fr el os := by
  unfold KOp at h ⊢
  rw [h64, h66, hr 166 (by omega) (by omega), hr 167 (by omega) (by omega), hr 168 (by omega) (by omega), hr 169 (by omega) (by omega), hr 170 (by omega) (by omega), hr 171 (by omega) (by omega), h181]
  obtain ⟨h1, h2, bs, h3, h4, h5⟩ := h
  exact ⟨h1, h2, bs, h3, h4, fun k hk' => ⟨(h5 k hk').1, (h5 k hk').2.1, fun j hj => ((h5 k hk').2.2 j hj).le hk⟩⟩
theorem KPx.le {x : Int} {s : Str} (h : KPx bk x s) (hk : kle bk bk') : KPx bk' x s := by
  rcases h with ⟨h1, h2⟩ | h
  · exact Or.inl ⟨h1, h2.le hk⟩
  · exact Or.inr h
theorem KAt.dep {ad : List ADc} {at_ : List Att} (h : KAt o σ bk pl ad at_) (hk : kle bk bk') (hp : cle pl pl') (hf : τ.1 o 14 = σ.1 o 14) (hr : ∀ k, 8 ≤ k → k ≤ 13 → τ.2 (rfo o k) = σ.2 (rfo o k)) : KAt o τ bk' pl' ad at_ := by
  unfold KAt at h ⊢
  rw [hf, hr 8 (by omega) (by omega), hr 9 (by omega) (by omega), hr 10 (by omega) (by omega), hr 11 (by omega) (by omega), hr 12 (by omega) (by omega), hr 13 (by omega) (by omega)]
  exact ⟨h.1, fun i hi => ⟨(h.2 i hi).1.le hk, (h.2 i hi).2.1.le hp, (h.2 i hi).2.2.1, (h.2 i hi).2.2.2.1, (h.2 i hi).2.2.2.2.1.le hk, (h.2 i hi).2.2.2.2.2.le hk⟩⟩
theorem kev.dep {ρ ρ' : Nat → Int} (hk : kle bk bk') (hp : cle pl pl') : ∀ (G : List KEv) (i : Nat), (∀ j, i ≤ j → j < i + kel G → ρ' j = ρ j) → kev ρ bk pl G i → kev ρ' bk' pl' G i
  | [], _, _, _ => trivial
  | .inl b :: r, i, hr, h => by
    have e : kel (.inl b :: r) = 1 + kel r := rfl
    rw [e] at hr
    exact ⟨by rw [hr i (by omega) (by omega)]; exact h.1, kev.dep hk hp r (i + 1) (fun j a c => hr j (by omega) (by omega)) h.2⟩
  | .inr (.inl l) :: r, i, hr, h => by
    have e : kel (.inr (.inl l) :: r) = 3 + kel r := rfl
    rw [e] at hr
    refine ⟨by rw [hr i (by omega) (by omega)]; exact h.1, ?_, ?_, kev.dep hk hp r (i + 3) (fun j a c => hr j (by omega) (by omega)) h.2.2.2⟩
    · rw [hr (i + 1) (by omega) (by omega)]; exact h.2.1.le hp
    · rw [hr (i + 2) (by omega) (by omega)]; exact h.2.2.1
  | .inr (.inr q) :: r, i, hr, h => by
    have e : kel (.inr (.inr q) :: r) = 4 + kel r := rfl
    rw [e] at hr
    refine ⟨by rw [hr i (by omega) (by omega)]; exact h.1, ?_, ?_, ?_, kev.dep hk hp r (i + 4) (fun j a c => hr j (by omega) (by omega)) h.2.2.2.2⟩
    · rw [hr (i + 1) (by omega) (by omega)]; exact h.2.1.le hk
    · rw [hr (i + 2) (by omega) (by omega)]; exact h.2.2.1.le hp
    · rw [hr (i + 3) (by omega) (by omega)]; exact h.2.2.2.1
theorem KSt.dep {st : List Evt} {ne : Nat} (h : KSt o σ bk pl st ne) (hk : kle bk bk') (hf : ∀ k, k = 16 ∨ k = 17 ∨ k = 20 → τ.1 o k = σ.1 o k) (hr : τ.2 (rfo o 15) = σ.2 (rfo o 15)) : KSt o τ bk' pl st ne := by
  obtain ⟨G, h1, h2, h3, h4, h5, h6⟩ := h
  refine ⟨G, h1, ?_, ?_, h4, ?_, ?_⟩
  · rw [hr]; exact kev.dep hk cle.refl G 0 (fun _ _ _ => rfl) h2
  · rw [hf 16 (by omega)]; exact h3
  · rw [hf 20 (by omega), hf 17 (by omega)]; exact h5
  · rw [hf 17 (by omega), hr]; exact h6
/-- what strings, characters, pool and violations lie in -/
theorem KZ.dep {rm nd : Nat} {g : KG} (ho : o = 14 ∨ o = 15) (h : KZ rm nd o σ g) (hf : ∀ p k, (p = 13 ∧ (k = 1 ∨ k = 6)) ∨ (p = 16 ∧ (k = 0 ∨ k = 1 ∨ k = 2 ∨ k = 6)) ∨ (p = o ∧ k = 2) → τ.1 p k = σ.1 p k) (hr : ∀ r, r = 176 ∨ (211 ≤ r ∧ r ≤ 215) ∨ r = 223 + 14 * (o - 14) ∨ r = 221 + 14 * (o - 14) → τ.2 r = σ.2 r) : KZ rm nd o τ g := by
  obtain ⟨⟨h1, h2, h3, h4⟩, h5, ⟨h6, h7, h8, h9⟩, ⟨h10, h11⟩, h12, h13⟩ := h
  have r1 := rf_1 ho
  have eb : ∀ s, bstr τ s = bstr σ s := fun s => by unfold bstr bst bln; rw [hr 212 (by omega), hr 213 (by omega), hr 214 (by omega)]
  refine ⟨⟨?_, by rw [hf 13 6 (by omega)]; exact h2, by rw [hf 13 1 (by omega)]; exact h3, fun i hi => by rw [eb]; exact h4 i hi⟩, h5, ⟨by rw [hf 16 6 (by omega)]; exact h6, h7, by rw [hr 176 (by omega)]; exact h8, h9⟩, ⟨by rw [hf o 2 (by omega)]; exact h10, by rw [hr (rfo o 1) (by omega)]; exact h11⟩, ?_, by rw [hr (rfo o 18) (by omega)]; exact h13⟩
  · unfold BK at h1 ⊢
    rw [hf 13 1 (by omega), hf 13 6 (by omega), hr 211 (by omega), hr 213 (by omega), hr 214 (by omega), hr 215 (by omega)]
    simp only [eb]
    exact h1
  · rw [hf 16 2 (by omega), hf 16 0 (by omega), hf 16 1 (by omega)]
    exact h12
end Kdp
