/-! ===== the reference's state as a picture of the pure machine's ===== -/
/-- a string's number -/
def Kn (bk : List Str) (x : Int) (s : Str) : Prop := 0 ≤ x ∧ bk[x.toNat]? = some s
/-- a piece of a row of characters -/
def Kpc (cs : List Int) (x : Int) (l : List Int) : Prop := ∃ p : Nat, x = (p : Int) ∧ p + l.length ≤ cs.length ∧ (cs.drop p).take l.length = l
/-- the strings after one is kept -/
def kpS (bk : List Str) (s : Str) : List Str := if s ∈ bk then bk else bk ++ [s]
def kpL (bk : List Str) (l : List Str) : List Str := l.foldl kpS bk
/-- there is room for a string -/
def kcS (bk : List Str) (s : Str) : Prop := s ∈ bk ∨ (bk.length < 50000 ∧ (bk.map List.length).sum + s.length ≤ 170000)
/-- and for some, one after another -/
def kcL : List Str → List Str → Prop
  | _, [] => True
  | bk, s :: l => kcS bk s ∧ kcL (kpS bk s) l
section Kst
variable {bk : List Str} {x y : Int} {s t : Str} {cs l : List Int}
theorem Kn.app {l : List Str} (h : Kn bk x s) : Kn (bk ++ l) x s := ⟨h.1, by
  rw [List.getElem?_append_left]
  · exact h.2
  · exact (List.getElem?_eq_some_iff.mp h.2).1⟩
theorem Kn.lt (h : Kn bk x s) : 0 ≤ x ∧ x < (bk.length : Int) := by
  have := (List.getElem?_eq_some_iff.mp h.2).1
  have := h.1
  omega
theorem Kn.fun (h1 : Kn bk x s) (h2 : Kn bk x t) : s = t := by
  have := h1.2
  rw [h2.2] at this
  exact (Option.some.inj this).symm
theorem Kn.mem (h : Kn bk x s) : s ∈ bk := List.mem_of_getElem? h.2
theorem Kn.inj (hn : bk.Nodup) (h1 : Kn bk x s) (h2 : Kn bk y s) : x = y := by
  have a := h1.lt
  have b := h2.lt
  refine Classical.byContradiction (fun z => ?_)
  have h3 := h1.2
  have h4 := h2.2
  rw [List.getElem?_eq_getElem (by omega)] at h3 h4
  rcases Nat.lt_or_gt_of_ne (show x.toNat ≠ y.toNat by omega) with q | q
  · exact List.pairwise_iff_getElem.mp hn x.toNat y.toNat (by omega) (by omega) q ((Option.some.inj h3).trans (Option.some.inj h4).symm)
  · exact List.pairwise_iff_getElem.mp hn y.toNat x.toNat (by omega) (by omega) q ((Option.some.inj h4).trans (Option.some.inj h3).symm)
theorem Kn.eqI (hn : bk.Nodup) (h1 : Kn bk x s) (h2 : Kn bk y t) : x = y ↔ s = t := ⟨fun e => by rw [e] at h1; exact h1.fun h2, fun e => by rw [e] at h1; exact Kn.inj hn h1 h2⟩
theorem kpS_pre : ∃ r, kpS bk s = bk ++ r := by
  unfold kpS
  split
  · exact ⟨[], (List.append_nil _).symm⟩
  · exact ⟨[s], rfl⟩
theorem Kn.kp (h : Kn bk x s) : Kn (kpS bk t) x s := by
  obtain ⟨r, hr⟩ := kpS_pre (bk := bk) (s := t)
  rw [hr]
  exact h.app
theorem kpL_pre : ∀ {l : List Str} {bk : List Str}, ∃ r, kpL bk l = bk ++ r
  | [], bk => ⟨[], (List.append_nil _).symm⟩
  | s :: l, bk => by
    obtain ⟨r, hr⟩ := kpS_pre (bk := bk) (s := s)
    obtain ⟨q, hq⟩ := kpL_pre (l := l) (bk := kpS bk s)
    exact ⟨r ++ q, by show kpL (kpS bk s) l = _; rw [hq, hr, List.append_assoc]⟩
theorem Kn.kpL {l : List Str} (h : Kn bk x s) : Kn (kpL bk l) x s := by
  obtain ⟨r, hr⟩ := kpL_pre (l := l) (bk := bk)
  rw [hr]
  exact h.app
theorem kpL_app {l l' : List Str} : kpL bk (l ++ l') = kpL (kpL bk l) l' := by unfold kpL; rw [List.foldl_append]
theorem kpS_nd (h : bk.Nodup) : (kpS bk s).Nodup := by
  unfold kpS
  split
  · exact h
  · rename_i c
    exact List.nodup_append.mpr ⟨h, List.pairwise_singleton _ _, fun a ha b hb => by rw [List.mem_singleton] at hb; rw [hb]; exact fun z => c (z ▸ ha)⟩
theorem Kpc.app {r : List Int} (h : Kpc cs x l) : Kpc (cs ++ r) x l := by
  obtain ⟨p, h1, h2, h3⟩ := h
  refine ⟨p, h1, by rw [List.length_append]; omega, ?_⟩
  rw [List.drop_append_of_le_length (by omega), List.take_append_of_le_length (by rw [List.length_drop]; omega)]
  exact h3
theorem Kpc.at_ (h : Kpc cs x l) : ∃ p : Nat, x = (p : Int) ∧ p + l.length ≤ cs.length ∧ ∀ j, j < l.length → cs.getD (p + j) 0 = l.getD j 0 := by
  obtain ⟨p, h1, h2, h3⟩ := h
  refine ⟨p, h1, h2, fun j hj => ?_⟩
  conv => rhs; rw [← h3]
  rw [List.getD_eq_getElem?_getD, List.getD_eq_getElem?_getD, List.getElem?_take, if_pos hj, List.getElem?_drop]
theorem Kpc.mk' {p : Nat} (h1 : x = (p : Int)) (h2 : p + l.length ≤ cs.length) (h3 : ∀ j, j < l.length → cs.getD (p + j) 0 = l.getD j 0) : Kpc cs x l := by
  refine ⟨p, h1, h2, List.ext_getElem? (fun j => ?_)⟩
  rw [List.getElem?_take]
  by_cases c : j < l.length
  · have := h3 j c
    rw [List.getD_eq_getElem?_getD, List.getD_eq_getElem?_getD, List.getElem?_eq_getElem (by omega), List.getElem?_eq_getElem c] at this
    rw [if_pos c, List.getElem?_drop, List.getElem?_eq_getElem (by omega), List.getElem?_eq_getElem c]
    exact congrArg some this
  · rw [if_neg c, List.getElem?_eq_none (by omega)]
theorem Kpc.drop {k : Nat} (h : Kpc cs x l) (hk : k ≤ l.length) : Kpc cs (x + (k : Int)) (l.drop k) := by
  obtain ⟨p, h1, h2, h3⟩ := h.at_
  refine Kpc.mk' (p := p + k) (by omega) (by rw [List.length_drop]; omega) (fun j hj => ?_)
  rw [List.length_drop] at hj
  rw [Nat.add_assoc, h3 (k + j) (by omega), List.getD_eq_getElem?_getD, List.getD_eq_getElem?_getD, List.getElem?_drop]
end Kst
/-- the strings, the characters and the pool of the reference -/
abbrev KG : Type := List Str × List Int × List Int × (Nat → Nat)
def gB (g : KG) : List Str := g.1
def gC (g : KG) : List Int := g.2.1
def gP (g : KG) : List Int := g.2.2.1
def gV (g : KG) : Nat → Nat := g.2.2.2
/-- lengths of its rows -/
def KLn (L : Nat → Nat) (o rm nd : Nat) : Prop := BL L ∧ (o = 14 ∨ o = 15) ∧ (rm ≤ 262144 ∧ nd ≤ 16384) ∧ L 176 = 262144 ∧ (∀ r, 166 ≤ r → r ≤ 171 → L r = 16384) ∧ (∀ r, 177 ≤ r → r ≤ 181 → L r = 8302) ∧ (∀ r, 182 ≤ r → r ≤ 187 → L r = 8300) ∧ (L 188 = 50000) ∧ (∀ r, 189 ≤ r → r ≤ 192 → L r = 8300) ∧ (∀ r, 193 ≤ r → r ≤ 198 → L r = 50000) ∧ (∀ r, 199 ≤ r → r ≤ 206 → L r = 8300) ∧ L 207 = 50000 ∧ (∀ r, 208 ≤ r → r ≤ 210 → L r = 8302) ∧ (∀ r, 172 ≤ r → r ≤ 174 → L r = 256) ∧ L 175 = 65536 ∧
  (∀ k, 3 ≤ k → k ≤ 6 → L (rfo o k) = 16384) ∧ (rm ≤ L (rfo o 1) ∧ L (rfo o 1) ≤ 262144) ∧ ((∀ k, 8 ≤ k → k ≤ 13 → L (rfo o k) = L (rfo o 8)) ∧ 16500 ≤ L (rfo o 8) ∧ L (rfo o 8) ≤ 32768) ∧ L (rfo o 15) = 120000 ∧ L (rfo o 18) = 23 ∧ L (rfo o 19) = 6
/-- strings, characters, pool, violations -/
def KZ (rm nd o : Nat) (σ : IS) (g : KG) : Prop := (BK σ ∧ σ.1 13 6 = ((gB g).length : Int) ∧ σ.1 13 1 = (((gB g).map List.length).sum : Int) ∧ ∀ i, i < (gB g).length → bstr σ i = (gB g).getD i []) ∧ (gB g).Nodup ∧
  (σ.1 16 6 = ((gC g).length : Int) ∧ (gC g).length ≤ 262144 ∧ (∀ i, i < (gC g).length → σ.2 176 i = (gC g).getD i 0) ∧ ∀ c ∈ gC g, 0 ≤ c ∧ c ≤ 1114111) ∧ (σ.1 o 2 = ((gP g).length : Int) ∧ (∀ i, i < (gP g).length → σ.2 (rfo o 1) i = (gP g).getD i 0)) ∧ (σ.1 16 2 = (o : Int) ∧ σ.1 16 0 = (rm : Int) ∧ σ.1 16 1 = (nd : Int)) ∧ ∀ k, k < 23 → σ.2 (rfo o 18) k = (gV g k : Int)
/-- texts that are gone through -/
def KFr (σ : IS) (cs : List Int) (fr : List Frm) : Prop := σ.1 16 14 = (fr.length : Int) ∧ 0 < fr.length ∧ (Kpc cs (σ.1 16 16) (lvl fr (fr.length - 1)).1 ∧ σ.1 16 17 = σ.1 16 16 + ((lvl fr (fr.length - 1)).1.length : Int)) ∧ (σ.2 178 (fr.length - 1) = σ.1 16 17) ∧
  (∀ i, i < fr.length → σ.2 179 i + 1 = ((lvl fr i).2.1 : Int) ∧ σ.2 180 i = ((lvl fr i).2.2 : Int) ∧ (0 ≤ σ.2 181 i ∧ σ.2 181 i < σ.1 16 15) ∧ ∀ j, j < i → σ.2 181 j < σ.2 181 i) ∧ (∀ i, i + 1 < fr.length → Kpc cs (σ.2 177 i) (lvl fr i).1 ∧ σ.2 178 i = σ.2 177 i + ((lvl fr i).1.length : Int))
/-- entities -/
def KEn (σ : IS) (bk : List Str) (cs : List Int) (en : List Ent) (bs : List Nat) : Prop := σ.1 16 32 = (en.length : Int) ∧ ∀ i, i < en.length → Kn bk (σ.2 182 i) (en.getD i ([], false, [])).1 ∧ σ.2 183 i = b1 (en.getD i ([], false, [])).2.1 ∧ Kpc cs (σ.2 184 i) (en.getD i ([], false, [])).2.2 ∧ σ.2 185 i = ((en.getD i ([], false, [])).2.2.length : Int) ∧ σ.2 186 i = if (i + 1) ∈ bs then 1 else 0
/-- numbers -/
def KNu (o : Nat) (σ : IS) (n : Nat → Nat) : Prop := σ.1 16 25 = (n 0 : Int) ∧ σ.2 (rfo o 19) 5 = (n 2 : Int) ∧ σ.1 16 26 = (n 3 : Int) ∧ σ.1 16 19 = (n 4 : Int) ∧ (σ.1 16 21 = if n 5 = 1 then 1 else 0) ∧ (σ.1 16 22 = if n 6 = 0 then 0 else 1) ∧ (∀ k, k < 5 → σ.2 (rfo o 19) k = 0)
def KRo (σ : IS) (bk : List Str) (r : Option Str) : Prop := σ.1 16 20 = (if r.isSome = true then 1 else 0) ∧ ∀ s, r = some s → Kn bk (σ.1 16 24) s
/-- elements -/
def KEl (o : Nat) (σ : IS) (bk : List Str) (el : List Elm) : Prop := σ.1 o 7 = (el.length : Int) ∧ ∀ i, i < el.length → Kn bk (σ.2 (rfo o 3) i) (el.getD i elD).1 ∧ σ.2 (rfo o 4) i = (el.getD i elD).2.1 ∧ σ.2 (rfo o 5) i = ((el.getD i elD).2.2.1 : Int) ∧ σ.2 (rfo o 6) i = ((el.getD i elD).2.2.2.1 : Int)
/-- the names of the children so far -/
def chd (el : List Elm) (e : Nat) : List Str := (el.filter (fun x => x.2.1 == (e : Int))).map (fun x => x.1)
/-- the k-th open element, from the outermost on -/
def opK (os : List Nat) (k : Nat) : Nat := os.getD (os.length - 1 - k) 0
/-- open elements -/
def KOp (σ : IS) (bk : List Str) (fr : List Frm) (el : List Elm) (os : List Nat) : Prop := σ.1 16 64 = (os.length : Int) ∧ (∀ k, k < os.length → σ.2 166 k = (opK os k : Int) ∧ σ.2 168 k = b1 (el.getD (opK os k) elD).2.2.2.2.2.1 ∧ σ.2 169 k = b1 (el.getD (opK os k) elD).2.2.2.2.2.2 ∧ ∃ j, j < fr.length ∧ σ.2 167 k = σ.2 181 j ∧ (lvl fr j).2.2 ≤ k ∧ ∀ i, j < i → i < fr.length → k < (lvl fr i).2.2) ∧
  ∃ bs : Nat → Nat, σ.1 16 66 = (bs os.length : Int) ∧ bs os.length ≤ el.length ∧ ∀ k, k < os.length → σ.2 170 k = (bs k : Int) ∧ bs k + (chd el (opK os k)).length = bs (k + 1) ∧ ∀ j, j < (chd el (opK os k)).length → Kn bk (σ.2 171 (bs k + j)) ((chd el (opK os k)).getD j [])
/-- a name's prefix -/
def KPx (bk : List Str) (x : Int) (s : Str) : Prop := (okq s ∧ Kn bk x (pfx s)) ∨ (¬ okq s ∧ x = -1)
/-- the type of an attribute -/
def atT (ad : List ADc) (t : Att) : Nat := match t.2.2 with
  | none => 0
  | some d => (ad.getD d adD).2.2.1
/-- attributes -/
def KAt (o : Nat) (σ : IS) (bk : List Str) (pl : List Int) (ad : List ADc) (at_ : List Att) : Prop := σ.1 o 14 = (at_.length : Int) ∧ ∀ i, i < at_.length → Kn bk (σ.2 (rfo o 8) i) (at_.getD i atD).1 ∧ Kpc pl (σ.2 (rfo o 9) i) (at_.getD i atD).2.1 ∧ σ.2 (rfo o 10) i = ((at_.getD i atD).2.1.length : Int) ∧ σ.2 (rfo o 11) i = (atT ad (at_.getD i atD) : Int) ∧ KPx bk (σ.2 (rfo o 12) i) (at_.getD i atD).1 ∧ Kn bk (σ.2 (rfo o 13) i) (lcl (at_.getD i atD).1)
/-- events: begins, ends, texts, targets with what follows -/
abbrev KEv : Type := Bool ⊕ (Str ⊕ (Str × Str))
/-- what they stand for, with elements numbered from m on -/
def kfl : List KEv → Nat → List Evt
  | [], _ => []
  | .inl true :: r, m => .inl (-3 - (m : Int)) :: kfl r (m + 1)
  | .inl false :: r, m => .inl (-1) :: kfl r m
  | .inr (.inl l) :: r, m => l.map (fun c => .inl c) ++ kfl r m
  | .inr (.inr q) :: r, m => .inr q :: kfl r m
def kel : List KEv → Nat
  | [] => 0
  | .inl _ :: r => 1 + kel r
  | .inr (.inl _) :: r => 3 + kel r
  | .inr (.inr _) :: r => 4 + kel r
/-- how many begin -/
def kns : List KEv → Nat
  | [] => 0
  | .inl true :: r => kns r + 1
  | .inl false :: r => kns r
  | .inr _ :: r => kns r
/-- how they lie in the row of events -/
def kev (ρ : Nat → Int) (bk : List Str) (pl : List Int) : List KEv → Nat → Prop
  | [], _ => True
  | .inl b :: r, i => ρ i = (if b = true then 0 else 1) ∧ kev ρ bk pl r (i + 1)
  | .inr (.inl l) :: r, i => ρ i = 2 ∧ Kpc pl (ρ (i + 1)) l ∧ ρ (i + 2) = (l.length : Int) ∧ kev ρ bk pl r (i + 3)
  | .inr (.inr q) :: r, i => ρ i = 3 ∧ Kn bk (ρ (i + 1)) q.1 ∧ Kpc pl (ρ (i + 2)) q.2 ∧ ρ (i + 3) = (q.2.length : Int) ∧ kev ρ bk pl r (i + 4)
/-- how many places events take, and whether a text is the last -/
def kN2 (s : Nat × Bool) (v : Evt) : Nat × Bool := match v with
  | .inl c => if 0 ≤ c then (if s.2 = true then s.1 else s.1 + 3, true) else (s.1 + 1, false)
  | .inr _ => (s.1 + 4, false)
def kNs (st : List Evt) : Nat × Bool := st.foldl kN2 (0, false)
/-- the stream: the last text may grow, if it is the last of all -/
def KSt (o : Nat) (σ : IS) (bk : List Str) (pl : List Int) (st : List Evt) (ne : Nat) : Prop := ∃ G : List KEv, (kfl G 0 = st ∧ kns G = ne) ∧ kev (σ.2 (rfo o 15)) bk pl G 0 ∧ σ.1 o 16 = (kel G : Int) ∧ (∀ l, .inr (.inl l) ∈ G → l ≠ [] ∧ ∀ c ∈ l, 0 ≤ c) ∧ (σ.1 o 20 = (ltr st : Int) ∧ kNs st = (kel G, decide (0 ≤ σ.1 o 17))) ∧
  ((σ.1 o 17 = -1 ∧ ∀ l, G.getLast? ≠ some (.inr (.inl l))) ∨ ∃ G' l, G = G' ++ [.inr (.inl l)] ∧ σ.1 o 17 = ((kel G' + 1 : Nat) : Int) ∧ σ.2 (rfo o 15) (kel G' + 1) + (l.length : Int) = (pl.length : Int))
