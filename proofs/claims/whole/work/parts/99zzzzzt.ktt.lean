/-! ===== the trees of models (pure): what a tree means ===== -/
def kK (t : List KNd) (p : Nat) : Int := (t.getD p kdD).1
def kO (t : List KNd) (p : Nat) : Int := (t.getD p kdD).2.1
def kM (t : List KNd) (p : Nat) : Str := (t.getD p kdD).2.2.1
def kC (t : List KNd) (p : Nat) : Int := (t.getD p kdD).2.2.2.1
def kS (t : List KNd) (p : Nat) : Int := (t.getD p kdD).2.2.2.2.1
def kA (t : List KNd) (p : Nat) : Int := (t.getD p kdD).2.2.2.2.2
/-- what a node means, the names below it, how deep it is, its parts -/
abbrev KGv : Type := MVl × Nat × Nat × Nat × List Nat
def gvl (x : KGv) : MVl := x.1
def glo (x : KGv) : Nat := x.2.1
def ghi (x : KGv) : Nat := x.2.2.1
def gdp (x : KGv) : Nat := x.2.2.2.1
def gch (x : KGv) : List Nat := x.2.2.2.2
/-- parts, one behind another -/
def chn (S : Nat → Int) : Int → List Nat → Prop
  | c, [] => c = -1
  | c, p :: l => c = (p : Int) ∧ chn S (S p) l
/-- what parts mean together -/
def fo (s : Int) (G : Nat → KGv) (l : List Nat) : Option MVl := l.foldl (fun o p => some (vj s o (gvl (G p)))) none
/-- the names below parts follow each other -/
def ivl (G : Nat → KGv) : Nat → List Nat → Nat → Prop
  | x, [], y => x = y
  | x, c :: l, y => glo (G c) = x ∧ ivl G (ghi (G c)) l y
/-- how many names stand before -/
def lcn (K : Nat → Int) : Nat → Nat
  | 0 => 0
  | p + 1 => lcn K p + (if K p = 0 then 1 else 0)
/-- a node that is closed -/
def CN (t : List KNd) (G : Nat → KGv) (p : Nat) : Prop :=
  (kK t p = 0 → kC t p = (glo (G p) : Int) ∧ ghi (G p) = glo (G p) + 1 ∧ gvl (G p) = vof (kO t p) (vlf (glo (G p))) ∧ gch (G p) = []) ∧
  (kK t p ≠ 0 → gch (G p) ≠ [] ∧ chn (kS t) (kC t p) (gch (G p)) ∧ ivl G (glo (G p)) (gch (G p)) (ghi (G p)) ∧ ∃ s, kK t p = (if s = 124 then 2 else 1) ∧ (fo s G (gch (G p))).map (vof (kO t p)) = some (gvl (G p))) ∧
  (∀ c ∈ gch (G p), kA t c = (p : Int) ∧ p < c ∧ c < t.length ∧ gdp (G c) = gdp (G p) + 1) ∧ (gch (G p)).Pairwise (· < ·) ∧ gdp (G p) ≤ 60
/-- groups that are open, the innermost first; tl: the group within -/
def OG (t : List KNd) (G : Nat → KGv) (n : Nat) : List Nat → List Nat → List MFr → Prop
  | _, [], [] => True
  | tl, g :: gl, (s, o) :: fs => (g < t.length ∧ kK t g = (if s = 124 then 2 else 1) ∧ kO t g = 0 ∧ chn (kS t) (kC t g) (gch (G g) ++ tl) ∧ (gch (G g) ++ tl).Pairwise (· < ·) ∧ (∀ c ∈ gch (G g) ++ tl, kA t c = (g : Int) ∧ g < c ∧ c < t.length ∧ gdp (G c) = gdp (G g) + 1) ∧ fo s G (gch (G g)) = o ∧ ivl G (glo (G g)) (gch (G g)) (match tl with
      | [] => n
      | x :: _ => glo (G x)) ∧ (s = 0 → (gch (G g) ++ tl).length ≤ 1) ∧ gdp (G g) = gl.length ∧ kA t g = (match gl with
      | [] => -1
      | x :: _ => (x : Int))) ∧ OG t G n [g] gl fs
  | _, _, _ => False
section Ktt
variable {t t' : List KNd} {G G' : Nat → KGv} {S S' : Nat → Int} {c : Int} {l : List Nat} {n n' p g0 : Nat}
theorem chn_ext : ∀ {l : List Nat} {c : Int}, chn S c l → (∀ p ∈ l, S' p = S p) → chn S' c l
  | [], _, h, _ => h
  | p :: l, _, h, hS => ⟨h.1, by rw [hS p List.mem_cons_self]; exact chn_ext h.2 (fun q hq => hS q (List.mem_cons_of_mem _ hq))⟩
/-- the last of a chain gets one behind it -/
theorem chn_snoc : ∀ {l : List Nat} {c : Int} {x y : Nat}, chn S c (l ++ [x]) → (∀ p ∈ l, S' p = S p) → S' x = (y : Int) → S' y = -1 → chn S' c (l ++ [x] ++ [y])
  | [], _, x, y, h, _, h1, h2 => ⟨h.1, by show chn S' (S' x) [y]; exact ⟨h1, h2⟩⟩
  | p :: l, _, x, y, h, hS, h1, h2 => ⟨h.1, by
    show chn S' (S' p) (l ++ [x] ++ [y])
    rw [hS p List.mem_cons_self]
    exact chn_snoc h.2 (fun q hq => hS q (List.mem_cons_of_mem _ hq)) h1 h2⟩
theorem chn_drop : ∀ {l : List Nat} {c : Int} {x : Nat} {r : List Nat}, chn S c (l ++ x :: r) → chn S (S x) r
  | [], _, _, _, h => h.2
  | _ :: _, _, _, _, h => chn_drop h.2
theorem fo_snoc {s : Int} {x : Nat} : fo s G (l ++ [x]) = some (vj s (fo s G l) (gvl (G x))) := by
  unfold fo
  rw [List.foldl_append]
  rfl
theorem fo_ext {s : Int} (h : ∀ c ∈ l, G' c = G c) : fo s G' l = fo s G l := by
  unfold fo
  generalize (none : Option MVl) = z
  induction l generalizing z with
  | nil => rfl
  | cons c l ih =>
    rw [List.foldl_cons, List.foldl_cons, h c List.mem_cons_self]
    exact ih (fun d hd => h d (List.mem_cons_of_mem _ hd)) _
theorem fo_one {s s' : Int} (h : l.length ≤ 1) : fo s G l = fo s' G l := by
  cases l with
  | nil => rfl
  | cons c l =>
    cases l with
    | nil => rfl
    | cons d l => rw [List.length_cons, List.length_cons] at h; omega
theorem ivl_ext : ∀ {l : List Nat} {x y : Nat}, ivl G x l y → (∀ c ∈ l, G' c = G c) → ivl G' x l y
  | [], _, _, h, _ => h
  | c :: l, _, _, h, hG => by
    refine ⟨?_, ?_⟩
    · rw [hG c List.mem_cons_self]; exact h.1
    · rw [hG c List.mem_cons_self]; exact ivl_ext h.2 (fun d hd => hG d (List.mem_cons_of_mem _ hd))
theorem ivl_snoc : ∀ {l : List Nat} {x y z q : Nat}, ivl G x l y → glo (G q) = y → ghi (G q) = z → ivl G x (l ++ [q]) z
  | [], _, _, _, q, h, h1, h2 => ⟨by rw [h1]; exact h.symm, h2⟩
  | c :: l, _, _, _, q, h, h1, h2 => ⟨h.1, ivl_snoc h.2 h1 h2⟩
theorem lcn_ext {K K' : Nat → Int} : ∀ {n : Nat}, (∀ p, p < n → K' p = K p) → lcn K' n = lcn K n
  | 0, _ => rfl
  | n + 1, h => by
    show lcn K' n + _ = lcn K n + _
    rw [h n (by omega), lcn_ext (fun p hp => h p (by omega))]
theorem CN.ext (h : CN t G p) (hl : t.length ≤ t'.length) (hK : kK t' p = kK t p) (hO : kO t' p = kO t p) (hC : kC t' p = kC t p) (hG : G' p = G p) (hc : ∀ c ∈ gch (G p), kS t' c = kS t c ∧ kA t' c = kA t c ∧ G' c = G c) : CN t' G' p := by
  obtain ⟨h1, h2, h3, h4, h5⟩ := h
  refine ⟨?_, ?_, ?_, ?_, ?_⟩
  · rw [hK, hO, hC, hG]; exact h1
  · rw [hK, hO, hC, hG]
    intro z
    obtain ⟨k1, k2, k3, s, k4, k5⟩ := h2 z
    refine ⟨k1, chn_ext k2 (fun c m => (hc c m).1), ivl_ext k3 (fun c m => (hc c m).2.2), s, k4, ?_⟩
    rw [fo_ext (fun c m => (hc c m).2.2)]
    exact k5
  · rw [hG]
    intro c m
    obtain ⟨k1, k2, k3, k4⟩ := h3 c m
    rw [(hc c m).2.1, (hc c m).2.2]
    exact ⟨k1, k2, by omega, k4⟩
  · rw [hG]; exact h4
  · rw [hG]; exact h5
theorem OG.ext : ∀ {gl : List Nat} {fs : List MFr} {g : Nat}, OG t G n [g] gl fs → g ≤ g0 → t.length ≤ t'.length → (∀ p, p < g0 → kK t' p = kK t p ∧ kO t' p = kO t p ∧ kC t' p = kC t p ∧ G' p = G p) → (∀ p, p ≤ g0 → kS t' p = kS t p ∧ kA t' p = kA t p ∧ glo (G' p) = glo (G p) ∧ gdp (G' p) = gdp (G p)) → OG t' G' n' [g] gl fs
  | [], [], _, _, _, _, _, _ => trivial
  | [], _ :: _, _, h, _, _, _, _ => h.elim
  | _ :: _, [], _, h, _, _, _, _ => h.elim
  | x :: gl, (s, o) :: fs, g, h, hg, hl, h1, h2 => by
    obtain ⟨⟨k1, k2, k3, k4, k5, k6, k7, k8, k9, k10, k11⟩, k⟩ := h
    have hxg : x < g := (k6 g (List.mem_append_right _ (List.mem_singleton.mpr rfl))).2.1
    have hx := h1 x (by omega)
    have hle : ∀ c ∈ gch (G x), c < g := fun c hc => (List.pairwise_append.mp k5).2.2 c hc g (List.mem_singleton.mpr rfl)
    have hle2 : ∀ c ∈ gch (G x) ++ [g], c ≤ g0 := fun c hc => by
      rcases List.mem_append.mp hc with z | z
      · have := hle c z; omega
      · rw [List.mem_singleton.mp z]; exact hg
    refine ⟨⟨by omega, by rw [hx.1]; exact k2, by rw [hx.2.1]; exact k3, ?_, by rw [hx.2.2.2]; exact k5, ?_, ?_, ?_, by rw [hx.2.2.2]; exact k9, by rw [hx.2.2.2]; exact k10, by rw [(h2 x (by omega)).2.1]; exact k11⟩, OG.ext k (by omega) hl h1 h2⟩
    · rw [hx.2.2.1, hx.2.2.2]
      exact chn_ext k4 (fun c hc => (h2 c (hle2 c hc)).1)
    · rw [hx.2.2.2]
      intro c hc
      obtain ⟨z1, z2, z3, z4⟩ := k6 c hc
      have := h2 c (hle2 c hc)
      rw [this.2.1, this.2.2.2]
      exact ⟨z1, z2, by omega, z4⟩
    · rw [hx.2.2.2, fo_ext (fun c hc => (h1 c (by have := hle c hc; omega)).2.2.2)]
      exact k7
    · rw [hx.2.2.2]
      show ivl G' (glo (G x)) (gch (G x)) (glo (G' g))
      rw [(h2 g hg).2.2.1]
      exact ivl_ext k8 (fun c hc => (h1 c (by have := hle c hc; omega)).2.2.2)
/-- how a tree reads after a new node -/
theorem knw_rd {kd : Int} {nm : Str} {ch gr la : Int} (hla : la = -1 ∨ ∃ i : Nat, la = (i : Int) ∧ i < t.length) (hgr : gr = -1 ∨ ∃ i : Nat, gr = (i : Int) ∧ i < t.length) :
    (knw kd nm ch gr la t).length = t.length + 1 ∧
    (∀ p, p < t.length → kK (knw kd nm ch gr la t) p = kK t p ∧ kO (knw kd nm ch gr la t) p = kO t p ∧ kM (knw kd nm ch gr la t) p = kM t p ∧ kA (knw kd nm ch gr la t) p = kA t p ∧ kS (knw kd nm ch gr la t) p = (if la = (p : Int) then (t.length : Int) else kS t p) ∧ kC (knw kd nm ch gr la t) p = (if la < 0 ∧ gr = (p : Int) then (t.length : Int) else kC t p)) ∧
    (kK (knw kd nm ch gr la t) t.length = kd ∧ kO (knw kd nm ch gr la t) t.length = 0 ∧ kM (knw kd nm ch gr la t) t.length = nm ∧ kC (knw kd nm ch gr la t) t.length = ch ∧ kS (knw kd nm ch gr la t) t.length = -1 ∧ kA (knw kd nm ch gr la t) t.length = gr) := by
  unfold knw
  have key : ∀ (u : List KNd), u.length = t.length → (u ++ [((kd, 0, nm, ch, -1, gr) : KNd)]).length = t.length + 1 ∧ (∀ p, p < t.length → (u ++ [((kd, 0, nm, ch, -1, gr) : KNd)]).getD p kdD = u.getD p kdD) ∧ (u ++ [((kd, 0, nm, ch, -1, gr) : KNd)]).getD t.length kdD = (kd, 0, nm, ch, -1, gr) := fun u hu => by
    refine ⟨by rw [List.length_append, List.length_singleton, hu], fun p hp => ?_, ?_⟩
    · rw [List.getD_eq_getElem?_getD, List.getElem?_append_left (by omega), ← List.getD_eq_getElem?_getD]
    · rw [List.getD_eq_getElem?_getD, List.getElem?_append_right (by omega), hu, Nat.sub_self]
      rfl
  by_cases c1 : 0 ≤ la
  · rw [if_pos c1]
    obtain ⟨i, hi, hi2⟩ : ∃ i : Nat, la = (i : Int) ∧ i < t.length := by
      rcases hla with z | z
      · omega
      · exact z
    subst hi
    obtain ⟨u1, u2, u3⟩ := key (t.modify (Int.toNat (i : Int)) (fun x => (x.1, x.2.1, x.2.2.1, x.2.2.2.1, (t.length : Int), x.2.2.2.2.2))) (by rw [List.length_modify])
    refine ⟨u1, fun p hp => ?_, ?_⟩
    · unfold kK kO kM kA kS kC
      rw [u2 p hp, getD_mod hp, show Int.toNat (i : Int) = i from rfl]
      by_cases c : i = p
      · rw [if_pos c, if_pos (by omega), if_neg (by omega)]
        exact ⟨rfl, rfl, rfl, rfl, rfl, rfl⟩
      · rw [if_neg c, if_neg (by omega), if_neg (by omega)]
        exact ⟨rfl, rfl, rfl, rfl, rfl, rfl⟩
    · unfold kK kO kM kA kS kC
      rw [u3]
      exact ⟨rfl, rfl, rfl, rfl, rfl, rfl⟩
  · rw [if_neg c1]
    by_cases c2 : 0 ≤ gr
    · rw [if_pos c2]
      obtain ⟨i, hi, hi2⟩ : ∃ i : Nat, gr = (i : Int) ∧ i < t.length := by
        rcases hgr with z | z
        · omega
        · exact z
      subst hi
      obtain ⟨u1, u2, u3⟩ := key (t.modify (Int.toNat (i : Int)) (fun x => (x.1, x.2.1, x.2.2.1, (t.length : Int), x.2.2.2.2))) (by rw [List.length_modify])
      refine ⟨u1, fun p hp => ?_, ?_⟩
      · unfold kK kO kM kA kS kC
        rw [u2 p hp, getD_mod hp, show Int.toNat (i : Int) = i from rfl]
        by_cases c : i = p
        · rw [if_pos c, if_neg (by omega), if_pos ⟨by omega, by omega⟩]
          exact ⟨rfl, rfl, rfl, rfl, rfl, rfl⟩
        · rw [if_neg c, if_neg (by omega), if_neg (by omega)]
          exact ⟨rfl, rfl, rfl, rfl, rfl, rfl⟩
      · unfold kK kO kM kA kS kC
        rw [u3]
        exact ⟨rfl, rfl, rfl, rfl, rfl, rfl⟩
    · rw [if_neg c2]
      obtain ⟨u1, u2, u3⟩ := key t rfl
      refine ⟨u1, fun p hp => ?_, ?_⟩
      · unfold kK kO kM kA kS kC
        rw [u2 p hp, if_neg (by omega), if_neg (by omega)]
        exact ⟨rfl, rfl, rfl, rfl, rfl, rfl⟩
      · unfold kK kO kM kA kS kC
        rw [u3]
        exact ⟨rfl, rfl, rfl, rfl, rfl, rfl⟩
/-- how it reads after a node got its number of times -/
theorem kof_rd {i : Nat} {h : Int} (hi : i < t.length) : (t.modify i (fun x => (x.1, h, x.2.2))).length = t.length ∧ ∀ p, p < t.length → kK (t.modify i (fun x => (x.1, h, x.2.2))) p = kK t p ∧ kO (t.modify i (fun x => (x.1, h, x.2.2))) p = (if i = p then h else kO t p) ∧ kM (t.modify i (fun x => (x.1, h, x.2.2))) p = kM t p ∧ kC (t.modify i (fun x => (x.1, h, x.2.2))) p = kC t p ∧ kS (t.modify i (fun x => (x.1, h, x.2.2))) p = kS t p ∧ kA (t.modify i (fun x => (x.1, h, x.2.2))) p = kA t p := by
  refine ⟨by rw [List.length_modify], fun p hp => ?_⟩
  unfold kK kO kM kA kS kC
  rw [getD_mod hp]
  by_cases c : i = p
  · rw [if_pos c, if_pos c]; exact ⟨rfl, rfl, rfl, rfl, rfl, rfl⟩
  · rw [if_neg c, if_neg c]; exact ⟨rfl, rfl, rfl, rfl, rfl, rfl⟩
/-- and after a group became a choice -/
theorem kch_rd {i : Nat} (hi : i < t.length) : (t.modify i (fun x => (2, x.2))).length = t.length ∧ ∀ p, p < t.length → kK (t.modify i (fun x => (2, x.2))) p = (if i = p then 2 else kK t p) ∧ kO (t.modify i (fun x => (2, x.2))) p = kO t p ∧ kM (t.modify i (fun x => (2, x.2))) p = kM t p ∧ kC (t.modify i (fun x => (2, x.2))) p = kC t p ∧ kS (t.modify i (fun x => (2, x.2))) p = kS t p ∧ kA (t.modify i (fun x => (2, x.2))) p = kA t p := by
  refine ⟨by rw [List.length_modify], fun p hp => ?_⟩
  unfold kK kO kM kA kS kC
  rw [getD_mod hp]
  by_cases c : i = p
  · rw [if_pos c, if_pos c]; exact ⟨rfl, rfl, rfl, rfl, rfl, rfl⟩
  · rw [if_neg c, if_neg c]; exact ⟨rfl, rfl, rfl, rfl, rfl, rfl⟩
end Ktt
