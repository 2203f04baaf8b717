/-! ===== the trees of models (pure): how a tree is built ===== -/
/-- t' is t with a new node, in the group gr behind la -/
def RD (t t' : List KNd) (kd h : Int) (nm : Str) (ch gr la : Int) : Prop := t'.length = t.length + 1 ∧
  (∀ p, p < t.length → kK t' p = kK t p ∧ kO t' p = kO t p ∧ kM t' p = kM t p ∧ kA t' p = kA t p ∧ kS t' p = (if la = (p : Int) then (t.length : Int) else kS t p) ∧ kC t' p = (if la < 0 ∧ gr = (p : Int) then (t.length : Int) else kC t p)) ∧
  (kK t' t.length = kd ∧ kO t' t.length = h ∧ kM t' t.length = nm ∧ kC t' t.length = ch ∧ kS t' t.length = -1 ∧ kA t' t.length = gr)
/-- names, and how many -/
def NMk (t : List KNd) (ns : List Str) : Prop := (∀ p, p < t.length → kK t p = 0 → kC t p = (lcn (kK t) p : Int) ∧ ns.getD (lcn (kK t) p) [] = kM t p) ∧ lcn (kK t) t.length = ns.length
/-- each node but the first is a part of a group before it -/
def PAk (t : List KNd) (G : Nat → KGv) (gl : List Nat) : Prop := ∀ p, p < t.length → (p = 0 ∧ kA t p = -1) ∨ ∃ q : Nat, kA t p = (q : Int) ∧ q < p ∧ (p ∈ gch (G q) ∨ p ∈ gl)
/-- the last part -/
def LAk (l : List Nat) (la : Int) : Prop := (l = [] ∧ la = -1) ∨ ∃ l' x, l = l' ++ [x] ∧ la = ((x : Nat) : Int)
/-- a tree that is being built -/
def BI (t : List KNd) (G : Nat → KGv) (ns : List Str) (g : Nat) (gl : List Nat) (s : Int) (o : Option MVl) (fs : List MFr) (due : Bool) (la : Int) : Prop := (∀ p, p < t.length → p ∉ g :: gl → CN t G p) ∧ OG t G ns.length [] (g :: gl) ((s, o) :: fs) ∧ LAk (gch (G g)) la ∧ (due = true → s = 0 → gch (G g) = []) ∧ PAk t G (g :: gl) ∧ NMk t ns ∧ glo (G 0) = 0
section Kbl
variable {t t' : List KNd} {G G' : Nat → KGv} {ns : List Str} {g : Nat} {gl : List Nat} {s : Int} {o : Option MVl} {fs : List MFr} {due : Bool} {la gr kd h ch : Int} {nm : Str}
theorem lcn_mono {K : Nat → Int} {p : Nat} : ∀ {n : Nat}, p ≤ n → lcn K p ≤ lcn K n
  | 0, h => by rw [show p = 0 by omega]; exact Nat.le_refl _
  | n + 1, h => by
    by_cases c : p = n + 1
    · rw [c]; exact Nat.le_refl _
    · have := lcn_mono (K := K) (show p ≤ n by omega)
      show lcn K p ≤ lcn K n + _
      omega
theorem RD.often {t1 : List KNd} (hr : RD t t1 kd 0 nm ch gr la) : RD t (t1.modify t.length (fun x => (x.1, h, x.2.2))) kd h nm ch gr la := by
  obtain ⟨h1, h2, h3⟩ := hr
  have := kof_rd (t := t1) (i := t.length) (h := h) (by omega)
  refine ⟨by rw [this.1, h1], fun p hp => ?_, ?_⟩
  · obtain ⟨a1, a2, a3, a4, a5, a6⟩ := this.2 p (by omega)
    rw [a1, a2, a3, a4, a5, a6, if_neg (by omega)]
    exact h2 p hp
  · obtain ⟨a1, a2, a3, a4, a5, a6⟩ := this.2 t.length (by omega)
    rw [a1, a2, a3, a4, a5, a6, if_pos rfl]
    exact ⟨h3.1, rfl, h3.2.2⟩
theorem NMk.lt (h : NMk t ns) {p : Nat} (hp : p < t.length) (hk : kK t p = 0) : lcn (kK t) p < ns.length := by
  have := lcn_mono (K := kK t) (show p + 1 ≤ t.length by omega)
  have e : lcn (kK t) (p + 1) = lcn (kK t) p + 1 := by
    show lcn (kK t) p + (if kK t p = 0 then 1 else 0) = _
    rw [if_pos hk]
  rw [h.2] at this
  omega
/-- the new node stands behind the last part -/
theorem RD.chn (hr : RD t t' kd h nm ch (g : Int) la) (hg : g < t.length) (hc : chn (kS t) (kC t g) (gch (G g))) (hp : (gch (G g)).Pairwise (· < ·)) (hl : ∀ c ∈ gch (G g), c < t.length) (hla : LAk (gch (G g)) la) : chn (kS t') (kC t' g) (gch (G g) ++ [t.length]) := by
  obtain ⟨-, h2, h3⟩ := hr
  have hC := (h2 g hg).2.2.2.2.2
  rcases hla with ⟨z1, z2⟩ | ⟨l, x, z1, z2⟩
  · rw [z1]
    rw [if_pos ⟨by omega, rfl⟩] at hC
    exact ⟨hC, h3.2.2.2.2.1⟩
  · rw [z1] at hc hp hl ⊢
    rw [if_neg (by omega)] at hC
    rw [hC]
    have hx := hl x (List.mem_append_right _ (List.mem_singleton.mpr rfl))
    refine chn_snoc hc (fun p hpm => ?_) ?_ h3.2.2.2.2.1
    · have hpx := (List.pairwise_append.mp hp).2.2 p hpm x (List.mem_singleton.mpr rfl)
      have := (h2 p (by omega)).2.2.2.2.1
      rw [if_neg (by omega)] at this
      exact this
    · have := (h2 x hx).2.2.2.2.1
      rw [if_pos z2] at this
      exact this
/-- what stays when a new node is put into the group g -/
theorem RD.keep (hr : RD t t' kd h nm ch (g : Int) la) (hB : BI t G ns g gl s o fs due la) (hG : ∀ p, p < t.length → p ≠ g → G' p = G p) (hGg : glo (G' g) = glo (G g) ∧ gdp (G' g) = gdp (G g)) : (∀ p, p < t.length → p ∉ g :: gl → CN t' G' p) ∧ OG t' G' (ns.length + 1) [g] gl fs ∧ OG t' G' ns.length [g] gl fs := by
  obtain ⟨b1, ⟨⟨k1, k2, k3, k4, k5, k6, k7, k8, k9, k10, k11⟩, k⟩, b3, b4, b5, b6, b7⟩ := hB
  rw [List.append_nil] at k4 k5 k6
  obtain ⟨r1, r2, r3⟩ := hr
  -- where the last part lies
  have hy : ∀ p : Nat, la = (p : Int) → p ∈ gch (G g) := fun p hp => by
    rcases b3 with ⟨z1, z2⟩ | ⟨l, x, z1, z2⟩
    · omega
    · rw [z1, show p = x by omega]
      exact List.mem_append_right _ (List.mem_singleton.mpr rfl)
  refine ⟨fun p hp hpn => ?_, ?_, ?_⟩
  · have hc := b1 p hp hpn
    obtain ⟨a1, a2, a3, a4, a5, a6⟩ := r2 p hp
    have hpg : p ≠ g := fun z => hpn (by rw [z]; exact List.mem_cons_self)
    refine hc.ext (by omega) a1 a2 (by rw [a6, if_neg (by omega)]) (hG p hp hpg) (fun c hcm => ?_)
    obtain ⟨c1, c2, c3, c4⟩ := hc.2.2.1 c hcm
    obtain ⟨d1, d2, d3, d4, d5, d6⟩ := r2 c c3
    refine ⟨?_, d4, hG c c3 (fun z => ?_)⟩
    · rw [d5, if_neg (fun z => ?_)]
      have := (k6 c (hy c z)).1
      omega
    · rw [z] at c1
      rw [c1] at k11
      cases gl with
      | nil => have : (p : Int) = -1 := k11; omega
      | cons x r =>
        have : (p : Int) = (x : Int) := k11
        exact hpn (by rw [show p = x by omega]; exact List.mem_cons_of_mem _ List.mem_cons_self)
  all_goals
    refine OG.ext (g0 := g) k (Nat.le_refl _) (by omega) (fun p hp => ?_) (fun p hp => ?_)
    · obtain ⟨a1, a2, a3, a4, a5, a6⟩ := r2 p (by omega)
      exact ⟨a1, a2, by rw [a6, if_neg (by omega)], hG p (by omega) (by omega)⟩
    · obtain ⟨a1, a2, a3, a4, a5, a6⟩ := r2 p (by omega)
      refine ⟨?_, a4, ?_⟩
      · rw [a5, if_neg (fun z => ?_)]
        have := (k6 p (hy p z)).2.1
        omega
      · by_cases c : p = g
        · rw [c]; exact hGg
        · rw [hG p (by omega) c]; exact ⟨rfl, rfl⟩
/-- a name is put into a group -/
theorem BI.nam (hB : BI t G ns g gl s o fs true la) (hd : gl.length + 1 ≤ 60) (hr : RD t t' 0 h nm (ns.length : Int) (g : Int) la) : ∃ G', BI t' G' (ns ++ [nm]) g gl s (some (vj s o (vof h (vlf ns.length)))) fs false (t.length : Int) := by
  obtain ⟨b1, ⟨⟨k1, k2, k3, k4, k5, k6, k7, k8, k9, k10, k11⟩, k⟩, b3, b4, b5, b6, b7⟩ := id hB
  rw [List.append_nil] at k4 k5 k6 k9
  let G' : Nat → KGv := fun p => if p = t.length then (vof h (vlf ns.length), ns.length, ns.length + 1, gl.length + 1, []) else if p = g then (gvl (G g), glo (G g), ghi (G g), gdp (G g), gch (G g) ++ [t.length]) else G p
  have gn : G' t.length = (vof h (vlf ns.length), ns.length, ns.length + 1, gl.length + 1, []) := if_pos rfl
  have gg : G' g = (gvl (G g), glo (G g), ghi (G g), gdp (G g), gch (G g) ++ [t.length]) := by
    show (if g = t.length then _ else if g = g then _ else _) = _
    rw [if_neg (by omega), if_pos rfl]
  have go_ : ∀ p, p < t.length → p ≠ g → G' p = G p := fun p h1 h2 => by
    show (if p = t.length then _ else if p = g then _ else _) = _
    rw [if_neg (by omega), if_neg h2]
  obtain ⟨q1, q2, -⟩ := hr.keep (G' := G') hB go_ (by rw [gg]; exact ⟨rfl, rfl⟩)
  have hch := hr.chn k1 k4 k5 (fun c hc => (k6 c hc).2.2.1) b3
  obtain ⟨r1, r2, r3⟩ := id hr
  have hlt : ∀ c ∈ gch (G g), c < t.length := fun c hc => (k6 c hc).2.2.1
  have hGc : ∀ c ∈ gch (G g), G' c = G c := fun c hc => go_ c (hlt c hc) (by have := (k6 c hc).2.1; omega)
  have hln : lcn (kK t') t.length = ns.length := by rw [lcn_ext (fun p hp => (r2 p hp).1)]; exact b6.2
  refine ⟨G', fun p hp hpn => ?_, ⟨⟨by omega, ?_, ?_, ?_, ?_, ?_, ?_, ?_, ?_, ?_, ?_⟩, by rw [List.length_append, List.length_singleton]; exact q2⟩, Or.inr ⟨gch (G g), t.length, by rw [gg]; rfl, rfl⟩, fun z => (by cases z), fun p hp => ?_, ⟨fun p hp hpk => ?_, ?_⟩, ?_⟩
  · by_cases c : p = t.length
    · rw [c]
      refine ⟨fun _ => ?_, fun z => absurd r3.1 z, ?_, ?_, ?_⟩
      · rw [gn, r3.2.1, r3.2.2.2.1]
        exact ⟨rfl, rfl, rfl, rfl⟩
      · rw [gn]; intro c hc; cases hc
      · rw [gn]; exact List.Pairwise.nil
      · rw [gn]; exact hd
    · exact q1 p (by omega) hpn
  · rw [(r2 g k1).1]; exact k2
  · rw [(r2 g k1).2.1]; exact k3
  · rw [List.append_nil, gg]; exact hch
  · rw [List.append_nil, gg]
    exact List.pairwise_append.mpr ⟨k5, List.pairwise_singleton _ _, fun a ha b hb => by rw [List.mem_singleton.mp hb]; exact hlt a ha⟩
  · rw [List.append_nil, gg]
    intro c hc
    rcases List.mem_append.mp hc with z | z
    · obtain ⟨c1, c2, c3, c4⟩ := k6 c z
      rw [(r2 c c3).2.2.2.1, hGc c z]
      exact ⟨c1, c2, by omega, c4⟩
    · rw [List.mem_singleton.mp z, gn]
      exact ⟨r3.2.2.2.2.2, k1, by omega, by show gl.length + 1 = gdp (G g) + 1; rw [k10]⟩
  · rw [gg]
    show fo s G' (gch (G g) ++ [t.length]) = _
    rw [fo_snoc, fo_ext hGc, k7, gn]
    rfl
  · rw [gg]
    show ivl G' (glo (G g)) (gch (G g) ++ [t.length]) (ns ++ [nm]).length
    have k8' : ivl G (glo (G g)) (gch (G g)) ns.length := k8
    exact ivl_snoc (ivl_ext k8' hGc) (by rw [gn]; rfl) (by rw [gn, List.length_append, List.length_singleton]; rfl)
  · intro z
    rw [List.append_nil, gg]
    show (gch (G g) ++ [t.length]).length ≤ 1
    rw [b4 rfl z]
    exact Nat.le_refl 1
  · rw [gg]; exact k10
  · rw [(r2 g k1).2.2.2.1]; exact k11
  · by_cases c : p = t.length
    · rw [c]
      exact Or.inr ⟨g, r3.2.2.2.2.2, k1, Or.inl (by rw [gg]; exact List.mem_append_right _ (List.mem_singleton.mpr rfl))⟩
    · rw [(r2 p (by omega)).2.2.2.1]
      rcases b5 p (by omega) with z | ⟨q, z1, z2, z3⟩
      · exact Or.inl z
      · refine Or.inr ⟨q, z1, z2, z3.elim (fun z => Or.inl ?_) Or.inr⟩
        by_cases cq : q = g
        · rw [cq, gg]; rw [cq] at z; exact List.mem_append_left _ z
        · rw [go_ q (by omega) cq]; exact z
  · by_cases c : p = t.length
    · rw [c, hln, r3.2.2.2.1, r3.2.2.1]
      refine ⟨rfl, ?_⟩
      rw [List.getD_eq_getElem?_getD, List.getElem?_append_right (Nat.le_refl _), Nat.sub_self]
      rfl
    · have hp' : p < t.length := by omega
      rw [(r2 p hp').1] at hpk
      have e1 : lcn (kK t') p = lcn (kK t) p := lcn_ext (fun q hq => (r2 q (by omega)).1)
      have hla2 : kC t' p = kC t p := by
        rw [(r2 p hp').2.2.2.2.2, if_neg (fun z => ?_)]
        rw [show p = g by omega, k2] at hpk
        split at hpk <;> exact absurd hpk (by decide)
      rw [e1, hla2, (r2 p hp').2.2.1]
      refine ⟨(b6.1 p hp' hpk).1, ?_⟩
      rw [List.getD_eq_getElem?_getD, List.getElem?_append_left (b6.lt hp' hpk), ← List.getD_eq_getElem?_getD]
      exact (b6.1 p hp' hpk).2
  · rw [r1, List.length_append, List.length_singleton]
    show lcn (kK t') t.length + (if kK t' t.length = 0 then 1 else 0) = _
    rw [hln, if_pos r3.1]
  · by_cases c : 0 = g
    · rw [c, gg]; rw [c] at b7; exact b7
    · rw [go_ 0 (by omega) c]; exact b7
/-- a group is opened in a group -/
theorem BI.grp (hB : BI t G ns g gl s o fs true la) (hr : RD t t' 1 0 [] (-1) (g : Int) la) : ∃ G', BI t' G' ns t.length (g :: gl) 0 none ((s, o) :: fs) true (-1) := by
  obtain ⟨b1, ⟨⟨k1, k2, k3, k4, k5, k6, k7, k8, k9, k10, k11⟩, k⟩, b3, b4, b5, b6, b7⟩ := id hB
  rw [List.append_nil] at k4 k5 k6 k9
  let G' : Nat → KGv := fun p => if p = t.length then ((false, fun _ => false, fun _ => false, fun _ _ => false), ns.length, 0, gl.length + 1, []) else G p
  have gn : G' t.length = ((false, fun _ => false, fun _ => false, fun _ _ => false), ns.length, 0, gl.length + 1, []) := if_pos rfl
  have go_ : ∀ p, p < t.length → G' p = G p := fun p h1 => if_neg (by omega)
  have gg := go_ g k1
  obtain ⟨q1, -, q2⟩ := hr.keep (G' := G') hB (fun p hp _ => go_ p hp) (by rw [gg]; exact ⟨rfl, rfl⟩)
  have hch := hr.chn k1 k4 k5 (fun c hc => (k6 c hc).2.2.1) b3
  obtain ⟨r1, r2, r3⟩ := id hr
  have hlt : ∀ c ∈ gch (G g), c < t.length := fun c hc => (k6 c hc).2.2.1
  have hGc : ∀ c ∈ gch (G g), G' c = G c := fun c hc => go_ c (hlt c hc)
  have hln : lcn (kK t') t.length = ns.length := by rw [lcn_ext (fun p hp => (r2 p hp).1)]; exact b6.2
  refine ⟨G', fun p hp hpn => ?_, ⟨⟨by omega, ?_, ?_, ?_, ?_, ?_, ?_, ?_, ?_, ?_, ?_⟩, ⟨by omega, ?_, ?_, ?_, ?_, ?_, ?_, ?_, ?_, ?_, ?_⟩, q2⟩, Or.inl ⟨by rw [gn]; rfl, rfl⟩, fun _ _ => by rw [gn]; rfl, fun p hp => ?_, ⟨fun p hp hpk => ?_, ?_⟩, ?_⟩
  · have hpt : p ≠ t.length := fun z => hpn (by rw [z]; exact List.mem_cons_self)
    exact q1 p (by omega) (fun z => hpn (List.mem_cons_of_mem _ z))
  · rw [r3.1]; rfl
  · exact r3.2.1
  · rw [gn]; show chn (kS t') (kC t' t.length) []; exact r3.2.2.2.1
  · rw [gn]; exact List.Pairwise.nil
  · rw [gn]; intro c hc; cases hc
  · rw [gn]; rfl
  · rw [gn]; show ns.length = ns.length; rfl
  · intro _; rw [gn]; show 0 ≤ 1; omega
  · rw [gn]; rfl
  · exact r3.2.2.2.2.2
  · rw [(r2 g k1).1]; exact k2
  · rw [(r2 g k1).2.1]; exact k3
  · rw [gg]; exact hch
  · rw [gg]
    exact List.pairwise_append.mpr ⟨k5, List.pairwise_singleton _ _, fun a ha b hb => by rw [List.mem_singleton.mp hb]; exact hlt a ha⟩
  · rw [gg]
    intro c hc
    rcases List.mem_append.mp hc with z | z
    · obtain ⟨c1, c2, c3, c4⟩ := k6 c z
      rw [(r2 c c3).2.2.2.1, hGc c z]
      exact ⟨c1, c2, by omega, c4⟩
    · rw [List.mem_singleton.mp z, gn]
      exact ⟨r3.2.2.2.2.2, k1, by omega, by show gl.length + 1 = gdp (G g) + 1; rw [k10]⟩
  · rw [gg, fo_ext hGc]; exact k7
  · rw [gg]
    show ivl G' (glo (G g)) (gch (G g)) (glo (G' t.length))
    rw [gn]
    have k8' : ivl G (glo (G g)) (gch (G g)) ns.length := k8
    exact ivl_ext k8' hGc
  · intro z
    rw [gg, b4 rfl z]
    exact Nat.le_refl 1
  · rw [gg]; exact k10
  · rw [(r2 g k1).2.2.2.1]; exact k11
  · by_cases c : p = t.length
    · rw [c]
      exact Or.inr ⟨g, r3.2.2.2.2.2, k1, Or.inr List.mem_cons_self⟩
    · rw [(r2 p (by omega)).2.2.2.1]
      rcases b5 p (by omega) with z | ⟨q, z1, z2, z3⟩
      · exact Or.inl z
      · refine Or.inr ⟨q, z1, z2, z3.elim (fun z => Or.inl ?_) (fun z => Or.inr (List.mem_cons_of_mem _ z))⟩
        rw [go_ q (by omega)]; exact z
  · by_cases c : p = t.length
    · rw [c, r3.1] at hpk; exact absurd hpk (by decide)
    · have hp' : p < t.length := by omega
      rw [(r2 p hp').1] at hpk
      have e1 : lcn (kK t') p = lcn (kK t) p := lcn_ext (fun q hq => (r2 q (by omega)).1)
      have hla2 : kC t' p = kC t p := by
        rw [(r2 p hp').2.2.2.2.2, if_neg (fun z => ?_)]
        rw [show p = g by omega, k2] at hpk
        split at hpk <;> exact absurd hpk (by decide)
      rw [e1, hla2, (r2 p hp').2.2.1]
      exact b6.1 p hp' hpk
  · rw [r1]
    show lcn (kK t') t.length + (if kK t' t.length = 0 then 1 else 0) = _
    rw [hln, if_neg (by rw [r3.1]; decide), Nat.add_zero]
  · rw [go_ 0 (by omega)]; exact b7
end Kbl
