/-! ===== the tree in its order (pure) ===== -/
def seg5 (y : Str × Int × Nat × Nat × Nat) : List (Nat × Bool) := (List.range y.2.2.2.1).map (fun i => (y.2.2.1 + i, decide (y.2.2.2.2 ≤ i)))
theorem segs_e5 {el : List Elm} : segs el = (el.map e5).flatMap seg5 := by
  unfold segs
  rw [List.flatMap_map]
  rfl
/-- all attributes in their order; those that came by default are as they were declared -/
def GS (a : AS) : Prop := (segs (aL a)).map Prod.fst = List.range (aB a).length ∧ ∀ z ∈ segs (aL a), z.2 = true → ∃ d, ((aB a).getD z.1 atD).2.2 = some d ∧ d < (aA a).length ∧ 3 ≤ ((aA a).getD d adD).2.2.2.1 ∧ ((aB a).getD z.1 atD).2.1 = ((aA a).getD d adD).2.2.2.2.1
section Gsp
variable {rm nd : Nat} {a a' : AS} {k : Nat}
theorem getD_app_l {α : Type} {l l' : List α} {d : α} {i : Nat} (h : i < l.length) : (l ++ l').getD i d = l.getD i d := by
  rw [List.getD_eq_getElem?_getD, List.getElem?_append_left h, ← List.getD_eq_getElem?_getD]
theorem dfs_pre {T : Nat → Int} {e : Nat} {el : Str} : ∀ (l : List Nat) (c m : Nat) (ad : List ADc) (r : Nat × Nat × List ADc), dfs rm a T e el l c m ad = .inr r → ad <+: r.2.2 := by
  intro l
  induction l with
  | nil => intro c m ad r h; cases h; exact List.prefix_refl _
  | cons x l ih =>
    intro c m ad r h
    unfold dfs at h
    split at h
    · cases h
    · rename_i c1 m1 ad1 hd
      refine List.IsPrefix.trans ?_ (ih _ _ _ r h)
      unfold dfa at hd
      split at hd
      · cases hd
      · split at hd
        · cases hd
        · split at hd
          · cases hd
          · split at hd
            · cases hd
              split
              · exact List.prefix_refl _
              · exact List.prefix_append _ _
            · split at hd
              · cases hd
              · split at hd
                · cases hd
                · cases hd
                  split
                  · exact List.prefix_refl _
                  · exact List.prefix_append _ _
theorem nel_tre {nm : Str} {gv al : List Att} {c m : Nat} : (aL (nel a nm gv al k c m)).map e5 = (aL a).map e5 ++ [(nm, par a, (aB a).length, al.length, gv.length)] ∧ aB (nel a nm gv al k c m) = aB a ++ al ∧ aA (nel a nm gv al k c m) = aA a := by
  refine ⟨?_, rfl, ((S0.tchE (a := a) (b := false)).advE (k := k)).2.2.1⟩
  show (aL (tch a false) ++ [(nm, par a, (aB a).length, al.length, gv.length, false, false)]).map e5 = _
  rw [List.map_append, (S0.tchE (a := a) (b := false)).1]
  rfl
/-- what an item does to the tree -/
theorem stp_tre (hs : stp rm nd a = .inr a') : ((aL a').map e5 = (aL a).map e5 ∧ aB a' = aB a ∧ aA a <+: aA a') ∨ ∃ nm gv, (aL a').map e5 = (aL a).map e5 ++ [(nm, par a, (aB a).length, (gv ++ dfl (aA a) nm gv).length, gv.length)] ∧ aB a' = aB a ++ (gv ++ dfl (aA a) nm gv) ∧ aA a' = aA a := by
  rcases stp_shp hs with h1 | h1 | h1 | h1
  · exact Or.inl ⟨h1.1, h1.2.1, by rw [h1.2.2.1]; exact List.prefix_refl _⟩
  · unfold iEld at h1
    split at h1
    · split at h1
      · split at h1
        · cases h1
        · cases h1
          obtain ⟨-, -, -, -, h5, -, h7, h8, -, -⟩ := adv_other (a := sD a (aD a ++ [(sl (gd (cur a)) _ _, cnK (gd (cur a)) (cur a).length _, sl (gd (cur a)) _ _)])) (k := _)
          exact Or.inl ⟨by rw [h7]; rfl, by rw [h8]; rfl, by rw [h5]; exact List.prefix_refl _⟩
      · cases h1
    · cases h1
  · unfold iAtl at h1
    split at h1
    · split at h1
      · split at h1
        · cases h1
        · rename_i c m ad hd
          cases h1
          have hl := dfs_pre _ _ _ _ _ hd
          have hA : ∀ k, aA (adv (sN (sN (sA a ad) 0 c) 1 m) k) = ad := fun k => (adv_other (a := sN (sN (sA a ad) 0 c) 1 m) (k := k)).2.2.2.2.1
          have hB : ∀ k, aB (adv (sN (sN (sA a ad) 0 c) 1 m) k) = aB a := fun k => (adv_other (a := sN (sN (sA a ad) 0 c) 1 m) (k := k)).2.2.2.2.2.2.2.1
          have hL : ∀ k, aL (adv (sN (sN (sA a ad) 0 c) 1 m) k) = aL a := fun k => (adv_other (a := sN (sN (sA a ad) 0 c) 1 m) (k := k)).2.2.2.2.2.2.1
          exact Or.inl ⟨by rw [hL], hB _, by rw [hA]; exact hl⟩
      · cases h1
    · cases h1
  · unfold iTag at h1
    split at h1
    · rename_i k n hk hn
      split at h1
      · cases h1
      · rename_i c m gv hg
        split at h1
        · cases h1
        · cases h1
          refine Or.inr ⟨sl (gd (cur a)) 1 (n - 1), gv, ?_⟩
          split
          · obtain ⟨q1, q2, q3, -⟩ := S0.clsE (S0.refl (a := nel a (sl (gd (cur a)) 1 (n - 1)) gv (gv ++ dfl (aA a) (sl (gd (cur a)) 1 (n - 1)) gv) k c m))
            rw [q1, q2, q3]
            exact nel_tre
          · exact nel_tre
    · cases h1
theorem dfl_mem {ad : List ADc} {el : Str} {gv : List Att} : ∀ x ∈ dfl ad el gv, ∃ d, x.2.2 = some d ∧ d < ad.length ∧ 3 ≤ (ad.getD d adD).2.2.2.1 ∧ x.2.1 = (ad.getD d adD).2.2.2.2.1 := by
  intro x hx
  unfold dfl at hx
  rw [List.mem_filterMap] at hx
  obtain ⟨i, hi, hs⟩ := hx
  split at hs
  · rename_i hc
    cases hs
    exact ⟨i, rfl, List.mem_range.mp hi, hc.2.1, rfl⟩
  · cases hs
theorem GS.stpE (h : GS a) (hs : stp rm nd a = .inr a') : GS a' := by
  obtain ⟨h1, h2⟩ := h
  have hlt : ∀ z ∈ segs (aL a), z.1 < (aB a).length := fun z hz => by
    have q : z.1 ∈ (segs (aL a)).map Prod.fst := List.mem_map.mpr ⟨z, hz, rfl⟩
    rw [h1] at q
    exact List.mem_range.mp q
  rcases stp_tre hs with ⟨e1, e2, t, e3⟩ | ⟨nm, gv, e1, e2, e3⟩
  · have es : segs (aL a') = segs (aL a) := by rw [segs_e5, e1, ← segs_e5]
    unfold GS
    rw [es, e2]
    refine ⟨h1, fun z hz hb => ?_⟩
    obtain ⟨d, q1, q2, q3, q4⟩ := h2 z hz hb
    have eg : (aA a').getD d adD = (aA a).getD d adD := by rw [← e3]; exact getD_app_l q2
    exact ⟨d, q1, by rw [← e3, List.length_append]; omega, by rw [eg]; exact q3, by rw [eg]; exact q4⟩
  · have es : segs (aL a') = segs (aL a) ++ seg5 (nm, par a, (aB a).length, (gv ++ dfl (aA a) nm gv).length, gv.length) := by
      rw [segs_e5, e1, List.flatMap_append, ← segs_e5, List.flatMap_cons, List.flatMap_nil, List.append_nil]
    unfold GS
    rw [es, e2, e3]
    refine ⟨?_, fun z hz hb => ?_⟩
    · have hl : (aB a ++ (gv ++ dfl (aA a) nm gv)).length = (aB a).length + (gv ++ dfl (aA a) nm gv).length := List.length_append
      rw [List.map_append, h1, hl, List.range_add]
      congr 1
      unfold seg5
      rw [List.map_map]
      rfl
    · rcases List.mem_append.mp hz with y | y
      · obtain ⟨d, q1, q2⟩ := h2 z y hb
        have eg : (aB a ++ (gv ++ dfl (aA a) nm gv)).getD z.1 atD = (aB a).getD z.1 atD := getD_app_l (hlt z y)
        rw [eg]
        exact ⟨d, q1, q2⟩
      · unfold seg5 at y
        rw [List.mem_map] at y
        obtain ⟨i, hi, rfl⟩ := y
        have hg : gv.length ≤ i := of_decide_eq_true hb
        have hi' : i < (gv ++ dfl (aA a) nm gv).length := List.mem_range.mp hi
        rw [List.length_append] at hi'
        have hlt2 : i - gv.length < (dfl (aA a) nm gv).length := by omega
        have eg : (aB a ++ (gv ++ dfl (aA a) nm gv)).getD ((aB a).length + i) atD = (dfl (aA a) nm gv)[i - gv.length] := by
          rw [List.getD_eq_getElem?_getD, List.getElem?_append_right (by omega), List.getElem?_append_right (by omega), show (aB a).length + i - (aB a).length - gv.length = i - gv.length by omega, List.getElem?_eq_getElem hlt2]
          rfl
        show ∃ d, ((aB a ++ (gv ++ dfl (aA a) nm gv)).getD ((aB a).length + i) atD).2.2 = some d ∧ _
        rw [eg]
        exact dfl_mem _ (List.getElem_mem hlt2)
theorem GS_a0 {l : List Int} : GS (a0 l) := ⟨rfl, fun z hz => (by cases hz)⟩
theorem jdg_GS {B : Nat → Int} {n : Nat} (hn : n ≤ 65536) (h : jdg rm nd B n = .inr a') : GS a' :=
  jdg_inv GS (fun _ _ _ hV hs => GS.stpE hV hs) (fun l st k => ⟨GS_a0, by
    obtain ⟨e1, e2, e3, -⟩ := S0.advE (a := a0 l) (X := sN (a0 l) 5 st) (k := k) ⟨rfl, rfl, rfl, rfl⟩
    have es : segs (aL (adv (sN (a0 l) 5 st) k)) = [] := by rw [segs_e5, e1]; rfl
    unfold GS
    rw [es, e2]
    exact ⟨rfl, fun z hz => (by cases hz)⟩⟩) hn h
end Gsp
/-! ===== sums: attributes that were given, and those that came by default ===== -/
/-- what words of a value come to, for the count k -/
def wrt (seen : List Str) (k ty : Nat) (v : Str) : Nat := if (2 ≤ ty ∧ ty ≤ 5) ∧ kw ty = k then pct (cfw seen ty) [] v else 0
def wrd (ad : List ADc) (at_ : List Att) (seen : List Str) (k a : Nat) : Nat := match (at_.getD a atD).2.2 with
  | none => 0
  | some d => wrt seen k (ad.getD d adD).2.2.1 (at_.getD a atD).2.1
def wrv (ad : List ADc) (seen : List Str) (k d : Nat) : Nat := wrt seen k (ad.getD d adD).2.2.1 (ad.getD d adD).2.2.2.2.1
/-- a sum over those that were given -/
def gsm (f : Nat → Nat) (l : List (Nat × Bool)) : Nat := ((l.filter (fun z => !z.2)).map (fun z => f z.1)).sum
abbrev sn (f : Nat → Nat) (n : Nat) : Nat := sm (fun _ => true) f n
section Gsm
variable {f : Nat → Nat}
theorem gsm_app {l l' : List (Nat × Bool)} : gsm f (l ++ l') = gsm f l + gsm f l' := by
  unfold gsm
  rw [List.filter_append, List.map_append, List.sum_append]
theorem gsm_f {x : Nat} : gsm f [(x, false)] = f x := by unfold gsm; simp
theorem gsm_t {x : Nat} : gsm f [(x, true)] = 0 := by unfold gsm; simp
theorem gsm_c {z : Nat × Bool} {l : List (Nat × Bool)} : gsm f (z :: l) = (if z.2 = true then 0 else f z.1) + gsm f l := by
  rw [← List.singleton_append, gsm_app]
  obtain ⟨x, b⟩ := z
  cases b with
  | true => rw [gsm_t]; rfl
  | false => rw [gsm_f]; rfl
theorem gsm_pre {l l' : List (Nat × Bool)} (h : l <+: l') : gsm f l ≤ gsm f l' := by
  obtain ⟨t, rfl⟩ := h
  rw [gsm_app]
  omega
theorem segs_pre {el : List Elm} {e : Nat} : segs (el.take e) <+: segs el := ⟨segs (el.drop e), by unfold segs; rw [← List.flatMap_append, List.take_append_drop]⟩
theorem gsm_seg {x : Elm} : ∀ i, x.2.2.2.2.1 ≤ i → i ≤ x.2.2.2.1 → gsm f ((seg x).take i) = gsm f ((seg x).take x.2.2.2.2.1) := by
  intro i
  induction i with
  | zero => intro h1 _; rw [show x.2.2.2.2.1 = 0 by omega]
  | succ i ih =>
    intro h1 h2
    by_cases c : x.2.2.2.2.1 = i + 1
    · rw [c]
    · rw [seg_take (by omega), gsm_app, decide_eq_true (show x.2.2.2.2.1 ≤ i by omega), gsm_t, Nat.add_zero]
      exact ih (by omega) (by omega)
theorem sn_s {n : Nat} : sn f (n + 1) = sn f n + f n := rfl
theorem sn_mono {n m : Nat} (h : n ≤ m) : sn f n ≤ sn f m := by
  induction m with
  | zero => rw [show n = 0 by omega]; exact Nat.le_refl _
  | succ m ih =>
    by_cases c : n = m + 1
    · rw [c]; exact Nat.le_refl _
    · rw [sn_s]
      exact Nat.le_trans (ih (by omega)) (Nat.le_add_right _ _)
theorem sn_range : ∀ n, ((List.range n).map f).sum = sn f n := by
  intro n
  induction n with
  | zero => rfl
  | succ n ih =>
    rw [List.range_succ, List.map_append, List.sum_append, ih, sn_s]
    simp
theorem sn_ext {g : Nat → Nat} : ∀ {n : Nat}, (∀ d, d < n → f d = g d) → sn f n = sn g n := by
  intro n
  induction n with
  | zero => intro _; rfl
  | succ n ih => intro h; rw [sn_s, sn_s, ih (fun d hd => h d (by omega)), h n (by omega)]
theorem sn_upd {q w : Nat → Nat} {d : Nat} : ∀ {n : Nat}, d < n → sn (fun j => (if j = d then q j + 1 else q j) * w j) n = sn (fun j => q j * w j) n + w d := by
  intro n
  induction n with
  | zero => intro h; omega
  | succ n ih =>
    intro h
    rw [sn_s, sn_s]
    by_cases c : d = n
    · rw [if_pos c.symm, ← c, Nat.succ_mul, sn_ext (g := fun j => q j * w j) (fun j hj => by rw [if_neg (by omega)])]
      omega
    · rw [ih (by omega), if_neg (fun z => c z.symm)]
      omega
theorem sn_le {m : Nat} (hf : ∀ d, f d ≤ m) (n : Nat) : sn f n ≤ m * n := sm_le hf n
/-- given ones and defaults together are all -/
theorem gsm_ids {ad : List ADc} {at_ : List Att} {seen : List Str} {k : Nat} : ∀ (l : List (Nat × Bool)) (q : IDs), (∀ z ∈ l, z.2 = true → ∃ d, (at_.getD z.1 atD).2.2 = some d ∧ d < ad.length ∧ (at_.getD z.1 atD).2.1 = (ad.getD d adD).2.2.2.2.1) → (l.map (fun z => wrd ad at_ seen k z.1)).sum + sn (fun d => q.2.2 d * wrv ad seen k d) ad.length = gsm (wrd ad at_ seen k) l + sn (fun d => (l.foldl (idt ad at_) q).2.2 d * wrv ad seen k d) ad.length := by
  intro l
  induction l with
  | nil => intro q _; rfl
  | cons z l ih =>
    intro q h
    have hi := ih (idt ad at_ q z) (fun y hy => h y (List.mem_cons_of_mem _ hy))
    rw [List.foldl_cons, List.map_cons, List.sum_cons, gsm_c]
    have hS : sn (fun d => (idt ad at_ q z).2.2 d * wrv ad seen k d) ad.length = sn (fun d => q.2.2 d * wrv ad seen k d) ad.length + (if z.2 = true then wrd ad at_ seen k z.1 else 0) := by
      by_cases c : z.2 = true
      · obtain ⟨d, h1, h2, h3⟩ := h z List.mem_cons_self c
        have e1 : (idt ad at_ q z).2.2 = fun j => if j = d then q.2.2 j + 1 else q.2.2 j := by
          unfold idt
          rw [h1]
          funext j
          dsimp only
          by_cases y : j = d
          · rw [if_pos ⟨c, y⟩, if_pos y]
          · rw [if_neg (fun w => y w.2), if_neg y]
        have e2 : wrd ad at_ seen k z.1 = wrv ad seen k d := by
          unfold wrd wrv
          rw [h1, h3]
        rw [e1, if_pos c, e2]
        exact sn_upd h2
      · have e1 : (idt ad at_ q z).2.2 = q.2.2 := by
          unfold idt
          split
          · rfl
          · funext j
            dsimp only
            rw [if_neg (fun w => c w.1)]
        rw [e1, if_neg c, Nat.add_zero]
    rw [hS] at hi
    split <;> rename_i c
    · rw [if_pos c] at hi
      omega
    · rw [if_neg c] at hi
      omega
/-- counts 12 and 21 -/
def cnR (ad : List ADc) (at_ : List Att) (seen : List Str) (k : Nat) : Nat := sn (wrd ad at_ seen k) at_.length
theorem cnR_eq {ad : List ADc} {at_ : List Att} {el : List Elm} {seen : List Str} {k : Nat} (h1 : (segs el).map Prod.fst = List.range at_.length) (h2 : ∀ z ∈ segs el, z.2 = true → ∃ d, (at_.getD z.1 atD).2.2 = some d ∧ d < ad.length ∧ (at_.getD z.1 atD).2.1 = (ad.getD d adD).2.2.2.2.1) : gsm (wrd ad at_ seen k) (segs el) + sn (fun d => (ids ad at_ (segs el)).2.2 d * wrv ad seen k d) ad.length = cnR ad at_ seen k := by
  have h := gsm_ids (seen := seen) (k := k) (segs el) ([], 0, fun _ => 0) h2
  have e0 : sn (fun d => (([], 0, fun _ => 0) : IDs).2.2 d * wrv ad seen k d) ad.length = 0 := by
    rw [sn_ext (g := fun _ => 0) (fun d _ => Nat.zero_mul _)]
    have := sn_le (f := fun _ => 0) (m := 0) (fun _ => Nat.le_refl _) ad.length
    omega
  rw [e0, Nat.add_zero] at h
  unfold ids cnR
  rw [← h, ← sn_range, ← h1, List.map_map]
  rfl
theorem wrt_half {seen : List Str} {k ty m : Nat} {v : Str} (h : v.length ≤ m) : 2 * wrt seen k ty v ≤ m + 1 := by
  unfold wrt
  split
  · have := pct_half (cfw_le (seen := seen) (ty := ty)) v []
    rw [if_pos rfl] at this
    omega
  · omega
theorem cnR_le {ad : List ADc} {at_ : List Att} {seen : List Str} {k m : Nat} (h : ∀ x ∈ at_, x.2.1.length ≤ m) : 2 * cnR ad at_ seen k ≤ (m + 1) * at_.length := by
  have h1 : ∀ a, wrd ad at_ seen k a ≤ (m + 1) / 2 := fun a => by
    unfold wrd
    split
    · omega
    · by_cases c : a < at_.length
      · have := wrt_half (seen := seen) (k := k) (ty := (ad.getD ‹Nat› adD).2.2.1) (h (at_.getD a atD) (by rw [List.getD_eq_getElem?_getD, List.getElem?_eq_getElem c]; exact List.getElem_mem c))
        omega
      · have e : at_.getD a atD = atD := by rw [List.getD_eq_getElem?_getD, List.getElem?_eq_none (by omega)]; rfl
        rename_i d hd
        rw [e] at hd
        cases hd
  have h2 := sn_le h1 at_.length
  unfold cnR
  have h3 : 2 * ((m + 1) / 2 * at_.length) ≤ (m + 1) * at_.length := by
    rw [← Nat.mul_assoc]
    exact Nat.mul_le_mul_right _ (by omega)
  omega
end Gsm
