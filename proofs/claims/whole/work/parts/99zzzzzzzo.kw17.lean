/-! ===== violations, item by item (pure) ===== -/
/-- counts 2, 3 and 4 -/
def ct3 (ed : List EDc) (k i : Nat) : Nat := if k = 6 then 0 else ctE ed [] k i
/-- what an element that has ended violates -/
def clq (ed : List EDc) (el : List Elm) (k e : Nat) : Nat := match edf ed (el.getD e elD).1 with
  | none => if k = 5 then 1 else 0
  | some i => if k = 6 ∧ fit ed el (ed.getD i ([], 0, [])) e = false then 1 else 0
def clS (ed : List EDc) (el : List Elm) (os : List Nat) (k : Nat) : Nat := sm (fun e => !(os.contains e)) (clq ed el k) el.length
/-- all that was violated so far -/
def vv (a : AS) (k : Nat) : Nat := sn (ct3 (aD a) k) (aD a).length + dAs (aA a) k + (if k = 20 then ndu (aT a) else 0) + cnT (aA a) (aB a) (aL a) k + clS (aD a) (aL a) (aO a) k
section KwH
variable {rm nd : Nat} {a a' : AS} {ed : List EDc} {el el' : List Elm} {ad : List ADc} {at_ : List Att} {k : Nat}
theorem sm_ext2 {P P' : Nat → Bool} {f f' : Nat → Nat} : ∀ {n : Nat}, (∀ d, d < n → P' d = P d ∧ (P d = true → f' d = f d)) → sm P' f' n = sm P f n := by
  intro n
  induction n with
  | zero => intro _; rfl
  | succ n ih =>
    intro h
    rw [sm_s, sm_s, ih (fun d hd => h d (by omega)), (h n (by omega)).1]
    by_cases c : P n = true
    · rw [if_pos c, if_pos c, (h n (by omega)).2 c]
    · rw [if_neg c, if_neg c]
theorem chd_e5 (h : el'.map e5 = el.map e5) {e : Nat} : chd el' e = chd el e := by
  have key : ∀ l : List Elm, chd l e = ((l.map e5).filter (fun x => x.2.1 == (e : Int))).map (fun x => x.1) := by
    intro l
    unfold chd
    induction l with
    | nil => rfl
    | cons x r ih =>
      rw [List.map_cons, List.filter_cons, List.filter_cons]
      have e1 : (e5 x).2.1 = x.2.1 := rfl
      rw [e1]
      split
      · rw [List.map_cons, List.map_cons, ih]; rfl
      · exact ih
  rw [key, key, h]
theorem par_e5 (h : el'.map e5 = el.map e5) (hp : ∀ y ∈ el, -1 ≤ y.2.1) : ∀ y ∈ el', -1 ≤ y.2.1 := by
  intro y hy
  have h1 : e5 y ∈ el'.map e5 := List.mem_map.mpr ⟨y, hy, rfl⟩
  rw [h] at h1
  obtain ⟨x, h2, h3⟩ := List.mem_map.mp h1
  have e1 : (e5 x).2.1 = (e5 y).2.1 := by rw [h3]
  have e2 : x.2.1 = y.2.1 := e1
  rw [← e2]
  exact hp x h2
theorem clq_eq (hp : ∀ y ∈ el, -1 ≤ y.2.1) (hp' : ∀ y ∈ el', -1 ≤ y.2.1) {e : Nat} (hg : el'.getD e elD = el.getD e elD) (hc : chd el' e = chd el e) : clq ed el' k e = clq ed el k e := by
  unfold clq
  rw [hg]
  cases edf ed (el.getD e elD).1 with
  | none => rfl
  | some i =>
    dsimp only
    rw [fit_c hp, fit_c hp', hg, hc]
theorem clS_flg {os : List Nat} (hp : ∀ y ∈ el, -1 ≤ y.2.1) (h : el'.map e5 = el.map e5) (hg : ∀ e, e ∉ os → el'.getD e elD = el.getD e elD) : clS ed el' os k = clS ed el os k := by
  unfold clS
  have hl : el'.length = el.length := by have := congrArg List.length h; rw [List.length_map, List.length_map] at this; exact this
  rw [hl]
  refine sm_ext2 (fun d hd => ⟨rfl, fun hP => clq_eq hp (par_e5 h hp) (hg d ?_) (chd_e5 h)⟩)
  intro z
  have : os.contains d = true := List.contains_iff_mem.mpr z
  rw [this] at hP
  cases hP
theorem e5_getD (h : el'.map e5 = el.map e5) {i : Nat} : e5 (el'.getD i elD) = e5 (el.getD i elD) := by
  have key : ∀ l : List Elm, e5 (l.getD i elD) = ((l.map e5).getD i (e5 elD)) := by
    intro l
    rw [List.getD_eq_getElem?_getD, List.getD_eq_getElem?_getD, List.getElem?_map]
    cases l[i]? <;> rfl
  rw [key, key, h]
theorem ce9_e5 {x y : Elm} (h : e5 x = e5 y) : ce9 ad at_ x = ce9 ad at_ y := by
  have h1 : (e5 x).1 = (e5 y).1 := by rw [h]
  have h2 : (e5 x).2.2.1 = (e5 y).2.2.1 := by rw [h]
  have h3 : (e5 x).2.2.2.2 = (e5 y).2.2.2.2 := by rw [h]
  have h1 : x.1 = y.1 := h1
  have h2 : x.2.2.1 = y.2.2.1 := h2
  have h3 : x.2.2.2.2.1 = y.2.2.2.2.1 := h3
  unfold ce9 wnt gnm
  rw [h1, h2, h3]
theorem cnT_e5 (h : el'.map e5 = el.map e5) : cnT ad at_ el' k = cnT ad at_ el k := by
  unfold cnT
  have h1 : segs el' = segs el := by rw [segs_e5, segs_e5, h]
  have h2 : el'.map (ce9 ad at_) = el.map (ce9 ad at_) := by
    have hl : el'.length = el.length := by have := congrArg List.length h; rw [List.length_map, List.length_map] at this; exact this
    refine List.ext_getElem (by rw [List.length_map, List.length_map, hl]) (fun i h1 h2 => ?_)
    rw [List.length_map] at h1 h2
    rw [List.getElem_map, List.getElem_map]
    refine ce9_e5 ?_
    have := e5_getD (i := i) h
    rw [List.getD_eq_getElem?_getD, List.getD_eq_getElem?_getD, List.getElem?_eq_getElem h1, List.getElem?_eq_getElem h2] at this
    exact this
  rw [h1, h2]
/-- an item that leaves declarations, tree and what is open -/
theorem vv_flg (hp : ∀ y ∈ aL a, -1 ≤ y.2.1) (h1 : aD a' = aD a) (h2 : aA a' = aA a) (h3 : aT a' = aT a) (h4 : aB a' = aB a) (h5 : aO a' = aO a) (h6 : (aL a').map e5 = (aL a).map e5) (h7 : ∀ e, e ∉ aO a → (aL a').getD e elD = (aL a).getD e elD) : vv a' k = vv a k := by
  unfold vv
  rw [h1, h2, h3, h4, h5, cnT_e5 h6, clS_flg hp h6 h7]
/-- while no element has begun -/
theorem vv_none (h : aL a = []) : vv a k = sn (ct3 (aD a) k) (aD a).length + dAs (aA a) k + (if k = 20 then ndu (aT a) else 0) := by
  unfold vv
  have e1 : cnT (aA a) (aB a) [] k = 0 := by
    unfold cnT
    have : gsm (tga (aA a) (aB a) k) (segs []) = 0 := rfl
    rw [this]
    split <;> rfl
  have e2 : clS (aD a) [] (aO a) k = 0 := rfl
  rw [h, e1, e2]
  rfl
theorem sn_ct3 {x : EDc} : sn (ct3 (ed ++ [x]) k) (ed ++ [x]).length = sn (ct3 ed k) ed.length + dvX ed x k := by
  rw [List.length_append, List.length_singleton, sn_s]
  have hg : ∀ i, i < ed.length → (ed ++ [x]).getD i ([], 0, []) = ed.getD i ([], 0, []) := fun i hi => by
    rw [List.getD_eq_getElem?_getD, List.getElem?_append_left hi, List.getD_eq_getElem?_getD]
  have hgl : (ed ++ [x]).getD ed.length ([], 0, []) = x := by
    rw [List.getD_eq_getElem?_getD, List.getElem?_append_right (Nat.le_refl _), Nat.sub_self]; rfl
  have e1 : sn (ct3 (ed ++ [x]) k) ed.length = sn (ct3 ed k) ed.length := by
    refine sn_ext (fun d hd => ?_)
    unfold ct3 ctE
    rw [hg d hd]
    have h2 : (edf (ed ++ [x]) (ed.getD d ([], 0, [])).1 = some d) ↔ (edf ed (ed.getD d ([], 0, [])).1 = some d) := by
      have hm : (edf ed (ed.getD d ([], 0, [])).1).isSome = true := edf_mem.mpr (List.mem_map.mpr ⟨_, getD_mem hd, rfl⟩)
      rw [edf_snoc, if_pos hm]
    split
    · rfl
    · split
      · by_cases c : edf ed (ed.getD d ([], 0, [])).1 = some d
        · rw [if_pos c, if_pos (h2.mpr c)]
        · rw [if_neg c, if_neg (fun z => c (h2.mp z))]
      · split
        · rfl
        · split
          · rfl
          · rfl
  rw [e1]
  congr 1
  unfold ct3 ctE dvX
  rw [hgl]
  by_cases k6 : k = 6
  · subst k6; rfl
  · rw [if_neg k6]
    by_cases k2 : k = 2
    · rw [if_pos k2, if_pos k2, edf_snoc]
      by_cases c : (edf ed x.1).isSome = true
      · rw [if_pos c, if_pos c, if_neg]
        intro z
        have := edf_lt z
        omega
      · rw [if_neg c, if_neg c, if_pos rfl, if_pos rfl]
    · rw [if_neg k2, if_neg k2]
      by_cases k3 : k = 3
      · rw [if_pos k3, if_pos k3]
      · rw [if_neg k3, if_neg k3]
        by_cases k4 : k = 4
        · rw [if_pos k4, if_pos k4]
        · rw [if_neg k4, if_neg k4, if_neg k6]
/-- an element ends -/
theorem clS_end {e : Nat} {r : List Nat} (he : e < el.length) (hr : e ∉ r) : clS ed el r k = clS ed el (e :: r) k + clq ed el k e := by
  unfold clS
  refine sm_add he ?_ ?_ (fun d hd hne => ?_)
  · have : (e :: r).contains e = true := List.contains_iff_mem.mpr List.mem_cons_self
    rw [this]; rfl
  · have : r.contains e = false := by
      cases hz : r.contains e with
      | false => rfl
      | true => exact absurd (List.contains_iff_mem.mp hz) hr
    rw [this]; rfl
  · have : (e :: r).contains d = r.contains d := by
      cases hz : r.contains d with
      | true => exact List.contains_iff_mem.mpr (List.mem_cons_of_mem _ (List.contains_iff_mem.mp hz))
      | false =>
        cases hw : (e :: r).contains d with
        | false => rfl
        | true =>
          rcases List.mem_cons.mp (List.contains_iff_mem.mp hw) with y | y
          · exact absurd y hne
          · rw [List.contains_iff_mem.mpr y] at hz; cases hz
    rw [this]
/-- a new element that is open -/
theorem clS_new {os : List Nat} {x : Elm} (hp : ∀ y ∈ el, -1 ≤ y.2.1) (hx : -1 ≤ x.2.1) (hpar : ∀ e : Nat, x.2.1 = (e : Int) → e ∈ os) : clS ed (el ++ [x]) (el.length :: os) k = clS ed el os k ∧ clS ed (el ++ [x]) os k = clS ed el os k + (if os.contains el.length = true then 0 else clq ed (el ++ [x]) k el.length) := by
  have hp' : ∀ y ∈ el ++ [x], -1 ≤ y.2.1 := by
    intro y hy
    rcases List.mem_append.mp hy with z | z
    · exact hp y z
    · rw [List.mem_singleton.mp z]; exact hx
  have hq : ∀ d, d < el.length → os.contains d = false → clq ed (el ++ [x]) k d = clq ed el k d := by
    intro d hd hn
    refine clq_eq hp hp' ?_ ?_
    · rw [List.getD_eq_getElem?_getD, List.getElem?_append_left hd, List.getD_eq_getElem?_getD]
    · unfold chd
      rw [List.filter_append, List.map_append]
      have : ([x].filter (fun y => y.2.1 == (d : Int))) = [] := by
        rw [List.filter_cons]
        split
        · rename_i h
          rw [beq_iff_eq] at h
          have := hpar d h
          rw [List.contains_iff_mem.mpr this] at hn
          cases hn
        · rfl
      rw [this]
      exact List.append_nil _
  constructor
  · unfold clS
    rw [List.length_append, List.length_singleton, sm_s]
    have h1 : (el.length :: os).contains el.length = true := List.contains_iff_mem.mpr List.mem_cons_self
    rw [h1, if_neg (by decide), Nat.add_zero]
    refine sm_ext2 (fun d hd => ?_)
    have h2 : (el.length :: os).contains d = os.contains d := by
      cases hz : os.contains d with
      | true => exact List.contains_iff_mem.mpr (List.mem_cons_of_mem _ (List.contains_iff_mem.mp hz))
      | false =>
        cases hw : (el.length :: os).contains d with
        | false => rfl
        | true =>
          rcases List.mem_cons.mp (List.contains_iff_mem.mp hw) with y | y
          · omega
          · rw [List.contains_iff_mem.mpr y] at hz; cases hz
    refine ⟨by rw [h2], fun z => hq d hd ?_⟩
    cases hz : os.contains d with
    | false => rfl
    | true => rw [hz] at z; cases z
  · unfold clS
    rw [List.length_append, List.length_singleton, sm_s]
    congr 1
    · refine sm_ext2 (fun d hd => ⟨rfl, fun z => hq d hd ?_⟩)
      cases hz : os.contains d with
      | false => rfl
      | true => rw [hz] at z; cases z
    · cases os.contains el.length <;> rfl
/-- a tag's attributes -/
theorem rqN_ce9 {x : Elm} {gv : List Att} (hg : gnm at_ x x.2.2.2.2.1 = gv.map (fun z => z.1)) : ce9 ad at_ x = rqN ad x.1 gv ad.length := by
  unfold ce9
  have key : ∀ n, sm (fun d => (ad.getD d adD).1 == x.1) (wnt ad at_ x) n = rqN ad x.1 gv n := by
    intro n
    induction n with
    | zero => rfl
    | succ n ih =>
      rw [sm_s, rqN_s, ih]
      congr 1
      unfold wnt
      rw [hg]
      by_cases c : (ad.getD n adD).1 = x.1
      · rw [if_pos (by rw [c]; exact beq_self_eq_true _)]
        by_cases c2 : (ad.getD n adD).2.2.2.1 = 1 ∧ ¬ (ad.getD n adD).2.1 ∈ gv.map (fun z => z.1)
        · rw [if_pos c2, if_pos ⟨c, c2⟩]
        · rw [if_neg c2, if_neg (fun z => c2 z.2)]
      · rw [if_neg (by intro z; exact c (beq_iff_eq.mp z)), if_neg (fun z => c z.1)]
  exact key _
theorem gsm_ext {f g : Nat → Nat} : ∀ {l : List (Nat × Bool)}, (∀ z ∈ l, f z.1 = g z.1) → gsm f l = gsm g l
  | [], _ => rfl
  | z :: l, h => by rw [gsm_c, gsm_c, gsm_ext (fun y hy => h y (List.mem_cons_of_mem _ hy)), h z List.mem_cons_self]
theorem gsm_seg2 {f : Nat → Nat} {b n m : Nat} (hm : m ≤ n) : gsm f ((List.range n).map (fun i => (b + i, decide (m ≤ i)))) = ((List.range m).map (fun i => f (b + i))).sum := by
  induction n with
  | zero =>
    have : m = 0 := by omega
    rw [this]; rfl
  | succ n ih =>
    rw [List.range_succ, List.map_append, gsm_app]
    by_cases c : m ≤ n
    · rw [ih c]
      have : gsm f ([n].map (fun i => (b + i, decide (m ≤ i)))) = 0 := by
        show gsm f [(b + n, decide (m ≤ n))] = 0
        rw [decide_eq_true c]; exact gsm_t
      rw [this]; rfl
    · have hmn : m = n + 1 := by omega
      subst hmn
      have h1 : gsm f ((List.range n).map (fun i => (b + i, decide (n + 1 ≤ i)))) = ((List.range n).map (fun i => f (b + i))).sum := by
        have : ∀ j, j ≤ n → gsm f ((List.range j).map (fun i => (b + i, decide (n + 1 ≤ i)))) = ((List.range j).map (fun i => f (b + i))).sum := by
          intro j
          induction j with
          | zero => intro _; rfl
          | succ j ihj =>
            intro hj
            rw [List.range_succ, List.map_append, gsm_app, ihj (by omega), List.map_append, List.sum_append]
            congr 1
            show gsm f [(b + j, decide (n + 1 ≤ j))] = _
            rw [decide_eq_false (by omega), gsm_f]
            rfl
        exact this n (Nat.le_refl _)
      rw [h1, List.range_succ, List.map_append, List.sum_append]
      congr 1
      show gsm f [(b + n, decide (n + 1 ≤ n))] = _
      rw [decide_eq_false (by omega), gsm_f]
      rfl
theorem cnT_tag {nm : Str} {p : Int} {gv al : List Att} {x y : Bool} (hs : (segs el).map Prod.fst = List.range at_.length) (hc : ∀ z ∈ el, z.2.2.1 + z.2.2.2.1 ≤ at_.length ∧ z.2.2.2.2.1 ≤ z.2.2.2.1) : cnT ad (at_ ++ (gv ++ al)) (el ++ [(nm, p, at_.length, (gv ++ al).length, gv.length, x, y)]) k = cnT ad at_ el k + (tgs ad gv k + if k = 9 then rqN ad nm gv ad.length else 0) := by
  unfold cnT
  have hgo : ∀ i, i < at_.length → (at_ ++ (gv ++ al)).getD i atD = at_.getD i atD := fun i hi => by
    rw [List.getD_eq_getElem?_getD, List.getElem?_append_left hi, List.getD_eq_getElem?_getD]
  have hgn : ∀ i, i < gv.length → (at_ ++ (gv ++ al)).getD (at_.length + i) atD = gv.getD i atD := fun i hi => by
    rw [List.getD_eq_getElem?_getD, List.getElem?_append_right (by omega), show at_.length + i - at_.length = i by omega, List.getElem?_append_left hi, List.getD_eq_getElem?_getD]
  have e1 : segs (el ++ [(nm, p, at_.length, (gv ++ al).length, gv.length, x, y)]) = segs el ++ seg (nm, p, at_.length, (gv ++ al).length, gv.length, x, y) := by
    unfold segs
    rw [List.flatMap_append]
    show _ ++ (seg _ ++ []) = _
    rw [List.append_nil]
  have e2 : gsm (tga ad (at_ ++ (gv ++ al)) k) (segs el) = gsm (tga ad at_ k) (segs el) := by
    refine gsm_ext (fun z hz => ?_)
    have : z.1 ∈ List.range at_.length := by rw [← hs]; exact List.mem_map.mpr ⟨z, hz, rfl⟩
    rw [List.mem_range] at this
    unfold tga
    rw [hgo z.1 this]
  have e3 : gsm (tga ad (at_ ++ (gv ++ al)) k) (seg (nm, p, at_.length, (gv ++ al).length, gv.length, x, y)) = tgs ad gv k := by
    unfold seg
    dsimp only
    rw [gsm_seg2 (by rw [List.length_append]; omega)]
    have : ((List.range gv.length).map (fun i => tga ad (at_ ++ (gv ++ al)) k (at_.length + i))) = gv.map (fun z => tgz ad z k) := by
      refine List.ext_getElem (by rw [List.length_map, List.length_map, List.length_range]) (fun i h1 h2 => ?_)
      rw [List.length_map, List.length_range] at h1
      rw [List.getElem_map, List.getElem_map, List.getElem_range]
      unfold tga tgz
      rw [hgn i h1, List.getD_eq_getElem?_getD, List.getElem?_eq_getElem h1]
      rfl
    rw [this]
    rfl
  rw [e1, gsm_app, e2, e3]
  by_cases k9 : k = 9
  · rw [if_pos k9, if_pos k9, if_pos k9, List.map_append, List.sum_append]
    have e4 : el.map (ce9 ad (at_ ++ (gv ++ al))) = el.map (ce9 ad at_) := by
      refine List.map_congr_left (fun z hz => ?_)
      have hz' := hc z hz
      unfold ce9 wnt gnm
      have : (List.range z.2.2.2.2.1).map (fun j => ((at_ ++ (gv ++ al)).getD (z.2.2.1 + j) atD).1) = (List.range z.2.2.2.2.1).map (fun j => (at_.getD (z.2.2.1 + j) atD).1) := by
        refine List.map_congr_left (fun j hj => ?_)
        rw [List.mem_range] at hj
        rw [hgo (z.2.2.1 + j) (by omega)]
      rw [this]
    have e5 : ce9 ad (at_ ++ (gv ++ al)) (nm, p, at_.length, (gv ++ al).length, gv.length, x, y) = rqN ad nm gv ad.length := by
      refine rqN_ce9 ?_
      unfold gnm
      dsimp only
      refine List.ext_getElem (by rw [List.length_map, List.length_map, List.length_range]) (fun i h1 h2 => ?_)
      rw [List.length_map, List.length_range] at h1
      rw [List.getElem_map, List.getElem_map, List.getElem_range, hgn i h1, List.getD_eq_getElem?_getD, List.getElem?_eq_getElem h1]
      rfl
    rw [e4]
    show _ + (_ + ([ce9 ad _ _].sum)) = _
    rw [List.sum_cons, List.sum_nil, e5]
    omega
  · rw [if_neg k9, if_neg k9, if_neg k9]
    omega
end KwH
