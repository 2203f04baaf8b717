/-! ===== items at another place of a text ===== -/
section Sh2
variable {T T' : Nat → Int} {e d : Nat}
theorem mvo_bind {o : Option Nat} {f g : Nat → Option Nat} (h : ∀ i, o = some i → f (d + i) = mvo d (g i)) : (mvo d o).bind f = mvo d (o.bind g) := by
  cases o with
  | none => rfl
  | some i => exact h i rfl
theorem sh_wds (h : SHT T T' e d) {l : List Int} (i : Nat) : wd T' (d + e) l (some (d + i)) = mvo d (wd T e l (some i)) := sh_wd h (some i)
theorem sh_spcs (h : SHT T T' e d) (i : Nat) : spc T' (d + e) (some (d + i)) = mvo d (spc T e (some i)) := sh_spc h (some i)
theorem sh_nmgs (h : SHT T T' e d) {b : Bool} (i : Nat) : nmg T' (d + e) b (some (d + i)) = mvo d (nmg T e b (some i)) := sh_nmg h (some i)
theorem sh_vlps (h : SHT T T' e d) (i : Nat) : vlp T' (d + e) (some (d + i)) = mvo d (vlp T e (some i)) := sh_vlp h (some i)
theorem sh_asps (h : SHT T T' e d) (i : Nat) : asp T' (d + e) (some (d + i)) = mvo d (asp T e (some i)) := sh_asp h (some i)
theorem sh_eqs (h : SHT T T' e d) (o : Option Nat) : eqs T' (d + e) (mvo d o) = mvo d (eqs T e o) := by
  unfold eqs
  rw [sh_asp h, sh_wd h, sh_asp h]
theorem sh_eqss (h : SHT T T' e d) (i : Nat) : eqs T' (d + e) (some (d + i)) = mvo d (eqs T e (some i)) := sh_eqs h (some i)
theorem sh_skp (h : SHT T T' e d) {l : List Int} (o : Option Nat) : skp T' (d + e) l (mvo d o) = mvo d (skp T e l o) := by
  cases o with
  | none => rfl
  | some i =>
    show (if mt T' (d + e) (d + i) l = true then some (d + i + l.length) else some (d + i)) = mvo d (if mt T e i l = true then some (i + l.length) else some i)
    rw [sh_mt h, mvo_if, mvo_some, mvo_some, Nat.add_assoc]
theorem sh_cmt (h : SHT T T' e d) (p : Nat) : cmt T' (d + e) (d + p) = mvo d (cmt T e p) := by
  unfold cmt
  rw [show d + p + 4 = d + (p + 4) by omega, sh_sek h]
  exact mvo_bind (fun i _ => sh_wds h i)
theorem sh_etk (h : SHT T T' e d) (p : Nat) : etk T' (d + e) (d + p) = mvo d (etk T e p) := by
  unfold etk
  rw [show d + p + 2 = d + (p + 2) by omega, sh_nmgs h, sh_asp h, sh_wd h]
theorem sh_atk (h : SHT T T' e d) : ∀ (n k : Nat), atk T' (d + e) n (d + k) = mvo d (atk T e n k) := by
  intro n
  induction n with
  | zero => intro k; rfl
  | succ n ih =>
    intro k
    show (match spc T' (d + e) (some (d + k)) with
      | none => some (d + k)
      | some x => match nmg T' (d + e) true (some x) with
        | none => some (d + k)
        | some b => match vlp T' (d + e) (eqs T' (d + e) (some b)) with
          | none => none
          | some j => atk T' (d + e) n j) = mvo d (match spc T e (some k) with
      | none => some k
      | some x => match nmg T e true (some x) with
        | none => some k
        | some b => match vlp T e (eqs T e (some b)) with
          | none => none
          | some j => atk T e n j)
    rw [sh_spcs h]
    cases spc T e (some k) with
    | none => rfl
    | some x =>
      show (match nmg T' (d + e) true (some (d + x)) with
        | none => some (d + k)
        | some b => match vlp T' (d + e) (eqs T' (d + e) (some b)) with
          | none => none
          | some j => atk T' (d + e) n j) = _
      rw [sh_nmgs h]
      dsimp only
      cases nmg T e true (some x) with
      | none => rfl
      | some b =>
        show (match vlp T' (d + e) (eqs T' (d + e) (some (d + b))) with
          | none => none
          | some j => atk T' (d + e) n j) = _
        rw [sh_eqss h, sh_vlp h]
        dsimp only
        cases vlp T e (eqs T e (some b)) with
        | none => rfl
        | some j => exact ih j
theorem sh_tgk (h : SHT T T' e d) (p : Nat) (hp : ∀ n, nmg T e true (some (p + 1)) = some n → n ≤ e) : tgk T' (d + e) (d + p) = mvo d (tgk T e p) := by
  unfold tgk
  rw [show d + p + 1 = d + (p + 1) by omega, sh_nmgs h, mvo_bind (g := atk T e (e + 1)) (fun i hi => ?_), sh_asp h, sh_skp h, sh_wd h]
  rw [sh_atk h, atk_fuel (d + e + 1) (e + 1) i (hp i hi) (by omega) (by omega)]
theorem sh_brk (h : SHT T T' e d) {b : Bool} : ∀ (n k : Nat), brk T' (d + e) b n (d + k) = mvo d (brk T e b n k) := by
  intro n
  induction n with
  | zero => intro k; rfl
  | succ n ih =>
    intro k
    show (match nmg T' (d + e) b (asp T' (d + e) (some (d + k))) with
      | none => none
      | some j => if mt T' (d + e) (sk isSp T' (d + e) j) [124] = true then brk T' (d + e) b n (sk isSp T' (d + e) j + 1) else wd T' (d + e) [41] (some (sk isSp T' (d + e) j))) = mvo d (match nmg T e b (asp T e (some k)) with
      | none => none
      | some j => if mt T e (sk isSp T e j) [124] = true then brk T e b n (sk isSp T e j + 1) else wd T e [41] (some (sk isSp T e j)))
    rw [sh_asps h, sh_nmg h]
    cases nmg T e b (asp T e (some k)) with
    | none => rfl
    | some j =>
      show (if mt T' (d + e) (sk isSp T' (d + e) (d + j)) [124] = true then brk T' (d + e) b n (sk isSp T' (d + e) (d + j) + 1) else wd T' (d + e) [41] (some (sk isSp T' (d + e) (d + j)))) = mvo d (if mt T e (sk isSp T e j) [124] = true then brk T e b n (sk isSp T e j + 1) else wd T e [41] (some (sk isSp T e j)))
      rw [sh_sk h, sh_mt h, show d + sk isSp T e j + 1 = d + (sk isSp T e j + 1) by omega, ih, sh_wds h, mvo_if]
theorem sh_brt (h : SHT T T' e d) {b : Bool} (o : Option Nat) (ho : ∀ i, wd T e [40] o = some i → i ≤ e) : brt T' (d + e) b (mvo d o) = mvo d (brt T e b o) := by
  unfold brt
  rw [sh_wd h]
  refine mvo_bind (fun i hi => ?_)
  rw [sh_brk h, brk_fuel (d + e + 1) (e + 1) i (ho i hi) (by omega) (by omega)]
theorem wd_le1 {o : Option Nat} {c : Int} (hc : c ≠ -1) : ∀ i, wd T e [c] o = some i → i ≤ e := by
  intro i hi
  cases o with
  | none => cases hi
  | some j => have := wd1 hc hi; omega
theorem sh_typ (h : SHT T T' e d) (i : Nat) : typ T' (d + e) (d + i) = mvo d (typ T e i) := by
  unfold typ
  rw [sh_lk h, sh_nmgs h, mvo_if]
  have hb := sh_brt h (b := false) (some i) (wd_le1 (by decide))
  rw [mvo_some] at hb
  rw [hb]
  congr 1
  cases hn : nmg T e true (some i) with
  | none => rfl
  | some n =>
    have hg := nmg_lt hn
    show (match tyn (sl T' (d + i) (d + n - (d + i))) with
      | none => none
      | some t => if t = 8 then brt T' (d + e) true (spc T' (d + e) (some (d + n))) else some (d + n)) = mvo d (match tyn (sl T i (n - i)) with
      | none => none
      | some t => if t = 8 then brt T e true (spc T e (some n)) else some n)
    rw [show d + n - (d + i) = n - i by omega, sh_sl h (by omega), sh_spcs h]
    cases tyn (sl T i (n - i)) with
    | none => rfl
    | some t =>
      dsimp only
      rw [sh_brt h _ (wd_le1 (by decide)), mvo_if, mvo_some]
theorem sh_dfK (h : SHT T T' e d) (i : Nat) : dfK T' (d + e) (d + i) = dfK T e i := by
  unfold dfK
  rw [sh_mt h, sh_mt h, sh_mt h]
theorem sh_dfV (h : SHT T T' e d) (i : Nat) : dfV T' (d + e) (d + i) = mvo d (dfV T e i) := by
  unfold dfV
  rw [sh_dfK h, show d + i + 6 = d + (i + 6) by omega, sh_spcs h, mvo_if, mvo_if, mvo_some, mvo_none]
theorem sh_dft (h : SHT T T' e d) (i : Nat) : dft T' (d + e) (d + i) = mvo d (dft T e i) := by
  unfold dft
  rw [sh_dfK h, sh_dfV h, sh_vlp h, mvo_if, mvo_if, mvo_some, mvo_some, show d + i + 9 = d + (i + 9) by omega, show d + i + 8 = d + (i + 8) by omega]
theorem sh_dfn (h : SHT T T' e d) (x : Nat) : dfn T' (d + e) (d + x) = mvo d (dfn T e x) := by
  unfold dfn
  rw [sh_nmgs h, sh_spc h]
  cases spc T e (nmg T e true (some x)) with
  | none => rfl
  | some y =>
    show (match spc T' (d + e) (typ T' (d + e) (d + y)) with
      | none => none
      | some w => dft T' (d + e) w) = mvo d (match spc T e (typ T e y) with
      | none => none
      | some w => dft T e w)
    rw [sh_typ h, sh_spc h]
    cases spc T e (typ T e y) with
    | none => rfl
    | some w => exact sh_dft h w
theorem sh_adk (h : SHT T T' e d) : ∀ (n k : Nat), adk T' (d + e) n (d + k) = mvo d (adk T e n k) := by
  intro n
  induction n with
  | zero => intro k; rfl
  | succ n ih =>
    intro k
    show (match spc T' (d + e) (some (d + k)) with
      | none => some (d + k)
      | some x => match nmg T' (d + e) true (some x) with
        | none => some (d + k)
        | some _ => match dfn T' (d + e) x with
          | none => none
          | some j => adk T' (d + e) n j) = mvo d (match spc T e (some k) with
      | none => some k
      | some x => match nmg T e true (some x) with
        | none => some k
        | some _ => match dfn T e x with
          | none => none
          | some j => adk T e n j)
    rw [sh_spcs h]
    cases spc T e (some k) with
    | none => rfl
    | some x =>
      show (match nmg T' (d + e) true (some (d + x)) with
        | none => some (d + k)
        | some _ => match dfn T' (d + e) (d + x) with
          | none => none
          | some j => adk T' (d + e) n j) = _
      rw [sh_nmgs h, sh_dfn h]
      dsimp only
      cases nmg T e true (some x) with
      | none => rfl
      | some b =>
        dsimp only
        cases dfn T e x with
        | none => rfl
        | some j => exact ih j
theorem sh_alk (h : SHT T T' e d) (p : Nat) : alk T' (d + e) (d + p) = mvo d (alk T e p) := by
  unfold alk
  rw [show d + p + 9 = d + (p + 9) by omega, sh_spcs h, sh_nmg h, mvo_bind (g := adk T e (e + 1)) (fun i hi => ?_), sh_asp h, sh_wd h]
  rw [sh_adk h, adk_fuel (d + e + 1) (e + 1) i (nmg_le i hi) (by omega) (by omega)]
theorem sh_mxk (h : SHT T T' e d) : ∀ (n : Nat) (b : Bool) (k : Nat), mxk T' (d + e) n b (d + k) = mvo d (mxk T e n b k) := by
  intro n
  induction n with
  | zero => intro b k; rfl
  | succ n ih =>
    intro b k
    show (if mt T' (d + e) (sk isSp T' (d + e) (d + k)) [124] = true then (match nmg T' (d + e) true (asp T' (d + e) (some (sk isSp T' (d + e) (d + k) + 1))) with
      | none => none
      | some j => mxk T' (d + e) n true j) else (match wd T' (d + e) [41] (some (sk isSp T' (d + e) (d + k))) with
      | none => none
      | some z => if mt T' (d + e) z [42] = true then some (z + 1) else if b = true then none else some z)) = mvo d (if mt T e (sk isSp T e k) [124] = true then (match nmg T e true (asp T e (some (sk isSp T e k + 1))) with
      | none => none
      | some j => mxk T e n true j) else (match wd T e [41] (some (sk isSp T e k)) with
      | none => none
      | some z => if mt T e z [42] = true then some (z + 1) else if b = true then none else some z))
    rw [sh_sk h, sh_mt h, show d + sk isSp T e k + 1 = d + (sk isSp T e k + 1) by omega, sh_asps h, sh_nmg h, sh_wds h, mvo_if]
    congr 1
    · cases nmg T e true (asp T e (some (sk isSp T e k + 1))) with
      | none => rfl
      | some j => exact ih true j
    · cases wd T e [41] (some (sk isSp T e k)) with
      | none => rfl
      | some z =>
        show (if mt T' (d + e) (d + z) [42] = true then some (d + z + 1) else if b = true then none else some (d + z)) = mvo d (if mt T e z [42] = true then some (z + 1) else if b = true then none else some z)
        rw [sh_mt h, mvo_if, mvo_if, mvo_some, mvo_some, mvo_none, Nat.add_assoc]
theorem sh_oft (h : SHT T T' e d) (k : Nat) : oft T' (d + e) (d + k) = d + oft T e k := by
  unfold oft
  rw [sh_lk h]
  split <;> omega
theorem sh_mdk (h : SHT T T' e d) : ∀ (N : Nat) (st : List Int) (due : Bool) (k n m : Nat), mdk T' (d + e) N st due (d + k) n m = (mdk T e N st due k n m).map (fun r => (d + r.1, r.2)) := by
  intro N
  induction N with
  | zero => intro st due k n m; rfl
  | succ N ih =>
    intro st due k n m
    cases st with
    | nil => rfl
    | cons s st =>
      show (if due = true then (if lk T' (d + e) (sk isSp T' (d + e) (d + k)) = 40 then mdk T' (d + e) N (0 :: s :: st) true (sk isSp T' (d + e) (d + k) + 1) n (if m < st.length + 2 then st.length + 2 else m) else (match nmg T' (d + e) true (some (sk isSp T' (d + e) (d + k))) with
          | none => none
          | some j => mdk T' (d + e) N (s :: st) false (oft T' (d + e) j) (n + 1) m))
        else if lk T' (d + e) (sk isSp T' (d + e) (d + k)) = 41 then mdk T' (d + e) N st false (oft T' (d + e) (sk isSp T' (d + e) (d + k) + 1)) n m
        else if (lk T' (d + e) (sk isSp T' (d + e) (d + k)) = 124 ∨ lk T' (d + e) (sk isSp T' (d + e) (d + k)) = 44) ∧ (s = 0 ∨ s = lk T' (d + e) (sk isSp T' (d + e) (d + k))) then mdk T' (d + e) N (lk T' (d + e) (sk isSp T' (d + e) (d + k)) :: st) true (sk isSp T' (d + e) (d + k) + 1) n m
        else none) = ((if due = true then (if lk T e (sk isSp T e k) = 40 then mdk T e N (0 :: s :: st) true (sk isSp T e k + 1) n (if m < st.length + 2 then st.length + 2 else m) else (match nmg T e true (some (sk isSp T e k)) with
          | none => none
          | some j => mdk T e N (s :: st) false (oft T e j) (n + 1) m))
        else if lk T e (sk isSp T e k) = 41 then mdk T e N st false (oft T e (sk isSp T e k + 1)) n m
        else if (lk T e (sk isSp T e k) = 124 ∨ lk T e (sk isSp T e k) = 44) ∧ (s = 0 ∨ s = lk T e (sk isSp T e k)) then mdk T e N (lk T e (sk isSp T e k) :: st) true (sk isSp T e k + 1) n m
        else none) : Option (Nat × Nat × Nat)).map (fun r => (d + r.1, r.2))
      rw [sh_sk h, sh_lk h, sh_nmgs h, show d + sk isSp T e k + 1 = d + (sk isSp T e k + 1) by omega, sh_oft h]
      by_cases c1 : due = true
      · rw [if_pos c1, if_pos c1]
        by_cases c2 : lk T e (sk isSp T e k) = 40
        · rw [if_pos c2, if_pos c2, ih]
        · rw [if_neg c2, if_neg c2]
          cases nmg T e true (some (sk isSp T e k)) with
          | none => rfl
          | some j =>
            show mdk T' (d + e) N (s :: st) false (oft T' (d + e) (d + j)) (n + 1) m = _
            rw [sh_oft h, ih]
      · rw [if_neg c1, if_neg c1]
        by_cases c2 : lk T e (sk isSp T e k) = 41
        · rw [if_pos c2, if_pos c2, ih]
        · rw [if_neg c2, if_neg c2]
          by_cases c3 : (lk T e (sk isSp T e k) = 124 ∨ lk T e (sk isSp T e k) = 44) ∧ (s = 0 ∨ s = lk T e (sk isSp T e k))
          · rw [if_pos c3, if_pos c3, ih]
          · rw [if_neg c3, if_neg c3]
            rfl
theorem sh_cnK (h : SHT T T' e d) (c : Nat) : cnK T' (d + e) (d + c) = cnK T e c := by
  unfold cnK
  rw [sh_mt h, sh_mt h, show d + c + 1 = d + (c + 1) by omega, sh_sk h, sh_mt h]
theorem sh_mdl (h : SHT T T' e d) (c : Nat) : mdl T' (d + e) (d + c) = (mdl T e c).map (fun r => (d + r.1, r.2)) := by
  unfold mdl
  rw [sh_mt h]
  by_cases c1 : mt T e c [40] = true
  · rw [if_pos c1, if_pos c1]
    have hc1 : c + 1 ≤ e := wd_bad (l := [40]) ti_1037 (by decide) c1
    rw [show d + c + 1 = d + (c + 1) by omega, sh_mdk h, mdk_fuel (d + e + 2) (e + 2) _ _ _ _ _ hc1 (by omega) (by omega)]
  · rw [if_neg c1, if_neg c1]; rfl
theorem sh_cnt (h : SHT T T' e d) (c : Nat) (hc : c + 1 ≤ e → True) : cnt T' (d + e) (d + c) = mvo d (cnt T e c) := by
  unfold cnt
  rw [sh_cnK h, sh_mt h, sh_mdl h, show d + c + 5 = d + (c + 5) by omega, show d + c + 3 = d + (c + 3) by omega, show d + c + 1 = d + (c + 1) by omega, sh_sk h, show d + sk isSp T e (c + 1) + 7 = d + (sk isSp T e (c + 1) + 7) by omega, sh_mxk h]
  simp only [mvo_if, mvo_some, mvo_none]
  by_cases c2 : cnK T e c = 2
  · by_cases c3 : mt T e c [40] = true
    · have hc1 : c + 1 ≤ e := wd_bad (l := [40]) ti_1037 (by decide) c3
      have c4 : mt T e (sk isSp T e (c + 1)) [35, 80, 67, 68, 65, 84, 65] = true := by
        unfold cnK at c2
        split at c2
        · omega
        · split at c2
          · omega
          · split at c2
            · assumption
            · omega
      have h7 : sk isSp T e (c + 1) + 7 ≤ e := wd_bad (l := [35, 80, 67, 68, 65, 84, 65]) ti_1038 (by decide) c4
      rw [mxk_fuel (d + e + 1) (e + 1) false _ h7 (by omega) (by omega)]
      cases mdl T e c with
      | none => rfl
      | some r => rfl
    · rw [if_neg c3, if_neg c3]
      cases mdl T e c with
      | none => rfl
      | some r => rfl
  · rw [if_neg c2, if_neg c2]
    cases mdl T e c with
    | none => rfl
    | some r => rfl
theorem sh_elc (h : SHT T T' e d) (p : Nat) : elc T' (d + e) (d + p) = mvo d (elc T e p) := by
  unfold elc
  rw [show d + p + 9 = d + (p + 9) by omega, sh_spcs h, sh_nmg h, sh_spc h]
theorem sh_elk (h : SHT T T' e d) (p : Nat) : elk T' (d + e) (d + p) = mvo d (elk T e p) := by
  unfold elk
  rw [sh_elc h, mvo_bind (g := cnt T e) (fun i _ => sh_cnt h i (fun _ => trivial)), sh_asp h, sh_wd h]
theorem sh_outJ (h : SHT T T' e d) {b : Bool} (o : Option Nat) : outJ T' (d + e) b (mvo d o) = mvo d (outJ T e b o) := by
  cases o with
  | none => rfl
  | some p =>
    show (if mt T' (d + e) (d + p) [83, 89, 83, 84, 69, 77] = true then ltl T' (d + e) (spc T' (d + e) (some (d + p + 6))) else match plt T' (d + e) (spc T' (d + e) (wd T' (d + e) [80, 85, 66, 76, 73, 67] (some (d + p)))) with
      | none => none
      | some j => if sk isSp T' (d + e) j ≠ j ∧ isQt (lk T' (d + e) (sk isSp T' (d + e) j)) = true then ltl T' (d + e) (some (sk isSp T' (d + e) j)) else if b = true then some (sk isSp T' (d + e) j) else none) = mvo d (if mt T e p [83, 89, 83, 84, 69, 77] = true then ltl T e (spc T e (some (p + 6))) else match plt T e (spc T e (wd T e [80, 85, 66, 76, 73, 67] (some p))) with
      | none => none
      | some j => if sk isSp T e j ≠ j ∧ isQt (lk T e (sk isSp T e j)) = true then ltl T e (some (sk isSp T e j)) else if b = true then some (sk isSp T e j) else none)
    rw [sh_mt h, show d + p + 6 = d + (p + 6) by omega, sh_spcs h, sh_ltl h, sh_wds h, sh_spc h, sh_plt h, mvo_if]
    congr 1
    cases plt T e (spc T e (wd T e [80, 85, 66, 76, 73, 67] (some p))) with
    | none => rfl
    | some j =>
      have hl := sh_ltl h (some (sk isSp T e j))
      rw [mvo_some] at hl
      show (if sk isSp T' (d + e) (d + j) ≠ d + j ∧ isQt (lk T' (d + e) (sk isSp T' (d + e) (d + j))) = true then ltl T' (d + e) (some (sk isSp T' (d + e) (d + j))) else if b = true then some (sk isSp T' (d + e) (d + j)) else none) = mvo d (if sk isSp T e j ≠ j ∧ isQt (lk T e (sk isSp T e j)) = true then ltl T e (some (sk isSp T e j)) else if b = true then some (sk isSp T e j) else none)
      rw [sh_sk h, sh_lk h, hl, mvo_if, mvo_if, mvo_some, mvo_none]
      have : (d + sk isSp T e j ≠ d + j) ↔ (sk isSp T e j ≠ j) := by omega
      simp only [this]
theorem sh_ntk (h : SHT T T' e d) (p : Nat) : ntk T' (d + e) (d + p) = mvo d (ntk T e p) := by
  unfold ntk
  rw [show d + p + 10 = d + (p + 10) by omega, sh_spcs h, sh_nmg h, sh_spc h, sh_outJ h, sh_asp h, sh_wd h]
theorem sh_enP (h : SHT T T' e d) (p : Nat) : enP T' (d + e) (d + p) = enP T e p := by
  unfold enP
  rw [show d + p + 8 = d + (p + 8) by omega, sh_spcs h]
  cases spc T e (some (p + 8)) with
  | none => rfl
  | some s => exact sh_mt h _ s
theorem sh_enF (h : SHT T T' e d) (p : Nat) : enF T' (d + e) (d + p) = mvo d (enF T e p) := by
  unfold enF
  rw [show d + p + 8 = d + (p + 8) by omega, sh_spcs h]
  cases spc T e (some (p + 8)) with
  | none => rfl
  | some s =>
    show (if mt T' (d + e) (d + s) [37] = true then spc T' (d + e) (some (d + s + 1)) else some (d + s)) = mvo d (if mt T e s [37] = true then spc T e (some (s + 1)) else some s)
    rw [sh_mt h, show d + s + 1 = d + (s + 1) by omega, sh_spcs h, mvo_if, mvo_some]
theorem sh_enT (h : SHT T T' e d) (p : Nat) : enT T' (d + e) (d + p) = mvo d (enT T e p) := by
  unfold enT
  rw [sh_enF h, sh_nmg h, sh_spc h]
theorem sh_enB (h : SHT T T' e d) (p : Nat) : enB T' (d + e) (d + p) = mvo d (enB T e p) := by
  unfold enB
  rw [sh_enT h]
  cases enT T e p with
  | none => rfl
  | some t =>
    have h1 := sh_etx h (some t)
    have h2 := sh_outs h (some t)
    rw [mvo_some] at h1 h2
    show (if isQt (lk T' (d + e) (d + t)) = true then etx T' (d + e) (some (d + t)) else match outs T' (d + e) (some (d + t)) with
      | none => none
      | some w => if enP T' (d + e) (d + p) = false ∧ sk isSp T' (d + e) w ≠ w ∧ mt T' (d + e) (sk isSp T' (d + e) w) [78, 68, 65, 84, 65] = true then nmg T' (d + e) true (spc T' (d + e) (some (sk isSp T' (d + e) w + 5))) else some w) = mvo d (if isQt (lk T e t) = true then etx T e (some t) else match outs T e (some t) with
      | none => none
      | some w => if enP T e p = false ∧ sk isSp T e w ≠ w ∧ mt T e (sk isSp T e w) [78, 68, 65, 84, 65] = true then nmg T e true (spc T e (some (sk isSp T e w + 5))) else some w)
    rw [sh_lk h, h1, h2, mvo_if]
    congr 1
    cases outs T e (some t) with
    | none => rfl
    | some w =>
      show (if enP T' (d + e) (d + p) = false ∧ sk isSp T' (d + e) (d + w) ≠ d + w ∧ mt T' (d + e) (sk isSp T' (d + e) (d + w)) [78, 68, 65, 84, 65] = true then nmg T' (d + e) true (spc T' (d + e) (some (sk isSp T' (d + e) (d + w) + 5))) else some (d + w)) = mvo d (if enP T e p = false ∧ sk isSp T e w ≠ w ∧ mt T e (sk isSp T e w) [78, 68, 65, 84, 65] = true then nmg T e true (spc T e (some (sk isSp T e w + 5))) else some w)
      rw [sh_sk h, sh_mt h, sh_enP h, show d + sk isSp T e w + 5 = d + (sk isSp T e w + 5) by omega, sh_spcs h, sh_nmg h, mvo_if, mvo_some]
      have : (d + sk isSp T e w ≠ d + w) ↔ (sk isSp T e w ≠ w) := by omega
      simp only [this]
theorem sh_enk (h : SHT T T' e d) (p : Nat) : enk T' (d + e) (d + p) = mvo d (enk T e p) := by
  unfold enk
  rw [sh_enB h, sh_asp h, sh_wd h]
theorem sh_dtn (h : SHT T T' e d) (p : Nat) : dtn T' (d + e) (d + p) = mvo d (dtn T e p) := by
  unfold dtn
  rw [show d + p + 9 = d + (p + 9) by omega, sh_spcs h, sh_nmg h]
theorem sh_dtO (h : SHT T T' e d) (n : Nat) : dtO T' (d + e) (d + n) = dtO T e n := by
  unfold dtO
  rw [sh_sk h, sh_mt h, sh_mt h]
  have : (d + sk isSp T e n == d + n) = (sk isSp T e n == n) := by
    rw [Bool.eq_iff_iff]
    simp
  rw [this]
theorem sh_dtE (h : SHT T T' e d) (n : Nat) : dtE T' (d + e) (d + n) = mvo d (dtE T e n) := by
  unfold dtE
  have h2 := sh_outs h (some (sk isSp T e n))
  rw [mvo_some] at h2
  rw [sh_dtO h, sh_sk h, h2, mvo_if, mvo_some]
  congr 1
  cases outs T e (some (sk isSp T e n)) with
  | none => rfl
  | some w =>
    show some (sk isSp T' (d + e) (d + w)) = some (d + sk isSp T e w)
    rw [sh_sk h]
theorem sh_dtb (h : SHT T T' e d) (k : Nat) : dtb T' (d + e) (d + k) = mvo d (dtb T e k) := by
  unfold dtb
  rw [sh_mt h, sh_wds h, mvo_if, mvo_some, Nat.add_assoc]
theorem sh_dtk (h : SHT T T' e d) (p : Nat) : dtk T' (d + e) (d + p) = mvo d (dtk T e p) := by
  unfold dtk
  rw [sh_dtn h, mvo_bind (g := dtE T e) (fun i _ => sh_dtE h i), mvo_bind (g := dtb T e) (fun i _ => sh_dtb h i)]
end Sh2
