/-! ===== the reference reads the head of a text ===== -/
/-- behind the word that says whether it stands alone -/
def wHx (L : Nat → Nat) (Q : IS → Prop) (s42 : Int × Int × Int) (s50 : Int × Int) (σ51 : IS) : Prop := w_KReader_anySpaces L s50.1 (fun v53 σ52 => w_KReader_word L v53 1114 (fun v55 σ54 => w_KReader_written L v55 (fun v57 σ56 => if v57 = 0 then Q σ56 else WJ (fun (s61 : Unit) (σ62 : IS) => is01 s50.2 ∧ Q (pf (pf σ62 16 21 s50.2) 16 16 v55)) (fun J59 => if 0 < s42.2.2 then w_KReader_isNamed L s42.2.1 s42.2.2 (if (σ56.1 16 8) = 0 then 1116 else 1115) (fun v66 σ65 => if v66 = 0 then w_KReader_fail L 2 (fun v69 σ68 => Q σ68) σ65 else J59 () σ65) σ56 else J59 () σ56)) σ54) σ52) σ51
/-- behind the encoding -/
def wHs (L : Nat → Nat) (Q : IS → Prop) (s42 : Int × Int × Int) (σ43 : IS) : Prop := w_KReader_spaces L s42.1 (fun v45 σ44 => w_KReader_word L v45 1111 (fun v47 σ46 => WJ (fun (s50 : Int × Int) (σ51 : IS) => w_KReader_anySpaces L s50.1 (fun v53 σ52 => w_KReader_word L v53 1114 (fun v55 σ54 => w_KReader_written L v55 (fun v57 σ56 => if v57 = 0 then Q σ56 else WJ (fun (s61 : Unit) (σ62 : IS) => is01 s50.2 ∧ Q (pf (pf σ62 16 21 s50.2) 16 16 v55)) (fun J59 => if 0 < s42.2.2 then w_KReader_isNamed L s42.2.1 s42.2.2 (if (σ56.1 16 8) = 0 then 1116 else 1115) (fun v66 σ65 => if v66 = 0 then w_KReader_fail L 2 (fun v69 σ68 => Q σ68) σ65 else J59 () σ65) σ56 else J59 () σ56)) σ54) σ52) σ51) (fun J48 => if v47 < 0 then J48 (s42.1, 0) σ46 else w_KReader_spaces L s42.1 (fun v76 σ75 => w_KReader_word L v76 1111 (fun v78 σ77 => w_KReader_equal L v78 (fun v80 σ79 => w_KReader_quoted L v80 1112 (fun v82 σ81 => WJ (fun (s85 : Int) (σ86 : IS) => w_KReader_written L s85 (fun v88 σ87 => if v88 = 0 then Q σ87 else J48 (s85, (if v82 < 0 then (0 : Int) else (1 : Int))) σ87) σ86) (fun J83 => if (if v82 < 0 then (0 : Int) else (1 : Int)) = 0 then w_KReader_quoted L v80 1113 (fun v92 σ91 => J83 v92 σ91) σ81 else w_KReader_quoted L v80 1112 (fun v94 σ93 => J83 v94 σ93) σ81)) σ79) σ77) σ75) σ46)) σ44) σ43
/-- behind the version -/
def wHe (L : Nat → Nat) (Q : IS → Prop) (s17 : Int) (σ27 : IS) : Prop := inR (s17 + 1) ∧ w_KReader_spaces L (s17 + 1) (fun v31 σ30 => w_KReader_word L v31 1110 (fun v33 σ32 => w_KReader_equal L v33 (fun v35 σ34 => w_KReader_spaces L (s17 + 1) (fun v37 σ36 => w_KReader_word L v37 1110 (fun v39 σ38 => WJ (fun (s42 : Int × Int × Int) (σ43 : IS) => w_KReader_spaces L s42.1 (fun v45 σ44 => w_KReader_word L v45 1111 (fun v47 σ46 => WJ (fun (s50 : Int × Int) (σ51 : IS) => w_KReader_anySpaces L s50.1 (fun v53 σ52 => w_KReader_word L v53 1114 (fun v55 σ54 => w_KReader_written L v55 (fun v57 σ56 => if v57 = 0 then Q σ56 else WJ (fun (s61 : Unit) (σ62 : IS) => is01 s50.2 ∧ Q (pf (pf σ62 16 21 s50.2) 16 16 v55)) (fun J59 => if 0 < s42.2.2 then w_KReader_isNamed L s42.2.1 s42.2.2 (if (σ56.1 16 8) = 0 then 1116 else 1115) (fun v66 σ65 => if v66 = 0 then w_KReader_fail L 2 (fun v69 σ68 => Q σ68) σ65 else J59 () σ65) σ56 else J59 () σ56)) σ54) σ52) σ51) (fun J48 => if v47 < 0 then J48 (s42.1, 0) σ46 else w_KReader_spaces L s42.1 (fun v76 σ75 => w_KReader_word L v76 1111 (fun v78 σ77 => w_KReader_equal L v78 (fun v80 σ79 => w_KReader_quoted L v80 1112 (fun v82 σ81 => WJ (fun (s85 : Int) (σ86 : IS) => w_KReader_written L s85 (fun v88 σ87 => if v88 = 0 then Q σ87 else J48 (s85, (if v82 < 0 then (0 : Int) else (1 : Int))) σ87) σ86) (fun J83 => if (if v82 < 0 then (0 : Int) else (1 : Int)) = 0 then w_KReader_quoted L v80 1113 (fun v92 σ91 => J83 v92 σ91) σ81 else w_KReader_quoted L v80 1112 (fun v94 σ93 => J83 v94 σ93) σ81)) σ79) σ77) σ75) σ46)) σ44) σ43) (fun J40 => if v39 < 0 then J40 ((s17 + 1), 0, 0) σ38 else WJ (fun (s102 : Int) (σ103 : IS) => WJ (fun (s106 : Int) (σ107 : IS) => WL (fun (K108 : Int → IS → Prop) (s110 : Int) (σ111 : IS) => WJ (fun (s114 : Unit) (σ115 : IS) => WJ (fun (s118 : Int) (σ119 : IS) => w_KReader_written L s118 (fun v121 σ120 => if v121 = 0 then Q σ120 else inR (v35 + 1) ∧ inR (s110 + 1) ∧ J40 ((s110 + 1), (v35 + 1), s110) σ120) σ119) (fun J116 => WJ (fun (s127 : Unit) (σ128 : IS) => J116 (-1) σ128) (fun J125 => if s110 < 0 then J125 () σ115 else w_KReader_look L s110 (fun v131 σ130 => if v131 = s102 then J116 s110 σ130 else J125 () σ130) σ115))) (fun J112 => if s110 < 0 then J112 () σ111 else w_KReader_look L s110 (fun v135 σ134 => w_K_isLetter L v135 (fun v137 σ136 => WJ (fun (s140 : Unit) (σ141 : IS) => inR (s110 + 1) ∧ K108 (s110 + 1) σ141) (fun J138 => if v137 = 0 then w_KReader_look L s110 (fun v145 σ144 => w_K_isDigit L v145 (fun v147 σ146 => if v147 = 0 then w_KReader_look L s110 (fun v150 σ149 => if v150 = 46 then J138 () σ149 else w_KReader_look L s110 (fun v153 σ152 => if v153 = 95 then J138 () σ152 else w_KReader_look L s110 (fun v156 σ155 => if v156 = 45 then J138 () σ155 else J112 () σ155) σ152) σ149) σ146 else J138 () σ146) σ144) σ136 else J138 () σ136)) σ134) σ111)) s106 σ107) (fun J104 => WJ (fun (s160 : Unit) (σ161 : IS) => J104 (-1) σ161) (fun J158 => if v35 < 0 then J158 () σ103 else w_KReader_isQuote L s102 (fun v164 σ163 => if v164 = 0 then J158 () σ163 else inR (v35 + 1) ∧ w_KReader_look L (v35 + 1) (fun v167 σ166 => w_K_isLetter L v167 (fun v169 σ168 => if v169 = 0 then J158 () σ168 else inR (v35 + 2) ∧ J104 (v35 + 2) σ168) σ166) σ163) σ103))) (fun J100 => if v35 < 0 then J100 0 σ38 else w_KReader_look L v35 (fun v175 σ174 => J100 v175 σ174) σ38))) σ36) σ34) σ32) σ30) σ27
/-- a word in quotes -/
def qtd (T : Nat → Int) (e : Nat) (l : List Int) (q : Option Nat) : Option Nat := match q with
  | none => none
  | some i => if isQt (lk T e i) = true then (match wd T e l (some (i + 1)) with
    | none => none
    | some k => if lk T e k = lk T e i then some (k + 1) else none) else none
/-- what is behind the encoding -/
def hdR (T : Nat → Int) (e : Nat) (en : Option (Nat × Nat)) (j : Nat) : Option (Nat × Option (Nat × Nat) × Nat) := match hdS T e j with
  | none => none
  | some (st, z) => match wd T e [63, 62] (some (sk isSp T e z)) with
    | none => none
    | some k => some (st, en, k)
/-- how the head ends -/
def hOut (T : Nat → Int) (wide : Bool) (Q : IS → Prop) (σ : IS) (r : Option (Nat × Option (Nat × Nat) × Nat)) : Prop := (r = none → Q (pf σ 16 3 5)) ∧ ∀ st en k, r = some (st, en, k) → (encB T wide en = true → Q (pf (pf σ 16 21 (st : Int)) 16 16 (k : Int))) ∧ (encB T wide en = false → Q (pf σ 16 3 2))
section Khd
variable {L : Nat → Nat} {σ : IS} {e : Nat} {Q : IS → Prop} {R : Int → IS → Prop} {wide : Bool}
theorem lk_qt {T : Nat → Int} {i : Nat} (h : isQt (lk T e i) = true) : i < e ∧ lk T e i = T i := by
  have : i < e := by
    refine Classical.byContradiction fun z => ?_
    unfold lk at h
    rw [if_neg z] at h
    exact absurd h (by decide)
  exact ⟨this, lk_b this⟩
theorem sp_quoted {x : Int} {s : Nat} {l : List Int} (hK : KT L σ e) (q : Option Nat) (hx : x = enc q) (hq : ple e q) (hs : ti s = l) (h : R (enc (qtd (σ.2 176) e l q)) σ) : w_KReader_quoted L x s R σ := by
  have hK3 := hK.2.2
  unfold w_KReader_quoted
  refine WJ_dir ?_
  try dsimp only
  cases q with
  | none =>
    rw [if_pos (by rw [hx]; decide)]
    exact h
  | some i =>
    have hie := hq i rfl
    have hx' : x = (i : Int) := hx
    rw [if_neg (by omega)]
    refine sp_KReader_look hK i hx' (sp_KReader_isQuote ?_)
    have e0 : qtd (σ.2 176) e l (some i) = if isQt (lk (σ.2 176) e i) = true then (match wd (σ.2 176) e l (some (i + 1)) with
      | none => none
      | some k => if lk (σ.2 176) e k = lk (σ.2 176) e i then some (k + 1) else none) else none := rfl
    have eq : (lk (σ.2 176) e i == 34 || lk (σ.2 176) e i == 39) = isQt (lk (σ.2 176) e i) := rfl
    rw [eq]
    cases c : isQt (lk (σ.2 176) e i) with
    | false =>
      rw [if_pos (by decide)]
      rw [e0, if_neg (by rw [c]; decide)] at h
      exact h
    | true =>
      have hi := lk_qt c
      rw [if_neg (by decide)]
      rw [e0, if_pos c] at h
      refine ⟨⟨by omega, by omega⟩, ?_⟩
      refine sp_word hK (some (i + 1)) (by rw [hx']; show (i : Int) + 1 = ((i + 1 : Nat) : Int); omega) (fun y hy => by cases hy; omega) hs ?_
      refine WJ_dir ?_
      refine WJ_dir ?_
      try dsimp only
      cases hw : wd (σ.2 176) e l (some (i + 1)) with
      | none =>
        rw [hw] at h
        rw [if_pos (show enc none < 0 by decide)]
        exact h
      | some k =>
        rw [hw] at h
        dsimp only at h
        have hk : k ≤ e := wdl_le hs (fun y hy => by cases hy; omega) k hw
        rw [if_neg (by show ¬ ((k : Nat) : Int) < 0; omega)]
        refine sp_KReader_look hK k rfl (sp_KReader_look hK i hx' ?_)
        by_cases c2 : lk (σ.2 176) e k = lk (σ.2 176) e i
        · rw [if_pos c2] at h ⊢
          refine ⟨⟨by show _ ≤ ((k : Nat) : Int) + 1; omega, by show ((k : Nat) : Int) + 1 ≤ _; omega⟩, ?_⟩
          have e1 : enc (some (k + 1)) = enc (some k) + 1 := by show ((k + 1 : Nat) : Int) = (k : Int) + 1; omega
          rw [e1] at h
          exact h
        · rw [if_neg c2] at h ⊢
          exact h
theorem sp_Hx {s42 : Int × Int × Int} {s50 : Int × Int} {z st : Nat} {en : Option (Nat × Nat)} (hK : KT L σ e) (hc : chs σ e) (h3 : σ.1 16 3 = 0) (h8 : σ.1 16 8 = 0 ↔ wide = false) (hz : s50.1 = (z : Int)) (hze : z ≤ e) (hst : s50.2 = (st : Int)) (hst1 : st ≤ 1)
    (hen : (en = none → s42.2.2 = 0) ∧ ∀ i n, en = some (i, n) → s42.2.1 = (i : Int) ∧ s42.2.2 = ((i + n : Nat) : Int) ∧ 0 < i + n ∧ i + n ≤ e)
    (hq : hOut (σ.2 176) wide Q σ (match wd (σ.2 176) e [63, 62] (some (sk isSp (σ.2 176) e z)) with
      | none => none
      | some k => some (st, en, k))) : wHx L Q s42 s50 σ := by
  unfold wHx
  refine sp_KReader_anySpaces hK (some z) hz (fun i hi => by cases hi; exact hze) ?_
  refine sp_word hK (some (sk isSp (σ.2 176) e z)) rfl (fun i hi => by cases hi; exact (sk_le hze).2) ti_1114 ?_
  refine sp_K_written (x := wd (σ.2 176) e [63, 62] (some (sk isSp (σ.2 176) e z))) rfl h3 (fun hn => ?_) (fun k hk hv => ?_)
  · rw [if_pos rfl]
    rw [hn] at hq
    exact hq.1 rfl
  · rw [if_neg (by decide)]
    refine WJ_dir ?_
    try dsimp only
    rw [hk] at hq
    have hg := hq.2 st en k rfl
    rw [hv, hst]
    have h01 : is01 ((st : Nat) : Int) := by
      rcases (show st = 0 ∨ st = 1 by omega) with y | y <;> rw [y]
      · exact Or.inl rfl
      · exact Or.inr rfl
    cases hen' : en with
    | none =>
      rw [if_neg (by rw [hen.1 hen']; omega)]
      exact ⟨h01, hg.1 (by rw [hen']; rfl)⟩
    | some q =>
      obtain ⟨i, n⟩ := q
      obtain ⟨n1, n2, n3, n4⟩ := hen.2 i n hen'
      rw [if_pos (by omega)]
      have hS0 : SHT (σ.2 176) (σ.2 176) e 0 := fun k _ => by rw [Nat.zero_add]
      refine kr_isNamed (T := σ.2 176) (p := 0) (e := e) (i := i) (n := i + n) (l := if wide = true then [117, 116, 102, 45, 49, 54] else [117, 116, 102, 45, 56]) (by rw [Nat.zero_add]; exact hK) (by rw [Nat.zero_add]; exact hc) hS0 (by omega) n4 (by rw [n1, Nat.zero_add]) (by rw [n2, Nat.zero_add]) ?_ ?_
      · cases hw : wide with
        | false => rw [if_pos (h8.mpr hw), if_neg (by decide)]; exact ti_1116
        | true => rw [if_neg (fun y => by rw [h8.mp y] at hw; cases hw), if_pos rfl]; exact ti_1115
      · rw [show i + n - i = n by omega]
        have eB : encB (σ.2 176) wide (some (i, n)) = decide ((sl (σ.2 176) i n).map lowr = if wide = true then [117, 116, 102, 45, 49, 54] else [117, 116, 102, 45, 56]) := rfl
        rw [hen', eB] at hg
        cases hd : decide ((sl (σ.2 176) i n).map lowr = if wide = true then [117, 116, 102, 45, 49, 54] else [117, 116, 102, 45, 56]) with
        | false =>
          rw [if_pos (by decide)]
          exact sp_K_fail h3 (hg.2 hd)
        | true =>
          rw [if_neg (by decide)]
          exact ⟨h01, hg.1 hd⟩
theorem sp_Hs {s42 : Int × Int × Int} {j : Nat} {en : Option (Nat × Nat)} (hK : KT L σ e) (hc : chs σ e) (h3 : σ.1 16 3 = 0) (h8 : σ.1 16 8 = 0 ↔ wide = false) (hj : s42.1 = (j : Int)) (hje : j ≤ e)
    (hen : (en = none → s42.2.2 = 0) ∧ ∀ i n, en = some (i, n) → s42.2.1 = (i : Int) ∧ s42.2.2 = ((i + n : Nat) : Int) ∧ 0 < i + n ∧ i + n ≤ e)
    (hq : hOut (σ.2 176) wide Q σ (hdR (σ.2 176) e en j)) : wHs L Q s42 σ := by
  have hsk := sk_le (p := isSp) (T := σ.2 176) hje
  unfold wHs
  refine sp_KReader_spaces hK (some j) hj (fun i hi => by cases hi; exact hje) ?_
  have hpl : ple e (spc (σ.2 176) e (some j)) := fun i hi => (spc_gt hje hi).2.1
  refine sp_word hK _ rfl hpl ti_1111 ?_
  refine WJ_dir ?_
  try dsimp only
  cases hw : wd (σ.2 176) e [115, 116, 97, 110, 100, 97, 108, 111, 110, 101] (spc (σ.2 176) e (some j)) with
  | none =>
    rw [if_pos (show enc none < 0 by decide)]
    have hS : hdS (σ.2 176) e j = some (0, j) := by
      unfold hdS
      rw [if_neg]
      rintro ⟨y1, y2⟩
      have : spc (σ.2 176) e (some j) = some (sk isSp (σ.2 176) e j) := if_neg y1
      rw [this] at hw
      have hw' : (if mt (σ.2 176) e (sk isSp (σ.2 176) e j) [115, 116, 97, 110, 100, 97, 108, 111, 110, 101] = true then some (sk isSp (σ.2 176) e j + 10) else none) = none := hw
      rw [if_pos y2] at hw'
      cases hw'
    unfold hdR at hq
    rw [hS] at hq
    exact sp_Hx (s50 := (s42.1, 0)) (z := j) (st := 0) hK hc h3 h8 hj hje rfl (by omega) hen hq
  | some w =>
    rw [if_neg (by show ¬ ((w : Nat) : Int) < 0; omega)]
    obtain ⟨hsp, hmt, hw2⟩ : spc (σ.2 176) e (some j) = some (sk isSp (σ.2 176) e j) ∧ mt (σ.2 176) e (sk isSp (σ.2 176) e j) [115, 116, 97, 110, 100, 97, 108, 111, 110, 101] = true ∧ sk isSp (σ.2 176) e j ≠ j := by
      by_cases y : sk isSp (σ.2 176) e j = j
      · have : spc (σ.2 176) e (some j) = none := if_pos y
        rw [this] at hw; cases hw
      · have h1 : spc (σ.2 176) e (some j) = some (sk isSp (σ.2 176) e j) := if_neg y
        rw [h1] at hw
        have hw' : (if mt (σ.2 176) e (sk isSp (σ.2 176) e j) [115, 116, 97, 110, 100, 97, 108, 111, 110, 101] = true then some (sk isSp (σ.2 176) e j + 10) else none) = some w := hw
        split at hw'
        · rename_i c; exact ⟨h1, c, y⟩
        · cases hw'
    have hwe : ple e (some w) := fun i hi => by cases hi; exact wdl_le ti_1111 hpl w hw
    refine sp_KReader_spaces hK (some j) hj (fun i hi => by cases hi; exact hje) ?_
    refine sp_word hK _ rfl hpl ti_1111 ?_
    rw [hw]
    refine sp_KReader_equal hK (some w) rfl hwe ?_
    have hqe : ple e (eqs (σ.2 176) e (some w)) := fun i hi => (eqs_gt (hwe w rfl) hi).2
    refine sp_quoted hK _ rfl hqe ti_1112 ?_
    have hS : hdS (σ.2 176) e j = hdS1 (σ.2 176) e (qof (σ.2 176) e [115, 116, 97, 110, 100, 97, 108, 111, 110, 101] (some (sk isSp (σ.2 176) e j))) := by
      unfold hdS
      rw [if_pos ⟨hw2, hmt⟩]
    have hqo : qof (σ.2 176) e [115, 116, 97, 110, 100, 97, 108, 111, 110, 101] (some (sk isSp (σ.2 176) e j)) = match eqs (σ.2 176) e (some w) with
      | none => none
      | some i => if isQt (lk (σ.2 176) e i) = true then some (i + 1) else none := by
      rw [← hsp]
      unfold qof
      rw [hw] <;> rfl
    -- what the words come to
    have hy : hdS (σ.2 176) e j = match qtd (σ.2 176) e [121, 101, 115] (eqs (σ.2 176) e (some w)) with
      | some z => some (1, z)
      | none => match qtd (σ.2 176) e [110, 111] (eqs (σ.2 176) e (some w)) with
        | some z => some (0, z)
        | none => none := by
      rw [hS, hqo]
      cases heq : eqs (σ.2 176) e (some w) with
      | none => rfl
      | some i =>
        dsimp only
        unfold qtd
        dsimp only
        by_cases c : isQt (lk (σ.2 176) e i) = true
        · rw [if_pos c, if_pos c, if_pos c]
          have hi := lk_qt c
          show (if mt (σ.2 176) e (i + 1) [121, 101, 115] = true then (qcl (σ.2 176) e ((σ.2 176) (i + 1 - 1)) (some (i + 1 + 3))).map (fun z => (1, z)) else (qcl (σ.2 176) e ((σ.2 176) (i + 1 - 1)) (wd (σ.2 176) e [110, 111] (some (i + 1)))).map (fun z => (0, z))) = _
          rw [show i + 1 - 1 = i by omega]
          have ew : ∀ l : List Int, wd (σ.2 176) e l (some (i + 1)) = if mt (σ.2 176) e (i + 1) l = true then some (i + 1 + l.length) else none := fun l => rfl
          by_cases cy : mt (σ.2 176) e (i + 1) [121, 101, 115] = true
          · have cn : ¬ mt (σ.2 176) e (i + 1) [110, 111] = true := by
              intro z
              have h1 : lk (σ.2 176) e (i + 1) = 121 := mt_hd cy
              have h2 : lk (σ.2 176) e (i + 1) = 110 := mt_hd z
              omega
            rw [if_pos cy, ew, if_pos cy, ew, if_neg cn]
            unfold qcl
            dsimp only
            show Option.map _ (if lk (σ.2 176) e (i + 1 + 3) = _ then _ else none) = _
            rw [← hi.2]
            show Option.map _ (if lk (σ.2 176) e (i + 1 + 3) = _ then _ else none) = match (if lk (σ.2 176) e (i + 1 + 3) = lk (σ.2 176) e i then some (i + 1 + 3 + 1) else none) with
              | some z => some (1, z)
              | none => none
            split <;> rfl
          · rw [if_neg cy, ew [121, 101, 115], if_neg cy]
            dsimp only
            cases wd (σ.2 176) e [110, 111] (some (i + 1)) with
            | none => rfl
            | some k =>
              unfold qcl
              dsimp only
              rw [← hi.2]
              split <;> rfl
        · rw [if_neg c, if_neg c, if_neg c]
          rfl
    have hzle : ∀ l s, ti s = l → ∀ z, qtd (σ.2 176) e l (eqs (σ.2 176) e (some w)) = some z → z ≤ e := by
      intro l s hs z hz
      unfold qtd at hz
      split at hz
      · cases hz
      · rename_i i hi
        split at hz
        · rename_i cq
          have hq1 := lk_qt cq
          split at hz
          · cases hz
          · rename_i k hk
            split at hz
            · rename_i ck
              cases hz
              rw [← ck] at cq
              have := lk_qt cq
              omega
            · cases hz
        · cases hz
    unfold hdR at hq
    rw [hy] at hq
    refine WJ_dir ?_
    try dsimp only
    cases hyes : qtd (σ.2 176) e [121, 101, 115] (eqs (σ.2 176) e (some w)) with
    | some z =>
      rw [hyes] at hq
      rw [if_neg (by rw [if_neg (by show ¬ ((z : Nat) : Int) < 0; omega)]; decide)]
      refine sp_quoted hK _ rfl hqe ti_1112 ?_
      rw [hyes]
      refine sp_K_written (x := some z) rfl h3 (fun y => by cases y) (fun k hk hv => ?_)
      rw [if_neg (by decide), if_neg (by show ¬ ((z : Nat) : Int) < 0; omega)]
      exact sp_Hx (s50 := (enc (some z), 1)) (z := z) (st := 1) hK hc h3 h8 rfl (hzle _ _ ti_1112 z hyes) rfl (by omega) hen hq
    | none =>
      rw [hyes] at hq
      rw [if_pos (by rw [if_pos (show enc none < 0 by decide)])]
      refine sp_quoted hK _ rfl hqe ti_1113 ?_
      cases hno : qtd (σ.2 176) e [110, 111] (eqs (σ.2 176) e (some w)) with
      | none =>
        rw [hno] at hq
        refine sp_K_written (x := none) rfl h3 (fun _ => ?_) (fun k hk => by cases hk)
        rw [if_pos rfl]
        exact hq.1 rfl
      | some z =>
        rw [hno] at hq
        refine sp_K_written (x := some z) rfl h3 (fun y => by cases y) (fun k hk hv => ?_)
        rw [if_neg (by decide), if_pos (show enc none < 0 by decide)]
        exact sp_Hx (s50 := (enc (some z), 0)) (z := z) (st := 0) hK hc h3 h8 rfl (hzle _ _ ti_1113 z hno) rfl (by omega) hen hq
end Khd
