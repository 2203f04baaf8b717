/-! ===== the same text at another place ===== -/
/-- what stands in T' from d on is what stands in T up to e -/
def SHT (T T' : Nat → Int) (e d : Nat) : Prop := ∀ k, k < e → T' (d + k) = T k
section Sh
variable {T T' : Nat → Int} {e d : Nat}
theorem sh_lk (h : SHT T T' e d) (i : Nat) : lk T' (d + e) (d + i) = lk T e i := by
  unfold lk
  by_cases c : i < e
  · rw [if_pos c, if_pos (by omega), h i c]
  · rw [if_neg c, if_neg (by omega)]
theorem sh_mt (h : SHT T T' e d) : ∀ (l : List Int) (i : Nat), mt T' (d + e) (d + i) l = mt T e i l := by
  intro l
  induction l with
  | nil => intro i; rfl
  | cons c r ih =>
    intro i
    show ((lk T' (d + e) (d + i) == c) && mt T' (d + e) (d + i + 1) r) = ((lk T e i == c) && mt T e (i + 1) r)
    rw [sh_lk h, show d + i + 1 = d + (i + 1) by omega, ih]
theorem sh_skw (h : SHT T T' e d) {p : Int → Bool} : ∀ (n i : Nat), i + n ≤ e → skw p T' n (d + i) = d + skw p T n i := by
  intro n
  induction n with
  | zero => intro i _; rfl
  | succ n ih =>
    intro i hi
    show (if p (T' (d + i)) = true then skw p T' n (d + i + 1) else d + i) = d + (if p (T i) = true then skw p T n (i + 1) else i)
    rw [h i (by omega), show d + i + 1 = d + (i + 1) by omega, ih (i + 1) (by omega)]
    split <;> rfl
theorem sh_sk (h : SHT T T' e d) {p : Int → Bool} (i : Nat) : sk p T' (d + e) (d + i) = d + sk p T e i := by
  unfold sk
  rw [show d + e - (d + i) = e - i by omega]
  by_cases c : i ≤ e
  · exact sh_skw h _ _ (by omega)
  · rw [show e - i = 0 by omega]; rfl
def mvo (d : Nat) (o : Option Nat) : Option Nat := o.map (fun x => d + x)
theorem mvo_none : mvo d none = none := rfl
theorem mvo_some {i : Nat} : mvo d (some i) = some (d + i) := rfl
theorem mvo_if {c : Prop} [Decidable c] {a b : Option Nat} : mvo d (if c then a else b) = if c then mvo d a else mvo d b := by split <;> rfl
theorem mvo_eq_none {o : Option Nat} : mvo d o = none ↔ o = none := by cases o <;> simp [mvo]
theorem mvo_eq_some {o : Option Nat} {j : Nat} : mvo d o = some j ↔ ∃ i, o = some i ∧ j = d + i := by
  cases o with
  | none => simp [mvo]
  | some i => simp [mvo, eq_comm]
theorem sh_wd (h : SHT T T' e d) {l : List Int} (o : Option Nat) : wd T' (d + e) l (mvo d o) = mvo d (wd T e l o) := by
  cases o with
  | none => rfl
  | some i =>
    show (if mt T' (d + e) (d + i) l = true then some (d + i + l.length) else none) = mvo d (if mt T e i l = true then some (i + l.length) else none)
    rw [sh_mt h, mvo_if, mvo_some, mvo_none, Nat.add_assoc]
theorem sh_asp (h : SHT T T' e d) (o : Option Nat) : asp T' (d + e) (mvo d o) = mvo d (asp T e o) := by
  cases o with
  | none => rfl
  | some i => show some (sk isSp T' (d + e) (d + i)) = some (d + sk isSp T e i); rw [sh_sk h]
theorem sh_spc (h : SHT T T' e d) (o : Option Nat) : spc T' (d + e) (mvo d o) = mvo d (spc T e o) := by
  cases o with
  | none => rfl
  | some i =>
    show (if sk isSp T' (d + e) (d + i) = d + i then none else some (sk isSp T' (d + e) (d + i))) = mvo d (if sk isSp T e i = i then none else some (sk isSp T e i))
    rw [sh_sk h, mvo_if, mvo_none, mvo_some]
    by_cases c : sk isSp T e i = i
    · rw [if_pos c, if_pos (by omega)]
    · rw [if_neg c, if_neg (by omega)]
theorem sh_nmg (h : SHT T T' e d) {b : Bool} (o : Option Nat) : nmg T' (d + e) b (mvo d o) = mvo d (nmg T e b o) := by
  cases o with
  | none => rfl
  | some i =>
    show (if (if b = true then isSt (lk T' (d + e) (d + i)) else isNm (lk T' (d + e) (d + i))) = true then some (sk isNm T' (d + e) (d + i + 1)) else none) = mvo d (if (if b = true then isSt (lk T e i) else isNm (lk T e i)) = true then some (sk isNm T e (i + 1)) else none)
    rw [sh_lk h, show d + i + 1 = d + (i + 1) by omega, sh_sk h, mvo_if, mvo_some, mvo_none]
theorem sh_ltl (h : SHT T T' e d) (o : Option Nat) : ltl T' (d + e) (mvo d o) = mvo d (ltl T e o) := by
  cases o with
  | none => rfl
  | some i =>
    show (if isQt (lk T' (d + e) (d + i)) = true then (if sk (fun c => !(c == T' (d + i))) T' (d + e) (d + i + 1) < d + e then some (sk (fun c => !(c == T' (d + i))) T' (d + e) (d + i + 1) + 1) else none) else none) = mvo d (if isQt (lk T e i) = true then (if sk (fun c => !(c == T i)) T e (i + 1) < e then some (sk (fun c => !(c == T i)) T e (i + 1) + 1) else none) else none)
    rw [sh_lk h, mvo_if, mvo_if, mvo_some, mvo_none]
    by_cases c : isQt (lk T e i) = true
    · rw [if_pos c, if_pos c]
      have hlt : i < e := by
        by_cases z : i < e
        · exact z
        · unfold lk at c
          rw [if_neg z] at c
          exact absurd c (by decide)
      rw [h i hlt, show d + i + 1 = d + (i + 1) by omega, sh_sk h]
      by_cases c2 : sk (fun c => !(c == T i)) T e (i + 1) < e
      · rw [if_pos c2, if_pos (by omega), show d + sk (fun c => !(c == T i)) T e (i + 1) + 1 = d + (sk (fun c => !(c == T i)) T e (i + 1) + 1) by omega]
      · rw [if_neg c2, if_neg (by omega)]
    · rw [if_neg c, if_neg c]
theorem sht_le (h : SHT T T' e d) {e' : Nat} (he : e' ≤ e) : SHT T T' e' d := fun k hk => h k (by omega)
theorem sh_plt (h : SHT T T' e d) (o : Option Nat) : plt T' (d + e) (mvo d o) = mvo d (plt T e o) := by
  cases o with
  | none => rfl
  | some i =>
    show (match ltl T' (d + e) (some (d + i)) with
      | none => none
      | some k => if sk isPb T' (k - 1) (d + i + 1) = k - 1 then some k else none) = mvo d (match ltl T e (some i) with
      | none => none
      | some k => if sk isPb T (k - 1) (i + 1) = k - 1 then some k else none)
    have h2 := sh_ltl h (some i)
    rw [mvo_some] at h2
    rw [h2]
    cases hl : ltl T e (some i) with
    | none => rfl
    | some k =>
      have hb := ltl_lt hl
      show (if sk isPb T' (d + k - 1) (d + i + 1) = d + k - 1 then some (d + k) else none) = mvo d (if sk isPb T (k - 1) (i + 1) = k - 1 then some k else none)
      rw [show d + k - 1 = d + (k - 1) by omega, show d + i + 1 = d + (i + 1) by omega, sh_sk (sht_le h (show k - 1 ≤ e by omega)), mvo_if, mvo_some, mvo_none]
      by_cases c : sk isPb T (k - 1) (i + 1) = k - 1
      · rw [if_pos c, if_pos (by omega)]
      · rw [if_neg c, if_neg (by omega)]
theorem sh_outs (h : SHT T T' e d) (o : Option Nat) : outs T' (d + e) (mvo d o) = mvo d (outs T e o) := by
  unfold outs
  rw [sh_wd h, sh_wd h, sh_spc h, sh_plt h, sh_spc h, sh_ltl h]
  cases hw : wd T e [83, 89, 83, 84, 69, 77] o with
  | none => rfl
  | some k =>
    show ltl T' (d + e) (spc T' (d + e) (mvo d (some k))) = _
    rw [sh_spc h, sh_ltl h]
theorem sh_rfp (h : SHT T T' e d) (o : Option Nat) : rfp T' (d + e) (mvo d o) = mvo d (rfp T e o) := by
  cases o with
  | none => rfl
  | some i =>
    have hw : ∀ j, wd T' (d + e) [59] (some (d + j)) = mvo d (wd T e [59] (some j)) := fun j => sh_wd h (some j)
    have hn : nmg T' (d + e) true (some (d + (i + 1))) = mvo d (nmg T e true (some (i + 1))) := sh_nmg h (some (i + 1))
    show (if lk T' (d + e) (d + i) = 38 then (if lk T' (d + e) (d + i + 1) = 35 then (if lk T' (d + e) (d + i + 2) = 120 then (if sk hexd T' (d + e) (d + i + 3) = d + i + 3 then none else wd T' (d + e) [59] (some (sk hexd T' (d + e) (d + i + 3)))) else (if sk isDg T' (d + e) (d + i + 2) = d + i + 2 then none else wd T' (d + e) [59] (some (sk isDg T' (d + e) (d + i + 2))))) else wd T' (d + e) [59] (nmg T' (d + e) true (some (d + i + 1)))) else none) = mvo d (if lk T e i = 38 then (if lk T e (i + 1) = 35 then (if lk T e (i + 2) = 120 then (if sk hexd T e (i + 3) = i + 3 then none else wd T e [59] (some (sk hexd T e (i + 3)))) else (if sk isDg T e (i + 2) = i + 2 then none else wd T e [59] (some (sk isDg T e (i + 2))))) else wd T e [59] (nmg T e true (some (i + 1)))) else none)
    rw [show d + i + 1 = d + (i + 1) by omega, show d + i + 2 = d + (i + 2) by omega, show d + i + 3 = d + (i + 3) by omega]
    simp only [sh_lk h, sh_sk h, hw, hn, sh_wd h, mvo_if, mvo_none, Nat.add_left_cancel_iff]
theorem sh_vlg (h : SHT T T' e d) {q : Int} : ∀ (n k : Nat), vlg T' (d + e) q n (d + k) = mvo d (vlg T e q n k) := by
  intro n
  induction n with
  | zero => intro k; rfl
  | succ n ih =>
    intro k
    show (if d + k < d + e then (if T' (d + k) = q then some (d + k + 1) else if T' (d + k) = 60 then none else if T' (d + k) = 38 then (match rfp T' (d + e) (some (d + k)) with
      | none => none
      | some j => vlg T' (d + e) q n j) else vlg T' (d + e) q n (d + k + 1)) else none) = mvo d (if k < e then (if T k = q then some (k + 1) else if T k = 60 then none else if T k = 38 then (match rfp T e (some k) with
      | none => none
      | some j => vlg T e q n j) else vlg T e q n (k + 1)) else none)
    by_cases c : k < e
    · have hr := sh_rfp h (some k)
      rw [mvo_some] at hr
      rw [if_pos c, if_pos (by omega), h k c, hr, show d + k + 1 = d + (k + 1) by omega, ih (k + 1)]
      simp only [mvo_if, mvo_none, mvo_some]
      cases hf : rfp T e (some k) with
      | none => rfl
      | some j =>
        have : (match mvo d (some j) with
          | none => none
          | some j => vlg T' (d + e) q n j) = mvo d (vlg T e q n j) := ih j
        rw [this]
    · rw [if_neg c, if_neg (by omega)]; rfl
theorem sh_vlp (h : SHT T T' e d) (o : Option Nat) : vlp T' (d + e) (mvo d o) = mvo d (vlp T e o) := by
  cases o with
  | none => rfl
  | some i =>
    show (if isQt (lk T' (d + e) (d + i)) = true then vlg T' (d + e) (T' (d + i)) (d + e + 1) (d + i + 1) else none) = mvo d (if isQt (lk T e i) = true then vlg T e (T i) (e + 1) (i + 1) else none)
    rw [sh_lk h, mvo_if, mvo_none]
    by_cases c : isQt (lk T e i) = true
    · have hlt : i < e := by
        by_cases z : i < e
        · exact z
        · unfold lk at c
          rw [if_neg z] at c
          exact absurd c (by decide)
      rw [if_pos c, if_pos c, h i hlt, show d + i + 1 = d + (i + 1) by omega, sh_vlg h, vlg_fuel (d + e + 1) (e + 1) (i + 1) (by omega) (by omega)]
    · rw [if_neg c, if_neg c]
theorem sh_pcp (h : SHT T T' e d) (k : Nat) : pcp T' (d + e) (d + k) = mvo d (pcp T e k) := by
  unfold pcp
  have hn := sh_nmg h (b := true) (some (k + 1))
  rw [mvo_some] at hn
  rw [show d + k + 1 = d + (k + 1) by omega, hn, sh_wd h]
theorem sh_etg (h : SHT T T' e d) {q : Int} : ∀ (n k : Nat), etg T' (d + e) q n (d + k) = mvo d (etg T e q n k) := by
  intro n
  induction n with
  | zero => intro k; rfl
  | succ n ih =>
    intro k
    show (if d + k < d + e then (if T' (d + k) = q then some (d + k + 1) else if T' (d + k) = 38 then (match rfp T' (d + e) (some (d + k)) with
      | none => none
      | some j => etg T' (d + e) q n j) else if T' (d + k) = 37 then (match pcp T' (d + e) (d + k) with
      | none => none
      | some j => etg T' (d + e) q n j) else etg T' (d + e) q n (d + k + 1)) else none) = mvo d (if k < e then (if T k = q then some (k + 1) else if T k = 38 then (match rfp T e (some k) with
      | none => none
      | some j => etg T e q n j) else if T k = 37 then (match pcp T e k with
      | none => none
      | some j => etg T e q n j) else etg T e q n (k + 1)) else none)
    by_cases c : k < e
    · have hr := sh_rfp h (some k)
      rw [mvo_some] at hr
      rw [if_pos c, if_pos (by omega), h k c, hr, sh_pcp h, show d + k + 1 = d + (k + 1) by omega, ih (k + 1)]
      simp only [mvo_if, mvo_none, mvo_some]
      have hm : ∀ o : Option Nat, (match mvo d o with
          | none => none
          | some j => etg T' (d + e) q n j) = mvo d (match o with
          | none => none
          | some j => etg T e q n j) := by
        intro o
        cases o with
        | none => rfl
        | some j => exact ih j
      rw [hm, hm]
    · rw [if_neg c, if_neg (by omega)]; rfl
theorem sh_etx (h : SHT T T' e d) (o : Option Nat) : etx T' (d + e) (mvo d o) = mvo d (etx T e o) := by
  cases o with
  | none => rfl
  | some i =>
    show (if isQt (lk T' (d + e) (d + i)) = true then etg T' (d + e) (T' (d + i)) (d + e + 1) (d + i + 1) else none) = mvo d (if isQt (lk T e i) = true then etg T e (T i) (e + 1) (i + 1) else none)
    rw [sh_lk h, mvo_if, mvo_none]
    by_cases c : isQt (lk T e i) = true
    · have hlt : i < e := by
        by_cases z : i < e
        · exact z
        · unfold lk at c
          rw [if_neg z] at c
          exact absurd c (by decide)
      rw [if_pos c, if_pos c, h i hlt, show d + i + 1 = d + (i + 1) by omega, sh_etg h, etg_fuel (d + e + 1) (e + 1) (i + 1) (by omega) (by omega)]
    · rw [if_neg c, if_neg c]
theorem sh_sekw (h : SHT T T' e d) {l : List Int} : ∀ (n i : Nat), sekw T' (d + e) l n (d + i) = mvo d (sekw T e l n i) := by
  intro n
  induction n with
  | zero => intro i; rfl
  | succ n ih =>
    intro i
    show (if mt T' (d + e) (d + i) l = true then some (d + i) else sekw T' (d + e) l n (d + i + 1)) = mvo d (if mt T e i l = true then some i else sekw T e l n (i + 1))
    rw [sh_mt h, show d + i + 1 = d + (i + 1) by omega, ih, mvo_if, mvo_some]
theorem sh_sek (h : SHT T T' e d) {l : List Int} (i : Nat) : sek T' (d + e) l (d + i) = mvo d (sek T e l i) := by
  unfold sek
  rw [show d + e - (d + i) = e - i by omega]
  exact sh_sekw h _ _
theorem sh_sl (h : SHT T T' e d) {i n : Nat} (hi : i + n ≤ e) : sl T' (d + i) n = sl T i n := sl_ext (fun j hj => by rw [Nat.add_assoc]; exact h _ (by omega))
theorem sh_pin (h : SHT T T' e d) (p : Nat) : pin T' (d + e) (d + p) = (pin T e p).map (fun q => (d + q.1, d + q.2.1, d + q.2.2)) := by
  have hn := sh_nmg h (b := true) (some (p + 2))
  rw [mvo_some] at hn
  unfold pin
  rw [show d + p + 2 = d + (p + 2) by omega, hn]
  cases hc : nmg T e true (some (p + 2)) with
  | none => rfl
  | some n =>
    have hb := nmg_lt hc
    have hs := sh_spc h (some n)
    rw [mvo_some] at hs
    show (if (sl T' (d + (p + 2)) (d + n - (d + (p + 2)))).map lowr = [120, 109, 108] then none else if mt T' (d + e) (d + n) [63, 62] = true then some (d + n, d + n, d + n + 2) else match spc T' (d + e) (some (d + n)) with
      | none => none
      | some f => match sek T' (d + e) [63, 62] f with
        | none => none
        | some q => some (d + n, f, q + 2)) = _
    rw [show d + n - (d + (p + 2)) = n - (p + 2) by omega, sh_sl h (show p + 2 + (n - (p + 2)) ≤ e by omega), sh_mt h, hs]
    dsimp only
    by_cases c1 : (sl T (p + 2) (n - (p + 2))).map lowr = [120, 109, 108]
    · rw [if_pos c1, if_pos c1]; rfl
    · rw [if_neg c1, if_neg c1]
      by_cases c2 : mt T e n [63, 62] = true
      · rw [if_pos c2, if_pos c2]; rfl
      · rw [if_neg c2, if_neg c2]
        cases spc T e (some n) with
        | none => rfl
        | some f =>
          show (match sek T' (d + e) [63, 62] (d + f) with
            | none => none
            | some q => some (d + n, d + f, q + 2)) = _
          rw [sh_sek h]
          dsimp only
          cases sek T e [63, 62] f with
          | none => rfl
          | some q => rfl
end Sh
