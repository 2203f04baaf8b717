/-! ===== characters ===== -/
def b1 (b : Bool) : Int := if b = true then 1 else 0
theorem b1_01 (b : Bool) : is01 (b1 b) := by
  cases b
  · exact Or.inl rfl
  · exact Or.inr rfl
theorem if_b1 {b : Bool} {A C : Prop} : (if b1 b = 0 then A else C) = (if b = true then C else A) := by
  cases b <;> simp [b1]
def inI (c a b : Int) : Bool := decide (a ≤ c) && decide (c ≤ b)
def isSp (c : Int) : Bool := c == 32 || (c == 9 || (c == 13 || c == 10))
def isDg (c : Int) : Bool := inI c 48 57
def isLt (c : Int) : Bool := inI c 65 90 || inI c 97 122
def lowr (c : Int) : Int := if inI c 65 90 = true then c + 32 else c
def isCh (c : Int) : Bool := (c == 9 || (c == 10 || c == 13)) || (inI c 32 55295 || (inI c 57344 65533 || inI c 65536 1114111))
def isSt (c : Int) : Bool := if c < 128 then (c == 58 || c == 95) || (inI c 65 90 || inI c 97 122) else inI c 192 214 || (inI c 216 246 || (inI c 248 767 || (inI c 880 893 || (inI c 895 8191 || ((c == 8204 || c == 8205) || (inI c 8304 8591 || (inI c 11264 12271 || (inI c 12289 55295 || (inI c 63744 64975 || (inI c 65008 65533 || inI c 65536 983039))))))))))
def isNm (c : Int) : Bool := isSt c || ((c == 45 || c == 46) || (inI c 48 57 || (c == 183 || (inI c 768 879 || (c == 8255 || c == 8256)))))
section KLex
variable {L : Nat → Nat} {Q : Int → IS → Prop} {σ : IS} {c : Int}
theorem sp_K_isIn {a b : Int} (h : Q (b1 (inI c a b)) σ) : w_K_isIn L c a b Q σ := by
  unfold w_K_isIn
  have e : (if c < a then (0 : Int) else (if b < c then (0 : Int) else (1 : Int))) = b1 (inI c a b) := by
    unfold b1 inI
    by_cases h1 : c < a
    · have h2 : ¬ a ≤ c := by omega
      simp [h1, h2]
    · by_cases h2 : b < c
      · have h3 : ¬ c ≤ b := by omega
        simp [h2, h3]
      · have h3 : a ≤ c := by omega
        have h4 : c ≤ b := by omega
        simp [h1, h2, h3, h4]
  rw [e]
  exact h
theorem sp_K_isSpace (h : Q (b1 (isSp c)) σ) : w_K_isSpace L c Q σ := by
  unfold w_K_isSpace
  have e : (if c = 32 then (1 : Int) else (if c = 9 then (1 : Int) else (if c = 13 then (1 : Int) else (if c = 10 then (1 : Int) else (0 : Int))))) = b1 (isSp c) := by
    unfold b1 isSp
    by_cases h1 : c = 32
    · simp [h1]
    · by_cases h2 : c = 9
      · simp [h2]
      · by_cases h3 : c = 13
        · simp [h3]
        · by_cases h4 : c = 10
          · simp [h4]
          · simp [h1, h2, h3, h4]
  rw [e]
  exact h
theorem sp_KReader_isQuote (h : Q (b1 (c == 34 || c == 39)) σ) : w_KReader_isQuote L c Q σ := by
  unfold w_KReader_isQuote
  have e : (if c = 34 then (1 : Int) else (if c = 39 then (1 : Int) else (0 : Int))) = b1 (c == 34 || c == 39) := by
    unfold b1
    by_cases h1 : c = 34
    · simp [h1]
    · by_cases h2 : c = 39
      · simp [h2]
      · simp [h1, h2]
  rw [e]
  exact h
theorem sp_K_isDigit (h : Q (b1 (isDg c)) σ) : w_K_isDigit L c Q σ := by
  unfold w_K_isDigit
  exact sp_K_isIn ⟨b1_01 _, h⟩
theorem sp_K_lower (hc : -1 ≤ c ∧ c ≤ 2000000) (h : Q (lowr c) σ) : w_K_lower L c Q σ := by
  unfold w_K_lower
  refine sp_K_isIn ⟨fun _ => ⟨by omega, by omega⟩, ?_⟩
  have e : (if b1 (inI c 65 90) = 0 then c else (c + 32)) = lowr c := by
    unfold lowr
    cases inI c 65 90 <;> simp [b1]
  rw [e]
  exact h
theorem sp_K_isLetter (hq : Q (b1 (isLt c)) σ) : w_K_isLetter L c Q σ := by
  unfold w_K_isLetter WJ
  try dsimp only
  have hT : isLt c = true → is01 1 ∧ Q 1 σ := fun e => ⟨Or.inr rfl, by rw [e] at hq; exact hq⟩
  have hF : isLt c = false → is01 0 ∧ Q 0 σ := fun e => ⟨Or.inl rfl, by rw [e] at hq; exact hq⟩
  refine sp_K_isIn ?_
  rw [if_b1]
  by_cases h1 : inI c 65 90 = true
  · rw [if_pos h1]
    exact hT (by simp [isLt, h1])
  · rw [if_neg h1]
    refine sp_K_isIn ?_
    rw [if_b1]
    by_cases h2 : inI c 97 122 = true
    · rw [if_pos h2]
      exact hT (by simp [isLt, h2])
    · rw [if_neg h2]
      exact hF (by simp [isLt, h1, h2])
theorem sp_K_isCharacter (hq : Q (b1 (isCh c)) σ) : w_K_isCharacter L c Q σ := by
  unfold w_K_isCharacter WJ
  try dsimp only
  have hT : isCh c = true → is01 1 ∧ Q 1 σ := fun e => ⟨Or.inr rfl, by rw [e] at hq; exact hq⟩
  have hF : isCh c = false → is01 0 ∧ Q 0 σ := fun e => ⟨Or.inl rfl, by rw [e] at hq; exact hq⟩
  by_cases g0 : ¬ c = 9 ∧ (¬ c = 10 ∧ (¬ c = 13))
  · rw [if_pos g0]
    obtain ⟨m1, m2, m3⟩ := g0
    refine sp_K_isIn ?_
    rw [if_b1]
    by_cases g1 : inI c 32 55295 = true
    · rw [if_pos g1]
      exact hT (by simp [isCh, m1, m2, m3, g1])
    · rw [if_neg g1]
      refine sp_K_isIn ?_
      rw [if_b1]
      by_cases g2 : inI c 57344 65533 = true
      · rw [if_pos g2]
        exact hT (by simp [isCh, m1, m2, m3, g1, g2])
      · rw [if_neg g2]
        refine sp_K_isIn ?_
        rw [if_b1]
        by_cases g3 : inI c 65536 1114111 = true
        · rw [if_pos g3]
          exact hT (by simp [isCh, m1, m2, m3, g1, g2, g3])
        · rw [if_neg g3]
          exact hF (by simp [isCh, m1, m2, m3, g1, g2, g3])
  · rw [if_neg g0]
    refine hT ?_
    have g1 : c = 9 ∨ c = 10 ∨ c = 13 := by omega
    rcases g1 with g1 | g1 | g1 <;> simp [isCh, g1]
theorem sp_K_isStart (hq : Q (b1 (isSt c)) σ) : w_K_isStart L c Q σ := by
  unfold w_K_isStart WJ
  try dsimp only
  have hT : isSt c = true → is01 1 ∧ Q 1 σ := fun e => ⟨Or.inr rfl, by rw [e] at hq; exact hq⟩
  have hF : isSt c = false → is01 0 ∧ Q 0 σ := fun e => ⟨Or.inl rfl, by rw [e] at hq; exact hq⟩
  by_cases gc : c < 128
  · rw [if_pos gc]
    by_cases g0 : ¬ c = 58 ∧ (¬ c = 95)
    · rw [if_pos g0]
      obtain ⟨m1, m2⟩ := g0
      refine sp_K_isIn ?_
      rw [if_b1]
      by_cases g1 : inI c 65 90 = true
      · rw [if_pos g1]
        exact hT (by simp [isSt, gc, m1, m2, g1])
      · rw [if_neg g1]
        refine sp_K_isIn ?_
        rw [if_b1]
        by_cases g2 : inI c 97 122 = true
        · rw [if_pos g2]
          exact hT (by simp [isSt, gc, m1, m2, g1, g2])
        · rw [if_neg g2]
          exact hF (by simp [isSt, gc, m1, m2, g1, g2])
    · rw [if_neg g0]
      refine hT ?_
      have g1 : c = 58 ∨ c = 95 := by omega
      rcases g1 with g1 | g1 <;> simp [isSt, g1]
  · rw [if_neg gc]
    refine sp_K_isIn ?_
    rw [if_b1]
    by_cases g1 : inI c 192 214 = true
    · rw [if_pos g1]
      exact hT (by simp [isSt, gc, g1])
    · rw [if_neg g1]
      refine sp_K_isIn ?_
      rw [if_b1]
      by_cases g2 : inI c 216 246 = true
      · rw [if_pos g2]
        exact hT (by simp [isSt, gc, g1, g2])
      · rw [if_neg g2]
        refine sp_K_isIn ?_
        rw [if_b1]
        by_cases g3 : inI c 248 767 = true
        · rw [if_pos g3]
          exact hT (by simp [isSt, gc, g1, g2, g3])
        · rw [if_neg g3]
          refine sp_K_isIn ?_
          rw [if_b1]
          by_cases g4 : inI c 880 893 = true
          · rw [if_pos g4]
            exact hT (by simp [isSt, gc, g1, g2, g3, g4])
          · rw [if_neg g4]
            refine sp_K_isIn ?_
            by_cases g5 : inI c 895 8191 = true
            · rw [if_neg (by rw [g5]; simp [b1])]
              exact hT (by simp [isSt, gc, g1, g2, g3, g4, g5])
            · have g5f : inI c 895 8191 = false := by simpa using g5
              by_cases g6 : c = 8204 ∨ c = 8205
              · rw [if_neg (by omega)]
                refine hT ?_
                rcases g6 with g6 | g6 <;> simp [isSt, g6]
              · rw [if_pos (by rw [g5f]; exact ⟨rfl, fun z => g6 (Or.inl z), fun z => g6 (Or.inr z)⟩)]
                have m1 : ¬ c = 8204 := fun z => g6 (Or.inl z)
                have m2 : ¬ c = 8205 := fun z => g6 (Or.inr z)
                refine sp_K_isIn ?_
                rw [if_b1]
                by_cases g7 : inI c 8304 8591 = true
                · rw [if_pos g7]
                  exact hT (by simp [isSt, gc, g1, g2, g3, g4, g5f, m1, m2, g7])
                · rw [if_neg g7]
                  refine sp_K_isIn ?_
                  rw [if_b1]
                  by_cases g8 : inI c 11264 12271 = true
                  · rw [if_pos g8]
                    exact hT (by simp [isSt, gc, g1, g2, g3, g4, g5f, m1, m2, g7, g8])
                  · rw [if_neg g8]
                    refine sp_K_isIn ?_
                    rw [if_b1]
                    by_cases g9 : inI c 12289 55295 = true
                    · rw [if_pos g9]
                      exact hT (by simp [isSt, gc, g1, g2, g3, g4, g5f, m1, m2, g7, g8, g9])
                    · rw [if_neg g9]
                      refine sp_K_isIn ?_
                      rw [if_b1]
                      by_cases g10 : inI c 63744 64975 = true
                      · rw [if_pos g10]
                        exact hT (by simp [isSt, gc, g1, g2, g3, g4, g5f, m1, m2, g7, g8, g9, g10])
                      · rw [if_neg g10]
                        refine sp_K_isIn ?_
                        rw [if_b1]
                        by_cases g11 : inI c 65008 65533 = true
                        · rw [if_pos g11]
                          exact hT (by simp [isSt, gc, g1, g2, g3, g4, g5f, m1, m2, g7, g8, g9, g10, g11])
                        · rw [if_neg g11]
                          refine sp_K_isIn ?_
                          rw [if_b1]
                          by_cases g12 : inI c 65536 983039 = true
                          · rw [if_pos g12]
                            exact hT (by simp [isSt, gc, g1, g2, g3, g4, g5f, m1, m2, g7, g8, g9, g10, g11, g12])
                          · rw [if_neg g12]
                            exact hF (by simp [isSt, gc, g1, g2, g3, g4, g5f, m1, m2, g7, g8, g9, g10, g11, g12])
theorem sp_K_isNaming (hq : Q (b1 (isNm c)) σ) : w_K_isNaming L c Q σ := by
  unfold w_K_isNaming WJ
  try dsimp only
  have hT : isNm c = true → is01 1 ∧ Q 1 σ := fun e => ⟨Or.inr rfl, by rw [e] at hq; exact hq⟩
  have hF : isNm c = false → is01 0 ∧ Q 0 σ := fun e => ⟨Or.inl rfl, by rw [e] at hq; exact hq⟩
  refine sp_K_isStart ?_
  by_cases g1 : isSt c = true
  · rw [if_neg (by rw [g1]; simp [b1])]
    exact hT (by simp [isNm, g1])
  · have f1 : isSt c = false := by simpa using g1
    by_cases g2 : c = 45 ∨ c = 46
    · rw [if_neg (by omega)]
      refine hT ?_
      rcases g2 with g2 | g2 <;> simp [isNm, g2]
    · rw [if_pos (by rw [f1]; exact ⟨rfl, fun z => g2 (Or.inl z), fun z => g2 (Or.inr z)⟩)]
      have m1 : ¬ c = 45 := fun z => g2 (Or.inl z)
      have m2 : ¬ c = 46 := fun z => g2 (Or.inr z)
      refine sp_K_isIn ?_
      by_cases g3 : inI c 48 57 = true
      · rw [if_neg (by rw [g3]; simp [b1])]
        exact hT (by simp [isNm, g3])
      · have f3 : inI c 48 57 = false := by simpa using g3
        by_cases g4 : c = 183
        · rw [if_neg (by omega)]
          exact hT (by simp [isNm, g4])
        · rw [if_pos (by rw [f3]; exact ⟨rfl, g4⟩)]
          refine sp_K_isIn ?_
          by_cases g5 : inI c 768 879 = true
          · rw [if_neg (by rw [g5]; simp [b1])]
            exact hT (by simp [isNm, g5])
          · have f5 : inI c 768 879 = false := by simpa using g5
            by_cases g6 : c = 8255 ∨ c = 8256
            · rw [if_neg (by omega)]
              refine hT ?_
              rcases g6 with g6 | g6 <;> simp [isNm, g6]
            · rw [if_pos (by rw [f5]; exact ⟨rfl, fun z => g6 (Or.inl z), fun z => g6 (Or.inr z)⟩)]
              have m3 : ¬ c = 8255 := fun z => g6 (Or.inl z)
              have m4 : ¬ c = 8256 := fun z => g6 (Or.inr z)
              exact hF (by simp [isNm, f1, m1, m2, f3, g4, f5, m3, m4])
end KLex
/-! ===== lexical functions, by places in a text T that ends at e ===== -/
def lk (T : Nat → Int) (e i : Nat) : Int := if i < e then T i else -1
def mt (T : Nat → Int) (e : Nat) : Nat → List Int → Bool
  | _, [] => true
  | i, c :: l => (lk T e i == c) && mt T e (i + 1) l
def skw (p : Int → Bool) (T : Nat → Int) : Nat → Nat → Nat
  | 0, i => i
  | n + 1, i => if p (T i) = true then skw p T n (i + 1) else i
/-- the first place from i on, below e, where p does not hold; e if there is none -/
def sk (p : Int → Bool) (T : Nat → Int) (e i : Nat) : Nat := skw p T (e - i) i
theorem sk_go {p : Int → Bool} {T : Nat → Int} {e i : Nat} (h : i < e) (hp : p (T i) = true) : sk p T e i = sk p T e (i + 1) := by
  unfold sk
  rw [show e - i = (e - (i + 1)) + 1 by omega]
  show (if p (T i) = true then skw p T (e - (i + 1)) (i + 1) else i) = _
  rw [if_pos hp]
theorem sk_stop {p : Int → Bool} {T : Nat → Int} {e i : Nat} (hp : p (T i) = false) : sk p T e i = i := by
  unfold sk
  cases e - i with
  | zero => rfl
  | succ n =>
    show (if p (T i) = true then skw p T n (i + 1) else i) = _
    rw [if_neg (by rw [hp]; decide)]
theorem sk_end {p : Int → Bool} {T : Nat → Int} {e i : Nat} (h : e ≤ i) : sk p T e i = i := by
  unfold sk
  rw [show e - i = 0 by omega]
  rfl
theorem skw_le {p : Int → Bool} {T : Nat → Int} : ∀ n i : Nat, i ≤ skw p T n i ∧ skw p T n i ≤ i + n := by
  intro n
  induction n with
  | zero => intro i; exact ⟨Nat.le_refl i, Nat.le_refl i⟩
  | succ n ih =>
    intro i
    show i ≤ (if p (T i) = true then skw p T n (i + 1) else i) ∧ (if p (T i) = true then skw p T n (i + 1) else i) ≤ i + (n + 1)
    have := ih (i + 1)
    split <;> omega
theorem sk_le {p : Int → Bool} {T : Nat → Int} {e i : Nat} (h : i ≤ e) : i ≤ sk p T e i ∧ sk p T e i ≤ e := by
  have := skw_le (p := p) (T := T) (e - i) i
  unfold sk
  omega
/-- position or NONE -/
def enc (o : Option Nat) : Int := match o with
  | none => -1
  | some n => (n : Int)
def ti (s : Nat) : List Int := (tx s).map Int32.toInt
theorem tN_i (s : Nat) : tN s = ((ti s).length : Int) := by simp [tN, ti]
theorem tC_i {s : Nat} {k : Nat} {x : Int} (hx : x = (k : Int)) (h : k < (ti s).length) : tC s x = (ti s)[k] := by
  have h2 : k < (tx s).length := by simpa [ti] using h
  unfold tC
  subst hx
  rw [show ((k : Int)).toNat = k by omega, List.getD_eq_getElem?_getD, List.getElem?_eq_getElem h2]
  simp [ti]
theorem ti_len (s : Nat) : (ti s).length < 1000 := by
  have := tx_len s
  simpa [ti] using this
def KT (L : Nat → Nat) (σ : IS) (e : Nat) : Prop := σ.1 16 17 = (e : Int) ∧ L 176 = 262144 ∧ e ≤ 262144
section KPos
variable {L : Nat → Nat} {Q : Int → IS → Prop} {σ : IS} {e : Nat}
theorem sp_KReader_look (hk : KT L σ e) {x : Int} (i : Nat) (hx : x = (i : Int)) (h : Q (lk (σ.2 176) e i) σ) : w_KReader_look L x Q σ := by
  obtain ⟨h1, h2, h3⟩ := hk
  unfold w_KReader_look
  rw [h1]
  refine ⟨fun c => ⟨by omega, by omega⟩, ?_⟩
  have e2 : (if x < (e : Int) then σ.2 176 (Int.toNat x) else (-1 : Int)) = lk (σ.2 176) e i := by
    unfold lk
    subst hx
    by_cases c : i < e
    · rw [if_pos c, if_pos (by omega), show Int.toNat (i : Int) = i by omega]
    · rw [if_neg c, if_neg (by omega)]
  rw [e2]
  exact h
theorem mt_drop {T : Nat → Int} {i k : Nat} {l : List Int} (hk : k < l.length) : mt T e (i + k) (l.drop k) = ((lk T e (i + k) == l[k]) && mt T e (i + (k + 1)) (l.drop (k + 1))) := by
  rw [List.drop_eq_getElem_cons hk]
  rfl
theorem sp_KReader_says (hk : KT L σ e) {x : Int} (i : Nat) (hx : x = (i : Int)) (hi : i ≤ e) {s : Nat} (h : Q (b1 (mt (σ.2 176) e i (ti s))) σ) : w_KReader_says L x s Q σ := by
  unfold w_KReader_says
  have hl := ti_len s
  have hk3 := hk.2.2
  rw [tN_i]
  refine WL_ind (fun k τ => τ = σ ∧ ∃ j : Nat, k = (j : Int) ∧ j ≤ (ti s).length ∧ mt (σ.2 176) e i (ti s) = mt (σ.2 176) e (i + j) ((ti s).drop j)) (fun k _ => ((ti s).length - k).toNat) ?_ 0 σ ⟨rfl, 0, rfl, by omega, by simp⟩
  rintro k τ ⟨rfl, j, rfl, hj, hm⟩ K hI
  try dsimp only
  unfold WJ
  try dsimp only
  by_cases c : (j : Int) < ((ti s).length : Int)
  · have c' : j < (ti s).length := by omega
    rw [if_pos c]
    rw [mt_drop c'] at hm
    refine ⟨⟨by omega, by omega⟩, sp_KReader_look hk (i + j) (by omega) ⟨⟨by omega, by omega⟩, ?_⟩⟩
    rw [tC_i rfl c']
    by_cases c2 : lk (τ.2 176) e (i + j) = (ti s)[j]
    · rw [if_pos c2]
      refine ⟨⟨by omega, by omega⟩, hI _ _ ⟨rfl, j + 1, by omega, by omega, ?_⟩ (by omega)⟩
      rw [hm]
      simp [c2]
    · rw [if_neg c2, if_neg (by omega)]
      have e3 : mt (τ.2 176) e i (ti s) = false := by
        rw [hm]
        simp [c2]
      rw [e3] at h
      exact h
  · rw [if_neg c]
    have e2 : j = (ti s).length := by omega
    rw [if_pos (by omega)]
    subst e2
    rw [List.drop_length] at hm
    rw [hm] at h
    exact h
/-- behind a word -/
def wd (T : Nat → Int) (e : Nat) (l : List Int) (o : Option Nat) : Option Nat := match o with
  | none => none
  | some i => if mt T e i l = true then some (i + l.length) else none
/-- a place of the text, or none -/
def ple (e : Nat) (o : Option Nat) : Prop := ∀ i, o = some i → i ≤ e
theorem mt_le {T : Nat → Int} : ∀ (l : List Int) (i : Nat), (∀ c ∈ l, c ≠ -1) → i ≤ e → mt T e i l = true → i + l.length ≤ e := by
  intro l
  induction l with
  | nil => intro i _ hi _; simpa using hi
  | cons c r ih =>
    intro i hc hi h
    have h' : ((lk T e i == c) && mt T e (i + 1) r) = true := h
    rw [Bool.and_eq_true] at h'
    have h1 : lk T e i = c := by simpa using h'.1
    have hlt : i < e := by
      by_cases z : i < e
      · exact z
      · unfold lk at h1
        rw [if_neg z] at h1
        exact absurd h1.symm (hc c List.mem_cons_self)
    have h2 := ih (i + 1) (fun c' hc' => hc c' (List.mem_cons_of_mem _ hc')) (by omega) h'.2
    simp only [List.length_cons]
    omega
theorem ti_pos : ∀ (s : Nat), ∀ c ∈ ti s, 0 ≤ c ∧ c ≤ 127 := by
  intro s c hc
  unfold ti at hc
  obtain ⟨b, hb, rfl⟩ := List.mem_map.mp hc
  unfold tx stx at hb
  split at hb
  · cases hq : stxT[s - 1000]? with
    | none => rw [hq] at hb; exact absurd hb (by simp)
    | some q =>
      rw [hq] at hb
      have h := (stx_asc q (List.mem_of_getElem? hq)).2 b hb
      exact ⟨Int32.le_iff_toInt_le.mp h.1, Int32.le_iff_toInt_le.mp h.2.1⟩
  · exact absurd hb (by simp)
theorem wd_le {T : Nat → Int} {s : Nat} {o : Option Nat} (h : ple e o) : ple e (wd T e (ti s) o) := by
  intro j hj
  unfold wd at hj
  split at hj
  · cases hj
  · rename_i i
    split at hj
    · rename_i hm
      cases hj
      exact mt_le (ti s) i (fun c hc => by have := ti_pos s c hc; omega) (h i rfl) hm
    · cases hj
theorem sp_KReader_word (hk : KT L σ e) {x : Int} (o : Option Nat) (hx : x = enc o) (ho : ple e o) {s : Nat} (h : Q (enc (wd (σ.2 176) e (ti s) o)) σ) : w_KReader_word L x s Q σ := by
  unfold w_KReader_word WJ
  try dsimp only
  have hl := ti_len s
  have hk3 := hk.2.2
  cases o with
  | none =>
    rw [if_pos (by rw [hx]; decide)]
    exact h
  | some i =>
    have hi := ho i rfl
    have hx' : x = (i : Int) := hx
    rw [if_neg (by omega)]
    refine sp_KReader_says hk i hx' hi ?_
    rw [if_b1]
    have hw : wd (σ.2 176) e (ti s) (some i) = if mt (σ.2 176) e i (ti s) = true then some (i + (ti s).length) else none := rfl
    rw [hw] at h
    by_cases c : mt (σ.2 176) e i (ti s) = true
    · rw [if_pos c] at h ⊢
      rw [tN_i]
      refine ⟨⟨by omega, by omega⟩, ?_⟩
      rw [show x + ((ti s).length : Int) = enc (some (i + (ti s).length)) by show x + ((ti s).length : Int) = ((i + (ti s).length : Nat) : Int); omega]
      exact h
    · rw [if_neg c] at h ⊢
      exact h
def asp (T : Nat → Int) (e : Nat) (o : Option Nat) : Option Nat := o.map (sk isSp T e)
def spc (T : Nat → Int) (e : Nat) (o : Option Nat) : Option Nat := match o with
  | none => none
  | some i => if sk isSp T e i = i then none else some (sk isSp T e i)
theorem asp_le {T : Nat → Int} {o : Option Nat} (h : ple e o) : ple e (asp T e o) := by
  intro j hj
  cases o with
  | none => cases hj
  | some i =>
    have : sk isSp T e i = j := Option.some.inj hj
    have := sk_le (p := isSp) (T := T) (h i rfl)
    omega
theorem spc_le {T : Nat → Int} {o : Option Nat} (h : ple e o) : ple e (spc T e o) := by
  intro j hj
  cases o with
  | none => cases hj
  | some i =>
    have hj' : (if sk isSp T e i = i then none else some (sk isSp T e i)) = some j := hj
    split at hj'
    · cases hj'
    · cases hj'
      exact (sk_le (p := isSp) (T := T) (h i rfl)).2
theorem lk_sp {T : Nat → Int} {i : Nat} {p : Int → Bool} (hp : p (-1) = false) : (i < e → p (lk T e i) = p (T i)) ∧ (¬ i < e → p (lk T e i) = false) := by
  unfold lk
  constructor
  · intro h; rw [if_pos h]
  · intro h; rw [if_neg h]; exact hp
theorem sp_KReader_anySpaces (hk : KT L σ e) {x : Int} (o : Option Nat) (hx : x = enc o) (ho : ple e o) (h : Q (enc (asp (σ.2 176) e o)) σ) : w_KReader_anySpaces L x Q σ := by
  unfold w_KReader_anySpaces
  have hk3 := hk.2.2
  cases o with
  | none =>
    rw [if_pos (by rw [hx]; decide)]
    exact h
  | some i =>
    have hi := ho i rfl
    have hx' : x = (i : Int) := hx
    rw [if_neg (by omega)]
    refine WL_ind (fun k τ => τ = σ ∧ ∃ j : Nat, k = (j : Int) ∧ j ≤ e ∧ sk isSp (σ.2 176) e i = sk isSp (σ.2 176) e j) (fun k _ => (e - k).toNat) ?_ x σ ⟨rfl, i, hx', hi, rfl⟩
    rintro k τ ⟨rfl, j, rfl, hj, hs⟩ K hI
    try dsimp only
    refine sp_KReader_look hk j rfl (sp_K_isSpace ?_)
    rw [if_b1]
    have hlk := lk_sp (e := e) (T := τ.2 176) (i := j) (p := isSp) (by decide)
    by_cases c : j < e
    · rw [hlk.1 c]
      by_cases c2 : isSp (τ.2 176 j) = true
      · rw [if_pos c2]
        exact ⟨⟨by omega, by omega⟩, hI _ _ ⟨rfl, j + 1, by omega, by omega, by rw [hs, sk_go c c2]⟩ (by omega)⟩
      · rw [if_neg c2]
        have e2 : asp (τ.2 176) e (some i) = some j := by
          show some (sk isSp (τ.2 176) e i) = some j
          rw [hs, sk_stop (by simpa using c2)]
        rw [e2] at h
        exact h
    · rw [hlk.2 c, if_neg (by decide)]
      have e2 : asp (τ.2 176) e (some i) = some j := by
        show some (sk isSp (τ.2 176) e i) = some j
        rw [hs, sk_end (by omega)]
      rw [e2] at h
      exact h
theorem sp_KReader_spaces (hk : KT L σ e) {x : Int} (o : Option Nat) (hx : x = enc o) (ho : ple e o) (h : Q (enc (spc (σ.2 176) e o)) σ) : w_KReader_spaces L x Q σ := by
  unfold w_KReader_spaces
  refine sp_KReader_anySpaces hk o hx ho ?_
  cases o with
  | none =>
    have e2 : (if enc (asp (σ.2 176) e none) = x then (-1 : Int) else enc (asp (σ.2 176) e none)) = enc (spc (σ.2 176) e none) := by
      rw [hx]
      rfl
    rw [e2]
    exact h
  | some i =>
    have e2 : (if enc (asp (σ.2 176) e (some i)) = x then (-1 : Int) else enc (asp (σ.2 176) e (some i))) = enc (spc (σ.2 176) e (some i)) := by
      show (if ((sk isSp (σ.2 176) e i : Nat) : Int) = x then (-1 : Int) else ((sk isSp (σ.2 176) e i : Nat) : Int)) = enc (if sk isSp (σ.2 176) e i = i then none else some (sk isSp (σ.2 176) e i))
      have hx' : x = (i : Int) := hx
      by_cases c : sk isSp (σ.2 176) e i = i
      · rw [if_pos c, if_pos (by omega)]
        rfl
      · rw [if_neg c, if_neg (by omega)]
        rfl
    rw [e2]
    exact h
def nmg (T : Nat → Int) (e : Nat) (name : Bool) (o : Option Nat) : Option Nat := match o with
  | none => none
  | some i => if (if name = true then isSt (lk T e i) else isNm (lk T e i)) = true then some (sk isNm T e (i + 1)) else none
theorem nmg_lt {T : Nat → Int} {name : Bool} {i j : Nat} (h : nmg T e name (some i) = some j) : i < e ∧ i < j ∧ j ≤ e := by
  have h' : (if (if name = true then isSt (lk T e i) else isNm (lk T e i)) = true then some (sk isNm T e (i + 1)) else none) = some j := h
  by_cases hc : (if name = true then isSt (lk T e i) else isNm (lk T e i)) = true
  · rw [if_pos hc] at h'
    have hlt : i < e := by
      by_cases z : i < e
      · exact z
      · unfold lk at hc
        rw [if_neg z] at hc
        cases name <;> exact absurd hc (by decide)
    have := sk_le (p := isNm) (T := T) (show i + 1 ≤ e by omega)
    have h2 := Option.some.inj h'
    omega
  · rw [if_neg hc] at h'
    cases h'
theorem nmg_le {T : Nat → Int} {name : Bool} {o : Option Nat} : ple e (nmg T e name o) := by
  intro j hj
  cases o with
  | none => cases hj
  | some i => exact (nmg_lt hj).2.2
theorem sp_sk (p : Int → Bool) (hp : p (-1) = false) (hk : KT L σ e) {W : Int → (Int → IS → Prop) → IS → Prop} (hW : ∀ (c : Int) (R : Int → IS → Prop), R (b1 (p c)) σ → W c R σ) {i : Nat} (hi : i ≤ e) {x : Int} (hx : x = (i : Int)) (h : Q ((sk p (σ.2 176) e i : Nat) : Int) σ) :
    WL (fun (K : Int → IS → Prop) (s : Int) (τ : IS) => w_KReader_look L s (fun v σ1 => W v (fun b σ2 => if b = 0 then Q s σ2 else inR (s + 1) ∧ K (s + 1) σ2) σ1) τ) x σ := by
  have hk3 := hk.2.2
  refine WL_ind (fun k τ => τ = σ ∧ ∃ j : Nat, k = (j : Int) ∧ j ≤ e ∧ sk p (σ.2 176) e i = sk p (σ.2 176) e j) (fun k _ => (e - k).toNat) ?_ x σ ⟨rfl, i, hx, hi, rfl⟩
  rintro k τ ⟨rfl, j, rfl, hj, hs⟩ K hI
  try dsimp only
  refine sp_KReader_look hk j rfl (hW _ _ ?_)
  rw [if_b1]
  have hlk := lk_sp (e := e) (T := τ.2 176) (i := j) (p := p) hp
  by_cases c : j < e
  · rw [hlk.1 c]
    by_cases c2 : p (τ.2 176 j) = true
    · rw [if_pos c2]
      exact ⟨⟨by omega, by omega⟩, hI _ _ ⟨rfl, j + 1, by omega, by omega, by rw [hs, sk_go c c2]⟩ (by omega)⟩
    · rw [if_neg c2]
      rw [hs, sk_stop (by simpa using c2)] at h
      exact h
  · rw [hlk.2 c, if_neg (by decide)]
    rw [hs, sk_end (by omega)] at h
    exact h
theorem sp_KReader_naming (hk : KT L σ e) {x a2 : Int} (o : Option Nat) (hx : x = enc o) (ho : ple e o) (name : Bool) (ha : a2 = b1 name) (h : Q (enc (nmg (σ.2 176) e name o)) σ) : w_KReader_naming L x a2 Q σ := by
  unfold w_KReader_naming WJ
  try dsimp only
  have hk3 := hk.2.2
  cases o with
  | none =>
    rw [if_pos (by rw [hx]; decide)]
    exact h
  | some i =>
    have hi := ho i rfl
    have hx' : x = (i : Int) := hx
    rw [if_neg (by omega)]
    have hgo : ∀ b : Bool, nmg (σ.2 176) e name (some i) = (if b = true then some (sk isNm (σ.2 176) e (i + 1)) else none) → (b = true → i < e) → (if b = true then inR (x + 1) ∧ WL (fun (K10 : Int → IS → Prop) (s12 : Int) (σ13 : IS) => w_KReader_look L s12 (fun v15 σ14 => w_K_isNaming L v15 (fun v17 σ16 => if v17 = 0 then Q s12 σ16 else inR (s12 + 1) ∧ K10 (s12 + 1) σ16) σ14) σ13) (x + 1) σ else Q (-1) σ) := by
      intro b hb hlt
      rw [hb] at h
      cases b with
      | true =>
        have := hlt rfl
        rw [if_pos rfl] at h ⊢
        exact ⟨⟨by omega, by omega⟩, sp_sk isNm (by decide) hk (W := fun c R τ => w_K_isNaming L c R τ) (fun c R hR => sp_K_isNaming hR) (show i + 1 ≤ e by omega) (by omega) h⟩
      | false =>
        rw [if_neg (by decide)] at h ⊢
        exact h
    have hlt : ∀ p : Int → Bool, p (-1) = false → p (lk (σ.2 176) e i) = true → i < e := by
      intro p hp hc
      by_cases z : i < e
      · exact z
      · unfold lk at hc
        rw [if_neg z, hp] at hc
        cases hc
    cases name with
    | false =>
      rw [if_pos (by rw [ha]; decide)]
      refine sp_KReader_look hk i hx' (sp_K_isNaming ?_)
      rw [if_b1]
      exact hgo _ rfl (hlt isNm (by decide))
    | true =>
      rw [if_neg (by rw [ha]; decide)]
      refine sp_KReader_look hk i hx' (sp_K_isStart ?_)
      rw [if_b1]
      exact hgo _ rfl (hlt isSt (by decide))
theorem sp_KReader_name (hk : KT L σ e) {x : Int} (o : Option Nat) (hx : x = enc o) (ho : ple e o) (h : Q (enc (nmg (σ.2 176) e true o)) σ) : w_KReader_name L x Q σ := by
  unfold w_KReader_name
  exact sp_KReader_naming hk o hx ho true rfl h
def isQt (c : Int) : Bool := c == 34 || c == 39
def ltl (T : Nat → Int) (e : Nat) (o : Option Nat) : Option Nat := match o with
  | none => none
  | some i => if isQt (lk T e i) = true then (if sk (fun c => !(c == T i)) T e (i + 1) < e then some (sk (fun c => !(c == T i)) T e (i + 1) + 1) else none) else none
theorem ltl_le {T : Nat → Int} {o : Option Nat} : ple e (ltl T e o) := by
  intro j hj
  cases o with
  | none => cases hj
  | some i =>
    have h' : (if isQt (lk T e i) = true then (if sk (fun c => !(c == T i)) T e (i + 1) < e then some (sk (fun c => !(c == T i)) T e (i + 1) + 1) else none) else none) = some j := hj
    split at h'
    · split at h'
      · cases h'; omega
      · cases h'
    · cases h'
theorem sp_KReader_literal (hk : KT L σ e) {x : Int} (o : Option Nat) (hx : x = enc o) (ho : ple e o) (h : Q (enc (ltl (σ.2 176) e o)) σ) : w_KReader_literal L x Q σ := by
  unfold w_KReader_literal WJ
  try dsimp only
  have hk' := hk
  obtain ⟨hk1, hk2, hk3⟩ := hk'
  cases o with
  | none =>
    rw [if_pos (by rw [hx]; decide)]
    exact h
  | some i =>
    have hi := ho i rfl
    have hx' : x = (i : Int) := hx
    rw [if_neg (by omega)]
    refine sp_KReader_look hk i hx' (sp_KReader_isQuote ?_)
    have hd : enc (ltl (σ.2 176) e (some i)) = enc (if isQt (lk (σ.2 176) e i) = true then (if sk (fun c => !(c == σ.2 176 i)) (σ.2 176) e (i + 1) < e then some (sk (fun c => !(c == σ.2 176 i)) (σ.2 176) e (i + 1) + 1) else none) else none) := rfl
    rw [hd] at h
    rw [if_b1]
    by_cases c : isQt (lk (σ.2 176) e i) = true
    · rw [if_pos c] at h
      rw [if_pos (show (lk (σ.2 176) e i == 34 || lk (σ.2 176) e i == 39) = true from c)]
      have hlt : i < e := by
        by_cases z : i < e
        · exact z
        · unfold lk at c
          rw [if_neg z] at c
          exact absurd c (by decide)
      refine ⟨⟨by omega, by omega⟩, ?_⟩
      refine WL_ind (fun k τ => τ = σ ∧ ∃ j : Nat, k = (j : Int) ∧ j ≤ e ∧ sk (fun c => !(c == σ.2 176 i)) (σ.2 176) e (i + 1) = sk (fun c => !(c == σ.2 176 i)) (σ.2 176) e j) (fun k _ => (e - k).toNat) ?_ (x + 1) σ ⟨rfl, i + 1, by omega, by omega, rfl⟩
      rintro k τ ⟨rfl, j, rfl, hj, hs⟩ K hI
      try dsimp only
      rw [hk1, show Int.toNat (j : Int) = j by omega, show Int.toNat x = i by omega]
      refine ⟨fun c2 => ⟨⟨by omega, by omega⟩, by omega, by omega⟩, ?_⟩
      by_cases c2 : (j : Int) < (e : Int) ∧ ¬ τ.2 176 j = τ.2 176 i
      · rw [if_pos c2]
        exact ⟨⟨by omega, by omega⟩, hI _ _ ⟨rfl, j + 1, by omega, by omega, by rw [hs, sk_go (by omega) (by simpa using c2.2)]⟩ (by omega)⟩
      · rw [if_neg c2]
        refine ⟨fun c3 => ⟨by omega, by omega⟩, ?_⟩
        have hj2 : sk (fun c => !(c == τ.2 176 i)) (τ.2 176) e (i + 1) = j := by
          rw [hs]
          by_cases c3 : j < e
          · exact sk_stop (by
              have : τ.2 176 j = τ.2 176 i := Classical.byContradiction (fun z => c2 ⟨by omega, z⟩)
              simp [this])
          · exact sk_end (by omega)
        rw [hj2] at h
        by_cases c3 : j < e
        · rw [if_pos c3] at h
          rw [if_pos (by omega)]
          exact h
        · rw [if_neg c3] at h
          rw [if_neg (by omega)]
          exact h
    · rw [if_neg c] at h
      rw [if_neg (show ¬ (lk (σ.2 176) e i == 34 || lk (σ.2 176) e i == 39) = true from c)]
      exact h
end KPos
