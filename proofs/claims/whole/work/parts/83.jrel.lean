/-! ===== the class's state as a picture of the pure machine's ===== -/
/-- the same in some cells -/
def ag (F : Nat → Nat → Bool) (R : Nat → Bool) (σ σ' : IS) : Prop := (∀ o k, F o k = true → σ'.1 o k = σ.1 o k) ∧ ∀ r, R r = true → σ'.2 r = σ.2 r
section Ag
variable {F : Nat → Nat → Bool} {R : Nat → Bool} {σ σ' σ'' : IS}
theorem ag.refl : ag F R σ σ := ⟨fun _ _ _ => rfl, fun _ _ => rfl⟩
theorem ag.trans (h1 : ag F R σ σ') (h2 : ag F R σ' σ'') : ag F R σ σ'' := ⟨fun o k h => (h2.1 o k h).trans (h1.1 o k h), fun r h => (h2.2 r h).trans (h1.2 r h)⟩
theorem ag.pf {o k : Nat} {x : Int} (h : ag F R σ σ') (hF : F o k = false) : ag F R σ (pf σ' o k x) := ⟨fun p j hp => by rw [pf_1, if_neg (fun z => by rw [z.1, z.2, hF] at hp; cases hp)]; exact h.1 p j hp, h.2⟩
theorem ag.pr {r i : Nat} {x : Int} (h : ag F R σ σ') (hR : R r = false) : ag F R σ (pr σ' r i x) := ⟨h.1, fun q hq => (funext (fun j => by rw [pr_2, if_neg (fun z => by rw [z.1, hR] at hq; cases hq)])).trans (h.2 q hq)⟩
end Ag
/-- which element was open when k were -/
def els (os : List Nat) (k : Nat) : Int := if k = 0 then -1 else ((os.getD (os.length - k) 0 : Nat) : Int)
def lvl (fr : List Frm) (i : Nat) : Frm := fr.getD (fr.length - 1 - i) ([], 0, 0)
/-- texts that are gone through -/
def JFr (σ : IS) (fr : List Frm) (os : List Nat) : Prop := σ.1 3 12 + 1 = (fr.length : Int) ∧ 0 < fr.length ∧ (Jt σ (σ.1 2 2) (lvl fr (fr.length - 1)).1 ∧ σ.1 2 3 = σ.1 2 2 + ((lvl fr (fr.length - 1)).1.length : Int)) ∧
  ∀ i, i + 1 < fr.length → Jt σ (σ.2 110 i) (lvl fr i).1 ∧ σ.2 111 i = σ.2 110 i + ((lvl fr i).1.length : Int) ∧ σ.2 112 i + 1 = ((lvl fr (i + 1)).2.1 : Int) ∧ σ.2 113 i = els os (lvl fr (i + 1)).2.2
def en1 (o : Option Nat) : Int := match o with
  | none => 0
  | some i => (i : Int) + 1
/-- entities -/
def JEn (L : Nat → Nat) (σ : IS) (en : List Ent) (bs : List Nat) : Prop := σ.1 3 5 = (en.length : Int) ∧ (∀ i, i < en.length → Jt σ (σ.2 107 i) (en.getD i ([], false, [])).2.2 ∧ σ.2 108 i = ((en.getD i ([], false, [])).2.2.length : Int) ∧ σ.2 109 i = if (i + 1) ∈ bs then 1 else 0) ∧
  WM L σ 114 (fun s => en1 (eno en s false)) ∧ WM L σ 115 (fun s => en1 (eno en s true))
/-- declared elements -/
def JEd (L : Nat → Nat) (σ : IS) (ed : List EDc) : Prop := σ.1 4 3 = (ed.length : Int) ∧ (∀ i, i < ed.length → Jn σ (σ.2 147 i) (ed.getD i ([], 0, [])).1 ∧ σ.2 116 i = ((ed.getD i ([], 0, [])).2.1 : Int) ∧ Jt σ (σ.2 117 i) (ed.getD i ([], 0, [])).2.2) ∧ WM L σ 125 (fun s => en1 (edf ed s))
def adE (ad : List ADc) (s : Str) : Option Nat := ad.findIdx? (fun x => x.1 == s)
/-- the next one of the same element -/
def adX (ad : List ADc) (i : Nat) : Option Nat := ((ad.drop (i + 1)).findIdx? (fun x => x.1 == (ad.getD i ([], [], 0, 0, [], [])).1)).map (fun j => i + 1 + j)
/-- how a default is numbered in the class -/
def jhw (h : Nat) : Int := if h = 1 then 1 else if h = 2 then 0 else (h : Int) - 1
def JAd (L : Nat → Nat) (σ : IS) (ad : List ADc) : Prop := σ.1 4 12 = (ad.length : Int) ∧ (∀ i, i < ad.length → Jn σ (σ.2 148 i) (ad.getD i ([], [], 0, 0, [], [])).2.1 ∧ σ.2 118 i = ((ad.getD i ([], [], 0, 0, [], [])).2.2.1 : Int) + 10 ∧ σ.2 119 i = jhw (ad.getD i ([], [], 0, 0, [], [])).2.2.2.1 ∧
    (3 ≤ (ad.getD i ([], [], 0, 0, [], [])).2.2.2.1 → Jn σ (σ.2 120 i) (ad.getD i ([], [], 0, 0, [], [])).2.2.2.2.1) ∧ σ.2 122 i = ((ad.getD i ([], [], 0, 0, [], [])).2.2.2.2.2.length : Int) ∧
    (∃ b : Nat, σ.2 121 i = (b : Int) ∧ (b : Int) + ((ad.getD i ([], [], 0, 0, [], [])).2.2.2.2.2.length : Int) ≤ σ.1 4 16 ∧ ∀ k, k < (ad.getD i ([], [], 0, 0, [], [])).2.2.2.2.2.length → Jn σ (σ.2 124 (b + k)) ((ad.getD i ([], [], 0, 0, [], [])).2.2.2.2.2.getD k [])) ∧ σ.2 123 i + 1 = en1 (adX ad i)) ∧
  WM L σ 126 (fun s => en1 (adE ad s)) ∧ 0 ≤ σ.1 4 16
/-- those that stand there before -/
def ndu : List Str → Nat
  | [] => 0
  | s :: r => ndu r + (if s ∈ r then 1 else 0)
def JNt (L : Nat → Nat) (σ : IS) (nt : List Str) : Prop := σ.1 4 18 = (ndu nt : Int) ∧ WM L σ 127 (fun s => if s ∈ nt then 1 else 0)
/-- what is noted of an element -/
def cbt (v : Int) (t s : Bool) : Prop := (0 ≤ v ∧ v ≤ 7) ∧ (v = 0 ↔ t = false) ∧ (ia v 6 ≠ 0 ↔ s = true)
abbrev elD : Elm := ([], 0, 0, 0, 0, false, false)
abbrev atD : Att := ([], [], none)
def opn (os : List Nat) : Int := match os with
  | [] => -1
  | e :: _ => (e : Int)
def JEl (σ : IS) (el : List Elm) (os : List Nat) : Prop := σ.1 6 2 = (el.length : Int) ∧ σ.1 6 3 = opn os ∧ ∀ i, i < el.length → Jn σ (σ.2 146 i) (el.getD i elD).1 ∧ σ.2 129 i = (el.getD i elD).2.1 ∧ σ.2 130 i = ((el.getD i elD).2.2.1 : Int) ∧ σ.2 131 i = ((el.getD i elD).2.2.2.1 : Int) ∧ σ.2 132 i = ((el.getD i elD).2.2.2.2.1 : Int) ∧ cbt (σ.2 133 i) (el.getD i elD).2.2.2.2.2.1 (el.getD i elD).2.2.2.2.2.2
def JAt (σ : IS) (at_ : List Att) : Prop := σ.1 6 10 = (at_.length : Int) ∧ ∀ i, i < at_.length → Jn σ (σ.2 161 i) (at_.getD i atD).1 ∧ Jn σ (σ.2 134 i) (at_.getD i atD).2.1 ∧ σ.2 135 i + 1 = en1 (at_.getD i atD).2.2
def jev (σ : IS) : Nat → List Evt → Nat → Prop
  | i, [], j => i = j
  | i, .inl c :: r, j => σ.2 136 i = c ∧ jev σ (i + 1) r j
  | i, .inr (t, s) :: r, j => σ.2 136 i = -2 ∧ (Jt σ (σ.2 136 (i + 1)) t ∧ σ.2 136 (i + 2) = (t.length : Int)) ∧ (Jt σ (σ.2 136 (i + 3)) s ∧ σ.2 136 (i + 4) = (s.length : Int)) ∧ jev σ (i + 5) r j
def evl : List Evt → Nat
  | [] => 0
  | .inl _ :: r => evl r + 1
  | .inr _ :: r => evl r + 5
def ltr : List Evt → Nat
  | [] => 0
  | .inl c :: r => ltr r + (if 0 ≤ c then 1 else 0)
  | .inr _ :: r => ltr r
def JSt (σ : IS) (st : List Evt) : Prop := σ.1 6 15 = (evl st : Int) ∧ σ.1 6 16 = (ltr st : Int) ∧ jev σ 0 st (evl st)
def JNu (σ : IS) (n : Nat → Nat) : Prop := σ.1 3 13 = (n 0 : Int) ∧ σ.1 3 14 = (n 1 : Int) ∧ σ.1 6 1 = (n 3 : Int) ∧ σ.1 3 15 = (n 5 : Int) ∧ σ.1 3 16 = (n 6 : Int) ∧ σ.1 5 6 = if n 4 = 1 then 1 else 0
def JRo (σ : IS) (r : Option Str) : Prop := σ.1 5 5 = (if r.isSome = true then 1 else 0) ∧ ∀ s, r = some s → Jn σ (σ.1 5 7) s
section Dep
variable {L : Nat → Nat} {σ σ' : IS}
def fFr : Nat → Nat → Bool := fun o k => (o == 3 && k == 12) || (o == 2 && (k == 2 || k == 3))
def rFr : Nat → Bool := fun r => r == 110 || (r == 111 || (r == 112 || r == 113))
theorem JFr.dep {fr : List Frm} {os : List Nat} (h : JFr σ fr os) (g : sgr σ σ') (a : ag fFr rFr σ σ') : JFr σ' fr os := by
  obtain ⟨h1, h2, h3, h4⟩ := h
  unfold JFr
  rw [a.1 3 12 rfl, a.1 2 2 rfl, a.1 2 3 rfl, a.2 110 rfl, a.2 111 rfl, a.2 112 rfl, a.2 113 rfl]
  exact ⟨h1, h2, ⟨h3.1.gr g, h3.2⟩, fun i hi => ⟨(h4 i hi).1.gr g, (h4 i hi).2⟩⟩
def fEn : Nat → Nat → Bool := fun o k => o == 3 && k == 5
def rEn : Nat → Bool := fun r => r == 107 || (r == 108 || (r == 109 || (r == 114 || r == 115)))
theorem JEn.dep {en : List Ent} {bs : List Nat} (h : JEn L σ en bs) (g : sgr σ σ') (hS : SI L σ') (hl : SL L) (a : ag fEn rEn σ σ') : JEn L σ' en bs := by
  obtain ⟨h1, h2, h3, h4⟩ := h
  refine ⟨by rw [a.1 3 5 rfl]; exact h1, fun i hi => ?_, h3.gr g hS hl (a.2 114 rfl), h4.gr g hS hl (a.2 115 rfl)⟩
  rw [a.2 107 rfl, a.2 108 rfl, a.2 109 rfl]
  exact ⟨(h2 i hi).1.gr g, (h2 i hi).2⟩
def fEd : Nat → Nat → Bool := fun o k => o == 4 && k == 3
def rEd : Nat → Bool := fun r => r == 147 || (r == 116 || (r == 117 || r == 125))
theorem JEd.dep {ed : List EDc} (h : JEd L σ ed) (g : sgr σ σ') (hS : SI L σ') (hl : SL L) (a : ag fEd rEd σ σ') : JEd L σ' ed := by
  obtain ⟨h1, h2, h3⟩ := h
  refine ⟨by rw [a.1 4 3 rfl]; exact h1, fun i hi => ?_, h3.gr g hS hl (a.2 125 rfl)⟩
  rw [a.2 147 rfl, a.2 116 rfl, a.2 117 rfl]
  exact ⟨(h2 i hi).1.gr g, (h2 i hi).2.1, (h2 i hi).2.2.gr g⟩
def fAd : Nat → Nat → Bool := fun o k => o == 4 && (k == 12 || k == 16)
def rAd : Nat → Bool := fun r => r == 148 || (r == 118 || (r == 119 || (r == 120 || (r == 121 || (r == 122 || (r == 123 || (r == 124 || r == 126)))))))
theorem JAd.dep {ad : List ADc} (h : JAd L σ ad) (g : sgr σ σ') (hS : SI L σ') (hl : SL L) (a : ag fAd rAd σ σ') : JAd L σ' ad := by
  obtain ⟨h1, h2, h3, h4⟩ := h
  refine ⟨by rw [a.1 4 12 rfl]; exact h1, fun i hi => ?_, h3.gr g hS hl (a.2 126 rfl), by rw [a.1 4 16 rfl]; exact h4⟩
  rw [a.2 148 rfl, a.2 118 rfl, a.2 119 rfl, a.2 120 rfl, a.2 121 rfl, a.2 122 rfl, a.2 123 rfl, a.2 124 rfl, a.1 4 16 rfl]
  obtain ⟨b1, b2, b3, b4, b5, ⟨b, b6, b7, b8⟩, b9⟩ := h2 i hi
  exact ⟨b1.gr g, b2, b3, fun z => (b4 z).gr g, b5, ⟨b, b6, b7, fun k hk => (b8 k hk).gr g⟩, b9⟩
def fNt : Nat → Nat → Bool := fun o k => o == 4 && k == 18
def rNt : Nat → Bool := fun r => r == 127
theorem JNt.dep {nt : List Str} (h : JNt L σ nt) (g : sgr σ σ') (hS : SI L σ') (hl : SL L) (a : ag fNt rNt σ σ') : JNt L σ' nt := ⟨by rw [a.1 4 18 rfl]; exact h.1, h.2.gr g hS hl (a.2 127 rfl)⟩
def fEl : Nat → Nat → Bool := fun o k => o == 6 && (k == 2 || k == 3)
def rEl : Nat → Bool := fun r => r == 146 || (r == 129 || (r == 130 || (r == 131 || (r == 132 || r == 133))))
theorem JEl.dep {el : List Elm} {os : List Nat} (h : JEl σ el os) (g : sgr σ σ') (a : ag fEl rEl σ σ') : JEl σ' el os := by
  obtain ⟨h1, h2, h3⟩ := h
  refine ⟨by rw [a.1 6 2 rfl]; exact h1, by rw [a.1 6 3 rfl]; exact h2, fun i hi => ?_⟩
  rw [a.2 146 rfl, a.2 129 rfl, a.2 130 rfl, a.2 131 rfl, a.2 132 rfl, a.2 133 rfl]
  exact ⟨(h3 i hi).1.gr g, (h3 i hi).2⟩
def fAt : Nat → Nat → Bool := fun o k => o == 6 && k == 10
def rAt : Nat → Bool := fun r => r == 161 || (r == 134 || r == 135)
theorem JAt.dep {at_ : List Att} (h : JAt σ at_) (g : sgr σ σ') (a : ag fAt rAt σ σ') : JAt σ' at_ := by
  obtain ⟨h1, h2⟩ := h
  refine ⟨by rw [a.1 6 10 rfl]; exact h1, fun i hi => ?_⟩
  rw [a.2 161 rfl, a.2 134 rfl, a.2 135 rfl]
  exact ⟨(h2 i hi).1.gr g, (h2 i hi).2.1.gr g, (h2 i hi).2.2⟩
def fSt : Nat → Nat → Bool := fun o k => o == 6 && (k == 15 || k == 16)
def rSt : Nat → Bool := fun r => r == 136
theorem jev.dep (g : sgr σ σ') : ∀ (st : List Evt) (i j : Nat), (∀ k, k < j → σ'.2 136 k = σ.2 136 k) → i + evl st = j → jev σ i st j → jev σ' i st j := by
  intro st
  induction st with
  | nil => intro i j _ _ h; exact h
  | cons v r ih =>
    intro i j hr he h
    cases v with
    | inl c =>
      have he' : i + (evl r + 1) = j := he
      have h' : σ.2 136 i = c ∧ jev σ (i + 1) r j := h
      exact ⟨by rw [hr i (by omega)]; exact h'.1, ih (i + 1) j hr (by omega) h'.2⟩
    | inr q =>
      obtain ⟨t, s⟩ := q
      have he' : i + (evl r + 5) = j := he
      have h' : σ.2 136 i = -2 ∧ (Jt σ (σ.2 136 (i + 1)) t ∧ σ.2 136 (i + 2) = (t.length : Int)) ∧ (Jt σ (σ.2 136 (i + 3)) s ∧ σ.2 136 (i + 4) = (s.length : Int)) ∧ jev σ (i + 5) r j := h
      refine ⟨by rw [hr i (by omega)]; exact h'.1, ⟨by rw [hr (i + 1) (by omega)]; exact h'.2.1.1.gr g, by rw [hr (i + 2) (by omega)]; exact h'.2.1.2⟩, ⟨by rw [hr (i + 3) (by omega)]; exact h'.2.2.1.1.gr g, by rw [hr (i + 4) (by omega)]; exact h'.2.2.1.2⟩, ih (i + 5) j hr (by omega) h'.2.2.2⟩
theorem JSt.dep {st : List Evt} (h : JSt σ st) (g : sgr σ σ') (a : ag fSt rSt σ σ') : JSt σ' st := ⟨by rw [a.1 6 15 rfl]; exact h.1, by rw [a.1 6 16 rfl]; exact h.2.1, jev.dep g st 0 _ (fun k _ => by rw [a.2 136 rfl]) (by omega) h.2.2⟩
def fNu : Nat → Nat → Bool := fun o k => (o == 3 && (k == 13 || (k == 14 || (k == 15 || k == 16)))) || ((o == 6 && k == 1) || (o == 5 && k == 6))
def rNo : Nat → Bool := fun _ => false
theorem JNu.dep {n : Nat → Nat} (h : JNu σ n) (a : ag fNu rNo σ σ') : JNu σ' n := by
  unfold JNu
  rw [a.1 3 13 rfl, a.1 3 14 rfl, a.1 6 1 rfl, a.1 3 15 rfl, a.1 3 16 rfl, a.1 5 6 rfl]
  exact h
def fRo : Nat → Nat → Bool := fun o k => o == 5 && (k == 5 || k == 7)
theorem JRo.dep {r : Option Str} (h : JRo σ r) (g : sgr σ σ') (a : ag fRo rNo σ σ') : JRo σ' r := by
  unfold JRo
  rw [a.1 5 5 rfl, a.1 5 7 rfl]
  exact ⟨h.1, fun s hs => (h.2 s hs).gr g⟩
end Dep
