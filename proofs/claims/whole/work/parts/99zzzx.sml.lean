/-! ===== the class between calls: what it answers of a text ===== -/
/-- what was judged: a fault and its place, or what the text means -/
abbrev DOC : Type := (Nat × Int) ⊕ AS
/-- what holds of what a text means -/
def GOK (rm nd : Nat) (a : AS) : Prop := GI rm nd a ∧ fin a = true ∧ GV a ∧ GS a ∧ GDl a ∧ GW a ∧ GN a
/-- the class's picture of it -/
def JDc (L : Nat → Nat) (rm nd : Nat) (σ : IS) (d : DOC) : Prop := match d with
  | .inl fp => (σ.1 0 12 = 0 ∧ σ.1 0 13 = (fp.1 : Int) ∧ σ.1 0 14 = fp.2) ∧ TF σ
  | .inr a => JG L σ a ∧ GOK rm nd a
/-- a letter, or none -/
def ltAt (s : Str) (i : Int) : Int := if i < 0 then -1 else if i < (s.length : Int) then s.getD i.toNat 0 else -1
def anF : DOC → Int
  | .inl fp => (fp.1 : Int)
  | .inr _ => 0
def anP : DOC → Int
  | .inl fp => fp.2
  | .inr _ => -1
def anV (d : DOC) (k : Int) : Int := match d with
  | .inl _ => -1
  | .inr a => if 0 ≤ k ∧ k < 23 then (cnV a k.toNat : Int) else -1
noncomputable def anS (d : DOC) (k : Int) : Int := match d with
  | .inl _ => -1
  | .inr a => if 0 ≤ k ∧ k < 6 then (cnS a k.toNat : Int) else -1
/-- the elements and the attributes -/
def elO : DOC → List Elm
  | .inl _ => []
  | .inr a => aL a
def atO : DOC → List Att
  | .inl _ => []
  | .inr a => aB a
def anE (d : DOC) : Int := ((elO d).length : Int)
def hasE (d : DOC) (e : Int) : Bool := decide (0 ≤ e ∧ e < ((elO d).length : Int))
def anA (d : DOC) (e : Int) : Int := if hasE d e = true then (((elO d).getD e.toNat elD).2.2.2.1 : Int) else -1
def anR (d : DOC) (e : Int) : Int := if hasE d e = true then ((elO d).getD e.toNat elD).2.1 else -1
def anN (d : DOC) (e i : Int) : Int := if hasE d e = true then ltAt ((elO d).getD e.toNat elD).1 i else -1
def anT (d : DOC) (e a w i : Int) : Int := if hasE d e = true ∧ (0 ≤ a ∧ a < (((elO d).getD e.toNat elD).2.2.2.1 : Int)) ∧ (w = 0 ∨ w = 1) then ltAt (if w = 0 then ((atO d).getD (((elO d).getD e.toNat elD).2.2.1 + a.toNat) atD).1 else ((atO d).getD (((elO d).getD e.toNat elD).2.2.1 + a.toNat) atD).2.1) i else -1
def anC : DOC → Int
  | .inl _ => 0
  | .inr a => (ltr (aS a) : Int)
def anK : DOC → Int
  | .inl _ => 0
  | .inr a => (aN a 0 : Int)
section Sml
variable {L : Nat → Nat} {rm nd : Nat} {σ : IS} {d : DOC} {Q : Int → IS → Prop}
theorem sp_letterAt {w : Nat} {i : Int} (hS : SI L σ) (hl : SL L) (hw : w < jw σ) (hq : Q (ltAt (wst σ w) i) σ) : w_Store_letter L (w : Int) i Q σ := by
  obtain ⟨l1, l2, e1, e2, l3⟩ := hS.word hl hw
  have l9 : L 101 < 1000000 := hl.2.2.2.2.2.2.2
  have hln : (wst σ w).length = wsz σ w := by unfold wst; rw [sl_ln]
  by_cases h0 : i < 0
  · unfold ltAt at hq
    rw [if_pos h0] at hq
    unfold w_Store_letter
    rw [if_pos h0]
    exact ⟨fun z => absurd h0 z, hq⟩
  · obtain ⟨k, rfl⟩ : ∃ k : Nat, i = (k : Int) := ⟨i.toNat, by omega⟩
    unfold ltAt at hq
    rw [if_neg h0, hln, show Int.toNat (k : Int) = k from rfl] at hq
    by_cases hk : k < wsz σ w
    · rw [if_pos (by omega)] at hq
      exact sp_letter hS hl hw hk hq
    · rw [if_neg (by omega)] at hq
      unfold w_Store_letter
      rw [show Int.toNat (w : Int) = w from rfl, e2, if_neg h0, if_neg (by omega)]
      exact ⟨fun _ => ⟨⟨by omega, by omega⟩, fun z => by omega⟩, hq⟩
theorem JDc.el (h : JDc L rm nd σ d) : σ.1 6 2 = ((elO d).length : Int) := by
  cases d with
  | inl fp => exact h.2.2.1
  | inr a => exact h.1.2.1.1
theorem sp_J_fault (h : JDc L rm nd σ d) (hq : Q (anF d) σ) : w_J_fault L Q σ := by
  unfold w_J_fault
  cases d with
  | inl fp => rw [h.1.2.1]; exact hq
  | inr a => rw [h.1.1.2.1]; exact hq
theorem sp_J_place (h : JDc L rm nd σ d) (hq : Q (anP d) σ) : w_J_place L Q σ := by
  unfold w_J_place
  cases d with
  | inl fp => rw [h.1.2.2]; exact hq
  | inr a => rw [h.1.1.2.2]; exact hq
theorem sp_J_violations {k : Int} (h : JDc L rm nd σ d) (hL : L 149 = 23) (hq : Q (anV d k) σ) : w_J_violations L k Q σ := by
  unfold w_J_violations
  cases d with
  | inl fp =>
    rw [h.1.1, if_pos rfl]
    exact ⟨fun z => absurd rfl z, hq⟩
  | inr a =>
    rw [h.1.1.1, if_neg (by decide)]
    refine ⟨fun _ z1 z2 => ⟨by omega, by omega⟩, ?_⟩
    have hq' : Q (if 0 ≤ k ∧ k < 23 then (cnV a k.toNat : Int) else -1) σ := hq
    by_cases y : 0 ≤ k ∧ k < 23
    · rw [if_pos y] at hq'
      rw [if_neg (by omega), if_pos y.2, h.1.2.2.2.2.2.2.2.1]
      exact hq'
    · rw [if_neg y] at hq'
      by_cases y0 : k < 0
      · rw [if_pos y0]; exact hq'
      · rw [if_neg y0, if_neg (by omega)]; exact hq'
theorem sp_J_spaces {k : Int} (h : JDc L rm nd σ d) (hL : L 160 = 6) (hq : Q (anS d k) σ) : w_J_spaces L k Q σ := by
  unfold w_J_spaces
  cases d with
  | inl fp =>
    rw [h.1.1, if_pos rfl]
    exact ⟨fun z => absurd rfl z, hq⟩
  | inr a =>
    rw [h.1.1.1, if_neg (by decide)]
    refine ⟨fun _ z1 z2 => ⟨by omega, by omega⟩, ?_⟩
    have hq' : Q (if 0 ≤ k ∧ k < 6 then (cnS a k.toNat : Int) else -1) σ := hq
    by_cases y : 0 ≤ k ∧ k < 6
    · rw [if_pos y] at hq'
      rw [if_neg (by omega), if_pos y.2, h.1.2.2.2.2.2.2.2.2.1]
      exact hq'
    · rw [if_neg y] at hq'
      by_cases y0 : k < 0
      · rw [if_pos y0]; exact hq'
      · rw [if_neg y0, if_neg (by omega)]; exact hq'
theorem sp_J_elements (h : JDc L rm nd σ d) (hq : Q (anE d) σ) : w_J_elements L Q σ := by
  unfold w_J_elements
  rw [h.el]
  exact hq
theorem sp_J_characters (h : JDc L rm nd σ d) (hq : Q (anC d) σ) : w_J_characters L Q σ := by
  unfold w_J_characters
  cases d with
  | inl fp => rw [h.2.2.2.2.2.1]; exact hq
  | inr a => rw [h.1.2.2.2.1.2.1]; exact hq
theorem sp_J_counted (h : JDc L rm nd σ d) (hq : Q (anK d) σ) : w_J_counted L Q σ := by
  unfold w_J_counted
  cases d with
  | inl fp => rw [h.1.1, if_pos rfl]; exact hq
  | inr a => rw [h.1.1.1, if_neg (by decide), h.1.2.2.2.2.1.1]; exact hq
theorem sp_Tree_has {e : Int} (h : JDc L rm nd σ d) (hq : Q (b1 (hasE d e)) σ) : w_Tree_has L e Q σ := by
  unfold w_Tree_has
  rw [h.el]
  have : (if e < 0 then (0 : Int) else (if e < ((elO d).length : Int) then (1 : Int) else 0)) = b1 (hasE d e) := by
    unfold hasE
    by_cases y : e < 0
    · rw [if_pos y, decide_eq_false (by omega)]; rfl
    · rw [if_neg y]
      by_cases y2 : e < ((elO d).length : Int)
      · rw [if_pos y2, decide_eq_true (by omega)]; rfl
      · rw [if_neg y2, decide_eq_false (by omega)]; rfl
  rw [this]
  exact hq
theorem hasE_inr {e : Int} (he : hasE d e = true) : ∃ (a : AS) (k : Nat), d = .inr a ∧ e = (k : Int) ∧ k < (aL a).length := by
  unfold hasE at he
  have he' := of_decide_eq_true he
  cases d with
  | inl fp => exact absurd he'.2 (by show ¬ e < ((0 : Nat) : Int); omega)
  | inr a => exact ⟨a, e.toNat, rfl, by omega, by have h2 : e < ((aL a).length : Int) := he'.2; omega⟩
theorem sp_J_attributes {e : Int} (hln : JLn L rm nd) (h : JDc L rm nd σ d) (hq : Q (anA d e) σ) : w_J_attributes L e Q σ := by
  unfold w_J_attributes
  refine sp_Tree_has h ?_
  unfold anA at hq
  cases he : hasE d e with
  | false =>
    rw [he, if_neg (by decide)] at hq
    rw [if_pos (by decide)]
    exact ⟨fun z => absurd rfl z, hq⟩
  | true =>
    rw [he, if_pos rfl] at hq
    obtain ⟨a, k, rfl, rfl, hk⟩ := hasE_inr he
    have l131 := hln.2.2.2.2.2.2.2.2.2.2.1.1 131 (by omega) (by omega)
    have hnd : (aL a).length ≤ nd := by
      obtain ⟨⟨-, -, -, -, ⟨g7, g8⟩, -⟩, -⟩ := h.2.1
      omega
    rw [if_neg (by decide), show Int.toNat (k : Int) = k from rfl, (h.1.2.1.2.2 k hk).2.2.2.1]
    exact ⟨fun _ => ⟨by omega, by omega⟩, hq⟩
theorem sp_J_parent {e : Int} (hln : JLn L rm nd) (h : JDc L rm nd σ d) (hq : Q (anR d e) σ) : w_J_parent L e Q σ := by
  unfold w_J_parent
  refine sp_Tree_has h ?_
  unfold anR at hq
  cases he : hasE d e with
  | false =>
    rw [he, if_neg (by decide)] at hq
    rw [if_pos (by decide)]
    exact ⟨fun z => absurd rfl z, hq⟩
  | true =>
    rw [he, if_pos rfl] at hq
    obtain ⟨a, k, rfl, rfl, hk⟩ := hasE_inr he
    have l129 := hln.2.2.2.2.2.2.2.2.2.2.1.1 129 (by omega) (by omega)
    have hnd : (aL a).length ≤ nd := by
      obtain ⟨⟨-, -, -, -, ⟨g7, g8⟩, -⟩, -⟩ := h.2.1
      omega
    rw [if_neg (by decide), show Int.toNat (k : Int) = k from rfl, (h.1.2.1.2.2 k hk).2.1]
    exact ⟨fun _ => ⟨by omega, by omega⟩, hq⟩
theorem sp_J_name {e i : Int} (hln : JLn L rm nd) (hS : SI L σ) (h : JDc L rm nd σ d) (hq : Q (anN d e i) σ) : w_J_name L e i Q σ := by
  unfold w_J_name
  refine sp_Tree_has h (WJ_dir ?_)
  unfold anN at hq
  cases he : hasE d e with
  | false =>
    rw [he, if_neg (by decide)] at hq
    rw [if_pos (by decide)]
    exact hq
  | true =>
    rw [he, if_pos rfl] at hq
    obtain ⟨a, k, rfl, rfl, hk⟩ := hasE_inr he
    have l146 := hln.2.2.2.2.2.2.2.2.2.2.1.2.1
    have hnd : (aL a).length ≤ nd := by
      obtain ⟨⟨-, -, -, -, ⟨g7, g8⟩, -⟩, -⟩ := h.2.1
      omega
    obtain ⟨w, w1, w2, w3⟩ := (h.1.2.1.2.2 k hk).1
    rw [if_neg (by decide), show Int.toNat (k : Int) = k from rfl, w1]
    refine ⟨⟨by omega, by omega⟩, sp_letterAt hS hln.1 w2 ?_⟩
    rw [w3]
    exact hq
theorem sp_J_attribute {e a0 w i : Int} (hln : JLn L rm nd) (hS : SI L σ) (h : JDc L rm nd σ d) (hq : Q (anT d e a0 w i) σ) : w_J_attribute L e a0 w i Q σ := by
  unfold w_J_attribute
  refine sp_Tree_has h ?_
  unfold anT at hq
  cases he : hasE d e with
  | false =>
    rw [he, if_neg (fun z => by cases z.1)] at hq
    rw [if_neg (fun z => z.1 rfl)]
    exact ⟨fun z => absurd rfl z, hq⟩
  | true =>
    rw [he] at hq
    obtain ⟨a, k, rfl, rfl, hk⟩ := hasE_inr he
    obtain ⟨l129, l146, l161⟩ := hln.2.2.2.2.2.2.2.2.2.2.1
    have m130 := l129 130 (by omega) (by omega)
    have m131 := l129 131 (by omega) (by omega)
    have m134 := l129 134 (by omega) (by omega)
    have hnn : (aL a).length ≤ nd ∧ (aB a).length ≤ nd ∧ nd ≤ 16384 := by
      obtain ⟨⟨-, -, -, -, ⟨g7, g8⟩, -⟩, -⟩ := h.2.1
      have := hln.2.1
      omega
    obtain ⟨x146, x129, x130, x131, -⟩ := h.1.2.1.2.2 k hk
    have hCe := (h.2.1.2.2.1 ((aL a).getD k elD) (by rw [List.getD_eq_getElem?_getD, List.getElem?_eq_getElem hk]; exact List.getElem_mem hk)).1
    have hb : ∀ j, j < (aB a).length → Jn σ (σ.2 161 j) ((aB a).getD j atD).1 ∧ Jn σ (σ.2 134 j) ((aB a).getD j atD).2.1 := fun j hj => ⟨(h.1.2.2.1.2 j hj).1, (h.1.2.2.1.2 j hj).2.1⟩
    have hel : elO (Sum.inr a : DOC) = aL a := rfl
    have hat : atO (Sum.inr a : DOC) = aB a := rfl
    rw [hel, hat, show Int.toNat (k : Int) = k from rfl] at hq
    rw [show Int.toNat (k : Int) = k from rfl, x130, x131]
    generalize (aL a).getD k elD = x at *
    refine ⟨fun _ _ => ⟨by omega, by omega⟩, ?_⟩
    by_cases y : (0 ≤ a0 ∧ a0 < (x.2.2.2.1 : Int)) ∧ (w = 0 ∨ w = 1)
    · rw [if_pos ⟨rfl, y.1, y.2⟩] at hq
      rw [if_pos ⟨by decide, by omega, y.1.2, by omega, by omega⟩]
      obtain ⟨j, rfl⟩ : ∃ j : Nat, a0 = (j : Int) := ⟨a0.toNat, by omega⟩
      rw [show Int.toNat (j : Int) = j from rfl] at hq
      rw [show Int.toNat ((x.2.2.1 : Int) + (j : Int)) = x.2.2.1 + j by omega]
      obtain ⟨hb1, hb2⟩ := hb (x.2.2.1 + j) (by omega)
      refine ⟨⟨by omega, by omega⟩, ⟨by omega, by omega⟩, ⟨fun _ => ⟨by omega, by omega⟩, fun _ => ⟨by omega, by omega⟩⟩, ?_⟩
      by_cases yw : w = 0
      · rw [if_pos yw] at hq ⊢
        obtain ⟨u, u1, u2, u3⟩ := hb1
        rw [u1]
        refine sp_letterAt hS hln.1 u2 ?_
        rw [u3]
        exact hq
      · rw [if_neg yw] at hq ⊢
        obtain ⟨u, u1, u2, u3⟩ := hb2
        rw [u1]
        refine sp_letterAt hS hln.1 u2 ?_
        rw [u3]
        exact hq
    · rw [if_neg (fun z => y z.2)] at hq
      rw [if_neg (fun z => y ⟨⟨by omega, z.2.2.1⟩, by omega⟩)]
      exact hq
/-- what judge answers -/
noncomputable def anJ (rm nd : Nat) (B : Nat → Int) (n : Nat) : Int := match jdg rm nd B n with
  | .inl _ => 2
  | .inr a => @ite _ (∀ k, k < 23 → cnV a k = 0) (Classical.propDecidable _) 0 1
def dcJ (rm nd : Nat) (B : Nat → Int) (n : Nat) : DOC := match jdg rm nd B n with
  | .inl fp => .inl (fp.1, (fp.2 : Int))
  | .inr a => .inr a
/-- JUDGE -/
theorem sp_J_judge {S n : Nat} {B : Nat → Int} (hln : JLn L rm nd) (hm : JLm L) (hlv : JLv L rm nd) (hls : JLs L nd) (h : JI L rm nd S σ) (hn : σ.1 0 1 = (n : Int)) (hn6 : n ≤ 65536) (hL0 : n ≤ L 100) (hB : ∀ i, B i = ia (σ.2 100 i) 255) (hbg : σ.1 1 2 = (L 997 : Int)) (h998 : ∀ w, ldT B n = .inr w → L 998 = L 997 + (nle w).length) (hS9 : S ≤ L 999) (hq : ∀ τ, JI L rm nd (L 999 + 1000000) τ → τ.1 0 1 = 0 → JDc L rm nd τ (dcJ rm nd B n) → Q (anJ rm nd B n) τ) : w_J_judge L Q σ := by
  refine sp_judge hln hm h hn hn6 hL0 hB hbg h998 hS9 (fun τ f p hj hJ hfs hT => ?_) (fun τ a hj hR hG hC hf h01 hz => ?_)
  · have e1 : anJ rm nd B n = 2 := by unfold anJ; rw [hj]
    have e2 : dcJ rm nd B n = .inl (f, (p : Int)) := by unfold dcJ; rw [hj]
    have := hq τ hJ hfs.1 (by rw [e2]; exact ⟨⟨hfs.2.1, hfs.2.2.1, hfs.2.2.2⟩, hT⟩)
    rw [e1] at this
    exact this
  · have e2 : dcJ rm nd B n = .inr a := by unfold dcJ; rw [hj]
    refine sp_good hln hm hlv hls hn6 hj hR hG hC hf h01 hz (fun υ v hJ h0 hJG hv => ?_)
    have h4 := hq υ hJ h0 (by rw [e2]; exact ⟨hJG, hG, hf, jdg_GV hn6 hj, jdg_GS hn6 hj, jdg_GDl hn6 hj, jdg_GW hn6 hj, jdg_GN hn6 hj⟩)
    have e1 : anJ rm nd B n = if v = 0 then 0 else 1 := by
      unfold anJ
      rw [hj]
      dsimp only
      by_cases y : ∀ k, k < 23 → cnV a k = 0
      · rw [if_pos y, if_pos (hv.mpr y)]
      · rw [if_neg y, if_neg (fun z => y (hv.mp z))]
    rw [e1] at h4
    exact h4
end Sml
