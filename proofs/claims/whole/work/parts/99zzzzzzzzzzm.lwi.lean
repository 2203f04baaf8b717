/-! ===== both programs when they are made ===== -/
section Fx
variable {rm nd sl wd : Nat} {so vr vn : Int32} {g : Nat → Nat → Int32} {hb : Nat → Int32}
set_option maxRecDepth 100000 in
theorem JI_first (h98 : rm ≤ 98304) (h163 : nd ≤ 16384) (hST : STf (256 + min rm 65536 + rm) (rm / 2 + 64) sl wd g) : JI (L0 rm nd sl) rm nd 0 (iS (ms0 rm nd wd so vr vn g hb)) := by
  obtain ⟨rfl, s1, s2, s3⟩ := hST
  have h1 : SI (L0 rm nd sl) (stIS g) := by
    unfold SI slt at s1 ⊢
    exact s1
  have e14 : (iS (ms0 rm nd 19 so vr vn g hb)).1 1 14 = 19 := by
    show (nI 19).toInt = 19
    decide
  have e3 : (iS (ms0 rm nd 19 so vr vn g hb)).1 1 3 = 143 := by
    show (nI 143).toInt = 143
    decide
  have e2 : (iS (ms0 rm nd 19 so vr vn g hb)).1 1 2 = 143 := by
    show (nI 143).toInt = 143
    decide
  have e12 : (iS (ms0 rm nd 19 so vr vn g hb)).1 1 12 = 19 := by
    show (nI 19).toInt = 19
    decide
  have e0 : (iS (ms0 rm nd 19 so vr vn g hb)).1 1 0 = (rm : Int) := by
    show (nI rm).toInt = _
    exact nI_i (by omega)
  have e6 : (iS (ms0 rm nd 19 so vr vn g hb)).1 6 0 = (nd : Int) := by
    show (nI nd).toInt = _
    exact nI_i (by omega)
  have e16 : (iS (ms0 rm nd 19 so vr vn g hb)).1 1 16 = 0 := by
    show (0 : Int32).toInt = 0
    decide
  have hr : ∀ r, 101 ≤ r → r ≤ 106 → (iS (ms0 rm nd 19 so vr vn g hb)).2 r = (stIS g).2 r := fun r y1 y2 => by
    rcases (show r = 101 ∨ r = 102 ∨ r = 103 ∨ r = 104 ∨ r = 105 ∨ r = 106 by omega) with rfl | rfl | rfl | rfl | rfl | rfl <;> rfl
  have hS := SI_of h1 (σ' := iS (ms0 rm nd 19 so vr vn g hb)) (by rw [e14]; rfl) (by rw [e3, show (stIS g).1 1 3 = 143 from rfl]; have := h1.1; rw [show (stIS g).1 1 3 = 143 from rfl] at this; omega) (fun r y1 y2 => hr r (by omega) y2) (fun i _ => by rw [hr 101 (by omega) (by omega)])
  have hjw : jw (iS (ms0 rm nd 19 so vr vn g hb)) = 19 := by unfold jw; rw [e14]; rfl
  refine ⟨hS.1, fun i hi => ?_, ⟨by omega, fun i hi => ?_⟩, ⟨e12, e0, e6⟩, ⟨⟨by omega, by omega⟩, fun w => ?_⟩, fun j y1 y2 => ?_, fun r hr w _ _ => ?_, ⟨by omega, by omega, by omega, fun i hi => ?_⟩⟩
  · rw [hr 101 (by omega) (by omega)]
    exact s2 i hi
  · rw [← s3 i hi]
    unfold wst wfr wsz
    rw [hr 101 (by omega) (by omega), hr 102 (by omega) (by omega), hr 103 (by omega) (by omega)]
  · rw [e16]
    show (0 : Int32).toInt ≤ 0
    decide
  · have : (iS (ms0 rm nd 19 so vr vn g hb)).1 2 j = 0 := by
      rcases (show j = 6 ∨ j = 7 ∨ j = 8 ∨ j = 9 ∨ j = 10 ∨ j = 11 by omega) with rfl | rfl | rfl | rfl | rfl | rfl <;> (show (0 : Int32).toInt = 0; decide)
    rw [this]
    omega
  · rcases hr with rfl | rfl | rfl | rfl | rfl | rfl | rfl <;> (show (0 : Int32).toInt = 0; decide)
  · have := (hS.1.2.1 i (by rw [e14]; omega)).2.2.1
    rw [e3] at this
    rw [e2]
    exact this
set_option maxRecDepth 100000 in
theorem NX_first (h98 : rm ≤ 98304) (h163 : nd ≤ 16384) (hST : STf (256 + min rm 65536 + rm) (rm / 2 + 64) sl wd g) (hvr : vr = nI rm) (hvn : vn = nI nd) : NX (L0 rm nd sl) rm nd 0 (iS (ms0 rm nd wd so vr vn g hb)) (.inl (0, -1)) [] [] := by
  have z : ∀ {x : Int}, x = (0 : Int32).toInt → x = 0 := fun h => h.trans (by decide)
  have m1 : ∀ {x : Int}, x = (-1 : Int32).toInt → x = -1 := fun h => h.trans (by decide)
  refine ⟨⟨JI_first h98 h163 hST, ⟨⟨z rfl, z rfl, m1 rfl⟩, z rfl, z rfl, z rfl, z rfl, z rfl, m1 rfl⟩, ⟨z rfl, Nat.zero_le _, fun i hi => absurd hi (Nat.not_lt_zero _), fun b hb => (by cases hb)⟩, 162, Or.inl rfl, ?_, ?_, z rfl, Nat.zero_le _, fun i hi => absurd hi (Nat.not_lt_zero _)⟩, ⟨⟨z rfl, z rfl, m1 rfl⟩, ⟨z rfl, Nat.zero_le _, fun i hi => absurd hi (Nat.not_lt_zero _), fun b hb => (by cases hb)⟩, ⟨z rfl, Nat.zero_le _, fun i hi => absurd hi (Nat.not_lt_zero _)⟩, ?_, ?_, z rfl, ?_⟩, fun a ha => (by cases ha)⟩
  · show (162 : Int32).toInt = 162
    decide
  · show (163 : Int32).toInt = 163
    decide
  · show vr.toInt = _
    rw [hvr]; exact nI_i (by omega)
  · show vn.toInt = _
    rw [hvn]; exact nI_i (by omega)
  · show ¬ (1 : Int32).toInt = 0
    decide
end Fx
