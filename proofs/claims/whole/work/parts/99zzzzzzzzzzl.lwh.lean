/-! ===== the lengths of the first world ===== -/
section Fl
variable {rm nd sl : Nat}
theorem L0_b (h98 : rm ≤ 98304) (h163 : nd ≤ 16384) (hs : sl < 98432) : ∀ r, L0 rm nd sl r < 1073741824 := fun r => by
  have key : ∀ x ∈ Ln0 rm nd sl, x < 1073741824 := by
    unfold Ln0
    simp only [List.forall_mem_cons, List.not_mem_nil, false_implies, implies_true, and_true]
    repeat' apply And.intro
    all_goals omega
  unfold L0
  split
  · omega
  · rw [List.getD_eq_getElem?_getD]
    by_cases h : r - 100 < (Ln0 rm nd sl).length
    · rw [List.getElem?_eq_getElem h]
      exact key _ (List.getElem_mem h)
    · rw [List.getElem?_eq_none (by omega)]
      decide
theorem L0_m : L0 rm nd sl 101 = 256 + (if rm < 65536 then rm else 65536) + rm := by
  show 256 + min rm 65536 + rm = _
  split <;> omega
set_option maxRecDepth 100000 in
theorem JLn_first (h64 : 64 ≤ rm) (h98 : rm ≤ 98304) (h16 : 16 ≤ nd) (h163 : nd ≤ 16384) (hs0 : 0 < sl) (hs : sl < 98432) : JLn (L0 rm nd sl) rm nd := by
  have h102 : L0 rm nd sl 102 = rm / 2 + 64 := rfl
  have h106 : L0 rm nd sl 106 = sl := rfl
  have h101 := L0_m (rm := rm) (nd := nd) (sl := sl)
  refine ⟨⟨rfl, rfl, rfl, rfl, by rw [h106]; exact hs0, by rw [h106]; omega, by rw [h102]; omega, by rw [h101]; split <;> omega⟩, ⟨h64, h98, h16, h163, by show 0 ≤ 1000000000; omega⟩, h101, h102, fun r h1 h2 => ?_, ⟨rfl, rfl, rfl, rfl, rfl⟩, ⟨rfl, rfl, rfl⟩, ⟨fun r h1 h2 => ?_, rfl⟩, rfl, ?_, ⟨fun r h1 h2 => ?_, rfl, rfl⟩, rfl⟩
  · rcases (show r = 107 ∨ r = 108 ∨ r = 109 ∨ r = 110 ∨ r = 111 ∨ r = 112 ∨ r = 113 by omega) with rfl | rfl | rfl | rfl | rfl | rfl | rfl <;> rfl
  · rcases (show r = 118 ∨ r = 119 ∨ r = 120 ∨ r = 121 ∨ r = 122 ∨ r = 123 by omega) with rfl | rfl | rfl | rfl | rfl | rfl <;> rfl
  · show min rm 65536 + 1 = _
    split <;> omega
  · rcases (show r = 129 ∨ r = 130 ∨ r = 131 ∨ r = 132 ∨ r = 133 ∨ r = 134 ∨ r = 135 by omega) with rfl | rfl | rfl | rfl | rfl | rfl | rfl <;> rfl
set_option maxRecDepth 100000 in
theorem KLn_first {o a b : Nat} (ho : o = 14 ∨ o = 15) (ha : a ≤ 262144) (hb : b ≤ 16384) (h1 : a ≤ L0 rm nd sl (rfo o 1)) : KLn (L0 rm nd sl) o a b := by
  refine ⟨⟨rfl, rfl, rfl, rfl, rfl⟩, ho, ⟨ha, hb⟩, rfl, fun r h1 h2 => ?_, fun r h1 h2 => ?_, fun r h1 h2 => ?_, rfl, fun r h1 h2 => ?_, fun r h1 h2 => ?_, fun r h1 h2 => ?_, rfl, fun r h1 h2 => ?_, fun r h1 h2 => ?_, rfl, fun k h1 h2 => ?_, ⟨h1, ?_⟩, ⟨fun k h1 h2 => ?_, ?_, ?_⟩, ?_, ?_, ?_⟩
  · rcases (show r = 166 ∨ r = 167 ∨ r = 168 ∨ r = 169 ∨ r = 170 ∨ r = 171 by omega) with rfl | rfl | rfl | rfl | rfl | rfl <;> rfl
  · rcases (show r = 177 ∨ r = 178 ∨ r = 179 ∨ r = 180 ∨ r = 181 by omega) with rfl | rfl | rfl | rfl | rfl <;> rfl
  · rcases (show r = 182 ∨ r = 183 ∨ r = 184 ∨ r = 185 ∨ r = 186 ∨ r = 187 by omega) with rfl | rfl | rfl | rfl | rfl | rfl <;> rfl
  · rcases (show r = 189 ∨ r = 190 ∨ r = 191 ∨ r = 192 by omega) with rfl | rfl | rfl | rfl <;> rfl
  · rcases (show r = 193 ∨ r = 194 ∨ r = 195 ∨ r = 196 ∨ r = 197 ∨ r = 198 by omega) with rfl | rfl | rfl | rfl | rfl | rfl <;> rfl
  · rcases (show r = 199 ∨ r = 200 ∨ r = 201 ∨ r = 202 ∨ r = 203 ∨ r = 204 ∨ r = 205 ∨ r = 206 by omega) with rfl | rfl | rfl | rfl | rfl | rfl | rfl | rfl <;> rfl
  · rcases (show r = 208 ∨ r = 209 ∨ r = 210 by omega) with rfl | rfl | rfl <;> rfl
  · rcases (show r = 172 ∨ r = 173 ∨ r = 174 by omega) with rfl | rfl | rfl <;> rfl
  · rcases ho with rfl | rfl
    · rcases (show k = 3 ∨ k = 4 ∨ k = 5 ∨ k = 6 by omega) with rfl | rfl | rfl | rfl <;> rfl
    · rcases (show k = 3 ∨ k = 4 ∨ k = 5 ∨ k = 6 by omega) with rfl | rfl | rfl | rfl <;> rfl
  · rcases ho with rfl | rfl
    · exact Nat.le_of_ble_eq_true rfl
    · exact Nat.le_of_ble_eq_true rfl
  · rcases ho with rfl | rfl
    · rcases (show k = 8 ∨ k = 9 ∨ k = 10 ∨ k = 11 ∨ k = 12 ∨ k = 13 by omega) with rfl | rfl | rfl | rfl | rfl | rfl <;> rfl
    · rcases (show k = 8 ∨ k = 9 ∨ k = 10 ∨ k = 11 ∨ k = 12 ∨ k = 13 by omega) with rfl | rfl | rfl | rfl | rfl | rfl <;> rfl
  · rcases ho with rfl | rfl
    · exact Nat.le_of_ble_eq_true rfl
    · exact Nat.le_of_ble_eq_true rfl
  · rcases ho with rfl | rfl
    · exact Nat.le_of_ble_eq_true rfl
    · exact Nat.le_of_ble_eq_true rfl
  · rcases ho with rfl | rfl <;> rfl
  · rcases ho with rfl | rfl <;> rfl
  · rcases ho with rfl | rfl <;> rfl
set_option maxRecDepth 100000 in
theorem LLs_first (h64 : 64 ≤ rm) (h98 : rm ≤ 98304) (h16 : 16 ≤ nd) (h163 : nd ≤ 16384) (hs0 : 0 < sl) (hs : sl < 98432) : LLs (L0 rm nd sl) rm nd := by
  refine ⟨JLn_first h64 h98 h16 h163 hs0 hs, ⟨rfl, rfl⟩, ⟨⟨rfl, rfl, rfl, rfl, rfl, rfl, rfl, rfl, rfl⟩, rfl, ⟨rfl, rfl, rfl⟩, rfl, rfl⟩, ⟨rfl, rfl, rfl⟩, ⟨⟨rfl, rfl⟩, ?_⟩, KLn_first (Or.inl rfl) (by omega) (by omega) ?_, KLn_first (Or.inr rfl) (by omega) (by omega) ?_, ⟨⟨rfl, rfl⟩, ⟨rfl, rfl⟩, rfl⟩, Nat.le_of_ble_eq_true rfl, rfl, rfl, L0_b h98 h163 hs⟩
  · exact Nat.le_refl nd
  · show rm ≤ _
    exact Nat.le_trans h98 (Nat.le_of_ble_eq_true rfl)
  · exact Nat.le_of_ble_eq_true rfl
end Fl
