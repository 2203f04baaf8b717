/-! ===== the class: bytes that are fed ===== -/
section Byb
theorem ia_255 (x : Int) : ia x 255 = x % 256 := by
  unfold ia
  have h : (Int32.ofInt x &&& Int32.ofInt 255).toBitVec.toNat = (x % 256).toNat := by
    rw [Int32.toBitVec_and, BitVec.toNat_and]
    have h2 : (Int32.ofInt 255).toBitVec.toNat = 2 ^ 8 - 1 := by decide
    rw [h2, Nat.and_two_pow_sub_one_eq_mod]
    have h3 : (Int32.ofInt x).toBitVec.toNat = (x % 4294967296).toNat := by
      show (BitVec.ofInt 32 x).toNat = _
      rw [BitVec.toNat_ofInt]
      rfl
    rw [h3]
    omega
  have h5 : 0 ≤ x % 256 ∧ x % 256 < 256 := by omega
  show ((Int32.ofInt x &&& Int32.ofInt 255).toBitVec).toInt = _
  rw [BitVec.toInt_eq_toNat_of_lt (by rw [h]; omega), h]
  omega
theorem nb_ia (x : Int) : nb (ia x 255) = nb x := by
  rw [ia_255]
  unfold nb
  exact Int.emod_bmod x 256
theorem ia_nb {b : Int} (h : 0 ≤ b ∧ b ≤ 255) : ia (nb b) 255 = b := by
  rw [ia_255]
  unfold nb
  have := Int.bmod_emod (x := b) (m := 256)
  rw [show ((256 : Nat) : Int) = 256 from rfl] at this
  omega
theorem ia_nb2 {b : Int} : ia (nb b) 255 = ia b 255 := by
  rw [ia_255, ia_255]
  unfold nb
  have := Int.bmod_emod (x := b) (m := 256)
  rw [show ((256 : Nat) : Int) = 256 from rfl] at this
  exact this
end Byb
/-- four bytes of a number -/
def by4 (v : Int) : List Int := [ia (iur v 24) 255, ia (iur v 16) 255, ia (iur v 8) 255, ia (iur v 0) 255]
/-- the bytes that were fed -/
def JFd (σ : IS) (B : List Int) : Prop := σ.1 0 1 = (B.length : Int) ∧ B.length ≤ 65536 ∧ (∀ i, i < B.length → σ.2 100 i = nb (B.getD i 0)) ∧ ∀ b ∈ B, 0 ≤ b ∧ b ≤ 255
/-- only bytes have changed -/
def BX (σ τ : IS) : Prop := (∀ o k, ¬ (o = 0 ∧ k = 1) → τ.1 o k = σ.1 o k) ∧ ∀ r, r ≠ 100 → τ.2 r = σ.2 r
section Byc
variable {L : Nat → Nat} {σ τ υ : IS} {B P : List Int} {Q : IS → Prop} {R : Int → IS → Prop}
theorem BX.refl : BX σ σ := ⟨fun _ _ _ => rfl, fun _ _ => rfl⟩
theorem BX.trans (h1 : BX σ τ) (h2 : BX τ υ) : BX σ υ := ⟨fun o k a => (h2.1 o k a).trans (h1.1 o k a), fun r a => (h2.2 r a).trans (h1.2 r a)⟩
theorem by4_len {v : Int} : (by4 v).length = 4 := rfl
theorem by4_rg {v b : Int} (h : b ∈ by4 v) : 0 ≤ b ∧ b ≤ 255 := by
  unfold by4 at h
  simp only [List.mem_cons, List.not_mem_nil, or_false] at h
  rcases h with h | h | h | h <;> rw [h] <;> exact byt_rg _
theorem JFd.add {b : Int} (hL : L 100 = 65536) (h : JFd σ B) (hb : 0 ≤ b ∧ b ≤ 255) (hl : B.length < 65536) (x : Int) (hx : nb x = nb b) : JFd (pf (pr σ 100 (Int.toNat (σ.1 0 1)) (nb x)) 0 1 ((σ.1 0 1) + 1)) (B ++ [b]) := by
  obtain ⟨h1, h2, h3, h4⟩ := h
  rw [h1, show Int.toNat ((B.length : Nat) : Int) = B.length from rfl, hx]
  refine ⟨by rw [pf_eq, List.length_append, List.length_singleton]; omega, by rw [List.length_append, List.length_singleton]; omega, fun i hi => ?_, fun c hc => ?_⟩
  · rw [List.length_append, List.length_singleton] at hi
    rw [pf_2, pr_2]
    by_cases y : i = B.length
    · rw [if_pos ⟨rfl, y⟩, y, List.getD_eq_getElem?_getD, List.getElem?_append_right (Nat.le_refl _), Nat.sub_self]
      rfl
    · rw [if_neg (fun z => y z.2), getD_app_l (by omega)]
      exact h3 i (by omega)
  · rcases List.mem_append.mp hc with y | y
    · exact h4 c y
    · rw [List.mem_singleton] at y; rw [y]; exact hb
theorem sp_J_take {v : Int} (hL : L 100 = 65536) (h : JFd σ B) (hl : B.length + 4 ≤ 65536) (hq : ∀ τ, BX σ τ → JFd τ (B ++ by4 v) → Q τ) : w_J_take L v Q σ := by
  unfold w_J_take
  refine WL_ind (fun z τ => ∃ k : Nat, z = 24 - 8 * (k : Int) ∧ k ≤ 4 ∧ BX σ τ ∧ JFd τ (B ++ (by4 v).take k)) (fun z _ => (z + 8).toNat) ?_ 24 σ ⟨0, by omega, by omega, BX.refl, by rw [List.take_zero, List.append_nil]; exact h⟩
  rintro _ τ ⟨k, rfl, hk, h1, h2⟩ K hK
  have h0 := h2.1
  rw [List.length_append, List.length_take, by4_len] at h0
  by_cases c : k < 4
  · rw [if_pos ⟨by omega, by omega⟩]
    have hb : (by4 v).take (k + 1) = (by4 v).take k ++ [ia (iur v (24 - 8 * (k : Int))) 255] := by
      have : k = 0 ∨ k = 1 ∨ k = 2 ∨ k = 3 := by omega
      rcases this with y | y | y | y <;> rw [y] <;> rfl
    have ha := h2.add (b := ia (iur v (24 - 8 * (k : Int))) 255) hL (byt_rg _) (by rw [List.length_append, List.length_take, by4_len]; omega) (iur v (24 - 8 * (k : Int))) (nb_ia _).symm
    refine ⟨⟨by omega, by omega⟩, ⟨by omega, by omega⟩, ⟨by omega, by omega⟩, hK _ _ ⟨k + 1, by omega, by omega, h1.trans ⟨fun o q a => ?_, fun r a => ?_⟩, ?_⟩ (by omega)⟩
    · rw [pf_1, if_neg (by omega)]; rfl
    · funext j
      rw [pf_2, pr_2, if_neg (fun z => a z.1)]
    · rw [hb, ← List.append_assoc]
      exact ha
  · rw [if_neg (by omega)]
    rw [List.take_of_length_le (by rw [by4_len]; omega)] at h2
    exact hq τ h1 h2
theorem sp_J_change {i b : Int} (hL : L 100 = 65536) (h : JFd σ B) (hq : ∀ τ, BX σ τ → (0 ≤ i ∧ i < (B.length : Int) ∧ 0 ≤ b ∧ b ≤ 255 → JFd τ (B.set i.toNat b) → R (B.getD i.toNat 0) τ) ∧ (¬ (0 ≤ i ∧ i < (B.length : Int) ∧ 0 ≤ b ∧ b ≤ 255) → JFd τ B → R (-1) τ)) : w_J_change L i b R σ := by
  obtain ⟨h1, h2, h3, h4⟩ := id h
  unfold w_J_change
  rw [h1]
  by_cases c : 0 ≤ i ∧ i < (B.length : Int) ∧ 0 ≤ b ∧ b ≤ 255
  · rw [if_pos (by omega)]
    have hi : i.toNat < B.length := by omega
    have hg : B.getD i.toNat 0 ∈ B := by
      rw [List.getD_eq_getElem?_getD, List.getElem?_eq_getElem hi]
      exact List.getElem_mem hi
    rw [h3 _ hi, ia_nb (h4 _ hg)]
    refine ⟨⟨by omega, by omega⟩, ⟨by omega, by omega⟩, (hq (pr σ 100 i.toNat (nb b)) ⟨fun _ _ _ => rfl, fun r a => ?_⟩).1 c ⟨?_, by rw [List.length_set]; exact h2, fun j hj => ?_, fun x hx => ?_⟩⟩
    · funext j
      rw [pr_2, if_neg (fun z => a z.1)]
    · rw [List.length_set]; exact h1
    · rw [List.length_set] at hj
      rw [pr_2, List.getD_eq_getElem?_getD, List.getElem?_set]
      by_cases y : j = i.toNat
      · rw [if_pos ⟨rfl, y⟩, if_pos y.symm, if_pos hi]
        rfl
      · rw [if_neg (fun z => y z.2), if_neg (fun z => y z.symm), h3 j hj, List.getD_eq_getElem?_getD]
    · rcases List.mem_or_eq_of_mem_set hx with y | y
      · exact h4 x y
      · rw [y]; exact ⟨c.2.2.1, c.2.2.2⟩
  · rw [if_neg (by omega)]
    exact (hq σ BX.refl).2 c h
theorem sp_J_out {i : Int} (hL : L 162 = 262144 ∧ L 163 = 262144) (hP : PRd σ P) (hq : R (if 0 ≤ i ∧ i < (P.length : Int) then ia (P.getD i.toNat 0) 255 else -1) σ) : w_J_out L i R σ := by
  obtain ⟨D, hD, p3, -, p4, pl, pr'⟩ := hP
  have hLD : L D = 262144 := by rcases hD with y | y <;> rw [y]; exact hL.1; exact hL.2
  unfold w_J_out
  rw [p3, p4, show Int.toNat (D : Int) = D from rfl]
  refine ⟨fun y1 y2 => ⟨by rcases hD with y | y <;> rw [y] <;> decide, ⟨by omega, by omega⟩⟩, ?_⟩
  by_cases c : 0 ≤ i ∧ i < (P.length : Int)
  · rw [if_pos c] at hq
    have hi : i.toNat < P.length := by omega
    rw [if_neg (by omega), if_pos c.2, pr' _ hi, ia_nb2]
    exact hq
  · rw [if_neg c] at hq
    by_cases y : i < 0
    · rw [if_pos y]; exact hq
    · rw [if_neg y, if_neg (by omega)]; exact hq
theorem sp_J_back (hL : L 162 = 262144 ∧ L 163 = 262144) (hL0 : L 100 = 65536) (hP : PRd σ P) (hB : JFd σ B) (hq : ∀ τ, BX σ τ → (P.length ≠ 0 ∧ P.length ≤ 65536 → JFd τ (P.map (fun b => ia b 255)) → R (P.length : Int) τ) ∧ (¬ (P.length ≠ 0 ∧ P.length ≤ 65536) → JFd τ B → R (-1) τ)) : w_J_back L R σ := by
  obtain ⟨D, hD, p3, -, p4, pl, pr'⟩ := hP
  have hLD : L D = 262144 := by rcases hD with y | y <;> rw [y]; exact hL.1; exact hL.2
  unfold w_J_back
  rw [p4, p3, show Int.toNat (D : Int) = D from rfl, show Int.toNat (0 : Int) = 0 from rfl, show Int.toNat ((P.length : Nat) : Int) = P.length from rfl]
  by_cases c : P.length ≠ 0 ∧ P.length ≤ 65536
  · rw [if_pos ⟨by omega, by omega⟩]
    refine ⟨by rcases hD with y | y <;> rw [y] <;> decide, ⟨by omega, by omega, by omega, by rw [hLD]; omega, by rw [hL0]; omega⟩, fun i hi => ?_, (hq _ ⟨fun o k a => ?_, fun r a => ?_⟩).1 c ⟨by rw [pf_eq, List.length_map], by rw [List.length_map]; exact c.2, fun i hi => ?_, fun b hb => ?_⟩⟩
    · rw [Nat.zero_add, pr' i (by omega)]
      exact nb_in _
    · rw [pf_1, if_neg a]; rfl
    · rw [pf_2]
      unfold cp
      funext j
      dsimp only
      rw [if_neg (fun z => a z.1)]
    · rw [pf_2]
      unfold cp
      dsimp only
      rw [List.length_map] at hi
      rw [if_pos ⟨rfl, by omega, by omega⟩, show 0 + (i - 0) = i by omega, pr' i hi, List.getD_eq_getElem?_getD, List.getD_eq_getElem?_getD, List.getElem?_map, List.getElem?_eq_getElem hi]
      exact (nb_ia _).symm
    · obtain ⟨x, -, hx⟩ := List.mem_map.mp hb
      rw [← hx]
      exact byt_rg _
  · rw [if_neg (by omega)]
    exact (hq σ BX.refl).2 c hB
end Byc
/-! ===== only the bytes that were fed count ===== -/
section Ext
variable {B C : Nat → Int} {n : Nat}
theorem cod_ext (h : ∀ i, i < n → B i = C i) {i : Nat} {x : Int} : ∀ {k : Nat}, i + k < n → cod B i x k = cod C i x k
  | 0, _ => rfl
  | k + 1, hk => by
    show cod B i x k * 64 + (B (i + k + 1) - 128) = cod C i x k * 64 + (C (i + k + 1) - 128)
    rw [cod_ext h (k := k) (by omega), h (i + k + 1) (by omega)]
theorem cnt8_ext (h : ∀ i, i < n → B i = C i) {i t : Nat} (ht : i + t < n) : cnt8 B i t = cnt8 C i t := by
  unfold cnt8
  rw [Bool.eq_iff_iff, List.all_eq_true, List.all_eq_true]
  constructor
  · intro z k hk
    have := z k hk
    rw [List.mem_range] at hk
    rw [← h (i + k + 1) (by omega)]
    exact this
  · intro z k hk
    have := z k hk
    rw [List.mem_range] at hk
    rw [h (i + k + 1) (by omega)]
    exact this
theorem u8_ext (h : ∀ i, i < n → B i = C i) {i : Nat} (hi : i < n) : u8 B n i = u8 C n i := by
  unfold u8
  rw [← h i hi]
  by_cases c : i + lb (B i) < n
  · rw [cnt8_ext h c, cod_ext h c]
  · rw [if_neg (fun z => c z.2.1), if_neg (fun z => c z.2.1)]
theorem u16_ext (h : ∀ i, i < n → B i = C i) {be : Bool} {i : Nat} : u16 B be n i = u16 C be n i := by
  unfold u16
  by_cases c : i + 1 < n
  · rw [if_pos c, if_pos c]
    have e1 : pr16 B be i = pr16 C be i := by unfold pr16; rw [h i (by omega), h (i + 1) c]
    rw [e1]
    by_cases d : i + 3 < n
    · have e2 : pr16 B be (i + 2) = pr16 C be (i + 2) := by unfold pr16; rw [h (i + 2) (by omega), h (i + 2 + 1) (by omega)]
      rw [e2]
    · rw [if_neg (show ¬ ((55296 ≤ pr16 C be i ∧ pr16 C be i ≤ 56319) ∧ i + 3 < n ∧ (56320 ≤ pr16 B be (i + 2) ∧ pr16 B be (i + 2) ≤ 57343)) from fun z => d z.2.1), if_neg (show ¬ ((55296 ≤ pr16 C be i ∧ pr16 C be i ≤ 56319) ∧ i + 3 < n ∧ (56320 ≤ pr16 C be (i + 2) ∧ pr16 C be (i + 2) ≤ 57343)) from fun z => d z.2.1)]
  · rw [if_neg c, if_neg c]
theorem dcd_ext {u v : Nat → Option (Int × Nat)} (h : ∀ i, i < n → u i = v i) : ∀ m i, dcd u n m i = dcd v n m i := by
  intro m
  induction m with
  | zero => intro i; rfl
  | succ m ih =>
    intro i
    unfold dcd
    by_cases c : n ≤ i
    · rw [if_pos c, if_pos c]
    · rw [if_neg c, if_neg c, h i (by omega)]
      cases v i with
      | none => rfl
      | some r => dsimp only; rw [ih]
theorem bom_ext (h : ∀ i, i < n → B i = C i) : bom B n = bom C n := by
  unfold bom
  by_cases c : 1 < n
  · rw [h 0 (by omega), h 1 c]
  · rw [decide_eq_false (fun z => c z.1), decide_eq_false (fun z => c z.1), decide_eq_false (fun z => c z.1), decide_eq_false (fun z => c z.1)]
theorem ldT_ext (h : ∀ i, i < n → B i = C i) : ldT B n = ldT C n := by
  unfold ldT
  rw [bom_ext h, dcd_ext (v := u16 C (bom C n).2 n) (fun i _ => u16_ext h), dcd_ext (v := u8 C n) (fun i hi => u8_ext h hi)]
  by_cases c : 2 < n
  · rw [h 0 (by omega), h 1 (by omega), h 2 c]
  · rw [if_neg (show ¬ (2 < n ∧ B 0 = 239 ∧ B 1 = 187 ∧ B 2 = 191) from fun z => c z.1), if_neg (show ¬ (2 < n ∧ C 0 = 239 ∧ C 1 = 187 ∧ C 2 = 191) from fun z => c z.1)]
theorem jdg_ext {rm nd : Nat} (h : ∀ i, i < n → B i = C i) : jdg rm nd B n = jdg rm nd C n := by
  unfold jdg
  rw [ldT_ext h, bom_ext h]
end Ext
