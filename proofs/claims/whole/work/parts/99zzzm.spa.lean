/-! ===== the class parts all names ===== -/
/-- some names are parted -/
def SPI (L : Nat → Nat) (σ : IS) (NM P : List Str) (τ : IS) : Prop := SPx L σ τ ∧ (∀ x ∈ P, x ∈ NM) ∧ (∀ x ∈ P, ∃ v, v < jw τ ∧ wst τ v = x) ∧ (∀ v, v < jw τ → (τ.2 156 v ≠ 0 ↔ wst τ v ∈ P)) ∧ (∀ v, v < jw τ → τ.2 156 v ≠ 0 → SPW τ v) ∧ (∀ v, jw τ ≤ v → v < L 155 → τ.2 156 v = 0) ∧ jw τ ≤ jw σ + 2 * (dst P).length
section Spa
variable {L : Nat → Nat} {σ τ : IS} {NM P : List Str}
theorem SPI.step {Q : IS → Prop} {x : Int} {s : Str} (h : SPI L σ NM P τ) (hl : SL L) (hL : L 156 = L 102 ∧ L 157 = L 102) (hj0 : 0 < jw σ) (h0 : wst σ 0 = []) (hcap : jw σ + 2 * (dst NM).length ≤ L 102) (hx : Jn τ x s) (hs : s ∈ NM) (hq : ∀ τ', SPI L σ NM (s :: P) τ' → Q τ') : w_Meanings_split L x Q τ := by
  obtain ⟨p1, p2, p3, p4, p5, p6, p7⟩ := h
  obtain ⟨w, rfl, hw, hws⟩ := hx
  have hg1 : jw σ ≤ jw τ := p1.2.2.1.1
  have h0' : wst τ 0 = [] := by rw [p1.2.2.1.2.2.1 0 hj0]; exact h0
  have e155 : L 102 = L 155 := hl.2.2.2.1
  have hsub : (dst (s :: P)).length ≤ (dst NM).length := by
    have := dst_le (l := NM) (l' := s :: P) (m := []) (fun y hy _ => Or.inl (by
      rcases List.mem_cons.mp hy with z | z
      · rw [z]; exact hs
      · exact p2 y z))
    rw [List.length_nil, Nat.add_zero] at this
    exact this
  have hd : dst (s :: P) = if spt s = true ∧ ¬ s ∈ P then s :: dst P else dst P := rfl
  have hnew : okq s → ¬ s ∈ P → (dst (s :: P)).length = (dst P).length + 1 := fun hok hn => by
    rw [hd, if_pos ⟨okq_spt hok, hn⟩, List.length_cons]
  have hsP : τ.2 156 w = 0 → ¬ s ∈ P := fun hz hm => by
    rw [← hws] at hm
    exact (p4 w hw).mpr hm hz
  have hmono : (dst P).length ≤ (dst (s :: P)).length := by
    rw [hd]
    split
    · rw [List.length_cons]; omega
    · exact Nat.le_refl _
  refine sp_Meanings_split p1.2.2.2 hl hL hw h0' (by omega) (fun hz hok => ?_) (fun hz => ?_) (fun τ' hz q1 q2 q3 q4 q5 q6 => ?_)
  · rw [hws] at hok
    have := hnew hok (hsP hz)
    omega
  · have hm : s ∈ P := by rw [← hws]; exact (p4 w hw).mp hz
    refine hq τ ⟨p1, fun x hx => ?_, fun x hx => ?_, fun v hv => ?_, p5, p6, by omega⟩
    · rcases List.mem_cons.mp hx with y | y
      · rw [y]; exact hs
      · exact p2 x y
    · rcases List.mem_cons.mp hx with y | y
      · rw [y]; exact p3 s hm
      · exact p3 x y
    · rw [p4 v hv, List.mem_cons]
      exact ⟨Or.inr, fun y => y.elim (fun y => by rw [y]; exact hm) id⟩
  · have hn := hsP hz
    have g := q1.2.2.1
    have hjj := q1.2.2.2.jw_le
    have hjj0 := p1.2.2.2.jw_le
    rw [hws] at q6
    refine hq τ' ⟨p1.trans q1, fun x hx => ?_, fun x hx => ?_, fun v hv => ?_, fun v hv hv0 => ?_, fun v hv1 hv2 => ?_, ?_⟩
    · rcases List.mem_cons.mp hx with y | y
      · rw [y]; exact hs
      · exact p2 x y
    · rcases List.mem_cons.mp hx with y | y
      · exact ⟨w, Nat.lt_of_lt_of_le hw g.1, by rw [g.2.2.1 w hw, hws, y]⟩
      · obtain ⟨v, v1, v2⟩ := p3 x y
        exact ⟨v, Nat.lt_of_lt_of_le v1 g.1, by rw [g.2.2.1 v v1, v2]⟩
    · by_cases yw : v = w
      · rw [yw, g.2.2.1 w hw, hws]
        exact ⟨fun _ => List.mem_cons_self, fun _ => q3⟩
      · rw [(q2 v yw).1]
        by_cases yo : v < jw τ
        · rw [p4 v yo, g.2.2.1 v yo, List.mem_cons]
          refine ⟨Or.inr, fun y => y.elim (fun y => absurd ?_ yw) id⟩
          exact p1.2.2.2.2.2.2 v w (by omega) (by omega) (by rw [y, hws])
        · refine ⟨fun y => absurd (p6 v (by omega) (by omega)) y, fun y => ?_⟩
          exfalso
          have hknown : ∃ u, u < jw τ ∧ wst τ' u = wst τ' v := by
            rcases List.mem_cons.mp y with y | y
            · exact ⟨w, hw, by rw [g.2.2.1 w hw, hws, y]⟩
            · obtain ⟨u, u1, u2⟩ := p3 _ y
              exact ⟨u, u1, by rw [g.2.2.1 u u1, u2]⟩
          obtain ⟨u, u1, u2⟩ := hknown
          have := q1.2.2.2.2.2.2 u v (by have := g.1; omega) (by omega) u2
          omega
    · by_cases yw : v = w
      · rw [yw]; exact q4
      · rw [(q2 v yw).1] at hv0
        by_cases yo : v < jw τ
        · exact (p5 v yo hv0).gr yo g (q2 v yw).1 (q2 v yw).2
        · exact absurd (p6 v (by omega) (by omega)) hv0
    · have := g.1
      rw [(q2 v (by omega)).1]
      exact p6 v (by omega) hv2
    · by_cases hok : okq s
      · have := hnew hok hn
        omega
      · have := q6 hok
        omega
theorem sp_Meanings_splitAll {Q : IS → Prop} {el : List Elm} {at_ : List Att} {os : List Nat} (hl : SL L) (hL : L 156 = L 102 ∧ L 157 = L 102) (hS : SI L σ) (hj0 : 0 < jw σ) (h0 : wst σ 0 = []) (hcap : jw σ + 2 * (dst NM).length ≤ L 102) (hE : JEl σ el os) (hB : JAt σ at_) (hn1 : ∀ x ∈ el, x.1 ∈ NM) (hn2 : ∀ x ∈ at_, x.1 ∈ NM) (hz : ∀ v, v < L 155 → σ.2 156 v = 0) (hLe : el.length ≤ L 146 ∧ at_.length ≤ L 161 ∧ el.length < 1000000 ∧ at_.length < 1000000)
    (hq : ∀ τ P, SPI L σ NM P τ → (∀ i, i < el.length → (el.getD i elD).1 ∈ P) → (∀ i, i < at_.length → (at_.getD i atD).1 ∈ P) → Q τ) : w_Meanings_splitAll L Q σ := by
  have e155 : L 102 = L 155 := hl.2.2.2.1
  have hjj := hS.jw_le
  have hm1 : ∀ i, i < el.length → (el.getD i elD).1 ∈ NM := fun i hi => hn1 _ (by rw [List.getD_eq_getElem?_getD, List.getElem?_eq_getElem hi]; exact List.getElem_mem hi)
  have hm2 : ∀ i, i < at_.length → (at_.getD i atD).1 ∈ NM := fun i hi => hn2 _ (by rw [List.getD_eq_getElem?_getD, List.getElem?_eq_getElem hi]; exact List.getElem_mem hi)
  unfold w_Meanings_splitAll
  refine WL_ind (fun s τ => ∃ (e : Nat) (P : List Str), s = (e : Int) ∧ e ≤ el.length ∧ SPI L σ NM P τ ∧ ∀ i, i < e → (el.getD i elD).1 ∈ P) (fun s _ => (el.length - s).toNat) ?_ 0 σ ⟨0, [], rfl, Nat.zero_le _, ⟨SPx.refl hS, fun x hx => (by cases hx), fun x hx => (by cases hx), fun v hv => ⟨fun y => absurd (hz v (by omega)) y, fun y => (by cases y)⟩, fun v hv y => absurd (hz v (by omega)) y, fun v _ hv => hz v hv, Nat.le_add_right _ _⟩, fun i hi => absurd hi (Nat.not_lt_zero _)⟩
  rintro _ τ ⟨e, P, rfl, he, hP, hi⟩ K hK
  rw [hP.1.1 6 2 (by omega), hE.1]
  by_cases c : e < el.length
  · rw [if_pos (by omega), show Int.toNat (e : Int) = e from rfl]
    refine ⟨⟨by omega, by omega⟩, hP.step hl hL hj0 h0 hcap (by rw [hP.1.2.1 146 (by omega) (by decide) (by decide)]; exact (hE.2.2 e c).1.gr hP.1.2.2.1) (hm1 e c) (fun τ' hP' => ⟨⟨by omega, by omega⟩, hK _ _ ⟨e + 1, _, rfl, by omega, hP', fun i hi' => ?_⟩ (by omega)⟩)⟩
    by_cases y : i = e
    · rw [y]; exact List.mem_cons_self
    · exact List.mem_cons_of_mem _ (hi i (by omega))
  · rw [if_neg (by omega)]
    refine WL_ind (fun s τ => ∃ (e : Nat) (P : List Str), s = (e : Int) ∧ e ≤ at_.length ∧ SPI L σ NM P τ ∧ (∀ i, i < el.length → (el.getD i elD).1 ∈ P) ∧ ∀ i, i < e → (at_.getD i atD).1 ∈ P) (fun s _ => (at_.length - s).toNat) ?_ 0 τ ⟨0, P, rfl, Nat.zero_le _, hP, fun i hi' => hi i (by omega), fun i hi => absurd hi (Nat.not_lt_zero _)⟩
    rintro _ ρ ⟨k, P', rfl, hk, hP', hi1, hi2⟩ K6 hK6
    rw [hP'.1.1 6 10 (by omega), hB.1]
    by_cases c2 : k < at_.length
    · rw [if_pos (by omega), show Int.toNat (k : Int) = k from rfl]
      refine ⟨⟨by omega, by omega⟩, hP'.step hl hL hj0 h0 hcap (by rw [hP'.1.2.1 161 (by omega) (by decide) (by decide)]; exact (hB.2 k c2).1.gr hP'.1.2.2.1) (hm2 k c2) (fun τ' hP'' => ⟨⟨by omega, by omega⟩, hK6 _ _ ⟨k + 1, _, rfl, by omega, hP'', fun i hi' => List.mem_cons_of_mem _ (hi1 i hi'), fun i hi' => ?_⟩ (by omega)⟩)⟩
      by_cases y : i = k
      · rw [y]; exact List.mem_cons_self
      · exact List.mem_cons_of_mem _ (hi2 i (by omega))
    · rw [if_neg (by omega)]
      exact hq ρ P' hP' hi1 (fun i hi' => hi2 i (by omega))
end Spa
