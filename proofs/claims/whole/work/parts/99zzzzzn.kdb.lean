/-! ===== the reference: names that come again, types that came before ===== -/
section Kdb
variable {L : Nat → Nat} {rm nd o : Nat} {σ ρ τ : IS} {g g' : KG} {R : Int → IS → Prop} {x y v w : Int} {s el : Str} {ls : List Str} {ad : List ADc}
theorem rpk_leK {ls : List Str} : ∀ {k : Nat}, rpk ls k ≤ k
  | 0 => Nat.le_refl _
  | k + 1 => by
    have := rpk_leK (ls := ls) (k := k)
    show rpk ls k + (if ls.getD k [] ∈ ls.take k then 1 else 0) ≤ k + 1
    split <;> omega
theorem mem_takeK {q k : Nat} {z : Str} (hq : q < k) (hk : k ≤ ls.length) : z ∈ ls.take (q + 1) ↔ z ∈ ls.take q ∨ z = ls.getD q [] := by
  rw [List.take_succ, List.mem_append, List.getD_eq_getElem?_getD, List.getElem?_eq_getElem (by omega)]
  simp
theorem sp_K_doubles (hL : KLn L o rm nd) (hn : (gB g).Nodup) (hK : KLs σ (gB g) x ls) (h58 : σ.1 16 58 ≤ 50000) (hy : y = (ls.length : Int)) (hq : R (rpk ls ls.length : Int) σ) : w_KReader_doubles L x y R σ := by
  subst hy
  obtain ⟨b, b1', b2, b3⟩ := hK
  subst b1'
  have l207 : L 207 = 50000 := hL.2.2.2.2.2.2.2.2.2.2.2.1
  unfold w_KReader_doubles
  refine WL_ind (fun z ρ => ρ = σ ∧ ∃ k : Nat, z.2 = (k : Int) ∧ k ≤ ls.length ∧ z.1 = (rpk ls k : Int)) (fun z _ => ((ls.length : Int) - z.2).toNat) ?_ (0, 0) σ ⟨rfl, 0, rfl, Nat.zero_le _, rfl⟩
  rintro ⟨z1, z2⟩ ρ ⟨rfl, k, hz2, k1, hz1⟩ K hI
  have hz2' : z2 = (k : Int) := hz2
  have hz1' : z1 = (rpk ls k : Int) := hz1
  subst hz2' hz1'
  try dsimp only
  have hrl := rpk_leK (ls := ls) (k := k)
  by_cases c : k < ls.length
  · rw [if_pos (by omega)]
    refine WL_ind (fun z ξ => ξ = ρ ∧ ∃ q : Nat, z.2 = (q : Int) ∧ q ≤ k ∧ z.1 = b1 (decide (ls.getD k [] ∈ ls.take q))) (fun z _ => ((k : Int) - z.2).toNat) ?_ (0, 0) ρ ⟨rfl, 0, rfl, Nat.zero_le _, rfl⟩
    rintro ⟨u1, u2⟩ ξ ⟨rfl, q, hu2, q1, hu1⟩ K2 hI2
    have hu2' : u2 = (q : Int) := hu2
    have hu1' : u1 = b1 (decide (ls.getD k [] ∈ ls.take q)) := hu1
    subst hu2' hu1'
    try dsimp only
    by_cases cq : q < k
    · rw [if_pos (by omega), show (b : Int) + (q : Int) = ((b + q : Nat) : Int) by omega, show (b : Int) + (k : Int) = ((b + k : Nat) : Int) by omega, show Int.toNat ((b + q : Nat) : Int) = b + q from rfl, show Int.toNat ((b + k : Nat) : Int) = b + k from rfl]
      refine ⟨fun _ => ⟨⟨by omega, by omega⟩, ⟨by omega, by omega⟩, ⟨by omega, by omega⟩, ⟨by omega, by omega⟩⟩, ⟨by omega, by omega⟩, hI2 _ _ ⟨rfl, q + 1, by show (q : Int) + 1 = _; omega, by omega, ?_⟩ (by show ((k : Int) - ((q : Int) + 1)).toNat < ((k : Int) - (q : Int)).toNat; omega)⟩
      have hk := Kn.eqI hn (b3 q (by omega)) (b3 k c)
      have hm := mem_takeK (ls := ls) (z := ls.getD k []) cq k1
      show (if b1 (decide (ls.getD k [] ∈ ls.take q)) = 0 then _ else (1 : Int)) = b1 (decide (ls.getD k [] ∈ ls.take (q + 1)))
      by_cases cm : ls.getD k [] ∈ ls.take q
      · rw [decide_eq_true cm, if_neg (by decide), decide_eq_true (hm.mpr (Or.inl cm))]; rfl
      · rw [decide_eq_false cm, if_pos (by decide)]
        by_cases ce : ls.getD q [] = ls.getD k []
        · rw [if_pos (hk.mpr ce), decide_eq_true (hm.mpr (Or.inr ce.symm))]; rfl
        · rw [if_neg (fun y => ce (hk.mp y)), decide_eq_false (fun y => (hm.mp y).elim cm (fun y => ce y.symm))]; rfl
    · rw [if_neg (by omega)]
      have hqk : q = k := by omega
      subst hqk
      have er : rpk ls (q + 1) = rpk ls q + (if ls.getD q [] ∈ ls.take q then 1 else 0) := rfl
      have ev : (rpk ls q : Int) + (if b1 (decide (ls.getD q [] ∈ ls.take q)) = 0 then (0 : Int) else 1) = (rpk ls (q + 1) : Int) := by
        rw [er]
        by_cases cm : ls.getD q [] ∈ ls.take q
        · rw [decide_eq_true cm, if_neg (by decide), if_pos cm]; omega
        · rw [decide_eq_false cm, if_pos (by decide), if_neg cm]; omega
      rw [ev]
      have hrl2 := rpk_leK (ls := ls) (k := q + 1)
      exact ⟨⟨by omega, by omega⟩, ⟨by omega, by omega⟩, hI _ _ ⟨rfl, q + 1, by show (q : Int) + 1 = _; omega, by omega, rfl⟩ (by show ((ls.length : Int) - ((q : Int) + 1)).toNat < ((ls.length : Int) - (q : Int)).toNat; omega)⟩
  · rw [if_neg (by omega)]
    have hk : k = ls.length := by omega
    rw [hk]
    exact hq
/-- whether a type came before for an element -/
theorem sp_K_hasType {d t : Nat} {pl : List Int} (hL : KLn L o rm nd) (hn : (gB g).Nodup) (hA : KAd σ (gB g) pl ad) (hd : d ≤ ad.length) (hdl : ad.length ≤ 8300) (hv : Kn (gB g) v el) (hx : x = (d : Int)) (hy : y = (t : Int)) (hq : R (b1 ((List.range d).any (fun j => (ad.getD j adD).1 == el && (ad.getD j adD).2.2.1 == t))) σ) : w_KReader_hasType L v x y R σ := by
  subst hx hy
  have l9 := hL.2.2.2.2.2.2.2.2.2.2.1
  have l199 := l9 199 (by omega) (by omega)
  have l201 := l9 201 (by omega) (by omega)
  unfold w_KReader_hasType
  refine WL_ind (fun z ρ => ρ = σ ∧ ∃ k : Nat, z.2 = (k : Int) ∧ k ≤ d ∧ z.1 = b1 ((List.range k).any (fun j => (ad.getD j adD).1 == el && (ad.getD j adD).2.2.1 == t))) (fun z _ => ((d : Int) - z.2).toNat) ?_ (0, 0) σ ⟨rfl, 0, rfl, Nat.zero_le _, rfl⟩
  rintro ⟨z1, z2⟩ ρ ⟨rfl, k, hz2, k1, hz1⟩ K hI
  have hz2' : z2 = (k : Int) := hz2
  have hz1' : z1 = b1 ((List.range k).any (fun j => (ad.getD j adD).1 == el && (ad.getD j adD).2.2.1 == t)) := hz1
  subst hz2' hz1'
  try dsimp only
  by_cases c : k < d
  · rw [if_pos (by omega), show Int.toNat (k : Int) = k from rfl]
    obtain ⟨m1, -, m3, -⟩ := hA.2 k (by omega)
    refine ⟨fun _ => ⟨⟨by omega, by omega⟩, fun _ => ⟨by omega, by omega⟩⟩, ?_⟩
    refine LETI_of (fun u hu => ⟨⟨by omega, by omega⟩, hI _ _ ⟨rfl, k + 1, by show (k : Int) + 1 = _; omega, by omega, ?_⟩ (by show ((d : Int) - ((k : Int) + 1)).toNat < ((d : Int) - (k : Int)).toNat; omega)⟩)
    have hk := Kn.eqI hn m1 hv
    show u = _
    rw [hu, List.range_succ, List.any_append, m3]
    cases hb : (List.range k).any (fun j => (ad.getD j adD).1 == el && (ad.getD j adD).2.2.1 == t) with
    | true => rw [if_neg (by decide)]; rfl
    | false =>
      rw [if_pos (by decide)]
      show _ = b1 (false || (((ad.getD k adD).1 == el && (ad.getD k adD).2.2.1 == t) || false))
      by_cases ce : (ad.getD k adD).1 = el
      · rw [if_pos (hk.mpr ce)]
        by_cases ct : (ad.getD k adD).2.2.1 = t
        · rw [if_pos (by omega), show ((ad.getD k adD).1 == el) = true by rw [ce]; simp, show ((ad.getD k adD).2.2.1 == t) = true by rw [ct]; simp]; rfl
        · rw [if_neg (by omega), show ((ad.getD k adD).2.2.1 == t) = false from beq_eq_false_iff_ne.mpr ct]
          cases ((ad.getD k adD).1 == el) <;> rfl
      · rw [if_neg (fun y => ce (hk.mp y)), show ((ad.getD k adD).1 == el) = false from beq_eq_false_iff_ne.mpr ce]; rfl
  · rw [if_neg (by omega)]
    have hk : k = d := by omega
    rw [hk]
    exact ⟨b1_01 _, hq⟩
end Kdb
