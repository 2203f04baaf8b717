/-! ===== the reference: strings are kept and found ===== -/
section Kkp
variable {L : Nat → Nat} {rm nd o : Nat} {σ τ : IS} {g g' : KG} {a a' : AS} {Q : IS → Prop} {R : Int → IS → Prop} {s : Str} {x y : Int}
theorem RK.dy (ho : o = 14 ∨ o = 15) (h : RK rm nd o σ g a) : σ.1 16 2 = (o : Int) ∧ dyD (σ.1 16 2) := by
  have e : σ.1 16 2 = (o : Int) := h.1.2.2.2.2.1.1
  refine ⟨e, ?_⟩
  show σ.1 16 2 = 14 ∨ σ.1 16 2 = 15
  omega
theorem mem_gd {l : List Str} (h : s ∈ l) : ∃ j, j < l.length ∧ l.getD j [] = s := by
  obtain ⟨j, hj, e⟩ := List.getElem_of_mem h
  exact ⟨j, hj, by rw [List.getD_eq_getElem?_getD, List.getElem?_eq_getElem hj, e]; rfl⟩
theorem Kn.of {l : List Str} {j : Nat} (hj : j < l.length) (h : l.getD j [] = s) : Kn l (j : Int) s := by
  refine ⟨by omega, ?_⟩
  show l[j]? = some s
  rw [List.getElem?_eq_getElem hj]
  rw [List.getD_eq_getElem?_getD, List.getElem?_eq_getElem hj] at h
  exact congrArg some h
theorem KZ.kpt (ho : o = 14 ∨ o = 15) (h : KZ rm nd o σ g) (hk : kept σ τ s x) : KZ rm nd o τ (kpS (gB g) s, g.2) ∧ Kn (kpS (gB g) s) x s := by
  obtain ⟨⟨h1, h2, h3, h4⟩, h5, ⟨h6, h7, h8, h9⟩, ⟨h10, h11⟩, h12, h13⟩ := h
  obtain ⟨k1, ⟨i, i1, i2, i3⟩, k3, ⟨kf, kr⟩, k5⟩ := hk
  have r1 := rf_1 ho
  have key : τ.1 13 6 = ((kpS (gB g) s).length : Int) ∧ τ.1 13 1 = (((kpS (gB g) s).map List.length).sum : Int) ∧ (∀ i, i < (kpS (gB g) s).length → bstr τ i = (kpS (gB g) s).getD i []) := by
    rcases k5 with ⟨⟨j, j1, j2⟩, e⟩ | ⟨hn, e6, e1, ex⟩
    · have hm : s ∈ gB g := by
        have hj : j < (gB g).length := by omega
        have := h4 j hj
        rw [j2, List.getD_eq_getElem?_getD, List.getElem?_eq_getElem hj] at this
        rw [this]
        exact List.getElem_mem _
      unfold kpS
      rw [if_pos hm, e]
      exact ⟨h2, h3, h4⟩
    · have hm : ¬ s ∈ gB g := fun z => by
        obtain ⟨j, j1, j2⟩ := mem_gd z
        exact hn j (by omega) ((h4 j j1).trans j2)
      unfold kpS
      rw [if_neg hm]
      refine ⟨by rw [e6, h2, List.length_append, List.length_singleton]; omega, by rw [e1, h3, List.map_append, List.sum_append]; simp, fun q hq => ?_⟩
      rw [List.length_append, List.length_singleton] at hq
      rw [getD_snoc]
      by_cases c : q = (gB g).length
      · rw [if_neg (by omega), if_pos c, show q = i by omega, i3]
      · rw [if_pos (by omega), k3 q (by omega)]
        exact h4 q (by omega)
  refine ⟨⟨⟨k1, key⟩, kpS_nd h5, ⟨by rw [kf 16 6 (by omega)]; exact h6, h7, fun i hi => by rw [kr 176 i (by omega)]; exact h8 i hi, h9⟩, ⟨by rw [kf o 2 (by omega)]; exact h10, fun i hi => by rw [kr (rfo o 1) i (by omega)]; exact h11 i hi⟩, by rw [kf 16 2 (by omega), kf 16 0 (by omega), kf 16 1 (by omega)]; exact h12, fun k hk => by rw [kr (rfo o 18) k (by omega)]; exact h13 k hk⟩, ?_⟩
  rw [i1]
  have hi : i < (kpS (gB g) s).length := by omega
  exact Kn.of hi (by rw [← key.2.2 i hi]; exact i3)
theorem RK.kpt (ho : o = 14 ∨ o = 15) (h : RK rm nd o σ g a) (hk : kept σ τ s x) : RK rm nd o τ (kpS (gB g) s, g.2) a := by
  have hF : ∀ p k, ¬ (p = 13 ∧ (k = 1 ∨ k = 6)) → τ.1 p k = σ.1 p k := hk.2.2.2.1.1
  have hR : ∀ r : Nat, ¬ (211 ≤ r ∧ r ≤ 215) → τ.2 r = σ.2 r := fun r x => funext (fun i => hk.2.2.2.1.2 r i (by omega))
  exact (RK.mk' ho h kpS_pre cle.refl cle.refl (h.1.kpt ho hk).1 (Or.inl ⟨fun k x y => hF 16 k (by omega), fun r x y => hR r (by omega), rfl⟩) (Or.inl ⟨hF 16 32 (by omega), fun r x y => hR r (by omega), rfl, rfl⟩) (Or.inl ⟨fun k x => hF 16 k (by omega), hR _ (by have := rf_1 ho; omega), rfl⟩) (Or.inl ⟨hF 16 20 (by omega), hF 16 24 (by omega), rfl⟩) (Or.inl ⟨hF 16 40 (by omega), hF 16 47 (by omega), hF 16 58 (by omega), fun r x => hR r (by omega), rfl⟩) (Or.inl ⟨hF 16 56 (by omega), hF 16 58 (by omega), fun r x y => hR r (by omega), rfl⟩) (Or.inl ⟨hF 16 34 (by omega), hR 187 (by omega), rfl⟩) (Or.inl ⟨hF o 7 (by omega), fun k x y => hR _ (by have := rf_3 ho x y; omega), rfl⟩) (Or.inl ⟨hF 16 64 (by omega), hF 16 66 (by omega), fun r x y => hR r (by omega), hR 181 (by omega), rfl, rfl, rfl⟩) (Or.inl ⟨hF o 14 (by omega), fun k x y => hR _ (by have := rf_8 ho x y; omega), rfl, rfl⟩) (Or.inl ⟨fun k x => hF o k (by omega), hR _ (by have := rf_1 ho; omega), rfl, rfl, rfl⟩) (hF 16 3 (by omega)) (Or.inl ⟨hF 16 18 (by omega), hR 178 (by omega), rfl, rfl, rfl, hF 16 47 (by omega), hF 16 58 (by omega), rfl, rfl⟩))
/-- a string is kept -/
theorem sp_K_bk {r p n : Nat} (hL : KLn L o rm nd) (h : RK rm nd o σ g a) (hr : r < 211 ∨ 215 < r) (hp : p + n ≤ L r ∧ L r ≤ 262144) (hx : x = (p : Int)) (hy : y = (n : Int)) (hs : sl (σ.2 r) p n = s) (hcap : kcS (gB g) s) (hq : ∀ v τ, Kn (kpS (gB g) s) v s → RK rm nd o τ (kpS (gB g) s, g.2) a → frB σ τ → R v τ) : w_KBook_keep L r x y R σ := by
  subst hx hy
  obtain ⟨⟨b1', b2, b3, b4⟩, -⟩ := id h.1
  refine sp_KBook_keep b1' hL.1 ⟨by omega, by omega, by omega, by omega⟩ (by omega) (fun z => by omega) (fun hn => ?_) (fun v τ hk => ?_)
  · rw [show Int.toNat (p : Int) = p from rfl, show Int.toNat (n : Int) = n from rfl, hs] at hn
    rcases hcap with c | c
    · obtain ⟨j, j1, j2⟩ := mem_gd c
      exact absurd ((b4 j j1).trans j2) (hn j (by omega))
    · have : s.length = n := by rw [← hs]; exact sl_ln
      omega
  · have hk' : kept σ τ s v := by rw [← hs]; exact hk
    exact hq v τ (h.1.kpt hL.2.1 hk').2 (h.kpt hL.2.1 hk') hk'.2.2.2.1
theorem sp_K_kp {p n : Nat} (hL : KLn L o rm nd) (h : RK rm nd o σ g a) (hp : p + n ≤ 262144) (hx : x = (p : Int)) (hy : y = (n : Int)) (hs : sl (σ.2 176) p n = s) (hcap : kcS (gB g) s) (hq : ∀ v τ, Kn (kpS (gB g) s) v s → RK rm nd o τ (kpS (gB g) s, g.2) a → frB σ τ → R v τ) : w_KReader_keep L x y R σ := by
  have h6 := hL.2.2.2.1
  exact ⟨(h.dy hL.2.1).2, sp_K_bk hL h (Or.inl (by decide)) ⟨by omega, by omega⟩ hx hy hs hcap hq⟩
/-- what the book answers of a string -/
def Kf (bk : List Str) (v : Int) (s : Str) : Prop := Kn bk v s ∨ (v = -1 ∧ ¬ s ∈ bk)
theorem Kn.f {bk : List Str} {v : Int} (h : Kn bk v s) : Kf bk v s := Or.inl h
theorem Kf.iff {bk : List Str} {v w : Int} {t : Str} (hn : bk.Nodup) (h : Kf bk v s) (hw : Kn bk w t) : w = v ↔ t = s := by
  rcases h with h | ⟨h1, h2⟩
  · exact Kn.eqI hn hw h
  · have := hw.lt
    exact ⟨fun z => by omega, fun z => absurd (z ▸ hw.mem) h2⟩
theorem sp_K_bf {r p n : Nat} (hL : KLn L o rm nd) (h : RK rm nd o σ g a) (hp : p + n ≤ L r ∧ L r ≤ 262144) (hx : x = (p : Int)) (hy : y = (n : Int)) (hs : sl (σ.2 r) p n = s) (hq : ∀ v, Kf (gB g) v s → R v σ) : w_KBook_find L r x y R σ := by
  subst hx hy
  obtain ⟨⟨b1', b2, b3, b4⟩, -⟩ := id h.1
  refine sp_KBook_find b1' hL.1 ⟨by omega, by omega, by omega, by omega⟩ (fun q hq1 hq2 => ?_) (fun hn => ?_)
  · have hq2' : bstr σ q = s := by rw [← hs]; exact hq2
    have hi : q < (gB g).length := by omega
    exact hq _ (Or.inl (Kn.of hi (by rw [← b4 q hi]; exact hq2')))
  · refine hq _ (Or.inr ⟨rfl, fun z => ?_⟩)
    obtain ⟨j, j1, j2⟩ := mem_gd z
    refine hn j (by omega) (((b4 j j1).trans j2).trans ?_)
    rw [← hs]; rfl
theorem fidx {α : Type} {l : List α} {p : α → Bool} {d : α} {k : Nat} (hk : k ≤ l.length) (h : ∀ j, j < k → p (l.getD j d) = false) : (k < l.length → p (l.getD k d) = true → l.findIdx? p = some k) ∧ (k = l.length → l.findIdx? p = none) := by
  have e : ∀ j (hj : j < l.length), l.getD j d = l[j] := fun j hj => by rw [List.getD_eq_getElem?_getD, List.getElem?_eq_getElem hj]; rfl
  constructor
  · intro h1 h2
    rw [List.findIdx?_eq_some_iff_getElem]
    refine ⟨h1, by rw [← e k h1]; exact h2, fun j hj => ?_⟩
    rw [← e j (by omega), h j hj]
    exact Bool.false_ne_true
  · intro h1
    rw [List.findIdx?_eq_none_iff]
    intro x hx
    obtain ⟨j, hj, ej⟩ := List.getElem_of_mem hx
    rw [← ej, ← e j hj]
    exact h j (by omega)
theorem sp_K_entityOf {v w : Int} {b : Bool} (hL : KLn L o rm nd) (h : RK rm nd o σ g a) (he : (aE a).length ≤ 8300) (hv : Kf (gB g) v s) (hw : w = b1 b) (hq : R (enc (eno (aE a) s b)) σ) : w_KReader_entityOf L v w R σ := by
  have hE := h.2.2.1
  obtain ⟨e1, e2⟩ := hE
  have l2 := hL.2.2.2.2.2.2.1 182 (by omega) (by omega)
  have l3 := hL.2.2.2.2.2.2.1 183 (by omega) (by omega)
  have hn := h.1.2.1
  unfold w_KReader_entityOf
  refine WL_ind (fun k ρ => ρ = σ ∧ ∃ n : Nat, k = (n : Int) ∧ n ≤ (aE a).length ∧ ∀ j, j < n → (fun x : Ent => x.1 == s && x.2.1 == b) ((aE a).getD j ([], false, [])) = false) (fun k _ => (σ.1 16 32 - k).toNat) ?_ 0 σ ⟨rfl, 0, rfl, Nat.zero_le _, fun j hj => absurd hj (Nat.not_lt_zero j)⟩
  rintro k ρ ⟨rfl, n, rfl, hn1, hn2⟩ K hI
  have hF := fidx (p := fun x : Ent => x.1 == s && x.2.1 == b) (d := ([], false, [])) hn1 hn2
  refine WJ_dir ?_
  by_cases c : n < (aE a).length
  · obtain ⟨m1, m2, -⟩ := e2 n c
    rw [if_pos (by omega), show Int.toNat (n : Int) = n from rfl]
    refine ⟨⟨by omega, by omega⟩, fun _ => ⟨by omega, by omega⟩, ?_⟩
    have i1 := Kf.iff hn hv m1
    have i2 : ρ.2 183 n = w ↔ ((aE a).getD n ([], false, [])).2.1 = b := by
      rw [m2, hw]
      cases ((aE a).getD n ([], false, [])).2.1 <;> cases b <;> simp [b1]
    by_cases c2 : ((aE a).getD n ([], false, [])).1 = s ∧ ((aE a).getD n ([], false, [])).2.1 = b
    · rw [if_neg (fun z => z.elim (fun z => z (i1.mpr c2.1)) (fun z => z (i2.mpr c2.2)))]
      dsimp only
      rw [if_pos (by omega)]
      have := hF.1 c (by show (_ == _ && _ == _) = true; rw [c2.1, c2.2]; simp)
      unfold eno at hq
      rw [this] at hq
      exact hq
    · rw [if_pos (Classical.byContradiction (fun z => c2 ⟨i1.mp (Classical.byContradiction (fun y => z (Or.inl y))), i2.mp (Classical.byContradiction (fun y => z (Or.inr y)))⟩))]
      refine ⟨⟨by omega, by omega⟩, hI _ _ ⟨rfl, n + 1, by omega, by omega, fun j hj => ?_⟩ (by omega)⟩
      by_cases cj : j = n
      · rw [cj]
        show (_ == _ && _ == _) = false
        rw [Bool.and_eq_false_iff]
        by_cases c3 : ((aE a).getD n ([], false, [])).1 = s
        · right
          exact beq_eq_false_iff_ne.mpr (fun z => c2 ⟨c3, z⟩)
        · left
          exact beq_eq_false_iff_ne.mpr c3
      · exact hn2 j (by omega)
  · rw [if_neg (by omega)]
    dsimp only
    rw [if_neg (by omega)]
    have := hF.2 (by omega)
    unfold eno at hq
    rw [this] at hq
    exact hq
end Kkp
/-! ===== the reference's lexical functions, from where it stands ===== -/
section Krl
variable {L : Nat → Nat} {σ : IS} {T : Nat → Int} {p e : Nat} {R : Int → IS → Prop} {x : Int}
theorem ple_mv {q : Option Nat} (h : ple e q) : ple (p + e) (mvo p q) := fun i hi => by
  obtain ⟨j, hj, e1⟩ := mvo_eq_some.mp hi
  have := h j hj
  omega
theorem kr_word (hK : KT L σ (p + e)) (hS : SHT T (σ.2 176) e p) (q : Option Nat) (hx : x = enc (mvo p q)) (hq : ple e q) {s : Nat} {l : List Int} (hs : ti s = l) (h : R (enc (mvo p (wd T e l q))) σ) : w_KReader_word L x s R σ := sp_word hK _ hx (ple_mv hq) hs (by rw [sh_wd hS]; exact h)
theorem kr_asp (hK : KT L σ (p + e)) (hS : SHT T (σ.2 176) e p) (q : Option Nat) (hx : x = enc (mvo p q)) (hq : ple e q) (h : R (enc (mvo p (asp T e q))) σ) : w_KReader_anySpaces L x R σ := sp_KReader_anySpaces hK _ hx (ple_mv hq) (by rw [sh_asp hS]; exact h)
theorem kr_spc (hK : KT L σ (p + e)) (hS : SHT T (σ.2 176) e p) (q : Option Nat) (hx : x = enc (mvo p q)) (hq : ple e q) (h : R (enc (mvo p (spc T e q))) σ) : w_KReader_spaces L x R σ := sp_KReader_spaces hK _ hx (ple_mv hq) (by rw [sh_spc hS]; exact h)
theorem kr_name (hK : KT L σ (p + e)) (hS : SHT T (σ.2 176) e p) (q : Option Nat) (hx : x = enc (mvo p q)) (hq : ple e q) (h : R (enc (mvo p (nmg T e true q))) σ) : w_KReader_name L x R σ := sp_KReader_name hK _ hx (ple_mv hq) (by rw [sh_nmg hS]; exact h)
theorem kr_naming {a2 : Int} (hK : KT L σ (p + e)) (hS : SHT T (σ.2 176) e p) (q : Option Nat) (hx : x = enc (mvo p q)) (hq : ple e q) (b : Bool) (hb : a2 = b1 b) (h : R (enc (mvo p (nmg T e b q))) σ) : w_KReader_naming L x a2 R σ := sp_KReader_naming hK _ hx (ple_mv hq) b hb (by rw [sh_nmg hS]; exact h)
theorem kr_literal (hK : KT L σ (p + e)) (hS : SHT T (σ.2 176) e p) (q : Option Nat) (hx : x = enc (mvo p q)) (hq : ple e q) (h : R (enc (mvo p (ltl T e q))) σ) : w_KReader_literal L x R σ := sp_KReader_literal hK _ hx (ple_mv hq) (by rw [sh_ltl hS]; exact h)
theorem kr_public (hK : KT L σ (p + e)) (hc : chs σ (p + e)) (hS : SHT T (σ.2 176) e p) (q : Option Nat) (hx : x = enc (mvo p q)) (hq : ple e q) (h : R (enc (mvo p (plt T e q))) σ) : w_KReader_publicLiteral L x R σ := sp_KReader_publicLiteral hK hc _ hx (ple_mv hq) (by rw [sh_plt hS]; exact h)
theorem kr_outside (hK : KT L σ (p + e)) (hc : chs σ (p + e)) (hS : SHT T (σ.2 176) e p) (q : Option Nat) (hx : x = enc (mvo p q)) (hq : ple e q) (h : R (enc (mvo p (outs T e q))) σ) : w_KReader_outside L x R σ := sp_KReader_outside hK hc _ hx (ple_mv hq) (by rw [sh_outs hS]; exact h)
theorem kr_ref (hK : KT L σ (p + e)) (hc : chs σ (p + e)) (hS : SHT T (σ.2 176) e p) (q : Option Nat) (hx : x = enc (mvo p q)) (hq : ple e q) (h : R (enc (mvo p (rfp T e q))) σ) : w_KReader_reference L x R σ := sp_KReader_reference hK hc _ hx (ple_mv hq) (by rw [sh_rfp hS]; exact h)
theorem kr_value (hK : KT L σ (p + e)) (hc : chs σ (p + e)) (hS : SHT T (σ.2 176) e p) (q : Option Nat) (hx : x = enc (mvo p q)) (hq : ple e q) (h : R (enc (mvo p (vlp T e q))) σ) : w_KReader_value L x R σ := sp_KReader_value hK hc _ hx (ple_mv hq) (by rw [sh_vlp hS]; exact h)
theorem kr_equal (hK : KT L σ (p + e)) (hS : SHT T (σ.2 176) e p) (q : Option Nat) (hx : x = enc (mvo p q)) (hq : ple e q) (h : R (enc (mvo p (eqs T e q))) σ) : w_KReader_equal L x R σ := sp_KReader_equal hK _ hx (ple_mv hq) (by rw [sh_eqs hS]; exact h)
theorem kr_etx (hK : KT L σ (p + e)) (hc : chs σ (p + e)) (hS : SHT T (σ.2 176) e p) (q : Option Nat) (hx : x = enc (mvo p q)) (hq : ple e q) (h : R (enc (mvo p (etx T e q))) σ) : w_KReader_entityText L x R σ := sp_KReader_entityText hK hc _ hx (ple_mv hq) (by rw [sh_etx hS]; exact h)
theorem kr_look (hK : KT L σ (p + e)) (hS : SHT T (σ.2 176) e p) (i : Nat) (hx : x = ((p + i : Nat) : Int)) (h : R (lk T e i) σ) : w_KReader_look L x R σ := sp_KReader_look hK (p + i) hx (by rw [sh_lk hS]; exact h)
theorem kr_says (hK : KT L σ (p + e)) (hS : SHT T (σ.2 176) e p) (i : Nat) (hx : x = ((p + i : Nat) : Int)) (hi : i ≤ e) {s : Nat} {l : List Int} (hs : ti s = l) (h : R (b1 (mt T e i l)) σ) : w_KReader_says L x s R σ := sp_KReader_says hK (p + i) hx (by omega) (by rw [sh_mt hS, hs]; exact h)
end Krl
