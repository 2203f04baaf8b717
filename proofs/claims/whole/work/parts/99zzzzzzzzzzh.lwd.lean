/-! ===== the store is made: a text is kept ===== -/
section Kp
variable {L : Nat → Nat} {σ : IS} {Q : IS → Prop}
theorem sp_Store_keep {a : Nat} (hS : SI L σ) (hl : SL L) (hch : jch L σ) (hroom : jtp σ + (ti a).length ≤ L 101) (hcap : jw σ < L 102) (hnew : ∀ w, w < jw σ → wst σ w ≠ ti a) (hti : ∀ c ∈ ti a, 0 ≤ c ∧ c ≤ 1114111)
    (hq : ∀ τ, SI L τ → jch L τ → jw τ = jw σ + 1 → (∀ w, w < jw σ → wst τ w = wst σ w) → wst τ (jw σ) = ti a → jtp τ = jtp σ + (ti a).length → (∀ o k, ¬ (o = 1 ∧ (k = 3 ∨ k = 13 ∨ k = 14)) → τ.1 o k = σ.1 o k) → (∀ r, ¬ (101 ≤ r ∧ r ≤ 106) → τ.2 r = σ.2 r) → Q τ) : w_Store_keep L a Q σ := by
  have hlen : tN a = ((ti a).length : Int) := by unfold tN ti; rw [List.length_map]
  have hget : ∀ n : Nat, n < (ti a).length → tC a (n : Int) = (ti a).getD n 0 := fun n hn => by
    unfold tC ti
    rw [show Int.toNat (n : Int) = n from rfl, List.getD_eq_getElem?_getD, List.getD_eq_getElem?_getD, List.getElem?_map]
    unfold ti at hn
    rw [List.length_map] at hn
    rw [List.getElem?_eq_getElem hn]
    rfl
  have hj := hS.jtp_le
  have h3 : σ.1 1 3 = (jtp σ : Int) := hj.1.symm
  have h101 : L 101 < 1000000 := hl.2.2.2.2.2.2.2
  have h14 : σ.1 1 14 = (jw σ : Int) := by unfold jw; have := hS.1.1; omega
  unfold w_Store_keep
  rw [hlen]
  refine WL_ind (fun s3 ρ => ∃ n : Nat, s3 = (n : Int) ∧ n ≤ (ti a).length ∧ ρ.1 1 3 = ((jtp σ + n : Nat) : Int) ∧ (∀ o k, ¬ (o = 1 ∧ k = 3) → ρ.1 o k = σ.1 o k) ∧ (∀ r, r ≠ 101 → ρ.2 r = σ.2 r) ∧ (∀ i, ¬ (jtp σ ≤ i ∧ i < jtp σ + n) → ρ.2 101 i = σ.2 101 i) ∧ (∀ j, j < n → ρ.2 101 (jtp σ + j) = (ti a).getD j 0)) (fun s3 _ => (((ti a).length : Int) - s3).toNat) ?_ 0 σ ⟨0, rfl, Nat.zero_le _, h3, fun _ _ _ => rfl, fun _ _ => rfl, fun _ _ => rfl, fun j hj => absurd hj (Nat.not_lt_zero _)⟩
  rintro s3 ρ ⟨n, rfl, n1, n2, n3, n4, n5, n6⟩ K hK
  try dsimp only
  have hSI := SI_of hS (σ' := ρ) (n3 1 14 (by decide)) (by rw [n2, h3]; omega) (fun r y1 y2 => n4 r (by omega)) (fun i hi => n5 i (by omega))
  have hjt : jtp ρ = jtp σ + n := by unfold jtp; rw [n2]; unfold jtp; omega
  by_cases c : n < (ti a).length
  · rw [if_pos (by omega)]
    refine ⟨⟨by omega, by omega⟩, ?_⟩
    rw [hget n c]
    refine sp_Store_add hSI.1 hl (by omega) ⟨⟨by omega, by omega⟩, hK _ _ ⟨n + 1, by omega, by omega, ?_, fun o k y => ?_, fun r y => ?_, fun i hi => ?_, fun j hj => ?_⟩ (by omega)⟩
    · rw [pf_eq, hjt]; omega
    · rw [pf_1, if_neg y, pr_1]; exact n3 o k y
    · rw [pf_2]; funext i; rw [pr_2, if_neg (fun z => y z.1)]; exact congrFun (n4 r y) i
    · rw [pf_2, pr_2, if_neg (by rw [hjt]; omega)]; exact n5 i (by omega)
    · rw [pf_2, pr_2, hjt]
      by_cases cj : j = n
      · rw [if_pos ⟨rfl, by omega⟩, cj]
      · rw [if_neg (by omega)]; exact n6 j (by omega)
  · rw [if_neg (by omega)]
    have hn : n = (ti a).length := by omega
    subst hn
    have hsl : sl (ρ.2 101) (jtp σ) (ti a).length = ti a := by
      unfold sl
      apply List.ext_getElem
      · rw [List.length_map, List.length_range]
      · intro i h1 h2
        rw [List.getElem_map, List.getElem_range, n6 i h2, List.getD_eq_getElem?_getD, List.getElem?_eq_getElem h2]
        rfl
    have hjw : jw ρ = jw σ := by unfold jw; rw [n3 1 14 (by decide)]
    have hws : ∀ w, w < jw σ → wst ρ w = wst σ w := hSI.2.2.2.1
    rw [h3]
    refine sp_Store_intern hSI.1 hl (by rw [n2]; omega) (fun _ => by rw [n3 1 14 (by decide), h14]; omega) (fun x σ' hx => ?_)
    rw [show Int.toNat (jtp σ : Int) = jtp σ from rfl, show Int.toNat ((ti a).length : Int) = (ti a).length from rfl, hsl] at hx
    obtain ⟨x1, ⟨w0, x2, x3, x4⟩, x5, x6, x7, x8⟩ := hx
    have hρ14 : ρ.1 1 14 = (jw σ : Int) := by rw [n3 1 14 (by decide)]; exact h14
    rcases x8 with ⟨⟨w, -, y2, y3⟩, -, -⟩ | ⟨-, y2, y3⟩
    · exact absurd ((hws w (by omega)).symm.trans y3) (hnew w (by omega))
    · have hjw' : jw σ' = jw σ + 1 := by
        show (σ'.1 1 14).toNat = _
        rw [y2, hρ14]
        omega
      have hw0 : w0 = jw σ := by omega
      have hfr := x6
      refine hq σ' x1 ?_ hjw' (fun w hw => ?_) (by rw [← hw0]; exact x4) ?_ (fun o k y => ?_) (fun r y => ?_)
      · intro i hi
        rw [x6.2 101 i (by omega)]
        by_cases ci : jtp σ ≤ i ∧ i < jtp σ + (ti a).length
        · obtain ⟨j, rfl⟩ : ∃ j, i = jtp σ + j := ⟨i - jtp σ, by omega⟩
          have hj : j < (ti a).length := by omega
          rw [n6 j hj]
          exact hti _ (by rw [List.getD_eq_getElem?_getD, List.getElem?_eq_getElem hj]; exact List.getElem_mem hj)
        · rw [n5 i ci]; exact hch i hi
      · rw [x5 w (by omega)]; exact hws w hw
      · have e : σ'.1 1 3 = ρ.1 1 3 := x6.1 1 3 (by omega)
        unfold jtp at hjt ⊢
        rw [e]
        exact hjt
      · rw [x6.1 o k (by omega)]; exact n3 o k (by omega)
      · funext i
        rw [x6.2 r i (by omega)]
        exact congrFun (n4 r (by omega)) i
/-- how many letters the first so many words have -/
def tpN (k : Nat) : Nat := ((List.range k).map (fun i => (ti (1064 + i)).length)).sum
theorem tpN_s (k : Nat) : tpN (k + 1) = tpN k + (ti (1064 + k)).length := by
  unfold tpN
  rw [List.range_succ, List.map_append, List.sum_append]
  rfl
theorem tpN_19 : tpN 19 = 143 := by decide +kernel
theorem tpN_le : ∀ k, k < 20 → tpN k ≤ 143 := by decide +kernel
theorem wd_new : ∀ k, k < 19 → ∀ i, i < k → ti (1064 + i) ≠ ti (1064 + k) := by decide +kernel
theorem wd_ch : ∀ k, k < 19 → ∀ c ∈ ti (1064 + k), 0 ≤ c ∧ c ≤ 1114111 := by decide +kernel
theorem wd_T : ∀ k, k < 19 → isT (1064 + k) := by decide +kernel
/-- the store when so many words are kept -/
def KI (L : Nat → Nat) (room k : Nat) (σ : IS) : Prop := SI L σ ∧ jch L σ ∧ jw σ = k ∧ jtp σ = tpN k ∧ (∀ i, i < k → wst σ i = ti (1064 + i)) ∧ (σ.1 1 0 = (room : Int) ∧ ∀ j, j = 2 ∨ j = 4 ∨ j = 5 ∨ j = 6 ∨ j = 12 ∨ j = 16 → σ.1 1 j = 0) ∧ ∀ i, σ.2 107 i = 0
theorem KI.step {room k : Nat} (hl : SL L) (h1 : 143 ≤ L 101) (h2 : 19 ≤ L 102) (hk : k < 19) (h : KI L room k σ) : w_Store_keep L (1064 + k) (KI L room (k + 1)) σ := by
  obtain ⟨a1, a2, a3, a4, a5, ⟨a6, a7⟩, a8⟩ := h
  have ht := tpN_le (k + 1) (by omega)
  have hs := tpN_s k
  refine sp_Store_keep a1 hl a2 (by omega) (by omega) (fun w hw => by rw [a5 w (by omega)]; exact wd_new k hk w (by omega)) (wd_ch k hk) (fun τ t1 t2 t3 t4 t5 t6 t7 t8 => ⟨t1, t2, by omega, by omega, fun i hi => ?_, ⟨by rw [t7 1 0 (by omega)]; exact a6, fun j hj => by rw [t7 1 j (by omega)]; exact a7 j hj⟩, fun i => by rw [t8 107 (by omega)]; exact a8 i⟩)
  by_cases c : i = k
  · rw [c, ← a3]; exact t5.trans (by rw [a3])
  · rw [t4 i (by omega)]; exact a5 i (by omega)
end Kp
/-- the world of the store alone -/
abbrev BSt : MB := (1, 1, 1, 7)
section Kq
variable {p : Program} {l : Launch} {e : Env} {R : Room} {s : State} {m : MethodId} {args : Array Value} {below : List Frame} {meth : Method} {c : Code} {H : Heap} {locs : List Loc} {cells slots : Nat} {Q : State → Prop} {cc : ByteArray} {nL : Nat} {own : String} {D : va_G} {tI tB tZ tL : ClassId} {X : (Nat → Prop) → State → Prop} {A : Nat → Prop} {ls : Array Slot} {pc : Nat} {L adr : Nat → Nat} {τ : MS}
theorem r_keep {a index : Nat} {Q0 : IS → Prop} (C : Cx p m c cc nL s args own D tI tB tZ tL X A) (hsz : ls.size = nL) (hmx : ∀ A U, X A U → MX adr A U) (hb : ∀ r, L r < 1073741824) (hW : Wd D A s (wld BSt adr (LNf L) tI tB tZ τ) H locs) (ha : isT a) (hw : w_Store_keep L a Q0 (iS τ)) (hl : Cond.methodLink own index y_Store_keep ∈ lwG) (hro : 11 ≤ R.frames ∧ 560 ≤ R.locals) (hf : cells ≤ R.cells ∧ slots ≤ R.slots) (hdg : decode cc pc = .ok (.invokevirtual index, 3))
    (kk : ∀ (τ' : MS) (H1 : Heap) (locs1 : List Loc), Q0 (iS τ') → Wd D A s (wld BSt adr (LNf L) tI tB tZ τ') H1 locs1 → W p l e R s m args below meth c H1 locs1 cells slots Q (F0 m (pc + 3) ls [])) : W p l e R s m args below meth c H locs cells slots Q (F0 m pc ls [.ref (adr a), .ref (adr 1)]) := by
  have hX := C.2.2.2.2
  have hok := s_Store_keep (B := BSt) (L := L) (l31 hb) (d := 2) (by decide) (by decide) ha hw
  obtain ⟨n0, r, τ', h1, h2⟩ := hok [] (mlv 0 [.inr 1, .inr a]) τ rfl (LR_args [.inr 1, .inr a]) rfl
  obtain ⟨e1, h3⟩ := h2
  cases r with
  | some v => cases e1
  | none =>
    have hln : ∀ q, LNf L q < 2 ^ 30 := fun q => hb (100 + q)
    have hct := sim_ctV (adr := adr) (tI := tI) (tB := tB) (tZ := tZ) (tL := tL) (l := l) (D := D) (av := [.inr 1, .inr a]) (y := y_Store_keep) (oc := 1) hX (sim_ok hX hmx hln n0) (by decide) (by decide) (Nat.le_of_ble_eq_true rfl) (h1 n0 (Nat.le_refl _))
    refine r_callV [.ref (adr a)] [] C hsz hW hct ok_Store_keep hl (wr := []) (List.range (nW BSt)) [] wld_rng rfl nd_rng rfl (fun i hi => absurd hi List.not_mem_nil) 0 (wld_o (B := BSt) (o := 1) (by decide)) k_Store rfl ⟨by simp only [rmD]; omega, by simp only [rmD]; omega⟩ (Nat.zero_le _) hf hdg (fun u H1 locs1 _ hW1 => kk τ' H1 locs1 h3 hW1)
end Kq
