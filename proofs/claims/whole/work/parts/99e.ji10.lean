/-! ===== items of the class: element declarations ===== -/
section JI10
variable {L : Nat → Nat} {rm nd : Nat} {σ τ : IS} {a : AS} {Q : IS → Prop}
theorem RJ.mbr {σ1 : IS} (hln : JLn L rm nd) (h : RJ L rm nd σ a) (hM : MBR σ σ1) : RJ L rm nd σ1 a ∧ sgr σ σ1 := by
  obtain ⟨hZ, hg⟩ := h.1.out (σ' := σ1) (fun o k hk => hM.1 o k (by omega)) (fun r hr => hM.row (by omega))
  have hA : ∀ (F : Nat → Nat → Bool) (R : Nat → Bool), F 5 8 = false → F 5 9 = false → R 128 = false → ag F R σ σ1 := fun F R h1 h2 h3 => ⟨fun o k hk => hM.1 o k (by rintro ⟨rfl, rfl | rfl⟩ <;> simp_all), fun r hr => hM.row (by rintro rfl; simp_all)⟩
  refine ⟨h.mk' hln hZ hg (Or.inl ⟨hA _ _ rfl rfl rfl, rfl, rfl⟩) (Or.inl ⟨hA _ _ rfl rfl rfl, rfl, rfl⟩) (Or.inl ⟨hA _ _ rfl rfl rfl, rfl⟩) (Or.inl ⟨hA _ _ rfl rfl rfl, rfl⟩) (Or.inl ⟨hA _ _ rfl rfl rfl, rfl⟩) (Or.inl ⟨hA _ _ rfl rfl rfl, rfl⟩) (Or.inl ⟨hA _ _ rfl rfl rfl, rfl⟩) (Or.inl ⟨hA _ _ rfl rfl rfl, rfl, rfl⟩) (Or.inl ⟨hA _ _ rfl rfl rfl, rfl⟩) (Or.inl ⟨hA _ _ rfl rfl rfl, rfl⟩) ⟨by rw [hM.1 2 4 (by omega)]; exact h.2.2.2.2.2.2.2.2.2.2.2.1, by rw [hM.1 2 6 (by omega)]; exact h.2.2.2.2.2.2.2.2.2.2.2.2⟩, hg⟩
theorem edf_app {ed : List EDc} {x : EDc} {s : Str} : en1 (edf (ed ++ [x]) s) = if edf ed s = none ∧ s = x.1 then (ed.length : Int) + 1 else en1 (edf ed s) := by
  have e1 : edf (ed ++ [x]) s = (edf ed s).or ((edf [x] s).map (fun i => i + ed.length)) := by unfold edf; rw [List.findIdx?_append]
  have e2 : edf [x] s = if x.1 == s then some 0 else none := by
    unfold edf
    rw [List.findIdx?_cons]
    split <;> rfl
  rw [e1, e2]
  cases h : edf ed s with
  | none =>
    by_cases c : x.1 = s
    · rw [if_pos (by simp [c]), if_pos ⟨rfl, c.symm⟩]
      show ((0 + ed.length : Nat) : Int) + 1 = _
      omega
    · rw [if_neg (by simp [c]), if_neg (fun z => c z.2.symm)]
      rfl
  | some i =>
    show en1 (some i) = if (some i : Option Nat) = none ∧ s = x.1 then (ed.length : Int) + 1 else en1 (some i)
    rw [if_neg (fun z => by cases z.1)]
theorem getD_snoc {α : Type} {l : List α} {x d : α} {i : Nat} : (l ++ [x]).getD i d = if i < l.length then l.getD i d else if i = l.length then x else d := by
  rw [List.getD_eq_getElem?_getD, List.getD_eq_getElem?_getD, List.getElem?_append]
  by_cases c : i < l.length
  · rw [if_pos c, if_pos c]
  · rw [if_neg c, if_neg c]
    by_cases c2 : i = l.length
    · rw [if_pos c2, c2, Nat.sub_self]; rfl
    · rw [if_neg c2, List.getElem?_eq_none (by simp; omega)]
      rfl
theorem sp_addElement {x y : Int} {nm : Str} {kd : Nat} {tx : List Int} (hln : JLn L rm nd) (h : RJ L rm nd σ a) (hn : (aD a).length < L 147) (hx : Jn σ x nm) (hy : Jt σ y tx) (hq : ∀ σ', RJ L rm nd σ' (sD a (aD a ++ [(nm, kd, tx)])) → (∀ o k, ¬ (o = 4 ∧ k = 3) → σ'.1 o k = σ.1 o k) → Q σ') : w_Declared_addElement L x (kd : Int) y Q σ := by
  have hEd := h.2.2.2.2.2.1
  have hxr := hx.rng h.1.1
  have hL := hln.2.2.2.2.2.2.1
  have h125 : L 125 = L 102 := hln.2.2.2.2.2.1.2.2.1
  have hrm := hln.2.1
  unfold w_Declared_addElement
  rw [hEd.1, if_pos (by omega), show Int.toNat ((aD a).length : Int) = (aD a).length by omega]
  refine ⟨⟨by omega, by omega⟩, ⟨by omega, by omega⟩, ⟨by omega, by omega⟩, ⟨by omega, by omega⟩, ⟨by omega, by omega⟩, ?_⟩
  refine WJ_dir ?_
  dsimp only
  have h125v : σ.2 125 x.toNat = en1 (edf (aD a) nm) := by rw [hEd.2.2.1 _ hxr.2.2.2.1, hxr.2.2.2.2]
  rw [h125v]
  generalize hφ : pf (pr (pr (pr σ 147 (aD a).length x) 116 (aD a).length (kd : Int)) 117 (aD a).length y) 4 3 (((aD a).length : Int) + 1) = φ
  have hφf : ∀ o k, ¬ (o = 4 ∧ k = 3) → φ.1 o k = σ.1 o k := fun o k hk => by rw [← hφ, pf_1, if_neg hk]; rfl
  have hφr : ∀ r, r ≠ 147 → r ≠ 116 → r ≠ 117 → φ.2 r = σ.2 r := fun r h1 h2 h3 => by rw [← hφ]; funext j; rw [pf_2, pr_2, if_neg (by omega), pr_2, if_neg (by omega), pr_2, if_neg (by omega)]
  obtain ⟨hZ1, hg1⟩ := h.1.out (σ' := φ) (fun o k hk => hφf o k (by omega)) (fun r hr => hφr r (by omega) (by omega) (by omega))
  have hfin : ∀ ψ : IS, (∀ o k, ψ.1 o k = φ.1 o k) → (∀ r, r ≠ 125 → ψ.2 r = φ.2 r) → WM L ψ 125 (fun s => en1 (edf (aD a ++ [(nm, kd, tx)]) s)) → Q ψ := by
    intro ψ p1 p2 p3
    obtain ⟨hZ2, hg2⟩ := hZ1.out (σ' := ψ) (fun o k hk => p1 o k) (fun r hr => p2 r (by omega))
    have hg := hg1.trans hg2
    have hψf : ∀ o k, ¬ (o = 4 ∧ k = 3) → ψ.1 o k = σ.1 o k := fun o k hk => by rw [p1, hφf o k hk]
    have hψr : ∀ r, r ≠ 147 → r ≠ 116 → r ≠ 117 → r ≠ 125 → ψ.2 r = σ.2 r := fun r h1 h2 h3 h4 => by rw [p2 r h4, hφr r h1 h2 h3]
    have hA : ∀ (F : Nat → Nat → Bool) (R : Nat → Bool), F 4 3 = false → R 147 = false → R 116 = false → R 117 = false → R 125 = false → ag F R σ ψ := fun F R h1 h2 h3 h4 h5 => ⟨fun o k hk => hψf o k (by rintro ⟨rfl, rfl⟩; simp_all), fun r hr => hψr r (by rintro rfl; simp_all) (by rintro rfl; simp_all) (by rintro rfl; simp_all) (by rintro rfl; simp_all)⟩
    refine hq ψ (h.mk' hln hZ2 hg (Or.inl ⟨hA _ _ rfl rfl rfl rfl rfl, rfl, rfl⟩) (Or.inl ⟨hA _ _ rfl rfl rfl rfl rfl, rfl, rfl⟩) (Or.inl ⟨hA _ _ rfl rfl rfl rfl rfl, rfl⟩) (Or.inl ⟨hA _ _ rfl rfl rfl rfl rfl, rfl⟩) (Or.inr ?_) (Or.inl ⟨hA _ _ rfl rfl rfl rfl rfl, rfl⟩) (Or.inl ⟨hA _ _ rfl rfl rfl rfl rfl, rfl⟩) (Or.inl ⟨hA _ _ rfl rfl rfl rfl rfl, rfl, rfl⟩) (Or.inl ⟨hA _ _ rfl rfl rfl rfl rfl, rfl⟩) (Or.inl ⟨hA _ _ rfl rfl rfl rfl rfl, rfl⟩) ⟨by rw [hψf 2 4 (by omega)]; exact h.2.2.2.2.2.2.2.2.2.2.2.1, by rw [hψf 2 6 (by omega)]; exact h.2.2.2.2.2.2.2.2.2.2.2.2⟩) hψf
    show JEd L ψ (aD a ++ [(nm, kd, tx)])
    refine ⟨?_, fun i hi => ?_, p3⟩
    · rw [p1, ← hφ, pf_eq, List.length_append]; rfl
    · rw [List.length_append] at hi
      have hi' : i < (aD a).length + 1 := hi
      rw [getD_snoc, p2 147 (by decide), p2 116 (by decide), p2 117 (by decide)]
      have r1 : φ.2 147 i = if i = (aD a).length then x else σ.2 147 i := by
        rw [← hφ, pf_2, pr_2, if_neg (by omega), pr_2, if_neg (by omega), pr_2]
        by_cases c : i = (aD a).length
        · rw [if_pos ⟨rfl, c⟩, if_pos c]
        · rw [if_neg (fun z => c z.2), if_neg c]
      have r2 : φ.2 116 i = if i = (aD a).length then (kd : Int) else σ.2 116 i := by
        rw [← hφ, pf_2, pr_2, if_neg (by omega), pr_2]
        by_cases c : i = (aD a).length
        · rw [if_pos ⟨rfl, c⟩, if_pos c]
        · rw [if_neg (fun z => c z.2), if_neg c, pr_2, if_neg (by omega)]
      have r3 : φ.2 117 i = if i = (aD a).length then y else σ.2 117 i := by
        rw [← hφ, pf_2, pr_2]
        by_cases c : i = (aD a).length
        · rw [if_pos ⟨rfl, c⟩, if_pos c]
        · rw [if_neg (fun z => c z.2), if_neg c, pr_2, if_neg (by omega), pr_2, if_neg (by omega)]
      rw [r1, r2, r3]
      by_cases c : i < (aD a).length
      · rw [if_pos c, if_neg (by omega), if_neg (by omega), if_neg (by omega)]
        have := hEd.2.1 i c
        exact ⟨this.1.gr hg, this.2.1, this.2.2.gr hg⟩
      · have c2 : i = (aD a).length := by omega
        rw [if_neg c, if_pos c2, if_pos c2, if_pos c2, if_pos c2]
        exact ⟨hx.gr hg, rfl, hy.gr hg⟩
  have hjw : jw φ = jw σ := by unfold jw; rw [hφf 1 14 (by omega)]
  have hW := hEd.2.2.gr hg1 hZ1.1 hln.1 (hφr 125 (by decide) (by decide) (by decide))
  have hwx : wst φ x.toNat = nm := by
    have : Jn φ x nm := hx.gr hg1
    exact (this.rng hZ1.1).2.2.2.2
  cases hf : edf (aD a) nm with
  | none =>
    rw [if_pos (by rfl)]
    refine ⟨⟨by omega, by omega⟩, ?_⟩
    refine hfin _ (fun _ _ => rfl) (fun r hr => funext (fun j => by rw [pr_2, if_neg (fun z => hr z.1)])) ?_
    refine (hW.set (x := ((aD a).length : Int) + 1) hZ1.1 (by omega) (by omega : x.toNat < jw φ)).cong (fun s => ?_)
    rw [hwx, edf_app]
    by_cases c : s = nm
    · rw [if_pos c, if_pos ⟨by rw [c]; exact hf, c⟩]
    · rw [if_neg c, if_neg (fun z => c z.2)]
  | some i =>
    rw [if_neg (by show ¬ ((i : Int) + 1 = 0); omega)]
    refine hfin _ (fun _ _ => rfl) (fun _ _ => rfl) (hW.cong (fun s => ?_))
    rw [edf_app, if_neg]
    rintro ⟨z1, z2⟩
    have z2' : s = nm := z2
    rw [z2', hf] at z1
    cases z1
theorem sk_gt {p : Int → Bool} {T : Nat → Int} {e i : Nat} : i ≤ sk p T e i := (skw_le _ _).1
theorem mdk_len {T : Nat → Int} {e : Nat} : ∀ (N : Nat) (st : List Int) (due : Bool) (k n d : Nat) (r : Nat × Nat × Nat), k ≤ e → mdk T e N st due k n d = some r → (st ≠ [] → k + st.length + due.toNat ≤ r.1) ∧ k ≤ r.1 := by
  intro N
  induction N with
  | zero => intro st due k n d r _ h; cases h
  | succ N ih =>
    intro st due k n d r h0 h
    have hle := mdk_le _ _ _ _ _ _ r h0 h
    refine ⟨fun hst => ?_, hle.1⟩
    cases st with
    | nil => exact absurd rfl hst
    | cons s st =>
      have g0 := sk_le (p := isSp) (T := T) h0
      have h' : (if due = true then (if lk T e (sk isSp T e k) = 40 then mdk T e N (0 :: s :: st) true (sk isSp T e k + 1) n (if d < st.length + 2 then st.length + 2 else d) else (match nmg T e true (some (sk isSp T e k)) with
            | none => none
            | some j => mdk T e N (s :: st) false (oft T e j) (n + 1) d))
          else if lk T e (sk isSp T e k) = 41 then mdk T e N st false (oft T e (sk isSp T e k + 1)) n d
          else if (lk T e (sk isSp T e k) = 124 ∨ lk T e (sk isSp T e k) = 44) ∧ (s = 0 ∨ s = lk T e (sk isSp T e k)) then mdk T e N (lk T e (sk isSp T e k) :: st) true (sk isSp T e k + 1) n d
          else none) = some r := h
      rw [List.length_cons]
      by_cases c1 : due = true
      · rw [if_pos c1] at h'
        rw [c1]
        by_cases c2 : lk T e (sk isSp T e k) = 40
        · rw [if_pos c2] at h'
          have g1 := (lk_lt (by decide) c2).1
          have := (ih _ _ _ _ _ r (by omega) h').1 (by simp)
          simp only [List.length_cons, Bool.toNat_true] at this ⊢
          omega
        · rw [if_neg c2] at h'
          cases hn : nmg T e true (some (sk isSp T e k)) with
          | none => rw [hn] at h'; cases h'
          | some j =>
            rw [hn] at h'
            dsimp only at h'
            have g1 := nmg_lt hn
            have g2 := oft_le (T := T) g1.2.2
            have := (ih _ _ _ _ _ r (by omega) h').1 (by simp)
            simp only [List.length_cons, Bool.toNat_true, Bool.toNat_false] at this ⊢
            omega
      · rw [if_neg c1] at h'
        have c1' : due = false := by simpa using c1
        rw [c1']
        by_cases c2 : lk T e (sk isSp T e k) = 41
        · rw [if_pos c2] at h'
          have g1 := (lk_lt (by decide) c2).1
          have g2 := oft_le (T := T) (show sk isSp T e k + 1 ≤ e by omega)
          have := ih _ _ _ _ _ r (by omega) h'
          cases st with
          | nil => simp only [List.length_nil, Bool.toNat_false]; omega
          | cons y ys =>
            have := this.1 (by simp)
            simp only [List.length_cons, Bool.toNat_false] at this ⊢
            omega
        · rw [if_neg c2] at h'
          by_cases c3 : (lk T e (sk isSp T e k) = 124 ∨ lk T e (sk isSp T e k) = 44) ∧ (s = 0 ∨ s = lk T e (sk isSp T e k))
          · rw [if_pos c3] at h'
            have g1 : sk isSp T e k < e := by
              rcases c3.1 with c4 | c4
              · exact (lk_lt (by decide) c4).1
              · exact (lk_lt (by decide) c4).1
            have := (ih _ _ _ _ _ r (by omega) h').1 (by simp)
            simp only [List.length_cons, Bool.toNat_true, Bool.toNat_false] at this ⊢
            omega
          · rw [if_neg c3] at h'
            cases h'
theorem cnt_gt {T : Nat → Int} {e c m : Nat} (h : cnt T e c = some m) : c + 3 ≤ m := by
  unfold cnt at h
  split at h
  · cases h; omega
  · split at h
    · cases h; omega
    · split at h
      · rename_i c2
        split at h
        · rename_i c3
          have g0 : c ≤ sk isSp T e (c + 1) := Nat.le_trans (Nat.le_succ _) sk_gt
          have g1 : sk isSp T e (c + 1) + 7 ≤ e := by
            have : mt T e (sk isSp T e (c + 1)) [35, 80, 67, 68, 65, 84, 65] = true := by
              unfold cnK at c2
              split at c2
              · cases c2
              · split at c2
                · cases c2
                · split at c2
                  · assumption
                  · cases c2
            exact wd_bad (l := [35, 80, 67, 68, 65, 84, 65]) ti_1038 (by decide) this
          have := mxk_le _ _ _ _ g1 h
          omega
        · cases h
      · unfold mdl at h
        split at h
        · rename_i c3
          rw [mt1] at c3
          have g5 := lk_lt (by decide) (show lk T e c = 40 by simpa using c3)
          cases hm : mdk T e (e + 2) [0] true (c + 1) 0 1 with
          | none => rw [hm] at h; cases h
          | some r =>
            rw [hm] at h
            have := (mdk_len _ _ _ _ _ _ r (by omega) hm).1 (by simp)
            have hr : r.1 = m := Option.some.inj h
            simp only [List.length_cons, List.length_nil, Bool.toNat_true] at this
            omega
        · cases h
set_option maxHeartbeats 1000000 in
theorem jI_eld (hln : JLn L rm nd) (h : RJ L rm nd σ a) (hG : GA rm nd a) (hB : GB a) (hC : JC L σ a) (hm : mt (gd (cur a)) (cur a).length 0 [60, 33, 69, 76, 69, 77, 69, 78, 84] = true) (hq : JO L rm nd σ Q (iEld a)) : w_Doctype_readElement L Q σ := by
  obtain ⟨p, g, t, hF, hp, hS, hT, htp, hj⟩ := h.at hln
  have hjl := h.1.1.jtp_le
  have h9 : L 101 < 1000000 := hln.1.2.2.2.2.2.2.2
  have hcap := hC.cap hln hG
  have hrm := hln.2.1
  have hG' := id hG
  obtain ⟨gO, gw, ⟨r1, r2, r3, r4⟩, ⟨c1, c2, c3, c4, c5, c6⟩, -⟩ := hG'
  have h128 : L 128 = (if rm < 65536 then rm else 65536) + 1 := hln.2.2.2.2.2.2.2.2.2.1
  have h147 : L 147 = rm / 16 + 2 := hln.2.2.2.2.2.2.1.2.2
  have hcl : (cur a).length ≤ aN a 8 := hB.1 (cur a, g) (by rw [hF]; simp)
  have hm' : mt (σ.2 101) (p + (cur a).length) p [60, 33, 69, 76, 69, 77, 69, 78, 84] = true := by
    have := sh_mt hT [60, 33, 69, 76, 69, 77, 69, 78, 84] 0
    rw [show p + 0 = p by omega] at this
    rw [this]; exact hm
  have h10 : 9 ≤ (cur a).length := wd_bad (l := [60, 33, 69, 76, 69, 77, 69, 78, 84]) ti_1028 (by decide) hm
  have hek := sh_elk hT 0
  have hec := sh_elc hT 0
  rw [show p + 0 = p by omega] at hek hec
  have hid : iEld a = match spc (gd (cur a)) (cur a).length (some 9), elk (gd (cur a)) (cur a).length 0 with
    | some s, some k => match nmg (gd (cur a)) (cur a).length true (some s), elc (gd (cur a)) (cur a).length 0 with
      | some n, some c => if cnK (gd (cur a)) (cur a).length c = 3 ∧ (255 < ((mdl (gd (cur a)) (cur a).length c).getD (0, 0, 0)).2.1 ∨ 60 < ((mdl (gd (cur a)) (cur a).length c).getD (0, 0, 0)).2.2) then .inl 4
        else .inr (adv (sD a (aD a ++ [(sl (gd (cur a)) s (n - s), cnK (gd (cur a)) (cur a).length c, sl (gd (cur a)) c (k - c))])) k)
      | _, _ => .inl 5
    | _, _ => .inl 5 := rfl
  have helc : elc (gd (cur a)) (cur a).length 0 = spc (gd (cur a)) (cur a).length (nmg (gd (cur a)) (cur a).length true (spc (gd (cur a)) (cur a).length (some 9))) := rfl
  refine j_readElement hS (by split at h128 <;> omega) (by split at h128 <;> omega) hm' hj (fun s' n' c' k' σ1 τ hs hn hc hk hmd hM hτ => ?_) (fun c' k' r σ1 τ hc hk hk3 hmd hbig hM hτ => ?_) (fun hno σ1 τ hM hτ => ?_)
  · rw [sh_spcs hT] at hs
    obtain ⟨s, hs1, rfl⟩ := mvo_eq_some.mp hs
    rw [sh_nmgs hT] at hn
    obtain ⟨n, hn1, rfl⟩ := mvo_eq_some.mp hn
    rw [sh_spcs hT] at hc
    obtain ⟨c, hc1, rfl⟩ := mvo_eq_some.mp hc
    rw [hek] at hk
    obtain ⟨k, hk1, rfl⟩ := mvo_eq_some.mp hk
    rw [sh_cnK hT] at hmd ⊢
    rw [sh_mdl hT] at hmd
    have helc' : elc (gd (cur a)) (cur a).length 0 = some c := by rw [helc, hs1, hn1]; exact hc1
    rw [hs1, hk1] at hid
    dsimp only at hid
    rw [hn1, helc'] at hid
    dsimp only at hid
    have hno : ¬ (cnK (gd (cur a)) (cur a).length c = 3 ∧ (255 < ((mdl (gd (cur a)) (cur a).length c).getD (0, 0, 0)).2.1 ∨ 60 < ((mdl (gd (cur a)) (cur a).length c).getD (0, 0, 0)).2.2)) := by
      rintro ⟨z1, z2⟩
      obtain ⟨r, z3, z4, z5⟩ := hmd z1
      cases hmm : mdl (gd (cur a)) (cur a).length c with
      | none => rw [hmm] at z3; cases z3
      | some r' =>
        rw [hmm] at z2 z3
        have : (p + r'.1, r'.2) = r := Option.some.inj z3
        rw [← this] at z4 z5
        have z2' : 255 < r'.2.1 ∨ 60 < r'.2.2 := z2
        have z4' : r'.2.1 ≤ 255 := z4
        have z5' : r'.2.2 ≤ 60 := z5
        omega
    rw [if_neg hno] at hid
    have hsl := spc_gt h10 hs1
    have hnl := nmg_lt hn1
    have hcl2 := spc_gt hnl.2.2 hc1
    have hkl : k ≤ (cur a).length := by have := hτ.at.2; omega
    have hm0 : ∃ m, cnt (gd (cur a)) (cur a).length c = some m ∧ m < k := by
      have hk2 : wd (gd (cur a)) (cur a).length [62] (asp (gd (cur a)) (cur a).length ((elc (gd (cur a)) (cur a).length 0).bind (cnt (gd (cur a)) (cur a).length))) = some k := hk1
      rw [helc', Option.bind_some] at hk2
      cases hm1 : cnt (gd (cur a)) (cur a).length c with
      | none => rw [hm1] at hk2; cases hk2
      | some m =>
        rw [hm1] at hk2
        have hk3 := wd1 (by decide) (show wd (gd (cur a)) (cur a).length [62] (some (sk isSp (gd (cur a)) (cur a).length m)) = some k from hk2)
        have : m ≤ sk isSp (gd (cur a)) (cur a).length m := sk_gt
        exact ⟨m, rfl, by omega⟩
    obtain ⟨m, hm1, hmk⟩ := hm0
    have hmg := cnt_gt hm1
    have hid1 : iEld a = .inr (adv (sD a (aD a ++ [(sl (gd (cur a)) s (n - s), cnK (gd (cur a)) (cur a).length c, sl (gd (cur a)) c (k - c))])) k) := hid
    obtain ⟨hR1, hg1⟩ := h.mbr hln hM
    have hp1 : σ1.1 2 2 = (p : Int) := by rw [hM.1 2 2 (by omega)]; exact hp
    obtain ⟨hR, hg0⟩ := hR1.rd hln hp1 hkl hτ
    obtain ⟨s1, s2, s3, s4, s5⟩ := hτ.store
    have s16 : τ.1 1 16 = σ1.1 1 16 := hτ.keep (by omega) (by omega)
    rw [adv_of hF] at hR
    generalize hX : ((cur a).drop k, g) :: t = X at *
    have hτ101 : τ.2 101 = σ.2 101 := by rw [hτ.row, hM.row (by decide)]
    have j1 : jw σ1 = jw σ := by unfold jw; rw [hM.1 1 14 (by omega)]
    have j2 : jtp σ1 = jtp σ := by unfold jtp; rw [hM.1 1 3 (by omega)]
    have hstr : sl (τ.2 101) (p + s) (n - s) = sl (gd (cur a)) s (n - s) := by rw [hτ101]; exact sh_sl hT (by omega)
    have hstr2 : sl (τ.2 101) (p + c) (k - c) = sl (gd (cur a)) c (k - c) := by rw [hτ101]; exact sh_sl hT (by omega)
    have hJt : Jt τ ((p + c : Nat) : Int) (sl (gd (cur a)) c (k - c)) := by
      have hlen : (sl (gd (cur a)) c (k - c)).length = k - c := by simp [sl]
      refine ⟨p + c, rfl, by rw [hlen]; omega, by rw [hlen]; exact hstr2⟩
    refine sp_int (s := p + s) (n := n - s) hln hR (by omega) (by omega) rfl (by omega) (fun x σ2 hR2 hg2 hJn hjw2 hjt2 hfr => ?_)
    rw [hstr] at hJn
    refine sp_addElement hln hR2 (show (aD a).length < L 147 by omega) hJn (hJt.gr hg2) (fun σ3 hR3 hf3 => ?_)
    have hF3 : aF (sD a (aD a ++ [(sl (gd (cur a)) s (n - s), cnK (gd (cur a)) (cur a).length c, sl (gd (cur a)) c (k - c))])) = (cur a, g) :: t := hF
    rw [adv_of hF3, hX] at hid1
    refine hq.2 _ hid1 σ3 hR3 ?_ (by rw [hf3 2 5 (by omega), hfr.1 2 5 (by omega), s5, hM.1 2 5 (by omega)])
    have hremX := rem_adv hkl
    rw [adv_of hF, hX] at hremX
    refine hC.one (k := k) (by omega) ?_ ?_ ?_ ?_ rfl rfl hremX rfl rfl rfl rfl (show cnl (aD a ++ [(sl (gd (cur a)) s (n - s), cnK (gd (cur a)) (cur a).length c, sl (gd (cur a)) c (k - c))]) + 2 ≤ cnl (aD a) + k by rw [cnl_app, show (sl (gd (cur a)) c (k - c)).length = k - c by simp [sl]]; omega) (by rw [hf3 1 16 (by omega), hfr.1 1 16 (by omega), s16, hM.1 1 16 (by omega)]) (Nat.le_refl _)
    · have e1 : jw σ3 = jw σ2 := by unfold jw; rw [hf3 1 14 (by omega)]
      omega
    · have e1 : jtp σ3 = jtp σ2 := by unfold jtp; rw [hf3 1 3 (by omega)]
      omega
    · rw [hf3 1 2 (by omega), hfr.1 1 2 (by omega), s3, hM.1 1 2 (by omega)]
    · rw [hf3 4 16 (by omega), hfr.1 4 16 (by omega), s4, hM.1 4 16 (by omega)]
  · rw [hec] at hc
    obtain ⟨c, hc1, rfl⟩ := mvo_eq_some.mp hc
    rw [hek] at hk
    obtain ⟨k, hk1, rfl⟩ := mvo_eq_some.mp hk
    rw [sh_cnK hT] at hk3
    rw [sh_mdl hT] at hmd
    have hkl : k ≤ (cur a).length := by have := hτ.at.2; omega
    cases hs1 : spc (gd (cur a)) (cur a).length (some 9) with
    | none => rw [helc, hs1] at hc1; cases hc1
    | some s =>
      cases hn1 : nmg (gd (cur a)) (cur a).length true (some s) with
      | none => rw [helc, hs1, hn1] at hc1; cases hc1
      | some n =>
        rw [hs1, hk1] at hid
        dsimp only at hid
        rw [hn1, hc1] at hid
        dsimp only at hid
        have hyes : cnK (gd (cur a)) (cur a).length c = 3 ∧ (255 < ((mdl (gd (cur a)) (cur a).length c).getD (0, 0, 0)).2.1 ∨ 60 < ((mdl (gd (cur a)) (cur a).length c).getD (0, 0, 0)).2.2) := by
          refine ⟨hk3, ?_⟩
          cases hmm : mdl (gd (cur a)) (cur a).length c with
          | none => rw [hmm] at hmd; cases hmd
          | some r' =>
            rw [hmm] at hmd
            have : (p + r'.1, r'.2) = r := Option.some.inj hmd
            rw [← this] at hbig
            exact hbig
        rw [if_pos hyes] at hid
        obtain ⟨hR1, hg1⟩ := h.mbr hln hM
        have hp1 : σ1.1 2 2 = (p : Int) := by rw [hM.1 2 2 (by omega)]; exact hp
        obtain ⟨hR, hg0⟩ := hR1.rd hln hp1 hkl hτ
        have hB0 := hR.ft (n := 4) (by decide)
        rw [flt_val hR.2.2.2.2.2.2.2.2.2.2.2.1, hτ.store.2.2.2.2, hM.1 2 5 (by omega)] at hB0
        exact hq.1 4 hid _ hB0
  · rw [hek] at hno
    have hk0 := mvo_eq_none.mp hno
    rw [hk0] at hid
    have hid' : iEld a = .inl 5 := by
      rw [hid]
      cases spc (gd (cur a)) (cur a).length (some 9) <;> rfl
    have hB0 := (h.mbr hln hM).1.bad hτ
    rw [hM.1 2 5 (by omega)] at hB0
    exact hq.1 5 hid' τ hB0
end JI10
