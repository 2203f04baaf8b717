/-! ===== values kept, in the class ===== -/
theorem sl_last {f : Nat → Int} {b n : Nat} {d : Int} (h : 0 < n) : (sl f b n).getLastD d = f (b + (n - 1)) := by
  obtain ⟨m, rfl⟩ : ∃ m, n = m + 1 := ⟨n - 1, by omega⟩
  rw [sl_succ]
  simp
theorem sl_nil {f : Nat → Int} {b n : Nat} : sl f b n = [] ↔ n = 0 := by
  constructor
  · intro h
    have := congrArg List.length h
    rw [sl_ln] at this
    exact this
  · intro h
    subst h
    rfl
theorem nrm1_len {acc : List Int} {c : Int} : (nrm1 acc c).length ≤ acc.length + 1 ∧ acc.length ≤ (nrm1 acc c).length := by
  unfold nrm1
  split
  · rw [List.length_append, List.length_singleton]; omega
  · omega
theorem nrmf_len : ∀ (l acc : List Int), (l.foldl nrm1 acc).length ≤ acc.length + l.length := by
  intro l
  induction l with
  | nil => intro acc; simp
  | cons c r ih =>
    intro acc
    have h1 := ih (nrm1 acc c)
    have h2 := nrm1_len (acc := acc) (c := c)
    rw [List.foldl_cons, List.length_cons]
    omega
theorem nrm_len (l : List Int) : (nrm l).length ≤ l.length := by
  have h := nrmf_len l []
  rw [List.length_nil] at h
  unfold nrm
  split
  · rw [List.length_dropLast]; omega
  · omega
theorem nrt_len (t : Nat) (l : List Int) : (nrt t l).length ≤ l.length := by
  unfold nrt
  split
  · omega
  · exact nrm_len l
def fK : Nat → Nat → Bool := fun o k => !(o == 1 && (k == 3 || (k == 13 || k == 14)))
def rK : Nat → Bool := fun r => !(r == 101 || (r == 102 || (r == 103 || (r == 104 || (r == 105 || r == 106)))))
section JKv
variable {L : Nat → Nat} {rm nd : Nat} {σ0 σ : IS}
/-- the word of what was added -/
theorem sp_internAdded {Q : Int → IS → Prop} {b0 : Nat} {l : List Int} (hln : JLn L rm nd) (hZ0 : JZ L rm nd σ0) (hb : jtp σ0 = b0) (hZ : JZ L rm nd σ) (hX : VX b0 σ0 σ) (ho : jtp σ = b0 + l.length ∧ sl (σ.2 101) b0 l.length = l) (hcap : jw σ0 < L 102)
    (hq : ∀ x σ', JZ L rm nd σ' → sgr σ0 σ' → Jn σ' x l → (jw σ' ≤ jw σ0 + 1 ∧ (l = [] → jw σ' = jw σ0)) → jtp σ' ≤ b0 + l.length → ag fK rK σ σ' → Q x σ') : w_Store_internAdded L (b0 : Int) Q σ := by
  have hj := hZ.1.jtp_le
  have h9 : L 101 < 1000000 := hln.1.2.2.2.2.2.2.2
  have hjw0 := hZ0.1.jw_le
  have hjw := hZ.1.jw_le
  have e14 : σ.1 1 14 = σ0.1 1 14 := hX.1.1 1 14 rfl
  have ejw : jw σ = jw σ0 := by unfold jw; rw [e14]
  unfold w_Store_internAdded
  refine ⟨⟨by omega, by omega⟩, ?_⟩
  have hsl : sl (σ.2 101) ((b0 : Int)).toNat (σ.1 1 3 - (b0 : Int)).toNat = l := by
    rw [show ((b0 : Int)).toNat = b0 by omega, show (σ.1 1 3 - (b0 : Int)).toNat = l.length by omega]
    exact ho.2
  refine sp_Store_intern hZ.1 hln.1 ⟨by omega, by omega, by omega⟩ (fun _ => by omega) (fun x σ1 hin => ?_)
  rw [hsl] at hin
  obtain ⟨i1, ⟨w, hw1, hw2, hw3⟩, i3, i4, i5, i6⟩ := id hin
  obtain ⟨hg, hJn⟩ := hin.gr hZ.1
  refine WJ_dir ?_
  dsimp only
  have hgs0 : sgr σ0 σ1 := by
    refine ⟨Nat.le_trans (by omega) hg.1, Nat.le_trans (by omega) hg.2.1, fun v hv => ?_, fun i hi => ?_, fun v hv => ?_⟩
    · rw [hg.2.2.1 v (by omega)]
      have hb := hZ0.1.2.1 v (by omega)
      unfold wst wfr wsz
      rw [hX.1.2 102 rfl, hX.1.2 103 rfl]
      have hj0 := hZ0.1.jtp_le
      exact sl_ext (fun j hj => hX.2 _ (by omega))
    · rw [hg.2.2.2.1 i (by omega)]
      exact hX.2 i (by omega)
    · have := hg.2.2.2.2 v (by omega)
      rw [this.1, this.2, hX.1.2 102 rfl, hX.1.2 103 rfl]
      exact ⟨rfl, rfl⟩
  have hZ1 : JZ L rm nd σ1 := hZ.dep i1 hg (fun i hi => by rw [i4.2 101 i (by omega)]; exact hZ.2.1 i hi) (rng_of hZ.2.2.2.2.2.1 (fun j _ _ => i4.1 2 j (by omega))) ⟨fun o k hk => i4.1 o k (by simp [fZ] at hk; omega), fun r hr => by simp [rZ] at hr; funext i; exact i4.2 r i (by omega)⟩
  have hag1 : ag fK rK σ σ1 := ⟨fun o k hk => i4.1 o k (by simp [fK] at hk; omega), fun r hr => by simp [rK] at hr; funext i; exact i4.2 r i (by omega)⟩
  have hnil : l = [] → σ1.1 1 14 = σ.1 1 14 := by
    intro hl
    rcases i6 with h6 | h6
    · exact h6.2.1
    · exfalso
      have hc := hZ.2.2.1
      have h0 := hc.2 0 (by omega)
      have ht : ti (1064 + 0) = [] := by decide +kernel
      rw [ht] at h0
      exact h6.1 0 (by omega) (by rw [h0, hl])
  by_cases c : σ.1 1 14 = σ1.1 1 14
  · rw [if_pos c]
    -- the word was known
    have hkn : (∃ w : Nat, x = (w : Int) ∧ (w : Int) < σ.1 1 14 ∧ wst σ w = l) ∧ ∀ r i, σ1.2 r i = σ.2 r i := by
      rcases i6 with h6 | h6
      · exact ⟨h6.1, h6.2.2⟩
      · have := h6.2.1; omega
    have hS2 : SI L (pf σ1 1 3 (b0 : Int)) ∧ sgr σ0 (pf σ1 1 3 (b0 : Int)) := by
      have hj0 := hZ0.1.jtp_le
      refine SI_of hZ0.1 (by rw [pf_nk (by decide), ← c, e14]) (by rw [pf_eq]; omega) (fun r h1 h2 => ?_) (fun i hi => ?_)
      · rw [pf_2]
        funext i
        rw [hkn.2, hX.1.2 r (by simp [rV]; omega)]
      · rw [pf_2, hkn.2]
        exact hX.2 i (by omega)
    have hZ2 : JZ L rm nd (pf σ1 1 3 (b0 : Int)) := by
      have hb0 : bsto L (pf σ1 1 3 (b0 : Int)) := by
        have hb := hZ1.2.2.2.2.1.1.2.2.2
        unfold bsto at hb ⊢
        rw [pf_no (by decide), pf_no (by decide)]
        exact hb
      refine hZ0.dep0 hS2.1 hS2.2 (fun i hi => by rw [pf_2, hkn.2]; exact hZ.2.1 i hi) (rng_of hZ1.2.2.2.2.2.1 (fun j _ _ => pf_no (by decide))) ⟨fun o k hk => ?_, fun r hr => ?_⟩ hb0
      · rw [pf_1, if_neg (by simp [fZ0] at hk; omega), i4.1 o k (by simp [fZ0] at hk; omega)]
        exact hX.1.1 o k (by simp [fZ0] at hk; simp [fV]; omega)
      · rw [pf_2]
        funext i
        rw [hkn.2, hX.1.2 r (by simp [rZ0] at hr; simp [rV]; omega)]
    have ejw2 : jw (pf σ1 1 3 (b0 : Int)) = jw σ0 := by
      unfold jw
      rw [pf_nk (by decide), ← c, e14]
    refine hq x _ hZ2 hS2.2 ?_ ⟨by omega, fun _ => ejw2⟩ ?_ (hag1.pf rfl)
    · obtain ⟨⟨v, hv1, hv2, hv3⟩, -⟩ := hkn
      refine ⟨v, hv1, by rw [ejw2]; omega, ?_⟩
      rw [hS2.2.2.2.1 v (by omega), ← hv3]
      have hb := hZ0.1.2.1 v (by omega)
      have hj0 := hZ0.1.jtp_le
      unfold wst wfr wsz
      rw [hX.1.2 102 rfl, hX.1.2 103 rfl]
      exact sl_ext (fun j hj => (hX.2 _ (by omega)).symm)
    · have : jtp (pf σ1 1 3 (b0 : Int)) = b0 := by unfold jtp; rw [pf_eq]; omega
      omega
  · rw [if_neg c]
    have hj1 := i1.jw_le
    refine hq x σ1 hZ1 hgs0 hJn ⟨?_, fun hl => absurd (hnil hl).symm c⟩ ?_ hag1
    · rcases i6 with h6 | h6
      · have := h6.2.1; omega
      · have := h6.2.1; omega
    · have : jtp σ1 = jtp σ := by unfold jtp; rw [i4.1 1 3 (by omega)]
      omega
set_option maxHeartbeats 1000000 in
theorem sp_keepValue {Q : Int → IS → Prop} {b0 t : Nat} {out : List Int} {ty : Int} (hln : JLn L rm nd) (hZ0 : JZ L rm nd σ0) (hb : jtp σ0 = b0) (hZ : JZ L rm nd σ) (hX : VX b0 σ0 σ) (ho : jtp σ = b0 + out.length ∧ sl (σ.2 101) b0 out.length = out) (hcap : jw σ0 < L 102) (hty : ty = (t : Int) + 10)
    (hq : ∀ x σ', JZ L rm nd σ' → sgr σ0 σ' → Jn σ' x (nrt t out) → (jw σ' ≤ jw σ0 + 1 ∧ (nrt t out = [] → jw σ' = jw σ0)) → jtp σ' ≤ b0 + (nrt t out).length → ag fK rK σ σ' → Q x σ') : w_Entities_keepValue L (b0 : Int) ty Q σ := by
  have hj := hZ.1.jtp_le
  have h9 : L 101 < 1000000 := hln.1.2.2.2.2.2.2.2
  unfold w_Entities_keepValue
  refine WJ_of (fun _ ρ => JZ L rm nd ρ ∧ VX b0 σ0 ρ ∧ (jtp ρ = b0 + (nrt t out).length ∧ sl (ρ.2 101) b0 (nrt t out).length = nrt t out) ∧ ag fK rK σ ρ) (fun J hJ => ?_) ?_
  · by_cases c : ty = 10
    · rw [if_pos c]
      have ht : t = 0 := by omega
      have : nrt t out = out := by unfold nrt; rw [if_pos ht]
      rw [this] at hJ
      exact hJ _ _ ⟨hZ, hX, ho, ag.refl⟩
    · rw [if_neg c]
      have ht : ¬ t = 0 := by omega
      have hnt : nrt t out = nrm out := by unfold nrt; rw [if_neg ht]
      rw [hnt] at hJ
      have hTo : SHT (gd out) (σ.2 101) out.length b0 := sht_sl ho.2
      refine WL_ind (fun s ρ => ∃ (k : Nat) (acc : List Int), k ≤ out.length ∧ s.2 = ((b0 + k : Nat) : Int) ∧ s.1 = ((b0 + acc.length : Nat) : Int) ∧ acc.length ≤ k ∧ acc = (out.take k).foldl nrm1 [] ∧ sl (ρ.2 101) b0 acc.length = acc ∧ (∀ i, k ≤ i → i < out.length → ρ.2 101 (b0 + i) = gd out i) ∧ (∀ r, r ≠ 101 → ρ.2 r = σ.2 r) ∧ (∀ i, i < b0 → ρ.2 101 i = σ.2 101 i) ∧ jch L ρ ∧ ρ.1 = σ.1) (fun s _ => (((b0 + out.length : Nat) : Int) - s.2).toNat) ?_ ((b0 : Int), (b0 : Int)) σ ⟨0, [], by omega, by simp, by simp, by simp, by simp, rfl, fun i _ hi => hTo i hi, fun _ _ => rfl, fun _ _ => rfl, hZ.2.1, rfl⟩
      rintro ⟨to, i⟩ ρ ⟨k, acc, hk, hi, hto, hak, hacc, hsl, hrest, hrow, hlow, hch, hf⟩ K hI
      dsimp only at hi hto hI ⊢
      have hf3 : ρ.1 1 3 = σ.1 1 3 := by rw [hf]
      rw [hf3]
      have hlast : 0 < acc.length → ρ.2 101 (b0 + (acc.length - 1)) = acc.getLastD 32 := by
        intro hp
        have h0 := sl_last (f := ρ.2 101) (b := b0) (d := 32) hp
        rw [hsl] at h0
        exact h0.symm
      by_cases c1 : i < σ.1 1 3
      · have hkl : k < out.length := by omega
        rw [if_pos c1]
        refine ⟨⟨by omega, by omega⟩, ?_⟩
        have hti : i.toNat = b0 + k := by omega
        have htt : to.toNat = b0 + acc.length := by omega
        have hci : ρ.2 101 (b0 + k) = gd out k := hrest k (by omega) hkl
        have htk : out.take (k + 1) = out.take k ++ [gd out k] := by
          rw [List.take_succ]
          unfold gd
          rw [List.getD_eq_getElem?_getD, List.getElem?_eq_getElem hkl]
          rfl
        have hstep : (out.take (k + 1)).foldl nrm1 [] = nrm1 acc (gd out k) := by
          rw [htk, List.foldl_append, ← hacc]
          rfl
        rw [hti, hci]
        refine WJ_dir ?_
        dsimp only
        -- the character stays
        have hkeep : nrm1 acc (gd out k) = acc ++ [gd out k] → inL L 101 i ∧ inL L 101 to ∧ inR (to + 1) ∧ inR (i + 1) ∧ K (to + 1, i + 1) (pr ρ 101 (Int.toNat to) (ρ.2 101 (b0 + k))) := by
          intro hn
          refine ⟨⟨by omega, by omega⟩, ⟨by omega, by omega⟩, ⟨by omega, by omega⟩, ⟨by omega, by omega⟩, ?_⟩
          rw [htt, hci]
          refine hI _ _ ⟨k + 1, acc ++ [gd out k], by omega, by dsimp only; omega, by dsimp only; rw [List.length_append, List.length_singleton]; omega, by rw [List.length_append, List.length_singleton]; omega, by rw [hstep, hn], ?_, fun j h1 h2 => ?_, fun r hr => ?_, fun j hj => ?_, fun j hj => ?_, hf⟩ (by dsimp only; omega)
          · rw [List.length_append, List.length_singleton, sl_succ]
            congr 1
            · refine Eq.trans (sl_ext (fun j hj => ?_)) hsl
              rw [pr_2, if_neg (by omega)]
            · rw [pr_2, if_pos ⟨rfl, rfl⟩]
          · rw [pr_2, if_neg (by omega)]
            exact hrest j (by omega) h2
          · refine Eq.trans (funext (fun j => ?_)) (hrow r hr)
            rw [pr_2, if_neg (fun z => hr z.1)]
          · rw [pr_2, if_neg (by omega)]
            exact hlow j hj
          · rw [pr_2]
            split
            · rw [← hci]; exact hch _ (by omega)
            · exact hch j hj
        have hdrop : nrm1 acc (gd out k) = acc → inR (i + 1) ∧ K (to, i + 1) ρ := by
          intro hn
          exact ⟨⟨by omega, by omega⟩, hI _ _ ⟨k + 1, acc, by omega, by dsimp only; omega, hto, by omega, by rw [hstep, hn], hsl, fun j h1 h2 => hrest j (by omega) h2, hrow, hlow, hch, hf⟩ (by dsimp only; omega)⟩
        have hnd : nrm1 acc (gd out k) = if gd out k ≠ 32 ∨ (acc ≠ [] ∧ acc.getLastD 32 ≠ 32) then acc ++ [gd out k] else acc := rfl
        refine WJ_dir ?_
        dsimp only
        by_cases c2 : gd out k = 32
        · rw [if_pos c2]
          refine ⟨fun hlt => ⟨⟨by omega, by omega⟩, ⟨by omega, by omega⟩⟩, ?_⟩
          by_cases c3 : 0 < acc.length
          · have hl := hlast c3
            have ht1 : (to - 1).toNat = b0 + (acc.length - 1) := by omega
            rw [ht1, hl]
            by_cases c4 : acc.getLastD 32 = 32
            · rw [if_neg (fun z => z.2 c4)]
              exact hdrop (by rw [hnd, if_neg (fun z => by rcases z with z | z; exact z c2; exact z.2 c4)])
            · rw [if_pos ⟨by omega, c4⟩]
              exact hkeep (by rw [hnd, if_pos (Or.inr ⟨fun z => by rw [z] at c3; simp at c3, c4⟩)])
          · rw [if_neg (fun z => by omega)]
            refine hdrop ?_
            rw [hnd, if_neg]
            rintro (z | z)
            · exact z c2
            · exact z.1 (List.eq_nil_of_length_eq_zero (by omega))
        · rw [if_neg c2]
          exact hkeep (by rw [hnd, if_pos (Or.inl c2)])
      · rw [if_neg c1]
        have hkk : k = out.length := by omega
        rw [hkk, List.take_length] at hacc
        have hend : ∀ (n : Nat) (l : List Int), n = l.length → l = nrm out → n ≤ acc.length → sl (ρ.2 101) b0 l.length = l → J () (pf ρ 1 3 ((b0 + n : Nat) : Int)) := by
          intro n l hn hl hna hs
          subst hn
          subst hl
          have hX2 : VX b0 σ0 (pf ρ 1 3 ((b0 + (nrm out).length : Nat) : Int)) := by
            refine ⟨⟨fun o k hk => ?_, fun r hr => ?_⟩, fun i hi => by rw [pf_2, hlow i hi]; exact hX.2 i hi⟩
            · rw [pf_1, if_neg (by simp [fV] at hk; omega), hf]
              exact hX.1.1 o k hk
            · rw [pf_2, hrow r (fun z => by rw [z] at hr; exact absurd hr (by decide))]
              exact hX.1.2 r hr
          have hj0 := hZ0.1.jtp_le
          have hS2 : SI L (pf ρ 1 3 ((b0 + (nrm out).length : Nat) : Int)) ∧ sgr σ0 (pf ρ 1 3 ((b0 + (nrm out).length : Nat) : Int)) := by
            refine SI_of hZ0.1 (by rw [hX2.1.1 1 14 rfl]) (by rw [pf_eq]; omega) (fun r h1 h2 => hX2.1.2 r (by simp [rV]; omega)) (fun i hi => hX2.2 i (by omega))
          have hZ2 : JZ L rm nd (pf ρ 1 3 ((b0 + (nrm out).length : Nat) : Int)) := by
            have hb0 : bsto L (pf ρ 1 3 ((b0 + (nrm out).length : Nat) : Int)) := by
              have hb := hZ.2.2.2.2.1.1.2.2.2
              unfold bsto at hb ⊢
              rw [pf_no (by decide), pf_no (by decide), hf, pf_2, hrow 111 (by decide)]
              exact hb
            refine hZ0.dep0 hS2.1 hS2.2 hch (fun j h1 h2 => ?_) ⟨fun o k hk => hX2.1.1 o k (by simp [fZ0] at hk; simp [fV]; omega), fun r hr => hX2.1.2 r (by simp [rZ0] at hr; simp [rV]; omega)⟩ hb0
            rw [pf_no (by decide), hf]
            exact hZ.2.2.2.2.2.1 j h1 h2
          refine hJ _ _ ⟨hZ2, hX2, ⟨by unfold jtp; rw [pf_eq]; omega, hs⟩, ⟨fun o k hk => by rw [pf_1, if_neg (by simp [fK] at hk; omega), hf], fun r hr => by rw [pf_2]; exact hrow r (fun z => by rw [z] at hr; exact absurd hr (by decide))⟩⟩
        have hnm : nrm out = if acc.getLastD 0 = 32 then acc.dropLast else acc := by
          unfold nrm
          rw [← hacc]
        refine ⟨fun hlt => ⟨⟨by omega, by omega⟩, ⟨by omega, by omega⟩, fun _ => ⟨by omega, by omega⟩⟩, ?_⟩
        by_cases c3 : 0 < acc.length
        · have hl := hlast c3
          have ht1 : (to - 1).toNat = b0 + (acc.length - 1) := by omega
          have hl0 : acc.getLastD 0 = acc.getLastD 32 := by
            have h0 := sl_last (f := ρ.2 101) (b := b0) (d := 0) c3
            rw [hsl] at h0
            exact h0.trans hl
          rw [if_pos (show (b0 : Int) < to by omega), ht1, hl]
          by_cases c4 : acc.getLastD 32 = 32
          · rw [if_pos c4, show to - 1 = ((b0 + (acc.length - 1) : Nat) : Int) by omega]
            rw [hl0, if_pos c4] at hnm
            refine hend (acc.length - 1) acc.dropLast (by rw [List.length_dropLast]) hnm.symm (by omega) ?_
            rw [List.length_dropLast]
            have hds : sl (ρ.2 101) b0 (acc.length - 1) = (sl (ρ.2 101) b0 acc.length).dropLast := by
              obtain ⟨m, hm⟩ : ∃ m, acc.length = m + 1 := ⟨acc.length - 1, by omega⟩
              rw [hm, sl_succ, List.dropLast_concat, show m + 1 - 1 = m by omega]
            rw [hds, hsl]
          · rw [if_neg c4, hto]
            rw [hl0, if_neg c4] at hnm
            exact hend acc.length acc rfl hnm.symm (by omega) hsl
        · rw [if_neg (by omega), hto]
          have hz : acc = [] := List.eq_nil_of_length_eq_zero (by omega)
          have hnm2 : nrm out = acc := by
            rw [hnm, if_neg]
            rw [hz]
            decide
          exact hend acc.length acc rfl hnm2.symm (by omega) hsl
  · rintro _ ρ ⟨hZ1, hX1, ho1, hag1⟩
    exact sp_internAdded hln hZ0 hb hZ1 hX1 ho1 hcap (fun x σ' a1 a2 a3 a4 a5 a6 => hq x σ' a1 a2 a3 a4 a5 (hag1.trans a6))
end JKv
