/-! ===== items of the class: entity declarations ===== -/
section JI13
variable {L : Nat → Nat} {rm nd : Nat} {σ0 σ τ : IS} {A a : AS} {Q : IS → Prop}
/-- a number that is written at the begin of l -/
theorem rfN_at {T : Nat → Int} {l : List Int} {k j k0 : Nat} {hex : Bool} (hT : SHT (gd l) T l.length k) (hj : rfp (gd l) l.length (some 0) = some j) (h35 : T (k + 1) = 35) (hh : hex = true ↔ T (k + 2) = 120) (hk0 : k0 = if hex = true then k + 3 else k + 2) : numl (if hex = true then 16 else 10) (sl T k0 (k + j - 1 - k0)) = rfN l j ∧ 0 ≤ rfN l j ∧ gd l 1 = 35 := by
  have hjp := rfp_pos (l := l) hj
  have hpre : ∀ i, i < l.length → T (k + i) = gd l i := fun i hi => hT i hi
  have g1 : gd l 1 = 35 := by rw [← hpre 1 (by omega)]; exact h35
  have g2 : (hex = true ↔ gd l 2 = 120) := by rw [← hpre 2 (by omega)]; exact hh
  have hnum : numl (if hex = true then 16 else 10) (sl T k0 (k + j - 1 - k0)) = rfN l j := by
    unfold rfN
    cases hex with
    | true =>
      rw [if_pos rfl] at hk0
      rw [if_pos (g2.mp rfl), if_pos rfl, hk0, show k + j - 1 - (k + 3) = j - 1 - 3 by omega]
      congr 1
      exact sl_ext (fun i hi => by rw [Nat.add_assoc]; exact hpre _ (by omega))
    | false =>
      rw [if_neg (by decide)] at hk0
      rw [if_neg (fun z => absurd (g2.mpr z) (by decide)), if_neg (by decide), hk0, show k + j - 1 - (k + 2) = j - 1 - 2 by omega]
      congr 1
      exact sl_ext (fun i hi => by rw [Nat.add_assoc]; exact hpre _ (by omega))
  refine ⟨hnum, ?_, g1⟩
  obtain ⟨n1, n2, n3, n4⟩ := rfp_num hj g1 hex g2 (if hex = true then 3 else 2) (by split <;> rfl)
  rw [← hnum]
  refine numl_pos (by split <;> omega) _ (fun ch hch => ?_)
  obtain ⟨i, hi, rfl⟩ := List.mem_map.mp hch
  have hi' := List.mem_range.mp hi
  have hall := sk_all (p := hxP hex) (T := gd l) (e := l.length) (i := if hex = true then 3 else 2)
  cases hex with
  | true =>
    rw [if_pos rfl] at hk0 n4 hall n1
    have h5 := hall (3 + i) (by omega) (by rw [n4]; omega)
    rw [hk0, Nat.add_assoc, hpre (3 + i) (by omega)]
    exact h5
  | false =>
    rw [if_neg (by decide)] at hk0 n4 hall n1
    have h5 := hall (2 + i) (by omega) (by rw [n4]; omega)
    rw [hk0, Nat.add_assoc, hpre (2 + i) (by omega)]
    exact dg_hex h5
theorem enx_cons {n : Nat} {x : Int} {r acc : List Int} : enx (n + 1) (x :: r) acc = if x = 37 then .inl 13 else if x ≠ 38 then enx n r (acc ++ [x]) else match rfp (gd (x :: r)) (r.length + 1) (some 0) with
    | none => .inl 5
    | some j => if gd (x :: r) 1 = 35 then (if isCh (rfN (x :: r) j) = true then enx n ((x :: r).drop j) (acc ++ [rfN (x :: r) j]) else .inl 12) else enx n ((x :: r).drop j) (acc ++ (x :: r).take j) := rfl
set_option maxHeartbeats 2000000 in
theorem sp_declare {x q : Int} {nm : Str} {pe : Bool} {e b n M : Nat} (hln : JLn L rm nd) (h : RJ L rm nd σ0 A) (hen : (aE A).length < rm / 14 + 2) (hGO : ∀ f ∈ aF A, f.2.1 ≤ (aE A).length) (hx : Jn σ0 x nm) (h23 : σ0.1 2 3 = (e : Int)) (he : e ≤ jtp σ0) (hbn : b + n < e) (hq : q = 34 ∨ q = 39) (het : etg (σ0.2 101) e q (e + 1) b = some (b + n + 1)) (hcap : jtp σ0 + n ≤ L 101) (hM : n < M)
    (hgood : ∀ tx σ', enx M (sl (σ0.2 101) b n) [] = .inr tx → tx.length ≤ n → RJ L rm nd σ' (if (eno (aE A) nm pe).isSome = true then A else sE A (aE A ++ [(nm, pe, tx)])) → jw σ' = jw σ0 → jtp σ' ≤ jtp σ0 + n → σ'.1 1 2 = σ0.1 1 2 → σ'.1 4 16 = σ0.1 4 16 → σ'.1 2 5 = σ0.1 2 5 → σ'.1 1 16 = σ0.1 1 16 → Q σ') (hbad : ∀ f σ', enx M (sl (σ0.2 101) b n) [] = .inl f → JBd L rm nd σ' f (σ0.1 2 5) → Q σ') : w_Entities_declare L x (b1 pe) (b : Int) (n : Int) Q σ0 := by
  have hrm := hln.2.1
  have h9 : L 101 < 1000000 := hln.1.2.2.2.2.2.2.2
  have h04 : σ0.1 2 4 = 0 := h.2.2.2.2.2.2.2.2.2.2.2.1
  have hjl0 := h.1.1.jtp_le
  have hL101 : L 101 ≤ 200000 := by
    have := hln.2.2.1
    split at this <;> omega
  generalize hR : enx M (sl (σ0.2 101) b n) [] = R at *
  generalize hT0 : σ0.2 101 = T at *
  unfold w_Entities_declare
  refine WL_ind (fun (s : Int) (σ : IS) => 0 ≤ s ∧ s ≤ (n : Int) + 1 ∧ ((∃ (i M' : Nat) (acc : List Int), s ≤ (i : Int) ∧ i ≤ n ∧ etg T e q (e + 1) (b + i) = some (b + n + 1) ∧ σ.1 2 2 = ((b + i : Nat) : Int) ∧ EX L rm nd σ0 0 acc σ ∧ acc.length ≤ i ∧ R = enx M' (sl T (b + i) (n - i)) acc ∧ n - i < M') ∨ (∃ (f : Nat) (acc : List Int), f ≠ 0 ∧ R = .inl f ∧ EX L rm nd σ0 f acc σ ∧ acc.length ≤ n))) (fun s _ => (n + 2) - s.toNat) ?_ 0 _ ?_
  · intro s σ hI K hK
    obtain ⟨hs0, hsn, hI⟩ := hI
    try dsimp only
    refine ⟨fun _ => ⟨by omega, by omega⟩, ?_⟩
    rcases hI with ⟨i, M', acc, hsi, hin, hei, h2, hE, hac, hRs, hMi⟩ | ⟨f, acc, hf, hRf, hE, hac⟩
    · have hσ4 : σ.1 2 4 = 0 := hE.2.2.2.2.2.2
      by_cases ci : i = n
      · have hRr : R = .inr acc := by
          rw [hRs, ci, Nat.sub_self]
          cases M' with
          | zero => omega
          | succ M' => rfl
        rw [if_neg (by rw [h2]; omega)]
        exact EX.keep hln h hen hGO hx hE (by omega) (fun _ σ' g1 g2 g3 g4 g5 g6 g7 => hgood acc σ' hRr (by omega) g1 g2 (by omega) g4 g5 g6 g7) (fun z => absurd rfl z)
      · have hil : i < n := by omega
        have hi2 : b + i < e := by omega
        rw [if_pos ⟨by omega, by rw [h2]; omega, hσ4⟩]
        have h23' : σ.1 2 3 = (e : Int) := by rw [hE.2.2.1 2 3 (by omega) (by omega)]; exact h23
        have hjT : JT L σ e (b + i) := ⟨h2, h23', by omega, h9, by omega⟩
        have hJS : JS L σ e := ⟨h23', by omega, h9, hσ4, hE.1.2.2.2.2.2.1⟩
        have hrow : ∀ k, k < e → σ.2 101 k = T k := fun k hk => by rw [← hT0]; exact hE.2.2.2.2.1 k (by omega)
        refine sp_Reader_peek hjT ?_
        have hpk : lk (σ.2 101) e (b + i) = T (b + i) := by unfold lk; rw [if_pos hi2, hrow _ hi2]
        rw [hpk]
        obtain ⟨m, hm⟩ : ∃ m, n - i = m + 1 := ⟨n - i - 1, by omega⟩
        have hl : sl T (b + i) (n - i) = T (b + i) :: sl T (b + i + 1) m := by rw [hm, sl_cons2]
        obtain ⟨M1, hM1⟩ : ∃ M1, M' = M1 + 1 := ⟨M' - 1, by omega⟩
        rw [hl, hM1, enx_cons] at hRs
        have hch := h.1.2.1 (b + i) (by omega)
        rw [hT0] at hch
        have hjσ : jtp σ = jtp σ0 + acc.length := hE.2.2.2.2.2.1.1
        have hnq : T (b + i) ≠ q := by
          intro z
          have : (if b + i < e then (if T (b + i) = q then some (b + i + 1) else if T (b + i) = 38 then (match rfp T e (some (b + i)) with
              | none => none
              | some j => etg T e q e j) else if T (b + i) = 37 then (match pcp T e (b + i) with
              | none => none
              | some j => etg T e q e j) else etg T e q e (b + i + 1)) else none) = some (b + n + 1) := hei
          rw [if_pos hi2, if_pos z] at this
          have := Option.some.inj this
          omega
        have hei' : (if T (b + i) = 38 then (match rfp T e (some (b + i)) with
              | none => none
              | some j => etg T e q e j) else if T (b + i) = 37 then (match pcp T e (b + i) with
              | none => none
              | some j => etg T e q e j) else etg T e q e (b + i + 1)) = some (b + n + 1) := by
          have : (if b + i < e then (if T (b + i) = q then some (b + i + 1) else if T (b + i) = 38 then (match rfp T e (some (b + i)) with
              | none => none
              | some j => etg T e q e j) else if T (b + i) = 37 then (match pcp T e (b + i) with
              | none => none
              | some j => etg T e q e j) else etg T e q e (b + i + 1)) else none) = some (b + n + 1) := hei
          rw [if_pos hi2, if_neg hnq] at this
          exact this
        refine WJ_dir ?_
        dsimp only
        have hnext : ∀ (j : Nat) (acc' : List Int) (σ' : IS), 0 < j → i + j ≤ n → etg T e q e (b + i + j) = some (b + n + 1) → σ'.1 2 2 = ((b + (i + j) : Nat) : Int) → EX L rm nd σ0 0 acc' σ' → acc'.length ≤ i + j → R = enx M1 (sl T (b + (i + j)) (n - (i + j))) acc' → inR (s + 1) ∧ K (s + 1) σ' := by
          intro j acc' σ' hj0 hj hej h2' hE' hac' hR'
          refine ⟨⟨by omega, by omega⟩, hK _ _ ⟨by omega, by omega, Or.inl ⟨i + j, M1, acc', by omega, hj, ?_, h2', hE', hac', hR', by omega⟩⟩ (by omega)⟩
          rw [show b + (i + j) = b + i + j by omega, ← hej]
          exact etg_fuel _ _ _ (by omega) (by omega)
        have hbadn : ∀ (f : Nat) (σ' : IS), f ≠ 0 → R = .inl f → EX L rm nd σ0 f acc σ' → inR (s + 1) ∧ K (s + 1) σ' := by
          intro f σ' hf hRf hE'
          exact ⟨⟨by omega, by omega⟩, hK _ _ ⟨by omega, by omega, Or.inr ⟨f, acc, hf, hRf, hE', by omega⟩⟩ (by omega)⟩
        by_cases c38 : T (b + i) = 38
        · rw [if_pos c38]
          rw [if_pos c38] at hei'
          rw [if_neg (by omega), if_neg (by simp [c38])] at hRs
          cases hrf : rfp T e (some (b + i)) with
          | none => rw [hrf] at hei'; cases hei'
          | some ja =>
            rw [hrf] at hei'
            dsimp only at hei'
            have hlt := (etg_ltl hq _ _ _ hei').1
            have hrfe := rfp_end hrf (show ja ≤ b + n by omega) (by omega)
            have hlen : (T (b + i) :: sl T (b + i + 1) m).length = n - i := by rw [List.length_cons, sl_len2, hm]
            have hSH : SHT (gd (T (b + i) :: sl T (b + i + 1) m)) T (T (b + i) :: sl T (b + i + 1) m).length (b + i) := by
              refine sht_sl ?_
              rw [hlen, hl]
            have hsh := sh_rfp hSH (some 0)
            rw [mvo_some, hlen, show b + i + (n - i) = b + n by omega, show b + i + 0 = b + i by omega, hrfe] at hsh
            obtain ⟨j, hj, hjj⟩ := mvo_eq_some.mp hsh.symm
            rw [← hlen] at hj
            have hjp := rfp_pos hj
            rw [hlen] at hjp
            have hj' : rfp (gd (T (b + i) :: sl T (b + i + 1) m)) ((sl T (b + i + 1) m).length + 1) (some 0) = some j := hj
            rw [hj'] at hRs
            dsimp only at hRs
            have hdr : (T (b + i) :: sl T (b + i + 1) m).drop j = sl T (b + (i + j)) (n - (i + j)) := by
              rw [← hl, sl_drop2, show b + i + j = b + (i + j) by omega, show n - i - j = n - (i + j) by omega]
            have htk : (T (b + i) :: sl T (b + i + 1) m).take j = sl T (b + i) j := by
              rw [← hl, sl_take2 (by omega)]
            have hrfσ : rfp (σ.2 101) e (some (b + i)) = some ja := by
              have hS2 : SHT T (σ.2 101) e 0 := fun k hk => by rw [Nat.zero_add]; exact hrow k hk
              have := sh_rfp hS2 (some (b + i))
              rw [mvo_some, Nat.zero_add, Nat.zero_add, hrf, mvo_some, Nat.zero_add] at this
              exact this
            have hja : ja = b + (i + j) := by omega
            refine j_readReference (k := 0) hJS (by omega) hE.1.2.1 hi2 (by rw [hrow _ hi2]; exact c38) (pf_self h2).symm (fun ja' hex k0 hja' h35 hhex hk0 τ' hτ => ?_) (fun ja' hja' h35 τ' hτ => ?_) (fun hja' τ' hτ => ?_)
            · -- a number
              rw [hrfσ] at hja'
              cases hja'
              have hSσ : SHT (gd (T (b + i) :: sl T (b + i + 1) m)) (σ.2 101) (T (b + i) :: sl T (b + i + 1) m).length (b + i) := fun k hk => by rw [hlen] at hk; rw [hrow _ (by omega)]; exact hSH k (by rw [hlen]; exact hk)
              obtain ⟨hnum, hNpos, g1⟩ := rfN_at hSσ hj h35 hhex hk0
              rw [show b + i + j = ja by omega] at hnum
              rw [hnum] at hτ
              rw [if_pos g1] at hRs
              generalize hNN : rfN (T (b + i) :: sl T (b + i + 1) m) j = N at *
              have hτe : τ' = pf (pf σ 2 7 (clmp 1114112 N)) 2 2 (ja : Int) := hτ.2
              have hcl := clmp_in hNpos
              have hEτ : EX L rm nd σ0 0 acc τ' := hE.mv (by rw [hτe]; rfl) (fun o k x1 x2 => by rw [hτe, pf_1, if_neg (by omega), pf_1, if_neg (by omega)]) (by rw [hτe]; exact (hE.1.2.2.2.2.2.1.fld hcl).low (by decide))
              have h7 : τ'.1 2 7 = clmp 1114112 N := by rw [hτe, pf_nk (by decide), pf_eq]
              have h2τ : τ'.1 2 2 = ((b + (i + j) : Nat) : Int) := by rw [hτe, pf_eq, hja]
              have hjτ : jtp τ' = jtp σ0 + acc.length := hEτ.2.2.2.2.2.1.1
              unfold w_Entities_addReference
              refine WJ_dir ?_
              dsimp only
              have hne : ¬ τ'.1 2 7 = -1 := by
                rw [h7]
                unfold clmp
                split <;> omega
              rw [if_neg hne, h7]
              refine sp_Reader_isCharacter ?_
              have hch' : isCh (clmp 1114112 N) = isCh N := isCh_clamp (by omega)
              rw [if_b1, hch']
              cases c : isCh N with
              | true =>
                have hNc := isCh_le c
                have e1 : clmp 1114112 N = N := by unfold clmp; rw [if_neg (by omega)]
                rw [if_pos rfl, h7, e1]
                rw [if_pos c] at hRs
                refine sp_Store_add hEτ.1.1 hln.1 (by omega) ?_
                refine hnext j _ _ (by omega) (by omega) (by rw [show b + i + j = ja by omega]; exact hei') (by rw [pf_no (by decide), pr_1]; exact h2τ) (hEτ.ad (by omega) hNc) (by rw [List.length_append, List.length_singleton]; omega) (by rw [hRs, hdr])
              | false =>
                rw [if_neg (by decide)]
                rw [if_neg (by rw [c]; decide)] at hRs
                refine sp_Reader_fail ?_
                exact hbadn 12 _ (by decide) hRs hEτ.ft
            · -- a name
              rw [hrfσ] at hja'
              cases hja'
              have g1 : ¬ gd (T (b + i) :: sl T (b + i + 1) m) 1 = 35 := by
                rw [← hSH 1 (by rw [hlen]; omega), ← hrow _ (by omega)]
                exact h35
              rw [if_neg g1] at hRs
              have hτe : τ' = pf (pf (pf (pf σ 2 7 (-1)) 2 8 (((b + i : Nat) : Int) + 1)) 2 9 ((ja : Int) - 1 - (((b + i : Nat) : Int) + 1))) 2 2 (ja : Int) := hτ.2
              have hEτ : EX L rm nd σ0 0 acc τ' := hE.mv (by rw [hτe]; rfl) (fun o k x1 x2 => by rw [hτe, pf_1, if_neg (by omega), pf_1, if_neg (by omega), pf_1, if_neg (by omega), pf_1, if_neg (by omega)]) (by rw [hτe]; exact (((hE.1.2.2.2.2.2.1.fld (by omega)).fld (by omega)).fld (by omega)).low (by decide))
              have h7 : τ'.1 2 7 = -1 := by rw [hτe, pf_nk (by decide), pf_nk (by decide), pf_nk (by decide), pf_eq]
              have h2τ : τ'.1 2 2 = ((b + (i + j) : Nat) : Int) := by rw [hτe, pf_eq, hja]
              unfold w_Entities_addReference
              refine WJ_dir ?_
              dsimp only
              rw [if_pos h7, h2]
              refine WL_ind (fun (s : Int) (ρ : IS) => ∃ k, k ≤ j ∧ s = ((b + i + k : Nat) : Int) ∧ ρ.1 2 2 = ((b + (i + j) : Nat) : Int) ∧ EX L rm nd σ0 0 (acc ++ sl T (b + i) k) ρ) (fun s _ => b + i + j + 1 - s.toNat) ?_ _ _ ⟨0, by omega, by omega, h2τ, by rw [sl_zero, List.append_nil]; exact hEτ⟩
              rintro s2 ρ ⟨k, hk1, hk2, hk3, hk4⟩ K2 hK2
              try dsimp only
              by_cases ck : k = j
              · rw [if_neg (by rw [hk3]; omega)]
                rw [ck] at hk4
                refine hnext j _ _ (by omega) (by omega) (by rw [show b + i + j = ja by omega]; exact hei') hk3 hk4 (by rw [List.length_append, sl_len2]; omega) (by rw [hRs, hdr, htk])
              · rw [if_pos (by rw [hk3]; omega)]
                have hjρ : jtp ρ = jtp σ0 + (acc.length + k) := by have := hk4.2.2.2.2.2.1.1; rw [List.length_append, sl_len2] at this; exact this
                have hv : ρ.2 101 s2.toNat = T (b + i + k) := by rw [hk2, show (((b + i + k : Nat) : Int)).toNat = b + i + k by omega, ← hT0]; exact hk4.2.2.2.2.1 _ (by omega)
                rw [hv]
                refine ⟨⟨by omega, by omega⟩, ?_⟩
                have hcr := h.1.2.1 (b + i + k) (by omega)
                rw [hT0] at hcr
                refine sp_Store_add hk4.1.1 hln.1 (by omega) ?_
                refine ⟨⟨by omega, by omega⟩, hK2 _ _ ⟨k + 1, by omega, by omega, by rw [pf_no (by decide), pr_1]; exact hk3, ?_⟩ (by omega)⟩
                rw [sl_succ, ← List.append_assoc]
                exact hk4.ad (by omega) hcr
            · rw [hrfσ] at hja'
              cases hja'
        · rw [if_neg c38]
          rw [if_neg c38] at hei'
          by_cases c37 : T (b + i) = 37
          · rw [if_pos c37]
            rw [if_pos c37] at hRs
            refine sp_Reader_fail ?_
            exact hbadn 13 _ (by decide) hRs hE.ft
          · rw [if_neg c37]
            rw [if_neg c37] at hei'
            rw [if_neg c37, if_pos c38] at hRs
            refine sp_Store_add hE.1.1 hln.1 (by omega) ?_
            have hE1 := hE.ad (c := T (b + i)) (by omega) hch
            have h2' : (pf (pr σ 101 (jtp σ) (T (b + i))) 1 3 ((jtp σ : Int) + 1)).1 2 2 = ((b + i : Nat) : Int) := by rw [pf_no (by decide), pr_1]; exact h2
            rw [h2']
            refine ⟨⟨by omega, by omega⟩, ?_⟩
            have hE2 : EX L rm nd σ0 0 (acc ++ [T (b + i)]) (pf (pf (pr σ 101 (jtp σ) (T (b + i))) 1 3 ((jtp σ : Int) + 1)) 2 2 (((b + i : Nat) : Int) + 1)) := hE1.mv rfl (fun o k x1 x2 => by rw [pf_1, if_neg (by omega)]) (hE1.1.2.2.2.2.2.1.low (by decide))
            refine hnext 1 _ _ (by omega) (by omega) hei' (by rw [pf_eq]; omega) hE2 (by rw [List.length_append, List.length_singleton]; omega) ?_
            rw [hRs, show b + (i + 1) = b + i + 1 by omega, show n - (i + 1) = m by omega]
    · have hσ4 : σ.1 2 4 = (f : Int) := hE.2.2.2.2.2.2
      rw [if_neg (by rintro ⟨-, -, z⟩; rw [hσ4] at z; omega)]
      exact EX.keep hln h hen hGO hx hE (by omega) (fun z => absurd z hf) (fun _ σ' hB => hbad f σ' hRf hB)
  · refine ⟨by omega, by omega, Or.inl ⟨0, M, [], by omega, by omega, het, by rw [pf_eq]; rfl, ?_, Nat.zero_le _, hR.symm, by omega⟩⟩
    have hE0 : EX L rm nd σ0 0 [] σ0 := ⟨h.1, sgr.refl, fun _ _ _ _ => rfl, fun _ _ => rfl, fun _ _ => rfl, ⟨rfl, rfl⟩, h04⟩
    exact hE0.mv rfl (fun o k x1 x2 => by rw [pf_1, if_neg (by omega)]) (h.1.2.2.2.2.2.1.low (by decide))
end JI13
