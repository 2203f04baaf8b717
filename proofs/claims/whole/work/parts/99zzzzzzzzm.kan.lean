/-! ===== the reference: judge, its answer ===== -/
section Kan
variable {L : Nat → Nat} {rm nd n k : Nat} {σ : IS} {a : AS} {B : Nat → Int} {Q : Int → IS → Prop}
theorem vv_le9 {bk : List Str} (hk9 : k ≠ 9) (h : GZ rm nd a bk) (hrm : rm ≤ 98304) (hnd : nd ≤ 16384) : vv a k ≤ 300000 := by
  have hA : (aA a).length ≤ 8300 := (h.gk hrm).2.2.2.2.2.2.2.1.2.2.1
  obtain ⟨h1, h2, h3, h4, h5, h6, ⟨q1, q2, q3, q4, q5, q6⟩, -⟩ := h
  obtain ⟨⟨-, -, ⟨r1, r2, -, -⟩, ⟨c1, c2, -⟩, ⟨g3, g3'⟩, -⟩, -, -⟩ := h1
  have e1 : sn (ct3 (aD a) k) (aD a).length ≤ (aD a).length + ((aD a).map (fun x => (mxN x).length)).sum := by
    have key : ∀ (f : EDc → Nat) (l : List EDc), sn (fun i => f (l.getD i ([], 0, []))) l.length = (l.map f).sum := by
      intro f l
      rw [← sn_range]
      congr 1
      refine List.ext_getElem (by rw [List.length_map, List.length_map, List.length_range]) (fun i h1 h2 => ?_)
      rw [List.length_map, List.length_range] at h1
      rw [List.getElem_map, List.getElem_map, List.getElem_range, List.getD_eq_getElem?_getD, List.getElem?_eq_getElem h1]
      rfl
    have h0 : ∀ d, ct3 (aD a) k d ≤ 1 + (mxN ((aD a).getD d ([], 0, []))).length := by
      intro d
      unfold ct3 ctE
      have := rpk_le (l := mxN ((aD a).getD d ([], 0, []))) (mxN ((aD a).getD d ([], 0, []))).length
      split
      · omega
      · split
        · split <;> omega
        · split
          · split <;> omega
          · split
            · split <;> omega
            · omega
    have h1 : ∀ n, sn (ct3 (aD a) k) n ≤ sn (fun d => 1 + (mxN ((aD a).getD d ([], 0, []))).length) n := by
      intro n
      induction n with
      | zero => exact Nat.le_refl _
      | succ n ih => rw [sn_s, sn_s]; have := h0 n; omega
    refine Nat.le_trans (h1 _) ?_
    rw [key (fun x => 1 + (mxN x).length)]
    have : ∀ l : List EDc, (l.map (fun x => 1 + (mxN x).length)).sum ≤ l.length + (l.map (fun x => (mxN x).length)).sum := by
      intro l
      induction l with
      | nil => exact Nat.le_refl _
      | cons x l ih => rw [List.map_cons, List.map_cons, List.sum_cons, List.sum_cons, List.length_cons]; omega
    exact this _
  have e2 : dAs (aA a) k ≤ (aA a).length + nLs (aD a) (aA a) := by
    have h0 : ∀ d, dvD ((aA a).take d) ((aA a).getD d adD) k ≤ 1 + ((aA a).getD d adD).2.2.2.2.2.length := fun d => dvD_le
    unfold dAs
    rw [sn_range]
    have h1 : ∀ n, sn (fun j => dvD ((aA a).take j) ((aA a).getD j adD) k) n ≤ sn (fun d => 1 + ((aA a).getD d adD).2.2.2.2.2.length) n := by
      intro n
      induction n with
      | zero => exact Nat.le_refl _
      | succ n ih => rw [sn_s, sn_s]; have := h0 n; omega
    refine Nat.le_trans (h1 _) ?_
    rw [← sn_range]
    have h2 : (List.range (aA a).length).map (fun d => 1 + ((aA a).getD d adD).2.2.2.2.2.length) = (aA a).map (fun x => 1 + x.2.2.2.2.2.length) := by
      refine List.ext_getElem (by rw [List.length_map, List.length_map, List.length_range]) (fun i h1 h2 => ?_)
      rw [List.length_map, List.length_range] at h1
      rw [List.getElem_map, List.getElem_map, List.getElem_range, List.getD_eq_getElem?_getD, List.getElem?_eq_getElem h1]
      rfl
    rw [h2]
    have : ∀ l : List ADc, (l.map (fun x => 1 + x.2.2.2.2.2.length)).sum ≤ l.length + (l.map (fun x => x.2.2.2.2.2.length)).sum := by
      intro l
      induction l with
      | nil => exact Nat.le_refl _
      | cons x l ih => rw [List.map_cons, List.map_cons, List.sum_cons, List.sum_cons, List.length_cons]; omega
    have h3 := this (aA a)
    unfold nLs
    omega
  have e3 := ndu_le (aT a)
  have e4 : cnT (aA a) (aB a) (aL a) k ≤ (aB a).length := by
    unfold cnT
    rw [if_neg hk9]
    have t1 : gsm (tga (aA a) (aB a) k) (segs (aL a)) ≤ (segs (aL a)).length := gsm_len (fun i => by
      unfold tga
      split
      · split <;> omega
      · split
        · split <;> omega
        · split
          · split <;> omega
          · omega) _
    have t2 : (segs (aL a)).length = (aB a).length := by
      have := congrArg List.length h3.1
      rw [List.length_map, List.length_range] at this
      exact this
    omega
  have e5' : clS (aD a) (aL a) (aO a) k ≤ 1 * (aL a).length := by
    unfold clS
    refine sm_le (fun d => ?_) _
    unfold clq
    split
    · split <;> omega
    · split <;> omega
  unfold vv
  split <;> omega
theorem cnA_bd {ed : List EDc} {ad : List ADc} {nt : List Str} : cnA ed ad nt k ≤ ad.length + (ad.map (fun x => x.2.2.2.2.2.length)).sum := by
  have h0 : ∀ d, ctA ed ad nt k d ≤ 1 + (ad.getD d adD).2.2.2.2.2.length := fun d => by
    unfold ctA
    have h1 := rpk_le (l := (ad.getD d adD).2.2.2.2.2) (ad.getD d adD).2.2.2.2.2.length
    have h2 := nok_le (nt := nt) (l := (ad.getD d adD).2.2.2.2.2) (ad.getD d adD).2.2.2.2.2.length
    repeat' (first | omega | split)
  have h1 : ∀ m, sn (ctA ed ad nt k) m ≤ sn (fun d => 1 + (ad.getD d adD).2.2.2.2.2.length) m := by
    intro m
    induction m with
    | zero => exact Nat.le_refl _
    | succ m ih => rw [sn_s, sn_s]; have := h0 m; omega
  unfold cnA
  refine Nat.le_trans (h1 _) ?_
  rw [← sn_range]
  have h2 : (List.range ad.length).map (fun d => 1 + (ad.getD d adD).2.2.2.2.2.length) = ad.map (fun x => 1 + x.2.2.2.2.2.length) := by
    refine List.ext_getElem (by rw [List.length_map, List.length_map, List.length_range]) (fun i h1 h2 => ?_)
    rw [List.length_map, List.length_range] at h1
    rw [List.getElem_map, List.getElem_map, List.getElem_range, List.getD_eq_getElem?_getD, List.getElem?_eq_getElem h1]
    rfl
  rw [h2]
  have : ∀ l : List ADc, (l.map (fun x => 1 + x.2.2.2.2.2.length)).sum ≤ l.length + (l.map (fun x => x.2.2.2.2.2.length)).sum := by
    intro l
    induction l with
    | nil => exact Nat.le_refl _
    | cons x l ih => rw [List.map_cons, List.map_cons, List.sum_cons, List.sum_cons, List.length_cons]; omega
  exact this _
/-- a bound of each count -/
def cbd (k : Nat) : Nat := if k = 9 then 310000000 else if k = 12 ∨ k = 21 then 806000000 else 700000
theorem cnV_bd {bk : List Str} (h : GZ rm nd a bk) (hrm : rm ≤ 98304) (hnd : nd ≤ 16384) (hO : aO a = []) : cnV a k ≤ cbd k := by
  cases hR : aR a with
  | none =>
    have : cnV a k = if k = 0 then 1 else 0 := by unfold cnV; rw [hR]
    rw [this]
    unfold cbd
    split <;> split <;> (try split) <;> omega
  | some s =>
    have hv := h.vals hrm
    have hGK := h.gk hrm
    obtain ⟨⟨k1, k2⟩, -, ⟨k5, k6⟩, -, -, -, -, ⟨-, k8, k9, k10⟩, -, -, k11⟩ := hGK
    have hGQ : GQ a := h.2.2.2.2.2.2.1
    have hls : nLs (aD a) (aA a) ≤ 50000 := by have := hGQ.2.1; omega
    have hls2 : ((aA a).map (fun x => x.2.2.2.2.2.length)).sum ≤ nLs (aD a) (aA a) := by unfold nLs; omega
    have hA := cnA_bd (ed := aD a) (ad := aA a) (nt := aT a) (k := k)
    have hid := ids_idr (ad := aA a) (at_ := aB a) (aB a).length (segs (aL a)) h.2.2.1.1
    have hid2 := idr_le (ad := aA a) (at_ := aB a) (aB a).length
    have hR1 := cnR_le (ad := aA a) (at_ := aB a) (seen := (idA a).1) (k := k) (m := 98304) hv
    have hR2 : (98304 + 1) * (aB a).length ≤ (98304 + 1) * 16384 := Nat.mul_le_mul_left _ (by omega)
    have hR0 := cnR_0 (ad := aA a) (at_ := aB a) (seen := (idA a).1) (k := k)
    have hv9 := fun z : k ≠ 9 => vv_le9 z h hrm hnd
    have hvv := vv_le (k := k) h hrm hnd
    have e11 : (if k = 11 then (idA a).2.1 else 0) ≤ 16384 := by
      unfold idA
      rw [hid.2]
      split <;> omega
    have e22 : (if k = 22 then aN a 1 else if k = 1 then (if ((aL a).getD 0 elD).1 = s then 0 else 1) else 0) ≤ 98304 := by
      split
      · omega
      · split
        · split <;> omega
        · omega
    have eA : (if k = 16 ∨ k = 18 then cnA (aD a) (aA a) (aT a) k else 0) ≤ 60000 := by split <;> omega
    rw [cnV_vv hO hR]
    unfold cbd
    by_cases c9 : k = 9
    · rw [if_pos c9]
      have := hR0 (by omega)
      omega
    · have := hv9 c9
      rw [if_neg c9]
      by_cases c12 : k = 12 ∨ k = 21
      · rw [if_pos c12]; omega
      · rw [if_neg c12]
        have := hR0 (by omega)
        omega
theorem cnV_sum {bk : List Str} (h : GZ rm nd a bk) (hrm : rm ≤ 98304) (hnd : nd ≤ 16384) (hO : aO a = []) {m : Nat} (hm : m ≤ 23) : sn (cnV a) m ≤ 2000000000 := by
  have h1 : ∀ m, sn (cnV a) m ≤ sn cbd m := by
    intro m
    induction m with
    | zero => exact Nat.le_refl _
    | succ m ih => rw [sn_s, sn_s]; have := cnV_bd (k := m) h hrm hnd hO; omega
  have h2 : sn cbd 23 ≤ 2000000000 := by decide +kernel
  exact Nat.le_trans (h1 m) (Nat.le_trans (sn_mono hm) h2)
end Kan
