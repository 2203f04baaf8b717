/-! ===== what prefixes mean in each element (pure) ===== -/
noncomputable def envA (el : List Elm) (at_ : List Att) : Nat → Int → Str → Str
  | 0, _ => env0
  | f + 1, e => if e < 0 then env0 else ent2 (envA el at_ f (el.getD e.toNat elD).2.1) (ats at_ (el.getD e.toNat elD))
/-- in an element, or in none -/
noncomputable def EN (el : List Elm) (at_ : List Att) (e : Int) : Str → Str := envA el at_ (el.length + 1) e
/-- the violations of namespaces of an element -/
noncomputable def spE (el : List Elm) (at_ : List Att) (k e : Nat) : Nat := snE (EN el at_ (e : Int)) at_ (el.getD e elD) k (el.getD e elD).2.2.2.1 + (if k = 3 then sn (fun i => nm3 (at_.getD ((el.getD e elD).2.2.1 + i) atD)) (el.getD e elD).2.2.2.1 else 0)
/-- the values of declarations of the first m elements -/
noncomputable def dvA (el : List Elm) (at_ : List Att) : Nat → List Str
  | 0 => []
  | m + 1 => dvA el at_ m ++ dvs at_ (el.getD m elD).2.2.1 (el.getD m elD).2.2.2.1
/-- violations of namespaces -/
noncomputable def cnS (a : AS) (k : Nat) : Nat := (if k = 5 then aN a 2 else 0) + sn (spE (aL a) (aB a) k) (aL a).length
section Enp
variable {el : List Elm} {at_ : List Att}
theorem envA_fuel (hp : ∀ i, i < el.length → (el.getD i elD).2.1 = -1 ∨ (0 ≤ (el.getD i elD).2.1 ∧ (el.getD i elD).2.1 < (i : Int))) : ∀ (f f' : Nat) (e : Int), e < (el.length : Int) → e < (f : Int) → e < (f' : Int) → envA el at_ f e = envA el at_ f' e := by
  intro f
  induction f with
  | zero =>
    intro f' e _ h1 _
    have he : e < 0 := by omega
    cases f' with
    | zero => rfl
    | succ f' => show env0 = if e < 0 then env0 else _; rw [if_pos he]
  | succ f ih =>
    intro f' e h0 h1 h2
    by_cases he : e < 0
    · cases f' with
      | zero => show (if e < 0 then env0 else _) = env0; rw [if_pos he]
      | succ f' => show (if e < 0 then env0 else _) = (if e < 0 then env0 else _); rw [if_pos he, if_pos he]
    · cases f' with
      | zero => omega
      | succ f' =>
        show (if e < 0 then env0 else ent2 (envA el at_ f (el.getD e.toNat elD).2.1) (ats at_ (el.getD e.toNat elD))) = (if e < 0 then env0 else ent2 (envA el at_ f' (el.getD e.toNat elD).2.1) (ats at_ (el.getD e.toNat elD)))
        have := hp e.toNat (by omega)
        rw [if_neg he, if_neg he, ih f' _ (by omega) (by omega) (by omega)]
theorem EN_neg : EN el at_ (-1) = env0 := by
  unfold EN
  show (if (-1 : Int) < 0 then env0 else _) = env0
  rw [if_pos (by decide)]
theorem EN_s (hp : ∀ i, i < el.length → (el.getD i elD).2.1 = -1 ∨ (0 ≤ (el.getD i elD).2.1 ∧ (el.getD i elD).2.1 < (i : Int))) {e : Nat} (he : e < el.length) : EN el at_ (e : Int) = ent2 (EN el at_ (el.getD e elD).2.1) (ats at_ (el.getD e elD)) := by
  unfold EN
  show (if (e : Int) < 0 then env0 else ent2 (envA el at_ el.length (el.getD (e : Int).toNat elD).2.1) (ats at_ (el.getD (e : Int).toNat elD))) = _
  have := hp e he
  rw [if_neg (by omega), show Int.toNat (e : Int) = e from rfl, envA_fuel hp el.length (el.length + 1) _ (by omega) (by omega) (by omega)]
theorem seg_sep (h : (segs el).map Prod.fst = List.range at_.length) {e m i j : Nat} (hem : e < m) (hm : m < el.length) (hi : i < (el.getD e elD).2.2.2.1) (hj : j < (el.getD m elD).2.2.2.1) : (el.getD e elD).2.2.1 + i < (el.getD m elD).2.2.1 + j := by
  have key : ∀ q, q < el.length → ∀ t, t < (el.getD q elD).2.2.2.1 → (el.getD q elD).2.2.1 + t = (segs (el.take q)).length + t ∧ (segs (el.take q)).length + t < (segs (el.take (q + 1))).length := by
    intro q hq t ht
    have h1 := segs_take hq
    have h2 : (segs (el.take q))  ++ seg (el.getD q elD) <+: segs el := by rw [← h1]; exact segs_pre
    obtain ⟨r, hr⟩ := h2
    have hl : (segs (el.take q)).length + t < (segs el).length := by
      rw [← hr, List.length_append, List.length_append, seg_len]
      omega
    have hg : (segs el)[(segs (el.take q)).length + t]? = some ((el.getD q elD).2.2.1 + t, decide ((el.getD q elD).2.2.2.2.1 ≤ t)) := by
      rw [← hr, List.append_assoc, List.getElem?_append_right (by omega), show (segs (el.take q)).length + t - (segs (el.take q)).length = t by omega, List.getElem?_append_left (by rw [seg_len]; exact ht)]
      unfold seg
      rw [List.getElem?_map, List.getElem?_eq_getElem (by rw [List.length_range]; exact ht)]
      simp
    have hf : ((segs el).map Prod.fst)[(segs (el.take q)).length + t]? = some ((el.getD q elD).2.2.1 + t) := by
      rw [List.getElem?_map, hg]
      rfl
    rw [h] at hf
    have hl2 : (segs (el.take q)).length + t < at_.length := by
      have := congrArg List.length h
      rw [List.length_map, List.length_range] at this
      omega
    rw [List.getElem?_eq_getElem (by rw [List.length_range]; exact hl2), List.getElem_range] at hf
    refine ⟨(Option.some.inj hf).symm, ?_⟩
    rw [h1, List.length_append, seg_len]
    omega
  have k1 := key e (by omega) i hi
  have k2 := key m hm j hj
  have hmono : (segs (el.take (e + 1))).length ≤ (segs (el.take m)).length := by
    have : el.take (e + 1) = (el.take m).take (e + 1) := by rw [List.take_take]; congr 1; omega
    rw [this]
    exact segs_pre.length_le
  omega
theorem spE_le {k e : Nat} {M : Nat} (h : ∀ x ∈ el, x.2.2.2.1 ≤ M) (he : e < el.length) : spE el at_ k e ≤ 2 * M + 1 := by
  have hx := h (el.getD e elD) (by rw [List.getD_eq_getElem?_getD, List.getElem?_eq_getElem he]; exact List.getElem_mem he)
  unfold spE
  generalize el.getD e elD = x at *
  have q0 := sn_le (f := fun i => nm0 (at_.getD (x.2.2.1 + i) atD).1) (m := 1) (fun _ => nm0_le) x.2.2.2.1
  have q1 := sn_le (f := fun i => nm1 (EN el at_ (e : Int)) (at_.getD (x.2.2.1 + i) atD).1) (m := 1) (fun _ => nm1_le) x.2.2.2.1
  have q2 := sn_le (f := nm2 (EN el at_ (e : Int)) at_ x.2.2.1) (m := 1) (fun _ => nm2_le) x.2.2.2.1
  have q3 := sn_le (f := fun i => nm3 (at_.getD (x.2.2.1 + i) atD)) (m := 1) (fun _ => nm3_le) x.2.2.2.1
  have b0 := nm0_le (s := x.1)
  have b1' := nm1_le (E := EN el at_ (e : Int)) (s := x.1)
  have b4 := nm4_le (s := x.1)
  unfold snE
  repeat' split
  all_goals omega
end Enp
