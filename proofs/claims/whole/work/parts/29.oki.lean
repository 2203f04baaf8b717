/-! ===== the small machine in whole numbers: what a run from a place on comes to ===== -/
abbrev IV : Type := Int ⊕ Nat
abbrev IS : Type := (Nat → Nat → Int) × (Nat → Nat → Int)
def iv (v : MV) : IV := match v with
  | .inl x => .inl x.toInt
  | .inr r => .inr r
def iS (τ : MS) : IS := (fun o k => (τ.1 o k).toInt, fun r i => if r < 100 then 0 else (τ.2 (r - 100) i).toInt)
def uf (f : Nat → Nat → Int) (o k : Nat) (x : Int) : Nat → Nat → Int := fun p j => cond (Nat.beq p o && Nat.beq j k) x (f p j)
theorem beq_ff {a b : Nat} (h : ¬ a = b) : Nat.beq a b = false := by
  cases e : Nat.beq a b with
  | false => rfl
  | true => exact absurd (Nat.eq_of_beq_eq_true e) h
theorem uf_at {f : Nat → Nat → Int} {o k p j : Nat} {x : Int} : uf f o k x p j = if p = o ∧ j = k then x else f p j := by
  unfold uf
  by_cases e : p = o ∧ j = k
  · rw [if_pos e, e.1, e.2]
    simp
  · rw [if_neg e]
    have e2 : (Nat.beq p o && Nat.beq j k) = false := by
      rw [Bool.and_eq_false_iff]
      rcases Classical.em (p = o) with h1 | h1
      · exact Or.inr (beq_ff (fun h2 => e ⟨h1, h2⟩))
      · exact Or.inl (beq_ff h1)
    rw [e2]
    rfl
def pf (σ : IS) (o k : Nat) (x : Int) : IS := (uf σ.1 o k x, σ.2)
def pr (σ : IS) (r i : Nat) (x : Int) : IS := (σ.1, uf σ.2 r i x)
abbrev inR (x : Int) : Prop := -2147483648 ≤ x ∧ x ≤ 2147483647
abbrev inB (x : Int) : Prop := -128 ≤ x ∧ x ≤ 127
abbrev inL (L : Nat → Nat) (r : Nat) (i : Int) : Prop := 0 ≤ i ∧ i < (L r : Int)
abbrev is01 (x : Int) : Prop := x = 0 ∨ x = 1
def LNf (L : Nat → Nat) : Nat → Nat := fun q => L (100 + q)
def LR (l : List (Nat × MV)) (lv : List (Option IV)) : Prop := ∀ (k : Nat) (v : IV), lv[k]? = some (some v) → ∃ w, mlo l k = some w ∧ iv w = v
def OkI (B : MB) (L : Nat → Nat) (d oc : Nat) (cd : ByteArray) (nL rt pc : Nat) (st : List IV) (lv : List (Option IV)) (σ : IS) (Q : Option Int → IS → Prop) : Prop :=
  ∀ (a : List MV) (l : List (Nat × MV)) (τ : MS), a.map iv = st → LR l lv → iS τ = σ → ∃ (n0 : Nat) (r : Option Int32) (τ' : MS), (∀ n, n0 ≤ n → mrun B (LNf L) n d oc cd nL rt pc a l τ = some (r, τ')) ∧ Q (r.map Int32.toInt) (iS τ')
def qv (Q : IS → Prop) : Option Int → IS → Prop := fun r σ => r = none ∧ Q σ
def qi (Q : Int → IS → Prop) : Option Int → IS → Prop := fun r σ => ∃ v, r = some v ∧ Q v σ
/-! numbers -/
theorem bm_id {x : Int} (h : inR x) : x.bmod (2 ^ 32) = x := by
  have h1 := h.1
  have h2 := h.2
  apply Int.bmod_eq_of_le <;> omega
theorem ad_i {v w : Int32} (h : inR (v.toInt + w.toInt)) : (v + w).toInt = v.toInt + w.toInt := by rw [Int32.toInt_add, bm_id h]
theorem sb_i {v w : Int32} (h : inR (v.toInt - w.toInt)) : (v - w).toInt = v.toInt - w.toInt := by rw [Int32.toInt_sub, bm_id h]
theorem ml_i {v w : Int32} (h : inR (v.toInt * w.toInt)) : (v * w).toInt = v.toInt * w.toInt := by rw [Int32.toInt_mul, bm_id h]
def wr (x : Int) : Int := x.bmod 4294967296
theorem wr_id {x : Int} (h : inR x) : wr x = x := bm_id h
def ia (x y : Int) : Int := (Int32.ofInt x &&& Int32.ofInt y).toInt
def io (x y : Int) : Int := (Int32.ofInt x ||| Int32.ofInt y).toInt
def ix (x y : Int) : Int := (Int32.ofInt x ^^^ Int32.ofInt y).toInt
def isl (x y : Int) : Int := (Int32.ofInt x <<< (Int32.ofInt y &&& 31)).toInt
def isr (x y : Int) : Int := (Int32.ofInt x >>> (Int32.ofInt y &&& 31)).toInt
def iur (x y : Int) : Int := ((Int32.ofInt x).toUInt32 >>> ((Int32.ofInt y).toUInt32 &&& Int32.toUInt32 31)).toInt32.toInt
def nb (x : Int) : Int := x.bmod 256
theorem nb_in (x : Int) : inB (nb x) := by
  have h1 := Int.le_bmod (x := x) (m := 256) (by decide)
  have h2 := Int.bmod_lt (x := x) (m := 256) (by decide)
  unfold nb
  constructor <;> omega
theorem toR (v : Int32) : inR v.toInt := by
  have h1 := v.toInt_lt
  have h2 := v.le_toInt
  constructor <;> omega
theorem nI_i {n : Nat} (h : n < 2147483648) : (nI n).toInt = (n : Int) := by
  unfold nI
  rw [Int32.toInt_ofNat_of_lt (by omega)]
theorem i2c_id {v : Int32} {x : Int} (hx : v.toInt = x) (hr : 0 ≤ x ∧ x < 65536) : (v.toUInt32 % 65536).toInt32.toInt = x := by
  obtain ⟨n, rfl⟩ : ∃ n : Nat, x = (n : Int) := ⟨x.toNat, by omega⟩
  have e : v = Int32.ofNat n := by
    apply Int32.toInt_inj.mp
    rw [hx, Int32.toInt_ofNat_of_lt (by omega)]
  have e2 : v.toUInt32 % 65536 = UInt32.ofNat n := by
    subst e
    rw [Int32.toUInt32_ofNat']
    apply UInt32.toNat_inj.mp
    rw [UInt32.toNat_mod, UInt32.toNat_ofNat_of_lt' (by have := hr.2; show n < 2 ^ 32; omega)]
    show n % 65536 = n
    omega
  rw [e2, UInt32.toInt32_ofNat', Int32.toInt_ofNat_of_lt (by omega)]
/-! stack and locals -/
theorem mapI {a : List MV} {x : Int} {st : List IV} (h : a.map iv = .inl x :: st) : ∃ v b, a = .inl v :: b ∧ v.toInt = x ∧ b.map iv = st := by
  cases a with
  | nil => cases h
  | cons w b =>
    rw [List.map_cons] at h
    injection h with h1 h2
    cases w with
    | inl v => exact ⟨v, b, rfl, Sum.inl.inj h1, h2⟩
    | inr r => simp [iv] at h1
theorem mapR {a : List MV} {x : Nat} {st : List IV} (h : a.map iv = .inr x :: st) : ∃ b, a = .inr x :: b ∧ b.map iv = st := by
  cases a with
  | nil => cases h
  | cons w b =>
    rw [List.map_cons] at h
    injection h with h1 h2
    cases w with
    | inl v => simp [iv] at h1
    | inr r =>
      have e : r = x := Sum.inr.inj h1
      subst e
      exact ⟨b, rfl, h2⟩
theorem mapV {a : List MV} {x : IV} {st : List IV} (h : a.map iv = x :: st) : ∃ w b, a = w :: b ∧ iv w = x ∧ b.map iv = st := by
  cases a with
  | nil => cases h
  | cons w b =>
    rw [List.map_cons] at h
    injection h with h1 h2
    exact ⟨w, b, rfl, h1, h2⟩
theorem iv_I {w : MV} {x : Int} (h : iv w = .inl x) : ∃ v : Int32, w = .inl v ∧ v.toInt = x := by
  cases w with
  | inl v => exact ⟨v, rfl, Sum.inl.inj h⟩
  | inr r => simp [iv] at h
theorem iv_R {w : MV} {x : Nat} (h : iv w = .inr x) : w = .inr x := by
  cases w with
  | inl v => simp [iv] at h
  | inr r => rw [show r = x from Sum.inr.inj h]
theorem lo_fl {l : List (Nat × MV)} {k j : Nat} (e : ¬ j = k) : List.lookup j (l.filter (fun q => !(q.1 == k))) = List.lookup j l := by
  have e2 : (j == k) = false := by simpa using e
  induction l with
  | nil => rfl
  | cons q r ih =>
    obtain ⟨m, z⟩ := q
    by_cases em : m = k
    · subst em
      rw [List.filter_cons_of_neg (by simp), ih]
      simp only [List.lookup, e2]
    · rw [List.filter_cons_of_pos (by simpa using em)]
      simp only [List.lookup, ih]
theorem lo_st {l : List (Nat × MV)} {k j : Nat} {w : MV} : mlo (mst l k w) j = if j = k then some w else mlo l j := by
  unfold mlo mst
  by_cases e : j = k
  · subst e
    simp [List.lookup]
  · have e2 : (j == k) = false := by simpa using e
    rw [if_neg e]
    simp only [List.lookup, e2]
    exact lo_fl e
theorem LR_set {l : List (Nat × MV)} {lv : List (Option IV)} {k : Nat} {w : MV} (h : LR l lv) : LR (mst l k w) (lv.set k (some (iv w))) := by
  intro j v hv
  rw [List.getElem?_set] at hv
  rw [lo_st]
  by_cases e : k = j
  · rw [if_pos e] at hv
    rw [if_pos e.symm]
    split at hv
    · cases hv
      exact ⟨w, rfl, rfl⟩
    · cases hv
  · rw [if_neg e] at hv
    rw [if_neg (fun z => e z.symm)]
    exact h j v hv
theorem LR_mlv (a : List MV) : ∀ k : Nat, ∀ (j : Nat) (v : IV), ((a.map iv).map some)[j]? = some (some v) → ∃ w, mlo (mlv k a) (k + j) = some w ∧ iv w = v := by
  induction a with
  | nil => intro k j v h; cases h
  | cons w r ih =>
    intro k j v h
    cases j with
    | zero =>
      simp at h
      exact ⟨w, by simp [mlv, mlo, List.lookup], h⟩
    | succ j =>
      obtain ⟨w2, h1, h2⟩ := ih (k + 1) j v (by simpa using h)
      refine ⟨w2, ?_, h2⟩
      have e : (k + (j + 1) == k) = false := by simp
      unfold mlv mlo List.lookup
      rw [e]
      dsimp only
      rw [show k + (j + 1) = k + 1 + j by omega]
      exact h1
theorem LR_args (a : List MV) : LR (mlv 0 a) ((a.map iv).map some) := by
  intro j v h
  have h2 := LR_mlv a 0 j v h
  rwa [Nat.zero_add] at h2
def sb (a b : List (Option IV)) : Prop := ∀ (k : Nat) (v : IV), a[k]? = some (some v) → b[k]? = some (some v)
theorem sb_nil {b : List (Option IV)} : sb [] b := fun k v h => by cases h
theorem sb_n {a b : List (Option IV)} {w : Option IV} (h : sb a b) : sb (none :: a) (w :: b) := fun k v hk => by
  cases k with
  | zero => simp at hk
  | succ k => simpa using h k v (by simpa using hk)
theorem sb_s {a b : List (Option IV)} {w : Option IV} (h : sb a b) : sb (w :: a) (w :: b) := fun k v hk => by
  cases k with
  | zero => simpa using hk
  | succ k => simpa using h k v (by simpa using hk)
theorem sb_e {a : List (Option IV)} (h : sb a []) : sb (none :: a) [] := fun k v hk => by
  cases k with
  | zero => simp at hk
  | succ k => exact absurd (h k v (by simpa using hk)) (by simp)
theorem LR_sb {l : List (Nat × MV)} {a b : List (Option IV)} (h : LR l b) (hs : sb a b) : LR l a := fun k v hk => h k v (hs k v hk)
/-! states -/
theorem iS_f {τ : MS} {o k : Nat} {x : Int32} : iS (ud τ.1 o k x, τ.2) = pf (iS τ) o k x.toInt := by
  unfold iS pf ud upd
  congr 1
  funext p j
  rw [uf_at]
  by_cases e : p = o
  · subst e
    by_cases e2 : j = k <;> simp [e2]
  · simp [e]
theorem iS_r {τ : MS} {r i : Nat} {x : Int32} (hr : 100 ≤ r) : iS (τ.1, ud τ.2 (r - 100) i x) = pr (iS τ) r i x.toInt := by
  unfold iS pr ud upd
  congr 1
  funext p j
  rw [uf_at]
  by_cases h0 : p < 100
  · have e : ¬ (p = r ∧ j = i) := by omega
    simp [h0, e]
  · by_cases e : p = r
    · subst e
      by_cases e2 : j = i <;> simp [h0, e2]
    · have e3 : ¬ p - 100 = r - 100 := by omega
      simp [h0, e, e3]
theorem iS_r2 {τ : MS} {g : Nat → Nat → Int32} {σ2 : Nat → Nat → Int} (h : ∀ r i, 100 ≤ r → (g (r - 100) i).toInt = σ2 r i) (h0 : ∀ r i, r < 100 → σ2 r i = 0) : iS (τ.1, g) = ((iS τ).1, σ2) := by
  unfold iS
  congr 1
  funext r i
  by_cases e : r < 100
  · simp [e, h0 r i e]
  · simp only [e, if_false]
    exact h r i (by omega)
theorem iS_low {τ : MS} {r i : Nat} (h : r < 100) : (iS τ).2 r i = 0 := by simp [iS, h]
theorem iS_hi {τ : MS} {r i : Nat} (h : 100 ≤ r) : (iS τ).2 r i = (τ.2 (r - 100) i).toInt := by
  have e : ¬ r < 100 := by omega
  simp [iS, e]
/-! one instruction -/
def plI (i : Jvm.ClassFile.Instr) : Bool := match i with
  | .return_ => false
  | .ireturn => false
  | .invokevirtual _ => false
  | .invokestatic _ => false
  | _ => true
theorem mrun_op {B : MB} {ln : Nat → Nat} {n d oc : Nat} {cd : ByteArray} {nL rt pc : Nat} {a a2 : List MV} {l l2 : List (Nat × MV)} {τ τ2 : MS} {i : Jvm.ClassFile.Instr} {len pc2 : Nat} {z : Option Int32 × MS} (hd : decode cd pc = .ok (i, len)) (hi : plI i = true) (hl : len = mln i ∨ msw i = true) (hm : mop B ln oc nL pc i a l τ = some (pc2, a2, l2, τ2)) (hk : mrun B ln n d oc cd nL rt pc2 a2 l2 τ2 = some z) : mrun B ln (n + 1) d oc cd nL rt pc a l τ = some z := by
  unfold mrun
  rw [hd]
  dsimp only
  split
  · exact absurd hi (by decide)
  · exact absurd hi (by decide)
  · exact absurd hi (by simp [plI])
  · exact absurd hi (by simp [plI])
  · rw [if_pos hl, hm]
    exact hk
theorem fits_b {v : Int32} (h : inB v.toInt) : fits .byte (.int v) = true := by
  show (decide (-128 ≤ v) && decide (v ≤ 127)) = true
  rw [Bool.and_eq_true]
  exact ⟨decide_eq_true (Int32.le_iff_toInt_le.mpr h.1), decide_eq_true (Int32.le_iff_toInt_le.mpr h.2)⟩
section OkRules
variable {B : MB} {L : Nat → Nat} {d oc : Nat} {cd : ByteArray} {nL rt pc : Nat} {st : List IV} {lv : List (Option IV)} {σ : IS} {Q : Option Int → IS → Prop}
theorem k_op {i : Jvm.ClassFile.Instr} {len pc2 : Nat} {st2 : List IV} {lv2 : List (Option IV)} {σ2 : IS} (hd : decode cd pc = .ok (i, len)) (hi : plI i = true) (hl : len = mln i ∨ msw i = true)
    (hm : ∀ (a : List MV) (l : List (Nat × MV)) (τ : MS), a.map iv = st → LR l lv → iS τ = σ → ∃ a2 l2 τ2, mop B (LNf L) oc nL pc i a l τ = some (pc2, a2, l2, τ2) ∧ a2.map iv = st2 ∧ LR l2 lv2 ∧ iS τ2 = σ2)
    (h : OkI B L d oc cd nL rt pc2 st2 lv2 σ2 Q) : OkI B L d oc cd nL rt pc st lv σ Q := by
  intro a l τ ha hl' hτ
  obtain ⟨a2, l2, τ2, e, h2, h3, h4⟩ := hm a l τ ha hl' hτ
  obtain ⟨n0, r, τ', hr, hq⟩ := h a2 l2 τ2 h2 h3 h4
  refine ⟨n0 + 1, r, τ', fun n hn => ?_, hq⟩
  obtain ⟨k, rfl⟩ : ∃ k, n = k + 1 := ⟨n - 1, by omega⟩
  exact mrun_op hd hi hl e (hr k (by omega))
theorem k_sb {lv' : List (Option IV)} (hs : sb lv' lv) (h : OkI B L d oc cd nL rt pc st lv' σ Q) : OkI B L d oc cd nL rt pc st lv σ Q := fun a l τ ha hl hτ => h a l τ ha (LR_sb hl hs) hτ
theorem k_eqI {x y : Int} (e : y = x) (h : OkI B L d oc cd nL rt pc (.inl y :: st) lv σ Q) : OkI B L d oc cd nL rt pc (.inl x :: st) lv σ Q := e ▸ h
theorem k_eqR {x y : Nat} (e : y = x) (h : OkI B L d oc cd nL rt pc (.inr y :: st) lv σ Q) : OkI B L d oc cd nL rt pc (.inr x :: st) lv σ Q := e ▸ h
theorem k_iconst {n : Int} (hd : decode cd pc = .ok (.iconst n, 1)) (hn : (Int32.ofInt n).toInt = n) (h : OkI B L d oc cd nL rt (pc + 1) (.inl n :: st) lv σ Q) : OkI B L d oc cd nL rt pc st lv σ Q :=
  k_op hd rfl (Or.inl rfl) (fun a l τ ha hl hτ => ⟨_, _, _, rfl, by rw [List.map_cons, ha]; exact congrArg (fun z => (.inl z : IV) :: st) hn, hl, hτ⟩) h
theorem k_bipush {n : Int} (hd : decode cd pc = .ok (.bipush n, 2)) (hn : (Int8.ofInt n).toInt32.toInt = n) (h : OkI B L d oc cd nL rt (pc + 2) (.inl n :: st) lv σ Q) : OkI B L d oc cd nL rt pc st lv σ Q :=
  k_op hd rfl (Or.inl rfl) (fun a l τ ha hl hτ => ⟨_, _, _, rfl, by rw [List.map_cons, ha]; exact congrArg (fun z => (.inl z : IV) :: st) hn, hl, hτ⟩) h
theorem k_sipush {n : Int} (hd : decode cd pc = .ok (.sipush n, 3)) (hn : (Int16.ofInt n).toInt32.toInt = n) (h : OkI B L d oc cd nL rt (pc + 3) (.inl n :: st) lv σ Q) : OkI B L d oc cd nL rt pc st lv σ Q :=
  k_op hd rfl (Or.inl rfl) (fun a l τ ha hl hτ => ⟨_, _, _, rfl, by rw [List.map_cons, ha]; exact congrArg (fun z => (.inl z : IV) :: st) hn, hl, hτ⟩) h
theorem k_ldc {k : Nat} {w : MV} {v : IV} (hd : decode cd pc = .ok (.ldc k, 2)) (hk : mks oc k = some w) (hv : iv w = v) (h : OkI B L d oc cd nL rt (pc + 2) (v :: st) lv σ Q) : OkI B L d oc cd nL rt pc st lv σ Q :=
  k_op hd rfl (Or.inl rfl) (fun a l τ ha hl hτ => ⟨w :: a, l, τ, by unfold mop; dsimp only; rw [hk]; rfl, by rw [List.map_cons, ha, hv], hl, hτ⟩) h
theorem k_ldcw {k : Nat} {w : MV} {v : IV} (hd : decode cd pc = .ok (.ldc_w k, 3)) (hk : mks oc k = some w) (hv : iv w = v) (h : OkI B L d oc cd nL rt (pc + 3) (v :: st) lv σ Q) : OkI B L d oc cd nL rt pc st lv σ Q :=
  k_op hd rfl (Or.inl rfl) (fun a l τ ha hl hτ => ⟨w :: a, l, τ, by unfold mop; dsimp only; rw [hk]; rfl, by rw [List.map_cons, ha, hv], hl, hτ⟩) h
theorem x_ldi {k pc' : Nat} {x : Int} (hv : lv[k]? = some (some (.inl x))) : ∀ (a : List MV) (l : List (Nat × MV)) (τ : MS), a.map iv = st → LR l lv → iS τ = σ → ∃ a2 l2 τ2, mldi pc' k a l τ = some (pc', a2, l2, τ2) ∧ a2.map iv = .inl x :: st ∧ LR l2 lv ∧ iS τ2 = σ := by
  intro a l τ ha hl hτ
  obtain ⟨w, h1, h2⟩ := hl k _ hv
  obtain ⟨v, rfl, hx⟩ := iv_I h2
  refine ⟨.inl v :: a, l, τ, by unfold mldi; rw [h1], ?_, hl, hτ⟩
  rw [List.map_cons, ha]
  exact congrArg (fun z => (.inl z : IV) :: st) hx
theorem x_lda {k pc' : Nat} {x : Nat} (hv : lv[k]? = some (some (.inr x))) : ∀ (a : List MV) (l : List (Nat × MV)) (τ : MS), a.map iv = st → LR l lv → iS τ = σ → ∃ a2 l2 τ2, mlda pc' k a l τ = some (pc', a2, l2, τ2) ∧ a2.map iv = .inr x :: st ∧ LR l2 lv ∧ iS τ2 = σ := by
  intro a l τ ha hl hτ
  obtain ⟨w, h1, h2⟩ := hl k _ hv
  have e := iv_R h2
  subst e
  exact ⟨.inr x :: a, l, τ, by unfold mlda; rw [h1], by rw [List.map_cons, ha]; rfl, hl, hτ⟩
theorem k_iload_n {k : Fin 4} {x : Int} (hd : decode cd pc = .ok (.iload_n k, 1)) (hv : lv[k.val]? = some (some (.inl x))) (h : OkI B L d oc cd nL rt (pc + 1) (.inl x :: st) lv σ Q) : OkI B L d oc cd nL rt pc st lv σ Q := k_op hd rfl (Or.inl rfl) (x_ldi hv) h
theorem k_iload {k : Nat} {x : Int} (hd : decode cd pc = .ok (.iload k, 2)) (hv : lv[k]? = some (some (.inl x))) (h : OkI B L d oc cd nL rt (pc + 2) (.inl x :: st) lv σ Q) : OkI B L d oc cd nL rt pc st lv σ Q := k_op hd rfl (Or.inl rfl) (x_ldi hv) h
theorem k_aload_n {k : Fin 4} {x : Nat} (hd : decode cd pc = .ok (.aload_n k, 1)) (hv : lv[k.val]? = some (some (.inr x))) (h : OkI B L d oc cd nL rt (pc + 1) (.inr x :: st) lv σ Q) : OkI B L d oc cd nL rt pc st lv σ Q := k_op hd rfl (Or.inl rfl) (x_lda hv) h
theorem k_aload {k : Nat} {x : Nat} (hd : decode cd pc = .ok (.aload k, 2)) (hv : lv[k]? = some (some (.inr x))) (h : OkI B L d oc cd nL rt (pc + 2) (.inr x :: st) lv σ Q) : OkI B L d oc cd nL rt pc st lv σ Q := k_op hd rfl (Or.inl rfl) (x_lda hv) h
theorem x_sti {k pc' : Nat} {x : Int} (hk : k < nL) : ∀ (a : List MV) (l : List (Nat × MV)) (τ : MS), a.map iv = .inl x :: st → LR l lv → iS τ = σ → ∃ a2 l2 τ2, msti nL pc' k a l τ = some (pc', a2, l2, τ2) ∧ a2.map iv = st ∧ LR l2 (lv.set k (some (.inl x))) ∧ iS τ2 = σ := by
  intro a l τ ha hl hτ
  obtain ⟨v, b, rfl, hx, hb⟩ := mapI ha
  refine ⟨b, mst l k (.inl v), τ, by unfold msti; dsimp only; rw [if_pos hk], hb, ?_, hτ⟩
  rw [← hx]
  exact LR_set (w := .inl v) hl
theorem x_sta {k pc' : Nat} {x : Nat} (hk : k < nL) : ∀ (a : List MV) (l : List (Nat × MV)) (τ : MS), a.map iv = .inr x :: st → LR l lv → iS τ = σ → ∃ a2 l2 τ2, msta nL pc' k a l τ = some (pc', a2, l2, τ2) ∧ a2.map iv = st ∧ LR l2 (lv.set k (some (.inr x))) ∧ iS τ2 = σ := by
  intro a l τ ha hl hτ
  obtain ⟨b, rfl, hb⟩ := mapR ha
  exact ⟨b, mst l k (.inr x), τ, by unfold msta; dsimp only; rw [if_pos hk], hb, LR_set (w := .inr x) hl, hτ⟩
theorem k_istore_n {k : Fin 4} {x : Int} {lv' : List (Option IV)} (hd : decode cd pc = .ok (.istore_n k, 1)) (hk : Nat.blt k.val nL = true) (hv : lv.set k.val (some (.inl x)) = lv') (h : OkI B L d oc cd nL rt (pc + 1) st lv' σ Q) : OkI B L d oc cd nL rt pc (.inl x :: st) lv σ Q := k_op hd rfl (Or.inl rfl) (x_sti (Nat.le_of_ble_eq_true hk)) (hv ▸ h)
theorem k_istore {k : Nat} {x : Int} {lv' : List (Option IV)} (hd : decode cd pc = .ok (.istore k, 2)) (hk : Nat.blt k nL = true) (hv : lv.set k (some (.inl x)) = lv') (h : OkI B L d oc cd nL rt (pc + 2) st lv' σ Q) : OkI B L d oc cd nL rt pc (.inl x :: st) lv σ Q := k_op hd rfl (Or.inl rfl) (x_sti (Nat.le_of_ble_eq_true hk)) (hv ▸ h)
theorem k_astore_n {k : Fin 4} {x : Nat} {lv' : List (Option IV)} (hd : decode cd pc = .ok (.astore_n k, 1)) (hk : Nat.blt k.val nL = true) (hv : lv.set k.val (some (.inr x)) = lv') (h : OkI B L d oc cd nL rt (pc + 1) st lv' σ Q) : OkI B L d oc cd nL rt pc (.inr x :: st) lv σ Q := k_op hd rfl (Or.inl rfl) (x_sta (Nat.le_of_ble_eq_true hk)) (hv ▸ h)
theorem k_astore {k : Nat} {x : Nat} {lv' : List (Option IV)} (hd : decode cd pc = .ok (.astore k, 2)) (hk : Nat.blt k nL = true) (hv : lv.set k (some (.inr x)) = lv') (h : OkI B L d oc cd nL rt (pc + 2) st lv' σ Q) : OkI B L d oc cd nL rt pc (.inr x :: st) lv σ Q := k_op hd rfl (Or.inl rfl) (x_sta (Nat.le_of_ble_eq_true hk)) (hv ▸ h)
theorem k_iinc {k : Nat} {n x : Int} {lv' : List (Option IV)} (hd : decode cd pc = .ok (.iinc k n, 3)) (hn : (Int32.ofInt n).toInt = n) (hk : Nat.blt k nL = true) (hx : lv[k]? = some (some (.inl x))) (hr : inR (x + n)) (hv : lv.set k (some (.inl (x + n))) = lv') (h : OkI B L d oc cd nL rt (pc + 3) st lv' σ Q) : OkI B L d oc cd nL rt pc st lv σ Q := by
  refine k_op hd rfl (Or.inl rfl) (fun a l τ ha hl hτ => ?_) (hv ▸ h)
  obtain ⟨w, h1, h2⟩ := hl k _ hx
  obtain ⟨v, rfl, hx2⟩ := iv_I h2
  refine ⟨a, mst l k (.inl (v + Int32.ofInt n)), τ, ?_, ha, ?_, hτ⟩
  · unfold mop
    dsimp only
    rw [h1]
    dsimp only
    rw [if_pos (show k < nL from Nat.le_of_ble_eq_true hk)]
  · have e : (v + Int32.ofInt n).toInt = x + n := by
      rw [ad_i (by rw [hx2, hn]; exact hr), hx2, hn]
    rw [← e]
    exact LR_set (w := .inl (v + Int32.ofInt n)) hl
theorem x_bin {i : Jvm.ClassFile.Instr} {x y z : Int} (hf : ∀ v w : Int32, v.toInt = x → w.toInt = y → ∃ u, mop2 i v w = some u ∧ u.toInt = z) : ∀ (a : List MV) (l : List (Nat × MV)) (τ : MS), a.map iv = .inl y :: .inl x :: st → LR l lv → iS τ = σ → ∃ a2 l2 τ2, mbin pc i a l τ = some (pc + 1, a2, l2, τ2) ∧ a2.map iv = .inl z :: st ∧ LR l2 lv ∧ iS τ2 = σ := by
  intro a l τ ha hl hτ
  obtain ⟨w, b, rfl, hy, hb⟩ := mapI ha
  obtain ⟨v, c, rfl, hx, hc⟩ := mapI hb
  obtain ⟨u, h1, h2⟩ := hf v w hx hy
  refine ⟨.inl u :: c, l, τ, by unfold mbin; dsimp only; rw [h1]; rfl, ?_, hl, hτ⟩
  rw [List.map_cons, hc]
  exact congrArg (fun z => (.inl z : IV) :: st) h2
theorem k_iadd {x y : Int} (hd : decode cd pc = .ok (.iadd, 1)) (hr : inR (x + y)) (h : OkI B L d oc cd nL rt (pc + 1) (.inl (x + y) :: st) lv σ Q) : OkI B L d oc cd nL rt pc (.inl y :: .inl x :: st) lv σ Q :=
  k_op hd rfl (Or.inl rfl) (x_bin (fun v w hv hw => ⟨v + w, rfl, by rw [ad_i (by rw [hv, hw]; exact hr), hv, hw]⟩)) h
theorem k_isub {x y : Int} (hd : decode cd pc = .ok (.isub, 1)) (hr : inR (x - y)) (h : OkI B L d oc cd nL rt (pc + 1) (.inl (x - y) :: st) lv σ Q) : OkI B L d oc cd nL rt pc (.inl y :: .inl x :: st) lv σ Q :=
  k_op hd rfl (Or.inl rfl) (x_bin (fun v w hv hw => ⟨v - w, rfl, by rw [sb_i (by rw [hv, hw]; exact hr), hv, hw]⟩)) h
theorem k_imul {x y : Int} (hd : decode cd pc = .ok (.imul, 1)) (hr : inR (x * y)) (h : OkI B L d oc cd nL rt (pc + 1) (.inl (x * y) :: st) lv σ Q) : OkI B L d oc cd nL rt pc (.inl y :: .inl x :: st) lv σ Q :=
  k_op hd rfl (Or.inl rfl) (x_bin (fun v w hv hw => ⟨v * w, rfl, by rw [ml_i (by rw [hv, hw]; exact hr), hv, hw]⟩)) h
theorem k_iaddw {x y : Int} (hd : decode cd pc = .ok (.iadd, 1)) (h : OkI B L d oc cd nL rt (pc + 1) (.inl (wr (x + y)) :: st) lv σ Q) : OkI B L d oc cd nL rt pc (.inl y :: .inl x :: st) lv σ Q :=
  k_op hd rfl (Or.inl rfl) (x_bin (fun v w hv hw => ⟨v + w, rfl, by rw [Int32.toInt_add, hv, hw]; rfl⟩)) h
theorem k_imulw {x y : Int} (hd : decode cd pc = .ok (.imul, 1)) (h : OkI B L d oc cd nL rt (pc + 1) (.inl (wr (x * y)) :: st) lv σ Q) : OkI B L d oc cd nL rt pc (.inl y :: .inl x :: st) lv σ Q :=
  k_op hd rfl (Or.inl rfl) (x_bin (fun v w hv hw => ⟨v * w, rfl, by rw [Int32.toInt_mul, hv, hw]; rfl⟩)) h
theorem k_iand {x y : Int} (hd : decode cd pc = .ok (.iand, 1)) (h : OkI B L d oc cd nL rt (pc + 1) (.inl (ia x y) :: st) lv σ Q) : OkI B L d oc cd nL rt pc (.inl y :: .inl x :: st) lv σ Q :=
  k_op hd rfl (Or.inl rfl) (x_bin (fun v w hv hw => ⟨v &&& w, rfl, by unfold ia; rw [← hv, ← hw, Int32.ofInt_toInt, Int32.ofInt_toInt]⟩)) h
theorem k_ior {x y : Int} (hd : decode cd pc = .ok (.ior, 1)) (h : OkI B L d oc cd nL rt (pc + 1) (.inl (io x y) :: st) lv σ Q) : OkI B L d oc cd nL rt pc (.inl y :: .inl x :: st) lv σ Q :=
  k_op hd rfl (Or.inl rfl) (x_bin (fun v w hv hw => ⟨v ||| w, rfl, by unfold io; rw [← hv, ← hw, Int32.ofInt_toInt, Int32.ofInt_toInt]⟩)) h
theorem k_ixor {x y : Int} (hd : decode cd pc = .ok (.ixor, 1)) (h : OkI B L d oc cd nL rt (pc + 1) (.inl (ix x y) :: st) lv σ Q) : OkI B L d oc cd nL rt pc (.inl y :: .inl x :: st) lv σ Q :=
  k_op hd rfl (Or.inl rfl) (x_bin (fun v w hv hw => ⟨v ^^^ w, rfl, by unfold ix; rw [← hv, ← hw, Int32.ofInt_toInt, Int32.ofInt_toInt]⟩)) h
theorem k_ishl {x y : Int} (hd : decode cd pc = .ok (.ishl, 1)) (h : OkI B L d oc cd nL rt (pc + 1) (.inl (isl x y) :: st) lv σ Q) : OkI B L d oc cd nL rt pc (.inl y :: .inl x :: st) lv σ Q :=
  k_op hd rfl (Or.inl rfl) (x_bin (fun v w hv hw => ⟨_, rfl, by unfold isl; rw [← hv, ← hw, Int32.ofInt_toInt, Int32.ofInt_toInt]⟩)) h
theorem k_ishr {x y : Int} (hd : decode cd pc = .ok (.ishr, 1)) (h : OkI B L d oc cd nL rt (pc + 1) (.inl (isr x y) :: st) lv σ Q) : OkI B L d oc cd nL rt pc (.inl y :: .inl x :: st) lv σ Q :=
  k_op hd rfl (Or.inl rfl) (x_bin (fun v w hv hw => ⟨_, rfl, by unfold isr; rw [← hv, ← hw, Int32.ofInt_toInt, Int32.ofInt_toInt]⟩)) h
theorem k_iushr {x y : Int} (hd : decode cd pc = .ok (.iushr, 1)) (h : OkI B L d oc cd nL rt (pc + 1) (.inl (iur x y) :: st) lv σ Q) : OkI B L d oc cd nL rt pc (.inl y :: .inl x :: st) lv σ Q :=
  k_op hd rfl (Or.inl rfl) (x_bin (fun v w hv hw => ⟨_, rfl, by unfold iur; rw [← hv, ← hw, Int32.ofInt_toInt, Int32.ofInt_toInt]⟩)) h
theorem k_idiv {x y : Int} (hd : decode cd pc = .ok (.idiv, 1)) (hy : 0 < y) (h : OkI B L d oc cd nL rt (pc + 1) (.inl (x.tdiv y) :: st) lv σ Q) : OkI B L d oc cd nL rt pc (.inl y :: .inl x :: st) lv σ Q :=
  k_op hd rfl (Or.inl rfl) (x_bin (fun v w hv hw => by
    have h0 : ¬ w = 0 := fun z => by subst z; have : y = 0 := hw.symm; omega
    have h1 : w ≠ -1 := fun z => by subst z; have : y = -1 := hw.symm; omega
    refine ⟨v / w, by unfold mop2; rw [if_neg h0], ?_⟩
    rw [Int32.toInt_div_of_ne_right _ _ h1, hv, hw])) h
theorem k_i2b {x : Int} (hd : decode cd pc = .ok (.i2b, 1)) (h : OkI B L d oc cd nL rt (pc + 1) (.inl (nb x) :: st) lv σ Q) : OkI B L d oc cd nL rt pc (.inl x :: st) lv σ Q :=
  k_op hd rfl (Or.inl rfl) (fun a l τ ha hl hτ => by
    obtain ⟨v, b, rfl, hx, hb⟩ := mapI ha
    refine ⟨.inl v.toInt8.toInt32 :: b, l, τ, rfl, ?_, hl, hτ⟩
    rw [List.map_cons, hb]
    refine congrArg (fun z => (.inl z : IV) :: st) ?_
    rw [Int8.toInt_toInt32, Int32.toInt_toInt8, hx]
    rfl) h
theorem k_i2c {x : Int} (hd : decode cd pc = .ok (.i2c, 1)) (hr : 0 ≤ x ∧ x < 65536) (h : OkI B L d oc cd nL rt (pc + 1) (.inl x :: st) lv σ Q) : OkI B L d oc cd nL rt pc (.inl x :: st) lv σ Q :=
  k_op hd rfl (Or.inl rfl) (fun a l τ ha hl hτ => by
    obtain ⟨v, b, rfl, hx, hb⟩ := mapI ha
    refine ⟨.inl (v.toUInt32 % 65536).toInt32 :: b, l, τ, rfl, ?_, hl, hτ⟩
    rw [List.map_cons, hb]
    refine congrArg (fun z => (.inl z : IV) :: st) ?_
    exact i2c_id hx hr) h
theorem k_dup {v : IV} (hd : decode cd pc = .ok (.dup, 1)) (h : OkI B L d oc cd nL rt (pc + 1) (v :: v :: st) lv σ Q) : OkI B L d oc cd nL rt pc (v :: st) lv σ Q :=
  k_op hd rfl (Or.inl rfl) (fun a l τ ha hl hτ => by
    obtain ⟨w, b, rfl, hx, hb⟩ := mapV ha
    exact ⟨w :: w :: b, l, τ, rfl, by simp only [List.map_cons, hx, hb], hl, hτ⟩) h
theorem k_dup2 {v u : IV} (hd : decode cd pc = .ok (.dup2, 1)) (h : OkI B L d oc cd nL rt (pc + 1) (v :: u :: v :: u :: st) lv σ Q) : OkI B L d oc cd nL rt pc (v :: u :: st) lv σ Q :=
  k_op hd rfl (Or.inl rfl) (fun a l τ ha hl hτ => by
    obtain ⟨w, b, rfl, hx, hb⟩ := mapV ha
    obtain ⟨w2, b2, rfl, hx2, hb2⟩ := mapV hb
    exact ⟨w :: w2 :: w :: w2 :: b2, l, τ, rfl, by simp only [List.map_cons, hx, hx2, hb2], hl, hτ⟩) h
theorem k_pop {v : IV} (hd : decode cd pc = .ok (.pop, 1)) (h : OkI B L d oc cd nL rt (pc + 1) st lv σ Q) : OkI B L d oc cd nL rt pc (v :: st) lv σ Q :=
  k_op hd rfl (Or.inl rfl) (fun a l τ ha hl hτ => by
    obtain ⟨w, b, rfl, hx, hb⟩ := mapV ha
    exact ⟨b, l, τ, rfl, hb, hl, hτ⟩) h
theorem k_goto {off : Int} {t : Nat} (hd : decode cd pc = .ok (.goto off, 3)) (ht : mjmp pc off = some t) (h : OkI B L d oc cd nL rt t st lv σ Q) : OkI B L d oc cd nL rt pc st lv σ Q :=
  k_op hd rfl (Or.inl rfl) (fun a l τ ha hl hτ => ⟨a, l, τ, by unfold mop; dsimp only; rw [ht]; rfl, ha, hl, hτ⟩) h
theorem x_if {c : Jvm.ClassFile.Cond} {off x : Int} {t t2 : Nat} (ht : mjmp pc off = some t) (hc : ∀ v : Int32, v.toInt = x → (if mbr c v 0 = true then t else pc + 3) = t2) : ∀ (a : List MV) (l : List (Nat × MV)) (τ : MS), a.map iv = .inl x :: st → LR l lv → iS τ = σ → ∃ a2 l2 τ2, mop B (LNf L) oc nL pc (.ifCond c off) a l τ = some (t2, a2, l2, τ2) ∧ a2.map iv = st ∧ LR l2 lv ∧ iS τ2 = σ := by
  intro a l τ ha hl hτ
  obtain ⟨v, b, rfl, hx, hb⟩ := mapI ha
  refine ⟨b, l, τ, ?_, hb, hl, hτ⟩
  unfold mop
  dsimp only
  rw [ht]
  dsimp only
  rw [hc v hx]
theorem x_ic {c : Jvm.ClassFile.Cond} {off x y : Int} {t t2 : Nat} (ht : mjmp pc off = some t) (hc : ∀ v w : Int32, v.toInt = x → w.toInt = y → (if mbr c v w = true then t else pc + 3) = t2) : ∀ (a : List MV) (l : List (Nat × MV)) (τ : MS), a.map iv = .inl y :: .inl x :: st → LR l lv → iS τ = σ → ∃ a2 l2 τ2, mop B (LNf L) oc nL pc (.if_icmp c off) a l τ = some (t2, a2, l2, τ2) ∧ a2.map iv = st ∧ LR l2 lv ∧ iS τ2 = σ := by
  intro a l τ ha hl hτ
  obtain ⟨w, b, rfl, hy, hb⟩ := mapI ha
  obtain ⟨v, b2, rfl, hx, hb2⟩ := mapI hb
  refine ⟨b2, l, τ, ?_, hb2, hl, hτ⟩
  unfold mop
  dsimp only
  rw [ht]
  dsimp only
  rw [hc v w hx hy]
def bi (c : Jvm.ClassFile.Cond) (x y : Int) : Prop := match c with
  | .eq => x = y
  | .ne => ¬ x = y
  | .lt => x < y
  | .ge => ¬ x < y
  | .gt => y < x
  | .le => ¬ y < x
theorem bi_mbr {c : Jvm.ClassFile.Cond} {v w : Int32} : mbr c v w = true ↔ bi c v.toInt w.toInt := by
  cases c
  · exact ⟨fun h => congrArg Int32.toInt (of_decide_eq_true h), fun h => decide_eq_true (Int32.toInt_inj.mp h)⟩
  · exact ⟨fun h e => of_decide_eq_true h (Int32.toInt_inj.mp e), fun h => decide_eq_true (fun e => h (congrArg Int32.toInt e))⟩
  · exact ⟨fun h => Int32.lt_iff_toInt_lt.mp (of_decide_eq_true h), fun h => decide_eq_true (Int32.lt_iff_toInt_lt.mpr h)⟩
  · exact ⟨fun h e => by have := Int32.le_iff_toInt_le.mp (of_decide_eq_true h); omega, fun h => decide_eq_true (Int32.le_iff_toInt_le.mpr (by unfold bi at h; dsimp only at h; omega))⟩
  · exact ⟨fun h => Int32.lt_iff_toInt_lt.mp (of_decide_eq_true h), fun h => decide_eq_true (Int32.lt_iff_toInt_lt.mpr h)⟩
  · exact ⟨fun h e => by have := Int32.le_iff_toInt_le.mp (of_decide_eq_true h); omega, fun h => decide_eq_true (Int32.le_iff_toInt_le.mpr (by unfold bi at h; dsimp only at h; omega))⟩
theorem k_if {c : Jvm.ClassFile.Cond} {off x : Int} {t : Nat} (hd : decode cd pc = .ok (.ifCond c off, 3)) (ht : mjmp pc off = some t) (h1 : bi c x 0 → OkI B L d oc cd nL rt t st lv σ Q) (h2 : ¬ bi c x 0 → OkI B L d oc cd nL rt (pc + 3) st lv σ Q) : OkI B L d oc cd nL rt pc (.inl x :: st) lv σ Q := by
  rcases Classical.em (bi c x 0) with e | e
  · exact k_op hd rfl (Or.inl rfl) (x_if (t2 := t) ht (fun v hv => if_pos (bi_mbr.mpr (by rw [hv]; exact e)))) (h1 e)
  · exact k_op hd rfl (Or.inl rfl) (x_if (t2 := pc + 3) ht (fun v hv => if_neg (fun z => e (by have := bi_mbr.mp z; rw [hv] at this; exact this)))) (h2 e)
theorem k_ic {c : Jvm.ClassFile.Cond} {off x y : Int} {t : Nat} (hd : decode cd pc = .ok (.if_icmp c off, 3)) (ht : mjmp pc off = some t) (h1 : bi c x y → OkI B L d oc cd nL rt t st lv σ Q) (h2 : ¬ bi c x y → OkI B L d oc cd nL rt (pc + 3) st lv σ Q) : OkI B L d oc cd nL rt pc (.inl y :: .inl x :: st) lv σ Q := by
  rcases Classical.em (bi c x y) with e | e
  · exact k_op hd rfl (Or.inl rfl) (x_ic (t2 := t) ht (fun v w hv hw => if_pos (bi_mbr.mpr (by rw [hv, hw]; exact e)))) (h1 e)
  · exact k_op hd rfl (Or.inl rfl) (x_ic (t2 := pc + 3) ht (fun v w hv hw => if_neg (fun z => e (by have := bi_mbr.mp z; rw [hv, hw] at this; exact this)))) (h2 e)
theorem k_ifeq {off x : Int} {t : Nat} (hd : decode cd pc = .ok (.ifCond .eq off, 3)) (ht : mjmp pc off = some t) (h1 : x = 0 → OkI B L d oc cd nL rt t st lv σ Q) (h2 : ¬ x = 0 → OkI B L d oc cd nL rt (pc + 3) st lv σ Q) : OkI B L d oc cd nL rt pc (.inl x :: st) lv σ Q := k_if hd ht h1 h2
theorem k_ifne {off x : Int} {t : Nat} (hd : decode cd pc = .ok (.ifCond .ne off, 3)) (ht : mjmp pc off = some t) (h1 : ¬ x = 0 → OkI B L d oc cd nL rt t st lv σ Q) (h2 : x = 0 → OkI B L d oc cd nL rt (pc + 3) st lv σ Q) : OkI B L d oc cd nL rt pc (.inl x :: st) lv σ Q := k_if hd ht h1 (fun z => h2 (Decidable.not_not.mp z))
theorem k_iflt {off x : Int} {t : Nat} (hd : decode cd pc = .ok (.ifCond .lt off, 3)) (ht : mjmp pc off = some t) (h1 : x < 0 → OkI B L d oc cd nL rt t st lv σ Q) (h2 : ¬ x < 0 → OkI B L d oc cd nL rt (pc + 3) st lv σ Q) : OkI B L d oc cd nL rt pc (.inl x :: st) lv σ Q := k_if hd ht h1 h2
theorem k_ifge {off x : Int} {t : Nat} (hd : decode cd pc = .ok (.ifCond .ge off, 3)) (ht : mjmp pc off = some t) (h1 : ¬ x < 0 → OkI B L d oc cd nL rt t st lv σ Q) (h2 : x < 0 → OkI B L d oc cd nL rt (pc + 3) st lv σ Q) : OkI B L d oc cd nL rt pc (.inl x :: st) lv σ Q := k_if hd ht h1 (fun z => h2 (Decidable.not_not.mp z))
theorem k_ifgt {off x : Int} {t : Nat} (hd : decode cd pc = .ok (.ifCond .gt off, 3)) (ht : mjmp pc off = some t) (h1 : 0 < x → OkI B L d oc cd nL rt t st lv σ Q) (h2 : ¬ 0 < x → OkI B L d oc cd nL rt (pc + 3) st lv σ Q) : OkI B L d oc cd nL rt pc (.inl x :: st) lv σ Q := k_if hd ht h1 h2
theorem k_ifle {off x : Int} {t : Nat} (hd : decode cd pc = .ok (.ifCond .le off, 3)) (ht : mjmp pc off = some t) (h1 : ¬ 0 < x → OkI B L d oc cd nL rt t st lv σ Q) (h2 : 0 < x → OkI B L d oc cd nL rt (pc + 3) st lv σ Q) : OkI B L d oc cd nL rt pc (.inl x :: st) lv σ Q := k_if hd ht h1 (fun z => h2 (Decidable.not_not.mp z))
theorem k_iceq {off x y : Int} {t : Nat} (hd : decode cd pc = .ok (.if_icmp .eq off, 3)) (ht : mjmp pc off = some t) (h1 : x = y → OkI B L d oc cd nL rt t st lv σ Q) (h2 : ¬ x = y → OkI B L d oc cd nL rt (pc + 3) st lv σ Q) : OkI B L d oc cd nL rt pc (.inl y :: .inl x :: st) lv σ Q := k_ic hd ht h1 h2
theorem k_icne {off x y : Int} {t : Nat} (hd : decode cd pc = .ok (.if_icmp .ne off, 3)) (ht : mjmp pc off = some t) (h1 : ¬ x = y → OkI B L d oc cd nL rt t st lv σ Q) (h2 : x = y → OkI B L d oc cd nL rt (pc + 3) st lv σ Q) : OkI B L d oc cd nL rt pc (.inl y :: .inl x :: st) lv σ Q := k_ic hd ht h1 (fun z => h2 (Decidable.not_not.mp z))
theorem k_iclt {off x y : Int} {t : Nat} (hd : decode cd pc = .ok (.if_icmp .lt off, 3)) (ht : mjmp pc off = some t) (h1 : x < y → OkI B L d oc cd nL rt t st lv σ Q) (h2 : ¬ x < y → OkI B L d oc cd nL rt (pc + 3) st lv σ Q) : OkI B L d oc cd nL rt pc (.inl y :: .inl x :: st) lv σ Q := k_ic hd ht h1 h2
theorem k_icge {off x y : Int} {t : Nat} (hd : decode cd pc = .ok (.if_icmp .ge off, 3)) (ht : mjmp pc off = some t) (h1 : ¬ x < y → OkI B L d oc cd nL rt t st lv σ Q) (h2 : x < y → OkI B L d oc cd nL rt (pc + 3) st lv σ Q) : OkI B L d oc cd nL rt pc (.inl y :: .inl x :: st) lv σ Q := k_ic hd ht h1 (fun z => h2 (Decidable.not_not.mp z))
theorem k_icgt {off x y : Int} {t : Nat} (hd : decode cd pc = .ok (.if_icmp .gt off, 3)) (ht : mjmp pc off = some t) (h1 : y < x → OkI B L d oc cd nL rt t st lv σ Q) (h2 : ¬ y < x → OkI B L d oc cd nL rt (pc + 3) st lv σ Q) : OkI B L d oc cd nL rt pc (.inl y :: .inl x :: st) lv σ Q := k_ic hd ht h1 h2
theorem k_icle {off x y : Int} {t : Nat} (hd : decode cd pc = .ok (.if_icmp .le off, 3)) (ht : mjmp pc off = some t) (h1 : ¬ y < x → OkI B L d oc cd nL rt t st lv σ Q) (h2 : y < x → OkI B L d oc cd nL rt (pc + 3) st lv σ Q) : OkI B L d oc cd nL rt pc (.inl y :: .inl x :: st) lv σ Q := k_ic hd ht h1 (fun z => h2 (Decidable.not_not.mp z))
theorem k_tsw {dflt lo hi x : Int} {offs : Array Int} {len t : Nat} {k : Int} (hd : decode cd pc = .ok (.tableswitch dflt lo hi offs, len)) (hx : x = k) (ht : (if k < lo ∨ hi < k then mjmp pc dflt else match offs[(k - lo).toNat]? with
        | some off => mjmp pc off
        | none => none) = some t) (h : OkI B L d oc cd nL rt t st lv σ Q) : OkI B L d oc cd nL rt pc (.inl x :: st) lv σ Q :=
  k_op hd rfl (Or.inr rfl) (fun a l τ ha hl hτ => by
    obtain ⟨v, b, rfl, hv, hb⟩ := mapI ha
    refine ⟨b, l, τ, ?_, hb, hl, hτ⟩
    unfold mop
    dsimp only
    rw [hv, hx]
    exact congrArg (Option.map (fun t => (t, b, l, τ))) ht) h
theorem k_tswd {dflt lo hi x : Int} {offs : Array Int} {len t : Nat} (hd : decode cd pc = .ok (.tableswitch dflt lo hi offs, len)) (hx : x < lo ∨ hi < x) (ht : mjmp pc dflt = some t) (h : OkI B L d oc cd nL rt t st lv σ Q) : OkI B L d oc cd nL rt pc (.inl x :: st) lv σ Q :=
  k_op hd rfl (Or.inr rfl) (fun a l τ ha hl hτ => by
    obtain ⟨v, b, rfl, hv, hb⟩ := mapI ha
    refine ⟨b, l, τ, ?_, hb, hl, hτ⟩
    unfold mop
    dsimp only
    rw [hv, if_pos hx, ht]
    rfl) h
/-! fields -/
def fkI (o f : Nat) : Bool := match (fkL o)[f]? with
  | some (.inl 2) => false
  | some (.inl _) => true
  | _ => false
theorem fkI_get {τ : MS} {o f : Nat} (h : fkI o f = true) : mget τ o f = some (.inl (τ.1 o f)) := by
  unfold fkI at h
  unfold mget
  split at h
  · cases h
  · rename_i c h2 h3
    rw [h3]
    split
    · rename_i h4; cases h4
    · rename_i h4; cases h4
    · rename_i h4; cases h4; exact absurd rfl h2
    · rfl
  · cases h
theorem k_getI {idx ci f o : Nat} {x : Int} (hd : decode cd pc = .ok (.getfield idx, 3)) (hf : mfl oc idx = some (ci, f)) (ho : inO B o ∧ kls o = ci) (hk : fkI o f = true) (hv : σ.1 o f = x) (h : OkI B L d oc cd nL rt (pc + 3) (.inl x :: st) lv σ Q) : OkI B L d oc cd nL rt pc (.inr o :: st) lv σ Q :=
  k_op hd rfl (Or.inl rfl) (fun a l τ ha hl hτ => by
    obtain ⟨b, rfl, hb⟩ := mapR ha
    refine ⟨.inl (τ.1 o f) :: b, l, τ, ?_, ?_, hl, hτ⟩
    · unfold mop
      dsimp only
      rw [hf]
      dsimp only
      rw [if_pos ho, fkI_get hk]
      rfl
    · rw [List.map_cons, hb, ← hv, ← hτ]
      rfl) h
theorem k_getR {idx ci f o r : Nat} (hd : decode cd pc = .ok (.getfield idx, 3)) (hf : mfl oc idx = some (ci, f)) (ho : inO B o ∧ kls o = ci) (hk : (fkL o)[f]? = some (.inr r)) (h : OkI B L d oc cd nL rt (pc + 3) (.inr r :: st) lv σ Q) : OkI B L d oc cd nL rt pc (.inr o :: st) lv σ Q :=
  k_op hd rfl (Or.inl rfl) (fun a l τ ha hl hτ => by
    obtain ⟨b, rfl, hb⟩ := mapR ha
    refine ⟨.inr r :: b, l, τ, ?_, ?_, hl, hτ⟩
    · unfold mop
      dsimp only
      rw [hf]
      dsimp only
      rw [if_pos ho]
      unfold mget
      rw [hk]
      rfl
    · rw [List.map_cons, hb]
      rfl) h
theorem k_getD {idx ci f o : Nat} {x : Int} (hd : decode cd pc = .ok (.getfield idx, 3)) (hf : mfl oc idx = some (ci, f)) (ho : inO B o ∧ kls o = ci) (hk : (fkL o)[f]? = some (.inl 2)) (hv : σ.1 o f = x) (hp : 0 ≤ x) (h : OkI B L d oc cd nL rt (pc + 3) (.inr (Int.toNat x) :: st) lv σ Q) : OkI B L d oc cd nL rt pc (.inr o :: st) lv σ Q :=
  k_op hd rfl (Or.inl rfl) (fun a l τ ha hl hτ => by
    obtain ⟨b, rfl, hb⟩ := mapR ha
    have e : (τ.1 o f).toInt = x := by rw [← hv, ← hτ]; rfl
    refine ⟨.inr (τ.1 o f).toNatClampNeg :: b, l, τ, ?_, ?_, hl, hτ⟩
    · unfold mop
      dsimp only
      rw [hf]
      dsimp only
      rw [if_pos ho]
      unfold mget
      rw [hk]
      try dsimp only
      rw [if_neg (fun z => by rw [z] at e; have : x = -1 := e.symm; omega)]
      rfl
    · rw [List.map_cons, hb]
      show (Sum.inr (τ.1 o f).toInt.toNat : IV) :: st = _
      rw [e]) h
theorem k_getD16 {idx ci f o : Nat} (hd : decode cd pc = .ok (.getfield idx, 3)) (hf : mfl oc idx = some (ci, f)) (ho : inO B o ∧ kls o = ci) (hk : (fkL o)[f]? = some (.inl 2)) (hv : σ.1 o f = 16) (h : OkI B L d oc cd nL rt (pc + 3) (.inr 16 :: st) lv σ Q) : OkI B L d oc cd nL rt pc (.inr o :: st) lv σ Q :=
  k_getD (x := 16) hd hf ho hk hv (by decide) h
theorem k_putI {idx ci f o : Nat} {x : Int} (hd : decode cd pc = .ok (.putfield idx, 3)) (hf : mfl oc idx = some (ci, f)) (ho : inO B o ∧ kls o = ci) (hk : (fkL o)[f]? = some (.inl 0)) (h : OkI B L d oc cd nL rt (pc + 3) st lv (pf σ o f x) Q) : OkI B L d oc cd nL rt pc (.inl x :: .inr o :: st) lv σ Q :=
  k_op hd rfl (Or.inl rfl) (fun a l τ ha hl hτ => by
    obtain ⟨v, b, rfl, hx, hb⟩ := mapI ha
    obtain ⟨b2, rfl, hb2⟩ := mapR hb
    refine ⟨b2, l, (ud τ.1 o f v, τ.2), ?_, hb2, hl, ?_⟩
    · unfold mop
      dsimp only
      rw [hf]
      dsimp only
      rw [if_pos ho]
      unfold mput
      rw [hk]
      rfl
    · rw [iS_f, hτ, hx]) h
theorem mput_z {τ : MS} {o f : Nat} {x : Int32} (hk : (fkL o)[f]? = some (.inl 1)) (h : x = 0 ∨ x = 1) : mput τ o f (.inl x) = some (ud τ.1 o f x, τ.2) := by
  unfold mput
  rw [hk]
  exact if_pos h
theorem mput_d {τ : MS} {o f r : Nat} (hk : (fkL o)[f]? = some (.inl 2)) (h : r < 1000) : mput τ o f (.inr r) = some (ud τ.1 o f (nI r), τ.2) := by
  unfold mput
  rw [hk]
  exact if_pos h
theorem k_putZ {idx ci f o : Nat} {x : Int} (hd : decode cd pc = .ok (.putfield idx, 3)) (hf : mfl oc idx = some (ci, f)) (ho : inO B o ∧ kls o = ci) (hk : (fkL o)[f]? = some (.inl 1)) (h01 : is01 x) (h : OkI B L d oc cd nL rt (pc + 3) st lv (pf σ o f x) Q) : OkI B L d oc cd nL rt pc (.inl x :: .inr o :: st) lv σ Q :=
  k_op hd rfl (Or.inl rfl) (fun a l τ ha hl hτ => by
    obtain ⟨v, b, rfl, hx, hb⟩ := mapI ha
    obtain ⟨b2, rfl, hb2⟩ := mapR hb
    refine ⟨b2, l, (ud τ.1 o f v, τ.2), ?_, hb2, hl, ?_⟩
    · unfold mop
      dsimp only
      rw [hf]
      dsimp only
      rw [if_pos ho, mput_z hk (h01.imp (fun e => Int32.toInt_inj.mp (by rw [hx, e]; rfl)) (fun e => Int32.toInt_inj.mp (by rw [hx, e]; rfl)))]
      rfl
    · rw [iS_f, hτ, hx]) h
theorem k_putD {idx ci f o r : Nat} (hd : decode cd pc = .ok (.putfield idx, 3)) (hf : mfl oc idx = some (ci, f)) (ho : inO B o ∧ kls o = ci) (hk : (fkL o)[f]? = some (.inl 2)) (hr : r < 1000) (h : OkI B L d oc cd nL rt (pc + 3) st lv (pf σ o f (r : Int)) Q) : OkI B L d oc cd nL rt pc (.inr r :: .inr o :: st) lv σ Q :=
  k_op hd rfl (Or.inl rfl) (fun a l τ ha hl hτ => by
    obtain ⟨b, rfl, hb⟩ := mapR ha
    obtain ⟨b2, rfl, hb2⟩ := mapR hb
    refine ⟨b2, l, (ud τ.1 o f (nI r), τ.2), ?_, hb2, hl, ?_⟩
    · unfold mop
      dsimp only
      rw [hf]
      dsimp only
      rw [if_pos ho, mput_d hk hr]
      rfl
    · rw [iS_f, hτ, nI_i (by omega)]) h
theorem k_getS {idx v : Nat} (hd : decode cd pc = .ok (.getstatic idx, 3)) (hf : mss oc idx = some v) (h : OkI B L d oc cd nL rt (pc + 3) (.inr v :: st) lv σ Q) : OkI B L d oc cd nL rt pc st lv σ Q :=
  k_op hd rfl (Or.inl rfl) (fun a l τ ha hl hτ => ⟨.inr v :: a, l, τ, by unfold mop; dsimp only; rw [hf]; rfl, by rw [List.map_cons, ha]; rfl, hl, hτ⟩) h
/-! rows -/
abbrev rwI (B : MB) (r : Nat) : Prop := inQ B r ∧ rk (r - 100) = 0
abbrev rwB (B : MB) (r : Nat) : Prop := inQ B r ∧ rk (r - 100) ≠ 0
abbrev rwk (B : MB) (k r : Nat) : Prop := inQ B r ∧ rk (r - 100) = k
theorem Q100 {B : MB} {r : Nat} (h : inQ B r) : 100 ≤ r := by have := h.1; omega
theorem Q248 {B : MB} {r : Nat} (h : inQ B r) : r < 248 := h.2.2
theorem LN_at {L : Nat → Nat} {r : Nat} (h : 100 ≤ r) : LNf L (r - 100) = L r := by unfold LNf; rw [show 100 + (r - 100) = r by omega]
theorem mn_ok {v : Int32} {x : Int} {n : Nat} (hx : v.toInt = x) (h : 0 ≤ x ∧ x < (n : Int)) : min? v n = true := by
  unfold min?
  apply decide_eq_true
  rintro (z | z)
  · have := Int32.lt_iff_toInt_lt.mp z
    rw [hx] at this
    have : x < 0 := this
    omega
  · have : n ≤ v.toInt.toNat := z
    rw [hx] at this
    omega
theorem x_ld {b : Bool} {r : Nat} {i : Int} (hr : inQ B r ∧ (b = true ↔ rk (r - 100) ≠ 0)) (hi : inL L r i) {τ : MS} (hτ : iS τ = σ) {v : Int32} (hv : v.toInt = i) : ∃ u, mld B (LNf L) τ b r v = some u ∧ u.toInt = σ.2 r i.toNat := by
  refine ⟨τ.2 (r - 100) v.toNatClampNeg, ?_, ?_⟩
  · unfold mld
    rw [if_pos (by have := Q248 hr.1; omega), if_pos ⟨hr.1, hr.2, mn_ok hv (by rw [LN_at (Q100 hr.1)]; exact hi)⟩]
  · rw [← hτ, iS_hi (Q100 hr.1)]
    show _ = (τ.2 (r - 100) i.toNat).toInt
    rw [← hv]
    rfl
theorem k_ild {r : Nat} {i x : Int} (hd : decode cd pc = .ok (.iaload, 1)) (hr : rwI B r) (hi : inL L r i) (hv : σ.2 r (Int.toNat i) = x) (h : OkI B L d oc cd nL rt (pc + 1) (.inl x :: st) lv σ Q) : OkI B L d oc cd nL rt pc (.inl i :: .inr r :: st) lv σ Q :=
  k_op hd rfl (Or.inl rfl) (fun a l τ ha hl hτ => by
    obtain ⟨v, b, rfl, hx, hb⟩ := mapI ha
    obtain ⟨b2, rfl, hb2⟩ := mapR hb
    obtain ⟨u, h1, h2⟩ := x_ld (b := false) ⟨hr.1, by simp [hr.2]⟩ hi hτ hx
    refine ⟨.inl u :: b2, l, τ, by unfold mop; dsimp only; rw [h1]; rfl, ?_, hl, hτ⟩
    rw [List.map_cons, hb2]
    exact congrArg (fun z => (.inl z : IV) :: st) (h2.trans hv)) h
theorem k_bld {r : Nat} {i x : Int} (hd : decode cd pc = .ok (.baload, 1)) (hr : rwB B r) (hi : inL L r i) (hv : σ.2 r (Int.toNat i) = x) (h : OkI B L d oc cd nL rt (pc + 1) (.inl x :: st) lv σ Q) : OkI B L d oc cd nL rt pc (.inl i :: .inr r :: st) lv σ Q :=
  k_op hd rfl (Or.inl rfl) (fun a l τ ha hl hτ => by
    obtain ⟨v, b, rfl, hx, hb⟩ := mapI ha
    obtain ⟨b2, rfl, hb2⟩ := mapR hb
    obtain ⟨u, h1, h2⟩ := x_ld (b := true) ⟨hr.1, by simp [hr.2]⟩ hi hτ hx
    refine ⟨.inl u :: b2, l, τ, by unfold mop; dsimp only; rw [h1]; rfl, ?_, hl, hτ⟩
    rw [List.map_cons, hb2]
    exact congrArg (fun z => (.inl z : IV) :: st) (h2.trans hv)) h
def srI (r : Nat) (i : Int) : Int := (((srow r).getD []).getD i.toNat 0).toInt
def srN (r : Nat) : Int := (((srow r).getD []).length : Int)
theorem k_ldS {r : Nat} {i : Int} (hd : decode cd pc = .ok (.iaload, 1)) (hr : 2000 ≤ r ∧ (srow r).isSome = true) (hi : 0 ≤ i ∧ i < srN r) (h : OkI B L d oc cd nL rt (pc + 1) (.inl (srI r i) :: st) lv σ Q) : OkI B L d oc cd nL rt pc (.inl i :: .inr r :: st) lv σ Q :=
  k_op hd rfl (Or.inl rfl) (fun a l τ ha hl hτ => by
    obtain ⟨v, b, rfl, hx, hb⟩ := mapI ha
    obtain ⟨b2, rfl, hb2⟩ := mapR hb
    obtain ⟨q, hq⟩ := Option.isSome_iff_exists.mp hr.2
    unfold srN at hi
    unfold srI
    rw [hq] at hi ⊢
    refine ⟨.inl (q.getD v.toNatClampNeg 0) :: b2, l, τ, ?_, ?_, hl, hτ⟩
    · unfold mop
      dsimp only
      unfold mld
      rw [if_neg (by omega), hq]
      dsimp only
      rw [if_pos ⟨rfl, mn_ok hx hi⟩]
      rfl
    · rw [List.map_cons, hb2, ← hx]
      rfl) h
theorem x_st {b : Bool} {r : Nat} {i x y : Int} (hr : inQ B r ∧ (b = true ↔ rk (r - 100) ≠ 0)) (hi : inL L r i) {τ : MS} (hτ : iS τ = σ) {v w : Int32} (hv : v.toInt = i) (hw : (mnar (rk (r - 100)) w).toInt = y) : ∃ τ2, msto B (LNf L) τ b r v w = some τ2 ∧ iS τ2 = pr σ r i.toNat y := by
  refine ⟨(τ.1, ud τ.2 (r - 100) v.toNatClampNeg (mnar (rk (r - 100)) w)), ?_, ?_⟩
  · unfold msto
    rw [if_pos ⟨hr.1, hr.2, mn_ok hv (by rw [LN_at (Q100 hr.1)]; exact hi)⟩]
  · rw [iS_r (Q100 hr.1), hτ, hw, ← hv]
    rfl
theorem k_ist {r : Nat} {i x : Int} (hd : decode cd pc = .ok (.iastore, 1)) (hr : rwI B r) (hi : inL L r i) (h : OkI B L d oc cd nL rt (pc + 1) st lv (pr σ r i.toNat x) Q) : OkI B L d oc cd nL rt pc (.inl x :: .inl i :: .inr r :: st) lv σ Q :=
  k_op hd rfl (Or.inl rfl) (fun a l τ ha hl hτ => by
    obtain ⟨w, b, rfl, hw, hb⟩ := mapI ha
    obtain ⟨v, b1, rfl, hx, hb1⟩ := mapI hb
    obtain ⟨b2, rfl, hb2⟩ := mapR hb1
    obtain ⟨u, h1, h2⟩ := x_st (x := x) (y := x) (b := false) (w := w) ⟨hr.1, by simp [hr.2]⟩ hi hτ hx (by rw [hr.2]; exact hw)
    exact ⟨b2, l, u, by unfold mop; dsimp only; rw [h1]; rfl, hb2, hl, h2⟩) h
theorem nar_b {w : Int32} {x : Int} (hw : w.toInt = x) (hx : inB x) : (vp_nar .byte w).toInt = x := by
  show w.toInt8.toInt32.toInt = x
  rw [Int8.toInt_toInt32, Int32.toInt_toInt8, hw]
  have h1 := hx.1
  have h2 := hx.2
  apply Int.bmod_eq_of_le <;> omega
theorem nar_z {w : Int32} {x : Int} (hw : w.toInt = x) (hx : is01 x) : (vp_nar .boolean w).toInt = x := by
  rcases hx with e | e
  · have : w = 0 := Int32.toInt_inj.mp (by rw [hw, e]; rfl)
    subst this
    rw [e]
    decide
  · have : w = 1 := Int32.toInt_inj.mp (by rw [hw, e]; rfl)
    subst this
    rw [e]
    decide
theorem k_bst {r : Nat} {i x : Int} (hd : decode cd pc = .ok (.bastore, 1)) (hr : rwk B 1 r) (hi : inL L r i) (hx : inB x) (h : OkI B L d oc cd nL rt (pc + 1) st lv (pr σ r i.toNat x) Q) : OkI B L d oc cd nL rt pc (.inl x :: .inl i :: .inr r :: st) lv σ Q :=
  k_op hd rfl (Or.inl rfl) (fun a l τ ha hl hτ => by
    obtain ⟨w, b, rfl, hw, hb⟩ := mapI ha
    obtain ⟨v, b1, rfl, hv, hb1⟩ := mapI hb
    obtain ⟨b2, rfl, hb2⟩ := mapR hb1
    obtain ⟨u, h1, h2⟩ := x_st (x := x) (y := x) (b := true) (w := w) ⟨hr.1, by simp [hr.2]⟩ hi hτ hv (by rw [hr.2]; exact nar_b hw hx)
    exact ⟨b2, l, u, by unfold mop; dsimp only; rw [h1]; rfl, hb2, hl, h2⟩) h
theorem k_zst {r : Nat} {i x : Int} (hd : decode cd pc = .ok (.bastore, 1)) (hr : rwk B 2 r) (hi : inL L r i) (hx : is01 x) (h : OkI B L d oc cd nL rt (pc + 1) st lv (pr σ r i.toNat x) Q) : OkI B L d oc cd nL rt pc (.inl x :: .inl i :: .inr r :: st) lv σ Q :=
  k_op hd rfl (Or.inl rfl) (fun a l τ ha hl hτ => by
    obtain ⟨w, b, rfl, hw, hb⟩ := mapI ha
    obtain ⟨v, b1, rfl, hv, hb1⟩ := mapI hb
    obtain ⟨b2, rfl, hb2⟩ := mapR hb1
    obtain ⟨u, h1, h2⟩ := x_st (x := x) (y := x) (b := true) (w := w) ⟨hr.1, by simp [hr.2]⟩ hi hτ hv (by rw [hr.2]; exact nar_z hw hx)
    exact ⟨b2, l, u, by unfold mop; dsimp only; rw [h1]; rfl, hb2, hl, h2⟩) h
theorem k_len {r : Nat} (hd : decode cd pc = .ok (.arraylength, 1)) (hr : inQ B r) (hL : L r < 2147483648) (h : OkI B L d oc cd nL rt (pc + 1) (.inl (L r : Int) :: st) lv σ Q) : OkI B L d oc cd nL rt pc (.inr r :: st) lv σ Q :=
  k_op hd rfl (Or.inl rfl) (fun a l τ ha hl hτ => by
    obtain ⟨b, rfl, hb⟩ := mapR ha
    refine ⟨.inl (nI (LNf L (r - 100))) :: b, l, τ, by unfold mop; dsimp only; unfold mlen; rw [if_pos hr]; rfl, ?_, hl, hτ⟩
    rw [List.map_cons, hb, LN_at (Q100 hr)]
    exact congrArg (fun z => (.inl z : IV) :: st) (nI_i hL)) h
theorem k_lenS {r : Nat} (hd : decode cd pc = .ok (.arraylength, 1)) (hr : 2000 ≤ r) (hs : (srow r).isSome = true) (hL : srN r < 2147483648) (h : OkI B L d oc cd nL rt (pc + 1) (.inl (srN r) :: st) lv σ Q) : OkI B L d oc cd nL rt pc (.inr r :: st) lv σ Q :=
  k_op hd rfl (Or.inl rfl) (fun a l τ ha hl hτ => by
    obtain ⟨b, rfl, hb⟩ := mapR ha
    obtain ⟨q, hq⟩ := Option.isSome_iff_exists.mp hs
    unfold srN at hL ⊢
    rw [hq] at hL ⊢
    refine ⟨.inl (nI q.length) :: b, l, τ, by unfold mop; dsimp only; unfold mlen; rw [if_neg (fun z => by have := Q248 z; omega), hq]; rfl, ?_, hl, hτ⟩
    rw [List.map_cons, hb]
    exact congrArg (fun z => (.inl z : IV) :: st) (nI_i (by have hL' : (q.length : Int) < 2147483648 := hL; omega))) h
/-! calls and returns -/
theorem k_ret {Q : IS → Prop} (hd : decode cd pc = .ok (.return_, 1)) (h : Q σ) : OkI B L d oc cd nL 0 pc [] lv σ (qv Q) := by
  intro a l τ ha hl hτ
  refine ⟨1, none, τ, fun n hn => ?_, rfl, by rw [hτ]; exact h⟩
  obtain ⟨k, rfl⟩ : ∃ k, n = k + 1 := ⟨n - 1, by omega⟩
  unfold mrun
  rw [hd]
  dsimp only
  rw [if_pos ⟨rfl, rfl, List.map_eq_nil_iff.mp ha⟩]
theorem k_iret {Q : Int → IS → Prop} {x : Int} (hd : decode cd pc = .ok (.ireturn, 1)) (hx : rt = 1 ∨ rt = 2 ∧ is01 x) (h : Q x σ) : OkI B L d oc cd nL rt pc [.inl x] lv σ (qi Q) := by
  intro a l τ ha hl hτ
  obtain ⟨v, b, rfl, hv, hb⟩ := mapI ha
  have hb := List.map_eq_nil_iff.mp hb
  subst hb
  refine ⟨1, some v, τ, fun n hn => ?_, x, by rw [← hv]; rfl, by rw [hτ]; exact h⟩
  obtain ⟨k, rfl⟩ : ∃ k, n = k + 1 := ⟨n - 1, by omega⟩
  unfold mrun
  rw [hd]
  dsimp only
  rw [if_pos ⟨rfl, hx.imp id (fun z => ⟨z.1, z.2.imp (fun e => Int32.toInt_inj.mp (by rw [hv, e]; rfl)) (fun e => Int32.toInt_inj.mp (by rw [hv, e]; rfl))⟩)⟩]
theorem mrun_cv {B : MB} {ln : Nat → Nat} {n d oc idx : Nat} {cd : ByteArray} {nL rt pc : Nat} {a rest : List MV} {l : List (Nat × MV)} {τ τ2 : MS} {y : MethodName} {cd' : ByteArray} {nL' na rt' oc' o : Nat} {r : Option Int32} {z : Option Int32 × MS} (hd : decode cd pc = .ok (.invokevirtual idx, 3)) (h13 : a.length ≤ 13) (hm : mlk oc idx = some (0, y, cd', nL', na, rt', oc')) (hdr : a.drop na = .inr o :: rest) (ho : inO B o ∧ kls o = oc' ∧ rest.length ≤ 8) (hc : mrun B ln n d oc' cd' nL' rt' 0 [] (mlv 0 (.inr o :: (a.take na).reverse)) τ = some (r, τ2)) (hk : mrun B ln n (d + 1) oc cd nL rt (pc + 3) (mres r rest) l τ2 = some z) : mrun B ln (n + 1) (d + 1) oc cd nL rt pc a l τ = some z := by
  unfold mrun
  rw [hd]
  dsimp only
  rw [if_pos ⟨rfl, h13⟩, hm]
  dsimp only
  rw [if_pos rfl, hdr]
  dsimp only
  rw [if_pos ho, hc]
  exact hk
theorem mrun_cs {B : MB} {ln : Nat → Nat} {n d oc idx : Nat} {cd : ByteArray} {nL rt pc : Nat} {a : List MV} {l : List (Nat × MV)} {τ τ2 : MS} {y : MethodName} {cd' : ByteArray} {kd nL' na rt' oc' : Nat} {r : Option Int32} {z : Option Int32 × MS} (hd : decode cd pc = .ok (.invokestatic idx, 3)) (h13 : a.length ≤ 13) (hm : mlk oc idx = some (kd, y, cd', nL', na, rt', oc')) (hkd : kd = 1 ∨ kd = 2) (ho : na ≤ a.length ∧ (a.drop na).length ≤ 8) (hc : mrun B ln n d oc' cd' nL' rt' 0 [] (mlv 0 (a.take na).reverse) τ = some (r, τ2)) (hk : mrun B ln n (d + 1) oc cd nL rt (pc + 3) (mres r (a.drop na)) l τ2 = some z) : mrun B ln (n + 1) (d + 1) oc cd nL rt pc a l τ = some z := by
  unfold mrun
  rw [hd]
  dsimp only
  rw [if_pos ⟨rfl, h13⟩, hm]
  dsimp only
  rw [if_pos hkd, if_pos ho, hc]
  exact hk
theorem ap_split {a : List MV} {as st : List IV} (h : a.map iv = as.reverse ++ st) : ((a.take as.length).reverse).map iv = as ∧ (a.drop as.length).map iv = st := by
  constructor
  · rw [List.map_reverse, List.map_take, h, List.take_append_of_le_length (by simp), List.take_of_length_le (by simp), List.reverse_reverse]
  · rw [List.map_drop, h, List.drop_append_of_le_length (by simp), List.drop_of_length_le (by simp), List.nil_append]
theorem k_cv {idx o : Nat} {y : MethodName} {cd' : ByteArray} {nL' na rt' oc' : Nat} {rest : List IV} {Q' : Option Int → IS → Prop} (as : List IV) (hd : decode cd pc = .ok (.invokevirtual idx, 3)) (hm : mlk oc idx = some (0, y, cd', nL', na, rt', oc')) (hst : st = as.reverse ++ (.inr o :: rest)) (hna : as.length = na) (ho : inO B o ∧ kls o = oc') (hl : (Nat.ble st.length 13 && Nat.ble rest.length 8) = true) (hc : OkI B L d oc' cd' nL' rt' 0 [] ((.inr o :: as).map some) σ Q') (kk : ∀ (r : Option Int) (σ1 : IS), Q' r σ1 → ∀ w : Option Int32, w.map Int32.toInt = r → ∀ b : List MV, b.map iv = rest → OkI B L (d + 1) oc cd nL rt (pc + 3) ((mres w b).map iv) lv σ1 Q) : OkI B L (d + 1) oc cd nL rt pc st lv σ Q := by
  intro a l τ ha hlr hτ
  rw [Bool.and_eq_true] at hl
  have h13 := Nat.le_of_ble_eq_true hl.1
  have h8 := Nat.le_of_ble_eq_true hl.2
  have hal : a.length = st.length := by rw [← ha, List.length_map]
  rw [hst] at ha
  obtain ⟨h1, h2⟩ := ap_split ha
  obtain ⟨b, hb, hb2⟩ := mapR h2
  rw [hna] at h1 hb
  obtain ⟨n1, r1, τ1, hr1, hq1⟩ := hc [] (mlv 0 (.inr o :: (a.take na).reverse)) τ rfl (by have e := LR_args (.inr o :: (a.take na).reverse); rw [List.map_cons, h1] at e; exact e) hτ
  obtain ⟨n2, r2, τ2, hr2, hq2⟩ := kk _ _ hq1 r1 rfl b hb2 (mres r1 b) l τ1 rfl hlr rfl
  refine ⟨max n1 n2 + 1, r2, τ2, fun n hn => ?_, hq2⟩
  obtain ⟨k, rfl⟩ : ∃ k, n = k + 1 := ⟨n - 1, by omega⟩
  exact mrun_cv hd (by omega) hm hb ⟨ho.1, ho.2, by rw [← List.length_map (f := iv), hb2]; exact h8⟩ (hr1 k (by omega)) (hr2 k (by omega))
theorem k_cs {idx : Nat} {y : MethodName} {cd' : ByteArray} {kd nL' na rt' oc' : Nat} {rest : List IV} {Q' : Option Int → IS → Prop} (as : List IV) (hd : decode cd pc = .ok (.invokestatic idx, 3)) (hm : mlk oc idx = some (kd, y, cd', nL', na, rt', oc')) (hkd : kd = 1 ∨ kd = 2) (hst : st = as.reverse ++ rest) (hna : as.length = na) (hl : (Nat.ble st.length 13 && Nat.ble rest.length 8) = true) (hc : OkI B L d oc' cd' nL' rt' 0 [] (as.map some) σ Q') (kk : ∀ (r : Option Int) (σ1 : IS), Q' r σ1 → ∀ w : Option Int32, w.map Int32.toInt = r → ∀ b : List MV, b.map iv = rest → OkI B L (d + 1) oc cd nL rt (pc + 3) ((mres w b).map iv) lv σ1 Q) : OkI B L (d + 1) oc cd nL rt pc st lv σ Q := by
  intro a l τ ha hlr hτ
  rw [Bool.and_eq_true] at hl
  have h13 := Nat.le_of_ble_eq_true hl.1
  have h8 := Nat.le_of_ble_eq_true hl.2
  have hal : a.length = st.length := by rw [← ha, List.length_map]
  have hsl : st.length = as.length + rest.length := by rw [hst]; simp
  rw [hst] at ha
  obtain ⟨h1, h2⟩ := ap_split ha
  rw [hna] at h1 h2
  obtain ⟨n1, r1, τ1, hr1, hq1⟩ := hc [] (mlv 0 (a.take na).reverse) τ rfl (by have e := LR_args (a.take na).reverse; rw [h1] at e; exact e) hτ
  obtain ⟨n2, r2, τ2, hr2, hq2⟩ := kk _ _ hq1 r1 rfl _ h2 (mres r1 (a.drop na)) l τ1 rfl hlr rfl
  refine ⟨max n1 n2 + 1, r2, τ2, fun n hn => ?_, hq2⟩
  obtain ⟨k, rfl⟩ : ∃ k, n = k + 1 := ⟨n - 1, by omega⟩
  exact mrun_cs hd (by omega) hm hkd ⟨by omega, by rw [← List.length_map (f := iv), h2]; exact h8⟩ (hr1 k (by omega)) (hr2 k (by omega))
theorem re_v {w : Option Int32} {r : Option Int} {b : List MV} {rest : List IV} (hw : w.map Int32.toInt = r) (hr : r = none) (hb : b.map iv = rest) : (mres w b).map iv = rest := by
  subst hr
  cases w with
  | none => exact hb
  | some v => cases hw
theorem re_i {w : Option Int32} {r : Option Int} {v : Int} {b : List MV} {rest : List IV} (hw : w.map Int32.toInt = r) (hr : r = some v) (hb : b.map iv = rest) : (mres w b).map iv = .inl v :: rest := by
  subst hr
  cases w with
  | none => cases hw
  | some u =>
    have e : u.toInt = v := Option.some.inj hw
    show (.inl u.toInt : IV) :: b.map iv = _
    rw [e, hb]
theorem k_cvv {idx o : Nat} {y : MethodName} {cd' : ByteArray} {nL' na oc' : Nat} {rest : List IV} {Q' : IS → Prop} (as : List IV) (hd : decode cd pc = .ok (.invokevirtual idx, 3)) (hm : mlk oc idx = some (0, y, cd', nL', na, 0, oc')) (hst : st = as.reverse ++ (.inr o :: rest)) (hna : as.length = na) (ho : inO B o ∧ kls o = oc') (hl : (Nat.ble st.length 13 && Nat.ble rest.length 8) = true) (hc : OkI B L d oc' cd' nL' 0 0 [] ((.inr o :: as).map some) σ (qv Q')) (kk : ∀ σ1 : IS, Q' σ1 → OkI B L (d + 1) oc cd nL rt (pc + 3) rest lv σ1 Q) : OkI B L (d + 1) oc cd nL rt pc st lv σ Q :=
  k_cv as hd hm hst hna ho hl hc (fun r σ1 h w hw b hb => by rw [re_v hw h.1 hb]; exact kk σ1 h.2)
theorem k_cvi {idx o : Nat} {y : MethodName} {cd' : ByteArray} {nL' na rt' oc' : Nat} {rest : List IV} {Q' : Int → IS → Prop} (as : List IV) (hd : decode cd pc = .ok (.invokevirtual idx, 3)) (hm : mlk oc idx = some (0, y, cd', nL', na, rt', oc')) (hst : st = as.reverse ++ (.inr o :: rest)) (hna : as.length = na) (ho : inO B o ∧ kls o = oc') (hl : (Nat.ble st.length 13 && Nat.ble rest.length 8) = true) (hc : OkI B L d oc' cd' nL' rt' 0 [] ((.inr o :: as).map some) σ (qi Q')) (kk : ∀ (v : Int) (σ1 : IS), Q' v σ1 → OkI B L (d + 1) oc cd nL rt (pc + 3) (.inl v :: rest) lv σ1 Q) : OkI B L (d + 1) oc cd nL rt pc st lv σ Q :=
  k_cv as hd hm hst hna ho hl hc (fun r σ1 h w hw b hb => by obtain ⟨v, hv, hq⟩ := h; rw [re_i hw hv hb]; exact kk v σ1 hq)
theorem k_csv {idx : Nat} {y : MethodName} {cd' : ByteArray} {kd nL' na oc' : Nat} {rest : List IV} {Q' : IS → Prop} (as : List IV) (hd : decode cd pc = .ok (.invokestatic idx, 3)) (hm : mlk oc idx = some (kd, y, cd', nL', na, 0, oc')) (hkd : kd = 1 ∨ kd = 2) (hst : st = as.reverse ++ rest) (hna : as.length = na) (hl : (Nat.ble st.length 13 && Nat.ble rest.length 8) = true) (hc : OkI B L d oc' cd' nL' 0 0 [] (as.map some) σ (qv Q')) (kk : ∀ σ1 : IS, Q' σ1 → OkI B L (d + 1) oc cd nL rt (pc + 3) rest lv σ1 Q) : OkI B L (d + 1) oc cd nL rt pc st lv σ Q :=
  k_cs as hd hm hkd hst hna hl hc (fun r σ1 h w hw b hb => by rw [re_v hw h.1 hb]; exact kk σ1 h.2)
theorem k_csi {idx : Nat} {y : MethodName} {cd' : ByteArray} {kd nL' na rt' oc' : Nat} {rest : List IV} {Q' : Int → IS → Prop} (as : List IV) (hd : decode cd pc = .ok (.invokestatic idx, 3)) (hm : mlk oc idx = some (kd, y, cd', nL', na, rt', oc')) (hkd : kd = 1 ∨ kd = 2) (hst : st = as.reverse ++ rest) (hna : as.length = na) (hl : (Nat.ble st.length 13 && Nat.ble rest.length 8) = true) (hc : OkI B L d oc' cd' nL' rt' 0 [] (as.map some) σ (qi Q')) (kk : ∀ (v : Int) (σ1 : IS), Q' v σ1 → OkI B L (d + 1) oc cd nL rt (pc + 3) (.inl v :: rest) lv σ1 Q) : OkI B L (d + 1) oc cd nL rt pc st lv σ Q :=
  k_cs as hd hm hkd hst hna hl hc (fun r σ1 h w hw b hb => by obtain ⟨v, hv, hq⟩ := h; rw [re_i hw hv hb]; exact kk v σ1 hq)
/-! the JDK's members -/
theorem mrun_jv {B : MB} {ln : Nat → Nat} {n d oc idx : Nat} {cd : ByteArray} {nL rt pc : Nat} {a a2 : List MV} {l : List (Nat × MV)} {τ τ2 : MS} {kd : Nat} {q : MethodName × ByteArray × Nat × Nat × Nat × Nat} {z : Option Int32 × MS} (hd : decode cd pc = .ok (.invokevirtual idx, 3)) (hm : mlk oc idx = some (kd, q)) (hkd : 10 ≤ kd ∧ kd ≤ 12 ∧ a.length ≤ 8) (hc : mint B ln kd a τ = some (a2, τ2)) (hk : mrun B ln n d oc cd nL rt (pc + 3) a2 l τ2 = some z) : mrun B ln (n + 1) d oc cd nL rt pc a l τ = some z := by
  unfold mrun
  rw [hd]
  dsimp only
  obtain ⟨q1, q2, q3, q4, q5, q6⟩ := q
  rw [if_pos ⟨rfl, by omega⟩, hm]
  dsimp only
  rw [if_neg (by omega), if_pos hkd, hc]
  exact hk
theorem mrun_js {B : MB} {ln : Nat → Nat} {n d oc idx : Nat} {cd : ByteArray} {nL rt pc : Nat} {a a2 : List MV} {l : List (Nat × MV)} {τ τ2 : MS} {kd : Nat} {q : MethodName × ByteArray × Nat × Nat × Nat × Nat} {z : Option Int32 × MS} (hd : decode cd pc = .ok (.invokestatic idx, 3)) (hm : mlk oc idx = some (kd, q)) (hkd : 13 ≤ kd ∧ a.length ≤ 8) (hc : mint B ln kd a τ = some (a2, τ2)) (hk : mrun B ln n d oc cd nL rt (pc + 3) a2 l τ2 = some z) : mrun B ln (n + 1) d oc cd nL rt pc a l τ = some z := by
  unfold mrun
  rw [hd]
  dsimp only
  obtain ⟨q1, q2, q3, q4, q5, q6⟩ := q
  rw [if_pos ⟨rfl, by omega⟩, hm]
  dsimp only
  rw [if_neg (by omega), if_pos hkd, hc]
  exact hk
theorem k_jv {idx kd : Nat} {q : MethodName × ByteArray × Nat × Nat × Nat × Nat} {st2 : List IV} {σ2 : IS} (hd : decode cd pc = .ok (.invokevirtual idx, 3)) (hm : mlk oc idx = some (kd, q)) (hkd : 10 ≤ kd ∧ kd ≤ 12) (hl : Nat.ble st.length 8 = true) (hi : ∀ (a : List MV) (τ : MS), a.map iv = st → iS τ = σ → ∃ a2 τ2, mint B (LNf L) kd a τ = some (a2, τ2) ∧ a2.map iv = st2 ∧ iS τ2 = σ2) (h : OkI B L d oc cd nL rt (pc + 3) st2 lv σ2 Q) : OkI B L d oc cd nL rt pc st lv σ Q := by
  intro a l τ ha hlr hτ
  obtain ⟨a2, τ2, e, h1, h2⟩ := hi a τ ha hτ
  obtain ⟨n0, r, τ', hr, hq⟩ := h a2 l τ2 h1 hlr h2
  have h8 := Nat.le_of_ble_eq_true hl
  have hal : a.length = st.length := by rw [← ha, List.length_map]
  refine ⟨n0 + 1, r, τ', fun n hn => ?_, hq⟩
  obtain ⟨k, rfl⟩ : ∃ k, n = k + 1 := ⟨n - 1, by omega⟩
  exact mrun_jv hd hm ⟨hkd.1, hkd.2, by omega⟩ e (hr k (by omega))
theorem k_js {idx kd : Nat} {q : MethodName × ByteArray × Nat × Nat × Nat × Nat} {st2 : List IV} {σ2 : IS} (hd : decode cd pc = .ok (.invokestatic idx, 3)) (hm : mlk oc idx = some (kd, q)) (hkd : 13 ≤ kd) (hl : Nat.ble st.length 8 = true) (hi : ∀ (a : List MV) (τ : MS), a.map iv = st → iS τ = σ → ∃ a2 τ2, mint B (LNf L) kd a τ = some (a2, τ2) ∧ a2.map iv = st2 ∧ iS τ2 = σ2) (h : OkI B L d oc cd nL rt (pc + 3) st2 lv σ2 Q) : OkI B L d oc cd nL rt pc st lv σ Q := by
  intro a l τ ha hlr hτ
  obtain ⟨a2, τ2, e, h1, h2⟩ := hi a τ ha hτ
  obtain ⟨n0, r, τ', hr, hq⟩ := h a2 l τ2 h1 hlr h2
  have h8 := Nat.le_of_ble_eq_true hl
  have hal : a.length = st.length := by rw [← ha, List.length_map]
  refine ⟨n0 + 1, r, τ', fun n hn => ?_, hq⟩
  obtain ⟨k, rfl⟩ : ∃ k, n = k + 1 := ⟨n - 1, by omega⟩
  exact mrun_js hd hm ⟨hkd, by omega⟩ e (hr k (by omega))
def tx (s : Nat) : List Int32 := (stx s).getD []
def tN (s : Nat) : Int := ((tx s).length : Int)
def tC (s : Nat) (i : Int) : Int := ((tx s).getD i.toNat 0).toInt
def tF (s : Nat) (c : Int) : Int := match (tx s).findIdx? (fun b => b == Int32.ofInt c) with
  | some k => (k : Int)
  | none => -1
abbrev isT (s : Nat) : Prop := (stx s).isSome = true
theorem txT_len : ∀ q ∈ stxT, q.length < 1000 := by decide +kernel
theorem tx_len (s : Nat) : (tx s).length < 1000 := by
  unfold tx stx
  split
  · cases h : stxT[s - 1000]? with
    | none => decide
    | some q => exact txT_len q (List.mem_of_getElem? h)
  · decide
theorem isT_tx {s : Nat} (h : isT s) : stx s = some (tx s) := by
  obtain ⟨q, hq⟩ := Option.isSome_iff_exists.mp h
  unfold tx
  rw [hq]
  rfl
theorem mint_10 {ln : Nat → Nat} {s : Nat} {r : List MV} {τ : MS} : mint B ln 10 (.inr s :: r) τ = (stx s).map (fun bs => (.inl (nI bs.length) :: r, τ)) := rfl
theorem mint_11 {ln : Nat → Nat} {s : Nat} {i : Int32} {r : List MV} {τ : MS} : mint B ln 11 (.inl i :: .inr s :: r) τ = (match stx s with
    | some bs => if min? i bs.length = true then some (.inl (bs.getD i.toNatClampNeg 0) :: r, τ) else none
    | none => none) := rfl
theorem mint_12 {ln : Nat → Nat} {s : Nat} {c : Int32} {r : List MV} {τ : MS} : mint B ln 12 (.inl c :: .inr s :: r) τ = (stx s).map (fun bs => (.inl (match bs.findIdx? (fun b => b == c) with
      | some k => nI k
      | none => -1) :: r, τ)) := rfl
theorem mint_15 {ln : Nat → Nat} {q : Nat} {v : Int32} {r : List MV} {τ : MS} : mint B ln 15 (.inl v :: .inr q :: r) τ = if inQ B q ∧ rk (q - 100) = 0 then some (r, τ.1, fun p => if p = q - 100 then fun _ => v else τ.2 p) else none := rfl
theorem mint_16 {ln : Nat → Nat} {q : Nat} {v t f : Int32} {r : List MV} {τ : MS} : mint B ln 16 (.inl v :: .inl t :: .inl f :: .inr q :: r) τ = if inQ B q ∧ rk (q - 100) = 0 ∧ 0 ≤ f ∧ f ≤ t ∧ t.toNatClampNeg ≤ ln (q - 100) then some (r, τ.1, fun p => if p = q - 100 then fun j => if f.toNatClampNeg ≤ j ∧ j < t.toNatClampNeg then v else τ.2 p j else τ.2 p) else none := rfl
theorem mint_17 {ln : Nat → Nat} {n dp sp : Int32} {d s : Nat} {r : List MV} {τ : MS} : mint B ln 17 (.inl n :: .inl dp :: .inr d :: .inl sp :: .inr s :: r) τ = if inQ B s ∧ inQ B d ∧ rk (s - 100) = rk (d - 100) ∧ (rk (s - 100) = 0 ∨ rk (s - 100) = 1 ∧ ∀ i, i < n.toNatClampNeg → fits .byte (.int (τ.2 (s - 100) (sp.toNatClampNeg + i))) = true) ∧ 0 ≤ n ∧ 0 ≤ sp ∧ 0 ≤ dp ∧ sp.toNatClampNeg + n.toNatClampNeg ≤ ln (s - 100) ∧ dp.toNatClampNeg + n.toNatClampNeg ≤ ln (d - 100) then some (r, τ.1, fun p => if p = d - 100 then va_cpy (τ.2 (s - 100)) (τ.2 (d - 100)) sp.toNatClampNeg dp.toNatClampNeg n.toNatClampNeg else τ.2 p) else none := rfl
theorem k_tlen {idx s : Nat} {q : MethodName × ByteArray × Nat × Nat × Nat × Nat} (hd : decode cd pc = .ok (.invokevirtual idx, 3)) (hm : mlk oc idx = some (10, q)) (hs : isT s) (hl : Nat.ble st.length 7 = true) (h : OkI B L d oc cd nL rt (pc + 3) (.inl (tN s) :: st) lv σ Q) : OkI B L d oc cd nL rt pc (.inr s :: st) lv σ Q :=
  k_jv hd hm (by decide) hl (fun a τ ha hτ => by
    obtain ⟨b, rfl, hb⟩ := mapR ha
    refine ⟨.inl (nI (tx s).length) :: b, τ, by rw [mint_10, isT_tx hs]; rfl, ?_, hτ⟩
    rw [List.map_cons, hb]
    exact congrArg (fun z => (.inl z : IV) :: st) (nI_i (by have := tx_len s; omega))) h
theorem k_tchr {idx s : Nat} {i : Int} {q : MethodName × ByteArray × Nat × Nat × Nat × Nat} (hd : decode cd pc = .ok (.invokevirtual idx, 3)) (hm : mlk oc idx = some (11, q)) (hs : isT s) (hi : 0 ≤ i ∧ i < tN s) (hl : Nat.ble st.length 6 = true) (h : OkI B L d oc cd nL rt (pc + 3) (.inl (tC s i) :: st) lv σ Q) : OkI B L d oc cd nL rt pc (.inl i :: .inr s :: st) lv σ Q :=
  k_jv hd hm (by decide) hl (fun a τ ha hτ => by
    obtain ⟨v, b1, rfl, hv, hb1⟩ := mapI ha
    obtain ⟨b, rfl, hb⟩ := mapR hb1
    refine ⟨.inl ((tx s).getD v.toNatClampNeg 0) :: b, τ, by rw [mint_11, isT_tx hs]; dsimp only; rw [if_pos (mn_ok hv hi)], ?_, hτ⟩
    rw [List.map_cons, hb, ← hv]
    rfl) h
theorem k_tidx {idx s : Nat} {c : Int} {q : MethodName × ByteArray × Nat × Nat × Nat × Nat} (hd : decode cd pc = .ok (.invokevirtual idx, 3)) (hm : mlk oc idx = some (12, q)) (hs : isT s) (hl : Nat.ble st.length 6 = true) (h : OkI B L d oc cd nL rt (pc + 3) (.inl (tF s c) :: st) lv σ Q) : OkI B L d oc cd nL rt pc (.inl c :: .inr s :: st) lv σ Q :=
  k_jv hd hm (by decide) hl (fun a τ ha hτ => by
    obtain ⟨v, b1, rfl, hv, hb1⟩ := mapI ha
    obtain ⟨b, rfl, hb⟩ := mapR hb1
    refine ⟨_, τ, by rw [mint_12, isT_tx hs]; rfl, ?_, hτ⟩
    rw [List.map_cons, hb]
    refine congrArg (fun z => (.inl z : IV) :: st) ?_
    unfold tF
    rw [← hv, Int32.ofInt_toInt]
    cases hk : (tx s).findIdx? (fun b => b == v) with
    | none => rfl
    | some k =>
      have h1 := (List.findIdx?_eq_some_iff_getElem.mp hk).1
      have h2 := tx_len s
      exact nI_i (by omega)) h
theorem k_min {idx : Nat} {x y : Int} {q : MethodName × ByteArray × Nat × Nat × Nat × Nat} (hd : decode cd pc = .ok (.invokestatic idx, 3)) (hm : mlk oc idx = some (13, q)) (hl : Nat.ble st.length 6 = true) (h : OkI B L d oc cd nL rt (pc + 3) (.inl (if y < x then y else x) :: st) lv σ Q) : OkI B L d oc cd nL rt pc (.inl y :: .inl x :: st) lv σ Q :=
  k_js hd hm (by decide) hl (fun a τ ha hτ => by
    obtain ⟨w, b1, rfl, hw, hb1⟩ := mapI ha
    obtain ⟨v, b, rfl, hv, hb⟩ := mapI hb1
    refine ⟨_, τ, rfl, ?_, hτ⟩
    rw [List.map_cons, hb]
    refine congrArg (fun z => (.inl z : IV) :: st) ?_
    by_cases e : y < x
    · rw [if_pos e, if_pos (Int32.lt_iff_toInt_lt.mpr (by rw [hw, hv]; exact e)), hw]
    · rw [if_neg e, if_neg (fun z => e (by have := Int32.lt_iff_toInt_lt.mp z; rw [hw, hv] at this; exact this)), hv]) h
theorem k_max {idx : Nat} {x y : Int} {q : MethodName × ByteArray × Nat × Nat × Nat × Nat} (hd : decode cd pc = .ok (.invokestatic idx, 3)) (hm : mlk oc idx = some (14, q)) (hl : Nat.ble st.length 6 = true) (h : OkI B L d oc cd nL rt (pc + 3) (.inl (if x < y then y else x) :: st) lv σ Q) : OkI B L d oc cd nL rt pc (.inl y :: .inl x :: st) lv σ Q :=
  k_js hd hm (by decide) hl (fun a τ ha hτ => by
    obtain ⟨w, b1, rfl, hw, hb1⟩ := mapI ha
    obtain ⟨v, b, rfl, hv, hb⟩ := mapI hb1
    refine ⟨_, τ, rfl, ?_, hτ⟩
    rw [List.map_cons, hb]
    refine congrArg (fun z => (.inl z : IV) :: st) ?_
    by_cases e : x < y
    · rw [if_pos e, if_pos (Int32.lt_iff_toInt_lt.mpr (by rw [hw, hv]; exact e)), hw]
    · rw [if_neg e, if_neg (fun z => e (by have := Int32.lt_iff_toInt_lt.mp z; rw [hw, hv] at this; exact this)), hv]) h
/-- a row's places from f up to t become v -/
def fl (σ : IS) (r f t : Nat) (v : Int) : IS := (σ.1, fun p j => if p = r ∧ f ≤ j ∧ j < t then v else σ.2 p j)
def fa (σ : IS) (r : Nat) (v : Int) : IS := (σ.1, fun p j => if p = r then v else σ.2 p j)
/-- n places of row s from sp on go to row t, from tp on -/
def cp (σ : IS) (s sp t tp n : Nat) : IS := (σ.1, fun p j => if p = t ∧ tp ≤ j ∧ j < tp + n then σ.2 s (sp + (j - tp)) else σ.2 p j)
theorem k_fill {idx r : Nat} {x : Int} {q : MethodName × ByteArray × Nat × Nat × Nat × Nat} (hd : decode cd pc = .ok (.invokestatic idx, 3)) (hm : mlk oc idx = some (15, q)) (hr : rwI B r) (hl : Nat.ble st.length 6 = true) (h : OkI B L d oc cd nL rt (pc + 3) st lv (fa σ r x) Q) : OkI B L d oc cd nL rt pc (.inl x :: .inr r :: st) lv σ Q :=
  k_js hd hm (by decide) hl (fun a τ ha hτ => by
    obtain ⟨w, b1, rfl, hw, hb1⟩ := mapI ha
    obtain ⟨b, rfl, hb⟩ := mapR hb1
    refine ⟨b, _, by rw [mint_15, if_pos hr], hb, ?_⟩
    rw [← hτ]
    refine iS_r2 (fun p j hp => ?_) (fun p j hp => ?_)
    · by_cases e : p = r
      · rw [if_pos e, if_pos (by omega), hw]
      · rw [if_neg e, if_neg (by have := Q100 hr.1; omega), iS_hi hp]
    · rw [if_neg (by have := Q100 hr.1; omega), iS_low hp]) h
theorem k_fillr {idx r : Nat} {x f t : Int} {q : MethodName × ByteArray × Nat × Nat × Nat × Nat} (hd : decode cd pc = .ok (.invokestatic idx, 3)) (hm : mlk oc idx = some (16, q)) (hr : rwI B r) (hf : 0 ≤ f ∧ f ≤ t ∧ t ≤ (L r : Int)) (hl : Nat.ble st.length 4 = true) (h : OkI B L d oc cd nL rt (pc + 3) st lv (fl σ r f.toNat t.toNat x) Q) : OkI B L d oc cd nL rt pc (.inl x :: .inl t :: .inl f :: .inr r :: st) lv σ Q :=
  k_js hd hm (by decide) hl (fun a τ ha hτ => by
    obtain ⟨w, b1, rfl, hw, hb1⟩ := mapI ha
    obtain ⟨v, b2, rfl, hv, hb2⟩ := mapI hb1
    obtain ⟨u, b3, rfl, hu, hb3⟩ := mapI hb2
    obtain ⟨b, rfl, hb⟩ := mapR hb3
    have h0 : (0 : Int32).toInt = 0 := rfl
    have e1 : v.toNatClampNeg = t.toNat := by rw [← hv]; rfl
    have e2 : u.toNatClampNeg = f.toNat := by rw [← hu]; rfl
    refine ⟨b, _, by rw [mint_16, if_pos ⟨hr.1, hr.2, Int32.le_iff_toInt_le.mpr (by rw [hu]; exact hf.1), Int32.le_iff_toInt_le.mpr (by rw [hu, hv]; exact hf.2.1), by rw [e1, LN_at (Q100 hr.1)]; omega⟩], hb, ?_⟩
    rw [← hτ]
    refine iS_r2 (fun p j hp => ?_) (fun p j hp => ?_)
    · by_cases e : p = r
      · subst e
        rw [if_pos rfl, e1, e2]
        by_cases e3 : f.toNat ≤ j ∧ j < t.toNat
        · rw [if_pos e3, if_pos ⟨rfl, e3⟩, hw]
        · rw [if_neg e3, if_neg (fun z => e3 z.2), iS_hi hp]
      · rw [if_neg (by have := Q100 hr.1; omega), if_neg (fun z => e z.1), iS_hi hp]
    · rw [if_neg (by have := Q100 hr.1; omega), iS_low hp]) h
theorem k_cpy {idx s t : Nat} {n sp tp : Int} {q : MethodName × ByteArray × Nat × Nat × Nat × Nat} (hd : decode cd pc = .ok (.invokestatic idx, 3)) (hm : mlk oc idx = some (17, q)) (hs : inQ B s) (ht : inQ B t) (hk : rk (s - 100) = rk (t - 100)) (hb : rk (s - 100) = 0 ∨ rk (s - 100) = 1 ∧ ∀ i : Nat, (i : Int) < n → inB (σ.2 s (sp.toNat + i))) (hn : 0 ≤ n ∧ 0 ≤ sp ∧ 0 ≤ tp ∧ sp + n ≤ (L s : Int) ∧ tp + n ≤ (L t : Int)) (hl : Nat.ble st.length 3 = true) (h : OkI B L d oc cd nL rt (pc + 3) st lv (cp σ s sp.toNat t tp.toNat n.toNat) Q) : OkI B L d oc cd nL rt pc (.inl n :: .inl tp :: .inr t :: .inl sp :: .inr s :: st) lv σ Q :=
  k_js hd hm (by decide) hl (fun a τ ha hτ => by
    obtain ⟨w, b1, rfl, hw, hb1⟩ := mapI ha
    obtain ⟨v, b2, rfl, hv, hb2⟩ := mapI hb1
    obtain ⟨b3, rfl, hb3⟩ := mapR hb2
    obtain ⟨u, b4, rfl, hu, hb4⟩ := mapI hb3
    obtain ⟨b, rfl, hb5⟩ := mapR hb4
    have e1 : w.toNatClampNeg = n.toNat := by rw [← hw]; rfl
    have e2 : v.toNatClampNeg = tp.toNat := by rw [← hv]; rfl
    have e3 : u.toNatClampNeg = sp.toNat := by rw [← hu]; rfl
    have hfit : rk (s - 100) = 0 ∨ rk (s - 100) = 1 ∧ ∀ i, i < w.toNatClampNeg → fits .byte (.int (τ.2 (s - 100) (u.toNatClampNeg + i))) = true := by
      rcases hb with hb | ⟨h1, h2⟩
      · exact Or.inl hb
      · refine Or.inr ⟨h1, fun i hi => ?_⟩
        have h3 := h2 i (by omega)
        rw [← hτ, iS_hi (Q100 hs), ← e3] at h3
        exact fits_b h3
    refine ⟨b, _, by rw [mint_17, if_pos ⟨hs, ht, hk, hfit, Int32.le_iff_toInt_le.mpr (by rw [hw]; exact hn.1), Int32.le_iff_toInt_le.mpr (by rw [hu]; exact hn.2.1), Int32.le_iff_toInt_le.mpr (by rw [hv]; exact hn.2.2.1), by rw [e1, e3, LN_at (Q100 hs)]; omega, by rw [e1, e2, LN_at (Q100 ht)]; omega⟩], hb5, ?_⟩
    rw [← hτ]
    refine iS_r2 (fun p j hp => ?_) (fun p j hp => ?_)
    · by_cases e : p = t
      · subst e
        rw [if_pos rfl, e1, e2, e3]
        by_cases e4 : tp.toNat ≤ j ∧ j < tp.toNat + n.toNat
        · rw [if_pos ⟨rfl, e4⟩, iS_hi (Q100 hs)]
          unfold va_cpy
          rw [if_pos e4]
        · rw [if_neg (fun z => e4 z.2), iS_hi hp]
          unfold va_cpy
          rw [if_neg e4]
      · rw [if_neg (by have := Q100 ht; omega), if_neg (fun z => e z.1), iS_hi hp]
    · rw [if_neg (by have := Q100 ht; omega), iS_low hp]) h
def wo (t : Int) : Nat := if t < 0 ∨ 6 < t then 1000 + wordD else 1000 + wordT.getD t.toNat 0
theorem k_word {idx : Nat} {t : Int} {q : MethodName × ByteArray × Nat × Nat × Nat × Nat} (hd : decode cd pc = .ok (.invokestatic idx, 3)) (hm : mlk oc idx = some (20, q)) (hl : Nat.ble st.length 6 = true) (h : OkI B L d oc cd nL rt (pc + 3) (.inr (wo t) :: st) lv σ Q) : OkI B L d oc cd nL rt pc (.inl t :: st) lv σ Q :=
  k_js hd hm (by decide) (by have := Nat.le_of_ble_eq_true hl; simp; omega) (fun a τ ha hτ => by
    obtain ⟨v, b, rfl, hv, hb⟩ := mapI ha
    refine ⟨.inr (wo t) :: b, τ, ?_, by rw [List.map_cons, hb]; rfl, hτ⟩
    unfold mint wo
    try dsimp only
    rw [← hv]
    rfl) h
end OkRules
/-! loops and meetings -/
def itF {S : Type} (F : (S → IS → Prop) → S → IS → Prop) : Nat → S → IS → Prop
  | 0 => fun _ _ => False
  | n + 1 => F (itF F n)
def WL {S : Type} (F : (S → IS → Prop) → S → IS → Prop) (s : S) (σ : IS) : Prop := ∃ n, itF F n s σ
theorem WL_ind {S : Type} {F : (S → IS → Prop) → S → IS → Prop} (I : S → IS → Prop) (m : S → IS → Nat) (h : ∀ s σ, I s σ → ∀ K : S → IS → Prop, (∀ s' σ', I s' σ' → m s' σ' < m s σ → K s' σ') → F K s σ) (s : S) (σ : IS) (hI : I s σ) : WL F s σ := by
  have key : ∀ n s σ, I s σ → m s σ < n → itF F n s σ := by
    intro n
    induction n with
    | zero => intro s σ _ h0; omega
    | succ n ih =>
      intro s σ hI hn
      exact h s σ hI _ (fun s' σ' hI' hm => ih s' σ' hI' (by omega))
  exact ⟨m s σ + 1, key _ s σ hI (by omega)⟩
theorem k_loop {B : MB} {L : Nat → Nat} {d oc : Nat} {cd : ByteArray} {nL rt pc : Nat} {Q : Option Int → IS → Prop} {S : Type} {F : (S → IS → Prop) → S → IS → Prop} {st : S → List IV} {lv : S → List (Option IV)} (hF : ∀ K : S → IS → Prop, (∀ s σ, K s σ → OkI B L d oc cd nL rt pc (st s) (lv s) σ Q) → ∀ s σ, F K s σ → OkI B L d oc cd nL rt pc (st s) (lv s) σ Q) (s : S) (σ : IS) (h : WL F s σ) : OkI B L d oc cd nL rt pc (st s) (lv s) σ Q := by
  obtain ⟨n, hn⟩ := h
  induction n generalizing s σ with
  | zero => exact False.elim hn
  | succ n ih => exact hF _ ih s σ hn
def WJ {S : Type} (R : S → IS → Prop) (BB : (S → IS → Prop) → Prop) : Prop := BB R
theorem WJ_of {S : Type} {R : S → IS → Prop} {BB : (S → IS → Prop) → Prop} (P : S → IS → Prop) (h1 : ∀ J : S → IS → Prop, (∀ s σ, P s σ → J s σ) → BB J) (h2 : ∀ s σ, P s σ → R s σ) : WJ R BB := h1 R h2
theorem k_join {B : MB} {L : Nat → Nat} {d oc : Nat} {cd : ByteArray} {nL rt pc : Nat} {st : List IV} {lv : List (Option IV)} {σ : IS} {Q : Option Int → IS → Prop} {S : Type} {R : S → IS → Prop} {BB : (S → IS → Prop) → Prop} {pc' : Nat} {st' : S → List IV} {lv' : S → List (Option IV)} (hR : ∀ s σ', R s σ' → OkI B L d oc cd nL rt pc' (st' s) (lv' s) σ' Q) (hB : ∀ J : S → IS → Prop, (∀ s σ', J s σ' → OkI B L d oc cd nL rt pc' (st' s) (lv' s) σ' Q) → BB J → OkI B L d oc cd nL rt pc st lv σ Q) (h : WJ R BB) : OkI B L d oc cd nL rt pc st lv σ Q := hB R hR h
theorem ipos {c : Prop} [Decidable c] {A B : Prop} (hc : c) (h : if c then A else B) : A := by rwa [if_pos hc] at h
theorem ineg {c : Prop} [Decidable c] {A B : Prop} (hc : ¬ c) (h : if c then A else B) : B := by rwa [if_neg hc] at h
theorem it01 {c : Prop} [Decidable c] {a b : Int} (ha : is01 a) (hb : is01 b) : is01 (if c then a else b) := by
  split
  · exact ha
  · exact hb
theorem it_if {c : Prop} [Decidable c] {a b : Nat} (ha : isT a) (hb : isT b) : isT (if c then a else b) := by
  split
  · exact ha
  · exact hb
theorem pf_eq {σ : IS} {o k : Nat} {x : Int} : (pf σ o k x).1 o k = x := by
  show uf σ.1 o k x o k = x
  rw [uf_at, if_pos ⟨rfl, rfl⟩]
theorem pf_nk {σ : IS} {o p k j : Nat} {x : Int} (h : j ≠ k) : (pf σ o k x).1 p j = σ.1 p j := by
  show uf σ.1 o k x p j = _
  rw [uf_at, if_neg (fun z => h z.2)]
theorem pf_no {σ : IS} {o p k j : Nat} {x : Int} (h : p ≠ o) : (pf σ o k x).1 p j = σ.1 p j := by
  show uf σ.1 o k x p j = _
  rw [uf_at, if_neg (fun z => h z.1)]
abbrev isDoc (o : Nat) : Prop := o = 14 ∨ o = 15
abbrev dyD (x : Int) : Prop := x = 14 ∨ x = 15
theorem dyD_doc {x : Int} (h : dyD x) : isDoc (Int.toNat x) := by
  rcases h with rfl | rfl
  · exact Or.inl rfl
  · exact Or.inr rfl
theorem dyD_pos {x : Int} (h : dyD x) : 0 ≤ x := by omega
abbrev BF : MB := (0, 18, 0, 148)
theorem doc_ob {o : Nat} (h : isDoc o) : inO BF o ∧ kls o = 14 := by
  rcases h with rfl | rfl <;> decide
theorem doc_ne {o p : Nat} (h : isDoc o) (hp : p ≠ 14 ∧ p ≠ 15) : o ≠ p := by omega
theorem doc_lt {o : Nat} (h : isDoc o) : o < 1000 := by omega
def rfo (o f : Nat) : Nat := match (fkL o)[f]? with
  | some (.inr r) => r
  | _ => 0
abbrev dyB (x : Int) : Prop := x = 162 ∨ x = 163
theorem dyB_pos {x : Int} (h : dyB x) : 0 ≤ x := by omega
theorem dyB_row {x : Int} (h : dyB x) : rwk BF 1 (Int.toNat x) := by
  rcases h with rfl | rfl <;> decide
theorem rb_B {r : Nat} (h : rwk BF 1 r) : rwB BF r := ⟨h.1, by rw [h.2]; decide⟩
theorem row_lt {r : Nat} (h : rwk BF 1 r) : r < 1000 := by have := Q248 h.1; omega
theorem wo_T (t : Int) : isT (wo t) := by
  unfold wo
  split
  · decide
  · rename_i h
    have h1 : t.toNat < 7 := by omega
    revert h1
    generalize t.toNat = n
    revert n
    decide
/-- the store's own cells are there -/
abbrev stB (B : MB) : Prop := B.1 ≤ 1 ∧ 1 < B.1 + B.2.1 ∧ B.2.2.1 ≤ 1 ∧ 7 < B.2.2.1 + B.2.2.2
theorem stB_BF : stB BF := by decide
theorem stB_ob {B : MB} (h : stB B) : inO B 1 ∧ kls 1 = 1 := ⟨⟨h.1, h.2.1, by decide⟩, by decide⟩
theorem stB_101 {B : MB} (h : stB B) : rwI B 101 := ⟨⟨by have := h.2.2.1; omega, by have := h.2.2.2; omega, by decide⟩, by decide +kernel⟩
theorem stB_102 {B : MB} (h : stB B) : rwI B 102 := ⟨⟨by have := h.2.2.1; omega, by have := h.2.2.2; omega, by decide⟩, by decide +kernel⟩
theorem stB_103 {B : MB} (h : stB B) : rwI B 103 := ⟨⟨by have := h.2.2.1; omega, by have := h.2.2.2; omega, by decide⟩, by decide +kernel⟩
theorem stB_104 {B : MB} (h : stB B) : rwI B 104 := ⟨⟨by have := h.2.2.1; omega, by have := h.2.2.2; omega, by decide⟩, by decide +kernel⟩
theorem stB_105 {B : MB} (h : stB B) : rwI B 105 := ⟨⟨by have := h.2.2.1; omega, by have := h.2.2.2; omega, by decide⟩, by decide +kernel⟩
theorem stB_106 {B : MB} (h : stB B) : rwI B 106 := ⟨⟨by have := h.2.2.1; omega, by have := h.2.2.2; omega, by decide⟩, by decide +kernel⟩
theorem stB_107 {B : MB} (h : stB B) : rwI B 107 := ⟨⟨by have := h.2.2.1; omega, by have := h.2.2.2; omega, by decide⟩, by decide +kernel⟩
/-! names for what is long -/
def LETI (a : Int) (f : Int → Prop) : Prop := f a
def LETH (a : IS) (f : IS → Prop) : Prop := f a
theorem LETI_of {a : Int} {f : Int → Prop} (h : ∀ v, v = a → f v) : LETI a f := h a rfl
theorem LETH_of {a : IS} {f : IS → Prop} (h : ∀ v, v = a → f v) : LETH a f := h a rfl
theorem k_letI {B : MB} {L : Nat → Nat} {d oc : Nat} {cd : ByteArray} {nL rt pc : Nat} {st : List IV} {lv : List (Option IV)} {σ : IS} {Q : Option Int → IS → Prop} {a : Int} {f : Int → Prop} (hk : ∀ v, v = a → f v → OkI B L d oc cd nL rt pc (.inl v :: st) lv σ Q) (h : LETI a f) : OkI B L d oc cd nL rt pc (.inl a :: st) lv σ Q := hk a rfl h
theorem k_letH {B : MB} {L : Nat → Nat} {d oc : Nat} {cd : ByteArray} {nL rt pc : Nat} {st : List IV} {lv : List (Option IV)} {Q : Option Int → IS → Prop} {a : IS} {f : IS → Prop} (hk : ∀ v, v = a → f v → OkI B L d oc cd nL rt pc st lv v Q) (h : LETH a f) : OkI B L d oc cd nL rt pc st lv a Q := hk a rfl h
