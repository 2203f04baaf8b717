/-! a switch by keys -/
theorem off_dflt (l : List (Int × Int)) (dflt k : Int) (h : ∀ q ∈ l, q.1 ≠ k) : Op.lookupswitch.offset l dflt k = dflt := by
  induction l with
  | nil => rfl
  | cons q r ih =>
    obtain ⟨a, o⟩ := q
    rw [Op.lookupswitch.offset_cons, if_neg (h (a, o) List.mem_cons_self)]
    exact ih (fun q hq => h q (List.mem_cons_of_mem _ hq))
def lswT (pc : Nat) (ps : List (Int × Int)) (off : Int) : Option Nat := if (ps.zip (ps.drop 1)).all (fun (a, next) => a.1 < next.1) = true then mjmp pc off else none
theorem lswT_ok {pc t : Nat} {ps : List (Int × Int)} {off : Int} (h : lswT pc ps off = some t) : (ps.zip (ps.drop 1)).all (fun (a, next) => a.1 < next.1) = true ∧ mjmp pc off = some t := by
  unfold lswT at h
  split at h
  · rename_i e
    exact ⟨e, h⟩
  · cases h
section Lsw
variable {B : MB} {L : Nat → Nat} {d oc : Nat} {cd : ByteArray} {nL rt pc : Nat} {st : List IV} {lv : List (Option IV)} {σ : IS} {Q : Option Int → IS → Prop}
theorem k_lswx {dflt x : Int} {ps : Array (Int × Int)} {len t : Nat} (hd : decode cd pc = .ok (.lookupswitch dflt ps, len)) (ht : lswT pc ps.toList (Op.lookupswitch.offset ps.toList dflt x) = some t) (h : OkI B L d oc cd nL rt t st lv σ Q) : OkI B L d oc cd nL rt pc (.inl x :: st) lv σ Q :=
  k_op hd rfl (Or.inr rfl) (fun a l τ ha hl hτ => by
    obtain ⟨v, b, rfl, hv, hb⟩ := mapI ha
    refine ⟨b, l, τ, ?_, hb, hl, hτ⟩
    obtain ⟨h1, h2⟩ := lswT_ok ht
    unfold mop
    dsimp only
    rw [if_pos h1, hv, h2]
    rfl) h
theorem k_lsw {dflt x k : Int} {ps : Array (Int × Int)} {len t : Nat} (hd : decode cd pc = .ok (.lookupswitch dflt ps, len)) (hx : x = k) (ht : lswT pc ps.toList (Op.lookupswitch.offset ps.toList dflt k) = some t) (h : OkI B L d oc cd nL rt t st lv σ Q) : OkI B L d oc cd nL rt pc (.inl x :: st) lv σ Q := k_lswx hd (by rw [hx]; exact ht) h
theorem k_lswd {dflt x : Int} {ps : Array (Int × Int)} {len t : Nat} (hd : decode cd pc = .ok (.lookupswitch dflt ps, len)) (hx : ∀ q ∈ ps.toList, q.1 ≠ x) (ht : lswT pc ps.toList dflt = some t) (h : OkI B L d oc cd nL rt t st lv σ Q) : OkI B L d oc cd nL rt pc (.inl x :: st) lv σ Q := k_lswx hd (by rw [off_dflt _ _ _ hx]; exact ht) h
end Lsw
