/-! ===== the class's reader: at a place, whatever was read last; or a fault ===== -/
def jz (e k : Nat) (σ : IS) (o : Option Nat) (τ : IS) : Prop := match o with
  | some p => p ≤ e ∧ FRs σ τ ∧ τ.1 2 2 = (p : Int)
  | none => JB e k σ τ ∧ τ.1 2 4 = 5
section JP
variable {L : Nat → Nat} {σ τ : IS} {e k : Nat} {o : Option Nat}
theorem jz.bad (h : jst e k σ none τ) : jz e k σ none τ := h
theorem jz.stt {p : Nat} (h : jz e k σ (some p) τ) : jst e k τ (some p) τ := ⟨h.1, (pf_self h.2.2).symm⟩
theorem jz.of {p : Nat} {o' : Option Nat} {τ' : IS} (h : jz e k σ (some p) τ) (h' : jst e k τ o' τ') : jz e k σ o' τ' := by
  cases o' with
  | some q =>
    obtain ⟨hq, rfl⟩ := h'
    exact ⟨hq, h.2.1.pos, pf_eq⟩
  | none => exact jst.fr h.2.1 h'
theorem jz.fr {p q : Nat} {τ' : IS} (h : jz e k σ (some p) τ) (hf : FRs τ τ') (hq : q ≤ e) (h2 : τ'.1 2 2 = (q : Int)) : jz e k σ (some q) τ' := ⟨hq, h.2.1.trans hf, h2⟩
theorem jz.js {p : Nat} (h : jz e k σ (some p) τ) (hS : JS L σ e) : JS L τ e := hS.fr h.2.1
theorem jz.row (h : jz e k σ o τ) : τ.2 = σ.2 := by
  cases o with
  | some p => exact h.2.1.1
  | none => exact h.1.1
theorem jz.chh (h : jz e k σ o τ) (hc : jch L σ) : jch L τ := by
  unfold jch
  rw [h.row]
  exact hc
theorem jz.start {p : Nat} (hS : JS L σ e) (hp : p ≤ e) : jz e k σ (some p) (pf σ 2 2 (p : Int)) := ⟨hp, (FRs.refl hS.2.2.2.2).pos, pf_eq⟩
theorem jz.start' {p : Nat} (hS : JS L σ e) (hp : p ≤ e) (h : σ.1 2 2 = (p : Int)) : jz e k σ (some p) σ := ⟨hp, FRs.refl hS.2.2.2.2, h⟩
theorem z_need {Q : IS → Prop} (hS : JS L σ e) (hk : k ≤ 50) {s : Nat} {l : List Int} (hs : ti s = l) (hl : 0 < l.length) (h : jz e k σ o τ) (hq : ∀ τ', jz e k σ (wd (σ.2 101) e l o) τ' → Q τ') : w_Reader_need L s Q τ := by
  cases o with
  | some p => exact j_need (h.js hS) hk hs hl h.stt (fun τ' h' => hq τ' (h.of (by rw [h.row] at h'; exact h')))
  | none => exact j_need hS hk hs hl (o := none) h (fun τ' h' => hq τ' h')
theorem z_needSpace {Q : IS → Prop} (hS : JS L σ e) (hk : k ≤ 50) (h : jz e k σ o τ) (hq : ∀ τ', jz e k σ (spc (σ.2 101) e o) τ' → Q τ') : w_Reader_needSpace L Q τ := by
  cases o with
  | some p => exact j_needSpace (h.js hS) hk h.stt (fun τ' h' => hq τ' (h.of (by rw [h.row] at h'; exact h')))
  | none => exact j_needSpace hS hk (o := none) h (fun τ' h' => hq τ' h')
theorem z_skipSpace {Q : Int → IS → Prop} (hS : JS L σ e) (hk : k ≤ 50) (h : jz e k σ o τ) (hq : ∀ v τ', jz e k σ (asp (σ.2 101) e o) τ' → (v = 0 ∨ v = 1) → (∀ p, o = some p → v = if sk isSp (σ.2 101) e p = p then 0 else 1) → Q v τ') : w_Reader_skipSpace L Q τ := by
  cases o with
  | some p => exact j_skipSpace (h.js hS) hk h.stt (fun v τ' h' h01 hv => hq v τ' (h.of (by rw [h.row] at h'; exact h')) h01 (by rw [h.row] at hv; exact hv))
  | none => exact j_skipSpace hS hk (o := none) h (fun v τ' h' h01 hv => hq v τ' h' h01 hv)
theorem z_at {Q : Int → IS → Prop} (hS : JS L σ e) (hk : k ≤ 50) {s : Nat} {l : List Int} (hs : ti s = l) (hl : 0 < l.length) (h : jz e k σ o τ) (hq : ∀ v, (v = 0 ∨ v = 1) → (∀ p, o = some p → v = b1 (mt (σ.2 101) e p l)) → Q v τ) : w_Reader_at L s Q τ := by
  cases o with
  | some p => exact j_at (h.js hS) hk hs hl h.stt (fun v h01 hv => hq v h01 (by rw [h.row] at hv; exact hv))
  | none => exact j_at hS hk hs hl (o := none) h (fun v h01 hv => hq v h01 hv)
theorem z_skip {Q : Int → IS → Prop} (hS : JS L σ e) (hk : k ≤ 50) {s : Nat} {l : List Int} (hs : ti s = l) (hl : 0 < l.length) (h : jz e k σ o τ) (hq : ∀ v τ', jz e k σ (skp (σ.2 101) e l o) τ' → (v = 0 ∨ v = 1) → (∀ p, o = some p → v = b1 (mt (σ.2 101) e p l)) → Q v τ') : w_Reader_skip L s Q τ := by
  cases o with
  | some p => exact j_skip (h.js hS) hk hs hl h.stt (fun v τ' h' h01 hv => hq v τ' (h.of (by rw [h.row] at h'; exact h')) h01 (by rw [h.row] at hv; exact hv))
  | none => exact j_skip hS hk hs hl (o := none) h (fun v τ' h' h01 hv => hq v τ' h' h01 hv)
theorem z_readName {Q : Int → IS → Prop} (hS : JS L σ e) (hk : k ≤ 50) (h : jz e k σ o τ) (hq : ∀ v τ', jz e k σ (nmg (σ.2 101) e true o) τ' → (∀ p, o = some p → v = (p : Int)) → (∃ q : Nat, v = (q : Int) ∧ q ≤ e + k ∧ ∀ r : Nat, τ'.1 2 2 = (r : Int) → q ≤ r) → Q v τ') : w_Reader_readName L Q τ := by
  cases o with
  | some p => exact j_readName (h.js hS) hk h.stt (fun v τ' h' hv hr => hq v τ' (h.of (by rw [h.row] at h'; exact h')) hv hr)
  | none => exact j_readName hS hk (o := none) h (fun v τ' h' hv hr => hq v τ' h' hv hr)
theorem z_readToken {Q : Int → IS → Prop} (hS : JS L σ e) (hk : k ≤ 50) (h : jz e k σ o τ) (hq : ∀ v τ', jz e k σ (nmg (σ.2 101) e false o) τ' → (∀ p, o = some p → v = (p : Int)) → (∃ q : Nat, v = (q : Int) ∧ q ≤ e + k ∧ ∀ r : Nat, τ'.1 2 2 = (r : Int) → q ≤ r) → Q v τ') : w_Reader_readToken L Q τ := by
  cases o with
  | some p => exact j_readToken (h.js hS) hk h.stt (fun v τ' h' hv hr => hq v τ' (h.of (by rw [h.row] at h'; exact h')) hv hr)
  | none => exact j_readToken hS hk (o := none) h (fun v τ' h' hv hr => hq v τ' h' hv hr)
theorem z_fail {Q : IS → Prop} (hS : JS L σ e) (h : jz e k σ o τ) (hq : ∀ τ', jz e k σ none τ' → Q τ') : w_Reader_fail L 5 Q τ := by
  cases o with
  | some p => exact j_fail (h.js hS) h.stt (fun τ' h' => hq τ' (h.of h'))
  | none => exact j_fail hS (o := none) h (fun τ' h' => hq τ' h')
theorem z_seek {Q : IS → Prop} (hS : JS L σ e) (hk : k ≤ 50) {s : Nat} {l : List Int} (hs : ti s = l) (hl : 0 < l.length) (h : jz e k σ o τ) (hq : ∀ τ', jz e k σ (o.bind (sek (σ.2 101) e l)) τ' → Q τ') : w_Reader_seek L s Q τ := by
  cases o with
  | some p => exact j_seek (h.js hS) hk hs hl h.stt (fun τ' h' => hq τ' (h.of (by rw [h.row] at h'; exact h')))
  | none => exact j_seek hS hk hs hl (o := none) h (fun τ' h' => hq τ' h')
theorem z_checkValue {Q : IS → Prop} (hS : JS L σ e) (hk : k ≤ 50) (hch : jch L σ) (h : jz e k σ o τ) (hq : ∀ τ', jz e k σ (vlp (σ.2 101) e o) τ' → Q τ') : w_Reader_checkValue L Q τ := by
  cases o with
  | some p =>
    refine j_checkValue (h.js hS) hk (h.chh hch) h.stt (fun p' j τ' hp hv hf h2 => ?_) (fun hv τ' h' => ?_)
    · cases hp
      rw [h.row] at hv
      have hj := vlp_le (e := e) j hv
      refine hq τ' ?_
      rw [hv]
      exact h.fr hf hj h2
    · rw [h.row] at hv
      refine hq τ' ?_
      rw [hv]
      exact h.of h'
  | none => exact j_checkValue hS hk hch (o := none) h (fun p' j τ' hp _ _ _ => by cases hp) (fun _ τ' h' => hq τ' h')
theorem z_readOutside {Q : IS → Prop} (hS : JS L σ e) (hk : k ≤ 50) (hch : jch L σ) (alone : Bool) {a1 : Int} (ha : a1 = b1 alone) (h : jz e k σ o τ) (hq : ∀ τ', jz e k σ (outJ (σ.2 101) e alone o) τ' → Q τ') : w_Reader_readOutside L a1 Q τ := by
  cases o with
  | some p =>
    refine j_readOutside (h.js hS) hk (h.chh hch) alone ha h.stt (fun j τ' hv hf h2 => ?_) (fun hv τ' h' => ?_)
    · rw [h.row] at hv
      refine hq τ' ?_
      rw [hv]
      have hj : j ≤ e := by
        cases alone with
        | false =>
          rw [outJ_outs] at hv
          exact outs_le j hv
        | true =>
          have hv' : (if mt (σ.2 101) e p [83, 89, 83, 84, 69, 77] = true then ltl (σ.2 101) e (spc (σ.2 101) e (some (p + 6))) else match plt (σ.2 101) e (spc (σ.2 101) e (wd (σ.2 101) e [80, 85, 66, 76, 73, 67] (some p))) with
            | none => none
            | some j => if sk isSp (σ.2 101) e j ≠ j ∧ isQt (lk (σ.2 101) e (sk isSp (σ.2 101) e j)) = true then ltl (σ.2 101) e (some (sk isSp (σ.2 101) e j)) else if true = true then some (sk isSp (σ.2 101) e j) else none) = some j := hv
          split at hv'
          · exact ltl_le j hv'
          · split at hv'
            · cases hv'
            · rename_i m hm
              split at hv'
              · exact ltl_le j hv'
              · rw [if_pos rfl] at hv'
                cases hv'
                exact (sk_le (plt_le m hm)).2
      exact h.fr hf hj h2
    · rw [h.row] at hv
      refine hq τ' ?_
      rw [hv]
      exact h.of h'
  | none => exact j_readOutside hS hk hch alone ha (o := none) h (fun j τ' hv _ _ => by cases hv) (fun _ τ' h' => hq τ' h')
/-- the fault field of such a state -/
theorem jz.fault (h : jz e k σ o τ) (hS : JS L σ e) : τ.1 2 4 = if o = none then 5 else 0 := by
  cases o with
  | some p =>
    rw [if_neg (by simp)]
    exact (h.js hS).2.2.2.1
  | none =>
    rw [if_pos rfl]
    exact h.2
theorem jz.keep (h : jz e k σ o τ) {p j : Nat} (hj : ¬ (p = 2 ∧ (j = 2 ∨ j = 4 ∨ (6 ≤ j ∧ j ≤ 11)))) : τ.1 p j = σ.1 p j := by
  cases o with
  | some q => exact h.2.1.2.1 p j (by omega)
  | none => exact h.1.2.1 p j hj
theorem jz.pos (h : jz e k σ o τ) : ∃ q : Nat, τ.1 2 2 = (q : Int) ∧ q ≤ e + k := by
  cases o with
  | some q => exact ⟨q, h.2.2, by have := h.1; omega⟩
  | none => exact h.1.2.2.1
theorem jz.jt (h : jz e k σ o τ) (hS : JS L σ e) (hk : k ≤ 50) : ∃ p, JT L τ e p ∧ p ≤ e + k ∧ (∀ q, o = some q → p = q) := by
  cases o with
  | some q =>
    have hS' := h.js hS
    exact ⟨q, ⟨h.2.2, hS'.1, hS'.2.1, hS'.2.2.1, by have := h.1; omega⟩, by have := h.1; omega, fun q' hq => by cases hq; rfl⟩
  | none =>
    obtain ⟨p, hp, hpk⟩ := h.1.jt hS hk
    exact ⟨p, hp, hpk, fun q hq => by cases hq⟩
theorem z_peek {Q : Int → IS → Prop} (hS : JS L σ e) (hk : k ≤ 50) (h : jz e k σ o τ) (hq : ∀ v, (∀ p, o = some p → v = lk (σ.2 101) e p) → Q v τ) : w_Reader_peek L Q τ := by
  obtain ⟨p, hj, -, hp⟩ := h.jt hS hk
  refine sp_Reader_peek hj (hq _ (fun q hq => ?_))
  rw [h.row, hp q hq]
theorem z_atQuote {Q : Int → IS → Prop} (hS : JS L σ e) (hk : k ≤ 50) (h : jz e k σ o τ) (hq : ∀ v, (v = 0 ∨ v = 1) → (∀ p, o = some p → v = b1 (isQt (lk (σ.2 101) e p))) → Q v τ) : w_Reader_atQuote L Q τ := by
  obtain ⟨p, hj, -, hp⟩ := h.jt hS hk
  refine sp_Reader_atQuote hj (hq _ ?_ (fun q hq => ?_))
  · cases isQt (lk (τ.2 101) e p) with
    | true => exact Or.inr rfl
    | false => exact Or.inl rfl
  · rw [h.row, hp q hq]
end JP
/-! the same, whatever the store looked for last -/
def jp (e k : Nat) (σ : IS) (o : Option Nat) (τ : IS) : Prop := ∃ x : Int, jz e k (pf σ 1 13 x) o τ
section JPw
variable {L : Nat → Nat} {σ τ : IS} {e k : Nat} {o : Option Nat}
theorem JS.so {x : Int} (h : JS L σ e) : JS L (pf σ 1 13 x) e := ⟨(pf_no (by decide)).trans h.1, h.2.1, h.2.2.1, (pf_no (by decide)).trans h.2.2.2.1, fun j h1 h2 => by rw [pf_no (by decide)]; exact h.2.2.2.2 j h1 h2⟩
theorem jp.row (h : jp e k σ o τ) : τ.2 = σ.2 := by
  obtain ⟨x, h⟩ := h
  exact h.row
theorem jp.chh (h : jp e k σ o τ) (hc : jch L σ) : jch L τ := by
  unfold jch
  rw [h.row]
  exact hc
theorem jp.start' {p : Nat} (hS : JS L σ e) (hp : p ≤ e) (h : σ.1 2 2 = (p : Int)) : jp e k σ (some p) σ := ⟨σ.1 1 13, by rw [pf_self rfl]; exact jz.start' hS hp h⟩
theorem jp.start {p : Nat} (hS : JS L σ e) (hp : p ≤ e) : jp e k σ (some p) (pf σ 2 2 (p : Int)) := ⟨σ.1 1 13, by rw [pf_self rfl]; exact jz.start hS hp⟩
theorem jp.fault (h : jp e k σ o τ) (hS : JS L σ e) : τ.1 2 4 = if o = none then 5 else 0 := by
  obtain ⟨x, h⟩ := h
  exact h.fault hS.so
theorem jp.keep (h : jp e k σ o τ) {p j : Nat} (hj : ¬ (p = 2 ∧ (j = 2 ∨ j = 4 ∨ (6 ≤ j ∧ j ≤ 11)))) (hj2 : ¬ (p = 1 ∧ j = 13)) : τ.1 p j = σ.1 p j := by
  obtain ⟨x, h⟩ := h
  rw [h.keep hj, pf_1, if_neg hj2]
theorem jp.f5 (h : jp e k σ none τ) : τ.1 2 4 = 5 := by
  obtain ⟨x, h⟩ := h
  exact h.2
theorem jp.pos (h : jp e k σ o τ) : ∃ q : Nat, τ.1 2 2 = (q : Int) ∧ q ≤ e + k := by
  obtain ⟨x, h⟩ := h
  exact h.pos
theorem jp.at {p : Nat} (h : jp e k σ (some p) τ) : τ.1 2 2 = (p : Int) ∧ p ≤ e := by
  obtain ⟨x, h⟩ := h
  exact ⟨h.2.2, h.1⟩
theorem jp.jt (h : jp e k σ o τ) (hS : JS L σ e) (hk : k ≤ 50) : ∃ p, JT L τ e p ∧ p ≤ e + k ∧ (∀ q, o = some q → p = q) := by
  obtain ⟨x, h⟩ := h
  exact h.jt hS.so hk
theorem jp.js {p : Nat} (h : jp e k σ (some p) τ) (hS : JS L σ e) : JS L τ e := by
  obtain ⟨x, h⟩ := h
  exact h.js hS.so
theorem jp.f0 {p : Nat} (h : jp e k σ (some p) τ) (hS : JS L σ e) : τ.1 2 4 = 0 := (h.js hS).2.2.2.1
theorem p_need {Q : IS → Prop} (hS : JS L σ e) (hk : k ≤ 50) {s : Nat} {l : List Int} (hs : ti s = l) (hl : 0 < l.length) (h : jp e k σ o τ) (hq : ∀ τ', jp e k σ (wd (σ.2 101) e l o) τ' → Q τ') : w_Reader_need L s Q τ := by
  obtain ⟨x, h⟩ := h
  exact z_need hS.so hk hs hl h (fun τ' h' => hq τ' ⟨x, h'⟩)
theorem p_needSpace {Q : IS → Prop} (hS : JS L σ e) (hk : k ≤ 50) (h : jp e k σ o τ) (hq : ∀ τ', jp e k σ (spc (σ.2 101) e o) τ' → Q τ') : w_Reader_needSpace L Q τ := by
  obtain ⟨x, h⟩ := h
  exact z_needSpace hS.so hk h (fun τ' h' => hq τ' ⟨x, h'⟩)
theorem p_skipSpace {Q : Int → IS → Prop} (hS : JS L σ e) (hk : k ≤ 50) (h : jp e k σ o τ) (hq : ∀ v τ', jp e k σ (asp (σ.2 101) e o) τ' → (v = 0 ∨ v = 1) → (∀ p, o = some p → v = if sk isSp (σ.2 101) e p = p then 0 else 1) → Q v τ') : w_Reader_skipSpace L Q τ := by
  obtain ⟨x, h⟩ := h
  exact z_skipSpace hS.so hk h (fun v τ' h' => hq v τ' ⟨x, h'⟩)
theorem p_at {Q : Int → IS → Prop} (hS : JS L σ e) (hk : k ≤ 50) {s : Nat} {l : List Int} (hs : ti s = l) (hl : 0 < l.length) (h : jp e k σ o τ) (hq : ∀ v, (v = 0 ∨ v = 1) → (∀ p, o = some p → v = b1 (mt (σ.2 101) e p l)) → Q v τ) : w_Reader_at L s Q τ := by
  obtain ⟨x, h⟩ := h
  exact z_at hS.so hk hs hl h hq
theorem p_skip {Q : Int → IS → Prop} (hS : JS L σ e) (hk : k ≤ 50) {s : Nat} {l : List Int} (hs : ti s = l) (hl : 0 < l.length) (h : jp e k σ o τ) (hq : ∀ v τ', jp e k σ (skp (σ.2 101) e l o) τ' → (v = 0 ∨ v = 1) → (∀ p, o = some p → v = b1 (mt (σ.2 101) e p l)) → Q v τ') : w_Reader_skip L s Q τ := by
  obtain ⟨x, h⟩ := h
  exact z_skip hS.so hk hs hl h (fun v τ' h' => hq v τ' ⟨x, h'⟩)
theorem p_readName {Q : Int → IS → Prop} (hS : JS L σ e) (hk : k ≤ 50) (h : jp e k σ o τ) (hq : ∀ v τ', jp e k σ (nmg (σ.2 101) e true o) τ' → (∀ p, o = some p → v = (p : Int)) → (∃ q : Nat, v = (q : Int) ∧ q ≤ e + k ∧ ∀ r : Nat, τ'.1 2 2 = (r : Int) → q ≤ r) → Q v τ') : w_Reader_readName L Q τ := by
  obtain ⟨x, h⟩ := h
  exact z_readName hS.so hk h (fun v τ' h' => hq v τ' ⟨x, h'⟩)
theorem p_readToken {Q : Int → IS → Prop} (hS : JS L σ e) (hk : k ≤ 50) (h : jp e k σ o τ) (hq : ∀ v τ', jp e k σ (nmg (σ.2 101) e false o) τ' → (∀ p, o = some p → v = (p : Int)) → (∃ q : Nat, v = (q : Int) ∧ q ≤ e + k ∧ ∀ r : Nat, τ'.1 2 2 = (r : Int) → q ≤ r) → Q v τ') : w_Reader_readToken L Q τ := by
  obtain ⟨x, h⟩ := h
  exact z_readToken hS.so hk h (fun v τ' h' => hq v τ' ⟨x, h'⟩)
theorem p_fail {Q : IS → Prop} (hS : JS L σ e) (h : jp e k σ o τ) (hq : ∀ τ', jp e k σ none τ' → Q τ') : w_Reader_fail L 5 Q τ := by
  obtain ⟨x, h⟩ := h
  exact z_fail hS.so h (fun τ' h' => hq τ' ⟨x, h'⟩)
theorem p_seek {Q : IS → Prop} (hS : JS L σ e) (hk : k ≤ 50) {s : Nat} {l : List Int} (hs : ti s = l) (hl : 0 < l.length) (h : jp e k σ o τ) (hq : ∀ τ', jp e k σ (o.bind (sek (σ.2 101) e l)) τ' → Q τ') : w_Reader_seek L s Q τ := by
  obtain ⟨x, h⟩ := h
  exact z_seek hS.so hk hs hl h (fun τ' h' => hq τ' ⟨x, h'⟩)
theorem p_checkValue {Q : IS → Prop} (hS : JS L σ e) (hk : k ≤ 50) (hch : jch L σ) (h : jp e k σ o τ) (hq : ∀ τ', jp e k σ (vlp (σ.2 101) e o) τ' → Q τ') : w_Reader_checkValue L Q τ := by
  obtain ⟨x, h⟩ := h
  exact z_checkValue hS.so hk hch h (fun τ' h' => hq τ' ⟨x, h'⟩)
theorem p_readOutside {Q : IS → Prop} (hS : JS L σ e) (hk : k ≤ 50) (hch : jch L σ) (alone : Bool) {a1 : Int} (ha : a1 = b1 alone) (h : jp e k σ o τ) (hq : ∀ τ', jp e k σ (outJ (σ.2 101) e alone o) τ' → Q τ') : w_Reader_readOutside L a1 Q τ := by
  obtain ⟨x, h⟩ := h
  exact z_readOutside hS.so hk hch alone ha h (fun τ' h' => hq τ' ⟨x, h'⟩)
theorem p_peek {Q : Int → IS → Prop} (hS : JS L σ e) (hk : k ≤ 50) (h : jp e k σ o τ) (hq : ∀ v, (∀ p, o = some p → v = lk (σ.2 101) e p) → Q v τ) : w_Reader_peek L Q τ := by
  obtain ⟨x, h⟩ := h
  exact z_peek hS.so hk h hq
theorem p_atQuote {Q : Int → IS → Prop} (hS : JS L σ e) (hk : k ≤ 50) (h : jp e k σ o τ) (hq : ∀ v, (v = 0 ∨ v = 1) → (∀ p, o = some p → v = b1 (isQt (lk (σ.2 101) e p))) → Q v τ) : w_Reader_atQuote L Q τ := by
  obtain ⟨x, h⟩ := h
  exact z_atQuote hS.so hk h hq
theorem jz.so2 {x y : Int} (h : jz e k σ o τ) : jz e k (pf σ 1 13 y) o (pf τ 1 13 y) := by
  have hrng : ∀ ρ : IS, rng ρ → rng (pf ρ 1 13 y) := fun ρ hr j h1 h2 => by rw [pf_no (by decide)]; exact hr j h1 h2
  cases o with
  | some p =>
    refine ⟨h.1, ⟨h.2.1.1, fun o j hj => ?_, hrng _ h.2.1.2.2⟩, (pf_no (by decide)).trans h.2.2⟩
    rw [pf_1, pf_1]
    split
    · rfl
    · exact h.2.1.2.1 o j hj
  | none =>
    refine ⟨⟨h.1.1, fun o j hj => ?_, ?_, hrng _ h.1.2.2.2⟩, (pf_no (by decide)).trans h.2⟩
    · rw [pf_1, pf_1]
      split
      · rfl
      · exact h.1.2.1 o j hj
    · obtain ⟨q, h1, h2⟩ := h.1.2.2.1
      exact ⟨q, (pf_no (by decide)).trans h1, h2⟩
theorem jp.so {y : Int} (h : jp e k σ o τ) : jp e k σ o (pf τ 1 13 y) := by
  obtain ⟨x, h⟩ := h
  have h2 := h.so2 (x := x) (y := y)
  rw [pf_pf] at h2
  exact ⟨y, h2⟩
/-- a word looked for: its number, or -1 -/
theorem p_find {Q : Int → IS → Prop} {a n : Int} (hI : SI L σ) (hl : SL L) (h : jp e k σ o τ) (ha : 0 ≤ a ∧ 0 ≤ n ∧ a + n ≤ (L 101 : Int))
    (h1 : ∀ (w : Nat) τ', jp e k σ o τ' → (w : Int) < σ.1 1 14 → wst σ w = sl (σ.2 101) a.toNat n.toNat → Q w τ') (h0 : ∀ τ', jp e k σ o τ' → (∀ w : Nat, (w : Int) < σ.1 1 14 → wst σ w ≠ sl (σ.2 101) a.toNat n.toNat) → Q (-1) τ') : w_Store_find L a n Q τ := by
  have hr := h.row
  have f14 : τ.1 1 14 = σ.1 1 14 := h.keep (by omega) (by omega)
  have f3 : τ.1 1 3 = σ.1 1 3 := h.keep (by omega) (by omega)
  have hI' : SI L τ := by
    unfold SI at hI ⊢
    rw [f14, f3]
    have hw : ∀ w, wst τ w = wst σ w := fun w => by unfold wst wfr wsz; rw [hr]
    have hsl : slt L τ = slt L σ := by funext w; unfold slt; rw [hr]
    rw [hr, hsl]
    simp only [hw]
    exact hI
  have hw : ∀ w, wst τ w = wst σ w := fun w => by unfold wst wfr wsz; rw [hr]
  refine sp_Store_find hI' hl ha (fun w hw1 hw2 => ?_) (fun hno => ?_)
  · refine h1 w _ h.so (by rw [← f14]; exact hw1) ?_
    rw [← hw, hw2, hr]
  · refine h0 _ h.so (fun w hw1 hw2 => hno w (by rw [f14]; exact hw1) ?_)
    rw [hw, hw2, hr]
end JPw
