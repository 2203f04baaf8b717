/-! ===== what a text means, as a pure machine: items, one after another ===== -/
abbrev Str : Type := List Int
/-- name, whether of parameters, text -/
abbrev Ent : Type := Str × Bool × List Int
/-- what is left of the text, whose text it is (0: the text itself, else the entity's number and one), how many elements were open -/
abbrev Frm : Type := List Int × Nat × Nat
/-- name, kind, the content as written and what is behind it, up to the end of the declaration -/
abbrev EDc : Type := Str × Nat × List Int
/-- element, name, type, default, value, list -/
abbrev ADc : Type := Str × Str × Nat × Nat × Str × List Str
/-- name, value, declaration -/
abbrev Att : Type := Str × Str × Option Nat
/-- name, parent, first attribute, how many, how many in the tag, touched, spoiled -/
abbrev Elm : Type := Str × Int × Nat × Nat × Nat × Bool × Bool
abbrev Evt : Type := Int ⊕ (Str × Str)
abbrev AS : Type := List Frm × List Ent × (Nat → Nat) × Option Str × List EDc × List ADc × List Str × List Elm × List Att × List Evt × List Nat
def aF (a : AS) : List Frm := a.1
def aE (a : AS) : List Ent := a.2.1
/-- 0 counted, 1 missing, 2 colons, 3 nodes, 4 phase, 5 standalone, 6 parameter seen, 7 place of the text -/
def aN (a : AS) : Nat → Nat := a.2.2.1
def aR (a : AS) : Option Str := a.2.2.2.1
def aD (a : AS) : List EDc := a.2.2.2.2.1
def aA (a : AS) : List ADc := a.2.2.2.2.2.1
def aT (a : AS) : List Str := a.2.2.2.2.2.2.1
def aL (a : AS) : List Elm := a.2.2.2.2.2.2.2.1
def aB (a : AS) : List Att := a.2.2.2.2.2.2.2.2.1
def aS (a : AS) : List Evt := a.2.2.2.2.2.2.2.2.2.1
def aO (a : AS) : List Nat := a.2.2.2.2.2.2.2.2.2.2
def sF (a : AS) (x : List Frm) : AS := (x, a.2)
def sE (a : AS) (x : List Ent) : AS := (a.1, x, a.2.2)
def sN (a : AS) (k v : Nat) : AS := (a.1, a.2.1, (fun j => if j = k then v else a.2.2.1 j), a.2.2.2)
def sR (a : AS) (x : Option Str) : AS := (a.1, a.2.1, a.2.2.1, x, a.2.2.2.2)
def sD (a : AS) (x : List EDc) : AS := (a.1, a.2.1, a.2.2.1, a.2.2.2.1, x, a.2.2.2.2.2)
def sA (a : AS) (x : List ADc) : AS := (a.1, a.2.1, a.2.2.1, a.2.2.2.1, a.2.2.2.2.1, x, a.2.2.2.2.2.2)
def sT (a : AS) (x : List Str) : AS := (a.1, a.2.1, a.2.2.1, a.2.2.2.1, a.2.2.2.2.1, a.2.2.2.2.2.1, x, a.2.2.2.2.2.2.2)
def sL (a : AS) (x : List Elm) : AS := (a.1, a.2.1, a.2.2.1, a.2.2.2.1, a.2.2.2.2.1, a.2.2.2.2.2.1, a.2.2.2.2.2.2.1, x, a.2.2.2.2.2.2.2.2)
def sB (a : AS) (x : List Att) : AS := (a.1, a.2.1, a.2.2.1, a.2.2.2.1, a.2.2.2.2.1, a.2.2.2.2.2.1, a.2.2.2.2.2.2.1, a.2.2.2.2.2.2.2.1, x, a.2.2.2.2.2.2.2.2.2)
def sS (a : AS) (x : List Evt) : AS := (a.1, a.2.1, a.2.2.1, a.2.2.2.1, a.2.2.2.2.1, a.2.2.2.2.2.1, a.2.2.2.2.2.2.1, a.2.2.2.2.2.2.2.1, a.2.2.2.2.2.2.2.2.1, x, a.2.2.2.2.2.2.2.2.2.2)
def sO (a : AS) (x : List Nat) : AS := (a.1, a.2.1, a.2.2.1, a.2.2.2.1, a.2.2.2.2.1, a.2.2.2.2.2.1, a.2.2.2.2.2.2.1, a.2.2.2.2.2.2.2.1, a.2.2.2.2.2.2.2.2.1, a.2.2.2.2.2.2.2.2.2.1, x)
def gd (l : List Int) : Nat → Int := fun i => l.getD i 0
/-- which entity -/
def eno (en : List Ent) (s : Str) (b : Bool) : Option Nat := en.findIdx? (fun x => x.1 == s && x.2.1 == b)
/-- which declared attribute -/
def adf (ad : List ADc) (el nm : Str) : Option Nat := ad.findIdx? (fun x => x.1 == el && x.2.1 == nm)
/-- which declared element -/
def edf (ed : List EDc) (s : Str) : Option Nat := ed.findIdx? (fun x => x.1 == s)
/-- the number of a character reference that stands at the begin of l, up to j -/
def rfN (l : List Int) (j : Nat) : Int := if gd l 2 = 120 then numl 16 (sl (gd l) 3 (j - 1 - 3)) else numl 10 (sl (gd l) 2 (j - 1 - 2))
/-- the character that a reference means; -1: it is a name's; -2: to no character -/
def rfK (l : List Int) (j : Nat) : Int := if gd l 1 = 35 then (if isCh (rfN l j) = true then rfN l j else -2) else alw (sl (gd l) 1 (j - 2))
/-- texts that are gone through in a value (the innermost first) and whose they are, counted, missing, what was found -/
abbrev VS : Type := List (List Int × Nat) × Nat × Nat × List Int
def vst (rm : Nat) (en : List Ent) (bus : List Nat) (und : Bool) : VS → Nat ⊕ VS
  | ([], c, m, o) => .inr ([], c, m, o)
  | (([], _) :: st, c, m, o) => .inr (st, c, m, o)
  | ((x :: r, w) :: st, c, m, o) => if x = 60 then .inl 11 else if x ≠ 38 then .inr ((r, w) :: st, c, m, o ++ [if isSp x = true then 32 else x])
    else match rfp (gd (x :: r)) (r.length + 1) (some 0) with
      | none => .inl 5
      | some j => if 0 ≤ rfK (x :: r) j then .inr (((x :: r).drop j, w) :: st, c, m, o ++ [rfK (x :: r) j])
        else if rfK (x :: r) j = -2 then .inl 12
        else match eno en (sl (gd (x :: r)) 1 (j - 2)) false with
          | none => if und = true then .inl 9 else .inr (((x :: r).drop j, w) :: st, c, m + 1, o)
          | some i => if rm < c + ((en.getD i ([], false, [])).2.2).length then .inl 4
            else if (i + 1) ∈ bus ∨ (i + 1) ∈ (((x :: r), w) :: st).map (fun z => z.2) then .inl 10
            else .inr (((en.getD i ([], false, [])).2.2, i + 1) :: ((x :: r).drop j, w) :: st, c + ((en.getD i ([], false, [])).2.2).length, m, o)
def vms (rm : Nat) (s : VS) : Nat := 2 * (rm - s.2.1) + (s.1.map (fun z => 2 * z.1.length + 1)).sum
def vrn (rm : Nat) (en : List Ent) (bus : List Nat) (und : Bool) : Nat → VS → Nat ⊕ (Nat × Nat × List Int)
  | 0, _ => .inl 99
  | n + 1, s => match s.1 with
    | [] => .inr s.2
    | _ :: _ => match vst rm en bus und s with
      | .inl f => .inl f
      | .inr s' => vrn rm en bus und n s'
def nrm1 (acc : List Int) (c : Int) : List Int := if c ≠ 32 ∨ (acc ≠ [] ∧ acc.getLastD 32 ≠ 32) then acc ++ [c] else acc
/-- a value of another type than CDATA -/
def nrm (l : List Int) : List Int := if (l.foldl nrm1 []).getLastD 0 = 32 then (l.foldl nrm1 []).dropLast else l.foldl nrm1 []
def nrt (t : Nat) (l : List Int) : List Int := if t = 0 then l else nrm l
/-- a comment -/
def cmt (T : Nat → Int) (e p : Nat) : Option Nat := (sek T e [45, 45] (p + 4)).bind (fun k => wd T e [45, 45, 62] (some k))
section Abs
variable (rm nd : Nat)
def cur (a : AS) : List Int := match aF a with
  | [] => []
  | f :: _ => f.1
def adv (a : AS) (k : Nat) : AS := match aF a with
  | [] => a
  | f :: t => sF a ((f.1.drop k, f.2) :: t)
def bsy (a : AS) : List Nat := (aF a).map (fun f => f.2.1)
def und (a : AS) : Bool := (aN a 5 == 1) || (aN a 6 == 0)
/-- what stands in the open element -/
def tch (a : AS) (sp : Bool) : AS := match aO a with
  | [] => a
  | e :: _ => sL a ((aL a).modify e (fun x => (x.1, x.2.1, x.2.2.1, x.2.2.2.1, x.2.2.2.2.1, true, x.2.2.2.2.2.2 || sp)))
def val (a : AS) (l : List Int) (c m : Nat) : Nat ⊕ (Nat × Nat × List Int) := vrn rm (aE a) (bsy a) (und a) (2 * rm + 3) ([(l, 0)], c, m, [])
/-- a reference to an entity, up to k: its text is gone through -/
def ent (a : AS) (i k : Nat) : Nat ⊕ AS := match aF a with
  | [] => .inl 99
  | f :: t => if rm < aN a 0 + (((aE a).getD i ([], false, [])).2.2).length then .inl 4 else if (i + 1) ∈ bsy a then .inl 10
    else .inr (sN (sN (sF a ((((aE a).getD i ([], false, [])).2.2, i + 1, (aO a).length) :: (f.1.drop k, f.2) :: t)) 0 (aN a 0 + (((aE a).getD i ([], false, [])).2.2).length)) 7 (if t = [] then aN a 8 - f.1.length else aN a 7))
def iCmt (a : AS) : Nat ⊕ AS := match cmt (gd (cur a)) (cur a).length 0 with
  | none => .inl 5
  | some k => .inr (adv (tch a false) k)
def iPin (cn : Bool) (a : AS) : Nat ⊕ AS := match pin (gd (cur a)) (cur a).length 0 with
  | none => .inl 5
  | some (n, f, q) => if cn = true ∧ nd < aN a 3 + 1 then .inl 4
    else .inr (adv (sN (if cn = true then sN (sS (tch a false) (aS a ++ [.inr (sl (gd (cur a)) 2 (n - 2), sl (gd (cur a)) f (q - 2 - f))])) 3 (aN a 3 + 1) else a) 2 (aN a 2 + (hasc (sl (gd (cur a)) 2 (n - 2))).toNat)) q)
def iSpc (a : AS) : Nat ⊕ AS := .inr (adv a (sk isSp (gd (cur a)) (cur a).length 0))
def iDtd (a : AS) : Nat ⊕ AS := match dtn (gd (cur a)) (cur a).length 0, spc (gd (cur a)) (cur a).length (some 9), dtk (gd (cur a)) (cur a).length 0 with
  | some n, some s, some k => if dtO (gd (cur a)) (cur a).length n = true then .inl 3
    else .inr (adv (sN (sR a (some (sl (gd (cur a)) s (n - s)))) 4 (if gd (cur a) (k - 1) = 91 then 1 else 0)) k)
  | _, _, _ => .inl 5
/-- a parameter reference -/
def iPrf (a : AS) : Nat ⊕ AS := match nmg (gd (cur a)) (cur a).length true (some 1), pcp (gd (cur a)) (cur a).length 0 with
  | some n, some k => match eno (aE a) (sl (gd (cur a)) 1 (n - 1)) true with
    | none => .inl 9
    | some i => match ent rm a i k with
      | .inl f => .inl f
      | .inr a' => .inr (sN a' 6 1)
  | _, _ => .inl 5
def iSbe (a : AS) : Nat ⊕ AS := match wd (gd (cur a)) (cur a).length [62] (asp (gd (cur a)) (cur a).length (some 1)) with
  | none => .inl 5
  | some k => .inr (adv (sN a 4 0) k)
def iEld (a : AS) : Nat ⊕ AS := match spc (gd (cur a)) (cur a).length (some 9), elk (gd (cur a)) (cur a).length 0 with
  | some s, some k => match nmg (gd (cur a)) (cur a).length true (some s), elc (gd (cur a)) (cur a).length 0 with
    | some n, some c => if cnK (gd (cur a)) (cur a).length c = 3 ∧ (255 < ((mdl (gd (cur a)) (cur a).length c).getD (0, 0, 0)).2.1 ∨ 60 < ((mdl (gd (cur a)) (cur a).length c).getD (0, 0, 0)).2.2) then .inl 4
      else .inr (adv (sD a (aD a ++ [(sl (gd (cur a)) s (n - s), cnK (gd (cur a)) (cur a).length c, sl (gd (cur a)) c (k - c))])) k)
    | _, _ => .inl 5
  | _, _ => .inl 5
/-- one definition, that begins at x: counted, missing and the declared attributes after it -/
def dfa (a : AS) (T : Nat → Int) (e : Nat) (el : Str) (x : Nat) (c m : Nat) (ad : List ADc) : Nat ⊕ (Nat × Nat × List ADc) :=
  match nmg T e true (some x) with
  | none => .inl 5
  | some b => match spc T e (some b) with
    | none => .inl 5
    | some y => match spc T e (typ T e y) with
      | none => .inl 5
      | some w => match dfV T e w with
        | none => .inr (c, m, if (adf ad el (sl T x (b - x))).isSome = true then ad else ad ++ [(el, sl T x (b - x), atyN T e y, dfK T e w, [], (atyL T e y).map (fun q => sl T q.1 (q.2 - q.1)))])
        | some v => match vlp T e (some v) with
          | none => .inl 5
          | some j => match val rm a (sl T (v + 1) (j - 1 - (v + 1))) c m with
            | .inl f => .inl f
            | .inr (c', m', o) => .inr (c', m', if (adf ad el (sl T x (b - x))).isSome = true then ad else ad ++ [(el, sl T x (b - x), atyN T e y, dfK T e w, nrt (atyN T e y) o, (atyL T e y).map (fun q => sl T q.1 (q.2 - q.1)))])
def dfs (a : AS) (T : Nat → Int) (e : Nat) (el : Str) : List Nat → Nat → Nat → List ADc → Nat ⊕ (Nat × Nat × List ADc)
  | [], c, m, ad => .inr (c, m, ad)
  | x :: r, c, m, ad => match dfa rm a T e el x c m ad with
    | .inl f => .inl f
    | .inr (c', m', ad') => dfs a T e el r c' m' ad'
def iAtl (a : AS) : Nat ⊕ AS := match spc (gd (cur a)) (cur a).length (some 9), alk (gd (cur a)) (cur a).length 0 with
  | some s, some k => match nmg (gd (cur a)) (cur a).length true (some s) with
    | some n => match dfs rm a (gd (cur a)) (cur a).length (sl (gd (cur a)) s (n - s)) (adL (gd (cur a)) (cur a).length ((cur a).length + 1) n) (aN a 0) (aN a 1) (aA a) with
      | .inl f => .inl f
      | .inr (c, m, ad) => .inr (adv (sN (sN (sA a ad) 0 c) 1 m) k)
    | none => .inl 5
  | _, _ => .inl 5
/-- an entity's text, from what stands in the literal -/
def enx : Nat → List Int → List Int → Nat ⊕ List Int
  | 0, _, _ => .inl 99
  | _ + 1, [], acc => .inr acc
  | n + 1, x :: r, acc => if x = 37 then .inl 13 else if x ≠ 38 then enx n r (acc ++ [x]) else match rfp (gd (x :: r)) (r.length + 1) (some 0) with
    | none => .inl 5
    | some j => if gd (x :: r) 1 = 35 then (if isCh (rfN (x :: r) j) = true then enx n ((x :: r).drop j) (acc ++ [rfN (x :: r) j]) else .inl 12) else enx n ((x :: r).drop j) (acc ++ (x :: r).take j)
def iEnt (a : AS) : Nat ⊕ AS := match enF (gd (cur a)) (cur a).length 0, enT (gd (cur a)) (cur a).length 0, enk (gd (cur a)) (cur a).length 0 with
  | some f, some t, some k => if isQt (lk (gd (cur a)) (cur a).length t) = false then .inl 3 else match nmg (gd (cur a)) (cur a).length true (some f), etx (gd (cur a)) (cur a).length (some t) with
    | some n, some m => match enx (cur a).length (sl (gd (cur a)) (t + 1) (m - 1 - (t + 1))) [] with
      | .inl g => .inl g
      | .inr tx => .inr (adv (sN (if (eno (aE a) (sl (gd (cur a)) f (n - f)) (enP (gd (cur a)) (cur a).length 0)).isSome = true then a else sE a (aE a ++ [(sl (gd (cur a)) f (n - f), enP (gd (cur a)) (cur a).length 0, tx)])) 2 (aN a 2 + (hasc (sl (gd (cur a)) f (n - f))).toNat)) k)
    | _, _ => .inl 5
  | _, _, _ => .inl 5
def iNot (a : AS) : Nat ⊕ AS := match spc (gd (cur a)) (cur a).length (some 10), ntk (gd (cur a)) (cur a).length 0 with
  | some s, some k => match nmg (gd (cur a)) (cur a).length true (some s) with
    | some n => .inr (adv (sN (sT a (aT a ++ [sl (gd (cur a)) s (n - s)])) 2 (aN a 2 + (hasc (sl (gd (cur a)) s (n - s))).toNat)) k)
    | none => .inl 5
  | _, _ => .inl 5
/-- the text of characters, put into the stream -/
def chr (a : AS) (l : List Int) : AS := sS a (aS a ++ l.map (fun c => Sum.inl c))
def iSec (a : AS) : Nat ⊕ AS := match sek (gd (cur a)) (cur a).length [93, 93, 62] 9 with
  | none => .inl 5
  | some k => .inr (adv (chr (tch a true) (sl (gd (cur a)) 9 (k - 9))) (k + 3))
def isRn (c : Int) : Bool := !(c == 60) && !(c == 38)
def iRun (a : AS) : Nat ⊕ AS := if (sek (gd (cur a)) (sk isRn (gd (cur a)) (cur a).length 0) [93, 93, 62] 0).isSome = true then .inl 5
  else .inr (adv (chr (tch a ((sl (gd (cur a)) 0 (sk isRn (gd (cur a)) (cur a).length 0)).any (fun c => !isSp c))) (sl (gd (cur a)) 0 (sk isRn (gd (cur a)) (cur a).length 0))) (sk isRn (gd (cur a)) (cur a).length 0))
def iRef (a : AS) : Nat ⊕ AS := match rfp (gd (cur a)) (cur a).length (some 0) with
  | none => .inl 5
  | some k => if 0 ≤ rfK (cur a) k then .inr (adv (chr (tch a true) [rfK (cur a) k]) k) else if rfK (cur a) k = -2 then .inl 12
    else match eno (aE a) (sl (gd (cur a)) 1 (k - 2)) false with
      | none => if und a = true then .inl 9 else .inr (adv (sN (tch a false) 1 (aN a 1 + 1)) k)
      | some i => ent rm (tch a false) i k
/-- the innermost element ends -/
def cls (a : AS) : AS := match aO a with
  | [] => a
  | _ :: r => sN (sO (sS a (aS a ++ [.inl (-1)])) r) 4 (if r = [] then 3 else 2)
def iEnd (a : AS) : Nat ⊕ AS := match etk (gd (cur a)) (cur a).length 0, nmg (gd (cur a)) (cur a).length true (some 2), aO a, aF a with
  | some k, some n, e :: r, f :: _ => if ((aL a).getD e ([], 0, 0, 0, 0, false, false)).1 ≠ sl (gd (cur a)) 2 (n - 2) then .inl 7 else if (e :: r).length ≤ f.2.2 then .inl 14 else .inr (cls (adv a k))
  | _, _, _, _ => .inl 5
/-- the attributes of a tag -/
def gvs (a : AS) (T : Nat → Int) (el : Str) : List (Nat × Nat × Nat × Nat) → Nat → Nat → List Att → Nat ⊕ (Nat × Nat × List Att)
  | [], c, m, acc => .inr (c, m, acc)
  | (x, b, v, j) :: r, c, m, acc => if (sl T x (b - x)) ∈ acc.map (fun z => z.1) then .inl 8 else match val rm a (sl T (v + 1) (j - 1 - (v + 1))) c m with
    | .inl f => .inl f
    | .inr (c', m', o) => gvs a T el r c' m' (acc ++ [(sl T x (b - x), nrt (match adf (aA a) el (sl T x (b - x)) with
        | none => 0
        | some d => ((aA a).getD d ([], [], 0, 0, [], [])).2.2.1) o, adf (aA a) el (sl T x (b - x)))])
/-- those that come by default -/
def dfl (ad : List ADc) (el : Str) (gv : List Att) : List Att := (List.range ad.length).filterMap (fun d => if (ad.getD d ([], [], 0, 0, [], [])).1 = el ∧ 3 ≤ (ad.getD d ([], [], 0, 0, [], [])).2.2.2.1 ∧ ¬ (ad.getD d ([], [], 0, 0, [], [])).2.1 ∈ gv.map (fun z => z.1) then some ((ad.getD d ([], [], 0, 0, [], [])).2.1, (ad.getD d ([], [], 0, 0, [], [])).2.2.2.2.1, some d) else none)
def par (a : AS) : Int := match aO a with
  | [] => -1
  | e :: _ => (e : Int)
/-- a new element, with those attributes -/
def nel (a : AS) (nm : Str) (gv al : List Att) (k c m : Nat) : AS := sO (sS (sB (sL (sN (sN (sN (sN (adv (tch a false) k) 0 c) 1 m) 3 (aN a 3 + 1 + al.length)) 4 2) (aL (tch a false) ++ [(nm, par a, (aB a).length, al.length, gv.length, false, false)])) (aB a ++ al)) (aS a ++ [.inl (-3 - ((aL a).length : Int))])) ((aL a).length :: aO a)
def iTag (a : AS) : Nat ⊕ AS := match tgk (gd (cur a)) (cur a).length 0, nmg (gd (cur a)) (cur a).length true (some 1) with
  | some k, some n => match gvs rm a (gd (cur a)) (sl (gd (cur a)) 1 (n - 1)) (atL (gd (cur a)) (cur a).length ((cur a).length + 1) n) (aN a 0) (aN a 1) [] with
    | .inl f => .inl f
    | .inr (c, m, gv) => if nd < aN a 3 + 1 + (gv ++ dfl (aA a) (sl (gd (cur a)) 1 (n - 1)) gv).length then .inl 4
      else .inr (if gd (cur a) (k - 2) = 47 then cls (nel a (sl (gd (cur a)) 1 (n - 1)) gv (gv ++ dfl (aA a) (sl (gd (cur a)) 1 (n - 1)) gv) k c m) else nel a (sl (gd (cur a)) 1 (n - 1)) gv (gv ++ dfl (aA a) (sl (gd (cur a)) 1 (n - 1)) gv) k c m)
  | _, _ => .inl 5
/-- at the end of a text -/
def iFin (a : AS) : Nat ⊕ AS := match aF a with
  | [] => .inl 99
  | [_] => .inl 6
  | f :: t => if aN a 4 = 2 ∧ (aO a).length ≠ f.2.2 then .inl 14 else .inr (sF a t)
def iOut (a : AS) : Nat ⊕ AS := if isSp (gd (cur a) 0) = true then iSpc a
  else if mt (gd (cur a)) (cur a).length 0 [60, 33, 45, 45] = true then iCmt a
  else if mt (gd (cur a)) (cur a).length 0 [60, 63] = true then iPin nd true a
  else if aN a 4 = 3 ∨ gd (cur a) 0 ≠ 60 ∨ mt (gd (cur a)) (cur a).length 0 [60, 47] = true ∨ mt (gd (cur a)) (cur a).length 0 [60, 33, 91, 67, 68, 65, 84, 65, 91] = true then .inl 6
  else if mt (gd (cur a)) (cur a).length 0 [60, 33, 68, 79, 67, 84, 89, 80, 69] = false then iTag rm nd a
  else if (aR a).isSome = true then .inl 6 else iDtd a
def iSub (a : AS) : Nat ⊕ AS := if isSp (gd (cur a) 0) = true then iSpc a
  else if gd (cur a) 0 = 37 then iPrf rm a
  else if gd (cur a) 0 = 93 ∧ (aF a).length = 1 then iSbe a
  else if mt (gd (cur a)) (cur a).length 0 [60, 33, 45, 45] = true then iCmt a
  else if mt (gd (cur a)) (cur a).length 0 [60, 63] = true then iPin nd false a
  else if mt (gd (cur a)) (cur a).length 0 [60, 33, 69, 76, 69, 77, 69, 78, 84] = true then iEld a
  else if mt (gd (cur a)) (cur a).length 0 [60, 33, 65, 84, 84, 76, 73, 83, 84] = true then iAtl rm a
  else if mt (gd (cur a)) (cur a).length 0 [60, 33, 69, 78, 84, 73, 84, 89] = true then iEnt a
  else if mt (gd (cur a)) (cur a).length 0 [60, 33, 78, 79, 84, 65, 84, 73, 79, 78] = true then iNot a
  else .inl 6
def iCon (a : AS) : Nat ⊕ AS := if gd (cur a) 0 = 38 then iRef rm a
  else if gd (cur a) 0 ≠ 60 then iRun a
  else if mt (gd (cur a)) (cur a).length 0 [60, 47] = true then iEnd a
  else if mt (gd (cur a)) (cur a).length 0 [60, 33, 45, 45] = true then iCmt a
  else if mt (gd (cur a)) (cur a).length 0 [60, 63] = true then iPin nd true a
  else if mt (gd (cur a)) (cur a).length 0 [60, 33, 91, 67, 68, 65, 84, 65, 91] = true then iSec a
  else if mt (gd (cur a)) (cur a).length 0 [60, 33, 68, 79, 67, 84, 89, 80, 69] = true then .inl 6
  else iTag rm nd a
/-- one item -/
def stp (a : AS) : Nat ⊕ AS := if cur a = [] then iFin a else if aN a 4 = 1 then iSub rm nd a else if aN a 4 = 2 then iCon rm nd a else iOut rm nd a
/-- where the text has ended well -/
def fin (a : AS) : Bool := (cur a).isEmpty && ((aF a).length == 1) && (aN a 4 == 3)
/-- the place of what comes next -/
def plc (a : AS) : Nat := match aF a with
  | [f] => aN a 8 - f.1.length
  | _ => aN a 7
def arn : Nat → AS → (Nat × Nat) ⊕ AS
  | 0, _ => .inl (99, 0)
  | n + 1, a => if fin a = true then .inr a else match stp rm nd a with
    | .inl f => .inl (f, plc a)
    | .inr a' => arn n a'
end Abs
