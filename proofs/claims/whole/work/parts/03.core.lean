/-! The abstract machine: numbers are integers (taken by 2 to the 32 only when they are turned into words of the machine), cells have numbers from 0 on (cell h lies at b + h), a method is the least predicate that is closed under its rows. -/
abbrev oA : Type := Int ⊕ (Int64 ⊕ (Option Nat ⊕ Nat))
abbrev vI (x : Int) : oA := .inl x
abbrev vL (w : Int64) : oA := .inr (.inl w)
abbrev vR (h : Nat) : oA := .inr (.inr (.inl (some h)))
abbrev vN : oA := .inr (.inr (.inl none))
abbrev vX (a : Nat) : oA := .inr (.inr (.inr a))
def oV (b : Nat) : oA → Value
  | .inl x => .int (Int32.ofInt x)
  | .inr (.inl w) => .long w
  | .inr (.inr (.inl none)) => .null
  | .inr (.inr (.inl (some h))) => .ref (b + h)
  | .inr (.inr (.inr a)) => .ref a
abbrev oLV : Type := List (Option oA)
/-- a shape: how many cells, the kind of each (0 to 12 a class, 13 int[], 14 byte[], 15 boolean[], 16 March[], 17 Base[], from 18 on none), lengths, references -/
abbrev oS : Type := Nat × (Nat → Nat) × (Nat → Nat) × (Nat → Nat → Option Nat)
abbrev oM : Type := oS × (Nat → Nat → Int) × (Nat → Nat → Int64)
abbrev oK : Type := Nat → oLV → List oA → oM → Nat × Nat → Prop
abbrev oQ : Type := Option oA → oM → Prop
abbrev oOp : Type := oLV → List oA → oM → Nat × Nat → oK → oQ → Prop
def sN (s : oS) : Nat := s.1
def sK (s : oS) : Nat → Nat := s.2.1
def sL (s : oS) : Nat → Nat := s.2.2.1
def sR (s : oS) : Nat → Nat → Option Nat := s.2.2.2
abbrev inR (x : Int) : Prop := -2147483648 ≤ x ∧ x ≤ 2147483647
def u2 (I : Nat → Nat → Int) (h k : Nat) (v : Int) : Nat → Nat → Int := fun h' k' => if h' = h then (if k' = k then v else I h' k') else I h' k'
def u2L (I : Nat → Nat → Int64) (h k : Nat) (v : Int64) : Nat → Nat → Int64 := fun h' k' => if h' = h then (if k' = k then v else I h' k') else I h' k'
def u2R (I : Nat → Nat → Option Nat) (h k : Nat) (v : Option Nat) : Nat → Nat → Option Nat := fun h' k' => if h' = h then (if k' = k then v else I h' k') else I h' k'
def u1 (f : Nat → Nat) (h v : Nat) : Nat → Nat := fun h' => if h' = h then v else f h'
/-- a new cell of a kind, of a length: numbers 0, references null -/
def sNew (s : oS) (kd ln : Nat) : oS := (s.1 + 1, u1 s.2.1 s.1 kd, u1 s.2.2.1 s.1 ln, fun h k => if h = s.1 then none else s.2.2.2 h k)
def iNew (s : oS) (I : Nat → Nat → Int) : Nat → Nat → Int := fun h k => if h = s.1 then 0 else I h k
def lNew (s : oS) (I : Nat → Nat → Int64) : Nat → Nat → Int64 := fun h k => if h = s.1 then 0 else I h k
def sPutR (s : oS) (h k : Nat) (v : Option Nat) : oS := (s.1, s.2.1, s.2.2.1, u2R s.2.2.2 h k v)
/-- locals -/
def oGet : oLV → Nat → Option oA
  | [], _ => none
  | o :: _, 0 => o
  | _ :: l, i + 1 => oGet l i
def no2 : Option oA → Option oA
  | some (.inr (.inl _)) => none
  | o => o
def oSt : Nat → oA → oLV → oLV
  | _, _, [] => []
  | 0, v, _ :: l => some v :: l
  | 1, v, o :: l => no2 o :: oSt 0 v l
  | i + 2, v, o :: l => o :: oSt (i + 1) v l
def oUn1 : oLV → oLV
  | [] => []
  | _ :: l => none :: l
def oSt2 : Nat → oA → oLV → oLV
  | _, _, [] => []
  | 0, v, _ :: l => some v :: oUn1 l
  | 1, v, o :: l => no2 o :: oSt2 0 v l
  | i + 2, v, o :: l => o :: oSt2 (i + 1) v l
def oMask : List Bool → oLV → oLV
  | true :: bs, o :: l => o :: oMask bs l
  | false :: bs, _ :: l => none :: oMask bs l
  | _, l => l
def oArgs : List oA → oLV
  | [] => []
  | .inr (.inl w) :: l => some (.inr (.inl w)) :: none :: oArgs l
  | v :: l => some v :: oArgs l
def oPad : Nat → oLV → oLV
  | 0, l => l
  | n + 1, [] => none :: oPad n []
  | n + 1, o :: l => o :: oPad n l
def oEnt (av : List oA) (nL : Nat) : oLV := oPad nL (oArgs av)
/-- closed under the rows of a table, and under forgetting locals -/
def oCl (tb : Nat → oOp) (Q : oQ) (K : oK) : Prop := (∀ pc lv st mm g, tb pc lv st mm g K Q → K pc lv st mm g) ∧ ∀ bs pc lv st mm g, K pc (oMask bs lv) st mm g → K pc lv st mm g
/-- a method, from its table: what it comes to -/
def oT (tb : Nat → oOp) (nL : Nat) : List oA → oM → oQ → Prop := fun av mm Q => (oArgs av).length ≤ nL ∧ ∀ K : oK, oCl tb Q K → K 0 (oEnt av nL) [] mm (0, 0)
def oTab (l : List (Nat × oOp)) (pc : Nat) : oOp := match l with
  | [] => fun _ _ _ _ _ _ => False
  | q :: l => match Nat.beq q.1 pc with
    | true => q.2
    | false => oTab l pc
/-- how many words a stack takes -/
def oCt : oA → Nat
  | .inr (.inl _) => 2
  | _ => 1
def oCat : List oA → Nat
  | [] => 0
  | v :: l => oCt v + oCat l
/-! the rows -/
def o_push (v : oA) (nx : Nat) : oOp := fun lv st mm g K _ => K nx lv (v :: st) mm g
def o_ild (i nx : Nat) : oOp := fun lv st mm g K _ => match oGet lv i with
  | some (.inl x) => K nx lv (.inl x :: st) mm g
  | _ => False
def o_lld (i nx : Nat) : oOp := fun lv st mm g K _ => match oGet lv i with
  | some (.inr (.inl x)) => K nx lv (.inr (.inl x) :: st) mm g
  | _ => False
def o_ald (i nx : Nat) : oOp := fun lv st mm g K _ => match oGet lv i with
  | some (.inr (.inr x)) => K nx lv (.inr (.inr x) :: st) mm g
  | _ => False
def o_ist (i nx : Nat) : oOp := fun lv st mm g K _ => match st with
  | .inl x :: r => K nx (oSt i (.inl x) lv) r mm g
  | _ => False
def o_lst (i nx : Nat) : oOp := fun lv st mm g K _ => match st with
  | .inr (.inl x) :: r => K nx (oSt2 i (.inr (.inl x)) lv) r mm g
  | _ => False
def o_ast (i nx : Nat) : oOp := fun lv st mm g K _ => match st with
  | .inr (.inr x) :: r => K nx (oSt i (.inr (.inr x)) lv) r mm g
  | _ => False
def o_inc (i : Nat) (n : Int) (nx : Nat) : oOp := fun lv st mm g K _ => match oGet lv i with
  | some (.inl x) => K nx (oSt i (.inl (x + n)) lv) st mm g
  | _ => False
def o_ib (f : Int → Int → Int) (nx : Nat) : oOp := fun lv st mm g K _ => match st with
  | .inl y :: .inl x :: r => K nx lv (.inl (f x y) :: r) mm g
  | _ => False
def o_div (nx : Nat) : oOp := fun lv st mm g K _ => match st with
  | .inl y :: .inl x :: r => (inR x ∧ inR y ∧ 0 < y) ∧ K nx lv (.inl (x.tdiv y) :: r) mm g
  | _ => False
def o_rem (nx : Nat) : oOp := fun lv st mm g K _ => match st with
  | .inl y :: .inl x :: r => (inR x ∧ inR y ∧ 0 < y) ∧ K nx lv (.inl (x.tmod y) :: r) mm g
  | _ => False
def o_neg (nx : Nat) : oOp := fun lv st mm g K _ => match st with
  | .inl x :: r => K nx lv (.inl (-x) :: r) mm g
  | _ => False
def o_lb (f : Int64 → Int64 → Int64) (nx : Nat) : oOp := fun lv st mm g K _ => match st with
  | .inr (.inl y) :: .inr (.inl x) :: r => K nx lv (.inr (.inl (f x y)) :: r) mm g
  | _ => False
def o_lbz (f : Int64 → Int64 → Int64) (nx : Nat) : oOp := fun lv st mm g K _ => match st with
  | .inr (.inl y) :: .inr (.inl x) :: r => y ≠ 0 ∧ K nx lv (.inr (.inl (f x y)) :: r) mm g
  | _ => False
def o_lsh (f : Int64 → Int32 → Int64) (nx : Nat) : oOp := fun lv st mm g K _ => match st with
  | .inl y :: .inr (.inl x) :: r => K nx lv (.inr (.inl (f x (Int32.ofInt y))) :: r) mm g
  | _ => False
def o_lcmp (nx : Nat) : oOp := fun lv st mm g K _ => match st with
  | .inr (.inl y) :: .inr (.inl x) :: r => K nx lv (.inl (lg_cmp x y).toInt :: r) mm g
  | _ => False
def o_i2l (nx : Nat) : oOp := fun lv st mm g K _ => match st with
  | .inl x :: r => K nx lv (.inr (.inl (Int32.ofInt x).toInt64) :: r) mm g
  | _ => False
def o_l2i (nx : Nat) : oOp := fun lv st mm g K _ => match st with
  | .inr (.inl x) :: r => K nx lv (.inl x.toInt32.toInt :: r) mm g
  | _ => False
def o_i2b (nx : Nat) : oOp := fun lv st mm g K _ => match st with
  | .inl x :: r => K nx lv (.inl (Int32.ofInt x).toInt8.toInt :: r) mm g
  | _ => False
def o_dup (nx : Nat) : oOp := fun lv st mm g K _ => match st with
  | .inl x :: r => K nx lv (.inl x :: .inl x :: r) mm g
  | .inr (.inr x) :: r => K nx lv (.inr (.inr x) :: .inr (.inr x) :: r) mm g
  | _ => False
def o_dup2 (nx : Nat) : oOp := fun lv st mm g K _ => match st with
  | .inl x :: .inr (.inr y) :: r => K nx lv (.inl x :: .inr (.inr y) :: .inl x :: .inr (.inr y) :: r) mm g
  | _ => False
def o_pop (nx : Nat) : oOp := fun lv st mm g K _ => match st with
  | .inl _ :: r => K nx lv r mm g
  | .inr (.inr _) :: r => K nx lv r mm g
  | _ => False
def o_if (P : Int → Prop) (tg nx : Nat) : oOp := fun lv st mm g K _ => match st with
  | .inl x :: r => inR x ∧ (P x → K tg lv r mm g) ∧ (¬ P x → K nx lv r mm g)
  | _ => False
def o_ic (P : Int → Int → Prop) (tg nx : Nat) : oOp := fun lv st mm g K _ => match st with
  | .inl y :: .inl x :: r => (inR x ∧ inR y) ∧ (P x y → K tg lv r mm g) ∧ (¬ P x y → K nx lv r mm g)
  | _ => False
def o_go (tg : Nat) : oOp := fun lv st mm g K _ => K tg lv st mm g
def o_nul (tn tr : Nat) : oOp := fun lv st mm g K _ => match st with
  | .inr (.inr (.inl none)) :: r => K tn lv r mm g
  | .inr (.inr (.inl (some _))) :: r => K tr lv r mm g
  | _ => False
/-- a switch: the target by the number -/
def o_sw (f : Int → Nat) : oOp := fun lv st mm g K _ => match st with
  | .inl x :: r => inR x ∧ K (f x) lv r mm g
  | _ => False
def o_getI (c : List Nat) (k nx : Nat) : oOp := fun lv st mm g K _ => match st with
  | .inr (.inr (.inl (some h))) :: r => sK mm.1 h ∈ c ∧ K nx lv (.inl (mm.2.1 h k) :: r) mm g
  | _ => False
def o_getL (c : List Nat) (k nx : Nat) : oOp := fun lv st mm g K _ => match st with
  | .inr (.inr (.inl (some h))) :: r => sK mm.1 h ∈ c ∧ K nx lv (.inr (.inl (mm.2.2 h k)) :: r) mm g
  | _ => False
def o_getR (c : List Nat) (k nx : Nat) : oOp := fun lv st mm g K _ => match st with
  | .inr (.inr (.inl (some h))) :: r => sK mm.1 h ∈ c ∧ ∃ q, sR mm.1 h k = some q ∧ K nx lv (.inr (.inr (.inl (some q))) :: r) mm g
  | _ => False
def o_putI (c : List Nat) (k nx : Nat) : oOp := fun lv st mm g K _ => match st with
  | .inl v :: .inr (.inr (.inl (some h))) :: r => sK mm.1 h ∈ c ∧ K nx lv r (mm.1, u2 mm.2.1 h k v, mm.2.2) g
  | _ => False
def o_putZ (c : List Nat) (k nx : Nat) : oOp := fun lv st mm g K _ => match st with
  | .inl v :: .inr (.inr (.inl (some h))) :: r => (sK mm.1 h ∈ c ∧ (v = 0 ∨ v = 1)) ∧ K nx lv r (mm.1, u2 mm.2.1 h k v, mm.2.2) g
  | _ => False
def o_putL (c : List Nat) (k nx : Nat) : oOp := fun lv st mm g K _ => match st with
  | .inr (.inl v) :: .inr (.inr (.inl (some h))) :: r => sK mm.1 h ∈ c ∧ K nx lv r (mm.1, mm.2.1, u2L mm.2.2 h k v) g
  | _ => False
def o_putR (c : List Nat) (k nx : Nat) : oOp := fun lv st mm g K _ => match st with
  | .inr (.inr (.inl v)) :: .inr (.inr (.inl (some h))) :: r => sK mm.1 h ∈ c ∧ K nx lv r (sPutR mm.1 h k v, mm.2) g
  | _ => False
/-- arrays of numbers: kind 13 int, 14 byte, 15 boolean -/
def o_xald (c : Nat) (nx : Nat) : oOp := fun lv st mm g K _ => match st with
  | .inl i :: .inr (.inr (.inl (some h))) :: r => (sK mm.1 h = c ∧ 0 ≤ i ∧ i < (sL mm.1 h : Int)) ∧ K nx lv (.inl (mm.2.1 h i.toNat) :: r) mm g
  | _ => False
def o_iast (nx : Nat) : oOp := fun lv st mm g K _ => match st with
  | .inl v :: .inl i :: .inr (.inr (.inl (some h))) :: r => (sK mm.1 h = 13 ∧ 0 ≤ i ∧ i < (sL mm.1 h : Int)) ∧ K nx lv r (mm.1, u2 mm.2.1 h i.toNat v, mm.2.2) g
  | _ => False
def o_bast (nx : Nat) : oOp := fun lv st mm g K _ => match st with
  | .inl v :: .inl i :: .inr (.inr (.inl (some h))) :: r => (sK mm.1 h = 14 ∧ 0 ≤ i ∧ i < (sL mm.1 h : Int) ∧ -128 ≤ v ∧ v ≤ 127) ∧ K nx lv r (mm.1, u2 mm.2.1 h i.toNat v, mm.2.2) g
  | _ => False
def o_zast (nx : Nat) : oOp := fun lv st mm g K _ => match st with
  | .inl v :: .inl i :: .inr (.inr (.inl (some h))) :: r => (sK mm.1 h = 15 ∧ 0 ≤ i ∧ i < (sL mm.1 h : Int) ∧ (v = 0 ∨ v = 1)) ∧ K nx lv r (mm.1, u2 mm.2.1 h i.toNat v, mm.2.2) g
  | _ => False
def o_aald (c : Nat) (nx : Nat) : oOp := fun lv st mm g K _ => match st with
  | .inl i :: .inr (.inr (.inl (some h))) :: r => (sK mm.1 h = c ∧ 0 ≤ i ∧ i < (sL mm.1 h : Int)) ∧ ∃ q, sR mm.1 h i.toNat = some q ∧ K nx lv (.inr (.inr (.inl (some q))) :: r) mm g
  | _ => False
def o_aast (c : Nat) (cs : List Nat) (nx : Nat) : oOp := fun lv st mm g K _ => match st with
  | .inr (.inr (.inl (some v))) :: .inl i :: .inr (.inr (.inl (some h))) :: r => (sK mm.1 h = c ∧ 0 ≤ i ∧ i < (sL mm.1 h : Int) ∧ sK mm.1 v ∈ cs) ∧ K nx lv r (sPutR mm.1 h i.toNat (some v), mm.2) g
  | _ => False
def o_alen (nx : Nat) : oOp := fun lv st mm g K _ => match st with
  | .inr (.inr (.inl (some h))) :: r => (12 < sK mm.1 h ∧ sK mm.1 h < 18) ∧ K nx lv (.inl (sL mm.1 h) :: r) mm g
  | _ => False
def o_new (c n : Nat) (mc ms : Nat) (nx : Nat) : oOp := fun lv st mm g K _ => (g.1 + 1 ≤ mc ∧ g.2 + n ≤ ms) ∧ K nx lv (.inr (.inr (.inl (some (sN mm.1)))) :: st) (sNew mm.1 c 0, iNew mm.1 mm.2.1, lNew mm.1 mm.2.2) (g.1 + 1, g.2 + n)
def o_newa (c : Nat) (mc ms : Nat) (nx : Nat) : oOp := fun lv st mm g K _ => match st with
  | .inl n :: r => (0 ≤ n ∧ n ≤ 65536 ∧ g.1 + 1 ≤ mc ∧ g.2 + n.toNat ≤ ms) ∧ K nx lv (.inr (.inr (.inl (some (sN mm.1)))) :: r) (sNew mm.1 c n.toNat, iNew mm.1 mm.2.1, lNew mm.1 mm.2.2) (g.1 + 1, g.2 + n.toNat)
  | _ => False
/-- instanceof, by the kinds that are so and those that are not -/
def o_inst (yes no : List Nat) (nx : Nat) : oOp := fun lv st mm g K _ => match st with
  | .inr (.inr (.inl (some h))) :: r => (sK mm.1 h ∈ yes ∧ K nx lv (.inl 1 :: r) mm g) ∨ (sK mm.1 h ∈ no ∧ K nx lv (.inl 0 :: r) mm g)
  | _ => False
def o_cast (yes : List Nat) (nx : Nat) : oOp := fun lv st mm g K _ => match st with
  | .inr (.inr (.inl (some h))) :: r => sK mm.1 h ∈ yes ∧ K nx lv (.inr (.inr (.inl (some h))) :: r) mm g
  | _ => False
/-- a call: k values of the stack, the lowest first -/
def o_call (T : List oA → oM → oQ → Prop) (k : Nat) (mc ms : Nat) (Mc Ms : Nat) (nx : Nat) : oOp := fun lv st mm g K _ => (k ≤ st.length ∧ oCat (st.drop k) ≤ 8 ∧ g.1 + mc ≤ Mc ∧ g.2 + ms ≤ Ms) ∧ T (st.take k).reverse mm (fun r mm' => K nx lv (r.toList ++ st.drop k) mm' (g.1 + mc, g.2 + ms))
/-- a call on an object of a kind: k values above it -/
def o_callo (T : List oA → oM → oQ → Prop) (ci k : Nat) (mc ms : Nat) (Mc Ms : Nat) (nx : Nat) : oOp := fun lv st mm g K _ => match st.drop k with
  | .inr (.inr (.inl (some h))) :: r => (sK mm.1 h = ci ∧ k ≤ st.length ∧ oCat r ≤ 8 ∧ g.1 + mc ≤ Mc ∧ g.2 + ms ≤ Ms) ∧ T (.inr (.inr (.inl (some h))) :: (st.take k).reverse) mm (fun v mm' => K nx lv (v.toList ++ r) mm' (g.1 + mc, g.2 + ms))
  | _ => False
/-- a constructor's call: k values above the object -/
def o_calli (T : List oA → oM → oQ → Prop) (k : Nat) (mc ms : Nat) (Mc Ms : Nat) (nx : Nat) : oOp := fun lv st mm g K _ => match st.drop k with
  | .inr (.inr (.inl (some h))) :: r => (k ≤ st.length ∧ oCat r ≤ 8 ∧ g.1 + mc ≤ Mc ∧ g.2 + ms ≤ Ms) ∧ T (.inr (.inr (.inl (some h))) :: (st.take k).reverse) mm (fun v mm' => K nx lv (v.toList ++ r) mm' (g.1 + mc, g.2 + ms))
  | _ => False
/-- a call by the receiver's kind -/
def o_callV (Ts : List (Nat × (List oA → oM → oQ → Prop))) (k : Nat) (Mc Ms : Nat) (nx : Nat) : oOp := fun lv st mm g K _ => match st.drop k with
  | .inr (.inr (.inl (some h))) :: r => (k ≤ st.length ∧ oCat r ≤ 8 ∧ g.1 ≤ Mc ∧ g.2 ≤ Ms) ∧ ∃ q ∈ Ts, sK mm.1 h = q.1 ∧ q.2 (.inr (.inr (.inl (some h))) :: (st.take k).reverse) mm (fun v mm' => K nx lv (v.toList ++ r) mm' g)
  | _ => False
def o_math1 (f : Int → Int) (Mc Ms : Nat) (nx : Nat) : oOp := fun lv st mm g K _ => match st with
  | .inl x :: r => (inR x ∧ -2147483648 < x ∧ oCat r ≤ 8 ∧ g.1 ≤ Mc ∧ g.2 ≤ Ms) ∧ K nx lv (.inl (f x) :: r) mm g
  | _ => False
def o_math2 (f : Int → Int → Int) (Mc Ms : Nat) (nx : Nat) : oOp := fun lv st mm g K _ => match st with
  | .inl y :: .inl x :: r => (inR x ∧ inR y ∧ oCat r ≤ 8 ∧ g.1 ≤ Mc ∧ g.2 ≤ Ms) ∧ K nx lv (.inl (f x y) :: r) mm g
  | _ => False
def oCpy (I : Nat → Nat → Int) (hs sp hd dp n : Nat) : Nat → Nat → Int := fun h k => if h = hd then (if dp ≤ k ∧ k < dp + n then I hs (sp + (k - dp)) else I h k) else I h k
def o_copy (nx : Nat) : oOp := fun lv st mm g K _ => match st with
  | .inl n :: .inl dp :: .inr (.inr (.inl (some hd))) :: .inl sp :: .inr (.inr (.inl (some hs))) :: r => (sK mm.1 hs = 13 ∧ sK mm.1 hd = 13 ∧ 0 ≤ n ∧ 0 ≤ sp ∧ 0 ≤ dp ∧ sp + n ≤ (sL mm.1 hs : Int) ∧ dp + n ≤ (sL mm.1 hd : Int) ∧ oCat r ≤ 8) ∧ K nx lv r (mm.1, oCpy mm.2.1 hs sp.toNat hd dp.toNat n.toNat, mm.2.2) g
  | _ => False
def o_ret0 (mc ms : Nat) : oOp := fun _ st mm g _ Q => st = [] ∧ (g.1 ≤ mc ∧ g.2 ≤ ms) ∧ Q none mm
def o_reti (mc ms : Nat) : oOp := fun _ st mm g _ Q => match st with
  | [.inl x] => (g.1 ≤ mc ∧ g.2 ≤ ms) ∧ Q (some (.inl x)) mm
  | _ => False
def o_retz (mc ms : Nat) : oOp := fun _ st mm g _ Q => match st with
  | [.inl x] => ((x = 0 ∨ x = 1) ∧ g.1 ≤ mc ∧ g.2 ≤ ms) ∧ Q (some (.inl x)) mm
  | _ => False
def o_retl (mc ms : Nat) : oOp := fun _ st mm g _ Q => match st with
  | [.inr (.inl x)] => (g.1 ≤ mc ∧ g.2 ≤ ms) ∧ Q (some (.inr (.inl x))) mm
  | _ => False
def o_reta (mc ms : Nat) : oOp := fun _ st mm g _ Q => match st with
  | [.inr (.inr x)] => (g.1 ≤ mc ∧ g.2 ≤ ms) ∧ Q (some (.inr (.inr x))) mm
  | _ => False
/-- Object's own start -/
def o_obj (nx : Nat) : oOp := fun lv st mm g K _ => match st with
  | .inr (.inr (.inl (some _))) :: r => oCat r ≤ 8 ∧ K nx lv r mm g
  | _ => False
