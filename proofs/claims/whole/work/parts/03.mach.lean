/-! ===== the small machine: values, heap, code, run ===== -/
/-- a value: an int, a long, a reference (0 null, 1 the script, from 2 on the cells) -/
abbrev AV : Type := Int ⊕ (BitVec 64 ⊕ Nat)
abbrev aI (x : Int) : AV := .inl x
abbrev aL (x : BitVec 64) : AV := .inr (.inl x)
abbrev aR (x : Nat) : AV := .inr (.inr x)
/-- an instruction: what it does, two numbers, places of the code -/
abbrev AI : Type := Nat × Nat × Int × List Nat
/-- the heap: the next cell and the slots so far; of each cell its kind and length, its ints, its longs, its references -/
abbrev Hp : Type := (Nat × Nat) × (Nat → Nat × Nat) × (Nat → Nat → Int) × (Nat → Nat → BitVec 64) × (Nat → Nat → Nat)
abbrev ALS : Type := List (Option AV)
def hN (h : Hp) : Nat := h.1.1
def hS (h : Hp) : Nat := h.1.2
def hT (h : Hp) : Nat → Nat × Nat := h.2.1
def hI (h : Hp) : Nat → Nat → Int := h.2.2.1
def hL (h : Hp) : Nat → Nat → BitVec 64 := h.2.2.2.1
def hR (h : Hp) : Nat → Nat → Nat := h.2.2.2.2
def up2 {α : Type} (f : Nat → Nat → α) (x k : Nat) (v : α) : Nat → Nat → α := fun y j => if y = x ∧ j = k then v else f y j
def setI (h : Hp) (x k : Nat) (v : Int) : Hp := (h.1, h.2.1, up2 (hI h) x k v, h.2.2.2)
def setL (h : Hp) (x k : Nat) (v : BitVec 64) : Hp := (h.1, h.2.1, h.2.2.1, up2 (hL h) x k v, h.2.2.2.2)
def setR (h : Hp) (x k : Nat) (v : Nat) : Hp := (h.1, h.2.1, h.2.2.1, h.2.2.2.1, up2 (hR h) x k v)
def newH (h : Hp) (t n : Nat) : Hp := ((hN h + 1, hS h + n), (fun y => if y = hN h then (t, n) else hT h y), (fun y k => if y = hN h then 0 else hI h y k), (fun y k => if y = hN h then 0 else hL h y k), (fun y k => if y = hN h then 0 else hR h y k))
/-- ints wrap -/
def wr (x : Int) : Int := if -2147483648 ≤ x ∧ x < 2147483648 then x else Int.bmod x 4294967296
def inR (x : Int) : Prop := -2147483648 ≤ x ∧ x < 2147483648
def i32 (x : Int) : Int32 := Int32.ofInt x
def l64 (x : BitVec 64) : Int64 := Int64.ofBitVec x
def divI (x y : Int) : Int := (i32 x / i32 y).toInt
def remI (x y : Int) : Int := (i32 x - i32 x / i32 y * i32 y).toInt
def andI (x y : Int) : Int := (i32 x &&& i32 y).toInt
def orI (x y : Int) : Int := (i32 x ||| i32 y).toInt
def shrI (x y : Int) : Int := (i32 x >>> (i32 y &&& 31)).toInt
def lushr (x : BitVec 64) (y : Int) : BitVec 64 := ((l64 x).toUInt64 >>> ((i32 y).toInt64.toUInt64 &&& Int64.toUInt64 63)).toInt64.toBitVec
def lshl (x : BitVec 64) (y : Int) : BitVec 64 := (l64 x <<< ((i32 y).toInt64 &&& 63)).toBitVec
def l2i (x : BitVec 64) : Int := (l64 x).toInt32.toInt
def lcmpA (x y : BitVec 64) : Int := (lg_cmp (l64 x) (l64 y)).toInt
/-- is cell x of kind t, and i one of its places -/
def inA (h : Hp) (x t : Nat) (i : Int) : Bool := decide ((hT h x).1 = t) && (decide (0 ≤ i) && decide (i < ((hT h x).2 : Int)))
/-- is cell x an object of class ci -/
def isO (h : Hp) (x ci : Nat) : Bool := decide ((hT h x).1 = 10 + ci)
/-- locals: storing a value of one slot, of two -/
def ls1 : ALS → Nat → AV → ALS
  | [], _, _ => []
  | _ :: l, 0, v => some v :: l
  | some (.inr (.inl _)) :: l, 1, v => none :: ls1 l 0 v
  | a :: l, i + 1, v => a :: ls1 l i v
def ls2 : ALS → Nat → AV → ALS
  | [], _, _ => []
  | [a], _, _ => [a]
  | _ :: _ :: l, 0, v => some v :: none :: l
  | some (.inr (.inl _)) :: l, 1, v => none :: ls2 l 0 v
  | a :: l, i + 1, v => a :: ls2 l i v
/-- locals at a method's entry: n slots -/
def ent : Nat → List AV → Option ALS
  | 0, [] => some []
  | 0, _ :: _ => none
  | n + 1, [] => (ent n []).map (none :: ·)
  | n + 1, .inl x :: r => (ent n r).map (some (.inl x) :: ·)
  | n + 1, .inr (.inr x) :: r => (ent n r).map (some (.inr (.inr x)) :: ·)
  | 1, .inr (.inl _) :: _ => none
  | n + 2, .inr (.inl x) :: r => (ent n r).map fun l => some (.inr (.inl x)) :: none :: l
def ldI (ls : ALS) (a : Nat) : Option Int := match ls[a]? with
  | some (some (.inl x)) => some x
  | _ => none
def ldL (ls : ALS) (a : Nat) : Option (BitVec 64) := match ls[a]? with
  | some (some (.inr (.inl x))) => some x
  | _ => none
def ldR (ls : ALS) (a : Nat) : Option Nat := match ls[a]? with
  | some (some (.inr (.inr x))) => some x
  | _ => none
abbrev S3 : Type := ALS × List AV × Hp
def op2 (f : Int → Int → Option Int) (ls : ALS) (st : List AV) (h : Hp) : Option S3 := match st with
  | .inl y :: .inl x :: r => (f x y).map fun z => (ls, .inl z :: r, h)
  | _ => none
def op2L (f : BitVec 64 → BitVec 64 → AV) (ls : ALS) (st : List AV) (h : Hp) : Option S3 := match st with
  | .inr (.inl y) :: .inr (.inl x) :: r => some (ls, f x y :: r, h)
  | _ => none
def opSh (f : BitVec 64 → Int → BitVec 64) (ls : ALS) (st : List AV) (h : Hp) : Option S3 := match st with
  | .inl y :: .inr (.inl x) :: r => some (ls, aL (f x y) :: r, h)
  | _ => none
def op1L (f : BitVec 64 → AV) (ls : ALS) (st : List AV) (h : Hp) : Option S3 := match st with
  | .inr (.inl x) :: r => some (ls, f x :: r, h)
  | _ => none
def opStI (a : Nat) (ls : ALS) (st : List AV) (h : Hp) : Option S3 := match st with
  | .inl x :: r => if a < ls.length then some (ls1 ls a (.inl x), r, h) else none
  | _ => none
def opStL (a : Nat) (ls : ALS) (st : List AV) (h : Hp) : Option S3 := match st with
  | .inr (.inl x) :: r => if a + 1 < ls.length then some (ls2 ls a (aL x), r, h) else none
  | _ => none
def opStR (a : Nat) (ls : ALS) (st : List AV) (h : Hp) : Option S3 := match st with
  | .inr (.inr x) :: r => if a < ls.length then some (ls1 ls a (aR x), r, h) else none
  | _ => none
def opInc (a : Nat) (b : Int) (ls : ALS) (st : List AV) (h : Hp) : Option S3 := match ls[a]? with
  | some (some (.inl x)) => some (ls1 ls a (.inl (wr (x + b))), st, h)
  | _ => none
def cat1 (v : AV) : Bool := match v with
  | .inr (.inl _) => false
  | _ => true
def opDup (ls : ALS) (st : List AV) (h : Hp) : Option S3 := match st with
  | v :: r => if cat1 v then some (ls, v :: v :: r, h) else none
  | _ => none
def opDup2 (ls : ALS) (st : List AV) (h : Hp) : Option S3 := match st with
  | v :: w :: r => if cat1 v && cat1 w then some (ls, v :: w :: v :: w :: r, h) else none
  | _ => none
def opPop (ls : ALS) (st : List AV) (h : Hp) : Option S3 := match st with
  | v :: r => if cat1 v then some (ls, r, h) else none
  | _ => none
/-- fields: a = 64 * class + place -/
def opGet (f : Nat → Nat → AV) (a : Nat) (ls : ALS) (st : List AV) (h : Hp) : Option S3 := match st with
  | .inr (.inr x) :: r => if isO h x (a / 64) then some (ls, f x (a % 64) :: r, h) else none
  | _ => none
def opPutI (a : Nat) (ls : ALS) (st : List AV) (h : Hp) : Option S3 := match st with
  | .inl v :: .inr (.inr x) :: r => if isO h x (a / 64) then some (ls, r, setI h x (a % 64) v) else none
  | _ => none
def opPutZ (a : Nat) (ls : ALS) (st : List AV) (h : Hp) : Option S3 := match st with
  | .inl v :: .inr (.inr x) :: r => if isO h x (a / 64) && (decide (v = 0) || decide (v = 1)) then some (ls, r, setI h x (a % 64) v) else none
  | _ => none
def opPutL (a : Nat) (ls : ALS) (st : List AV) (h : Hp) : Option S3 := match st with
  | .inr (.inl v) :: .inr (.inr x) :: r => if isO h x (a / 64) then some (ls, r, setL h x (a % 64) v) else none
  | _ => none
def opPutR (a : Nat) (ls : ALS) (st : List AV) (h : Hp) : Option S3 := match st with
  | .inr (.inr v) :: .inr (.inr x) :: r => if isO h x (a / 64) && !(v == 1) then some (ls, r, setR h x (a % 64) v) else none
  | _ => none
/-- arrays of kind t -/
def opAld (t : Nat) (f : Nat → Nat → AV) (ls : ALS) (st : List AV) (h : Hp) : Option S3 := match st with
  | .inl i :: .inr (.inr x) :: r => if inA h x t i then some (ls, f x i.toNat :: r, h) else none
  | _ => none
def opAstI (ls : ALS) (st : List AV) (h : Hp) : Option S3 := match st with
  | .inl v :: .inl i :: .inr (.inr x) :: r => if inA h x 1 i then some (ls, r, setI h x i.toNat v) else none
  | _ => none
def opAstZ (ls : ALS) (st : List AV) (h : Hp) : Option S3 := match st with
  | .inl v :: .inl i :: .inr (.inr x) :: r => if inA h x 3 i && (decide (v = 0) || decide (v = 1)) then some (ls, r, setI h x i.toNat v) else none
  | _ => none
def opAstL (ls : ALS) (st : List AV) (h : Hp) : Option S3 := match st with
  | .inr (.inl v) :: .inl i :: .inr (.inr x) :: r => if inA h x 2 i then some (ls, r, setL h x i.toNat v) else none
  | _ => none
def opAstR (ls : ALS) (st : List AV) (h : Hp) : Option S3 := match st with
  | .inr (.inr v) :: .inl i :: .inr (.inr x) :: r => if inA h x 4 i && isO h v 2 then some (ls, r, setR h x i.toNat v) else none
  | _ => none
def opLen (ls : ALS) (st : List AV) (h : Hp) : Option S3 := match st with
  | .inr (.inr x) :: r => if decide (1 ≤ (hT h x).1) && decide ((hT h x).1 ≤ 4) then some (ls, .inl ((hT h x).2 : Int) :: r, h) else none
  | _ => none
def opNewA (t : Nat) (ls : ALS) (st : List AV) (h : Hp) : Option S3 := match st with
  | .inl n :: r => if decide (0 ≤ n) && decide (n ≤ 65536) then some (ls, aR (hN h) :: r, newH h t n.toNat) else none
  | _ => none
/-- the script: its length, its ints -/
abbrev Scr : Type := Nat × (Nat → Int)
def opSld (sc : Scr) (ls : ALS) (st : List AV) (h : Hp) : Option S3 := match st with
  | .inl i :: .inr (.inr 1) :: r => if decide (0 ≤ i) && decide (i < (sc.1 : Int)) then some (ls, .inl (sc.2 i.toNat) :: r, h) else none
  | _ => none
def opSlen (sc : Scr) (ls : ALS) (st : List AV) (h : Hp) : Option S3 := match st with
  | .inr (.inr 1) :: r => some (ls, .inl (sc.1 : Int) :: r, h)
  | _ => none
def opObj (ls : ALS) (st : List AV) (h : Hp) : Option S3 := match st with
  | [.inr (.inr x)] => if x == 0 || x == 1 then none else some (ls, [], h)
  | _ => none
/-- the instructions that go on to the next one -/
def sem1 (sc : Scr) (t a : Nat) (b : Int) (ls : ALS) (st : List AV) (h : Hp) : Option S3 := match t with
  | 0 => some (ls, .inl b :: st, h)
  | 1 => some (ls, aL (BitVec.ofInt 64 b) :: st, h)
  | 2 => some (ls, aR 0 :: st, h)
  | 3 => (ldI ls a).map fun x => (ls, .inl x :: st, h)
  | 4 => (ldL ls a).map fun x => (ls, aL x :: st, h)
  | 5 => (ldR ls a).map fun x => (ls, aR x :: st, h)
  | 6 => opStI a ls st h
  | 7 => opStL a ls st h
  | 8 => opStR a ls st h
  | 9 => opInc a b ls st h
  | 10 => op2 (fun x y => some (wr (x + y))) ls st h
  | 11 => op2 (fun x y => some (wr (x - y))) ls st h
  | 12 => op2 (fun x y => some (wr (x * y))) ls st h
  | 13 => op2 (fun x y => if y = 0 then none else some (divI x y)) ls st h
  | 14 => op2 (fun x y => if y = 0 then none else some (remI x y)) ls st h
  | 15 => op2 (fun x y => some (andI x y)) ls st h
  | 16 => op2 (fun x y => some (orI x y)) ls st h
  | 17 => op2 (fun x y => some (shrI x y)) ls st h
  | 18 => op2L (fun x y => aL (x + y)) ls st h
  | 19 => op2L (fun x y => aL (x - y)) ls st h
  | 20 => op2L (fun x y => aL (x &&& y)) ls st h
  | 21 => op2L (fun x y => aL (x ||| y)) ls st h
  | 22 => op2L (fun x y => aL (x ^^^ y)) ls st h
  | 23 => op1L (fun x => aL (-x)) ls st h
  | 24 => opSh lushr ls st h
  | 25 => opSh lshl ls st h
  | 26 => op1L (fun x => aI (l2i x)) ls st h
  | 27 => op2L (fun x y => aI (lcmpA x y)) ls st h
  | 28 => opDup ls st h
  | 29 => opDup2 ls st h
  | 30 => opPop ls st h
  | 31 => opGet (fun x k => aI (hI h x k)) a ls st h
  | 32 => opGet (fun x k => aL (hL h x k)) a ls st h
  | 33 => opGet (fun x k => aR (hR h x k)) a ls st h
  | 34 => opPutI a ls st h
  | 35 => opPutZ a ls st h
  | 36 => opPutL a ls st h
  | 37 => opPutR a ls st h
  | 38 => opAld 1 (fun x k => aI (hI h x k)) ls st h
  | 39 => opAld 2 (fun x k => aL (hL h x k)) ls st h
  | 40 => opAld 3 (fun x k => aI (hI h x k)) ls st h
  | 41 => opAld 4 (fun x k => aR (hR h x k)) ls st h
  | 42 => opAstI ls st h
  | 43 => opAstL ls st h
  | 44 => opAstZ ls st h
  | 45 => opAstR ls st h
  | 46 => opLen ls st h
  | 47 => opNewA 1 ls st h
  | 48 => opNewA 2 ls st h
  | 49 => opNewA 3 ls st h
  | 50 => opNewA 4 ls st h
  | 51 => some (ls, aR (hN h) :: st, newH h (10 + a) b.toNat)
  | 52 => opObj ls st h
  | 53 => opSld sc ls st h
  | 54 => opSlen sc ls st h
  | _ => none
def cnd (a : Nat) (x y : Int) : Bool := match a with
  | 0 => decide (x = y)
  | 1 => decide (¬ x = y)
  | 2 => decide (x < y)
  | 3 => decide (y ≤ x)
  | 4 => decide (y < x)
  | _ => decide (x ≤ y)
/-- the target of a tableswitch: the default, the targets from lo on -/
def tsw (x lo : Int) (d : Nat) : List Nat → Nat
  | [] => d
  | t :: ts => if x = lo then t else tsw x (lo + 1) d ts
/-- the target of a lookupswitch -/
def lsw (x : Int) (d : Nat) : List Nat → Nat
  | k :: t :: ts => if x = (k : Int) then t else lsw x d ts
  | _ => d
abbrev Out : Type := Option AV × Hp
/-- what a method's end answers: 0 void, 1 int, 2 long, 3 reference, 4 boolean -/
def retv (t : Nat) (st : List AV) : Option (Option AV) := match t, st with
  | 60, [] => some none
  | 61, [.inl x] => some (some (.inl x))
  | 62, [.inr (.inl x)] => some (some (aL x))
  | 63, [.inr (.inr x)] => if x == 1 then none else some (some (aR x))
  | 64, [.inl x] => if x = 0 ∨ x = 1 then some (some (.inl x)) else none
  | _, _ => none
/-- the receiver of a call is an object of the class -/
def rcv (h : Hp) (L : List Nat) (args : List AV) : Bool := match L, args with
  | ci :: _, .inr (.inr x) :: _ => isO h x ci
  | _, _ => false
/-- the code from place i of method m on; a method's slots -/
abbrev Prg : Type := (Nat → List AI) × (Nat → Nat)
def run (P : Prg) (sc : Scr) : Nat → Nat → List AI → ALS → List AV → Hp → Option Out
  | 0, _, _, _, _, _ => none
  | _ + 1, _, [], _, _, _ => none
  | n + 1, m, (t, a, b, L) :: c, ls, st, h =>
    if t < 55 then
      match sem1 sc t a b ls st h with
      | some (ls', st', h') => run P sc n m c ls' st' h'
      | none => none
    else match t with
    | 55 => run P sc n m ((P.1 m).drop a) ls st h
    | 56 => match st with
      | .inl x :: r => if cnd a x 0 then run P sc n m ((P.1 m).drop b.toNat) ls r h else run P sc n m c ls r h
      | _ => none
    | 57 => match st with
      | .inl y :: .inl x :: r => if cnd a x y then run P sc n m ((P.1 m).drop b.toNat) ls r h else run P sc n m c ls r h
      | _ => none
    | 58 => match st with
      | .inr (.inr x) :: r => if x = 0 then run P sc n m ((P.1 m).drop a) ls r h else run P sc n m c ls r h
      | _ => none
    | 59 => match st with
      | .inr (.inr x) :: r => if x = 0 then run P sc n m c ls r h else run P sc n m ((P.1 m).drop a) ls r h
      | _ => none
    | 65 => match st with
      | .inl x :: r => run P sc n m ((P.1 m).drop (tsw x b a L)) ls r h
      | _ => none
    | 66 => match st with
      | .inl x :: r => run P sc n m ((P.1 m).drop (lsw x a L)) ls r h
      | _ => none
    | 67 => if st.length < b.toNat || b.toNat + 4 < st.length then none else
      match ent (P.2 a) (st.take b.toNat).reverse with
      | some l0 => match run P sc n a (P.1 a) l0 [] h with
        | some (r, h') => run P sc n m c ls (r.toList ++ st.drop b.toNat) h'
        | none => none
      | none => none
    | 68 => if st.length < b.toNat || b.toNat + 4 < st.length || !(rcv h L (st.take b.toNat).reverse) then none else
      match ent (P.2 a) (st.take b.toNat).reverse with
      | some l0 => match run P sc n a (P.1 a) l0 [] h with
        | some (r, h') => run P sc n m c ls (r.toList ++ st.drop b.toNat) h'
        | none => none
      | none => none
    | t => (retv t st).map fun r => (r, h)
