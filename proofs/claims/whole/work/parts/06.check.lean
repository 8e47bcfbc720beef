/-! ===== the code tables against the bytes ===== -/
def pcsT (m : Nat) : List Nat := (rowsT m).map (·.1)
def codeT (m : Nat) : List AI := (rowsT m).map (·.2.2.2)
abbrev PP : Prg := (codeT, mL)
/-- the place of a jump -/
def jmp (pcs : List Nat) (pc : Nat) (off : Int) (a : Nat) : Bool := match pcs[a]? with
  | some q => decide ((pc : Int) + off = (q : Int))
  | none => false
def lidx (ins : Instr) (ln a : Nat) (f : Nat → Instr) (g : Fin 4 → Instr) : Bool := (decide (ins = f a) && decide (ln = 2)) || (if h : a < 4 then decide (ins = g ⟨a, h⟩) && decide (ln = 1) else false)
def isRef (t : FieldType) : Bool := match t with
  | .object _ => true
  | .array _ => true
  | _ => false
def isRefO (t : Option FieldType) : Bool := match t with
  | some t => isRef t
  | none => false
/-- a field instruction: its class and place -/
def fok (m idx a : Nat) : Bool := flist.contains (mC m, idx, a) && (decide (a % 64 < nF (a / 64)) && decide (a / 64 < 7))
def isInit (m : Nat) : Bool := (mY m).name == "<init>"
/-- may method m put field a -/
def fput (m a : Nat) : Bool := !((fT (a / 64) (a % 64)).2.2.2) || (isInit m && (mC m == a / 64))
def params (d : String) : Option Nat := (parseMethodDescriptor d).map fun d => d.parameters.length
def plainC (v : Nat) : Bool := decide ((mY v).cls ≠ "java/lang/invoke/MethodHandle") && decide ((mY v).cls ≠ "java/lang/invoke/VarHandle") && decide ((mY v).cls = cnm (mC v)) && plainName (mY v).cls
/-- method m may call v with k arguments beside a receiver -/
def cok (m v k : Nat) : Bool := alist.contains v && (decide (mF v + 1 ≤ mF m) && (decide (8 + (mL v + 11) + mO v ≤ mO m) && decide (mC v < 11)))
/-- the offsets of a tableswitch -/
def offs (pcs : List Nat) (pc : Nat) : List Int → List Nat → Bool
  | [], [] => true
  | o :: os, t :: ts => jmp pcs pc o t && offs pcs pc os ts
  | _, _ => false
def loffs (pcs : List Nat) (pc : Nat) : List (Int × Int) → List Nat → Bool
  | [], [] => true
  | (x, o) :: os, k :: t :: ts => decide (x = (k : Int)) && (jmp pcs pc o t && loffs pcs pc os ts)
  | _, _ => false
def cndI (a : Nat) : Option ClassFile.Cond := match a with
  | 0 => some .eq
  | 1 => some .ne
  | 2 => some .lt
  | 3 => some .ge
  | 4 => some .gt
  | 5 => some .le
  | _ => none
def okT (m : Nat) (pcs : List Nat) (pc : Nat) (ins : Instr) (ln t a : Nat) (b : Int) (L : List Nat) : Bool := match t with
  | 0 => decide (-2147483648 ≤ b ∧ b < 2147483648) && ((decide (ins = .iconst b) && decide (ln = 1)) || (decide (ins = .bipush b) && decide (ln = 2) && decide (-128 ≤ b ∧ b < 128)) || (decide (ins = .sipush b) && decide (ln = 3) && decide (-32768 ≤ b ∧ b < 32768)) || (decide (ins = .ldc a) && decide (ln = 2) && klist.contains (mC m, a, b)))
  | 1 => (decide (ins = .lconst 0) && decide (ln = 1) && decide (b = 0)) || (decide (ins = .lconst 1) && decide (ln = 1) && decide (b = 1)) || (decide (ins = .ldc2_w a) && decide (ln = 3) && jlist.contains (mC m, a, b))
  | 2 => decide (ins = .aconst_null) && decide (ln = 1)
  | 3 => lidx ins ln a .iload .iload_n
  | 4 => lidx ins ln a .lload .lload_n
  | 5 => lidx ins ln a .aload .aload_n
  | 6 => lidx ins ln a .istore .istore_n
  | 7 => lidx ins ln a .lstore .lstore_n
  | 8 => lidx ins ln a .astore .astore_n
  | 9 => decide (ins = .iinc a b) && decide (ln = 3)
  | 10 => decide (ins = .iadd) && decide (ln = 1)
  | 11 => decide (ins = .isub) && decide (ln = 1)
  | 12 => decide (ins = .imul) && decide (ln = 1)
  | 13 => decide (ins = .idiv) && decide (ln = 1)
  | 14 => decide (ins = .irem) && decide (ln = 1)
  | 15 => decide (ins = .iand) && decide (ln = 1)
  | 16 => decide (ins = .ior) && decide (ln = 1)
  | 17 => decide (ins = .ishr) && decide (ln = 1)
  | 18 => decide (ins = .ladd) && decide (ln = 1)
  | 19 => decide (ins = .lsub) && decide (ln = 1)
  | 20 => decide (ins = .land) && decide (ln = 1)
  | 21 => decide (ins = .lor) && decide (ln = 1)
  | 22 => decide (ins = .lxor) && decide (ln = 1)
  | 23 => decide (ins = .lneg) && decide (ln = 1)
  | 24 => decide (ins = .lushr) && decide (ln = 1)
  | 25 => decide (ins = .lshl) && decide (ln = 1)
  | 26 => decide (ins = .l2i) && decide (ln = 1)
  | 27 => decide (ins = .lcmp) && decide (ln = 1)
  | 28 => decide (ins = .dup) && decide (ln = 1)
  | 29 => decide (ins = .dup2) && decide (ln = 1)
  | 30 => decide (ins = .pop) && decide (ln = 1)
  | 31 => match ins with
    | .getfield idx => decide (ln = 3) && (fok m idx a && (decide (fty (a / 64) (a % 64) = .int) || decide (fty (a / 64) (a % 64) = .boolean)))
    | _ => false
  | 32 => match ins with
    | .getfield idx => decide (ln = 3) && (fok m idx a && decide (fty (a / 64) (a % 64) = .long))
    | _ => false
  | 33 => match ins with
    | .getfield idx => decide (ln = 3) && (fok m idx a && isRef (fty (a / 64) (a % 64)))
    | _ => false
  | 34 => match ins with
    | .putfield idx => decide (ln = 3) && (fok m idx a && (decide (fty (a / 64) (a % 64) = .int) && fput m a))
    | _ => false
  | 35 => match ins with
    | .putfield idx => decide (ln = 3) && (fok m idx a && (decide (fty (a / 64) (a % 64) = .boolean) && fput m a))
    | _ => false
  | 36 => match ins with
    | .putfield idx => decide (ln = 3) && (fok m idx a && (decide (fty (a / 64) (a % 64) = .long) && fput m a))
    | _ => false
  | 37 => match ins with
    | .putfield idx => decide (ln = 3) && (fok m idx a && (isRef (fty (a / 64) (a % 64)) && fput m a))
    | _ => false
  | 38 => decide (ins = .iaload) && decide (ln = 1)
  | 39 => decide (ins = .laload) && decide (ln = 1)
  | 40 => decide (ins = .baload) && decide (ln = 1)
  | 41 => decide (ins = .aaload) && decide (ln = 1)
  | 42 => decide (ins = .iastore) && decide (ln = 1)
  | 43 => decide (ins = .lastore) && decide (ln = 1)
  | 44 => decide (ins = .bastore) && decide (ln = 1)
  | 45 => decide (ins = .aastore) && decide (ln = 1)
  | 46 => decide (ins = .arraylength) && decide (ln = 1)
  | 47 => decide (ins = .newarray .int) && decide (ln = 2)
  | 48 => decide (ins = .newarray .long) && decide (ln = 2)
  | 49 => decide (ins = .newarray .boolean) && decide (ln = 2)
  | 50 => match ins with
    | .anewarray idx => decide (ln = 3) && clist.contains (mC m, idx, 2)
    | _ => false
  | 51 => match ins with
    | .new idx => decide (ln = 3) && (clist.contains (mC m, idx, a) && (decide (a < 7) && decide (b = (nF a : Int))))
    | _ => false
  | 52 => match ins with
    | .invokespecial idx => decide (ln = 3) && (olist.contains (mC m, idx) && (decide (1 ≤ mF m) && decide (20 ≤ mO m)))
    | _ => false
  | 53 => decide (m = 177) && (decide (ins = .iaload) && decide (ln = 1))
  | 54 => decide (m = 177) && (decide (ins = .arraylength) && decide (ln = 1))
  | 55 => match ins with
    | .goto off => decide (ln = 3) && jmp pcs pc off a
    | _ => false
  | 56 => match ins with
    | .ifCond cd off => decide (ln = 3) && (decide (cndI a = some cd) && (decide (0 ≤ b) && jmp pcs pc off b.toNat))
    | _ => false
  | 57 => match ins with
    | .if_icmp cd off => decide (ln = 3) && (decide (cndI a = some cd) && (decide (0 ≤ b) && jmp pcs pc off b.toNat))
    | _ => false
  | 58 => match ins with
    | .ifnull off => decide (ln = 3) && jmp pcs pc off a
    | _ => false
  | 59 => match ins with
    | .ifnonnull off => decide (ln = 3) && jmp pcs pc off a
    | _ => false
  | 60 => decide (ins = .return_) && decide (ln = 1) && decide (mR m = none)
  | 61 => decide (ins = .ireturn) && decide (ln = 1) && decide (mR m = some .int)
  | 62 => decide (ins = .lreturn) && decide (ln = 1) && decide (mR m = some .long)
  | 63 => decide (ins = .areturn) && decide (ln = 1) && isRefO (mR m)
  | 64 => decide (ins = .ireturn) && decide (ln = 1) && decide (mR m = some .boolean)
  | 65 => match ins with
    | .tableswitch d lo hi os => jmp pcs pc d a && (decide (lo = b) && (decide (hi = b + os.size - 1) && offs pcs pc os.toList L))
    | _ => false
  | 66 => match ins with
    | .lookupswitch d ps => jmp pcs pc d a && ((ps.toList.zip (ps.toList.drop 1)).all (fun (x, next) => x.1 < next.1) && loffs pcs pc ps.toList L)
    | _ => false
  | 67 => match ins with
    | .invokestatic idx => decide (ln = 3) && (mlist.contains (mC m, idx, a) && (slist.contains a && (cok m a b.toNat && decide (params (mY a).desc = some b.toNat))))
    | _ => false
  | 68 => match ins with
    | .invokevirtual idx => decide (ln = 3) && (mlist.contains (mC m, idx, a) && (ilist.contains a && (vlist.contains a && (cok m a b.toNat && (decide (params (mY a).desc = some (b.toNat - 1)) && (decide (1 ≤ b.toNat) && decide (L = [mC a])))))))
    | .invokespecial idx => decide (ln = 3) && ((mlist.contains (mC m, idx, a) || nlist.contains (mC m, idx, a, 5)) && (ilist.contains a && (isInit a && (cok m a b.toNat && (decide (params (mY a).desc = some (b.toNat - 1)) && (decide (1 ≤ b.toNat) && (decide (mR a = none) && decide (L = [mC a]))))))))
    | _ => false
  | _ => false
/-- an instruction goes on to the next one -/
def falls (t : Nat) : Bool := t < 55 || (t == 56 || t == 57 || t == 58 || t == 59 || t == 67 || t == 68)
def okRows (m : Nat) (pcs : List Nat) : List (Nat × Instr × Nat × AI) → Bool
  | [] => true
  | (pc, ins, ln, t, a, b, L) :: r => okT m pcs pc ins ln t a b L && ((!falls t || (match r with | (q, _) :: _ => decide (q = pc + ln) | [] => false)) && okRows m pcs r)
def okDec (bs : ByteArray) (rs : List (Nat × Instr × Nat × AI)) : Bool := rs.all fun r => decide (decode bs r.1 = .ok (r.2.1, r.2.2.1))
def okM (m : Nat) : Bool := okRows m (pcsT m) (rowsT m) && (match pcsT m with | 0 :: _ => true | _ => false)
