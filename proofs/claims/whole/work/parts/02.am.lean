/-! THE ABSTRACT MACHINE: the part of the bytecode that these classes use, over whole numbers and a heap of total functions. A value: a tag and a number (0 int, 1 long, 2 reference, 3 string constant, 4 static or given int array, 5 bytes of a string constant, 6 a reference that nobody looks at, 8 second half of a long, 9 unset). -/
abbrev AV : Type := Nat × Int
abbrev AH : Type := (Int → Nat) × (Int → Int) × (Int → Int → Int) × Int × Int
abbrev AS : Type := Int × (Int → Int)
abbrev AI : Type := Jvm.ClassFile.Instr
def hTy (h : AH) (a : Int) : Nat := h.1 a
def hLn (h : AH) (a : Int) : Int := h.2.1 a
def hCe (h : AH) (a i : Int) : Int := h.2.2.1 a i
def hNx (h : AH) : Int := h.2.2.2.1
def hWd (h : AH) : Int := h.2.2.2.2
def hSet (h : AH) (a i v : Int) : AH := (h.1, h.2.1, fun b j => if b = a ∧ j = i then v else h.2.2.1 b j, h.2.2.2)
def hNew (h : AH) (t : Nat) (n : Int) (d : Int → Int) : AH := (fun b => if b = h.2.2.2.1 then t else h.1 b, fun b => if b = h.2.2.2.1 then n else h.2.1 b, fun b j => if b = h.2.2.2.1 then d j else h.2.2.1 b j, h.2.2.2.1 + 1, h.2.2.2.2 + n)
def hCpy (h : AH) (a sp b dp n : Int) : AH := (h.1, h.2.1, fun c j => if c = b ∧ dp ≤ j ∧ j < dp + n then h.2.2.1 a (sp + (j - dp)) else h.2.2.1 c j, h.2.2.2)
def w32 (z : Int) : Int := (z + 2147483648) % 4294967296 - 2147483648
def w64 (z : Int) : Int := (z + 9223372036854775808) % 18446744073709551616 - 9223372036854775808
def cmpL (a b : Int) : Int := if a < b then -1 else if a = b then 0 else 1
def andI (a b : Int) : Int := (Int32.ofInt a &&& Int32.ofInt b).toInt
def shrI (a b : Int) : Int := (Int32.ofInt a >>> (Int32.ofInt b &&& 31)).toInt
def ushrI (a b : Int) : Int := (((Int32.ofInt a).toUInt32 >>> ((Int32.ofInt b).toUInt32 &&& Int32.toUInt32 31)).toInt32).toInt
def andL (a b : Int) : Int := (Int64.ofInt a &&& Int64.ofInt b).toInt
def orL (a b : Int) : Int := (Int64.ofInt a ||| Int64.ofInt b).toInt
def xorL (a b : Int) : Int := (Int64.ofInt a ^^^ Int64.ofInt b).toInt
def shlL (a b : Int) : Int := (Int64.ofInt a <<< ((Int32.ofInt b).toInt64 &&& 63)).toInt
def shrL (a b : Int) : Int := (Int64.ofInt a >>> ((Int32.ofInt b).toInt64 &&& 63)).toInt
def ushrL (a b : Int) : Int := (((Int64.ofInt a).toUInt64 >>> ((Int32.ofInt b).toInt64.toUInt64 &&& Int64.toUInt64 63)).toInt64).toInt
/-- the tags of fields, class by class -/
def aGs : List (List Nat) := [aG0, aG1, aG2, aG3, aG4, aG5, aG6, aG7, aG8, aG9]
def tgF (ci : Nat) (k : Nat) : Nat := ((aGs[ci]?).getD []).getD k 0
/-- what a field, a place of an array holds at first -/
def dfO (ci : Nat) (j : Int) : Int := if tgF ci j.toNat = 2 then -1 else 0
def dfA (ty : Nat) (_ : Int) : Int := if ty = 26 then -1 else 0
def witA (j : Int) : Int := if j = 0 then 2 else if j = 1 then 3 else if j = 2 then 5 else if j = 3 then 7 else 0
def stLn (k : Int) : Int := (((aStr[k.toNat]?).getD []).length : Int)
def stCh (k i : Int) : Int := ((((aStr[k.toNat]?).getD []).getD i.toNat 0 : Nat) : Int)
/-- lists of values -/
def nth : List AV → Nat → AV
  | [], _ => (9, 0)
  | a :: _, 0 => a
  | _ :: l, k + 1 => nth l k
def stL : List AV → Nat → AV → List AV
  | [], _, _ => []
  | _ :: l, 0, v => v :: l
  | a :: l, k + 1, v => a :: stL l k v
/-- a store at k: what stood at k less 1 is gone, if it was a long -/
def st1 (L : List AV) (k : Nat) (v : AV) : List AV := match k with
  | 0 => stL L 0 v
  | j + 1 => match nth L j with
    | (1, _) => stL (stL L j (9, 0)) (j + 1) v
    | _ => stL L (j + 1) v
def st2 (L : List AV) (k : Nat) (v : AV) : List AV := stL (st1 L k v) (k + 1) (8, 0)
def entL (args : List AV) : Nat → List AV
  | 0 => []
  | n + 1 => match args with
    | [] => (9, 0) :: entL [] n
    | (1, x) :: r => match n with
      | 0 => [(1, x)]
      | n' + 1 => (1, x) :: (8, 0) :: entL r n'
    | a :: r => a :: entL r n
/-- what an instruction does that goes on behind itself: locals, stack, heap, what must hold -/
abbrev AR : Type := Option (List AV × List AV × AH × Option Prop)
def bI (f : Int → Int → Int) (L S : List AV) (h : AH) : AR := match S with
  | (0, b) :: (0, a) :: r => some (L, (0, f a b) :: r, h, none)
  | _ => none
def bIg (f : Int → Int → Int) (L S : List AV) (h : AH) : AR := match S with
  | (0, b) :: (0, a) :: r => some (L, (0, f a b) :: r, h, some (b ≠ 0))
  | _ => none
def bL (f : Int → Int → Int) (L S : List AV) (h : AH) : AR := match S with
  | (1, b) :: (1, a) :: r => some (L, (1, f a b) :: r, h, none)
  | _ => none
def bLg (f : Int → Int → Int) (L S : List AV) (h : AH) : AR := match S with
  | (1, b) :: (1, a) :: r => some (L, (1, f a b) :: r, h, some (b ≠ 0))
  | _ => none
def bLI (f : Int → Int → Int) (L S : List AV) (h : AH) : AR := match S with
  | (0, b) :: (1, a) :: r => some (L, (1, f a b) :: r, h, none)
  | _ => none
def ldI (L S : List AV) (h : AH) (k : Nat) : AR := match nth L k with
  | (0, x) => some (L, (0, x) :: S, h, none)
  | _ => none
def ldL (L S : List AV) (h : AH) (k : Nat) : AR := match nth L k with
  | (1, x) => some (L, (1, x) :: S, h, none)
  | _ => none
def ldA (L S : List AV) (h : AH) (k : Nat) : AR := match nth L k with
  | (2, x) => some (L, (2, x) :: S, h, none)
  | (3, x) => some (L, (3, x) :: S, h, none)
  | (4, x) => some (L, (4, x) :: S, h, none)
  | (5, x) => some (L, (5, x) :: S, h, none)
  | (6, x) => some (L, (6, x) :: S, h, none)
  | _ => none
def sI (L S : List AV) (h : AH) (k : Nat) : AR := match S, Nat.blt k L.length with
  | (0, x) :: r, true => some (st1 L k (0, x), r, h, none)
  | _, _ => none
def sL (L S : List AV) (h : AH) (k : Nat) : AR := match S, Nat.blt (k + 1) L.length with
  | (1, x) :: r, true => some (st2 L k (1, x), r, h, none)
  | _, _ => none
def sA (L S : List AV) (h : AH) (k : Nat) : AR := match S, Nat.blt k L.length with
  | (2, x) :: r, true => some (st1 L k (2, x), r, h, none)
  | (3, x) :: r, true => some (st1 L k (3, x), r, h, none)
  | (4, x) :: r, true => some (st1 L k (4, x), r, h, none)
  | (5, x) :: r, true => some (st1 L k (5, x), r, h, none)
  | (6, x) :: r, true => some (st1 L k (6, x), r, h, none)
  | _, _ => none
def inA (h : AH) (t : Nat) (a i : Int) : Prop := hTy h a = t ∧ 0 ≤ i ∧ i < hLn h a
/-- the linked instructions: getfield, putfield: 100 times class, 10 times tag, field (class numbers from 0 on); getstatic 0 WITNESSES, 1 COMPACT_STRINGS, 2 a reference; ldc: the string; sipush: a number; jsr_w: a long; pop2: Object's constructor; swap: arraycopy; checkcast, instanceof: a string's value, coder -/
def nc (sc : AS) (i : AI) (L S : List AV) (h : AH) : AR := match i with
  | .iconst n => some (L, (0, n) :: S, h, none)
  | .sipush n => some (L, (0, n) :: S, h, none)
  | .lconst n => some (L, (1, ((n : Nat) : Int)) :: S, h, none)
  | .jsr_w n => some (L, (1, n) :: S, h, none)
  | .ldc k => some (L, (3, (k : Int)) :: S, h, none)
  | .aconst_null => some (L, (2, -1) :: S, h, none)
  | .iload_n k => ldI L S h k
  | .iload k => ldI L S h k
  | .lload_n k => ldL L S h k
  | .lload k => ldL L S h k
  | .aload_n k => ldA L S h k
  | .aload k => ldA L S h k
  | .istore_n k => sI L S h k
  | .istore k => sI L S h k
  | .lstore_n k => sL L S h k
  | .lstore k => sL L S h k
  | .astore_n k => sA L S h k
  | .astore k => sA L S h k
  | .iinc k n => match nth L k, Nat.blt k L.length with
    | (0, x), true => some (st1 L k (0, w32 (x + n)), S, h, none)
    | _, _ => none
  | .iadd => bI (fun a b => w32 (a + b)) L S h
  | .isub => bI (fun a b => w32 (a - b)) L S h
  | .imul => bI (fun a b => w32 (a * b)) L S h
  | .idiv => bIg (fun a b => w32 (a.tdiv b)) L S h
  | .irem => bIg (fun a b => a.tmod b) L S h
  | .ineg => match S with
    | (0, a) :: r => some (L, (0, w32 (-a)) :: r, h, none)
    | _ => none
  | .iand => bI andI L S h
  | .ishr => bI shrI L S h
  | .iushr => bI ushrI L S h
  | .ladd => bL (fun a b => w64 (a + b)) L S h
  | .lsub => bL (fun a b => w64 (a - b)) L S h
  | .lmul => bL (fun a b => w64 (a * b)) L S h
  | .ldiv => bLg (fun a b => w64 (a.tdiv b)) L S h
  | .lrem => bLg (fun a b => a.tmod b) L S h
  | .lneg => match S with
    | (1, a) :: r => some (L, (1, w64 (-a)) :: r, h, none)
    | _ => none
  | .land => bL andL L S h
  | .lor => bL orL L S h
  | .lxor => bL xorL L S h
  | .lshl => bLI shlL L S h
  | .lshr => bLI shrL L S h
  | .lushr => bLI ushrL L S h
  | .i2l => match S with
    | (0, a) :: r => some (L, (1, a) :: r, h, none)
    | _ => none
  | .l2i => match S with
    | (1, a) :: r => some (L, (0, w32 a) :: r, h, none)
    | _ => none
  | .i2c => match S with
    | (0, a) :: r => some (L, (0, a % 65536) :: r, h, none)
    | _ => none
  | .lcmp => match S with
    | (1, b) :: (1, a) :: r => some (L, (0, cmpL a b) :: r, h, none)
    | _ => none
  | .dup => match S with
    | (0, x) :: r => some (L, (0, x) :: (0, x) :: r, h, none)
    | (2, x) :: r => some (L, (2, x) :: (2, x) :: r, h, none)
    | _ => none
  | .dup2 => match S with
    | (0, y) :: (2, x) :: r => some (L, (0, y) :: (2, x) :: (0, y) :: (2, x) :: r, h, none)
    | _ => none
  | .pop => match S with
    | (0, _) :: r => some (L, r, h, none)
    | (2, _) :: r => some (L, r, h, none)
    | _ => none
  | .pop2 => match S with
    | [(2, a)] => some (L, [], h, some (0 ≤ a))
    | _ => none
  | .getfield e => match S with
    | (2, a) :: r => some (L, (e / 100 % 10, hCe h a ((e % 100 : Nat) : Int)) :: r, h, some (hTy h a = e / 1000 + 1))
    | _ => none
  | .putfield e => match S with
    | (t, v) :: (2, a) :: r => if t == e / 100 % 10 then some (L, r, hSet h a ((e % 100 : Nat) : Int) v, some (hTy h a = e / 1000 + 1)) else none
    | _ => none
  | .getstatic k => match k with
    | 0 => some (L, (4, 0) :: S, h, none)
    | 1 => some (L, (0, 1) :: S, h, none)
    | 2 => some (L, (6, 0) :: S, h, none)
    | _ => none
  | .checkcast _ => match S with
    | (3, x) :: r => some (L, (5, x) :: r, h, none)
    | _ => none
  | .instanceof _ => match S with
    | (3, _) :: r => some (L, (0, 0) :: r, h, none)
    | _ => none
  | .iaload => match S with
    | (0, i) :: (2, a) :: r => some (L, (0, hCe h a i) :: r, h, some (inA h 21 a i))
    | (0, i) :: (4, 0) :: r => some (L, (0, witA i) :: r, h, some (0 ≤ i ∧ i < 4))
    | (0, i) :: (4, 1) :: r => some (L, (0, sc.2 i) :: r, h, some (0 ≤ i ∧ i < sc.1))
    | _ => none
  | .laload => match S with
    | (0, i) :: (2, a) :: r => some (L, (1, hCe h a i) :: r, h, some (inA h 22 a i))
    | _ => none
  | .baload => match S with
    | (0, i) :: (2, a) :: r => some (L, (0, hCe h a i) :: r, h, some ((hTy h a = 23 ∨ hTy h a = 25) ∧ 0 ≤ i ∧ i < hLn h a))
    | (0, i) :: (5, k) :: r => some (L, (0, stCh k i) :: r, h, some (0 ≤ i ∧ i < stLn k))
    | _ => none
  | .caload => match S with
    | (0, i) :: (2, a) :: r => some (L, (0, hCe h a i) :: r, h, some (inA h 24 a i))
    | _ => none
  | .aaload => match S with
    | (0, i) :: (2, a) :: r => some (L, (2, hCe h a i) :: r, h, some (inA h 26 a i))
    | _ => none
  | .iastore => match S with
    | (0, v) :: (0, i) :: (2, a) :: r => some (L, r, hSet h a i v, some (inA h 21 a i))
    | _ => none
  | .lastore => match S with
    | (1, v) :: (0, i) :: (2, a) :: r => some (L, r, hSet h a i v, some (inA h 22 a i))
    | _ => none
  | .bastore => match S with
    | (0, v) :: (0, i) :: (2, a) :: r => some (L, r, hSet h a i v, some ((hTy h a = 23 ∧ -128 ≤ v ∧ v ≤ 127 ∨ hTy h a = 25 ∧ 0 ≤ v ∧ v ≤ 1) ∧ 0 ≤ i ∧ i < hLn h a))
    | _ => none
  | .castore => match S with
    | (0, v) :: (0, i) :: (2, a) :: r => some (L, r, hSet h a i v, some (inA h 24 a i ∧ 0 ≤ v ∧ v < 65536))
    | _ => none
  | .aastore => match S with
    | (2, v) :: (0, i) :: (2, a) :: r => some (L, r, hSet h a i v, some (inA h 26 a i ∧ (v < 0 ∨ hTy h v = 4)))
    | _ => none
  | .arraylength => match S with
    | (2, a) :: r => some (L, (0, hLn h a) :: r, h, some (21 ≤ hTy h a))
    | (4, 0) :: r => some (L, (0, 4) :: r, h, none)
    | (4, 1) :: r => some (L, (0, sc.1) :: r, h, none)
    | (5, k) :: r => some (L, (0, stLn k) :: r, h, none)
    | _ => none
  | .newarray t => match S, t with
    | (0, n) :: r, .int => some (L, (2, hNx h) :: r, hNew h 21 n (dfA 21), some (0 ≤ n ∧ n ≤ 2000))
    | (0, n) :: r, .long => some (L, (2, hNx h) :: r, hNew h 22 n (dfA 22), some (0 ≤ n ∧ n ≤ 2000))
    | (0, n) :: r, .byte => some (L, (2, hNx h) :: r, hNew h 23 n (dfA 23), some (0 ≤ n ∧ n ≤ 2000))
    | (0, n) :: r, .char => some (L, (2, hNx h) :: r, hNew h 24 n (dfA 24), some (0 ≤ n ∧ n ≤ 2000))
    | (0, n) :: r, .boolean => some (L, (2, hNx h) :: r, hNew h 25 n (dfA 25), some (0 ≤ n ∧ n ≤ 2000))
    | _, _ => none
  | .anewarray _ => match S with
    | (0, n) :: r => some (L, (2, hNx h) :: r, hNew h 26 n (dfA 26), some (0 ≤ n ∧ n ≤ 2000))
    | _ => none
  | .new c => some (L, (2, hNx h) :: S, hNew h (c + 1) ((((aGs[c]?).getD []).length : Nat) : Int) (dfO c), none)
  | .swap => match S with
    | [(0, n), (0, dp), (2, b), (0, sp), (2, a)] => some (L, [], hCpy h a sp b dp n, some (hTy h a = 21 ∧ hTy h b = 21 ∧ 0 ≤ sp ∧ 0 ≤ dp ∧ 0 ≤ n ∧ sp + n ≤ hLn h a ∧ dp + n ≤ hLn h b))
    | _ => none
  | _ => none
/-- jumps: where to, and the stack -/
def jmp (i : AI) (pc len : Nat) (S : List AV) : Option (Nat × List AV) := match i with
  | .goto o => some (((pc : Int) + o).toNat, S)
  | .ifCond c o => match S with
    | (0, x) :: r => match c with
      | .eq => some (if x = 0 then ((pc : Int) + o).toNat else pc + len, r)
      | .ne => some (if x = 0 then pc + len else ((pc : Int) + o).toNat, r)
      | .lt => some (if x < 0 then ((pc : Int) + o).toNat else pc + len, r)
      | .ge => some (if x < 0 then pc + len else ((pc : Int) + o).toNat, r)
      | .gt => some (if 0 < x then ((pc : Int) + o).toNat else pc + len, r)
      | .le => some (if 0 < x then pc + len else ((pc : Int) + o).toNat, r)
    | _ => none
  | .if_icmp c o => match S with
    | (0, y) :: (0, x) :: r => match c with
      | .eq => some (if x = y then ((pc : Int) + o).toNat else pc + len, r)
      | .ne => some (if x = y then pc + len else ((pc : Int) + o).toNat, r)
      | .lt => some (if x < y then ((pc : Int) + o).toNat else pc + len, r)
      | .ge => some (if x < y then pc + len else ((pc : Int) + o).toNat, r)
      | .gt => some (if y < x then ((pc : Int) + o).toNat else pc + len, r)
      | .le => some (if y < x then pc + len else ((pc : Int) + o).toNat, r)
    | _ => none
  | .ifnull o => match S with
    | (2, x) :: r => some (if x < 0 then ((pc : Int) + o).toNat else pc + len, r)
    | _ => none
  | .ifnonnull o => match S with
    | (2, x) :: r => some (if x < 0 then pc + len else ((pc : Int) + o).toNat, r)
    | _ => none
  | .tableswitch d lo hi offs => match S with
    | (0, x) :: r => some (if x < lo ∨ hi < x then ((pc : Int) + d).toNat else ((pc : Int) + (offs.toList.getD (x - lo).toNat 0)).toNat, r)
    | _ => none
  | _ => none
/-- ends: what is returned -/
def fin (i : AI) (S : List AV) : Option (Option AV) := match i, S with
  | .return_, [] => some none
  | .ireturn, [(0, x)] => some (some (0, x))
  | .lreturn, [(1, x)] => some (some (1, x))
  | .areturn, [(2, x)] => some (some (2, x))
  | .areturn, [(3, x)] => some (some (3, x))
  | _, _ => none
def finG (t : Option FieldType) (r : Option AV) : Prop := match t, r with
  | none, none => True
  | some .int, some (0, _) => True
  | some .long, some (1, _) => True
  | some .boolean, some (0, x) => 0 ≤ x ∧ x ≤ 1
  | some .byte, some (0, x) => -128 ≤ x ∧ x ≤ 127
  | some .char, some (0, x) => 0 ≤ x ∧ x < 65536
  | some (.object _), some (2, _) => True
  | some (.object _), some (3, _) => True
  | _, _ => False
/-- lookups -/
def lkp {α : Type} : List (Nat × α) → Nat → Option α
  | [], _ => none
  | (k, v) :: l, n => match Nat.beq k n with
    | true => some v
    | false => lkp l n
def lkC {α : Type} (T : List (List (Nat × α))) (c n : Nat) : Option α := match T[c]? with
  | some l => lkp l n
  | none => none
/-- an instruction of a method, linked -/
def resI (M : aM) (i : AI) : Option AI := match i with
  | .getfield x => match lkC aLF M.2.2.2.2.2.2 x with
    | some (ci, k, t, _, _) => some (.getfield (1000 * ci + 100 * t + k))
    | none => match lkC aLS M.2.2.2.2.2.2 x with
      | some (3, _) => some (.checkcast 0)
      | some (4, _) => some (.instanceof 0)
      | _ => none
  | .putfield x => match lkC aLF M.2.2.2.2.2.2 x with
    | some (ci, k, t, f, _) => if f == 0 || (M.2.1.name == "<init>" && ((aCl[ci]?).map (fun q => (q.2.1 k).1) == some M.2.1.cls)) then some (.putfield (1000 * ci + 100 * t + k)) else none
    | none => none
  | .getstatic x => match lkC aLS M.2.2.2.2.2.2 x with
    | some (k, _) => if Nat.ble k 2 then some (.getstatic k) else none
    | none => none
  | .ldc x => match lkC aLK M.2.2.2.2.2.2 x with
    | some (0, v, _) => some (.sipush v)
    | some (3, v, _) => some (.ldc v.toNat)
    | _ => none
  | .ldc_w x => match lkC aLK M.2.2.2.2.2.2 x with
    | some (0, v, _) => some (.sipush v)
    | _ => none
  | .ldc2_w x => match lkC aLK M.2.2.2.2.2.2 x with
    | some (1, v, _) => some (.jsr_w v)
    | _ => none
  | .bipush n => if -128 ≤ n ∧ n ≤ 127 then some (.sipush n) else none
  | .sipush n => if -32768 ≤ n ∧ n ≤ 32767 then some (.sipush n) else none
  | .iconst n => if -1 ≤ n ∧ n ≤ 5 then some (.iconst n) else none
  | .iinc k n => if -128 ≤ n ∧ n ≤ 127 then some (.iinc k n) else none
  | .new x => match lkC aLC M.2.2.2.2.2.2 x with
    | some (ci, _) => some (.new ci)
    | none => none
  | .anewarray x => match lkC aLC M.2.2.2.2.2.2 x with
    | some (3, _) => some (.anewarray 3)
    | _ => none
  | .invokestatic x => match lkC aLM M.2.2.2.2.2.2 x with
    | some (y, 0, _) => some (.invokestatic y)
    | some (_, 8, _) => some .swap
    | _ => none
  | .invokevirtual x => match lkC aLM M.2.2.2.2.2.2 x with
    | some (y, 2, _) => some (.invokevirtual y)
    | _ => none
  | .invokespecial x => match lkC aLM M.2.2.2.2.2.2 x with
    | some (y, 4, _) => some (.invokespecial y)
    | some (y, 5, _) => some (.invokespecial y)
    | some (_, 9, _) => some .pop2
    | _ => none
  | .ifCond .. | .if_icmp .. | .ifnull .. | .ifnonnull .. | .goto .. | .tableswitch .. => some i
  | .lconst .. | .aconst_null | .iload_n .. | .iload .. | .lload_n .. | .lload .. | .aload_n .. | .aload .. | .istore_n .. | .istore .. | .lstore_n .. | .lstore .. | .astore_n .. | .astore .. => some i
  | .iadd | .isub | .imul | .idiv | .irem | .ineg | .iand | .ishr | .iushr | .ladd | .lsub | .lmul | .ldiv | .lrem | .lneg | .land | .lor | .lxor | .lshl | .lshr | .lushr | .i2l | .l2i | .i2c | .lcmp => some i
  | .dup | .dup2 | .pop | .iaload | .laload | .baload | .caload | .aaload | .iastore | .lastore | .bastore | .castore | .aastore | .arraylength | .newarray .. => some i
  | .ireturn | .lreturn | .areturn | .return_ => some i
  | _ => none
/-- jumps stay ahead of nothing: no place below 0 -/
def okJ (pc : Nat) (i : AI) : Bool := match i with
  | .goto o | .ifCond _ o | .if_icmp _ o | .ifnull o | .ifnonnull o => decide (0 ≤ (pc : Int) + o)
  | .tableswitch d lo hi offs => decide (0 ≤ (pc : Int) + d) && offs.toList.all (fun o => decide (0 ≤ (pc : Int) + o)) && decide (hi - lo + 1 ≤ (offs.toList.length : Int))
  | _ => true
def lenI (i : AI) : Nat := match i with
  | .iload _ | .lload _ | .aload _ | .istore _ | .lstore _ | .astore _ | .bipush _ | .ldc _ | .newarray _ => 2
  | .sipush _ | .ldc_w _ | .ldc2_w _ | .iinc .. | .getfield _ | .putfield _ | .getstatic _ | .new _ | .anewarray _ | .invokestatic _ | .invokevirtual _ | .invokespecial _ => 3
  | .ifCond .. | .if_icmp .. | .ifnull .. | .ifnonnull .. | .goto .. => 3
  | .tableswitch .. => 0
  | _ => 1
def fetch (m pc : Nat) : Option (AI × Nat) := match aMt[m]? with
  | none => none
  | some M => match decode M.1 pc with
    | .ok (i, len) => match resI M i with
      | some j => if okJ pc j && (lenI i == 0 || lenI i == len) then some (j, len) else none
      | none => none
    | _ => none
def mNp (m : Nat) : Nat := ((aMt[m]?).map (fun M => M.2.2.2.2.1)).getD 0
def mRt (m : Nat) : Option FieldType := ((aMt[m]?).map (fun M => M.2.2.2.1)).getD none
def mLs (m : Nat) : Nat := ((aMt[m]?).map (fun M => M.2.2.1)).getD 0
/-- the class (number and one) of a method's receiver; 0: none that is made here -/
def mCl (m : Nat) : Nat := match aMt[m]? with
  | none => 0
  | some M => match aCl.findIdx? (fun q => q.1 == M.2.1.cls) with
    | some k => k + 1
    | none => 0
def okG (G : Option Prop) : Prop := match G with
  | none => True
  | some g => g
/-- locals that know less -/
def wkL (L L' : List AV) : Prop := L'.length = L.length ∧ ∀ k, nth L' k = nth L k ∨ (nth L' k).1 = 9
/-- the receiver's kind -/
def rcv (h : AH) (y : Nat) (args : List AV) : Prop := match args with
  | (2, a) :: _ => hTy h a = mCl y ∧ mCl y ≠ 0
  | (3, k) :: _ => 0 ≤ k ∧ k < 10 ∧ mCl y = 0
  | _ => False
abbrev RN : Type := Nat → List AV → AH → Option AV → AH → Prop
def callG (i : AI) (y : Nat) (h : AH) (args : List AV) : Prop := i = .invokestatic y ∨ (i = .invokevirtual y ∧ rcv h y args) ∨ (i = .invokespecial y ∧ ∃ a r, args = (2, a) :: r ∧ 0 ≤ a)
def EvN (sc : AS) (X : RN) (m : Nat) : Nat → Nat → List AV → List AV → AH → Option AV → AH → Prop
  | 0, _, _, _, _, _, _ => False
  | k + 1, pc, L, S, h, r, h2 =>
    (∃ L', wkL L L' ∧ EvN sc X m k pc L' S h r h2) ∨
    ∃ i len, fetch m pc = some (i, len) ∧
      ((∃ L' S' h' G, nc sc i L S h = some (L', S', h', G) ∧ okG G ∧ EvN sc X m k (pc + len) L' S' h' r h2) ∨
       (∃ pc' S', jmp i pc len S = some (pc', S') ∧ EvN sc X m k pc' L S' h r h2) ∨
       (fin i S = some r ∧ finG (mRt m) r ∧ h2 = h) ∨
       (∃ y args S' r' h', S = args.reverse ++ S' ∧ args.length = mNp y ∧ S'.length ≤ 4 ∧ callG i y h args ∧ X y args h r' h' ∧ EvN sc X m k (pc + 3) L (r'.toList ++ S') h' r h2))
def Runs (sc : AS) : Nat → RN
  | 0 => fun _ _ _ _ _ => False
  | d + 1 => fun m args h r h2 => (∃ M, aMt[m]? = some M ∧ (args.map (fun a => if a.1 = 1 then 2 else 1)).sum ≤ M.2.2.1) ∧ ∃ k, EvN sc (Runs sc d) m k 0 (entL args (mLs m)) [] h r h2
def Ev (sc : AS) (d m pc : Nat) (L S : List AV) (h : AH) (r : Option AV) (h2 : AH) : Prop := ∃ k, EvN sc (Runs sc d) m k pc L S h r h2
