/-! ===== a pure reading of the bytecode: values are whole numbers or places; a machine int is a number modulo 2^32 ===== -/
abbrev zV : Type := Int ⊕ (Int ⊕ Option Nat)
abbrev zH : Type := List (Nat × List zV)
abbrev zL : Type := List (Option zV)
abbrev zR : Type := Option zV × zH
abbrev zE : Type := Instr × List Nat × Int
/-- the number that a machine int, long stands for -/
def zw (x : Int) : Int := (x + 2147483648) % 4294967296 - 2147483648
def zwl (x : Int) : Int := (x + 9223372036854775808) % 18446744073709551616 - 9223372036854775808
/-- machine operations on bits -/
def zand (a b : Int) : Int := (Int32.ofInt a &&& Int32.ofInt b).toInt
def zor (a b : Int) : Int := (Int32.ofInt a ||| Int32.ofInt b).toInt
def zshl (a b : Int) : Int := (Int32.ofInt a <<< (Int32.ofInt b &&& 31)).toInt
def zshr (a b : Int) : Int := (Int32.ofInt a >>> (Int32.ofInt b &&& 31)).toInt
def zushr (a b : Int) : Int := ((Int32.ofInt a).toUInt32 >>> ((Int32.ofInt b).toUInt32 &&& Int32.toUInt32 31)).toInt32.toInt
def zandl (a b : Int) : Int := (Int64.ofInt a &&& Int64.ofInt b).toInt
def zorl (a b : Int) : Int := (Int64.ofInt a ||| Int64.ofInt b).toInt
def zshll (a b : Int) : Int := (Int64.ofInt a <<< ((Int32.ofInt b).toInt64 &&& 63)).toInt
def zushrl (a b : Int) : Int := ((Int64.ofInt a).toUInt64 >>> ((Int32.ofInt b).toInt64.toUInt64 &&& Int64.toUInt64 63)).toInt64.toInt
/-- reading and writing cells: place 0 is the script, place q + 1 the heap's cell q; a tag below 100 is a class, 100 int[], 101 long[], above: references -/
def zfd (h : zH) (r : Option Nat) (ci k : Nat) : Option zV := match r with
  | some (p + 1) => match h[p]? with
    | some c => if c.1 = ci then c.2[k]? else none
    | none => none
  | _ => none
def zgi (h : zH) (r : Option Nat) (ci k : Nat) (f : Int → Option zR) : Option zR := match zfd h r ci k with
  | some (.inl v) => f v
  | _ => none
def zgl (h : zH) (r : Option Nat) (ci k : Nat) (f : Int → Option zR) : Option zR := match zfd h r ci k with
  | some (.inr (.inl v)) => f v
  | _ => none
def zgr (h : zH) (r : Option Nat) (ci k : Nat) (f : Option Nat → Option zR) : Option zR := match zfd h r ci k with
  | some (.inr (.inr v)) => f v
  | _ => none
def zput (h : zH) (p k : Nat) (v : zV) : zH := match h[p]? with
  | some c => h.set p (c.1, c.2.set k v)
  | none => h
def zpf (h : zH) (r : Option Nat) (ci k : Nat) (v : zV) (f : zH → Option zR) : Option zR := match r with
  | some (p + 1) => match h[p]? with
    | some c => if c.1 = ci ∧ k < c.2.length then f (h.set p (c.1, c.2.set k v)) else none
    | none => none
  | _ => none
def zar (xs : List Int) (h : zH) (r : Option Nat) (tag : Nat) (i : Int) : Option zV := match r with
  | some 0 => if tag = 100 ∧ 0 ≤ zw i then (xs[(zw i).toNat]?).map .inl else none
  | some (p + 1) => match h[p]? with
    | some c => if c.1 = tag ∧ 0 ≤ zw i then c.2[(zw i).toNat]? else none
    | none => none
  | none => none
def zai (xs : List Int) (h : zH) (r : Option Nat) (i : Int) (f : Int → Option zR) : Option zR := match zar xs h r 100 i with
  | some (.inl v) => f v
  | _ => none
def zal (xs : List Int) (h : zH) (r : Option Nat) (i : Int) (f : Int → Option zR) : Option zR := match zar xs h r 101 i with
  | some (.inr (.inl v)) => f v
  | _ => none
def zaa (xs : List Int) (h : zH) (r : Option Nat) (tag : Nat) (i : Int) (f : Option Nat → Option zR) : Option zR := match zar xs h r tag i with
  | some (.inr (.inr v)) => f v
  | _ => none
def zst (h : zH) (r : Option Nat) (tag : Nat) (i : Int) (v : zV) (f : zH → Option zR) : Option zR := match r with
  | some (p + 1) => match h[p]? with
    | some c => if c.1 = tag ∧ 0 ≤ zw i ∧ (zw i).toNat < c.2.length then f (h.set p (c.1, c.2.set (zw i).toNat v)) else none
    | none => none
  | _ => none
def zln (xs : List Int) (h : zH) (r : Option Nat) (f : Int → Option zR) : Option zR := match r with
  | some 0 => f xs.length
  | some (p + 1) => match h[p]? with
    | some c => if 100 ≤ c.1 then f c.2.length else none
    | none => none
  | none => none
def zro (r : Option Nat) (f : Nat → Option zR) : Option zR := match r with
  | some p => f p
  | none => none
def zif (r : Option Nat) (a : Option zR) (b : Option zR) : Option zR := match r with
  | none => a
  | some _ => b
def zci (o : Option zR) (f : Int → zH → Option zR) : Option zR := match o with
  | some (some (.inl v), h) => f v h
  | _ => none
def zcl (o : Option zR) (f : Int → zH → Option zR) : Option zR := match o with
  | some (some (.inr (.inl v)), h) => f v h
  | _ => none
def zcr (o : Option zR) (f : Option Nat → zH → Option zR) : Option zR := match o with
  | some (some (.inr (.inr v)), h) => f v h
  | _ => none
def zcv (o : Option zR) (f : zH → Option zR) : Option zR := match o with
  | some (none, h) => f h
  | _ => none
/-- the locals -/
def zcat (v : zV) : Nat := match v with
  | .inr (.inl _) => 2
  | _ => 1
def zargs : List zV → zL
  | [] => []
  | .inr (.inl x) :: t => some (.inr (.inl x)) :: none :: zargs t
  | .inl x :: t => some (.inl x) :: zargs t
  | .inr (.inr x) :: t => some (.inr (.inr x)) :: zargs t
def zkeep : List Nat → zL → zL
  | [], _ => []
  | _ :: _, [] => []
  | 0 :: m, _ :: t => none :: zkeep m t
  | (_ + 1) :: m, v :: t => v :: zkeep m t
/-- L with place i set; a long that stood one place before is lost -/
def zset1 : zL → Nat → Option zV → zL
  | [], 0, v => [v]
  | [], i + 1, v => none :: zset1 [] i v
  | _ :: t, 0, v => v :: t
  | some (.inr (.inl _)) :: t, 1, v => none :: zset1 t 0 v
  | a :: t, i + 1, v => a :: zset1 t i v
def zset2 : zL → Nat → Option zV → zL
  | [], 0, v => [v, none]
  | [], i + 1, v => none :: zset2 [] i v
  | [_], 0, v => [v, none]
  | _ :: _ :: t, 0, v => v :: none :: t
  | some (.inr (.inl _)) :: t, 1, v => none :: zset2 t 0 v
  | a :: t, i + 1, v => a :: zset2 t i v
def zld (L : zL) (i : Nat) : Option zV := match L[i]? with
  | some (some v) => some v
  | _ => none
/-- one instruction that neither jumps nor calls: what it leaves goes to k -/
def zS (xs : List Int) (I : Instr) (x : List Nat) (c : Int) (L : zL) (st : List zV) (h : zH) (k : zL → List zV → zH → Option zR) : Option zR := match I with
  | .iconst n => k L (.inl n :: st) h
  | .bipush n => k L (.inl n :: st) h
  | .sipush n => k L (.inl n :: st) h
  | .ldc _ => k L (.inl c :: st) h
  | .ldc_w _ => k L (.inl c :: st) h
  | .lconst n => k L (.inr (.inl ((n : Nat) : Int)) :: st) h
  | .ldc2_w _ => k L (.inr (.inl c) :: st) h
  | .aconst_null => k L (.inr (.inr none) :: st) h
  | .iload i => match zld L i with | some (.inl v) => k L (.inl v :: st) h | _ => none
  | .iload_n i => match zld L i with | some (.inl v) => k L (.inl v :: st) h | _ => none
  | .lload i => match zld L i with | some (.inr (.inl v)) => k L (.inr (.inl v) :: st) h | _ => none
  | .lload_n i => match zld L i with | some (.inr (.inl v)) => k L (.inr (.inl v) :: st) h | _ => none
  | .aload i => match zld L i with | some (.inr (.inr v)) => k L (.inr (.inr v) :: st) h | _ => none
  | .aload_n i => match zld L i with | some (.inr (.inr v)) => k L (.inr (.inr v) :: st) h | _ => none
  | .istore i => match st with | .inl v :: st => k (zset1 L i (some (.inl v))) st h | _ => none
  | .istore_n i => match st with | .inl v :: st => k (zset1 L i (some (.inl v))) st h | _ => none
  | .lstore i => match st with | .inr (.inl v) :: st => k (zset2 L i (some (.inr (.inl v)))) st h | _ => none
  | .lstore_n i => match st with | .inr (.inl v) :: st => k (zset2 L i (some (.inr (.inl v)))) st h | _ => none
  | .astore i => match st with | .inr (.inr v) :: st => k (zset1 L i (some (.inr (.inr v)))) st h | _ => none
  | .astore_n i => match st with | .inr (.inr v) :: st => k (zset1 L i (some (.inr (.inr v)))) st h | _ => none
  | .iinc i n => match zld L i with | some (.inl v) => k (zset1 L i (some (.inl (v + n)))) st h | _ => none
  | .iadd => match st with | .inl b :: .inl a :: st => k L (.inl (a + b) :: st) h | _ => none
  | .isub => match st with | .inl b :: .inl a :: st => k L (.inl (a - b) :: st) h | _ => none
  | .imul => match st with | .inl b :: .inl a :: st => k L (.inl (a * b) :: st) h | _ => none
  | .ineg => match st with | .inl a :: st => k L (.inl (-a) :: st) h | _ => none
  | .idiv => match st with | .inl b :: .inl a :: st => if zw b = 0 then none else k L (.inl ((zw a).tdiv (zw b)) :: st) h | _ => none
  | .irem => match st with | .inl b :: .inl a :: st => if zw b = 0 then none else k L (.inl ((zw a).tmod (zw b)) :: st) h | _ => none
  | .iand => match st with | .inl b :: .inl a :: st => k L (.inl (zand a b) :: st) h | _ => none
  | .ior => match st with | .inl b :: .inl a :: st => k L (.inl (zor a b) :: st) h | _ => none
  | .ishl => match st with | .inl b :: .inl a :: st => k L (.inl (zshl a b) :: st) h | _ => none
  | .ishr => match st with | .inl b :: .inl a :: st => k L (.inl (zshr a b) :: st) h | _ => none
  | .iushr => match st with | .inl b :: .inl a :: st => k L (.inl (zushr a b) :: st) h | _ => none
  | .i2l => match st with | .inl a :: st => k L (.inr (.inl (zw a)) :: st) h | _ => none
  | .l2i => match st with | .inr (.inl a) :: st => k L (.inl a :: st) h | _ => none
  | .ladd => match st with | .inr (.inl b) :: .inr (.inl a) :: st => k L (.inr (.inl (a + b)) :: st) h | _ => none
  | .lsub => match st with | .inr (.inl b) :: .inr (.inl a) :: st => k L (.inr (.inl (a - b)) :: st) h | _ => none
  | .lmul => match st with | .inr (.inl b) :: .inr (.inl a) :: st => k L (.inr (.inl (a * b)) :: st) h | _ => none
  | .lneg => match st with | .inr (.inl a) :: st => k L (.inr (.inl (-a)) :: st) h | _ => none
  | .ldiv => match st with | .inr (.inl b) :: .inr (.inl a) :: st => if zwl b = 0 then none else k L (.inr (.inl ((zwl a).tdiv (zwl b))) :: st) h | _ => none
  | .lrem => match st with | .inr (.inl b) :: .inr (.inl a) :: st => if zwl b = 0 then none else k L (.inr (.inl ((zwl a).tmod (zwl b))) :: st) h | _ => none
  | .land => match st with | .inr (.inl b) :: .inr (.inl a) :: st => k L (.inr (.inl (zandl a b)) :: st) h | _ => none
  | .lor => match st with | .inr (.inl b) :: .inr (.inl a) :: st => k L (.inr (.inl (zorl a b)) :: st) h | _ => none
  | .lshl => match st with | .inl b :: .inr (.inl a) :: st => k L (.inr (.inl (zshll a b)) :: st) h | _ => none
  | .lushr => match st with | .inl b :: .inr (.inl a) :: st => k L (.inr (.inl (zushrl a b)) :: st) h | _ => none
  | .lcmp => match st with | .inr (.inl b) :: .inr (.inl a) :: st => k L (.inl (if zwl a < zwl b then -1 else if zwl a = zwl b then 0 else 1) :: st) h | _ => none
  | .dup => match st with | .inl a :: st => k L (.inl a :: .inl a :: st) h | .inr (.inr a) :: st => k L (.inr (.inr a) :: .inr (.inr a) :: st) h | _ => none
  | .dup2 => match st with | .inl b :: .inr (.inr a) :: st => k L (.inl b :: .inr (.inr a) :: .inl b :: .inr (.inr a) :: st) h | _ => none
  | .dup_x2 => match st with | .inl d :: .inl b :: .inr (.inr a) :: st => k L (.inl d :: .inl b :: .inr (.inr a) :: .inl d :: st) h | _ => none
  | .pop => match st with | .inl _ :: st => k L st h | .inr (.inr _) :: st => k L st h | _ => none
  | .getfield _ => match x, st with
    | [ci, j, 0], .inr (.inr r) :: st => zgi h r ci j fun v => k L (.inl v :: st) h
    | [ci, j, 1], .inr (.inr r) :: st => zgl h r ci j fun v => k L (.inr (.inl v) :: st) h
    | [ci, j, 2], .inr (.inr r) :: st => zgr h r ci j fun v => k L (.inr (.inr v) :: st) h
    | _, _ => none
  | .putfield _ => match x, st with
    | [ci, j, 0], .inl v :: .inr (.inr r) :: st => zpf h r ci j (.inl v) fun h => k L st h
    | [ci, j, 1], .inr (.inl v) :: .inr (.inr r) :: st => zpf h r ci j (.inr (.inl v)) fun h => k L st h
    | [ci, j, 2], .inr (.inr v) :: .inr (.inr r) :: st => zpf h r ci j (.inr (.inr v)) fun h => k L st h
    | [ci, j, 3], .inl v :: .inr (.inr r) :: st => if v = 0 ∨ v = 1 then zpf h r ci j (.inl v) fun h => k L st h else none
    | _, _ => none
  | .iaload => match st with | .inl i :: .inr (.inr r) :: st => zai xs h r i fun v => k L (.inl v :: st) h | _ => none
  | .laload => match st with | .inl i :: .inr (.inr r) :: st => zal xs h r i fun v => k L (.inr (.inl v) :: st) h | _ => none
  | .aaload => match x, st with | [tag], .inl i :: .inr (.inr r) :: st => zaa xs h r tag i fun v => k L (.inr (.inr v) :: st) h | _, _ => none
  | .iastore => match st with | .inl v :: .inl i :: .inr (.inr r) :: st => zst h r 100 i (.inl v) fun h => k L st h | _ => none
  | .lastore => match st with | .inr (.inl v) :: .inl i :: .inr (.inr r) :: st => zst h r 101 i (.inr (.inl v)) fun h => k L st h | _ => none
  | .aastore => match x, st with | [tag, ci], .inr (.inr (some v)) :: .inl i :: .inr (.inr r) :: st => (match v with | 0 => none | q + 1 => match h[q]? with | some c => if c.1 = ci then zst h r tag i (.inr (.inr (some (q + 1)))) fun h => k L st h else none | none => none) | _, _ => none
  | .arraylength => match st with | .inr (.inr r) :: st => zln xs h r fun v => k L (.inl v :: st) h | _ => none
  | .new _ => match x with
    | ci :: tys => k L (.inr (.inr (some (h.length + 1))) :: st) (h ++ [(ci, tys.map fun t => match t with | 0 => .inl 0 | 1 => .inr (.inl 0) | _ => .inr (.inr none))])
    | _ => none
  | .newarray _ => match x, st with
    | [0], .inl n :: st => if 0 ≤ zw n ∧ zw n ≤ 1000000 then k L (.inr (.inr (some (h.length + 1))) :: st) (h ++ [(100, List.replicate (zw n).toNat (.inl 0))]) else none
    | [1], .inl n :: st => if 0 ≤ zw n ∧ zw n ≤ 1000000 then k L (.inr (.inr (some (h.length + 1))) :: st) (h ++ [(101, List.replicate (zw n).toNat (.inr (.inl 0)))]) else none
    | _, _ => none
  | .anewarray _ => match x, st with
    | [tag], .inl n :: st => if 0 ≤ zw n ∧ zw n ≤ 1000000 then k L (.inr (.inr (some (h.length + 1))) :: st) (h ++ [(tag, List.replicate (zw n).toNat (.inr (.inr none)))]) else none
    | _, _ => none
  | _ => none
def zsel (o : Option Nat) (f : Nat → Option zR) : Option zR := match o with
  | some t => f t
  | none => none
/-- a jump: the locals that live on -/
def zJ (rec : Nat → zL → List zV → zH → Option zR) (x : List Nat) (L : zL) (st : List zV) (h : zH) : Option zR := match x with
  | t :: m => rec t (zkeep m L) st h
  | [] => none
def zY (t : Nat) (o : Option zR) (L : zL) (st : List zV) (k : zL → List zV → zH → Option zR) : Option zR := match t with
  | 0 => zcv o fun h => k L st h
  | 1 => zci o fun v h => k L (.inl v :: st) h
  | 2 => zcl o fun v h => k L (.inr (.inl v) :: st) h
  | 3 => zcr o fun v h => k L (.inr (.inr v) :: st) h
  | _ => none
def zrcv (l : List zV) : Option Nat := match l with
  | .inr (.inr r) :: _ => r
  | _ => none
/-- the receiver is an object of that class -/
def zck (h : zH) (r : Option Nat) (ci : Nat) (o : Option zR) : Option zR := match r with
  | some (p + 1) => match h[p]? with
    | some c => if c.1 = ci then o else none
    | none => none
  | _ => none
/-- words on the stack -/
def zcs : List zV → Nat
  | [] => 0
  | v :: t => zcat v + zcs t
def zX (rec : Nat → Nat → zL → List zV → zH → Option zR) (x : List Nat) (L : zL) (st : List zV) (h : zH) (k : zL → List zV → zH → Option zR) : Option zR := match x with
  | [m, n, t, mx] => if n ≤ st.length ∧ zcs (st.drop n) ≤ 8 ∧ (zargs (st.take n).reverse).length ≤ mx then zY t (rec m 0 (zargs (st.take n).reverse) [] h) L (st.drop n) k else none
  | [m, n, t, mx, ci] => if n ≤ st.length ∧ zcs (st.drop n) ≤ 8 ∧ (zargs (st.take n).reverse).length ≤ mx then zck h (zrcv (st.take n).reverse) ci (zY t (rec m 0 (zargs (st.take n).reverse) [] h) L (st.drop n) k) else none
  | _ => none
/-- one instruction -/
def zI (xs : List Int) (rec : Nat → Nat → zL → List zV → zH → Option zR) (m : Nat) (I : Instr) (x : List Nat) (c : Int) (L : zL) (st : List zV) (h : zH) (k : zL → List zV → zH → Option zR) : Option zR := match I with
  | .nop => zJ (rec m) x L st h
  | .goto _ => zJ (rec m) x L st h
  | .ifCond .eq _ => match st with | .inl a :: st => if zw a = 0 then zJ (rec m) x L st h else k L st h | _ => none
  | .ifCond .ne _ => match st with | .inl a :: st => if zw a ≠ 0 then zJ (rec m) x L st h else k L st h | _ => none
  | .ifCond .lt _ => match st with | .inl a :: st => if zw a < 0 then zJ (rec m) x L st h else k L st h | _ => none
  | .ifCond .ge _ => match st with | .inl a :: st => if 0 ≤ zw a then zJ (rec m) x L st h else k L st h | _ => none
  | .ifCond .gt _ => match st with | .inl a :: st => if 0 < zw a then zJ (rec m) x L st h else k L st h | _ => none
  | .ifCond .le _ => match st with | .inl a :: st => if zw a ≤ 0 then zJ (rec m) x L st h else k L st h | _ => none
  | .if_icmp .eq _ => match st with | .inl b :: .inl a :: st => if zw a = zw b then zJ (rec m) x L st h else k L st h | _ => none
  | .if_icmp .ne _ => match st with | .inl b :: .inl a :: st => if zw a ≠ zw b then zJ (rec m) x L st h else k L st h | _ => none
  | .if_icmp .lt _ => match st with | .inl b :: .inl a :: st => if zw a < zw b then zJ (rec m) x L st h else k L st h | _ => none
  | .if_icmp .ge _ => match st with | .inl b :: .inl a :: st => if zw b ≤ zw a then zJ (rec m) x L st h else k L st h | _ => none
  | .if_icmp .gt _ => match st with | .inl b :: .inl a :: st => if zw b < zw a then zJ (rec m) x L st h else k L st h | _ => none
  | .if_icmp .le _ => match st with | .inl b :: .inl a :: st => if zw a ≤ zw b then zJ (rec m) x L st h else k L st h | _ => none
  | .ifnull _ => match st with | .inr (.inr r) :: st => zif r (zJ (rec m) x L st h) (k L st h) | _ => none
  | .ifnonnull _ => match st with | .inr (.inr r) :: st => zif r (k L st h) (zJ (rec m) x L st h) | _ => none
  | .tableswitch _ lo hi _ => match x, st with
    | n :: d :: x, .inl a :: st => if zw a < lo ∨ hi < zw a then rec m d (zkeep (x.take n) L) st h else zsel ((x.drop n)[(zw a - lo).toNat]?) fun t => rec m t (zkeep (x.take n) L) st h
    | _, _ => none
  | .ireturn => match x, st with
    | [0], [.inl a] => some (some (.inl a), h)
    | [1], [.inl a] => if a = 0 ∨ a = 1 then some (some (.inl a), h) else none
    | _, _ => none
  | .lreturn => match st with | [.inr (.inl a)] => some (some (.inr (.inl a)), h) | _ => none
  | .areturn => match st with | [.inr (.inr a)] => some (some (.inr (.inr a)), h) | _ => none
  | .return_ => match st with | [] => some (none, h) | _ => none
  | .invokevirtual _ => zX rec x L st h k
  | .invokestatic _ => match x with
    | [0] => match st with | .inl b :: .inl a :: st => if zcs st ≤ 8 then k L (.inl (if zw a < zw b then b else a) :: st) h else none | _ => none
    | [1] => match st with | .inl b :: .inl a :: st => if zcs st ≤ 8 then k L (.inl (if zw b < zw a then b else a) :: st) h else none | _ => none
    | x => zX rec x L st h k
  | .invokespecial _ => match x with
    | [] => match st with | [.inr (.inr (some _))] => k L [] h | _ => none
    | x => zX rec x L st h k
  | I => zS xs I x c L st h k
def zB (xs : List Int) (rec : Nat → Nat → zL → List zV → zH → Option zR) (m : Nat) : List zE → zL → List zV → zH → Option zR
  | [], _, _, _ => none
  | (I, x, c) :: t, L, st, h => zI xs rec m I x c L st h (zB xs rec m t)
