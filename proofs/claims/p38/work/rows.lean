section
-- ===== PART A: goes FIRST, ahead of the names: the tables' words, and 'selects' of the private methods out of them =====
/-- a private method of a class that the tables say can be made, by its rows of tables_1 -/
def lw_okq (q : MethodName × Nat) : Prop := (q.1.cls ≠ "java/lang/invoke/MethodHandle" ∧ q.1.cls ≠ "java/lang/invoke/VarHandle") ∧ Cond.instantiable q.1.cls q.2 ∈ tables_1 ∧ Cond.privateMethod q.1 ∈ tables_1 ∧ Cond.instanceMethod q.1 ∈ tables_1
theorem lw_p0 : lw_okq (⟨"MindReaders", "firstFault", "()I"⟩, 14) := ⟨⟨by decide +kernel, by decide +kernel⟩, List.mem_of_getElem? (i := 11) (by decide +kernel), List.mem_of_getElem? (i := 182) (by decide +kernel), List.mem_of_getElem? (i := 183) (by decide +kernel)⟩
theorem lw_p1 : lw_okq (⟨"MindReaders", "codeAt", "(I)LMindReaders$Code;"⟩, 14) := ⟨⟨by decide +kernel, by decide +kernel⟩, List.mem_of_getElem? (i := 11) (by decide +kernel), List.mem_of_getElem? (i := 249) (by decide +kernel), List.mem_of_getElem? (i := 250) (by decide +kernel)⟩
theorem lw_p2 : lw_okq (⟨"MindReaders", "longOf", "(LMindReaders$Code;I)I"⟩, 14) := ⟨⟨by decide +kernel, by decide +kernel⟩, List.mem_of_getElem? (i := 11) (by decide +kernel), List.mem_of_getElem? (i := 259) (by decide +kernel), List.mem_of_getElem? (i := 260) (by decide +kernel)⟩
theorem lw_p3 : lw_okq (⟨"MindReaders$Readings", "meet", "(LMindReaders$Code;IIII)Z"⟩, 2) := ⟨⟨by decide +kernel, by decide +kernel⟩, List.mem_of_getElem? (i := 93) (by decide +kernel), List.mem_of_getElem? (i := 315) (by decide +kernel), List.mem_of_getElem? (i := 316) (by decide +kernel)⟩
theorem lw_p4 : lw_okq (⟨"MindReaders$Readings", "comeTo", "(III)Z"⟩, 2) := ⟨⟨by decide +kernel, by decide +kernel⟩, List.mem_of_getElem? (i := 93) (by decide +kernel), List.mem_of_getElem? (i := 323) (by decide +kernel), List.mem_of_getElem? (i := 324) (by decide +kernel)⟩
theorem lw_p5 : lw_okq (⟨"MindReaders$Readings", "goOn", "(LMindReaders$Code;)Z"⟩, 2) := ⟨⟨by decide +kernel, by decide +kernel⟩, List.mem_of_getElem? (i := 93) (by decide +kernel), List.mem_of_getElem? (i := 331) (by decide +kernel), List.mem_of_getElem? (i := 332) (by decide +kernel)⟩
theorem lw_p6 : lw_okq (⟨"MindReaders", "thingsSaid", "(LMindReaders$Code;)I"⟩, 14) := ⟨⟨by decide +kernel, by decide +kernel⟩, List.mem_of_getElem? (i := 11) (by decide +kernel), List.mem_of_getElem? (i := 342) (by decide +kernel), List.mem_of_getElem? (i := 343) (by decide +kernel)⟩
theorem lw_p7 : lw_okq (⟨"MindReaders", "dealtTo", "(LMindReaders$Code;I)I"⟩, 14) := ⟨⟨by decide +kernel, by decide +kernel⟩, List.mem_of_getElem? (i := 11) (by decide +kernel), List.mem_of_getElem? (i := 370) (by decide +kernel), List.mem_of_getElem? (i := 371) (by decide +kernel)⟩
theorem lw_p8 : lw_okq (⟨"MindReaders", "rankByLong", "(LMindReaders$Code;II)I"⟩, 14) := ⟨⟨by decide +kernel, by decide +kernel⟩, List.mem_of_getElem? (i := 11) (by decide +kernel), List.mem_of_getElem? (i := 377) (by decide +kernel), List.mem_of_getElem? (i := 378) (by decide +kernel)⟩
theorem lw_p9 : lw_okq (⟨"MindReaders", "unlike", "(LMindReaders$Code;II)I"⟩, 14) := ⟨⟨by decide +kernel, by decide +kernel⟩, List.mem_of_getElem? (i := 11) (by decide +kernel), List.mem_of_getElem? (i := 397) (by decide +kernel), List.mem_of_getElem? (i := 398) (by decide +kernel)⟩
theorem lw_p10 : lw_okq (⟨"MindReaders", "hearPage", "()Z"⟩, 14) := ⟨⟨by decide +kernel, by decide +kernel⟩, List.mem_of_getElem? (i := 11) (by decide +kernel), List.mem_of_getElem? (i := 483) (by decide +kernel), List.mem_of_getElem? (i := 484) (by decide +kernel)⟩
theorem lw_p11 : lw_okq (⟨"MindReaders", "readPage", "()Z"⟩, 14) := ⟨⟨by decide +kernel, by decide +kernel⟩, List.mem_of_getElem? (i := 11) (by decide +kernel), List.mem_of_getElem? (i := 487) (by decide +kernel), List.mem_of_getElem? (i := 488) (by decide +kernel)⟩
def lw_privs_1 : List (MethodName × Nat) := [(⟨"MindReaders", "firstFault", "()I"⟩, 14), (⟨"MindReaders", "codeAt", "(I)LMindReaders$Code;"⟩, 14), (⟨"MindReaders", "longOf", "(LMindReaders$Code;I)I"⟩, 14), (⟨"MindReaders$Readings", "meet", "(LMindReaders$Code;IIII)Z"⟩, 2), (⟨"MindReaders$Readings", "comeTo", "(III)Z"⟩, 2), (⟨"MindReaders$Readings", "goOn", "(LMindReaders$Code;)Z"⟩, 2), (⟨"MindReaders", "thingsSaid", "(LMindReaders$Code;)I"⟩, 14), (⟨"MindReaders", "dealtTo", "(LMindReaders$Code;I)I"⟩, 14), (⟨"MindReaders", "rankByLong", "(LMindReaders$Code;II)I"⟩, 14), (⟨"MindReaders", "unlike", "(LMindReaders$Code;II)I"⟩, 14), (⟨"MindReaders", "hearPage", "()Z"⟩, 14), (⟨"MindReaders", "readPage", "()Z"⟩, 14)]
theorem lw_r1 : ∀ q ∈ lw_privs_1, lw_okq q := List.forall_mem_cons.mpr ⟨lw_p0, List.forall_mem_cons.mpr ⟨lw_p1, List.forall_mem_cons.mpr ⟨lw_p2, List.forall_mem_cons.mpr ⟨lw_p3, List.forall_mem_cons.mpr ⟨lw_p4, List.forall_mem_cons.mpr ⟨lw_p5, List.forall_mem_cons.mpr ⟨lw_p6, List.forall_mem_cons.mpr ⟨lw_p7, List.forall_mem_cons.mpr ⟨lw_p8, List.forall_mem_cons.mpr ⟨lw_p9, List.forall_mem_cons.mpr ⟨lw_p10, List.forall_mem_cons.mpr ⟨lw_p11, fun _ h => absurd h List.not_mem_nil⟩⟩⟩⟩⟩⟩⟩⟩⟩⟩⟩⟩
def lw_privs : List (MethodName × Nat) := lw_privs_1
def lw_tbl : List Cond := k2_sels lw_privs ++ tables_1
theorem lw_privs_ok : ∀ q ∈ lw_privs, lw_okq q := lw_r1
def RX0 : String := "MindReaders$Code"
def TX0 : u_T := fun k => match k with
  | 0 => ("MindReaders$Code", "spoken", "LMindReaders$Rows;", true)
  | 1 => ("MindReaders$Code", "plain", "LMindReaders$Rows;", true)
  | _ => ("MindReaders$Code", "size", "I", false)
def tyX0 : Nat → FieldType := fun k => match k with
  | 0 => .object "MindReaders$Rows"
  | 1 => .object "MindReaders$Rows"
  | _ => .int
abbrev wsX00 : List Cond := u_ws RX0 TX0 3
theorem nmX0 : ∀ a, a < 3 → ∀ b, b < 3 → a ≠ b → (TX0 a).2.1 ≠ (TX0 b).2.1 := by decide +kernel
theorem tyX0_ok : ∀ k, k < 3 → parseFieldDescriptor (TX0 k).2.2.1 = some (tyX0 k) := by decide +kernel
def RX1 : String := "MindReaders$Notes"
def TX1 : u_T := fun k => match k with
  | 0 => ("MindReaders$Notes", "things", "LMindReaders$Row;", true)
  | _ => ("MindReaders$Notes", "rows", "LMindReaders$Rows;", true)
def tyX1 : Nat → FieldType := fun k => match k with
  | 0 => .object "MindReaders$Row"
  | _ => .object "MindReaders$Rows"
abbrev wsX10 : List Cond := u_ws RX1 TX1 2
theorem nmX1 : ∀ a, a < 2 → ∀ b, b < 2 → a ≠ b → (TX1 a).2.1 ≠ (TX1 b).2.1 := by decide +kernel
theorem tyX1_ok : ∀ k, k < 2 → parseFieldDescriptor (TX1 k).2.2.1 = some (tyX1 k) := by decide +kernel
def RX2 : String := "MindReaders$Readings"
def TX2 : u_T := fun k => match k with
  | 0 => ("MindReaders$Readings", "lengths", "LMindReaders$Row;", true)
  | _ => ("MindReaders$Readings", "best", "I", false)
def tyX2 : Nat → FieldType := fun k => match k with
  | 0 => .object "MindReaders$Row"
  | _ => .int
abbrev wsX20 : List Cond := u_ws RX2 TX2 2
theorem nmX2 : ∀ a, a < 2 → ∀ b, b < 2 → a ≠ b → (TX2 a).2.1 ≠ (TX2 b).2.1 := by decide +kernel
theorem tyX2_ok : ∀ k, k < 2 → parseFieldDescriptor (TX2 k).2.2.1 = some (tyX2 k) := by decide +kernel
def RX3 : String := "MindReaders$Row"
def TX3 : u_T := fun k => match k with
  | 0 => ("MindReaders$Row", "cells", "[I", true)
  | _ => ("MindReaders$Row", "size", "I", false)
def tyX3 : Nat → FieldType := fun k => match k with
  | 0 => .array .int
  | _ => .int
abbrev wsX30 : List Cond := u_ws RX3 TX3 2
theorem nmX3 : ∀ a, a < 2 → ∀ b, b < 2 → a ≠ b → (TX3 a).2.1 ≠ (TX3 b).2.1 := by decide +kernel
theorem tyX3_ok : ∀ k, k < 2 → parseFieldDescriptor (TX3 k).2.2.1 = some (tyX3 k) := by decide +kernel
def RX4 : String := "MindReaders$Rows"
def TX4 : u_T := fun k => match k with
  | 0 => ("MindReaders$Rows", "rows", "[LMindReaders$Row;", true)
  | _ => ("MindReaders$Rows", "nothing", "LMindReaders$Row;", true)
def tyX4 : Nat → FieldType := fun k => match k with
  | 0 => .array (.object "MindReaders$Row")
  | _ => .object "MindReaders$Row"
abbrev wsX40 : List Cond := u_ws RX4 TX4 2
theorem nmX4 : ∀ a, a < 2 → ∀ b, b < 2 → a ≠ b → (TX4 a).2.1 ≠ (TX4 b).2.1 := by decide +kernel
theorem tyX4_ok : ∀ k, k < 2 → parseFieldDescriptor (TX4 k).2.2.1 = some (tyX4 k) := by decide +kernel
def RX5 : String := "MindReaders$Signals"
def TX5 : u_T := fun k => match k with
  | 0 => ("MindReaders$Signals", "kinds", "LMindReaders$Row;", true)
  | 1 => ("MindReaders$Signals", "tones", "LMindReaders$Row;", true)
  | 2 => ("MindReaders$Signals", "seconds", "LMindReaders$Row;", true)
  | _ => ("MindReaders$Signals", "odds", "LMindReaders$Row;", true)
def tyX5 : Nat → FieldType := fun k => match k with
  | 0 => .object "MindReaders$Row"
  | 1 => .object "MindReaders$Row"
  | 2 => .object "MindReaders$Row"
  | _ => .object "MindReaders$Row"
abbrev wsX50 : List Cond := u_ws RX5 TX5 4
theorem nmX5 : ∀ a, a < 4 → ∀ b, b < 4 → a ≠ b → (TX5 a).2.1 ≠ (TX5 b).2.1 := by decide +kernel
theorem tyX5_ok : ∀ k, k < 4 → parseFieldDescriptor (TX5 k).2.2.1 = some (tyX5 k) := by decide +kernel
def RX6 : String := "MindReaders"
def TX6 : u_T := fun k => match k with
  | 0 => ("MindReaders", "signals", "LMindReaders$Signals;", true)
  | 1 => ("MindReaders", "weights", "LMindReaders$Row;", true)
  | 2 => ("MindReaders", "codes", "[LMindReaders$Code;", true)
  | 3 => ("MindReaders", "codesRead", "I", false)
  | 4 => ("MindReaders", "page", "LMindReaders$Row;", true)
  | 5 => ("MindReaders", "notes", "LMindReaders$Notes;", true)
  | 6 => ("MindReaders", "keptWeights", "LMindReaders$Row;", true)
  | 7 => ("MindReaders", "keptNotes", "LMindReaders$Notes;", true)
  | 8 => ("MindReaders", "kept", "Z", false)
  | 9 => ("MindReaders", "said", "LMindReaders$Row;", true)
  | 10 => ("MindReaders", "heard", "LMindReaders$Row;", true)
  | 11 => ("MindReaders", "pool", "LMindReaders$Row;", true)
  | 12 => ("MindReaders", "struck", "LMindReaders$Rows;", true)
  | _ => ("MindReaders", "readings", "LMindReaders$Readings;", true)
def tyX6 : Nat → FieldType := fun k => match k with
  | 0 => .object "MindReaders$Signals"
  | 1 => .object "MindReaders$Row"
  | 2 => .array (.object "MindReaders$Code")
  | 3 => .int
  | 4 => .object "MindReaders$Row"
  | 5 => .object "MindReaders$Notes"
  | 6 => .object "MindReaders$Row"
  | 7 => .object "MindReaders$Notes"
  | 8 => .boolean
  | 9 => .object "MindReaders$Row"
  | 10 => .object "MindReaders$Row"
  | 11 => .object "MindReaders$Row"
  | 12 => .object "MindReaders$Rows"
  | _ => .object "MindReaders$Readings"
abbrev wsX60 : List Cond := u_ws RX6 TX6 14
theorem nmX6 : ∀ a, a < 14 → ∀ b, b < 14 → a ≠ b → (TX6 a).2.1 ≠ (TX6 b).2.1 := by decide +kernel
theorem tyX6_ok : ∀ k, k < 14 → parseFieldDescriptor (TX6 k).2.2.1 = some (tyX6 k) := by decide +kernel
def RX7 : String := "MindReadersModel"
def TX7 : u_T := fun k => match k with
  | _ => ("", "", "", false)
def tyX7 : Nat → FieldType := fun k => match k with
  | _ => .int
abbrev wsX70 : List Cond := u_ws RX7 TX7 0
theorem nmX7 : ∀ a, a < 0 → ∀ b, b < 0 → a ≠ b → (TX7 a).2.1 ≠ (TX7 b).2.1 := by decide +kernel
theorem tyX7_ok : ∀ k, k < 0 → parseFieldDescriptor (TX7 k).2.2.1 = some (tyX7 k) := by decide +kernel
def RJ6 : String := "java/lang/Integer"
def RJ9 : String := "java/lang/Math"
def RL : String := "MindReadersLaw"
end
section
/-! ===== a pure reading of the bytecode: values are whole numbers or places; a machine int is a number modulo 2^32 ===== -/
abbrev zV : Type := Int ⊕ (Int ⊕ Option Nat)
abbrev zH : Type := List (Nat × List zV)
abbrev zL : Type := List (Option zV)
abbrev zR : Type := Option zV × zH
abbrev zE : Type := Instr × List Nat × Int
/-- the number that a machine int, long stands for -/
def zw (x : Int) : Int := (x + 2147483648) % 4294967296 - 2147483648
def zwl (x : Int) : Int := (x + 9223372036854775808) % 18446744073709551616 - 9223372036854775808
/-- machine operations on bits -/
def zand (a b : Int) : Int := (Int32.ofInt a &&& Int32.ofInt b).toInt
def zor (a b : Int) : Int := (Int32.ofInt a ||| Int32.ofInt b).toInt
def zshl (a b : Int) : Int := (Int32.ofInt a <<< (Int32.ofInt b &&& 31)).toInt
def zshr (a b : Int) : Int := (Int32.ofInt a >>> (Int32.ofInt b &&& 31)).toInt
def zushr (a b : Int) : Int := ((Int32.ofInt a).toUInt32 >>> ((Int32.ofInt b).toUInt32 &&& Int32.toUInt32 31)).toInt32.toInt
def zandl (a b : Int) : Int := (Int64.ofInt a &&& Int64.ofInt b).toInt
def zorl (a b : Int) : Int := (Int64.ofInt a ||| Int64.ofInt b).toInt
def zshll (a b : Int) : Int := (Int64.ofInt a <<< ((Int32.ofInt b).toInt64 &&& 63)).toInt
def zushrl (a b : Int) : Int := ((Int64.ofInt a).toUInt64 >>> ((Int32.ofInt b).toInt64.toUInt64 &&& Int64.toUInt64 63)).toInt64.toInt
/-- reading and writing cells: place 0 is the script, place q + 1 the heap's cell q; a tag below 100 is a class, 100 int[], 101 long[], above: references -/
def zfd (h : zH) (r : Option Nat) (ci k : Nat) : Option zV := match r with
  | some (p + 1) => match h[p]? with
    | some c => if c.1 = ci then c.2[k]? else none
    | none => none
  | _ => none
def zgi (h : zH) (r : Option Nat) (ci k : Nat) (f : Int → Option zR) : Option zR := match zfd h r ci k with
  | some (.inl v) => f v
  | _ => none
def zgl (h : zH) (r : Option Nat) (ci k : Nat) (f : Int → Option zR) : Option zR := match zfd h r ci k with
  | some (.inr (.inl v)) => f v
  | _ => none
def zgr (h : zH) (r : Option Nat) (ci k : Nat) (f : Option Nat → Option zR) : Option zR := match zfd h r ci k with
  | some (.inr (.inr v)) => f v
  | _ => none
def zput (h : zH) (p k : Nat) (v : zV) : zH := match h[p]? with
  | some c => h.set p (c.1, c.2.set k v)
  | none => h
def zpf (h : zH) (r : Option Nat) (ci k : Nat) (v : zV) (f : zH → Option zR) : Option zR := match r with
  | some (p + 1) => match h[p]? with
    | some c => if c.1 = ci ∧ k < c.2.length then f (h.set p (c.1, c.2.set k v)) else none
    | none => none
  | _ => none
def zar (xs : List Int) (h : zH) (r : Option Nat) (tag : Nat) (i : Int) : Option zV := match r with
  | some 0 => if tag = 100 ∧ 0 ≤ zw i then (xs[(zw i).toNat]?).map .inl else none
  | some (p + 1) => match h[p]? with
    | some c => if c.1 = tag ∧ 0 ≤ zw i then c.2[(zw i).toNat]? else none
    | none => none
  | none => none
def zai (xs : List Int) (h : zH) (r : Option Nat) (i : Int) (f : Int → Option zR) : Option zR := match zar xs h r 100 i with
  | some (.inl v) => f v
  | _ => none
def zal (xs : List Int) (h : zH) (r : Option Nat) (i : Int) (f : Int → Option zR) : Option zR := match zar xs h r 101 i with
  | some (.inr (.inl v)) => f v
  | _ => none
def zaa (xs : List Int) (h : zH) (r : Option Nat) (tag : Nat) (i : Int) (f : Option Nat → Option zR) : Option zR := match zar xs h r tag i with
  | some (.inr (.inr v)) => f v
  | _ => none
def zst (h : zH) (r : Option Nat) (tag : Nat) (i : Int) (v : zV) (f : zH → Option zR) : Option zR := match r with
  | some (p + 1) => match h[p]? with
    | some c => if c.1 = tag ∧ 0 ≤ zw i ∧ (zw i).toNat < c.2.length then f (h.set p (c.1, c.2.set (zw i).toNat v)) else none
    | none => none
  | _ => none
def zln (xs : List Int) (h : zH) (r : Option Nat) (f : Int → Option zR) : Option zR := match r with
  | some 0 => f xs.length
  | some (p + 1) => match h[p]? with
    | some c => if 100 ≤ c.1 then f c.2.length else none
    | none => none
  | none => none
def zro (r : Option Nat) (f : Nat → Option zR) : Option zR := match r with
  | some p => f p
  | none => none
def zif (r : Option Nat) (a : Option zR) (b : Option zR) : Option zR := match r with
  | none => a
  | some _ => b
def zci (o : Option zR) (f : Int → zH → Option zR) : Option zR := match o with
  | some (some (.inl v), h) => f v h
  | _ => none
def zcl (o : Option zR) (f : Int → zH → Option zR) : Option zR := match o with
  | some (some (.inr (.inl v)), h) => f v h
  | _ => none
def zcr (o : Option zR) (f : Option Nat → zH → Option zR) : Option zR := match o with
  | some (some (.inr (.inr v)), h) => f v h
  | _ => none
def zcv (o : Option zR) (f : zH → Option zR) : Option zR := match o with
  | some (none, h) => f h
  | _ => none
/-- the locals -/
def zcat (v : zV) : Nat := match v with
  | .inr (.inl _) => 2
  | _ => 1
def zargs : List zV → zL
  | [] => []
  | .inr (.inl x) :: t => some (.inr (.inl x)) :: none :: zargs t
  | .inl x :: t => some (.inl x) :: zargs t
  | .inr (.inr x) :: t => some (.inr (.inr x)) :: zargs t
def zkeep : List Nat → zL → zL
  | [], _ => []
  | _ :: _, [] => []
  | 0 :: m, _ :: t => none :: zkeep m t
  | (_ + 1) :: m, v :: t => v :: zkeep m t
/-- L with place i set; a long that stood one place before is lost -/
def zset1 : zL → Nat → Option zV → zL
  | [], 0, v => [v]
  | [], i + 1, v => none :: zset1 [] i v
  | _ :: t, 0, v => v :: t
  | some (.inr (.inl _)) :: t, 1, v => none :: zset1 t 0 v
  | a :: t, i + 1, v => a :: zset1 t i v
def zset2 : zL → Nat → Option zV → zL
  | [], 0, v => [v, none]
  | [], i + 1, v => none :: zset2 [] i v
  | [_], 0, v => [v, none]
  | _ :: _ :: t, 0, v => v :: none :: t
  | some (.inr (.inl _)) :: t, 1, v => none :: zset2 t 0 v
  | a :: t, i + 1, v => a :: zset2 t i v
def zld (L : zL) (i : Nat) : Option zV := match L[i]? with
  | some (some v) => some v
  | _ => none
/-- one instruction that neither jumps nor calls: what it leaves goes to k -/
def zS (xs : List Int) (I : Instr) (x : List Nat) (c : Int) (L : zL) (st : List zV) (h : zH) (k : zL → List zV → zH → Option zR) : Option zR := match I with
  | .iconst n => k L (.inl n :: st) h
  | .bipush n => k L (.inl n :: st) h
  | .sipush n => k L (.inl n :: st) h
  | .ldc _ => k L (.inl c :: st) h
  | .ldc_w _ => k L (.inl c :: st) h
  | .lconst n => k L (.inr (.inl ((n : Nat) : Int)) :: st) h
  | .ldc2_w _ => k L (.inr (.inl c) :: st) h
  | .aconst_null => k L (.inr (.inr none) :: st) h
  | .iload i => match zld L i with | some (.inl v) => k L (.inl v :: st) h | _ => none
  | .iload_n i => match zld L i with | some (.inl v) => k L (.inl v :: st) h | _ => none
  | .lload i => match zld L i with | some (.inr (.inl v)) => k L (.inr (.inl v) :: st) h | _ => none
  | .lload_n i => match zld L i with | some (.inr (.inl v)) => k L (.inr (.inl v) :: st) h | _ => none
  | .aload i => match zld L i with | some (.inr (.inr v)) => k L (.inr (.inr v) :: st) h | _ => none
  | .aload_n i => match zld L i with | some (.inr (.inr v)) => k L (.inr (.inr v) :: st) h | _ => none
  | .istore i => match st with | .inl v :: st => k (zset1 L i (some (.inl v))) st h | _ => none
  | .istore_n i => match st with | .inl v :: st => k (zset1 L i (some (.inl v))) st h | _ => none
  | .lstore i => match st with | .inr (.inl v) :: st => k (zset2 L i (some (.inr (.inl v)))) st h | _ => none
  | .lstore_n i => match st with | .inr (.inl v) :: st => k (zset2 L i (some (.inr (.inl v)))) st h | _ => none
  | .astore i => match st with | .inr (.inr v) :: st => k (zset1 L i (some (.inr (.inr v)))) st h | _ => none
  | .astore_n i => match st with | .inr (.inr v) :: st => k (zset1 L i (some (.inr (.inr v)))) st h | _ => none
  | .iinc i n => match zld L i with | some (.inl v) => k (zset1 L i (some (.inl (v + n)))) st h | _ => none
  | .iadd => match st with | .inl b :: .inl a :: st => k L (.inl (a + b) :: st) h | _ => none
  | .isub => match st with | .inl b :: .inl a :: st => k L (.inl (a - b) :: st) h | _ => none
  | .imul => match st with | .inl b :: .inl a :: st => k L (.inl (a * b) :: st) h | _ => none
  | .ineg => match st with | .inl a :: st => k L (.inl (-a) :: st) h | _ => none
  | .idiv => match st with | .inl b :: .inl a :: st => if zw b = 0 then none else k L (.inl ((zw a).tdiv (zw b)) :: st) h | _ => none
  | .irem => match st with | .inl b :: .inl a :: st => if zw b = 0 then none else k L (.inl ((zw a).tmod (zw b)) :: st) h | _ => none
  | .iand => match st with | .inl b :: .inl a :: st => k L (.inl (zand a b) :: st) h | _ => none
  | .ior => match st with | .inl b :: .inl a :: st => k L (.inl (zor a b) :: st) h | _ => none
  | .ishl => match st with | .inl b :: .inl a :: st => k L (.inl (zshl a b) :: st) h | _ => none
  | .ishr => match st with | .inl b :: .inl a :: st => k L (.inl (zshr a b) :: st) h | _ => none
  | .iushr => match st with | .inl b :: .inl a :: st => k L (.inl (zushr a b) :: st) h | _ => none
  | .i2l => match st with | .inl a :: st => k L (.inr (.inl (zw a)) :: st) h | _ => none
  | .l2i => match st with | .inr (.inl a) :: st => k L (.inl a :: st) h | _ => none
  | .ladd => match st with | .inr (.inl b) :: .inr (.inl a) :: st => k L (.inr (.inl (a + b)) :: st) h | _ => none
  | .lsub => match st with | .inr (.inl b) :: .inr (.inl a) :: st => k L (.inr (.inl (a - b)) :: st) h | _ => none
  | .lmul => match st with | .inr (.inl b) :: .inr (.inl a) :: st => k L (.inr (.inl (a * b)) :: st) h | _ => none
  | .lneg => match st with | .inr (.inl a) :: st => k L (.inr (.inl (-a)) :: st) h | _ => none
  | .ldiv => match st with | .inr (.inl b) :: .inr (.inl a) :: st => if zwl b = 0 then none else k L (.inr (.inl ((zwl a).tdiv (zwl b))) :: st) h | _ => none
  | .lrem => match st with | .inr (.inl b) :: .inr (.inl a) :: st => if zwl b = 0 then none else k L (.inr (.inl ((zwl a).tmod (zwl b))) :: st) h | _ => none
  | .land => match st with | .inr (.inl b) :: .inr (.inl a) :: st => k L (.inr (.inl (zandl a b)) :: st) h | _ => none
  | .lor => match st with | .inr (.inl b) :: .inr (.inl a) :: st => k L (.inr (.inl (zorl a b)) :: st) h | _ => none
  | .lshl => match st with | .inl b :: .inr (.inl a) :: st => k L (.inr (.inl (zshll a b)) :: st) h | _ => none
  | .lushr => match st with | .inl b :: .inr (.inl a) :: st => k L (.inr (.inl (zushrl a b)) :: st) h | _ => none
  | .lcmp => match st with | .inr (.inl b) :: .inr (.inl a) :: st => k L (.inl (if zwl a < zwl b then -1 else if zwl a = zwl b then 0 else 1) :: st) h | _ => none
  | .dup => match st with | .inl a :: st => k L (.inl a :: .inl a :: st) h | .inr (.inr a) :: st => k L (.inr (.inr a) :: .inr (.inr a) :: st) h | _ => none
  | .dup2 => match st with | .inl b :: .inr (.inr a) :: st => k L (.inl b :: .inr (.inr a) :: .inl b :: .inr (.inr a) :: st) h | _ => none
  | .dup_x2 => match st with | .inl d :: .inl b :: .inr (.inr a) :: st => k L (.inl d :: .inl b :: .inr (.inr a) :: .inl d :: st) h | _ => none
  | .pop => match st with | .inl _ :: st => k L st h | .inr (.inr _) :: st => k L st h | _ => none
  | .getfield _ => match x, st with
    | [ci, j, 0], .inr (.inr r) :: st => zgi h r ci j fun v => k L (.inl v :: st) h
    | [ci, j, 1], .inr (.inr r) :: st => zgl h r ci j fun v => k L (.inr (.inl v) :: st) h
    | [ci, j, 2], .inr (.inr r) :: st => zgr h r ci j fun v => k L (.inr (.inr v) :: st) h
    | _, _ => none
  | .putfield _ => match x, st with
    | [ci, j, 0], .inl v :: .inr (.inr r) :: st => zpf h r ci j (.inl v) fun h => k L st h
    | [ci, j, 1], .inr (.inl v) :: .inr (.inr r) :: st => zpf h r ci j (.inr (.inl v)) fun h => k L st h
    | [ci, j, 2], .inr (.inr v) :: .inr (.inr r) :: st => zpf h r ci j (.inr (.inr v)) fun h => k L st h
    | [ci, j, 3], .inl v :: .inr (.inr r) :: st => if v = 0 ∨ v = 1 then zpf h r ci j (.inl v) fun h => k L st h else none
    | _, _ => none
  | .iaload => match st with | .inl i :: .inr (.inr r) :: st => zai xs h r i fun v => k L (.inl v :: st) h | _ => none
  | .laload => match st with | .inl i :: .inr (.inr r) :: st => zal xs h r i fun v => k L (.inr (.inl v) :: st) h | _ => none
  | .aaload => match x, st with | [tag], .inl i :: .inr (.inr r) :: st => zaa xs h r tag i fun v => k L (.inr (.inr v) :: st) h | _, _ => none
  | .iastore => match st with | .inl v :: .inl i :: .inr (.inr r) :: st => zst h r 100 i (.inl v) fun h => k L st h | _ => none
  | .lastore => match st with | .inr (.inl v) :: .inl i :: .inr (.inr r) :: st => zst h r 101 i (.inr (.inl v)) fun h => k L st h | _ => none
  | .aastore => match x, st with | [tag, ci], .inr (.inr (some v)) :: .inl i :: .inr (.inr r) :: st => (match v with | 0 => none | q + 1 => match h[q]? with | some c => if c.1 = ci then zst h r tag i (.inr (.inr (some (q + 1)))) fun h => k L st h else none | none => none) | _, _ => none
  | .arraylength => match st with | .inr (.inr r) :: st => zln xs h r fun v => k L (.inl v :: st) h | _ => none
  | .new _ => match x with
    | ci :: tys => k L (.inr (.inr (some (h.length + 1))) :: st) (h ++ [(ci, tys.map fun t => match t with | 0 => .inl 0 | 1 => .inr (.inl 0) | _ => .inr (.inr none))])
    | _ => none
  | .newarray _ => match x, st with
    | [0], .inl n :: st => if 0 ≤ zw n ∧ zw n ≤ 1000000 then k L (.inr (.inr (some (h.length + 1))) :: st) (h ++ [(100, List.replicate (zw n).toNat (.inl 0))]) else none
    | [1], .inl n :: st => if 0 ≤ zw n ∧ zw n ≤ 1000000 then k L (.inr (.inr (some (h.length + 1))) :: st) (h ++ [(101, List.replicate (zw n).toNat (.inr (.inl 0)))]) else none
    | _, _ => none
  | .anewarray _ => match x, st with
    | [tag], .inl n :: st => if 0 ≤ zw n ∧ zw n ≤ 1000000 then k L (.inr (.inr (some (h.length + 1))) :: st) (h ++ [(tag, List.replicate (zw n).toNat (.inr (.inr none)))]) else none
    | _, _ => none
  | _ => none
def zsel (o : Option Nat) (f : Nat → Option zR) : Option zR := match o with
  | some t => f t
  | none => none
/-- a jump: the locals that live on -/
def zJ (rec : Nat → zL → List zV → zH → Option zR) (x : List Nat) (L : zL) (st : List zV) (h : zH) : Option zR := match x with
  | t :: m => rec t (zkeep m L) st h
  | [] => none
def zY (t : Nat) (o : Option zR) (L : zL) (st : List zV) (k : zL → List zV → zH → Option zR) : Option zR := match t with
  | 0 => zcv o fun h => k L st h
  | 1 => zci o fun v h => k L (.inl v :: st) h
  | 2 => zcl o fun v h => k L (.inr (.inl v) :: st) h
  | 3 => zcr o fun v h => k L (.inr (.inr v) :: st) h
  | _ => none
def zrcv (l : List zV) : Option Nat := match l with
  | .inr (.inr r) :: _ => r
  | _ => none
/-- the receiver is an object of that class -/
def zck (h : zH) (r : Option Nat) (ci : Nat) (o : Option zR) : Option zR := match r with
  | some (p + 1) => match h[p]? with
    | some c => if c.1 = ci then o else none
    | none => none
  | _ => none
/-- words on the stack -/
def zcs : List zV → Nat
  | [] => 0
  | v :: t => zcat v + zcs t
def zX (rec : Nat → Nat → zL → List zV → zH → Option zR) (x : List Nat) (L : zL) (st : List zV) (h : zH) (k : zL → List zV → zH → Option zR) : Option zR := match x with
  | [m, n, t, mx] => if n ≤ st.length ∧ zcs (st.drop n) ≤ 8 ∧ (zargs (st.take n).reverse).length ≤ mx then zY t (rec m 0 (zargs (st.take n).reverse) [] h) L (st.drop n) k else none
  | [m, n, t, mx, ci] => if n ≤ st.length ∧ zcs (st.drop n) ≤ 8 ∧ (zargs (st.take n).reverse).length ≤ mx then zck h (zrcv (st.take n).reverse) ci (zY t (rec m 0 (zargs (st.take n).reverse) [] h) L (st.drop n) k) else none
  | _ => none
/-- one instruction -/
def zI (xs : List Int) (rec : Nat → Nat → zL → List zV → zH → Option zR) (m : Nat) (I : Instr) (x : List Nat) (c : Int) (L : zL) (st : List zV) (h : zH) (k : zL → List zV → zH → Option zR) : Option zR := match I with
  | .nop => zJ (rec m) x L st h
  | .goto _ => zJ (rec m) x L st h
  | .ifCond .eq _ => match st with | .inl a :: st => if zw a = 0 then zJ (rec m) x L st h else k L st h | _ => none
  | .ifCond .ne _ => match st with | .inl a :: st => if zw a ≠ 0 then zJ (rec m) x L st h else k L st h | _ => none
  | .ifCond .lt _ => match st with | .inl a :: st => if zw a < 0 then zJ (rec m) x L st h else k L st h | _ => none
  | .ifCond .ge _ => match st with | .inl a :: st => if 0 ≤ zw a then zJ (rec m) x L st h else k L st h | _ => none
  | .ifCond .gt _ => match st with | .inl a :: st => if 0 < zw a then zJ (rec m) x L st h else k L st h | _ => none
  | .ifCond .le _ => match st with | .inl a :: st => if zw a ≤ 0 then zJ (rec m) x L st h else k L st h | _ => none
  | .if_icmp .eq _ => match st with | .inl b :: .inl a :: st => if zw a = zw b then zJ (rec m) x L st h else k L st h | _ => none
  | .if_icmp .ne _ => match st with | .inl b :: .inl a :: st => if zw a ≠ zw b then zJ (rec m) x L st h else k L st h | _ => none
  | .if_icmp .lt _ => match st with | .inl b :: .inl a :: st => if zw a < zw b then zJ (rec m) x L st h else k L st h | _ => none
  | .if_icmp .ge _ => match st with | .inl b :: .inl a :: st => if zw b ≤ zw a then zJ (rec m) x L st h else k L st h | _ => none
  | .if_icmp .gt _ => match st with | .inl b :: .inl a :: st => if zw b < zw a then zJ (rec m) x L st h else k L st h | _ => none
  | .if_icmp .le _ => match st with | .inl b :: .inl a :: st => if zw a ≤ zw b then zJ (rec m) x L st h else k L st h | _ => none
  | .ifnull _ => match st with | .inr (.inr r) :: st => zif r (zJ (rec m) x L st h) (k L st h) | _ => none
  | .ifnonnull _ => match st with | .inr (.inr r) :: st => zif r (k L st h) (zJ (rec m) x L st h) | _ => none
  | .tableswitch _ lo hi _ => match x, st with
    | n :: d :: x, .inl a :: st => if zw a < lo ∨ hi < zw a then rec m d (zkeep (x.take n) L) st h else zsel ((x.drop n)[(zw a - lo).toNat]?) fun t => rec m t (zkeep (x.take n) L) st h
    | _, _ => none
  | .ireturn => match x, st with
    | [0], [.inl a] => some (some (.inl a), h)
    | [1], [.inl a] => if a = 0 ∨ a = 1 then some (some (.inl a), h) else none
    | _, _ => none
  | .lreturn => match st with | [.inr (.inl a)] => some (some (.inr (.inl a)), h) | _ => none
  | .areturn => match st with | [.inr (.inr a)] => some (some (.inr (.inr a)), h) | _ => none
  | .return_ => match st with | [] => some (none, h) | _ => none
  | .invokevirtual _ => zX rec x L st h k
  | .invokestatic _ => match x with
    | [0] => match st with | .inl b :: .inl a :: st => if zcs st ≤ 8 then k L (.inl (if zw a < zw b then b else a) :: st) h else none | _ => none
    | [1] => match st with | .inl b :: .inl a :: st => if zcs st ≤ 8 then k L (.inl (if zw b < zw a then b else a) :: st) h else none | _ => none
    | x => zX rec x L st h k
  | .invokespecial _ => match x with
    | [] => match st with | [.inr (.inr (some _))] => k L [] h | _ => none
    | x => zX rec x L st h k
  | I => zS xs I x c L st h k
def zB (xs : List Int) (rec : Nat → Nat → zL → List zV → zH → Option zR) (m : Nat) : List zE → zL → List zV → zH → Option zR
  | [], _, _, _ => none
  | (I, x, c) :: t, L, st, h => zI xs rec m I x c L st h (zB xs rec m t)
end
section
/-! ===== what a reading comes to, with no bound on its steps ===== -/
def zrun (B : Nat → Nat → Option (List zE)) (xs : List Int) : Nat → Nat → Nat → zL → List zV → zH → Option zR
  | 0, _, _, _, _, _ => none
  | n + 1, m, pc, L, st, h => match B m pc with
    | some b => zB xs (zrun B xs n) m b L st h
    | none => none
noncomputable def zx (B : Nat → Nat → Option (List zE)) (xs : List Int) (m pc : Nat) (L : zL) (st : List zV) (h : zH) : Option zR :=
  @dite _ (∃ r n, zrun B xs n m pc L st h = some r) (Classical.propDecidable _) (fun q => some (Classical.choose q)) (fun _ => none)
/-- the heap grows -/
def zsz : zH → Nat
  | [] => 0
  | c :: t => c.2.length + zsz t
def zge (h h' : zH) : Prop := h.length ≤ h'.length ∧ zsz h ≤ zsz h'
theorem zge_rf (h : zH) : zge h h := ⟨Nat.le_refl _, Nat.le_refl _⟩
theorem zge_tr {a b c : zH} (h1 : zge a b) (h2 : zge b c) : zge a c := ⟨Nat.le_trans h1.1 h2.1, Nat.le_trans h1.2 h2.2⟩
theorem zsz_app (a b : zH) : zsz (a ++ b) = zsz a + zsz b := by
  induction a with
  | nil => simp [zsz]
  | cons c t ih => simp [zsz, ih]; omega
theorem zsz_set : ∀ (h : zH) (p : Nat) (c c' : Nat × List zV), h[p]? = some c → c'.2.length = c.2.length → zsz (h.set p c') = zsz h
  | [], p, c, c', q, _ => by simp at q
  | d :: t, 0, c, c', q, e => by
    simp at q
    subst q
    simp [zsz, e]
  | d :: t, p + 1, c, c', q, e => by
    simp at q
    simp [zsz, zsz_set t p c c' q e]
theorem zge_set {h : zH} {p : Nat} {c c' : Nat × List zV} (q : h[p]? = some c) (e : c'.2.length = c.2.length) : zge h (h.set p c') := ⟨by simp, Nat.le_of_eq (zsz_set h p c c' q e).symm⟩
theorem zge_app (h : zH) (c : Nat × List zV) : zge h (h ++ [c]) := ⟨by simp, by rw [zsz_app]; omega⟩
/-- a step that passes on at most one state, whatever it is passed to -/
def zlin (h0 : zH) (F : (zL → List zV → zH → Option zR) → Option zR) : Prop := (∀ k, F k = none) ∨ ∃ L' st' h', zge h0 h' ∧ ∀ k, F k = k L' st' h'
theorem zlin_none {h0 : zH} : zlin h0 (fun _ => none) := Or.inl fun _ => rfl
theorem zlin_k (L : zL) (st : List zV) (h : zH) : zlin h (fun k => k L st h) := Or.inr ⟨L, st, h, zge_rf h, fun _ => rfl⟩
theorem zlin_kg {h0 : zH} (L : zL) (st : List zV) (h : zH) (hg : zge h0 h) : zlin h0 (fun k => k L st h) := Or.inr ⟨L, st, h, hg, fun _ => rfl⟩
theorem zlin_if {h0 : zH} {c : Prop} [Decidable c] {F G : (zL → List zV → zH → Option zR) → Option zR} (hF : zlin h0 F) (hG : zlin h0 G) : zlin h0 (fun k => if c then F k else G k) := by
  by_cases hc : c
  · simp only [hc, if_true]; exact hF
  · simp only [hc, if_false]; exact hG
theorem zlin_gi (h : zH) (r : Option Nat) (ci j : Nat) (f : (zL → List zV → zH → Option zR) → Int → Option zR) (hf : ∀ v, zlin h (fun k => f k v)) : zlin h (fun k => zgi h r ci j (f k)) := by
  unfold zgi; rcases zfd h r ci j with _ | v | v | v <;> first | exact zlin_none | exact hf v
theorem zlin_gl (h : zH) (r : Option Nat) (ci j : Nat) (f : (zL → List zV → zH → Option zR) → Int → Option zR) (hf : ∀ v, zlin h (fun k => f k v)) : zlin h (fun k => zgl h r ci j (f k)) := by
  unfold zgl; rcases zfd h r ci j with _ | v | v | v <;> first | exact zlin_none | exact hf v
theorem zlin_gr (h : zH) (r : Option Nat) (ci j : Nat) (f : (zL → List zV → zH → Option zR) → Option Nat → Option zR) (hf : ∀ v, zlin h (fun k => f k v)) : zlin h (fun k => zgr h r ci j (f k)) := by
  unfold zgr; rcases zfd h r ci j with _ | v | v | v <;> first | exact zlin_none | exact hf v
theorem zlin_pf (h : zH) (r : Option Nat) (ci j : Nat) (v : zV) (f : (zL → List zV → zH → Option zR) → zH → Option zR) (hf : ∀ v, zge h v → zlin h (fun k => f k v)) : zlin h (fun k => zpf h r ci j v (f k)) := by
  unfold zpf
  rcases r with _ | _ | p
  · exact zlin_none
  · exact zlin_none
  · dsimp only
    cases hc : h[p]? with
    | none => exact zlin_none
    | some c => exact zlin_if (hf _ (zge_set hc (by simp))) zlin_none
theorem zlin_ai (xs : List Int) (h : zH) (r : Option Nat) (i : Int) (f : (zL → List zV → zH → Option zR) → Int → Option zR) (hf : ∀ v, zlin h (fun k => f k v)) : zlin h (fun k => zai xs h r i (f k)) := by
  unfold zai; rcases zar xs h r 100 i with _ | v | v | v <;> first | exact zlin_none | exact hf v
theorem zlin_al (xs : List Int) (h : zH) (r : Option Nat) (i : Int) (f : (zL → List zV → zH → Option zR) → Int → Option zR) (hf : ∀ v, zlin h (fun k => f k v)) : zlin h (fun k => zal xs h r i (f k)) := by
  unfold zal; rcases zar xs h r 101 i with _ | v | v | v <;> first | exact zlin_none | exact hf v
theorem zlin_aa (xs : List Int) (h : zH) (r : Option Nat) (tag : Nat) (i : Int) (f : (zL → List zV → zH → Option zR) → Option Nat → Option zR) (hf : ∀ v, zlin h (fun k => f k v)) : zlin h (fun k => zaa xs h r tag i (f k)) := by
  unfold zaa; rcases zar xs h r tag i with _ | v | v | v <;> first | exact zlin_none | exact hf v
theorem zlin_st (h : zH) (r : Option Nat) (tag : Nat) (i : Int) (v : zV) (f : (zL → List zV → zH → Option zR) → zH → Option zR) (hf : ∀ v, zge h v → zlin h (fun k => f k v)) : zlin h (fun k => zst h r tag i v (f k)) := by
  unfold zst
  rcases r with _ | _ | p
  · exact zlin_none
  · exact zlin_none
  · dsimp only
    cases hc : h[p]? with
    | none => exact zlin_none
    | some c => exact zlin_if (hf _ (zge_set hc (by simp))) zlin_none
theorem zlin_ln (xs : List Int) (h : zH) (r : Option Nat) (f : (zL → List zV → zH → Option zR) → Int → Option zR) (hf : ∀ v, zlin h (fun k => f k v)) : zlin h (fun k => zln xs h r (f k)) := by
  unfold zln
  rcases r with _ | _ | p
  · exact zlin_none
  · exact hf _
  · dsimp only
    cases h[p]? with
    | none => exact zlin_none
    | some c => exact zlin_if (hf _) zlin_none
theorem zS_lin (xs : List Int) (I : Instr) (x : List Nat) (c : Int) (L : zL) (st : List zV) (h : zH) : zlin h (fun k => zS xs I x c L st h k) := by
  cases I
  case iload i => simp only [zS]; rcases zld L i with _ | v | v | v <;> first | exact zlin_none | exact zlin_k _ _ _
  case iload_n i => simp only [zS]; rcases zld L i with _ | v | v | v <;> first | exact zlin_none | exact zlin_k _ _ _
  case lload i => simp only [zS]; rcases zld L i with _ | v | v | v <;> first | exact zlin_none | exact zlin_k _ _ _
  case lload_n i => simp only [zS]; rcases zld L i with _ | v | v | v <;> first | exact zlin_none | exact zlin_k _ _ _
  case aload i => simp only [zS]; rcases zld L i with _ | v | v | v <;> first | exact zlin_none | exact zlin_k _ _ _
  case aload_n i => simp only [zS]; rcases zld L i with _ | v | v | v <;> first | exact zlin_none | exact zlin_k _ _ _
  case iinc i n => simp only [zS]; rcases zld L i with _ | v | v | v <;> first | exact zlin_none | exact zlin_k _ _ _
  case getfield i =>
    rcases x with _ | ⟨ci, _ | ⟨j, _ | ⟨_ | _ | _ | ty, _ | ⟨x4, x⟩⟩⟩⟩ <;> rcases st with _ | ⟨a | a | a, st⟩ <;> first | exact zlin_none | exact zlin_gi _ _ _ _ _ fun v => zlin_k _ _ _ | exact zlin_gl _ _ _ _ _ fun v => zlin_k _ _ _ | exact zlin_gr _ _ _ _ _ fun v => zlin_k _ _ _
  case putfield i =>
    rcases x with _ | ⟨ci, _ | ⟨j, _ | ⟨_ | _ | _ | _ | ty, _ | ⟨x4, x⟩⟩⟩⟩ <;> rcases st with _ | ⟨a | a | a, _ | ⟨b | b | b, st⟩⟩ <;> first | exact zlin_none | exact zlin_pf _ _ _ _ _ _ fun v hv => zlin_kg _ _ _ hv | exact zlin_if (zlin_pf _ _ _ _ _ _ fun v hv => zlin_kg _ _ _ hv) zlin_none
  case iaload => rcases st with _ | ⟨a | a | a, _ | ⟨b | b | b, st⟩⟩ <;> first | exact zlin_none | exact zlin_ai _ _ _ _ _ fun v => zlin_k _ _ _
  case laload => rcases st with _ | ⟨a | a | a, _ | ⟨b | b | b, st⟩⟩ <;> first | exact zlin_none | exact zlin_al _ _ _ _ _ fun v => zlin_k _ _ _
  case aaload => rcases x with _ | ⟨t, _ | ⟨t2, x⟩⟩ <;> rcases st with _ | ⟨a | a | a, _ | ⟨b | b | b, st⟩⟩ <;> first | exact zlin_none | exact zlin_aa _ _ _ _ _ _ fun v => zlin_k _ _ _
  case iastore => rcases st with _ | ⟨a | a | a, _ | ⟨b | b | b, _ | ⟨d | d | d, st⟩⟩⟩ <;> first | exact zlin_none | exact zlin_st _ _ _ _ _ _ fun v hv => zlin_kg _ _ _ hv
  case lastore => rcases st with _ | ⟨a | a | a, _ | ⟨b | b | b, _ | ⟨d | d | d, st⟩⟩⟩ <;> first | exact zlin_none | exact zlin_st _ _ _ _ _ _ fun v hv => zlin_kg _ _ _ hv
  case aastore =>
    rcases x with _ | ⟨t, _ | ⟨t2, _ | ⟨t3, x⟩⟩⟩ <;> rcases st with _ | ⟨a | a | (_ | _ | a), _ | ⟨b | b | b, _ | ⟨d | d | d, st⟩⟩⟩ <;> first | exact zlin_none | skip
    simp only [zS]
    cases h[a]? with
    | none => exact zlin_none
    | some c => exact zlin_if (zlin_st _ _ _ _ _ _ fun v hv => zlin_kg _ _ _ hv) zlin_none
  case arraylength => rcases st with _ | ⟨a | a | a, st⟩ <;> first | exact zlin_none | exact (show zlin h (fun k => zln xs h a fun v => k L (.inl v :: st) h) from zlin_ln _ _ _ (fun k v => k L (.inl v :: st) h) fun v => zlin_k _ _ _)
  case new i => rcases x with _ | ⟨t, x⟩ <;> first | exact zlin_none | exact zlin_kg _ _ _ (zge_app _ _)
  case newarray i =>
    rcases x with _ | ⟨_ | _ | t, _ | ⟨t2, x⟩⟩ <;> rcases st with _ | ⟨a | a | a, st⟩ <;> first | exact zlin_none | exact zlin_if (zlin_kg _ _ _ (zge_app _ _)) zlin_none
  case anewarray i =>
    rcases x with _ | ⟨t, _ | ⟨t2, x⟩⟩ <;> rcases st with _ | ⟨a | a | a, st⟩ <;> first | exact zlin_none | exact zlin_if (zlin_kg _ _ _ (zge_app _ _)) zlin_none
  case dup_x2 => rcases st with _ | ⟨a | a | a, _ | ⟨b | b | b, _ | ⟨d | d | d, st⟩⟩⟩ <;> first | exact zlin_none | exact zlin_k _ _ _
  all_goals first
    | exact zlin_none
    | exact zlin_k _ _ _
    | (rcases st with _ | ⟨a | a | a, st⟩ <;> first | exact zlin_none | exact zlin_k _ _ _ | (rcases st with _ | ⟨b | b | b, st⟩ <;> first | exact zlin_none | exact zlin_k _ _ _ | exact zlin_if zlin_none (zlin_k _ _ _)))

/-- what a bounded reading gives, a longer one gives; what the limit gives, a bounded one gives -/
theorem zcont_J (B : Nat → Nat → Option (List zE)) (R : Nat → Nat → Nat → zL → List zV → zH → Option zR) (R0 : Nat → Nat → zL → List zV → zH → Option zR) (hR : ∀ m pc L st h r, R0 m pc L st h = some r → ∃ N, ∀ n, N ≤ n → R n m pc L st h = some r)
    (m : Nat) (x : List Nat) (L : zL) (st : List zV) (h : zH) (r : zR) (q : zJ (R0 m) x L st h = some r) : ∃ N, ∀ n, N ≤ n → zJ (R n m) x L st h = some r := by
  rcases x with _ | ⟨t, x⟩
  · cases q
  · exact hR _ _ _ _ _ _ q
theorem zcont_if {c : Prop} [Decidable c] {a0 b0 : Option zR} {a b : Nat → Option zR} {r : zR} (ha : a0 = some r → ∃ N, ∀ n, N ≤ n → a n = some r) (hb : b0 = some r → ∃ N, ∀ n, N ≤ n → b n = some r) (q : (if c then a0 else b0) = some r) : ∃ N, ∀ n, N ≤ n → (if c then a n else b n) = some r := by
  by_cases hc : c
  · rw [if_pos hc] at q
    obtain ⟨N, e⟩ := ha q
    exact ⟨N, fun n hn => by rw [if_pos hc]; exact e n hn⟩
  · rw [if_neg hc] at q
    obtain ⟨N, e⟩ := hb q
    exact ⟨N, fun n hn => by rw [if_neg hc]; exact e n hn⟩
theorem zcont_Y {o0 : Option zR} {o : Nat → Option zR} (ho : ∀ r1, o0 = some r1 → ∃ N, ∀ n, N ≤ n → o n = some r1) (t : Nat) (L : zL) (st : List zV) (k0 : zL → List zV → zH → Option zR) (k : Nat → zL → List zV → zH → Option zR) (r : zR) (hk : ∀ L' st' h', k0 L' st' h' = some r → ∃ N, ∀ n, N ≤ n → k n L' st' h' = some r)
    (q : zY t o0 L st k0 = some r) : ∃ N, ∀ n, N ≤ n → zY t (o n) L st (k n) = some r := by
  cases h1 : o0 with
  | none => rcases t with _ | _ | _ | _ | t <;> rw [h1] at q <;> cases q
  | some r1 =>
    obtain ⟨N1, e1⟩ := ho r1 h1
    rw [h1] at q
    obtain ⟨v, h2⟩ := r1
    rcases t with _ | _ | _ | _ | t <;> rcases v with _ | v | v | v <;> simp only [zY, zcv, zci, zcl, zcr] at q <;> first
      | (cases q; done)
      | (obtain ⟨N2, e2⟩ := hk _ _ _ q
         refine ⟨max N1 N2, fun n' hn' => ?_⟩
         rw [e1 n' (by omega)]
         exact e2 n' (by omega))
theorem zcont_ck {o0 : Option zR} {o : Nat → Option zR} {r : zR} (ho : o0 = some r → ∃ N, ∀ n, N ≤ n → o n = some r) (h : zH) (rr : Option Nat) (ci : Nat) (q : zck h rr ci o0 = some r) : ∃ N, ∀ n, N ≤ n → zck h rr ci (o n) = some r := by
  unfold zck at q ⊢
  rcases rr with _ | _ | p
  · cases q
  · cases q
  · dsimp only at q ⊢
    cases hc : h[p]? with
    | none => rw [hc] at q; cases q
    | some c =>
      rw [hc] at q
      exact zcont_if ho (fun q => by cases q) q
theorem zcont_X (R : Nat → Nat → Nat → zL → List zV → zH → Option zR) (R0 : Nat → Nat → zL → List zV → zH → Option zR) (hR : ∀ m pc L st h r, R0 m pc L st h = some r → ∃ N, ∀ n, N ≤ n → R n m pc L st h = some r)
    (x : List Nat) (L : zL) (st : List zV) (h : zH) (k0 : zL → List zV → zH → Option zR) (k : Nat → zL → List zV → zH → Option zR) (r : zR) (hk : ∀ L' st' h', k0 L' st' h' = some r → ∃ N, ∀ n, N ≤ n → k n L' st' h' = some r)
    (q : zX R0 x L st h k0 = some r) : ∃ N, ∀ n, N ≤ n → zX (R n) x L st h (k n) = some r := by
  rcases x with _ | ⟨m, _ | ⟨n, _ | ⟨t, _ | ⟨mx, _ | ⟨t2, _ | ⟨t3, x⟩⟩⟩⟩⟩⟩
  · cases q
  · cases q
  · cases q
  · cases q
  · exact zcont_if (zcont_Y (fun r1 q1 => hR _ _ _ _ _ _ q1) t L _ k0 k r hk) (fun q => by cases q) q
  · exact zcont_if (zcont_ck (zcont_Y (fun r1 q1 => hR _ _ _ _ _ _ q1) t L _ k0 k r hk) h _ _) (fun q => by cases q) q
  · cases q
theorem zcont_lin {h0 : zH} {F : (zL → List zV → zH → Option zR) → Option zR} (hF : zlin h0 F) {k0 : zL → List zV → zH → Option zR} {k : Nat → zL → List zV → zH → Option zR} {r : zR} (hk : ∀ L' st' h', k0 L' st' h' = some r → ∃ N, ∀ n, N ≤ n → k n L' st' h' = some r) (q : F k0 = some r) : ∃ N, ∀ n, N ≤ n → F (k n) = some r := by
  rcases hF with hF | ⟨L', st', h', -, hF⟩
  · rw [hF] at q; cases q
  · rw [hF] at q
    obtain ⟨N, e⟩ := hk _ _ _ q
    exact ⟨N, fun n hn => by rw [hF]; exact e n hn⟩
theorem zcont_I (xs : List Int) (R : Nat → Nat → Nat → zL → List zV → zH → Option zR) (R0 : Nat → Nat → zL → List zV → zH → Option zR) (hR : ∀ m pc L st h r, R0 m pc L st h = some r → ∃ N, ∀ n, N ≤ n → R n m pc L st h = some r)
    (m : Nat) (I : Instr) (x : List Nat) (c : Int) (L : zL) (st : List zV) (h : zH) (k0 : zL → List zV → zH → Option zR) (k : Nat → zL → List zV → zH → Option zR) (r : zR) (hk : ∀ L' st' h', k0 L' st' h' = some r → ∃ N, ∀ n, N ≤ n → k n L' st' h' = some r)
    (q : zI xs R0 m I x c L st h k0 = some r) : ∃ N, ∀ n, N ≤ n → zI xs (R n) m I x c L st h (k n) = some r := by
  have hJ : ∀ (L : zL) (st : List zV) (h : zH), zJ (R0 m) x L st h = some r → ∃ N, ∀ n, N ≤ n → zJ (R n m) x L st h = some r := fun L st h => zcont_J (fun _ _ => none) R R0 hR m x L st h r
  have hX := fun (L : zL) (st : List zV) (h : zH) => zcont_X R R0 hR x L st h k0 k r hk
  obtain ⟨J, hJ0⟩ : ∃ J, J = I := ⟨I, rfl⟩
  cases I
  case ifCond cnd off =>
    cases cnd <;> rcases st with _ | ⟨a | a | a, st⟩ <;> first
      | (cases q; done)
      | exact zcont_if (hJ _ _ _) (hk _ _ _) q
  case if_icmp cnd off =>
    cases cnd <;> rcases st with _ | ⟨a | a | a, _ | ⟨b | b | b, st⟩⟩ <;> first
      | (cases q; done)
      | exact zcont_if (hJ _ _ _) (hk _ _ _) q
  case ifnull off =>
    rcases st with _ | ⟨a | a | (_ | a), st⟩ <;> first | (cases q; done) | exact hJ _ _ _ q | exact hk _ _ _ q
  case ifnonnull off =>
    rcases st with _ | ⟨a | a | (_ | a), st⟩ <;> first | (cases q; done) | exact hJ _ _ _ q | exact hk _ _ _ q
  case tableswitch d lo hi offs =>
    rcases x with _ | ⟨n, _ | ⟨d2, x⟩⟩ <;> rcases st with _ | ⟨a | a | a, st⟩ <;> first | (cases q; done) | skip
    simp only [zI] at q ⊢
    split at q
    next hc => simp only [hc, if_true]; exact hR _ _ _ _ _ _ q
    next hc =>
      simp only [hc, if_false]
      cases ht : (x.drop n)[(zw a - lo).toNat]? with
      | none => rw [ht] at q; cases q
      | some t => rw [ht] at q; exact hR _ _ _ _ _ _ q
  case ireturn => exact ⟨0, fun _ _ => q⟩
  case lreturn => exact ⟨0, fun _ _ => q⟩
  case areturn => exact ⟨0, fun _ _ => q⟩
  case return_ => exact ⟨0, fun _ _ => q⟩
  case invokevirtual i => exact hX _ _ _ q
  case invokestatic i =>
    rcases x with _ | ⟨_ | _ | t, _ | ⟨t2, x⟩⟩
    · exact hX L st h q
    · rcases st with _ | ⟨b | b | b, _ | ⟨a | a | a, st⟩⟩ <;> first | (cases q; done) | exact zcont_if (hk _ _ _) (fun q => by cases q) q
    · exact hX L st h q
    · rcases st with _ | ⟨b | b | b, _ | ⟨a | a | a, st⟩⟩ <;> first | (cases q; done) | exact zcont_if (hk _ _ _) (fun q => by cases q) q
    · exact hX L st h q
    · exact hX L st h q
    · exact hX L st h q
  case invokespecial i =>
    rcases x with _ | ⟨t, x⟩
    · rcases st with _ | ⟨a | a | (_ | a), _ | ⟨b, st⟩⟩ <;> first | (cases q; done) | exact hk _ _ _ q
    · exact hX L st h q
  case nop => exact hJ _ _ _ q
  case goto off => exact hJ _ _ _ q
  all_goals
    have z := zS_lin xs J x c L st h
    rw [hJ0] at z
    exact zcont_lin z hk q
theorem zcont_B (xs : List Int) (R : Nat → Nat → Nat → zL → List zV → zH → Option zR) (R0 : Nat → Nat → zL → List zV → zH → Option zR) (hR : ∀ m pc L st h r, R0 m pc L st h = some r → ∃ N, ∀ n, N ≤ n → R n m pc L st h = some r)
    (m : Nat) (r : zR) : ∀ (b : List zE) (L : zL) (st : List zV) (h : zH), zB xs R0 m b L st h = some r → ∃ N, ∀ n, N ≤ n → zB xs (R n) m b L st h = some r
  | [], _, _, _, q => by cases q
  | (I, x, c) :: t, L, st, h, q => zcont_I xs R R0 hR m I x c L st h (zB xs R0 m t) (fun n => zB xs (R n) m t) r (fun L' st' h' q' => zcont_B xs R R0 hR m r t L' st' h' q') q
theorem zrun_succ (B : Nat → Nat → Option (List zE)) (xs : List Int) : ∀ (n m pc : Nat) (L : zL) (st : List zV) (h : zH) (r : zR), zrun B xs n m pc L st h = some r → zrun B xs (n + 1) m pc L st h = some r := by
  intro n
  induction n with
  | zero => intro m pc L st h r q; cases q
  | succ n ih =>
    intro m pc L st h r q
    rw [zrun] at q ⊢
    cases hb : B m pc with
    | none => rw [hb] at q; cases q
    | some b =>
      rw [hb] at q
      obtain ⟨N, e⟩ := zcont_B xs (fun _ => zrun B xs (n + 1)) (zrun B xs n) (fun m pc L st h r q => ⟨0, fun _ _ => ih m pc L st h r q⟩) m r b L st h q
      exact e N (Nat.le_refl _)
theorem zrun_le (B : Nat → Nat → Option (List zE)) (xs : List Int) {n n' m pc : Nat} {L : zL} {st : List zV} {h : zH} {r : zR} (hn : n ≤ n') (q : zrun B xs n m pc L st h = some r) : zrun B xs n' m pc L st h = some r := by
  induction hn with
  | refl => exact q
  | step _ ih => exact zrun_succ B xs _ _ _ _ _ _ _ ih
theorem zx_iff (B : Nat → Nat → Option (List zE)) (xs : List Int) (m pc : Nat) (L : zL) (st : List zV) (h : zH) (r : zR) : zx B xs m pc L st h = some r ↔ ∃ n, zrun B xs n m pc L st h = some r := by
  unfold zx
  constructor
  · intro q
    split at q
    next hq =>
      obtain ⟨n, e⟩ := Classical.choose_spec hq
      cases q
      exact ⟨n, e⟩
    next => cases q
  · rintro ⟨n, e⟩
    have hq : ∃ r n, zrun B xs n m pc L st h = some r := ⟨r, n, e⟩
    rw [dif_pos hq]
    obtain ⟨n', e'⟩ := Classical.choose_spec hq
    have h1 := zrun_le B xs (Nat.le_max_left n n') e
    have h2 := zrun_le B xs (Nat.le_max_right n n') e'
    rw [h1] at h2
    exact h2.symm
theorem zx_unfold (B : Nat → Nat → Option (List zE)) (xs : List Int) (m pc : Nat) (b : List zE) (hb : B m pc = some b) (L : zL) (st : List zV) (h : zH) : zx B xs m pc L st h = zB xs (zx B xs) m b L st h := by
  have k1 : ∀ r, zx B xs m pc L st h = some r → zB xs (zx B xs) m b L st h = some r := by
    intro r q
    obtain ⟨n, e⟩ := (zx_iff B xs m pc L st h r).mp q
    cases n with
    | zero => cases e
    | succ n =>
      rw [zrun, hb] at e
      obtain ⟨N, e2⟩ := zcont_B xs (fun _ => zx B xs) (zrun B xs n) (fun m pc L st h r q => ⟨0, fun _ _ => (zx_iff B xs m pc L st h r).mpr ⟨n, q⟩⟩) m r b L st h e
      exact e2 N (Nat.le_refl _)
  have k2 : ∀ r, zB xs (zx B xs) m b L st h = some r → zx B xs m pc L st h = some r := by
    intro r q
    obtain ⟨N, e⟩ := zcont_B xs (zrun B xs) (zx B xs) (fun m pc L st h r q => by
      obtain ⟨n, e⟩ := (zx_iff B xs m pc L st h r).mp q
      exact ⟨n, fun n' hn' => zrun_le B xs hn' e⟩) m r b L st h q
    exact (zx_iff B xs m pc L st h r).mpr ⟨N + 1, by rw [zrun, hb]; exact e N (Nat.le_refl _)⟩
  cases h1 : zx B xs m pc L st h with
  | some r => exact (k1 r h1).symm
  | none =>
    cases h2 : zB xs (zx B xs) m b L st h with
    | none => rfl
    | some r => rw [k2 r h2] at h1; cases h1

/-- what is read leaves the heap no smaller -/
theorem zgrow_J (rec : Nat → zL → List zV → zH → Option zR) {r : zR} (hr : ∀ pc L st h, rec pc L st h = some r → zge h r.2) (x : List Nat) (L : zL) (st : List zV) (h : zH) (q : zJ rec x L st h = some r) : zge h r.2 := by
  rcases x with _ | ⟨t, x⟩
  · cases q
  · exact hr _ _ _ _ q
theorem zgrow_if {c : Prop} [Decidable c] {a b : Option zR} {r : zR} {P : Prop} (ha : a = some r → P) (hb : b = some r → P) (q : (if c then a else b) = some r) : P := by
  by_cases hc : c
  · rw [if_pos hc] at q; exact ha q
  · rw [if_neg hc] at q; exact hb q
theorem zgrow_Y {o : Option zR} {h : zH} (ho : ∀ r1, o = some r1 → zge h r1.2) (t : Nat) (L : zL) (st : List zV) (k : zL → List zV → zH → Option zR) (r : zR) (hk : ∀ L' st' h', k L' st' h' = some r → zge h' r.2)
    (q : zY t o L st k = some r) : zge h r.2 := by
  cases h1 : o with
  | none => rcases t with _ | _ | _ | _ | t <;> rw [h1] at q <;> cases q
  | some r1 =>
    have e1 := ho r1 h1
    rw [h1] at q
    obtain ⟨v, h2⟩ := r1
    rcases t with _ | _ | _ | _ | t <;> rcases v with _ | v | v | v <;> simp only [zY, zcv, zci, zcl, zcr] at q <;> first
      | (cases q; done)
      | exact zge_tr e1 (hk _ _ _ q)
theorem zgrow_ck {o : Option zR} {r : zR} {P : Prop} (ho : o = some r → P) (h : zH) (rr : Option Nat) (ci : Nat) (q : zck h rr ci o = some r) : P := by
  unfold zck at q
  rcases rr with _ | _ | p
  · cases q
  · cases q
  · dsimp only at q
    cases hc : h[p]? with
    | none => rw [hc] at q; cases q
    | some c =>
      rw [hc] at q
      exact zgrow_if ho (fun q => by cases q) q
theorem zgrow_X (rec : Nat → Nat → zL → List zV → zH → Option zR) (hr : ∀ m pc L st h r, rec m pc L st h = some r → zge h r.2) (x : List Nat) (L : zL) (st : List zV) (h : zH) (k : zL → List zV → zH → Option zR) (r : zR) (hk : ∀ L' st' h', k L' st' h' = some r → zge h' r.2)
    (q : zX rec x L st h k = some r) : zge h r.2 := by
  rcases x with _ | ⟨m, _ | ⟨n, _ | ⟨t, _ | ⟨mx, _ | ⟨t2, _ | ⟨t3, x⟩⟩⟩⟩⟩⟩
  · cases q
  · cases q
  · cases q
  · cases q
  · exact zgrow_if (zgrow_Y (fun r1 q1 => hr _ _ _ _ _ _ q1) t L _ k r hk) (fun q => by cases q) q
  · exact zgrow_if (zgrow_ck (zgrow_Y (fun r1 q1 => hr _ _ _ _ _ _ q1) t L _ k r hk) h _ _) (fun q => by cases q) q
  · cases q
theorem zgrow_lin {h : zH} {F : (zL → List zV → zH → Option zR) → Option zR} (hF : zlin h F) {k : zL → List zV → zH → Option zR} {r : zR} (hk : ∀ L' st' h', k L' st' h' = some r → zge h' r.2) (q : F k = some r) : zge h r.2 := by
  rcases hF with hF | ⟨L', st', h', hg, hF⟩
  · rw [hF] at q; cases q
  · rw [hF] at q
    exact zge_tr hg (hk _ _ _ q)
theorem zgrow_I (xs : List Int) (rec : Nat → Nat → zL → List zV → zH → Option zR) (hr : ∀ m pc L st h r, rec m pc L st h = some r → zge h r.2)
    (m : Nat) (I : Instr) (x : List Nat) (c : Int) (L : zL) (st : List zV) (h : zH) (k : zL → List zV → zH → Option zR) (r : zR) (hk : ∀ L' st' h', k L' st' h' = some r → zge h' r.2)
    (q : zI xs rec m I x c L st h k = some r) : zge h r.2 := by
  have hJ : ∀ (L : zL) (st : List zV) (h : zH), zJ (rec m) x L st h = some r → zge h r.2 := fun L st h => zgrow_J (rec m) (fun pc L st h q => hr m pc L st h r q) x L st h
  have hX := fun (L : zL) (st : List zV) (h : zH) => zgrow_X rec hr x L st h k r hk
  obtain ⟨J, hJ0⟩ : ∃ J, J = I := ⟨I, rfl⟩
  cases I
  case ifCond cnd off =>
    cases cnd <;> rcases st with _ | ⟨a | a | a, st⟩ <;> first
      | (cases q; done)
      | exact zgrow_if (hJ _ _ _) (hk _ _ _) q
  case if_icmp cnd off =>
    cases cnd <;> rcases st with _ | ⟨a | a | a, _ | ⟨b | b | b, st⟩⟩ <;> first
      | (cases q; done)
      | exact zgrow_if (hJ _ _ _) (hk _ _ _) q
  case ifnull off =>
    rcases st with _ | ⟨a | a | (_ | a), st⟩ <;> first | (cases q; done) | exact hJ _ _ _ q | exact hk _ _ _ q
  case ifnonnull off =>
    rcases st with _ | ⟨a | a | (_ | a), st⟩ <;> first | (cases q; done) | exact hJ _ _ _ q | exact hk _ _ _ q
  case tableswitch d lo hi offs =>
    rcases x with _ | ⟨n, _ | ⟨d2, x⟩⟩ <;> rcases st with _ | ⟨a | a | a, st⟩ <;> first | (cases q; done) | skip
    simp only [zI] at q
    split at q
    next hc => exact hr _ _ _ _ _ _ q
    next hc =>
      cases ht : (x.drop n)[(zw a - lo).toNat]? with
      | none => rw [ht] at q; cases q
      | some t => rw [ht] at q; exact hr _ _ _ _ _ _ q
  case ireturn =>
    rcases x with _ | ⟨_ | _ | t, _ | ⟨t2, x⟩⟩ <;> rcases st with _ | ⟨a | a | a, _ | ⟨b, st⟩⟩ <;> first
      | (cases q; done)
      | (cases q; exact zge_rf _)
      | (exact zgrow_if (fun q => by cases q; exact zge_rf _) (fun q => by cases q) q)
  case lreturn => rcases st with _ | ⟨a | a | a, _ | ⟨b, st⟩⟩ <;> first | (cases q; done) | (cases q; exact zge_rf _)
  case areturn => rcases st with _ | ⟨a | a | a, _ | ⟨b, st⟩⟩ <;> first | (cases q; done) | (cases q; exact zge_rf _)
  case return_ => rcases st with _ | ⟨a, st⟩ <;> first | (cases q; done) | (cases q; exact zge_rf _)
  case invokevirtual i => exact hX _ _ _ q
  case invokestatic i =>
    rcases x with _ | ⟨_ | _ | t, _ | ⟨t2, x⟩⟩
    · exact hX L st h q
    · rcases st with _ | ⟨b | b | b, _ | ⟨a | a | a, st⟩⟩ <;> first | (cases q; done) | exact zgrow_if (hk _ _ _) (fun q => by cases q) q
    · exact hX L st h q
    · rcases st with _ | ⟨b | b | b, _ | ⟨a | a | a, st⟩⟩ <;> first | (cases q; done) | exact zgrow_if (hk _ _ _) (fun q => by cases q) q
    · exact hX L st h q
    · exact hX L st h q
    · exact hX L st h q
  case invokespecial i =>
    rcases x with _ | ⟨t, x⟩
    · rcases st with _ | ⟨a | a | (_ | a), _ | ⟨b, st⟩⟩ <;> first | (cases q; done) | exact hk _ _ _ q
    · exact hX L st h q
  case nop => exact hJ _ _ _ q
  case goto off => exact hJ _ _ _ q
  all_goals
    have z := zS_lin xs J x c L st h
    rw [hJ0] at z
    exact zgrow_lin z hk q
theorem zgrow_B (xs : List Int) (rec : Nat → Nat → zL → List zV → zH → Option zR) (hr : ∀ m pc L st h r, rec m pc L st h = some r → zge h r.2)
    (m : Nat) (r : zR) : ∀ (b : List zE) (L : zL) (st : List zV) (h : zH), zB xs rec m b L st h = some r → zge h r.2
  | [], _, _, _, q => by cases q
  | (I, x, c) :: t, L, st, h, q => zgrow_I xs rec hr m I x c L st h (zB xs rec m t) r (fun L' st' h' q' => zgrow_B xs rec hr m r t L' st' h' q') q
theorem zgrow_run (B : Nat → Nat → Option (List zE)) (xs : List Int) : ∀ (n m pc : Nat) (L : zL) (st : List zV) (h : zH) (r : zR), zrun B xs n m pc L st h = some r → zge h r.2 := by
  intro n
  induction n with
  | zero => intro m pc L st h r q; cases q
  | succ n ih =>
    intro m pc L st h r q
    rw [zrun] at q
    cases hb : B m pc with
    | none => rw [hb] at q; cases q
    | some b =>
      rw [hb] at q
      exact zgrow_B xs _ ih m r b L st h q
end
section
/-! ===== whole numbers and machine numbers ===== -/
theorem zw_toInt (a : Int) : (Int32.ofInt a).toInt = zw a := by
  rw [Int32.toInt_ofInt, Int.bmod_def]
  unfold zw
  simp only [Int32.size]
  split <;> omega
theorem zwl_toInt (a : Int) : (Int64.ofInt a).toInt = zwl a := by
  rw [Int64.toInt_ofInt, Int.bmod_def]
  unfold zwl
  simp only [Int64.size]
  split <;> omega
theorem zw_of (a : Int) : Int32.ofInt (zw a) = Int32.ofInt a := by rw [← zw_toInt, Int32.ofInt_toInt]
theorem zwl_of (a : Int) : Int64.ofInt (zwl a) = Int64.ofInt a := by rw [← zwl_toInt, Int64.ofInt_toInt]
theorem zw_lo (a : Int) : -2147483648 ≤ zw a := by unfold zw; omega
theorem zw_hi (a : Int) : zw a ≤ 2147483647 := by unfold zw; omega
theorem zw_id {a : Int} (h1 : -2147483648 ≤ a) (h2 : a ≤ 2147483647) : zw a = a := by unfold zw; omega
theorem zwl_lo (a : Int) : -9223372036854775808 ≤ zwl a := by unfold zwl; omega
theorem zwl_hi (a : Int) : zwl a ≤ 9223372036854775807 := by unfold zwl; omega
theorem zwl_id {a : Int} (h1 : -9223372036854775808 ≤ a) (h2 : a ≤ 9223372036854775807) : zwl a = a := by unfold zwl; omega
theorem zw_min : Int32.minValue.toInt = -2147483648 := by decide
theorem zw_max : Int32.maxValue.toInt = 2147483647 := by decide
theorem zwl_min : Int64.minValue.toInt = -9223372036854775808 := by decide
theorem zwl_max : Int64.maxValue.toInt = 9223372036854775807 := by decide
theorem zw_div (a b : Int) : Int32.ofInt ((zw a).tdiv (zw b)) = Int32.ofInt a / Int32.ofInt b := by
  rw [Int32.ofInt_tdiv (by rw [zw_min]; exact zw_lo a) (by rw [zw_max]; exact zw_hi a) (by rw [zw_min]; exact zw_lo b) (by rw [zw_max]; exact zw_hi b), zw_of, zw_of]
theorem zwl_div (a b : Int) : Int64.ofInt ((zwl a).tdiv (zwl b)) = Int64.ofInt a / Int64.ofInt b := by
  rw [Int64.ofInt_tdiv (by rw [zwl_min]; exact zwl_lo a) (by rw [zwl_max]; exact zwl_hi a) (by rw [zwl_min]; exact zwl_lo b) (by rw [zwl_max]; exact zwl_hi b), zwl_of, zwl_of]
theorem zw_mod (a b : Int) : Int32.ofInt ((zw a).tmod (zw b)) = Int32.ofInt a - Int32.ofInt a / Int32.ofInt b * Int32.ofInt b := by
  have h : (zw a).tmod (zw b) = zw a - (zw a).tdiv (zw b) * zw b := by rw [Int.tmod_def, Int.mul_comm]
  rw [h, Int32.ofInt_sub, Int32.ofInt_mul, zw_div, zw_of, zw_of]
theorem zwl_mod (a b : Int) : Int64.ofInt ((zwl a).tmod (zwl b)) = Int64.ofInt a - Int64.ofInt a / Int64.ofInt b * Int64.ofInt b := by
  have h : (zwl a).tmod (zwl b) = zwl a - (zwl a).tdiv (zwl b) * zwl b := by rw [Int.tmod_def, Int.mul_comm]
  rw [h, Int64.ofInt_sub, Int64.ofInt_mul, zwl_div, zwl_of, zwl_of]
theorem zw_eq (a b : Int) : Int32.ofInt a = Int32.ofInt b ↔ zw a = zw b := by rw [← Int32.toInt_inj, zw_toInt, zw_toInt]
theorem zw_lt (a b : Int) : Int32.ofInt a < Int32.ofInt b ↔ zw a < zw b := by rw [Int32.lt_iff_toInt_lt, zw_toInt, zw_toInt]
theorem zw_le (a b : Int) : Int32.ofInt a ≤ Int32.ofInt b ↔ zw a ≤ zw b := by rw [Int32.le_iff_toInt_le, zw_toInt, zw_toInt]
theorem zwl_eq (a b : Int) : Int64.ofInt a = Int64.ofInt b ↔ zwl a = zwl b := by rw [← Int64.toInt_inj, zwl_toInt, zwl_toInt]
theorem zwl_lt (a b : Int) : Int64.ofInt a < Int64.ofInt b ↔ zwl a < zwl b := by rw [Int64.lt_iff_toInt_lt, zwl_toInt, zwl_toInt]
theorem zw_eq0 (a : Int) : Int32.ofInt a = 0 ↔ zw a = 0 := by
  have h := zw_eq a 0
  rw [show zw 0 = 0 by rfl] at h
  exact h
theorem zwl_eq0 (a : Int) : Int64.ofInt a = 0 ↔ zwl a = 0 := by
  have h := zwl_eq a 0
  rw [show zwl 0 = 0 by rfl] at h
  exact h
theorem zw_lt0 (a : Int) : Int32.ofInt a < 0 ↔ zw a < 0 := by
  have h := zw_lt a 0
  rw [show zw 0 = 0 by rfl] at h
  exact h
theorem zw_gt0 (a : Int) : 0 < Int32.ofInt a ↔ 0 < zw a := by
  have h := zw_lt 0 a
  rw [show zw 0 = 0 by rfl] at h
  exact h
theorem zw_le0 (a : Int) : Int32.ofInt a ≤ 0 ↔ zw a ≤ 0 := by
  have h := zw_le a 0
  rw [show zw 0 = 0 by rfl] at h
  exact h
theorem zw_ge0 (a : Int) : 0 ≤ Int32.ofInt a ↔ 0 ≤ zw a := by
  have h := zw_le 0 a
  rw [show zw 0 = 0 by rfl] at h
  exact h
theorem zw_i2l (a : Int) : (Int32.ofInt a).toInt64 = Int64.ofInt (zw a) := by
  rw [← zw_of, Int32.toInt64_ofInt (by rw [zw_min]; exact zw_lo a) (by rw [zw_max]; exact zw_hi a)]
theorem zw_l2i (a : Int) : (Int64.ofInt a).toInt32 = Int32.ofInt a := Int64.toInt32_ofInt
theorem zwl_cmp (a b : Int) : lg_cmp (Int64.ofInt a) (Int64.ofInt b) = Int32.ofInt (if zwl a < zwl b then -1 else if zwl a = zwl b then 0 else 1) := by
  unfold lg_cmp
  by_cases h1 : zwl b < zwl a
  · rw [if_pos (show Int64.ofInt b < Int64.ofInt a from (zwl_lt b a).mpr h1), if_neg (by omega), if_neg (by omega)]
    rfl
  · rw [if_neg (show ¬ Int64.ofInt b < Int64.ofInt a from fun h => h1 ((zwl_lt b a).mp h))]
    by_cases h2 : zwl a = zwl b
    · rw [if_pos ((zwl_eq a b).mpr h2), if_neg (by omega), if_pos h2]
      rfl
    · rw [if_neg (fun h => h2 ((zwl_eq a b).mp h)), if_pos (by omega)]
      rfl
theorem zw_clamp (a : Int) : (Int32.ofInt a).toNatClampNeg = (zw a).toNat := by
  show (Int32.ofInt a).toInt.toNat = _
  rw [zw_toInt]
theorem zw_in {a : Int} {n : Nat} (h0 : 0 ≤ zw a) (h : (zw a).toNat < n) : vp_in (Int32.ofInt a) n := by
  unfold vp_in
  rw [zw_lt0, zw_clamp]
  omega
theorem zw_bip {n : Int} (h1 : -128 ≤ n) (h2 : n ≤ 127) : (Int8.ofInt n).toInt32 = Int32.ofInt n := Int8.toInt32_ofInt (by rw [show Int8.minValue.toInt = -128 by decide]; exact h1) (by rw [show Int8.maxValue.toInt = 127 by decide]; exact h2)
theorem zw_sip {n : Int} (h1 : -32768 ≤ n) (h2 : n ≤ 32767) : (Int16.ofInt n).toInt32 = Int32.ofInt n := Int16.toInt32_ofInt (by rw [show Int16.minValue.toInt = -32768 by decide]; exact h1) (by rw [show Int16.maxValue.toInt = 32767 by decide]; exact h2)
end
section
/-! ===== how a state of the reading lies in the machine ===== -/
/-- places to addresses -/
def zcR (ads : List Nat) : zV → Value → Prop
  | .inl x, V => V = .int (Int32.ofInt x)
  | .inr (.inl x), V => V = .long (Int64.ofInt x)
  | .inr (.inr none), V => V = .null
  | .inr (.inr (some p)), V => ∃ a, ads[p]? = some a ∧ V = .ref a
def zpre (ads ads' : List Nat) : Prop := ∀ (i a : Nat), ads[i]? = some a → ads'[i]? = some a
theorem zpre_rf (ads : List Nat) : zpre ads ads := fun _ _ h => h
theorem zpre_tr {a b c : List Nat} (h1 : zpre a b) (h2 : zpre b c) : zpre a c := fun i x h => h2 i x (h1 i x h)
theorem zpre_app (a b : List Nat) : zpre a (a ++ b) := fun i x h => by
  rw [List.getElem?_append_left (List.getElem?_eq_some_iff.mp h).1]; exact h
theorem zcR_pre {ads ads' : List Nat} (hp : zpre ads ads') : ∀ {v : zV} {V : Value}, zcR ads v V → zcR ads' v V
  | .inl _, _, h => h
  | .inr (.inl _), _, h => h
  | .inr (.inr none), _, h => h
  | .inr (.inr (some _)), _, ⟨a, h1, h2⟩ => ⟨a, hp _ _ h1, h2⟩
theorem zcR_cat {ads : List Nat} : ∀ {v : zV} {V : Value}, zcR ads v V → V.category = zcat v
  | .inl _, _, h => by cases h; rfl
  | .inr (.inl _), _, h => by cases h; rfl
  | .inr (.inr none), _, h => by cases h; rfl
  | .inr (.inr (some _)), _, ⟨_, _, h⟩ => by cases h; rfl
def zSt (ads : List Nat) : List zV → List Value → Prop
  | [], [] => True
  | v :: t, V :: T => zcR ads v V ∧ zSt ads t T
  | _, _ => False
theorem zSt_pre {ads ads' : List Nat} (hp : zpre ads ads') : ∀ {t : List zV} {T : List Value}, zSt ads t T → zSt ads' t T
  | [], [], _ => trivial
  | _ :: _, _ :: _, h => ⟨zcR_pre hp h.1, zSt_pre hp h.2⟩
  | [], _ :: _, h => h.elim
  | _ :: _, [], h => h.elim
theorem zSt_len {ads : List Nat} : ∀ {t : List zV} {T : List Value}, zSt ads t T → T.length = t.length
  | [], [], _ => rfl
  | _ :: _, _ :: _, h => by simp [zSt_len h.2]
  | [], _ :: _, h => h.elim
  | _ :: _, [], h => h.elim
theorem zSt_get {ads : List Nat} : ∀ {t : List zV} {T : List Value} {k : Nat} {v : zV}, zSt ads t T → t[k]? = some v → ∃ V, T[k]? = some V ∧ zcR ads v V
  | [], [], k, v, _, h => by simp at h
  | w :: t, W :: T, 0, v, h, q => by
    simp at q
    subst q
    exact ⟨W, by simp, h.1⟩
  | w :: t, W :: T, k + 1, v, h, q => by
    simp at q
    obtain ⟨V, h1, h2⟩ := zSt_get h.2 q
    exact ⟨V, by simpa using h1, h2⟩
  | [], _ :: _, _, _, h, _ => h.elim
  | _ :: _, [], _, _, h, _ => h.elim
theorem zSt_set {ads : List Nat} : ∀ {t : List zV} {T : List Value} (k : Nat) {v : zV} {V : Value}, zSt ads t T → zcR ads v V → zSt ads (t.set k v) (T.set k V)
  | [], [], _, _, _, _, _ => trivial
  | _ :: _, _ :: _, 0, _, _, h, q => ⟨q, h.2⟩
  | _ :: _, _ :: _, k + 1, _, _, h, q => ⟨h.1, zSt_set k h.2 q⟩
  | [], _ :: _, _, _, _, h, _ => h.elim
  | _ :: _, [], _, _, _, h, _ => h.elim
theorem zSt_take {ads : List Nat} : ∀ (n : Nat) {t : List zV} {T : List Value}, zSt ads t T → zSt ads (t.take n) (T.take n) ∧ zSt ads (t.drop n) (T.drop n)
  | 0, t, T, h => ⟨trivial, h⟩
  | n + 1, [], [], _ => ⟨trivial, trivial⟩
  | n + 1, _ :: _, _ :: _, h => ⟨⟨h.1, (zSt_take n h.2).1⟩, (zSt_take n h.2).2⟩
  | n + 1, [], _ :: _, h => h.elim
  | n + 1, _ :: _, [], h => h.elim
theorem zSt_app {ads : List Nat} : ∀ {t : List zV} {T : List Value} {t2 : List zV} {T2 : List Value}, zSt ads t T → zSt ads t2 T2 → zSt ads (t ++ t2) (T ++ T2)
  | [], [], _, _, _, h2 => h2
  | _ :: _, _ :: _, _, _, h, h2 => ⟨h.1, zSt_app h.2 h2⟩
  | [], _ :: _, _, _, h, _ => h.elim
  | _ :: _, [], _, _, h, _ => h.elim
theorem zSt_rev {ads : List Nat} : ∀ {t : List zV} {T : List Value}, zSt ads t T → zSt ads t.reverse T.reverse
  | [], [], _ => trivial
  | _ :: _, _ :: _, h => by
    rw [List.reverse_cons, List.reverse_cons]
    exact zSt_app (zSt_rev h.2) ⟨h.1, trivial⟩
  | [], _ :: _, h => h.elim
  | _ :: _, [], h => h.elim
theorem zSt_cat {ads : List Nat} : ∀ {t : List zV} {T : List Value}, zSt ads t T → (T.map fun v => v.category).sum = zcs t
  | [], [], _ => rfl
  | v :: t, V :: T, h => by
    have h1 := zSt_cat h.2
    have h2 := zcR_cat h.1
    simp only [List.map_cons, List.sum_cons, zcs]
    omega
  | [], _ :: _, h => h.elim
  | _ :: _, [], h => h.elim
/-- the locals -/
def zLo (ads : List Nat) (nL : Nat) (L : zL) (ls : Array Slot) : Prop := ls.size = nL ∧ lv_wf ls ∧ ∀ (i : Nat) (v : zV), L[i]? = some (some v) → ∃ V, ls[i]? = some (.val V) ∧ zcR ads v V
theorem zLo_pre {ads ads' : List Nat} (hp : zpre ads ads') {nL : Nat} {L : zL} {ls : Array Slot} (h : zLo ads nL L ls) : zLo ads' nL L ls := ⟨h.1, h.2.1, fun i v q => by
  obtain ⟨V, h1, h2⟩ := h.2.2 i v q
  exact ⟨V, h1, zcR_pre hp h2⟩⟩
theorem zLo_ld {ads : List Nat} {nL : Nat} {L : zL} {ls : Array Slot} (h : zLo ads nL L ls) {i : Nat} {v : zV} (q : zld L i = some v) : ∃ V, ls[i]? = some (.val V) ∧ zcR ads v V := by
  unfold zld at q
  split at q
  next w hw => cases q; exact h.2.2 i v hw
  next => cases q
theorem zkeep_get : ∀ (m : List Nat) (L : zL) (i : Nat) (v : zV), (zkeep m L)[i]? = some (some v) → L[i]? = some (some v)
  | [], L, i, v, h => by simp [zkeep] at h
  | a :: m, [], i, v, h => by simp [zkeep] at h
  | 0 :: m, w :: t, 0, v, h => by simp [zkeep] at h
  | 0 :: m, w :: t, i + 1, v, h => by simp [zkeep] at h ⊢; exact zkeep_get m t i v h
  | (_ + 1) :: m, w :: t, 0, v, h => by simpa [zkeep] using h
  | (_ + 1) :: m, w :: t, i + 1, v, h => by simp [zkeep] at h ⊢; exact zkeep_get m t i v h
theorem zLo_keep {ads : List Nat} {nL : Nat} {L : zL} {ls : Array Slot} (h : zLo ads nL L ls) (m : List Nat) : zLo ads nL (zkeep m L) ls := ⟨h.1, h.2.1, fun i v q => h.2.2 i v (zkeep_get m L i v q)⟩
/-- what stands in L after a store, stood there before or is the stored one -/
theorem zset1_get : ∀ (L : zL) (i : Nat) (w : Option zV) (j : Nat) (v : zV), (zset1 L i w)[j]? = some (some v) → (j = i ∧ w = some v) ∨ (j ≠ i ∧ L[j]? = some (some v) ∧ ¬ (j + 1 = i ∧ zcat v = 2))
  | [], 0, w, 0, v, h => by simp [zset1] at h; exact Or.inl ⟨rfl, h⟩
  | [], 0, w, j + 1, v, h => by simp [zset1] at h
  | [], i + 1, w, 0, v, h => by simp [zset1] at h
  | [], i + 1, w, j + 1, v, h => by
    simp [zset1] at h
    rcases zset1_get [] i w j v h with ⟨h1, h2⟩ | ⟨h1, h2, h3⟩
    · exact Or.inl ⟨by omega, h2⟩
    · simp at h2
  | a :: t, 0, w, 0, v, h => by simp [zset1] at h; exact Or.inl ⟨rfl, h⟩
  | a :: t, 0, w, j + 1, v, h => by simp [zset1] at h; exact Or.inr ⟨by omega, by simpa using h, by omega⟩
  | a :: t, i + 1, w, 0, v, h => by
    have key : ∀ b : Option zV, b = some v → b = a → (0 = i + 1 ∧ w = some v) ∨ (0 ≠ i + 1 ∧ (a :: t)[0]? = some (some v) ∧ ¬ (0 + 1 = i + 1 ∧ zcat v = 2)) ∨ (i = 0 ∧ zcat v = 2) := by
      intro b h1 h2
      subst h2
      by_cases hi : i = 0 ∧ zcat v = 2
      · exact Or.inr (Or.inr hi)
      · refine Or.inr (Or.inl ⟨by omega, by simp [h1], ?_⟩)
        intro q; exact hi ⟨by omega, q.2⟩
    rcases a with _ | a | a | a
    · simp [zset1] at h
    · simp [zset1] at h
      rcases key _ (by simp [h]) rfl with q | q | ⟨q1, q2⟩
      · exact Or.inl q
      · exact Or.inr q
      · subst h; simp [zcat] at q2
    · rcases i with _ | i
      · simp [zset1] at h
      · simp [zset1] at h
        rcases key _ (by simp [h]) rfl with q | q | ⟨q1, q2⟩
        · exact Or.inl q
        · exact Or.inr q
        · omega
    · simp [zset1] at h
      rcases key _ (by simp [h]) rfl with q | q | ⟨q1, q2⟩
      · exact Or.inl q
      · exact Or.inr q
      · subst h; simp [zcat] at q2
  | a :: t, i + 1, w, j + 1, v, h => by
    have h' : (zset1 t i w)[j]? = some (some v) := by
      rcases a with _ | a | a | a
      · simpa [zset1] using h
      · simpa [zset1] using h
      · rcases i with _ | i <;> simpa [zset1] using h
      · simpa [zset1] using h
    rcases zset1_get t i w j v h' with ⟨h1, h2⟩ | ⟨h1, h2, h3⟩
    · exact Or.inl ⟨by omega, h2⟩
    · exact Or.inr ⟨by omega, by simpa using h2, by omega⟩
theorem zset2_get : ∀ (L : zL) (i : Nat) (w : Option zV) (j : Nat) (v : zV), (zset2 L i w)[j]? = some (some v) → (j = i ∧ w = some v) ∨ (j ≠ i ∧ j ≠ i + 1 ∧ L[j]? = some (some v) ∧ ¬ (j + 1 = i ∧ zcat v = 2))
  | [], 0, w, 0, v, h => by simp [zset2] at h; exact Or.inl ⟨rfl, h⟩
  | [], 0, w, 1, v, h => by simp [zset2] at h
  | [], 0, w, j + 2, v, h => by simp [zset2] at h
  | [], i + 1, w, 0, v, h => by simp [zset2] at h
  | [], i + 1, w, j + 1, v, h => by
    simp [zset2] at h
    rcases zset2_get [] i w j v h with ⟨h1, h2⟩ | ⟨h1, h2, h3, h4⟩
    · exact Or.inl ⟨by omega, h2⟩
    · simp at h3
  | [a], 0, w, 0, v, h => by simp [zset2] at h; exact Or.inl ⟨rfl, h⟩
  | [a], 0, w, 1, v, h => by simp [zset2] at h
  | [a], 0, w, j + 2, v, h => by simp [zset2] at h
  | a :: b :: t, 0, w, 0, v, h => by simp [zset2] at h; exact Or.inl ⟨rfl, h⟩
  | a :: b :: t, 0, w, 1, v, h => by simp [zset2] at h
  | a :: b :: t, 0, w, j + 2, v, h => by simp [zset2] at h; exact Or.inr ⟨by omega, by omega, by simpa using h, by omega⟩
  | a :: t, i + 1, w, 0, v, h => by
    have key : ∀ b : Option zV, b = some v → b = a → (0 = i + 1 ∧ w = some v) ∨ (0 ≠ i + 1 ∧ 0 ≠ i + 1 + 1 ∧ (a :: t)[0]? = some (some v) ∧ ¬ (0 + 1 = i + 1 ∧ zcat v = 2)) ∨ (i = 0 ∧ zcat v = 2) := by
      intro b h1 h2
      subst h2
      by_cases hi : i = 0 ∧ zcat v = 2
      · exact Or.inr (Or.inr hi)
      · refine Or.inr (Or.inl ⟨by omega, by omega, by simp [h1], ?_⟩)
        intro q; exact hi ⟨by omega, q.2⟩
    have fin : zcat v ≠ 2 ∨ i ≠ 0 → a = some v → (0 = i + 1 ∧ w = some v) ∨ (0 ≠ i + 1 ∧ 0 ≠ i + 1 + 1 ∧ (a :: t)[0]? = some (some v) ∧ ¬ (0 + 1 = i + 1 ∧ zcat v = 2)) := by
      intro hn ha
      rcases key _ ha rfl with q | q | ⟨q1, q2⟩
      · exact Or.inl q
      · exact Or.inr q
      · omega
    rcases a with _ | a | a | a
    · rcases t with _ | ⟨b, t⟩ <;> simp [zset2] at h
    · have ha : some (Sum.inl a) = some v := by rcases t with _ | ⟨b, t⟩ <;> simpa [zset2] using h
      exact fin (Or.inl (by cases ha; simp [zcat])) ha
    · rcases i with _ | i
      · rcases t with _ | ⟨b, t⟩ <;> simp [zset2] at h
      · have ha : some (Sum.inr (Sum.inl a)) = some v := by rcases t with _ | ⟨b, t⟩ <;> simpa [zset2] using h
        exact fin (Or.inr (by omega)) ha
    · have ha : some (Sum.inr (Sum.inr a)) = some v := by rcases t with _ | ⟨b, t⟩ <;> simpa [zset2] using h
      exact fin (Or.inl (by cases ha; simp [zcat])) ha
  | a :: t, i + 1, w, j + 1, v, h => by
    have h' : (zset2 t i w)[j]? = some (some v) := by
      rcases a with _ | a | a | a
      · rcases t with _ | ⟨b, t⟩ <;> simpa [zset2] using h
      · rcases t with _ | ⟨b, t⟩ <;> simpa [zset2] using h
      · rcases i with _ | i <;> rcases t with _ | ⟨b, t⟩ <;> simpa [zset2] using h
      · rcases t with _ | ⟨b, t⟩ <;> simpa [zset2] using h
    rcases zset2_get t i w j v h' with ⟨h1, h2⟩ | ⟨h1, h2, h3, h4⟩
    · exact Or.inl ⟨by omega, h2⟩
    · exact Or.inr ⟨by omega, by omega, by simpa using h3, by omega⟩
theorem zLo_lv {ads : List Nat} {nL : Nat} {L : zL} {ls : Array Slot} (h : zLo ads nL L ls) : ∃ lv : List (Nat × Value), lv_has ls nL lv ∧ ∀ (i : Nat) (v : zV), L[i]? = some (some v) → ∃ V, (i, V) ∈ lv ∧ zcR ads v V := by
  have key : ∀ (L : zL) (k : Nat), (∀ (i : Nat) (v : zV), L[i]? = some (some v) → ∃ V, ls[k + i]? = some (.val V) ∧ zcR ads v V) → ∃ lv : List (Nat × Value), (∀ q ∈ lv, ls[q.1]? = some (.val q.2)) ∧ ∀ (i : Nat) (v : zV), L[i]? = some (some v) → ∃ V, (k + i, V) ∈ lv ∧ zcR ads v V := by
    intro L
    induction L with
    | nil => exact fun k _ => ⟨[], fun q hq => by simp at hq, fun i v hv => by simp at hv⟩
    | cons a t ih =>
      intro k hk
      obtain ⟨lv, h1, h2⟩ := ih (k + 1) (fun i v hv => by
        obtain ⟨V, e1, e2⟩ := hk (i + 1) v (by simpa using hv)
        exact ⟨V, by rw [show k + 1 + i = k + (i + 1) by omega]; exact e1, e2⟩)
      cases a with
      | none =>
        refine ⟨lv, h1, fun i v hv => ?_⟩
        cases i with
        | zero => simp at hv
        | succ i =>
          obtain ⟨V, e1, e2⟩ := h2 i v (by simpa using hv)
          exact ⟨V, by rw [show k + (i + 1) = k + 1 + i by omega]; exact e1, e2⟩
      | some w =>
        obtain ⟨W, e1, e2⟩ := hk 0 w (by simp)
        refine ⟨(k, W) :: lv, fun q hq => ?_, fun i v hv => ?_⟩
        · rcases List.mem_cons.mp hq with rfl | hq
          · simpa using e1
          · exact h1 q hq
        · cases i with
          | zero =>
            simp at hv
            subst hv
            exact ⟨W, by simp, e2⟩
          | succ i =>
            obtain ⟨V, e3, e4⟩ := h2 i v (by simpa using hv)
            exact ⟨V, by rw [show k + (i + 1) = k + 1 + i by omega]; exact List.mem_cons_of_mem _ e3, e4⟩
  obtain ⟨lv, h1, h2⟩ := key L 0 (fun i v hv => by
    obtain ⟨V, e1, e2⟩ := h.2.2 i v hv
    exact ⟨V, by rw [Nat.zero_add]; exact e1, e2⟩)
  exact ⟨lv, ⟨h.1, h.2.1, h1⟩, fun i v hv => by
    obtain ⟨V, e1, e2⟩ := h2 i v hv
    exact ⟨V, by rw [Nat.zero_add] at e1; exact e1, e2⟩⟩
theorem zLo_s1 {ads : List Nat} {nL i : Nat} {L : zL} {ls' : Array Slot} {lv : List (Nat × Value)} {v0 : zV} {V0 : Value} (hc : ∀ (i : Nat) (v : zV), L[i]? = some (some v) → ∃ V, (i, V) ∈ lv ∧ zcR ads v V) (h0 : zcR ads v0 V0)
    (h : lv_has ls' nL ((i, V0) :: lv.filter (fun q => !(q.1 == i) && !(q.1 + 1 == i && q.2.category == 2)))) : zLo ads nL (zset1 L i (some v0)) ls' := by
  refine ⟨h.1, h.2.1, fun j v hv => ?_⟩
  rcases zset1_get L i _ j v hv with ⟨rfl, e⟩ | ⟨h1, h2, h3⟩
  · cases e
    exact ⟨V0, h.2.2 (j, V0) List.mem_cons_self, h0⟩
  · obtain ⟨V, e1, e2⟩ := hc j v h2
    refine ⟨V, h.2.2 (j, V) (List.mem_cons_of_mem _ (List.mem_filter.mpr ⟨e1, ?_⟩)), e2⟩
    have hcat := zcR_cat e2
    simp only [Bool.and_eq_true, Bool.not_eq_true', beq_eq_false_iff_ne, ne_eq, Bool.and_eq_false_iff]
    refine ⟨h1, ?_⟩
    by_cases q : j + 1 = i
    · right; intro z; exact h3 ⟨q, by rw [← hcat]; exact z⟩
    · left; exact q
theorem zLo_s2 {ads : List Nat} {nL i : Nat} {L : zL} {ls' : Array Slot} {lv : List (Nat × Value)} {v0 : zV} {V0 : Value} (hc : ∀ (i : Nat) (v : zV), L[i]? = some (some v) → ∃ V, (i, V) ∈ lv ∧ zcR ads v V) (h0 : zcR ads v0 V0)
    (h : lv_has ls' nL ((i, V0) :: lv.filter (fun q => !(q.1 == i) && (!(q.1 == i + 1) && !(q.1 + 1 == i && q.2.category == 2))))) : zLo ads nL (zset2 L i (some v0)) ls' := by
  refine ⟨h.1, h.2.1, fun j v hv => ?_⟩
  rcases zset2_get L i _ j v hv with ⟨rfl, e⟩ | ⟨h1, h2, h3, h4⟩
  · cases e
    exact ⟨V0, h.2.2 (j, V0) List.mem_cons_self, h0⟩
  · obtain ⟨V, e1, e2⟩ := hc j v h3
    refine ⟨V, h.2.2 (j, V) (List.mem_cons_of_mem _ (List.mem_filter.mpr ⟨e1, ?_⟩)), e2⟩
    have hcat := zcR_cat e2
    simp only [Bool.and_eq_true, Bool.not_eq_true', beq_eq_false_iff_ne, ne_eq, Bool.and_eq_false_iff]
    refine ⟨h1, h2, ?_⟩
    by_cases q : j + 1 = i
    · right; intro z; exact h4 ⟨q, by rw [← hcat]; exact z⟩
    · left; exact q
/-- stacks by their top -/
theorem zSt_i {ads : List Nat} {x : Int} {t : List zV} {T : List Value} (h : zSt ads (.inl x :: t) T) : ∃ T', T = .int (Int32.ofInt x) :: T' ∧ zSt ads t T' := by
  rcases T with _ | ⟨V, T⟩
  · exact h.elim
  · obtain ⟨h1, h2⟩ := h
    cases h1
    exact ⟨T, rfl, h2⟩
theorem zSt_l {ads : List Nat} {x : Int} {t : List zV} {T : List Value} (h : zSt ads (.inr (.inl x) :: t) T) : ∃ T', T = .long (Int64.ofInt x) :: T' ∧ zSt ads t T' := by
  rcases T with _ | ⟨V, T⟩
  · exact h.elim
  · obtain ⟨h1, h2⟩ := h
    cases h1
    exact ⟨T, rfl, h2⟩
theorem zSt_r {ads : List Nat} {x : Option Nat} {t : List zV} {T : List Value} (h : zSt ads (.inr (.inr x) :: t) T) : ∃ V T', T = V :: T' ∧ zcR ads (.inr (.inr x)) V ∧ zSt ads t T' := by
  rcases T with _ | ⟨V, T⟩
  · exact h.elim
  · exact ⟨V, T, rfl, h.1, h.2⟩
/-- cells -/
def zCe (cl : List vw_C) (ads : List Nat) (tys : List (ClassId × FieldType)) (c : Nat × List zV) (e : va_E) : Prop :=
  (c.1 < 100 ∧ ∃ fs, e = .inr (c.1, fs) ∧ zSt ads c.2 fs) ∨
  (c.1 = 100 ∧ ∃ (cA : ClassId) (f : Nat → Int32), e = .inl (cA, c.2.length, .inl f) ∧ (cA, FieldType.int) ∈ tys ∧ ∀ (j : Nat) (v : zV), c.2[j]? = some v → ∃ x, v = .inl x ∧ f j = Int32.ofInt x) ∨
  (c.1 = 101 ∧ ∃ (cA : ClassId) (f : Nat → Int64), e = .inl (cA, c.2.length, .inr (.inl f)) ∧ (cA, FieldType.long) ∈ tys ∧ ∀ (j : Nat) (v : zV), c.2[j]? = some v → ∃ x, v = .inr (.inl x) ∧ f j = Int64.ofInt x) ∨
  (102 ≤ c.1 ∧ ∃ (cA : ClassId) (f : Nat → Option Nat) (r : vw_C), e = .inl (cA, c.2.length, .inr (.inr (.inr (.inr f)))) ∧ cl[c.1 - 102]? = some r ∧ (cA, FieldType.object r.1) ∈ tys ∧ ∀ (j : Nat) (v : zV), c.2[j]? = some v → ∃ x, v = .inr (.inr x) ∧ zcR ads (.inr (.inr x)) (va_rf (f j)))
theorem zCe_mono {cl : List vw_C} {ads ads' : List Nat} {tys tys' : List (ClassId × FieldType)} (hp : zpre ads ads') (ht : ∀ q ∈ tys, q ∈ tys') {c : Nat × List zV} {e : va_E} (h : zCe cl ads tys c e) : zCe cl ads' tys' c e := by
  rcases h with ⟨h1, fs, h2, h3⟩ | ⟨h1, cA, f, h2, h3, h4⟩ | ⟨h1, cA, f, h2, h3, h4⟩ | ⟨h1, cA, f, r, h2, h3, h4, h5⟩
  · exact Or.inl ⟨h1, fs, h2, zSt_pre hp h3⟩
  · exact Or.inr (Or.inl ⟨h1, cA, f, h2, ht _ h3, h4⟩)
  · exact Or.inr (Or.inr (Or.inl ⟨h1, cA, f, h2, ht _ h3, h4⟩))
  · refine Or.inr (Or.inr (Or.inr ⟨h1, cA, f, r, h2, h3, ht _ h4, fun j v hv => ?_⟩))
    obtain ⟨x, e1, e2⟩ := h5 j v hv
    exact ⟨x, e1, zcR_pre hp e2⟩
def zRep (cl : List vw_C) (ads : List Nat) (tys : List (ClassId × FieldType)) (ws : va_W) (h : zH) : Prop :=
  ws.length = h.length ∧ ads.length = h.length + 1 ∧ ∀ (k : Nat) (c : Nat × List zV), h[k]? = some c → ∃ a e, ads[k + 1]? = some a ∧ ws[k]? = some (a, e) ∧ zCe cl ads tys c e
theorem zRep_set {cl : List vw_C} {ads : List Nat} {tys : List (ClassId × FieldType)} {ws : va_W} {h : zH} (hR : zRep cl ads tys ws h) {p a : Nat} {c' : Nat × List zV} {e' : va_E} (ha : ads[p + 1]? = some a) (hc : zCe cl ads tys c' e') : zRep cl ads tys (ws.set p (a, e')) (h.set p c') := by
  obtain ⟨h1, h2, h3⟩ := hR
  refine ⟨by simp [h1], by simp [h2], fun k c hk => ?_⟩
  by_cases hkp : p = k
  · subst hkp
    have hl : p < h.length := by
      have := (List.getElem?_eq_some_iff.mp hk).1
      simpa using this
    rw [List.getElem?_set_self hl] at hk
    cases hk
    exact ⟨a, e', ha, by rw [List.getElem?_set_self (by omega)], hc⟩
  · rw [List.getElem?_set_ne hkp] at hk
    obtain ⟨a1, e1, q1, q2, q3⟩ := h3 k c hk
    exact ⟨a1, e1, q1, by rw [List.getElem?_set_ne hkp]; exact q2, q3⟩
theorem zRep_app {cl : List vw_C} {ads : List Nat} {tys tys' : List (ClassId × FieldType)} {ws : va_W} {h : zH} (hR : zRep cl ads tys ws h) (ht : ∀ q ∈ tys, q ∈ tys') {a : Nat} {c' : Nat × List zV} {e' : va_E} (hc : zCe cl ads tys' c' e') : zRep cl (ads ++ [a]) tys' (ws ++ [(a, e')]) (h ++ [c']) := by
  obtain ⟨h1, h2, h3⟩ := hR
  refine ⟨by simp [h1], by simp [h2], fun k c hk => ?_⟩
  by_cases hl : k < h.length
  · rw [List.getElem?_append_left hl] at hk
    obtain ⟨a1, e1, q1, q2, q3⟩ := h3 k c hk
    exact ⟨a1, e1, zpre_app _ _ _ _ q1, by rw [List.getElem?_append_left (by omega)]; exact q2, zCe_mono (zpre_app _ _) ht q3⟩
  · rw [List.getElem?_append_right (by omega)] at hk
    have hz : k - h.length < 1 := (List.getElem?_eq_some_iff.mp hk).1
    have hk0 : k = h.length := by omega
    subst hk0
    simp at hk
    subst hk
    refine ⟨a, e', ?_, ?_, zCe_mono (zpre_app _ _) (fun _ q => q) hc⟩
    · rw [List.getElem?_append_right (by omega), h2]; simp
    · rw [List.getElem?_append_right (by omega), h1]; simp
theorem zty_mem {tys : List (ClassId × FieldType)} {q : ClassId × FieldType} (h : q ∈ tys) : ∃ t0 : Nat, tys[t0]? = some q := List.getElem?_of_mem h
end
section
/-! ===== one step of the reading is a step of the machine ===== -/
def zlen : Instr → Nat
  | .bipush _ => 2
  | .sipush _ => 3
  | .ldc _ => 2
  | .ldc_w _ => 3
  | .ldc2_w _ => 3
  | .iload _ => 2
  | .lload _ => 2
  | .aload _ => 2
  | .istore _ => 2
  | .lstore _ => 2
  | .astore _ => 2
  | .iinc _ _ => 3
  | .getfield _ => 3
  | .putfield _ => 3
  | .new _ => 3
  | .anewarray _ => 3
  | .newarray _ => 2
  | .goto _ => 3
  | .ifCond _ _ => 3
  | .if_icmp _ _ => 3
  | .ifnull _ => 3
  | .ifnonnull _ => 3
  | .invokevirtual _ => 3
  | .invokestatic _ => 3
  | .invokespecial _ => 3
  | _ => 1
def zxf (xs : List Int) : Nat → Int32 := fun j => Int32.ofInt (xs.getD j 0)
/-- what the tables say of a field's use, of a class, of a constant -/
def zFl (cl : List vw_C) (Ts : List Cond) (own : String) (idx ci j : Nat) : Prop := ∃ (T : u_T) (N : Nat), cl[ci]? = some (own, T, N) ∧ j < N ∧ (T j).1 = own ∧ Cond.fieldLink own idx own (T j).2.1 (T j).2.2.1 ∈ Ts
def zKd (k : Nat) (ty : FieldType) : Prop := match k with
  | 0 => ty = .int
  | 1 => ty = .long
  | 2 => (∃ n, ty = .object n) ∨ ∃ t, ty = .array t
  | 3 => ty = .boolean
  | _ => False
def zPf (cl : List vw_C) (Ts : List Cond) (own : String) (ctor : Bool) (idx ci j k : Nat) : Prop := ∃ (T : u_T) (N : Nat), cl[ci]? = some (own, T, N) ∧ j < N ∧ (T j).1 = own ∧ Cond.fieldLink own idx own (T j).2.1 (T j).2.2.1 ∈ Ts ∧ (∃ ty, parseFieldDescriptor (T j).2.2.1 = some ty ∧ zKd k ty) ∧ ((T j).2.2.2 = false ∨ ctor = true)
def zCl (cl : List vw_C) (Ts : List Cond) : Prop := ∀ (ci : Nat) (C : String) (T : u_T) (N : Nat), cl[ci]? = some (C, T, N) → (∀ w ∈ u_ws C T N, w ∈ Ts) ∧ (∃ ty : Nat → FieldType, ∀ k, k < N → parseFieldDescriptor (T k).2.2.1 = some (ty k)) ∧ (∀ a, a < N → ∀ b, b < N → a ≠ b → (T a).2.1 ≠ (T b).2.1) ∧ Cond.instantiable C N ∈ Ts ∧ Cond.initialized C ∈ Ts ∧ ci < 100
def zNw (cl : List vw_C) (Ts : List Cond) (own : String) (idx ci : Nat) (ks : List Nat) : Prop := ∃ (C : String) (T : u_T) (N : Nat), cl[ci]? = some (C, T, N) ∧ ks.length = N ∧ Cond.classLink own idx C ∈ Ts ∧ ∀ (j k : Nat), ks[j]? = some k → ∃ ty, parseFieldDescriptor (T j).2.2.1 = some ty ∧ ((k = 0 ∧ (ty = .int ∨ ty = .boolean)) ∨ (k = 1 ∧ ty = .long) ∨ (k = 2 ∧ ((∃ n, ty = .object n) ∨ ∃ t, ty = .array t)))
def zOK (cl : List vw_C) (Ts : List Cond) (own : String) (ctor : Bool) (nL : Nat) (cc : ByteArray) (pc : Nat) (I : Instr) (x : List Nat) (c : Int) : Prop := decode cc pc = .ok (I, zlen I) ∧ match I with
  | .bipush n => -128 ≤ n ∧ n ≤ 127
  | .sipush n => -32768 ≤ n ∧ n ≤ 32767
  | .ldc i => Cond.constant own i (Int32.ofInt c) ∈ Ts
  | .ldc_w i => Cond.constant own i (Int32.ofInt c) ∈ Ts
  | .ldc2_w i => Cond.constantLong own i (Int64.ofInt c) ∈ Ts
  | .istore i => i < nL
  | .istore_n i => (i : Nat) < nL
  | .astore i => i < nL
  | .astore_n i => (i : Nat) < nL
  | .lstore i => i + 1 < nL
  | .lstore_n i => (i : Nat) + 1 < nL
  | .getfield i => ∃ ci j k, x = [ci, j, k] ∧ zFl cl Ts own i ci j
  | .putfield i => ∃ ci j k, x = [ci, j, k] ∧ zPf cl Ts own ctor i ci j k
  | .new i => ∃ ci ks, x = ci :: ks ∧ zNw cl Ts own i ci ks
  | .newarray t => (x = [0] ∧ t = .int ∧ Cond.arrayClass .int ∈ Ts) ∨ (x = [1] ∧ t = .long ∧ Cond.arrayClass .long ∈ Ts)
  | .anewarray i => ∃ ci C T N, x = [102 + ci] ∧ cl[ci]? = some (C, T, N) ∧ Cond.classLink own i C ∈ Ts ∧ Cond.arrayOver (.object C) ∈ Ts
  | .aaload => ∃ ci, x = [102 + ci]
  | .aastore => ∃ ci, x = [102 + ci, ci]
  | _ => True
theorem zfit_r {ads : List Nat} {r : Option Nat} {V : Value} {ty : FieldType} (h : zcR ads (.inr (.inr r)) V) (ht : (∃ n, ty = .object n) ∨ ∃ t, ty = .array t) : narrow ty V = V ∧ fits ty V = true := by
  rcases r with _ | p
  · cases h
    rcases ht with ⟨n, rfl⟩ | ⟨t, rfl⟩ <;> exact ⟨rfl, rfl⟩
  · obtain ⟨a, -, rfl⟩ := h
    rcases ht with ⟨n, rfl⟩ | ⟨t, rfl⟩ <;> exact ⟨rfl, rfl⟩
theorem zfit_b {x : Int} (h : x = 0 ∨ x = 1) : narrow .boolean (.int (Int32.ofInt x)) = .int (Int32.ofInt x) ∧ fits .boolean (.int (Int32.ofInt x)) = true := by
  rcases h with rfl | rfl <;> exact ⟨by decide, by decide⟩
/-- the place where a field is read -/
theorem zfd_some {h : zH} {r : Option Nat} {ci j : Nat} {v : zV} (q : zfd h r ci j = some v) : ∃ p c, r = some (p + 1) ∧ h[p]? = some c ∧ c.1 = ci ∧ c.2[j]? = some v := by
  rcases r with _ | _ | p
  · cases q
  · cases q
  · unfold zfd at q
    dsimp only at q
    cases hc : h[p]? with
    | none => rw [hc] at q; cases q
    | some c =>
      rw [hc] at q
      dsimp only at q
      split at q
      next he => exact ⟨p, c, rfl, hc, he, q⟩
      next => cases q
theorem zpf_some {h : zH} {r : Option Nat} {ci j : Nat} {v : zV} {f : zH → Option zR} {res : zR} (q : zpf h r ci j v f = some res) : ∃ p c, r = some (p + 1) ∧ h[p]? = some c ∧ c.1 = ci ∧ j < c.2.length ∧ f (h.set p (c.1, c.2.set j v)) = some res := by
  rcases r with _ | _ | p
  · cases q
  · cases q
  · unfold zpf at q
    dsimp only at q
    cases hc : h[p]? with
    | none => rw [hc] at q; cases q
    | some c =>
      rw [hc] at q
      dsimp only at q
      split at q
      next he => exact ⟨p, c, rfl, hc, he.1, he.2, q⟩
      next => cases q
theorem zst_some {h : zH} {r : Option Nat} {tag : Nat} {i : Int} {v : zV} {f : zH → Option zR} {res : zR} (q : zst h r tag i v f = some res) : ∃ p c, r = some (p + 1) ∧ h[p]? = some c ∧ c.1 = tag ∧ 0 ≤ zw i ∧ (zw i).toNat < c.2.length ∧ f (h.set p (c.1, c.2.set (zw i).toNat v)) = some res := by
  rcases r with _ | _ | p
  · cases q
  · cases q
  · unfold zst at q
    dsimp only at q
    cases hc : h[p]? with
    | none => rw [hc] at q; cases q
    | some c =>
      rw [hc] at q
      dsimp only at q
      split at q
      next he => exact ⟨p, c, rfl, hc, he.1, he.2.1, he.2.2, q⟩
      next => cases q
theorem zar_some {xs : List Int} {h : zH} {r : Option Nat} {tag : Nat} {i : Int} {v : zV} (q : zar xs h r tag i = some v) : 0 ≤ zw i ∧ ((r = some 0 ∧ tag = 100 ∧ ∃ x, xs[(zw i).toNat]? = some x ∧ v = .inl x) ∨ ∃ p c, r = some (p + 1) ∧ h[p]? = some c ∧ c.1 = tag ∧ c.2[(zw i).toNat]? = some v) := by
  rcases r with _ | _ | p
  · cases q
  · unfold zar at q
    dsimp only at q
    split at q
    next he =>
      refine ⟨he.2, Or.inl ⟨rfl, he.1, ?_⟩⟩
      cases hx : xs[(zw i).toNat]? with
      | none => rw [hx] at q; cases q
      | some x => rw [hx] at q; cases q; exact ⟨x, rfl, rfl⟩
    next => cases q
  · unfold zar at q
    dsimp only at q
    cases hc : h[p]? with
    | none => rw [hc] at q; cases q
    | some c =>
      rw [hc] at q
      dsimp only at q
      split at q
      next he => exact ⟨he.2, Or.inr ⟨p, c, rfl, hc, he.1, q⟩⟩
      next => cases q
theorem zRep_obj {cl : List vw_C} {ads : List Nat} {tys : List (ClassId × FieldType)} {ws : va_W} {h : zH} (hR : zRep cl ads tys ws h) {p a : Nat} {c : Nat × List zV} (hp : h[p]? = some c) (ht : c.1 < 100) (ha : ads[p + 1]? = some a) : ∃ fs, ws[p]? = some (a, .inr (c.1, fs)) ∧ zSt ads c.2 fs := by
  obtain ⟨a1, e, q1, q2, q3⟩ := hR.2.2 p c hp
  cases ha.symm.trans q1
  rcases q3 with ⟨-, fs, rfl, h3⟩ | ⟨h1, -⟩ | ⟨h1, -⟩ | ⟨h1, -⟩
  · exact ⟨fs, q2, h3⟩
  · omega
  · omega
  · omega
theorem zRep_int {cl : List vw_C} {ads : List Nat} {tys : List (ClassId × FieldType)} {ws : va_W} {h : zH} (hR : zRep cl ads tys ws h) {p a : Nat} {c : Nat × List zV} (hp : h[p]? = some c) (ht : c.1 = 100) (ha : ads[p + 1]? = some a) : ∃ (cA : ClassId) (f : Nat → Int32), ws[p]? = some (a, .inl (cA, c.2.length, .inl f)) ∧ (cA, FieldType.int) ∈ tys ∧ ∀ (j : Nat) (v : zV), c.2[j]? = some v → ∃ x, v = .inl x ∧ f j = Int32.ofInt x := by
  obtain ⟨a1, e, q1, q2, q3⟩ := hR.2.2 p c hp
  cases ha.symm.trans q1
  rcases q3 with ⟨h1, -⟩ | ⟨-, cA, f, rfl, h3, h4⟩ | ⟨h1, -⟩ | ⟨h1, -⟩
  · omega
  · exact ⟨cA, f, q2, h3, h4⟩
  · omega
  · omega
theorem zRep_long {cl : List vw_C} {ads : List Nat} {tys : List (ClassId × FieldType)} {ws : va_W} {h : zH} (hR : zRep cl ads tys ws h) {p a : Nat} {c : Nat × List zV} (hp : h[p]? = some c) (ht : c.1 = 101) (ha : ads[p + 1]? = some a) : ∃ (cA : ClassId) (f : Nat → Int64), ws[p]? = some (a, .inl (cA, c.2.length, .inr (.inl f))) ∧ (cA, FieldType.long) ∈ tys ∧ ∀ (j : Nat) (v : zV), c.2[j]? = some v → ∃ x, v = .inr (.inl x) ∧ f j = Int64.ofInt x := by
  obtain ⟨a1, e, q1, q2, q3⟩ := hR.2.2 p c hp
  cases ha.symm.trans q1
  rcases q3 with ⟨h1, -⟩ | ⟨h1, -⟩ | ⟨-, cA, f, rfl, h3, h4⟩ | ⟨h1, -⟩
  · omega
  · omega
  · exact ⟨cA, f, q2, h3, h4⟩
  · omega
theorem zRep_ref {cl : List vw_C} {ads : List Nat} {tys : List (ClassId × FieldType)} {ws : va_W} {h : zH} (hR : zRep cl ads tys ws h) {p a : Nat} {c : Nat × List zV} (hp : h[p]? = some c) (ht : 102 ≤ c.1) (ha : ads[p + 1]? = some a) : ∃ (cA : ClassId) (f : Nat → Option Nat) (r : vw_C), ws[p]? = some (a, .inl (cA, c.2.length, .inr (.inr (.inr (.inr f))))) ∧ cl[c.1 - 102]? = some r ∧ (cA, FieldType.object r.1) ∈ tys ∧ ∀ (j : Nat) (v : zV), c.2[j]? = some v → ∃ x, v = .inr (.inr x) ∧ zcR ads (.inr (.inr x)) (va_rf (f j)) := by
  obtain ⟨a1, e, q1, q2, q3⟩ := hR.2.2 p c hp
  cases ha.symm.trans q1
  rcases q3 with ⟨h1, -⟩ | ⟨h1, -⟩ | ⟨h1, -⟩ | ⟨-, cA, f, r, rfl, h3, h4, h5⟩
  · omega
  · omega
  · omega
  · exact ⟨cA, f, r, q2, h3, h4, h5⟩
theorem zRep_arr {cl : List vw_C} {ads : List Nat} {tys : List (ClassId × FieldType)} {ws : va_W} {h : zH} (hR : zRep cl ads tys ws h) {p a : Nat} {c : Nat × List zV} (hp : h[p]? = some c) (ht : 100 ≤ c.1) (ha : ads[p + 1]? = some a) : ∃ (cA : ClassId) (x : vp_A) (ty : FieldType), ws[p]? = some (a, .inl (cA, x)) ∧ (cA, ty) ∈ tys ∧ x.1 = c.2.length := by
  obtain ⟨a1, e, q1, q2, q3⟩ := hR.2.2 p c hp
  cases ha.symm.trans q1
  rcases q3 with ⟨h1, -⟩ | ⟨-, cA, f, rfl, h3, -⟩ | ⟨-, cA, f, rfl, h3, -⟩ | ⟨-, cA, f, r, rfl, -, h4, -⟩
  · omega
  · exact ⟨cA, _, _, q2, h3, rfl⟩
  · exact ⟨cA, _, _, q2, h3, rfl⟩
  · exact ⟨cA, _, _, q2, h4, rfl⟩
theorem zofNat (n : Nat) : Int32.ofNat n = Int32.ofInt (n : Int) := by
  apply Int32.toBitVec_inj.mp
  simp
def zdfv : Nat → Value
  | 0 => .int 0
  | 1 => .long 0
  | _ => .null
theorem zdfv_ok (ads : List Nat) : ∀ ks : List Nat, zSt ads (ks.map fun t => match t with | 0 => .inl 0 | 1 => .inr (.inl 0) | _ => .inr (.inr none)) (ks.map zdfv)
  | [] => trivial
  | 0 :: ks => ⟨rfl, zdfv_ok ads ks⟩
  | 1 :: ks => ⟨rfl, zdfv_ok ads ks⟩
  | (_ + 2) :: ks => ⟨rfl, zdfv_ok ads ks⟩
section ZSIM
variable {p : Program} {l : Launch} {e : Env} {R : Room} {s : State} {m : MethodId} {args : Array Value} {below : List Frame} {meth : Method} {c : Code} {Q : State → Prop}
variable {cc : ByteArray} {nL : Nat} {own : String} {D : va_G} {cl : List vw_C} {A : Nat → Prop} {xs : List Int} {ads0 : List Nat} {n0 z0 : Nat} {Ts : List Cond} {ctor : Bool}
/-- the method's own circumstances -/
def zCtx (p : Program) (s : State) (m : MethodId) (args : Array Value) (meth : Method) (c : Code) (cc : ByteArray) (nL : Nat) (own : String) (ctor : Bool) (cl : List vw_C) (A : Nat → Prop) (xs : List Int) (ads0 : List Nat) (Ts : List Cond) : Prop :=
  p.tables.exec = Jvm.exec ∧ c.code = cc ∧ c.maxLocals = nL ∧ (∀ w ∈ Ts, w.before args s = true) ∧ s.vm.findClass own = some m.cls ∧ (∀ q, s.heap.size ≤ q → A q) ∧ zCl cl Ts ∧ (ctor = true → meth.name = "<init>") ∧ ∃ b, ads0[0]? = some b ∧ va_X b xs.length (zxf xs) s s.heap ∧ b < s.heap.size ∧ ¬ A b
def zSim (p : Program) (l : Launch) (e : Env) (R : Room) (s : State) (m : MethodId) (args : Array Value) (below : List Frame) (meth : Method) (c : Code) (Q : State → Prop) (nL : Nat) (D : va_G) (cl : List vw_C) (A : Nat → Prop) (ads0 : List Nat) (n0 z0 : Nat) (pc : Nat) (L : zL) (st : List zV) (h : zH) : Prop :=
  ∀ (ls : Array Slot) (sv : List Value) (H : Heap) (locs : List Loc) (cells slots : Nat) (ads : List Nat) (tys : List (ClassId × FieldType)) (ws : va_W), zLo ads nL L ls → zSt ads st sv → zRep cl ads tys ws h → zpre ads0 ads → va_K D cl tys s → va_P D cl ws H → va_D A ws → va_S A s.heap H locs → cells + n0 = h.length → slots + z0 = zsz h → W p l e R s m args below meth c H locs cells slots Q (F0 m pc ls sv)
theorem zS_arith (C0 : zCtx p s m args meth c cc nL own ctor cl A xs ads0 Ts) {pc : Nat} {I : Instr} {x : List Nat} {cv : Int} {L : zL} {st : List zV} {h : zH} {k : zL → List zV → zH → Option zR} {res : zR} (ok : zOK cl Ts own ctor nL cc pc I x cv)
    (hk : ∀ L' st' h', k L' st' h' = some res → zSim p l e R s m args below meth c Q nL D cl A ads0 n0 z0 (pc + zlen I) L' st' h') (hr : ∀ L' st' h', k L' st' h' = some res → h'.length ≤ R.cells + n0 ∧ zsz h' ≤ R.slots + z0)
    (q : zS xs I x cv L st h k = some res) : zSim p l e R s m args below meth c Q nL D cl A ads0 n0 z0 pc L st h := by
  intro ls sv H locs cells slots ads tys ws hL hst hR hpre hK hP hD hS hn hz
  obtain ⟨hx, hb, hml, hts, hown, hA, hcl, hct, b, hb0, hX, hbl, hbA⟩ := C0
  obtain ⟨hd, ok⟩ := ok
  cases I
  case iconst n => exact lv_iconst hx hb hd rfl (hk _ _ _ q _ _ _ _ _ _ _ _ _ hL ⟨rfl, hst⟩ hR hpre hK hP hD hS hn hz)
  case bipush n => exact lv_bipush hx hb hd (zw_bip ok.1 ok.2) (hk _ _ _ q _ _ _ _ _ _ _ _ _ hL ⟨rfl, hst⟩ hR hpre hK hP hD hS hn hz)
  case sipush n => exact lv_sipush hx hb hd (zw_sip ok.1 ok.2) (hk _ _ _ q _ _ _ _ _ _ _ _ _ hL ⟨rfl, hst⟩ hR hpre hK hP hD hS hn hz)
  case ldc i => exact lv_ldc hx hb hown (hts _ ok) hd (hk _ _ _ q _ _ _ _ _ _ _ _ _ hL ⟨rfl, hst⟩ hR hpre hK hP hD hS hn hz)
  case ldc_w i => exact lv_ldcw hx hb hown (hts _ ok) hd (hk _ _ _ q _ _ _ _ _ _ _ _ _ hL ⟨rfl, hst⟩ hR hpre hK hP hD hS hn hz)
  case ldc2_w i => exact lv_ldc2 hx hb hown (hts _ ok) hd (hk _ _ _ q _ _ _ _ _ _ _ _ _ hL ⟨rfl, hst⟩ hR hpre hK hP hD hS hn hz)
  case lconst n => exact lv_lconst (v := Int64.ofInt ((n : Nat) : Int)) hx hb hd (by clear hk hr q hd ok; revert n; decide) (hk _ _ _ q _ _ _ _ _ _ _ _ _ hL ⟨rfl, hst⟩ hR hpre hK hP hD hS hn hz)
  case aconst_null => exact lv_null hx hb hd (hk _ _ _ q _ _ _ _ _ _ _ _ _ hL ⟨rfl, hst⟩ hR hpre hK hP hD hS hn hz)
  case iload i =>
    simp only [zS] at q
    split at q
    next v hv =>
      obtain ⟨V, e1, e2⟩ := zLo_ld hL hv
      cases e2
      exact lv_iload hx hb hd e1 (hk _ _ _ q _ _ _ _ _ _ _ _ _ hL ⟨rfl, hst⟩ hR hpre hK hP hD hS hn hz)
    next => cases q
  case iload_n i =>
    simp only [zS] at q
    split at q
    next v hv =>
      obtain ⟨V, e1, e2⟩ := zLo_ld hL hv
      cases e2
      exact lv_iload_n hx hb hd rfl e1 (hk _ _ _ q _ _ _ _ _ _ _ _ _ hL ⟨rfl, hst⟩ hR hpre hK hP hD hS hn hz)
    next => cases q
  case lload i =>
    simp only [zS] at q
    split at q
    next v hv =>
      obtain ⟨V, e1, e2⟩ := zLo_ld hL hv
      cases e2
      exact lv_lload hx hb hd e1 (hk _ _ _ q _ _ _ _ _ _ _ _ _ hL ⟨rfl, hst⟩ hR hpre hK hP hD hS hn hz)
    next => cases q
  case lload_n i =>
    simp only [zS] at q
    split at q
    next v hv =>
      obtain ⟨V, e1, e2⟩ := zLo_ld hL hv
      cases e2
      exact lv_lload_n hx hb hd rfl e1 (hk _ _ _ q _ _ _ _ _ _ _ _ _ hL ⟨rfl, hst⟩ hR hpre hK hP hD hS hn hz)
    next => cases q
  case aload i =>
    simp only [zS] at q
    split at q
    next v hv =>
      obtain ⟨V, e1, e2⟩ := zLo_ld hL hv
      rcases v with _ | v
      · cases e2
        exact lv_aloadN hx hb hd e1 (hk _ _ _ q _ _ _ _ _ _ _ _ _ hL ⟨rfl, hst⟩ hR hpre hK hP hD hS hn hz)
      · obtain ⟨a, e3, rfl⟩ := e2
        exact lv_aload hx hb hd e1 (hk _ _ _ q _ _ _ _ _ _ _ _ _ hL ⟨⟨a, e3, rfl⟩, hst⟩ hR hpre hK hP hD hS hn hz)
    next => cases q
  case aload_n i =>
    simp only [zS] at q
    split at q
    next v hv =>
      obtain ⟨V, e1, e2⟩ := zLo_ld hL hv
      rcases v with _ | v
      · cases e2
        exact lv_aload_nN hx hb hd rfl e1 (hk _ _ _ q _ _ _ _ _ _ _ _ _ hL ⟨rfl, hst⟩ hR hpre hK hP hD hS hn hz)
      · obtain ⟨a, e3, rfl⟩ := e2
        exact lv_aload_n hx hb hd rfl e1 (hk _ _ _ q _ _ _ _ _ _ _ _ _ hL ⟨⟨a, e3, rfl⟩, hst⟩ hR hpre hK hP hD hS hn hz)
    next => cases q
  case istore i =>
    rcases st with _ | ⟨v | v | v, st⟩ <;> first | (cases q; done) | skip
    obtain ⟨T, rfl, hst1⟩ := zSt_i hst
    obtain ⟨lv, hlv, hc⟩ := zLo_lv hL
    exact lv_istore hx hb hd hlv ok rfl (fun ls' hlz => hk _ _ _ q _ _ _ _ _ _ _ _ _ (zLo_s1 hc rfl hlz) hst1 hR hpre hK hP hD hS hn hz)
  case istore_n i =>
    rcases st with _ | ⟨v | v | v, st⟩ <;> first | (cases q; done) | skip
    obtain ⟨T, rfl, hst1⟩ := zSt_i hst
    obtain ⟨lv, hlv, hc⟩ := zLo_lv hL
    exact lv_istore_n hx hb hd rfl hlv ok rfl (fun ls' hlz => hk _ _ _ q _ _ _ _ _ _ _ _ _ (zLo_s1 hc rfl hlz) hst1 hR hpre hK hP hD hS hn hz)
  case lstore i =>
    rcases st with _ | ⟨v | v | v, st⟩ <;> first | (cases q; done) | skip
    obtain ⟨T, rfl, hst1⟩ := zSt_l hst
    obtain ⟨lv, hlv, hc⟩ := zLo_lv hL
    exact lv_lstore hx hb hd hlv ok rfl (fun ls' hlz => hk _ _ _ q _ _ _ _ _ _ _ _ _ (zLo_s2 hc rfl hlz) hst1 hR hpre hK hP hD hS hn hz)
  case lstore_n i =>
    rcases st with _ | ⟨v | v | v, st⟩ <;> first | (cases q; done) | skip
    obtain ⟨T, rfl, hst1⟩ := zSt_l hst
    obtain ⟨lv, hlv, hc⟩ := zLo_lv hL
    exact lv_lstore_n hx hb hd rfl hlv ok rfl (fun ls' hlz => hk _ _ _ q _ _ _ _ _ _ _ _ _ (zLo_s2 hc rfl hlz) hst1 hR hpre hK hP hD hS hn hz)
  case astore i =>
    rcases st with _ | ⟨v | v | v, st⟩ <;> first | (cases q; done) | skip
    obtain ⟨V, T, rfl, hv, hst1⟩ := zSt_r hst
    obtain ⟨lv, hlv, hc⟩ := zLo_lv hL
    rcases v with _ | v
    · cases hv
      exact lv_astoreN hx hb hd hlv ok rfl (fun ls' hlz => hk _ _ _ q _ _ _ _ _ _ _ _ _ (zLo_s1 hc rfl hlz) hst1 hR hpre hK hP hD hS hn hz)
    · obtain ⟨a, e3, rfl⟩ := hv
      exact lv_astore hx hb hd hlv ok rfl (fun ls' hlz => hk _ _ _ q _ _ _ _ _ _ _ _ _ (zLo_s1 hc ⟨a, e3, rfl⟩ hlz) hst1 hR hpre hK hP hD hS hn hz)
  case astore_n i =>
    rcases st with _ | ⟨v | v | v, st⟩ <;> first | (cases q; done) | skip
    obtain ⟨V, T, rfl, hv, hst1⟩ := zSt_r hst
    obtain ⟨lv, hlv, hc⟩ := zLo_lv hL
    rcases v with _ | v
    · cases hv
      exact lv_astore_nN hx hb hd rfl hlv ok rfl (fun ls' hlz => hk _ _ _ q _ _ _ _ _ _ _ _ _ (zLo_s1 hc rfl hlz) hst1 hR hpre hK hP hD hS hn hz)
    · obtain ⟨a, e3, rfl⟩ := hv
      exact lv_astore_n hx hb hd rfl hlv ok rfl (fun ls' hlz => hk _ _ _ q _ _ _ _ _ _ _ _ _ (zLo_s1 hc ⟨a, e3, rfl⟩ hlz) hst1 hR hpre hK hP hD hS hn hz)
  case iinc i n =>
    simp only [zS] at q
    split at q
    next v hv =>
      obtain ⟨V, e1, e2⟩ := zLo_ld hL hv
      cases e2
      obtain ⟨lv, hlv, hc⟩ := zLo_lv hL
      have hlv2 : lv_has ls nL ((i, .int (Int32.ofInt v)) :: lv) := ⟨hlv.1, hlv.2.1, fun q hq => by
        rcases List.mem_cons.mp hq with rfl | hq
        · exact e1
        · exact hlv.2.2 q hq⟩
      have hi : i < nL := by rw [← hL.1]; exact lv_lt e1
      exact lv_iinc (k := 0) hx hb hd hlv2 rfl (Int32.ofInt_add v n).symm hi rfl (fun ls' hlz => hk _ _ _ q _ _ _ _ _ _ _ _ _ (zLo_s1 (fun j w hw => by obtain ⟨W, z1, z2⟩ := hc j w hw; exact ⟨W, List.mem_cons_of_mem _ z1, z2⟩) rfl hlz) hst hR hpre hK hP hD hS hn hz)
    next => cases q
  case iadd =>
    rcases st with _ | ⟨b | b | b, _ | ⟨a | a | a, st⟩⟩ <;> first | (cases q; done) | skip
    obtain ⟨T, rfl, hst1⟩ := zSt_i hst
    obtain ⟨T, rfl, hst2⟩ := zSt_i hst1
    exact lv_iadd hx hb hd (hk _ _ _ q _ _ _ _ _ _ _ _ _ hL ⟨by show _ = _; rw [Int32.ofInt_add], hst2⟩ hR hpre hK hP hD hS hn hz)
  case isub =>
    rcases st with _ | ⟨b | b | b, _ | ⟨a | a | a, st⟩⟩ <;> first | (cases q; done) | skip
    obtain ⟨T, rfl, hst1⟩ := zSt_i hst
    obtain ⟨T, rfl, hst2⟩ := zSt_i hst1
    exact lv_isub hx hb hd (hk _ _ _ q _ _ _ _ _ _ _ _ _ hL ⟨by show _ = _; rw [Int32.ofInt_sub], hst2⟩ hR hpre hK hP hD hS hn hz)
  case imul =>
    rcases st with _ | ⟨b | b | b, _ | ⟨a | a | a, st⟩⟩ <;> first | (cases q; done) | skip
    obtain ⟨T, rfl, hst1⟩ := zSt_i hst
    obtain ⟨T, rfl, hst2⟩ := zSt_i hst1
    exact lv_imul hx hb hd (hk _ _ _ q _ _ _ _ _ _ _ _ _ hL ⟨by show _ = _; rw [Int32.ofInt_mul], hst2⟩ hR hpre hK hP hD hS hn hz)
  case iand =>
    rcases st with _ | ⟨b | b | b, _ | ⟨a | a | a, st⟩⟩ <;> first | (cases q; done) | skip
    obtain ⟨T, rfl, hst1⟩ := zSt_i hst
    obtain ⟨T, rfl, hst2⟩ := zSt_i hst1
    exact lv_iand hx hb hd (hk _ _ _ q _ _ _ _ _ _ _ _ _ hL ⟨by show _ = _; unfold zand; rw [Int32.ofInt_toInt], hst2⟩ hR hpre hK hP hD hS hn hz)
  case ior =>
    rcases st with _ | ⟨b | b | b, _ | ⟨a | a | a, st⟩⟩ <;> first | (cases q; done) | skip
    obtain ⟨T, rfl, hst1⟩ := zSt_i hst
    obtain ⟨T, rfl, hst2⟩ := zSt_i hst1
    exact lv_ior hx hb hd (hk _ _ _ q _ _ _ _ _ _ _ _ _ hL ⟨by show _ = _; unfold zor; rw [Int32.ofInt_toInt], hst2⟩ hR hpre hK hP hD hS hn hz)
  case ishl =>
    rcases st with _ | ⟨b | b | b, _ | ⟨a | a | a, st⟩⟩ <;> first | (cases q; done) | skip
    obtain ⟨T, rfl, hst1⟩ := zSt_i hst
    obtain ⟨T, rfl, hst2⟩ := zSt_i hst1
    exact lv_ishl hx hb hd (hk _ _ _ q _ _ _ _ _ _ _ _ _ hL ⟨by show _ = _; unfold zshl; rw [Int32.ofInt_toInt], hst2⟩ hR hpre hK hP hD hS hn hz)
  case ishr =>
    rcases st with _ | ⟨b | b | b, _ | ⟨a | a | a, st⟩⟩ <;> first | (cases q; done) | skip
    obtain ⟨T, rfl, hst1⟩ := zSt_i hst
    obtain ⟨T, rfl, hst2⟩ := zSt_i hst1
    exact lv_ishr hx hb hd (hk _ _ _ q _ _ _ _ _ _ _ _ _ hL ⟨by show _ = _; unfold zshr; rw [Int32.ofInt_toInt], hst2⟩ hR hpre hK hP hD hS hn hz)
  case iushr =>
    rcases st with _ | ⟨b | b | b, _ | ⟨a | a | a, st⟩⟩ <;> first | (cases q; done) | skip
    obtain ⟨T, rfl, hst1⟩ := zSt_i hst
    obtain ⟨T, rfl, hst2⟩ := zSt_i hst1
    exact lv_iushr hx hb hd rfl (hk _ _ _ q _ _ _ _ _ _ _ _ _ hL ⟨by show _ = _; unfold zushr; rw [Int32.ofInt_toInt], hst2⟩ hR hpre hK hP hD hS hn hz)
  case idiv =>
    rcases st with _ | ⟨b | b | b, _ | ⟨a | a | a, st⟩⟩ <;> first | (cases q; done) | skip
    obtain ⟨T, rfl, hst1⟩ := zSt_i hst
    obtain ⟨T, rfl, hst2⟩ := zSt_i hst1
    simp only [zS] at q
    split at q
    next => cases q
    next h0 => exact lv_idiv hx hb hd (fun z => h0 ((zw_eq0 b).mp z)) (hk _ _ _ q _ _ _ _ _ _ _ _ _ hL ⟨by show _ = _; rw [zw_div], hst2⟩ hR hpre hK hP hD hS hn hz)
  case irem =>
    rcases st with _ | ⟨b | b | b, _ | ⟨a | a | a, st⟩⟩ <;> first | (cases q; done) | skip
    obtain ⟨T, rfl, hst1⟩ := zSt_i hst
    obtain ⟨T, rfl, hst2⟩ := zSt_i hst1
    simp only [zS] at q
    split at q
    next => cases q
    next h0 => exact lv_irem hx hb hd (fun z => h0 ((zw_eq0 b).mp z)) (hk _ _ _ q _ _ _ _ _ _ _ _ _ hL ⟨by show _ = _; rw [zw_mod], hst2⟩ hR hpre hK hP hD hS hn hz)
  case ineg =>
    rcases st with _ | ⟨a | a | a, st⟩ <;> first | (cases q; done) | skip
    obtain ⟨T, rfl, hst1⟩ := zSt_i hst
    exact lv_ineg hx hb hd (hk _ _ _ q _ _ _ _ _ _ _ _ _ hL ⟨by show _ = _; rw [Int32.ofInt_neg], hst1⟩ hR hpre hK hP hD hS hn hz)
  case i2l =>
    rcases st with _ | ⟨a | a | a, st⟩ <;> first | (cases q; done) | skip
    obtain ⟨T, rfl, hst1⟩ := zSt_i hst
    exact lv_i2l hx hb hd (zw_i2l a) (hk _ _ _ q _ _ _ _ _ _ _ _ _ hL ⟨rfl, hst1⟩ hR hpre hK hP hD hS hn hz)
  case l2i =>
    rcases st with _ | ⟨a | a | a, st⟩ <;> first | (cases q; done) | skip
    obtain ⟨T, rfl, hst1⟩ := zSt_l hst
    exact lv_l2i hx hb hd (zw_l2i a) (hk _ _ _ q _ _ _ _ _ _ _ _ _ hL ⟨rfl, hst1⟩ hR hpre hK hP hD hS hn hz)
  case ladd =>
    rcases st with _ | ⟨b | b | b, _ | ⟨a | a | a, st⟩⟩ <;> first | (cases q; done) | skip
    obtain ⟨T, rfl, hst1⟩ := zSt_l hst
    obtain ⟨T, rfl, hst2⟩ := zSt_l hst1
    exact lv_ladd hx hb hd (hk _ _ _ q _ _ _ _ _ _ _ _ _ hL ⟨by show _ = _; rw [Int64.ofInt_add], hst2⟩ hR hpre hK hP hD hS hn hz)
  case lsub =>
    rcases st with _ | ⟨b | b | b, _ | ⟨a | a | a, st⟩⟩ <;> first | (cases q; done) | skip
    obtain ⟨T, rfl, hst1⟩ := zSt_l hst
    obtain ⟨T, rfl, hst2⟩ := zSt_l hst1
    exact lv_lsub hx hb hd (hk _ _ _ q _ _ _ _ _ _ _ _ _ hL ⟨by show _ = _; rw [Int64.ofInt_sub], hst2⟩ hR hpre hK hP hD hS hn hz)
  case lmul =>
    rcases st with _ | ⟨b | b | b, _ | ⟨a | a | a, st⟩⟩ <;> first | (cases q; done) | skip
    obtain ⟨T, rfl, hst1⟩ := zSt_l hst
    obtain ⟨T, rfl, hst2⟩ := zSt_l hst1
    exact lv_lmul hx hb hd (hk _ _ _ q _ _ _ _ _ _ _ _ _ hL ⟨by show _ = _; rw [Int64.ofInt_mul], hst2⟩ hR hpre hK hP hD hS hn hz)
  case land =>
    rcases st with _ | ⟨b | b | b, _ | ⟨a | a | a, st⟩⟩ <;> first | (cases q; done) | skip
    obtain ⟨T, rfl, hst1⟩ := zSt_l hst
    obtain ⟨T, rfl, hst2⟩ := zSt_l hst1
    exact lv_land hx hb hd (hk _ _ _ q _ _ _ _ _ _ _ _ _ hL ⟨by show _ = _; unfold zandl; rw [Int64.ofInt_toInt], hst2⟩ hR hpre hK hP hD hS hn hz)
  case lor =>
    rcases st with _ | ⟨b | b | b, _ | ⟨a | a | a, st⟩⟩ <;> first | (cases q; done) | skip
    obtain ⟨T, rfl, hst1⟩ := zSt_l hst
    obtain ⟨T, rfl, hst2⟩ := zSt_l hst1
    exact lv_lor hx hb hd (hk _ _ _ q _ _ _ _ _ _ _ _ _ hL ⟨by show _ = _; unfold zorl; rw [Int64.ofInt_toInt], hst2⟩ hR hpre hK hP hD hS hn hz)
  case lneg =>
    rcases st with _ | ⟨a | a | a, st⟩ <;> first | (cases q; done) | skip
    obtain ⟨T, rfl, hst1⟩ := zSt_l hst
    exact lv_lneg hx hb hd (hk _ _ _ q _ _ _ _ _ _ _ _ _ hL ⟨by show _ = _; rw [Int64.ofInt_neg], hst1⟩ hR hpre hK hP hD hS hn hz)
  case ldiv =>
    rcases st with _ | ⟨b | b | b, _ | ⟨a | a | a, st⟩⟩ <;> first | (cases q; done) | skip
    obtain ⟨T, rfl, hst1⟩ := zSt_l hst
    obtain ⟨T, rfl, hst2⟩ := zSt_l hst1
    simp only [zS] at q
    split at q
    next => cases q
    next h0 => exact lv_ldiv hx hb hd (fun z => h0 ((zwl_eq0 b).mp z)) (hk _ _ _ q _ _ _ _ _ _ _ _ _ hL ⟨by show _ = _; rw [zwl_div], hst2⟩ hR hpre hK hP hD hS hn hz)
  case lrem =>
    rcases st with _ | ⟨b | b | b, _ | ⟨a | a | a, st⟩⟩ <;> first | (cases q; done) | skip
    obtain ⟨T, rfl, hst1⟩ := zSt_l hst
    obtain ⟨T, rfl, hst2⟩ := zSt_l hst1
    simp only [zS] at q
    split at q
    next => cases q
    next h0 => exact lv_lrem hx hb hd (fun z => h0 ((zwl_eq0 b).mp z)) (hk _ _ _ q _ _ _ _ _ _ _ _ _ hL ⟨by show _ = _; rw [zwl_mod], hst2⟩ hR hpre hK hP hD hS hn hz)
  case lshl =>
    rcases st with _ | ⟨b | b | b, _ | ⟨a | a | a, st⟩⟩ <;> first | (cases q; done) | skip
    obtain ⟨T, rfl, hst1⟩ := zSt_i hst
    obtain ⟨T, rfl, hst2⟩ := zSt_l hst1
    exact lv_lshl hx hb hd rfl (hk _ _ _ q _ _ _ _ _ _ _ _ _ hL ⟨by show _ = _; unfold zshll; rw [Int64.ofInt_toInt], hst2⟩ hR hpre hK hP hD hS hn hz)
  case lushr =>
    rcases st with _ | ⟨b | b | b, _ | ⟨a | a | a, st⟩⟩ <;> first | (cases q; done) | skip
    obtain ⟨T, rfl, hst1⟩ := zSt_i hst
    obtain ⟨T, rfl, hst2⟩ := zSt_l hst1
    exact lv_lushr hx hb hd rfl (hk _ _ _ q _ _ _ _ _ _ _ _ _ hL ⟨by show _ = _; unfold zushrl; rw [Int64.ofInt_toInt], hst2⟩ hR hpre hK hP hD hS hn hz)
  case lcmp =>
    rcases st with _ | ⟨b | b | b, _ | ⟨a | a | a, st⟩⟩ <;> first | (cases q; done) | skip
    obtain ⟨T, rfl, hst1⟩ := zSt_l hst
    obtain ⟨T, rfl, hst2⟩ := zSt_l hst1
    exact W.lcmp hx hb hd (hk _ _ _ q _ _ _ _ _ _ _ _ _ hL ⟨by show _ = _; rw [zwl_cmp], hst2⟩ hR hpre hK hP hD hS hn hz)
  case dup =>
    rcases st with _ | ⟨a | a | a, st⟩ <;> first | (cases q; done) | skip
    · obtain ⟨T, rfl, hst1⟩ := zSt_i hst
      exact lv_dup hx hb hd rfl (hk _ _ _ q _ _ _ _ _ _ _ _ _ hL ⟨rfl, rfl, hst1⟩ hR hpre hK hP hD hS hn hz)
    · obtain ⟨V, T, rfl, hv, hst1⟩ := zSt_r hst
      exact lv_dup hx hb hd (zcR_cat hv) (hk _ _ _ q _ _ _ _ _ _ _ _ _ hL ⟨hv, hv, hst1⟩ hR hpre hK hP hD hS hn hz)
  case dup2 =>
    rcases st with _ | ⟨b | b | b, _ | ⟨a | a | a, st⟩⟩ <;> first | (cases q; done) | skip
    obtain ⟨T, rfl, hst1⟩ := zSt_i hst
    obtain ⟨V, T, rfl, hv, hst2⟩ := zSt_r hst1
    exact lv_dup2_11 hx hb hd rfl (zcR_cat hv) (hk _ _ _ q _ _ _ _ _ _ _ _ _ hL ⟨rfl, hv, rfl, hv, hst2⟩ hR hpre hK hP hD hS hn hz)
  case dup_x2 =>
    rcases st with _ | ⟨d | d | d, _ | ⟨b | b | b, _ | ⟨a | a | a, st⟩⟩⟩ <;> first | (cases q; done) | skip
    obtain ⟨T, rfl, hst1⟩ := zSt_i hst
    obtain ⟨T, rfl, hst2⟩ := zSt_i hst1
    obtain ⟨V, T, rfl, hv, hst3⟩ := zSt_r hst2
    exact lv_dup_x2 hx hb hd rfl rfl (zcR_cat hv) (hk _ _ _ q _ _ _ _ _ _ _ _ _ hL ⟨rfl, rfl, hv, rfl, hst3⟩ hR hpre hK hP hD hS hn hz)
  case pop =>
    rcases st with _ | ⟨a | a | a, st⟩ <;> first | (cases q; done) | skip
    · obtain ⟨T, rfl, hst1⟩ := zSt_i hst
      exact lv_pop hx hb hd rfl (hk _ _ _ q _ _ _ _ _ _ _ _ _ hL hst1 hR hpre hK hP hD hS hn hz)
    · obtain ⟨V, T, rfl, hv, hst1⟩ := zSt_r hst
      exact lv_pop hx hb hd (zcR_cat hv) (hk _ _ _ q _ _ _ _ _ _ _ _ _ hL hst1 hR hpre hK hP hD hS hn hz)
  case getfield i =>
    obtain ⟨ci, j, kd, rfl, T, N, hc, hj, hT1, hlink⟩ := ok
    have hcc := hcl ci _ _ _ hc
    have main : ∀ (r : Option Nat) (v : zV) (st' : List zV), st = .inr (.inr r) :: st' → zfd h r ci j = some v → zSim p l e R s m args below meth c Q nL D cl A ads0 n0 z0 (pc + 3) L (v :: st') h → W p l e R s m args below meth c H locs cells slots Q (F0 m pc ls sv) := by
      intro r v st' hst0 hv hkk
      subst hst0
      obtain ⟨p', c', rfl, hp, hci, hcj⟩ := zfd_some hv
      obtain ⟨V, sv', rfl, hV, hst1⟩ := zSt_r hst
      obtain ⟨a, ha, rfl⟩ := hV
      obtain ⟨fs, he, hfs⟩ := zRep_obj hR hp (by rw [hci]; exact hcc.2.2.2.2.2) ha
      rw [hci] at he
      obtain ⟨V2, g1, g2⟩ := zSt_get hfs hcj
      exact va_get hx hb hts hcc.1 hown hK hP p' he hc j hj (hts _ hlink) (fun x h9 => by rw [hT1] at h9; exact h9) g1 hd (hkk _ _ _ _ _ _ _ _ _ hL ⟨g2, hst1⟩ hR hpre hK hP hD hS hn hz)
    rcases kd with _ | _ | _ | kd <;> rcases st with _ | ⟨a | a | r, st⟩ <;> first | (cases q; done) | skip
    · simp only [zS, zgi] at q
      split at q
      next v hv => exact main r _ st rfl hv (hk _ _ _ q)
      next => cases q
    · simp only [zS, zgl] at q
      split at q
      next v hv => exact main r _ st rfl hv (hk _ _ _ q)
      next => cases q
    · simp only [zS, zgr] at q
      split at q
      next v hv => exact main r _ st rfl hv (hk _ _ _ q)
      next => cases q
  case putfield i =>
    obtain ⟨ci, j, kd, rfl, T, N, hc, hj, hT1, hlink, ⟨ty, hty, hkd⟩, hfin⟩ := ok
    obtain ⟨hcw, ⟨ty0, hty0⟩, hnm, -, -, hlt⟩ := hcl ci _ _ _ hc
    have main : ∀ (r : Option Nat) (v : zV) (st' : List zV), st = v :: .inr (.inr r) :: st' → (∀ V, zcR ads v V → narrow ty V = V ∧ fits ty V = true) → zpf h r ci j v (fun h => k L st' h) = some res → W p l e R s m args below meth c H locs cells slots Q (F0 m pc ls sv) := by
      intro r v st' hst0 hfit q1
      subst hst0
      obtain ⟨p', c', rfl, hp, hci, hlen, q2⟩ := zpf_some q1
      rcases sv with _ | ⟨V, sv⟩
      · exact hst.elim
      obtain ⟨hV0, hst0⟩ := hst
      obtain ⟨V2, sv', rfl, hV, hst1⟩ := zSt_r hst0
      obtain ⟨a, ha, rfl⟩ := hV
      obtain ⟨fs, he, hfs⟩ := zRep_obj hR hp (by rw [hci]; exact hlt) ha
      rw [hci] at he
      have hfs2 := zSt_len hfs
      obtain ⟨f1, f2⟩ := hfit V hV0
      have fin : ∀ (H1 : Heap) (locs1 : List Loc), va_P D cl (ws.set p' (a, .inr (ci, fs.set j V))) H1 → va_D A (ws.set p' (a, .inr (ci, fs.set j V))) → va_S A s.heap H1 locs1 → W p l e R s m args below meth c H1 locs1 cells slots Q (F0 m (pc + 3) ls sv') := fun H1 locs1 hP1 hD1 hS1 =>
        hk _ _ _ q2 _ _ _ _ _ _ _ _ _ hL hst1 (zRep_set hR ha (Or.inl ⟨by rw [hci]; exact hlt, fs.set j V, by rw [hci], zSt_set j hfs hV0⟩)) hpre hK hP1 hD1 hS1 (by rw [List.length_set]; exact hn) (by rw [zsz_set h p' c' _ hp (by simp)]; exact hz)
      by_cases hf0 : (T j).2.2.2 = false
      · exact va_put hx hb hts hcw ty0 hty0 hnm hown hK hP hD hS p' he hc j hj (hts _ hlink) (fun x h9 => by rw [hT1] at h9; exact h9) hf0 hty f1 f2 (by rw [hfs2]; exact hlen) hd fin
      · exact va_putF hx hb hts hcw ty0 hty0 hnm hown hK hP hD hS p' he hc j hj (hts _ hlink) (fun x h9 => by rw [hT1] at h9; exact h9) (by simpa using hf0) (hct (hfin.resolve_left hf0)) hT1 hty f1 f2 (by rw [hfs2]; exact hlen) hd fin
    rcases kd with _ | _ | _ | _ | kd <;> rcases st with _ | ⟨v | v | v, _ | ⟨a | a | r, st⟩⟩ <;> first | (cases q; done) | skip
    · cases hkd
      exact main r _ st rfl (fun V hV => by cases hV; exact ⟨rfl, rfl⟩) q
    · cases hkd
      exact main r _ st rfl (fun V hV => by cases hV; exact ⟨rfl, rfl⟩) q
    · exact main r _ st rfl (fun V hV => zfit_r hV hkd) q
    · cases hkd
      simp only [zS] at q
      split at q
      next hv => exact main r _ st rfl (fun V hV => by cases hV; exact zfit_b hv) q
      next => cases q
  case iaload =>
    rcases st with _ | ⟨i | i | i, _ | ⟨a | a | r, st⟩⟩ <;> first | (cases q; done) | skip
    simp only [zS, zai] at q
    split at q
    next v hv =>
      obtain ⟨T1, rfl, hst1⟩ := zSt_i hst
      obtain ⟨V, T2, rfl, hV, hst2⟩ := zSt_r hst1
      obtain ⟨h0, ⟨rfl, -, x0, hx0, hx1⟩ | ⟨p', c', rfl, hp, htag, hcj⟩⟩ := zar_some hv
      · cases hx1
        obtain ⟨a, ha, rfl⟩ := hV
        have hab : a = b := Option.some.inj (ha.symm.trans (hpre _ _ hb0))
        subst hab
        have hlt := (List.getElem?_eq_some_iff.mp hx0).1
        refine va_sld hx hb hX hbl hbA hS (zw_in h0 hlt) hd ?_
        refine hk _ _ _ q _ _ _ _ _ _ _ _ _ hL ⟨?_, hst2⟩ hR hpre hK hP hD hS hn hz
        show Value.int (zxf xs _) = _
        rw [zw_clamp]
        simp [zxf, List.getD, hx0]
      · obtain ⟨a, ha, rfl⟩ := hV
        obtain ⟨cA, f, he, ht, hf⟩ := zRep_int hR hp htag ha
        obtain ⟨t0, ht0⟩ := zty_mem ht
        obtain ⟨x1, e1, e2⟩ := hf _ _ hcj
        cases e1
        have hlt := (List.getElem?_eq_some_iff.mp hcj).1
        refine va_iald hx hb hK hP p' t0 he ht0 (zw_in h0 hlt) hd ?_
        refine hk _ _ _ q _ _ _ _ _ _ _ _ _ hL ⟨?_, hst2⟩ hR hpre hK hP hD hS hn hz
        show Value.int (f _) = _
        rw [zw_clamp, e2]
    next => cases q
  case laload =>
    rcases st with _ | ⟨i | i | i, _ | ⟨a | a | r, st⟩⟩ <;> first | (cases q; done) | skip
    simp only [zS, zal] at q
    split at q
    next v hv =>
      obtain ⟨T1, rfl, hst1⟩ := zSt_i hst
      obtain ⟨V, T2, rfl, hV, hst2⟩ := zSt_r hst1
      obtain ⟨h0, ⟨rfl, hbad, -⟩ | ⟨p', c', rfl, hp, htag, hcj⟩⟩ := zar_some hv
      · exact absurd hbad (by decide)
      · obtain ⟨a, ha, rfl⟩ := hV
        obtain ⟨cA, f, he, ht, hf⟩ := zRep_long hR hp htag ha
        obtain ⟨t0, ht0⟩ := zty_mem ht
        obtain ⟨x1, e1, e2⟩ := hf _ _ hcj
        cases e1
        have hlt := (List.getElem?_eq_some_iff.mp hcj).1
        refine va_lald hx hb hK hP p' t0 he ht0 (zw_in h0 hlt) hd ?_
        refine hk _ _ _ q _ _ _ _ _ _ _ _ _ hL ⟨?_, hst2⟩ hR hpre hK hP hD hS hn hz
        show Value.long (f _) = _
        rw [zw_clamp, e2]
    next => cases q
  case aaload =>
    obtain ⟨ci, rfl⟩ := ok
    rcases st with _ | ⟨i | i | i, _ | ⟨a | a | r, st⟩⟩ <;> first | (cases q; done) | skip
    simp only [zS, zaa] at q
    split at q
    next v hv =>
      obtain ⟨T1, rfl, hst1⟩ := zSt_i hst
      obtain ⟨V, T2, rfl, hV, hst2⟩ := zSt_r hst1
      obtain ⟨h0, ⟨rfl, hbad, -⟩ | ⟨p', c', rfl, hp, htag, hcj⟩⟩ := zar_some hv
      · omega
      · obtain ⟨a, ha, rfl⟩ := hV
        obtain ⟨cA, f, r, he, hr2, ht, hf⟩ := zRep_ref hR hp (by omega) ha
        obtain ⟨t0, ht0⟩ := zty_mem ht
        obtain ⟨x1, e1, e2⟩ := hf _ _ hcj
        cases e1
        have hlt := (List.getElem?_eq_some_iff.mp hcj).1
        refine va_aldq hx hb hK hP p' t0 he ht0 (zw_in h0 hlt) hd ?_
        refine hk _ _ _ q _ _ _ _ _ _ _ _ _ hL ⟨?_, hst2⟩ hR hpre hK hP hD hS hn hz
        rw [zw_clamp]
        exact e2
    next => cases q
  case iastore =>
    rcases st with _ | ⟨v | v | v, _ | ⟨i | i | i, _ | ⟨a | a | r, st⟩⟩⟩ <;> first | (cases q; done) | skip
    obtain ⟨p', c', rfl, hp, htag, h0, hlt, q⟩ := zst_some q
    obtain ⟨T1, rfl, hst1⟩ := zSt_i hst
    obtain ⟨T2, rfl, hst2⟩ := zSt_i hst1
    obtain ⟨V, T3, rfl, hV, hst3⟩ := zSt_r hst2
    obtain ⟨a, ha, rfl⟩ := hV
    obtain ⟨cA, f, he, ht, hf⟩ := zRep_int hR hp htag ha
    obtain ⟨t0, ht0⟩ := zty_mem ht
    refine va_iast hx hb hK hP hD hS p' t0 he ht0 (zw_in h0 hlt) hd (fun H1 locs1 hP1 hD1 hS1 => ?_)
    refine hk _ _ _ q _ _ _ _ _ _ _ _ _ hL hst3 (zRep_set hR ha (Or.inr (Or.inl ⟨htag, cA, _, by rw [List.length_set], ht, fun j w hw => ?_⟩))) hpre hK hP1 hD1 hS1 (by rw [List.length_set]; exact hn) (by rw [zsz_set h p' c' _ hp (by simp)]; exact hz)
    rw [zw_clamp]
    by_cases hj : j = (zw i).toNat
    · subst hj
      rw [List.getElem?_set_self hlt] at hw
      cases hw
      exact ⟨v, rfl, pk_us⟩
    · rw [List.getElem?_set_ne (Ne.symm hj)] at hw
      obtain ⟨x1, e1, e2⟩ := hf j w hw
      exact ⟨x1, e1, by rw [pk_un hj]; exact e2⟩
  case lastore =>
    rcases st with _ | ⟨v | v | v, _ | ⟨i | i | i, _ | ⟨a | a | r, st⟩⟩⟩ <;> first | (cases q; done) | skip
    obtain ⟨p', c', rfl, hp, htag, h0, hlt, q⟩ := zst_some q
    obtain ⟨T1, rfl, hst1⟩ := zSt_l hst
    obtain ⟨T2, rfl, hst2⟩ := zSt_i hst1
    obtain ⟨V, T3, rfl, hV, hst3⟩ := zSt_r hst2
    obtain ⟨a, ha, rfl⟩ := hV
    obtain ⟨cA, f, he, ht, hf⟩ := zRep_long hR hp htag ha
    obtain ⟨t0, ht0⟩ := zty_mem ht
    refine va_last hx hb hK hP hD hS p' t0 he ht0 (zw_in h0 hlt) hd (fun H1 locs1 hP1 hD1 hS1 => ?_)
    refine hk _ _ _ q _ _ _ _ _ _ _ _ _ hL hst3 (zRep_set hR ha (Or.inr (Or.inr (Or.inl ⟨htag, cA, _, by rw [List.length_set], ht, fun j w hw => ?_⟩)))) hpre hK hP1 hD1 hS1 (by rw [List.length_set]; exact hn) (by rw [zsz_set h p' c' _ hp (by simp)]; exact hz)
    rw [zw_clamp]
    by_cases hj : j = (zw i).toNat
    · subst hj
      rw [List.getElem?_set_self hlt] at hw
      cases hw
      exact ⟨v, rfl, pk_uLs⟩
    · rw [List.getElem?_set_ne (Ne.symm hj)] at hw
      obtain ⟨x1, e1, e2⟩ := hf j w hw
      exact ⟨x1, e1, by rw [pk_uLn hj]; exact e2⟩
  case aastore =>
    obtain ⟨ci, rfl⟩ := ok
    rcases st with _ | ⟨v | v | (_ | _ | v), _ | ⟨i | i | i, _ | ⟨a | a | r, st⟩⟩⟩ <;> first | (cases q; done) | skip
    simp only [zS] at q
    cases hv0 : h[v]? with
    | none => rw [hv0] at q; cases q
    | some cv0 =>
    rw [hv0] at q
    simp only at q
    split at q
    next hci =>
      obtain ⟨p', c', rfl, hp, htag, h0, hlt, q⟩ := zst_some q
      obtain ⟨V, T1, rfl, hV0, hst1⟩ := zSt_r hst
      obtain ⟨T2, rfl, hst2⟩ := zSt_i hst1
      obtain ⟨V, T3, rfl, hV, hst3⟩ := zSt_r hst2
      obtain ⟨a, ha, rfl⟩ := hV
      obtain ⟨av, hav, rfl⟩ := hV0
      obtain ⟨cA, f, r, he, hr2, ht, hf⟩ := zRep_ref hR hp (by omega) ha
      obtain ⟨t0, ht0⟩ := zty_mem ht
      rw [htag, show 102 + ci - 102 = ci by omega] at hr2
      obtain ⟨fs, hve, hfs⟩ := zRep_obj hR hv0 (by rw [hci]; exact (hcl ci r.1 r.2.1 r.2.2 hr2).2.2.2.2.2) hav
      rw [hci] at hve
      refine va_astq hx hb hK hP hD hS p' t0 v ci he ht0 hve hr2 (zw_in h0 hlt) hd (fun H1 locs1 hP1 hD1 hS1 => ?_)
      refine hk _ _ _ q _ _ _ _ _ _ _ _ _ hL hst3 (zRep_set hR ha (Or.inr (Or.inr (Or.inr ⟨by show 102 ≤ c'.1; omega, cA, _, r, by rw [List.length_set], by show cl[c'.1 - 102]? = _; rw [htag, show 102 + ci - 102 = ci by omega]; exact hr2, ht, fun j w hw => ?_⟩)))) hpre hK hP1 hD1 hS1 (by rw [List.length_set]; exact hn) (by rw [zsz_set h p' c' _ hp (by simp)]; exact hz)
      rw [zw_clamp]
      by_cases hj : j = (zw i).toNat
      · subst hj
        rw [List.getElem?_set_self hlt] at hw
        cases hw
        exact ⟨some (v + 1), rfl, av, hav, by simp [va_up, va_rf]⟩
      · rw [List.getElem?_set_ne (Ne.symm hj)] at hw
        obtain ⟨x1, e1, e2⟩ := hf j w hw
        exact ⟨x1, e1, by rw [show va_up f (zw i).toNat (some av) j = f j by simp [va_up, hj]]; exact e2⟩
    next => cases q
  case arraylength =>
    rcases st with _ | ⟨a | a | r, st⟩ <;> first | (cases q; done) | skip
    obtain ⟨V, T, rfl, hV, hst1⟩ := zSt_r hst
    have q : zln xs h r (fun v => k L (.inl v :: st) h) = some res := q
    rcases r with _ | _ | p'
    · cases q
    · obtain ⟨a, ha, rfl⟩ := hV
      have hab : a = b := Option.some.inj (ha.symm.trans (hpre _ _ hb0))
      subst hab
      refine va_slen hx hb hX hbl hbA hS hd ?_
      exact hk _ _ _ q _ _ _ _ _ _ _ _ _ hL ⟨by show _ = _; rw [zofNat], hst1⟩ hR hpre hK hP hD hS hn hz
    · unfold zln at q
      dsimp only at q
      cases hp : h[p']? with
      | none => rw [hp] at q; cases q
      | some c' =>
      rw [hp] at q
      dsimp only at q
      split at q
      next htag =>
        obtain ⟨a, ha, rfl⟩ := hV
        obtain ⟨cA, x, ty, he, ht, hlen⟩ := zRep_arr hR hp htag ha
        obtain ⟨t0, ht0⟩ := zty_mem ht
        refine va_alen hx hb hK hP p' t0 he ht0 (v := Int32.ofInt c'.2.length) (by rw [hlen, zofNat]) hd ?_
        exact hk _ _ _ q _ _ _ _ _ _ _ _ _ hL ⟨rfl, hst1⟩ hR hpre hK hP hD hS hn hz
      next => cases q
  case new i =>
    obtain ⟨ci, ks, rfl, C, T, N, hc, hks, hlink, hdef⟩ := ok
    obtain ⟨hcw, ⟨ty0, hty0⟩, hnm, hinst, hini, hlt⟩ := hcl ci _ _ _ hc
    have q : k L (.inr (.inr (some (h.length + 1))) :: st) (h ++ [(ci, ks.map fun t => match t with | 0 => .inl 0 | 1 => .inr (.inl 0) | _ => .inr (.inr none))]) = some res := q
    obtain ⟨r1, r2⟩ := hr _ _ _ q
    rw [List.length_append] at r1
    rw [zsz_app] at r2
    simp only [List.length_singleton, zsz, List.length_map] at r1 r2
    have hfs : ∀ j, j < N → defaultValue (ty0 j) = vp_V (ks.map zdfv) j := by
      intro j hj
      obtain ⟨kd, hkd⟩ : ∃ kd, ks[j]? = some kd := ⟨_, List.getElem?_eq_getElem (by omega)⟩
      obtain ⟨ty, h1, h2⟩ := hdef j kd hkd
      have h3 : ty0 j = ty := Option.some.inj ((hty0 j hj).symm.trans h1)
      rw [h3]
      have h4 : vp_V (ks.map zdfv) j = zdfv kd := by simp [vp_V, List.getD, hkd]
      rw [h4]
      rcases h2 with ⟨rfl, rfl | rfl⟩ | ⟨rfl, rfl⟩ | ⟨rfl, ⟨n, rfl⟩ | ⟨t, rfl⟩⟩ <;> rfl
    refine va_new hx hb hts hcw ty0 hty0 hown (hts _ hlink) (hts _ hinst) (hts _ hini) hK hP hD hS hA hc hfs (by omega) (by omega) hd (fun qa H1 hP1 hD1 hS1 => ?_)
    refine hk _ _ _ q _ _ _ _ _ _ _ _ _ (zLo_pre (zpre_app _ _) hL) ⟨⟨qa, by rw [← hR.2.1, List.getElem?_append_right (by omega)]; simp, rfl⟩, zSt_pre (zpre_app _ _) hst⟩ (zRep_app hR (fun _ z => z) (Or.inl ⟨hlt, _, rfl, ?_⟩)) (zpre_tr hpre (zpre_app _ _)) hK hP1 hD1 hS1 (by rw [List.length_append]; simp; omega) (by rw [zsz_app]; simp only [zsz, List.length_map]; omega)
    exact zdfv_ok ads ks
  case newarray t =>
    have main : ∀ (n : Int) (st' : List zV) (ty : FieldType) (tag : Nat) (v0 : zV) (a0 : Nat → vp_A), (∀ N', (a0 N').1 = N') → st = .inl n :: st' → newarray.typeOf t = ty → Cond.arrayClass ty ∈ Ts → componentBytes ty ≤ 8 → (∀ (N' : Nat) (cA : ClassId), vp_cell cA (a0 N') = arrV cA N' (fun _ => defaultValue ty)) → (∀ (ads : List Nat) (N' : Nat) (cA : ClassId) (tys : List (ClassId × FieldType)), zCe cl ads (tys ++ [(cA, ty)]) (tag, List.replicate N' v0) (.inl (cA, a0 N'))) → 0 ≤ zw n ∧ zw n ≤ 1000000 → k L (.inr (.inr (some (h.length + 1))) :: st') (h ++ [(tag, List.replicate (zw n).toNat v0)]) = some res → W p l e R s m args below meth c H locs cells slots Q (F0 m pc ls sv) := by
      intro n st' ty tag v0 a0 ha1 hst0 hty harr hcb ha0 hce hn0 q1
      subst hst0
      obtain ⟨T, rfl, hst1⟩ := zSt_i hst
      obtain ⟨r1, r2⟩ := hr _ _ _ q1
      rw [List.length_append] at r1
      rw [zsz_app] at r2
      simp only [List.length_singleton, zsz, List.length_replicate] at r1 r2
      refine va_newa hx hb (by rw [hty]; exact hts _ harr) hty hK hP hD hS hA (ha0 (zw n).toNat) (fun z => by have := (zw_lt0 n).mp z; omega) (zw_clamp n) ?_ (by omega) (by omega) hd (fun qa cA H1 hK1 hP1 hD1 hS1 => ?_)
      · have : (zw n).toNat * componentBytes ty ≤ 1000000 * 8 := Nat.mul_le_mul (by omega) hcb
        omega
      · exact hk _ _ _ q1 _ _ _ _ _ _ _ _ _ (zLo_pre (zpre_app _ _) hL) ⟨⟨qa, by rw [← hR.2.1, List.getElem?_append_right (by omega)]; simp, rfl⟩, zSt_pre (zpre_app _ _) hst1⟩ (zRep_app hR (fun _ z => List.mem_append_left _ z) (hce _ _ _ _)) (zpre_tr hpre (zpre_app _ _)) hK1 hP1 hD1 hS1 (by rw [List.length_append]; simp; omega) (by rw [zsz_app]; simp only [zsz, List.length_replicate]; omega)
    rcases ok with ⟨rfl, rfl, harr⟩ | ⟨rfl, rfl, harr⟩ <;> rcases st with _ | ⟨n | n | n, st⟩ <;> first | (cases q; done) | skip
    · simp only [zS] at q
      split at q
      next hn0 => exact main n st .int 100 (.inl 0) (fun N' => (N', .inl (fun _ => 0))) (fun _ => rfl) rfl rfl harr (by decide) (fun _ _ => rfl) (fun ads N' cA tys => Or.inr (Or.inl ⟨rfl, cA, fun _ => 0, by rw [List.length_replicate], by simp, fun j v hv => ⟨0, by simp [List.getElem?_replicate] at hv; exact hv.2.symm, rfl⟩⟩)) hn0 q
      next => cases q
    · simp only [zS] at q
      split at q
      next hn0 => exact main n st .long 101 (.inr (.inl 0)) (fun N' => (N', .inr (.inl (fun _ => 0)))) (fun _ => rfl) rfl rfl harr (by decide) (fun _ _ => rfl) (fun ads N' cA tys => Or.inr (Or.inr (Or.inl ⟨rfl, cA, fun _ => 0, by rw [List.length_replicate], by simp, fun j v hv => ⟨0, by simp [List.getElem?_replicate] at hv; exact hv.2.symm, rfl⟩⟩))) hn0 q
      next => cases q
  case anewarray i =>
    obtain ⟨ci, C, T, N, rfl, hc, hlink, hov⟩ := ok
    rcases st with _ | ⟨n | n | n, st⟩ <;> first | (cases q; done) | skip
    simp only [zS] at q
    split at q
    next hn0 =>
      obtain ⟨T1, rfl, hst1⟩ := zSt_i hst
      obtain ⟨r1, r2⟩ := hr _ _ _ q
      rw [List.length_append] at r1
      rw [zsz_app] at r2
      simp only [List.length_singleton, zsz, List.length_replicate] at r1 r2
      refine va_newq hx hb hown (hts _ hlink) (va_AO.of (hts _ hov)) hK hP hD hS hA (fun z => by have := (zw_lt0 n).mp z; omega) (zw_clamp n) (by omega) (by omega) (by omega) hd (fun qa cA H1 hK1 hP1 hD1 hS1 => ?_)
      refine hk _ _ _ q _ _ _ _ _ _ _ _ _ (zLo_pre (zpre_app _ _) hL) ⟨⟨qa, by rw [← hR.2.1, List.getElem?_append_right (by omega)]; simp, rfl⟩, zSt_pre (zpre_app _ _) hst1⟩ (zRep_app hR (fun _ z => List.mem_append_left _ z) (Or.inr (Or.inr (Or.inr ⟨by show 102 ≤ 102 + ci; omega, cA, fun _ => none, (C, T, N), by rw [List.length_replicate], by show cl[102 + ci - 102]? = _; rw [show 102 + ci - 102 = ci by omega]; exact hc, by simp, fun j v hv => ⟨none, by simp [List.getElem?_replicate] at hv; exact hv.2.symm, rfl⟩⟩)))) (zpre_tr hpre (zpre_app _ _)) hK1 hP1 hD1 hS1 (by rw [List.length_append]; simp; omega) (by rw [zsz_app]; simp only [zsz, List.length_replicate]; omega)
    next => cases q

  all_goals first
    | (cases q; done)
    | (exfalso; cases q; done)
end ZSIM
end
section
/-! ===== a whole reading is a run of the machine ===== -/
abbrev zM : Type := MethodName × ByteArray × Nat × Option FieldType × Nat × Nat
/-- words that a contract hands on beside the good ones: links of nest mates, arrays over a class -/
def zbad (w : Cond) : Prop := (∃ a i x h, w = .methodLinkNest a i x h) ∨ ∃ C, w = .arrayOver (.object C)
theorem zbad_warm {w : Cond} (h : zbad w) {s U : State} (hW : s.WarmedH U.vm) (hZ : va_Nw w s) : va_Nw w U := by
  rcases h with ⟨a, i, x, h, rfl⟩ | ⟨C, rfl⟩
  · exact va_Nw.warmM hW hZ
  · exact va_AO.moved hW.alike hZ
theorem zbad_same {w : Cond} (h : zbad w) {u U : State} (hvm : u.vm = U.vm) (hZ : va_Nw w u) : va_Nw w U := by
  rcases h with ⟨a, i, x, h, rfl⟩ | ⟨C, rfl⟩
  · exact va_Nw.same rfl hvm hZ
  · exact va_AO.moved (by rw [hvm]; exact Vm.Alike.refl _) hZ
theorem zbad_of {w : Cond} (h : zbad w) {args : Array Value} {s : State} (hZ : w.before args s = true) : va_Nw w s := by
  rcases h with ⟨a, i, x, h, rfl⟩ | ⟨C, rfl⟩
  · exact va_Nw.of rfl hZ
  · exact va_AO.of hZ
theorem zbad_use {w : Cond} (h : zbad w) {args : Array Value} {s : State} (hZ : va_Nw w s) : w.before args s = true := by
  rcases h with ⟨a, i, x, h, rfl⟩ | ⟨C, rfl⟩
  · exact va_Nw.use rfl hZ
  · exact va_AO.use hZ
def zTk (Ts : List Cond) : Prop := ∀ w ∈ Ts, goodWord w = true ∨ zbad w
/-- what is returned -/
def zRet (ads : List Nat) : Option zV → Option Value → Prop
  | none, rv => rv = none
  | some v, rv => ∃ V, rv = some V ∧ zcR ads v V
def zRI (I : Instr) (rt : Option FieldType) (rv : Option Value) : Prop :=
  (I = .ireturn ∧ ∃ v, rv = some (.int v) ∧ (rt = some .int ∨ (rt = some .boolean ∧ (v = 0 ∨ v = 1)))) ∨
  (I = .lreturn ∧ rt = some .long ∧ ∃ v, rv = some (.long v)) ∨
  (I = .areturn ∧ ∃ V, rv = some V ∧ (V = .null ∨ ∃ a, V = .ref a) ∧ ∃ t, rt = some t ∧ ((∃ n, t = .object n) ∨ ∃ t2, t = .array t2)) ∨
  (I = .return_ ∧ rt = none ∧ rv = none)
def zMth (Ts : List Cond) (own : String) (i : Nat) (y : MethodName) (cd : ByteArray) : Prop := Cond.methodLink own i y ∈ Ts ∧ Cond.static y ∈ Ts ∧ Cond.initialized "java/lang/Math" ∈ Ts ∧ Cond.code y cd 2 (some .int) ∈ Ts
/-- what the tables say of a call -/
def zCal (mt : Nat → Option zM) (Ts : List Cond) (fr lo : Nat) (q n mx : Nat) (y : MethodName) (rt : Option FieldType) : Prop := ∃ by' f2 l2, q ≠ 0 ∧ mt q = some (y, by', mx, rt, f2, l2) ∧ f2 + 1 ≤ fr ∧ 8 + (mx + 11) + l2 ≤ lo ∧ (parseMethodDescriptor y.desc).map (fun d => d.parameters.length) = some n
def zIOK (mt : Nat → Option zM) (cl : List vw_C) (Ts : List Cond) (own : String) (ctor : Bool) (nL : Nat) (rt : Option FieldType) (fr lo : Nat) (cc : ByteArray) (pc : Nat) (I : Instr) (x : List Nat) (c : Int) : Prop := match I with
  | .nop => ∃ mm, x = pc :: mm
  | .goto off => decode cc pc = .ok (.goto off, 3) ∧ ∃ t mm, x = t :: mm ∧ (pc : Int) + off = (t : Int)
  | .ifCond cd off => decode cc pc = .ok (.ifCond cd off, 3) ∧ ∃ t mm, x = t :: mm ∧ (pc : Int) + off = (t : Int)
  | .if_icmp cd off => decode cc pc = .ok (.if_icmp cd off, 3) ∧ ∃ t mm, x = t :: mm ∧ (pc : Int) + off = (t : Int)
  | .ifnull off => decode cc pc = .ok (.ifnull off, 3) ∧ ∃ t mm, x = t :: mm ∧ (pc : Int) + off = (t : Int)
  | .ifnonnull off => decode cc pc = .ok (.ifnonnull off, 3) ∧ ∃ t mm, x = t :: mm ∧ (pc : Int) + off = (t : Int)
  | .tableswitch d lo hi offs => ∃ len, decode cc pc = .ok (.tableswitch d lo hi offs, len) ∧ ∃ n dt rest, x = n :: dt :: rest ∧ (pc : Int) + d = (dt : Int) ∧ ∀ (j t : Nat), (rest.drop n)[j]? = some t → ∃ off, offs[j]? = some off ∧ (pc : Int) + off = (t : Int)
  | .ireturn => decode cc pc = .ok (.ireturn, 1) ∧ ((x = [0] ∧ rt = some .int) ∨ (x = [1] ∧ rt = some .boolean))
  | .lreturn => decode cc pc = .ok (.lreturn, 1) ∧ rt = some .long
  | .areturn => decode cc pc = .ok (.areturn, 1) ∧ ∃ t, rt = some t ∧ ((∃ n, t = .object n) ∨ ∃ t2, t = .array t2)
  | .return_ => decode cc pc = .ok (.return_, 1) ∧ rt = none
  | .invokevirtual i => decode cc pc = .ok (.invokevirtual i, 3) ∧ ∃ q n t mx ci y r2 T N, x = [q, n + 1, t, mx, ci] ∧ zCal mt Ts fr lo q n mx y r2 ∧ cl[ci]? = some (y.cls, T, N) ∧ Cond.methodLink own i y ∈ Ts ∧ Cond.instanceMethod y ∈ Ts ∧ Cond.selects y.cls y y ∈ Ts
  | .invokestatic i => decode cc pc = .ok (.invokestatic i, 3) ∧ ((x = [0] ∧ zMth Ts own i Lib.Math.max.name Lib.Math.max.code ∧ 1 ≤ fr ∧ 21 ≤ lo) ∨ (x = [1] ∧ zMth Ts own i Lib.Math.min.name Lib.Math.min.code ∧ 1 ≤ fr ∧ 21 ≤ lo) ∨ ∃ q n t mx y r2, x = [q, n, t, mx] ∧ zCal mt Ts fr lo q n mx y r2 ∧ (Cond.methodLink own i y ∈ Ts ∨ ∃ host, Cond.methodLinkNest own i y host ∈ Ts) ∧ Cond.static y ∈ Ts)
  | .invokespecial i => decode cc pc = .ok (.invokespecial i, 3) ∧ ((x = [] ∧ Cond.methodLink own i Lib.objectInit ∈ Ts ∧ Cond.instanceMethod Lib.objectInit ∈ Ts ∧ Cond.code Lib.objectInit ⟨#[0xb1]⟩ 1 none ∈ Ts ∧ 1 ≤ fr ∧ 20 ≤ lo) ∨ (∃ q n t mx ci y T N, x = [q, n + 1, t, mx, ci] ∧ zCal mt Ts fr lo q n mx y none ∧ cl[ci]? = some (y.cls, T, N) ∧ (Cond.methodLink own i y ∈ Ts ∨ ∃ host, Cond.methodLinkNest own i y host ∈ Ts) ∧ Cond.instanceMethod y ∈ Ts ∧ y.name = "<init>"))
  | I => zOK cl Ts own ctor nL cc pc I x c
def zBK (mt : Nat → Option zM) (cl : List vw_C) (Ts : List Cond) (own : String) (ctor : Bool) (nL : Nat) (rt : Option FieldType) (fr lo : Nat) (cc : ByteArray) : Nat → List zE → Prop
  | _, [] => True
  | pc, (I, x, c) :: t => zIOK mt cl Ts own ctor nL rt fr lo cc pc I x c ∧ zBK mt cl Ts own ctor nL rt fr lo cc (pc + zlen I) t
def zProg (mt : Nat → Option zM) (B : Nat → Nat → Option (List zE)) (cl : List vw_C) (Ts : List Cond) : Prop := zTk Ts ∧ zCl cl Ts ∧ ∀ (M : Nat) (y : MethodName) (by' : ByteArray) (mL : Nat) (rt : Option FieldType) (fr lo : Nat), mt M = some (y, by', mL, rt, fr, lo) → (y.cls ≠ "java/lang/invoke/MethodHandle" ∧ y.cls ≠ "java/lang/invoke/VarHandle") ∧ plainName y.cls = true ∧ (M ≠ 0 → Cond.code y by' mL rt ∈ Ts ∧ Cond.initialized y.cls ∈ Ts) ∧ ∀ (pc : Nat) (b : List zE), B M pc = some b → zBK mt cl Ts y.cls (y.name == "<init>") mL rt fr lo by' pc b
/-- a method's contract, out of a reading -/
def zPc (Ts : List Cond) (cl : List vw_C) (D : va_G) (xs : List Int) (b : Nat) (tys : List (ClassId × FieldType)) (ws : va_W) (sz : Nat) (avs : List Value) : Array Value → State → Prop := va_Pc avs (fun U => U.heap.size = sz ∧ va_P D cl ws U.heap ∧ va_K D cl tys U ∧ va_D (fun _ => True) ws ∧ va_X b xs.length (zxf xs) U U.heap ∧ b < sz ∧ ¬ va_A ws sz b ∧ ∀ w ∈ Ts, zbad w → va_Nw w U)
def zQc (cl : List vw_C) (D : va_G) (ads : List Nat) (ws : va_W) (sz : Nat) (r : zR) : Array Value → State → Outcome → State → Prop := fun _ st oc t =>
  (∃ rv ads' tys' ws', oc = .returned rv ∧ zRet ads' r.1 rv ∧ zRep cl ads' tys' ws' r.2 ∧ zpre ads ads' ∧ va_P D cl ws' t.heap ∧ va_K D cl tys' t ∧ va_D (va_A ws sz) ws') ∧ va_F (va_A ws sz) st t
def zMet (l : Launch) (cl : List vw_C) (Ts : List Cond) (xs : List Int) (y : MethodName) (by' : ByteArray) (mL : Nat) (rt : Option FieldType) (fr lo : Nat) (vs : List zV) (h : zH) (r : zR) : Prop :=
  ∀ (D : va_G) (ads : List Nat) (b : Nat) (tys : List (ClassId × FieldType)) (ws : va_W) (sz : Nat) (avs : List Value), ads[0]? = some b → zRep cl ads tys ws h → zSt ads vs avs → (zargs vs).length ≤ mL →
    Met l y (Cond.code y by' mL rt :: Ts.filter goodWord) { frames := fr, cells := r.2.length - h.length, slots := zsz r.2 - zsz h, locals := lo } (zPc Ts cl D xs b tys ws sz avs) (zQc cl D ads ws sz r) (r.2.length - h.length) (zsz r.2 - zsz h) (va_A ws sz)
theorem zPc_blind {Ts : List Cond} {cl : List vw_C} {D : va_G} {xs : List Int} {b : Nat} {tys : List (ClassId × FieldType)} {ws : va_W} {sz : Nat} {avs : List Value} : FrameBlind (zPc Ts cl D xs b tys ws sz avs) := by
  rintro a U g mk ⟨h1, h2, h3, h4, h5, h6, h7, h8, h9⟩
  exact ⟨h1, h2, h3, va_K.moved (u := U) (U := U.calling g mk a) (Vm.Alike.refl U.vm) h4, h5, va_X.moved (u := U) (U := U.calling g mk a) (Vm.Alike.refl U.vm) h6, h7, h8, fun w hw hb => zbad_same (u := U) (U := U.calling g mk a) hb rfl (h9 w hw hb)⟩
section ZRUN
variable {p : Program} {l : Launch} {e : Env} {R : Room} {s : State} {m : MethodId} {args : Array Value} {below : List Frame} {meth : Method} {c : Code} {Q : State → Prop}
variable {cc : ByteArray} {nL : Nat} {own : String} {D : va_G} {cl : List vw_C} {A : Nat → Prop} {xs : List Int} {ads0 : List Nat} {n0 z0 : Nat} {Ts : List Cond} {ctor : Bool} {rt0 : Option FieldType}
theorem zAfter {H : Heap} {locs : List Loc} {cells slots mc ms : Nat} {pc : Nat} {ls : Array Slot} {sv rest : List Value} {ads : List Nat} {ws : va_W} {r : zR} {avs : Array Value}
    (hr : va_Run p l e R s m args below meth c H locs cells slots mc ms (F0 m pc ls sv) rest (zQc cl D ads ws H.size r avs) (va_A ws H.size)) (hA : ∀ q, s.heap.size ≤ q → A q) (hS : va_S A s.heap H locs) (hD : va_D A ws)
    (kk : ∀ (rv : Option Value) (ads' : List Nat) (tys' : List (ClassId × FieldType)) (ws' : va_W) (H1 : Heap) (locs1 : List Loc), zRet ads' r.1 rv → zRep cl ads' tys' ws' r.2 → zpre ads ads' → va_K D cl tys' s → va_P D cl ws' H1 → va_D A ws' → va_S A s.heap H1 locs1 → W p l e R s m args below meth c H1 locs1 (cells + mc) (slots + ms) Q (F0 m (pc + 3) ls (rv.toList ++ rest))) : W p l e R s m args below meth c H locs cells slots Q (F0 m pc ls sv) := by
  intro T hT X
  obtain ⟨v, st₀, t, T', L, h0, X', hL, e1, e2, ⟨⟨rv, ads', tys', ws', hv, hrv, hR, hp, hP, hK, hD1⟩, hz, hk⟩, st⟩ := hr T hT X
  cases hv
  rw [h0] at hz hk
  have hf : ∀ q, va_A ws H.size q → A q := fun q hq => by
    rcases hq with ⟨k, ee, hq⟩ | hq
    · exact hD.2 k _ hq
    · exact hA q (Nat.le_trans hS.1 hq)
  obtain ⟨t2, a1, b1⟩ := kk v ads' tys' ws' T'.heap (locs ++ L) hrv hR hp (hK.moved (by rw [← e2]; exact X'.warmed.alike.symm)) (by rw [e1]; exact hP) (hD1.weaken (fun k q _ h => hf q.1 h))
    ⟨Nat.le_trans hS.1 (by rw [e1]; exact hz), fun q h1 h2 => by rw [e1, hk q (Nat.lt_of_lt_of_le h1 hS.1) (fun z => h2 (hf q z))]; exact hS.2.1 q h1 h2, fun q hq => by
      rcases List.mem_append.mp hq with h | h
      · exact hS.2.2 q h
      · exact hf _ (hL q h)⟩ T' rfl X'
  exact ⟨t2, st t2 a1, b1⟩
/-- what comes behind a call -/
theorem zY_sim {pc : Nat} {t : Nat} {o : Option zR} {L : zL} {st : List zV} {k : zL → List zV → zH → Option zR} {res : zR}
    (hk : ∀ L' st' h', k L' st' h' = some res → zSim p l e R s m args below meth c Q nL D cl A ads0 n0 z0 (pc + 3) L' st' h') (q : zY t o L st k = some res) :
    ∃ r1, o = some r1 ∧ (∃ st', k L st' r1.2 = some res) ∧ ∀ (ls : Array Slot) (rest : List Value) (rv : Option Value) (H : Heap) (locs : List Loc) (cells slots : Nat) (ads : List Nat) (tys : List (ClassId × FieldType)) (ws : va_W), zRet ads r1.1 rv → zLo ads nL L ls → zSt ads st rest → zRep cl ads tys ws r1.2 → zpre ads0 ads → va_K D cl tys s → va_P D cl ws H → va_D A ws → va_S A s.heap H locs → cells + n0 = r1.2.length → slots + z0 = zsz r1.2 → W p l e R s m args below meth c H locs cells slots Q (F0 m (pc + 3) ls (rv.toList ++ rest)) := by
  cases o with
  | none => rcases t with _ | _ | _ | _ | t <;> cases q
  | some r1 =>
    obtain ⟨v, h1⟩ := r1
    refine ⟨(v, h1), rfl, ?_⟩
    rcases t with _ | _ | _ | _ | t <;> rcases v with _ | v | v | v <;> simp only [zY, zcv, zci, zcl, zcr] at q <;> first
      | (cases q; done)
      | (refine ⟨⟨_, q⟩, fun ls rest rv H locs cells slots ads tys ws hrv hL hst hR hpre hK hP hD hS hn hz => ?_⟩
         cases hrv
         exact hk _ _ _ q _ _ _ _ _ _ _ _ _ hL hst hR hpre hK hP hD hS hn hz)
      | (refine ⟨⟨_, q⟩, fun ls rest rv H locs cells slots ads tys ws hrv hL hst hR hpre hK hP hD hS hn hz => ?_⟩
         obtain ⟨V, rfl, hV⟩ := hrv
         exact hk _ _ _ q _ _ _ _ _ _ _ _ _ hL ⟨hV, hst⟩ hR hpre hK hP hD hS hn hz)
/-- where a method ends -/
def zFin (p : Program) (l : Launch) (e : Env) (R : Room) (s : State) (m : MethodId) (args : Array Value) (below : List Frame) (meth : Method) (c : Code) (Q : State → Prop) (cc : ByteArray) (rt : Option FieldType) (D : va_G) (cl : List vw_C) (A : Nat → Prop) (ads0 : List Nat) (n0 z0 : Nat) (res : zR) : Prop :=
  ∀ (pc : Nat) (I : Instr) (ls : Array Slot) (rv : Option Value) (H : Heap) (locs : List Loc) (cells slots : Nat) (ads : List Nat) (tys : List (ClassId × FieldType)) (ws : va_W), decode cc pc = .ok (I, 1) → zRI I rt rv → zRet ads res.1 rv → zRep cl ads tys ws res.2 → zpre ads0 ads → va_K D cl tys s → va_P D cl ws H → va_D A ws → va_S A s.heap H locs → cells + n0 = res.2.length → slots + z0 = zsz res.2 → W p l e R s m args below meth c H locs cells slots Q (F0 m pc ls rv.toList)
theorem zPre_of {H : Heap} {locs : List Loc} {tys : List (ClassId × FieldType)} {ws : va_W} {b : Nat} {avs : List Value} (hts : ∀ w ∈ Ts, w.before args s = true) (hX : va_X b xs.length (zxf xs) s s.heap) (hbl : b < s.heap.size) (hbA : ¬ A b) (hA : ∀ q, s.heap.size ≤ q → A q) (hK : va_K D cl tys s) (hP : va_P D cl ws H) (hD : va_D A ws) (hS : va_S A s.heap H locs) (U : State) (hU : U.heap = H) (hW : s.WarmedH U.vm) : zPc Ts cl D xs b tys ws H.size avs avs.toArray U := by
  refine ⟨rfl, by rw [hU], by rw [hU]; exact hP, va_K.moved hW.alike hK, hD.weaken (fun _ _ _ _ => trivial), ?_, Nat.lt_of_lt_of_le hbl hS.1, ?_, fun w hw hb => zbad_warm hb hW (zbad_of hb (hts w hw))⟩
  · rw [hU]
    exact va_X.moved hW.alike (hX.kept (hS.2.1 b hbl hbA))
  · rintro (⟨k, ee, hq⟩ | hq)
    · exact hbA (hD.2 k _ hq)
    · exact absurd (Nat.lt_of_lt_of_le hbl hS.1) (by omega)
theorem zck_some {h : zH} {rr : Option Nat} {ci : Nat} {o : Option zR} {res : zR} (q : zck h rr ci o = some res) : ∃ p c, rr = some (p + 1) ∧ h[p]? = some c ∧ c.1 = ci ∧ o = some res := by
  rcases rr with _ | _ | p
  · cases q
  · cases q
  · unfold zck at q
    dsimp only at q
    cases hc : h[p]? with
    | none => rw [hc] at q; cases q
    | some c =>
      rw [hc] at q
      dsimp only at q
      split at q
      next he => exact ⟨p, c, rfl, hc, he, q⟩
      next => cases q
/-- the receiver under a call's arguments -/
theorem zRecv {ads : List Nat} {tys : List (ClassId × FieldType)} {ws : va_W} {st : List zV} {sv : List Value} {h : zH} {n p' : Nat} {c' : Nat × List zV} (hst : zSt ads st sv) (c1 : n + 1 ≤ st.length) (hR : zRep cl ads tys ws h) (e1 : zrcv (st.take (n + 1)).reverse = some (p' + 1)) (e2 : h[p']? = some c') (ht : c'.1 < 100) :
    ∃ a As fs, ads[p' + 1]? = some a ∧ zSt ads (st.take (n + 1)).reverse (.ref a :: As) ∧ zSt ads (st.drop (n + 1)) (sv.drop (n + 1)) ∧ sv = As.reverse ++ .ref a :: sv.drop (n + 1) ∧ As.length = n ∧ ws[p']? = some (a, .inr (c'.1, fs)) := by
  have hst1 : zSt ads (st.take (n + 1)).reverse (sv.take (n + 1)).reverse := zSt_rev (zSt_take (n + 1) hst).1
  have hst2 := (zSt_take (n + 1) hst).2
  have hlen : (sv.take (n + 1)).reverse.length = n + 1 := by rw [List.length_reverse, List.length_take, zSt_len hst]; omega
  have hsv : sv = (sv.take (n + 1)).reverse.reverse ++ sv.drop (n + 1) := by rw [List.reverse_reverse, List.take_append_drop]
  generalize (st.take (n + 1)).reverse = vs at hst1 e1 ⊢
  generalize (sv.take (n + 1)).reverse = avs at hst1 hlen hsv
  rcases vs with _ | ⟨v, vs⟩
  · cases e1
  rcases avs with _ | ⟨V, As⟩
  · exact hst1.elim
  rcases v with v | v | v
  · cases e1
  · cases e1
  · cases e1
    obtain ⟨⟨a, ha, rfl⟩, h2⟩ := hst1
    obtain ⟨fs, he, -⟩ := zRep_obj hR e2 ht ha
    refine ⟨a, As, fs, ha, ⟨⟨a, ha, rfl⟩, h2⟩, hst2, ?_, by simpa using hlen, he⟩
    rw [List.reverse_cons, List.append_assoc] at hsv
    exact hsv
theorem zX_sim {mt : Nat → Option zM} {rec : Nat → Nat → zL → List zV → zH → Option zR} {fr lo : Nat} (hG : zTk Ts) (hMt : ∀ (q : Nat) (y : MethodName) (by' : ByteArray) (mL : Nat) (rt : Option FieldType) (fr lo : Nat), q ≠ 0 → mt q = some (y, by', mL, rt, fr, lo) → (y.cls ≠ "java/lang/invoke/MethodHandle" ∧ y.cls ≠ "java/lang/invoke/VarHandle") ∧ Cond.code y by' mL rt ∈ Ts ∧ Cond.initialized y.cls ∈ Ts)
    (hMet : ∀ (q : Nat) (y : MethodName) (by' : ByteArray) (mL : Nat) (rt : Option FieldType) (fr lo : Nat) (vs : List zV) (h : zH) (r : zR), mt q = some (y, by', mL, rt, fr, lo) → rec q 0 (zargs vs) [] h = some r → zMet l cl Ts xs y by' mL rt fr lo vs h r)
    (hgr : ∀ m pc L st h r, rec m pc L st h = some r → zge h r.2)
    (C0 : zCtx p s m args meth c cc nL own ctor cl A xs ads0 Ts) (hfr : fr ≤ R.frames) (hlo : lo ≤ R.locals) {pc : Nat} {I : Instr} {x : List Nat} {cv : Int} {L : zL} {st : List zV} {h : zH} {k : zL → List zV → zH → Option zR} {res : zR} (ok : zIOK mt cl Ts own ctor nL rt0 fr lo cc pc I x cv)
    (hI : (∃ i, I = .invokevirtual i) ∨ (∃ i, I = .invokestatic i ∧ x ≠ [0] ∧ x ≠ [1]) ∨ ∃ i, I = .invokespecial i ∧ x ≠ [])
    (hk : ∀ L' st' h', k L' st' h' = some res → zSim p l e R s m args below meth c Q nL D cl A ads0 n0 z0 (pc + 3) L' st' h') (hr : ∀ L' st' h', k L' st' h' = some res → h'.length ≤ R.cells + n0 ∧ zsz h' ≤ R.slots + z0)
    (q : zX rec x L st h k = some res) : zSim p l e R s m args below meth c Q nL D cl A ads0 n0 z0 pc L st h := by
  intro ls sv H locs cells slots ads tys ws hL hst hR hpre hK hP hD hS hn hz
  obtain ⟨hx, hb, hml, hts, hown, hA, hcl, hct, b, hb0, hX, hbl, hbA⟩ := C0
  have hb1 := hpre _ _ hb0
  -- the callee's words
  have words : ∀ (y : MethodName) (by' : ByteArray) (mL : Nat) (rt : Option FieldType), Cond.code y by' mL rt ∈ Ts → GoodIn Ts (Cond.code y by' mL rt :: Ts.filter goodWord) := fun y by' mL rt hc w hw => by
    rcases List.mem_cons.mp hw with rfl | hw
    · refine ⟨hc, (hG _ hc).elim good_of_word (fun hb => ?_)⟩
      rcases hb with ⟨a, i, x, h, hb⟩ | ⟨C, hb⟩ <;> cases hb
    · obtain ⟨h1, h2⟩ := List.mem_filter.mp hw
      exact ⟨h1, good_of_word h2⟩
  -- the run of a callee, and what comes behind it
  have go : ∀ (qm n t mx : Nat) (y : MethodName) (rt : Option FieldType) (rest : List Value) (avs : List Value), zSt ads (st.drop n) rest → zSt ads (st.take n).reverse avs → (zargs (st.take n).reverse).length ≤ mx →
      (∀ (by' : ByteArray) (f2 l2 : Nat) (r1 : zR), mt qm = some (y, by', mx, rt, f2, l2) → r1.2.length ≤ R.cells + n0 → zsz r1.2 ≤ R.slots + z0 → zge h r1.2 → zMet l cl Ts xs y by' mx rt f2 l2 (st.take n).reverse h r1 → va_Run p l e R s m args below meth c H locs cells slots (r1.2.length - h.length) (zsz r1.2 - zsz h) (F0 m pc ls sv) rest (zQc cl D ads ws H.size r1 avs.toArray) (va_A ws H.size)) →
      (∃ by' f2 l2, mt qm = some (y, by', mx, rt, f2, l2)) → zY t (rec qm 0 (zargs (st.take n).reverse) [] h) L (st.drop n) k = some res → W p l e R s m args below meth c H locs cells slots Q (F0 m pc ls sv) := by
    intro qm n t mx y rt rest avs hrest havs hlen run ⟨by', f2, l2, hm⟩ qy
    obtain ⟨r1, h1, ⟨st', h2⟩, h3⟩ := zY_sim hk qy
    obtain ⟨g1, g2⟩ := hr _ _ _ h2
    have hge := hgr _ _ _ _ _ _ h1
    have hM := hMet qm y by' mx rt f2 l2 (st.take n).reverse h r1 hm h1
    refine zAfter (run by' f2 l2 r1 hm g1 g2 hge hM) hA hS hD (fun rv ads' tys' ws' H1 locs1 hrv hR1 hp1 hK1 hP1 hD1 hS1 => ?_)
    exact h3 ls rest rv H1 locs1 _ _ ads' tys' ws' hrv (zLo_pre hp1 hL) (zSt_pre hp1 hrest) hR1 (zpre_tr hpre hp1) hK1 hP1 hD1 hS1 (by have := hge.1; omega) (by have := hge.2; omega)
  have cats : ∀ (n : Nat) (rest : List Value), zSt ads (st.drop n) rest → zcs (st.drop n) ≤ 8 → (rest.map fun v => v.category).sum ≤ 8 := fun n rest h1 h2 => by
    rw [zSt_cat h1]
    exact h2
  rcases hI with ⟨i, rfl⟩ | ⟨i, rfl, hx1, hx2⟩ | ⟨i, rfl, hx0⟩
  · obtain ⟨hd, qm, n, t, mx, ci, y, r2, T, N, rfl, ⟨by', f2, l2, hq0, hm, hf1, hl1, hnp⟩, hc, w1, w2, w3⟩ := ok
    obtain ⟨hy, hcode, hini⟩ := hMt qm y by' mx r2 f2 l2 hq0 hm
    simp only [zX] at q
    split at q
    next hcond =>
      obtain ⟨c1, c2, c3⟩ := hcond
      obtain ⟨p', c', e1, e2, e3, q⟩ := zck_some q
      obtain ⟨a, As, fs, ha, hst1, hst2, hsv, hAs, he⟩ := zRecv hst c1 hR e1 e2 (by rw [e3]; exact (hcl ci _ _ _ hc).2.2.2.2.2)
      rw [e3] at he
      refine go qm (n + 1) t mx y r2 (sv.drop (n + 1)) (.ref a :: As) hst2 hst1 c3 (fun by2 f3 l3 r1 hm2 g1 g2 hge hM => ?_) ⟨by', f2, l2, hm⟩ q
      cases hm.symm.trans hm2
      exact va_runV (As := As) (rest := sv.drop (n + 1)) ⟨hx, hb, hml, hown, hts⟩ (hM D ads b tys ws H.size (.ref a :: As) hb1 hR hst1 c3) (C := y.cls)
        ⟨callB_of n hts (words _ _ _ _ hcode) rfl rfl rfl (hts _ hini) (hts _ w1) ⟨hy.1, hy.2, hnp⟩ ⟨by show f2 + 1 ≤ _; omega, by show 8 + (mx + 11) + l2 ≤ _; omega⟩, hts _ w2, hts _ w3⟩
        ⟨zPc_blind, va_recv hK hP hc he, zPre_of hts hX hbl hbA hA hK hP hD hS⟩ rfl hAs hL.1 hsv (lv_room (cats _ _ hst2 c2)) hd ⟨by have := hge.1; omega, by have := hge.2; omega⟩
    next => cases q
  · obtain ⟨hd, ⟨hbad, -⟩ | ⟨hbad, -⟩ | ⟨qm, n, t, mx, y, r2, rfl, ⟨by', f2, l2, hq0, hm, hf1, hl1, hnp⟩, w1, w2⟩⟩ := ok
    · exact absurd hbad hx1
    · exact absurd hbad hx2
    obtain ⟨hy, hcode, hini⟩ := hMt qm y by' mx r2 f2 l2 hq0 hm
    simp only [zX] at q
    split at q
    next hcond =>
      obtain ⟨c1, c2, c3⟩ := hcond
      have hst1 : zSt ads (st.take n).reverse (sv.take n).reverse := zSt_rev (zSt_take n hst).1
      have hst2 := (zSt_take n hst).2
      have hAs : (sv.take n).reverse.length = n := by rw [List.length_reverse, List.length_take, zSt_len hst]; omega
      refine go qm n t mx y r2 (sv.drop n) (sv.take n).reverse hst2 hst1 c3 (fun by2 f3 l3 r1 hm2 g1 g2 hge hM => ?_) ⟨by', f2, l2, hm⟩ q
      cases hm.symm.trans hm2
      have hsv : sv = (sv.take n).reverse.reverse ++ sv.drop n := by rw [List.reverse_reverse, List.take_append_drop]
      rcases w1 with w1 | ⟨host, w1⟩
      · exact va_runS (As := (sv.take n).reverse) (rest := sv.drop n) ⟨hx, hb, hml, hown, hts⟩ (hM D ads b tys ws H.size _ hb1 hR hst1 c3)
          ⟨callB_of n hts (words _ _ _ _ hcode) rfl rfl rfl (hts _ hini) (hts _ w1) ⟨hy.1, hy.2, hnp⟩ ⟨by show f2 + 1 ≤ _; omega, by show 8 + (mx + 11) + l2 ≤ _; omega⟩, hts _ w2⟩
          ⟨zPc_blind, zPre_of hts hX hbl hbA hA hK hP hD hS⟩ rfl hAs hL.1 hsv (lv_room (cats _ _ hst2 c2)) hd ⟨by have := hge.1; omega, by have := hge.2; omega⟩
      · exact va_runSN (As := (sv.take n).reverse) (rest := sv.drop n) ⟨hx, hb, hml, hown, hts⟩ (hM D ads b tys ws H.size _ hb1 hR hst1 c3)
          ⟨va_cnB n hts (words _ _ _ _ hcode) rfl rfl rfl (va_Nw.of rfl (hts _ w1)) (hts _ hini) ⟨hy.1, hy.2, hnp⟩ ⟨by show f2 + 1 ≤ _; omega, by show 8 + (mx + 11) + l2 ≤ _; omega⟩, hts _ w2, trivial⟩
          ⟨zPc_blind, zPre_of hts hX hbl hbA hA hK hP hD hS⟩ rfl hAs hL.1 hsv (lv_room (cats _ _ hst2 c2)) hd ⟨by have := hge.1; omega, by have := hge.2; omega⟩
    next => cases q
  · obtain ⟨hd, ⟨hbad, -⟩ | ⟨qm, n, t, mx, ci, y, T, N, rfl, ⟨by', f2, l2, hq0, hm, hf1, hl1, hnp⟩, hc, w1, w2, w3⟩⟩ := ok
    · exact absurd hbad hx0
    obtain ⟨hy, hcode, hini⟩ := hMt qm y by' mx none f2 l2 hq0 hm
    simp only [zX] at q
    split at q
    next hcond =>
      obtain ⟨c1, c2, c3⟩ := hcond
      obtain ⟨p', c', e1, e2, e3, q⟩ := zck_some q
      obtain ⟨a, As, fs, ha, hst1, hst2, hsv, hAs, he⟩ := zRecv hst c1 hR e1 e2 (by rw [e3]; exact (hcl ci _ _ _ hc).2.2.2.2.2)
      refine go qm (n + 1) t mx y none (sv.drop (n + 1)) (.ref a :: As) hst2 hst1 c3 (fun by2 f3 l3 r1 hm2 g1 g2 hge hM => ?_) ⟨by', f2, l2, hm⟩ q
      cases hm.symm.trans hm2
      rcases w1 with w1 | ⟨host, w1⟩
      · exact va_runI (As := As) (rest := sv.drop (n + 1)) ⟨hx, hb, hml, hown, hts⟩ (hM D ads b tys ws H.size (.ref a :: As) hb1 hR hst1 c3)
          (cwI n hts (words _ _ _ _ hcode) rfl rfl rfl (hts _ hini) (hts _ w1) (hts _ w2) w3 ⟨hy.1, hy.2, hnp⟩ ⟨by show f2 + 1 ≤ _; omega, by show 8 + (mx + 11) + l2 ≤ _; omega⟩)
          ⟨zPc_blind, zPre_of hts hX hbl hbA hA hK hP hD hS⟩ rfl hAs hL.1 hsv (lv_room (cats _ _ hst2 c2)) hd ⟨by have := hge.1; omega, by have := hge.2; omega⟩
      · exact va_runIN (As := As) (rest := sv.drop (n + 1)) ⟨hx, hb, hml, hown, hts⟩ (hM D ads b tys ws H.size (.ref a :: As) hb1 hR hst1 c3)
          ⟨va_cnB n hts (words _ _ _ _ hcode) rfl rfl rfl (va_Nw.of rfl (hts _ w1)) (hts _ hini) ⟨hy.1, hy.2, hnp⟩ ⟨by show f2 + 1 ≤ _; omega, by show 8 + (mx + 11) + l2 ≤ _; omega⟩, w3, hts _ w2⟩
          ⟨zPc_blind, zPre_of hts hX hbl hbA hA hK hP hD hS⟩ rfl hAs hL.1 hsv (lv_room (cats _ _ hst2 c2)) hd ⟨by have := hge.1; omega, by have := hge.2; omega⟩
    next => cases q
theorem zJ_sim {rec : Nat → zL → List zV → zH → Option zR} {res : zR} (hJ : ∀ pc L st h, rec pc L st h = some res → zSim p l e R s m args below meth c Q nL D cl A ads0 n0 z0 pc L st h) {t : Nat} {mm : List Nat} {L : zL} {st : List zV} {h : zH} (q : zJ rec (t :: mm) L st h = some res) : zSim p l e R s m args below meth c Q nL D cl A ads0 n0 z0 t L st h := by
  intro ls sv H locs cells slots ads tys ws hL hst hR hpre hK hP hD hS hn hz
  exact hJ _ _ _ _ q _ _ _ _ _ _ _ _ _ (zLo_keep hL mm) hst hR hpre hK hP hD hS hn hz
theorem zI_sim {mt : Nat → Option zM} {rec : Nat → Nat → zL → List zV → zH → Option zR} {M fr lo : Nat} (hG : zTk Ts) (hMt : ∀ (q : Nat) (y : MethodName) (by' : ByteArray) (mL : Nat) (rt : Option FieldType) (fr lo : Nat), q ≠ 0 → mt q = some (y, by', mL, rt, fr, lo) → (y.cls ≠ "java/lang/invoke/MethodHandle" ∧ y.cls ≠ "java/lang/invoke/VarHandle") ∧ Cond.code y by' mL rt ∈ Ts ∧ Cond.initialized y.cls ∈ Ts)
    (hMet : ∀ (q : Nat) (y : MethodName) (by' : ByteArray) (mL : Nat) (rt : Option FieldType) (fr lo : Nat) (vs : List zV) (h : zH) (r : zR), mt q = some (y, by', mL, rt, fr, lo) → rec q 0 (zargs vs) [] h = some r → zMet l cl Ts xs y by' mL rt fr lo vs h r)
    (hgr : ∀ m pc L st h r, rec m pc L st h = some r → zge h r.2)
    (C0 : zCtx p s m args meth c cc nL own ctor cl A xs ads0 Ts) (hfr : fr ≤ R.frames) (hlo : lo ≤ R.locals) {res : zR} (hJ : ∀ pc L st h, rec M pc L st h = some res → zSim p l e R s m args below meth c Q nL D cl A ads0 n0 z0 pc L st h) (hF : zFin p l e R s m args below meth c Q cc rt0 D cl A ads0 n0 z0 res)
    {pc : Nat} {I : Instr} {x : List Nat} {cv : Int} {L : zL} {st : List zV} {h : zH} {k : zL → List zV → zH → Option zR} (ok : zIOK mt cl Ts own ctor nL rt0 fr lo cc pc I x cv)
    (hk : ∀ L' st' h', k L' st' h' = some res → zSim p l e R s m args below meth c Q nL D cl A ads0 n0 z0 (pc + zlen I) L' st' h') (hr : ∀ L' st' h', k L' st' h' = some res → h'.length ≤ R.cells + n0 ∧ zsz h' ≤ R.slots + z0)
    (q : zI xs rec M I x cv L st h k = some res) : zSim p l e R s m args below meth c Q nL D cl A ads0 n0 z0 pc L st h := by
  obtain ⟨J, hJ0⟩ : ∃ J, J = I := ⟨I, rfl⟩
  cases I
  case nop =>
    obtain ⟨mm, rfl⟩ := ok
    exact zJ_sim hJ q
  case goto off =>
    obtain ⟨hd, t, mm, rfl, ht⟩ := ok
    obtain ⟨hx, hb, -⟩ := C0
    intro ls sv H locs cells slots ads tys ws hL hst hR hpre hK hP hD hS hn hz
    exact lv_goto hx hb hd ht (zJ_sim hJ q _ _ _ _ _ _ _ _ _ hL hst hR hpre hK hP hD hS hn hz)
  case ifCond cnd off =>
    obtain ⟨hd, t, mm, rfl, ht⟩ := ok
    obtain ⟨hx, hb, -⟩ := C0
    intro ls sv H locs cells slots ads tys ws hL hst hR hpre hK hP hD hS hn hz
    cases cnd <;> rcases st with _ | ⟨a | a | a, st⟩ <;> first | (cases q; done) | skip
    all_goals
      obtain ⟨T1, rfl, hst1⟩ := zSt_i hst
      simp only [zI] at q
    · exact lv_if_eq hx hb hd ht (fun z => by rw [if_pos ((zw_eq0 a).mp z)] at q; exact zJ_sim hJ q _ _ _ _ _ _ _ _ _ hL hst1 hR hpre hK hP hD hS hn hz) (fun z => by rw [if_neg (fun z' => z ((zw_eq0 a).mpr z'))] at q; exact hk _ _ _ q _ _ _ _ _ _ _ _ _ hL hst1 hR hpre hK hP hD hS hn hz)
    · exact lv_if_ne hx hb hd ht (fun z => by rw [if_pos (fun z' => z ((zw_eq0 a).mpr z'))] at q; exact zJ_sim hJ q _ _ _ _ _ _ _ _ _ hL hst1 hR hpre hK hP hD hS hn hz) (fun z => by rw [if_neg (fun z' => z' ((zw_eq0 a).mp z))] at q; exact hk _ _ _ q _ _ _ _ _ _ _ _ _ hL hst1 hR hpre hK hP hD hS hn hz)
    · exact lv_if_lt hx hb hd ht (fun z => by rw [if_pos ((zw_lt0 a).mp z)] at q; exact zJ_sim hJ q _ _ _ _ _ _ _ _ _ hL hst1 hR hpre hK hP hD hS hn hz) (fun z => by rw [if_neg (fun z' => z ((zw_lt0 a).mpr z'))] at q; exact hk _ _ _ q _ _ _ _ _ _ _ _ _ hL hst1 hR hpre hK hP hD hS hn hz)
    · exact lv_if_ge hx hb hd ht (fun z => by rw [if_pos ((zw_ge0 a).mp z)] at q; exact zJ_sim hJ q _ _ _ _ _ _ _ _ _ hL hst1 hR hpre hK hP hD hS hn hz) (fun z => by rw [if_neg (fun z' => z ((zw_ge0 a).mpr z'))] at q; exact hk _ _ _ q _ _ _ _ _ _ _ _ _ hL hst1 hR hpre hK hP hD hS hn hz)
    · exact lv_if_gt hx hb hd ht (fun z => by rw [if_pos ((zw_gt0 a).mp z)] at q; exact zJ_sim hJ q _ _ _ _ _ _ _ _ _ hL hst1 hR hpre hK hP hD hS hn hz) (fun z => by rw [if_neg (fun z' => z ((zw_gt0 a).mpr z'))] at q; exact hk _ _ _ q _ _ _ _ _ _ _ _ _ hL hst1 hR hpre hK hP hD hS hn hz)
    · exact lv_if_le hx hb hd ht (fun z => by rw [if_pos ((zw_le0 a).mp z)] at q; exact zJ_sim hJ q _ _ _ _ _ _ _ _ _ hL hst1 hR hpre hK hP hD hS hn hz) (fun z => by rw [if_neg (fun z' => z ((zw_le0 a).mpr z'))] at q; exact hk _ _ _ q _ _ _ _ _ _ _ _ _ hL hst1 hR hpre hK hP hD hS hn hz)
  case if_icmp cnd off =>
    obtain ⟨hd, t, mm, rfl, ht⟩ := ok
    obtain ⟨hx, hb, -⟩ := C0
    intro ls sv H locs cells slots ads tys ws hL hst hR hpre hK hP hD hS hn hz
    cases cnd <;> rcases st with _ | ⟨b | b | b, _ | ⟨a | a | a, st⟩⟩ <;> first | (cases q; done) | skip
    all_goals
      obtain ⟨T1, rfl, hst1⟩ := zSt_i hst
      obtain ⟨T2, rfl, hst2⟩ := zSt_i hst1
      simp only [zI] at q
    · exact lv_icmp_eq hx hb hd ht (fun z => by rw [if_pos ((zw_eq a b).mp z)] at q; exact zJ_sim hJ q _ _ _ _ _ _ _ _ _ hL hst2 hR hpre hK hP hD hS hn hz) (fun z => by rw [if_neg (fun z' => z ((zw_eq a b).mpr z'))] at q; exact hk _ _ _ q _ _ _ _ _ _ _ _ _ hL hst2 hR hpre hK hP hD hS hn hz)
    · exact lv_icmp_ne hx hb hd ht (fun z => by rw [if_pos (fun z' => z ((zw_eq a b).mpr z'))] at q; exact zJ_sim hJ q _ _ _ _ _ _ _ _ _ hL hst2 hR hpre hK hP hD hS hn hz) (fun z => by rw [if_neg (fun z' => z' ((zw_eq a b).mp z))] at q; exact hk _ _ _ q _ _ _ _ _ _ _ _ _ hL hst2 hR hpre hK hP hD hS hn hz)
    · exact lv_icmp_lt hx hb hd ht (fun z => by rw [if_pos ((zw_lt a b).mp z)] at q; exact zJ_sim hJ q _ _ _ _ _ _ _ _ _ hL hst2 hR hpre hK hP hD hS hn hz) (fun z => by rw [if_neg (fun z' => z ((zw_lt a b).mpr z'))] at q; exact hk _ _ _ q _ _ _ _ _ _ _ _ _ hL hst2 hR hpre hK hP hD hS hn hz)
    · exact lv_icmp_ge hx hb hd ht (fun z => by rw [if_pos ((zw_le b a).mp z)] at q; exact zJ_sim hJ q _ _ _ _ _ _ _ _ _ hL hst2 hR hpre hK hP hD hS hn hz) (fun z => by rw [if_neg (fun z' => z ((zw_le b a).mpr z'))] at q; exact hk _ _ _ q _ _ _ _ _ _ _ _ _ hL hst2 hR hpre hK hP hD hS hn hz)
    · exact lv_icmp_gt hx hb hd ht (fun z => by rw [if_pos ((zw_lt b a).mp z)] at q; exact zJ_sim hJ q _ _ _ _ _ _ _ _ _ hL hst2 hR hpre hK hP hD hS hn hz) (fun z => by rw [if_neg (fun z' => z ((zw_lt b a).mpr z'))] at q; exact hk _ _ _ q _ _ _ _ _ _ _ _ _ hL hst2 hR hpre hK hP hD hS hn hz)
    · exact lv_icmp_le hx hb hd ht (fun z => by rw [if_pos ((zw_le a b).mp z)] at q; exact zJ_sim hJ q _ _ _ _ _ _ _ _ _ hL hst2 hR hpre hK hP hD hS hn hz) (fun z => by rw [if_neg (fun z' => z ((zw_le a b).mpr z'))] at q; exact hk _ _ _ q _ _ _ _ _ _ _ _ _ hL hst2 hR hpre hK hP hD hS hn hz)
  case ifnull off =>
    obtain ⟨hd, t, mm, rfl, ht⟩ := ok
    obtain ⟨hx, hb, -⟩ := C0
    intro ls sv H locs cells slots ads tys ws hL hst hR hpre hK hP hD hS hn hz
    rcases st with _ | ⟨a | a | (_ | a), st⟩ <;> first | (cases q; done) | skip
    · obtain ⟨V, T1, rfl, hV, hst1⟩ := zSt_r hst
      cases hV
      exact lv_ifnullN hx hb hd ht (zJ_sim hJ q _ _ _ _ _ _ _ _ _ hL hst1 hR hpre hK hP hD hS hn hz)
    · obtain ⟨V, T1, rfl, hV, hst1⟩ := zSt_r hst
      obtain ⟨a1, -, rfl⟩ := hV
      exact lv_ifnull hx hb hd (hk _ _ _ q _ _ _ _ _ _ _ _ _ hL hst1 hR hpre hK hP hD hS hn hz)
  case ifnonnull off =>
    obtain ⟨hd, t, mm, rfl, ht⟩ := ok
    obtain ⟨hx, hb, -⟩ := C0
    intro ls sv H locs cells slots ads tys ws hL hst hR hpre hK hP hD hS hn hz
    rcases st with _ | ⟨a | a | (_ | a), st⟩ <;> first | (cases q; done) | skip
    · obtain ⟨V, T1, rfl, hV, hst1⟩ := zSt_r hst
      cases hV
      exact lv_ifnonnullN hx hb hd (hk _ _ _ q _ _ _ _ _ _ _ _ _ hL hst1 hR hpre hK hP hD hS hn hz)
    · obtain ⟨V, T1, rfl, hV, hst1⟩ := zSt_r hst
      obtain ⟨a1, -, rfl⟩ := hV
      exact lv_ifnonnull hx hb hd ht (zJ_sim hJ q _ _ _ _ _ _ _ _ _ hL hst1 hR hpre hK hP hD hS hn hz)
  case tableswitch d2 lo2 hi2 offs =>
    obtain ⟨len, hd, n, dt, rest, rfl, hdt, htg⟩ := ok
    obtain ⟨hx, hb, -⟩ := C0
    intro ls sv H locs cells slots ads tys ws hL hst hR hpre hK hP hD hS hn hz
    rcases st with _ | ⟨a | a | a, st⟩ <;> first | (cases q; done) | skip
    obtain ⟨T1, rfl, hst1⟩ := zSt_i hst
    simp only [zI] at q
    split at q
    next hc => exact lv_tableOut hx hb hd (by rw [zw_toInt]; exact hc) hdt (hJ _ _ _ _ q _ _ _ _ _ _ _ _ _ (zLo_keep hL _) hst1 hR hpre hK hP hD hS hn hz)
    next hc =>
      cases htt : (rest.drop n)[(zw a - lo2).toNat]? with
      | none => rw [htt] at q; cases q
      | some t =>
        rw [htt] at q
        obtain ⟨off, ho1, ho2⟩ := htg _ _ htt
        exact lv_tableIn hx hb hd (by rw [zw_toInt]; omega) (by rw [zw_toInt]; omega) (by rw [zw_toInt]; exact ho1) ho2 (hJ _ _ _ _ q _ _ _ _ _ _ _ _ _ (zLo_keep hL _) hst1 hR hpre hK hP hD hS hn hz)
  case ireturn =>
    obtain ⟨hd, ⟨rfl, hrt⟩ | ⟨rfl, hrt⟩⟩ := ok
    · intro ls sv H locs cells slots ads tys ws hL hst hR hpre hK hP hD hS hn hz
      rcases st with _ | ⟨a | a | a, _ | ⟨b, st⟩⟩ <;> first | (cases q; done) | skip
      cases q
      obtain ⟨T1, rfl, hst1⟩ := zSt_i hst
      rcases T1 with _ | ⟨V, T1⟩
      · exact hF pc _ ls (some (.int (Int32.ofInt a))) H locs cells slots ads tys ws hd (Or.inl ⟨rfl, _, rfl, Or.inl hrt⟩) ⟨_, rfl, rfl⟩ hR hpre hK hP hD hS hn hz
      · exact hst1.elim
    · intro ls sv H locs cells slots ads tys ws hL hst hR hpre hK hP hD hS hn hz
      rcases st with _ | ⟨a | a | a, _ | ⟨b, st⟩⟩ <;> first | (cases q; done) | skip
      simp only [zI] at q
      split at q
      next h01 =>
        cases q
        obtain ⟨T1, rfl, hst1⟩ := zSt_i hst
        rcases T1 with _ | ⟨V, T1⟩
        · exact hF pc _ ls (some (.int (Int32.ofInt a))) H locs cells slots ads tys ws hd (Or.inl ⟨rfl, _, rfl, Or.inr ⟨hrt, by rcases h01 with rfl | rfl; exact Or.inl rfl; exact Or.inr rfl⟩⟩) ⟨_, rfl, rfl⟩ hR hpre hK hP hD hS hn hz
        · exact hst1.elim
      next => cases q
  case lreturn =>
    obtain ⟨hd, hrt⟩ := ok
    intro ls sv H locs cells slots ads tys ws hL hst hR hpre hK hP hD hS hn hz
    rcases st with _ | ⟨a | a | a, _ | ⟨b, st⟩⟩ <;> first | (cases q; done) | skip
    cases q
    obtain ⟨T1, rfl, hst1⟩ := zSt_l hst
    rcases T1 with _ | ⟨V, T1⟩
    · exact hF pc _ ls (some (.long (Int64.ofInt a))) H locs cells slots ads tys ws hd (Or.inr (Or.inl ⟨rfl, hrt, _, rfl⟩)) ⟨_, rfl, rfl⟩ hR hpre hK hP hD hS hn hz
    · exact hst1.elim
  case areturn =>
    obtain ⟨hd, t, hrt, hkt⟩ := ok
    intro ls sv H locs cells slots ads tys ws hL hst hR hpre hK hP hD hS hn hz
    rcases st with _ | ⟨a | a | a, _ | ⟨b, st⟩⟩ <;> first | (cases q; done) | skip
    cases q
    obtain ⟨V, T1, rfl, hV, hst1⟩ := zSt_r hst
    rcases T1 with _ | ⟨V2, T1⟩
    · refine hF pc _ ls (some V) H locs cells slots ads tys ws hd (Or.inr (Or.inr (Or.inl ⟨rfl, V, rfl, ?_, t, hrt, hkt⟩))) ⟨_, rfl, hV⟩ hR hpre hK hP hD hS hn hz
      rcases a with _ | a
      · exact Or.inl hV
      · obtain ⟨a1, -, h2⟩ := hV
        exact Or.inr ⟨a1, h2⟩
    · exact hst1.elim
  case return_ =>
    obtain ⟨hd, hrt⟩ := ok
    intro ls sv H locs cells slots ads tys ws hL hst hR hpre hK hP hD hS hn hz
    rcases st with _ | ⟨a, st⟩ <;> first | (cases q; done) | skip
    cases q
    rcases sv with _ | ⟨V, sv⟩
    · exact hF pc _ ls none H locs cells slots ads tys ws hd (Or.inr (Or.inr (Or.inr ⟨rfl, hrt, rfl⟩))) rfl hR hpre hK hP hD hS hn hz
    · exact hst.elim
  case invokevirtual i => exact zX_sim hG hMt hMet hgr C0 hfr hlo ok (Or.inl ⟨i, rfl⟩) hk hr q
  case invokestatic i =>
    have main : ∀ (a b : Int) (st' : List zV) (v : Int), st = .inl b :: .inl a :: st' → zcs st' ≤ 8 → k L (.inl v :: st') h = some res → 1 ≤ fr → 21 ≤ lo → (∀ (ls : Array Slot) (sv : List Value) (H : Heap) (locs : List Loc) (cells slots : Nat), ls.size = nL → (sv.map fun v => v.category).sum + 13 ≤ R.locals → 1 ≤ R.frames → cells ≤ R.cells → slots ≤ R.slots → W p l e R s m args below meth c H locs cells slots Q (F0 m (pc + 3) ls (.int (Int32.ofInt v) :: sv)) → W p l e R s m args below meth c H locs cells slots Q (F0 m pc ls (.int (Int32.ofInt b) :: .int (Int32.ofInt a) :: sv))) → zSim p l e R s m args below meth c Q nL D cl A ads0 n0 z0 pc L st h := by
      intro a b st' v hst0 hlen q' hf1 hl1 row ls sv H locs cells slots ads tys ws hL hst hR hpre hK hP hD hS hn hz
      subst hst0
      obtain ⟨T1, rfl, hst1⟩ := zSt_i hst
      obtain ⟨T2, rfl, hst2⟩ := zSt_i hst1
      obtain ⟨r1, r2⟩ := hr _ _ _ q'
      have hc := zSt_cat hst2
      exact row ls T2 H locs cells slots hL.1 (by omega) (by omega) (by omega) (by omega) (hk _ _ _ q' _ _ _ _ _ _ _ _ _ hL ⟨rfl, hst2⟩ hR hpre hK hP hD hS hn hz)
    by_cases hx1 : x = [0]
    · subst hx1
      obtain ⟨hd, ⟨-, ⟨w1, w2, w3, w4⟩, hf1, hl1⟩ | ⟨hbad, -⟩ | ⟨_, _, _, _, _, _, hbad, -⟩⟩ := ok
      · obtain ⟨hx, hb, hml, hts, hown, -⟩ := C0
        rcases st with _ | ⟨b | b | b, _ | ⟨a | a | a, st⟩⟩ <;> first | (cases q; done) | skip
        simp only [zI] at q
        split at q
        next hlen =>
          refine main a b st _ rfl hlen q hf1 hl1 (fun ls sv H locs cells slots z1 z2 z3 z4 z5 kk => va_mmax hx hb (by rw [hml]; exact z1.symm) hown (hts _ w1) (hts _ w2) (hts _ w3) (hts _ w4) z3 z2 z4 z5 hd ?_)
          by_cases hlt : zw a < zw b
          · rw [if_pos hlt] at kk
            rw [if_pos ((zw_lt a b).mpr hlt)]
            exact kk
          · rw [if_neg hlt] at kk
            rw [if_neg (fun z => hlt ((zw_lt a b).mp z))]
            exact kk
        next => cases q
      · cases hbad
      · cases hbad
    by_cases hx2 : x = [1]
    · subst hx2
      obtain ⟨hd, ⟨hbad, -⟩ | ⟨-, ⟨w1, w2, w3, w4⟩, hf1, hl1⟩ | ⟨_, _, _, _, _, _, hbad, -⟩⟩ := ok
      · cases hbad
      · obtain ⟨hx, hb, hml, hts, hown, -⟩ := C0
        rcases st with _ | ⟨b | b | b, _ | ⟨a | a | a, st⟩⟩ <;> first | (cases q; done) | skip
        simp only [zI] at q
        split at q
        next hlen =>
          refine main a b st _ rfl hlen q hf1 hl1 (fun ls sv H locs cells slots z1 z2 z3 z4 z5 kk => va_mmin hx hb (by rw [hml]; exact z1.symm) hown (hts _ w1) (hts _ w2) (hts _ w3) (hts _ w4) z3 z2 z4 z5 hd ?_)
          by_cases hlt : zw b < zw a
          · rw [if_pos hlt] at kk
            rw [if_pos ((zw_lt b a).mpr hlt)]
            exact kk
          · rw [if_neg hlt] at kk
            rw [if_neg (fun z => hlt ((zw_lt b a).mp z))]
            exact kk
        next => cases q
      · cases hbad
    have q' : zX rec x L st h k = some res := by
      rcases x with _ | ⟨_ | _ | t, _ | ⟨t2, x⟩⟩ <;> first | exact q | exact absurd rfl hx1 | exact absurd rfl hx2
    exact zX_sim hG hMt hMet hgr C0 hfr hlo ok (Or.inr (Or.inl ⟨i, rfl, hx1, hx2⟩)) hk hr q'
  case invokespecial i =>
    rcases x with _ | ⟨x1, x⟩
    · rcases st with _ | ⟨a | a | (_ | a), _ | ⟨b, st⟩⟩ <;> first | (cases q; done) | skip
      obtain ⟨hd, ⟨-, w1, w2, w3, hf1, hl1⟩ | ⟨_, _, _, _, _, _, _, _, hbad, -⟩⟩ := ok
      · obtain ⟨hx, hb, hml, hts, hown, -⟩ := C0
        intro ls sv H locs cells slots ads tys ws hL hst hR hpre hK hP hD hS hn hz
        obtain ⟨V, T1, rfl, hV, hst1⟩ := zSt_r hst
        obtain ⟨a1, -, rfl⟩ := hV
        rcases T1 with _ | ⟨V2, T1⟩
        · refine W.objInit hx hb hown (hts _ w1) (hts _ w2) (hts _ w3) rfl (by rw [hml]; exact hL.1) rfl hd (by omega) ?_ ?_
          · have := lv_room (m := m) (pc := pc) (ls := ls) (rest := [Value.ref a1]) (st := []) (by simp)
            simp only [List.map_nil, List.sum_nil] at this ⊢
            omega
          · exact hk _ _ _ q _ _ _ _ _ _ _ _ _ hL hst1 hR hpre hK hP hD hS hn hz
        · exact hst1.elim
      · cases hbad
    · exact zX_sim hG hMt hMet hgr C0 hfr hlo ok (Or.inr (Or.inr ⟨i, rfl, by simp⟩)) hk hr q
  all_goals exact zS_arith (x := x) (cv := cv) (L := L) (st := st) (h := h) (k := k) C0 ok hk hr q
end ZRUN
theorem zB_sim {p : Program} {l : Launch} {e : Env} {R : Room} {s : State} {m : MethodId} {args : Array Value} {below : List Frame} {meth : Method} {c : Code} {Q : State → Prop} {cc : ByteArray} {nL : Nat} {own : String} {D : va_G} {cl : List vw_C} {A : Nat → Prop} {xs : List Int} {ads0 : List Nat} {n0 z0 : Nat} {Ts : List Cond} {ctor : Bool} {rt0 : Option FieldType}
    {mt : Nat → Option zM} {rec : Nat → Nat → zL → List zV → zH → Option zR} {M fr lo : Nat} (hG : zTk Ts) (hMt : ∀ (q : Nat) (y : MethodName) (by' : ByteArray) (mL : Nat) (rt : Option FieldType) (fr lo : Nat), q ≠ 0 → mt q = some (y, by', mL, rt, fr, lo) → (y.cls ≠ "java/lang/invoke/MethodHandle" ∧ y.cls ≠ "java/lang/invoke/VarHandle") ∧ Cond.code y by' mL rt ∈ Ts ∧ Cond.initialized y.cls ∈ Ts)
    (hMet : ∀ (q : Nat) (y : MethodName) (by' : ByteArray) (mL : Nat) (rt : Option FieldType) (fr lo : Nat) (vs : List zV) (h : zH) (r : zR), mt q = some (y, by', mL, rt, fr, lo) → rec q 0 (zargs vs) [] h = some r → zMet l cl Ts xs y by' mL rt fr lo vs h r)
    (hgr : ∀ m pc L st h r, rec m pc L st h = some r → zge h r.2)
    (C0 : zCtx p s m args meth c cc nL own ctor cl A xs ads0 Ts) (hfr : fr ≤ R.frames) (hlo : lo ≤ R.locals) {res : zR} (hroom : res.2.length ≤ R.cells + n0 ∧ zsz res.2 ≤ R.slots + z0) (hJ : ∀ pc L st h, rec M pc L st h = some res → zSim p l e R s m args below meth c Q nL D cl A ads0 n0 z0 pc L st h) (hF : zFin p l e R s m args below meth c Q cc rt0 D cl A ads0 n0 z0 res) :
    ∀ (b : List zE) (pc : Nat) (L : zL) (st : List zV) (h : zH), zBK mt cl Ts own ctor nL rt0 fr lo cc pc b → zB xs rec M b L st h = some res → zSim p l e R s m args below meth c Q nL D cl A ads0 n0 z0 pc L st h
  | [], pc, L, st, h, _, q => by cases q
  | (I, x, cv) :: t, pc, L, st, h, ok, q => zI_sim hG hMt hMet hgr C0 hfr hlo hJ hF ok.1 (fun L' st' h' q' => zB_sim hG hMt hMet hgr C0 hfr hlo hroom hJ hF t _ L' st' h' ok.2 q') (fun L' st' h' q' => by
      have := zgrow_B xs rec hgr M res t L' st' h' q'
      exact ⟨Nat.le_trans this.1 hroom.1, Nat.le_trans this.2 hroom.2⟩) q
def zGood (mt : Nat → Option zM) (B : Nat → Nat → Option (List zE)) (cl : List vw_C) (Ts : List Cond) (xs : List Int) (n : Nat) : Prop := ∀ (M : Nat) (y : MethodName) (by' : ByteArray) (mL : Nat) (rt : Option FieldType) (fr lo : Nat), mt M = some (y, by', mL, rt, fr, lo) →
  ∀ (p : Program) (l : Launch) (e : Env) (R : Room) (s : State) (m : MethodId) (args : Array Value) (below : List Frame) (meth : Method) (c : Code) (Q : State → Prop) (D : va_G) (A : Nat → Prop) (ads0 : List Nat) (n0 z0 : Nat) (res : zR), zCtx p s m args meth c by' mL y.cls (y.name == "<init>") cl A xs ads0 Ts → fr ≤ R.frames → lo ≤ R.locals → zFin p l e R s m args below meth c Q by' rt D cl A ads0 n0 z0 res → (res.2.length ≤ R.cells + n0 ∧ zsz res.2 ≤ R.slots + z0) →
  ∀ (pc : Nat) (L : zL) (st : List zV) (h : zH), zrun B xs n M pc L st h = some res → zSim p l e R s m args below meth c Q mL D cl A ads0 n0 z0 pc L st h
theorem zargs_lg {ads : List Nat} : ∀ {vs : List zV} {avs : List Value}, zSt ads vs avs → (lg_sl avs).length = (zargs vs).length
  | [], [], _ => rfl
  | .inl x :: t, V :: T, h => by
    have h1 := zargs_lg h.2
    have h2 := zcR_cat h.1
    simp [lg_sl, h2, zcat, zargs] at h1 ⊢
    exact h1
  | .inr (.inl x) :: t, V :: T, h => by
    have h1 := zargs_lg h.2
    have h2 := zcR_cat h.1
    simp [lg_sl, h2, zcat, zargs] at h1 ⊢
    omega
  | .inr (.inr x) :: t, V :: T, h => by
    have h1 := zargs_lg h.2
    have h2 := zcR_cat h.1
    simp [lg_sl, h2, zcat, zargs] at h1 ⊢
    exact h1
  | [], _ :: _, h => h.elim
  | _ :: _, [], h => h.elim
theorem zargs_lv {ads : List Nat} : ∀ (vs : List zV) (avs : List Value) (k : Nat), zSt ads vs avs → ∀ (i : Nat) (v : zV), (zargs vs)[i]? = some (some v) → ∃ V, (k + i, V) ∈ lv_args k avs ∧ zcR ads v V
  | [], [], k, _, i, v, h => by simp [zargs] at h
  | [], _ :: _, k, hh, i, v, h => hh.elim
  | _ :: _, [], k, hh, i, v, h => hh.elim
  | w :: t, V :: T, k, hh, i, v, h => by
    have h2 := zcR_cat hh.1
    rcases w with w | w | w
    · rcases i with _ | i
      · simp [zargs] at h
        subst h
        exact ⟨V, by simp [lv_args], hh.1⟩
      · simp [zargs] at h
        obtain ⟨V2, e1, e2⟩ := zargs_lv t T (k + 1) hh.2 i v h
        exact ⟨V2, by simp [lv_args, h2, zcat]; rw [show k + (i + 1) = k + 1 + i by omega]; exact e1, e2⟩
    · rcases i with _ | _ | i
      · simp [zargs] at h
        subst h
        exact ⟨V, by simp [lv_args], hh.1⟩
      · simp [zargs] at h
      · simp [zargs] at h
        obtain ⟨V2, e1, e2⟩ := zargs_lv t T (k + 2) hh.2 i v h
        exact ⟨V2, by simp [lv_args, h2, zcat]; rw [show k + (i + 1 + 1) = k + 2 + i by omega]; exact e1, e2⟩
    · rcases i with _ | i
      · simp [zargs] at h
        subst h
        exact ⟨V, by simp [lv_args], hh.1⟩
      · simp [zargs] at h
        obtain ⟨V2, e1, e2⟩ := zargs_lv t T (k + 1) hh.2 i v h
        exact ⟨V2, by simp [lv_args, h2, zcat]; rw [show k + (i + 1) = k + 1 + i by omega]; exact e1, e2⟩
theorem zMet_of {mt : Nat → Option zM} {B : Nat → Nat → Option (List zE)} {cl : List vw_C} {Ts : List Cond} {xs : List Int} (hW : zProg mt B cl Ts) {n : Nat} (ih : zGood mt B cl Ts xs n) (l : Launch) (M : Nat) (y : MethodName) (by' : ByteArray) (mL : Nat) (rt : Option FieldType) (fr lo : Nat) (vs : List zV) (h : zH) (r : zR) (hm : mt M = some (y, by', mL, rt, fr, lo)) (q : zrun B xs n M 0 (zargs vs) [] h = some r) : zMet l cl Ts xs y by' mL rt fr lo vs h r := by
  intro D ads b tys ws sz avs hb0 hR hvs hlen
  obtain ⟨hG, hcl, hW3⟩ := hW
  obtain ⟨hy, hplain, -, -⟩ := hW3 M y by' mL rt fr lo hm
  have hge := zgrow_run B xs n M 0 _ _ _ _ q
  refine Met.ofW (cc := by') (maxL := mL) (ret := rt) hplain rfl ?_
  intro p e s m args below meth c s₁ Bd hml hv
  obtain ⟨rfl, hsz, hP, hK, hD0, hX, hbl, hbA, hbw⟩ := hv
  have hx := Bd.exec
  have hb := Bd.bytes
  have hr := Bd.returns
  have hts : ∀ w ∈ Ts, w.before avs.toArray s = true := fun w hw => by
    rcases hG w hw with hg | hg
    · exact atoms_spec (ws := Cond.code y by' mL rt :: Ts.filter goodWord) Bd.pre w (List.mem_cons_of_mem _ (List.mem_filter.mpr ⟨hw, hg⟩))
    · exact zbad_use hg (hbw w hw hg)
  have hown : s.vm.findClass y.cls = some m.cls := findClass_of_methodNamed Bd.named
  have hlocks := Bd.notSynchronized
  have hin : (y.name == "<init>") = true → meth.name = "<init>" := fun hh => by
    rw [(name_of_methodNamed Bd.named Bd.method).1]
    exact eq_of_beq hh
  subst hsz
  have hD := hD0.self (sz := s.heap.size)
  have hA : ∀ q : Nat, s.heap.size ≤ q → va_A ws s.heap.size q := fun q h => Or.inr h
  rw [lg_entry_eq]
  have hl := lv_entry avs (n := mL) (by rw [zargs_lg hvs]; exact hlen)
  refine ih M y by' mL rt fr lo hm p l e _ s m avs.toArray below meth c _ D (va_A ws s.heap.size) ads h.length (zsz h) r ⟨hx, hb, hml, hts, hown, hA, hcl, hin, b, hb0, hX, hbl, hbA⟩ (Nat.le_refl _) (Nat.le_refl _) ?_ ⟨?_, ?_⟩ 0 (zargs vs) [] h q _ [] _ [] 0 0 ads tys ws ⟨hl.1, hl.2.1, fun i v hv => ?_⟩ trivial hR (zpre_rf _) hK hP hD va_S.rf (Nat.zero_add _) (Nat.zero_add _)
  · intro pc I ls rv H locs cells slots ads' tys' ws' hd hri hret hR' hpre' hK' hP' hD' hS' hn' hz'
    have e1 : cells = r.2.length - h.length := by omega
    have e2 : slots = zsz r.2 - zsz h := by omega
    subst e1
    subst e2
    have post : ∀ t : State, t.heap = H → s.WarmedH t.vm → zQc cl D ads ws s.heap.size r avs.toArray s (.returned rv) t := fun t ht hW => ⟨⟨rv, ads', tys', ws', rfl, hret, hR', hpre', by rw [ht]; exact hP', va_K.moved hW.alike hK', hD'⟩, hS'.F ht⟩
    rcases hri with ⟨rfl, v, rfl, hrt | ⟨hrt, hv⟩⟩ | ⟨rfl, hrt, v, rfl⟩ | ⟨rfl, V, rfl, hV, t, hrt, hkt⟩ | ⟨rfl, hrt, rfl⟩
    · exact W.iret hx hb (by rw [hr, hrt]) post hS'.2.2 hd hlocks
    · exact W.zret (ty := .boolean) hx hb (by rw [hr, hrt]) (by rcases hv with rfl | rfl <;> decide) post hS'.2.2 hd hlocks
    · exact W.lret hx hb (by rw [hr, hrt]) post hS'.2.2 hd hlocks
    · exact W.aret hx hb (by rw [hr, hrt]) hkt hV post hS'.2.2 hd hlocks
    · exact W.vret hx hb (by rw [hr, hrt]) post hS'.2.2 hd hlocks
  · show r.2.length ≤ (r.2.length - h.length) + h.length
    have := hge.1
    omega
  · show zsz r.2 ≤ (zsz r.2 - zsz h) + zsz h
    have := hge.2
    omega
  · obtain ⟨V, e1, e2⟩ := zargs_lv vs avs 0 hvs i v hv
    rw [Nat.zero_add] at e1
    exact ⟨V, hl.2.2 _ e1, e2⟩
theorem zGood_all {mt : Nat → Option zM} {B : Nat → Nat → Option (List zE)} {cl : List vw_C} {Ts : List Cond} {xs : List Int} (hW : zProg mt B cl Ts) : ∀ n, zGood mt B cl Ts xs n := by
  intro n
  induction n with
  | zero =>
    intro M y by' mL rt fr lo hm p l e R s m args below meth c Q D A ads0 n0 z0 res C0 hfr hlo hF hroom pc L st h q
    cases q
  | succ n ih =>
    intro M y by' mL rt fr lo hm p l e R s m args below meth c Q D A ads0 n0 z0 res C0 hfr hlo hF hroom pc L st h q
    rw [zrun] at q
    cases hb : B M pc with
    | none => rw [hb] at q; cases q
    | some b =>
      rw [hb] at q
      have hW3 := hW.2.2
      obtain ⟨-, -, -, hblk⟩ := hW3 M y by' mL rt fr lo hm
      refine zB_sim hW.1 (fun q y by' mL rt fr lo hq0 hq => ?_) (fun q y by' mL rt fr lo vs h r hq hrun => zMet_of hW ih l q y by' mL rt fr lo vs h r hq hrun) (zgrow_run B xs n) C0 hfr hlo hroom (fun pc L st h q' => ih M y by' mL rt fr lo hm p l e R s m args below meth c Q D A ads0 n0 z0 res C0 hfr hlo hF hroom pc L st h q') hF b pc L st h (hblk pc b hb) q
      obtain ⟨h1, -, h2, -⟩ := hW3 q y by' mL rt fr lo hq
      exact ⟨h1, h2 hq0⟩
end
section
/-! ===== the tables are right: what a program can check of them ===== -/
def zcpOK (mt : Nat → Option zM) (cl : List vw_C) (Ts : List Cond) (own : String) (idx : Nat) (e : List Nat) : Prop := match e with
  | [0, ci, j, k, fin] => ∃ (T : u_T) (N : Nat), cl[ci]? = some (own, T, N) ∧ j < N ∧ (T j).1 = own ∧ Cond.fieldLink own idx own (T j).2.1 (T j).2.2.1 ∈ Ts ∧ (∃ ty, parseFieldDescriptor (T j).2.2.1 = some ty ∧ zKd k ty) ∧ (fin = 0 → (T j).2.2.2 = false)
  | [1, q, n, mx, f2, l2, ci] => ∃ y by' rt T N, q ≠ 0 ∧ mt q = some (y, by', mx, rt, f2, l2) ∧ (parseMethodDescriptor y.desc).map (fun d => d.parameters.length) = some n ∧ cl[ci]? = some (y.cls, T, N) ∧ Cond.methodLink own idx y ∈ Ts ∧ Cond.instanceMethod y ∈ Ts ∧ Cond.selects y.cls y y ∈ Ts
  | [2, q, n, mx, f2, l2] => ∃ y by' rt, q ≠ 0 ∧ mt q = some (y, by', mx, rt, f2, l2) ∧ (parseMethodDescriptor y.desc).map (fun d => d.parameters.length) = some n ∧ (Cond.methodLink own idx y ∈ Ts ∨ ∃ host, Cond.methodLinkNest own idx y host ∈ Ts) ∧ Cond.static y ∈ Ts
  | [3, q, n, mx, f2, l2, ci] => ∃ y by' T N, q ≠ 0 ∧ mt q = some (y, by', mx, none, f2, l2) ∧ (parseMethodDescriptor y.desc).map (fun d => d.parameters.length) = some n ∧ cl[ci]? = some (y.cls, T, N) ∧ (Cond.methodLink own idx y ∈ Ts ∨ ∃ host, Cond.methodLinkNest own idx y host ∈ Ts) ∧ Cond.instanceMethod y ∈ Ts ∧ y.name = "<init>"
  | [4] => Cond.methodLink own idx Lib.objectInit ∈ Ts ∧ Cond.instanceMethod Lib.objectInit ∈ Ts ∧ Cond.code Lib.objectInit ⟨#[0xb1]⟩ 1 none ∈ Ts
  | 5 :: ci :: ks => zNw cl Ts own idx ci ks
  | [6, ci] => ∃ C T N, cl[ci]? = some (C, T, N) ∧ Cond.classLink own (idx - 100000) C ∈ Ts ∧ Cond.arrayOver (.object C) ∈ Ts
  | [7, sg, a] => Cond.constant own idx (Int32.ofInt (if sg = 0 then (a : Int) else -(a : Int))) ∈ Ts
  | [8, sg, a] => Cond.constantLong own idx (Int64.ofInt (if sg = 0 then (a : Int) else -(a : Int))) ∈ Ts
  | [9, w] => (w = 0 ∧ zMth Ts own idx Lib.Math.max.name Lib.Math.max.code) ∨ (w = 1 ∧ zMth Ts own idx Lib.Math.min.name Lib.Math.min.code)
  | _ => False
def zfnd (cp : List (Nat × List Nat)) (i : Nat) : List Nat := (cp.lookup i).getD []
def zdec (cc : ByteArray) (pc : Nat) (I : Instr) (n : Nat) : Bool := decide (decode cc pc = .ok (I, n))
/-- a jump's target -/
def zjmp (pc : Nat) (off : Int) (x : List Nat) : Bool := match x with
  | t :: _ => decide ((pc : Int) + off = (t : Int))
  | [] => false
def zck1 (cp : List (Nat × List Nat)) (ctor : Bool) (nL : Nat) (rt : Option FieldType) (fr lo : Nat) (cc : ByteArray) (pc : Nat) (I : Instr) (x : List Nat) (c : Int) : Bool := match I with
  | .nop => match x with | t :: _ => t == pc | [] => false
  | .goto off => zdec cc pc (.goto off) 3 && zjmp pc off x
  | .ifCond cd off => zdec cc pc (.ifCond cd off) 3 && zjmp pc off x
  | .if_icmp cd off => zdec cc pc (.if_icmp cd off) 3 && zjmp pc off x
  | .ifnull off => zdec cc pc (.ifnull off) 3 && zjmp pc off x
  | .ifnonnull off => zdec cc pc (.ifnonnull off) 3 && zjmp pc off x
  | .tableswitch d lo2 hi2 offs => zdec cc pc (.tableswitch d lo2 hi2 offs) c.toNat && (match x with
    | n :: dt :: rest => decide ((pc : Int) + d = (dt : Int)) && (offs.toList.map fun o => (pc : Int) + o) == ((rest.drop n).map fun (t : Nat) => (t : Int))
    | _ => false)
  | .ireturn => zdec cc pc .ireturn 1 && ((x == [0] && decide (rt = some .int)) || (x == [1] && decide (rt = some .boolean)))
  | .lreturn => zdec cc pc .lreturn 1 && decide (rt = some .long)
  | .areturn => zdec cc pc .areturn 1 && (match rt with | some (.object _) => true | some (.array _) => true | _ => false)
  | .return_ => zdec cc pc .return_ 1 && decide (rt = none)
  | .invokevirtual i => zdec cc pc (.invokevirtual i) 3 && (match zfnd cp i, x with | [1, q, n, mx, f2, l2, ci], [q', n', _, mx', ci'] => q == q' && n + 1 == n' && mx == mx' && ci == ci' && decide (f2 + 1 ≤ fr) && decide (8 + (mx + 11) + l2 ≤ lo) | _, _ => false)
  | .invokestatic i => zdec cc pc (.invokestatic i) 3 && (match zfnd cp i, x with | [2, q, n, mx, f2, l2], [q', n', _, mx'] => q == q' && n == n' && mx == mx' && decide (f2 + 1 ≤ fr) && decide (8 + (mx + 11) + l2 ≤ lo) | [9, w], [w'] => w == w' && decide (1 ≤ fr) && decide (21 ≤ lo) | _, _ => false)
  | .invokespecial i => zdec cc pc (.invokespecial i) 3 && (match zfnd cp i, x with | [4], [] => decide (1 ≤ fr) && decide (20 ≤ lo) | [3, q, n, mx, f2, l2, ci], [q', n', _, mx', ci'] => q == q' && n + 1 == n' && mx == mx' && ci == ci' && decide (f2 + 1 ≤ fr) && decide (8 + (mx + 11) + l2 ≤ lo) | _, _ => false)
  | .bipush n => zdec cc pc (.bipush n) 2 && decide (-128 ≤ n) && decide (n ≤ 127)
  | .sipush n => zdec cc pc (.sipush n) 3 && decide (-32768 ≤ n) && decide (n ≤ 32767)
  | .ldc i => zdec cc pc (.ldc i) 2 && (match zfnd cp i with | [7, sg, a] => decide (c = if sg = 0 then (a : Int) else -(a : Int)) | _ => false)
  | .ldc_w i => zdec cc pc (.ldc_w i) 3 && (match zfnd cp i with | [7, sg, a] => decide (c = if sg = 0 then (a : Int) else -(a : Int)) | _ => false)
  | .ldc2_w i => zdec cc pc (.ldc2_w i) 3 && (match zfnd cp i with | [8, sg, a] => decide (c = if sg = 0 then (a : Int) else -(a : Int)) | _ => false)
  | .istore i => zdec cc pc (.istore i) 2 && decide (i < nL)
  | .istore_n i => zdec cc pc (.istore_n i) 1 && decide ((i : Nat) < nL)
  | .astore i => zdec cc pc (.astore i) 2 && decide (i < nL)
  | .astore_n i => zdec cc pc (.astore_n i) 1 && decide ((i : Nat) < nL)
  | .lstore i => zdec cc pc (.lstore i) 2 && decide (i + 1 < nL)
  | .lstore_n i => zdec cc pc (.lstore_n i) 1 && decide ((i : Nat) + 1 < nL)
  | .getfield i => zdec cc pc (.getfield i) 3 && (match zfnd cp i, x with | [0, ci, j, _, _], [ci', j', _] => ci == ci' && j == j' | _, _ => false)
  | .putfield i => zdec cc pc (.putfield i) 3 && (match zfnd cp i, x with | [0, ci, j, k, fin], [ci', j', k'] => ci == ci' && j == j' && k == k' && (fin == 0 || ctor) | _, _ => false)
  | .new i => zdec cc pc (.new i) 3 && (match zfnd cp i with | 5 :: ks => ks == x | _ => false)
  | .newarray t => zdec cc pc (.newarray t) 2 && (x == [0] && decide (t = .int))
  | .anewarray i => zdec cc pc (.anewarray i) 3 && (match zfnd cp (i + 100000) with | [6, ci] => x == [102 + ci] | _ => false)
  | .aaload => zdec cc pc .aaload 1 && (match x with | [t] => decide (102 ≤ t) | _ => false)
  | .aastore => zdec cc pc .aastore 1 && (match x with | [t, ci] => t == 102 + ci | _ => false)
  | I => zdec cc pc I (zlen I)
def zckB (cp : List (Nat × List Nat)) (ctor : Bool) (nL : Nat) (rt : Option FieldType) (fr lo : Nat) (cc : ByteArray) : Nat → List zE → Bool
  | _, [] => true
  | pc, (I, x, c) :: t => zck1 cp ctor nL rt fr lo cc pc I x c && zckB cp ctor nL rt fr lo cc (pc + zlen I) t
theorem zfnd_ok {mt : Nat → Option zM} {cl : List vw_C} {Ts : List Cond} {own : String} {cp : List (Nat × List Nat)} (hcp : ∀ i e, cp.lookup i = some e → zcpOK mt cl Ts own i e) {i n : Nat} {e : List Nat} (h : zfnd cp i = n :: e) : zcpOK mt cl Ts own i (n :: e) := by
  unfold zfnd at h
  cases hl : cp.lookup i with
  | none => rw [hl] at h; cases h
  | some e2 =>
    rw [hl] at h
    simp at h
    subst h
    exact hcp _ _ hl
theorem zdec_ok {cc : ByteArray} {pc n : Nat} {I : Instr} (h : zdec cc pc I n = true) : decode cc pc = .ok (I, n) := of_decide_eq_true h
theorem zjmp_ok {pc : Nat} {off : Int} {x : List Nat} (h : zjmp pc off x = true) : ∃ t mm, x = t :: mm ∧ (pc : Int) + off = (t : Int) := by
  rcases x with _ | ⟨t, x⟩
  · cases h
  · exact ⟨t, x, rfl, of_decide_eq_true h⟩
theorem zck1_ok {mt : Nat → Option zM} {cl : List vw_C} {Ts : List Cond} {own : String} {cp : List (Nat × List Nat)} (hcp : ∀ i e, cp.lookup i = some e → zcpOK mt cl Ts own i e) (hai : Cond.arrayClass .int ∈ Ts) {ctor : Bool} {nL : Nat} {rt : Option FieldType} {fr lo : Nat} {cc : ByteArray} {pc : Nat} {I : Instr} {x : List Nat} {c : Int} (h : zck1 cp ctor nL rt fr lo cc pc I x c = true) : zIOK mt cl Ts own ctor nL rt fr lo cc pc I x c := by
  cases I
  case nop =>
    rcases x with _ | ⟨t, x⟩
    · cases h
    · have := eq_of_beq h
      subst this
      exact ⟨x, rfl⟩
  case goto off => simp only [zck1, Bool.and_eq_true] at h; exact ⟨zdec_ok h.1, zjmp_ok h.2⟩
  case ifCond cd off => simp only [zck1, Bool.and_eq_true] at h; exact ⟨zdec_ok h.1, zjmp_ok h.2⟩
  case if_icmp cd off => simp only [zck1, Bool.and_eq_true] at h; exact ⟨zdec_ok h.1, zjmp_ok h.2⟩
  case ifnull off => simp only [zck1, Bool.and_eq_true] at h; exact ⟨zdec_ok h.1, zjmp_ok h.2⟩
  case ifnonnull off => simp only [zck1, Bool.and_eq_true] at h; exact ⟨zdec_ok h.1, zjmp_ok h.2⟩
  case tableswitch d lo2 hi2 offs =>
    simp only [zck1, Bool.and_eq_true] at h
    obtain ⟨h1, h2⟩ := h
    rcases x with _ | ⟨n, _ | ⟨dt, rest⟩⟩
    · cases h2
    · cases h2
    · simp only [Bool.and_eq_true] at h2
      refine ⟨_, zdec_ok h1, n, dt, rest, rfl, of_decide_eq_true h2.1, fun j t ht => ?_⟩
      have h3 := eq_of_beq h2.2
      have h4 : ((rest.drop n).map fun (t : Nat) => (t : Int))[j]? = some (t : Int) := by rw [List.getElem?_map, ht]; rfl
      rw [← h3, List.getElem?_map] at h4
      cases ho : offs.toList[j]? with
      | none => rw [ho] at h4; cases h4
      | some o =>
        rw [ho] at h4
        refine ⟨o, by rw [← Array.getElem?_toList]; exact ho, ?_⟩
        simpa using h4
  case ireturn =>
    simp only [zck1, Bool.and_eq_true, Bool.or_eq_true, decide_eq_true_eq, beq_iff_eq] at h
    exact ⟨zdec_ok h.1, h.2⟩
  case lreturn =>
    simp only [zck1, Bool.and_eq_true, decide_eq_true_eq] at h
    exact ⟨zdec_ok h.1, h.2⟩
  case areturn =>
    simp only [zck1, Bool.and_eq_true] at h
    refine ⟨zdec_ok h.1, ?_⟩
    have h2 := h.2
    split at h2
    next n => exact ⟨_, rfl, Or.inl ⟨n, rfl⟩⟩
    next t => exact ⟨_, rfl, Or.inr ⟨t, rfl⟩⟩
    next => cases h2
  case return_ =>
    simp only [zck1, Bool.and_eq_true, decide_eq_true_eq] at h
    exact ⟨zdec_ok h.1, h.2⟩
  case invokevirtual i =>
    simp only [zck1, Bool.and_eq_true] at h
    refine ⟨zdec_ok h.1, ?_⟩
    have h2 := h.2
    split at h2
    next q n mx f2 l2 ci q' n' t mx' ci' he =>
      simp only [Bool.and_eq_true, decide_eq_true_eq, beq_iff_eq] at h2
      obtain ⟨⟨⟨⟨⟨rfl, rfl⟩, rfl⟩, rfl⟩, hf⟩, hl⟩ := h2
      obtain ⟨y, by', rt2, T, N, e0, e1, e2, e3, e4, e5, e6⟩ := zfnd_ok hcp he
      exact ⟨q, n, t, mx, ci, y, rt2, T, N, rfl, ⟨by', f2, l2, e0, e1, hf, hl, e2⟩, e3, e4, e5, e6⟩
    next => cases h2
  case invokestatic i =>
    simp only [zck1, Bool.and_eq_true] at h
    refine ⟨zdec_ok h.1, ?_⟩
    have h2 := h.2
    split at h2
    next q n mx f2 l2 q' n' t mx' he =>
      simp only [Bool.and_eq_true, decide_eq_true_eq, beq_iff_eq] at h2
      obtain ⟨⟨⟨⟨rfl, rfl⟩, rfl⟩, hf⟩, hl⟩ := h2
      obtain ⟨y, by', rt2, e0, e1, e2, e3, e4⟩ := zfnd_ok hcp he
      exact Or.inr (Or.inr ⟨q, n, t, mx, y, rt2, rfl, ⟨by', f2, l2, e0, e1, hf, hl, e2⟩, e3, e4⟩)
    next w w' he =>
      simp only [Bool.and_eq_true, decide_eq_true_eq, beq_iff_eq] at h2
      obtain ⟨⟨rfl, hf⟩, hl⟩ := h2
      rcases zfnd_ok hcp he with ⟨rfl, hm⟩ | ⟨rfl, hm⟩
      · exact Or.inl ⟨rfl, hm, hf, hl⟩
      · exact Or.inr (Or.inl ⟨rfl, hm, hf, hl⟩)
    next => cases h2
  case invokespecial i =>
    simp only [zck1, Bool.and_eq_true] at h
    refine ⟨zdec_ok h.1, ?_⟩
    have h2 := h.2
    split at h2
    next he =>
      simp only [Bool.and_eq_true, decide_eq_true_eq] at h2
      obtain ⟨e1, e2, e3⟩ := zfnd_ok hcp he
      exact Or.inl ⟨rfl, e1, e2, e3, h2.1, h2.2⟩
    next q n mx f2 l2 ci q' n' t mx' ci' he =>
      simp only [Bool.and_eq_true, decide_eq_true_eq, beq_iff_eq] at h2
      obtain ⟨⟨⟨⟨⟨rfl, rfl⟩, rfl⟩, rfl⟩, hf⟩, hl⟩ := h2
      obtain ⟨y, by', T, N, e0, e1, e2, e3, e4, e5, e6⟩ := zfnd_ok hcp he
      exact Or.inr ⟨q, n, t, mx, ci, y, T, N, rfl, ⟨by', f2, l2, e0, e1, hf, hl, e2⟩, e3, e4, e5, e6⟩
    next => cases h2
  case bipush n => simp only [zck1, Bool.and_eq_true, decide_eq_true_eq] at h; exact ⟨zdec_ok h.1.1, h.1.2, h.2⟩
  case sipush n => simp only [zck1, Bool.and_eq_true, decide_eq_true_eq] at h; exact ⟨zdec_ok h.1.1, h.1.2, h.2⟩
  case ldc i =>
    simp only [zck1, Bool.and_eq_true] at h
    refine ⟨zdec_ok h.1, ?_⟩
    have h2 := h.2
    split at h2
    next sg a he => rw [of_decide_eq_true h2]; exact zfnd_ok hcp he
    next => cases h2
  case ldc_w i =>
    simp only [zck1, Bool.and_eq_true] at h
    refine ⟨zdec_ok h.1, ?_⟩
    have h2 := h.2
    split at h2
    next sg a he => rw [of_decide_eq_true h2]; exact zfnd_ok hcp he
    next => cases h2
  case ldc2_w i =>
    simp only [zck1, Bool.and_eq_true] at h
    refine ⟨zdec_ok h.1, ?_⟩
    have h2 := h.2
    split at h2
    next sg a he => rw [of_decide_eq_true h2]; exact zfnd_ok hcp he
    next => cases h2
  case istore i => simp only [zck1, Bool.and_eq_true, decide_eq_true_eq] at h; exact ⟨zdec_ok h.1, h.2⟩
  case istore_n i => simp only [zck1, Bool.and_eq_true, decide_eq_true_eq] at h; exact ⟨zdec_ok h.1, h.2⟩
  case astore i => simp only [zck1, Bool.and_eq_true, decide_eq_true_eq] at h; exact ⟨zdec_ok h.1, h.2⟩
  case astore_n i => simp only [zck1, Bool.and_eq_true, decide_eq_true_eq] at h; exact ⟨zdec_ok h.1, h.2⟩
  case lstore i => simp only [zck1, Bool.and_eq_true, decide_eq_true_eq] at h; exact ⟨zdec_ok h.1, h.2⟩
  case lstore_n i => simp only [zck1, Bool.and_eq_true, decide_eq_true_eq] at h; exact ⟨zdec_ok h.1, h.2⟩
  case getfield i =>
    simp only [zck1, Bool.and_eq_true] at h
    refine ⟨zdec_ok h.1, ?_⟩
    have h2 := h.2
    split at h2
    next ci j k fin ci' j' k' he =>
      simp only [Bool.and_eq_true, beq_iff_eq] at h2
      obtain ⟨rfl, rfl⟩ := h2
      obtain ⟨T, N, e1, e2, e3, e4, -⟩ := zfnd_ok hcp he
      exact ⟨ci, j, k', rfl, T, N, e1, e2, e3, e4⟩
    next => cases h2
  case putfield i =>
    simp only [zck1, Bool.and_eq_true] at h
    refine ⟨zdec_ok h.1, ?_⟩
    have h2 := h.2
    split at h2
    next ci j k fin ci' j' k' he =>
      simp only [Bool.and_eq_true, Bool.or_eq_true, beq_iff_eq] at h2
      obtain ⟨⟨⟨rfl, rfl⟩, rfl⟩, hfin⟩ := h2
      obtain ⟨T, N, e1, e2, e3, e4, e5, e6⟩ := zfnd_ok hcp he
      exact ⟨ci, j, k, rfl, T, N, e1, e2, e3, e4, e5, hfin.imp e6 id⟩
    next => cases h2
  case new i =>
    simp only [zck1, Bool.and_eq_true] at h
    refine ⟨zdec_ok h.1, ?_⟩
    have h2 := h.2
    split at h2
    next ks he =>
      have := eq_of_beq h2
      subst this
      have h3 := zfnd_ok hcp he
      rcases ks with _ | ⟨ci, ks⟩
      · exact h3.elim
      · exact ⟨ci, ks, rfl, h3⟩
    next => cases h2
  case newarray t =>
    simp only [zck1, Bool.and_eq_true, decide_eq_true_eq, beq_iff_eq] at h
    refine ⟨zdec_ok h.1, ?_⟩
    obtain ⟨h1, h2⟩ := h.2
    exact Or.inl ⟨h1, h2, hai⟩
  case anewarray i =>
    simp only [zck1, Bool.and_eq_true] at h
    refine ⟨zdec_ok h.1, ?_⟩
    have h2 := h.2
    split at h2
    next ci he =>
      obtain ⟨C, T, N, e1, e2, e3⟩ := zfnd_ok hcp he
      rw [Nat.add_sub_cancel] at e2
      exact ⟨ci, C, T, N, eq_of_beq h2, e1, e2, e3⟩
    next => cases h2
  case aaload =>
    simp only [zck1, Bool.and_eq_true] at h
    refine ⟨zdec_ok h.1, ?_⟩
    have h2 := h.2
    split at h2
    next t => exact ⟨t - 102, by have := of_decide_eq_true h2; simp; omega⟩
    next => cases h2
  case aastore =>
    simp only [zck1, Bool.and_eq_true] at h
    refine ⟨zdec_ok h.1, ?_⟩
    have h2 := h.2
    split at h2
    next t ci => exact ⟨ci, by rw [eq_of_beq h2]⟩
    next => cases h2
  all_goals exact ⟨zdec_ok h, trivial⟩
theorem zckB_ok {mt : Nat → Option zM} {cl : List vw_C} {Ts : List Cond} {own : String} {cp : List (Nat × List Nat)} (hcp : ∀ i e, cp.lookup i = some e → zcpOK mt cl Ts own i e) (hai : Cond.arrayClass .int ∈ Ts) {ctor : Bool} {nL : Nat} {rt : Option FieldType} {fr lo : Nat} {cc : ByteArray} : ∀ {b : List zE} {pc : Nat}, zckB cp ctor nL rt fr lo cc pc b = true → zBK mt cl Ts own ctor nL rt fr lo cc pc b
  | [], _, _ => trivial
  | (I, x, c) :: t, pc, h => by
    simp only [zckB, Bool.and_eq_true] at h
    exact ⟨zck1_ok hcp hai h.1, zckB_ok hcp hai h.2⟩
/-- all blocks of a method -/
def zckM (cp : List (Nat × List Nat)) (ctor : Bool) (nL : Nat) (rt : Option FieldType) (fr lo : Nat) (cc : ByteArray) (bs : List (Nat × List zE)) : Bool := bs.all fun q => zckB cp ctor nL rt fr lo cc q.1 q.2
theorem zlook {α : Type} : ∀ {l : List (Nat × α)} {i : Nat} {e : α}, l.lookup i = some e → (i, e) ∈ l
  | [], _, _, h => by cases h
  | (j, d) :: t, i, e, h => by
    rw [List.lookup_cons] at h
    cases hij : (i == j) with
    | true =>
      rw [hij] at h
      cases h
      rw [eq_of_beq hij]
      exact List.mem_cons_self
    | false =>
      rw [hij] at h
      exact List.mem_cons_of_mem _ (zlook h)
theorem zckM_ok {mt : Nat → Option zM} {cl : List vw_C} {Ts : List Cond} {own : String} {cp : List (Nat × List Nat)} (hcp : ∀ q ∈ cp, zcpOK mt cl Ts own q.1 q.2) (hai : Cond.arrayClass .int ∈ Ts) {ctor : Bool} {nL : Nat} {rt : Option FieldType} {fr lo : Nat} {cc : ByteArray} {bs : List (Nat × List zE)} (h : zckM cp ctor nL rt fr lo cc bs = true) (pc : Nat) (b : List zE) (hb : bs.lookup pc = some b) : zBK mt cl Ts own ctor nL rt fr lo cc pc b :=
  zckB_ok (fun i e he => hcp _ (zlook he)) hai (List.all_eq_true.mp h _ (zlook hb))
end
section
/-! ===== the claim's own code, as the reading has it (printed by a program of mine out of javap's listing; checked in the next part) ===== -/
def zcls : List vw_C := [(RX0, TX0, 3), (RX1, TX1, 2), (RX2, TX2, 2), (RX3, TX3, 2), (RX4, TX4, 2), (RX5, TX5, 4), (RX6, TX6, 14)]
/-- MindReadersLaw.law([I)Z -/
def zc_0 : List (Nat × List zE) := [(0, [(.new 19, [6, 2, 2, 2, 0, 2, 2, 2, 2, 0, 2, 2, 2, 2, 2], 0), (.dup, [], 0), (.invokespecial 35, [43, 1, 0, 2, 6], 0), (.astore_n 1, [], 0), (.bipush 33, [], 0), (.newarray .int, [0], 0), (.astore_n 2, [], 0), (.bipush 49, [], 0), (.newarray .int, [0], 0), (.astore_n 3, [], 0), (.bipush 48, [], 0), (.newarray .int, [0], 0), (.astore 4, [], 0), (.aload_n 1, [], 0), (.aload_n 0, [], 0), (.iconst 0, [], 0), (.aload_n 2, [], 0), (.invokestatic 36, [80, 4, 1, 9], 0), (.ifCond .ne 5, [36, 1, 1, 1, 1, 1], 0), (.iconst 0, [], 0), (.ireturn, [1], 0)]),
  (36, [(.aload_n 0, [], 0), (.bipush 9, [], 0), (.aload_n 3, [], 0), (.aload 4, [], 0), (.invokestatic 40, [81, 4, 1, 11], 0), (.istore 5, [], 0), (.aload_n 1, [], 0), (.aload 4, [], 0), (.iload 5, [], 0), (.invokestatic 44, [82, 3, 1, 4], 0), (.ifCond .eq 10, [65], 0), (.aload_n 1, [], 0), (.invokevirtual 48, [46, 1, 1, 3, 6], 0), (.ifCond .eq 5, [67, 1, 1, 1, 1], 0), (.nop, [65], 0)]),
  (65, [(.iconst 0, [], 0), (.ireturn, [1], 0)]),
  (67, [(.aload_n 0, [], 0), (.bipush 18, [], 0), (.invokestatic 8, [78, 2, 1, 2], 0), (.bipush 6, [], 0), (.invokestatic 14, [79, 2, 1, 2], 0), (.istore 6, [], 0), (.bipush 8, [], 0), (.newarray .int, [0], 0), (.astore 7, [], 0), (.iconst 0, [], 0), (.istore 8, [], 0), (.nop, [89, 1, 1, 1, 1, 0, 0, 1, 1, 1], 0)]),
  (89, [(.iload 8, [], 0), (.iload 6, [], 0), (.if_icmp .ge 46, [139, 1, 1, 1, 1, 0, 0, 1, 1], 0), (.aload 7, [], 0), (.iload 8, [], 0), (.iconst 1, [], 0), (.aload_n 0, [], 0), (.bipush 19, [], 0), (.iload 8, [], 0), (.iadd, [], 0), (.invokestatic 8, [78, 2, 1, 2], 0), (.bipush 99, [], 0), (.invokestatic 14, [79, 2, 1, 2], 0), (.iadd, [], 0), (.iastore, [], 0), (.aload_n 1, [], 0), (.aload 7, [], 0), (.iload 8, [], 0), (.iaload, [], 0), (.invokevirtual 52, [48, 2, 1, 2, 6], 0), (.iload 8, [], 0), (.if_icmp .eq 5, [133, 1, 1, 1, 1, 0, 0, 1, 1, 1], 0), (.iconst 0, [], 0), (.ireturn, [1], 0)]),
  (133, [(.iinc 8 1, [], 0), (.goto (-47), [89, 1, 1, 1, 1, 0, 0, 1, 1, 1], 0)]),
  (139, [(.bipush 12, [], 0), (.newarray .int, [0], 0), (.astore 8, [], 0), (.bipush 12, [], 0), (.newarray .int, [0], 0), (.astore 9, [], 0), (.bipush 99, [], 0), (.istore 10, [], 0), (.iconst (-1), [], 0), (.istore 11, [], 0), (.iconst (-1), [], 0), (.istore 12, [], 0), (.iconst (-1), [], 0), (.istore 13, [], 0), (.iconst (-1), [], 0), (.istore 14, [], 0), (.iconst 0, [], 0), (.istore 15, [], 0), (.nop, [170, 1, 1, 1, 1, 0, 0, 1, 1, 1, 1, 1, 1, 1, 1, 1, 1], 0)]),
  (170, [(.iload 15, [], 0), (.aload_n 3, [], 0), (.iconst 0, [], 0), (.iaload, [], 0), (.if_icmp .ge 385, [560, 1, 1, 1, 1, 0, 0, 1, 1, 0, 0, 1, 1, 1, 1, 1], 0), (.aload_n 2, [], 0), (.aload_n 3, [], 0), (.iload 15, [], 0), (.iconst 0, [], 0), (.aload 8, [], 0), (.invokestatic 56, [84, 5, 0, 5], 0), (.aload_n 1, [], 0), (.iconst 0, [], 0), (.iload 15, [], 0), (.iconst 0, [], 0), (.invokevirtual 60, [49, 4, 1, 5, 6], 0), (.aload_n 3, [], 0), (.iconst 1, [], 0), (.bipush 6, [], 0), (.iload 15, [], 0), (.imul, [], 0), (.iadd, [], 0), (.iaload, [], 0), (.if_icmp .ne 38, [243], 0), (.aload_n 1, [], 0), (.iconst 0, [], 0), (.iload 15, [], 0), (.bipush 10, [], 0), (.invokevirtual 60, [49, 4, 1, 5, 6], 0), (.aload 8, [], 0), (.iconst 0, [], 0), (.iaload, [], 0), (.if_icmp .ne 22, [243], 0), (.aload_n 1, [], 0), (.iconst 0, [], 0), (.iload 15, [], 0), (.bipush 30, [], 0), (.invokevirtual 60, [49, 4, 1, 5, 6], 0), (.aload_n 2, [], 0), (.aload_n 3, [], 0), (.iload 15, [], 0), (.invokestatic 63, [88, 3, 1, 5], 0), (.if_icmp .eq 5, [245, 1, 1, 1, 1, 0, 0, 1, 1, 1, 1, 1, 1, 1, 1, 1, 1], 0), (.nop, [243], 0)]),
  (243, [(.iconst 0, [], 0), (.ireturn, [1], 0)]),
  (245, [(.iconst 1, [], 0), (.istore 16, [], 0), (.nop, [248, 1, 1, 1, 1, 0, 0, 1, 1, 1, 1, 1, 1, 1, 1, 1, 1, 1], 0)]),
  (248, [(.iload 16, [], 0), (.bipush 6, [], 0), (.if_icmp .ge 53, [305, 1, 1, 1, 1, 0, 0, 1, 1, 1, 1, 1, 1, 1, 1, 1, 1], 0), (.aload_n 1, [], 0), (.iconst 0, [], 0), (.iload 15, [], 0), (.iload 16, [], 0), (.invokevirtual 60, [49, 4, 1, 5, 6], 0), (.iload 16, [], 0), (.aload_n 3, [], 0), (.iconst 1, [], 0), (.bipush 6, [], 0), (.iload 15, [], 0), (.imul, [], 0), (.iadd, [], 0), (.iaload, [], 0), (.if_icmp .gt 18, [293, 1, 1, 1, 1, 0, 0, 1, 1, 1, 1, 1, 1, 1, 1, 1, 1, 1], 0), (.aload_n 3, [], 0), (.iconst 1, [], 0), (.bipush 6, [], 0), (.iload 15, [], 0), (.imul, [], 0), (.iadd, [], 0), (.iload 16, [], 0), (.iadd, [], 0), (.iaload, [], 0), (.goto 4, [294, 1, 1, 1, 1, 0, 0, 1, 1, 1, 1, 1, 1, 1, 1, 1, 1, 1], 0)]),
  (293, [(.iconst (-1), [], 0), (.nop, [294, 1, 1, 1, 1, 0, 0, 1, 1, 1, 1, 1, 1, 1, 1, 1, 1, 1], 0)]),
  (294, [(.if_icmp .eq 5, [299, 1, 1, 1, 1, 0, 0, 1, 1, 1, 1, 1, 1, 1, 1, 1, 1, 1], 0), (.iconst 0, [], 0), (.ireturn, [1], 0)]),
  (299, [(.iinc 16 1, [], 0), (.goto (-54), [248, 1, 1, 1, 1, 0, 0, 1, 1, 1, 1, 1, 1, 1, 1, 1, 1, 1], 0)]),
  (305, [(.iconst 1, [], 0), (.istore 16, [], 0), (.nop, [308, 1, 1, 1, 1, 0, 0, 1, 1, 1, 1, 1, 1, 1, 1, 1, 1, 1], 0)]),
  (308, [(.iload 16, [], 0), (.bipush 11, [], 0), (.if_icmp .ge 44, [356, 1, 1, 1, 1, 0, 0, 1, 1, 1, 1, 1, 1, 1, 1, 1, 1], 0), (.aload_n 1, [], 0), (.iconst 0, [], 0), (.iload 15, [], 0), (.bipush 10, [], 0), (.iload 16, [], 0), (.iadd, [], 0), (.invokevirtual 60, [49, 4, 1, 5, 6], 0), (.iload 16, [], 0), (.aload 8, [], 0), (.iconst 0, [], 0), (.iaload, [], 0), (.if_icmp .gt 11, [344, 1, 1, 1, 1, 0, 0, 1, 1, 1, 1, 1, 1, 1, 1, 1, 1, 1], 0), (.aload 8, [], 0), (.iload 16, [], 0), (.iaload, [], 0), (.goto 4, [345, 1, 1, 1, 1, 0, 0, 1, 1, 1, 1, 1, 1, 1, 1, 1, 1, 1], 0)]),
  (344, [(.iconst (-1), [], 0), (.nop, [345, 1, 1, 1, 1, 0, 0, 1, 1, 1, 1, 1, 1, 1, 1, 1, 1, 1], 0)]),
  (345, [(.if_icmp .eq 5, [350, 1, 1, 1, 1, 0, 0, 1, 1, 1, 1, 1, 1, 1, 1, 1, 1, 1], 0), (.iconst 0, [], 0), (.ireturn, [1], 0)]),
  (350, [(.iinc 16 1, [], 0), (.goto (-45), [308, 1, 1, 1, 1, 0, 0, 1, 1, 1, 1, 1, 1, 1, 1, 1, 1, 1], 0)]),
  (356, [(.iconst 0, [], 0), (.istore 16, [], 0), (.nop, [359, 1, 1, 1, 1, 0, 0, 1, 1, 1, 1, 1, 1, 1, 1, 1, 1, 1], 0)]),
  (359, [(.iload 16, [], 0), (.aload_n 3, [], 0), (.iconst 0, [], 0), (.iaload, [], 0), (.if_icmp .ge 190, [554, 1, 1, 1, 1, 0, 0, 1, 1, 1, 1, 1, 1, 1, 1, 1, 1], 0), (.aload_n 2, [], 0), (.aload_n 3, [], 0), (.iload 16, [], 0), (.iconst 0, [], 0), (.aload 9, [], 0), (.invokestatic 56, [84, 5, 0, 5], 0), (.aload 8, [], 0), (.iconst 0, [], 0), (.iaload, [], 0), (.aload 9, [], 0), (.iconst 0, [], 0), (.iaload, [], 0), (.if_icmp .ge 7, [392, 1, 1, 1, 1, 0, 0, 1, 1, 1, 1, 1, 1, 1, 1, 1, 1, 1], 0), (.iconst 1, [], 0), (.goto 4, [393, 1, 1, 1, 1, 0, 0, 1, 1, 1, 1, 1, 1, 1, 1, 1, 1, 1], 0)]),
  (392, [(.iconst 0, [], 0), (.nop, [393, 1, 1, 1, 1, 0, 0, 1, 1, 1, 1, 1, 1, 1, 1, 1, 1, 1], 0)]),
  (393, [(.istore 17, [], 0), (.iconst 0, [], 0), (.istore 18, [], 0), (.iconst 1, [], 0), (.istore 19, [], 0), (.nop, [401, 1, 1, 1, 1, 0, 0, 1, 1, 1, 1, 1, 1, 1, 1, 1, 1, 1, 1, 1, 1], 0)]),
  (401, [(.iload 19, [], 0), (.aload 8, [], 0), (.iconst 0, [], 0), (.iaload, [], 0), (.if_icmp .gt 57, [464, 1, 1, 1, 1, 0, 0, 1, 1, 1, 1, 1, 1, 1, 1, 1, 1, 1, 1, 1], 0), (.iload 19, [], 0), (.aload 9, [], 0), (.iconst 0, [], 0), (.iaload, [], 0), (.if_icmp .gt 48, [464, 1, 1, 1, 1, 0, 0, 1, 1, 1, 1, 1, 1, 1, 1, 1, 1, 1, 1, 1], 0), (.aload 8, [], 0), (.iload 19, [], 0), (.iaload, [], 0), (.aload 9, [], 0), (.iload 19, [], 0), (.iaload, [], 0), (.if_icmp .eq 6, [435, 1, 1, 1, 1, 0, 0, 1, 1, 1, 1, 1, 1, 1, 1, 1, 1, 1, 1, 1, 1], 0), (.iconst 0, [], 0), (.istore 17, [], 0), (.nop, [435, 1, 1, 1, 1, 0, 0, 1, 1, 1, 1, 1, 1, 1, 1, 1, 1, 1, 1, 1, 1], 0)]),
  (435, [(.iload 18, [], 0), (.aload 8, [], 0), (.iload 19, [], 0), (.iaload, [], 0), (.aload 9, [], 0), (.iload 19, [], 0), (.iaload, [], 0), (.if_icmp .ne 7, [454, 1, 1, 1, 1, 0, 0, 1, 1, 1, 1, 1, 1, 1, 1, 1, 1, 1, 1, 0, 1], 0), (.iconst 0, [], 0), (.goto 4, [455, 1, 1, 1, 1, 0, 0, 1, 1, 1, 1, 1, 1, 1, 1, 1, 1, 1, 1, 0, 1], 0)]),
  (454, [(.iconst 1, [], 0), (.nop, [455, 1, 1, 1, 1, 0, 0, 1, 1, 1, 1, 1, 1, 1, 1, 1, 1, 1, 1, 0, 1], 0)]),
  (455, [(.iadd, [], 0), (.istore 18, [], 0), (.iinc 19 1, [], 0), (.goto (-60), [401, 1, 1, 1, 1, 0, 0, 1, 1, 1, 1, 1, 1, 1, 1, 1, 1, 1, 1, 1, 1], 0)]),
  (464, [(.iload 17, [], 0), (.ifCond .eq 16, [482, 1, 1, 1, 1, 0, 0, 1, 1, 1, 1, 1, 1, 1, 1, 1, 1, 1, 0, 1], 0), (.iload 13, [], 0), (.ifCond .ge 11, [482, 1, 1, 1, 1, 0, 0, 1, 1, 1, 1, 1, 1, 1, 1, 1, 1, 1, 0, 1], 0), (.iload 15, [], 0), (.istore 13, [], 0), (.iload 16, [], 0), (.istore 14, [], 0), (.nop, [482, 1, 1, 1, 1, 0, 0, 1, 1, 1, 1, 1, 1, 1, 1, 1, 1, 1, 0, 1], 0)]),
  (482, [(.iload 16, [], 0), (.iload 15, [], 0), (.if_icmp .gt 6, [492, 1, 1, 1, 1, 0, 0, 1, 1, 1, 1, 1, 1, 1, 1, 1, 1, 1, 0, 1], 0), (.goto 59, [548, 1, 1, 1, 1, 0, 0, 1, 1, 1, 1, 1, 1, 1, 1, 1, 1, 1], 0)]),
  (492, [(.aload 8, [], 0), (.aload 9, [], 0), (.invokestatic 67, [85, 2, 1, 4], 0), (.ifCond .eq 16, [515, 1, 1, 1, 1, 0, 0, 1, 1, 1, 1, 1, 1, 1, 1, 1, 1, 1, 0, 1], 0), (.iload 11, [], 0), (.ifCond .ge 11, [515, 1, 1, 1, 1, 0, 0, 1, 1, 1, 1, 1, 1, 1, 1, 1, 1, 1, 0, 1], 0), (.iload 15, [], 0), (.istore 11, [], 0), (.iload 16, [], 0), (.istore 12, [], 0), (.nop, [515, 1, 1, 1, 1, 0, 0, 1, 1, 1, 1, 1, 1, 1, 1, 1, 1, 1, 0, 1], 0)]),
  (515, [(.aload 8, [], 0), (.iconst 0, [], 0), (.iaload, [], 0), (.aload 9, [], 0), (.iconst 0, [], 0), (.iaload, [], 0), (.if_icmp .eq 9, [532, 1, 1, 1, 1, 0, 0, 1, 1, 1, 1, 1, 1, 1, 1, 1, 1, 1, 0, 1], 0), (.iconst (-1), [], 0), (.istore 10, [], 0), (.goto 19, [548, 1, 1, 1, 1, 0, 0, 1, 1, 1, 1, 1, 1, 1, 1, 1, 1, 1], 0)]),
  (532, [(.iload 10, [], 0), (.ifCond .lt 14, [548, 1, 1, 1, 1, 0, 0, 1, 1, 1, 1, 1, 1, 1, 1, 1, 1, 1], 0), (.iload 18, [], 0), (.iload 10, [], 0), (.if_icmp .ge 7, [548, 1, 1, 1, 1, 0, 0, 1, 1, 1, 1, 1, 1, 1, 1, 1, 1, 1], 0), (.iload 18, [], 0), (.istore 10, [], 0), (.nop, [548, 1, 1, 1, 1, 0, 0, 1, 1, 1, 1, 1, 1, 1, 1, 1, 1, 1], 0)]),
  (548, [(.iinc 16 1, [], 0), (.goto (-192), [359, 1, 1, 1, 1, 0, 0, 1, 1, 1, 1, 1, 1, 1, 1, 1, 1, 1], 0)]),
  (554, [(.iinc 15 1, [], 0), (.goto (-387), [170, 1, 1, 1, 1, 0, 0, 1, 1, 1, 1, 1, 1, 1, 1, 1, 1], 0)]),
  (560, [(.aload_n 1, [], 0), (.iconst 0, [], 0), (.iconst 0, [], 0), (.invokevirtual 71, [51, 3, 1, 5, 6], 0), (.iload 11, [], 0), (.ifCond .ge 7, [575, 1, 1, 1, 1, 0, 0, 1, 1, 0, 0, 1, 1, 1, 1, 1], 0), (.iconst 1, [], 0), (.goto 4, [576, 1, 1, 1, 1, 0, 0, 1, 1, 0, 0, 1, 1, 1, 1, 1], 0)]),
  (575, [(.iconst 0, [], 0), (.nop, [576, 1, 1, 1, 1, 0, 0, 1, 1, 0, 0, 1, 1, 1, 1, 1], 0)]),
  (576, [(.if_icmp .ne 68, [644], 0), (.aload_n 1, [], 0), (.iconst 0, [], 0), (.iconst 1, [], 0), (.invokevirtual 71, [51, 3, 1, 5, 6], 0), (.iload 11, [], 0), (.if_icmp .ne 57, [644], 0), (.aload_n 1, [], 0), (.iconst 0, [], 0), (.iconst 2, [], 0), (.invokevirtual 71, [51, 3, 1, 5, 6], 0), (.iload 12, [], 0), (.if_icmp .ne 46, [644], 0), (.aload_n 1, [], 0), (.iconst 0, [], 0), (.iconst 0, [], 0), (.invokevirtual 74, [52, 3, 1, 4, 6], 0), (.iload 13, [], 0), (.if_icmp .ne 35, [644], 0), (.aload_n 1, [], 0), (.iconst 0, [], 0), (.iconst 1, [], 0), (.invokevirtual 74, [52, 3, 1, 4, 6], 0), (.iload 14, [], 0), (.if_icmp .ne 24, [644], 0), (.aload_n 1, [], 0), (.iconst 0, [], 0), (.invokevirtual 77, [57, 2, 1, 3, 6], 0), (.iload 10, [], 0), (.bipush 99, [], 0), (.if_icmp .ne 7, [639, 1, 1, 1, 1, 0, 0, 1, 1, 0, 0, 1], 0), (.iconst (-1), [], 0), (.goto 5, [641, 1, 1, 1, 1, 0, 0, 1, 1], 0)]),
  (639, [(.iload 10, [], 0), (.nop, [641, 1, 1, 1, 1, 0, 0, 1, 1], 0)]),
  (641, [(.if_icmp .eq 5, [646, 1, 1, 1, 1, 0, 0, 1, 1], 0), (.nop, [644], 0)]),
  (644, [(.iconst 0, [], 0), (.ireturn, [1], 0)]),
  (646, [(.aload_n 1, [], 0), (.aload_n 0, [], 0), (.aload_n 2, [], 0), (.aload_n 3, [], 0), (.invokestatic 80, [90, 4, 1, 18], 0), (.ifCond .eq 211, [864], 0), (.aload_n 1, [], 0), (.aload_n 2, [], 0), (.aload_n 3, [], 0), (.invokestatic 84, [91, 3, 1, 19], 0), (.ifCond .eq 202, [864], 0), (.aload_n 1, [], 0), (.aload_n 2, [], 0), (.aload_n 3, [], 0), (.aload 7, [], 0), (.iload 6, [], 0), (.invokestatic 88, [92, 5, 1, 18], 0), (.ifCond .eq 189, [864], 0), (.aload_n 1, [], 0), (.aload_n 0, [], 0), (.aload_n 2, [], 0), (.aload_n 3, [], 0), (.invokestatic 92, [93, 4, 1, 15], 0), (.ifCond .eq 179, [864], 0), (.aload_n 1, [], 0), (.iconst 0, [], 0), (.aload_n 3, [], 0), (.iconst 0, [], 0), (.iaload, [], 0), (.iconst 0, [], 0), (.invokevirtual 60, [49, 4, 1, 5, 6], 0), (.bipush (-101), [], 0), (.if_icmp .ne 165, [864], 0), (.aload_n 1, [], 0), (.iconst 1, [], 0), (.iconst 0, [], 0), (.iconst 0, [], 0), (.invokevirtual 60, [49, 4, 1, 5, 6], 0), (.bipush (-101), [], 0), (.if_icmp .ne 153, [864], 0), (.aload_n 1, [], 0), (.iconst 0, [], 0), (.iconst 0, [], 0), (.bipush 6, [], 0), (.invokevirtual 60, [49, 4, 1, 5, 6], 0), (.bipush (-102), [], 0), (.if_icmp .ne 140, [864], 0), (.aload_n 1, [], 0), (.iconst 0, [], 0), (.iconst 0, [], 0), (.bipush 21, [], 0), (.invokevirtual 60, [49, 4, 1, 5, 6], 0), (.bipush (-102), [], 0), (.if_icmp .ne 127, [864], 0), (.aload_n 1, [], 0), (.iconst 0, [], 0), (.iconst 3, [], 0), (.invokevirtual 71, [51, 3, 1, 5, 6], 0), (.bipush (-102), [], 0), (.if_icmp .ne 116, [864], 0), (.aload_n 1, [], 0), (.iconst 1, [], 0), (.iconst 0, [], 0), (.invokevirtual 71, [51, 3, 1, 5, 6], 0), (.bipush (-101), [], 0), (.if_icmp .ne 105, [864], 0), (.aload_n 1, [], 0), (.iconst 0, [], 0), (.iconst 2, [], 0), (.invokevirtual 74, [52, 3, 1, 4, 6], 0), (.bipush (-102), [], 0), (.if_icmp .ne 94, [864], 0), (.aload_n 1, [], 0), (.iconst 1, [], 0), (.invokevirtual 77, [57, 2, 1, 3, 6], 0), (.bipush (-101), [], 0), (.if_icmp .ne 84, [864], 0), (.aload_n 1, [], 0), (.iconst (-1), [], 0), (.invokevirtual 95, [53, 2, 1, 3, 6], 0), (.bipush (-101), [], 0), (.if_icmp .ne 74, [864], 0), (.aload_n 1, [], 0), (.iconst 0, [], 0), (.sipush 256, [], 0), (.invokevirtual 97, [59, 3, 1, 4, 6], 0), (.bipush (-102), [], 0), (.if_icmp .ne 61, [864], 0), (.aload_n 1, [], 0), (.iconst 1, [], 0), (.invokevirtual 100, [60, 2, 1, 5, 6], 0), (.bipush (-101), [], 0), (.if_icmp .ne 51, [864], 0), (.aload_n 1, [], 0), (.iconst 0, [], 0), (.iconst 2, [], 0), (.invokevirtual 103, [54, 3, 1, 8, 6], 0), (.bipush (-102), [], 0), (.if_icmp .ne 40, [864], 0), (.aload_n 1, [], 0), (.iconst 0, [], 0), (.bipush 18, [], 0), (.invokevirtual 106, [56, 3, 1, 8, 6], 0), (.bipush (-102), [], 0), (.if_icmp .ne 28, [864], 0), (.aload_n 1, [], 0), (.iconst 0, [], 0), (.iconst 2, [], 0), (.invokevirtual 106, [56, 3, 1, 8, 6], 0), (.bipush (-102), [], 0), (.if_icmp .ne 17, [864], 0), (.aload_n 1, [], 0), (.iconst 1, [], 0), (.invokevirtual 109, [55, 2, 1, 6, 6], 0), (.bipush (-101), [], 0), (.if_icmp .ne 7, [864], 0), (.iconst 1, [], 0), (.goto 4, [865], 0)]),
  (864, [(.iconst 0, [], 0), (.nop, [865], 0)]),
  (865, [(.ireturn, [1], 0)])]
/-- MindReaders$Code.<init>()V -/
def zc_1 : List (Nat × List zE) := [(0, [(.aload_n 0, [], 0), (.invokespecial 3, [], 0), (.aload_n 0, [], 0), (.new 9, [4, 2, 2], 0), (.dup, [], 0), (.bipush 8, [], 0), (.iconst 5, [], 0), (.invokespecial 11, [29, 3, 0, 4, 4], 0), (.putfield 14, [0, 0, 2], 0), (.aload_n 0, [], 0), (.new 9, [4, 2, 2], 0), (.dup, [], 0), (.bipush 8, [], 0), (.bipush 10, [], 0), (.invokespecial 11, [29, 3, 0, 4, 4], 0), (.putfield 20, [0, 1, 2], 0), (.return_, [], 0)])]
/-- MindReaders$Code.size()I -/
def zc_2 : List (Nat × List zE) := [(0, [(.aload_n 0, [], 0), (.getfield 23, [0, 2, 0], 0), (.ireturn, [0], 0)])]
/-- MindReaders$Code.spoken(I)LMindReaders$Row; -/
def zc_3 : List (Nat × List zE) := [(0, [(.aload_n 0, [], 0), (.getfield 14, [0, 0, 2], 0), (.iload_n 1, [], 0), (.invokevirtual 27, [30, 2, 3, 3, 4], 0), (.areturn, [], 0)])]
/-- MindReaders$Code.plain(I)LMindReaders$Row; -/
def zc_4 : List (Nat × List zE) := [(0, [(.aload_n 0, [], 0), (.getfield 20, [0, 1, 2], 0), (.iload_n 1, [], 0), (.invokevirtual 27, [30, 2, 3, 3, 4], 0), (.areturn, [], 0)])]
/-- MindReaders$Code.readFrom(LMindReaders$Row;)V -/
def zc_5 : List (Nat × List zE) := [(0, [(.aload_n 0, [], 0), (.iconst 1, [], 0), (.putfield 23, [0, 2, 0], 0), (.iconst 0, [], 0), (.istore_n 2, [], 0), (.nop, [7, 1, 1, 1], 0)]),
  (7, [(.iload_n 2, [], 0), (.aload_n 1, [], 0), (.invokevirtual 31, [19, 1, 1, 1, 3], 0), (.if_icmp .ge 50, [62], 0), (.aload_n 1, [], 0), (.iload_n 2, [], 0), (.invokevirtual 36, [20, 2, 1, 2, 3], 0), (.invokestatic 40, [63, 1, 1, 1], 0), (.istore_n 3, [], 0), (.iload_n 3, [], 0), (.iconst (-1), [], 0), (.if_icmp .ne 16, [42, 1, 1, 1, 1], 0), (.aload_n 0, [], 0), (.dup, [], 0), (.getfield 23, [0, 2, 0], 0), (.iconst 1, [], 0), (.iadd, [], 0), (.putfield 23, [0, 2, 0], 0), (.goto 17, [56, 1, 1, 1], 0)]),
  (42, [(.aload_n 0, [], 0), (.aload_n 0, [], 0), (.getfield 23, [0, 2, 0], 0), (.iconst 1, [], 0), (.isub, [], 0), (.invokevirtual 43, [3, 2, 3, 2, 0], 0), (.iload_n 3, [], 0), (.invokevirtual 45, [22, 2, 0, 2, 3], 0), (.nop, [56, 1, 1, 1], 0)]),
  (56, [(.iinc 2 1, [], 0), (.goto (-52), [7, 1, 1, 1], 0)]),
  (62, [(.return_, [], 0)])]
/-- MindReaders$Code.makePlain(LMindReaders$Signals;)V -/
def zc_6 : List (Nat × List zE) := [(0, [(.iconst 0, [], 0), (.istore_n 2, [], 0), (.nop, [2, 1, 1, 1], 0)]),
  (2, [(.iload_n 2, [], 0), (.aload_n 0, [], 0), (.getfield 23, [0, 2, 0], 0), (.if_icmp .ge 24, [31], 0), (.aload_n 1, [], 0), (.aload_n 0, [], 0), (.iload_n 2, [], 0), (.invokevirtual 43, [3, 2, 3, 2, 0], 0), (.iconst 0, [], 0), (.aload_n 0, [], 0), (.iload_n 2, [], 0), (.invokevirtual 49, [4, 2, 3, 2, 0], 0), (.invokevirtual 51, [42, 4, 0, 7, 5], 0), (.iinc 2 1, [], 0), (.goto (-26), [2, 1, 1, 1], 0)]),
  (31, [(.return_, [], 0)])]
/-- MindReaders$Code.meaningOf(LMindReaders$Row;)I -/
def zc_7 : List (Nat × List zE) := [(0, [(.iconst 0, [], 0), (.istore_n 2, [], 0), (.nop, [2, 1, 1, 1], 0)]),
  (2, [(.iload_n 2, [], 0), (.aload_n 0, [], 0), (.getfield 23, [0, 2, 0], 0), (.if_icmp .ge 23, [30], 0), (.aload_n 0, [], 0), (.iload_n 2, [], 0), (.invokevirtual 49, [4, 2, 3, 2, 0], 0), (.aload_n 1, [], 0), (.invokevirtual 57, [25, 2, 1, 2, 3], 0), (.ifCond .eq 5, [24, 1, 1, 1], 0), (.iload_n 2, [], 0), (.ireturn, [0], 0)]),
  (24, [(.iinc 2 1, [], 0), (.goto (-25), [2, 1, 1, 1], 0)]),
  (30, [(.iconst (-1), [], 0), (.ireturn, [0], 0)])]
/-- MindReaders$Code.firstAlike()I -/
def zc_8 : List (Nat × List zE) := [(0, [(.iconst 0, [], 0), (.istore_n 1, [], 0), (.nop, [2, 1, 1], 0)]),
  (2, [(.iload_n 1, [], 0), (.aload_n 0, [], 0), (.getfield 23, [0, 2, 0], 0), (.if_icmp .ge 50, [57], 0), (.iload_n 1, [], 0), (.iconst 1, [], 0), (.iadd, [], 0), (.istore_n 2, [], 0), (.nop, [14, 1, 1, 1], 0)]),
  (14, [(.iload_n 2, [], 0), (.aload_n 0, [], 0), (.getfield 23, [0, 2, 0], 0), (.if_icmp .ge 32, [51, 1, 1], 0), (.aload_n 0, [], 0), (.iload_n 1, [], 0), (.invokevirtual 49, [4, 2, 3, 2, 0], 0), (.aload_n 0, [], 0), (.iload_n 2, [], 0), (.invokevirtual 49, [4, 2, 3, 2, 0], 0), (.invokevirtual 57, [25, 2, 1, 2, 3], 0), (.ifCond .eq 10, [45, 1, 1, 1], 0), (.iload_n 1, [], 0), (.bipush 8, [], 0), (.imul, [], 0), (.iload_n 2, [], 0), (.iadd, [], 0), (.ireturn, [0], 0)]),
  (45, [(.iinc 2 1, [], 0), (.goto (-34), [14, 1, 1, 1], 0)]),
  (51, [(.iinc 1 1, [], 0), (.goto (-52), [2, 1, 1], 0)]),
  (57, [(.iconst (-1), [], 0), (.ireturn, [0], 0)])]
/-- MindReaders$Code.firstStart()I -/
def zc_9 : List (Nat × List zE) := [(0, [(.iconst 0, [], 0), (.istore_n 1, [], 0), (.nop, [2, 1, 1], 0)]),
  (2, [(.iload_n 1, [], 0), (.aload_n 0, [], 0), (.getfield 23, [0, 2, 0], 0), (.if_icmp .ge 67, [74], 0), (.iconst 0, [], 0), (.istore_n 2, [], 0), (.nop, [12, 1, 1, 1], 0)]),
  (12, [(.iload_n 2, [], 0), (.aload_n 0, [], 0), (.getfield 23, [0, 2, 0], 0), (.if_icmp .ge 51, [68, 1, 1], 0), (.aload_n 0, [], 0), (.iload_n 1, [], 0), (.invokevirtual 49, [4, 2, 3, 2, 0], 0), (.invokevirtual 31, [19, 1, 1, 1, 3], 0), (.aload_n 0, [], 0), (.iload_n 2, [], 0), (.invokevirtual 49, [4, 2, 3, 2, 0], 0), (.invokevirtual 31, [19, 1, 1, 1, 3], 0), (.if_icmp .ge 26, [62, 1, 1, 1], 0), (.aload_n 0, [], 0), (.iload_n 1, [], 0), (.invokevirtual 49, [4, 2, 3, 2, 0], 0), (.aload_n 0, [], 0), (.iload_n 2, [], 0), (.invokevirtual 49, [4, 2, 3, 2, 0], 0), (.invokevirtual 61, [26, 2, 1, 3, 3], 0), (.ifCond .eq 10, [62, 1, 1, 1], 0), (.iload_n 1, [], 0), (.bipush 8, [], 0), (.imul, [], 0), (.iload_n 2, [], 0), (.iadd, [], 0), (.ireturn, [0], 0)]),
  (62, [(.iinc 2 1, [], 0), (.goto (-53), [12, 1, 1, 1], 0)]),
  (68, [(.iinc 1 1, [], 0), (.goto (-69), [2, 1, 1], 0)]),
  (74, [(.iconst (-1), [], 0), (.ireturn, [0], 0)])]
/-- MindReaders$Code.leastApart()I -/
def zc_10 : List (Nat × List zE) := [(0, [(.iconst (-1), [], 0), (.istore_n 1, [], 0), (.iconst 0, [], 0), (.istore_n 2, [], 0), (.nop, [4, 1, 1, 1], 0)]),
  (4, [(.iload_n 2, [], 0), (.aload_n 0, [], 0), (.getfield 23, [0, 2, 0], 0), (.if_icmp .ge 72, [81, 0, 1], 0), (.aload_n 0, [], 0), (.iload_n 2, [], 0), (.invokevirtual 49, [4, 2, 3, 2, 0], 0), (.invokevirtual 31, [19, 1, 1, 1, 3], 0), (.aload_n 0, [], 0), (.iconst 0, [], 0), (.invokevirtual 49, [4, 2, 3, 2, 0], 0), (.invokevirtual 31, [19, 1, 1, 1, 3], 0), (.if_icmp .eq 5, [33, 1, 1, 1], 0), (.iconst (-1), [], 0), (.ireturn, [0], 0)]),
  (33, [(.iconst 0, [], 0), (.istore_n 3, [], 0), (.nop, [35, 1, 1, 1, 1], 0)]),
  (35, [(.iload_n 3, [], 0), (.iload_n 2, [], 0), (.if_icmp .ge 38, [75, 1, 1, 1], 0), (.aload_n 0, [], 0), (.iload_n 2, [], 0), (.invokevirtual 49, [4, 2, 3, 2, 0], 0), (.aload_n 0, [], 0), (.iload_n 3, [], 0), (.invokevirtual 49, [4, 2, 3, 2, 0], 0), (.invokevirtual 64, [27, 2, 1, 4, 3], 0), (.istore 4, [], 0), (.iload_n 1, [], 0), (.iconst (-1), [], 0), (.if_icmp .eq 9, [66, 1, 0, 1, 1, 1], 0), (.iload 4, [], 0), (.iload_n 1, [], 0), (.if_icmp .ge 6, [69, 1, 1, 1, 1], 0), (.nop, [66, 1, 0, 1, 1, 1], 0)]),
  (66, [(.iload 4, [], 0), (.istore_n 1, [], 0), (.nop, [69, 1, 1, 1, 1], 0)]),
  (69, [(.iinc 3 1, [], 0), (.goto (-37), [35, 1, 1, 1, 1], 0)]),
  (75, [(.iinc 2 1, [], 0), (.goto (-74), [4, 1, 1, 1], 0)]),
  (81, [(.iload_n 1, [], 0), (.ireturn, [0], 0)])]
/-- MindReaders$Code.nearestTo(LMindReaders$Row;)I -/
def zc_11 : List (Nat × List zE) := [(0, [(.iconst (-1), [], 0), (.istore_n 2, [], 0), (.iconst 0, [], 0), (.istore_n 3, [], 0), (.iconst 0, [], 0), (.istore 4, [], 0), (.nop, [7, 1, 1, 1, 1, 1], 0)]),
  (7, [(.iload 4, [], 0), (.aload_n 0, [], 0), (.getfield 23, [0, 2, 0], 0), (.if_icmp .ge 57, [70, 0, 0, 1], 0), (.aload_n 0, [], 0), (.iload 4, [], 0), (.invokevirtual 49, [4, 2, 3, 2, 0], 0), (.invokevirtual 31, [19, 1, 1, 1, 3], 0), (.aload_n 1, [], 0), (.invokevirtual 31, [19, 1, 1, 1, 3], 0), (.if_icmp .eq 6, [35, 1, 1, 1, 1, 1], 0), (.goto 32, [64, 1, 1, 1, 1, 1], 0)]),
  (35, [(.aload_n 0, [], 0), (.iload 4, [], 0), (.invokevirtual 49, [4, 2, 3, 2, 0], 0), (.aload_n 1, [], 0), (.invokevirtual 64, [27, 2, 1, 4, 3], 0), (.istore 5, [], 0), (.iload_n 2, [], 0), (.iconst (-1), [], 0), (.if_icmp .eq 9, [58, 1, 1, 0, 0, 1, 1], 0), (.iload 5, [], 0), (.iload_n 3, [], 0), (.if_icmp .ge 9, [64, 1, 1, 1, 1, 1], 0), (.nop, [58, 1, 1, 0, 0, 1, 1], 0)]),
  (58, [(.iload 4, [], 0), (.istore_n 2, [], 0), (.iload 5, [], 0), (.istore_n 3, [], 0), (.nop, [64, 1, 1, 1, 1, 1], 0)]),
  (64, [(.iinc 4 1, [], 0), (.goto (-60), [7, 1, 1, 1, 1, 1], 0)]),
  (70, [(.iload_n 2, [], 0), (.ireturn, [0], 0)])]
/-- MindReaders$Notes.<init>()V -/
def zc_12 : List (Nat × List zE) := [(0, [(.aload_n 0, [], 0), (.invokespecial 3, [], 0), (.aload_n 0, [], 0), (.new 9, [3, 2, 0], 0), (.dup, [], 0), (.bipush 10, [], 0), (.invokespecial 11, [18, 2, 0, 2, 3], 0), (.putfield 14, [1, 0, 2], 0), (.aload_n 0, [], 0), (.new 20, [4, 2, 2], 0), (.dup, [], 0), (.bipush 10, [], 0), (.bipush 8, [], 0), (.invokespecial 22, [29, 3, 0, 4, 4], 0), (.putfield 25, [1, 1, 2], 0), (.return_, [], 0)])]
/-- MindReaders$Readings.<init>()V -/
def zc_13 : List (Nat × List zE) := [(0, [(.aload_n 0, [], 0), (.invokespecial 3, [], 0), (.aload_n 0, [], 0), (.new 9, [3, 2, 0], 0), (.dup, [], 0), (.bipush 80, [], 0), (.invokespecial 13, [18, 2, 0, 2, 3], 0), (.putfield 16, [2, 0, 2], 0), (.return_, [], 0)])]
/-- MindReaders$Readings.leastTwice(LMindReaders$Code;)I -/
def zc_14 : List (Nat × List zE) := [(0, [(.aload_n 0, [], 0), (.ldc 20, [], 1000000), (.putfield 21, [2, 1, 0], 0), (.aload_n 0, [], 0), (.getfield 16, [2, 0, 2], 0), (.invokevirtual 25, [24, 1, 0, 1, 3], 0), (.iconst 0, [], 0), (.istore_n 2, [], 0), (.nop, [15, 1, 1, 1], 0)]),
  (15, [(.iload_n 2, [], 0), (.bipush 80, [], 0), (.if_icmp .ge 18, [36, 1, 1], 0), (.aload_n 0, [], 0), (.getfield 16, [2, 0, 2], 0), (.ldc 20, [], 1000000), (.invokevirtual 28, [22, 2, 0, 2, 3], 0), (.iinc 2 1, [], 0), (.goto (-18), [15, 1, 1, 1], 0)]),
  (36, [(.iconst 0, [], 0), (.istore_n 2, [], 0), (.nop, [38, 1, 1, 1], 0)]),
  (38, [(.iload_n 2, [], 0), (.aload_n 1, [], 0), (.invokevirtual 31, [2, 1, 1, 1, 0], 0), (.if_icmp .ge 44, [87, 1, 1], 0), (.iload_n 2, [], 0), (.iconst 1, [], 0), (.iadd, [], 0), (.istore_n 3, [], 0), (.nop, [50, 1, 1, 1, 1], 0)]),
  (50, [(.iload_n 3, [], 0), (.aload_n 1, [], 0), (.invokevirtual 31, [2, 1, 1, 1, 0], 0), (.if_icmp .ge 26, [81, 1, 1, 1], 0), (.aload_n 0, [], 0), (.aload_n 1, [], 0), (.iload_n 2, [], 0), (.iconst 0, [], 0), (.iload_n 3, [], 0), (.aload_n 1, [], 0), (.iload_n 2, [], 0), (.invokevirtual 37, [4, 2, 3, 2, 0], 0), (.invokevirtual 41, [19, 1, 1, 1, 3], 0), (.invokevirtual 42, [16, 6, 1, 10, 2], 0), (.pop, [], 0), (.iinc 3 1, [], 0), (.goto (-28), [50, 1, 1, 1, 1], 0)]),
  (81, [(.iinc 2 1, [], 0), (.goto (-46), [38, 1, 1, 1], 0)]),
  (87, [(.iconst 1, [], 0), (.istore_n 2, [], 0), (.iconst 0, [], 0), (.istore_n 3, [], 0), (.nop, [91, 1, 1, 1, 1], 0)]),
  (91, [(.iload_n 3, [], 0), (.bipush 80, [], 0), (.if_icmp .gt 19, [113, 1], 0), (.iload_n 2, [], 0), (.ifCond .eq 15, [113, 1], 0), (.aload_n 0, [], 0), (.aload_n 1, [], 0), (.invokevirtual 46, [15, 2, 1, 6, 2], 0), (.istore_n 2, [], 0), (.iinc 3 1, [], 0), (.goto (-19), [91, 1, 1, 1, 1], 0)]),
  (113, [(.aload_n 0, [], 0), (.getfield 21, [2, 1, 0], 0), (.ldc 20, [], 1000000), (.if_icmp .ge 10, [129], 0), (.aload_n 0, [], 0), (.getfield 21, [2, 1, 0], 0), (.goto 4, [130], 0)]),
  (129, [(.iconst (-1), [], 0), (.nop, [130], 0)]),
  (130, [(.ireturn, [0], 0)])]
/-- MindReaders$Readings.goOn(LMindReaders$Code;)Z -/
def zc_15 : List (Nat × List zE) := [(0, [(.iconst 0, [], 0), (.istore_n 2, [], 0), (.iconst 0, [], 0), (.istore_n 3, [], 0), (.nop, [4, 1, 1, 1, 1], 0)]),
  (4, [(.iload_n 3, [], 0), (.bipush 80, [], 0), (.if_icmp .ge 66, [73, 0, 0, 1], 0), (.aload_n 0, [], 0), (.getfield 16, [2, 0, 2], 0), (.iload_n 3, [], 0), (.invokevirtual 50, [20, 2, 1, 2, 3], 0), (.istore 4, [], 0), (.iconst 0, [], 0), (.istore 5, [], 0), (.nop, [23, 1, 1, 1, 1, 1, 1], 0)]),
  (23, [(.iload 5, [], 0), (.aload_n 1, [], 0), (.invokevirtual 31, [2, 1, 1, 1, 0], 0), (.if_icmp .ge 38, [67, 1, 1, 1, 1], 0), (.iload 4, [], 0), (.ldc 20, [], 1000000), (.if_icmp .ge 31, [67, 1, 1, 1, 1], 0), (.aload_n 0, [], 0), (.aload_n 1, [], 0), (.iload_n 3, [], 0), (.bipush 10, [], 0), (.idiv, [], 0), (.iload_n 3, [], 0), (.bipush 10, [], 0), (.irem, [], 0), (.iload 5, [], 0), (.iload 4, [], 0), (.invokevirtual 42, [16, 6, 1, 10, 2], 0), (.ifCond .eq 5, [61, 1, 1, 1, 1, 1, 1], 0), (.iconst 1, [], 0), (.istore_n 2, [], 0), (.nop, [61, 1, 1, 1, 1, 1, 1], 0)]),
  (61, [(.iinc 5 1, [], 0), (.goto (-41), [23, 1, 1, 1, 1, 1, 1], 0)]),
  (67, [(.iinc 3 1, [], 0), (.goto (-66), [4, 1, 1, 1, 1], 0)]),
  (73, [(.iload_n 2, [], 0), (.ireturn, [1], 0)])]
/-- MindReaders$Readings.meet(LMindReaders$Code;IIII)Z -/
def zc_16 : List (Nat × List zE) := [(0, [(.aload_n 1, [], 0), (.iload_n 2, [], 0), (.invokevirtual 37, [4, 2, 3, 2, 0], 0), (.astore 6, [], 0), (.aload_n 1, [], 0), (.iload 4, [], 0), (.invokevirtual 37, [4, 2, 3, 2, 0], 0), (.astore 7, [], 0), (.aload 6, [], 0), (.invokevirtual 41, [19, 1, 1, 1, 3], 0), (.iload_n 3, [], 0), (.isub, [], 0), (.istore 8, [], 0), (.iload 8, [], 0), (.ifCond .le 11, [37], 0), (.aload 7, [], 0), (.invokevirtual 41, [19, 1, 1, 1, 3], 0), (.ifCond .ne 5, [39, 1, 0, 1, 1, 1, 1, 1, 1, 1], 0), (.nop, [37], 0)]),
  (37, [(.iconst 0, [], 0), (.ireturn, [1], 0)]),
  (39, [(.iconst 0, [], 0), (.istore 9, [], 0), (.nop, [42, 1, 0, 1, 1, 1, 1, 1, 1, 1, 1], 0)]),
  (42, [(.iload 9, [], 0), (.iload 8, [], 0), (.if_icmp .ge 40, [86, 1, 0, 1, 1, 1, 1, 0, 1, 1], 0), (.iload 9, [], 0), (.aload 7, [], 0), (.invokevirtual 41, [19, 1, 1, 1, 3], 0), (.if_icmp .ge 30, [86, 1, 0, 1, 1, 1, 1, 0, 1, 1], 0), (.aload 6, [], 0), (.iload_n 3, [], 0), (.iload 9, [], 0), (.iadd, [], 0), (.invokevirtual 50, [20, 2, 1, 2, 3], 0), (.aload 7, [], 0), (.iload 9, [], 0), (.invokevirtual 50, [20, 2, 1, 2, 3], 0), (.if_icmp .eq 5, [80, 1, 0, 1, 1, 1, 1, 1, 1, 1, 1], 0), (.iconst 0, [], 0), (.ireturn, [1], 0)]),
  (80, [(.iinc 9 1, [], 0), (.goto (-41), [42, 1, 0, 1, 1, 1, 1, 1, 1, 1, 1], 0)]),
  (86, [(.iload 8, [], 0), (.aload 7, [], 0), (.invokevirtual 41, [19, 1, 1, 1, 3], 0), (.if_icmp .ne 18, [111, 1, 0, 1, 1, 1, 1, 0, 1, 1], 0), (.aload_n 0, [], 0), (.aload_n 0, [], 0), (.getfield 21, [2, 1, 0], 0), (.iload 5, [], 0), (.invokestatic 54, [1], 0), (.putfield 21, [2, 1, 0], 0), (.iconst 0, [], 0), (.ireturn, [1], 0)]),
  (111, [(.iload 8, [], 0), (.aload 7, [], 0), (.invokevirtual 41, [19, 1, 1, 1, 3], 0), (.if_icmp .le 18, [136, 1, 0, 0, 0, 1, 1, 0, 1, 1], 0), (.aload_n 0, [], 0), (.iload_n 2, [], 0), (.iload_n 3, [], 0), (.aload 7, [], 0), (.invokevirtual 41, [19, 1, 1, 1, 3], 0), (.iadd, [], 0), (.iload 5, [], 0), (.invokevirtual 60, [17, 4, 1, 5, 2], 0), (.ireturn, [1], 0)]),
  (136, [(.aload_n 0, [], 0), (.iload 4, [], 0), (.iload 8, [], 0), (.iload 5, [], 0), (.aload 7, [], 0), (.invokevirtual 41, [19, 1, 1, 1, 3], 0), (.iadd, [], 0), (.iload 8, [], 0), (.isub, [], 0), (.invokevirtual 60, [17, 4, 1, 5, 2], 0), (.ireturn, [1], 0)])]
/-- MindReaders$Readings.comeTo(III)Z -/
def zc_17 : List (Nat × List zE) := [(0, [(.iload_n 1, [], 0), (.bipush 10, [], 0), (.imul, [], 0), (.iload_n 2, [], 0), (.iadd, [], 0), (.istore 4, [], 0), (.iload_n 3, [], 0), (.aload_n 0, [], 0), (.getfield 16, [2, 0, 2], 0), (.iload 4, [], 0), (.invokevirtual 50, [20, 2, 1, 2, 3], 0), (.if_icmp .lt 5, [23, 1, 0, 0, 1, 1], 0), (.iconst 0, [], 0), (.ireturn, [1], 0)]),
  (23, [(.aload_n 0, [], 0), (.getfield 16, [2, 0, 2], 0), (.iload 4, [], 0), (.iload_n 3, [], 0), (.invokevirtual 64, [21, 3, 0, 3, 3], 0), (.iconst 1, [], 0), (.ireturn, [1], 0)])]
/-- MindReaders$Row.<init>(I)V -/
def zc_18 : List (Nat × List zE) := [(0, [(.aload_n 0, [], 0), (.invokespecial 3, [], 0), (.aload_n 0, [], 0), (.iload_n 1, [], 0), (.iconst 0, [], 0), (.invokestatic 9, [0], 0), (.newarray .int, [0], 0), (.putfield 15, [3, 0, 2], 0), (.return_, [], 0)])]
/-- MindReaders$Row.size()I -/
def zc_19 : List (Nat × List zE) := [(0, [(.aload_n 0, [], 0), (.getfield 21, [3, 1, 0], 0), (.ireturn, [0], 0)])]
/-- MindReaders$Row.at(I)I -/
def zc_20 : List (Nat × List zE) := [(0, [(.iload_n 1, [], 0), (.ifCond .lt 29, [30], 0), (.iload_n 1, [], 0), (.aload_n 0, [], 0), (.getfield 21, [3, 1, 0], 0), (.if_icmp .ge 21, [30], 0), (.iload_n 1, [], 0), (.aload_n 0, [], 0), (.getfield 15, [3, 0, 2], 0), (.arraylength, [], 0), (.if_icmp .ge 12, [30], 0), (.aload_n 0, [], 0), (.getfield 15, [3, 0, 2], 0), (.iload_n 1, [], 0), (.iaload, [], 0), (.goto 4, [31], 0)]),
  (30, [(.iconst (-1), [], 0), (.nop, [31], 0)]),
  (31, [(.ireturn, [0], 0)])]
/-- MindReaders$Row.set(II)V -/
def zc_21 : List (Nat × List zE) := [(0, [(.iload_n 1, [], 0), (.ifCond .lt 27, [28], 0), (.iload_n 1, [], 0), (.aload_n 0, [], 0), (.getfield 21, [3, 1, 0], 0), (.if_icmp .ge 19, [28], 0), (.iload_n 1, [], 0), (.aload_n 0, [], 0), (.getfield 15, [3, 0, 2], 0), (.arraylength, [], 0), (.if_icmp .ge 10, [28], 0), (.aload_n 0, [], 0), (.getfield 15, [3, 0, 2], 0), (.iload_n 1, [], 0), (.iload_n 2, [], 0), (.iastore, [], 0), (.nop, [28], 0)]),
  (28, [(.return_, [], 0)])]
/-- MindReaders$Row.add(I)V -/
def zc_22 : List (Nat × List zE) := [(0, [(.aload_n 0, [], 0), (.getfield 21, [3, 1, 0], 0), (.ifCond .lt 35, [39], 0), (.aload_n 0, [], 0), (.getfield 21, [3, 1, 0], 0), (.aload_n 0, [], 0), (.getfield 15, [3, 0, 2], 0), (.arraylength, [], 0), (.if_icmp .ge 23, [39], 0), (.aload_n 0, [], 0), (.getfield 15, [3, 0, 2], 0), (.aload_n 0, [], 0), (.getfield 21, [3, 1, 0], 0), (.iload_n 1, [], 0), (.iastore, [], 0), (.aload_n 0, [], 0), (.dup, [], 0), (.getfield 21, [3, 1, 0], 0), (.iconst 1, [], 0), (.iadd, [], 0), (.putfield 21, [3, 1, 0], 0), (.nop, [39], 0)]),
  (39, [(.return_, [], 0)])]
/-- MindReaders$Row.dropLast()V -/
def zc_23 : List (Nat × List zE) := [(0, [(.aload_n 0, [], 0), (.getfield 21, [3, 1, 0], 0), (.ifCond .le 13, [17], 0), (.aload_n 0, [], 0), (.dup, [], 0), (.getfield 21, [3, 1, 0], 0), (.iconst 1, [], 0), (.isub, [], 0), (.putfield 21, [3, 1, 0], 0), (.nop, [17], 0)]),
  (17, [(.return_, [], 0)])]
/-- MindReaders$Row.wipe()V -/
def zc_24 : List (Nat × List zE) := [(0, [(.aload_n 0, [], 0), (.iconst 0, [], 0), (.putfield 21, [3, 1, 0], 0), (.return_, [], 0)])]
/-- MindReaders$Row.isLike(LMindReaders$Row;)Z -/
def zc_25 : List (Nat × List zE) := [(0, [(.aload_n 0, [], 0), (.getfield 21, [3, 1, 0], 0), (.aload_n 1, [], 0), (.invokevirtual 28, [19, 1, 1, 1, 3], 0), (.if_icmp .ne 15, [23], 0), (.aload_n 0, [], 0), (.aload_n 1, [], 0), (.invokevirtual 39, [26, 2, 1, 3, 3], 0), (.ifCond .eq 7, [23], 0), (.iconst 1, [], 0), (.goto 4, [24], 0)]),
  (23, [(.iconst 0, [], 0), (.nop, [24], 0)]),
  (24, [(.ireturn, [1], 0)])]
/-- MindReaders$Row.isStartOf(LMindReaders$Row;)Z -/
def zc_26 : List (Nat × List zE) := [(0, [(.iconst 0, [], 0), (.istore_n 2, [], 0), (.nop, [2, 1, 1, 1], 0)]),
  (2, [(.iload_n 2, [], 0), (.aload_n 0, [], 0), (.getfield 21, [3, 1, 0], 0), (.if_icmp .ge 24, [31], 0), (.aload_n 0, [], 0), (.iload_n 2, [], 0), (.invokevirtual 31, [20, 2, 1, 2, 3], 0), (.aload_n 1, [], 0), (.iload_n 2, [], 0), (.invokevirtual 31, [20, 2, 1, 2, 3], 0), (.if_icmp .eq 5, [25, 1, 1, 1], 0), (.iconst 0, [], 0), (.ireturn, [1], 0)]),
  (25, [(.iinc 2 1, [], 0), (.goto (-26), [2, 1, 1, 1], 0)]),
  (31, [(.iconst 1, [], 0), (.ireturn, [1], 0)])]
/-- MindReaders$Row.placesApart(LMindReaders$Row;)I -/
def zc_27 : List (Nat × List zE) := [(0, [(.iconst 0, [], 0), (.istore_n 2, [], 0), (.iconst 0, [], 0), (.istore_n 3, [], 0), (.nop, [4, 1, 1, 1, 1], 0)]),
  (4, [(.iload_n 3, [], 0), (.aload_n 0, [], 0), (.getfield 21, [3, 1, 0], 0), (.if_icmp .ge 25, [34, 0, 0, 1], 0), (.aload_n 0, [], 0), (.iload_n 3, [], 0), (.invokevirtual 31, [20, 2, 1, 2, 3], 0), (.aload_n 1, [], 0), (.iload_n 3, [], 0), (.invokevirtual 31, [20, 2, 1, 2, 3], 0), (.if_icmp .eq 6, [28, 1, 1, 1, 1], 0), (.iinc 2 1, [], 0), (.nop, [28, 1, 1, 1, 1], 0)]),
  (28, [(.iinc 3 1, [], 0), (.goto (-27), [4, 1, 1, 1, 1], 0)]),
  (34, [(.iload_n 2, [], 0), (.ireturn, [0], 0)])]
/-- MindReaders$Row.sumOf(I)I -/
def zc_28 : List (Nat × List zE) := [(0, [(.iconst 0, [], 0), (.istore_n 2, [], 0), (.iconst 0, [], 0), (.istore_n 3, [], 0), (.nop, [4, 1, 1, 1, 1], 0)]),
  (4, [(.iload_n 3, [], 0), (.iload_n 1, [], 0), (.if_icmp .ge 25, [31, 0, 0, 1], 0), (.iload_n 3, [], 0), (.aload_n 0, [], 0), (.getfield 21, [3, 1, 0], 0), (.if_icmp .ge 17, [31, 0, 0, 1], 0), (.iload_n 2, [], 0), (.aload_n 0, [], 0), (.iload_n 3, [], 0), (.invokevirtual 31, [20, 2, 1, 2, 3], 0), (.iadd, [], 0), (.istore_n 2, [], 0), (.iinc 3 1, [], 0), (.goto (-24), [4, 1, 1, 1, 1], 0)]),
  (31, [(.iload_n 2, [], 0), (.ireturn, [0], 0)])]
/-- MindReaders$Rows.<init>(II)V -/
def zc_29 : List (Nat × List zE) := [(0, [(.aload_n 0, [], 0), (.invokespecial 1, [], 0), (.aload_n 0, [], 0), (.new 7, [3, 2, 0], 0), (.dup, [], 0), (.iconst 0, [], 0), (.invokespecial 9, [18, 2, 0, 2, 3], 0), (.putfield 12, [4, 1, 2], 0), (.aload_n 0, [], 0), (.iload_n 1, [], 0), (.iconst 0, [], 0), (.invokestatic 18, [0], 0), (.anewarray 7, [105], 0), (.putfield 24, [4, 0, 2], 0), (.iconst 0, [], 0), (.istore_n 3, [], 0), (.nop, [30, 1, 0, 1, 1], 0)]),
  (30, [(.iload_n 3, [], 0), (.aload_n 0, [], 0), (.getfield 24, [4, 0, 2], 0), (.arraylength, [], 0), (.if_icmp .ge 23, [59], 0), (.aload_n 0, [], 0), (.getfield 24, [4, 0, 2], 0), (.iload_n 3, [], 0), (.new 7, [3, 2, 0], 0), (.dup, [], 0), (.iload_n 2, [], 0), (.invokespecial 9, [18, 2, 0, 2, 3], 0), (.aastore, [105, 3], 0), (.iinc 3 1, [], 0), (.goto (-26), [30, 1, 0, 1, 1], 0)]),
  (59, [(.return_, [], 0)])]
/-- MindReaders$Rows.row(I)LMindReaders$Row; -/
def zc_30 : List (Nat × List zE) := [(0, [(.iload_n 1, [], 0), (.ifCond .lt 21, [22, 1], 0), (.iload_n 1, [], 0), (.aload_n 0, [], 0), (.getfield 24, [4, 0, 2], 0), (.arraylength, [], 0), (.if_icmp .ge 12, [22, 1], 0), (.aload_n 0, [], 0), (.getfield 24, [4, 0, 2], 0), (.iload_n 1, [], 0), (.aaload, [105], 0), (.goto 4, [23, 1], 0)]),
  (22, [(.aconst_null, [], 0), (.nop, [23, 1], 0)]),
  (23, [(.astore_n 2, [], 0), (.aload_n 2, [], 0), (.ifnonnull 10, [35, 0, 0, 1], 0), (.aload_n 0, [], 0), (.getfield 12, [4, 1, 2], 0), (.goto 4, [36], 0)]),
  (35, [(.aload_n 2, [], 0), (.nop, [36], 0)]),
  (36, [(.areturn, [], 0)])]
/-- MindReaders$Signals.<init>()V -/
def zc_31 : List (Nat × List zE) := [(0, [(.aload_n 0, [], 0), (.invokespecial 3, [], 0), (.aload_n 0, [], 0), (.new 9, [3, 2, 0], 0), (.dup, [], 0), (.bipush 8, [], 0), (.invokespecial 11, [18, 2, 0, 2, 3], 0), (.putfield 14, [5, 0, 2], 0), (.aload_n 0, [], 0), (.new 9, [3, 2, 0], 0), (.dup, [], 0), (.bipush 8, [], 0), (.invokespecial 11, [18, 2, 0, 2, 3], 0), (.putfield 20, [5, 1, 2], 0), (.aload_n 0, [], 0), (.new 9, [3, 2, 0], 0), (.dup, [], 0), (.bipush 8, [], 0), (.invokespecial 11, [18, 2, 0, 2, 3], 0), (.putfield 23, [5, 2, 2], 0), (.aload_n 0, [], 0), (.new 9, [3, 2, 0], 0), (.dup, [], 0), (.bipush 8, [], 0), (.invokespecial 11, [18, 2, 0, 2, 3], 0), (.putfield 26, [5, 3, 2], 0), (.return_, [], 0)])]
/-- MindReaders$Signals.told()I -/
def zc_32 : List (Nat × List zE) := [(0, [(.aload_n 0, [], 0), (.getfield 14, [5, 0, 2], 0), (.invokevirtual 29, [19, 1, 1, 1, 3], 0), (.ireturn, [0], 0)])]
/-- MindReaders$Signals.isTold(I)Z -/
def zc_33 : List (Nat × List zE) := [(0, [(.iload_n 1, [], 0), (.ifCond .lt 18, [19], 0), (.iload_n 1, [], 0), (.aload_n 0, [], 0), (.getfield 14, [5, 0, 2], 0), (.invokevirtual 29, [19, 1, 1, 1, 3], 0), (.if_icmp .ge 7, [19], 0), (.iconst 1, [], 0), (.goto 4, [20], 0)]),
  (19, [(.iconst 0, [], 0), (.nop, [20], 0)]),
  (20, [(.ireturn, [1], 0)])]
/-- MindReaders$Signals.tell(IIII)V -/
def zc_34 : List (Nat × List zE) := [(0, [(.aload_n 0, [], 0), (.getfield 14, [5, 0, 2], 0), (.iload_n 1, [], 0), (.invokevirtual 33, [22, 2, 0, 2, 3], 0), (.aload_n 0, [], 0), (.getfield 20, [5, 1, 2], 0), (.iload_n 2, [], 0), (.invokevirtual 33, [22, 2, 0, 2, 3], 0), (.aload_n 0, [], 0), (.getfield 23, [5, 2, 2], 0), (.iload_n 3, [], 0), (.invokevirtual 33, [22, 2, 0, 2, 3], 0), (.aload_n 0, [], 0), (.getfield 26, [5, 3, 2], 0), (.iload 4, [], 0), (.invokevirtual 33, [22, 2, 0, 2, 3], 0), (.return_, [], 0)])]
/-- MindReaders$Signals.kindOf(I)I -/
def zc_35 : List (Nat × List zE) := [(0, [(.aload_n 0, [], 0), (.getfield 14, [5, 0, 2], 0), (.iload_n 1, [], 0), (.invokevirtual 36, [20, 2, 1, 2, 3], 0), (.istore_n 2, [], 0), (.iload_n 2, [], 0), (.iconst (-1), [], 0), (.if_icmp .ne 7, [18, 0, 0, 1], 0), (.iconst 0, [], 0), (.goto 4, [19], 0)]),
  (18, [(.iload_n 2, [], 0), (.nop, [19], 0)]),
  (19, [(.ireturn, [0], 0)])]
/-- MindReaders$Signals.toneOf(I)I -/
def zc_36 : List (Nat × List zE) := [(0, [(.aload_n 0, [], 0), (.getfield 20, [5, 1, 2], 0), (.iload_n 1, [], 0), (.invokevirtual 36, [20, 2, 1, 2, 3], 0), (.ireturn, [0], 0)])]
/-- MindReaders$Signals.secondsOf(I)I -/
def zc_37 : List (Nat × List zE) := [(0, [(.aload_n 0, [], 0), (.getfield 23, [5, 2, 2], 0), (.iload_n 1, [], 0), (.invokevirtual 36, [20, 2, 1, 2, 3], 0), (.istore_n 2, [], 0), (.iload_n 2, [], 0), (.iconst (-1), [], 0), (.if_icmp .ne 7, [18, 0, 0, 1], 0), (.iconst 1, [], 0), (.goto 4, [19], 0)]),
  (18, [(.iload_n 2, [], 0), (.nop, [19], 0)]),
  (19, [(.ireturn, [0], 0)])]
/-- MindReaders$Signals.oddOf(I)I -/
def zc_38 : List (Nat × List zE) := [(0, [(.aload_n 0, [], 0), (.getfield 26, [5, 3, 2], 0), (.iload_n 1, [], 0), (.invokevirtual 36, [20, 2, 1, 2, 3], 0), (.istore_n 2, [], 0), (.iload_n 2, [], 0), (.iconst (-1), [], 0), (.if_icmp .ne 7, [18, 0, 0, 1], 0), (.iconst 0, [], 0), (.goto 4, [19], 0)]),
  (18, [(.iload_n 2, [], 0), (.nop, [19], 0)]),
  (19, [(.ireturn, [0], 0)])]
/-- MindReaders$Signals.isToneFor(II)Z -/
def zc_39 : List (Nat × List zE) := [(0, [(.iload_n 1, [], 0), (.iconst 2, [], 0), (.if_icmp .eq 14, [16, 1, 0, 1], 0), (.iload_n 2, [], 0), (.iconst (-1), [], 0), (.if_icmp .ne 7, [14], 0), (.iconst 1, [], 0), (.goto 4, [15], 0)]),
  (14, [(.iconst 0, [], 0), (.nop, [15], 0)]),
  (15, [(.ireturn, [1], 0)]),
  (16, [(.aload_n 0, [], 0), (.iload_n 2, [], 0), (.invokevirtual 40, [33, 2, 1, 2, 5], 0), (.ifCond .eq 24, [45], 0), (.aload_n 0, [], 0), (.iload_n 2, [], 0), (.invokevirtual 44, [35, 2, 1, 3, 5], 0), (.ifCond .eq 12, [41], 0), (.aload_n 0, [], 0), (.iload_n 2, [], 0), (.invokevirtual 44, [35, 2, 1, 3, 5], 0), (.iconst 1, [], 0), (.if_icmp .ne 7, [45], 0), (.nop, [41], 0)]),
  (41, [(.iconst 1, [], 0), (.goto 4, [46], 0)]),
  (45, [(.iconst 0, [], 0), (.nop, [46], 0)]),
  (46, [(.ireturn, [1], 0)])]
/-- MindReaders$Signals.secondsOfAll(LMindReaders$Row;)I -/
def zc_40 : List (Nat × List zE) := [(0, [(.iconst 0, [], 0), (.istore_n 2, [], 0), (.iconst 0, [], 0), (.istore_n 3, [], 0), (.nop, [4, 1, 1, 1, 1], 0)]),
  (4, [(.iload_n 3, [], 0), (.aload_n 1, [], 0), (.invokevirtual 29, [19, 1, 1, 1, 3], 0), (.if_icmp .ge 21, [30, 0, 0, 1], 0), (.iload_n 2, [], 0), (.aload_n 0, [], 0), (.aload_n 1, [], 0), (.iload_n 3, [], 0), (.invokevirtual 36, [20, 2, 1, 2, 3], 0), (.invokevirtual 47, [37, 2, 1, 3, 5], 0), (.iadd, [], 0), (.istore_n 2, [], 0), (.iinc 3 1, [], 0), (.goto (-23), [4, 1, 1, 1, 1], 0)]),
  (30, [(.iload_n 2, [], 0), (.ireturn, [0], 0)])]
/-- MindReaders$Signals.oddOfAll(LMindReaders$Row;)I -/
def zc_41 : List (Nat × List zE) := [(0, [(.iconst 0, [], 0), (.istore_n 2, [], 0), (.iconst 0, [], 0), (.istore_n 3, [], 0), (.nop, [4, 1, 1, 1, 1], 0)]),
  (4, [(.iload_n 3, [], 0), (.aload_n 1, [], 0), (.invokevirtual 29, [19, 1, 1, 1, 3], 0), (.if_icmp .ge 21, [30, 0, 0, 1], 0), (.iload_n 2, [], 0), (.aload_n 0, [], 0), (.aload_n 1, [], 0), (.iload_n 3, [], 0), (.invokevirtual 36, [20, 2, 1, 2, 3], 0), (.invokevirtual 50, [38, 2, 1, 3, 5], 0), (.iadd, [], 0), (.istore_n 2, [], 0), (.iinc 3 1, [], 0), (.goto (-23), [4, 1, 1, 1, 1], 0)]),
  (30, [(.iload_n 2, [], 0), (.ireturn, [0], 0)])]
/-- MindReaders$Signals.makePlain(LMindReaders$Row;ILMindReaders$Row;)V -/
def zc_42 : List (Nat × List zE) := [(0, [(.aload_n 3, [], 0), (.invokevirtual 53, [24, 1, 0, 1, 3], 0), (.iconst 0, [], 0), (.istore 4, [], 0), (.nop, [7, 1, 1, 1, 1, 1], 0)]),
  (7, [(.iload 4, [], 0), (.aload_n 1, [], 0), (.invokevirtual 29, [19, 1, 1, 1, 3], 0), (.if_icmp .ge 96, [109], 0), (.aload_n 1, [], 0), (.iload 4, [], 0), (.invokevirtual 36, [20, 2, 1, 2, 3], 0), (.istore 5, [], 0), (.iload_n 2, [], 0), (.iload 5, [], 0), (.ishr, [], 0), (.iconst 1, [], 0), (.iand, [], 0), (.ifCond .eq 6, [36, 1, 1, 1, 1, 1, 1], 0), (.goto 70, [103, 1, 1, 1, 1, 1], 0)]),
  (36, [(.aload_n 0, [], 0), (.iload 5, [], 0), (.invokevirtual 44, [35, 2, 1, 3, 5], 0), (.istore 6, [], 0), (.iload 6, [], 0), (.ifCond .eq 9, [55, 1, 1, 1, 1, 1, 1], 0), (.iload 6, [], 0), (.iconst 1, [], 0), (.if_icmp .ne 12, [64, 1, 1, 1, 1, 1, 1, 1], 0), (.nop, [55, 1, 1, 1, 1, 1, 1], 0)]),
  (55, [(.aload_n 3, [], 0), (.iload 5, [], 0), (.invokevirtual 33, [22, 2, 0, 2, 3], 0), (.goto 42, [103, 1, 1, 1, 1, 1], 0)]),
  (64, [(.iload 6, [], 0), (.iconst 2, [], 0), (.if_icmp .ne 26, [93, 1, 1, 1, 1, 1, 0, 1], 0), (.aload_n 3, [], 0), (.aload_n 0, [], 0), (.iload 5, [], 0), (.invokevirtual 56, [36, 2, 1, 2, 5], 0), (.invokevirtual 33, [22, 2, 0, 2, 3], 0), (.aload_n 3, [], 0), (.aload_n 0, [], 0), (.iload 5, [], 0), (.invokevirtual 56, [36, 2, 1, 2, 5], 0), (.invokevirtual 33, [22, 2, 0, 2, 3], 0), (.goto 13, [103, 1, 1, 1, 1, 1], 0)]),
  (93, [(.iload 6, [], 0), (.iconst 4, [], 0), (.if_icmp .ne 7, [103, 1, 1, 1, 1, 1], 0), (.aload_n 3, [], 0), (.invokevirtual 59, [23, 1, 0, 1, 3], 0), (.nop, [103, 1, 1, 1, 1, 1], 0)]),
  (103, [(.iinc 4 1, [], 0), (.goto (-99), [7, 1, 1, 1, 1, 1], 0)]),
  (109, [(.return_, [], 0)])]
/-- MindReaders.<init>()V -/
def zc_43 : List (Nat × List zE) := [(0, [(.aload_n 0, [], 0), (.invokespecial 3, [], 0), (.aload_n 0, [], 0), (.new 9, [5, 2, 2, 2, 2], 0), (.dup, [], 0), (.invokespecial 11, [31, 1, 0, 1, 5], 0), (.putfield 12, [6, 0, 2], 0), (.aload_n 0, [], 0), (.new 16, [3, 2, 0], 0), (.dup, [], 0), (.bipush 8, [], 0), (.invokespecial 18, [18, 2, 0, 2, 3], 0), (.putfield 21, [6, 1, 2], 0), (.aload_n 0, [], 0), (.iconst 4, [], 0), (.anewarray 25, [102], 0), (.putfield 27, [6, 2, 2], 0), (.aload_n 0, [], 0), (.new 16, [3, 2, 0], 0), (.dup, [], 0), (.bipush 48, [], 0), (.invokespecial 18, [18, 2, 0, 2, 3], 0), (.putfield 31, [6, 4, 2], 0), (.aload_n 0, [], 0), (.new 34, [1, 2, 2], 0), (.dup, [], 0), (.invokespecial 36, [12, 1, 0, 1, 1], 0), (.putfield 37, [6, 5, 2], 0), (.aload_n 0, [], 0), (.new 16, [3, 2, 0], 0), (.dup, [], 0), (.bipush 8, [], 0), (.invokespecial 18, [18, 2, 0, 2, 3], 0), (.putfield 41, [6, 6, 2], 0), (.aload_n 0, [], 0), (.new 34, [1, 2, 2], 0), (.dup, [], 0), (.invokespecial 36, [12, 1, 0, 1, 1], 0), (.putfield 44, [6, 7, 2], 0), (.aload_n 0, [], 0), (.new 16, [3, 2, 0], 0), (.dup, [], 0), (.bipush 48, [], 0), (.invokespecial 18, [18, 2, 0, 2, 3], 0), (.putfield 47, [6, 9, 2], 0), (.aload_n 0, [], 0), (.new 16, [3, 2, 0], 0), (.dup, [], 0), (.bipush 96, [], 0), (.invokespecial 18, [18, 2, 0, 2, 3], 0), (.putfield 50, [6, 10, 2], 0), (.aload_n 0, [], 0), (.new 16, [3, 2, 0], 0), (.dup, [], 0), (.bipush 8, [], 0), (.invokespecial 18, [18, 2, 0, 2, 3], 0), (.putfield 53, [6, 11, 2], 0), (.aload_n 0, [], 0), (.new 56, [4, 2, 2], 0), (.dup, [], 0), (.bipush 8, [], 0), (.bipush 10, [], 0), (.invokespecial 58, [29, 3, 0, 4, 4], 0), (.putfield 61, [6, 12, 2], 0), (.aload_n 0, [], 0), (.new 65, [2, 2, 0], 0), (.dup, [], 0), (.invokespecial 67, [13, 1, 0, 1, 2], 0), (.putfield 68, [6, 13, 2], 0), (.iconst 0, [], 0), (.istore_n 1, [], 0), (.nop, [151, 1, 1], 0)]),
  (151, [(.iload_n 1, [], 0), (.aload_n 0, [], 0), (.getfield 27, [6, 2, 2], 0), (.arraylength, [], 0), (.if_icmp .ge 22, [179], 0), (.aload_n 0, [], 0), (.getfield 27, [6, 2, 2], 0), (.iload_n 1, [], 0), (.new 25, [0, 2, 2, 0], 0), (.dup, [], 0), (.invokespecial 72, [1, 1, 0, 1, 0], 0), (.aastore, [102, 0], 0), (.iinc 1 1, [], 0), (.goto (-25), [151, 1, 1], 0)]),
  (179, [(.return_, [], 0)])]
/-- MindReaders.letters(J)I -/
def zc_44 : List (Nat × List zE) := [(0, [(.lload_n 1, [], 0), (.invokestatic 73, [62, 1, 1, 5], 0), (.istore_n 3, [], 0), (.iload_n 3, [], 0), (.iconst (-1), [], 0), (.if_icmp .ne 6, [13, 1, 1, 0, 1], 0), (.bipush (-102), [], 0), (.ireturn, [0], 0)]),
  (13, [(.aload_n 0, [], 0), (.getfield 31, [6, 4, 2], 0), (.invokevirtual 77, [19, 1, 1, 1, 3], 0), (.iload_n 3, [], 0), (.iadd, [], 0), (.bipush 48, [], 0), (.if_icmp .le 6, [30, 1, 1, 0, 1], 0), (.bipush (-104), [], 0), (.ireturn, [0], 0)]),
  (30, [(.iconst 0, [], 0), (.istore 4, [], 0), (.nop, [33, 1, 1, 0, 1, 1], 0)]),
  (33, [(.iload 4, [], 0), (.iload_n 3, [], 0), (.if_icmp .ge 22, [58, 1], 0), (.aload_n 0, [], 0), (.getfield 31, [6, 4, 2], 0), (.lload_n 1, [], 0), (.iload 4, [], 0), (.invokestatic 81, [61, 2, 1, 3], 0), (.invokevirtual 85, [22, 2, 0, 2, 3], 0), (.iinc 4 1, [], 0), (.goto (-22), [33, 1, 1, 0, 1, 1], 0)]),
  (58, [(.aload_n 0, [], 0), (.getfield 31, [6, 4, 2], 0), (.invokevirtual 77, [19, 1, 1, 1, 3], 0), (.ireturn, [0], 0)])]
/-- MindReaders.blank()I -/
def zc_45 : List (Nat × List zE) := [(0, [(.aload_n 0, [], 0), (.getfield 31, [6, 4, 2], 0), (.invokevirtual 77, [19, 1, 1, 1, 3], 0), (.istore_n 1, [], 0), (.aload_n 0, [], 0), (.getfield 31, [6, 4, 2], 0), (.invokevirtual 88, [24, 1, 0, 1, 3], 0), (.iload_n 1, [], 0), (.ireturn, [0], 0)])]
/-- MindReaders.code()I -/
def zc_46 : List (Nat × List zE) := [(0, [(.aload_n 0, [], 0), (.getfield 31, [6, 4, 2], 0), (.aload_n 0, [], 0), (.getfield 31, [6, 4, 2], 0), (.invokevirtual 77, [19, 1, 1, 1, 3], 0), (.iconst 1, [], 0), (.isub, [], 0), (.invokevirtual 94, [20, 2, 1, 2, 3], 0), (.invokestatic 98, [63, 1, 1, 1], 0), (.iconst (-1), [], 0), (.if_icmp .eq 7, [27, 1], 0), (.iconst 1, [], 0), (.goto 4, [28, 1], 0)]),
  (27, [(.iconst 0, [], 0), (.nop, [28, 1], 0)]),
  (28, [(.istore_n 1, [], 0), (.iload_n 1, [], 0), (.ifCond .eq 17, [47], 0), (.aload_n 0, [], 0), (.invokevirtual 91, [64, 1, 1, 5, 6], 0), (.aload_n 0, [], 0), (.getfield 31, [6, 4, 2], 0), (.invokevirtual 77, [19, 1, 1, 1, 3], 0), (.if_icmp .ge 6, [50, 1], 0), (.nop, [47], 0)]),
  (47, [(.bipush (-103), [], 0), (.ireturn, [0], 0)]),
  (50, [(.aload_n 0, [], 0), (.getfield 101, [6, 3, 0], 0), (.ifCond .lt 15, [69], 0), (.aload_n 0, [], 0), (.getfield 101, [6, 3, 0], 0), (.aload_n 0, [], 0), (.getfield 27, [6, 2, 2], 0), (.arraylength, [], 0), (.if_icmp .lt 6, [72, 1], 0), (.nop, [69], 0)]),
  (69, [(.bipush (-104), [], 0), (.ireturn, [0], 0)]),
  (72, [(.aload_n 0, [], 0), (.getfield 27, [6, 2, 2], 0), (.aload_n 0, [], 0), (.getfield 101, [6, 3, 0], 0), (.aaload, [102], 0), (.astore_n 2, [], 0), (.aload_n 2, [], 0), (.ifnonnull 6, [89, 1, 0, 1], 0), (.bipush (-104), [], 0), (.ireturn, [0], 0)]),
  (89, [(.aload_n 2, [], 0), (.aload_n 0, [], 0), (.getfield 31, [6, 4, 2], 0), (.invokevirtual 105, [5, 2, 0, 4, 0], 0), (.aload_n 2, [], 0), (.aload_n 0, [], 0), (.getfield 12, [6, 0, 2], 0), (.invokevirtual 109, [6, 2, 0, 3, 0], 0), (.aload_n 0, [], 0), (.getfield 31, [6, 4, 2], 0), (.invokevirtual 88, [24, 1, 0, 1, 3], 0), (.aload_n 0, [], 0), (.dup, [], 0), (.getfield 101, [6, 3, 0], 0), (.iconst 1, [], 0), (.iadd, [], 0), (.putfield 101, [6, 3, 0], 0), (.aload_n 0, [], 0), (.getfield 101, [6, 3, 0], 0), (.iconst 1, [], 0), (.isub, [], 0), (.ireturn, [0], 0)])]
/-- MindReaders.signal(IIII)I -/
def zc_47 : List (Nat × List zE) := [(0, [(.iload_n 1, [], 0), (.ifCond .lt 8, [9], 0), (.iload_n 1, [], 0), (.iconst 4, [], 0), (.if_icmp .le 6, [12, 1, 1, 1, 1, 1], 0), (.nop, [9], 0)]),
  (9, [(.bipush (-102), [], 0), (.ireturn, [0], 0)]),
  (12, [(.aload_n 0, [], 0), (.getfield 12, [6, 0, 2], 0), (.iload_n 1, [], 0), (.iload_n 2, [], 0), (.invokevirtual 113, [39, 3, 1, 3, 5], 0), (.ifCond .ne 6, [27, 1, 1, 1, 1, 1], 0), (.bipush (-101), [], 0), (.ireturn, [0], 0)]),
  (27, [(.iload_n 3, [], 0), (.iconst 1, [], 0), (.if_icmp .lt 21, [50], 0), (.iload_n 3, [], 0), (.bipush 9, [], 0), (.if_icmp .gt 15, [50], 0), (.iload 4, [], 0), (.ifCond .lt 10, [50], 0), (.iload 4, [], 0), (.bipush 9, [], 0), (.if_icmp .le 6, [53, 1, 1, 1, 1, 1], 0), (.nop, [50], 0)]),
  (50, [(.bipush (-102), [], 0), (.ireturn, [0], 0)]),
  (53, [(.aload_n 0, [], 0), (.getfield 12, [6, 0, 2], 0), (.invokevirtual 117, [32, 1, 1, 1, 5], 0), (.bipush 8, [], 0), (.if_icmp .lt 6, [68, 1, 1, 1, 1, 1], 0), (.bipush (-104), [], 0), (.ireturn, [0], 0)]),
  (68, [(.aload_n 0, [], 0), (.getfield 12, [6, 0, 2], 0), (.iload_n 1, [], 0), (.iload_n 2, [], 0), (.iload_n 3, [], 0), (.iload 4, [], 0), (.invokevirtual 120, [34, 5, 0, 5, 5], 0), (.iconst 0, [], 0), (.istore 5, [], 0), (.nop, [83, 1, 0, 0, 0, 0, 1], 0)]),
  (83, [(.iload 5, [], 0), (.aload_n 0, [], 0), (.getfield 101, [6, 3, 0], 0), (.if_icmp .ge 31, [120, 1], 0), (.aload_n 0, [], 0), (.iload 5, [], 0), (.invokevirtual 124, [69, 2, 3, 2, 6], 0), (.astore 6, [], 0), (.aload 6, [], 0), (.ifnull 12, [114, 1, 0, 0, 0, 0, 1], 0), (.aload 6, [], 0), (.aload_n 0, [], 0), (.getfield 12, [6, 0, 2], 0), (.invokevirtual 109, [6, 2, 0, 3, 0], 0), (.nop, [114, 1, 0, 0, 0, 0, 1], 0)]),
  (114, [(.iinc 5 1, [], 0), (.goto (-34), [83, 1, 0, 0, 0, 0, 1], 0)]),
  (120, [(.aload_n 0, [], 0), (.getfield 12, [6, 0, 2], 0), (.invokevirtual 117, [32, 1, 1, 1, 5], 0), (.iconst 1, [], 0), (.isub, [], 0), (.ireturn, [0], 0)])]
/-- MindReaders.thing(I)I -/
def zc_48 : List (Nat × List zE) := [(0, [(.iload_n 1, [], 0), (.invokestatic 144, [67, 1, 1, 1], 0), (.ifCond .ne 6, [10, 1, 1], 0), (.bipush (-102), [], 0), (.ireturn, [0], 0)]),
  (10, [(.aload_n 0, [], 0), (.getfield 21, [6, 1, 2], 0), (.invokevirtual 77, [19, 1, 1, 1, 3], 0), (.bipush 8, [], 0), (.if_icmp .lt 6, [25, 1, 1], 0), (.bipush (-104), [], 0), (.ireturn, [0], 0)]),
  (25, [(.aload_n 0, [], 0), (.getfield 21, [6, 1, 2], 0), (.iload_n 1, [], 0), (.invokevirtual 85, [22, 2, 0, 2, 3], 0), (.aload_n 0, [], 0), (.getfield 21, [6, 1, 2], 0), (.invokevirtual 77, [19, 1, 1, 1, 3], 0), (.iconst 1, [], 0), (.isub, [], 0), (.ireturn, [0], 0)])]
/-- MindReaders.speech(III)I -/
def zc_49 : List (Nat × List zE) := [(0, [(.aload_n 0, [], 0), (.iload_n 1, [], 0), (.invokevirtual 124, [69, 2, 3, 2, 6], 0), (.astore 4, [], 0), (.aload 4, [], 0), (.ifnull 16, [25], 0), (.iload_n 2, [], 0), (.ifCond .lt 12, [25], 0), (.iload_n 2, [], 0), (.aload 4, [], 0), (.invokevirtual 153, [2, 1, 1, 1, 0], 0), (.if_icmp .lt 6, [28, 1, 0, 1, 1, 1], 0), (.nop, [25], 0)]),
  (25, [(.bipush (-101), [], 0), (.ireturn, [0], 0)]),
  (28, [(.iload_n 3, [], 0), (.ifCond .ne 13, [42, 1, 0, 1, 1, 1], 0), (.aload 4, [], 0), (.iload_n 2, [], 0), (.invokevirtual 154, [3, 2, 3, 2, 0], 0), (.invokevirtual 77, [19, 1, 1, 1, 3], 0), (.ireturn, [0], 0)]),
  (42, [(.iload_n 3, [], 0), (.iconst 1, [], 0), (.if_icmp .lt 21, [65, 1, 0, 1, 1, 1], 0), (.iload_n 3, [], 0), (.iconst 5, [], 0), (.if_icmp .gt 16, [65, 1, 0, 1, 1, 1], 0), (.aload 4, [], 0), (.iload_n 2, [], 0), (.invokevirtual 154, [3, 2, 3, 2, 0], 0), (.iload_n 3, [], 0), (.iconst 1, [], 0), (.isub, [], 0), (.invokevirtual 94, [20, 2, 1, 2, 3], 0), (.ireturn, [0], 0)]),
  (65, [(.iload_n 3, [], 0), (.bipush 10, [], 0), (.if_icmp .ne 13, [81, 1, 0, 1, 1, 1], 0), (.aload 4, [], 0), (.iload_n 2, [], 0), (.invokevirtual 158, [4, 2, 3, 2, 0], 0), (.invokevirtual 77, [19, 1, 1, 1, 3], 0), (.ireturn, [0], 0)]),
  (81, [(.iload_n 3, [], 0), (.bipush 10, [], 0), (.if_icmp .le 23, [107, 1, 0, 1, 1, 1], 0), (.iload_n 3, [], 0), (.bipush 20, [], 0), (.if_icmp .gt 17, [107, 1, 0, 1, 1, 1], 0), (.aload 4, [], 0), (.iload_n 2, [], 0), (.invokevirtual 158, [4, 2, 3, 2, 0], 0), (.iload_n 3, [], 0), (.bipush 11, [], 0), (.isub, [], 0), (.invokevirtual 94, [20, 2, 1, 2, 3], 0), (.ireturn, [0], 0)]),
  (107, [(.iload_n 3, [], 0), (.bipush 30, [], 0), (.if_icmp .ne 13, [123], 0), (.aload_n 0, [], 0), (.aload 4, [], 0), (.iload_n 2, [], 0), (.invokevirtual 161, [71, 3, 1, 3, 6], 0), (.goto 5, [125], 0)]),
  (123, [(.bipush (-102), [], 0), (.nop, [125], 0)]),
  (125, [(.ireturn, [0], 0)])]
/-- MindReaders.means(I)I -/
def zc_50 : List (Nat × List zE) := [(0, [(.aload_n 0, [], 0), (.iload_n 1, [], 0), (.invokevirtual 124, [69, 2, 3, 2, 6], 0), (.astore_n 2, [], 0), (.aload_n 2, [], 0), (.ifnonnull 6, [13, 1, 0, 1], 0), (.bipush (-101), [], 0), (.ireturn, [0], 0)]),
  (13, [(.aload_n 0, [], 0), (.invokevirtual 165, [66, 1, 1, 1, 6], 0), (.ifCond .eq 14, [31], 0), (.aload_n 2, [], 0), (.aload_n 0, [], 0), (.getfield 50, [6, 10, 2], 0), (.invokevirtual 169, [7, 2, 1, 3, 0], 0), (.goto 5, [33], 0)]),
  (31, [(.bipush (-103), [], 0), (.nop, [33], 0)]),
  (33, [(.ireturn, [0], 0)])]
/-- MindReaders.clear(II)I -/
def zc_51 : List (Nat × List zE) := [(0, [(.aload_n 0, [], 0), (.iload_n 1, [], 0), (.invokevirtual 124, [69, 2, 3, 2, 6], 0), (.astore_n 3, [], 0), (.aload_n 3, [], 0), (.ifnonnull 6, [13, 0, 0, 1, 1], 0), (.bipush (-101), [], 0), (.ireturn, [0], 0)]),
  (13, [(.iload_n 2, [], 0), (.ifCond .lt 8, [22], 0), (.iload_n 2, [], 0), (.iconst 2, [], 0), (.if_icmp .le 6, [25, 0, 0, 1, 1], 0), (.nop, [22], 0)]),
  (22, [(.bipush (-102), [], 0), (.ireturn, [0], 0)]),
  (25, [(.aload_n 3, [], 0), (.invokevirtual 173, [8, 1, 1, 3, 0], 0), (.istore 4, [], 0), (.iload_n 2, [], 0), (.ifCond .ne 15, [47, 0, 0, 1, 0, 1], 0), (.iload 4, [], 0), (.iconst (-1), [], 0), (.if_icmp .ne 7, [45], 0), (.iconst 1, [], 0), (.goto 4, [46], 0)]),
  (45, [(.iconst 0, [], 0), (.nop, [46], 0)]),
  (46, [(.ireturn, [0], 0)]),
  (47, [(.iload 4, [], 0), (.iload_n 2, [], 0), (.iconst 1, [], 0), (.isub, [], 0), (.invokestatic 176, [72, 2, 1, 2], 0), (.ireturn, [0], 0)])]
/-- MindReaders.starts(II)I -/
def zc_52 : List (Nat × List zE) := [(0, [(.aload_n 0, [], 0), (.iload_n 1, [], 0), (.invokevirtual 124, [69, 2, 3, 2, 6], 0), (.astore_n 3, [], 0), (.aload_n 3, [], 0), (.ifnonnull 6, [13, 0, 0, 1, 1], 0), (.bipush (-101), [], 0), (.ireturn, [0], 0)]),
  (13, [(.iload_n 2, [], 0), (.ifCond .lt 8, [22], 0), (.iload_n 2, [], 0), (.iconst 1, [], 0), (.if_icmp .le 6, [25, 0, 0, 1, 1], 0), (.nop, [22], 0)]),
  (22, [(.bipush (-102), [], 0), (.ireturn, [0], 0)]),
  (25, [(.aload_n 3, [], 0), (.invokevirtual 180, [9, 1, 1, 3, 0], 0), (.iload_n 2, [], 0), (.invokestatic 176, [72, 2, 1, 2], 0), (.ireturn, [0], 0)])]
/-- MindReaders.twice(I)I -/
def zc_53 : List (Nat × List zE) := [(0, [(.aload_n 0, [], 0), (.iload_n 1, [], 0), (.invokevirtual 124, [69, 2, 3, 2, 6], 0), (.astore_n 2, [], 0), (.aload_n 2, [], 0), (.ifnonnull 8, [15, 1, 0, 1], 0), (.bipush (-101), [], 0), (.goto 11, [23], 0)]),
  (15, [(.aload_n 0, [], 0), (.getfield 68, [6, 13, 2], 0), (.aload_n 2, [], 0), (.invokevirtual 183, [14, 2, 1, 4, 2], 0), (.nop, [23], 0)]),
  (23, [(.ireturn, [0], 0)])]
/-- MindReaders.mean(II)I -/
def zc_54 : List (Nat × List zE) := [(0, [(.aload_n 0, [], 0), (.iload_n 1, [], 0), (.invokevirtual 124, [69, 2, 3, 2, 6], 0), (.astore_n 3, [], 0), (.aload_n 3, [], 0), (.ifnonnull 6, [13, 1, 0, 1, 1], 0), (.bipush (-101), [], 0), (.ireturn, [0], 0)]),
  (13, [(.iload_n 2, [], 0), (.invokestatic 187, [68, 1, 1, 1], 0), (.ifCond .ne 6, [23, 1, 0, 1, 1], 0), (.bipush (-102), [], 0), (.ireturn, [0], 0)]),
  (23, [(.aload_n 0, [], 0), (.aload_n 3, [], 0), (.invokevirtual 190, [70, 2, 1, 2, 6], 0), (.istore 4, [], 0), (.iload 4, [], 0), (.ifCond .ne 6, [38, 1, 0, 1, 1, 1], 0), (.bipush (-103), [], 0), (.ireturn, [0], 0)]),
  (38, [(.lconst 0, [], 0), (.lstore 5, [], 0), (.iconst 0, [], 0), (.istore 7, [], 0), (.nop, [44, 1, 0, 1, 1, 1, 1, 0, 1], 0)]),
  (44, [(.iload 7, [], 0), (.iload 4, [], 0), (.if_icmp .ge 32, [80, 1, 0, 1, 0, 1, 1], 0), (.lload 5, [], 0), (.aload_n 0, [], 0), (.getfield 21, [6, 1, 2], 0), (.iload 7, [], 0), (.invokevirtual 94, [20, 2, 1, 2, 3], 0), (.aload_n 0, [], 0), (.aload_n 3, [], 0), (.iload 7, [], 0), (.invokevirtual 161, [71, 3, 1, 3, 6], 0), (.imul, [], 0), (.i2l, [], 0), (.ladd, [], 0), (.lstore 5, [], 0), (.iinc 7 1, [], 0), (.goto (-33), [44, 1, 0, 1, 1, 1, 1, 0, 1], 0)]),
  (80, [(.lload 5, [], 0), (.aload_n 0, [], 0), (.getfield 21, [6, 1, 2], 0), (.iload 4, [], 0), (.invokevirtual 193, [28, 2, 1, 4, 3], 0), (.i2l, [], 0), (.iload_n 2, [], 0), (.invokestatic 196, [76, 3, 2, 12], 0), (.l2i, [], 0), (.ireturn, [0], 0)])]
/-- MindReaders.oddness(I)I -/
def zc_55 : List (Nat × List zE) := [(0, [(.aload_n 0, [], 0), (.iload_n 1, [], 0), (.invokevirtual 124, [69, 2, 3, 2, 6], 0), (.astore_n 2, [], 0), (.aload_n 2, [], 0), (.ifnonnull 6, [13, 1, 0, 1], 0), (.bipush (-101), [], 0), (.ireturn, [0], 0)]),
  (13, [(.aload_n 0, [], 0), (.aload_n 2, [], 0), (.invokevirtual 190, [70, 2, 1, 2, 6], 0), (.istore_n 3, [], 0), (.iconst 0, [], 0), (.istore 4, [], 0), (.iconst 0, [], 0), (.istore 5, [], 0), (.nop, [25, 1, 0, 1, 1, 1, 1], 0)]),
  (25, [(.iload 5, [], 0), (.iload_n 3, [], 0), (.if_icmp .ge 37, [65, 0, 0, 0, 0, 1], 0), (.iload 4, [], 0), (.aload_n 0, [], 0), (.getfield 21, [6, 1, 2], 0), (.iload 5, [], 0), (.invokevirtual 94, [20, 2, 1, 2, 3], 0), (.aload_n 0, [], 0), (.getfield 12, [6, 0, 2], 0), (.aload_n 2, [], 0), (.iload 5, [], 0), (.invokevirtual 154, [3, 2, 3, 2, 0], 0), (.invokevirtual 200, [41, 2, 1, 4, 5], 0), (.imul, [], 0), (.iadd, [], 0), (.istore 4, [], 0), (.iinc 5 1, [], 0), (.goto (-37), [25, 1, 0, 1, 1, 1, 1], 0)]),
  (65, [(.iload 4, [], 0), (.ireturn, [0], 0)])]
/-- MindReaders.dealt(II)I -/
def zc_56 : List (Nat × List zE) := [(0, [(.aload_n 0, [], 0), (.iload_n 1, [], 0), (.invokevirtual 124, [69, 2, 3, 2, 6], 0), (.astore_n 3, [], 0), (.aload_n 3, [], 0), (.ifnonnull 6, [13, 1, 0, 1, 1], 0), (.bipush (-101), [], 0), (.ireturn, [0], 0)]),
  (13, [(.iload_n 2, [], 0), (.invokestatic 187, [68, 1, 1, 1], 0), (.ifCond .ne 18, [35, 1, 0, 1, 1], 0), (.iload_n 2, [], 0), (.bipush 10, [], 0), (.if_icmp .lt 9, [32], 0), (.iload_n 2, [], 0), (.bipush 18, [], 0), (.if_icmp .lt 6, [35, 1, 0, 1, 1], 0), (.nop, [32], 0)]),
  (32, [(.bipush (-102), [], 0), (.ireturn, [0], 0)]),
  (35, [(.aload_n 0, [], 0), (.aload_n 3, [], 0), (.invokevirtual 190, [70, 2, 1, 2, 6], 0), (.istore 4, [], 0), (.iload 4, [], 0), (.ifCond .ne 6, [50, 1, 0, 1, 1, 1], 0), (.bipush (-103), [], 0), (.ireturn, [0], 0)]),
  (50, [(.iload_n 2, [], 0), (.bipush 10, [], 0), (.if_icmp .lt 13, [66, 1, 0, 1, 1, 1], 0), (.aload_n 0, [], 0), (.aload_n 3, [], 0), (.iload_n 2, [], 0), (.bipush 10, [], 0), (.isub, [], 0), (.invokevirtual 203, [73, 3, 1, 6, 6], 0), (.ireturn, [0], 0)]),
  (66, [(.lconst 0, [], 0), (.lstore 5, [], 0), (.iconst 0, [], 0), (.istore 7, [], 0), (.nop, [72, 1, 0, 1, 1, 1, 1, 0, 1], 0)]),
  (72, [(.iload 7, [], 0), (.iload 4, [], 0), (.if_icmp .ge 37, [113, 1, 0, 1, 0, 1, 1], 0), (.lload 5, [], 0), (.aload_n 0, [], 0), (.getfield 21, [6, 1, 2], 0), (.iload 7, [], 0), (.invokevirtual 94, [20, 2, 1, 2, 3], 0), (.aload_n 0, [], 0), (.aload_n 3, [], 0), (.aload_n 0, [], 0), (.aload_n 3, [], 0), (.iload 7, [], 0), (.invokevirtual 203, [73, 3, 1, 6, 6], 0), (.invokevirtual 161, [71, 3, 1, 3, 6], 0), (.imul, [], 0), (.i2l, [], 0), (.ladd, [], 0), (.lstore 5, [], 0), (.iinc 7 1, [], 0), (.goto (-38), [72, 1, 0, 1, 1, 1, 1, 0, 1], 0)]),
  (113, [(.lload 5, [], 0), (.aload_n 0, [], 0), (.getfield 21, [6, 1, 2], 0), (.iload 4, [], 0), (.invokevirtual 193, [28, 2, 1, 4, 3], 0), (.i2l, [], 0), (.iload_n 2, [], 0), (.invokestatic 196, [76, 3, 2, 12], 0), (.l2i, [], 0), (.ireturn, [0], 0)])]
/-- MindReaders.apart(I)I -/
def zc_57 : List (Nat × List zE) := [(0, [(.aload_n 0, [], 0), (.iload_n 1, [], 0), (.invokevirtual 124, [69, 2, 3, 2, 6], 0), (.astore_n 2, [], 0), (.aload_n 2, [], 0), (.ifnonnull 8, [15, 0, 0, 1], 0), (.bipush (-101), [], 0), (.goto 7, [19], 0)]),
  (15, [(.aload_n 2, [], 0), (.invokevirtual 210, [10, 1, 1, 5, 0], 0), (.nop, [19], 0)]),
  (19, [(.ireturn, [0], 0)])]
/-- MindReaders.named(I)I -/
def zc_58 : List (Nat × List zE) := [(0, [(.aload_n 0, [], 0), (.iload_n 1, [], 0), (.invokevirtual 124, [69, 2, 3, 2, 6], 0), (.astore_n 2, [], 0), (.aload_n 2, [], 0), (.ifnonnull 6, [13, 1, 0, 1], 0), (.bipush (-101), [], 0), (.ireturn, [0], 0)]),
  (13, [(.aload_n 0, [], 0), (.invokevirtual 165, [66, 1, 1, 1, 6], 0), (.ifCond .eq 14, [31], 0), (.aload_n 2, [], 0), (.aload_n 0, [], 0), (.getfield 50, [6, 10, 2], 0), (.invokevirtual 213, [11, 2, 1, 6, 0], 0), (.goto 5, [33], 0)]),
  (31, [(.bipush (-103), [], 0), (.nop, [33], 0)]),
  (33, [(.ireturn, [0], 0)])]
/-- MindReaders.left(II)I -/
def zc_59 : List (Nat × List zE) := [(0, [(.aload_n 0, [], 0), (.iload_n 1, [], 0), (.invokevirtual 124, [69, 2, 3, 2, 6], 0), (.astore_n 3, [], 0), (.aload_n 3, [], 0), (.ifnonnull 6, [13, 1, 0, 1, 1], 0), (.bipush (-101), [], 0), (.ireturn, [0], 0)]),
  (13, [(.iload_n 2, [], 0), (.ifCond .lt 10, [24], 0), (.iload_n 2, [], 0), (.sipush 255, [], 0), (.if_icmp .le 6, [27, 1, 0, 1, 1], 0), (.nop, [24], 0)]),
  (24, [(.bipush (-102), [], 0), (.ireturn, [0], 0)]),
  (27, [(.aload_n 0, [], 0), (.aload_n 3, [], 0), (.iload_n 2, [], 0), (.bipush 8, [], 0), (.invokevirtual 256, [77, 4, 1, 8, 6], 0), (.ireturn, [0], 0)])]
/-- MindReaders.stop(I)I -/
def zc_60 : List (Nat × List zE) := [(0, [(.aload_n 0, [], 0), (.iload_n 1, [], 0), (.invokevirtual 124, [69, 2, 3, 2, 6], 0), (.astore_n 2, [], 0), (.aload_n 2, [], 0), (.ifnonnull 6, [13, 1, 0, 1], 0), (.bipush (-101), [], 0), (.ireturn, [0], 0)]),
  (13, [(.iconst 0, [], 0), (.istore_n 3, [], 0), (.nop, [15, 1, 0, 1, 1], 0)]),
  (15, [(.iload_n 3, [], 0), (.bipush 8, [], 0), (.if_icmp .ge 50, [68], 0), (.iconst 0, [], 0), (.istore 4, [], 0), (.nop, [24, 1, 0, 1, 1, 1], 0)]),
  (24, [(.iload 4, [], 0), (.sipush 255, [], 0), (.if_icmp .gt 33, [62, 1, 0, 1, 1], 0), (.iload 4, [], 0), (.invokestatic 260, [94, 1, 1, 1], 0), (.iload_n 3, [], 0), (.if_icmp .ne 18, [56, 1, 0, 1, 1, 1], 0), (.aload_n 0, [], 0), (.aload_n 2, [], 0), (.iload 4, [], 0), (.iconst 2, [], 0), (.invokevirtual 256, [77, 4, 1, 8, 6], 0), (.iconst 1, [], 0), (.if_icmp .gt 6, [56, 1, 0, 1, 1, 1], 0), (.iload 4, [], 0), (.ireturn, [0], 0)]),
  (56, [(.iinc 4 1, [], 0), (.goto (-35), [24, 1, 0, 1, 1, 1], 0)]),
  (62, [(.iinc 3 1, [], 0), (.goto (-50), [15, 1, 0, 1, 1], 0)]),
  (68, [(.sipush 255, [], 0), (.ireturn, [0], 0)])]
/-- MindReaders.byteOf(JI)I -/
def zc_61 : List (Nat × List zE) := [(0, [(.lload_n 0, [], 0), (.bipush 8, [], 0), (.iload_n 2, [], 0), (.imul, [], 0), (.lushr, [], 0), (.ldc2_w 322, [], 255), (.land, [], 0), (.l2i, [], 0), (.ireturn, [0], 0)])]
/-- MindReaders.lettersIn(J)I -/
def zc_62 : List (Nat × List zE) := [(0, [(.iconst 0, [], 0), (.istore_n 2, [], 0), (.iconst 0, [], 0), (.istore_n 3, [], 0), (.nop, [4, 1, 0, 1, 1], 0)]),
  (4, [(.iload_n 3, [], 0), (.bipush 8, [], 0), (.if_icmp .ge 43, [50, 0, 0, 1], 0), (.lload_n 0, [], 0), (.iload_n 3, [], 0), (.invokestatic 81, [61, 2, 1, 3], 0), (.istore 4, [], 0), (.iload 4, [], 0), (.bipush 126, [], 0), (.if_icmp .gt 13, [34], 0), (.iload 4, [], 0), (.ifCond .eq 10, [36, 1, 0, 1, 1, 1], 0), (.iload_n 2, [], 0), (.iload_n 3, [], 0), (.if_icmp .ge 5, [36, 1, 0, 1, 1, 1], 0), (.nop, [34], 0)]),
  (34, [(.iconst (-1), [], 0), (.ireturn, [0], 0)]),
  (36, [(.iload 4, [], 0), (.ifCond .eq 6, [44, 1, 0, 1, 1], 0), (.iinc 2 1, [], 0), (.nop, [44, 1, 0, 1, 1], 0)]),
  (44, [(.iinc 3 1, [], 0), (.goto (-43), [4, 1, 0, 1, 1], 0)]),
  (50, [(.iload_n 2, [], 0), (.ireturn, [0], 0)])]
/-- MindReaders.signalOf(I)I -/
def zc_63 : List (Nat × List zE) := [(0, [(.iload_n 0, [], 0), (.bipush 97, [], 0), (.if_icmp .lt 16, [19], 0), (.iload_n 0, [], 0), (.bipush 104, [], 0), (.if_icmp .gt 10, [19], 0), (.iload_n 0, [], 0), (.bipush 97, [], 0), (.isub, [], 0), (.goto 4, [20], 0)]),
  (19, [(.iconst (-1), [], 0), (.nop, [20], 0)]),
  (20, [(.ireturn, [0], 0)])]
/-- MindReaders.firstFault()I -/
def zc_64 : List (Nat × List zE) := [(0, [(.iconst 0, [], 0), (.istore_n 1, [], 0), (.iconst 0, [], 0), (.istore_n 2, [], 0), (.iconst 0, [], 0), (.istore_n 3, [], 0), (.nop, [6, 1, 1, 1, 1], 0)]),
  (6, [(.iload_n 3, [], 0), (.aload_n 0, [], 0), (.getfield 31, [6, 4, 2], 0), (.invokevirtual 77, [19, 1, 1, 1, 3], 0), (.if_icmp .ge 66, [80, 1], 0), (.aload_n 0, [], 0), (.getfield 31, [6, 4, 2], 0), (.iload_n 3, [], 0), (.invokevirtual 94, [20, 2, 1, 2, 3], 0), (.istore 4, [], 0), (.iload 4, [], 0), (.invokestatic 98, [63, 1, 1, 1], 0), (.iconst (-1), [], 0), (.if_icmp .eq 14, [47, 1, 1, 1, 1, 1], 0), (.iload_n 2, [], 0), (.iconst 5, [], 0), (.if_icmp .ge 9, [47, 1, 1, 1, 1, 1], 0), (.iinc 2 1, [], 0), (.goto 30, [74, 1, 1, 1, 1], 0)]),
  (47, [(.iload 4, [], 0), (.bipush 44, [], 0), (.if_icmp .ne 21, [72, 0, 0, 0, 1], 0), (.iload_n 2, [], 0), (.ifCond .le 17, [72, 0, 0, 0, 1], 0), (.iload_n 1, [], 0), (.bipush 7, [], 0), (.if_icmp .ge 11, [72, 0, 0, 0, 1], 0), (.iinc 1 1, [], 0), (.iconst 0, [], 0), (.istore_n 2, [], 0), (.goto 5, [74, 1, 1, 1, 1], 0)]),
  (72, [(.iload_n 3, [], 0), (.ireturn, [0], 0)]),
  (74, [(.iinc 3 1, [], 0), (.goto (-71), [6, 1, 1, 1, 1], 0)]),
  (80, [(.aload_n 0, [], 0), (.getfield 31, [6, 4, 2], 0), (.invokevirtual 77, [19, 1, 1, 1, 3], 0), (.ireturn, [0], 0)])]
/-- MindReaders.readPage()Z -/
def zc_65 : List (Nat × List zE) := [(0, [(.aload_n 0, [], 0), (.getfield 47, [6, 9, 2], 0), (.invokevirtual 88, [24, 1, 0, 1, 3], 0), (.iconst 0, [], 0), (.istore_n 1, [], 0), (.nop, [9, 1, 1], 0)]),
  (9, [(.iload_n 1, [], 0), (.aload_n 0, [], 0), (.getfield 31, [6, 4, 2], 0), (.invokevirtual 77, [19, 1, 1, 1, 3], 0), (.if_icmp .ge 36, [53], 0), (.aload_n 0, [], 0), (.getfield 31, [6, 4, 2], 0), (.iload_n 1, [], 0), (.invokevirtual 94, [20, 2, 1, 2, 3], 0), (.invokestatic 98, [63, 1, 1, 1], 0), (.istore_n 2, [], 0), (.iload_n 2, [], 0), (.iconst (-1), [], 0), (.if_icmp .ne 5, [39, 1, 1, 1], 0), (.iconst 0, [], 0), (.ireturn, [1], 0)]),
  (39, [(.aload_n 0, [], 0), (.getfield 47, [6, 9, 2], 0), (.iload_n 2, [], 0), (.invokevirtual 85, [22, 2, 0, 2, 3], 0), (.iinc 1 1, [], 0), (.goto (-41), [9, 1, 1], 0)]),
  (53, [(.iconst 1, [], 0), (.ireturn, [1], 0)])]
/-- MindReaders.hearPage()Z -/
def zc_66 : List (Nat × List zE) := [(0, [(.aload_n 0, [], 0), (.invokevirtual 233, [65, 1, 1, 3, 6], 0), (.ifCond .ne 5, [9, 1], 0), (.iconst 0, [], 0), (.ireturn, [1], 0)]),
  (9, [(.aload_n 0, [], 0), (.getfield 12, [6, 0, 2], 0), (.aload_n 0, [], 0), (.getfield 47, [6, 9, 2], 0), (.iconst 0, [], 0), (.aload_n 0, [], 0), (.getfield 50, [6, 10, 2], 0), (.invokevirtual 324, [42, 4, 0, 7, 5], 0), (.iconst 1, [], 0), (.ireturn, [1], 0)])]
/-- MindReaders.isWeight(I)Z -/
def zc_67 : List (Nat × List zE) := [(0, [(.iload_n 0, [], 0), (.iconst 1, [], 0), (.if_icmp .lt 13, [15], 0), (.iload_n 0, [], 0), (.bipush 99, [], 0), (.if_icmp .gt 7, [15], 0), (.iconst 1, [], 0), (.goto 4, [16], 0)]),
  (15, [(.iconst 0, [], 0), (.nop, [16], 0)]),
  (16, [(.ireturn, [1], 0)])]
/-- MindReaders.isPart(I)Z -/
def zc_68 : List (Nat × List zE) := [(0, [(.iload_n 0, [], 0), (.ifCond .eq 8, [9], 0), (.iload_n 0, [], 0), (.iconst 1, [], 0), (.if_icmp .ne 7, [13], 0), (.nop, [9], 0)]),
  (9, [(.iconst 1, [], 0), (.goto 4, [14], 0)]),
  (13, [(.iconst 0, [], 0), (.nop, [14], 0)]),
  (14, [(.ireturn, [1], 0)])]
/-- MindReaders.codeAt(I)LMindReaders$Code; -/
def zc_69 : List (Nat × List zE) := [(0, [(.iload_n 1, [], 0), (.ifCond .lt 29, [30], 0), (.iload_n 1, [], 0), (.aload_n 0, [], 0), (.getfield 101, [6, 3, 0], 0), (.if_icmp .ge 21, [30], 0), (.iload_n 1, [], 0), (.aload_n 0, [], 0), (.getfield 27, [6, 2, 2], 0), (.arraylength, [], 0), (.if_icmp .ge 12, [30], 0), (.aload_n 0, [], 0), (.getfield 27, [6, 2, 2], 0), (.iload_n 1, [], 0), (.aaload, [102], 0), (.goto 4, [31], 0)]),
  (30, [(.aconst_null, [], 0), (.nop, [31], 0)]),
  (31, [(.areturn, [], 0)])]
/-- MindReaders.thingsSaid(LMindReaders$Code;)I -/
def zc_70 : List (Nat × List zE) := [(0, [(.aload_n 1, [], 0), (.invokevirtual 153, [2, 1, 1, 1, 0], 0), (.aload_n 0, [], 0), (.getfield 21, [6, 1, 2], 0), (.invokevirtual 77, [19, 1, 1, 1, 3], 0), (.invokestatic 327, [1], 0), (.ireturn, [0], 0)])]
/-- MindReaders.longOf(LMindReaders$Code;I)I -/
def zc_71 : List (Nat × List zE) := [(0, [(.aload_n 0, [], 0), (.getfield 12, [6, 0, 2], 0), (.aload_n 1, [], 0), (.iload_n 2, [], 0), (.invokevirtual 154, [3, 2, 3, 2, 0], 0), (.invokevirtual 332, [40, 2, 1, 4, 5], 0), (.ireturn, [0], 0)])]
/-- MindReaders.ofPair(II)I -/
def zc_72 : List (Nat × List zE) := [(0, [(.iload_n 0, [], 0), (.iconst (-1), [], 0), (.if_icmp .ne 5, [7, 1, 1], 0), (.iconst (-1), [], 0), (.ireturn, [0], 0)]),
  (7, [(.iload_n 1, [], 0), (.ifCond .ne 10, [18, 1], 0), (.iload_n 0, [], 0), (.bipush 8, [], 0), (.idiv, [], 0), (.goto 7, [22], 0)]),
  (18, [(.iload_n 0, [], 0), (.bipush 8, [], 0), (.irem, [], 0), (.nop, [22], 0)]),
  (22, [(.ireturn, [0], 0)])]
/-- MindReaders.dealtTo(LMindReaders$Code;I)I -/
def zc_73 : List (Nat × List zE) := [(0, [(.aload_n 0, [], 0), (.aload_n 1, [], 0), (.invokevirtual 190, [70, 2, 1, 2, 6], 0), (.istore_n 3, [], 0), (.iload_n 2, [], 0), (.ifCond .lt 8, [15], 0), (.iload_n 2, [], 0), (.iload_n 3, [], 0), (.if_icmp .lt 5, [17, 1, 1, 1, 1], 0), (.nop, [15], 0)]),
  (15, [(.iconst (-1), [], 0), (.ireturn, [0], 0)]),
  (17, [(.iconst 0, [], 0), (.istore 4, [], 0), (.iconst 0, [], 0), (.istore 5, [], 0), (.nop, [23, 1, 1, 1, 1, 1, 1], 0)]),
  (23, [(.iload 5, [], 0), (.iload_n 3, [], 0), (.if_icmp .ge 40, [66, 1, 1, 0, 1, 1], 0), (.aload_n 0, [], 0), (.getfield 21, [6, 1, 2], 0), (.iload 5, [], 0), (.invokevirtual 94, [20, 2, 1, 2, 3], 0), (.ineg, [], 0), (.iload 5, [], 0), (.aload_n 0, [], 0), (.getfield 21, [6, 1, 2], 0), (.iload_n 2, [], 0), (.invokevirtual 94, [20, 2, 1, 2, 3], 0), (.ineg, [], 0), (.iload_n 2, [], 0), (.invokestatic 335, [75, 4, 1, 4], 0), (.ifCond .eq 6, [60, 1, 1, 1, 1, 1, 1], 0), (.iinc 4 1, [], 0), (.nop, [60, 1, 1, 1, 1, 1, 1], 0)]),
  (60, [(.iinc 5 1, [], 0), (.goto (-40), [23, 1, 1, 1, 1, 1, 1], 0)]),
  (66, [(.iconst 0, [], 0), (.istore 5, [], 0), (.nop, [69, 1, 1, 0, 1, 1, 1], 0)]),
  (69, [(.iload 5, [], 0), (.iload_n 3, [], 0), (.if_icmp .ge 25, [97], 0), (.aload_n 0, [], 0), (.aload_n 1, [], 0), (.iload 5, [], 0), (.iload_n 3, [], 0), (.invokevirtual 339, [74, 4, 1, 6, 6], 0), (.iload 4, [], 0), (.if_icmp .ne 6, [91, 1, 1, 0, 1, 1, 1], 0), (.iload 5, [], 0), (.ireturn, [0], 0)]),
  (91, [(.iinc 5 1, [], 0), (.goto (-25), [69, 1, 1, 0, 1, 1, 1], 0)]),
  (97, [(.iconst (-1), [], 0), (.ireturn, [0], 0)])]
/-- MindReaders.rankByLong(LMindReaders$Code;II)I -/
def zc_74 : List (Nat × List zE) := [(0, [(.iconst 0, [], 0), (.istore 4, [], 0), (.iconst 0, [], 0), (.istore 5, [], 0), (.nop, [6, 1, 1, 1, 1, 1, 1], 0)]),
  (6, [(.iload 5, [], 0), (.iload_n 3, [], 0), (.if_icmp .ge 34, [43, 0, 0, 0, 0, 1], 0), (.aload_n 0, [], 0), (.aload_n 1, [], 0), (.iload 5, [], 0), (.invokevirtual 161, [71, 3, 1, 3, 6], 0), (.iload 5, [], 0), (.aload_n 0, [], 0), (.aload_n 1, [], 0), (.iload_n 2, [], 0), (.invokevirtual 161, [71, 3, 1, 3, 6], 0), (.iload_n 2, [], 0), (.invokestatic 335, [75, 4, 1, 4], 0), (.ifCond .eq 6, [37, 1, 1, 1, 1, 1, 1], 0), (.iinc 4 1, [], 0), (.nop, [37, 1, 1, 1, 1, 1, 1], 0)]),
  (37, [(.iinc 5 1, [], 0), (.goto (-34), [6, 1, 1, 1, 1, 1, 1], 0)]),
  (43, [(.iload 4, [], 0), (.ireturn, [0], 0)])]
/-- MindReaders.isAhead(IIII)Z -/
def zc_75 : List (Nat × List zE) := [(0, [(.iload_n 0, [], 0), (.iload_n 2, [], 0), (.if_icmp .lt 13, [15], 0), (.iload_n 0, [], 0), (.iload_n 2, [], 0), (.if_icmp .ne 12, [19], 0), (.iload_n 1, [], 0), (.iload_n 3, [], 0), (.if_icmp .ge 7, [19], 0), (.nop, [15], 0)]),
  (15, [(.iconst 1, [], 0), (.goto 4, [20], 0)]),
  (19, [(.iconst 0, [], 0), (.nop, [20], 0)]),
  (20, [(.ireturn, [1], 0)])]
/-- MindReaders.lowest(JJI)J -/
def zc_76 : List (Nat × List zE) := [(0, [(.lload_n 0, [], 0), (.lstore 5, [], 0), (.lload_n 2, [], 0), (.lstore 7, [], 0), (.iconst 0, [], 0), (.istore 9, [], 0), (.nop, [9, 1, 0, 1, 0, 1, 1, 0, 1, 0, 1], 0)]),
  (9, [(.iload 9, [], 0), (.sipush 128, [], 0), (.if_icmp .ge 31, [45, 1, 0, 1, 0, 1, 1], 0), (.lload 7, [], 0), (.lconst 0, [], 0), (.lcmp, [], 0), (.ifCond .eq 24, [45, 1, 0, 1, 0, 1, 1], 0), (.lload 5, [], 0), (.lload 7, [], 0), (.lrem, [], 0), (.lstore 10, [], 0), (.lload 7, [], 0), (.lstore 5, [], 0), (.lload 10, [], 0), (.lstore 7, [], 0), (.iinc 9 1, [], 0), (.goto (-33), [9, 1, 0, 1, 0, 1, 1, 0, 1, 0, 1], 0)]),
  (45, [(.lload 5, [], 0), (.lconst 0, [], 0), (.lcmp, [], 0), (.ifCond .ne 5, [54, 1, 0, 1, 0, 1, 1], 0), (.lconst 0, [], 0), (.lreturn, [], 0)]),
  (54, [(.iload 4, [], 0), (.ifCond .ne 10, [66, 0, 0, 1, 0, 0, 1], 0), (.lload_n 0, [], 0), (.lload 5, [], 0), (.ldiv, [], 0), (.goto 7, [70], 0)]),
  (66, [(.lload_n 2, [], 0), (.lload 5, [], 0), (.ldiv, [], 0), (.nop, [70], 0)]),
  (70, [(.lreturn, [], 0)])]
/-- MindReaders.unlike(LMindReaders$Code;II)I -/
def zc_77 : List (Nat × List zE) := [(0, [(.iconst 0, [], 0), (.istore 4, [], 0), (.iconst 0, [], 0), (.istore 5, [], 0), (.nop, [6, 1, 1, 1, 1, 1, 1], 0)]),
  (6, [(.iload 5, [], 0), (.aload_n 1, [], 0), (.invokevirtual 153, [2, 1, 1, 1, 0], 0), (.if_icmp .ge 101, [113, 0, 0, 0, 0, 1], 0), (.iload 4, [], 0), (.iload_n 3, [], 0), (.if_icmp .ge 95, [113, 0, 0, 0, 0, 1], 0), (.aload_n 0, [], 0), (.getfield 12, [6, 0, 2], 0), (.aload_n 1, [], 0), (.iload 5, [], 0), (.invokevirtual 154, [3, 2, 3, 2, 0], 0), (.iload_n 2, [], 0), (.aload_n 0, [], 0), (.getfield 61, [6, 12, 2], 0), (.iload 5, [], 0), (.invokevirtual 356, [30, 2, 3, 3, 4], 0), (.invokevirtual 324, [42, 4, 0, 7, 5], 0), (.iconst 1, [], 0), (.istore 6, [], 0), (.iconst 0, [], 0), (.istore 7, [], 0), (.nop, [50, 1, 1, 1, 1, 1, 1, 1, 1], 0)]),
  (50, [(.iload 7, [], 0), (.iload 5, [], 0), (.if_icmp .ge 45, [99, 1, 1, 1, 1, 1, 1, 1], 0), (.iload 6, [], 0), (.ifCond .eq 40, [99, 1, 1, 1, 1, 1, 1, 1], 0), (.aload_n 0, [], 0), (.getfield 61, [6, 12, 2], 0), (.iload 7, [], 0), (.invokevirtual 356, [30, 2, 3, 3, 4], 0), (.aload_n 0, [], 0), (.getfield 61, [6, 12, 2], 0), (.iload 5, [], 0), (.invokevirtual 356, [30, 2, 3, 3, 4], 0), (.invokevirtual 342, [25, 2, 1, 2, 3], 0), (.ifCond .ne 7, [90, 1, 1, 1, 1, 1, 1, 0, 1], 0), (.iconst 1, [], 0), (.goto 4, [91, 1, 1, 1, 1, 1, 1, 0, 1], 0)]),
  (90, [(.iconst 0, [], 0), (.nop, [91, 1, 1, 1, 1, 1, 1, 0, 1], 0)]),
  (91, [(.istore 6, [], 0), (.iinc 7 1, [], 0), (.goto (-46), [50, 1, 1, 1, 1, 1, 1, 1, 1], 0)]),
  (99, [(.iload 6, [], 0), (.ifCond .eq 6, [107, 1, 1, 1, 1, 1, 1], 0), (.iinc 4 1, [], 0), (.nop, [107, 1, 1, 1, 1, 1, 1], 0)]),
  (107, [(.iinc 5 1, [], 0), (.goto (-104), [6, 1, 1, 1, 1, 1, 1], 0)]),
  (113, [(.iload 4, [], 0), (.ireturn, [0], 0)])]
/-- MindReadersLaw.cell([II)I -/
def zc_78 : List (Nat × List zE) := [(0, [(.iload_n 1, [], 0), (.aload_n 0, [], 0), (.arraylength, [], 0), (.if_icmp .ge 9, [12, 0, 1], 0), (.aload_n 0, [], 0), (.iload_n 1, [], 0), (.iaload, [], 0), (.goto 9, [18], 0)]),
  (12, [(.ldc 7, [], 747796405), (.iload_n 1, [], 0), (.iconst 1, [], 0), (.iadd, [], 0), (.imul, [], 0), (.nop, [18], 0)]),
  (18, [(.ireturn, [0], 0)])]
/-- MindReadersLaw.at(II)I -/
def zc_79 : List (Nat × List zE) := [(0, [(.iload_n 0, [], 0), (.iconst 1, [], 0), (.iushr, [], 0), (.iload_n 1, [], 0), (.irem, [], 0), (.ireturn, [0], 0)])]
/-- MindReadersLaw.signals(LMindReaders;[II[I)Z -/
def zc_80 : List (Nat × List zE) := [(0, [(.aload_n 3, [], 0), (.bipush 32, [], 0), (.aload_n 1, [], 0), (.iload_n 2, [], 0), (.invokestatic 8, [78, 2, 1, 2], 0), (.bipush 9, [], 0), (.invokestatic 14, [79, 2, 1, 2], 0), (.iastore, [], 0), (.iconst 0, [], 0), (.istore 4, [], 0), (.nop, [17, 1, 1, 1, 1, 1], 0)]),
  (17, [(.iload 4, [], 0), (.aload_n 3, [], 0), (.bipush 32, [], 0), (.iaload, [], 0), (.if_icmp .ge 244, [267], 0), (.aload_n 1, [], 0), (.iload_n 2, [], 0), (.iconst 1, [], 0), (.iadd, [], 0), (.iload 4, [], 0), (.iadd, [], 0), (.invokestatic 8, [78, 2, 1, 2], 0), (.istore 5, [], 0), (.iload 5, [], 0), (.bipush 9, [], 0), (.invokestatic 14, [79, 2, 1, 2], 0), (.istore 6, [], 0), (.iconst 4, [], 0), (.iload 4, [], 0), (.imul, [], 0), (.istore 7, [], 0), (.aload_n 3, [], 0), (.iload 7, [], 0), (.iload 6, [], 0), (.iconst 5, [], 0), (.if_icmp .ge 7, [66, 1, 1, 1, 1, 1, 1, 1, 1], 0), (.iconst 0, [], 0), (.goto 36, [99, 1, 1, 1, 1, 1, 1, 0, 1], 0)]),
  (66, [(.iload 6, [], 0), (.iconst 5, [], 0), (.if_icmp .ne 7, [76, 1, 1, 1, 1, 1, 1, 1, 1], 0), (.iconst 1, [], 0), (.goto 26, [99, 1, 1, 1, 1, 1, 1, 0, 1], 0)]),
  (76, [(.iload 6, [], 0), (.bipush 6, [], 0), (.if_icmp .ne 7, [87, 1, 1, 1, 1, 1, 1, 1, 1], 0), (.iconst 2, [], 0), (.goto 15, [99, 1, 1, 1, 1, 1, 1, 0, 1], 0)]),
  (87, [(.iload 6, [], 0), (.bipush 7, [], 0), (.if_icmp .ne 7, [98, 1, 1, 1, 1, 1, 1, 0, 1], 0), (.iconst 3, [], 0), (.goto 4, [99, 1, 1, 1, 1, 1, 1, 0, 1], 0)]),
  (98, [(.iconst 4, [], 0), (.nop, [99, 1, 1, 1, 1, 1, 1, 0, 1], 0)]),
  (99, [(.iastore, [], 0), (.aload_n 3, [], 0), (.iload 7, [], 0), (.iconst 1, [], 0), (.iadd, [], 0), (.iconst (-1), [], 0), (.iastore, [], 0), (.iconst 0, [], 0), (.istore 8, [], 0), (.nop, [110, 1, 1, 1, 1, 1, 1, 0, 1, 1], 0)]),
  (110, [(.iload 8, [], 0), (.iload 4, [], 0), (.if_icmp .ge 58, [172, 1, 1, 1, 1, 1, 1, 0, 1], 0), (.aload_n 3, [], 0), (.iload 7, [], 0), (.iaload, [], 0), (.iconst 2, [], 0), (.if_icmp .ne 50, [172, 1, 1, 1, 1, 1, 1, 0, 1], 0), (.aload_n 3, [], 0), (.iconst 4, [], 0), (.iload 8, [], 0), (.imul, [], 0), (.iaload, [], 0), (.iconst 2, [], 0), (.if_icmp .ge 34, [166, 1, 1, 1, 1, 1, 1, 0, 1, 1], 0), (.aload_n 3, [], 0), (.iload 7, [], 0), (.iconst 1, [], 0), (.iadd, [], 0), (.iaload, [], 0), (.ifCond .lt 17, [158, 1, 1, 1, 1, 1, 1, 0, 1, 1], 0), (.iload 5, [], 0), (.iconst 4, [], 0), (.iload 8, [], 0), (.iadd, [], 0), (.ishr, [], 0), (.iconst 2, [], 0), (.invokestatic 14, [79, 2, 1, 2], 0), (.ifCond .ne 11, [166, 1, 1, 1, 1, 1, 1, 0, 1, 1], 0), (.nop, [158, 1, 1, 1, 1, 1, 1, 0, 1, 1], 0)]),
  (158, [(.aload_n 3, [], 0), (.iload 7, [], 0), (.iconst 1, [], 0), (.iadd, [], 0), (.iload 8, [], 0), (.iastore, [], 0), (.nop, [166, 1, 1, 1, 1, 1, 1, 0, 1, 1], 0)]),
  (166, [(.iinc 8 1, [], 0), (.goto (-59), [110, 1, 1, 1, 1, 1, 1, 0, 1, 1], 0)]),
  (172, [(.aload_n 3, [], 0), (.iload 7, [], 0), (.iaload, [], 0), (.iconst 2, [], 0), (.if_icmp .ne 17, [194, 1, 1, 1, 1, 1, 1, 0, 1], 0), (.aload_n 3, [], 0), (.iload 7, [], 0), (.iconst 1, [], 0), (.iadd, [], 0), (.iaload, [], 0), (.ifCond .ge 8, [194, 1, 1, 1, 1, 1, 1, 0, 1], 0), (.aload_n 3, [], 0), (.iload 7, [], 0), (.iconst 0, [], 0), (.iastore, [], 0), (.nop, [194, 1, 1, 1, 1, 1, 1, 0, 1], 0)]),
  (194, [(.aload_n 3, [], 0), (.iload 7, [], 0), (.iconst 2, [], 0), (.iadd, [], 0), (.iconst 1, [], 0), (.iload 5, [], 0), (.bipush 12, [], 0), (.ishr, [], 0), (.bipush 9, [], 0), (.invokestatic 14, [79, 2, 1, 2], 0), (.iadd, [], 0), (.iastore, [], 0), (.aload_n 3, [], 0), (.iload 7, [], 0), (.iconst 3, [], 0), (.iadd, [], 0), (.iload 5, [], 0), (.bipush 16, [], 0), (.ishr, [], 0), (.bipush 10, [], 0), (.invokestatic 14, [79, 2, 1, 2], 0), (.iastore, [], 0), (.aload_n 0, [], 0), (.aload_n 3, [], 0), (.iload 7, [], 0), (.iaload, [], 0), (.aload_n 3, [], 0), (.iload 7, [], 0), (.iconst 1, [], 0), (.iadd, [], 0), (.iaload, [], 0), (.aload_n 3, [], 0), (.iload 7, [], 0), (.iconst 2, [], 0), (.iadd, [], 0), (.iaload, [], 0), (.aload_n 3, [], 0), (.iload 7, [], 0), (.iconst 3, [], 0), (.iadd, [], 0), (.iaload, [], 0), (.invokevirtual 18, [47, 5, 1, 7, 6], 0), (.iload 4, [], 0), (.if_icmp .eq 5, [261, 1, 1, 1, 1, 1], 0), (.iconst 0, [], 0), (.ireturn, [1], 0)]),
  (261, [(.iinc 4 1, [], 0), (.goto (-247), [17, 1, 1, 1, 1, 1], 0)]),
  (267, [(.iconst 1, [], 0), (.ireturn, [1], 0)])]
/-- MindReadersLaw.codeText([II[I[I)I -/
def zc_81 : List (Nat × List zE) := [(0, [(.aload_n 0, [], 0), (.iload_n 1, [], 0), (.invokestatic 8, [78, 2, 1, 2], 0), (.istore 4, [], 0), (.iconst 0, [], 0), (.istore 5, [], 0), (.aload_n 2, [], 0), (.iconst 0, [], 0), (.iconst 1, [], 0), (.iload 4, [], 0), (.bipush 8, [], 0), (.invokestatic 14, [79, 2, 1, 2], 0), (.iadd, [], 0), (.iastore, [], 0), (.iconst 2, [], 0), (.iload 4, [], 0), (.iconst 3, [], 0), (.ishr, [], 0), (.bipush 7, [], 0), (.invokestatic 14, [79, 2, 1, 2], 0), (.iadd, [], 0), (.istore 6, [], 0), (.iload 4, [], 0), (.bipush 6, [], 0), (.ishr, [], 0), (.iconst 3, [], 0), (.invokestatic 14, [79, 2, 1, 2], 0), (.ifCond .ne 17, [61, 1, 1, 1, 1, 1, 1, 1], 0), (.iconst 1, [], 0), (.iload 4, [], 0), (.bipush 8, [], 0), (.ishr, [], 0), (.iconst 4, [], 0), (.invokestatic 14, [79, 2, 1, 2], 0), (.iadd, [], 0), (.goto 4, [62, 1, 1, 1, 1, 1, 1, 1], 0)]),
  (61, [(.iconst 0, [], 0), (.nop, [62, 1, 1, 1, 1, 1, 1, 1], 0)]),
  (62, [(.istore 7, [], 0), (.iconst 0, [], 0), (.istore 8, [], 0), (.nop, [67, 1, 1, 1, 1, 1, 1, 1, 1, 1], 0)]),
  (67, [(.iload 8, [], 0), (.aload_n 2, [], 0), (.iconst 0, [], 0), (.iaload, [], 0), (.if_icmp .ge 149, [221, 0, 0, 0, 0, 0, 1], 0), (.aload_n 0, [], 0), (.iload_n 1, [], 0), (.iconst 1, [], 0), (.iadd, [], 0), (.iload 8, [], 0), (.iadd, [], 0), (.invokestatic 8, [78, 2, 1, 2], 0), (.istore 9, [], 0), (.aload_n 2, [], 0), (.iconst 1, [], 0), (.bipush 6, [], 0), (.iload 8, [], 0), (.imul, [], 0), (.iadd, [], 0), (.iload 7, [], 0), (.ifCond .le 8, [105, 1, 1, 1, 1, 1, 1, 1, 1, 1, 1], 0), (.iload 7, [], 0), (.goto 27, [129, 1, 1, 1, 1, 1, 1, 1, 1, 1, 1], 0)]),
  (105, [(.iconst 1, [], 0), (.iload 9, [], 0), (.iload 4, [], 0), (.bipush 10, [], 0), (.ishr, [], 0), (.iconst 2, [], 0), (.invokestatic 14, [79, 2, 1, 2], 0), (.ifCond .ne 7, [124, 1, 1, 1, 1, 1, 1, 1, 1, 1, 1], 0), (.iconst 5, [], 0), (.goto 4, [125, 1, 1, 1, 1, 1, 1, 1, 1, 1, 1], 0)]),
  (124, [(.iconst 3, [], 0), (.nop, [125, 1, 1, 1, 1, 1, 1, 1, 1, 1, 1], 0)]),
  (125, [(.invokestatic 14, [79, 2, 1, 2], 0), (.iadd, [], 0), (.nop, [129, 1, 1, 1, 1, 1, 1, 1, 1, 1, 1], 0)]),
  (129, [(.iastore, [], 0), (.iload 8, [], 0), (.ifCond .le 12, [144, 1, 1, 1, 1, 1, 1, 1, 1, 1, 1], 0), (.aload_n 3, [], 0), (.iload 5, [], 0), (.iinc 5 1, [], 0), (.bipush 44, [], 0), (.iastore, [], 0), (.nop, [144, 1, 1, 1, 1, 1, 1, 1, 1, 1, 1], 0)]),
  (144, [(.iconst 0, [], 0), (.istore 10, [], 0), (.nop, [147, 1, 1, 1, 1, 1, 1, 1, 1, 1, 1, 1], 0)]),
  (147, [(.iload 10, [], 0), (.aload_n 2, [], 0), (.iconst 1, [], 0), (.bipush 6, [], 0), (.iload 8, [], 0), (.imul, [], 0), (.iadd, [], 0), (.iaload, [], 0), (.if_icmp .ge 57, [215, 1, 1, 1, 1, 1, 1, 1, 1, 1], 0), (.aload_n 2, [], 0), (.iconst 2, [], 0), (.bipush 6, [], 0), (.iload 8, [], 0), (.imul, [], 0), (.iadd, [], 0), (.iload 10, [], 0), (.iadd, [], 0), (.iload 9, [], 0), (.iconst 3, [], 0), (.iconst 4, [], 0), (.iload 10, [], 0), (.imul, [], 0), (.iadd, [], 0), (.ishr, [], 0), (.iload 6, [], 0), (.invokestatic 14, [79, 2, 1, 2], 0), (.iastore, [], 0), (.aload_n 3, [], 0), (.iload 5, [], 0), (.iinc 5 1, [], 0), (.bipush 97, [], 0), (.aload_n 2, [], 0), (.iconst 2, [], 0), (.bipush 6, [], 0), (.iload 8, [], 0), (.imul, [], 0), (.iadd, [], 0), (.iload 10, [], 0), (.iadd, [], 0), (.iaload, [], 0), (.iadd, [], 0), (.iastore, [], 0), (.iinc 10 1, [], 0), (.goto (-65), [147, 1, 1, 1, 1, 1, 1, 1, 1, 1, 1, 1], 0)]),
  (215, [(.iinc 8 1, [], 0), (.goto (-151), [67, 1, 1, 1, 1, 1, 1, 1, 1, 1], 0)]),
  (221, [(.iload 5, [], 0), (.ireturn, [0], 0)])]
/-- MindReadersLaw.write(LMindReaders;[II)Z -/
def zc_82 : List (Nat × List zE) := [(0, [(.iconst 0, [], 0), (.istore_n 3, [], 0), (.nop, [2, 1, 1, 1, 1], 0)]),
  (2, [(.iload_n 3, [], 0), (.iload_n 2, [], 0), (.if_icmp .ge 25, [29], 0), (.aload_n 0, [], 0), (.aload_n 1, [], 0), (.iload_n 3, [], 0), (.iaload, [], 0), (.i2l, [], 0), (.invokevirtual 24, [44, 2, 1, 5, 6], 0), (.iload_n 3, [], 0), (.iconst 1, [], 0), (.iadd, [], 0), (.if_icmp .eq 5, [23, 1, 1, 1, 1], 0), (.iconst 0, [], 0), (.ireturn, [1], 0)]),
  (23, [(.iinc 3 1, [], 0), (.goto (-24), [2, 1, 1, 1, 1], 0)]),
  (29, [(.iconst 1, [], 0), (.ireturn, [1], 0)])]
/-- MindReadersLaw.plain([I[IIII[I)V -/
def zc_83 : List (Nat × List zE) := [(0, [(.aload 5, [], 0), (.iconst 0, [], 0), (.iconst 0, [], 0), (.iastore, [], 0), (.iconst 0, [], 0), (.istore 6, [], 0), (.nop, [8, 1, 1, 1, 1, 1, 1, 1], 0)]),
  (8, [(.iload 6, [], 0), (.iload_n 3, [], 0), (.if_icmp .ge 139, [150], 0), (.aload_n 1, [], 0), (.iload_n 2, [], 0), (.iload 6, [], 0), (.iadd, [], 0), (.iaload, [], 0), (.istore 7, [], 0), (.iload 4, [], 0), (.iload 7, [], 0), (.ishr, [], 0), (.iconst 1, [], 0), (.iand, [], 0), (.iconst 1, [], 0), (.if_icmp .ne 6, [36, 1, 1, 1, 1, 1, 1, 1, 1], 0), (.goto 111, [144, 1, 1, 1, 1, 1, 1, 1], 0)]),
  (36, [(.iload 7, [], 0), (.aload_n 0, [], 0), (.bipush 32, [], 0), (.iaload, [], 0), (.if_icmp .ge 12, [54, 1, 1, 1, 1, 1, 1, 1, 1], 0), (.aload_n 0, [], 0), (.iconst 4, [], 0), (.iload 7, [], 0), (.imul, [], 0), (.iaload, [], 0), (.goto 4, [55, 1, 1, 1, 1, 1, 1, 1, 1], 0)]),
  (54, [(.iconst 0, [], 0), (.nop, [55, 1, 1, 1, 1, 1, 1, 1, 1], 0)]),
  (55, [(.istore 8, [], 0), (.iload 8, [], 0), (.iconst 2, [], 0), (.if_icmp .ge 17, [77, 1, 1, 1, 1, 1, 1, 1, 1, 1], 0), (.aload 5, [], 0), (.aload 5, [], 0), (.iconst 0, [], 0), (.dup2, [], 0), (.iaload, [], 0), (.iconst 1, [], 0), (.iadd, [], 0), (.dup_x2, [], 0), (.iastore, [], 0), (.iload 7, [], 0), (.iastore, [], 0), (.nop, [77, 1, 1, 1, 1, 1, 1, 1, 1, 1], 0)]),
  (77, [(.iload 8, [], 0), (.iconst 2, [], 0), (.if_icmp .ne 43, [123, 1, 1, 1, 1, 1, 1, 1, 0, 1], 0), (.aload 5, [], 0), (.aload 5, [], 0), (.iconst 0, [], 0), (.dup2, [], 0), (.iaload, [], 0), (.iconst 1, [], 0), (.iadd, [], 0), (.dup_x2, [], 0), (.iastore, [], 0), (.aload_n 0, [], 0), (.iconst 4, [], 0), (.iload 7, [], 0), (.imul, [], 0), (.iconst 1, [], 0), (.iadd, [], 0), (.iaload, [], 0), (.iastore, [], 0), (.aload 5, [], 0), (.aload 5, [], 0), (.iconst 0, [], 0), (.dup2, [], 0), (.iaload, [], 0), (.iconst 1, [], 0), (.iadd, [], 0), (.dup_x2, [], 0), (.iastore, [], 0), (.aload_n 0, [], 0), (.iconst 4, [], 0), (.iload 7, [], 0), (.imul, [], 0), (.iconst 1, [], 0), (.iadd, [], 0), (.iaload, [], 0), (.iastore, [], 0), (.nop, [123, 1, 1, 1, 1, 1, 1, 1, 0, 1], 0)]),
  (123, [(.iload 8, [], 0), (.iconst 4, [], 0), (.if_icmp .ne 18, [144, 1, 1, 1, 1, 1, 1, 1], 0), (.aload 5, [], 0), (.iconst 0, [], 0), (.iaload, [], 0), (.ifCond .le 11, [144, 1, 1, 1, 1, 1, 1, 1], 0), (.aload 5, [], 0), (.iconst 0, [], 0), (.dup2, [], 0), (.iaload, [], 0), (.iconst 1, [], 0), (.isub, [], 0), (.iastore, [], 0), (.nop, [144, 1, 1, 1, 1, 1, 1, 1], 0)]),
  (144, [(.iinc 6 1, [], 0), (.goto (-139), [8, 1, 1, 1, 1, 1, 1, 1], 0)]),
  (150, [(.return_, [], 0)])]
/-- MindReadersLaw.speech([I[III[I)V -/
def zc_84 : List (Nat × List zE) := [(0, [(.aload_n 0, [], 0), (.aload_n 1, [], 0), (.iconst 2, [], 0), (.bipush 6, [], 0), (.iload_n 2, [], 0), (.imul, [], 0), (.iadd, [], 0), (.aload_n 1, [], 0), (.iconst 1, [], 0), (.bipush 6, [], 0), (.iload_n 2, [], 0), (.imul, [], 0), (.iadd, [], 0), (.iaload, [], 0), (.iload_n 3, [], 0), (.aload 4, [], 0), (.invokestatic 28, [83, 6, 0, 9], 0), (.return_, [], 0)])]
/-- MindReadersLaw.like([I[I)Z -/
def zc_85 : List (Nat × List zE) := [(0, [(.aload_n 0, [], 0), (.iconst 0, [], 0), (.iaload, [], 0), (.aload_n 1, [], 0), (.iconst 0, [], 0), (.iaload, [], 0), (.if_icmp .ne 7, [13, 1, 1], 0), (.iconst 1, [], 0), (.goto 4, [14, 1, 1], 0)]),
  (13, [(.iconst 0, [], 0), (.nop, [14, 1, 1], 0)]),
  (14, [(.istore_n 2, [], 0), (.iconst 1, [], 0), (.istore_n 3, [], 0), (.nop, [17, 1, 1, 1, 1], 0)]),
  (17, [(.iload_n 2, [], 0), (.ifCond .eq 31, [49, 0, 0, 1], 0), (.iload_n 3, [], 0), (.aload_n 0, [], 0), (.iconst 0, [], 0), (.iaload, [], 0), (.if_icmp .gt 24, [49, 0, 0, 1], 0), (.aload_n 0, [], 0), (.iload_n 3, [], 0), (.iaload, [], 0), (.aload_n 1, [], 0), (.iload_n 3, [], 0), (.iaload, [], 0), (.if_icmp .ne 7, [41, 1, 1, 0, 1], 0), (.iconst 1, [], 0), (.goto 4, [42, 1, 1, 0, 1], 0)]),
  (41, [(.iconst 0, [], 0), (.nop, [42, 1, 1, 0, 1], 0)]),
  (42, [(.istore_n 2, [], 0), (.iinc 3 1, [], 0), (.goto (-29), [17, 1, 1, 1, 1], 0)]),
  (49, [(.iload_n 2, [], 0), (.ireturn, [1], 0)])]
/-- MindReadersLaw.seconds([II)I -/
def zc_86 : List (Nat × List zE) := [(0, [(.iload_n 1, [], 0), (.aload_n 0, [], 0), (.bipush 32, [], 0), (.iaload, [], 0), (.if_icmp .ge 13, [18], 0), (.aload_n 0, [], 0), (.iconst 4, [], 0), (.iload_n 1, [], 0), (.imul, [], 0), (.iconst 2, [], 0), (.iadd, [], 0), (.iaload, [], 0), (.goto 4, [19], 0)]),
  (18, [(.iconst 1, [], 0), (.nop, [19], 0)]),
  (19, [(.ireturn, [0], 0)])]
/-- MindReadersLaw.odd([II)I -/
def zc_87 : List (Nat × List zE) := [(0, [(.iload_n 1, [], 0), (.aload_n 0, [], 0), (.bipush 32, [], 0), (.iaload, [], 0), (.if_icmp .ge 13, [18], 0), (.aload_n 0, [], 0), (.iconst 4, [], 0), (.iload_n 1, [], 0), (.imul, [], 0), (.iconst 3, [], 0), (.iadd, [], 0), (.iaload, [], 0), (.goto 4, [19], 0)]),
  (18, [(.iconst 0, [], 0), (.nop, [19], 0)]),
  (19, [(.ireturn, [0], 0)])]
/-- MindReadersLaw.long0([I[II)I -/
def zc_88 : List (Nat × List zE) := [(0, [(.iconst 0, [], 0), (.istore_n 3, [], 0), (.iconst 0, [], 0), (.istore 4, [], 0), (.nop, [5, 1, 1, 1, 1, 1], 0)]),
  (5, [(.iload 4, [], 0), (.aload_n 1, [], 0), (.iconst 1, [], 0), (.bipush 6, [], 0), (.iload_n 2, [], 0), (.imul, [], 0), (.iadd, [], 0), (.iaload, [], 0), (.if_icmp .ge 27, [42, 0, 0, 0, 1], 0), (.iload_n 3, [], 0), (.aload_n 0, [], 0), (.aload_n 1, [], 0), (.iconst 2, [], 0), (.bipush 6, [], 0), (.iload_n 2, [], 0), (.imul, [], 0), (.iadd, [], 0), (.iload 4, [], 0), (.iadd, [], 0), (.iaload, [], 0), (.invokestatic 32, [86, 2, 1, 2], 0), (.iadd, [], 0), (.istore_n 3, [], 0), (.iinc 4 1, [], 0), (.goto (-34), [5, 1, 1, 1, 1, 1], 0)]),
  (42, [(.iload_n 3, [], 0), (.ireturn, [0], 0)])]
/-- MindReadersLaw.share(JJJJ)Z -/
def zc_89 : List (Nat × List zE) := [(0, [(.lload_n 2, [], 0), (.lconst 1, [], 0), (.lcmp, [], 0), (.ifCond .ge 5, [8, 1, 0, 1, 0, 1, 0, 1], 0), (.iconst 0, [], 0), (.ireturn, [1], 0)]),
  (8, [(.lload 6, [], 0), (.lstore 8, [], 0), (.lload 4, [], 0), (.lstore 10, [], 0), (.nop, [16, 1, 0, 1, 0, 1, 0, 1, 0, 1, 0, 1], 0)]),
  (16, [(.lload 10, [], 0), (.lconst 0, [], 0), (.lcmp, [], 0), (.ifCond .eq 21, [41, 1, 0, 1, 0, 1, 0, 1, 0, 1], 0), (.lload 8, [], 0), (.lload 10, [], 0), (.lrem, [], 0), (.lstore 12, [], 0), (.lload 10, [], 0), (.lstore 8, [], 0), (.lload 12, [], 0), (.lstore 10, [], 0), (.goto (-22), [16, 1, 0, 1, 0, 1, 0, 1, 0, 1, 0, 1], 0)]),
  (41, [(.lload_n 0, [], 0), (.lload 4, [], 0), (.lload 8, [], 0), (.ldiv, [], 0), (.lcmp, [], 0), (.ifCond .ne 17, [65], 0), (.lload_n 2, [], 0), (.lload 6, [], 0), (.lload 8, [], 0), (.ldiv, [], 0), (.lcmp, [], 0), (.ifCond .ne 7, [65], 0), (.iconst 1, [], 0), (.goto 4, [66], 0)]),
  (65, [(.iconst 0, [], 0), (.nop, [66], 0)]),
  (66, [(.ireturn, [1], 0)])]
/-- MindReadersLaw.rows(LMindReaders;[I[I[I)Z -/
def zc_90 : List (Nat × List zE) := [(0, [(.bipush 6, [], 0), (.newarray .int, [0], 0), (.astore 4, [], 0), (.bipush 6, [], 0), (.newarray .int, [0], 0), (.astore 5, [], 0), (.bipush 14, [], 0), (.newarray .int, [0], 0), (.astore 6, [], 0), (.bipush 12, [], 0), (.newarray .int, [0], 0), (.astore 7, [], 0), (.iconst 0, [], 0), (.istore 8, [], 0), (.nop, [27, 1, 1, 1, 1, 1, 1, 1, 1, 1], 0)]),
  (27, [(.iload 8, [], 0), (.iconst 4, [], 0), (.if_icmp .ge 391, [421], 0), (.aload_n 1, [], 0), (.bipush 27, [], 0), (.iload 8, [], 0), (.iadd, [], 0), (.invokestatic 8, [78, 2, 1, 2], 0), (.istore 9, [], 0), (.iload 9, [], 0), (.aload_n 3, [], 0), (.iconst 0, [], 0), (.iaload, [], 0), (.invokestatic 14, [79, 2, 1, 2], 0), (.istore 10, [], 0), (.aload_n 3, [], 0), (.iconst 1, [], 0), (.bipush 6, [], 0), (.iload 10, [], 0), (.imul, [], 0), (.iadd, [], 0), (.iaload, [], 0), (.istore 11, [], 0), (.iconst 0, [], 0), (.istore 12, [], 0), (.nop, [68, 1, 1, 1, 1, 1, 1, 1, 1, 1, 1, 1, 1, 1], 0)]),
  (68, [(.iload 12, [], 0), (.iload 11, [], 0), (.if_icmp .ge 26, [98, 1, 1, 1, 1, 1, 1, 1, 1, 1, 1, 0, 1], 0), (.aload 4, [], 0), (.iload 12, [], 0), (.aload_n 3, [], 0), (.iconst 2, [], 0), (.bipush 6, [], 0), (.iload 10, [], 0), (.imul, [], 0), (.iadd, [], 0), (.iload 12, [], 0), (.iadd, [], 0), (.iaload, [], 0), (.iastore, [], 0), (.iinc 12 1, [], 0), (.goto (-27), [68, 1, 1, 1, 1, 1, 1, 1, 1, 1, 1, 1, 1, 1], 0)]),
  (98, [(.iload 9, [], 0), (.iconst 3, [], 0), (.ishr, [], 0), (.iconst 2, [], 0), (.invokestatic 14, [79, 2, 1, 2], 0), (.ifCond .ne 25, [131, 1, 1, 1, 1, 1, 1, 1, 1, 1, 1, 0, 1], 0), (.aload 4, [], 0), (.iload 9, [], 0), (.iconst 4, [], 0), (.ishr, [], 0), (.iload 11, [], 0), (.invokestatic 14, [79, 2, 1, 2], 0), (.iload 9, [], 0), (.bipush 7, [], 0), (.ishr, [], 0), (.bipush 8, [], 0), (.invokestatic 14, [79, 2, 1, 2], 0), (.iastore, [], 0), (.nop, [131, 1, 1, 1, 1, 1, 1, 1, 1, 1, 1, 0, 1], 0)]),
  (131, [(.iload 9, [], 0), (.bipush 10, [], 0), (.ishr, [], 0), (.iconst 5, [], 0), (.invokestatic 14, [79, 2, 1, 2], 0), (.ifCond .ne 6, [146, 1, 1, 1, 1, 1, 1, 1, 1, 1, 0, 0, 1], 0), (.iinc 11 (-1), [], 0), (.nop, [146, 1, 1, 1, 1, 1, 1, 1, 1, 1, 0, 0, 1], 0)]),
  (146, [(.iconst 0, [], 0), (.istore 12, [], 0), (.nop, [149, 1, 1, 1, 1, 1, 1, 1, 1, 1, 0, 0, 1, 1], 0)]),
  (149, [(.iload 12, [], 0), (.iload 11, [], 0), (.if_icmp .ge 22, [175, 1, 1, 1, 1, 1, 1, 1, 1, 1, 0, 0, 1], 0), (.aload 5, [], 0), (.iload 12, [], 0), (.bipush 97, [], 0), (.aload 4, [], 0), (.iload 12, [], 0), (.iaload, [], 0), (.iadd, [], 0), (.iastore, [], 0), (.iinc 12 1, [], 0), (.goto (-23), [149, 1, 1, 1, 1, 1, 1, 1, 1, 1, 0, 0, 1, 1], 0)]),
  (175, [(.aload_n 2, [], 0), (.aload 4, [], 0), (.iconst 0, [], 0), (.iload 11, [], 0), (.iconst 0, [], 0), (.aload 6, [], 0), (.invokestatic 28, [83, 6, 0, 9], 0), (.iconst (-1), [], 0), (.istore 12, [], 0), (.iconst (-1), [], 0), (.istore 13, [], 0), (.bipush 99, [], 0), (.istore 14, [], 0), (.iconst 0, [], 0), (.istore 15, [], 0), (.nop, [200, 1, 1, 1, 1, 1, 1, 1, 1, 1, 0, 0, 1, 1, 1, 1, 1], 0)]),
  (200, [(.iload 15, [], 0), (.aload_n 3, [], 0), (.iconst 0, [], 0), (.iaload, [], 0), (.if_icmp .ge 122, [327, 1, 1, 1, 1, 1, 1, 1, 1, 1, 0, 0, 1, 1, 1], 0), (.aload_n 2, [], 0), (.aload_n 3, [], 0), (.iload 15, [], 0), (.iconst 0, [], 0), (.aload 7, [], 0), (.invokestatic 56, [84, 5, 0, 5], 0), (.aload 6, [], 0), (.aload 7, [], 0), (.invokestatic 67, [85, 2, 1, 4], 0), (.ifCond .eq 12, [237, 1, 1, 1, 1, 1, 1, 1, 1, 1, 0, 0, 1, 1, 1, 1, 1], 0), (.iload 12, [], 0), (.ifCond .ge 7, [237, 1, 1, 1, 1, 1, 1, 1, 1, 1, 0, 0, 1, 1, 1, 1, 1], 0), (.iload 15, [], 0), (.istore 12, [], 0), (.nop, [237, 1, 1, 1, 1, 1, 1, 1, 1, 1, 0, 0, 1, 1, 1, 1, 1], 0)]),
  (237, [(.iconst 0, [], 0), (.istore 16, [], 0), (.iconst 1, [], 0), (.istore 17, [], 0), (.nop, [243, 1, 1, 1, 1, 1, 1, 1, 1, 1, 0, 0, 1, 1, 1, 1, 1, 1, 1], 0)]),
  (243, [(.iload 17, [], 0), (.aload 6, [], 0), (.iconst 0, [], 0), (.iaload, [], 0), (.if_icmp .gt 43, [292, 1, 1, 1, 1, 1, 1, 1, 1, 1, 0, 0, 1, 1, 1, 1, 1, 1], 0), (.aload 6, [], 0), (.iconst 0, [], 0), (.iaload, [], 0), (.aload 7, [], 0), (.iconst 0, [], 0), (.iaload, [], 0), (.if_icmp .ne 32, [292, 1, 1, 1, 1, 1, 1, 1, 1, 1, 0, 0, 1, 1, 1, 1, 1, 1], 0), (.iload 16, [], 0), (.aload 6, [], 0), (.iload 17, [], 0), (.iaload, [], 0), (.aload 7, [], 0), (.iload 17, [], 0), (.iaload, [], 0), (.if_icmp .ne 7, [282, 1, 1, 1, 1, 1, 1, 1, 1, 1, 0, 0, 1, 1, 1, 1, 1, 0, 1], 0), (.iconst 0, [], 0), (.goto 4, [283, 1, 1, 1, 1, 1, 1, 1, 1, 1, 0, 0, 1, 1, 1, 1, 1, 0, 1], 0)]),
  (282, [(.iconst 1, [], 0), (.nop, [283, 1, 1, 1, 1, 1, 1, 1, 1, 1, 0, 0, 1, 1, 1, 1, 1, 0, 1], 0)]),
  (283, [(.iadd, [], 0), (.istore 16, [], 0), (.iinc 17 1, [], 0), (.goto (-46), [243, 1, 1, 1, 1, 1, 1, 1, 1, 1, 0, 0, 1, 1, 1, 1, 1, 1, 1], 0)]),
  (292, [(.aload 6, [], 0), (.iconst 0, [], 0), (.iaload, [], 0), (.aload 7, [], 0), (.iconst 0, [], 0), (.iaload, [], 0), (.if_icmp .ne 21, [321, 1, 1, 1, 1, 1, 1, 1, 1, 1, 0, 0, 1, 1, 1, 1, 1], 0), (.iload 16, [], 0), (.iload 14, [], 0), (.if_icmp .lt 6, [313, 1, 1, 1, 1, 1, 1, 1, 1, 1, 0, 0, 1, 1, 0, 0, 1, 1], 0), (.goto 11, [321, 1, 1, 1, 1, 1, 1, 1, 1, 1, 0, 0, 1, 1, 1, 1, 1], 0)]),
  (313, [(.iload 16, [], 0), (.istore 14, [], 0), (.iload 15, [], 0), (.istore 13, [], 0), (.nop, [321, 1, 1, 1, 1, 1, 1, 1, 1, 1, 0, 0, 1, 1, 1, 1, 1], 0)]),
  (321, [(.iinc 15 1, [], 0), (.goto (-124), [200, 1, 1, 1, 1, 1, 1, 1, 1, 1, 0, 0, 1, 1, 1, 1, 1], 0)]),
  (327, [(.aload_n 0, [], 0), (.aload 5, [], 0), (.iload 11, [], 0), (.invokestatic 44, [82, 3, 1, 4], 0), (.ifCond .eq 78, [413], 0), (.aload_n 0, [], 0), (.iconst 0, [], 0), (.invokevirtual 112, [50, 2, 1, 3, 6], 0), (.iload 12, [], 0), (.if_icmp .ne 68, [413], 0), (.aload_n 0, [], 0), (.iconst 0, [], 0), (.invokevirtual 115, [58, 2, 1, 3, 6], 0), (.iload 13, [], 0), (.if_icmp .ne 58, [413], 0), (.aload_n 0, [], 0), (.ldc2_w 118, [], 120), (.invokevirtual 24, [44, 2, 1, 5, 6], 0), (.iload 11, [], 0), (.iconst 1, [], 0), (.iadd, [], 0), (.if_icmp .ne 44, [413], 0), (.aload_n 0, [], 0), (.iconst 0, [], 0), (.invokevirtual 112, [50, 2, 1, 3, 6], 0), (.bipush (-103), [], 0), (.if_icmp .ne 34, [413], 0), (.aload_n 0, [], 0), (.iconst 0, [], 0), (.invokevirtual 115, [58, 2, 1, 3, 6], 0), (.bipush (-103), [], 0), (.if_icmp .ne 24, [413], 0), (.aload_n 0, [], 0), (.iconst 1, [], 0), (.invokevirtual 112, [50, 2, 1, 3, 6], 0), (.bipush (-101), [], 0), (.if_icmp .ne 14, [413], 0), (.aload_n 0, [], 0), (.invokevirtual 120, [45, 1, 1, 2, 6], 0), (.iload 11, [], 0), (.iconst 1, [], 0), (.iadd, [], 0), (.if_icmp .eq 5, [415, 1, 1, 1, 1, 1, 1, 1, 1, 1], 0), (.nop, [413], 0)]),
  (413, [(.iconst 0, [], 0), (.ireturn, [1], 0)]),
  (415, [(.iinc 8 1, [], 0), (.goto (-391), [27, 1, 1, 1, 1, 1, 1, 1, 1, 1], 0)]),
  (421, [(.iconst 1, [], 0), (.ireturn, [1], 0)])]
/-- MindReadersLaw.twice(LMindReaders;[I[I)Z -/
def zc_91 : List (Nat × List zE) := [(0, [(.bipush 12, [], 0), (.newarray .int, [0], 0), (.astore_n 3, [], 0), (.bipush 12, [], 0), (.newarray .int, [0], 0), (.astore 4, [], 0), (.bipush 64, [], 0), (.newarray .int, [0], 0), (.astore 5, [], 0), (.bipush 32, [], 0), (.newarray .int, [0], 0), (.astore 6, [], 0), (.iconst 0, [], 0), (.istore 7, [], 0), (.nop, [26, 1, 1, 1, 1, 1, 1, 1, 1], 0)]),
  (26, [(.iload 7, [], 0), (.bipush 64, [], 0), (.if_icmp .ge 17, [47, 1, 1, 1, 1, 1, 1, 1], 0), (.aload 5, [], 0), (.iload 7, [], 0), (.sipush 999, [], 0), (.iastore, [], 0), (.iinc 7 1, [], 0), (.goto (-18), [26, 1, 1, 1, 1, 1, 1, 1, 1], 0)]),
  (47, [(.iconst 0, [], 0), (.istore 7, [], 0), (.nop, [50, 1, 1, 1, 1, 1, 1, 1, 1], 0)]),
  (50, [(.iload 7, [], 0), (.bipush 32, [], 0), (.if_icmp .ge 17, [71, 1, 1, 1, 1, 1, 1, 1], 0), (.aload 6, [], 0), (.iload 7, [], 0), (.sipush 999, [], 0), (.iastore, [], 0), (.iinc 7 1, [], 0), (.goto (-18), [50, 1, 1, 1, 1, 1, 1, 1, 1], 0)]),
  (71, [(.sipush 999, [], 0), (.istore 7, [], 0), (.iconst 0, [], 0), (.istore 8, [], 0), (.nop, [79, 1, 1, 1, 1, 1, 1, 1, 1, 1], 0)]),
  (79, [(.iload 8, [], 0), (.aload_n 2, [], 0), (.iconst 0, [], 0), (.iaload, [], 0), (.if_icmp .ge 200, [284, 1, 1, 1, 1, 1, 1, 1, 1], 0), (.iconst 0, [], 0), (.istore 9, [], 0), (.nop, [90, 1, 1, 1, 1, 1, 1, 1, 1, 1, 1], 0)]),
  (90, [(.iload 9, [], 0), (.aload_n 2, [], 0), (.iconst 0, [], 0), (.iaload, [], 0), (.if_icmp .ge 183, [278, 1, 1, 1, 1, 1, 1, 1, 1, 1], 0), (.aload_n 1, [], 0), (.aload_n 2, [], 0), (.iload 8, [], 0), (.iconst 0, [], 0), (.aload_n 3, [], 0), (.invokestatic 56, [84, 5, 0, 5], 0), (.aload_n 1, [], 0), (.aload_n 2, [], 0), (.iload 9, [], 0), (.iconst 0, [], 0), (.aload 4, [], 0), (.invokestatic 56, [84, 5, 0, 5], 0), (.iload 8, [], 0), (.iload 9, [], 0), (.if_icmp .eq 151, [272, 1, 1, 1, 1, 1, 1, 1, 1, 1, 1], 0), (.aload_n 3, [], 0), (.iconst 0, [], 0), (.iaload, [], 0), (.ifCond .eq 145, [272, 1, 1, 1, 1, 1, 1, 1, 1, 1, 1], 0), (.aload_n 3, [], 0), (.iconst 0, [], 0), (.iaload, [], 0), (.aload 4, [], 0), (.iconst 0, [], 0), (.iaload, [], 0), (.if_icmp .le 6, [143, 1, 1, 1, 1, 1, 1, 1, 1, 1, 1], 0), (.goto 132, [272, 1, 1, 1, 1, 1, 1, 1, 1, 1, 1], 0)]),
  (143, [(.iconst 1, [], 0), (.istore 10, [], 0), (.iconst 1, [], 0), (.istore 11, [], 0), (.nop, [149, 1, 1, 1, 1, 1, 1, 1, 1, 1, 1, 1, 1], 0)]),
  (149, [(.iload 11, [], 0), (.aload_n 3, [], 0), (.iconst 0, [], 0), (.iaload, [], 0), (.if_icmp .gt 31, [185, 1, 1, 1, 1, 1, 1, 1, 1, 1, 1, 1], 0), (.iload 10, [], 0), (.aload_n 3, [], 0), (.iload 11, [], 0), (.iaload, [], 0), (.aload 4, [], 0), (.iload 11, [], 0), (.iaload, [], 0), (.if_icmp .ne 7, [175, 1, 1, 1, 1, 1, 1, 1, 1, 1, 1, 0, 1], 0), (.iconst 1, [], 0), (.goto 4, [176, 1, 1, 1, 1, 1, 1, 1, 1, 1, 1, 0, 1], 0)]),
  (175, [(.iconst 0, [], 0), (.nop, [176, 1, 1, 1, 1, 1, 1, 1, 1, 1, 1, 0, 1], 0)]),
  (176, [(.iand, [], 0), (.istore 10, [], 0), (.iinc 11 1, [], 0), (.goto (-33), [149, 1, 1, 1, 1, 1, 1, 1, 1, 1, 1, 1, 1], 0)]),
  (185, [(.iload 10, [], 0), (.ifCond .ne 6, [193, 1, 1, 1, 1, 1, 1, 1, 1, 1, 1], 0), (.goto 82, [272, 1, 1, 1, 1, 1, 1, 1, 1, 1, 1], 0)]),
  (193, [(.aload_n 3, [], 0), (.iconst 0, [], 0), (.iaload, [], 0), (.aload 4, [], 0), (.iconst 0, [], 0), (.iaload, [], 0), (.if_icmp .ne 26, [226, 1, 1, 1, 1, 1, 1, 1, 1, 1, 1], 0), (.aload 4, [], 0), (.iconst 0, [], 0), (.iaload, [], 0), (.iload 7, [], 0), (.if_icmp .ge 10, [219, 1, 1, 1, 1, 1, 1, 1, 1, 1, 1], 0), (.aload 4, [], 0), (.iconst 0, [], 0), (.iaload, [], 0), (.goto 5, [221, 1, 1, 1, 1, 1, 1, 1, 0, 1, 1], 0)]),
  (219, [(.iload 7, [], 0), (.nop, [221, 1, 1, 1, 1, 1, 1, 1, 0, 1, 1], 0)]),
  (221, [(.istore 7, [], 0), (.goto 49, [272, 1, 1, 1, 1, 1, 1, 1, 1, 1, 1], 0)]),
  (226, [(.aload_n 3, [], 0), (.iconst 0, [], 0), (.iaload, [], 0), (.bipush 8, [], 0), (.if_icmp .ge 22, [253, 1, 1, 1, 1, 1, 1, 1, 1, 1, 1], 0), (.aload 5, [], 0), (.bipush 8, [], 0), (.aload_n 3, [], 0), (.iconst 0, [], 0), (.iaload, [], 0), (.imul, [], 0), (.iload 9, [], 0), (.iadd, [], 0), (.aload 4, [], 0), (.iconst 0, [], 0), (.iaload, [], 0), (.iastore, [], 0), (.goto 22, [272, 1, 1, 1, 1, 1, 1, 1, 1, 1, 1], 0)]),
  (253, [(.aload 6, [], 0), (.bipush 8, [], 0), (.aload_n 3, [], 0), (.iconst 0, [], 0), (.iaload, [], 0), (.imul, [], 0), (.bipush 64, [], 0), (.isub, [], 0), (.iload 9, [], 0), (.iadd, [], 0), (.aload 4, [], 0), (.iconst 0, [], 0), (.iaload, [], 0), (.iastore, [], 0), (.nop, [272, 1, 1, 1, 1, 1, 1, 1, 1, 1, 1], 0)]),
  (272, [(.iinc 9 1, [], 0), (.goto (-185), [90, 1, 1, 1, 1, 1, 1, 1, 1, 1, 1], 0)]),
  (278, [(.iinc 8 1, [], 0), (.goto (-202), [79, 1, 1, 1, 1, 1, 1, 1, 1, 1], 0)]),
  (284, [(.iconst 1, [], 0), (.istore 8, [], 0), (.nop, [287, 1, 1, 1, 1, 1, 1, 1, 1, 1], 0)]),
  (287, [(.iload 8, [], 0), (.ifCond .eq 398, [687, 1, 0, 0, 0, 0, 0, 0, 1], 0), (.iconst 0, [], 0), (.istore 8, [], 0), (.iconst 0, [], 0), (.istore 9, [], 0), (.nop, [298, 1, 1, 1, 1, 1, 1, 1, 1, 1, 1], 0)]),
  (298, [(.iload 9, [], 0), (.aload_n 2, [], 0), (.iconst 0, [], 0), (.iaload, [], 0), (.if_icmp .ge 381, [684, 1, 1, 1, 1, 1, 1, 1, 1, 1], 0), (.iconst 1, [], 0), (.istore 10, [], 0), (.nop, [309, 1, 1, 1, 1, 1, 1, 1, 1, 1, 1, 1], 0)]),
  (309, [(.iload 10, [], 0), (.bipush 11, [], 0), (.if_icmp .ge 365, [678, 1, 1, 1, 1, 1, 1, 1, 1, 1, 1], 0), (.iload 10, [], 0), (.bipush 8, [], 0), (.if_icmp .ge 17, [337, 1, 1, 1, 1, 1, 1, 1, 1, 1, 1, 1], 0), (.aload 5, [], 0), (.bipush 8, [], 0), (.iload 10, [], 0), (.imul, [], 0), (.iload 9, [], 0), (.iadd, [], 0), (.iaload, [], 0), (.goto 17, [351, 1, 1, 1, 1, 1, 1, 1, 1, 1, 1, 1], 0)]),
  (337, [(.aload 6, [], 0), (.bipush 8, [], 0), (.iload 10, [], 0), (.imul, [], 0), (.bipush 64, [], 0), (.isub, [], 0), (.iload 9, [], 0), (.iadd, [], 0), (.iaload, [], 0), (.nop, [351, 1, 1, 1, 1, 1, 1, 1, 1, 1, 1, 1], 0)]),
  (351, [(.istore 11, [], 0), (.iload 11, [], 0), (.iload 7, [], 0), (.if_icmp .lt 6, [363, 1, 1, 1, 1, 1, 1, 1, 1, 1, 1, 1, 1], 0), (.goto 312, [672, 1, 1, 1, 1, 1, 1, 1, 1, 1, 1, 1], 0)]),
  (363, [(.aload_n 1, [], 0), (.aload_n 2, [], 0), (.iload 9, [], 0), (.iconst 0, [], 0), (.aload 4, [], 0), (.invokestatic 56, [84, 5, 0, 5], 0), (.iconst 0, [], 0), (.istore 12, [], 0), (.nop, [376, 1, 1, 1, 1, 1, 1, 1, 1, 1, 1, 1, 1, 1], 0)]),
  (376, [(.iload 12, [], 0), (.aload_n 2, [], 0), (.iconst 0, [], 0), (.iaload, [], 0), (.if_icmp .ge 291, [672, 1, 1, 1, 1, 1, 1, 1, 1, 1, 1, 1], 0), (.aload_n 1, [], 0), (.aload_n 2, [], 0), (.iload 12, [], 0), (.iconst 0, [], 0), (.aload_n 3, [], 0), (.invokestatic 56, [84, 5, 0, 5], 0), (.aload 4, [], 0), (.iconst 0, [], 0), (.iaload, [], 0), (.iload 10, [], 0), (.isub, [], 0), (.istore 13, [], 0), (.aload_n 3, [], 0), (.iconst 0, [], 0), (.iaload, [], 0), (.ifCond .ne 6, [411, 1, 1, 1, 1, 1, 1, 1, 1, 1, 1, 1, 1, 1, 1], 0), (.goto 258, [666, 1, 1, 1, 1, 1, 1, 1, 1, 1, 1, 1, 1, 1], 0)]),
  (411, [(.iconst 1, [], 0), (.istore 14, [], 0), (.iconst 1, [], 0), (.istore 15, [], 0), (.nop, [417, 1, 1, 1, 1, 1, 1, 1, 1, 1, 1, 1, 1, 1, 1, 1, 1], 0)]),
  (417, [(.iload 15, [], 0), (.aload_n 3, [], 0), (.iconst 0, [], 0), (.iaload, [], 0), (.if_icmp .gt 41, [463, 1, 1, 1, 1, 1, 1, 1, 1, 1, 1, 1, 1, 1, 1, 1], 0), (.iload 15, [], 0), (.iload 13, [], 0), (.if_icmp .gt 34, [463, 1, 1, 1, 1, 1, 1, 1, 1, 1, 1, 1, 1, 1, 1, 1], 0), (.iload 14, [], 0), (.aload_n 3, [], 0), (.iload 15, [], 0), (.iaload, [], 0), (.aload 4, [], 0), (.iload 10, [], 0), (.iload 15, [], 0), (.iadd, [], 0), (.iaload, [], 0), (.if_icmp .ne 7, [453, 1, 1, 1, 1, 1, 1, 1, 1, 1, 1, 1, 1, 1, 1, 0, 1], 0), (.iconst 1, [], 0), (.goto 4, [454, 1, 1, 1, 1, 1, 1, 1, 1, 1, 1, 1, 1, 1, 1, 0, 1], 0)]),
  (453, [(.iconst 0, [], 0), (.nop, [454, 1, 1, 1, 1, 1, 1, 1, 1, 1, 1, 1, 1, 1, 1, 0, 1], 0)]),
  (454, [(.iand, [], 0), (.istore 14, [], 0), (.iinc 15 1, [], 0), (.goto (-43), [417, 1, 1, 1, 1, 1, 1, 1, 1, 1, 1, 1, 1, 1, 1, 1, 1], 0)]),
  (463, [(.iload 14, [], 0), (.ifCond .ne 6, [471, 1, 1, 1, 1, 1, 1, 1, 1, 1, 1, 1, 1, 1, 1], 0), (.goto 198, [666, 1, 1, 1, 1, 1, 1, 1, 1, 1, 1, 1, 1, 1], 0)]),
  (471, [(.aload_n 3, [], 0), (.iconst 0, [], 0), (.iaload, [], 0), (.iload 13, [], 0), (.if_icmp .ne 39, [515, 1, 1, 1, 1, 1, 1, 1, 1, 1, 1, 1, 1, 1, 1], 0), (.iload 8, [], 0), (.iload 11, [], 0), (.iload 7, [], 0), (.if_icmp .ge 7, [492, 1, 1, 1, 1, 1, 1, 1, 1, 0, 1, 1, 1, 1], 0), (.iconst 1, [], 0), (.goto 4, [493, 1, 1, 1, 1, 1, 1, 1, 1, 0, 1, 1, 1, 1], 0)]),
  (492, [(.iconst 0, [], 0), (.nop, [493, 1, 1, 1, 1, 1, 1, 1, 1, 0, 1, 1, 1, 1], 0)]),
  (493, [(.ior, [], 0), (.istore 8, [], 0), (.iload 11, [], 0), (.iload 7, [], 0), (.if_icmp .ge 8, [508, 1, 1, 1, 1, 1, 1, 1, 1, 1, 1, 1, 1, 1], 0), (.iload 11, [], 0), (.goto 5, [510, 1, 1, 1, 1, 1, 1, 1, 0, 1, 1, 1, 1, 1], 0)]),
  (508, [(.iload 7, [], 0), (.nop, [510, 1, 1, 1, 1, 1, 1, 1, 0, 1, 1, 1, 1, 1], 0)]),
  (510, [(.istore 7, [], 0), (.goto 154, [666, 1, 1, 1, 1, 1, 1, 1, 1, 1, 1, 1, 1, 1], 0)]),
  (515, [(.aload_n 3, [], 0), (.iconst 0, [], 0), (.iaload, [], 0), (.iload 13, [], 0), (.if_icmp .ge 12, [532, 1, 1, 1, 1, 1, 1, 1, 1, 1, 1, 1, 1, 1, 1], 0), (.iload 10, [], 0), (.aload_n 3, [], 0), (.iconst 0, [], 0), (.iaload, [], 0), (.iadd, [], 0), (.goto 5, [534, 1, 1, 1, 1, 1, 1, 1, 1, 1, 1, 1, 1, 1, 1], 0)]),
  (532, [(.iload 13, [], 0), (.nop, [534, 1, 1, 1, 1, 1, 1, 1, 1, 1, 1, 1, 1, 1, 1], 0)]),
  (534, [(.istore 15, [], 0), (.aload_n 3, [], 0), (.iconst 0, [], 0), (.iaload, [], 0), (.iload 13, [], 0), (.if_icmp .ge 8, [549, 1, 1, 1, 1, 1, 1, 1, 1, 1, 1, 1, 1, 1, 1, 0, 1], 0), (.iload 9, [], 0), (.goto 5, [551, 1, 1, 1, 1, 1, 1, 1, 1, 1, 1, 1, 1, 1, 1, 0, 1], 0)]),
  (549, [(.iload 12, [], 0), (.nop, [551, 1, 1, 1, 1, 1, 1, 1, 1, 1, 1, 1, 1, 1, 1, 0, 1], 0)]),
  (551, [(.istore 16, [], 0), (.aload_n 3, [], 0), (.iconst 0, [], 0), (.iaload, [], 0), (.iload 13, [], 0), (.if_icmp .ge 8, [566, 1, 1, 1, 1, 1, 1, 1, 1, 1, 1, 1, 1, 1, 1, 0, 1, 1], 0), (.iload 11, [], 0), (.goto 12, [575, 1, 1, 1, 1, 1, 1, 1, 1, 1, 1, 1, 1, 1, 0, 0, 1, 1], 0)]),
  (566, [(.iload 11, [], 0), (.aload_n 3, [], 0), (.iconst 0, [], 0), (.iaload, [], 0), (.iadd, [], 0), (.iload 13, [], 0), (.isub, [], 0), (.nop, [575, 1, 1, 1, 1, 1, 1, 1, 1, 1, 1, 1, 1, 1, 0, 0, 1, 1], 0)]),
  (575, [(.istore 17, [], 0), (.iload 15, [], 0), (.bipush 8, [], 0), (.if_icmp .ge 17, [598, 1, 1, 1, 1, 1, 1, 1, 1, 1, 1, 1, 1, 1, 0, 0, 1, 1, 1], 0), (.aload 5, [], 0), (.bipush 8, [], 0), (.iload 15, [], 0), (.imul, [], 0), (.iload 16, [], 0), (.iadd, [], 0), (.iaload, [], 0), (.goto 17, [612, 1, 1, 1, 1, 1, 1, 1, 1, 1, 1, 1, 1, 1, 0, 0, 1, 1, 1], 0)]),
  (598, [(.aload 6, [], 0), (.bipush 8, [], 0), (.iload 15, [], 0), (.imul, [], 0), (.bipush 64, [], 0), (.isub, [], 0), (.iload 16, [], 0), (.iadd, [], 0), (.iaload, [], 0), (.nop, [612, 1, 1, 1, 1, 1, 1, 1, 1, 1, 1, 1, 1, 1, 0, 0, 1, 1, 1], 0)]),
  (612, [(.istore 18, [], 0), (.iload 17, [], 0), (.iload 18, [], 0), (.if_icmp .lt 6, [624, 1, 1, 1, 1, 1, 1, 1, 1, 0, 1, 1, 1, 1, 0, 0, 1, 1, 1], 0), (.goto 45, [666, 1, 1, 1, 1, 1, 1, 1, 1, 1, 1, 1, 1, 1], 0)]),
  (624, [(.iload 15, [], 0), (.bipush 8, [], 0), (.if_icmp .ge 19, [647, 1, 1, 1, 1, 1, 1, 1, 1, 0, 1, 1, 1, 1, 0, 0, 1, 1, 1], 0), (.aload 5, [], 0), (.bipush 8, [], 0), (.iload 15, [], 0), (.imul, [], 0), (.iload 16, [], 0), (.iadd, [], 0), (.iload 17, [], 0), (.iastore, [], 0), (.goto 19, [663, 1, 1, 1, 1, 1, 1, 1, 1, 0, 1, 1, 1, 1], 0)]),
  (647, [(.aload 6, [], 0), (.bipush 8, [], 0), (.iload 15, [], 0), (.imul, [], 0), (.bipush 64, [], 0), (.isub, [], 0), (.iload 16, [], 0), (.iadd, [], 0), (.iload 17, [], 0), (.iastore, [], 0), (.nop, [663, 1, 1, 1, 1, 1, 1, 1, 1, 0, 1, 1, 1, 1], 0)]),
  (663, [(.iconst 1, [], 0), (.istore 8, [], 0), (.nop, [666, 1, 1, 1, 1, 1, 1, 1, 1, 1, 1, 1, 1, 1], 0)]),
  (666, [(.iinc 12 1, [], 0), (.goto (-293), [376, 1, 1, 1, 1, 1, 1, 1, 1, 1, 1, 1, 1, 1], 0)]),
  (672, [(.iinc 10 1, [], 0), (.goto (-366), [309, 1, 1, 1, 1, 1, 1, 1, 1, 1, 1, 1], 0)]),
  (678, [(.iinc 9 1, [], 0), (.goto (-383), [298, 1, 1, 1, 1, 1, 1, 1, 1, 1, 1], 0)]),
  (684, [(.goto (-397), [287, 1, 1, 1, 1, 1, 1, 1, 1, 1], 0)]),
  (687, [(.aload_n 0, [], 0), (.iconst 0, [], 0), (.invokevirtual 95, [53, 2, 1, 3, 6], 0), (.iload 7, [], 0), (.sipush 999, [], 0), (.if_icmp .ne 7, [704, 0, 0, 0, 0, 0, 0, 0, 1], 0), (.iconst (-1), [], 0), (.goto 5, [706], 0)]),
  (704, [(.iload 7, [], 0), (.nop, [706], 0)]),
  (706, [(.if_icmp .ne 7, [713], 0), (.iconst 1, [], 0), (.goto 4, [714], 0)]),
  (713, [(.iconst 0, [], 0), (.nop, [714], 0)]),
  (714, [(.ireturn, [1], 0)])]
/-- MindReadersLaw.lengths(LMindReaders;[I[I[II)Z -/
def zc_92 : List (Nat × List zE) := [(0, [(.aload_n 2, [], 0), (.iconst 0, [], 0), (.iaload, [], 0), (.iload 4, [], 0), (.if_icmp .ge 9, [14, 1, 1, 1, 1, 1], 0), (.aload_n 2, [], 0), (.iconst 0, [], 0), (.iaload, [], 0), (.goto 5, [16, 1, 1, 1, 1], 0)]),
  (14, [(.iload 4, [], 0), (.nop, [16, 1, 1, 1, 1], 0)]),
  (16, [(.istore 5, [], 0), (.iconst 0, [], 0), (.istore 6, [], 0), (.iconst 0, [], 0), (.istore 7, [], 0), (.iconst 0, [], 0), (.istore 8, [], 0), (.iconst 0, [], 0), (.istore 9, [], 0), (.nop, [30, 1, 1, 1, 1, 0, 1, 1, 1, 1, 1], 0)]),
  (30, [(.iload 9, [], 0), (.iload 5, [], 0), (.if_icmp .ge 84, [118, 1, 1, 1, 1, 0, 1, 1, 1, 1], 0), (.iload 6, [], 0), (.aload_n 3, [], 0), (.iload 9, [], 0), (.iaload, [], 0), (.aload_n 1, [], 0), (.aload_n 2, [], 0), (.iload 9, [], 0), (.invokestatic 63, [88, 3, 1, 5], 0), (.imul, [], 0), (.iadd, [], 0), (.istore 6, [], 0), (.iload 8, [], 0), (.aload_n 3, [], 0), (.iload 9, [], 0), (.iaload, [], 0), (.iadd, [], 0), (.istore 8, [], 0), (.iconst 0, [], 0), (.istore 10, [], 0), (.nop, [66, 1, 1, 1, 1, 0, 1, 1, 1, 1, 1, 1], 0)]),
  (66, [(.iload 10, [], 0), (.aload_n 2, [], 0), (.iconst 1, [], 0), (.bipush 6, [], 0), (.iload 9, [], 0), (.imul, [], 0), (.iadd, [], 0), (.iaload, [], 0), (.if_icmp .ge 35, [112, 1, 1, 1, 1, 0, 1, 1, 1, 1, 1], 0), (.iload 7, [], 0), (.aload_n 3, [], 0), (.iload 9, [], 0), (.iaload, [], 0), (.aload_n 1, [], 0), (.aload_n 2, [], 0), (.iconst 2, [], 0), (.bipush 6, [], 0), (.iload 9, [], 0), (.imul, [], 0), (.iadd, [], 0), (.iload 10, [], 0), (.iadd, [], 0), (.iaload, [], 0), (.invokestatic 123, [87, 2, 1, 2], 0), (.imul, [], 0), (.iadd, [], 0), (.istore 7, [], 0), (.iinc 10 1, [], 0), (.goto (-43), [66, 1, 1, 1, 1, 0, 1, 1, 1, 1, 1, 1], 0)]),
  (112, [(.iinc 9 1, [], 0), (.goto (-85), [30, 1, 1, 1, 1, 0, 1, 1, 1, 1, 1], 0)]),
  (118, [(.aload_n 0, [], 0), (.iconst 0, [], 0), (.invokevirtual 109, [55, 2, 1, 6, 6], 0), (.iload 7, [], 0), (.if_icmp .eq 5, [130, 1, 1, 1, 1, 0, 1, 1, 0, 1], 0), (.iconst 0, [], 0), (.ireturn, [1], 0)]),
  (130, [(.iload 5, [], 0), (.ifCond .ne 32, [164, 1, 1, 1, 1, 0, 1, 1, 0, 1], 0), (.aload_n 0, [], 0), (.iconst 0, [], 0), (.iconst 0, [], 0), (.invokevirtual 103, [54, 3, 1, 8, 6], 0), (.bipush (-103), [], 0), (.if_icmp .ne 19, [162], 0), (.aload_n 0, [], 0), (.iconst 0, [], 0), (.bipush 10, [], 0), (.invokevirtual 106, [56, 3, 1, 8, 6], 0), (.bipush (-103), [], 0), (.if_icmp .ne 7, [162], 0), (.iconst 1, [], 0), (.goto 4, [163], 0)]),
  (162, [(.iconst 0, [], 0), (.nop, [163], 0)]),
  (163, [(.ireturn, [1], 0)]),
  (164, [(.aload_n 0, [], 0), (.iconst 0, [], 0), (.iconst 0, [], 0), (.invokevirtual 103, [54, 3, 1, 8, 6], 0), (.i2l, [], 0), (.aload_n 0, [], 0), (.iconst 0, [], 0), (.iconst 1, [], 0), (.invokevirtual 103, [54, 3, 1, 8, 6], 0), (.i2l, [], 0), (.iload 6, [], 0), (.i2l, [], 0), (.iload 8, [], 0), (.i2l, [], 0), (.invokestatic 126, [89, 4, 1, 14], 0), (.ifCond .ne 5, [192, 1, 1, 1, 1, 0, 1, 0, 0, 1], 0), (.iconst 0, [], 0), (.ireturn, [1], 0)]),
  (192, [(.iconst 1, [], 0), (.istore 9, [], 0), (.iconst 0, [], 0), (.istore 10, [], 0), (.nop, [198, 1, 1, 1, 1, 0, 1, 0, 0, 1, 1, 1], 0)]),
  (198, [(.iload 10, [], 0), (.iload 5, [], 0), (.if_icmp .ge 16, [218, 1, 1, 1, 1, 0, 1, 0, 0, 1, 1], 0), (.iload 9, [], 0), (.iload 5, [], 0), (.imul, [], 0), (.istore 9, [], 0), (.iinc 10 1, [], 0), (.goto (-17), [198, 1, 1, 1, 1, 0, 1, 0, 0, 1, 1, 1], 0)]),
  (218, [(.iconst (-1), [], 0), (.istore 10, [], 0), (.iconst 0, [], 0), (.istore 11, [], 0), (.nop, [224, 1, 1, 1, 1, 0, 1, 0, 0, 1, 1, 1, 1], 0)]),
  (224, [(.iload 11, [], 0), (.iload 9, [], 0), (.if_icmp .ge 104, [332, 1, 1, 1, 1, 0, 1, 0, 0, 1, 0, 1], 0), (.iconst 0, [], 0), (.istore 12, [], 0), (.iconst 0, [], 0), (.istore 13, [], 0), (.iload 11, [], 0), (.istore 14, [], 0), (.iconst 0, [], 0), (.istore 15, [], 0), (.nop, [244, 1, 1, 1, 1, 0, 1, 0, 0, 1, 1, 1, 1, 1, 1, 1, 1], 0)]),
  (244, [(.iload 15, [], 0), (.iload 5, [], 0), (.if_icmp .ge 48, [296, 1, 1, 1, 1, 0, 1, 0, 0, 1, 1, 1, 1, 1, 1], 0), (.iload 12, [], 0), (.iconst 1, [], 0), (.iload 14, [], 0), (.iload 5, [], 0), (.irem, [], 0), (.ishl, [], 0), (.ior, [], 0), (.istore 12, [], 0), (.iload 13, [], 0), (.aload_n 3, [], 0), (.iload 15, [], 0), (.iaload, [], 0), (.aload_n 1, [], 0), (.aload_n 2, [], 0), (.iload 14, [], 0), (.iload 5, [], 0), (.irem, [], 0), (.invokestatic 63, [88, 3, 1, 5], 0), (.imul, [], 0), (.iadd, [], 0), (.istore 13, [], 0), (.iload 14, [], 0), (.iload 5, [], 0), (.idiv, [], 0), (.istore 14, [], 0), (.iinc 15 1, [], 0), (.goto (-49), [244, 1, 1, 1, 1, 0, 1, 0, 0, 1, 1, 1, 1, 1, 1, 1, 1], 0)]),
  (296, [(.iload 12, [], 0), (.iconst 1, [], 0), (.iadd, [], 0), (.iconst 1, [], 0), (.iload 5, [], 0), (.ishl, [], 0), (.if_icmp .lt 22, [326, 1, 1, 1, 1, 0, 1, 0, 0, 1, 1, 1, 1], 0), (.iload 10, [], 0), (.ifCond .lt 13, [322, 1, 1, 1, 1, 0, 1, 0, 0, 1, 1, 0, 1, 0, 1], 0), (.iload 13, [], 0), (.iload 10, [], 0), (.if_icmp .lt 6, [322, 1, 1, 1, 1, 0, 1, 0, 0, 1, 1, 0, 1, 0, 1], 0), (.goto 7, [326, 1, 1, 1, 1, 0, 1, 0, 0, 1, 1, 1, 1], 0)]),
  (322, [(.iload 13, [], 0), (.istore 10, [], 0), (.nop, [326, 1, 1, 1, 1, 0, 1, 0, 0, 1, 1, 1, 1], 0)]),
  (326, [(.iinc 11 1, [], 0), (.goto (-105), [224, 1, 1, 1, 1, 0, 1, 0, 0, 1, 1, 1, 1], 0)]),
  (332, [(.aload_n 0, [], 0), (.iconst 0, [], 0), (.iconst 0, [], 0), (.invokevirtual 106, [56, 3, 1, 8, 6], 0), (.i2l, [], 0), (.aload_n 0, [], 0), (.iconst 0, [], 0), (.iconst 1, [], 0), (.invokevirtual 106, [56, 3, 1, 8, 6], 0), (.i2l, [], 0), (.iload 10, [], 0), (.i2l, [], 0), (.iload 8, [], 0), (.i2l, [], 0), (.invokestatic 126, [89, 4, 1, 14], 0), (.ifCond .ne 5, [360, 1, 1, 1, 1, 0, 1], 0), (.iconst 0, [], 0), (.ireturn, [1], 0)]),
  (360, [(.iconst 0, [], 0), (.istore 11, [], 0), (.nop, [363, 1, 1, 1, 1, 0, 1, 0, 0, 0, 0, 0, 1], 0)]),
  (363, [(.iload 11, [], 0), (.bipush 8, [], 0), (.if_icmp .ge 168, [535], 0), (.iconst (-1), [], 0), (.istore 12, [], 0), (.iconst 0, [], 0), (.istore 13, [], 0), (.nop, [376, 1, 1, 1, 1, 0, 1, 0, 0, 0, 0, 0, 1, 1, 1], 0)]),
  (376, [(.iload 13, [], 0), (.iload 5, [], 0), (.if_icmp .ge 132, [512, 1, 1, 1, 1, 0, 1, 0, 0, 0, 0, 0, 1, 1], 0), (.iload 11, [], 0), (.iload 5, [], 0), (.if_icmp .ge 125, [512, 1, 1, 1, 1, 0, 1, 0, 0, 0, 0, 0, 1, 1], 0), (.iconst 0, [], 0), (.istore 14, [], 0), (.iconst 0, [], 0), (.istore 15, [], 0), (.iconst 0, [], 0), (.istore 16, [], 0), (.nop, [399, 1, 1, 1, 1, 0, 1, 0, 0, 0, 0, 0, 1, 1, 1, 1, 1, 1], 0)]),
  (399, [(.iload 16, [], 0), (.iload 5, [], 0), (.if_icmp .ge 92, [495, 1, 1, 1, 1, 0, 1, 0, 0, 0, 0, 0, 1, 1, 1, 1, 1], 0), (.iload 14, [], 0), (.aload_n 3, [], 0), (.iload 16, [], 0), (.iaload, [], 0), (.aload_n 3, [], 0), (.iload 11, [], 0), (.iaload, [], 0), (.if_icmp .gt 21, [437, 1, 1, 1, 1, 0, 1, 0, 0, 0, 0, 0, 1, 1, 1, 0, 1, 1], 0), (.aload_n 3, [], 0), (.iload 16, [], 0), (.iaload, [], 0), (.aload_n 3, [], 0), (.iload 11, [], 0), (.iaload, [], 0), (.if_icmp .ne 14, [441, 1, 1, 1, 1, 0, 1, 0, 0, 0, 0, 0, 1, 1, 1, 0, 1, 1], 0), (.iload 16, [], 0), (.iload 11, [], 0), (.if_icmp .ge 7, [441, 1, 1, 1, 1, 0, 1, 0, 0, 0, 0, 0, 1, 1, 1, 0, 1, 1], 0), (.nop, [437, 1, 1, 1, 1, 0, 1, 0, 0, 0, 0, 0, 1, 1, 1, 0, 1, 1], 0)]),
  (437, [(.iconst 1, [], 0), (.goto 4, [442, 1, 1, 1, 1, 0, 1, 0, 0, 0, 0, 0, 1, 1, 1, 0, 1, 1], 0)]),
  (441, [(.iconst 0, [], 0), (.nop, [442, 1, 1, 1, 1, 0, 1, 0, 0, 0, 0, 0, 1, 1, 1, 0, 1, 1], 0)]),
  (442, [(.iadd, [], 0), (.istore 14, [], 0), (.aload_n 1, [], 0), (.aload_n 2, [], 0), (.iload 16, [], 0), (.invokestatic 63, [88, 3, 1, 5], 0), (.aload_n 1, [], 0), (.aload_n 2, [], 0), (.iload 13, [], 0), (.invokestatic 63, [88, 3, 1, 5], 0), (.isub, [], 0), (.istore 17, [], 0), (.iload 15, [], 0), (.iload 17, [], 0), (.ifCond .lt 15, [481, 1, 1, 1, 1, 0, 1, 0, 0, 0, 0, 0, 1, 1, 1, 1, 0, 1], 0), (.iload 17, [], 0), (.ifCond .ne 14, [485, 1, 1, 1, 1, 0, 1, 0, 0, 0, 0, 0, 1, 1, 1, 1, 0, 1], 0), (.iload 16, [], 0), (.iload 13, [], 0), (.if_icmp .ge 7, [485, 1, 1, 1, 1, 0, 1, 0, 0, 0, 0, 0, 1, 1, 1, 1, 0, 1], 0), (.nop, [481, 1, 1, 1, 1, 0, 1, 0, 0, 0, 0, 0, 1, 1, 1, 1, 0, 1], 0)]),
  (481, [(.iconst 1, [], 0), (.goto 4, [486, 1, 1, 1, 1, 0, 1, 0, 0, 0, 0, 0, 1, 1, 1, 1, 0, 1], 0)]),
  (485, [(.iconst 0, [], 0), (.nop, [486, 1, 1, 1, 1, 0, 1, 0, 0, 0, 0, 0, 1, 1, 1, 1, 0, 1], 0)]),
  (486, [(.iadd, [], 0), (.istore 15, [], 0), (.iinc 16 1, [], 0), (.goto (-93), [399, 1, 1, 1, 1, 0, 1, 0, 0, 0, 0, 0, 1, 1, 1, 1, 1, 1], 0)]),
  (495, [(.iload 14, [], 0), (.iload 15, [], 0), (.if_icmp .ne 7, [506, 1, 1, 1, 1, 0, 1, 0, 0, 0, 0, 0, 1, 1, 1], 0), (.iload 13, [], 0), (.istore 12, [], 0), (.nop, [506, 1, 1, 1, 1, 0, 1, 0, 0, 0, 0, 0, 1, 1, 1], 0)]),
  (506, [(.iinc 13 1, [], 0), (.goto (-133), [376, 1, 1, 1, 1, 0, 1, 0, 0, 0, 0, 0, 1, 1, 1], 0)]),
  (512, [(.aload_n 0, [], 0), (.iconst 0, [], 0), (.bipush 10, [], 0), (.iload 11, [], 0), (.iadd, [], 0), (.invokevirtual 106, [56, 3, 1, 8, 6], 0), (.iload 12, [], 0), (.if_icmp .eq 5, [529, 1, 1, 1, 1, 0, 1, 0, 0, 0, 0, 0, 1], 0), (.iconst 0, [], 0), (.ireturn, [1], 0)]),
  (529, [(.iinc 11 1, [], 0), (.goto (-169), [363, 1, 1, 1, 1, 0, 1, 0, 0, 0, 0, 0, 1], 0)]),
  (535, [(.iconst 1, [], 0), (.ireturn, [1], 0)])]
/-- MindReadersLaw.stops(LMindReaders;[I[I[I)Z -/
def zc_93 : List (Nat × List zE) := [(0, [(.bipush 99, [], 0), (.istore 4, [], 0), (.iconst (-1), [], 0), (.istore 5, [], 0), (.aload_n 1, [], 0), (.bipush 32, [], 0), (.invokestatic 8, [78, 2, 1, 2], 0), (.sipush 256, [], 0), (.invokestatic 14, [79, 2, 1, 2], 0), (.istore 6, [], 0), (.bipush 12, [], 0), (.newarray .int, [0], 0), (.astore 7, [], 0), (.bipush 12, [], 0), (.newarray .int, [0], 0), (.astore 8, [], 0), (.iconst 0, [], 0), (.istore 9, [], 0), (.nop, [36, 1, 0, 1, 1, 1, 1, 1, 1, 1, 1], 0)]),
  (36, [(.iload 9, [], 0), (.sipush 256, [], 0), (.if_icmp .ge 200, [241, 1, 0, 0, 0, 0, 1], 0), (.iconst 0, [], 0), (.istore 10, [], 0), (.iconst 0, [], 0), (.istore 11, [], 0), (.nop, [50, 1, 0, 1, 1, 1, 1, 1, 1, 1, 1, 1, 1], 0)]),
  (50, [(.iload 11, [], 0), (.bipush 8, [], 0), (.if_icmp .ge 21, [75, 1, 0, 1, 1, 1, 1, 1, 1, 1, 1, 1], 0), (.iload 10, [], 0), (.iload 9, [], 0), (.iload 11, [], 0), (.ishr, [], 0), (.iconst 1, [], 0), (.iand, [], 0), (.iadd, [], 0), (.istore 10, [], 0), (.iinc 11 1, [], 0), (.goto (-22), [50, 1, 0, 1, 1, 1, 1, 1, 1, 1, 1, 1, 1], 0)]),
  (75, [(.iload 10, [], 0), (.iload 4, [], 0), (.if_icmp .lt 13, [92, 1, 0, 1, 1, 1, 1, 1, 1, 1, 1, 1], 0), (.iload 9, [], 0), (.iload 6, [], 0), (.if_icmp .eq 6, [92, 1, 0, 1, 1, 1, 1, 1, 1, 1, 1, 1], 0), (.goto 146, [235, 1, 0, 1, 1, 1, 1, 1, 1, 1, 1], 0)]),
  (92, [(.iconst 0, [], 0), (.istore 11, [], 0), (.iconst 0, [], 0), (.istore 12, [], 0), (.nop, [98, 1, 0, 1, 1, 1, 1, 1, 1, 1, 1, 1, 1, 1], 0)]),
  (98, [(.iload 12, [], 0), (.aload_n 3, [], 0), (.iconst 0, [], 0), (.iaload, [], 0), (.if_icmp .ge 87, [190, 1, 0, 1, 1, 1, 1, 1, 1, 1, 1, 1, 1], 0), (.aload_n 2, [], 0), (.aload_n 3, [], 0), (.iload 12, [], 0), (.iload 9, [], 0), (.aload 7, [], 0), (.invokestatic 56, [84, 5, 0, 5], 0), (.iconst 1, [], 0), (.istore 13, [], 0), (.iconst 0, [], 0), (.istore 14, [], 0), (.nop, [123, 1, 0, 1, 1, 1, 1, 1, 1, 1, 1, 1, 1, 1, 1, 1], 0)]),
  (123, [(.iload 14, [], 0), (.iload 12, [], 0), (.if_icmp .ge 42, [169, 1, 0, 1, 1, 1, 1, 1, 1, 1, 1, 1, 1, 1, 1], 0), (.iload 13, [], 0), (.ifCond .eq 37, [169, 1, 0, 1, 1, 1, 1, 1, 1, 1, 1, 1, 1, 1, 1], 0), (.aload_n 2, [], 0), (.aload_n 3, [], 0), (.iload 14, [], 0), (.iload 9, [], 0), (.aload 8, [], 0), (.invokestatic 56, [84, 5, 0, 5], 0), (.aload 7, [], 0), (.aload 8, [], 0), (.invokestatic 67, [85, 2, 1, 4], 0), (.ifCond .ne 7, [160, 1, 0, 1, 1, 1, 1, 1, 1, 1, 1, 1, 1, 1, 0, 1], 0), (.iconst 1, [], 0), (.goto 4, [161, 1, 0, 1, 1, 1, 1, 1, 1, 1, 1, 1, 1, 1, 0, 1], 0)]),
  (160, [(.iconst 0, [], 0), (.nop, [161, 1, 0, 1, 1, 1, 1, 1, 1, 1, 1, 1, 1, 1, 0, 1], 0)]),
  (161, [(.istore 13, [], 0), (.iinc 14 1, [], 0), (.goto (-43), [123, 1, 0, 1, 1, 1, 1, 1, 1, 1, 1, 1, 1, 1, 1, 1], 0)]),
  (169, [(.iload 11, [], 0), (.iload 13, [], 0), (.ifCond .eq 7, [180, 1, 0, 1, 1, 1, 1, 1, 1, 1, 1, 1, 0, 1], 0), (.iconst 1, [], 0), (.goto 4, [181, 1, 0, 1, 1, 1, 1, 1, 1, 1, 1, 1, 0, 1], 0)]),
  (180, [(.iconst 0, [], 0), (.nop, [181, 1, 0, 1, 1, 1, 1, 1, 1, 1, 1, 1, 0, 1], 0)]),
  (181, [(.iadd, [], 0), (.istore 11, [], 0), (.iinc 12 1, [], 0), (.goto (-89), [98, 1, 0, 1, 1, 1, 1, 1, 1, 1, 1, 1, 1, 1], 0)]),
  (190, [(.iload 9, [], 0), (.iload 6, [], 0), (.if_icmp .ne 17, [211, 1, 0, 1, 1, 1, 1, 1, 1, 1, 1, 1, 1], 0), (.aload_n 0, [], 0), (.iconst 0, [], 0), (.iload 9, [], 0), (.invokevirtual 97, [59, 3, 1, 4, 6], 0), (.iload 11, [], 0), (.if_icmp .eq 5, [211, 1, 0, 1, 1, 1, 1, 1, 1, 1, 1, 1, 1], 0), (.iconst 0, [], 0), (.ireturn, [1], 0)]),
  (211, [(.iload 11, [], 0), (.iconst 1, [], 0), (.if_icmp .gt 21, [235, 1, 0, 1, 1, 1, 1, 1, 1, 1, 1], 0), (.iload 10, [], 0), (.iload 4, [], 0), (.if_icmp .lt 6, [227, 1, 0, 1, 1, 0, 0, 1, 1, 1, 1, 1], 0), (.goto 11, [235, 1, 0, 1, 1, 1, 1, 1, 1, 1, 1], 0)]),
  (227, [(.iload 10, [], 0), (.istore 4, [], 0), (.iload 9, [], 0), (.istore 5, [], 0), (.nop, [235, 1, 0, 1, 1, 1, 1, 1, 1, 1, 1], 0)]),
  (235, [(.iinc 9 1, [], 0), (.goto (-202), [36, 1, 0, 1, 1, 1, 1, 1, 1, 1, 1], 0)]),
  (241, [(.aload_n 0, [], 0), (.iconst 0, [], 0), (.invokevirtual 100, [60, 2, 1, 5, 6], 0), (.iload 5, [], 0), (.if_icmp .ne 7, [255], 0), (.iconst 1, [], 0), (.goto 4, [256], 0)]),
  (255, [(.iconst 0, [], 0), (.nop, [256], 0)]),
  (256, [(.ireturn, [1], 0)])]
/-- java/lang/Integer.bitCount(I)I -/
def zc_94 : List (Nat × List zE) := [(0, [(.iload_n 0, [], 0), (.iload_n 0, [], 0), (.iconst 1, [], 0), (.iushr, [], 0), (.ldc_w 265, [], 1431655765), (.iand, [], 0), (.isub, [], 0), (.istore_n 0, [], 0), (.iload_n 0, [], 0), (.ldc_w 266, [], 858993459), (.iand, [], 0), (.iload_n 0, [], 0), (.iconst 2, [], 0), (.iushr, [], 0), (.ldc_w 266, [], 858993459), (.iand, [], 0), (.iadd, [], 0), (.istore_n 0, [], 0), (.iload_n 0, [], 0), (.iload_n 0, [], 0), (.iconst 4, [], 0), (.iushr, [], 0), (.iadd, [], 0), (.ldc_w 267, [], 252645135), (.iand, [], 0), (.istore_n 0, [], 0), (.iload_n 0, [], 0), (.iload_n 0, [], 0), (.bipush 8, [], 0), (.iushr, [], 0), (.iadd, [], 0), (.istore_n 0, [], 0), (.iload_n 0, [], 0), (.iload_n 0, [], 0), (.bipush 16, [], 0), (.iushr, [], 0), (.iadd, [], 0), (.istore_n 0, [], 0), (.iload_n 0, [], 0), (.bipush 63, [], 0), (.iand, [], 0), (.ireturn, [0], 0)])]
def zmtl : List zM := [(x, code, 20, ret, 8, 202),
  (⟨"MindReaders$Code", "<init>", "()V"⟩, prog_2_method_1_code, 1, none, 3, 65),
  (⟨"MindReaders$Code", "size", "()I"⟩, prog_2_method_2_code, 1, some .int, 0, 0),
  (⟨"MindReaders$Code", "spoken", "(I)LMindReaders$Row;"⟩, prog_2_method_3_code, 2, some (.object "MindReaders$Row"), 1, 22),
  (⟨"MindReaders$Code", "plain", "(I)LMindReaders$Row;"⟩, prog_2_method_4_code, 2, some (.object "MindReaders$Row"), 1, 22),
  (⟨"MindReaders$Code", "readFrom", "(LMindReaders$Row;)V"⟩, prog_2_method_5_code, 4, none, 2, 43),
  (⟨"MindReaders$Code", "makePlain", "(LMindReaders$Signals;)V"⟩, prog_2_method_6_code, 3, none, 3, 69),
  (⟨"MindReaders$Code", "meaningOf", "(LMindReaders$Row;)I"⟩, prog_2_method_7_code, 3, some .int, 3, 64),
  (⟨"MindReaders$Code", "firstAlike", "()I"⟩, prog_2_method_8_code, 3, some .int, 3, 64),
  (⟨"MindReaders$Code", "firstStart", "()I"⟩, prog_2_method_9_code, 3, some .int, 2, 43),
  (⟨"MindReaders$Code", "leastApart", "()I"⟩, prog_2_method_10_code, 5, some .int, 2, 44),
  (⟨"MindReaders$Code", "nearestTo", "(LMindReaders$Row;)I"⟩, prog_2_method_11_code, 6, some .int, 2, 44),
  (⟨"MindReaders$Notes", "<init>", "()V"⟩, prog_3_method_1_code, 1, none, 3, 65),
  (⟨"MindReaders$Readings", "<init>", "()V"⟩, prog_4_method_1_code, 1, none, 2, 42),
  (⟨"MindReaders$Readings", "leastTwice", "(LMindReaders$Code;)I"⟩, prog_4_method_2_code, 4, some .int, 4, 100),
  (⟨"MindReaders$Readings", "goOn", "(LMindReaders$Code;)Z"⟩, prog_4_method_3_code, 6, some .boolean, 3, 75),
  (⟨"MindReaders$Readings", "meet", "(LMindReaders$Code;IIII)Z"⟩, prog_4_method_4_code, 10, some .boolean, 2, 46),
  (⟨"MindReaders$Readings", "comeTo", "(III)Z"⟩, prog_4_method_5_code, 5, some .boolean, 1, 22),
  (⟨"MindReaders$Row", "<init>", "(I)V"⟩, prog_5_method_1_code, 2, none, 1, 21),
  (⟨"MindReaders$Row", "size", "()I"⟩, prog_5_method_2_code, 1, some .int, 0, 0),
  (⟨"MindReaders$Row", "at", "(I)I"⟩, prog_5_method_3_code, 2, some .int, 0, 0),
  (⟨"MindReaders$Row", "set", "(II)V"⟩, prog_5_method_4_code, 3, none, 0, 0),
  (⟨"MindReaders$Row", "add", "(I)V"⟩, prog_5_method_5_code, 2, none, 0, 0),
  (⟨"MindReaders$Row", "dropLast", "()V"⟩, prog_5_method_6_code, 1, none, 0, 0),
  (⟨"MindReaders$Row", "wipe", "()V"⟩, prog_5_method_7_code, 1, none, 0, 0),
  (⟨"MindReaders$Row", "isLike", "(LMindReaders$Row;)Z"⟩, prog_5_method_9_code, 2, some .boolean, 2, 43),
  (⟨"MindReaders$Row", "isStartOf", "(LMindReaders$Row;)Z"⟩, prog_5_method_10_code, 3, some .boolean, 1, 21),
  (⟨"MindReaders$Row", "placesApart", "(LMindReaders$Row;)I"⟩, prog_5_method_11_code, 4, some .int, 1, 21),
  (⟨"MindReaders$Row", "sumOf", "(I)I"⟩, prog_5_method_13_code, 4, some .int, 1, 21),
  (⟨"MindReaders$Rows", "<init>", "(II)V"⟩, prog_6_method_1_code, 4, none, 2, 42),
  (⟨"MindReaders$Rows", "row", "(I)LMindReaders$Row;"⟩, prog_6_method_2_code, 3, some (.object "MindReaders$Row"), 0, 0),
  (⟨"MindReaders$Signals", "<init>", "()V"⟩, prog_7_method_1_code, 1, none, 2, 42),
  (⟨"MindReaders$Signals", "told", "()I"⟩, prog_7_method_2_code, 1, some .int, 1, 20),
  (⟨"MindReaders$Signals", "isTold", "(I)Z"⟩, prog_7_method_3_code, 2, some .boolean, 1, 20),
  (⟨"MindReaders$Signals", "tell", "(IIII)V"⟩, prog_7_method_4_code, 5, none, 1, 21),
  (⟨"MindReaders$Signals", "kindOf", "(I)I"⟩, prog_7_method_5_code, 3, some .int, 1, 21),
  (⟨"MindReaders$Signals", "toneOf", "(I)I"⟩, prog_7_method_6_code, 2, some .int, 1, 21),
  (⟨"MindReaders$Signals", "secondsOf", "(I)I"⟩, prog_7_method_7_code, 3, some .int, 1, 21),
  (⟨"MindReaders$Signals", "oddOf", "(I)I"⟩, prog_7_method_8_code, 3, some .int, 1, 21),
  (⟨"MindReaders$Signals", "isToneFor", "(II)Z"⟩, prog_7_method_9_code, 3, some .boolean, 2, 43),
  (⟨"MindReaders$Signals", "secondsOfAll", "(LMindReaders$Row;)I"⟩, prog_7_method_10_code, 4, some .int, 2, 43),
  (⟨"MindReaders$Signals", "oddOfAll", "(LMindReaders$Row;)I"⟩, prog_7_method_11_code, 4, some .int, 2, 43),
  (⟨"MindReaders$Signals", "makePlain", "(LMindReaders$Row;ILMindReaders$Row;)V"⟩, prog_7_method_12_code, 7, none, 2, 43),
  (⟨"MindReaders", "<init>", "()V"⟩, prog_1_method_1_code, 2, none, 4, 85),
  (⟨"MindReaders", "letters", "(J)I"⟩, prog_1_method_2_code, 5, some .int, 2, 46),
  (⟨"MindReaders", "blank", "()I"⟩, prog_1_method_3_code, 2, some .int, 1, 20),
  (⟨"MindReaders", "code", "()I"⟩, prog_1_method_5_code, 3, some .int, 4, 91),
  (⟨"MindReaders", "signal", "(IIII)I"⟩, prog_1_method_6_code, 7, some .int, 4, 91),
  (⟨"MindReaders", "thing", "(I)I"⟩, prog_1_method_9_code, 2, some .int, 1, 21),
  (⟨"MindReaders", "speech", "(III)I"⟩, prog_1_method_11_code, 5, some .int, 4, 88),
  (⟨"MindReaders", "means", "(I)I"⟩, prog_1_method_12_code, 3, some .int, 4, 89),
  (⟨"MindReaders", "clear", "(II)I"⟩, prog_1_method_13_code, 5, some .int, 4, 86),
  (⟨"MindReaders", "starts", "(II)I"⟩, prog_1_method_14_code, 4, some .int, 3, 65),
  (⟨"MindReaders", "twice", "(I)I"⟩, prog_1_method_15_code, 3, some .int, 5, 123),
  (⟨"MindReaders", "mean", "(II)I"⟩, prog_1_method_16_code, 8, some .int, 4, 88),
  (⟨"MindReaders", "oddness", "(I)I"⟩, prog_1_method_17_code, 6, some .int, 3, 66),
  (⟨"MindReaders", "dealt", "(II)I"⟩, prog_1_method_18_code, 8, some .int, 6, 138),
  (⟨"MindReaders", "apart", "(I)I"⟩, prog_1_method_20_code, 3, some .int, 3, 68),
  (⟨"MindReaders", "named", "(I)I"⟩, prog_1_method_21_code, 3, some .int, 4, 89),
  (⟨"MindReaders", "left", "(II)I"⟩, prog_1_method_31_code, 4, some .int, 4, 96),
  (⟨"MindReaders", "stop", "(I)I"⟩, prog_1_method_32_code, 5, some .int, 4, 96),
  (⟨"MindReaders", "byteOf", "(JI)I"⟩, prog_1_method_40_code, 3, some .int, 0, 0),
  (⟨"MindReaders", "lettersIn", "(J)I"⟩, prog_1_method_41_code, 5, some .int, 1, 22),
  (⟨"MindReaders", "signalOf", "(I)I"⟩, prog_1_method_42_code, 1, some .int, 0, 0),
  (⟨"MindReaders", "firstFault", "()I"⟩, prog_1_method_43_code, 5, some .int, 1, 21),
  (⟨"MindReaders", "readPage", "()Z"⟩, prog_1_method_44_code, 3, some .boolean, 1, 21),
  (⟨"MindReaders", "hearPage", "()Z"⟩, prog_1_method_45_code, 1, some .boolean, 3, 69),
  (⟨"MindReaders", "isWeight", "(I)Z"⟩, prog_1_method_46_code, 1, some .boolean, 0, 0),
  (⟨"MindReaders", "isPart", "(I)Z"⟩, prog_1_method_47_code, 1, some .boolean, 0, 0),
  (⟨"MindReaders", "codeAt", "(I)LMindReaders$Code;"⟩, prog_1_method_49_code, 2, some (.object "MindReaders$Code"), 0, 0),
  (⟨"MindReaders", "thingsSaid", "(LMindReaders$Code;)I"⟩, prog_1_method_50_code, 2, some .int, 1, 21),
  (⟨"MindReaders", "longOf", "(LMindReaders$Code;I)I"⟩, prog_1_method_51_code, 3, some .int, 3, 66),
  (⟨"MindReaders", "ofPair", "(II)I"⟩, prog_1_method_52_code, 2, some .int, 0, 0),
  (⟨"MindReaders", "dealtTo", "(LMindReaders$Code;I)I"⟩, prog_1_method_53_code, 6, some .int, 5, 113),
  (⟨"MindReaders", "rankByLong", "(LMindReaders$Code;II)I"⟩, prog_1_method_54_code, 6, some .int, 4, 88),
  (⟨"MindReaders", "isAhead", "(IIII)Z"⟩, prog_1_method_55_code, 4, some .boolean, 0, 0),
  (⟨"MindReaders", "lowest", "(JJI)J"⟩, prog_1_method_64_code, 12, some .long, 0, 0),
  (⟨"MindReaders", "unlike", "(LMindReaders$Code;II)I"⟩, prog_1_method_65_code, 8, some .int, 3, 69),
  (⟨"MindReadersLaw", "cell", "([II)I"⟩, method_2_code, 2, some .int, 0, 0),
  (⟨"MindReadersLaw", "at", "(II)I"⟩, method_3_code, 2, some .int, 0, 0),
  (⟨"MindReadersLaw", "signals", "(LMindReaders;[II[I)Z"⟩, method_4_code, 9, some .boolean, 5, 117),
  (⟨"MindReadersLaw", "codeText", "([II[I[I)I"⟩, method_5_code, 11, some .int, 1, 21),
  (⟨"MindReadersLaw", "write", "(LMindReaders;[II)Z"⟩, method_6_code, 4, some .boolean, 3, 70),
  (⟨"MindReadersLaw", "plain", "([I[IIII[I)V"⟩, method_7_code, 9, none, 0, 0),
  (⟨"MindReadersLaw", "speech", "([I[III[I)V"⟩, method_8_code, 5, none, 1, 28),
  (⟨"MindReadersLaw", "like", "([I[I)Z"⟩, method_9_code, 4, some .boolean, 0, 0),
  (⟨"MindReadersLaw", "seconds", "([II)I"⟩, method_10_code, 2, some .int, 0, 0),
  (⟨"MindReadersLaw", "odd", "([II)I"⟩, method_11_code, 2, some .int, 0, 0),
  (⟨"MindReadersLaw", "long0", "([I[II)I"⟩, method_12_code, 5, some .int, 1, 21),
  (⟨"MindReadersLaw", "share", "(JJJJ)Z"⟩, method_13_code, 14, some .boolean, 0, 0),
  (⟨"MindReadersLaw", "rows", "(LMindReaders;[I[I[I)Z"⟩, method_15_code, 18, some .boolean, 5, 111),
  (⟨"MindReadersLaw", "twice", "(LMindReaders;[I[I)Z"⟩, method_16_code, 19, some .boolean, 6, 145),
  (⟨"MindReadersLaw", "lengths", "(LMindReaders;[I[I[II)Z"⟩, method_17_code, 18, some .boolean, 7, 165),
  (⟨"MindReadersLaw", "stops", "(LMindReaders;[I[I[I)Z"⟩, method_18_code, 15, some .boolean, 5, 120),
  (⟨"java/lang/Integer", "bitCount", "(I)I"⟩, prog_10_method_49_code, 1, some .int, 0, 0)]
def zcol : List (List (Nat × List zE)) := [zc_0, zc_1, zc_2, zc_3, zc_4, zc_5, zc_6, zc_7, zc_8, zc_9, zc_10, zc_11, zc_12, zc_13, zc_14, zc_15, zc_16, zc_17, zc_18, zc_19, zc_20, zc_21, zc_22, zc_23, zc_24, zc_25, zc_26, zc_27, zc_28, zc_29, zc_30, zc_31, zc_32, zc_33, zc_34, zc_35, zc_36, zc_37, zc_38, zc_39, zc_40, zc_41, zc_42, zc_43, zc_44, zc_45, zc_46, zc_47, zc_48, zc_49, zc_50, zc_51, zc_52, zc_53, zc_54, zc_55, zc_56, zc_57, zc_58, zc_59, zc_60, zc_61, zc_62, zc_63, zc_64, zc_65, zc_66, zc_67, zc_68, zc_69, zc_70, zc_71, zc_72, zc_73, zc_74, zc_75, zc_76, zc_77, zc_78, zc_79, zc_80, zc_81, zc_82, zc_83, zc_84, zc_85, zc_86, zc_87, zc_88, zc_89, zc_90, zc_91, zc_92, zc_93, zc_94]
def zmt (M : Nat) : Option zM := zmtl[M]?
def zblk (M pc : Nat) : Option (List zE) := match zcol[M]? with
  | some bs => bs.lookup pc
  | none => none
end
section
/-! ===== what each block of code does (printed by a program of mine; each by rfl) ===== -/
/-- MindReaders$Code.size()I -/
noncomputable abbrev r_Code_size (xs : List Int) (p : Nat) (h : zH) : Option zR := zx zblk xs 2 0 [some (.inr (.inr (some p)))] [] h
theorem e_Code_size_0 (xs : List Int) (p : Nat) (h : zH) : zx zblk xs 2 0 [some (.inr (.inr (some p)))] [] h = (zgi h (some p) 0 2 fun f1 => some (some (.inl f1), h)) := (zx_unfold zblk xs 2 0 _ rfl _ _ _).trans rfl
/-- MindReaders$Code.spoken(I)LMindReaders$Row; -/
noncomputable abbrev r_Code_spoken (xs : List Int) (p : Nat) (v1 : Int) (h : zH) : Option zR := zx zblk xs 3 0 [some (.inr (.inr (some p))), some (.inl v1)] [] h
theorem e_Code_spoken_0 (xs : List Int) (p : Nat) (v1 : Int) (h : zH) : zx zblk xs 3 0 [some (.inr (.inr (some p))), some (.inl v1)] [] h = (zgr h (some p) 0 0 fun f1 => (zck h f1 4 (zcr (zx zblk xs 30 0 [some (.inr (.inr f1)), some (.inl v1)] [] h) fun r3 h2 => some (some (.inr (.inr r3)), h2)))) := (zx_unfold zblk xs 3 0 _ rfl _ _ _).trans rfl
/-- MindReaders$Code.plain(I)LMindReaders$Row; -/
noncomputable abbrev r_Code_plain (xs : List Int) (p : Nat) (v1 : Int) (h : zH) : Option zR := zx zblk xs 4 0 [some (.inr (.inr (some p))), some (.inl v1)] [] h
theorem e_Code_plain_0 (xs : List Int) (p : Nat) (v1 : Int) (h : zH) : zx zblk xs 4 0 [some (.inr (.inr (some p))), some (.inl v1)] [] h = (zgr h (some p) 0 1 fun f1 => (zck h f1 4 (zcr (zx zblk xs 30 0 [some (.inr (.inr f1)), some (.inl v1)] [] h) fun r3 h2 => some (some (.inr (.inr r3)), h2)))) := (zx_unfold zblk xs 4 0 _ rfl _ _ _).trans rfl
/-- MindReaders$Code.readFrom(LMindReaders$Row;)V -/
noncomputable abbrev r_Code_readFrom (xs : List Int) (p : Nat) (v1 : Option Nat) (h : zH) : Option zR := zx zblk xs 5 0 [some (.inr (.inr (some p))), some (.inr (.inr v1))] [] h
theorem e_Code_readFrom_0 (xs : List Int) (p : Nat) (v1 : Option Nat) (h : zH) : zx zblk xs 5 0 [some (.inr (.inr (some p))), some (.inr (.inr v1))] [] h = (zpf h (some p) 0 2 (.inl 1) fun h1 => zx zblk xs 5 7 [some (.inr (.inr (some p))), some (.inr (.inr v1)), some (.inl 0)] [] h1) := (zx_unfold zblk xs 5 0 _ rfl _ _ _).trans rfl
theorem e_Code_readFrom_7 (xs : List Int) (p : Nat) (v1 : Option Nat) (v2 : Int) (h : zH) : zx zblk xs 5 7 [some (.inr (.inr (some p))), some (.inr (.inr v1)), some (.inl v2)] [] h = (zck h v1 3 (zci (zx zblk xs 19 0 [some (.inr (.inr v1))] [] h) fun r2 h1 => (if zw r2 ≤ zw v2 then zx zblk xs 5 62 [] [] h1 else (zck h1 v1 3 (zci (zx zblk xs 20 0 [some (.inr (.inr v1)), some (.inl v2)] [] h1) fun r4 h3 => (zci (zx zblk xs 63 0 [some (.inl r4)] [] h3) fun r6 h5 => (if zw r6 ≠ zw (-1) then zx zblk xs 5 42 [some (.inr (.inr (some p))), some (.inr (.inr v1)), some (.inl v2), some (.inl r6)] [] h5 else (zgi h5 (some p) 0 2 fun f7 => (zpf h5 (some p) 0 2 (.inl (f7 + 1)) fun h8 => zx zblk xs 5 56 [some (.inr (.inr (some p))), some (.inr (.inr v1)), some (.inl v2)] [] h8))))))))) := (zx_unfold zblk xs 5 7 _ rfl _ _ _).trans rfl
theorem e_Code_readFrom_42 (xs : List Int) (p : Nat) (v1 : Option Nat) (v2 : Int) (v3 : Int) (h : zH) : zx zblk xs 5 42 [some (.inr (.inr (some p))), some (.inr (.inr v1)), some (.inl v2), some (.inl v3)] [] h = (zgi h (some p) 0 2 fun f1 => (zck h (some p) 0 (zcr (zx zblk xs 3 0 [some (.inr (.inr (some p))), some (.inl (f1 - 1))] [] h) fun r3 h2 => (zck h2 r3 3 (zcv (zx zblk xs 22 0 [some (.inr (.inr r3)), some (.inl v3)] [] h2) fun h4 => zx zblk xs 5 56 [some (.inr (.inr (some p))), some (.inr (.inr v1)), some (.inl v2)] [] h4))))) := (zx_unfold zblk xs 5 42 _ rfl _ _ _).trans rfl
theorem e_Code_readFrom_56 (xs : List Int) (p : Nat) (v1 : Option Nat) (v2 : Int) (h : zH) : zx zblk xs 5 56 [some (.inr (.inr (some p))), some (.inr (.inr v1)), some (.inl v2)] [] h = zx zblk xs 5 7 [some (.inr (.inr (some p))), some (.inr (.inr v1)), some (.inl (v2 + 1))] [] h := (zx_unfold zblk xs 5 56 _ rfl _ _ _).trans rfl
theorem e_Code_readFrom_62 (xs : List Int)  (h : zH) : zx zblk xs 5 62 [] [] h = some (none, h) := (zx_unfold zblk xs 5 62 _ rfl _ _ _).trans rfl
/-- MindReaders$Code.makePlain(LMindReaders$Signals;)V -/
noncomputable abbrev r_Code_makePlain (xs : List Int) (p : Nat) (v1 : Option Nat) (h : zH) : Option zR := zx zblk xs 6 0 [some (.inr (.inr (some p))), some (.inr (.inr v1))] [] h
theorem e_Code_makePlain_0 (xs : List Int) (p : Nat) (v1 : Option Nat) (h : zH) : zx zblk xs 6 0 [some (.inr (.inr (some p))), some (.inr (.inr v1))] [] h = zx zblk xs 6 2 [some (.inr (.inr (some p))), some (.inr (.inr v1)), some (.inl 0)] [] h := (zx_unfold zblk xs 6 0 _ rfl _ _ _).trans rfl
theorem e_Code_makePlain_2 (xs : List Int) (p : Nat) (v1 : Option Nat) (v2 : Int) (h : zH) : zx zblk xs 6 2 [some (.inr (.inr (some p))), some (.inr (.inr v1)), some (.inl v2)] [] h = (zgi h (some p) 0 2 fun f1 => (if zw f1 ≤ zw v2 then zx zblk xs 6 31 [] [] h else (zck h (some p) 0 (zcr (zx zblk xs 3 0 [some (.inr (.inr (some p))), some (.inl v2)] [] h) fun r3 h2 => (zck h2 (some p) 0 (zcr (zx zblk xs 4 0 [some (.inr (.inr (some p))), some (.inl v2)] [] h2) fun r5 h4 => (zck h4 v1 5 (zcv (zx zblk xs 42 0 [some (.inr (.inr v1)), some (.inr (.inr r3)), some (.inl 0), some (.inr (.inr r5))] [] h4) fun h6 => zx zblk xs 6 2 [some (.inr (.inr (some p))), some (.inr (.inr v1)), some (.inl (v2 + 1))] [] h6)))))))) := (zx_unfold zblk xs 6 2 _ rfl _ _ _).trans rfl
theorem e_Code_makePlain_31 (xs : List Int)  (h : zH) : zx zblk xs 6 31 [] [] h = some (none, h) := (zx_unfold zblk xs 6 31 _ rfl _ _ _).trans rfl
/-- MindReaders$Code.meaningOf(LMindReaders$Row;)I -/
noncomputable abbrev r_Code_meaningOf (xs : List Int) (p : Nat) (v1 : Option Nat) (h : zH) : Option zR := zx zblk xs 7 0 [some (.inr (.inr (some p))), some (.inr (.inr v1))] [] h
theorem e_Code_meaningOf_0 (xs : List Int) (p : Nat) (v1 : Option Nat) (h : zH) : zx zblk xs 7 0 [some (.inr (.inr (some p))), some (.inr (.inr v1))] [] h = zx zblk xs 7 2 [some (.inr (.inr (some p))), some (.inr (.inr v1)), some (.inl 0)] [] h := (zx_unfold zblk xs 7 0 _ rfl _ _ _).trans rfl
theorem e_Code_meaningOf_2 (xs : List Int) (p : Nat) (v1 : Option Nat) (v2 : Int) (h : zH) : zx zblk xs 7 2 [some (.inr (.inr (some p))), some (.inr (.inr v1)), some (.inl v2)] [] h = (zgi h (some p) 0 2 fun f1 => (if zw f1 ≤ zw v2 then zx zblk xs 7 30 [] [] h else (zck h (some p) 0 (zcr (zx zblk xs 4 0 [some (.inr (.inr (some p))), some (.inl v2)] [] h) fun r3 h2 => (zck h2 r3 3 (zci (zx zblk xs 25 0 [some (.inr (.inr r3)), some (.inr (.inr v1))] [] h2) fun r5 h4 => (if zw r5 = 0 then zx zblk xs 7 24 [some (.inr (.inr (some p))), some (.inr (.inr v1)), some (.inl v2)] [] h4 else some (some (.inl v2), h4)))))))) := (zx_unfold zblk xs 7 2 _ rfl _ _ _).trans rfl
theorem e_Code_meaningOf_24 (xs : List Int) (p : Nat) (v1 : Option Nat) (v2 : Int) (h : zH) : zx zblk xs 7 24 [some (.inr (.inr (some p))), some (.inr (.inr v1)), some (.inl v2)] [] h = zx zblk xs 7 2 [some (.inr (.inr (some p))), some (.inr (.inr v1)), some (.inl (v2 + 1))] [] h := (zx_unfold zblk xs 7 24 _ rfl _ _ _).trans rfl
theorem e_Code_meaningOf_30 (xs : List Int)  (h : zH) : zx zblk xs 7 30 [] [] h = some (some (.inl (-1)), h) := (zx_unfold zblk xs 7 30 _ rfl _ _ _).trans rfl
/-- MindReaders$Code.firstAlike()I -/
noncomputable abbrev r_Code_firstAlike (xs : List Int) (p : Nat) (h : zH) : Option zR := zx zblk xs 8 0 [some (.inr (.inr (some p)))] [] h
theorem e_Code_firstAlike_0 (xs : List Int) (p : Nat) (h : zH) : zx zblk xs 8 0 [some (.inr (.inr (some p)))] [] h = zx zblk xs 8 2 [some (.inr (.inr (some p))), some (.inl 0)] [] h := (zx_unfold zblk xs 8 0 _ rfl _ _ _).trans rfl
theorem e_Code_firstAlike_2 (xs : List Int) (p : Nat) (v1 : Int) (h : zH) : zx zblk xs 8 2 [some (.inr (.inr (some p))), some (.inl v1)] [] h = (zgi h (some p) 0 2 fun f1 => (if zw f1 ≤ zw v1 then zx zblk xs 8 57 [] [] h else zx zblk xs 8 14 [some (.inr (.inr (some p))), some (.inl v1), some (.inl (v1 + 1))] [] h)) := (zx_unfold zblk xs 8 2 _ rfl _ _ _).trans rfl
theorem e_Code_firstAlike_14 (xs : List Int) (p : Nat) (v1 : Int) (v2 : Int) (h : zH) : zx zblk xs 8 14 [some (.inr (.inr (some p))), some (.inl v1), some (.inl v2)] [] h = (zgi h (some p) 0 2 fun f1 => (if zw f1 ≤ zw v2 then zx zblk xs 8 51 [some (.inr (.inr (some p))), some (.inl v1)] [] h else (zck h (some p) 0 (zcr (zx zblk xs 4 0 [some (.inr (.inr (some p))), some (.inl v1)] [] h) fun r3 h2 => (zck h2 (some p) 0 (zcr (zx zblk xs 4 0 [some (.inr (.inr (some p))), some (.inl v2)] [] h2) fun r5 h4 => (zck h4 r3 3 (zci (zx zblk xs 25 0 [some (.inr (.inr r3)), some (.inr (.inr r5))] [] h4) fun r7 h6 => (if zw r7 = 0 then zx zblk xs 8 45 [some (.inr (.inr (some p))), some (.inl v1), some (.inl v2)] [] h6 else some (some (.inl ((v1 * 8) + v2)), h6)))))))))) := (zx_unfold zblk xs 8 14 _ rfl _ _ _).trans rfl
theorem e_Code_firstAlike_45 (xs : List Int) (p : Nat) (v1 : Int) (v2 : Int) (h : zH) : zx zblk xs 8 45 [some (.inr (.inr (some p))), some (.inl v1), some (.inl v2)] [] h = zx zblk xs 8 14 [some (.inr (.inr (some p))), some (.inl v1), some (.inl (v2 + 1))] [] h := (zx_unfold zblk xs 8 45 _ rfl _ _ _).trans rfl
theorem e_Code_firstAlike_51 (xs : List Int) (p : Nat) (v1 : Int) (h : zH) : zx zblk xs 8 51 [some (.inr (.inr (some p))), some (.inl v1)] [] h = zx zblk xs 8 2 [some (.inr (.inr (some p))), some (.inl (v1 + 1))] [] h := (zx_unfold zblk xs 8 51 _ rfl _ _ _).trans rfl
theorem e_Code_firstAlike_57 (xs : List Int)  (h : zH) : zx zblk xs 8 57 [] [] h = some (some (.inl (-1)), h) := (zx_unfold zblk xs 8 57 _ rfl _ _ _).trans rfl
/-- MindReaders$Code.firstStart()I -/
noncomputable abbrev r_Code_firstStart (xs : List Int) (p : Nat) (h : zH) : Option zR := zx zblk xs 9 0 [some (.inr (.inr (some p)))] [] h
theorem e_Code_firstStart_0 (xs : List Int) (p : Nat) (h : zH) : zx zblk xs 9 0 [some (.inr (.inr (some p)))] [] h = zx zblk xs 9 2 [some (.inr (.inr (some p))), some (.inl 0)] [] h := (zx_unfold zblk xs 9 0 _ rfl _ _ _).trans rfl
theorem e_Code_firstStart_2 (xs : List Int) (p : Nat) (v1 : Int) (h : zH) : zx zblk xs 9 2 [some (.inr (.inr (some p))), some (.inl v1)] [] h = (zgi h (some p) 0 2 fun f1 => (if zw f1 ≤ zw v1 then zx zblk xs 9 74 [] [] h else zx zblk xs 9 12 [some (.inr (.inr (some p))), some (.inl v1), some (.inl 0)] [] h)) := (zx_unfold zblk xs 9 2 _ rfl _ _ _).trans rfl
theorem e_Code_firstStart_12 (xs : List Int) (p : Nat) (v1 : Int) (v2 : Int) (h : zH) : zx zblk xs 9 12 [some (.inr (.inr (some p))), some (.inl v1), some (.inl v2)] [] h = (zgi h (some p) 0 2 fun f1 => (if zw f1 ≤ zw v2 then zx zblk xs 9 68 [some (.inr (.inr (some p))), some (.inl v1)] [] h else (zck h (some p) 0 (zcr (zx zblk xs 4 0 [some (.inr (.inr (some p))), some (.inl v1)] [] h) fun r3 h2 => (zck h2 r3 3 (zci (zx zblk xs 19 0 [some (.inr (.inr r3))] [] h2) fun r5 h4 => (zck h4 (some p) 0 (zcr (zx zblk xs 4 0 [some (.inr (.inr (some p))), some (.inl v2)] [] h4) fun r7 h6 => (zck h6 r7 3 (zci (zx zblk xs 19 0 [some (.inr (.inr r7))] [] h6) fun r9 h8 => (if zw r9 ≤ zw r5 then zx zblk xs 9 62 [some (.inr (.inr (some p))), some (.inl v1), some (.inl v2)] [] h8 else (zck h8 (some p) 0 (zcr (zx zblk xs 4 0 [some (.inr (.inr (some p))), some (.inl v1)] [] h8) fun r11 h10 => (zck h10 (some p) 0 (zcr (zx zblk xs 4 0 [some (.inr (.inr (some p))), some (.inl v2)] [] h10) fun r13 h12 => (zck h12 r11 3 (zci (zx zblk xs 26 0 [some (.inr (.inr r11)), some (.inr (.inr r13))] [] h12) fun r15 h14 => (if zw r15 = 0 then zx zblk xs 9 62 [some (.inr (.inr (some p))), some (.inl v1), some (.inl v2)] [] h14 else some (some (.inl ((v1 * 8) + v2)), h14))))))))))))))))))) := (zx_unfold zblk xs 9 12 _ rfl _ _ _).trans rfl
theorem e_Code_firstStart_62 (xs : List Int) (p : Nat) (v1 : Int) (v2 : Int) (h : zH) : zx zblk xs 9 62 [some (.inr (.inr (some p))), some (.inl v1), some (.inl v2)] [] h = zx zblk xs 9 12 [some (.inr (.inr (some p))), some (.inl v1), some (.inl (v2 + 1))] [] h := (zx_unfold zblk xs 9 62 _ rfl _ _ _).trans rfl
theorem e_Code_firstStart_68 (xs : List Int) (p : Nat) (v1 : Int) (h : zH) : zx zblk xs 9 68 [some (.inr (.inr (some p))), some (.inl v1)] [] h = zx zblk xs 9 2 [some (.inr (.inr (some p))), some (.inl (v1 + 1))] [] h := (zx_unfold zblk xs 9 68 _ rfl _ _ _).trans rfl
theorem e_Code_firstStart_74 (xs : List Int)  (h : zH) : zx zblk xs 9 74 [] [] h = some (some (.inl (-1)), h) := (zx_unfold zblk xs 9 74 _ rfl _ _ _).trans rfl
/-- MindReaders$Code.leastApart()I -/
noncomputable abbrev r_Code_leastApart (xs : List Int) (p : Nat) (h : zH) : Option zR := zx zblk xs 10 0 [some (.inr (.inr (some p)))] [] h
theorem e_Code_leastApart_0 (xs : List Int) (p : Nat) (h : zH) : zx zblk xs 10 0 [some (.inr (.inr (some p)))] [] h = zx zblk xs 10 4 [some (.inr (.inr (some p))), some (.inl (-1)), some (.inl 0)] [] h := (zx_unfold zblk xs 10 0 _ rfl _ _ _).trans rfl
theorem e_Code_leastApart_4 (xs : List Int) (p : Nat) (v1 : Int) (v2 : Int) (h : zH) : zx zblk xs 10 4 [some (.inr (.inr (some p))), some (.inl v1), some (.inl v2)] [] h = (zgi h (some p) 0 2 fun f1 => (if zw f1 ≤ zw v2 then zx zblk xs 10 81 [none, some (.inl v1)] [] h else (zck h (some p) 0 (zcr (zx zblk xs 4 0 [some (.inr (.inr (some p))), some (.inl v2)] [] h) fun r3 h2 => (zck h2 r3 3 (zci (zx zblk xs 19 0 [some (.inr (.inr r3))] [] h2) fun r5 h4 => (zck h4 (some p) 0 (zcr (zx zblk xs 4 0 [some (.inr (.inr (some p))), some (.inl 0)] [] h4) fun r7 h6 => (zck h6 r7 3 (zci (zx zblk xs 19 0 [some (.inr (.inr r7))] [] h6) fun r9 h8 => (if zw r5 = zw r9 then zx zblk xs 10 33 [some (.inr (.inr (some p))), some (.inl v1), some (.inl v2)] [] h8 else some (some (.inl (-1)), h8)))))))))))) := (zx_unfold zblk xs 10 4 _ rfl _ _ _).trans rfl
theorem e_Code_leastApart_33 (xs : List Int) (p : Nat) (v1 : Int) (v2 : Int) (h : zH) : zx zblk xs 10 33 [some (.inr (.inr (some p))), some (.inl v1), some (.inl v2)] [] h = zx zblk xs 10 35 [some (.inr (.inr (some p))), some (.inl v1), some (.inl v2), some (.inl 0)] [] h := (zx_unfold zblk xs 10 33 _ rfl _ _ _).trans rfl
theorem e_Code_leastApart_35 (xs : List Int) (p : Nat) (v1 : Int) (v2 : Int) (v3 : Int) (h : zH) : zx zblk xs 10 35 [some (.inr (.inr (some p))), some (.inl v1), some (.inl v2), some (.inl v3)] [] h = (if zw v2 ≤ zw v3 then zx zblk xs 10 75 [some (.inr (.inr (some p))), some (.inl v1), some (.inl v2)] [] h else (zck h (some p) 0 (zcr (zx zblk xs 4 0 [some (.inr (.inr (some p))), some (.inl v2)] [] h) fun r2 h1 => (zck h1 (some p) 0 (zcr (zx zblk xs 4 0 [some (.inr (.inr (some p))), some (.inl v3)] [] h1) fun r4 h3 => (zck h3 r2 3 (zci (zx zblk xs 27 0 [some (.inr (.inr r2)), some (.inr (.inr r4))] [] h3) fun r6 h5 => (if zw v1 = zw (-1) then zx zblk xs 10 66 [some (.inr (.inr (some p))), none, some (.inl v2), some (.inl v3), some (.inl r6)] [] h5 else (if zw v1 ≤ zw r6 then zx zblk xs 10 69 [some (.inr (.inr (some p))), some (.inl v1), some (.inl v2), some (.inl v3)] [] h5 else zx zblk xs 10 66 [some (.inr (.inr (some p))), none, some (.inl v2), some (.inl v3), some (.inl r6)] [] h5))))))))) := (zx_unfold zblk xs 10 35 _ rfl _ _ _).trans rfl
theorem e_Code_leastApart_66 (xs : List Int) (p : Nat) (v2 : Int) (v3 : Int) (v4 : Int) (h : zH) : zx zblk xs 10 66 [some (.inr (.inr (some p))), none, some (.inl v2), some (.inl v3), some (.inl v4)] [] h = zx zblk xs 10 69 [some (.inr (.inr (some p))), some (.inl v4), some (.inl v2), some (.inl v3)] [] h := (zx_unfold zblk xs 10 66 _ rfl _ _ _).trans rfl
theorem e_Code_leastApart_69 (xs : List Int) (p : Nat) (v1 : Int) (v2 : Int) (v3 : Int) (h : zH) : zx zblk xs 10 69 [some (.inr (.inr (some p))), some (.inl v1), some (.inl v2), some (.inl v3)] [] h = zx zblk xs 10 35 [some (.inr (.inr (some p))), some (.inl v1), some (.inl v2), some (.inl (v3 + 1))] [] h := (zx_unfold zblk xs 10 69 _ rfl _ _ _).trans rfl
theorem e_Code_leastApart_75 (xs : List Int) (p : Nat) (v1 : Int) (v2 : Int) (h : zH) : zx zblk xs 10 75 [some (.inr (.inr (some p))), some (.inl v1), some (.inl v2)] [] h = zx zblk xs 10 4 [some (.inr (.inr (some p))), some (.inl v1), some (.inl (v2 + 1))] [] h := (zx_unfold zblk xs 10 75 _ rfl _ _ _).trans rfl
theorem e_Code_leastApart_81 (xs : List Int) (v1 : Int) (h : zH) : zx zblk xs 10 81 [none, some (.inl v1)] [] h = some (some (.inl v1), h) := (zx_unfold zblk xs 10 81 _ rfl _ _ _).trans rfl
/-- MindReaders$Code.nearestTo(LMindReaders$Row;)I -/
noncomputable abbrev r_Code_nearestTo (xs : List Int) (p : Nat) (v1 : Option Nat) (h : zH) : Option zR := zx zblk xs 11 0 [some (.inr (.inr (some p))), some (.inr (.inr v1))] [] h
theorem e_Code_nearestTo_0 (xs : List Int) (p : Nat) (v1 : Option Nat) (h : zH) : zx zblk xs 11 0 [some (.inr (.inr (some p))), some (.inr (.inr v1))] [] h = zx zblk xs 11 7 [some (.inr (.inr (some p))), some (.inr (.inr v1)), some (.inl (-1)), some (.inl 0), some (.inl 0)] [] h := (zx_unfold zblk xs 11 0 _ rfl _ _ _).trans rfl
theorem e_Code_nearestTo_7 (xs : List Int) (p : Nat) (v1 : Option Nat) (v2 : Int) (v3 : Int) (v4 : Int) (h : zH) : zx zblk xs 11 7 [some (.inr (.inr (some p))), some (.inr (.inr v1)), some (.inl v2), some (.inl v3), some (.inl v4)] [] h = (zgi h (some p) 0 2 fun f1 => (if zw f1 ≤ zw v4 then zx zblk xs 11 70 [none, none, some (.inl v2)] [] h else (zck h (some p) 0 (zcr (zx zblk xs 4 0 [some (.inr (.inr (some p))), some (.inl v4)] [] h) fun r3 h2 => (zck h2 r3 3 (zci (zx zblk xs 19 0 [some (.inr (.inr r3))] [] h2) fun r5 h4 => (zck h4 v1 3 (zci (zx zblk xs 19 0 [some (.inr (.inr v1))] [] h4) fun r7 h6 => (if zw r5 = zw r7 then zx zblk xs 11 35 [some (.inr (.inr (some p))), some (.inr (.inr v1)), some (.inl v2), some (.inl v3), some (.inl v4)] [] h6 else zx zblk xs 11 64 [some (.inr (.inr (some p))), some (.inr (.inr v1)), some (.inl v2), some (.inl v3), some (.inl v4)] [] h6))))))))) := (zx_unfold zblk xs 11 7 _ rfl _ _ _).trans rfl
theorem e_Code_nearestTo_35 (xs : List Int) (p : Nat) (v1 : Option Nat) (v2 : Int) (v3 : Int) (v4 : Int) (h : zH) : zx zblk xs 11 35 [some (.inr (.inr (some p))), some (.inr (.inr v1)), some (.inl v2), some (.inl v3), some (.inl v4)] [] h = (zck h (some p) 0 (zcr (zx zblk xs 4 0 [some (.inr (.inr (some p))), some (.inl v4)] [] h) fun r2 h1 => (zck h1 r2 3 (zci (zx zblk xs 27 0 [some (.inr (.inr r2)), some (.inr (.inr v1))] [] h1) fun r4 h3 => (if zw v2 = zw (-1) then zx zblk xs 11 58 [some (.inr (.inr (some p))), some (.inr (.inr v1)), none, none, some (.inl v4), some (.inl r4)] [] h3 else (if zw v3 ≤ zw r4 then zx zblk xs 11 64 [some (.inr (.inr (some p))), some (.inr (.inr v1)), some (.inl v2), some (.inl v3), some (.inl v4)] [] h3 else zx zblk xs 11 58 [some (.inr (.inr (some p))), some (.inr (.inr v1)), none, none, some (.inl v4), some (.inl r4)] [] h3)))))) := (zx_unfold zblk xs 11 35 _ rfl _ _ _).trans rfl
theorem e_Code_nearestTo_58 (xs : List Int) (p : Nat) (v1 : Option Nat) (v4 : Int) (v5 : Int) (h : zH) : zx zblk xs 11 58 [some (.inr (.inr (some p))), some (.inr (.inr v1)), none, none, some (.inl v4), some (.inl v5)] [] h = zx zblk xs 11 64 [some (.inr (.inr (some p))), some (.inr (.inr v1)), some (.inl v4), some (.inl v5), some (.inl v4)] [] h := (zx_unfold zblk xs 11 58 _ rfl _ _ _).trans rfl
theorem e_Code_nearestTo_64 (xs : List Int) (p : Nat) (v1 : Option Nat) (v2 : Int) (v3 : Int) (v4 : Int) (h : zH) : zx zblk xs 11 64 [some (.inr (.inr (some p))), some (.inr (.inr v1)), some (.inl v2), some (.inl v3), some (.inl v4)] [] h = zx zblk xs 11 7 [some (.inr (.inr (some p))), some (.inr (.inr v1)), some (.inl v2), some (.inl v3), some (.inl (v4 + 1))] [] h := (zx_unfold zblk xs 11 64 _ rfl _ _ _).trans rfl
theorem e_Code_nearestTo_70 (xs : List Int) (v2 : Int) (h : zH) : zx zblk xs 11 70 [none, none, some (.inl v2)] [] h = some (some (.inl v2), h) := (zx_unfold zblk xs 11 70 _ rfl _ _ _).trans rfl
/-- MindReaders$Readings.leastTwice(LMindReaders$Code;)I -/
noncomputable abbrev r_Readings_leastTwice (xs : List Int) (p : Nat) (v1 : Option Nat) (h : zH) : Option zR := zx zblk xs 14 0 [some (.inr (.inr (some p))), some (.inr (.inr v1))] [] h
theorem e_Readings_leastTwice_0 (xs : List Int) (p : Nat) (v1 : Option Nat) (h : zH) : zx zblk xs 14 0 [some (.inr (.inr (some p))), some (.inr (.inr v1))] [] h = (zpf h (some p) 2 1 (.inl 1000000) fun h1 => (zgr h1 (some p) 2 0 fun f2 => (zck h1 f2 3 (zcv (zx zblk xs 24 0 [some (.inr (.inr f2))] [] h1) fun h3 => zx zblk xs 14 15 [some (.inr (.inr (some p))), some (.inr (.inr v1)), some (.inl 0)] [] h3)))) := (zx_unfold zblk xs 14 0 _ rfl _ _ _).trans rfl
theorem e_Readings_leastTwice_15 (xs : List Int) (p : Nat) (v1 : Option Nat) (v2 : Int) (h : zH) : zx zblk xs 14 15 [some (.inr (.inr (some p))), some (.inr (.inr v1)), some (.inl v2)] [] h = (if zw 80 ≤ zw v2 then zx zblk xs 14 36 [some (.inr (.inr (some p))), some (.inr (.inr v1))] [] h else (zgr h (some p) 2 0 fun f1 => (zck h f1 3 (zcv (zx zblk xs 22 0 [some (.inr (.inr f1)), some (.inl 1000000)] [] h) fun h2 => zx zblk xs 14 15 [some (.inr (.inr (some p))), some (.inr (.inr v1)), some (.inl (v2 + 1))] [] h2)))) := (zx_unfold zblk xs 14 15 _ rfl _ _ _).trans rfl
theorem e_Readings_leastTwice_36 (xs : List Int) (p : Nat) (v1 : Option Nat) (h : zH) : zx zblk xs 14 36 [some (.inr (.inr (some p))), some (.inr (.inr v1))] [] h = zx zblk xs 14 38 [some (.inr (.inr (some p))), some (.inr (.inr v1)), some (.inl 0)] [] h := (zx_unfold zblk xs 14 36 _ rfl _ _ _).trans rfl
theorem e_Readings_leastTwice_38 (xs : List Int) (p : Nat) (v1 : Option Nat) (v2 : Int) (h : zH) : zx zblk xs 14 38 [some (.inr (.inr (some p))), some (.inr (.inr v1)), some (.inl v2)] [] h = (zck h v1 0 (zci (zx zblk xs 2 0 [some (.inr (.inr v1))] [] h) fun r2 h1 => (if zw r2 ≤ zw v2 then zx zblk xs 14 87 [some (.inr (.inr (some p))), some (.inr (.inr v1))] [] h1 else zx zblk xs 14 50 [some (.inr (.inr (some p))), some (.inr (.inr v1)), some (.inl v2), some (.inl (v2 + 1))] [] h1))) := (zx_unfold zblk xs 14 38 _ rfl _ _ _).trans rfl
theorem e_Readings_leastTwice_50 (xs : List Int) (p : Nat) (v1 : Option Nat) (v2 : Int) (v3 : Int) (h : zH) : zx zblk xs 14 50 [some (.inr (.inr (some p))), some (.inr (.inr v1)), some (.inl v2), some (.inl v3)] [] h = (zck h v1 0 (zci (zx zblk xs 2 0 [some (.inr (.inr v1))] [] h) fun r2 h1 => (if zw r2 ≤ zw v3 then zx zblk xs 14 81 [some (.inr (.inr (some p))), some (.inr (.inr v1)), some (.inl v2)] [] h1 else (zck h1 v1 0 (zcr (zx zblk xs 4 0 [some (.inr (.inr v1)), some (.inl v2)] [] h1) fun r4 h3 => (zck h3 r4 3 (zci (zx zblk xs 19 0 [some (.inr (.inr r4))] [] h3) fun r6 h5 => (zck h5 (some p) 2 (zci (zx zblk xs 16 0 [some (.inr (.inr (some p))), some (.inr (.inr v1)), some (.inl v2), some (.inl 0), some (.inl v3), some (.inl r6)] [] h5) fun r8 h7 => zx zblk xs 14 50 [some (.inr (.inr (some p))), some (.inr (.inr v1)), some (.inl v2), some (.inl (v3 + 1))] [] h7))))))))) := (zx_unfold zblk xs 14 50 _ rfl _ _ _).trans rfl
theorem e_Readings_leastTwice_81 (xs : List Int) (p : Nat) (v1 : Option Nat) (v2 : Int) (h : zH) : zx zblk xs 14 81 [some (.inr (.inr (some p))), some (.inr (.inr v1)), some (.inl v2)] [] h = zx zblk xs 14 38 [some (.inr (.inr (some p))), some (.inr (.inr v1)), some (.inl (v2 + 1))] [] h := (zx_unfold zblk xs 14 81 _ rfl _ _ _).trans rfl
theorem e_Readings_leastTwice_87 (xs : List Int) (p : Nat) (v1 : Option Nat) (h : zH) : zx zblk xs 14 87 [some (.inr (.inr (some p))), some (.inr (.inr v1))] [] h = zx zblk xs 14 91 [some (.inr (.inr (some p))), some (.inr (.inr v1)), some (.inl 1), some (.inl 0)] [] h := (zx_unfold zblk xs 14 87 _ rfl _ _ _).trans rfl
theorem e_Readings_leastTwice_91 (xs : List Int) (p : Nat) (v1 : Option Nat) (v2 : Int) (v3 : Int) (h : zH) : zx zblk xs 14 91 [some (.inr (.inr (some p))), some (.inr (.inr v1)), some (.inl v2), some (.inl v3)] [] h = (if zw 80 < zw v3 then zx zblk xs 14 113 [some (.inr (.inr (some p)))] [] h else (if zw v2 = 0 then zx zblk xs 14 113 [some (.inr (.inr (some p)))] [] h else (zck h (some p) 2 (zci (zx zblk xs 15 0 [some (.inr (.inr (some p))), some (.inr (.inr v1))] [] h) fun r2 h1 => zx zblk xs 14 91 [some (.inr (.inr (some p))), some (.inr (.inr v1)), some (.inl r2), some (.inl (v3 + 1))] [] h1)))) := (zx_unfold zblk xs 14 91 _ rfl _ _ _).trans rfl
theorem e_Readings_leastTwice_113 (xs : List Int) (p : Nat) (h : zH) : zx zblk xs 14 113 [some (.inr (.inr (some p)))] [] h = (zgi h (some p) 2 1 fun f1 => (if zw 1000000 ≤ zw f1 then zx zblk xs 14 129 [] [] h else (zgi h (some p) 2 1 fun f2 => zx zblk xs 14 130 [] [.inl f2] h))) := (zx_unfold zblk xs 14 113 _ rfl _ _ _).trans rfl
theorem e_Readings_leastTwice_129 (xs : List Int)  (h : zH) : zx zblk xs 14 129 [] [] h = zx zblk xs 14 130 [] [.inl (-1)] h := (zx_unfold zblk xs 14 129 _ rfl _ _ _).trans rfl
theorem e_Readings_leastTwice_130 (xs : List Int) (s0 : Int) (h : zH) : zx zblk xs 14 130 [] [.inl s0] h = some (some (.inl s0), h) := (zx_unfold zblk xs 14 130 _ rfl _ _ _).trans rfl
/-- MindReaders$Readings.goOn(LMindReaders$Code;)Z -/
noncomputable abbrev r_Readings_goOn (xs : List Int) (p : Nat) (v1 : Option Nat) (h : zH) : Option zR := zx zblk xs 15 0 [some (.inr (.inr (some p))), some (.inr (.inr v1))] [] h
theorem e_Readings_goOn_0 (xs : List Int) (p : Nat) (v1 : Option Nat) (h : zH) : zx zblk xs 15 0 [some (.inr (.inr (some p))), some (.inr (.inr v1))] [] h = zx zblk xs 15 4 [some (.inr (.inr (some p))), some (.inr (.inr v1)), some (.inl 0), some (.inl 0)] [] h := (zx_unfold zblk xs 15 0 _ rfl _ _ _).trans rfl
theorem e_Readings_goOn_4 (xs : List Int) (p : Nat) (v1 : Option Nat) (v2 : Int) (v3 : Int) (h : zH) : zx zblk xs 15 4 [some (.inr (.inr (some p))), some (.inr (.inr v1)), some (.inl v2), some (.inl v3)] [] h = (if zw 80 ≤ zw v3 then zx zblk xs 15 73 [none, none, some (.inl v2)] [] h else (zgr h (some p) 2 0 fun f1 => (zck h f1 3 (zci (zx zblk xs 20 0 [some (.inr (.inr f1)), some (.inl v3)] [] h) fun r3 h2 => zx zblk xs 15 23 [some (.inr (.inr (some p))), some (.inr (.inr v1)), some (.inl v2), some (.inl v3), some (.inl r3), some (.inl 0)] [] h2)))) := (zx_unfold zblk xs 15 4 _ rfl _ _ _).trans rfl
theorem e_Readings_goOn_23 (xs : List Int) (p : Nat) (v1 : Option Nat) (v2 : Int) (v3 : Int) (v4 : Int) (v5 : Int) (h : zH) : zx zblk xs 15 23 [some (.inr (.inr (some p))), some (.inr (.inr v1)), some (.inl v2), some (.inl v3), some (.inl v4), some (.inl v5)] [] h = (zck h v1 0 (zci (zx zblk xs 2 0 [some (.inr (.inr v1))] [] h) fun r2 h1 => (if zw r2 ≤ zw v5 then zx zblk xs 15 67 [some (.inr (.inr (some p))), some (.inr (.inr v1)), some (.inl v2), some (.inl v3)] [] h1 else (if zw 1000000 ≤ zw v4 then zx zblk xs 15 67 [some (.inr (.inr (some p))), some (.inr (.inr v1)), some (.inl v2), some (.inl v3)] [] h1 else (if zw 10 = 0 then none else (if zw 10 = 0 then none else (zck h1 (some p) 2 (zci (zx zblk xs 16 0 [some (.inr (.inr (some p))), some (.inr (.inr v1)), some (.inl ((zw v3).tdiv (zw 10))), some (.inl ((zw v3).tmod (zw 10))), some (.inl v5), some (.inl v4)] [] h1) fun r4 h3 => (if zw r4 = 0 then zx zblk xs 15 61 [some (.inr (.inr (some p))), some (.inr (.inr v1)), some (.inl v2), some (.inl v3), some (.inl v4), some (.inl v5)] [] h3 else zx zblk xs 15 61 [some (.inr (.inr (some p))), some (.inr (.inr v1)), some (.inl 1), some (.inl v3), some (.inl v4), some (.inl v5)] [] h3))))))))) := (zx_unfold zblk xs 15 23 _ rfl _ _ _).trans rfl
theorem e_Readings_goOn_61 (xs : List Int) (p : Nat) (v1 : Option Nat) (v2 : Int) (v3 : Int) (v4 : Int) (v5 : Int) (h : zH) : zx zblk xs 15 61 [some (.inr (.inr (some p))), some (.inr (.inr v1)), some (.inl v2), some (.inl v3), some (.inl v4), some (.inl v5)] [] h = zx zblk xs 15 23 [some (.inr (.inr (some p))), some (.inr (.inr v1)), some (.inl v2), some (.inl v3), some (.inl v4), some (.inl (v5 + 1))] [] h := (zx_unfold zblk xs 15 61 _ rfl _ _ _).trans rfl
theorem e_Readings_goOn_67 (xs : List Int) (p : Nat) (v1 : Option Nat) (v2 : Int) (v3 : Int) (h : zH) : zx zblk xs 15 67 [some (.inr (.inr (some p))), some (.inr (.inr v1)), some (.inl v2), some (.inl v3)] [] h = zx zblk xs 15 4 [some (.inr (.inr (some p))), some (.inr (.inr v1)), some (.inl v2), some (.inl (v3 + 1))] [] h := (zx_unfold zblk xs 15 67 _ rfl _ _ _).trans rfl
theorem e_Readings_goOn_73 (xs : List Int) (v2 : Int) (h : zH) : zx zblk xs 15 73 [none, none, some (.inl v2)] [] h = (if v2 = 0 ∨ v2 = 1 then some (some (.inl v2), h) else none) := (zx_unfold zblk xs 15 73 _ rfl _ _ _).trans rfl
/-- MindReaders$Readings.meet(LMindReaders$Code;IIII)Z -/
noncomputable abbrev r_Readings_meet (xs : List Int) (p : Nat) (v1 : Option Nat) (v2 : Int) (v3 : Int) (v4 : Int) (v5 : Int) (h : zH) : Option zR := zx zblk xs 16 0 [some (.inr (.inr (some p))), some (.inr (.inr v1)), some (.inl v2), some (.inl v3), some (.inl v4), some (.inl v5)] [] h
theorem e_Readings_meet_0 (xs : List Int) (p : Nat) (v1 : Option Nat) (v2 : Int) (v3 : Int) (v4 : Int) (v5 : Int) (h : zH) : zx zblk xs 16 0 [some (.inr (.inr (some p))), some (.inr (.inr v1)), some (.inl v2), some (.inl v3), some (.inl v4), some (.inl v5)] [] h = (zck h v1 0 (zcr (zx zblk xs 4 0 [some (.inr (.inr v1)), some (.inl v2)] [] h) fun r2 h1 => (zck h1 v1 0 (zcr (zx zblk xs 4 0 [some (.inr (.inr v1)), some (.inl v4)] [] h1) fun r4 h3 => (zck h3 r2 3 (zci (zx zblk xs 19 0 [some (.inr (.inr r2))] [] h3) fun r6 h5 => (if zw (r6 - v3) ≤ 0 then zx zblk xs 16 37 [] [] h5 else (zck h5 r4 3 (zci (zx zblk xs 19 0 [some (.inr (.inr r4))] [] h5) fun r8 h7 => (if zw r8 ≠ 0 then zx zblk xs 16 39 [some (.inr (.inr (some p))), none, some (.inl v2), some (.inl v3), some (.inl v4), some (.inl v5), some (.inr (.inr r2)), some (.inr (.inr r4)), some (.inl (r6 - v3))] [] h7 else zx zblk xs 16 37 [] [] h7)))))))))) := (zx_unfold zblk xs 16 0 _ rfl _ _ _).trans rfl
theorem e_Readings_meet_37 (xs : List Int)  (h : zH) : zx zblk xs 16 37 [] [] h = (if 0 = 0 ∨ 0 = 1 then some (some (.inl 0), h) else none) := (zx_unfold zblk xs 16 37 _ rfl _ _ _).trans rfl
theorem e_Readings_meet_39 (xs : List Int) (p : Nat) (v2 : Int) (v3 : Int) (v4 : Int) (v5 : Int) (v6 : Option Nat) (v7 : Option Nat) (v8 : Int) (h : zH) : zx zblk xs 16 39 [some (.inr (.inr (some p))), none, some (.inl v2), some (.inl v3), some (.inl v4), some (.inl v5), some (.inr (.inr v6)), some (.inr (.inr v7)), some (.inl v8)] [] h = zx zblk xs 16 42 [some (.inr (.inr (some p))), none, some (.inl v2), some (.inl v3), some (.inl v4), some (.inl v5), some (.inr (.inr v6)), some (.inr (.inr v7)), some (.inl v8), some (.inl 0)] [] h := (zx_unfold zblk xs 16 39 _ rfl _ _ _).trans rfl
theorem e_Readings_meet_42 (xs : List Int) (p : Nat) (v2 : Int) (v3 : Int) (v4 : Int) (v5 : Int) (v6 : Option Nat) (v7 : Option Nat) (v8 : Int) (v9 : Int) (h : zH) : zx zblk xs 16 42 [some (.inr (.inr (some p))), none, some (.inl v2), some (.inl v3), some (.inl v4), some (.inl v5), some (.inr (.inr v6)), some (.inr (.inr v7)), some (.inl v8), some (.inl v9)] [] h = (if zw v8 ≤ zw v9 then zx zblk xs 16 86 [some (.inr (.inr (some p))), none, some (.inl v2), some (.inl v3), some (.inl v4), some (.inl v5), none, some (.inr (.inr v7)), some (.inl v8)] [] h else (zck h v7 3 (zci (zx zblk xs 19 0 [some (.inr (.inr v7))] [] h) fun r2 h1 => (if zw r2 ≤ zw v9 then zx zblk xs 16 86 [some (.inr (.inr (some p))), none, some (.inl v2), some (.inl v3), some (.inl v4), some (.inl v5), none, some (.inr (.inr v7)), some (.inl v8)] [] h1 else (zck h1 v6 3 (zci (zx zblk xs 20 0 [some (.inr (.inr v6)), some (.inl (v3 + v9))] [] h1) fun r4 h3 => (zck h3 v7 3 (zci (zx zblk xs 20 0 [some (.inr (.inr v7)), some (.inl v9)] [] h3) fun r6 h5 => (if zw r4 = zw r6 then zx zblk xs 16 80 [some (.inr (.inr (some p))), none, some (.inl v2), some (.inl v3), some (.inl v4), some (.inl v5), some (.inr (.inr v6)), some (.inr (.inr v7)), some (.inl v8), some (.inl v9)] [] h5 else (if 0 = 0 ∨ 0 = 1 then some (some (.inl 0), h5) else none)))))))))) := (zx_unfold zblk xs 16 42 _ rfl _ _ _).trans rfl
theorem e_Readings_meet_80 (xs : List Int) (p : Nat) (v2 : Int) (v3 : Int) (v4 : Int) (v5 : Int) (v6 : Option Nat) (v7 : Option Nat) (v8 : Int) (v9 : Int) (h : zH) : zx zblk xs 16 80 [some (.inr (.inr (some p))), none, some (.inl v2), some (.inl v3), some (.inl v4), some (.inl v5), some (.inr (.inr v6)), some (.inr (.inr v7)), some (.inl v8), some (.inl v9)] [] h = zx zblk xs 16 42 [some (.inr (.inr (some p))), none, some (.inl v2), some (.inl v3), some (.inl v4), some (.inl v5), some (.inr (.inr v6)), some (.inr (.inr v7)), some (.inl v8), some (.inl (v9 + 1))] [] h := (zx_unfold zblk xs 16 80 _ rfl _ _ _).trans rfl
theorem e_Readings_meet_86 (xs : List Int) (p : Nat) (v2 : Int) (v3 : Int) (v4 : Int) (v5 : Int) (v7 : Option Nat) (v8 : Int) (h : zH) : zx zblk xs 16 86 [some (.inr (.inr (some p))), none, some (.inl v2), some (.inl v3), some (.inl v4), some (.inl v5), none, some (.inr (.inr v7)), some (.inl v8)] [] h = (zck h v7 3 (zci (zx zblk xs 19 0 [some (.inr (.inr v7))] [] h) fun r2 h1 => (if zw v8 ≠ zw r2 then zx zblk xs 16 111 [some (.inr (.inr (some p))), none, some (.inl v2), some (.inl v3), some (.inl v4), some (.inl v5), none, some (.inr (.inr v7)), some (.inl v8)] [] h1 else (zgi h1 (some p) 2 1 fun f3 => (zpf h1 (some p) 2 1 (.inl (if zw v5 < zw f3 then v5 else f3)) fun h4 => (if 0 = 0 ∨ 0 = 1 then some (some (.inl 0), h4) else none)))))) := (zx_unfold zblk xs 16 86 _ rfl _ _ _).trans rfl
theorem e_Readings_meet_111 (xs : List Int) (p : Nat) (v2 : Int) (v3 : Int) (v4 : Int) (v5 : Int) (v7 : Option Nat) (v8 : Int) (h : zH) : zx zblk xs 16 111 [some (.inr (.inr (some p))), none, some (.inl v2), some (.inl v3), some (.inl v4), some (.inl v5), none, some (.inr (.inr v7)), some (.inl v8)] [] h = (zck h v7 3 (zci (zx zblk xs 19 0 [some (.inr (.inr v7))] [] h) fun r2 h1 => (if zw v8 ≤ zw r2 then zx zblk xs 16 136 [some (.inr (.inr (some p))), none, none, none, some (.inl v4), some (.inl v5), none, some (.inr (.inr v7)), some (.inl v8)] [] h1 else (zck h1 v7 3 (zci (zx zblk xs 19 0 [some (.inr (.inr v7))] [] h1) fun r4 h3 => (zck h3 (some p) 2 (zci (zx zblk xs 17 0 [some (.inr (.inr (some p))), some (.inl v2), some (.inl (v3 + r4)), some (.inl v5)] [] h3) fun r6 h5 => (if r6 = 0 ∨ r6 = 1 then some (some (.inl r6), h5) else none)))))))) := (zx_unfold zblk xs 16 111 _ rfl _ _ _).trans rfl
theorem e_Readings_meet_136 (xs : List Int) (p : Nat) (v4 : Int) (v5 : Int) (v7 : Option Nat) (v8 : Int) (h : zH) : zx zblk xs 16 136 [some (.inr (.inr (some p))), none, none, none, some (.inl v4), some (.inl v5), none, some (.inr (.inr v7)), some (.inl v8)] [] h = (zck h v7 3 (zci (zx zblk xs 19 0 [some (.inr (.inr v7))] [] h) fun r2 h1 => (zck h1 (some p) 2 (zci (zx zblk xs 17 0 [some (.inr (.inr (some p))), some (.inl v4), some (.inl v8), some (.inl ((v5 + r2) - v8))] [] h1) fun r4 h3 => (if r4 = 0 ∨ r4 = 1 then some (some (.inl r4), h3) else none))))) := (zx_unfold zblk xs 16 136 _ rfl _ _ _).trans rfl
/-- MindReaders$Readings.comeTo(III)Z -/
noncomputable abbrev r_Readings_comeTo (xs : List Int) (p : Nat) (v1 : Int) (v2 : Int) (v3 : Int) (h : zH) : Option zR := zx zblk xs 17 0 [some (.inr (.inr (some p))), some (.inl v1), some (.inl v2), some (.inl v3)] [] h
theorem e_Readings_comeTo_0 (xs : List Int) (p : Nat) (v1 : Int) (v2 : Int) (v3 : Int) (h : zH) : zx zblk xs 17 0 [some (.inr (.inr (some p))), some (.inl v1), some (.inl v2), some (.inl v3)] [] h = (zgr h (some p) 2 0 fun f1 => (zck h f1 3 (zci (zx zblk xs 20 0 [some (.inr (.inr f1)), some (.inl ((v1 * 10) + v2))] [] h) fun r3 h2 => (if zw v3 < zw r3 then zx zblk xs 17 23 [some (.inr (.inr (some p))), none, none, some (.inl v3), some (.inl ((v1 * 10) + v2))] [] h2 else (if 0 = 0 ∨ 0 = 1 then some (some (.inl 0), h2) else none))))) := (zx_unfold zblk xs 17 0 _ rfl _ _ _).trans rfl
theorem e_Readings_comeTo_23 (xs : List Int) (p : Nat) (v3 : Int) (v4 : Int) (h : zH) : zx zblk xs 17 23 [some (.inr (.inr (some p))), none, none, some (.inl v3), some (.inl v4)] [] h = (zgr h (some p) 2 0 fun f1 => (zck h f1 3 (zcv (zx zblk xs 21 0 [some (.inr (.inr f1)), some (.inl v4), some (.inl v3)] [] h) fun h2 => (if 1 = 0 ∨ 1 = 1 then some (some (.inl 1), h2) else none)))) := (zx_unfold zblk xs 17 23 _ rfl _ _ _).trans rfl
/-- MindReaders$Row.size()I -/
noncomputable abbrev r_Row_size (xs : List Int) (p : Nat) (h : zH) : Option zR := zx zblk xs 19 0 [some (.inr (.inr (some p)))] [] h
theorem e_Row_size_0 (xs : List Int) (p : Nat) (h : zH) : zx zblk xs 19 0 [some (.inr (.inr (some p)))] [] h = (zgi h (some p) 3 1 fun f1 => some (some (.inl f1), h)) := (zx_unfold zblk xs 19 0 _ rfl _ _ _).trans rfl
/-- MindReaders$Row.at(I)I -/
noncomputable abbrev r_Row_at (xs : List Int) (p : Nat) (v1 : Int) (h : zH) : Option zR := zx zblk xs 20 0 [some (.inr (.inr (some p))), some (.inl v1)] [] h
theorem e_Row_at_0 (xs : List Int) (p : Nat) (v1 : Int) (h : zH) : zx zblk xs 20 0 [some (.inr (.inr (some p))), some (.inl v1)] [] h = (if zw v1 < 0 then zx zblk xs 20 30 [] [] h else (zgi h (some p) 3 1 fun f1 => (if zw f1 ≤ zw v1 then zx zblk xs 20 30 [] [] h else (zgr h (some p) 3 0 fun f2 => (zln xs h f2 fun n3 => (if zw n3 ≤ zw v1 then zx zblk xs 20 30 [] [] h else (zgr h (some p) 3 0 fun f4 => (zai xs h f4 v1 fun a5 => zx zblk xs 20 31 [] [.inl a5] h)))))))) := (zx_unfold zblk xs 20 0 _ rfl _ _ _).trans rfl
theorem e_Row_at_30 (xs : List Int)  (h : zH) : zx zblk xs 20 30 [] [] h = zx zblk xs 20 31 [] [.inl (-1)] h := (zx_unfold zblk xs 20 30 _ rfl _ _ _).trans rfl
theorem e_Row_at_31 (xs : List Int) (s0 : Int) (h : zH) : zx zblk xs 20 31 [] [.inl s0] h = some (some (.inl s0), h) := (zx_unfold zblk xs 20 31 _ rfl _ _ _).trans rfl
/-- MindReaders$Row.set(II)V -/
noncomputable abbrev r_Row_set (xs : List Int) (p : Nat) (v1 : Int) (v2 : Int) (h : zH) : Option zR := zx zblk xs 21 0 [some (.inr (.inr (some p))), some (.inl v1), some (.inl v2)] [] h
theorem e_Row_set_0 (xs : List Int) (p : Nat) (v1 : Int) (v2 : Int) (h : zH) : zx zblk xs 21 0 [some (.inr (.inr (some p))), some (.inl v1), some (.inl v2)] [] h = (if zw v1 < 0 then zx zblk xs 21 28 [] [] h else (zgi h (some p) 3 1 fun f1 => (if zw f1 ≤ zw v1 then zx zblk xs 21 28 [] [] h else (zgr h (some p) 3 0 fun f2 => (zln xs h f2 fun n3 => (if zw n3 ≤ zw v1 then zx zblk xs 21 28 [] [] h else (zgr h (some p) 3 0 fun f4 => (zst h f4 100 v1 (.inl v2) fun h5 => zx zblk xs 21 28 [] [] h5)))))))) := (zx_unfold zblk xs 21 0 _ rfl _ _ _).trans rfl
theorem e_Row_set_28 (xs : List Int)  (h : zH) : zx zblk xs 21 28 [] [] h = some (none, h) := (zx_unfold zblk xs 21 28 _ rfl _ _ _).trans rfl
/-- MindReaders$Row.add(I)V -/
noncomputable abbrev r_Row_add (xs : List Int) (p : Nat) (v1 : Int) (h : zH) : Option zR := zx zblk xs 22 0 [some (.inr (.inr (some p))), some (.inl v1)] [] h
theorem e_Row_add_0 (xs : List Int) (p : Nat) (v1 : Int) (h : zH) : zx zblk xs 22 0 [some (.inr (.inr (some p))), some (.inl v1)] [] h = (zgi h (some p) 3 1 fun f1 => (if zw f1 < 0 then zx zblk xs 22 39 [] [] h else (zgi h (some p) 3 1 fun f2 => (zgr h (some p) 3 0 fun f3 => (zln xs h f3 fun n4 => (if zw n4 ≤ zw f2 then zx zblk xs 22 39 [] [] h else (zgr h (some p) 3 0 fun f5 => (zgi h (some p) 3 1 fun f6 => (zst h f5 100 f6 (.inl v1) fun h7 => (zgi h7 (some p) 3 1 fun f8 => (zpf h7 (some p) 3 1 (.inl (f8 + 1)) fun h9 => zx zblk xs 22 39 [] [] h9))))))))))) := (zx_unfold zblk xs 22 0 _ rfl _ _ _).trans rfl
theorem e_Row_add_39 (xs : List Int)  (h : zH) : zx zblk xs 22 39 [] [] h = some (none, h) := (zx_unfold zblk xs 22 39 _ rfl _ _ _).trans rfl
/-- MindReaders$Row.dropLast()V -/
noncomputable abbrev r_Row_dropLast (xs : List Int) (p : Nat) (h : zH) : Option zR := zx zblk xs 23 0 [some (.inr (.inr (some p)))] [] h
theorem e_Row_dropLast_0 (xs : List Int) (p : Nat) (h : zH) : zx zblk xs 23 0 [some (.inr (.inr (some p)))] [] h = (zgi h (some p) 3 1 fun f1 => (if zw f1 ≤ 0 then zx zblk xs 23 17 [] [] h else (zgi h (some p) 3 1 fun f2 => (zpf h (some p) 3 1 (.inl (f2 - 1)) fun h3 => zx zblk xs 23 17 [] [] h3)))) := (zx_unfold zblk xs 23 0 _ rfl _ _ _).trans rfl
theorem e_Row_dropLast_17 (xs : List Int)  (h : zH) : zx zblk xs 23 17 [] [] h = some (none, h) := (zx_unfold zblk xs 23 17 _ rfl _ _ _).trans rfl
/-- MindReaders$Row.wipe()V -/
noncomputable abbrev r_Row_wipe (xs : List Int) (p : Nat) (h : zH) : Option zR := zx zblk xs 24 0 [some (.inr (.inr (some p)))] [] h
theorem e_Row_wipe_0 (xs : List Int) (p : Nat) (h : zH) : zx zblk xs 24 0 [some (.inr (.inr (some p)))] [] h = (zpf h (some p) 3 1 (.inl 0) fun h1 => some (none, h1)) := (zx_unfold zblk xs 24 0 _ rfl _ _ _).trans rfl
/-- MindReaders$Row.isLike(LMindReaders$Row;)Z -/
noncomputable abbrev r_Row_isLike (xs : List Int) (p : Nat) (v1 : Option Nat) (h : zH) : Option zR := zx zblk xs 25 0 [some (.inr (.inr (some p))), some (.inr (.inr v1))] [] h
theorem e_Row_isLike_0 (xs : List Int) (p : Nat) (v1 : Option Nat) (h : zH) : zx zblk xs 25 0 [some (.inr (.inr (some p))), some (.inr (.inr v1))] [] h = (zgi h (some p) 3 1 fun f1 => (zck h v1 3 (zci (zx zblk xs 19 0 [some (.inr (.inr v1))] [] h) fun r3 h2 => (if zw f1 ≠ zw r3 then zx zblk xs 25 23 [] [] h2 else (zck h2 (some p) 3 (zci (zx zblk xs 26 0 [some (.inr (.inr (some p))), some (.inr (.inr v1))] [] h2) fun r5 h4 => (if zw r5 = 0 then zx zblk xs 25 23 [] [] h4 else zx zblk xs 25 24 [] [.inl 1] h4))))))) := (zx_unfold zblk xs 25 0 _ rfl _ _ _).trans rfl
theorem e_Row_isLike_23 (xs : List Int)  (h : zH) : zx zblk xs 25 23 [] [] h = zx zblk xs 25 24 [] [.inl 0] h := (zx_unfold zblk xs 25 23 _ rfl _ _ _).trans rfl
theorem e_Row_isLike_24 (xs : List Int) (s0 : Int) (h : zH) : zx zblk xs 25 24 [] [.inl s0] h = (if s0 = 0 ∨ s0 = 1 then some (some (.inl s0), h) else none) := (zx_unfold zblk xs 25 24 _ rfl _ _ _).trans rfl
/-- MindReaders$Row.isStartOf(LMindReaders$Row;)Z -/
noncomputable abbrev r_Row_isStartOf (xs : List Int) (p : Nat) (v1 : Option Nat) (h : zH) : Option zR := zx zblk xs 26 0 [some (.inr (.inr (some p))), some (.inr (.inr v1))] [] h
theorem e_Row_isStartOf_0 (xs : List Int) (p : Nat) (v1 : Option Nat) (h : zH) : zx zblk xs 26 0 [some (.inr (.inr (some p))), some (.inr (.inr v1))] [] h = zx zblk xs 26 2 [some (.inr (.inr (some p))), some (.inr (.inr v1)), some (.inl 0)] [] h := (zx_unfold zblk xs 26 0 _ rfl _ _ _).trans rfl
theorem e_Row_isStartOf_2 (xs : List Int) (p : Nat) (v1 : Option Nat) (v2 : Int) (h : zH) : zx zblk xs 26 2 [some (.inr (.inr (some p))), some (.inr (.inr v1)), some (.inl v2)] [] h = (zgi h (some p) 3 1 fun f1 => (if zw f1 ≤ zw v2 then zx zblk xs 26 31 [] [] h else (zck h (some p) 3 (zci (zx zblk xs 20 0 [some (.inr (.inr (some p))), some (.inl v2)] [] h) fun r3 h2 => (zck h2 v1 3 (zci (zx zblk xs 20 0 [some (.inr (.inr v1)), some (.inl v2)] [] h2) fun r5 h4 => (if zw r3 = zw r5 then zx zblk xs 26 25 [some (.inr (.inr (some p))), some (.inr (.inr v1)), some (.inl v2)] [] h4 else (if 0 = 0 ∨ 0 = 1 then some (some (.inl 0), h4) else none)))))))) := (zx_unfold zblk xs 26 2 _ rfl _ _ _).trans rfl
theorem e_Row_isStartOf_25 (xs : List Int) (p : Nat) (v1 : Option Nat) (v2 : Int) (h : zH) : zx zblk xs 26 25 [some (.inr (.inr (some p))), some (.inr (.inr v1)), some (.inl v2)] [] h = zx zblk xs 26 2 [some (.inr (.inr (some p))), some (.inr (.inr v1)), some (.inl (v2 + 1))] [] h := (zx_unfold zblk xs 26 25 _ rfl _ _ _).trans rfl
theorem e_Row_isStartOf_31 (xs : List Int)  (h : zH) : zx zblk xs 26 31 [] [] h = (if 1 = 0 ∨ 1 = 1 then some (some (.inl 1), h) else none) := (zx_unfold zblk xs 26 31 _ rfl _ _ _).trans rfl
/-- MindReaders$Row.placesApart(LMindReaders$Row;)I -/
noncomputable abbrev r_Row_placesApart (xs : List Int) (p : Nat) (v1 : Option Nat) (h : zH) : Option zR := zx zblk xs 27 0 [some (.inr (.inr (some p))), some (.inr (.inr v1))] [] h
theorem e_Row_placesApart_0 (xs : List Int) (p : Nat) (v1 : Option Nat) (h : zH) : zx zblk xs 27 0 [some (.inr (.inr (some p))), some (.inr (.inr v1))] [] h = zx zblk xs 27 4 [some (.inr (.inr (some p))), some (.inr (.inr v1)), some (.inl 0), some (.inl 0)] [] h := (zx_unfold zblk xs 27 0 _ rfl _ _ _).trans rfl
theorem e_Row_placesApart_4 (xs : List Int) (p : Nat) (v1 : Option Nat) (v2 : Int) (v3 : Int) (h : zH) : zx zblk xs 27 4 [some (.inr (.inr (some p))), some (.inr (.inr v1)), some (.inl v2), some (.inl v3)] [] h = (zgi h (some p) 3 1 fun f1 => (if zw f1 ≤ zw v3 then zx zblk xs 27 34 [none, none, some (.inl v2)] [] h else (zck h (some p) 3 (zci (zx zblk xs 20 0 [some (.inr (.inr (some p))), some (.inl v3)] [] h) fun r3 h2 => (zck h2 v1 3 (zci (zx zblk xs 20 0 [some (.inr (.inr v1)), some (.inl v3)] [] h2) fun r5 h4 => (if zw r3 = zw r5 then zx zblk xs 27 28 [some (.inr (.inr (some p))), some (.inr (.inr v1)), some (.inl v2), some (.inl v3)] [] h4 else zx zblk xs 27 28 [some (.inr (.inr (some p))), some (.inr (.inr v1)), some (.inl (v2 + 1)), some (.inl v3)] [] h4))))))) := (zx_unfold zblk xs 27 4 _ rfl _ _ _).trans rfl
theorem e_Row_placesApart_28 (xs : List Int) (p : Nat) (v1 : Option Nat) (v2 : Int) (v3 : Int) (h : zH) : zx zblk xs 27 28 [some (.inr (.inr (some p))), some (.inr (.inr v1)), some (.inl v2), some (.inl v3)] [] h = zx zblk xs 27 4 [some (.inr (.inr (some p))), some (.inr (.inr v1)), some (.inl v2), some (.inl (v3 + 1))] [] h := (zx_unfold zblk xs 27 28 _ rfl _ _ _).trans rfl
theorem e_Row_placesApart_34 (xs : List Int) (v2 : Int) (h : zH) : zx zblk xs 27 34 [none, none, some (.inl v2)] [] h = some (some (.inl v2), h) := (zx_unfold zblk xs 27 34 _ rfl _ _ _).trans rfl
/-- MindReaders$Row.sumOf(I)I -/
noncomputable abbrev r_Row_sumOf (xs : List Int) (p : Nat) (v1 : Int) (h : zH) : Option zR := zx zblk xs 28 0 [some (.inr (.inr (some p))), some (.inl v1)] [] h
theorem e_Row_sumOf_0 (xs : List Int) (p : Nat) (v1 : Int) (h : zH) : zx zblk xs 28 0 [some (.inr (.inr (some p))), some (.inl v1)] [] h = zx zblk xs 28 4 [some (.inr (.inr (some p))), some (.inl v1), some (.inl 0), some (.inl 0)] [] h := (zx_unfold zblk xs 28 0 _ rfl _ _ _).trans rfl
theorem e_Row_sumOf_4 (xs : List Int) (p : Nat) (v1 : Int) (v2 : Int) (v3 : Int) (h : zH) : zx zblk xs 28 4 [some (.inr (.inr (some p))), some (.inl v1), some (.inl v2), some (.inl v3)] [] h = (if zw v1 ≤ zw v3 then zx zblk xs 28 31 [none, none, some (.inl v2)] [] h else (zgi h (some p) 3 1 fun f1 => (if zw f1 ≤ zw v3 then zx zblk xs 28 31 [none, none, some (.inl v2)] [] h else (zck h (some p) 3 (zci (zx zblk xs 20 0 [some (.inr (.inr (some p))), some (.inl v3)] [] h) fun r3 h2 => zx zblk xs 28 4 [some (.inr (.inr (some p))), some (.inl v1), some (.inl (v2 + r3)), some (.inl (v3 + 1))] [] h2))))) := (zx_unfold zblk xs 28 4 _ rfl _ _ _).trans rfl
theorem e_Row_sumOf_31 (xs : List Int) (v2 : Int) (h : zH) : zx zblk xs 28 31 [none, none, some (.inl v2)] [] h = some (some (.inl v2), h) := (zx_unfold zblk xs 28 31 _ rfl _ _ _).trans rfl
/-- MindReaders$Rows.row(I)LMindReaders$Row; -/
noncomputable abbrev r_Rows_row (xs : List Int) (p : Nat) (v1 : Int) (h : zH) : Option zR := zx zblk xs 30 0 [some (.inr (.inr (some p))), some (.inl v1)] [] h
theorem e_Rows_row_0 (xs : List Int) (p : Nat) (v1 : Int) (h : zH) : zx zblk xs 30 0 [some (.inr (.inr (some p))), some (.inl v1)] [] h = (if zw v1 < 0 then zx zblk xs 30 22 [some (.inr (.inr (some p)))] [] h else (zgr h (some p) 4 0 fun f1 => (zln xs h f1 fun n2 => (if zw n2 ≤ zw v1 then zx zblk xs 30 22 [some (.inr (.inr (some p)))] [] h else (zgr h (some p) 4 0 fun f3 => (zaa xs h f3 105 v1 fun a4 => zx zblk xs 30 23 [some (.inr (.inr (some p)))] [.inr (.inr a4)] h)))))) := (zx_unfold zblk xs 30 0 _ rfl _ _ _).trans rfl
theorem e_Rows_row_22 (xs : List Int) (p : Nat) (h : zH) : zx zblk xs 30 22 [some (.inr (.inr (some p)))] [] h = zx zblk xs 30 23 [some (.inr (.inr (some p)))] [.inr (.inr none)] h := (zx_unfold zblk xs 30 22 _ rfl _ _ _).trans rfl
theorem e_Rows_row_23 (xs : List Int) (p : Nat) (s0 : Option Nat) (h : zH) : zx zblk xs 30 23 [some (.inr (.inr (some p)))] [.inr (.inr s0)] h = (zif s0 ((zgr h (some p) 4 1 fun f1 => zx zblk xs 30 36 [] [.inr (.inr f1)] h)) (zx zblk xs 30 35 [none, none, some (.inr (.inr s0))] [] h)) := (zx_unfold zblk xs 30 23 _ rfl _ _ _).trans rfl
theorem e_Rows_row_35 (xs : List Int) (v2 : Option Nat) (h : zH) : zx zblk xs 30 35 [none, none, some (.inr (.inr v2))] [] h = zx zblk xs 30 36 [] [.inr (.inr v2)] h := (zx_unfold zblk xs 30 35 _ rfl _ _ _).trans rfl
theorem e_Rows_row_36 (xs : List Int) (s0 : Option Nat) (h : zH) : zx zblk xs 30 36 [] [.inr (.inr s0)] h = some (some (.inr (.inr s0)), h) := (zx_unfold zblk xs 30 36 _ rfl _ _ _).trans rfl
/-- MindReaders$Signals.told()I -/
noncomputable abbrev r_Signals_told (xs : List Int) (p : Nat) (h : zH) : Option zR := zx zblk xs 32 0 [some (.inr (.inr (some p)))] [] h
theorem e_Signals_told_0 (xs : List Int) (p : Nat) (h : zH) : zx zblk xs 32 0 [some (.inr (.inr (some p)))] [] h = (zgr h (some p) 5 0 fun f1 => (zck h f1 3 (zci (zx zblk xs 19 0 [some (.inr (.inr f1))] [] h) fun r3 h2 => some (some (.inl r3), h2)))) := (zx_unfold zblk xs 32 0 _ rfl _ _ _).trans rfl
/-- MindReaders$Signals.isTold(I)Z -/
noncomputable abbrev r_Signals_isTold (xs : List Int) (p : Nat) (v1 : Int) (h : zH) : Option zR := zx zblk xs 33 0 [some (.inr (.inr (some p))), some (.inl v1)] [] h
theorem e_Signals_isTold_0 (xs : List Int) (p : Nat) (v1 : Int) (h : zH) : zx zblk xs 33 0 [some (.inr (.inr (some p))), some (.inl v1)] [] h = (if zw v1 < 0 then zx zblk xs 33 19 [] [] h else (zgr h (some p) 5 0 fun f1 => (zck h f1 3 (zci (zx zblk xs 19 0 [some (.inr (.inr f1))] [] h) fun r3 h2 => (if zw r3 ≤ zw v1 then zx zblk xs 33 19 [] [] h2 else zx zblk xs 33 20 [] [.inl 1] h2))))) := (zx_unfold zblk xs 33 0 _ rfl _ _ _).trans rfl
theorem e_Signals_isTold_19 (xs : List Int)  (h : zH) : zx zblk xs 33 19 [] [] h = zx zblk xs 33 20 [] [.inl 0] h := (zx_unfold zblk xs 33 19 _ rfl _ _ _).trans rfl
theorem e_Signals_isTold_20 (xs : List Int) (s0 : Int) (h : zH) : zx zblk xs 33 20 [] [.inl s0] h = (if s0 = 0 ∨ s0 = 1 then some (some (.inl s0), h) else none) := (zx_unfold zblk xs 33 20 _ rfl _ _ _).trans rfl
/-- MindReaders$Signals.tell(IIII)V -/
noncomputable abbrev r_Signals_tell (xs : List Int) (p : Nat) (v1 : Int) (v2 : Int) (v3 : Int) (v4 : Int) (h : zH) : Option zR := zx zblk xs 34 0 [some (.inr (.inr (some p))), some (.inl v1), some (.inl v2), some (.inl v3), some (.inl v4)] [] h
theorem e_Signals_tell_0 (xs : List Int) (p : Nat) (v1 : Int) (v2 : Int) (v3 : Int) (v4 : Int) (h : zH) : zx zblk xs 34 0 [some (.inr (.inr (some p))), some (.inl v1), some (.inl v2), some (.inl v3), some (.inl v4)] [] h = (zgr h (some p) 5 0 fun f1 => (zck h f1 3 (zcv (zx zblk xs 22 0 [some (.inr (.inr f1)), some (.inl v1)] [] h) fun h2 => (zgr h2 (some p) 5 1 fun f3 => (zck h2 f3 3 (zcv (zx zblk xs 22 0 [some (.inr (.inr f3)), some (.inl v2)] [] h2) fun h4 => (zgr h4 (some p) 5 2 fun f5 => (zck h4 f5 3 (zcv (zx zblk xs 22 0 [some (.inr (.inr f5)), some (.inl v3)] [] h4) fun h6 => (zgr h6 (some p) 5 3 fun f7 => (zck h6 f7 3 (zcv (zx zblk xs 22 0 [some (.inr (.inr f7)), some (.inl v4)] [] h6) fun h8 => some (none, h8))))))))))))) := (zx_unfold zblk xs 34 0 _ rfl _ _ _).trans rfl
/-- MindReaders$Signals.kindOf(I)I -/
noncomputable abbrev r_Signals_kindOf (xs : List Int) (p : Nat) (v1 : Int) (h : zH) : Option zR := zx zblk xs 35 0 [some (.inr (.inr (some p))), some (.inl v1)] [] h
theorem e_Signals_kindOf_0 (xs : List Int) (p : Nat) (v1 : Int) (h : zH) : zx zblk xs 35 0 [some (.inr (.inr (some p))), some (.inl v1)] [] h = (zgr h (some p) 5 0 fun f1 => (zck h f1 3 (zci (zx zblk xs 20 0 [some (.inr (.inr f1)), some (.inl v1)] [] h) fun r3 h2 => (if zw r3 ≠ zw (-1) then zx zblk xs 35 18 [none, none, some (.inl r3)] [] h2 else zx zblk xs 35 19 [] [.inl 0] h2)))) := (zx_unfold zblk xs 35 0 _ rfl _ _ _).trans rfl
theorem e_Signals_kindOf_18 (xs : List Int) (v2 : Int) (h : zH) : zx zblk xs 35 18 [none, none, some (.inl v2)] [] h = zx zblk xs 35 19 [] [.inl v2] h := (zx_unfold zblk xs 35 18 _ rfl _ _ _).trans rfl
theorem e_Signals_kindOf_19 (xs : List Int) (s0 : Int) (h : zH) : zx zblk xs 35 19 [] [.inl s0] h = some (some (.inl s0), h) := (zx_unfold zblk xs 35 19 _ rfl _ _ _).trans rfl
/-- MindReaders$Signals.toneOf(I)I -/
noncomputable abbrev r_Signals_toneOf (xs : List Int) (p : Nat) (v1 : Int) (h : zH) : Option zR := zx zblk xs 36 0 [some (.inr (.inr (some p))), some (.inl v1)] [] h
theorem e_Signals_toneOf_0 (xs : List Int) (p : Nat) (v1 : Int) (h : zH) : zx zblk xs 36 0 [some (.inr (.inr (some p))), some (.inl v1)] [] h = (zgr h (some p) 5 1 fun f1 => (zck h f1 3 (zci (zx zblk xs 20 0 [some (.inr (.inr f1)), some (.inl v1)] [] h) fun r3 h2 => some (some (.inl r3), h2)))) := (zx_unfold zblk xs 36 0 _ rfl _ _ _).trans rfl
/-- MindReaders$Signals.secondsOf(I)I -/
noncomputable abbrev r_Signals_secondsOf (xs : List Int) (p : Nat) (v1 : Int) (h : zH) : Option zR := zx zblk xs 37 0 [some (.inr (.inr (some p))), some (.inl v1)] [] h
theorem e_Signals_secondsOf_0 (xs : List Int) (p : Nat) (v1 : Int) (h : zH) : zx zblk xs 37 0 [some (.inr (.inr (some p))), some (.inl v1)] [] h = (zgr h (some p) 5 2 fun f1 => (zck h f1 3 (zci (zx zblk xs 20 0 [some (.inr (.inr f1)), some (.inl v1)] [] h) fun r3 h2 => (if zw r3 ≠ zw (-1) then zx zblk xs 37 18 [none, none, some (.inl r3)] [] h2 else zx zblk xs 37 19 [] [.inl 1] h2)))) := (zx_unfold zblk xs 37 0 _ rfl _ _ _).trans rfl
theorem e_Signals_secondsOf_18 (xs : List Int) (v2 : Int) (h : zH) : zx zblk xs 37 18 [none, none, some (.inl v2)] [] h = zx zblk xs 37 19 [] [.inl v2] h := (zx_unfold zblk xs 37 18 _ rfl _ _ _).trans rfl
theorem e_Signals_secondsOf_19 (xs : List Int) (s0 : Int) (h : zH) : zx zblk xs 37 19 [] [.inl s0] h = some (some (.inl s0), h) := (zx_unfold zblk xs 37 19 _ rfl _ _ _).trans rfl
/-- MindReaders$Signals.oddOf(I)I -/
noncomputable abbrev r_Signals_oddOf (xs : List Int) (p : Nat) (v1 : Int) (h : zH) : Option zR := zx zblk xs 38 0 [some (.inr (.inr (some p))), some (.inl v1)] [] h
theorem e_Signals_oddOf_0 (xs : List Int) (p : Nat) (v1 : Int) (h : zH) : zx zblk xs 38 0 [some (.inr (.inr (some p))), some (.inl v1)] [] h = (zgr h (some p) 5 3 fun f1 => (zck h f1 3 (zci (zx zblk xs 20 0 [some (.inr (.inr f1)), some (.inl v1)] [] h) fun r3 h2 => (if zw r3 ≠ zw (-1) then zx zblk xs 38 18 [none, none, some (.inl r3)] [] h2 else zx zblk xs 38 19 [] [.inl 0] h2)))) := (zx_unfold zblk xs 38 0 _ rfl _ _ _).trans rfl
theorem e_Signals_oddOf_18 (xs : List Int) (v2 : Int) (h : zH) : zx zblk xs 38 18 [none, none, some (.inl v2)] [] h = zx zblk xs 38 19 [] [.inl v2] h := (zx_unfold zblk xs 38 18 _ rfl _ _ _).trans rfl
theorem e_Signals_oddOf_19 (xs : List Int) (s0 : Int) (h : zH) : zx zblk xs 38 19 [] [.inl s0] h = some (some (.inl s0), h) := (zx_unfold zblk xs 38 19 _ rfl _ _ _).trans rfl
/-- MindReaders$Signals.isToneFor(II)Z -/
noncomputable abbrev r_Signals_isToneFor (xs : List Int) (p : Nat) (v1 : Int) (v2 : Int) (h : zH) : Option zR := zx zblk xs 39 0 [some (.inr (.inr (some p))), some (.inl v1), some (.inl v2)] [] h
theorem e_Signals_isToneFor_0 (xs : List Int) (p : Nat) (v1 : Int) (v2 : Int) (h : zH) : zx zblk xs 39 0 [some (.inr (.inr (some p))), some (.inl v1), some (.inl v2)] [] h = (if zw v1 = zw 2 then zx zblk xs 39 16 [some (.inr (.inr (some p))), none, some (.inl v2)] [] h else (if zw v2 ≠ zw (-1) then zx zblk xs 39 14 [] [] h else zx zblk xs 39 15 [] [.inl 1] h)) := (zx_unfold zblk xs 39 0 _ rfl _ _ _).trans rfl
theorem e_Signals_isToneFor_14 (xs : List Int)  (h : zH) : zx zblk xs 39 14 [] [] h = zx zblk xs 39 15 [] [.inl 0] h := (zx_unfold zblk xs 39 14 _ rfl _ _ _).trans rfl
theorem e_Signals_isToneFor_15 (xs : List Int) (s0 : Int) (h : zH) : zx zblk xs 39 15 [] [.inl s0] h = (if s0 = 0 ∨ s0 = 1 then some (some (.inl s0), h) else none) := (zx_unfold zblk xs 39 15 _ rfl _ _ _).trans rfl
theorem e_Signals_isToneFor_16 (xs : List Int) (p : Nat) (v2 : Int) (h : zH) : zx zblk xs 39 16 [some (.inr (.inr (some p))), none, some (.inl v2)] [] h = (zck h (some p) 5 (zci (zx zblk xs 33 0 [some (.inr (.inr (some p))), some (.inl v2)] [] h) fun r2 h1 => (if zw r2 = 0 then zx zblk xs 39 45 [] [] h1 else (zck h1 (some p) 5 (zci (zx zblk xs 35 0 [some (.inr (.inr (some p))), some (.inl v2)] [] h1) fun r4 h3 => (if zw r4 = 0 then zx zblk xs 39 41 [] [] h3 else (zck h3 (some p) 5 (zci (zx zblk xs 35 0 [some (.inr (.inr (some p))), some (.inl v2)] [] h3) fun r6 h5 => (if zw r6 ≠ zw 1 then zx zblk xs 39 45 [] [] h5 else zx zblk xs 39 41 [] [] h5))))))))) := (zx_unfold zblk xs 39 16 _ rfl _ _ _).trans rfl
theorem e_Signals_isToneFor_41 (xs : List Int)  (h : zH) : zx zblk xs 39 41 [] [] h = zx zblk xs 39 46 [] [.inl 1] h := (zx_unfold zblk xs 39 41 _ rfl _ _ _).trans rfl
theorem e_Signals_isToneFor_45 (xs : List Int)  (h : zH) : zx zblk xs 39 45 [] [] h = zx zblk xs 39 46 [] [.inl 0] h := (zx_unfold zblk xs 39 45 _ rfl _ _ _).trans rfl
theorem e_Signals_isToneFor_46 (xs : List Int) (s0 : Int) (h : zH) : zx zblk xs 39 46 [] [.inl s0] h = (if s0 = 0 ∨ s0 = 1 then some (some (.inl s0), h) else none) := (zx_unfold zblk xs 39 46 _ rfl _ _ _).trans rfl
/-- MindReaders$Signals.secondsOfAll(LMindReaders$Row;)I -/
noncomputable abbrev r_Signals_secondsOfAll (xs : List Int) (p : Nat) (v1 : Option Nat) (h : zH) : Option zR := zx zblk xs 40 0 [some (.inr (.inr (some p))), some (.inr (.inr v1))] [] h
theorem e_Signals_secondsOfAll_0 (xs : List Int) (p : Nat) (v1 : Option Nat) (h : zH) : zx zblk xs 40 0 [some (.inr (.inr (some p))), some (.inr (.inr v1))] [] h = zx zblk xs 40 4 [some (.inr (.inr (some p))), some (.inr (.inr v1)), some (.inl 0), some (.inl 0)] [] h := (zx_unfold zblk xs 40 0 _ rfl _ _ _).trans rfl
theorem e_Signals_secondsOfAll_4 (xs : List Int) (p : Nat) (v1 : Option Nat) (v2 : Int) (v3 : Int) (h : zH) : zx zblk xs 40 4 [some (.inr (.inr (some p))), some (.inr (.inr v1)), some (.inl v2), some (.inl v3)] [] h = (zck h v1 3 (zci (zx zblk xs 19 0 [some (.inr (.inr v1))] [] h) fun r2 h1 => (if zw r2 ≤ zw v3 then zx zblk xs 40 30 [none, none, some (.inl v2)] [] h1 else (zck h1 v1 3 (zci (zx zblk xs 20 0 [some (.inr (.inr v1)), some (.inl v3)] [] h1) fun r4 h3 => (zck h3 (some p) 5 (zci (zx zblk xs 37 0 [some (.inr (.inr (some p))), some (.inl r4)] [] h3) fun r6 h5 => zx zblk xs 40 4 [some (.inr (.inr (some p))), some (.inr (.inr v1)), some (.inl (v2 + r6)), some (.inl (v3 + 1))] [] h5))))))) := (zx_unfold zblk xs 40 4 _ rfl _ _ _).trans rfl
theorem e_Signals_secondsOfAll_30 (xs : List Int) (v2 : Int) (h : zH) : zx zblk xs 40 30 [none, none, some (.inl v2)] [] h = some (some (.inl v2), h) := (zx_unfold zblk xs 40 30 _ rfl _ _ _).trans rfl
/-- MindReaders$Signals.oddOfAll(LMindReaders$Row;)I -/
noncomputable abbrev r_Signals_oddOfAll (xs : List Int) (p : Nat) (v1 : Option Nat) (h : zH) : Option zR := zx zblk xs 41 0 [some (.inr (.inr (some p))), some (.inr (.inr v1))] [] h
theorem e_Signals_oddOfAll_0 (xs : List Int) (p : Nat) (v1 : Option Nat) (h : zH) : zx zblk xs 41 0 [some (.inr (.inr (some p))), some (.inr (.inr v1))] [] h = zx zblk xs 41 4 [some (.inr (.inr (some p))), some (.inr (.inr v1)), some (.inl 0), some (.inl 0)] [] h := (zx_unfold zblk xs 41 0 _ rfl _ _ _).trans rfl
theorem e_Signals_oddOfAll_4 (xs : List Int) (p : Nat) (v1 : Option Nat) (v2 : Int) (v3 : Int) (h : zH) : zx zblk xs 41 4 [some (.inr (.inr (some p))), some (.inr (.inr v1)), some (.inl v2), some (.inl v3)] [] h = (zck h v1 3 (zci (zx zblk xs 19 0 [some (.inr (.inr v1))] [] h) fun r2 h1 => (if zw r2 ≤ zw v3 then zx zblk xs 41 30 [none, none, some (.inl v2)] [] h1 else (zck h1 v1 3 (zci (zx zblk xs 20 0 [some (.inr (.inr v1)), some (.inl v3)] [] h1) fun r4 h3 => (zck h3 (some p) 5 (zci (zx zblk xs 38 0 [some (.inr (.inr (some p))), some (.inl r4)] [] h3) fun r6 h5 => zx zblk xs 41 4 [some (.inr (.inr (some p))), some (.inr (.inr v1)), some (.inl (v2 + r6)), some (.inl (v3 + 1))] [] h5))))))) := (zx_unfold zblk xs 41 4 _ rfl _ _ _).trans rfl
theorem e_Signals_oddOfAll_30 (xs : List Int) (v2 : Int) (h : zH) : zx zblk xs 41 30 [none, none, some (.inl v2)] [] h = some (some (.inl v2), h) := (zx_unfold zblk xs 41 30 _ rfl _ _ _).trans rfl
/-- MindReaders$Signals.makePlain(LMindReaders$Row;ILMindReaders$Row;)V -/
noncomputable abbrev r_Signals_makePlain (xs : List Int) (p : Nat) (v1 : Option Nat) (v2 : Int) (v3 : Option Nat) (h : zH) : Option zR := zx zblk xs 42 0 [some (.inr (.inr (some p))), some (.inr (.inr v1)), some (.inl v2), some (.inr (.inr v3))] [] h
theorem e_Signals_makePlain_0 (xs : List Int) (p : Nat) (v1 : Option Nat) (v2 : Int) (v3 : Option Nat) (h : zH) : zx zblk xs 42 0 [some (.inr (.inr (some p))), some (.inr (.inr v1)), some (.inl v2), some (.inr (.inr v3))] [] h = (zck h v3 3 (zcv (zx zblk xs 24 0 [some (.inr (.inr v3))] [] h) fun h1 => zx zblk xs 42 7 [some (.inr (.inr (some p))), some (.inr (.inr v1)), some (.inl v2), some (.inr (.inr v3)), some (.inl 0)] [] h1)) := (zx_unfold zblk xs 42 0 _ rfl _ _ _).trans rfl
theorem e_Signals_makePlain_7 (xs : List Int) (p : Nat) (v1 : Option Nat) (v2 : Int) (v3 : Option Nat) (v4 : Int) (h : zH) : zx zblk xs 42 7 [some (.inr (.inr (some p))), some (.inr (.inr v1)), some (.inl v2), some (.inr (.inr v3)), some (.inl v4)] [] h = (zck h v1 3 (zci (zx zblk xs 19 0 [some (.inr (.inr v1))] [] h) fun r2 h1 => (if zw r2 ≤ zw v4 then zx zblk xs 42 109 [] [] h1 else (zck h1 v1 3 (zci (zx zblk xs 20 0 [some (.inr (.inr v1)), some (.inl v4)] [] h1) fun r4 h3 => (if zw (zand (zshr v2 r4) 1) = 0 then zx zblk xs 42 36 [some (.inr (.inr (some p))), some (.inr (.inr v1)), some (.inl v2), some (.inr (.inr v3)), some (.inl v4), some (.inl r4)] [] h3 else zx zblk xs 42 103 [some (.inr (.inr (some p))), some (.inr (.inr v1)), some (.inl v2), some (.inr (.inr v3)), some (.inl v4)] [] h3)))))) := (zx_unfold zblk xs 42 7 _ rfl _ _ _).trans rfl
theorem e_Signals_makePlain_36 (xs : List Int) (p : Nat) (v1 : Option Nat) (v2 : Int) (v3 : Option Nat) (v4 : Int) (v5 : Int) (h : zH) : zx zblk xs 42 36 [some (.inr (.inr (some p))), some (.inr (.inr v1)), some (.inl v2), some (.inr (.inr v3)), some (.inl v4), some (.inl v5)] [] h = (zck h (some p) 5 (zci (zx zblk xs 35 0 [some (.inr (.inr (some p))), some (.inl v5)] [] h) fun r2 h1 => (if zw r2 = 0 then zx zblk xs 42 55 [some (.inr (.inr (some p))), some (.inr (.inr v1)), some (.inl v2), some (.inr (.inr v3)), some (.inl v4), some (.inl v5)] [] h1 else (if zw r2 ≠ zw 1 then zx zblk xs 42 64 [some (.inr (.inr (some p))), some (.inr (.inr v1)), some (.inl v2), some (.inr (.inr v3)), some (.inl v4), some (.inl v5), some (.inl r2)] [] h1 else zx zblk xs 42 55 [some (.inr (.inr (some p))), some (.inr (.inr v1)), some (.inl v2), some (.inr (.inr v3)), some (.inl v4), some (.inl v5)] [] h1)))) := (zx_unfold zblk xs 42 36 _ rfl _ _ _).trans rfl
theorem e_Signals_makePlain_55 (xs : List Int) (p : Nat) (v1 : Option Nat) (v2 : Int) (v3 : Option Nat) (v4 : Int) (v5 : Int) (h : zH) : zx zblk xs 42 55 [some (.inr (.inr (some p))), some (.inr (.inr v1)), some (.inl v2), some (.inr (.inr v3)), some (.inl v4), some (.inl v5)] [] h = (zck h v3 3 (zcv (zx zblk xs 22 0 [some (.inr (.inr v3)), some (.inl v5)] [] h) fun h1 => zx zblk xs 42 103 [some (.inr (.inr (some p))), some (.inr (.inr v1)), some (.inl v2), some (.inr (.inr v3)), some (.inl v4)] [] h1)) := (zx_unfold zblk xs 42 55 _ rfl _ _ _).trans rfl
theorem e_Signals_makePlain_64 (xs : List Int) (p : Nat) (v1 : Option Nat) (v2 : Int) (v3 : Option Nat) (v4 : Int) (v5 : Int) (v6 : Int) (h : zH) : zx zblk xs 42 64 [some (.inr (.inr (some p))), some (.inr (.inr v1)), some (.inl v2), some (.inr (.inr v3)), some (.inl v4), some (.inl v5), some (.inl v6)] [] h = (if zw v6 ≠ zw 2 then zx zblk xs 42 93 [some (.inr (.inr (some p))), some (.inr (.inr v1)), some (.inl v2), some (.inr (.inr v3)), some (.inl v4), none, some (.inl v6)] [] h else (zck h (some p) 5 (zci (zx zblk xs 36 0 [some (.inr (.inr (some p))), some (.inl v5)] [] h) fun r2 h1 => (zck h1 v3 3 (zcv (zx zblk xs 22 0 [some (.inr (.inr v3)), some (.inl r2)] [] h1) fun h3 => (zck h3 (some p) 5 (zci (zx zblk xs 36 0 [some (.inr (.inr (some p))), some (.inl v5)] [] h3) fun r5 h4 => (zck h4 v3 3 (zcv (zx zblk xs 22 0 [some (.inr (.inr v3)), some (.inl r5)] [] h4) fun h6 => zx zblk xs 42 103 [some (.inr (.inr (some p))), some (.inr (.inr v1)), some (.inl v2), some (.inr (.inr v3)), some (.inl v4)] [] h6))))))))) := (zx_unfold zblk xs 42 64 _ rfl _ _ _).trans rfl
theorem e_Signals_makePlain_93 (xs : List Int) (p : Nat) (v1 : Option Nat) (v2 : Int) (v3 : Option Nat) (v4 : Int) (v6 : Int) (h : zH) : zx zblk xs 42 93 [some (.inr (.inr (some p))), some (.inr (.inr v1)), some (.inl v2), some (.inr (.inr v3)), some (.inl v4), none, some (.inl v6)] [] h = (if zw v6 ≠ zw 4 then zx zblk xs 42 103 [some (.inr (.inr (some p))), some (.inr (.inr v1)), some (.inl v2), some (.inr (.inr v3)), some (.inl v4)] [] h else (zck h v3 3 (zcv (zx zblk xs 23 0 [some (.inr (.inr v3))] [] h) fun h1 => zx zblk xs 42 103 [some (.inr (.inr (some p))), some (.inr (.inr v1)), some (.inl v2), some (.inr (.inr v3)), some (.inl v4)] [] h1))) := (zx_unfold zblk xs 42 93 _ rfl _ _ _).trans rfl
theorem e_Signals_makePlain_103 (xs : List Int) (p : Nat) (v1 : Option Nat) (v2 : Int) (v3 : Option Nat) (v4 : Int) (h : zH) : zx zblk xs 42 103 [some (.inr (.inr (some p))), some (.inr (.inr v1)), some (.inl v2), some (.inr (.inr v3)), some (.inl v4)] [] h = zx zblk xs 42 7 [some (.inr (.inr (some p))), some (.inr (.inr v1)), some (.inl v2), some (.inr (.inr v3)), some (.inl (v4 + 1))] [] h := (zx_unfold zblk xs 42 103 _ rfl _ _ _).trans rfl
theorem e_Signals_makePlain_109 (xs : List Int)  (h : zH) : zx zblk xs 42 109 [] [] h = some (none, h) := (zx_unfold zblk xs 42 109 _ rfl _ _ _).trans rfl
/-- java/lang/Integer.bitCount(I)I -/
noncomputable abbrev r_J_bitCount (xs : List Int) (v1 : Int) (h : zH) : Option zR := zx zblk xs 94 0 [some (.inl v1)] [] h
theorem e_J_bitCount_0 (xs : List Int) (v0 : Int) (h : zH) : zx zblk xs 94 0 [some (.inl v0)] [] h = some (some (.inl (zand (((zand (((zand (v0 - (zand (zushr v0 1) 1431655765)) 858993459) + (zand (zushr (v0 - (zand (zushr v0 1) 1431655765)) 2) 858993459)) + (zushr ((zand (v0 - (zand (zushr v0 1) 1431655765)) 858993459) + (zand (zushr (v0 - (zand (zushr v0 1) 1431655765)) 2) 858993459)) 4)) 252645135) + (zushr (zand (((zand (v0 - (zand (zushr v0 1) 1431655765)) 858993459) + (zand (zushr (v0 - (zand (zushr v0 1) 1431655765)) 2) 858993459)) + (zushr ((zand (v0 - (zand (zushr v0 1) 1431655765)) 858993459) + (zand (zushr (v0 - (zand (zushr v0 1) 1431655765)) 2) 858993459)) 4)) 252645135) 8)) + (zushr ((zand (((zand (v0 - (zand (zushr v0 1) 1431655765)) 858993459) + (zand (zushr (v0 - (zand (zushr v0 1) 1431655765)) 2) 858993459)) + (zushr ((zand (v0 - (zand (zushr v0 1) 1431655765)) 858993459) + (zand (zushr (v0 - (zand (zushr v0 1) 1431655765)) 2) 858993459)) 4)) 252645135) + (zushr (zand (((zand (v0 - (zand (zushr v0 1) 1431655765)) 858993459) + (zand (zushr (v0 - (zand (zushr v0 1) 1431655765)) 2) 858993459)) + (zushr ((zand (v0 - (zand (zushr v0 1) 1431655765)) 858993459) + (zand (zushr (v0 - (zand (zushr v0 1) 1431655765)) 2) 858993459)) 4)) 252645135) 8)) 16)) 63)), h) := (zx_unfold zblk xs 94 0 _ rfl _ _ _).trans rfl
end
section
/-! ===== what each block of code does (printed by a program of mine; each by rfl) ===== -/
/-- MindReaders.letters(J)I -/
noncomputable abbrev r_X_letters (xs : List Int) (p : Nat) (v1 : Int) (h : zH) : Option zR := zx zblk xs 44 0 [some (.inr (.inr (some p))), some (.inr (.inl v1)), none] [] h
theorem e_X_letters_0 (xs : List Int) (p : Nat) (v1 : Int) (h : zH) : zx zblk xs 44 0 [some (.inr (.inr (some p))), some (.inr (.inl v1)), none] [] h = (zci (zx zblk xs 62 0 [some (.inr (.inl v1)), none] [] h) fun r2 h1 => (if zw r2 ≠ zw (-1) then zx zblk xs 44 13 [some (.inr (.inr (some p))), some (.inr (.inl v1)), none, some (.inl r2)] [] h1 else some (some (.inl (-102)), h1))) := (zx_unfold zblk xs 44 0 _ rfl _ _ _).trans rfl
theorem e_X_letters_13 (xs : List Int) (p : Nat) (v1 : Int) (v3 : Int) (h : zH) : zx zblk xs 44 13 [some (.inr (.inr (some p))), some (.inr (.inl v1)), none, some (.inl v3)] [] h = (zgr h (some p) 6 4 fun f1 => (zck h f1 3 (zci (zx zblk xs 19 0 [some (.inr (.inr f1))] [] h) fun r3 h2 => (if zw (r3 + v3) ≤ zw 48 then zx zblk xs 44 30 [some (.inr (.inr (some p))), some (.inr (.inl v1)), none, some (.inl v3)] [] h2 else some (some (.inl (-104)), h2))))) := (zx_unfold zblk xs 44 13 _ rfl _ _ _).trans rfl
theorem e_X_letters_30 (xs : List Int) (p : Nat) (v1 : Int) (v3 : Int) (h : zH) : zx zblk xs 44 30 [some (.inr (.inr (some p))), some (.inr (.inl v1)), none, some (.inl v3)] [] h = zx zblk xs 44 33 [some (.inr (.inr (some p))), some (.inr (.inl v1)), none, some (.inl v3), some (.inl 0)] [] h := (zx_unfold zblk xs 44 30 _ rfl _ _ _).trans rfl
theorem e_X_letters_33 (xs : List Int) (p : Nat) (v1 : Int) (v3 : Int) (v4 : Int) (h : zH) : zx zblk xs 44 33 [some (.inr (.inr (some p))), some (.inr (.inl v1)), none, some (.inl v3), some (.inl v4)] [] h = (if zw v3 ≤ zw v4 then zx zblk xs 44 58 [some (.inr (.inr (some p)))] [] h else (zgr h (some p) 6 4 fun f1 => (zci (zx zblk xs 61 0 [some (.inr (.inl v1)), none, some (.inl v4)] [] h) fun r3 h2 => (zck h2 f1 3 (zcv (zx zblk xs 22 0 [some (.inr (.inr f1)), some (.inl r3)] [] h2) fun h4 => zx zblk xs 44 33 [some (.inr (.inr (some p))), some (.inr (.inl v1)), none, some (.inl v3), some (.inl (v4 + 1))] [] h4))))) := (zx_unfold zblk xs 44 33 _ rfl _ _ _).trans rfl
theorem e_X_letters_58 (xs : List Int) (p : Nat) (h : zH) : zx zblk xs 44 58 [some (.inr (.inr (some p)))] [] h = (zgr h (some p) 6 4 fun f1 => (zck h f1 3 (zci (zx zblk xs 19 0 [some (.inr (.inr f1))] [] h) fun r3 h2 => some (some (.inl r3), h2)))) := (zx_unfold zblk xs 44 58 _ rfl _ _ _).trans rfl
/-- MindReaders.blank()I -/
noncomputable abbrev r_X_blank (xs : List Int) (p : Nat) (h : zH) : Option zR := zx zblk xs 45 0 [some (.inr (.inr (some p)))] [] h
theorem e_X_blank_0 (xs : List Int) (p : Nat) (h : zH) : zx zblk xs 45 0 [some (.inr (.inr (some p)))] [] h = (zgr h (some p) 6 4 fun f1 => (zck h f1 3 (zci (zx zblk xs 19 0 [some (.inr (.inr f1))] [] h) fun r3 h2 => (zgr h2 (some p) 6 4 fun f4 => (zck h2 f4 3 (zcv (zx zblk xs 24 0 [some (.inr (.inr f4))] [] h2) fun h5 => some (some (.inl r3), h5))))))) := (zx_unfold zblk xs 45 0 _ rfl _ _ _).trans rfl
/-- MindReaders.code()I -/
noncomputable abbrev r_X_code (xs : List Int) (p : Nat) (h : zH) : Option zR := zx zblk xs 46 0 [some (.inr (.inr (some p)))] [] h
theorem e_X_code_0 (xs : List Int) (p : Nat) (h : zH) : zx zblk xs 46 0 [some (.inr (.inr (some p)))] [] h = (zgr h (some p) 6 4 fun f1 => (zgr h (some p) 6 4 fun f2 => (zck h f2 3 (zci (zx zblk xs 19 0 [some (.inr (.inr f2))] [] h) fun r4 h3 => (zck h3 f1 3 (zci (zx zblk xs 20 0 [some (.inr (.inr f1)), some (.inl (r4 - 1))] [] h3) fun r6 h5 => (zci (zx zblk xs 63 0 [some (.inl r6)] [] h5) fun r8 h7 => (if zw r8 = zw (-1) then zx zblk xs 46 27 [some (.inr (.inr (some p)))] [] h7 else zx zblk xs 46 28 [some (.inr (.inr (some p)))] [.inl 1] h7)))))))) := (zx_unfold zblk xs 46 0 _ rfl _ _ _).trans rfl
theorem e_X_code_27 (xs : List Int) (p : Nat) (h : zH) : zx zblk xs 46 27 [some (.inr (.inr (some p)))] [] h = zx zblk xs 46 28 [some (.inr (.inr (some p)))] [.inl 0] h := (zx_unfold zblk xs 46 27 _ rfl _ _ _).trans rfl
theorem e_X_code_28 (xs : List Int) (p : Nat) (s0 : Int) (h : zH) : zx zblk xs 46 28 [some (.inr (.inr (some p)))] [.inl s0] h = (if zw s0 = 0 then zx zblk xs 46 47 [] [] h else (zck h (some p) 6 (zci (zx zblk xs 64 0 [some (.inr (.inr (some p)))] [] h) fun r2 h1 => (zgr h1 (some p) 6 4 fun f3 => (zck h1 f3 3 (zci (zx zblk xs 19 0 [some (.inr (.inr f3))] [] h1) fun r5 h4 => (if zw r5 ≤ zw r2 then zx zblk xs 46 50 [some (.inr (.inr (some p)))] [] h4 else zx zblk xs 46 47 [] [] h4))))))) := (zx_unfold zblk xs 46 28 _ rfl _ _ _).trans rfl
theorem e_X_code_47 (xs : List Int)  (h : zH) : zx zblk xs 46 47 [] [] h = some (some (.inl (-103)), h) := (zx_unfold zblk xs 46 47 _ rfl _ _ _).trans rfl
theorem e_X_code_50 (xs : List Int) (p : Nat) (h : zH) : zx zblk xs 46 50 [some (.inr (.inr (some p)))] [] h = (zgi h (some p) 6 3 fun f1 => (if zw f1 < 0 then zx zblk xs 46 69 [] [] h else (zgi h (some p) 6 3 fun f2 => (zgr h (some p) 6 2 fun f3 => (zln xs h f3 fun n4 => (if zw f2 < zw n4 then zx zblk xs 46 72 [some (.inr (.inr (some p)))] [] h else zx zblk xs 46 69 [] [] h)))))) := (zx_unfold zblk xs 46 50 _ rfl _ _ _).trans rfl
theorem e_X_code_69 (xs : List Int)  (h : zH) : zx zblk xs 46 69 [] [] h = some (some (.inl (-104)), h) := (zx_unfold zblk xs 46 69 _ rfl _ _ _).trans rfl
theorem e_X_code_72 (xs : List Int) (p : Nat) (h : zH) : zx zblk xs 46 72 [some (.inr (.inr (some p)))] [] h = (zgr h (some p) 6 2 fun f1 => (zgi h (some p) 6 3 fun f2 => (zaa xs h f1 102 f2 fun a3 => (zif a3 (some (some (.inl (-104)), h)) (zx zblk xs 46 89 [some (.inr (.inr (some p))), none, some (.inr (.inr a3))] [] h))))) := (zx_unfold zblk xs 46 72 _ rfl _ _ _).trans rfl
theorem e_X_code_89 (xs : List Int) (p : Nat) (v2 : Option Nat) (h : zH) : zx zblk xs 46 89 [some (.inr (.inr (some p))), none, some (.inr (.inr v2))] [] h = (zgr h (some p) 6 4 fun f1 => (zck h v2 0 (zcv (zx zblk xs 5 0 [some (.inr (.inr v2)), some (.inr (.inr f1))] [] h) fun h2 => (zgr h2 (some p) 6 0 fun f3 => (zck h2 v2 0 (zcv (zx zblk xs 6 0 [some (.inr (.inr v2)), some (.inr (.inr f3))] [] h2) fun h4 => (zgr h4 (some p) 6 4 fun f5 => (zck h4 f5 3 (zcv (zx zblk xs 24 0 [some (.inr (.inr f5))] [] h4) fun h6 => (zgi h6 (some p) 6 3 fun f7 => (zpf h6 (some p) 6 3 (.inl (f7 + 1)) fun h8 => (zgi h8 (some p) 6 3 fun f9 => some (some (.inl (f9 - 1)), h8))))))))))))) := (zx_unfold zblk xs 46 89 _ rfl _ _ _).trans rfl
/-- MindReaders.signal(IIII)I -/
noncomputable abbrev r_X_signal (xs : List Int) (p : Nat) (v1 : Int) (v2 : Int) (v3 : Int) (v4 : Int) (h : zH) : Option zR := zx zblk xs 47 0 [some (.inr (.inr (some p))), some (.inl v1), some (.inl v2), some (.inl v3), some (.inl v4)] [] h
theorem e_X_signal_0 (xs : List Int) (p : Nat) (v1 : Int) (v2 : Int) (v3 : Int) (v4 : Int) (h : zH) : zx zblk xs 47 0 [some (.inr (.inr (some p))), some (.inl v1), some (.inl v2), some (.inl v3), some (.inl v4)] [] h = (if zw v1 < 0 then zx zblk xs 47 9 [] [] h else (if zw v1 ≤ zw 4 then zx zblk xs 47 12 [some (.inr (.inr (some p))), some (.inl v1), some (.inl v2), some (.inl v3), some (.inl v4)] [] h else zx zblk xs 47 9 [] [] h)) := (zx_unfold zblk xs 47 0 _ rfl _ _ _).trans rfl
theorem e_X_signal_9 (xs : List Int)  (h : zH) : zx zblk xs 47 9 [] [] h = some (some (.inl (-102)), h) := (zx_unfold zblk xs 47 9 _ rfl _ _ _).trans rfl
theorem e_X_signal_12 (xs : List Int) (p : Nat) (v1 : Int) (v2 : Int) (v3 : Int) (v4 : Int) (h : zH) : zx zblk xs 47 12 [some (.inr (.inr (some p))), some (.inl v1), some (.inl v2), some (.inl v3), some (.inl v4)] [] h = (zgr h (some p) 6 0 fun f1 => (zck h f1 5 (zci (zx zblk xs 39 0 [some (.inr (.inr f1)), some (.inl v1), some (.inl v2)] [] h) fun r3 h2 => (if zw r3 ≠ 0 then zx zblk xs 47 27 [some (.inr (.inr (some p))), some (.inl v1), some (.inl v2), some (.inl v3), some (.inl v4)] [] h2 else some (some (.inl (-101)), h2))))) := (zx_unfold zblk xs 47 12 _ rfl _ _ _).trans rfl
theorem e_X_signal_27 (xs : List Int) (p : Nat) (v1 : Int) (v2 : Int) (v3 : Int) (v4 : Int) (h : zH) : zx zblk xs 47 27 [some (.inr (.inr (some p))), some (.inl v1), some (.inl v2), some (.inl v3), some (.inl v4)] [] h = (if zw v3 < zw 1 then zx zblk xs 47 50 [] [] h else (if zw 9 < zw v3 then zx zblk xs 47 50 [] [] h else (if zw v4 < 0 then zx zblk xs 47 50 [] [] h else (if zw v4 ≤ zw 9 then zx zblk xs 47 53 [some (.inr (.inr (some p))), some (.inl v1), some (.inl v2), some (.inl v3), some (.inl v4)] [] h else zx zblk xs 47 50 [] [] h)))) := (zx_unfold zblk xs 47 27 _ rfl _ _ _).trans rfl
theorem e_X_signal_50 (xs : List Int)  (h : zH) : zx zblk xs 47 50 [] [] h = some (some (.inl (-102)), h) := (zx_unfold zblk xs 47 50 _ rfl _ _ _).trans rfl
theorem e_X_signal_53 (xs : List Int) (p : Nat) (v1 : Int) (v2 : Int) (v3 : Int) (v4 : Int) (h : zH) : zx zblk xs 47 53 [some (.inr (.inr (some p))), some (.inl v1), some (.inl v2), some (.inl v3), some (.inl v4)] [] h = (zgr h (some p) 6 0 fun f1 => (zck h f1 5 (zci (zx zblk xs 32 0 [some (.inr (.inr f1))] [] h) fun r3 h2 => (if zw r3 < zw 8 then zx zblk xs 47 68 [some (.inr (.inr (some p))), some (.inl v1), some (.inl v2), some (.inl v3), some (.inl v4)] [] h2 else some (some (.inl (-104)), h2))))) := (zx_unfold zblk xs 47 53 _ rfl _ _ _).trans rfl
theorem e_X_signal_68 (xs : List Int) (p : Nat) (v1 : Int) (v2 : Int) (v3 : Int) (v4 : Int) (h : zH) : zx zblk xs 47 68 [some (.inr (.inr (some p))), some (.inl v1), some (.inl v2), some (.inl v3), some (.inl v4)] [] h = (zgr h (some p) 6 0 fun f1 => (zck h f1 5 (zcv (zx zblk xs 34 0 [some (.inr (.inr f1)), some (.inl v1), some (.inl v2), some (.inl v3), some (.inl v4)] [] h) fun h2 => zx zblk xs 47 83 [some (.inr (.inr (some p))), none, none, none, none, some (.inl 0)] [] h2))) := (zx_unfold zblk xs 47 68 _ rfl _ _ _).trans rfl
theorem e_X_signal_83 (xs : List Int) (p : Nat) (v5 : Int) (h : zH) : zx zblk xs 47 83 [some (.inr (.inr (some p))), none, none, none, none, some (.inl v5)] [] h = (zgi h (some p) 6 3 fun f1 => (if zw f1 ≤ zw v5 then zx zblk xs 47 120 [some (.inr (.inr (some p)))] [] h else (zck h (some p) 6 (zcr (zx zblk xs 69 0 [some (.inr (.inr (some p))), some (.inl v5)] [] h) fun r3 h2 => (zif r3 (zx zblk xs 47 114 [some (.inr (.inr (some p))), none, none, none, none, some (.inl v5)] [] h2) ((zgr h2 (some p) 6 0 fun f4 => (zck h2 r3 0 (zcv (zx zblk xs 6 0 [some (.inr (.inr r3)), some (.inr (.inr f4))] [] h2) fun h5 => zx zblk xs 47 114 [some (.inr (.inr (some p))), none, none, none, none, some (.inl v5)] [] h5))))))))) := (zx_unfold zblk xs 47 83 _ rfl _ _ _).trans rfl
theorem e_X_signal_114 (xs : List Int) (p : Nat) (v5 : Int) (h : zH) : zx zblk xs 47 114 [some (.inr (.inr (some p))), none, none, none, none, some (.inl v5)] [] h = zx zblk xs 47 83 [some (.inr (.inr (some p))), none, none, none, none, some (.inl (v5 + 1))] [] h := (zx_unfold zblk xs 47 114 _ rfl _ _ _).trans rfl
theorem e_X_signal_120 (xs : List Int) (p : Nat) (h : zH) : zx zblk xs 47 120 [some (.inr (.inr (some p)))] [] h = (zgr h (some p) 6 0 fun f1 => (zck h f1 5 (zci (zx zblk xs 32 0 [some (.inr (.inr f1))] [] h) fun r3 h2 => some (some (.inl (r3 - 1)), h2)))) := (zx_unfold zblk xs 47 120 _ rfl _ _ _).trans rfl
/-- MindReaders.thing(I)I -/
noncomputable abbrev r_X_thing (xs : List Int) (p : Nat) (v1 : Int) (h : zH) : Option zR := zx zblk xs 48 0 [some (.inr (.inr (some p))), some (.inl v1)] [] h
theorem e_X_thing_0 (xs : List Int) (p : Nat) (v1 : Int) (h : zH) : zx zblk xs 48 0 [some (.inr (.inr (some p))), some (.inl v1)] [] h = (zci (zx zblk xs 67 0 [some (.inl v1)] [] h) fun r2 h1 => (if zw r2 ≠ 0 then zx zblk xs 48 10 [some (.inr (.inr (some p))), some (.inl v1)] [] h1 else some (some (.inl (-102)), h1))) := (zx_unfold zblk xs 48 0 _ rfl _ _ _).trans rfl
theorem e_X_thing_10 (xs : List Int) (p : Nat) (v1 : Int) (h : zH) : zx zblk xs 48 10 [some (.inr (.inr (some p))), some (.inl v1)] [] h = (zgr h (some p) 6 1 fun f1 => (zck h f1 3 (zci (zx zblk xs 19 0 [some (.inr (.inr f1))] [] h) fun r3 h2 => (if zw r3 < zw 8 then zx zblk xs 48 25 [some (.inr (.inr (some p))), some (.inl v1)] [] h2 else some (some (.inl (-104)), h2))))) := (zx_unfold zblk xs 48 10 _ rfl _ _ _).trans rfl
theorem e_X_thing_25 (xs : List Int) (p : Nat) (v1 : Int) (h : zH) : zx zblk xs 48 25 [some (.inr (.inr (some p))), some (.inl v1)] [] h = (zgr h (some p) 6 1 fun f1 => (zck h f1 3 (zcv (zx zblk xs 22 0 [some (.inr (.inr f1)), some (.inl v1)] [] h) fun h2 => (zgr h2 (some p) 6 1 fun f3 => (zck h2 f3 3 (zci (zx zblk xs 19 0 [some (.inr (.inr f3))] [] h2) fun r5 h4 => some (some (.inl (r5 - 1)), h4))))))) := (zx_unfold zblk xs 48 25 _ rfl _ _ _).trans rfl
/-- MindReaders.speech(III)I -/
noncomputable abbrev r_X_speech (xs : List Int) (p : Nat) (v1 : Int) (v2 : Int) (v3 : Int) (h : zH) : Option zR := zx zblk xs 49 0 [some (.inr (.inr (some p))), some (.inl v1), some (.inl v2), some (.inl v3)] [] h
theorem e_X_speech_0 (xs : List Int) (p : Nat) (v1 : Int) (v2 : Int) (v3 : Int) (h : zH) : zx zblk xs 49 0 [some (.inr (.inr (some p))), some (.inl v1), some (.inl v2), some (.inl v3)] [] h = (zck h (some p) 6 (zcr (zx zblk xs 69 0 [some (.inr (.inr (some p))), some (.inl v1)] [] h) fun r2 h1 => (zif r2 (zx zblk xs 49 25 [] [] h1) ((if zw v2 < 0 then zx zblk xs 49 25 [] [] h1 else (zck h1 r2 0 (zci (zx zblk xs 2 0 [some (.inr (.inr r2))] [] h1) fun r4 h3 => (if zw v2 < zw r4 then zx zblk xs 49 28 [some (.inr (.inr (some p))), none, some (.inl v2), some (.inl v3), some (.inr (.inr r2))] [] h3 else zx zblk xs 49 25 [] [] h3)))))))) := (zx_unfold zblk xs 49 0 _ rfl _ _ _).trans rfl
theorem e_X_speech_25 (xs : List Int)  (h : zH) : zx zblk xs 49 25 [] [] h = some (some (.inl (-101)), h) := (zx_unfold zblk xs 49 25 _ rfl _ _ _).trans rfl
theorem e_X_speech_28 (xs : List Int) (p : Nat) (v2 : Int) (v3 : Int) (v4 : Option Nat) (h : zH) : zx zblk xs 49 28 [some (.inr (.inr (some p))), none, some (.inl v2), some (.inl v3), some (.inr (.inr v4))] [] h = (if zw v3 ≠ 0 then zx zblk xs 49 42 [some (.inr (.inr (some p))), none, some (.inl v2), some (.inl v3), some (.inr (.inr v4))] [] h else (zck h v4 0 (zcr (zx zblk xs 3 0 [some (.inr (.inr v4)), some (.inl v2)] [] h) fun r2 h1 => (zck h1 r2 3 (zci (zx zblk xs 19 0 [some (.inr (.inr r2))] [] h1) fun r4 h3 => some (some (.inl r4), h3)))))) := (zx_unfold zblk xs 49 28 _ rfl _ _ _).trans rfl
theorem e_X_speech_42 (xs : List Int) (p : Nat) (v2 : Int) (v3 : Int) (v4 : Option Nat) (h : zH) : zx zblk xs 49 42 [some (.inr (.inr (some p))), none, some (.inl v2), some (.inl v3), some (.inr (.inr v4))] [] h = (if zw v3 < zw 1 then zx zblk xs 49 65 [some (.inr (.inr (some p))), none, some (.inl v2), some (.inl v3), some (.inr (.inr v4))] [] h else (if zw 5 < zw v3 then zx zblk xs 49 65 [some (.inr (.inr (some p))), none, some (.inl v2), some (.inl v3), some (.inr (.inr v4))] [] h else (zck h v4 0 (zcr (zx zblk xs 3 0 [some (.inr (.inr v4)), some (.inl v2)] [] h) fun r2 h1 => (zck h1 r2 3 (zci (zx zblk xs 20 0 [some (.inr (.inr r2)), some (.inl (v3 - 1))] [] h1) fun r4 h3 => some (some (.inl r4), h3))))))) := (zx_unfold zblk xs 49 42 _ rfl _ _ _).trans rfl
theorem e_X_speech_65 (xs : List Int) (p : Nat) (v2 : Int) (v3 : Int) (v4 : Option Nat) (h : zH) : zx zblk xs 49 65 [some (.inr (.inr (some p))), none, some (.inl v2), some (.inl v3), some (.inr (.inr v4))] [] h = (if zw v3 ≠ zw 10 then zx zblk xs 49 81 [some (.inr (.inr (some p))), none, some (.inl v2), some (.inl v3), some (.inr (.inr v4))] [] h else (zck h v4 0 (zcr (zx zblk xs 4 0 [some (.inr (.inr v4)), some (.inl v2)] [] h) fun r2 h1 => (zck h1 r2 3 (zci (zx zblk xs 19 0 [some (.inr (.inr r2))] [] h1) fun r4 h3 => some (some (.inl r4), h3)))))) := (zx_unfold zblk xs 49 65 _ rfl _ _ _).trans rfl
theorem e_X_speech_81 (xs : List Int) (p : Nat) (v2 : Int) (v3 : Int) (v4 : Option Nat) (h : zH) : zx zblk xs 49 81 [some (.inr (.inr (some p))), none, some (.inl v2), some (.inl v3), some (.inr (.inr v4))] [] h = (if zw v3 ≤ zw 10 then zx zblk xs 49 107 [some (.inr (.inr (some p))), none, some (.inl v2), some (.inl v3), some (.inr (.inr v4))] [] h else (if zw 20 < zw v3 then zx zblk xs 49 107 [some (.inr (.inr (some p))), none, some (.inl v2), some (.inl v3), some (.inr (.inr v4))] [] h else (zck h v4 0 (zcr (zx zblk xs 4 0 [some (.inr (.inr v4)), some (.inl v2)] [] h) fun r2 h1 => (zck h1 r2 3 (zci (zx zblk xs 20 0 [some (.inr (.inr r2)), some (.inl (v3 - 11))] [] h1) fun r4 h3 => some (some (.inl r4), h3))))))) := (zx_unfold zblk xs 49 81 _ rfl _ _ _).trans rfl
theorem e_X_speech_107 (xs : List Int) (p : Nat) (v2 : Int) (v3 : Int) (v4 : Option Nat) (h : zH) : zx zblk xs 49 107 [some (.inr (.inr (some p))), none, some (.inl v2), some (.inl v3), some (.inr (.inr v4))] [] h = (if zw v3 ≠ zw 30 then zx zblk xs 49 123 [] [] h else (zck h (some p) 6 (zci (zx zblk xs 71 0 [some (.inr (.inr (some p))), some (.inr (.inr v4)), some (.inl v2)] [] h) fun r2 h1 => zx zblk xs 49 125 [] [.inl r2] h1))) := (zx_unfold zblk xs 49 107 _ rfl _ _ _).trans rfl
theorem e_X_speech_123 (xs : List Int)  (h : zH) : zx zblk xs 49 123 [] [] h = zx zblk xs 49 125 [] [.inl (-102)] h := (zx_unfold zblk xs 49 123 _ rfl _ _ _).trans rfl
theorem e_X_speech_125 (xs : List Int) (s0 : Int) (h : zH) : zx zblk xs 49 125 [] [.inl s0] h = some (some (.inl s0), h) := (zx_unfold zblk xs 49 125 _ rfl _ _ _).trans rfl
/-- MindReaders.means(I)I -/
noncomputable abbrev r_X_means (xs : List Int) (p : Nat) (v1 : Int) (h : zH) : Option zR := zx zblk xs 50 0 [some (.inr (.inr (some p))), some (.inl v1)] [] h
theorem e_X_means_0 (xs : List Int) (p : Nat) (v1 : Int) (h : zH) : zx zblk xs 50 0 [some (.inr (.inr (some p))), some (.inl v1)] [] h = (zck h (some p) 6 (zcr (zx zblk xs 69 0 [some (.inr (.inr (some p))), some (.inl v1)] [] h) fun r2 h1 => (zif r2 (some (some (.inl (-101)), h1)) (zx zblk xs 50 13 [some (.inr (.inr (some p))), none, some (.inr (.inr r2))] [] h1)))) := (zx_unfold zblk xs 50 0 _ rfl _ _ _).trans rfl
theorem e_X_means_13 (xs : List Int) (p : Nat) (v2 : Option Nat) (h : zH) : zx zblk xs 50 13 [some (.inr (.inr (some p))), none, some (.inr (.inr v2))] [] h = (zck h (some p) 6 (zci (zx zblk xs 66 0 [some (.inr (.inr (some p)))] [] h) fun r2 h1 => (if zw r2 = 0 then zx zblk xs 50 31 [] [] h1 else (zgr h1 (some p) 6 10 fun f3 => (zck h1 v2 0 (zci (zx zblk xs 7 0 [some (.inr (.inr v2)), some (.inr (.inr f3))] [] h1) fun r5 h4 => zx zblk xs 50 33 [] [.inl r5] h4)))))) := (zx_unfold zblk xs 50 13 _ rfl _ _ _).trans rfl
theorem e_X_means_31 (xs : List Int)  (h : zH) : zx zblk xs 50 31 [] [] h = zx zblk xs 50 33 [] [.inl (-103)] h := (zx_unfold zblk xs 50 31 _ rfl _ _ _).trans rfl
theorem e_X_means_33 (xs : List Int) (s0 : Int) (h : zH) : zx zblk xs 50 33 [] [.inl s0] h = some (some (.inl s0), h) := (zx_unfold zblk xs 50 33 _ rfl _ _ _).trans rfl
/-- MindReaders.clear(II)I -/
noncomputable abbrev r_X_clear (xs : List Int) (p : Nat) (v1 : Int) (v2 : Int) (h : zH) : Option zR := zx zblk xs 51 0 [some (.inr (.inr (some p))), some (.inl v1), some (.inl v2)] [] h
theorem e_X_clear_0 (xs : List Int) (p : Nat) (v1 : Int) (v2 : Int) (h : zH) : zx zblk xs 51 0 [some (.inr (.inr (some p))), some (.inl v1), some (.inl v2)] [] h = (zck h (some p) 6 (zcr (zx zblk xs 69 0 [some (.inr (.inr (some p))), some (.inl v1)] [] h) fun r2 h1 => (zif r2 (some (some (.inl (-101)), h1)) (zx zblk xs 51 13 [none, none, some (.inl v2), some (.inr (.inr r2))] [] h1)))) := (zx_unfold zblk xs 51 0 _ rfl _ _ _).trans rfl
theorem e_X_clear_13 (xs : List Int) (v2 : Int) (v3 : Option Nat) (h : zH) : zx zblk xs 51 13 [none, none, some (.inl v2), some (.inr (.inr v3))] [] h = (if zw v2 < 0 then zx zblk xs 51 22 [] [] h else (if zw v2 ≤ zw 2 then zx zblk xs 51 25 [none, none, some (.inl v2), some (.inr (.inr v3))] [] h else zx zblk xs 51 22 [] [] h)) := (zx_unfold zblk xs 51 13 _ rfl _ _ _).trans rfl
theorem e_X_clear_22 (xs : List Int)  (h : zH) : zx zblk xs 51 22 [] [] h = some (some (.inl (-102)), h) := (zx_unfold zblk xs 51 22 _ rfl _ _ _).trans rfl
theorem e_X_clear_25 (xs : List Int) (v2 : Int) (v3 : Option Nat) (h : zH) : zx zblk xs 51 25 [none, none, some (.inl v2), some (.inr (.inr v3))] [] h = (zck h v3 0 (zci (zx zblk xs 8 0 [some (.inr (.inr v3))] [] h) fun r2 h1 => (if zw v2 ≠ 0 then zx zblk xs 51 47 [none, none, some (.inl v2), none, some (.inl r2)] [] h1 else (if zw r2 ≠ zw (-1) then zx zblk xs 51 45 [] [] h1 else zx zblk xs 51 46 [] [.inl 1] h1)))) := (zx_unfold zblk xs 51 25 _ rfl _ _ _).trans rfl
theorem e_X_clear_45 (xs : List Int)  (h : zH) : zx zblk xs 51 45 [] [] h = zx zblk xs 51 46 [] [.inl 0] h := (zx_unfold zblk xs 51 45 _ rfl _ _ _).trans rfl
theorem e_X_clear_46 (xs : List Int) (s0 : Int) (h : zH) : zx zblk xs 51 46 [] [.inl s0] h = some (some (.inl s0), h) := (zx_unfold zblk xs 51 46 _ rfl _ _ _).trans rfl
theorem e_X_clear_47 (xs : List Int) (v2 : Int) (v4 : Int) (h : zH) : zx zblk xs 51 47 [none, none, some (.inl v2), none, some (.inl v4)] [] h = (zci (zx zblk xs 72 0 [some (.inl v4), some (.inl (v2 - 1))] [] h) fun r2 h1 => some (some (.inl r2), h1)) := (zx_unfold zblk xs 51 47 _ rfl _ _ _).trans rfl
/-- MindReaders.starts(II)I -/
noncomputable abbrev r_X_starts (xs : List Int) (p : Nat) (v1 : Int) (v2 : Int) (h : zH) : Option zR := zx zblk xs 52 0 [some (.inr (.inr (some p))), some (.inl v1), some (.inl v2)] [] h
theorem e_X_starts_0 (xs : List Int) (p : Nat) (v1 : Int) (v2 : Int) (h : zH) : zx zblk xs 52 0 [some (.inr (.inr (some p))), some (.inl v1), some (.inl v2)] [] h = (zck h (some p) 6 (zcr (zx zblk xs 69 0 [some (.inr (.inr (some p))), some (.inl v1)] [] h) fun r2 h1 => (zif r2 (some (some (.inl (-101)), h1)) (zx zblk xs 52 13 [none, none, some (.inl v2), some (.inr (.inr r2))] [] h1)))) := (zx_unfold zblk xs 52 0 _ rfl _ _ _).trans rfl
theorem e_X_starts_13 (xs : List Int) (v2 : Int) (v3 : Option Nat) (h : zH) : zx zblk xs 52 13 [none, none, some (.inl v2), some (.inr (.inr v3))] [] h = (if zw v2 < 0 then zx zblk xs 52 22 [] [] h else (if zw v2 ≤ zw 1 then zx zblk xs 52 25 [none, none, some (.inl v2), some (.inr (.inr v3))] [] h else zx zblk xs 52 22 [] [] h)) := (zx_unfold zblk xs 52 13 _ rfl _ _ _).trans rfl
theorem e_X_starts_22 (xs : List Int)  (h : zH) : zx zblk xs 52 22 [] [] h = some (some (.inl (-102)), h) := (zx_unfold zblk xs 52 22 _ rfl _ _ _).trans rfl
theorem e_X_starts_25 (xs : List Int) (v2 : Int) (v3 : Option Nat) (h : zH) : zx zblk xs 52 25 [none, none, some (.inl v2), some (.inr (.inr v3))] [] h = (zck h v3 0 (zci (zx zblk xs 9 0 [some (.inr (.inr v3))] [] h) fun r2 h1 => (zci (zx zblk xs 72 0 [some (.inl r2), some (.inl v2)] [] h1) fun r4 h3 => some (some (.inl r4), h3)))) := (zx_unfold zblk xs 52 25 _ rfl _ _ _).trans rfl
/-- MindReaders.twice(I)I -/
noncomputable abbrev r_X_twice (xs : List Int) (p : Nat) (v1 : Int) (h : zH) : Option zR := zx zblk xs 53 0 [some (.inr (.inr (some p))), some (.inl v1)] [] h
theorem e_X_twice_0 (xs : List Int) (p : Nat) (v1 : Int) (h : zH) : zx zblk xs 53 0 [some (.inr (.inr (some p))), some (.inl v1)] [] h = (zck h (some p) 6 (zcr (zx zblk xs 69 0 [some (.inr (.inr (some p))), some (.inl v1)] [] h) fun r2 h1 => (zif r2 (zx zblk xs 53 23 [] [.inl (-101)] h1) (zx zblk xs 53 15 [some (.inr (.inr (some p))), none, some (.inr (.inr r2))] [] h1)))) := (zx_unfold zblk xs 53 0 _ rfl _ _ _).trans rfl
theorem e_X_twice_15 (xs : List Int) (p : Nat) (v2 : Option Nat) (h : zH) : zx zblk xs 53 15 [some (.inr (.inr (some p))), none, some (.inr (.inr v2))] [] h = (zgr h (some p) 6 13 fun f1 => (zck h f1 2 (zci (zx zblk xs 14 0 [some (.inr (.inr f1)), some (.inr (.inr v2))] [] h) fun r3 h2 => zx zblk xs 53 23 [] [.inl r3] h2))) := (zx_unfold zblk xs 53 15 _ rfl _ _ _).trans rfl
theorem e_X_twice_23 (xs : List Int) (s0 : Int) (h : zH) : zx zblk xs 53 23 [] [.inl s0] h = some (some (.inl s0), h) := (zx_unfold zblk xs 53 23 _ rfl _ _ _).trans rfl
/-- MindReaders.mean(II)I -/
noncomputable abbrev r_X_mean (xs : List Int) (p : Nat) (v1 : Int) (v2 : Int) (h : zH) : Option zR := zx zblk xs 54 0 [some (.inr (.inr (some p))), some (.inl v1), some (.inl v2)] [] h
theorem e_X_mean_0 (xs : List Int) (p : Nat) (v1 : Int) (v2 : Int) (h : zH) : zx zblk xs 54 0 [some (.inr (.inr (some p))), some (.inl v1), some (.inl v2)] [] h = (zck h (some p) 6 (zcr (zx zblk xs 69 0 [some (.inr (.inr (some p))), some (.inl v1)] [] h) fun r2 h1 => (zif r2 (some (some (.inl (-101)), h1)) (zx zblk xs 54 13 [some (.inr (.inr (some p))), none, some (.inl v2), some (.inr (.inr r2))] [] h1)))) := (zx_unfold zblk xs 54 0 _ rfl _ _ _).trans rfl
theorem e_X_mean_13 (xs : List Int) (p : Nat) (v2 : Int) (v3 : Option Nat) (h : zH) : zx zblk xs 54 13 [some (.inr (.inr (some p))), none, some (.inl v2), some (.inr (.inr v3))] [] h = (zci (zx zblk xs 68 0 [some (.inl v2)] [] h) fun r2 h1 => (if zw r2 ≠ 0 then zx zblk xs 54 23 [some (.inr (.inr (some p))), none, some (.inl v2), some (.inr (.inr v3))] [] h1 else some (some (.inl (-102)), h1))) := (zx_unfold zblk xs 54 13 _ rfl _ _ _).trans rfl
theorem e_X_mean_23 (xs : List Int) (p : Nat) (v2 : Int) (v3 : Option Nat) (h : zH) : zx zblk xs 54 23 [some (.inr (.inr (some p))), none, some (.inl v2), some (.inr (.inr v3))] [] h = (zck h (some p) 6 (zci (zx zblk xs 70 0 [some (.inr (.inr (some p))), some (.inr (.inr v3))] [] h) fun r2 h1 => (if zw r2 ≠ 0 then zx zblk xs 54 38 [some (.inr (.inr (some p))), none, some (.inl v2), some (.inr (.inr v3)), some (.inl r2)] [] h1 else some (some (.inl (-103)), h1)))) := (zx_unfold zblk xs 54 23 _ rfl _ _ _).trans rfl
theorem e_X_mean_38 (xs : List Int) (p : Nat) (v2 : Int) (v3 : Option Nat) (v4 : Int) (h : zH) : zx zblk xs 54 38 [some (.inr (.inr (some p))), none, some (.inl v2), some (.inr (.inr v3)), some (.inl v4)] [] h = zx zblk xs 54 44 [some (.inr (.inr (some p))), none, some (.inl v2), some (.inr (.inr v3)), some (.inl v4), some (.inr (.inl 0)), none, some (.inl 0)] [] h := (zx_unfold zblk xs 54 38 _ rfl _ _ _).trans rfl
theorem e_X_mean_44 (xs : List Int) (p : Nat) (v2 : Int) (v3 : Option Nat) (v4 : Int) (v5 : Int) (v7 : Int) (h : zH) : zx zblk xs 54 44 [some (.inr (.inr (some p))), none, some (.inl v2), some (.inr (.inr v3)), some (.inl v4), some (.inr (.inl v5)), none, some (.inl v7)] [] h = (if zw v4 ≤ zw v7 then zx zblk xs 54 80 [some (.inr (.inr (some p))), none, some (.inl v2), none, some (.inl v4), some (.inr (.inl v5))] [] h else (zgr h (some p) 6 1 fun f1 => (zck h f1 3 (zci (zx zblk xs 20 0 [some (.inr (.inr f1)), some (.inl v7)] [] h) fun r3 h2 => (zck h2 (some p) 6 (zci (zx zblk xs 71 0 [some (.inr (.inr (some p))), some (.inr (.inr v3)), some (.inl v7)] [] h2) fun r5 h4 => zx zblk xs 54 44 [some (.inr (.inr (some p))), none, some (.inl v2), some (.inr (.inr v3)), some (.inl v4), some (.inr (.inl (v5 + (zw (r3 * r5))))), none, some (.inl (v7 + 1))] [] h4)))))) := (zx_unfold zblk xs 54 44 _ rfl _ _ _).trans rfl
theorem e_X_mean_80 (xs : List Int) (p : Nat) (v2 : Int) (v4 : Int) (v5 : Int) (h : zH) : zx zblk xs 54 80 [some (.inr (.inr (some p))), none, some (.inl v2), none, some (.inl v4), some (.inr (.inl v5))] [] h = (zgr h (some p) 6 1 fun f1 => (zck h f1 3 (zci (zx zblk xs 28 0 [some (.inr (.inr f1)), some (.inl v4)] [] h) fun r3 h2 => (zcl (zx zblk xs 76 0 [some (.inr (.inl v5)), none, some (.inr (.inl (zw r3))), none, some (.inl v2)] [] h2) fun r5 h4 => some (some (.inl r5), h4))))) := (zx_unfold zblk xs 54 80 _ rfl _ _ _).trans rfl
/-- MindReaders.oddness(I)I -/
noncomputable abbrev r_X_oddness (xs : List Int) (p : Nat) (v1 : Int) (h : zH) : Option zR := zx zblk xs 55 0 [some (.inr (.inr (some p))), some (.inl v1)] [] h
theorem e_X_oddness_0 (xs : List Int) (p : Nat) (v1 : Int) (h : zH) : zx zblk xs 55 0 [some (.inr (.inr (some p))), some (.inl v1)] [] h = (zck h (some p) 6 (zcr (zx zblk xs 69 0 [some (.inr (.inr (some p))), some (.inl v1)] [] h) fun r2 h1 => (zif r2 (some (some (.inl (-101)), h1)) (zx zblk xs 55 13 [some (.inr (.inr (some p))), none, some (.inr (.inr r2))] [] h1)))) := (zx_unfold zblk xs 55 0 _ rfl _ _ _).trans rfl
theorem e_X_oddness_13 (xs : List Int) (p : Nat) (v2 : Option Nat) (h : zH) : zx zblk xs 55 13 [some (.inr (.inr (some p))), none, some (.inr (.inr v2))] [] h = (zck h (some p) 6 (zci (zx zblk xs 70 0 [some (.inr (.inr (some p))), some (.inr (.inr v2))] [] h) fun r2 h1 => zx zblk xs 55 25 [some (.inr (.inr (some p))), none, some (.inr (.inr v2)), some (.inl r2), some (.inl 0), some (.inl 0)] [] h1)) := (zx_unfold zblk xs 55 13 _ rfl _ _ _).trans rfl
theorem e_X_oddness_25 (xs : List Int) (p : Nat) (v2 : Option Nat) (v3 : Int) (v4 : Int) (v5 : Int) (h : zH) : zx zblk xs 55 25 [some (.inr (.inr (some p))), none, some (.inr (.inr v2)), some (.inl v3), some (.inl v4), some (.inl v5)] [] h = (if zw v3 ≤ zw v5 then zx zblk xs 55 65 [none, none, none, none, some (.inl v4)] [] h else (zgr h (some p) 6 1 fun f1 => (zck h f1 3 (zci (zx zblk xs 20 0 [some (.inr (.inr f1)), some (.inl v5)] [] h) fun r3 h2 => (zgr h2 (some p) 6 0 fun f4 => (zck h2 v2 0 (zcr (zx zblk xs 3 0 [some (.inr (.inr v2)), some (.inl v5)] [] h2) fun r6 h5 => (zck h5 f4 5 (zci (zx zblk xs 41 0 [some (.inr (.inr f4)), some (.inr (.inr r6))] [] h5) fun r8 h7 => zx zblk xs 55 25 [some (.inr (.inr (some p))), none, some (.inr (.inr v2)), some (.inl v3), some (.inl (v4 + (r3 * r8))), some (.inl (v5 + 1))] [] h7))))))))) := (zx_unfold zblk xs 55 25 _ rfl _ _ _).trans rfl
theorem e_X_oddness_65 (xs : List Int) (v4 : Int) (h : zH) : zx zblk xs 55 65 [none, none, none, none, some (.inl v4)] [] h = some (some (.inl v4), h) := (zx_unfold zblk xs 55 65 _ rfl _ _ _).trans rfl
/-- MindReaders.dealt(II)I -/
noncomputable abbrev r_X_dealt (xs : List Int) (p : Nat) (v1 : Int) (v2 : Int) (h : zH) : Option zR := zx zblk xs 56 0 [some (.inr (.inr (some p))), some (.inl v1), some (.inl v2)] [] h
theorem e_X_dealt_0 (xs : List Int) (p : Nat) (v1 : Int) (v2 : Int) (h : zH) : zx zblk xs 56 0 [some (.inr (.inr (some p))), some (.inl v1), some (.inl v2)] [] h = (zck h (some p) 6 (zcr (zx zblk xs 69 0 [some (.inr (.inr (some p))), some (.inl v1)] [] h) fun r2 h1 => (zif r2 (some (some (.inl (-101)), h1)) (zx zblk xs 56 13 [some (.inr (.inr (some p))), none, some (.inl v2), some (.inr (.inr r2))] [] h1)))) := (zx_unfold zblk xs 56 0 _ rfl _ _ _).trans rfl
theorem e_X_dealt_13 (xs : List Int) (p : Nat) (v2 : Int) (v3 : Option Nat) (h : zH) : zx zblk xs 56 13 [some (.inr (.inr (some p))), none, some (.inl v2), some (.inr (.inr v3))] [] h = (zci (zx zblk xs 68 0 [some (.inl v2)] [] h) fun r2 h1 => (if zw r2 ≠ 0 then zx zblk xs 56 35 [some (.inr (.inr (some p))), none, some (.inl v2), some (.inr (.inr v3))] [] h1 else (if zw v2 < zw 10 then zx zblk xs 56 32 [] [] h1 else (if zw v2 < zw 18 then zx zblk xs 56 35 [some (.inr (.inr (some p))), none, some (.inl v2), some (.inr (.inr v3))] [] h1 else zx zblk xs 56 32 [] [] h1)))) := (zx_unfold zblk xs 56 13 _ rfl _ _ _).trans rfl
theorem e_X_dealt_32 (xs : List Int)  (h : zH) : zx zblk xs 56 32 [] [] h = some (some (.inl (-102)), h) := (zx_unfold zblk xs 56 32 _ rfl _ _ _).trans rfl
theorem e_X_dealt_35 (xs : List Int) (p : Nat) (v2 : Int) (v3 : Option Nat) (h : zH) : zx zblk xs 56 35 [some (.inr (.inr (some p))), none, some (.inl v2), some (.inr (.inr v3))] [] h = (zck h (some p) 6 (zci (zx zblk xs 70 0 [some (.inr (.inr (some p))), some (.inr (.inr v3))] [] h) fun r2 h1 => (if zw r2 ≠ 0 then zx zblk xs 56 50 [some (.inr (.inr (some p))), none, some (.inl v2), some (.inr (.inr v3)), some (.inl r2)] [] h1 else some (some (.inl (-103)), h1)))) := (zx_unfold zblk xs 56 35 _ rfl _ _ _).trans rfl
theorem e_X_dealt_50 (xs : List Int) (p : Nat) (v2 : Int) (v3 : Option Nat) (v4 : Int) (h : zH) : zx zblk xs 56 50 [some (.inr (.inr (some p))), none, some (.inl v2), some (.inr (.inr v3)), some (.inl v4)] [] h = (if zw v2 < zw 10 then zx zblk xs 56 66 [some (.inr (.inr (some p))), none, some (.inl v2), some (.inr (.inr v3)), some (.inl v4)] [] h else (zck h (some p) 6 (zci (zx zblk xs 73 0 [some (.inr (.inr (some p))), some (.inr (.inr v3)), some (.inl (v2 - 10))] [] h) fun r2 h1 => some (some (.inl r2), h1)))) := (zx_unfold zblk xs 56 50 _ rfl _ _ _).trans rfl
theorem e_X_dealt_66 (xs : List Int) (p : Nat) (v2 : Int) (v3 : Option Nat) (v4 : Int) (h : zH) : zx zblk xs 56 66 [some (.inr (.inr (some p))), none, some (.inl v2), some (.inr (.inr v3)), some (.inl v4)] [] h = zx zblk xs 56 72 [some (.inr (.inr (some p))), none, some (.inl v2), some (.inr (.inr v3)), some (.inl v4), some (.inr (.inl 0)), none, some (.inl 0)] [] h := (zx_unfold zblk xs 56 66 _ rfl _ _ _).trans rfl
theorem e_X_dealt_72 (xs : List Int) (p : Nat) (v2 : Int) (v3 : Option Nat) (v4 : Int) (v5 : Int) (v7 : Int) (h : zH) : zx zblk xs 56 72 [some (.inr (.inr (some p))), none, some (.inl v2), some (.inr (.inr v3)), some (.inl v4), some (.inr (.inl v5)), none, some (.inl v7)] [] h = (if zw v4 ≤ zw v7 then zx zblk xs 56 113 [some (.inr (.inr (some p))), none, some (.inl v2), none, some (.inl v4), some (.inr (.inl v5))] [] h else (zgr h (some p) 6 1 fun f1 => (zck h f1 3 (zci (zx zblk xs 20 0 [some (.inr (.inr f1)), some (.inl v7)] [] h) fun r3 h2 => (zck h2 (some p) 6 (zci (zx zblk xs 73 0 [some (.inr (.inr (some p))), some (.inr (.inr v3)), some (.inl v7)] [] h2) fun r5 h4 => (zck h4 (some p) 6 (zci (zx zblk xs 71 0 [some (.inr (.inr (some p))), some (.inr (.inr v3)), some (.inl r5)] [] h4) fun r7 h6 => zx zblk xs 56 72 [some (.inr (.inr (some p))), none, some (.inl v2), some (.inr (.inr v3)), some (.inl v4), some (.inr (.inl (v5 + (zw (r3 * r7))))), none, some (.inl (v7 + 1))] [] h6)))))))) := (zx_unfold zblk xs 56 72 _ rfl _ _ _).trans rfl
theorem e_X_dealt_113 (xs : List Int) (p : Nat) (v2 : Int) (v4 : Int) (v5 : Int) (h : zH) : zx zblk xs 56 113 [some (.inr (.inr (some p))), none, some (.inl v2), none, some (.inl v4), some (.inr (.inl v5))] [] h = (zgr h (some p) 6 1 fun f1 => (zck h f1 3 (zci (zx zblk xs 28 0 [some (.inr (.inr f1)), some (.inl v4)] [] h) fun r3 h2 => (zcl (zx zblk xs 76 0 [some (.inr (.inl v5)), none, some (.inr (.inl (zw r3))), none, some (.inl v2)] [] h2) fun r5 h4 => some (some (.inl r5), h4))))) := (zx_unfold zblk xs 56 113 _ rfl _ _ _).trans rfl
/-- MindReaders.apart(I)I -/
noncomputable abbrev r_X_apart (xs : List Int) (p : Nat) (v1 : Int) (h : zH) : Option zR := zx zblk xs 57 0 [some (.inr (.inr (some p))), some (.inl v1)] [] h
theorem e_X_apart_0 (xs : List Int) (p : Nat) (v1 : Int) (h : zH) : zx zblk xs 57 0 [some (.inr (.inr (some p))), some (.inl v1)] [] h = (zck h (some p) 6 (zcr (zx zblk xs 69 0 [some (.inr (.inr (some p))), some (.inl v1)] [] h) fun r2 h1 => (zif r2 (zx zblk xs 57 19 [] [.inl (-101)] h1) (zx zblk xs 57 15 [none, none, some (.inr (.inr r2))] [] h1)))) := (zx_unfold zblk xs 57 0 _ rfl _ _ _).trans rfl
theorem e_X_apart_15 (xs : List Int) (v2 : Option Nat) (h : zH) : zx zblk xs 57 15 [none, none, some (.inr (.inr v2))] [] h = (zck h v2 0 (zci (zx zblk xs 10 0 [some (.inr (.inr v2))] [] h) fun r2 h1 => zx zblk xs 57 19 [] [.inl r2] h1)) := (zx_unfold zblk xs 57 15 _ rfl _ _ _).trans rfl
theorem e_X_apart_19 (xs : List Int) (s0 : Int) (h : zH) : zx zblk xs 57 19 [] [.inl s0] h = some (some (.inl s0), h) := (zx_unfold zblk xs 57 19 _ rfl _ _ _).trans rfl
/-- MindReaders.named(I)I -/
noncomputable abbrev r_X_named (xs : List Int) (p : Nat) (v1 : Int) (h : zH) : Option zR := zx zblk xs 58 0 [some (.inr (.inr (some p))), some (.inl v1)] [] h
theorem e_X_named_0 (xs : List Int) (p : Nat) (v1 : Int) (h : zH) : zx zblk xs 58 0 [some (.inr (.inr (some p))), some (.inl v1)] [] h = (zck h (some p) 6 (zcr (zx zblk xs 69 0 [some (.inr (.inr (some p))), some (.inl v1)] [] h) fun r2 h1 => (zif r2 (some (some (.inl (-101)), h1)) (zx zblk xs 58 13 [some (.inr (.inr (some p))), none, some (.inr (.inr r2))] [] h1)))) := (zx_unfold zblk xs 58 0 _ rfl _ _ _).trans rfl
theorem e_X_named_13 (xs : List Int) (p : Nat) (v2 : Option Nat) (h : zH) : zx zblk xs 58 13 [some (.inr (.inr (some p))), none, some (.inr (.inr v2))] [] h = (zck h (some p) 6 (zci (zx zblk xs 66 0 [some (.inr (.inr (some p)))] [] h) fun r2 h1 => (if zw r2 = 0 then zx zblk xs 58 31 [] [] h1 else (zgr h1 (some p) 6 10 fun f3 => (zck h1 v2 0 (zci (zx zblk xs 11 0 [some (.inr (.inr v2)), some (.inr (.inr f3))] [] h1) fun r5 h4 => zx zblk xs 58 33 [] [.inl r5] h4)))))) := (zx_unfold zblk xs 58 13 _ rfl _ _ _).trans rfl
theorem e_X_named_31 (xs : List Int)  (h : zH) : zx zblk xs 58 31 [] [] h = zx zblk xs 58 33 [] [.inl (-103)] h := (zx_unfold zblk xs 58 31 _ rfl _ _ _).trans rfl
theorem e_X_named_33 (xs : List Int) (s0 : Int) (h : zH) : zx zblk xs 58 33 [] [.inl s0] h = some (some (.inl s0), h) := (zx_unfold zblk xs 58 33 _ rfl _ _ _).trans rfl
/-- MindReaders.left(II)I -/
noncomputable abbrev r_X_left (xs : List Int) (p : Nat) (v1 : Int) (v2 : Int) (h : zH) : Option zR := zx zblk xs 59 0 [some (.inr (.inr (some p))), some (.inl v1), some (.inl v2)] [] h
theorem e_X_left_0 (xs : List Int) (p : Nat) (v1 : Int) (v2 : Int) (h : zH) : zx zblk xs 59 0 [some (.inr (.inr (some p))), some (.inl v1), some (.inl v2)] [] h = (zck h (some p) 6 (zcr (zx zblk xs 69 0 [some (.inr (.inr (some p))), some (.inl v1)] [] h) fun r2 h1 => (zif r2 (some (some (.inl (-101)), h1)) (zx zblk xs 59 13 [some (.inr (.inr (some p))), none, some (.inl v2), some (.inr (.inr r2))] [] h1)))) := (zx_unfold zblk xs 59 0 _ rfl _ _ _).trans rfl
theorem e_X_left_13 (xs : List Int) (p : Nat) (v2 : Int) (v3 : Option Nat) (h : zH) : zx zblk xs 59 13 [some (.inr (.inr (some p))), none, some (.inl v2), some (.inr (.inr v3))] [] h = (if zw v2 < 0 then zx zblk xs 59 24 [] [] h else (if zw v2 ≤ zw 255 then zx zblk xs 59 27 [some (.inr (.inr (some p))), none, some (.inl v2), some (.inr (.inr v3))] [] h else zx zblk xs 59 24 [] [] h)) := (zx_unfold zblk xs 59 13 _ rfl _ _ _).trans rfl
theorem e_X_left_24 (xs : List Int)  (h : zH) : zx zblk xs 59 24 [] [] h = some (some (.inl (-102)), h) := (zx_unfold zblk xs 59 24 _ rfl _ _ _).trans rfl
theorem e_X_left_27 (xs : List Int) (p : Nat) (v2 : Int) (v3 : Option Nat) (h : zH) : zx zblk xs 59 27 [some (.inr (.inr (some p))), none, some (.inl v2), some (.inr (.inr v3))] [] h = (zck h (some p) 6 (zci (zx zblk xs 77 0 [some (.inr (.inr (some p))), some (.inr (.inr v3)), some (.inl v2), some (.inl 8)] [] h) fun r2 h1 => some (some (.inl r2), h1))) := (zx_unfold zblk xs 59 27 _ rfl _ _ _).trans rfl
/-- MindReaders.stop(I)I -/
noncomputable abbrev r_X_stop (xs : List Int) (p : Nat) (v1 : Int) (h : zH) : Option zR := zx zblk xs 60 0 [some (.inr (.inr (some p))), some (.inl v1)] [] h
theorem e_X_stop_0 (xs : List Int) (p : Nat) (v1 : Int) (h : zH) : zx zblk xs 60 0 [some (.inr (.inr (some p))), some (.inl v1)] [] h = (zck h (some p) 6 (zcr (zx zblk xs 69 0 [some (.inr (.inr (some p))), some (.inl v1)] [] h) fun r2 h1 => (zif r2 (some (some (.inl (-101)), h1)) (zx zblk xs 60 13 [some (.inr (.inr (some p))), none, some (.inr (.inr r2))] [] h1)))) := (zx_unfold zblk xs 60 0 _ rfl _ _ _).trans rfl
theorem e_X_stop_13 (xs : List Int) (p : Nat) (v2 : Option Nat) (h : zH) : zx zblk xs 60 13 [some (.inr (.inr (some p))), none, some (.inr (.inr v2))] [] h = zx zblk xs 60 15 [some (.inr (.inr (some p))), none, some (.inr (.inr v2)), some (.inl 0)] [] h := (zx_unfold zblk xs 60 13 _ rfl _ _ _).trans rfl
theorem e_X_stop_15 (xs : List Int) (p : Nat) (v2 : Option Nat) (v3 : Int) (h : zH) : zx zblk xs 60 15 [some (.inr (.inr (some p))), none, some (.inr (.inr v2)), some (.inl v3)] [] h = (if zw 8 ≤ zw v3 then zx zblk xs 60 68 [] [] h else zx zblk xs 60 24 [some (.inr (.inr (some p))), none, some (.inr (.inr v2)), some (.inl v3), some (.inl 0)] [] h) := (zx_unfold zblk xs 60 15 _ rfl _ _ _).trans rfl
theorem e_X_stop_24 (xs : List Int) (p : Nat) (v2 : Option Nat) (v3 : Int) (v4 : Int) (h : zH) : zx zblk xs 60 24 [some (.inr (.inr (some p))), none, some (.inr (.inr v2)), some (.inl v3), some (.inl v4)] [] h = (if zw 255 < zw v4 then zx zblk xs 60 62 [some (.inr (.inr (some p))), none, some (.inr (.inr v2)), some (.inl v3)] [] h else (zci (zx zblk xs 94 0 [some (.inl v4)] [] h) fun r2 h1 => (if zw r2 ≠ zw v3 then zx zblk xs 60 56 [some (.inr (.inr (some p))), none, some (.inr (.inr v2)), some (.inl v3), some (.inl v4)] [] h1 else (zck h1 (some p) 6 (zci (zx zblk xs 77 0 [some (.inr (.inr (some p))), some (.inr (.inr v2)), some (.inl v4), some (.inl 2)] [] h1) fun r4 h3 => (if zw 1 < zw r4 then zx zblk xs 60 56 [some (.inr (.inr (some p))), none, some (.inr (.inr v2)), some (.inl v3), some (.inl v4)] [] h3 else some (some (.inl v4), h3))))))) := (zx_unfold zblk xs 60 24 _ rfl _ _ _).trans rfl
theorem e_X_stop_56 (xs : List Int) (p : Nat) (v2 : Option Nat) (v3 : Int) (v4 : Int) (h : zH) : zx zblk xs 60 56 [some (.inr (.inr (some p))), none, some (.inr (.inr v2)), some (.inl v3), some (.inl v4)] [] h = zx zblk xs 60 24 [some (.inr (.inr (some p))), none, some (.inr (.inr v2)), some (.inl v3), some (.inl (v4 + 1))] [] h := (zx_unfold zblk xs 60 56 _ rfl _ _ _).trans rfl
theorem e_X_stop_62 (xs : List Int) (p : Nat) (v2 : Option Nat) (v3 : Int) (h : zH) : zx zblk xs 60 62 [some (.inr (.inr (some p))), none, some (.inr (.inr v2)), some (.inl v3)] [] h = zx zblk xs 60 15 [some (.inr (.inr (some p))), none, some (.inr (.inr v2)), some (.inl (v3 + 1))] [] h := (zx_unfold zblk xs 60 62 _ rfl _ _ _).trans rfl
theorem e_X_stop_68 (xs : List Int)  (h : zH) : zx zblk xs 60 68 [] [] h = some (some (.inl 255), h) := (zx_unfold zblk xs 60 68 _ rfl _ _ _).trans rfl
/-- MindReaders.byteOf(JI)I -/
noncomputable abbrev r_X_byteOf (xs : List Int) (v1 : Int) (v2 : Int) (h : zH) : Option zR := zx zblk xs 61 0 [some (.inr (.inl v1)), none, some (.inl v2)] [] h
theorem e_X_byteOf_0 (xs : List Int) (v0 : Int) (v2 : Int) (h : zH) : zx zblk xs 61 0 [some (.inr (.inl v0)), none, some (.inl v2)] [] h = some (some (.inl (zandl (zushrl v0 (8 * v2)) 255)), h) := (zx_unfold zblk xs 61 0 _ rfl _ _ _).trans rfl
/-- MindReaders.lettersIn(J)I -/
noncomputable abbrev r_X_lettersIn (xs : List Int) (v1 : Int) (h : zH) : Option zR := zx zblk xs 62 0 [some (.inr (.inl v1)), none] [] h
theorem e_X_lettersIn_0 (xs : List Int) (v0 : Int) (h : zH) : zx zblk xs 62 0 [some (.inr (.inl v0)), none] [] h = zx zblk xs 62 4 [some (.inr (.inl v0)), none, some (.inl 0), some (.inl 0)] [] h := (zx_unfold zblk xs 62 0 _ rfl _ _ _).trans rfl
theorem e_X_lettersIn_4 (xs : List Int) (v0 : Int) (v2 : Int) (v3 : Int) (h : zH) : zx zblk xs 62 4 [some (.inr (.inl v0)), none, some (.inl v2), some (.inl v3)] [] h = (if zw 8 ≤ zw v3 then zx zblk xs 62 50 [none, none, some (.inl v2)] [] h else (zci (zx zblk xs 61 0 [some (.inr (.inl v0)), none, some (.inl v3)] [] h) fun r2 h1 => (if zw 126 < zw r2 then zx zblk xs 62 34 [] [] h1 else (if zw r2 = 0 then zx zblk xs 62 36 [some (.inr (.inl v0)), none, some (.inl v2), some (.inl v3), some (.inl r2)] [] h1 else (if zw v3 ≤ zw v2 then zx zblk xs 62 36 [some (.inr (.inl v0)), none, some (.inl v2), some (.inl v3), some (.inl r2)] [] h1 else zx zblk xs 62 34 [] [] h1))))) := (zx_unfold zblk xs 62 4 _ rfl _ _ _).trans rfl
theorem e_X_lettersIn_34 (xs : List Int)  (h : zH) : zx zblk xs 62 34 [] [] h = some (some (.inl (-1)), h) := (zx_unfold zblk xs 62 34 _ rfl _ _ _).trans rfl
theorem e_X_lettersIn_36 (xs : List Int) (v0 : Int) (v2 : Int) (v3 : Int) (v4 : Int) (h : zH) : zx zblk xs 62 36 [some (.inr (.inl v0)), none, some (.inl v2), some (.inl v3), some (.inl v4)] [] h = (if zw v4 = 0 then zx zblk xs 62 44 [some (.inr (.inl v0)), none, some (.inl v2), some (.inl v3)] [] h else zx zblk xs 62 44 [some (.inr (.inl v0)), none, some (.inl (v2 + 1)), some (.inl v3)] [] h) := (zx_unfold zblk xs 62 36 _ rfl _ _ _).trans rfl
theorem e_X_lettersIn_44 (xs : List Int) (v0 : Int) (v2 : Int) (v3 : Int) (h : zH) : zx zblk xs 62 44 [some (.inr (.inl v0)), none, some (.inl v2), some (.inl v3)] [] h = zx zblk xs 62 4 [some (.inr (.inl v0)), none, some (.inl v2), some (.inl (v3 + 1))] [] h := (zx_unfold zblk xs 62 44 _ rfl _ _ _).trans rfl
theorem e_X_lettersIn_50 (xs : List Int) (v2 : Int) (h : zH) : zx zblk xs 62 50 [none, none, some (.inl v2)] [] h = some (some (.inl v2), h) := (zx_unfold zblk xs 62 50 _ rfl _ _ _).trans rfl
/-- MindReaders.signalOf(I)I -/
noncomputable abbrev r_X_signalOf (xs : List Int) (v1 : Int) (h : zH) : Option zR := zx zblk xs 63 0 [some (.inl v1)] [] h
theorem e_X_signalOf_0 (xs : List Int) (v0 : Int) (h : zH) : zx zblk xs 63 0 [some (.inl v0)] [] h = (if zw v0 < zw 97 then zx zblk xs 63 19 [] [] h else (if zw 104 < zw v0 then zx zblk xs 63 19 [] [] h else zx zblk xs 63 20 [] [.inl (v0 - 97)] h)) := (zx_unfold zblk xs 63 0 _ rfl _ _ _).trans rfl
theorem e_X_signalOf_19 (xs : List Int)  (h : zH) : zx zblk xs 63 19 [] [] h = zx zblk xs 63 20 [] [.inl (-1)] h := (zx_unfold zblk xs 63 19 _ rfl _ _ _).trans rfl
theorem e_X_signalOf_20 (xs : List Int) (s0 : Int) (h : zH) : zx zblk xs 63 20 [] [.inl s0] h = some (some (.inl s0), h) := (zx_unfold zblk xs 63 20 _ rfl _ _ _).trans rfl
/-- MindReaders.firstFault()I -/
noncomputable abbrev r_X_firstFault (xs : List Int) (p : Nat) (h : zH) : Option zR := zx zblk xs 64 0 [some (.inr (.inr (some p)))] [] h
theorem e_X_firstFault_0 (xs : List Int) (p : Nat) (h : zH) : zx zblk xs 64 0 [some (.inr (.inr (some p)))] [] h = zx zblk xs 64 6 [some (.inr (.inr (some p))), some (.inl 0), some (.inl 0), some (.inl 0)] [] h := (zx_unfold zblk xs 64 0 _ rfl _ _ _).trans rfl
theorem e_X_firstFault_6 (xs : List Int) (p : Nat) (v1 : Int) (v2 : Int) (v3 : Int) (h : zH) : zx zblk xs 64 6 [some (.inr (.inr (some p))), some (.inl v1), some (.inl v2), some (.inl v3)] [] h = (zgr h (some p) 6 4 fun f1 => (zck h f1 3 (zci (zx zblk xs 19 0 [some (.inr (.inr f1))] [] h) fun r3 h2 => (if zw r3 ≤ zw v3 then zx zblk xs 64 80 [some (.inr (.inr (some p)))] [] h2 else (zgr h2 (some p) 6 4 fun f4 => (zck h2 f4 3 (zci (zx zblk xs 20 0 [some (.inr (.inr f4)), some (.inl v3)] [] h2) fun r6 h5 => (zci (zx zblk xs 63 0 [some (.inl r6)] [] h5) fun r8 h7 => (if zw r8 = zw (-1) then zx zblk xs 64 47 [some (.inr (.inr (some p))), some (.inl v1), some (.inl v2), some (.inl v3), some (.inl r6)] [] h7 else (if zw 5 ≤ zw v2 then zx zblk xs 64 47 [some (.inr (.inr (some p))), some (.inl v1), some (.inl v2), some (.inl v3), some (.inl r6)] [] h7 else zx zblk xs 64 74 [some (.inr (.inr (some p))), some (.inl v1), some (.inl (v2 + 1)), some (.inl v3)] [] h7)))))))))) := (zx_unfold zblk xs 64 6 _ rfl _ _ _).trans rfl
theorem e_X_firstFault_47 (xs : List Int) (p : Nat) (v1 : Int) (v2 : Int) (v3 : Int) (v4 : Int) (h : zH) : zx zblk xs 64 47 [some (.inr (.inr (some p))), some (.inl v1), some (.inl v2), some (.inl v3), some (.inl v4)] [] h = (if zw v4 ≠ zw 44 then zx zblk xs 64 72 [none, none, none, some (.inl v3)] [] h else (if zw v2 ≤ 0 then zx zblk xs 64 72 [none, none, none, some (.inl v3)] [] h else (if zw 7 ≤ zw v1 then zx zblk xs 64 72 [none, none, none, some (.inl v3)] [] h else zx zblk xs 64 74 [some (.inr (.inr (some p))), some (.inl (v1 + 1)), some (.inl 0), some (.inl v3)] [] h))) := (zx_unfold zblk xs 64 47 _ rfl _ _ _).trans rfl
theorem e_X_firstFault_72 (xs : List Int) (v3 : Int) (h : zH) : zx zblk xs 64 72 [none, none, none, some (.inl v3)] [] h = some (some (.inl v3), h) := (zx_unfold zblk xs 64 72 _ rfl _ _ _).trans rfl
theorem e_X_firstFault_74 (xs : List Int) (p : Nat) (v1 : Int) (v2 : Int) (v3 : Int) (h : zH) : zx zblk xs 64 74 [some (.inr (.inr (some p))), some (.inl v1), some (.inl v2), some (.inl v3)] [] h = zx zblk xs 64 6 [some (.inr (.inr (some p))), some (.inl v1), some (.inl v2), some (.inl (v3 + 1))] [] h := (zx_unfold zblk xs 64 74 _ rfl _ _ _).trans rfl
theorem e_X_firstFault_80 (xs : List Int) (p : Nat) (h : zH) : zx zblk xs 64 80 [some (.inr (.inr (some p)))] [] h = (zgr h (some p) 6 4 fun f1 => (zck h f1 3 (zci (zx zblk xs 19 0 [some (.inr (.inr f1))] [] h) fun r3 h2 => some (some (.inl r3), h2)))) := (zx_unfold zblk xs 64 80 _ rfl _ _ _).trans rfl
/-- MindReaders.readPage()Z -/
noncomputable abbrev r_X_readPage (xs : List Int) (p : Nat) (h : zH) : Option zR := zx zblk xs 65 0 [some (.inr (.inr (some p)))] [] h
theorem e_X_readPage_0 (xs : List Int) (p : Nat) (h : zH) : zx zblk xs 65 0 [some (.inr (.inr (some p)))] [] h = (zgr h (some p) 6 9 fun f1 => (zck h f1 3 (zcv (zx zblk xs 24 0 [some (.inr (.inr f1))] [] h) fun h2 => zx zblk xs 65 9 [some (.inr (.inr (some p))), some (.inl 0)] [] h2))) := (zx_unfold zblk xs 65 0 _ rfl _ _ _).trans rfl
theorem e_X_readPage_9 (xs : List Int) (p : Nat) (v1 : Int) (h : zH) : zx zblk xs 65 9 [some (.inr (.inr (some p))), some (.inl v1)] [] h = (zgr h (some p) 6 4 fun f1 => (zck h f1 3 (zci (zx zblk xs 19 0 [some (.inr (.inr f1))] [] h) fun r3 h2 => (if zw r3 ≤ zw v1 then zx zblk xs 65 53 [] [] h2 else (zgr h2 (some p) 6 4 fun f4 => (zck h2 f4 3 (zci (zx zblk xs 20 0 [some (.inr (.inr f4)), some (.inl v1)] [] h2) fun r6 h5 => (zci (zx zblk xs 63 0 [some (.inl r6)] [] h5) fun r8 h7 => (if zw r8 ≠ zw (-1) then zx zblk xs 65 39 [some (.inr (.inr (some p))), some (.inl v1), some (.inl r8)] [] h7 else (if 0 = 0 ∨ 0 = 1 then some (some (.inl 0), h7) else none)))))))))) := (zx_unfold zblk xs 65 9 _ rfl _ _ _).trans rfl
theorem e_X_readPage_39 (xs : List Int) (p : Nat) (v1 : Int) (v2 : Int) (h : zH) : zx zblk xs 65 39 [some (.inr (.inr (some p))), some (.inl v1), some (.inl v2)] [] h = (zgr h (some p) 6 9 fun f1 => (zck h f1 3 (zcv (zx zblk xs 22 0 [some (.inr (.inr f1)), some (.inl v2)] [] h) fun h2 => zx zblk xs 65 9 [some (.inr (.inr (some p))), some (.inl (v1 + 1))] [] h2))) := (zx_unfold zblk xs 65 39 _ rfl _ _ _).trans rfl
theorem e_X_readPage_53 (xs : List Int)  (h : zH) : zx zblk xs 65 53 [] [] h = (if 1 = 0 ∨ 1 = 1 then some (some (.inl 1), h) else none) := (zx_unfold zblk xs 65 53 _ rfl _ _ _).trans rfl
/-- MindReaders.hearPage()Z -/
noncomputable abbrev r_X_hearPage (xs : List Int) (p : Nat) (h : zH) : Option zR := zx zblk xs 66 0 [some (.inr (.inr (some p)))] [] h
theorem e_X_hearPage_0 (xs : List Int) (p : Nat) (h : zH) : zx zblk xs 66 0 [some (.inr (.inr (some p)))] [] h = (zck h (some p) 6 (zci (zx zblk xs 65 0 [some (.inr (.inr (some p)))] [] h) fun r2 h1 => (if zw r2 ≠ 0 then zx zblk xs 66 9 [some (.inr (.inr (some p)))] [] h1 else (if 0 = 0 ∨ 0 = 1 then some (some (.inl 0), h1) else none)))) := (zx_unfold zblk xs 66 0 _ rfl _ _ _).trans rfl
theorem e_X_hearPage_9 (xs : List Int) (p : Nat) (h : zH) : zx zblk xs 66 9 [some (.inr (.inr (some p)))] [] h = (zgr h (some p) 6 0 fun f1 => (zgr h (some p) 6 9 fun f2 => (zgr h (some p) 6 10 fun f3 => (zck h f1 5 (zcv (zx zblk xs 42 0 [some (.inr (.inr f1)), some (.inr (.inr f2)), some (.inl 0), some (.inr (.inr f3))] [] h) fun h4 => (if 1 = 0 ∨ 1 = 1 then some (some (.inl 1), h4) else none)))))) := (zx_unfold zblk xs 66 9 _ rfl _ _ _).trans rfl
/-- MindReaders.isWeight(I)Z -/
noncomputable abbrev r_X_isWeight (xs : List Int) (v1 : Int) (h : zH) : Option zR := zx zblk xs 67 0 [some (.inl v1)] [] h
theorem e_X_isWeight_0 (xs : List Int) (v0 : Int) (h : zH) : zx zblk xs 67 0 [some (.inl v0)] [] h = (if zw v0 < zw 1 then zx zblk xs 67 15 [] [] h else (if zw 99 < zw v0 then zx zblk xs 67 15 [] [] h else zx zblk xs 67 16 [] [.inl 1] h)) := (zx_unfold zblk xs 67 0 _ rfl _ _ _).trans rfl
theorem e_X_isWeight_15 (xs : List Int)  (h : zH) : zx zblk xs 67 15 [] [] h = zx zblk xs 67 16 [] [.inl 0] h := (zx_unfold zblk xs 67 15 _ rfl _ _ _).trans rfl
theorem e_X_isWeight_16 (xs : List Int) (s0 : Int) (h : zH) : zx zblk xs 67 16 [] [.inl s0] h = (if s0 = 0 ∨ s0 = 1 then some (some (.inl s0), h) else none) := (zx_unfold zblk xs 67 16 _ rfl _ _ _).trans rfl
/-- MindReaders.isPart(I)Z -/
noncomputable abbrev r_X_isPart (xs : List Int) (v1 : Int) (h : zH) : Option zR := zx zblk xs 68 0 [some (.inl v1)] [] h
theorem e_X_isPart_0 (xs : List Int) (v0 : Int) (h : zH) : zx zblk xs 68 0 [some (.inl v0)] [] h = (if zw v0 = 0 then zx zblk xs 68 9 [] [] h else (if zw v0 ≠ zw 1 then zx zblk xs 68 13 [] [] h else zx zblk xs 68 9 [] [] h)) := (zx_unfold zblk xs 68 0 _ rfl _ _ _).trans rfl
theorem e_X_isPart_9 (xs : List Int)  (h : zH) : zx zblk xs 68 9 [] [] h = zx zblk xs 68 14 [] [.inl 1] h := (zx_unfold zblk xs 68 9 _ rfl _ _ _).trans rfl
theorem e_X_isPart_13 (xs : List Int)  (h : zH) : zx zblk xs 68 13 [] [] h = zx zblk xs 68 14 [] [.inl 0] h := (zx_unfold zblk xs 68 13 _ rfl _ _ _).trans rfl
theorem e_X_isPart_14 (xs : List Int) (s0 : Int) (h : zH) : zx zblk xs 68 14 [] [.inl s0] h = (if s0 = 0 ∨ s0 = 1 then some (some (.inl s0), h) else none) := (zx_unfold zblk xs 68 14 _ rfl _ _ _).trans rfl
/-- MindReaders.codeAt(I)LMindReaders$Code; -/
noncomputable abbrev r_X_codeAt (xs : List Int) (p : Nat) (v1 : Int) (h : zH) : Option zR := zx zblk xs 69 0 [some (.inr (.inr (some p))), some (.inl v1)] [] h
theorem e_X_codeAt_0 (xs : List Int) (p : Nat) (v1 : Int) (h : zH) : zx zblk xs 69 0 [some (.inr (.inr (some p))), some (.inl v1)] [] h = (if zw v1 < 0 then zx zblk xs 69 30 [] [] h else (zgi h (some p) 6 3 fun f1 => (if zw f1 ≤ zw v1 then zx zblk xs 69 30 [] [] h else (zgr h (some p) 6 2 fun f2 => (zln xs h f2 fun n3 => (if zw n3 ≤ zw v1 then zx zblk xs 69 30 [] [] h else (zgr h (some p) 6 2 fun f4 => (zaa xs h f4 102 v1 fun a5 => zx zblk xs 69 31 [] [.inr (.inr a5)] h)))))))) := (zx_unfold zblk xs 69 0 _ rfl _ _ _).trans rfl
theorem e_X_codeAt_30 (xs : List Int)  (h : zH) : zx zblk xs 69 30 [] [] h = zx zblk xs 69 31 [] [.inr (.inr none)] h := (zx_unfold zblk xs 69 30 _ rfl _ _ _).trans rfl
theorem e_X_codeAt_31 (xs : List Int) (s0 : Option Nat) (h : zH) : zx zblk xs 69 31 [] [.inr (.inr s0)] h = some (some (.inr (.inr s0)), h) := (zx_unfold zblk xs 69 31 _ rfl _ _ _).trans rfl
/-- MindReaders.thingsSaid(LMindReaders$Code;)I -/
noncomputable abbrev r_X_thingsSaid (xs : List Int) (p : Nat) (v1 : Option Nat) (h : zH) : Option zR := zx zblk xs 70 0 [some (.inr (.inr (some p))), some (.inr (.inr v1))] [] h
theorem e_X_thingsSaid_0 (xs : List Int) (p : Nat) (v1 : Option Nat) (h : zH) : zx zblk xs 70 0 [some (.inr (.inr (some p))), some (.inr (.inr v1))] [] h = (zck h v1 0 (zci (zx zblk xs 2 0 [some (.inr (.inr v1))] [] h) fun r2 h1 => (zgr h1 (some p) 6 1 fun f3 => (zck h1 f3 3 (zci (zx zblk xs 19 0 [some (.inr (.inr f3))] [] h1) fun r5 h4 => some (some (.inl (if zw r5 < zw r2 then r5 else r2)), h4)))))) := (zx_unfold zblk xs 70 0 _ rfl _ _ _).trans rfl
/-- MindReaders.longOf(LMindReaders$Code;I)I -/
noncomputable abbrev r_X_longOf (xs : List Int) (p : Nat) (v1 : Option Nat) (v2 : Int) (h : zH) : Option zR := zx zblk xs 71 0 [some (.inr (.inr (some p))), some (.inr (.inr v1)), some (.inl v2)] [] h
theorem e_X_longOf_0 (xs : List Int) (p : Nat) (v1 : Option Nat) (v2 : Int) (h : zH) : zx zblk xs 71 0 [some (.inr (.inr (some p))), some (.inr (.inr v1)), some (.inl v2)] [] h = (zgr h (some p) 6 0 fun f1 => (zck h v1 0 (zcr (zx zblk xs 3 0 [some (.inr (.inr v1)), some (.inl v2)] [] h) fun r3 h2 => (zck h2 f1 5 (zci (zx zblk xs 40 0 [some (.inr (.inr f1)), some (.inr (.inr r3))] [] h2) fun r5 h4 => some (some (.inl r5), h4)))))) := (zx_unfold zblk xs 71 0 _ rfl _ _ _).trans rfl
/-- MindReaders.ofPair(II)I -/
noncomputable abbrev r_X_ofPair (xs : List Int) (v1 : Int) (v2 : Int) (h : zH) : Option zR := zx zblk xs 72 0 [some (.inl v1), some (.inl v2)] [] h
theorem e_X_ofPair_0 (xs : List Int) (v0 : Int) (v1 : Int) (h : zH) : zx zblk xs 72 0 [some (.inl v0), some (.inl v1)] [] h = (if zw v0 ≠ zw (-1) then zx zblk xs 72 7 [some (.inl v0), some (.inl v1)] [] h else some (some (.inl (-1)), h)) := (zx_unfold zblk xs 72 0 _ rfl _ _ _).trans rfl
theorem e_X_ofPair_7 (xs : List Int) (v0 : Int) (v1 : Int) (h : zH) : zx zblk xs 72 7 [some (.inl v0), some (.inl v1)] [] h = (if zw v1 ≠ 0 then zx zblk xs 72 18 [some (.inl v0)] [] h else (if zw 8 = 0 then none else zx zblk xs 72 22 [] [.inl ((zw v0).tdiv (zw 8))] h)) := (zx_unfold zblk xs 72 7 _ rfl _ _ _).trans rfl
theorem e_X_ofPair_18 (xs : List Int) (v0 : Int) (h : zH) : zx zblk xs 72 18 [some (.inl v0)] [] h = (if zw 8 = 0 then none else zx zblk xs 72 22 [] [.inl ((zw v0).tmod (zw 8))] h) := (zx_unfold zblk xs 72 18 _ rfl _ _ _).trans rfl
theorem e_X_ofPair_22 (xs : List Int) (s0 : Int) (h : zH) : zx zblk xs 72 22 [] [.inl s0] h = some (some (.inl s0), h) := (zx_unfold zblk xs 72 22 _ rfl _ _ _).trans rfl
/-- MindReaders.dealtTo(LMindReaders$Code;I)I -/
noncomputable abbrev r_X_dealtTo (xs : List Int) (p : Nat) (v1 : Option Nat) (v2 : Int) (h : zH) : Option zR := zx zblk xs 73 0 [some (.inr (.inr (some p))), some (.inr (.inr v1)), some (.inl v2)] [] h
theorem e_X_dealtTo_0 (xs : List Int) (p : Nat) (v1 : Option Nat) (v2 : Int) (h : zH) : zx zblk xs 73 0 [some (.inr (.inr (some p))), some (.inr (.inr v1)), some (.inl v2)] [] h = (zck h (some p) 6 (zci (zx zblk xs 70 0 [some (.inr (.inr (some p))), some (.inr (.inr v1))] [] h) fun r2 h1 => (if zw v2 < 0 then zx zblk xs 73 15 [] [] h1 else (if zw v2 < zw r2 then zx zblk xs 73 17 [some (.inr (.inr (some p))), some (.inr (.inr v1)), some (.inl v2), some (.inl r2)] [] h1 else zx zblk xs 73 15 [] [] h1)))) := (zx_unfold zblk xs 73 0 _ rfl _ _ _).trans rfl
theorem e_X_dealtTo_15 (xs : List Int)  (h : zH) : zx zblk xs 73 15 [] [] h = some (some (.inl (-1)), h) := (zx_unfold zblk xs 73 15 _ rfl _ _ _).trans rfl
theorem e_X_dealtTo_17 (xs : List Int) (p : Nat) (v1 : Option Nat) (v2 : Int) (v3 : Int) (h : zH) : zx zblk xs 73 17 [some (.inr (.inr (some p))), some (.inr (.inr v1)), some (.inl v2), some (.inl v3)] [] h = zx zblk xs 73 23 [some (.inr (.inr (some p))), some (.inr (.inr v1)), some (.inl v2), some (.inl v3), some (.inl 0), some (.inl 0)] [] h := (zx_unfold zblk xs 73 17 _ rfl _ _ _).trans rfl
theorem e_X_dealtTo_23 (xs : List Int) (p : Nat) (v1 : Option Nat) (v2 : Int) (v3 : Int) (v4 : Int) (v5 : Int) (h : zH) : zx zblk xs 73 23 [some (.inr (.inr (some p))), some (.inr (.inr v1)), some (.inl v2), some (.inl v3), some (.inl v4), some (.inl v5)] [] h = (if zw v3 ≤ zw v5 then zx zblk xs 73 66 [some (.inr (.inr (some p))), some (.inr (.inr v1)), none, some (.inl v3), some (.inl v4)] [] h else (zgr h (some p) 6 1 fun f1 => (zck h f1 3 (zci (zx zblk xs 20 0 [some (.inr (.inr f1)), some (.inl v5)] [] h) fun r3 h2 => (zgr h2 (some p) 6 1 fun f4 => (zck h2 f4 3 (zci (zx zblk xs 20 0 [some (.inr (.inr f4)), some (.inl v2)] [] h2) fun r6 h5 => (zci (zx zblk xs 75 0 [some (.inl (-r3)), some (.inl v5), some (.inl (-r6)), some (.inl v2)] [] h5) fun r8 h7 => (if zw r8 = 0 then zx zblk xs 73 60 [some (.inr (.inr (some p))), some (.inr (.inr v1)), some (.inl v2), some (.inl v3), some (.inl v4), some (.inl v5)] [] h7 else zx zblk xs 73 60 [some (.inr (.inr (some p))), some (.inr (.inr v1)), some (.inl v2), some (.inl v3), some (.inl (v4 + 1)), some (.inl v5)] [] h7))))))))) := (zx_unfold zblk xs 73 23 _ rfl _ _ _).trans rfl
theorem e_X_dealtTo_60 (xs : List Int) (p : Nat) (v1 : Option Nat) (v2 : Int) (v3 : Int) (v4 : Int) (v5 : Int) (h : zH) : zx zblk xs 73 60 [some (.inr (.inr (some p))), some (.inr (.inr v1)), some (.inl v2), some (.inl v3), some (.inl v4), some (.inl v5)] [] h = zx zblk xs 73 23 [some (.inr (.inr (some p))), some (.inr (.inr v1)), some (.inl v2), some (.inl v3), some (.inl v4), some (.inl (v5 + 1))] [] h := (zx_unfold zblk xs 73 60 _ rfl _ _ _).trans rfl
theorem e_X_dealtTo_66 (xs : List Int) (p : Nat) (v1 : Option Nat) (v3 : Int) (v4 : Int) (h : zH) : zx zblk xs 73 66 [some (.inr (.inr (some p))), some (.inr (.inr v1)), none, some (.inl v3), some (.inl v4)] [] h = zx zblk xs 73 69 [some (.inr (.inr (some p))), some (.inr (.inr v1)), none, some (.inl v3), some (.inl v4), some (.inl 0)] [] h := (zx_unfold zblk xs 73 66 _ rfl _ _ _).trans rfl
theorem e_X_dealtTo_69 (xs : List Int) (p : Nat) (v1 : Option Nat) (v3 : Int) (v4 : Int) (v5 : Int) (h : zH) : zx zblk xs 73 69 [some (.inr (.inr (some p))), some (.inr (.inr v1)), none, some (.inl v3), some (.inl v4), some (.inl v5)] [] h = (if zw v3 ≤ zw v5 then zx zblk xs 73 97 [] [] h else (zck h (some p) 6 (zci (zx zblk xs 74 0 [some (.inr (.inr (some p))), some (.inr (.inr v1)), some (.inl v5), some (.inl v3)] [] h) fun r2 h1 => (if zw r2 ≠ zw v4 then zx zblk xs 73 91 [some (.inr (.inr (some p))), some (.inr (.inr v1)), none, some (.inl v3), some (.inl v4), some (.inl v5)] [] h1 else some (some (.inl v5), h1))))) := (zx_unfold zblk xs 73 69 _ rfl _ _ _).trans rfl
theorem e_X_dealtTo_91 (xs : List Int) (p : Nat) (v1 : Option Nat) (v3 : Int) (v4 : Int) (v5 : Int) (h : zH) : zx zblk xs 73 91 [some (.inr (.inr (some p))), some (.inr (.inr v1)), none, some (.inl v3), some (.inl v4), some (.inl v5)] [] h = zx zblk xs 73 69 [some (.inr (.inr (some p))), some (.inr (.inr v1)), none, some (.inl v3), some (.inl v4), some (.inl (v5 + 1))] [] h := (zx_unfold zblk xs 73 91 _ rfl _ _ _).trans rfl
theorem e_X_dealtTo_97 (xs : List Int)  (h : zH) : zx zblk xs 73 97 [] [] h = some (some (.inl (-1)), h) := (zx_unfold zblk xs 73 97 _ rfl _ _ _).trans rfl
/-- MindReaders.rankByLong(LMindReaders$Code;II)I -/
noncomputable abbrev r_X_rankByLong (xs : List Int) (p : Nat) (v1 : Option Nat) (v2 : Int) (v3 : Int) (h : zH) : Option zR := zx zblk xs 74 0 [some (.inr (.inr (some p))), some (.inr (.inr v1)), some (.inl v2), some (.inl v3)] [] h
theorem e_X_rankByLong_0 (xs : List Int) (p : Nat) (v1 : Option Nat) (v2 : Int) (v3 : Int) (h : zH) : zx zblk xs 74 0 [some (.inr (.inr (some p))), some (.inr (.inr v1)), some (.inl v2), some (.inl v3)] [] h = zx zblk xs 74 6 [some (.inr (.inr (some p))), some (.inr (.inr v1)), some (.inl v2), some (.inl v3), some (.inl 0), some (.inl 0)] [] h := (zx_unfold zblk xs 74 0 _ rfl _ _ _).trans rfl
theorem e_X_rankByLong_6 (xs : List Int) (p : Nat) (v1 : Option Nat) (v2 : Int) (v3 : Int) (v4 : Int) (v5 : Int) (h : zH) : zx zblk xs 74 6 [some (.inr (.inr (some p))), some (.inr (.inr v1)), some (.inl v2), some (.inl v3), some (.inl v4), some (.inl v5)] [] h = (if zw v3 ≤ zw v5 then zx zblk xs 74 43 [none, none, none, none, some (.inl v4)] [] h else (zck h (some p) 6 (zci (zx zblk xs 71 0 [some (.inr (.inr (some p))), some (.inr (.inr v1)), some (.inl v5)] [] h) fun r2 h1 => (zck h1 (some p) 6 (zci (zx zblk xs 71 0 [some (.inr (.inr (some p))), some (.inr (.inr v1)), some (.inl v2)] [] h1) fun r4 h3 => (zci (zx zblk xs 75 0 [some (.inl r2), some (.inl v5), some (.inl r4), some (.inl v2)] [] h3) fun r6 h5 => (if zw r6 = 0 then zx zblk xs 74 37 [some (.inr (.inr (some p))), some (.inr (.inr v1)), some (.inl v2), some (.inl v3), some (.inl v4), some (.inl v5)] [] h5 else zx zblk xs 74 37 [some (.inr (.inr (some p))), some (.inr (.inr v1)), some (.inl v2), some (.inl v3), some (.inl (v4 + 1)), some (.inl v5)] [] h5))))))) := (zx_unfold zblk xs 74 6 _ rfl _ _ _).trans rfl
theorem e_X_rankByLong_37 (xs : List Int) (p : Nat) (v1 : Option Nat) (v2 : Int) (v3 : Int) (v4 : Int) (v5 : Int) (h : zH) : zx zblk xs 74 37 [some (.inr (.inr (some p))), some (.inr (.inr v1)), some (.inl v2), some (.inl v3), some (.inl v4), some (.inl v5)] [] h = zx zblk xs 74 6 [some (.inr (.inr (some p))), some (.inr (.inr v1)), some (.inl v2), some (.inl v3), some (.inl v4), some (.inl (v5 + 1))] [] h := (zx_unfold zblk xs 74 37 _ rfl _ _ _).trans rfl
theorem e_X_rankByLong_43 (xs : List Int) (v4 : Int) (h : zH) : zx zblk xs 74 43 [none, none, none, none, some (.inl v4)] [] h = some (some (.inl v4), h) := (zx_unfold zblk xs 74 43 _ rfl _ _ _).trans rfl
/-- MindReaders.isAhead(IIII)Z -/
noncomputable abbrev r_X_isAhead (xs : List Int) (v1 : Int) (v2 : Int) (v3 : Int) (v4 : Int) (h : zH) : Option zR := zx zblk xs 75 0 [some (.inl v1), some (.inl v2), some (.inl v3), some (.inl v4)] [] h
theorem e_X_isAhead_0 (xs : List Int) (v0 : Int) (v1 : Int) (v2 : Int) (v3 : Int) (h : zH) : zx zblk xs 75 0 [some (.inl v0), some (.inl v1), some (.inl v2), some (.inl v3)] [] h = (if zw v0 < zw v2 then zx zblk xs 75 15 [] [] h else (if zw v0 ≠ zw v2 then zx zblk xs 75 19 [] [] h else (if zw v3 ≤ zw v1 then zx zblk xs 75 19 [] [] h else zx zblk xs 75 15 [] [] h))) := (zx_unfold zblk xs 75 0 _ rfl _ _ _).trans rfl
theorem e_X_isAhead_15 (xs : List Int)  (h : zH) : zx zblk xs 75 15 [] [] h = zx zblk xs 75 20 [] [.inl 1] h := (zx_unfold zblk xs 75 15 _ rfl _ _ _).trans rfl
theorem e_X_isAhead_19 (xs : List Int)  (h : zH) : zx zblk xs 75 19 [] [] h = zx zblk xs 75 20 [] [.inl 0] h := (zx_unfold zblk xs 75 19 _ rfl _ _ _).trans rfl
theorem e_X_isAhead_20 (xs : List Int) (s0 : Int) (h : zH) : zx zblk xs 75 20 [] [.inl s0] h = (if s0 = 0 ∨ s0 = 1 then some (some (.inl s0), h) else none) := (zx_unfold zblk xs 75 20 _ rfl _ _ _).trans rfl
/-- MindReaders.lowest(JJI)J -/
noncomputable abbrev r_X_lowest (xs : List Int) (v1 : Int) (v2 : Int) (v3 : Int) (h : zH) : Option zR := zx zblk xs 76 0 [some (.inr (.inl v1)), none, some (.inr (.inl v2)), none, some (.inl v3)] [] h
theorem e_X_lowest_0 (xs : List Int) (v0 : Int) (v2 : Int) (v4 : Int) (h : zH) : zx zblk xs 76 0 [some (.inr (.inl v0)), none, some (.inr (.inl v2)), none, some (.inl v4)] [] h = zx zblk xs 76 9 [some (.inr (.inl v0)), none, some (.inr (.inl v2)), none, some (.inl v4), some (.inr (.inl v0)), none, some (.inr (.inl v2)), none, some (.inl 0)] [] h := (zx_unfold zblk xs 76 0 _ rfl _ _ _).trans rfl
theorem e_X_lowest_9 (xs : List Int) (v0 : Int) (v2 : Int) (v4 : Int) (v5 : Int) (v7 : Int) (v9 : Int) (h : zH) : zx zblk xs 76 9 [some (.inr (.inl v0)), none, some (.inr (.inl v2)), none, some (.inl v4), some (.inr (.inl v5)), none, some (.inr (.inl v7)), none, some (.inl v9)] [] h = (if zw 128 ≤ zw v9 then zx zblk xs 76 45 [some (.inr (.inl v0)), none, some (.inr (.inl v2)), none, some (.inl v4), some (.inr (.inl v5))] [] h else (if zw (if zwl v7 < zwl 0 then -1 else if zwl v7 = zwl 0 then 0 else 1) = 0 then zx zblk xs 76 45 [some (.inr (.inl v0)), none, some (.inr (.inl v2)), none, some (.inl v4), some (.inr (.inl v5))] [] h else (if zwl v7 = 0 then none else zx zblk xs 76 9 [some (.inr (.inl v0)), none, some (.inr (.inl v2)), none, some (.inl v4), some (.inr (.inl v7)), none, some (.inr (.inl ((zwl v5).tmod (zwl v7)))), none, some (.inl (v9 + 1))] [] h))) := (zx_unfold zblk xs 76 9 _ rfl _ _ _).trans rfl
theorem e_X_lowest_45 (xs : List Int) (v0 : Int) (v2 : Int) (v4 : Int) (v5 : Int) (h : zH) : zx zblk xs 76 45 [some (.inr (.inl v0)), none, some (.inr (.inl v2)), none, some (.inl v4), some (.inr (.inl v5))] [] h = (if zw (if zwl v5 < zwl 0 then -1 else if zwl v5 = zwl 0 then 0 else 1) ≠ 0 then zx zblk xs 76 54 [some (.inr (.inl v0)), none, some (.inr (.inl v2)), none, some (.inl v4), some (.inr (.inl v5))] [] h else some (some (.inr (.inl 0)), h)) := (zx_unfold zblk xs 76 45 _ rfl _ _ _).trans rfl
theorem e_X_lowest_54 (xs : List Int) (v0 : Int) (v2 : Int) (v4 : Int) (v5 : Int) (h : zH) : zx zblk xs 76 54 [some (.inr (.inl v0)), none, some (.inr (.inl v2)), none, some (.inl v4), some (.inr (.inl v5))] [] h = (if zw v4 ≠ 0 then zx zblk xs 76 66 [none, none, some (.inr (.inl v2)), none, none, some (.inr (.inl v5))] [] h else (if zwl v5 = 0 then none else zx zblk xs 76 70 [] [.inr (.inl ((zwl v0).tdiv (zwl v5)))] h)) := (zx_unfold zblk xs 76 54 _ rfl _ _ _).trans rfl
theorem e_X_lowest_66 (xs : List Int) (v2 : Int) (v5 : Int) (h : zH) : zx zblk xs 76 66 [none, none, some (.inr (.inl v2)), none, none, some (.inr (.inl v5))] [] h = (if zwl v5 = 0 then none else zx zblk xs 76 70 [] [.inr (.inl ((zwl v2).tdiv (zwl v5)))] h) := (zx_unfold zblk xs 76 66 _ rfl _ _ _).trans rfl
theorem e_X_lowest_70 (xs : List Int) (s0 : Int) (h : zH) : zx zblk xs 76 70 [] [.inr (.inl s0)] h = some (some (.inr (.inl s0)), h) := (zx_unfold zblk xs 76 70 _ rfl _ _ _).trans rfl
/-- MindReaders.unlike(LMindReaders$Code;II)I -/
noncomputable abbrev r_X_unlike (xs : List Int) (p : Nat) (v1 : Option Nat) (v2 : Int) (v3 : Int) (h : zH) : Option zR := zx zblk xs 77 0 [some (.inr (.inr (some p))), some (.inr (.inr v1)), some (.inl v2), some (.inl v3)] [] h
theorem e_X_unlike_0 (xs : List Int) (p : Nat) (v1 : Option Nat) (v2 : Int) (v3 : Int) (h : zH) : zx zblk xs 77 0 [some (.inr (.inr (some p))), some (.inr (.inr v1)), some (.inl v2), some (.inl v3)] [] h = zx zblk xs 77 6 [some (.inr (.inr (some p))), some (.inr (.inr v1)), some (.inl v2), some (.inl v3), some (.inl 0), some (.inl 0)] [] h := (zx_unfold zblk xs 77 0 _ rfl _ _ _).trans rfl
theorem e_X_unlike_6 (xs : List Int) (p : Nat) (v1 : Option Nat) (v2 : Int) (v3 : Int) (v4 : Int) (v5 : Int) (h : zH) : zx zblk xs 77 6 [some (.inr (.inr (some p))), some (.inr (.inr v1)), some (.inl v2), some (.inl v3), some (.inl v4), some (.inl v5)] [] h = (zck h v1 0 (zci (zx zblk xs 2 0 [some (.inr (.inr v1))] [] h) fun r2 h1 => (if zw r2 ≤ zw v5 then zx zblk xs 77 113 [none, none, none, none, some (.inl v4)] [] h1 else (if zw v3 ≤ zw v4 then zx zblk xs 77 113 [none, none, none, none, some (.inl v4)] [] h1 else (zgr h1 (some p) 6 0 fun f3 => (zck h1 v1 0 (zcr (zx zblk xs 3 0 [some (.inr (.inr v1)), some (.inl v5)] [] h1) fun r5 h4 => (zgr h4 (some p) 6 12 fun f6 => (zck h4 f6 4 (zcr (zx zblk xs 30 0 [some (.inr (.inr f6)), some (.inl v5)] [] h4) fun r8 h7 => (zck h7 f3 5 (zcv (zx zblk xs 42 0 [some (.inr (.inr f3)), some (.inr (.inr r5)), some (.inl v2), some (.inr (.inr r8))] [] h7) fun h9 => zx zblk xs 77 50 [some (.inr (.inr (some p))), some (.inr (.inr v1)), some (.inl v2), some (.inl v3), some (.inl v4), some (.inl v5), some (.inl 1), some (.inl 0)] [] h9)))))))))))) := (zx_unfold zblk xs 77 6 _ rfl _ _ _).trans rfl
theorem e_X_unlike_50 (xs : List Int) (p : Nat) (v1 : Option Nat) (v2 : Int) (v3 : Int) (v4 : Int) (v5 : Int) (v6 : Int) (v7 : Int) (h : zH) : zx zblk xs 77 50 [some (.inr (.inr (some p))), some (.inr (.inr v1)), some (.inl v2), some (.inl v3), some (.inl v4), some (.inl v5), some (.inl v6), some (.inl v7)] [] h = (if zw v5 ≤ zw v7 then zx zblk xs 77 99 [some (.inr (.inr (some p))), some (.inr (.inr v1)), some (.inl v2), some (.inl v3), some (.inl v4), some (.inl v5), some (.inl v6)] [] h else (if zw v6 = 0 then zx zblk xs 77 99 [some (.inr (.inr (some p))), some (.inr (.inr v1)), some (.inl v2), some (.inl v3), some (.inl v4), some (.inl v5), some (.inl v6)] [] h else (zgr h (some p) 6 12 fun f1 => (zck h f1 4 (zcr (zx zblk xs 30 0 [some (.inr (.inr f1)), some (.inl v7)] [] h) fun r3 h2 => (zgr h2 (some p) 6 12 fun f4 => (zck h2 f4 4 (zcr (zx zblk xs 30 0 [some (.inr (.inr f4)), some (.inl v5)] [] h2) fun r6 h5 => (zck h5 r3 3 (zci (zx zblk xs 25 0 [some (.inr (.inr r3)), some (.inr (.inr r6))] [] h5) fun r8 h7 => (if zw r8 ≠ 0 then zx zblk xs 77 90 [some (.inr (.inr (some p))), some (.inr (.inr v1)), some (.inl v2), some (.inl v3), some (.inl v4), some (.inl v5), none, some (.inl v7)] [] h7 else zx zblk xs 77 91 [some (.inr (.inr (some p))), some (.inr (.inr v1)), some (.inl v2), some (.inl v3), some (.inl v4), some (.inl v5), none, some (.inl v7)] [.inl 1] h7))))))))))) := (zx_unfold zblk xs 77 50 _ rfl _ _ _).trans rfl
theorem e_X_unlike_90 (xs : List Int) (p : Nat) (v1 : Option Nat) (v2 : Int) (v3 : Int) (v4 : Int) (v5 : Int) (v7 : Int) (h : zH) : zx zblk xs 77 90 [some (.inr (.inr (some p))), some (.inr (.inr v1)), some (.inl v2), some (.inl v3), some (.inl v4), some (.inl v5), none, some (.inl v7)] [] h = zx zblk xs 77 91 [some (.inr (.inr (some p))), some (.inr (.inr v1)), some (.inl v2), some (.inl v3), some (.inl v4), some (.inl v5), none, some (.inl v7)] [.inl 0] h := (zx_unfold zblk xs 77 90 _ rfl _ _ _).trans rfl
theorem e_X_unlike_91 (xs : List Int) (p : Nat) (v1 : Option Nat) (v2 : Int) (v3 : Int) (v4 : Int) (v5 : Int) (v7 : Int) (s0 : Int) (h : zH) : zx zblk xs 77 91 [some (.inr (.inr (some p))), some (.inr (.inr v1)), some (.inl v2), some (.inl v3), some (.inl v4), some (.inl v5), none, some (.inl v7)] [.inl s0] h = zx zblk xs 77 50 [some (.inr (.inr (some p))), some (.inr (.inr v1)), some (.inl v2), some (.inl v3), some (.inl v4), some (.inl v5), some (.inl s0), some (.inl (v7 + 1))] [] h := (zx_unfold zblk xs 77 91 _ rfl _ _ _).trans rfl
theorem e_X_unlike_99 (xs : List Int) (p : Nat) (v1 : Option Nat) (v2 : Int) (v3 : Int) (v4 : Int) (v5 : Int) (v6 : Int) (h : zH) : zx zblk xs 77 99 [some (.inr (.inr (some p))), some (.inr (.inr v1)), some (.inl v2), some (.inl v3), some (.inl v4), some (.inl v5), some (.inl v6)] [] h = (if zw v6 = 0 then zx zblk xs 77 107 [some (.inr (.inr (some p))), some (.inr (.inr v1)), some (.inl v2), some (.inl v3), some (.inl v4), some (.inl v5)] [] h else zx zblk xs 77 107 [some (.inr (.inr (some p))), some (.inr (.inr v1)), some (.inl v2), some (.inl v3), some (.inl (v4 + 1)), some (.inl v5)] [] h) := (zx_unfold zblk xs 77 99 _ rfl _ _ _).trans rfl
theorem e_X_unlike_107 (xs : List Int) (p : Nat) (v1 : Option Nat) (v2 : Int) (v3 : Int) (v4 : Int) (v5 : Int) (h : zH) : zx zblk xs 77 107 [some (.inr (.inr (some p))), some (.inr (.inr v1)), some (.inl v2), some (.inl v3), some (.inl v4), some (.inl v5)] [] h = zx zblk xs 77 6 [some (.inr (.inr (some p))), some (.inr (.inr v1)), some (.inl v2), some (.inl v3), some (.inl v4), some (.inl (v5 + 1))] [] h := (zx_unfold zblk xs 77 107 _ rfl _ _ _).trans rfl
theorem e_X_unlike_113 (xs : List Int) (v4 : Int) (h : zH) : zx zblk xs 77 113 [none, none, none, none, some (.inl v4)] [] h = some (some (.inl v4), h) := (zx_unfold zblk xs 77 113 _ rfl _ _ _).trans rfl
end
section
/-! ===== what each block of code does (printed by a program of mine; each by rfl) ===== -/
def zna (h : zH) (n : Int) (f : Option Nat → zH → Option zR) : Option zR := if 0 ≤ zw n ∧ zw n ≤ 1000000 then f (some (h.length + 1)) (h ++ [(100, List.replicate (zw n).toNat (.inl 0))]) else none
/-- MindReadersLaw.law([I)Z -/
theorem e_L_law_36 (xs : List Int) (v0 : Option Nat) (v1 : Option Nat) (v2 : Option Nat) (v3 : Option Nat) (v4 : Option Nat) (h : zH) : zx zblk xs 0 36 [some (.inr (.inr v0)), some (.inr (.inr v1)), some (.inr (.inr v2)), some (.inr (.inr v3)), some (.inr (.inr v4))] [] h = (zci (zx zblk xs 81 0 [some (.inr (.inr v0)), some (.inl 9), some (.inr (.inr v3)), some (.inr (.inr v4))] [] h) fun r2 h1 => (zci (zx zblk xs 82 0 [some (.inr (.inr v1)), some (.inr (.inr v4)), some (.inl r2)] [] h1) fun r4 h3 => (if zw r4 = 0 then zx zblk xs 0 65 [] [] h3 else (zck h3 v1 6 (zci (zx zblk xs 46 0 [some (.inr (.inr v1))] [] h3) fun r6 h5 => (if zw r6 = 0 then zx zblk xs 0 67 [some (.inr (.inr v0)), some (.inr (.inr v1)), some (.inr (.inr v2)), some (.inr (.inr v3))] [] h5 else zx zblk xs 0 65 [] [] h5)))))) := (zx_unfold zblk xs 0 36 _ rfl _ _ _).trans rfl
theorem e_L_law_65 (xs : List Int)  (h : zH) : zx zblk xs 0 65 [] [] h = (if 0 = 0 ∨ 0 = 1 then some (some (.inl 0), h) else none) := (zx_unfold zblk xs 0 65 _ rfl _ _ _).trans rfl
theorem e_L_law_67 (xs : List Int) (v0 : Option Nat) (v1 : Option Nat) (v2 : Option Nat) (v3 : Option Nat) (h : zH) : zx zblk xs 0 67 [some (.inr (.inr v0)), some (.inr (.inr v1)), some (.inr (.inr v2)), some (.inr (.inr v3))] [] h = (zci (zx zblk xs 78 0 [some (.inr (.inr v0)), some (.inl 18)] [] h) fun r2 h1 => (zci (zx zblk xs 79 0 [some (.inl r2), some (.inl 6)] [] h1) fun r4 h3 => (zna h3 8 fun p5 h6 => zx zblk xs 0 89 [some (.inr (.inr v0)), some (.inr (.inr v1)), some (.inr (.inr v2)), some (.inr (.inr v3)), none, none, some (.inl r4), some (.inr (.inr p5)), some (.inl 0)] [] h6))) := (zx_unfold zblk xs 0 67 _ rfl _ _ _).trans rfl
theorem e_L_law_89 (xs : List Int) (v0 : Option Nat) (v1 : Option Nat) (v2 : Option Nat) (v3 : Option Nat) (v6 : Int) (v7 : Option Nat) (v8 : Int) (h : zH) : zx zblk xs 0 89 [some (.inr (.inr v0)), some (.inr (.inr v1)), some (.inr (.inr v2)), some (.inr (.inr v3)), none, none, some (.inl v6), some (.inr (.inr v7)), some (.inl v8)] [] h = (if zw v6 ≤ zw v8 then zx zblk xs 0 139 [some (.inr (.inr v0)), some (.inr (.inr v1)), some (.inr (.inr v2)), some (.inr (.inr v3)), none, none, some (.inl v6), some (.inr (.inr v7))] [] h else (zci (zx zblk xs 78 0 [some (.inr (.inr v0)), some (.inl (19 + v8))] [] h) fun r2 h1 => (zci (zx zblk xs 79 0 [some (.inl r2), some (.inl 99)] [] h1) fun r4 h3 => (zst h3 v7 100 v8 (.inl (1 + r4)) fun h5 => (zai xs h5 v7 v8 fun a6 => (zck h5 v1 6 (zci (zx zblk xs 48 0 [some (.inr (.inr v1)), some (.inl a6)] [] h5) fun r8 h7 => (if zw r8 = zw v8 then zx zblk xs 0 133 [some (.inr (.inr v0)), some (.inr (.inr v1)), some (.inr (.inr v2)), some (.inr (.inr v3)), none, none, some (.inl v6), some (.inr (.inr v7)), some (.inl v8)] [] h7 else (if 0 = 0 ∨ 0 = 1 then some (some (.inl 0), h7) else none))))))))) := (zx_unfold zblk xs 0 89 _ rfl _ _ _).trans rfl
theorem e_L_law_133 (xs : List Int) (v0 : Option Nat) (v1 : Option Nat) (v2 : Option Nat) (v3 : Option Nat) (v6 : Int) (v7 : Option Nat) (v8 : Int) (h : zH) : zx zblk xs 0 133 [some (.inr (.inr v0)), some (.inr (.inr v1)), some (.inr (.inr v2)), some (.inr (.inr v3)), none, none, some (.inl v6), some (.inr (.inr v7)), some (.inl v8)] [] h = zx zblk xs 0 89 [some (.inr (.inr v0)), some (.inr (.inr v1)), some (.inr (.inr v2)), some (.inr (.inr v3)), none, none, some (.inl v6), some (.inr (.inr v7)), some (.inl (v8 + 1))] [] h := (zx_unfold zblk xs 0 133 _ rfl _ _ _).trans rfl
theorem e_L_law_139 (xs : List Int) (v0 : Option Nat) (v1 : Option Nat) (v2 : Option Nat) (v3 : Option Nat) (v6 : Int) (v7 : Option Nat) (h : zH) : zx zblk xs 0 139 [some (.inr (.inr v0)), some (.inr (.inr v1)), some (.inr (.inr v2)), some (.inr (.inr v3)), none, none, some (.inl v6), some (.inr (.inr v7))] [] h = (zna h 12 fun p1 h2 => (zna h2 12 fun p3 h4 => zx zblk xs 0 170 [some (.inr (.inr v0)), some (.inr (.inr v1)), some (.inr (.inr v2)), some (.inr (.inr v3)), none, none, some (.inl v6), some (.inr (.inr v7)), some (.inr (.inr p1)), some (.inr (.inr p3)), some (.inl 99), some (.inl (-1)), some (.inl (-1)), some (.inl (-1)), some (.inl (-1)), some (.inl 0)] [] h4)) := (zx_unfold zblk xs 0 139 _ rfl _ _ _).trans rfl
theorem e_L_law_170 (xs : List Int) (v0 : Option Nat) (v1 : Option Nat) (v2 : Option Nat) (v3 : Option Nat) (v6 : Int) (v7 : Option Nat) (v8 : Option Nat) (v9 : Option Nat) (v10 : Int) (v11 : Int) (v12 : Int) (v13 : Int) (v14 : Int) (v15 : Int) (h : zH) : zx zblk xs 0 170 [some (.inr (.inr v0)), some (.inr (.inr v1)), some (.inr (.inr v2)), some (.inr (.inr v3)), none, none, some (.inl v6), some (.inr (.inr v7)), some (.inr (.inr v8)), some (.inr (.inr v9)), some (.inl v10), some (.inl v11), some (.inl v12), some (.inl v13), some (.inl v14), some (.inl v15)] [] h = (zai xs h v3 0 fun a1 => (if zw a1 ≤ zw v15 then zx zblk xs 0 560 [some (.inr (.inr v0)), some (.inr (.inr v1)), some (.inr (.inr v2)), some (.inr (.inr v3)), none, none, some (.inl v6), some (.inr (.inr v7)), none, none, some (.inl v10), some (.inl v11), some (.inl v12), some (.inl v13), some (.inl v14)] [] h else (zcv (zx zblk xs 84 0 [some (.inr (.inr v2)), some (.inr (.inr v3)), some (.inl v15), some (.inl 0), some (.inr (.inr v8))] [] h) fun h2 => (zck h2 v1 6 (zci (zx zblk xs 49 0 [some (.inr (.inr v1)), some (.inl 0), some (.inl v15), some (.inl 0)] [] h2) fun r4 h3 => (zai xs h3 v3 (1 + (6 * v15)) fun a5 => (if zw r4 ≠ zw a5 then zx zblk xs 0 243 [] [] h3 else (zck h3 v1 6 (zci (zx zblk xs 49 0 [some (.inr (.inr v1)), some (.inl 0), some (.inl v15), some (.inl 10)] [] h3) fun r7 h6 => (zai xs h6 v8 0 fun a8 => (if zw r7 ≠ zw a8 then zx zblk xs 0 243 [] [] h6 else (zck h6 v1 6 (zci (zx zblk xs 49 0 [some (.inr (.inr v1)), some (.inl 0), some (.inl v15), some (.inl 30)] [] h6) fun r10 h9 => (zci (zx zblk xs 88 0 [some (.inr (.inr v2)), some (.inr (.inr v3)), some (.inl v15)] [] h9) fun r12 h11 => (if zw r10 = zw r12 then zx zblk xs 0 245 [some (.inr (.inr v0)), some (.inr (.inr v1)), some (.inr (.inr v2)), some (.inr (.inr v3)), none, none, some (.inl v6), some (.inr (.inr v7)), some (.inr (.inr v8)), some (.inr (.inr v9)), some (.inl v10), some (.inl v11), some (.inl v12), some (.inl v13), some (.inl v14), some (.inl v15)] [] h11 else zx zblk xs 0 243 [] [] h11))))))))))))))) := (zx_unfold zblk xs 0 170 _ rfl _ _ _).trans rfl
theorem e_L_law_243 (xs : List Int)  (h : zH) : zx zblk xs 0 243 [] [] h = (if 0 = 0 ∨ 0 = 1 then some (some (.inl 0), h) else none) := (zx_unfold zblk xs 0 243 _ rfl _ _ _).trans rfl
theorem e_L_law_245 (xs : List Int) (v0 : Option Nat) (v1 : Option Nat) (v2 : Option Nat) (v3 : Option Nat) (v6 : Int) (v7 : Option Nat) (v8 : Option Nat) (v9 : Option Nat) (v10 : Int) (v11 : Int) (v12 : Int) (v13 : Int) (v14 : Int) (v15 : Int) (h : zH) : zx zblk xs 0 245 [some (.inr (.inr v0)), some (.inr (.inr v1)), some (.inr (.inr v2)), some (.inr (.inr v3)), none, none, some (.inl v6), some (.inr (.inr v7)), some (.inr (.inr v8)), some (.inr (.inr v9)), some (.inl v10), some (.inl v11), some (.inl v12), some (.inl v13), some (.inl v14), some (.inl v15)] [] h = zx zblk xs 0 248 [some (.inr (.inr v0)), some (.inr (.inr v1)), some (.inr (.inr v2)), some (.inr (.inr v3)), none, none, some (.inl v6), some (.inr (.inr v7)), some (.inr (.inr v8)), some (.inr (.inr v9)), some (.inl v10), some (.inl v11), some (.inl v12), some (.inl v13), some (.inl v14), some (.inl v15), some (.inl 1)] [] h := (zx_unfold zblk xs 0 245 _ rfl _ _ _).trans rfl
theorem e_L_law_248 (xs : List Int) (v0 : Option Nat) (v1 : Option Nat) (v2 : Option Nat) (v3 : Option Nat) (v6 : Int) (v7 : Option Nat) (v8 : Option Nat) (v9 : Option Nat) (v10 : Int) (v11 : Int) (v12 : Int) (v13 : Int) (v14 : Int) (v15 : Int) (v16 : Int) (h : zH) : zx zblk xs 0 248 [some (.inr (.inr v0)), some (.inr (.inr v1)), some (.inr (.inr v2)), some (.inr (.inr v3)), none, none, some (.inl v6), some (.inr (.inr v7)), some (.inr (.inr v8)), some (.inr (.inr v9)), some (.inl v10), some (.inl v11), some (.inl v12), some (.inl v13), some (.inl v14), some (.inl v15), some (.inl v16)] [] h = (if zw 6 ≤ zw v16 then zx zblk xs 0 305 [some (.inr (.inr v0)), some (.inr (.inr v1)), some (.inr (.inr v2)), some (.inr (.inr v3)), none, none, some (.inl v6), some (.inr (.inr v7)), some (.inr (.inr v8)), some (.inr (.inr v9)), some (.inl v10), some (.inl v11), some (.inl v12), some (.inl v13), some (.inl v14), some (.inl v15)] [] h else (zck h v1 6 (zci (zx zblk xs 49 0 [some (.inr (.inr v1)), some (.inl 0), some (.inl v15), some (.inl v16)] [] h) fun r2 h1 => (zai xs h1 v3 (1 + (6 * v15)) fun a3 => (if zw a3 < zw v16 then zx zblk xs 0 293 [some (.inr (.inr v0)), some (.inr (.inr v1)), some (.inr (.inr v2)), some (.inr (.inr v3)), none, none, some (.inl v6), some (.inr (.inr v7)), some (.inr (.inr v8)), some (.inr (.inr v9)), some (.inl v10), some (.inl v11), some (.inl v12), some (.inl v13), some (.inl v14), some (.inl v15), some (.inl v16)] [.inl r2] h1 else (zai xs h1 v3 ((1 + (6 * v15)) + v16) fun a4 => zx zblk xs 0 294 [some (.inr (.inr v0)), some (.inr (.inr v1)), some (.inr (.inr v2)), some (.inr (.inr v3)), none, none, some (.inl v6), some (.inr (.inr v7)), some (.inr (.inr v8)), some (.inr (.inr v9)), some (.inl v10), some (.inl v11), some (.inl v12), some (.inl v13), some (.inl v14), some (.inl v15), some (.inl v16)] [.inl a4, .inl r2] h1)))))) := (zx_unfold zblk xs 0 248 _ rfl _ _ _).trans rfl
theorem e_L_law_293 (xs : List Int) (v0 : Option Nat) (v1 : Option Nat) (v2 : Option Nat) (v3 : Option Nat) (v6 : Int) (v7 : Option Nat) (v8 : Option Nat) (v9 : Option Nat) (v10 : Int) (v11 : Int) (v12 : Int) (v13 : Int) (v14 : Int) (v15 : Int) (v16 : Int) (s0 : Int) (h : zH) : zx zblk xs 0 293 [some (.inr (.inr v0)), some (.inr (.inr v1)), some (.inr (.inr v2)), some (.inr (.inr v3)), none, none, some (.inl v6), some (.inr (.inr v7)), some (.inr (.inr v8)), some (.inr (.inr v9)), some (.inl v10), some (.inl v11), some (.inl v12), some (.inl v13), some (.inl v14), some (.inl v15), some (.inl v16)] [.inl s0] h = zx zblk xs 0 294 [some (.inr (.inr v0)), some (.inr (.inr v1)), some (.inr (.inr v2)), some (.inr (.inr v3)), none, none, some (.inl v6), some (.inr (.inr v7)), some (.inr (.inr v8)), some (.inr (.inr v9)), some (.inl v10), some (.inl v11), some (.inl v12), some (.inl v13), some (.inl v14), some (.inl v15), some (.inl v16)] [.inl (-1), .inl s0] h := (zx_unfold zblk xs 0 293 _ rfl _ _ _).trans rfl
theorem e_L_law_294 (xs : List Int) (v0 : Option Nat) (v1 : Option Nat) (v2 : Option Nat) (v3 : Option Nat) (v6 : Int) (v7 : Option Nat) (v8 : Option Nat) (v9 : Option Nat) (v10 : Int) (v11 : Int) (v12 : Int) (v13 : Int) (v14 : Int) (v15 : Int) (v16 : Int) (s0 : Int) (s1 : Int) (h : zH) : zx zblk xs 0 294 [some (.inr (.inr v0)), some (.inr (.inr v1)), some (.inr (.inr v2)), some (.inr (.inr v3)), none, none, some (.inl v6), some (.inr (.inr v7)), some (.inr (.inr v8)), some (.inr (.inr v9)), some (.inl v10), some (.inl v11), some (.inl v12), some (.inl v13), some (.inl v14), some (.inl v15), some (.inl v16)] [.inl s1, .inl s0] h = (if zw s0 = zw s1 then zx zblk xs 0 299 [some (.inr (.inr v0)), some (.inr (.inr v1)), some (.inr (.inr v2)), some (.inr (.inr v3)), none, none, some (.inl v6), some (.inr (.inr v7)), some (.inr (.inr v8)), some (.inr (.inr v9)), some (.inl v10), some (.inl v11), some (.inl v12), some (.inl v13), some (.inl v14), some (.inl v15), some (.inl v16)] [] h else (if 0 = 0 ∨ 0 = 1 then some (some (.inl 0), h) else none)) := (zx_unfold zblk xs 0 294 _ rfl _ _ _).trans rfl
theorem e_L_law_299 (xs : List Int) (v0 : Option Nat) (v1 : Option Nat) (v2 : Option Nat) (v3 : Option Nat) (v6 : Int) (v7 : Option Nat) (v8 : Option Nat) (v9 : Option Nat) (v10 : Int) (v11 : Int) (v12 : Int) (v13 : Int) (v14 : Int) (v15 : Int) (v16 : Int) (h : zH) : zx zblk xs 0 299 [some (.inr (.inr v0)), some (.inr (.inr v1)), some (.inr (.inr v2)), some (.inr (.inr v3)), none, none, some (.inl v6), some (.inr (.inr v7)), some (.inr (.inr v8)), some (.inr (.inr v9)), some (.inl v10), some (.inl v11), some (.inl v12), some (.inl v13), some (.inl v14), some (.inl v15), some (.inl v16)] [] h = zx zblk xs 0 248 [some (.inr (.inr v0)), some (.inr (.inr v1)), some (.inr (.inr v2)), some (.inr (.inr v3)), none, none, some (.inl v6), some (.inr (.inr v7)), some (.inr (.inr v8)), some (.inr (.inr v9)), some (.inl v10), some (.inl v11), some (.inl v12), some (.inl v13), some (.inl v14), some (.inl v15), some (.inl (v16 + 1))] [] h := (zx_unfold zblk xs 0 299 _ rfl _ _ _).trans rfl
theorem e_L_law_305 (xs : List Int) (v0 : Option Nat) (v1 : Option Nat) (v2 : Option Nat) (v3 : Option Nat) (v6 : Int) (v7 : Option Nat) (v8 : Option Nat) (v9 : Option Nat) (v10 : Int) (v11 : Int) (v12 : Int) (v13 : Int) (v14 : Int) (v15 : Int) (h : zH) : zx zblk xs 0 305 [some (.inr (.inr v0)), some (.inr (.inr v1)), some (.inr (.inr v2)), some (.inr (.inr v3)), none, none, some (.inl v6), some (.inr (.inr v7)), some (.inr (.inr v8)), some (.inr (.inr v9)), some (.inl v10), some (.inl v11), some (.inl v12), some (.inl v13), some (.inl v14), some (.inl v15)] [] h = zx zblk xs 0 308 [some (.inr (.inr v0)), some (.inr (.inr v1)), some (.inr (.inr v2)), some (.inr (.inr v3)), none, none, some (.inl v6), some (.inr (.inr v7)), some (.inr (.inr v8)), some (.inr (.inr v9)), some (.inl v10), some (.inl v11), some (.inl v12), some (.inl v13), some (.inl v14), some (.inl v15), some (.inl 1)] [] h := (zx_unfold zblk xs 0 305 _ rfl _ _ _).trans rfl
theorem e_L_law_308 (xs : List Int) (v0 : Option Nat) (v1 : Option Nat) (v2 : Option Nat) (v3 : Option Nat) (v6 : Int) (v7 : Option Nat) (v8 : Option Nat) (v9 : Option Nat) (v10 : Int) (v11 : Int) (v12 : Int) (v13 : Int) (v14 : Int) (v15 : Int) (v16 : Int) (h : zH) : zx zblk xs 0 308 [some (.inr (.inr v0)), some (.inr (.inr v1)), some (.inr (.inr v2)), some (.inr (.inr v3)), none, none, some (.inl v6), some (.inr (.inr v7)), some (.inr (.inr v8)), some (.inr (.inr v9)), some (.inl v10), some (.inl v11), some (.inl v12), some (.inl v13), some (.inl v14), some (.inl v15), some (.inl v16)] [] h = (if zw 11 ≤ zw v16 then zx zblk xs 0 356 [some (.inr (.inr v0)), some (.inr (.inr v1)), some (.inr (.inr v2)), some (.inr (.inr v3)), none, none, some (.inl v6), some (.inr (.inr v7)), some (.inr (.inr v8)), some (.inr (.inr v9)), some (.inl v10), some (.inl v11), some (.inl v12), some (.inl v13), some (.inl v14), some (.inl v15)] [] h else (zck h v1 6 (zci (zx zblk xs 49 0 [some (.inr (.inr v1)), some (.inl 0), some (.inl v15), some (.inl (10 + v16))] [] h) fun r2 h1 => (zai xs h1 v8 0 fun a3 => (if zw a3 < zw v16 then zx zblk xs 0 344 [some (.inr (.inr v0)), some (.inr (.inr v1)), some (.inr (.inr v2)), some (.inr (.inr v3)), none, none, some (.inl v6), some (.inr (.inr v7)), some (.inr (.inr v8)), some (.inr (.inr v9)), some (.inl v10), some (.inl v11), some (.inl v12), some (.inl v13), some (.inl v14), some (.inl v15), some (.inl v16)] [.inl r2] h1 else (zai xs h1 v8 v16 fun a4 => zx zblk xs 0 345 [some (.inr (.inr v0)), some (.inr (.inr v1)), some (.inr (.inr v2)), some (.inr (.inr v3)), none, none, some (.inl v6), some (.inr (.inr v7)), some (.inr (.inr v8)), some (.inr (.inr v9)), some (.inl v10), some (.inl v11), some (.inl v12), some (.inl v13), some (.inl v14), some (.inl v15), some (.inl v16)] [.inl a4, .inl r2] h1)))))) := (zx_unfold zblk xs 0 308 _ rfl _ _ _).trans rfl
theorem e_L_law_344 (xs : List Int) (v0 : Option Nat) (v1 : Option Nat) (v2 : Option Nat) (v3 : Option Nat) (v6 : Int) (v7 : Option Nat) (v8 : Option Nat) (v9 : Option Nat) (v10 : Int) (v11 : Int) (v12 : Int) (v13 : Int) (v14 : Int) (v15 : Int) (v16 : Int) (s0 : Int) (h : zH) : zx zblk xs 0 344 [some (.inr (.inr v0)), some (.inr (.inr v1)), some (.inr (.inr v2)), some (.inr (.inr v3)), none, none, some (.inl v6), some (.inr (.inr v7)), some (.inr (.inr v8)), some (.inr (.inr v9)), some (.inl v10), some (.inl v11), some (.inl v12), some (.inl v13), some (.inl v14), some (.inl v15), some (.inl v16)] [.inl s0] h = zx zblk xs 0 345 [some (.inr (.inr v0)), some (.inr (.inr v1)), some (.inr (.inr v2)), some (.inr (.inr v3)), none, none, some (.inl v6), some (.inr (.inr v7)), some (.inr (.inr v8)), some (.inr (.inr v9)), some (.inl v10), some (.inl v11), some (.inl v12), some (.inl v13), some (.inl v14), some (.inl v15), some (.inl v16)] [.inl (-1), .inl s0] h := (zx_unfold zblk xs 0 344 _ rfl _ _ _).trans rfl
theorem e_L_law_345 (xs : List Int) (v0 : Option Nat) (v1 : Option Nat) (v2 : Option Nat) (v3 : Option Nat) (v6 : Int) (v7 : Option Nat) (v8 : Option Nat) (v9 : Option Nat) (v10 : Int) (v11 : Int) (v12 : Int) (v13 : Int) (v14 : Int) (v15 : Int) (v16 : Int) (s0 : Int) (s1 : Int) (h : zH) : zx zblk xs 0 345 [some (.inr (.inr v0)), some (.inr (.inr v1)), some (.inr (.inr v2)), some (.inr (.inr v3)), none, none, some (.inl v6), some (.inr (.inr v7)), some (.inr (.inr v8)), some (.inr (.inr v9)), some (.inl v10), some (.inl v11), some (.inl v12), some (.inl v13), some (.inl v14), some (.inl v15), some (.inl v16)] [.inl s1, .inl s0] h = (if zw s0 = zw s1 then zx zblk xs 0 350 [some (.inr (.inr v0)), some (.inr (.inr v1)), some (.inr (.inr v2)), some (.inr (.inr v3)), none, none, some (.inl v6), some (.inr (.inr v7)), some (.inr (.inr v8)), some (.inr (.inr v9)), some (.inl v10), some (.inl v11), some (.inl v12), some (.inl v13), some (.inl v14), some (.inl v15), some (.inl v16)] [] h else (if 0 = 0 ∨ 0 = 1 then some (some (.inl 0), h) else none)) := (zx_unfold zblk xs 0 345 _ rfl _ _ _).trans rfl
theorem e_L_law_350 (xs : List Int) (v0 : Option Nat) (v1 : Option Nat) (v2 : Option Nat) (v3 : Option Nat) (v6 : Int) (v7 : Option Nat) (v8 : Option Nat) (v9 : Option Nat) (v10 : Int) (v11 : Int) (v12 : Int) (v13 : Int) (v14 : Int) (v15 : Int) (v16 : Int) (h : zH) : zx zblk xs 0 350 [some (.inr (.inr v0)), some (.inr (.inr v1)), some (.inr (.inr v2)), some (.inr (.inr v3)), none, none, some (.inl v6), some (.inr (.inr v7)), some (.inr (.inr v8)), some (.inr (.inr v9)), some (.inl v10), some (.inl v11), some (.inl v12), some (.inl v13), some (.inl v14), some (.inl v15), some (.inl v16)] [] h = zx zblk xs 0 308 [some (.inr (.inr v0)), some (.inr (.inr v1)), some (.inr (.inr v2)), some (.inr (.inr v3)), none, none, some (.inl v6), some (.inr (.inr v7)), some (.inr (.inr v8)), some (.inr (.inr v9)), some (.inl v10), some (.inl v11), some (.inl v12), some (.inl v13), some (.inl v14), some (.inl v15), some (.inl (v16 + 1))] [] h := (zx_unfold zblk xs 0 350 _ rfl _ _ _).trans rfl
theorem e_L_law_356 (xs : List Int) (v0 : Option Nat) (v1 : Option Nat) (v2 : Option Nat) (v3 : Option Nat) (v6 : Int) (v7 : Option Nat) (v8 : Option Nat) (v9 : Option Nat) (v10 : Int) (v11 : Int) (v12 : Int) (v13 : Int) (v14 : Int) (v15 : Int) (h : zH) : zx zblk xs 0 356 [some (.inr (.inr v0)), some (.inr (.inr v1)), some (.inr (.inr v2)), some (.inr (.inr v3)), none, none, some (.inl v6), some (.inr (.inr v7)), some (.inr (.inr v8)), some (.inr (.inr v9)), some (.inl v10), some (.inl v11), some (.inl v12), some (.inl v13), some (.inl v14), some (.inl v15)] [] h = zx zblk xs 0 359 [some (.inr (.inr v0)), some (.inr (.inr v1)), some (.inr (.inr v2)), some (.inr (.inr v3)), none, none, some (.inl v6), some (.inr (.inr v7)), some (.inr (.inr v8)), some (.inr (.inr v9)), some (.inl v10), some (.inl v11), some (.inl v12), some (.inl v13), some (.inl v14), some (.inl v15), some (.inl 0)] [] h := (zx_unfold zblk xs 0 356 _ rfl _ _ _).trans rfl
theorem e_L_law_359 (xs : List Int) (v0 : Option Nat) (v1 : Option Nat) (v2 : Option Nat) (v3 : Option Nat) (v6 : Int) (v7 : Option Nat) (v8 : Option Nat) (v9 : Option Nat) (v10 : Int) (v11 : Int) (v12 : Int) (v13 : Int) (v14 : Int) (v15 : Int) (v16 : Int) (h : zH) : zx zblk xs 0 359 [some (.inr (.inr v0)), some (.inr (.inr v1)), some (.inr (.inr v2)), some (.inr (.inr v3)), none, none, some (.inl v6), some (.inr (.inr v7)), some (.inr (.inr v8)), some (.inr (.inr v9)), some (.inl v10), some (.inl v11), some (.inl v12), some (.inl v13), some (.inl v14), some (.inl v15), some (.inl v16)] [] h = (zai xs h v3 0 fun a1 => (if zw a1 ≤ zw v16 then zx zblk xs 0 554 [some (.inr (.inr v0)), some (.inr (.inr v1)), some (.inr (.inr v2)), some (.inr (.inr v3)), none, none, some (.inl v6), some (.inr (.inr v7)), some (.inr (.inr v8)), some (.inr (.inr v9)), some (.inl v10), some (.inl v11), some (.inl v12), some (.inl v13), some (.inl v14), some (.inl v15)] [] h else (zcv (zx zblk xs 84 0 [some (.inr (.inr v2)), some (.inr (.inr v3)), some (.inl v16), some (.inl 0), some (.inr (.inr v9))] [] h) fun h2 => (zai xs h2 v8 0 fun a3 => (zai xs h2 v9 0 fun a4 => (if zw a4 ≤ zw a3 then zx zblk xs 0 392 [some (.inr (.inr v0)), some (.inr (.inr v1)), some (.inr (.inr v2)), some (.inr (.inr v3)), none, none, some (.inl v6), some (.inr (.inr v7)), some (.inr (.inr v8)), some (.inr (.inr v9)), some (.inl v10), some (.inl v11), some (.inl v12), some (.inl v13), some (.inl v14), some (.inl v15), some (.inl v16)] [] h2 else zx zblk xs 0 393 [some (.inr (.inr v0)), some (.inr (.inr v1)), some (.inr (.inr v2)), some (.inr (.inr v3)), none, none, some (.inl v6), some (.inr (.inr v7)), some (.inr (.inr v8)), some (.inr (.inr v9)), some (.inl v10), some (.inl v11), some (.inl v12), some (.inl v13), some (.inl v14), some (.inl v15), some (.inl v16)] [.inl 1] h2)))))) := (zx_unfold zblk xs 0 359 _ rfl _ _ _).trans rfl
theorem e_L_law_392 (xs : List Int) (v0 : Option Nat) (v1 : Option Nat) (v2 : Option Nat) (v3 : Option Nat) (v6 : Int) (v7 : Option Nat) (v8 : Option Nat) (v9 : Option Nat) (v10 : Int) (v11 : Int) (v12 : Int) (v13 : Int) (v14 : Int) (v15 : Int) (v16 : Int) (h : zH) : zx zblk xs 0 392 [some (.inr (.inr v0)), some (.inr (.inr v1)), some (.inr (.inr v2)), some (.inr (.inr v3)), none, none, some (.inl v6), some (.inr (.inr v7)), some (.inr (.inr v8)), some (.inr (.inr v9)), some (.inl v10), some (.inl v11), some (.inl v12), some (.inl v13), some (.inl v14), some (.inl v15), some (.inl v16)] [] h = zx zblk xs 0 393 [some (.inr (.inr v0)), some (.inr (.inr v1)), some (.inr (.inr v2)), some (.inr (.inr v3)), none, none, some (.inl v6), some (.inr (.inr v7)), some (.inr (.inr v8)), some (.inr (.inr v9)), some (.inl v10), some (.inl v11), some (.inl v12), some (.inl v13), some (.inl v14), some (.inl v15), some (.inl v16)] [.inl 0] h := (zx_unfold zblk xs 0 392 _ rfl _ _ _).trans rfl
theorem e_L_law_393 (xs : List Int) (v0 : Option Nat) (v1 : Option Nat) (v2 : Option Nat) (v3 : Option Nat) (v6 : Int) (v7 : Option Nat) (v8 : Option Nat) (v9 : Option Nat) (v10 : Int) (v11 : Int) (v12 : Int) (v13 : Int) (v14 : Int) (v15 : Int) (v16 : Int) (s0 : Int) (h : zH) : zx zblk xs 0 393 [some (.inr (.inr v0)), some (.inr (.inr v1)), some (.inr (.inr v2)), some (.inr (.inr v3)), none, none, some (.inl v6), some (.inr (.inr v7)), some (.inr (.inr v8)), some (.inr (.inr v9)), some (.inl v10), some (.inl v11), some (.inl v12), some (.inl v13), some (.inl v14), some (.inl v15), some (.inl v16)] [.inl s0] h = zx zblk xs 0 401 [some (.inr (.inr v0)), some (.inr (.inr v1)), some (.inr (.inr v2)), some (.inr (.inr v3)), none, none, some (.inl v6), some (.inr (.inr v7)), some (.inr (.inr v8)), some (.inr (.inr v9)), some (.inl v10), some (.inl v11), some (.inl v12), some (.inl v13), some (.inl v14), some (.inl v15), some (.inl v16), some (.inl s0), some (.inl 0), some (.inl 1)] [] h := (zx_unfold zblk xs 0 393 _ rfl _ _ _).trans rfl
theorem e_L_law_401 (xs : List Int) (v0 : Option Nat) (v1 : Option Nat) (v2 : Option Nat) (v3 : Option Nat) (v6 : Int) (v7 : Option Nat) (v8 : Option Nat) (v9 : Option Nat) (v10 : Int) (v11 : Int) (v12 : Int) (v13 : Int) (v14 : Int) (v15 : Int) (v16 : Int) (v17 : Int) (v18 : Int) (v19 : Int) (h : zH) : zx zblk xs 0 401 [some (.inr (.inr v0)), some (.inr (.inr v1)), some (.inr (.inr v2)), some (.inr (.inr v3)), none, none, some (.inl v6), some (.inr (.inr v7)), some (.inr (.inr v8)), some (.inr (.inr v9)), some (.inl v10), some (.inl v11), some (.inl v12), some (.inl v13), some (.inl v14), some (.inl v15), some (.inl v16), some (.inl v17), some (.inl v18), some (.inl v19)] [] h = (zai xs h v8 0 fun a1 => (if zw a1 < zw v19 then zx zblk xs 0 464 [some (.inr (.inr v0)), some (.inr (.inr v1)), some (.inr (.inr v2)), some (.inr (.inr v3)), none, none, some (.inl v6), some (.inr (.inr v7)), some (.inr (.inr v8)), some (.inr (.inr v9)), some (.inl v10), some (.inl v11), some (.inl v12), some (.inl v13), some (.inl v14), some (.inl v15), some (.inl v16), some (.inl v17), some (.inl v18)] [] h else (zai xs h v9 0 fun a2 => (if zw a2 < zw v19 then zx zblk xs 0 464 [some (.inr (.inr v0)), some (.inr (.inr v1)), some (.inr (.inr v2)), some (.inr (.inr v3)), none, none, some (.inl v6), some (.inr (.inr v7)), some (.inr (.inr v8)), some (.inr (.inr v9)), some (.inl v10), some (.inl v11), some (.inl v12), some (.inl v13), some (.inl v14), some (.inl v15), some (.inl v16), some (.inl v17), some (.inl v18)] [] h else (zai xs h v8 v19 fun a3 => (zai xs h v9 v19 fun a4 => (if zw a3 = zw a4 then zx zblk xs 0 435 [some (.inr (.inr v0)), some (.inr (.inr v1)), some (.inr (.inr v2)), some (.inr (.inr v3)), none, none, some (.inl v6), some (.inr (.inr v7)), some (.inr (.inr v8)), some (.inr (.inr v9)), some (.inl v10), some (.inl v11), some (.inl v12), some (.inl v13), some (.inl v14), some (.inl v15), some (.inl v16), some (.inl v17), some (.inl v18), some (.inl v19)] [] h else zx zblk xs 0 435 [some (.inr (.inr v0)), some (.inr (.inr v1)), some (.inr (.inr v2)), some (.inr (.inr v3)), none, none, some (.inl v6), some (.inr (.inr v7)), some (.inr (.inr v8)), some (.inr (.inr v9)), some (.inl v10), some (.inl v11), some (.inl v12), some (.inl v13), some (.inl v14), some (.inl v15), some (.inl v16), some (.inl 0), some (.inl v18), some (.inl v19)] [] h))))))) := (zx_unfold zblk xs 0 401 _ rfl _ _ _).trans rfl
theorem e_L_law_435 (xs : List Int) (v0 : Option Nat) (v1 : Option Nat) (v2 : Option Nat) (v3 : Option Nat) (v6 : Int) (v7 : Option Nat) (v8 : Option Nat) (v9 : Option Nat) (v10 : Int) (v11 : Int) (v12 : Int) (v13 : Int) (v14 : Int) (v15 : Int) (v16 : Int) (v17 : Int) (v18 : Int) (v19 : Int) (h : zH) : zx zblk xs 0 435 [some (.inr (.inr v0)), some (.inr (.inr v1)), some (.inr (.inr v2)), some (.inr (.inr v3)), none, none, some (.inl v6), some (.inr (.inr v7)), some (.inr (.inr v8)), some (.inr (.inr v9)), some (.inl v10), some (.inl v11), some (.inl v12), some (.inl v13), some (.inl v14), some (.inl v15), some (.inl v16), some (.inl v17), some (.inl v18), some (.inl v19)] [] h = (zai xs h v8 v19 fun a1 => (zai xs h v9 v19 fun a2 => (if zw a1 ≠ zw a2 then zx zblk xs 0 454 [some (.inr (.inr v0)), some (.inr (.inr v1)), some (.inr (.inr v2)), some (.inr (.inr v3)), none, none, some (.inl v6), some (.inr (.inr v7)), some (.inr (.inr v8)), some (.inr (.inr v9)), some (.inl v10), some (.inl v11), some (.inl v12), some (.inl v13), some (.inl v14), some (.inl v15), some (.inl v16), some (.inl v17), none, some (.inl v19)] [.inl v18] h else zx zblk xs 0 455 [some (.inr (.inr v0)), some (.inr (.inr v1)), some (.inr (.inr v2)), some (.inr (.inr v3)), none, none, some (.inl v6), some (.inr (.inr v7)), some (.inr (.inr v8)), some (.inr (.inr v9)), some (.inl v10), some (.inl v11), some (.inl v12), some (.inl v13), some (.inl v14), some (.inl v15), some (.inl v16), some (.inl v17), none, some (.inl v19)] [.inl 0, .inl v18] h))) := (zx_unfold zblk xs 0 435 _ rfl _ _ _).trans rfl
theorem e_L_law_454 (xs : List Int) (v0 : Option Nat) (v1 : Option Nat) (v2 : Option Nat) (v3 : Option Nat) (v6 : Int) (v7 : Option Nat) (v8 : Option Nat) (v9 : Option Nat) (v10 : Int) (v11 : Int) (v12 : Int) (v13 : Int) (v14 : Int) (v15 : Int) (v16 : Int) (v17 : Int) (v19 : Int) (s0 : Int) (h : zH) : zx zblk xs 0 454 [some (.inr (.inr v0)), some (.inr (.inr v1)), some (.inr (.inr v2)), some (.inr (.inr v3)), none, none, some (.inl v6), some (.inr (.inr v7)), some (.inr (.inr v8)), some (.inr (.inr v9)), some (.inl v10), some (.inl v11), some (.inl v12), some (.inl v13), some (.inl v14), some (.inl v15), some (.inl v16), some (.inl v17), none, some (.inl v19)] [.inl s0] h = zx zblk xs 0 455 [some (.inr (.inr v0)), some (.inr (.inr v1)), some (.inr (.inr v2)), some (.inr (.inr v3)), none, none, some (.inl v6), some (.inr (.inr v7)), some (.inr (.inr v8)), some (.inr (.inr v9)), some (.inl v10), some (.inl v11), some (.inl v12), some (.inl v13), some (.inl v14), some (.inl v15), some (.inl v16), some (.inl v17), none, some (.inl v19)] [.inl 1, .inl s0] h := (zx_unfold zblk xs 0 454 _ rfl _ _ _).trans rfl
theorem e_L_law_455 (xs : List Int) (v0 : Option Nat) (v1 : Option Nat) (v2 : Option Nat) (v3 : Option Nat) (v6 : Int) (v7 : Option Nat) (v8 : Option Nat) (v9 : Option Nat) (v10 : Int) (v11 : Int) (v12 : Int) (v13 : Int) (v14 : Int) (v15 : Int) (v16 : Int) (v17 : Int) (v19 : Int) (s0 : Int) (s1 : Int) (h : zH) : zx zblk xs 0 455 [some (.inr (.inr v0)), some (.inr (.inr v1)), some (.inr (.inr v2)), some (.inr (.inr v3)), none, none, some (.inl v6), some (.inr (.inr v7)), some (.inr (.inr v8)), some (.inr (.inr v9)), some (.inl v10), some (.inl v11), some (.inl v12), some (.inl v13), some (.inl v14), some (.inl v15), some (.inl v16), some (.inl v17), none, some (.inl v19)] [.inl s1, .inl s0] h = zx zblk xs 0 401 [some (.inr (.inr v0)), some (.inr (.inr v1)), some (.inr (.inr v2)), some (.inr (.inr v3)), none, none, some (.inl v6), some (.inr (.inr v7)), some (.inr (.inr v8)), some (.inr (.inr v9)), some (.inl v10), some (.inl v11), some (.inl v12), some (.inl v13), some (.inl v14), some (.inl v15), some (.inl v16), some (.inl v17), some (.inl (s0 + s1)), some (.inl (v19 + 1))] [] h := (zx_unfold zblk xs 0 455 _ rfl _ _ _).trans rfl
theorem e_L_law_464 (xs : List Int) (v0 : Option Nat) (v1 : Option Nat) (v2 : Option Nat) (v3 : Option Nat) (v6 : Int) (v7 : Option Nat) (v8 : Option Nat) (v9 : Option Nat) (v10 : Int) (v11 : Int) (v12 : Int) (v13 : Int) (v14 : Int) (v15 : Int) (v16 : Int) (v17 : Int) (v18 : Int) (h : zH) : zx zblk xs 0 464 [some (.inr (.inr v0)), some (.inr (.inr v1)), some (.inr (.inr v2)), some (.inr (.inr v3)), none, none, some (.inl v6), some (.inr (.inr v7)), some (.inr (.inr v8)), some (.inr (.inr v9)), some (.inl v10), some (.inl v11), some (.inl v12), some (.inl v13), some (.inl v14), some (.inl v15), some (.inl v16), some (.inl v17), some (.inl v18)] [] h = (if zw v17 = 0 then zx zblk xs 0 482 [some (.inr (.inr v0)), some (.inr (.inr v1)), some (.inr (.inr v2)), some (.inr (.inr v3)), none, none, some (.inl v6), some (.inr (.inr v7)), some (.inr (.inr v8)), some (.inr (.inr v9)), some (.inl v10), some (.inl v11), some (.inl v12), some (.inl v13), some (.inl v14), some (.inl v15), some (.inl v16), none, some (.inl v18)] [] h else (if 0 ≤ zw v13 then zx zblk xs 0 482 [some (.inr (.inr v0)), some (.inr (.inr v1)), some (.inr (.inr v2)), some (.inr (.inr v3)), none, none, some (.inl v6), some (.inr (.inr v7)), some (.inr (.inr v8)), some (.inr (.inr v9)), some (.inl v10), some (.inl v11), some (.inl v12), some (.inl v13), some (.inl v14), some (.inl v15), some (.inl v16), none, some (.inl v18)] [] h else zx zblk xs 0 482 [some (.inr (.inr v0)), some (.inr (.inr v1)), some (.inr (.inr v2)), some (.inr (.inr v3)), none, none, some (.inl v6), some (.inr (.inr v7)), some (.inr (.inr v8)), some (.inr (.inr v9)), some (.inl v10), some (.inl v11), some (.inl v12), some (.inl v15), some (.inl v16), some (.inl v15), some (.inl v16), none, some (.inl v18)] [] h)) := (zx_unfold zblk xs 0 464 _ rfl _ _ _).trans rfl
theorem e_L_law_482 (xs : List Int) (v0 : Option Nat) (v1 : Option Nat) (v2 : Option Nat) (v3 : Option Nat) (v6 : Int) (v7 : Option Nat) (v8 : Option Nat) (v9 : Option Nat) (v10 : Int) (v11 : Int) (v12 : Int) (v13 : Int) (v14 : Int) (v15 : Int) (v16 : Int) (v18 : Int) (h : zH) : zx zblk xs 0 482 [some (.inr (.inr v0)), some (.inr (.inr v1)), some (.inr (.inr v2)), some (.inr (.inr v3)), none, none, some (.inl v6), some (.inr (.inr v7)), some (.inr (.inr v8)), some (.inr (.inr v9)), some (.inl v10), some (.inl v11), some (.inl v12), some (.inl v13), some (.inl v14), some (.inl v15), some (.inl v16), none, some (.inl v18)] [] h = (if zw v15 < zw v16 then zx zblk xs 0 492 [some (.inr (.inr v0)), some (.inr (.inr v1)), some (.inr (.inr v2)), some (.inr (.inr v3)), none, none, some (.inl v6), some (.inr (.inr v7)), some (.inr (.inr v8)), some (.inr (.inr v9)), some (.inl v10), some (.inl v11), some (.inl v12), some (.inl v13), some (.inl v14), some (.inl v15), some (.inl v16), none, some (.inl v18)] [] h else zx zblk xs 0 548 [some (.inr (.inr v0)), some (.inr (.inr v1)), some (.inr (.inr v2)), some (.inr (.inr v3)), none, none, some (.inl v6), some (.inr (.inr v7)), some (.inr (.inr v8)), some (.inr (.inr v9)), some (.inl v10), some (.inl v11), some (.inl v12), some (.inl v13), some (.inl v14), some (.inl v15), some (.inl v16)] [] h) := (zx_unfold zblk xs 0 482 _ rfl _ _ _).trans rfl
theorem e_L_law_492 (xs : List Int) (v0 : Option Nat) (v1 : Option Nat) (v2 : Option Nat) (v3 : Option Nat) (v6 : Int) (v7 : Option Nat) (v8 : Option Nat) (v9 : Option Nat) (v10 : Int) (v11 : Int) (v12 : Int) (v13 : Int) (v14 : Int) (v15 : Int) (v16 : Int) (v18 : Int) (h : zH) : zx zblk xs 0 492 [some (.inr (.inr v0)), some (.inr (.inr v1)), some (.inr (.inr v2)), some (.inr (.inr v3)), none, none, some (.inl v6), some (.inr (.inr v7)), some (.inr (.inr v8)), some (.inr (.inr v9)), some (.inl v10), some (.inl v11), some (.inl v12), some (.inl v13), some (.inl v14), some (.inl v15), some (.inl v16), none, some (.inl v18)] [] h = (zci (zx zblk xs 85 0 [some (.inr (.inr v8)), some (.inr (.inr v9))] [] h) fun r2 h1 => (if zw r2 = 0 then zx zblk xs 0 515 [some (.inr (.inr v0)), some (.inr (.inr v1)), some (.inr (.inr v2)), some (.inr (.inr v3)), none, none, some (.inl v6), some (.inr (.inr v7)), some (.inr (.inr v8)), some (.inr (.inr v9)), some (.inl v10), some (.inl v11), some (.inl v12), some (.inl v13), some (.inl v14), some (.inl v15), some (.inl v16), none, some (.inl v18)] [] h1 else (if 0 ≤ zw v11 then zx zblk xs 0 515 [some (.inr (.inr v0)), some (.inr (.inr v1)), some (.inr (.inr v2)), some (.inr (.inr v3)), none, none, some (.inl v6), some (.inr (.inr v7)), some (.inr (.inr v8)), some (.inr (.inr v9)), some (.inl v10), some (.inl v11), some (.inl v12), some (.inl v13), some (.inl v14), some (.inl v15), some (.inl v16), none, some (.inl v18)] [] h1 else zx zblk xs 0 515 [some (.inr (.inr v0)), some (.inr (.inr v1)), some (.inr (.inr v2)), some (.inr (.inr v3)), none, none, some (.inl v6), some (.inr (.inr v7)), some (.inr (.inr v8)), some (.inr (.inr v9)), some (.inl v10), some (.inl v15), some (.inl v16), some (.inl v13), some (.inl v14), some (.inl v15), some (.inl v16), none, some (.inl v18)] [] h1))) := (zx_unfold zblk xs 0 492 _ rfl _ _ _).trans rfl
theorem e_L_law_515 (xs : List Int) (v0 : Option Nat) (v1 : Option Nat) (v2 : Option Nat) (v3 : Option Nat) (v6 : Int) (v7 : Option Nat) (v8 : Option Nat) (v9 : Option Nat) (v10 : Int) (v11 : Int) (v12 : Int) (v13 : Int) (v14 : Int) (v15 : Int) (v16 : Int) (v18 : Int) (h : zH) : zx zblk xs 0 515 [some (.inr (.inr v0)), some (.inr (.inr v1)), some (.inr (.inr v2)), some (.inr (.inr v3)), none, none, some (.inl v6), some (.inr (.inr v7)), some (.inr (.inr v8)), some (.inr (.inr v9)), some (.inl v10), some (.inl v11), some (.inl v12), some (.inl v13), some (.inl v14), some (.inl v15), some (.inl v16), none, some (.inl v18)] [] h = (zai xs h v8 0 fun a1 => (zai xs h v9 0 fun a2 => (if zw a1 = zw a2 then zx zblk xs 0 532 [some (.inr (.inr v0)), some (.inr (.inr v1)), some (.inr (.inr v2)), some (.inr (.inr v3)), none, none, some (.inl v6), some (.inr (.inr v7)), some (.inr (.inr v8)), some (.inr (.inr v9)), some (.inl v10), some (.inl v11), some (.inl v12), some (.inl v13), some (.inl v14), some (.inl v15), some (.inl v16), none, some (.inl v18)] [] h else zx zblk xs 0 548 [some (.inr (.inr v0)), some (.inr (.inr v1)), some (.inr (.inr v2)), some (.inr (.inr v3)), none, none, some (.inl v6), some (.inr (.inr v7)), some (.inr (.inr v8)), some (.inr (.inr v9)), some (.inl (-1)), some (.inl v11), some (.inl v12), some (.inl v13), some (.inl v14), some (.inl v15), some (.inl v16)] [] h))) := (zx_unfold zblk xs 0 515 _ rfl _ _ _).trans rfl
theorem e_L_law_532 (xs : List Int) (v0 : Option Nat) (v1 : Option Nat) (v2 : Option Nat) (v3 : Option Nat) (v6 : Int) (v7 : Option Nat) (v8 : Option Nat) (v9 : Option Nat) (v10 : Int) (v11 : Int) (v12 : Int) (v13 : Int) (v14 : Int) (v15 : Int) (v16 : Int) (v18 : Int) (h : zH) : zx zblk xs 0 532 [some (.inr (.inr v0)), some (.inr (.inr v1)), some (.inr (.inr v2)), some (.inr (.inr v3)), none, none, some (.inl v6), some (.inr (.inr v7)), some (.inr (.inr v8)), some (.inr (.inr v9)), some (.inl v10), some (.inl v11), some (.inl v12), some (.inl v13), some (.inl v14), some (.inl v15), some (.inl v16), none, some (.inl v18)] [] h = (if zw v10 < 0 then zx zblk xs 0 548 [some (.inr (.inr v0)), some (.inr (.inr v1)), some (.inr (.inr v2)), some (.inr (.inr v3)), none, none, some (.inl v6), some (.inr (.inr v7)), some (.inr (.inr v8)), some (.inr (.inr v9)), some (.inl v10), some (.inl v11), some (.inl v12), some (.inl v13), some (.inl v14), some (.inl v15), some (.inl v16)] [] h else (if zw v10 ≤ zw v18 then zx zblk xs 0 548 [some (.inr (.inr v0)), some (.inr (.inr v1)), some (.inr (.inr v2)), some (.inr (.inr v3)), none, none, some (.inl v6), some (.inr (.inr v7)), some (.inr (.inr v8)), some (.inr (.inr v9)), some (.inl v10), some (.inl v11), some (.inl v12), some (.inl v13), some (.inl v14), some (.inl v15), some (.inl v16)] [] h else zx zblk xs 0 548 [some (.inr (.inr v0)), some (.inr (.inr v1)), some (.inr (.inr v2)), some (.inr (.inr v3)), none, none, some (.inl v6), some (.inr (.inr v7)), some (.inr (.inr v8)), some (.inr (.inr v9)), some (.inl v18), some (.inl v11), some (.inl v12), some (.inl v13), some (.inl v14), some (.inl v15), some (.inl v16)] [] h)) := (zx_unfold zblk xs 0 532 _ rfl _ _ _).trans rfl
theorem e_L_law_548 (xs : List Int) (v0 : Option Nat) (v1 : Option Nat) (v2 : Option Nat) (v3 : Option Nat) (v6 : Int) (v7 : Option Nat) (v8 : Option Nat) (v9 : Option Nat) (v10 : Int) (v11 : Int) (v12 : Int) (v13 : Int) (v14 : Int) (v15 : Int) (v16 : Int) (h : zH) : zx zblk xs 0 548 [some (.inr (.inr v0)), some (.inr (.inr v1)), some (.inr (.inr v2)), some (.inr (.inr v3)), none, none, some (.inl v6), some (.inr (.inr v7)), some (.inr (.inr v8)), some (.inr (.inr v9)), some (.inl v10), some (.inl v11), some (.inl v12), some (.inl v13), some (.inl v14), some (.inl v15), some (.inl v16)] [] h = zx zblk xs 0 359 [some (.inr (.inr v0)), some (.inr (.inr v1)), some (.inr (.inr v2)), some (.inr (.inr v3)), none, none, some (.inl v6), some (.inr (.inr v7)), some (.inr (.inr v8)), some (.inr (.inr v9)), some (.inl v10), some (.inl v11), some (.inl v12), some (.inl v13), some (.inl v14), some (.inl v15), some (.inl (v16 + 1))] [] h := (zx_unfold zblk xs 0 548 _ rfl _ _ _).trans rfl
theorem e_L_law_554 (xs : List Int) (v0 : Option Nat) (v1 : Option Nat) (v2 : Option Nat) (v3 : Option Nat) (v6 : Int) (v7 : Option Nat) (v8 : Option Nat) (v9 : Option Nat) (v10 : Int) (v11 : Int) (v12 : Int) (v13 : Int) (v14 : Int) (v15 : Int) (h : zH) : zx zblk xs 0 554 [some (.inr (.inr v0)), some (.inr (.inr v1)), some (.inr (.inr v2)), some (.inr (.inr v3)), none, none, some (.inl v6), some (.inr (.inr v7)), some (.inr (.inr v8)), some (.inr (.inr v9)), some (.inl v10), some (.inl v11), some (.inl v12), some (.inl v13), some (.inl v14), some (.inl v15)] [] h = zx zblk xs 0 170 [some (.inr (.inr v0)), some (.inr (.inr v1)), some (.inr (.inr v2)), some (.inr (.inr v3)), none, none, some (.inl v6), some (.inr (.inr v7)), some (.inr (.inr v8)), some (.inr (.inr v9)), some (.inl v10), some (.inl v11), some (.inl v12), some (.inl v13), some (.inl v14), some (.inl (v15 + 1))] [] h := (zx_unfold zblk xs 0 554 _ rfl _ _ _).trans rfl
theorem e_L_law_560 (xs : List Int) (v0 : Option Nat) (v1 : Option Nat) (v2 : Option Nat) (v3 : Option Nat) (v6 : Int) (v7 : Option Nat) (v10 : Int) (v11 : Int) (v12 : Int) (v13 : Int) (v14 : Int) (h : zH) : zx zblk xs 0 560 [some (.inr (.inr v0)), some (.inr (.inr v1)), some (.inr (.inr v2)), some (.inr (.inr v3)), none, none, some (.inl v6), some (.inr (.inr v7)), none, none, some (.inl v10), some (.inl v11), some (.inl v12), some (.inl v13), some (.inl v14)] [] h = (zck h v1 6 (zci (zx zblk xs 51 0 [some (.inr (.inr v1)), some (.inl 0), some (.inl 0)] [] h) fun r2 h1 => (if 0 ≤ zw v11 then zx zblk xs 0 575 [some (.inr (.inr v0)), some (.inr (.inr v1)), some (.inr (.inr v2)), some (.inr (.inr v3)), none, none, some (.inl v6), some (.inr (.inr v7)), none, none, some (.inl v10), some (.inl v11), some (.inl v12), some (.inl v13), some (.inl v14)] [.inl r2] h1 else zx zblk xs 0 576 [some (.inr (.inr v0)), some (.inr (.inr v1)), some (.inr (.inr v2)), some (.inr (.inr v3)), none, none, some (.inl v6), some (.inr (.inr v7)), none, none, some (.inl v10), some (.inl v11), some (.inl v12), some (.inl v13), some (.inl v14)] [.inl 1, .inl r2] h1))) := (zx_unfold zblk xs 0 560 _ rfl _ _ _).trans rfl
theorem e_L_law_575 (xs : List Int) (v0 : Option Nat) (v1 : Option Nat) (v2 : Option Nat) (v3 : Option Nat) (v6 : Int) (v7 : Option Nat) (v10 : Int) (v11 : Int) (v12 : Int) (v13 : Int) (v14 : Int) (s0 : Int) (h : zH) : zx zblk xs 0 575 [some (.inr (.inr v0)), some (.inr (.inr v1)), some (.inr (.inr v2)), some (.inr (.inr v3)), none, none, some (.inl v6), some (.inr (.inr v7)), none, none, some (.inl v10), some (.inl v11), some (.inl v12), some (.inl v13), some (.inl v14)] [.inl s0] h = zx zblk xs 0 576 [some (.inr (.inr v0)), some (.inr (.inr v1)), some (.inr (.inr v2)), some (.inr (.inr v3)), none, none, some (.inl v6), some (.inr (.inr v7)), none, none, some (.inl v10), some (.inl v11), some (.inl v12), some (.inl v13), some (.inl v14)] [.inl 0, .inl s0] h := (zx_unfold zblk xs 0 575 _ rfl _ _ _).trans rfl
theorem e_L_law_576 (xs : List Int) (v0 : Option Nat) (v1 : Option Nat) (v2 : Option Nat) (v3 : Option Nat) (v6 : Int) (v7 : Option Nat) (v10 : Int) (v11 : Int) (v12 : Int) (v13 : Int) (v14 : Int) (s0 : Int) (s1 : Int) (h : zH) : zx zblk xs 0 576 [some (.inr (.inr v0)), some (.inr (.inr v1)), some (.inr (.inr v2)), some (.inr (.inr v3)), none, none, some (.inl v6), some (.inr (.inr v7)), none, none, some (.inl v10), some (.inl v11), some (.inl v12), some (.inl v13), some (.inl v14)] [.inl s1, .inl s0] h = (if zw s0 ≠ zw s1 then zx zblk xs 0 644 [] [] h else (zck h v1 6 (zci (zx zblk xs 51 0 [some (.inr (.inr v1)), some (.inl 0), some (.inl 1)] [] h) fun r2 h1 => (if zw r2 ≠ zw v11 then zx zblk xs 0 644 [] [] h1 else (zck h1 v1 6 (zci (zx zblk xs 51 0 [some (.inr (.inr v1)), some (.inl 0), some (.inl 2)] [] h1) fun r4 h3 => (if zw r4 ≠ zw v12 then zx zblk xs 0 644 [] [] h3 else (zck h3 v1 6 (zci (zx zblk xs 52 0 [some (.inr (.inr v1)), some (.inl 0), some (.inl 0)] [] h3) fun r6 h5 => (if zw r6 ≠ zw v13 then zx zblk xs 0 644 [] [] h5 else (zck h5 v1 6 (zci (zx zblk xs 52 0 [some (.inr (.inr v1)), some (.inl 0), some (.inl 1)] [] h5) fun r8 h7 => (if zw r8 ≠ zw v14 then zx zblk xs 0 644 [] [] h7 else (zck h7 v1 6 (zci (zx zblk xs 57 0 [some (.inr (.inr v1)), some (.inl 0)] [] h7) fun r10 h9 => (if zw v10 ≠ zw 99 then zx zblk xs 0 639 [some (.inr (.inr v0)), some (.inr (.inr v1)), some (.inr (.inr v2)), some (.inr (.inr v3)), none, none, some (.inl v6), some (.inr (.inr v7)), none, none, some (.inl v10)] [.inl r10] h9 else zx zblk xs 0 641 [some (.inr (.inr v0)), some (.inr (.inr v1)), some (.inr (.inr v2)), some (.inr (.inr v3)), none, none, some (.inl v6), some (.inr (.inr v7))] [.inl (-1), .inl r10] h9)))))))))))))))) := (zx_unfold zblk xs 0 576 _ rfl _ _ _).trans rfl
theorem e_L_law_639 (xs : List Int) (v0 : Option Nat) (v1 : Option Nat) (v2 : Option Nat) (v3 : Option Nat) (v6 : Int) (v7 : Option Nat) (v10 : Int) (s0 : Int) (h : zH) : zx zblk xs 0 639 [some (.inr (.inr v0)), some (.inr (.inr v1)), some (.inr (.inr v2)), some (.inr (.inr v3)), none, none, some (.inl v6), some (.inr (.inr v7)), none, none, some (.inl v10)] [.inl s0] h = zx zblk xs 0 641 [some (.inr (.inr v0)), some (.inr (.inr v1)), some (.inr (.inr v2)), some (.inr (.inr v3)), none, none, some (.inl v6), some (.inr (.inr v7))] [.inl v10, .inl s0] h := (zx_unfold zblk xs 0 639 _ rfl _ _ _).trans rfl
theorem e_L_law_641 (xs : List Int) (v0 : Option Nat) (v1 : Option Nat) (v2 : Option Nat) (v3 : Option Nat) (v6 : Int) (v7 : Option Nat) (s0 : Int) (s1 : Int) (h : zH) : zx zblk xs 0 641 [some (.inr (.inr v0)), some (.inr (.inr v1)), some (.inr (.inr v2)), some (.inr (.inr v3)), none, none, some (.inl v6), some (.inr (.inr v7))] [.inl s1, .inl s0] h = (if zw s0 = zw s1 then zx zblk xs 0 646 [some (.inr (.inr v0)), some (.inr (.inr v1)), some (.inr (.inr v2)), some (.inr (.inr v3)), none, none, some (.inl v6), some (.inr (.inr v7))] [] h else zx zblk xs 0 644 [] [] h) := (zx_unfold zblk xs 0 641 _ rfl _ _ _).trans rfl
theorem e_L_law_644 (xs : List Int)  (h : zH) : zx zblk xs 0 644 [] [] h = (if 0 = 0 ∨ 0 = 1 then some (some (.inl 0), h) else none) := (zx_unfold zblk xs 0 644 _ rfl _ _ _).trans rfl
set_option maxRecDepth 100000 in
theorem e_L_law_646 (xs : List Int) (v0 : Option Nat) (v1 : Option Nat) (v2 : Option Nat) (v3 : Option Nat) (v6 : Int) (v7 : Option Nat) (h : zH) : zx zblk xs 0 646 [some (.inr (.inr v0)), some (.inr (.inr v1)), some (.inr (.inr v2)), some (.inr (.inr v3)), none, none, some (.inl v6), some (.inr (.inr v7))] [] h = (zci (zx zblk xs 90 0 [some (.inr (.inr v1)), some (.inr (.inr v0)), some (.inr (.inr v2)), some (.inr (.inr v3))] [] h) fun r2 h1 => (if zw r2 = 0 then zx zblk xs 0 864 [] [] h1 else (zci (zx zblk xs 91 0 [some (.inr (.inr v1)), some (.inr (.inr v2)), some (.inr (.inr v3))] [] h1) fun r4 h3 => (if zw r4 = 0 then zx zblk xs 0 864 [] [] h3 else (zci (zx zblk xs 92 0 [some (.inr (.inr v1)), some (.inr (.inr v2)), some (.inr (.inr v3)), some (.inr (.inr v7)), some (.inl v6)] [] h3) fun r6 h5 => (if zw r6 = 0 then zx zblk xs 0 864 [] [] h5 else (zci (zx zblk xs 93 0 [some (.inr (.inr v1)), some (.inr (.inr v0)), some (.inr (.inr v2)), some (.inr (.inr v3))] [] h5) fun r8 h7 => (if zw r8 = 0 then zx zblk xs 0 864 [] [] h7 else (zai xs h7 v3 0 fun a9 => (zck h7 v1 6 (zci (zx zblk xs 49 0 [some (.inr (.inr v1)), some (.inl 0), some (.inl a9), some (.inl 0)] [] h7) fun r11 h10 => (if zw r11 ≠ zw (-101) then zx zblk xs 0 864 [] [] h10 else (zck h10 v1 6 (zci (zx zblk xs 49 0 [some (.inr (.inr v1)), some (.inl 1), some (.inl 0), some (.inl 0)] [] h10) fun r13 h12 => (if zw r13 ≠ zw (-101) then zx zblk xs 0 864 [] [] h12 else (zck h12 v1 6 (zci (zx zblk xs 49 0 [some (.inr (.inr v1)), some (.inl 0), some (.inl 0), some (.inl 6)] [] h12) fun r15 h14 => (if zw r15 ≠ zw (-102) then zx zblk xs 0 864 [] [] h14 else (zck h14 v1 6 (zci (zx zblk xs 49 0 [some (.inr (.inr v1)), some (.inl 0), some (.inl 0), some (.inl 21)] [] h14) fun r17 h16 => (if zw r17 ≠ zw (-102) then zx zblk xs 0 864 [] [] h16 else (zck h16 v1 6 (zci (zx zblk xs 51 0 [some (.inr (.inr v1)), some (.inl 0), some (.inl 3)] [] h16) fun r19 h18 => (if zw r19 ≠ zw (-102) then zx zblk xs 0 864 [] [] h18 else (zck h18 v1 6 (zci (zx zblk xs 51 0 [some (.inr (.inr v1)), some (.inl 1), some (.inl 0)] [] h18) fun r21 h20 => (if zw r21 ≠ zw (-101) then zx zblk xs 0 864 [] [] h20 else (zck h20 v1 6 (zci (zx zblk xs 52 0 [some (.inr (.inr v1)), some (.inl 0), some (.inl 2)] [] h20) fun r23 h22 => (if zw r23 ≠ zw (-102) then zx zblk xs 0 864 [] [] h22 else (zck h22 v1 6 (zci (zx zblk xs 57 0 [some (.inr (.inr v1)), some (.inl 1)] [] h22) fun r25 h24 => (if zw r25 ≠ zw (-101) then zx zblk xs 0 864 [] [] h24 else (zck h24 v1 6 (zci (zx zblk xs 53 0 [some (.inr (.inr v1)), some (.inl (-1))] [] h24) fun r27 h26 => (if zw r27 ≠ zw (-101) then zx zblk xs 0 864 [] [] h26 else (zck h26 v1 6 (zci (zx zblk xs 59 0 [some (.inr (.inr v1)), some (.inl 0), some (.inl 256)] [] h26) fun r29 h28 => (if zw r29 ≠ zw (-102) then zx zblk xs 0 864 [] [] h28 else (zck h28 v1 6 (zci (zx zblk xs 60 0 [some (.inr (.inr v1)), some (.inl 1)] [] h28) fun r31 h30 => (if zw r31 ≠ zw (-101) then zx zblk xs 0 864 [] [] h30 else (zck h30 v1 6 (zci (zx zblk xs 54 0 [some (.inr (.inr v1)), some (.inl 0), some (.inl 2)] [] h30) fun r33 h32 => (if zw r33 ≠ zw (-102) then zx zblk xs 0 864 [] [] h32 else (zck h32 v1 6 (zci (zx zblk xs 56 0 [some (.inr (.inr v1)), some (.inl 0), some (.inl 18)] [] h32) fun r35 h34 => (if zw r35 ≠ zw (-102) then zx zblk xs 0 864 [] [] h34 else (zck h34 v1 6 (zci (zx zblk xs 56 0 [some (.inr (.inr v1)), some (.inl 0), some (.inl 2)] [] h34) fun r37 h36 => (if zw r37 ≠ zw (-102) then zx zblk xs 0 864 [] [] h36 else (zck h36 v1 6 (zci (zx zblk xs 55 0 [some (.inr (.inr v1)), some (.inl 1)] [] h36) fun r39 h38 => (if zw r39 ≠ zw (-101) then zx zblk xs 0 864 [] [] h38 else zx zblk xs 0 865 [] [.inl 1] h38)))))))))))))))))))))))))))))))))))))))))))))))))))))) := (zx_unfold zblk xs 0 646 _ rfl _ _ _).trans rfl
theorem e_L_law_864 (xs : List Int)  (h : zH) : zx zblk xs 0 864 [] [] h = zx zblk xs 0 865 [] [.inl 0] h := (zx_unfold zblk xs 0 864 _ rfl _ _ _).trans rfl
theorem e_L_law_865 (xs : List Int) (s0 : Int) (h : zH) : zx zblk xs 0 865 [] [.inl s0] h = (if s0 = 0 ∨ s0 = 1 then some (some (.inl s0), h) else none) := (zx_unfold zblk xs 0 865 _ rfl _ _ _).trans rfl
/-- MindReadersLaw.cell([II)I -/
noncomputable abbrev r_L_cell (xs : List Int) (v1 : Option Nat) (v2 : Int) (h : zH) : Option zR := zx zblk xs 78 0 [some (.inr (.inr v1)), some (.inl v2)] [] h
theorem e_L_cell_0 (xs : List Int) (v0 : Option Nat) (v1 : Int) (h : zH) : zx zblk xs 78 0 [some (.inr (.inr v0)), some (.inl v1)] [] h = (zln xs h v0 fun n1 => (if zw n1 ≤ zw v1 then zx zblk xs 78 12 [none, some (.inl v1)] [] h else (zai xs h v0 v1 fun a2 => zx zblk xs 78 18 [] [.inl a2] h))) := (zx_unfold zblk xs 78 0 _ rfl _ _ _).trans rfl
theorem e_L_cell_12 (xs : List Int) (v1 : Int) (h : zH) : zx zblk xs 78 12 [none, some (.inl v1)] [] h = zx zblk xs 78 18 [] [.inl (747796405 * (v1 + 1))] h := (zx_unfold zblk xs 78 12 _ rfl _ _ _).trans rfl
theorem e_L_cell_18 (xs : List Int) (s0 : Int) (h : zH) : zx zblk xs 78 18 [] [.inl s0] h = some (some (.inl s0), h) := (zx_unfold zblk xs 78 18 _ rfl _ _ _).trans rfl
/-- MindReadersLaw.at(II)I -/
noncomputable abbrev r_L_at (xs : List Int) (v1 : Int) (v2 : Int) (h : zH) : Option zR := zx zblk xs 79 0 [some (.inl v1), some (.inl v2)] [] h
theorem e_L_at_0 (xs : List Int) (v0 : Int) (v1 : Int) (h : zH) : zx zblk xs 79 0 [some (.inl v0), some (.inl v1)] [] h = (if zw v1 = 0 then none else some (some (.inl ((zw (zushr v0 1)).tmod (zw v1))), h)) := (zx_unfold zblk xs 79 0 _ rfl _ _ _).trans rfl
/-- MindReadersLaw.signals(LMindReaders;[II[I)Z -/
noncomputable abbrev r_L_signals (xs : List Int) (v1 : Option Nat) (v2 : Option Nat) (v3 : Int) (v4 : Option Nat) (h : zH) : Option zR := zx zblk xs 80 0 [some (.inr (.inr v1)), some (.inr (.inr v2)), some (.inl v3), some (.inr (.inr v4))] [] h
theorem e_L_signals_0 (xs : List Int) (v0 : Option Nat) (v1 : Option Nat) (v2 : Int) (v3 : Option Nat) (h : zH) : zx zblk xs 80 0 [some (.inr (.inr v0)), some (.inr (.inr v1)), some (.inl v2), some (.inr (.inr v3))] [] h = (zci (zx zblk xs 78 0 [some (.inr (.inr v1)), some (.inl v2)] [] h) fun r2 h1 => (zci (zx zblk xs 79 0 [some (.inl r2), some (.inl 9)] [] h1) fun r4 h3 => (zst h3 v3 100 32 (.inl r4) fun h5 => zx zblk xs 80 17 [some (.inr (.inr v0)), some (.inr (.inr v1)), some (.inl v2), some (.inr (.inr v3)), some (.inl 0)] [] h5))) := (zx_unfold zblk xs 80 0 _ rfl _ _ _).trans rfl
theorem e_L_signals_17 (xs : List Int) (v0 : Option Nat) (v1 : Option Nat) (v2 : Int) (v3 : Option Nat) (v4 : Int) (h : zH) : zx zblk xs 80 17 [some (.inr (.inr v0)), some (.inr (.inr v1)), some (.inl v2), some (.inr (.inr v3)), some (.inl v4)] [] h = (zai xs h v3 32 fun a1 => (if zw a1 ≤ zw v4 then zx zblk xs 80 267 [] [] h else (zci (zx zblk xs 78 0 [some (.inr (.inr v1)), some (.inl ((v2 + 1) + v4))] [] h) fun r3 h2 => (zci (zx zblk xs 79 0 [some (.inl r3), some (.inl 9)] [] h2) fun r5 h4 => (if zw 5 ≤ zw r5 then zx zblk xs 80 66 [some (.inr (.inr v0)), some (.inr (.inr v1)), some (.inl v2), some (.inr (.inr v3)), some (.inl v4), some (.inl r3), some (.inl r5), some (.inl (4 * v4))] [.inl (4 * v4), .inr (.inr v3)] h4 else zx zblk xs 80 99 [some (.inr (.inr v0)), some (.inr (.inr v1)), some (.inl v2), some (.inr (.inr v3)), some (.inl v4), some (.inl r3), none, some (.inl (4 * v4))] [.inl 0, .inl (4 * v4), .inr (.inr v3)] h4))))) := (zx_unfold zblk xs 80 17 _ rfl _ _ _).trans rfl
theorem e_L_signals_66 (xs : List Int) (v0 : Option Nat) (v1 : Option Nat) (v2 : Int) (v3 : Option Nat) (v4 : Int) (v5 : Int) (v6 : Int) (v7 : Int) (s0 : Option Nat) (s1 : Int) (h : zH) : zx zblk xs 80 66 [some (.inr (.inr v0)), some (.inr (.inr v1)), some (.inl v2), some (.inr (.inr v3)), some (.inl v4), some (.inl v5), some (.inl v6), some (.inl v7)] [.inl s1, .inr (.inr s0)] h = (if zw v6 ≠ zw 5 then zx zblk xs 80 76 [some (.inr (.inr v0)), some (.inr (.inr v1)), some (.inl v2), some (.inr (.inr v3)), some (.inl v4), some (.inl v5), some (.inl v6), some (.inl v7)] [.inl s1, .inr (.inr s0)] h else zx zblk xs 80 99 [some (.inr (.inr v0)), some (.inr (.inr v1)), some (.inl v2), some (.inr (.inr v3)), some (.inl v4), some (.inl v5), none, some (.inl v7)] [.inl 1, .inl s1, .inr (.inr s0)] h) := (zx_unfold zblk xs 80 66 _ rfl _ _ _).trans rfl
theorem e_L_signals_76 (xs : List Int) (v0 : Option Nat) (v1 : Option Nat) (v2 : Int) (v3 : Option Nat) (v4 : Int) (v5 : Int) (v6 : Int) (v7 : Int) (s0 : Option Nat) (s1 : Int) (h : zH) : zx zblk xs 80 76 [some (.inr (.inr v0)), some (.inr (.inr v1)), some (.inl v2), some (.inr (.inr v3)), some (.inl v4), some (.inl v5), some (.inl v6), some (.inl v7)] [.inl s1, .inr (.inr s0)] h = (if zw v6 ≠ zw 6 then zx zblk xs 80 87 [some (.inr (.inr v0)), some (.inr (.inr v1)), some (.inl v2), some (.inr (.inr v3)), some (.inl v4), some (.inl v5), some (.inl v6), some (.inl v7)] [.inl s1, .inr (.inr s0)] h else zx zblk xs 80 99 [some (.inr (.inr v0)), some (.inr (.inr v1)), some (.inl v2), some (.inr (.inr v3)), some (.inl v4), some (.inl v5), none, some (.inl v7)] [.inl 2, .inl s1, .inr (.inr s0)] h) := (zx_unfold zblk xs 80 76 _ rfl _ _ _).trans rfl
theorem e_L_signals_87 (xs : List Int) (v0 : Option Nat) (v1 : Option Nat) (v2 : Int) (v3 : Option Nat) (v4 : Int) (v5 : Int) (v6 : Int) (v7 : Int) (s0 : Option Nat) (s1 : Int) (h : zH) : zx zblk xs 80 87 [some (.inr (.inr v0)), some (.inr (.inr v1)), some (.inl v2), some (.inr (.inr v3)), some (.inl v4), some (.inl v5), some (.inl v6), some (.inl v7)] [.inl s1, .inr (.inr s0)] h = (if zw v6 ≠ zw 7 then zx zblk xs 80 98 [some (.inr (.inr v0)), some (.inr (.inr v1)), some (.inl v2), some (.inr (.inr v3)), some (.inl v4), some (.inl v5), none, some (.inl v7)] [.inl s1, .inr (.inr s0)] h else zx zblk xs 80 99 [some (.inr (.inr v0)), some (.inr (.inr v1)), some (.inl v2), some (.inr (.inr v3)), some (.inl v4), some (.inl v5), none, some (.inl v7)] [.inl 3, .inl s1, .inr (.inr s0)] h) := (zx_unfold zblk xs 80 87 _ rfl _ _ _).trans rfl
theorem e_L_signals_98 (xs : List Int) (v0 : Option Nat) (v1 : Option Nat) (v2 : Int) (v3 : Option Nat) (v4 : Int) (v5 : Int) (v7 : Int) (s0 : Option Nat) (s1 : Int) (h : zH) : zx zblk xs 80 98 [some (.inr (.inr v0)), some (.inr (.inr v1)), some (.inl v2), some (.inr (.inr v3)), some (.inl v4), some (.inl v5), none, some (.inl v7)] [.inl s1, .inr (.inr s0)] h = zx zblk xs 80 99 [some (.inr (.inr v0)), some (.inr (.inr v1)), some (.inl v2), some (.inr (.inr v3)), some (.inl v4), some (.inl v5), none, some (.inl v7)] [.inl 4, .inl s1, .inr (.inr s0)] h := (zx_unfold zblk xs 80 98 _ rfl _ _ _).trans rfl
theorem e_L_signals_99 (xs : List Int) (v0 : Option Nat) (v1 : Option Nat) (v2 : Int) (v3 : Option Nat) (v4 : Int) (v5 : Int) (v7 : Int) (s0 : Option Nat) (s1 : Int) (s2 : Int) (h : zH) : zx zblk xs 80 99 [some (.inr (.inr v0)), some (.inr (.inr v1)), some (.inl v2), some (.inr (.inr v3)), some (.inl v4), some (.inl v5), none, some (.inl v7)] [.inl s2, .inl s1, .inr (.inr s0)] h = (zst h s0 100 s1 (.inl s2) fun h1 => (zst h1 v3 100 (v7 + 1) (.inl (-1)) fun h2 => zx zblk xs 80 110 [some (.inr (.inr v0)), some (.inr (.inr v1)), some (.inl v2), some (.inr (.inr v3)), some (.inl v4), some (.inl v5), none, some (.inl v7), some (.inl 0)] [] h2)) := (zx_unfold zblk xs 80 99 _ rfl _ _ _).trans rfl
theorem e_L_signals_110 (xs : List Int) (v0 : Option Nat) (v1 : Option Nat) (v2 : Int) (v3 : Option Nat) (v4 : Int) (v5 : Int) (v7 : Int) (v8 : Int) (h : zH) : zx zblk xs 80 110 [some (.inr (.inr v0)), some (.inr (.inr v1)), some (.inl v2), some (.inr (.inr v3)), some (.inl v4), some (.inl v5), none, some (.inl v7), some (.inl v8)] [] h = (if zw v4 ≤ zw v8 then zx zblk xs 80 172 [some (.inr (.inr v0)), some (.inr (.inr v1)), some (.inl v2), some (.inr (.inr v3)), some (.inl v4), some (.inl v5), none, some (.inl v7)] [] h else (zai xs h v3 v7 fun a1 => (if zw a1 ≠ zw 2 then zx zblk xs 80 172 [some (.inr (.inr v0)), some (.inr (.inr v1)), some (.inl v2), some (.inr (.inr v3)), some (.inl v4), some (.inl v5), none, some (.inl v7)] [] h else (zai xs h v3 (4 * v8) fun a2 => (if zw 2 ≤ zw a2 then zx zblk xs 80 166 [some (.inr (.inr v0)), some (.inr (.inr v1)), some (.inl v2), some (.inr (.inr v3)), some (.inl v4), some (.inl v5), none, some (.inl v7), some (.inl v8)] [] h else (zai xs h v3 (v7 + 1) fun a3 => (if zw a3 < 0 then zx zblk xs 80 158 [some (.inr (.inr v0)), some (.inr (.inr v1)), some (.inl v2), some (.inr (.inr v3)), some (.inl v4), some (.inl v5), none, some (.inl v7), some (.inl v8)] [] h else (zci (zx zblk xs 79 0 [some (.inl (zshr v5 (4 + v8))), some (.inl 2)] [] h) fun r5 h4 => (if zw r5 ≠ 0 then zx zblk xs 80 166 [some (.inr (.inr v0)), some (.inr (.inr v1)), some (.inl v2), some (.inr (.inr v3)), some (.inl v4), some (.inl v5), none, some (.inl v7), some (.inl v8)] [] h4 else zx zblk xs 80 158 [some (.inr (.inr v0)), some (.inr (.inr v1)), some (.inl v2), some (.inr (.inr v3)), some (.inl v4), some (.inl v5), none, some (.inl v7), some (.inl v8)] [] h4))))))))) := (zx_unfold zblk xs 80 110 _ rfl _ _ _).trans rfl
theorem e_L_signals_158 (xs : List Int) (v0 : Option Nat) (v1 : Option Nat) (v2 : Int) (v3 : Option Nat) (v4 : Int) (v5 : Int) (v7 : Int) (v8 : Int) (h : zH) : zx zblk xs 80 158 [some (.inr (.inr v0)), some (.inr (.inr v1)), some (.inl v2), some (.inr (.inr v3)), some (.inl v4), some (.inl v5), none, some (.inl v7), some (.inl v8)] [] h = (zst h v3 100 (v7 + 1) (.inl v8) fun h1 => zx zblk xs 80 166 [some (.inr (.inr v0)), some (.inr (.inr v1)), some (.inl v2), some (.inr (.inr v3)), some (.inl v4), some (.inl v5), none, some (.inl v7), some (.inl v8)] [] h1) := (zx_unfold zblk xs 80 158 _ rfl _ _ _).trans rfl
theorem e_L_signals_166 (xs : List Int) (v0 : Option Nat) (v1 : Option Nat) (v2 : Int) (v3 : Option Nat) (v4 : Int) (v5 : Int) (v7 : Int) (v8 : Int) (h : zH) : zx zblk xs 80 166 [some (.inr (.inr v0)), some (.inr (.inr v1)), some (.inl v2), some (.inr (.inr v3)), some (.inl v4), some (.inl v5), none, some (.inl v7), some (.inl v8)] [] h = zx zblk xs 80 110 [some (.inr (.inr v0)), some (.inr (.inr v1)), some (.inl v2), some (.inr (.inr v3)), some (.inl v4), some (.inl v5), none, some (.inl v7), some (.inl (v8 + 1))] [] h := (zx_unfold zblk xs 80 166 _ rfl _ _ _).trans rfl
theorem e_L_signals_172 (xs : List Int) (v0 : Option Nat) (v1 : Option Nat) (v2 : Int) (v3 : Option Nat) (v4 : Int) (v5 : Int) (v7 : Int) (h : zH) : zx zblk xs 80 172 [some (.inr (.inr v0)), some (.inr (.inr v1)), some (.inl v2), some (.inr (.inr v3)), some (.inl v4), some (.inl v5), none, some (.inl v7)] [] h = (zai xs h v3 v7 fun a1 => (if zw a1 ≠ zw 2 then zx zblk xs 80 194 [some (.inr (.inr v0)), some (.inr (.inr v1)), some (.inl v2), some (.inr (.inr v3)), some (.inl v4), some (.inl v5), none, some (.inl v7)] [] h else (zai xs h v3 (v7 + 1) fun a2 => (if 0 ≤ zw a2 then zx zblk xs 80 194 [some (.inr (.inr v0)), some (.inr (.inr v1)), some (.inl v2), some (.inr (.inr v3)), some (.inl v4), some (.inl v5), none, some (.inl v7)] [] h else (zst h v3 100 v7 (.inl 0) fun h3 => zx zblk xs 80 194 [some (.inr (.inr v0)), some (.inr (.inr v1)), some (.inl v2), some (.inr (.inr v3)), some (.inl v4), some (.inl v5), none, some (.inl v7)] [] h3))))) := (zx_unfold zblk xs 80 172 _ rfl _ _ _).trans rfl
theorem e_L_signals_194 (xs : List Int) (v0 : Option Nat) (v1 : Option Nat) (v2 : Int) (v3 : Option Nat) (v4 : Int) (v5 : Int) (v7 : Int) (h : zH) : zx zblk xs 80 194 [some (.inr (.inr v0)), some (.inr (.inr v1)), some (.inl v2), some (.inr (.inr v3)), some (.inl v4), some (.inl v5), none, some (.inl v7)] [] h = (zci (zx zblk xs 79 0 [some (.inl (zshr v5 12)), some (.inl 9)] [] h) fun r2 h1 => (zst h1 v3 100 (v7 + 2) (.inl (1 + r2)) fun h3 => (zci (zx zblk xs 79 0 [some (.inl (zshr v5 16)), some (.inl 10)] [] h3) fun r5 h4 => (zst h4 v3 100 (v7 + 3) (.inl r5) fun h6 => (zai xs h6 v3 v7 fun a7 => (zai xs h6 v3 (v7 + 1) fun a8 => (zai xs h6 v3 (v7 + 2) fun a9 => (zai xs h6 v3 (v7 + 3) fun a10 => (zck h6 v0 6 (zci (zx zblk xs 47 0 [some (.inr (.inr v0)), some (.inl a7), some (.inl a8), some (.inl a9), some (.inl a10)] [] h6) fun r12 h11 => (if zw r12 = zw v4 then zx zblk xs 80 261 [some (.inr (.inr v0)), some (.inr (.inr v1)), some (.inl v2), some (.inr (.inr v3)), some (.inl v4)] [] h11 else (if 0 = 0 ∨ 0 = 1 then some (some (.inl 0), h11) else none)))))))))))) := (zx_unfold zblk xs 80 194 _ rfl _ _ _).trans rfl
theorem e_L_signals_261 (xs : List Int) (v0 : Option Nat) (v1 : Option Nat) (v2 : Int) (v3 : Option Nat) (v4 : Int) (h : zH) : zx zblk xs 80 261 [some (.inr (.inr v0)), some (.inr (.inr v1)), some (.inl v2), some (.inr (.inr v3)), some (.inl v4)] [] h = zx zblk xs 80 17 [some (.inr (.inr v0)), some (.inr (.inr v1)), some (.inl v2), some (.inr (.inr v3)), some (.inl (v4 + 1))] [] h := (zx_unfold zblk xs 80 261 _ rfl _ _ _).trans rfl
theorem e_L_signals_267 (xs : List Int)  (h : zH) : zx zblk xs 80 267 [] [] h = (if 1 = 0 ∨ 1 = 1 then some (some (.inl 1), h) else none) := (zx_unfold zblk xs 80 267 _ rfl _ _ _).trans rfl
/-- MindReadersLaw.codeText([II[I[I)I -/
noncomputable abbrev r_L_codeText (xs : List Int) (v1 : Option Nat) (v2 : Int) (v3 : Option Nat) (v4 : Option Nat) (h : zH) : Option zR := zx zblk xs 81 0 [some (.inr (.inr v1)), some (.inl v2), some (.inr (.inr v3)), some (.inr (.inr v4))] [] h
theorem e_L_codeText_0 (xs : List Int) (v0 : Option Nat) (v1 : Int) (v2 : Option Nat) (v3 : Option Nat) (h : zH) : zx zblk xs 81 0 [some (.inr (.inr v0)), some (.inl v1), some (.inr (.inr v2)), some (.inr (.inr v3))] [] h = (zci (zx zblk xs 78 0 [some (.inr (.inr v0)), some (.inl v1)] [] h) fun r2 h1 => (zci (zx zblk xs 79 0 [some (.inl r2), some (.inl 8)] [] h1) fun r4 h3 => (zst h3 v2 100 0 (.inl (1 + r4)) fun h5 => (zci (zx zblk xs 79 0 [some (.inl (zshr r2 3)), some (.inl 7)] [] h5) fun r7 h6 => (zci (zx zblk xs 79 0 [some (.inl (zshr r2 6)), some (.inl 3)] [] h6) fun r9 h8 => (if zw r9 ≠ 0 then zx zblk xs 81 61 [some (.inr (.inr v0)), some (.inl v1), some (.inr (.inr v2)), some (.inr (.inr v3)), some (.inl r2), some (.inl 0), some (.inl (2 + r7))] [] h8 else (zci (zx zblk xs 79 0 [some (.inl (zshr r2 8)), some (.inl 4)] [] h8) fun r11 h10 => zx zblk xs 81 62 [some (.inr (.inr v0)), some (.inl v1), some (.inr (.inr v2)), some (.inr (.inr v3)), some (.inl r2), some (.inl 0), some (.inl (2 + r7))] [.inl (1 + r11)] h10))))))) := (zx_unfold zblk xs 81 0 _ rfl _ _ _).trans rfl
theorem e_L_codeText_61 (xs : List Int) (v0 : Option Nat) (v1 : Int) (v2 : Option Nat) (v3 : Option Nat) (v4 : Int) (v5 : Int) (v6 : Int) (h : zH) : zx zblk xs 81 61 [some (.inr (.inr v0)), some (.inl v1), some (.inr (.inr v2)), some (.inr (.inr v3)), some (.inl v4), some (.inl v5), some (.inl v6)] [] h = zx zblk xs 81 62 [some (.inr (.inr v0)), some (.inl v1), some (.inr (.inr v2)), some (.inr (.inr v3)), some (.inl v4), some (.inl v5), some (.inl v6)] [.inl 0] h := (zx_unfold zblk xs 81 61 _ rfl _ _ _).trans rfl
theorem e_L_codeText_62 (xs : List Int) (v0 : Option Nat) (v1 : Int) (v2 : Option Nat) (v3 : Option Nat) (v4 : Int) (v5 : Int) (v6 : Int) (s0 : Int) (h : zH) : zx zblk xs 81 62 [some (.inr (.inr v0)), some (.inl v1), some (.inr (.inr v2)), some (.inr (.inr v3)), some (.inl v4), some (.inl v5), some (.inl v6)] [.inl s0] h = zx zblk xs 81 67 [some (.inr (.inr v0)), some (.inl v1), some (.inr (.inr v2)), some (.inr (.inr v3)), some (.inl v4), some (.inl v5), some (.inl v6), some (.inl s0), some (.inl 0)] [] h := (zx_unfold zblk xs 81 62 _ rfl _ _ _).trans rfl
theorem e_L_codeText_67 (xs : List Int) (v0 : Option Nat) (v1 : Int) (v2 : Option Nat) (v3 : Option Nat) (v4 : Int) (v5 : Int) (v6 : Int) (v7 : Int) (v8 : Int) (h : zH) : zx zblk xs 81 67 [some (.inr (.inr v0)), some (.inl v1), some (.inr (.inr v2)), some (.inr (.inr v3)), some (.inl v4), some (.inl v5), some (.inl v6), some (.inl v7), some (.inl v8)] [] h = (zai xs h v2 0 fun a1 => (if zw a1 ≤ zw v8 then zx zblk xs 81 221 [none, none, none, none, none, some (.inl v5)] [] h else (zci (zx zblk xs 78 0 [some (.inr (.inr v0)), some (.inl ((v1 + 1) + v8))] [] h) fun r3 h2 => (if zw v7 ≤ 0 then zx zblk xs 81 105 [some (.inr (.inr v0)), some (.inl v1), some (.inr (.inr v2)), some (.inr (.inr v3)), some (.inl v4), some (.inl v5), some (.inl v6), some (.inl v7), some (.inl v8), some (.inl r3)] [.inl (1 + (6 * v8)), .inr (.inr v2)] h2 else zx zblk xs 81 129 [some (.inr (.inr v0)), some (.inl v1), some (.inr (.inr v2)), some (.inr (.inr v3)), some (.inl v4), some (.inl v5), some (.inl v6), some (.inl v7), some (.inl v8), some (.inl r3)] [.inl v7, .inl (1 + (6 * v8)), .inr (.inr v2)] h2)))) := (zx_unfold zblk xs 81 67 _ rfl _ _ _).trans rfl
theorem e_L_codeText_105 (xs : List Int) (v0 : Option Nat) (v1 : Int) (v2 : Option Nat) (v3 : Option Nat) (v4 : Int) (v5 : Int) (v6 : Int) (v7 : Int) (v8 : Int) (v9 : Int) (s0 : Option Nat) (s1 : Int) (h : zH) : zx zblk xs 81 105 [some (.inr (.inr v0)), some (.inl v1), some (.inr (.inr v2)), some (.inr (.inr v3)), some (.inl v4), some (.inl v5), some (.inl v6), some (.inl v7), some (.inl v8), some (.inl v9)] [.inl s1, .inr (.inr s0)] h = (zci (zx zblk xs 79 0 [some (.inl (zshr v4 10)), some (.inl 2)] [] h) fun r2 h1 => (if zw r2 ≠ 0 then zx zblk xs 81 124 [some (.inr (.inr v0)), some (.inl v1), some (.inr (.inr v2)), some (.inr (.inr v3)), some (.inl v4), some (.inl v5), some (.inl v6), some (.inl v7), some (.inl v8), some (.inl v9)] [.inl v9, .inl 1, .inl s1, .inr (.inr s0)] h1 else zx zblk xs 81 125 [some (.inr (.inr v0)), some (.inl v1), some (.inr (.inr v2)), some (.inr (.inr v3)), some (.inl v4), some (.inl v5), some (.inl v6), some (.inl v7), some (.inl v8), some (.inl v9)] [.inl 5, .inl v9, .inl 1, .inl s1, .inr (.inr s0)] h1)) := (zx_unfold zblk xs 81 105 _ rfl _ _ _).trans rfl
theorem e_L_codeText_124 (xs : List Int) (v0 : Option Nat) (v1 : Int) (v2 : Option Nat) (v3 : Option Nat) (v4 : Int) (v5 : Int) (v6 : Int) (v7 : Int) (v8 : Int) (v9 : Int) (s0 : Option Nat) (s1 : Int) (s2 : Int) (s3 : Int) (h : zH) : zx zblk xs 81 124 [some (.inr (.inr v0)), some (.inl v1), some (.inr (.inr v2)), some (.inr (.inr v3)), some (.inl v4), some (.inl v5), some (.inl v6), some (.inl v7), some (.inl v8), some (.inl v9)] [.inl s3, .inl s2, .inl s1, .inr (.inr s0)] h = zx zblk xs 81 125 [some (.inr (.inr v0)), some (.inl v1), some (.inr (.inr v2)), some (.inr (.inr v3)), some (.inl v4), some (.inl v5), some (.inl v6), some (.inl v7), some (.inl v8), some (.inl v9)] [.inl 3, .inl s3, .inl s2, .inl s1, .inr (.inr s0)] h := (zx_unfold zblk xs 81 124 _ rfl _ _ _).trans rfl
theorem e_L_codeText_125 (xs : List Int) (v0 : Option Nat) (v1 : Int) (v2 : Option Nat) (v3 : Option Nat) (v4 : Int) (v5 : Int) (v6 : Int) (v7 : Int) (v8 : Int) (v9 : Int) (s0 : Option Nat) (s1 : Int) (s2 : Int) (s3 : Int) (s4 : Int) (h : zH) : zx zblk xs 81 125 [some (.inr (.inr v0)), some (.inl v1), some (.inr (.inr v2)), some (.inr (.inr v3)), some (.inl v4), some (.inl v5), some (.inl v6), some (.inl v7), some (.inl v8), some (.inl v9)] [.inl s4, .inl s3, .inl s2, .inl s1, .inr (.inr s0)] h = (zci (zx zblk xs 79 0 [some (.inl s3), some (.inl s4)] [] h) fun r2 h1 => zx zblk xs 81 129 [some (.inr (.inr v0)), some (.inl v1), some (.inr (.inr v2)), some (.inr (.inr v3)), some (.inl v4), some (.inl v5), some (.inl v6), some (.inl v7), some (.inl v8), some (.inl v9)] [.inl (s2 + r2), .inl s1, .inr (.inr s0)] h1) := (zx_unfold zblk xs 81 125 _ rfl _ _ _).trans rfl
theorem e_L_codeText_129 (xs : List Int) (v0 : Option Nat) (v1 : Int) (v2 : Option Nat) (v3 : Option Nat) (v4 : Int) (v5 : Int) (v6 : Int) (v7 : Int) (v8 : Int) (v9 : Int) (s0 : Option Nat) (s1 : Int) (s2 : Int) (h : zH) : zx zblk xs 81 129 [some (.inr (.inr v0)), some (.inl v1), some (.inr (.inr v2)), some (.inr (.inr v3)), some (.inl v4), some (.inl v5), some (.inl v6), some (.inl v7), some (.inl v8), some (.inl v9)] [.inl s2, .inl s1, .inr (.inr s0)] h = (zst h s0 100 s1 (.inl s2) fun h1 => (if zw v8 ≤ 0 then zx zblk xs 81 144 [some (.inr (.inr v0)), some (.inl v1), some (.inr (.inr v2)), some (.inr (.inr v3)), some (.inl v4), some (.inl v5), some (.inl v6), some (.inl v7), some (.inl v8), some (.inl v9)] [] h1 else (zst h1 v3 100 v5 (.inl 44) fun h2 => zx zblk xs 81 144 [some (.inr (.inr v0)), some (.inl v1), some (.inr (.inr v2)), some (.inr (.inr v3)), some (.inl v4), some (.inl (v5 + 1)), some (.inl v6), some (.inl v7), some (.inl v8), some (.inl v9)] [] h2))) := (zx_unfold zblk xs 81 129 _ rfl _ _ _).trans rfl
theorem e_L_codeText_144 (xs : List Int) (v0 : Option Nat) (v1 : Int) (v2 : Option Nat) (v3 : Option Nat) (v4 : Int) (v5 : Int) (v6 : Int) (v7 : Int) (v8 : Int) (v9 : Int) (h : zH) : zx zblk xs 81 144 [some (.inr (.inr v0)), some (.inl v1), some (.inr (.inr v2)), some (.inr (.inr v3)), some (.inl v4), some (.inl v5), some (.inl v6), some (.inl v7), some (.inl v8), some (.inl v9)] [] h = zx zblk xs 81 147 [some (.inr (.inr v0)), some (.inl v1), some (.inr (.inr v2)), some (.inr (.inr v3)), some (.inl v4), some (.inl v5), some (.inl v6), some (.inl v7), some (.inl v8), some (.inl v9), some (.inl 0)] [] h := (zx_unfold zblk xs 81 144 _ rfl _ _ _).trans rfl
theorem e_L_codeText_147 (xs : List Int) (v0 : Option Nat) (v1 : Int) (v2 : Option Nat) (v3 : Option Nat) (v4 : Int) (v5 : Int) (v6 : Int) (v7 : Int) (v8 : Int) (v9 : Int) (v10 : Int) (h : zH) : zx zblk xs 81 147 [some (.inr (.inr v0)), some (.inl v1), some (.inr (.inr v2)), some (.inr (.inr v3)), some (.inl v4), some (.inl v5), some (.inl v6), some (.inl v7), some (.inl v8), some (.inl v9), some (.inl v10)] [] h = (zai xs h v2 (1 + (6 * v8)) fun a1 => (if zw a1 ≤ zw v10 then zx zblk xs 81 215 [some (.inr (.inr v0)), some (.inl v1), some (.inr (.inr v2)), some (.inr (.inr v3)), some (.inl v4), some (.inl v5), some (.inl v6), some (.inl v7), some (.inl v8)] [] h else (zci (zx zblk xs 79 0 [some (.inl (zshr v9 (3 + (4 * v10)))), some (.inl v6)] [] h) fun r3 h2 => (zst h2 v2 100 ((2 + (6 * v8)) + v10) (.inl r3) fun h4 => (zai xs h4 v2 ((2 + (6 * v8)) + v10) fun a5 => (zst h4 v3 100 v5 (.inl (97 + a5)) fun h6 => zx zblk xs 81 147 [some (.inr (.inr v0)), some (.inl v1), some (.inr (.inr v2)), some (.inr (.inr v3)), some (.inl v4), some (.inl (v5 + 1)), some (.inl v6), some (.inl v7), some (.inl v8), some (.inl v9), some (.inl (v10 + 1))] [] h6)))))) := (zx_unfold zblk xs 81 147 _ rfl _ _ _).trans rfl
theorem e_L_codeText_215 (xs : List Int) (v0 : Option Nat) (v1 : Int) (v2 : Option Nat) (v3 : Option Nat) (v4 : Int) (v5 : Int) (v6 : Int) (v7 : Int) (v8 : Int) (h : zH) : zx zblk xs 81 215 [some (.inr (.inr v0)), some (.inl v1), some (.inr (.inr v2)), some (.inr (.inr v3)), some (.inl v4), some (.inl v5), some (.inl v6), some (.inl v7), some (.inl v8)] [] h = zx zblk xs 81 67 [some (.inr (.inr v0)), some (.inl v1), some (.inr (.inr v2)), some (.inr (.inr v3)), some (.inl v4), some (.inl v5), some (.inl v6), some (.inl v7), some (.inl (v8 + 1))] [] h := (zx_unfold zblk xs 81 215 _ rfl _ _ _).trans rfl
theorem e_L_codeText_221 (xs : List Int) (v5 : Int) (h : zH) : zx zblk xs 81 221 [none, none, none, none, none, some (.inl v5)] [] h = some (some (.inl v5), h) := (zx_unfold zblk xs 81 221 _ rfl _ _ _).trans rfl
/-- MindReadersLaw.write(LMindReaders;[II)Z -/
noncomputable abbrev r_L_write (xs : List Int) (v1 : Option Nat) (v2 : Option Nat) (v3 : Int) (h : zH) : Option zR := zx zblk xs 82 0 [some (.inr (.inr v1)), some (.inr (.inr v2)), some (.inl v3)] [] h
theorem e_L_write_0 (xs : List Int) (v0 : Option Nat) (v1 : Option Nat) (v2 : Int) (h : zH) : zx zblk xs 82 0 [some (.inr (.inr v0)), some (.inr (.inr v1)), some (.inl v2)] [] h = zx zblk xs 82 2 [some (.inr (.inr v0)), some (.inr (.inr v1)), some (.inl v2), some (.inl 0)] [] h := (zx_unfold zblk xs 82 0 _ rfl _ _ _).trans rfl
theorem e_L_write_2 (xs : List Int) (v0 : Option Nat) (v1 : Option Nat) (v2 : Int) (v3 : Int) (h : zH) : zx zblk xs 82 2 [some (.inr (.inr v0)), some (.inr (.inr v1)), some (.inl v2), some (.inl v3)] [] h = (if zw v2 ≤ zw v3 then zx zblk xs 82 29 [] [] h else (zai xs h v1 v3 fun a1 => (zck h v0 6 (zci (zx zblk xs 44 0 [some (.inr (.inr v0)), some (.inr (.inl (zw a1))), none] [] h) fun r3 h2 => (if zw r3 = zw (v3 + 1) then zx zblk xs 82 23 [some (.inr (.inr v0)), some (.inr (.inr v1)), some (.inl v2), some (.inl v3)] [] h2 else (if 0 = 0 ∨ 0 = 1 then some (some (.inl 0), h2) else none)))))) := (zx_unfold zblk xs 82 2 _ rfl _ _ _).trans rfl
theorem e_L_write_23 (xs : List Int) (v0 : Option Nat) (v1 : Option Nat) (v2 : Int) (v3 : Int) (h : zH) : zx zblk xs 82 23 [some (.inr (.inr v0)), some (.inr (.inr v1)), some (.inl v2), some (.inl v3)] [] h = zx zblk xs 82 2 [some (.inr (.inr v0)), some (.inr (.inr v1)), some (.inl v2), some (.inl (v3 + 1))] [] h := (zx_unfold zblk xs 82 23 _ rfl _ _ _).trans rfl
theorem e_L_write_29 (xs : List Int)  (h : zH) : zx zblk xs 82 29 [] [] h = (if 1 = 0 ∨ 1 = 1 then some (some (.inl 1), h) else none) := (zx_unfold zblk xs 82 29 _ rfl _ _ _).trans rfl
/-- MindReadersLaw.plain([I[IIII[I)V -/
noncomputable abbrev r_L_plain (xs : List Int) (v1 : Option Nat) (v2 : Option Nat) (v3 : Int) (v4 : Int) (v5 : Int) (v6 : Option Nat) (h : zH) : Option zR := zx zblk xs 83 0 [some (.inr (.inr v1)), some (.inr (.inr v2)), some (.inl v3), some (.inl v4), some (.inl v5), some (.inr (.inr v6))] [] h
theorem e_L_plain_0 (xs : List Int) (v0 : Option Nat) (v1 : Option Nat) (v2 : Int) (v3 : Int) (v4 : Int) (v5 : Option Nat) (h : zH) : zx zblk xs 83 0 [some (.inr (.inr v0)), some (.inr (.inr v1)), some (.inl v2), some (.inl v3), some (.inl v4), some (.inr (.inr v5))] [] h = (zst h v5 100 0 (.inl 0) fun h1 => zx zblk xs 83 8 [some (.inr (.inr v0)), some (.inr (.inr v1)), some (.inl v2), some (.inl v3), some (.inl v4), some (.inr (.inr v5)), some (.inl 0)] [] h1) := (zx_unfold zblk xs 83 0 _ rfl _ _ _).trans rfl
theorem e_L_plain_8 (xs : List Int) (v0 : Option Nat) (v1 : Option Nat) (v2 : Int) (v3 : Int) (v4 : Int) (v5 : Option Nat) (v6 : Int) (h : zH) : zx zblk xs 83 8 [some (.inr (.inr v0)), some (.inr (.inr v1)), some (.inl v2), some (.inl v3), some (.inl v4), some (.inr (.inr v5)), some (.inl v6)] [] h = (if zw v3 ≤ zw v6 then zx zblk xs 83 150 [] [] h else (zai xs h v1 (v2 + v6) fun a1 => (if zw (zand (zshr v4 a1) 1) ≠ zw 1 then zx zblk xs 83 36 [some (.inr (.inr v0)), some (.inr (.inr v1)), some (.inl v2), some (.inl v3), some (.inl v4), some (.inr (.inr v5)), some (.inl v6), some (.inl a1)] [] h else zx zblk xs 83 144 [some (.inr (.inr v0)), some (.inr (.inr v1)), some (.inl v2), some (.inl v3), some (.inl v4), some (.inr (.inr v5)), some (.inl v6)] [] h))) := (zx_unfold zblk xs 83 8 _ rfl _ _ _).trans rfl
theorem e_L_plain_36 (xs : List Int) (v0 : Option Nat) (v1 : Option Nat) (v2 : Int) (v3 : Int) (v4 : Int) (v5 : Option Nat) (v6 : Int) (v7 : Int) (h : zH) : zx zblk xs 83 36 [some (.inr (.inr v0)), some (.inr (.inr v1)), some (.inl v2), some (.inl v3), some (.inl v4), some (.inr (.inr v5)), some (.inl v6), some (.inl v7)] [] h = (zai xs h v0 32 fun a1 => (if zw a1 ≤ zw v7 then zx zblk xs 83 54 [some (.inr (.inr v0)), some (.inr (.inr v1)), some (.inl v2), some (.inl v3), some (.inl v4), some (.inr (.inr v5)), some (.inl v6), some (.inl v7)] [] h else (zai xs h v0 (4 * v7) fun a2 => zx zblk xs 83 55 [some (.inr (.inr v0)), some (.inr (.inr v1)), some (.inl v2), some (.inl v3), some (.inl v4), some (.inr (.inr v5)), some (.inl v6), some (.inl v7)] [.inl a2] h))) := (zx_unfold zblk xs 83 36 _ rfl _ _ _).trans rfl
theorem e_L_plain_54 (xs : List Int) (v0 : Option Nat) (v1 : Option Nat) (v2 : Int) (v3 : Int) (v4 : Int) (v5 : Option Nat) (v6 : Int) (v7 : Int) (h : zH) : zx zblk xs 83 54 [some (.inr (.inr v0)), some (.inr (.inr v1)), some (.inl v2), some (.inl v3), some (.inl v4), some (.inr (.inr v5)), some (.inl v6), some (.inl v7)] [] h = zx zblk xs 83 55 [some (.inr (.inr v0)), some (.inr (.inr v1)), some (.inl v2), some (.inl v3), some (.inl v4), some (.inr (.inr v5)), some (.inl v6), some (.inl v7)] [.inl 0] h := (zx_unfold zblk xs 83 54 _ rfl _ _ _).trans rfl
theorem e_L_plain_55 (xs : List Int) (v0 : Option Nat) (v1 : Option Nat) (v2 : Int) (v3 : Int) (v4 : Int) (v5 : Option Nat) (v6 : Int) (v7 : Int) (s0 : Int) (h : zH) : zx zblk xs 83 55 [some (.inr (.inr v0)), some (.inr (.inr v1)), some (.inl v2), some (.inl v3), some (.inl v4), some (.inr (.inr v5)), some (.inl v6), some (.inl v7)] [.inl s0] h = (if zw 2 ≤ zw s0 then zx zblk xs 83 77 [some (.inr (.inr v0)), some (.inr (.inr v1)), some (.inl v2), some (.inl v3), some (.inl v4), some (.inr (.inr v5)), some (.inl v6), some (.inl v7), some (.inl s0)] [] h else (zai xs h v5 0 fun a1 => (zst h v5 100 0 (.inl (a1 + 1)) fun h2 => (zst h2 v5 100 (a1 + 1) (.inl v7) fun h3 => zx zblk xs 83 77 [some (.inr (.inr v0)), some (.inr (.inr v1)), some (.inl v2), some (.inl v3), some (.inl v4), some (.inr (.inr v5)), some (.inl v6), some (.inl v7), some (.inl s0)] [] h3)))) := (zx_unfold zblk xs 83 55 _ rfl _ _ _).trans rfl
theorem e_L_plain_77 (xs : List Int) (v0 : Option Nat) (v1 : Option Nat) (v2 : Int) (v3 : Int) (v4 : Int) (v5 : Option Nat) (v6 : Int) (v7 : Int) (v8 : Int) (h : zH) : zx zblk xs 83 77 [some (.inr (.inr v0)), some (.inr (.inr v1)), some (.inl v2), some (.inl v3), some (.inl v4), some (.inr (.inr v5)), some (.inl v6), some (.inl v7), some (.inl v8)] [] h = (if zw v8 ≠ zw 2 then zx zblk xs 83 123 [some (.inr (.inr v0)), some (.inr (.inr v1)), some (.inl v2), some (.inl v3), some (.inl v4), some (.inr (.inr v5)), some (.inl v6), none, some (.inl v8)] [] h else (zai xs h v5 0 fun a1 => (zst h v5 100 0 (.inl (a1 + 1)) fun h2 => (zai xs h2 v0 ((4 * v7) + 1) fun a3 => (zst h2 v5 100 (a1 + 1) (.inl a3) fun h4 => (zai xs h4 v5 0 fun a5 => (zst h4 v5 100 0 (.inl (a5 + 1)) fun h6 => (zai xs h6 v0 ((4 * v7) + 1) fun a7 => (zst h6 v5 100 (a5 + 1) (.inl a7) fun h8 => zx zblk xs 83 123 [some (.inr (.inr v0)), some (.inr (.inr v1)), some (.inl v2), some (.inl v3), some (.inl v4), some (.inr (.inr v5)), some (.inl v6), none, some (.inl v8)] [] h8))))))))) := (zx_unfold zblk xs 83 77 _ rfl _ _ _).trans rfl
theorem e_L_plain_123 (xs : List Int) (v0 : Option Nat) (v1 : Option Nat) (v2 : Int) (v3 : Int) (v4 : Int) (v5 : Option Nat) (v6 : Int) (v8 : Int) (h : zH) : zx zblk xs 83 123 [some (.inr (.inr v0)), some (.inr (.inr v1)), some (.inl v2), some (.inl v3), some (.inl v4), some (.inr (.inr v5)), some (.inl v6), none, some (.inl v8)] [] h = (if zw v8 ≠ zw 4 then zx zblk xs 83 144 [some (.inr (.inr v0)), some (.inr (.inr v1)), some (.inl v2), some (.inl v3), some (.inl v4), some (.inr (.inr v5)), some (.inl v6)] [] h else (zai xs h v5 0 fun a1 => (if zw a1 ≤ 0 then zx zblk xs 83 144 [some (.inr (.inr v0)), some (.inr (.inr v1)), some (.inl v2), some (.inl v3), some (.inl v4), some (.inr (.inr v5)), some (.inl v6)] [] h else (zai xs h v5 0 fun a2 => (zst h v5 100 0 (.inl (a2 - 1)) fun h3 => zx zblk xs 83 144 [some (.inr (.inr v0)), some (.inr (.inr v1)), some (.inl v2), some (.inl v3), some (.inl v4), some (.inr (.inr v5)), some (.inl v6)] [] h3))))) := (zx_unfold zblk xs 83 123 _ rfl _ _ _).trans rfl
theorem e_L_plain_144 (xs : List Int) (v0 : Option Nat) (v1 : Option Nat) (v2 : Int) (v3 : Int) (v4 : Int) (v5 : Option Nat) (v6 : Int) (h : zH) : zx zblk xs 83 144 [some (.inr (.inr v0)), some (.inr (.inr v1)), some (.inl v2), some (.inl v3), some (.inl v4), some (.inr (.inr v5)), some (.inl v6)] [] h = zx zblk xs 83 8 [some (.inr (.inr v0)), some (.inr (.inr v1)), some (.inl v2), some (.inl v3), some (.inl v4), some (.inr (.inr v5)), some (.inl (v6 + 1))] [] h := (zx_unfold zblk xs 83 144 _ rfl _ _ _).trans rfl
theorem e_L_plain_150 (xs : List Int)  (h : zH) : zx zblk xs 83 150 [] [] h = some (none, h) := (zx_unfold zblk xs 83 150 _ rfl _ _ _).trans rfl
/-- MindReadersLaw.speech([I[III[I)V -/
noncomputable abbrev r_L_speech (xs : List Int) (v1 : Option Nat) (v2 : Option Nat) (v3 : Int) (v4 : Int) (v5 : Option Nat) (h : zH) : Option zR := zx zblk xs 84 0 [some (.inr (.inr v1)), some (.inr (.inr v2)), some (.inl v3), some (.inl v4), some (.inr (.inr v5))] [] h
theorem e_L_speech_0 (xs : List Int) (v0 : Option Nat) (v1 : Option Nat) (v2 : Int) (v3 : Int) (v4 : Option Nat) (h : zH) : zx zblk xs 84 0 [some (.inr (.inr v0)), some (.inr (.inr v1)), some (.inl v2), some (.inl v3), some (.inr (.inr v4))] [] h = (zai xs h v1 (1 + (6 * v2)) fun a1 => (zcv (zx zblk xs 83 0 [some (.inr (.inr v0)), some (.inr (.inr v1)), some (.inl (2 + (6 * v2))), some (.inl a1), some (.inl v3), some (.inr (.inr v4))] [] h) fun h2 => some (none, h2))) := (zx_unfold zblk xs 84 0 _ rfl _ _ _).trans rfl
/-- MindReadersLaw.like([I[I)Z -/
noncomputable abbrev r_L_like (xs : List Int) (v1 : Option Nat) (v2 : Option Nat) (h : zH) : Option zR := zx zblk xs 85 0 [some (.inr (.inr v1)), some (.inr (.inr v2))] [] h
theorem e_L_like_0 (xs : List Int) (v0 : Option Nat) (v1 : Option Nat) (h : zH) : zx zblk xs 85 0 [some (.inr (.inr v0)), some (.inr (.inr v1))] [] h = (zai xs h v0 0 fun a1 => (zai xs h v1 0 fun a2 => (if zw a1 ≠ zw a2 then zx zblk xs 85 13 [some (.inr (.inr v0)), some (.inr (.inr v1))] [] h else zx zblk xs 85 14 [some (.inr (.inr v0)), some (.inr (.inr v1))] [.inl 1] h))) := (zx_unfold zblk xs 85 0 _ rfl _ _ _).trans rfl
theorem e_L_like_13 (xs : List Int) (v0 : Option Nat) (v1 : Option Nat) (h : zH) : zx zblk xs 85 13 [some (.inr (.inr v0)), some (.inr (.inr v1))] [] h = zx zblk xs 85 14 [some (.inr (.inr v0)), some (.inr (.inr v1))] [.inl 0] h := (zx_unfold zblk xs 85 13 _ rfl _ _ _).trans rfl
theorem e_L_like_14 (xs : List Int) (v0 : Option Nat) (v1 : Option Nat) (s0 : Int) (h : zH) : zx zblk xs 85 14 [some (.inr (.inr v0)), some (.inr (.inr v1))] [.inl s0] h = zx zblk xs 85 17 [some (.inr (.inr v0)), some (.inr (.inr v1)), some (.inl s0), some (.inl 1)] [] h := (zx_unfold zblk xs 85 14 _ rfl _ _ _).trans rfl
theorem e_L_like_17 (xs : List Int) (v0 : Option Nat) (v1 : Option Nat) (v2 : Int) (v3 : Int) (h : zH) : zx zblk xs 85 17 [some (.inr (.inr v0)), some (.inr (.inr v1)), some (.inl v2), some (.inl v3)] [] h = (if zw v2 = 0 then zx zblk xs 85 49 [none, none, some (.inl v2)] [] h else (zai xs h v0 0 fun a1 => (if zw a1 < zw v3 then zx zblk xs 85 49 [none, none, some (.inl v2)] [] h else (zai xs h v0 v3 fun a2 => (zai xs h v1 v3 fun a3 => (if zw a2 ≠ zw a3 then zx zblk xs 85 41 [some (.inr (.inr v0)), some (.inr (.inr v1)), none, some (.inl v3)] [] h else zx zblk xs 85 42 [some (.inr (.inr v0)), some (.inr (.inr v1)), none, some (.inl v3)] [.inl 1] h)))))) := (zx_unfold zblk xs 85 17 _ rfl _ _ _).trans rfl
theorem e_L_like_41 (xs : List Int) (v0 : Option Nat) (v1 : Option Nat) (v3 : Int) (h : zH) : zx zblk xs 85 41 [some (.inr (.inr v0)), some (.inr (.inr v1)), none, some (.inl v3)] [] h = zx zblk xs 85 42 [some (.inr (.inr v0)), some (.inr (.inr v1)), none, some (.inl v3)] [.inl 0] h := (zx_unfold zblk xs 85 41 _ rfl _ _ _).trans rfl
theorem e_L_like_42 (xs : List Int) (v0 : Option Nat) (v1 : Option Nat) (v3 : Int) (s0 : Int) (h : zH) : zx zblk xs 85 42 [some (.inr (.inr v0)), some (.inr (.inr v1)), none, some (.inl v3)] [.inl s0] h = zx zblk xs 85 17 [some (.inr (.inr v0)), some (.inr (.inr v1)), some (.inl s0), some (.inl (v3 + 1))] [] h := (zx_unfold zblk xs 85 42 _ rfl _ _ _).trans rfl
theorem e_L_like_49 (xs : List Int) (v2 : Int) (h : zH) : zx zblk xs 85 49 [none, none, some (.inl v2)] [] h = (if v2 = 0 ∨ v2 = 1 then some (some (.inl v2), h) else none) := (zx_unfold zblk xs 85 49 _ rfl _ _ _).trans rfl
/-- MindReadersLaw.seconds([II)I -/
noncomputable abbrev r_L_seconds (xs : List Int) (v1 : Option Nat) (v2 : Int) (h : zH) : Option zR := zx zblk xs 86 0 [some (.inr (.inr v1)), some (.inl v2)] [] h
theorem e_L_seconds_0 (xs : List Int) (v0 : Option Nat) (v1 : Int) (h : zH) : zx zblk xs 86 0 [some (.inr (.inr v0)), some (.inl v1)] [] h = (zai xs h v0 32 fun a1 => (if zw a1 ≤ zw v1 then zx zblk xs 86 18 [] [] h else (zai xs h v0 ((4 * v1) + 2) fun a2 => zx zblk xs 86 19 [] [.inl a2] h))) := (zx_unfold zblk xs 86 0 _ rfl _ _ _).trans rfl
theorem e_L_seconds_18 (xs : List Int)  (h : zH) : zx zblk xs 86 18 [] [] h = zx zblk xs 86 19 [] [.inl 1] h := (zx_unfold zblk xs 86 18 _ rfl _ _ _).trans rfl
theorem e_L_seconds_19 (xs : List Int) (s0 : Int) (h : zH) : zx zblk xs 86 19 [] [.inl s0] h = some (some (.inl s0), h) := (zx_unfold zblk xs 86 19 _ rfl _ _ _).trans rfl
/-- MindReadersLaw.odd([II)I -/
noncomputable abbrev r_L_odd (xs : List Int) (v1 : Option Nat) (v2 : Int) (h : zH) : Option zR := zx zblk xs 87 0 [some (.inr (.inr v1)), some (.inl v2)] [] h
theorem e_L_odd_0 (xs : List Int) (v0 : Option Nat) (v1 : Int) (h : zH) : zx zblk xs 87 0 [some (.inr (.inr v0)), some (.inl v1)] [] h = (zai xs h v0 32 fun a1 => (if zw a1 ≤ zw v1 then zx zblk xs 87 18 [] [] h else (zai xs h v0 ((4 * v1) + 3) fun a2 => zx zblk xs 87 19 [] [.inl a2] h))) := (zx_unfold zblk xs 87 0 _ rfl _ _ _).trans rfl
theorem e_L_odd_18 (xs : List Int)  (h : zH) : zx zblk xs 87 18 [] [] h = zx zblk xs 87 19 [] [.inl 0] h := (zx_unfold zblk xs 87 18 _ rfl _ _ _).trans rfl
theorem e_L_odd_19 (xs : List Int) (s0 : Int) (h : zH) : zx zblk xs 87 19 [] [.inl s0] h = some (some (.inl s0), h) := (zx_unfold zblk xs 87 19 _ rfl _ _ _).trans rfl
/-- MindReadersLaw.long0([I[II)I -/
noncomputable abbrev r_L_long0 (xs : List Int) (v1 : Option Nat) (v2 : Option Nat) (v3 : Int) (h : zH) : Option zR := zx zblk xs 88 0 [some (.inr (.inr v1)), some (.inr (.inr v2)), some (.inl v3)] [] h
theorem e_L_long0_0 (xs : List Int) (v0 : Option Nat) (v1 : Option Nat) (v2 : Int) (h : zH) : zx zblk xs 88 0 [some (.inr (.inr v0)), some (.inr (.inr v1)), some (.inl v2)] [] h = zx zblk xs 88 5 [some (.inr (.inr v0)), some (.inr (.inr v1)), some (.inl v2), some (.inl 0), some (.inl 0)] [] h := (zx_unfold zblk xs 88 0 _ rfl _ _ _).trans rfl
theorem e_L_long0_5 (xs : List Int) (v0 : Option Nat) (v1 : Option Nat) (v2 : Int) (v3 : Int) (v4 : Int) (h : zH) : zx zblk xs 88 5 [some (.inr (.inr v0)), some (.inr (.inr v1)), some (.inl v2), some (.inl v3), some (.inl v4)] [] h = (zai xs h v1 (1 + (6 * v2)) fun a1 => (if zw a1 ≤ zw v4 then zx zblk xs 88 42 [none, none, none, some (.inl v3)] [] h else (zai xs h v1 ((2 + (6 * v2)) + v4) fun a2 => (zci (zx zblk xs 86 0 [some (.inr (.inr v0)), some (.inl a2)] [] h) fun r4 h3 => zx zblk xs 88 5 [some (.inr (.inr v0)), some (.inr (.inr v1)), some (.inl v2), some (.inl (v3 + r4)), some (.inl (v4 + 1))] [] h3)))) := (zx_unfold zblk xs 88 5 _ rfl _ _ _).trans rfl
theorem e_L_long0_42 (xs : List Int) (v3 : Int) (h : zH) : zx zblk xs 88 42 [none, none, none, some (.inl v3)] [] h = some (some (.inl v3), h) := (zx_unfold zblk xs 88 42 _ rfl _ _ _).trans rfl
/-- MindReadersLaw.share(JJJJ)Z -/
noncomputable abbrev r_L_share (xs : List Int) (v1 : Int) (v2 : Int) (v3 : Int) (v4 : Int) (h : zH) : Option zR := zx zblk xs 89 0 [some (.inr (.inl v1)), none, some (.inr (.inl v2)), none, some (.inr (.inl v3)), none, some (.inr (.inl v4)), none] [] h
theorem e_L_share_0 (xs : List Int) (v0 : Int) (v2 : Int) (v4 : Int) (v6 : Int) (h : zH) : zx zblk xs 89 0 [some (.inr (.inl v0)), none, some (.inr (.inl v2)), none, some (.inr (.inl v4)), none, some (.inr (.inl v6)), none] [] h = (if 0 ≤ zw (if zwl v2 < zwl 1 then -1 else if zwl v2 = zwl 1 then 0 else 1) then zx zblk xs 89 8 [some (.inr (.inl v0)), none, some (.inr (.inl v2)), none, some (.inr (.inl v4)), none, some (.inr (.inl v6))] [] h else (if 0 = 0 ∨ 0 = 1 then some (some (.inl 0), h) else none)) := (zx_unfold zblk xs 89 0 _ rfl _ _ _).trans rfl
theorem e_L_share_8 (xs : List Int) (v0 : Int) (v2 : Int) (v4 : Int) (v6 : Int) (h : zH) : zx zblk xs 89 8 [some (.inr (.inl v0)), none, some (.inr (.inl v2)), none, some (.inr (.inl v4)), none, some (.inr (.inl v6))] [] h = zx zblk xs 89 16 [some (.inr (.inl v0)), none, some (.inr (.inl v2)), none, some (.inr (.inl v4)), none, some (.inr (.inl v6)), none, some (.inr (.inl v6)), none, some (.inr (.inl v4))] [] h := (zx_unfold zblk xs 89 8 _ rfl _ _ _).trans rfl
theorem e_L_share_16 (xs : List Int) (v0 : Int) (v2 : Int) (v4 : Int) (v6 : Int) (v8 : Int) (v10 : Int) (h : zH) : zx zblk xs 89 16 [some (.inr (.inl v0)), none, some (.inr (.inl v2)), none, some (.inr (.inl v4)), none, some (.inr (.inl v6)), none, some (.inr (.inl v8)), none, some (.inr (.inl v10))] [] h = (if zw (if zwl v10 < zwl 0 then -1 else if zwl v10 = zwl 0 then 0 else 1) = 0 then zx zblk xs 89 41 [some (.inr (.inl v0)), none, some (.inr (.inl v2)), none, some (.inr (.inl v4)), none, some (.inr (.inl v6)), none, some (.inr (.inl v8))] [] h else (if zwl v10 = 0 then none else zx zblk xs 89 16 [some (.inr (.inl v0)), none, some (.inr (.inl v2)), none, some (.inr (.inl v4)), none, some (.inr (.inl v6)), none, some (.inr (.inl v10)), none, some (.inr (.inl ((zwl v8).tmod (zwl v10))))] [] h)) := (zx_unfold zblk xs 89 16 _ rfl _ _ _).trans rfl
theorem e_L_share_41 (xs : List Int) (v0 : Int) (v2 : Int) (v4 : Int) (v6 : Int) (v8 : Int) (h : zH) : zx zblk xs 89 41 [some (.inr (.inl v0)), none, some (.inr (.inl v2)), none, some (.inr (.inl v4)), none, some (.inr (.inl v6)), none, some (.inr (.inl v8))] [] h = (if zwl v8 = 0 then none else (if zw (if zwl v0 < zwl ((zwl v4).tdiv (zwl v8)) then -1 else if zwl v0 = zwl ((zwl v4).tdiv (zwl v8)) then 0 else 1) ≠ 0 then zx zblk xs 89 65 [] [] h else (if zwl v8 = 0 then none else (if zw (if zwl v2 < zwl ((zwl v6).tdiv (zwl v8)) then -1 else if zwl v2 = zwl ((zwl v6).tdiv (zwl v8)) then 0 else 1) ≠ 0 then zx zblk xs 89 65 [] [] h else zx zblk xs 89 66 [] [.inl 1] h)))) := (zx_unfold zblk xs 89 41 _ rfl _ _ _).trans rfl
theorem e_L_share_65 (xs : List Int)  (h : zH) : zx zblk xs 89 65 [] [] h = zx zblk xs 89 66 [] [.inl 0] h := (zx_unfold zblk xs 89 65 _ rfl _ _ _).trans rfl
theorem e_L_share_66 (xs : List Int) (s0 : Int) (h : zH) : zx zblk xs 89 66 [] [.inl s0] h = (if s0 = 0 ∨ s0 = 1 then some (some (.inl s0), h) else none) := (zx_unfold zblk xs 89 66 _ rfl _ _ _).trans rfl
/-- MindReadersLaw.rows(LMindReaders;[I[I[I)Z -/
noncomputable abbrev r_L_rows (xs : List Int) (v1 : Option Nat) (v2 : Option Nat) (v3 : Option Nat) (v4 : Option Nat) (h : zH) : Option zR := zx zblk xs 90 0 [some (.inr (.inr v1)), some (.inr (.inr v2)), some (.inr (.inr v3)), some (.inr (.inr v4))] [] h
theorem e_L_rows_0 (xs : List Int) (v0 : Option Nat) (v1 : Option Nat) (v2 : Option Nat) (v3 : Option Nat) (h : zH) : zx zblk xs 90 0 [some (.inr (.inr v0)), some (.inr (.inr v1)), some (.inr (.inr v2)), some (.inr (.inr v3))] [] h = (zna h 6 fun p1 h2 => (zna h2 6 fun p3 h4 => (zna h4 14 fun p5 h6 => (zna h6 12 fun p7 h8 => zx zblk xs 90 27 [some (.inr (.inr v0)), some (.inr (.inr v1)), some (.inr (.inr v2)), some (.inr (.inr v3)), some (.inr (.inr p1)), some (.inr (.inr p3)), some (.inr (.inr p5)), some (.inr (.inr p7)), some (.inl 0)] [] h8)))) := (zx_unfold zblk xs 90 0 _ rfl _ _ _).trans rfl
theorem e_L_rows_27 (xs : List Int) (v0 : Option Nat) (v1 : Option Nat) (v2 : Option Nat) (v3 : Option Nat) (v4 : Option Nat) (v5 : Option Nat) (v6 : Option Nat) (v7 : Option Nat) (v8 : Int) (h : zH) : zx zblk xs 90 27 [some (.inr (.inr v0)), some (.inr (.inr v1)), some (.inr (.inr v2)), some (.inr (.inr v3)), some (.inr (.inr v4)), some (.inr (.inr v5)), some (.inr (.inr v6)), some (.inr (.inr v7)), some (.inl v8)] [] h = (if zw 4 ≤ zw v8 then zx zblk xs 90 421 [] [] h else (zci (zx zblk xs 78 0 [some (.inr (.inr v1)), some (.inl (27 + v8))] [] h) fun r2 h1 => (zai xs h1 v3 0 fun a3 => (zci (zx zblk xs 79 0 [some (.inl r2), some (.inl a3)] [] h1) fun r5 h4 => (zai xs h4 v3 (1 + (6 * r5)) fun a6 => zx zblk xs 90 68 [some (.inr (.inr v0)), some (.inr (.inr v1)), some (.inr (.inr v2)), some (.inr (.inr v3)), some (.inr (.inr v4)), some (.inr (.inr v5)), some (.inr (.inr v6)), some (.inr (.inr v7)), some (.inl v8), some (.inl r2), some (.inl r5), some (.inl a6), some (.inl 0)] [] h4))))) := (zx_unfold zblk xs 90 27 _ rfl _ _ _).trans rfl
theorem e_L_rows_68 (xs : List Int) (v0 : Option Nat) (v1 : Option Nat) (v2 : Option Nat) (v3 : Option Nat) (v4 : Option Nat) (v5 : Option Nat) (v6 : Option Nat) (v7 : Option Nat) (v8 : Int) (v9 : Int) (v10 : Int) (v11 : Int) (v12 : Int) (h : zH) : zx zblk xs 90 68 [some (.inr (.inr v0)), some (.inr (.inr v1)), some (.inr (.inr v2)), some (.inr (.inr v3)), some (.inr (.inr v4)), some (.inr (.inr v5)), some (.inr (.inr v6)), some (.inr (.inr v7)), some (.inl v8), some (.inl v9), some (.inl v10), some (.inl v11), some (.inl v12)] [] h = (if zw v11 ≤ zw v12 then zx zblk xs 90 98 [some (.inr (.inr v0)), some (.inr (.inr v1)), some (.inr (.inr v2)), some (.inr (.inr v3)), some (.inr (.inr v4)), some (.inr (.inr v5)), some (.inr (.inr v6)), some (.inr (.inr v7)), some (.inl v8), some (.inl v9), none, some (.inl v11)] [] h else (zai xs h v3 ((2 + (6 * v10)) + v12) fun a1 => (zst h v4 100 v12 (.inl a1) fun h2 => zx zblk xs 90 68 [some (.inr (.inr v0)), some (.inr (.inr v1)), some (.inr (.inr v2)), some (.inr (.inr v3)), some (.inr (.inr v4)), some (.inr (.inr v5)), some (.inr (.inr v6)), some (.inr (.inr v7)), some (.inl v8), some (.inl v9), some (.inl v10), some (.inl v11), some (.inl (v12 + 1))] [] h2))) := (zx_unfold zblk xs 90 68 _ rfl _ _ _).trans rfl
theorem e_L_rows_98 (xs : List Int) (v0 : Option Nat) (v1 : Option Nat) (v2 : Option Nat) (v3 : Option Nat) (v4 : Option Nat) (v5 : Option Nat) (v6 : Option Nat) (v7 : Option Nat) (v8 : Int) (v9 : Int) (v11 : Int) (h : zH) : zx zblk xs 90 98 [some (.inr (.inr v0)), some (.inr (.inr v1)), some (.inr (.inr v2)), some (.inr (.inr v3)), some (.inr (.inr v4)), some (.inr (.inr v5)), some (.inr (.inr v6)), some (.inr (.inr v7)), some (.inl v8), some (.inl v9), none, some (.inl v11)] [] h = (zci (zx zblk xs 79 0 [some (.inl (zshr v9 3)), some (.inl 2)] [] h) fun r2 h1 => (if zw r2 ≠ 0 then zx zblk xs 90 131 [some (.inr (.inr v0)), some (.inr (.inr v1)), some (.inr (.inr v2)), some (.inr (.inr v3)), some (.inr (.inr v4)), some (.inr (.inr v5)), some (.inr (.inr v6)), some (.inr (.inr v7)), some (.inl v8), some (.inl v9), none, some (.inl v11)] [] h1 else (zci (zx zblk xs 79 0 [some (.inl (zshr v9 4)), some (.inl v11)] [] h1) fun r4 h3 => (zci (zx zblk xs 79 0 [some (.inl (zshr v9 7)), some (.inl 8)] [] h3) fun r6 h5 => (zst h5 v4 100 r4 (.inl r6) fun h7 => zx zblk xs 90 131 [some (.inr (.inr v0)), some (.inr (.inr v1)), some (.inr (.inr v2)), some (.inr (.inr v3)), some (.inr (.inr v4)), some (.inr (.inr v5)), some (.inr (.inr v6)), some (.inr (.inr v7)), some (.inl v8), some (.inl v9), none, some (.inl v11)] [] h7))))) := (zx_unfold zblk xs 90 98 _ rfl _ _ _).trans rfl
theorem e_L_rows_131 (xs : List Int) (v0 : Option Nat) (v1 : Option Nat) (v2 : Option Nat) (v3 : Option Nat) (v4 : Option Nat) (v5 : Option Nat) (v6 : Option Nat) (v7 : Option Nat) (v8 : Int) (v9 : Int) (v11 : Int) (h : zH) : zx zblk xs 90 131 [some (.inr (.inr v0)), some (.inr (.inr v1)), some (.inr (.inr v2)), some (.inr (.inr v3)), some (.inr (.inr v4)), some (.inr (.inr v5)), some (.inr (.inr v6)), some (.inr (.inr v7)), some (.inl v8), some (.inl v9), none, some (.inl v11)] [] h = (zci (zx zblk xs 79 0 [some (.inl (zshr v9 10)), some (.inl 5)] [] h) fun r2 h1 => (if zw r2 ≠ 0 then zx zblk xs 90 146 [some (.inr (.inr v0)), some (.inr (.inr v1)), some (.inr (.inr v2)), some (.inr (.inr v3)), some (.inr (.inr v4)), some (.inr (.inr v5)), some (.inr (.inr v6)), some (.inr (.inr v7)), some (.inl v8), none, none, some (.inl v11)] [] h1 else zx zblk xs 90 146 [some (.inr (.inr v0)), some (.inr (.inr v1)), some (.inr (.inr v2)), some (.inr (.inr v3)), some (.inr (.inr v4)), some (.inr (.inr v5)), some (.inr (.inr v6)), some (.inr (.inr v7)), some (.inl v8), none, none, some (.inl (v11 + (-1)))] [] h1)) := (zx_unfold zblk xs 90 131 _ rfl _ _ _).trans rfl
theorem e_L_rows_146 (xs : List Int) (v0 : Option Nat) (v1 : Option Nat) (v2 : Option Nat) (v3 : Option Nat) (v4 : Option Nat) (v5 : Option Nat) (v6 : Option Nat) (v7 : Option Nat) (v8 : Int) (v11 : Int) (h : zH) : zx zblk xs 90 146 [some (.inr (.inr v0)), some (.inr (.inr v1)), some (.inr (.inr v2)), some (.inr (.inr v3)), some (.inr (.inr v4)), some (.inr (.inr v5)), some (.inr (.inr v6)), some (.inr (.inr v7)), some (.inl v8), none, none, some (.inl v11)] [] h = zx zblk xs 90 149 [some (.inr (.inr v0)), some (.inr (.inr v1)), some (.inr (.inr v2)), some (.inr (.inr v3)), some (.inr (.inr v4)), some (.inr (.inr v5)), some (.inr (.inr v6)), some (.inr (.inr v7)), some (.inl v8), none, none, some (.inl v11), some (.inl 0)] [] h := (zx_unfold zblk xs 90 146 _ rfl _ _ _).trans rfl
theorem e_L_rows_149 (xs : List Int) (v0 : Option Nat) (v1 : Option Nat) (v2 : Option Nat) (v3 : Option Nat) (v4 : Option Nat) (v5 : Option Nat) (v6 : Option Nat) (v7 : Option Nat) (v8 : Int) (v11 : Int) (v12 : Int) (h : zH) : zx zblk xs 90 149 [some (.inr (.inr v0)), some (.inr (.inr v1)), some (.inr (.inr v2)), some (.inr (.inr v3)), some (.inr (.inr v4)), some (.inr (.inr v5)), some (.inr (.inr v6)), some (.inr (.inr v7)), some (.inl v8), none, none, some (.inl v11), some (.inl v12)] [] h = (if zw v11 ≤ zw v12 then zx zblk xs 90 175 [some (.inr (.inr v0)), some (.inr (.inr v1)), some (.inr (.inr v2)), some (.inr (.inr v3)), some (.inr (.inr v4)), some (.inr (.inr v5)), some (.inr (.inr v6)), some (.inr (.inr v7)), some (.inl v8), none, none, some (.inl v11)] [] h else (zai xs h v4 v12 fun a1 => (zst h v5 100 v12 (.inl (97 + a1)) fun h2 => zx zblk xs 90 149 [some (.inr (.inr v0)), some (.inr (.inr v1)), some (.inr (.inr v2)), some (.inr (.inr v3)), some (.inr (.inr v4)), some (.inr (.inr v5)), some (.inr (.inr v6)), some (.inr (.inr v7)), some (.inl v8), none, none, some (.inl v11), some (.inl (v12 + 1))] [] h2))) := (zx_unfold zblk xs 90 149 _ rfl _ _ _).trans rfl
theorem e_L_rows_175 (xs : List Int) (v0 : Option Nat) (v1 : Option Nat) (v2 : Option Nat) (v3 : Option Nat) (v4 : Option Nat) (v5 : Option Nat) (v6 : Option Nat) (v7 : Option Nat) (v8 : Int) (v11 : Int) (h : zH) : zx zblk xs 90 175 [some (.inr (.inr v0)), some (.inr (.inr v1)), some (.inr (.inr v2)), some (.inr (.inr v3)), some (.inr (.inr v4)), some (.inr (.inr v5)), some (.inr (.inr v6)), some (.inr (.inr v7)), some (.inl v8), none, none, some (.inl v11)] [] h = (zcv (zx zblk xs 83 0 [some (.inr (.inr v2)), some (.inr (.inr v4)), some (.inl 0), some (.inl v11), some (.inl 0), some (.inr (.inr v6))] [] h) fun h1 => zx zblk xs 90 200 [some (.inr (.inr v0)), some (.inr (.inr v1)), some (.inr (.inr v2)), some (.inr (.inr v3)), some (.inr (.inr v4)), some (.inr (.inr v5)), some (.inr (.inr v6)), some (.inr (.inr v7)), some (.inl v8), none, none, some (.inl v11), some (.inl (-1)), some (.inl (-1)), some (.inl 99), some (.inl 0)] [] h1) := (zx_unfold zblk xs 90 175 _ rfl _ _ _).trans rfl
theorem e_L_rows_200 (xs : List Int) (v0 : Option Nat) (v1 : Option Nat) (v2 : Option Nat) (v3 : Option Nat) (v4 : Option Nat) (v5 : Option Nat) (v6 : Option Nat) (v7 : Option Nat) (v8 : Int) (v11 : Int) (v12 : Int) (v13 : Int) (v14 : Int) (v15 : Int) (h : zH) : zx zblk xs 90 200 [some (.inr (.inr v0)), some (.inr (.inr v1)), some (.inr (.inr v2)), some (.inr (.inr v3)), some (.inr (.inr v4)), some (.inr (.inr v5)), some (.inr (.inr v6)), some (.inr (.inr v7)), some (.inl v8), none, none, some (.inl v11), some (.inl v12), some (.inl v13), some (.inl v14), some (.inl v15)] [] h = (zai xs h v3 0 fun a1 => (if zw a1 ≤ zw v15 then zx zblk xs 90 327 [some (.inr (.inr v0)), some (.inr (.inr v1)), some (.inr (.inr v2)), some (.inr (.inr v3)), some (.inr (.inr v4)), some (.inr (.inr v5)), some (.inr (.inr v6)), some (.inr (.inr v7)), some (.inl v8), none, none, some (.inl v11), some (.inl v12), some (.inl v13)] [] h else (zcv (zx zblk xs 84 0 [some (.inr (.inr v2)), some (.inr (.inr v3)), some (.inl v15), some (.inl 0), some (.inr (.inr v7))] [] h) fun h2 => (zci (zx zblk xs 85 0 [some (.inr (.inr v6)), some (.inr (.inr v7))] [] h2) fun r4 h3 => (if zw r4 = 0 then zx zblk xs 90 237 [some (.inr (.inr v0)), some (.inr (.inr v1)), some (.inr (.inr v2)), some (.inr (.inr v3)), some (.inr (.inr v4)), some (.inr (.inr v5)), some (.inr (.inr v6)), some (.inr (.inr v7)), some (.inl v8), none, none, some (.inl v11), some (.inl v12), some (.inl v13), some (.inl v14), some (.inl v15)] [] h3 else (if 0 ≤ zw v12 then zx zblk xs 90 237 [some (.inr (.inr v0)), some (.inr (.inr v1)), some (.inr (.inr v2)), some (.inr (.inr v3)), some (.inr (.inr v4)), some (.inr (.inr v5)), some (.inr (.inr v6)), some (.inr (.inr v7)), some (.inl v8), none, none, some (.inl v11), some (.inl v12), some (.inl v13), some (.inl v14), some (.inl v15)] [] h3 else zx zblk xs 90 237 [some (.inr (.inr v0)), some (.inr (.inr v1)), some (.inr (.inr v2)), some (.inr (.inr v3)), some (.inr (.inr v4)), some (.inr (.inr v5)), some (.inr (.inr v6)), some (.inr (.inr v7)), some (.inl v8), none, none, some (.inl v11), some (.inl v15), some (.inl v13), some (.inl v14), some (.inl v15)] [] h3)))))) := (zx_unfold zblk xs 90 200 _ rfl _ _ _).trans rfl
theorem e_L_rows_237 (xs : List Int) (v0 : Option Nat) (v1 : Option Nat) (v2 : Option Nat) (v3 : Option Nat) (v4 : Option Nat) (v5 : Option Nat) (v6 : Option Nat) (v7 : Option Nat) (v8 : Int) (v11 : Int) (v12 : Int) (v13 : Int) (v14 : Int) (v15 : Int) (h : zH) : zx zblk xs 90 237 [some (.inr (.inr v0)), some (.inr (.inr v1)), some (.inr (.inr v2)), some (.inr (.inr v3)), some (.inr (.inr v4)), some (.inr (.inr v5)), some (.inr (.inr v6)), some (.inr (.inr v7)), some (.inl v8), none, none, some (.inl v11), some (.inl v12), some (.inl v13), some (.inl v14), some (.inl v15)] [] h = zx zblk xs 90 243 [some (.inr (.inr v0)), some (.inr (.inr v1)), some (.inr (.inr v2)), some (.inr (.inr v3)), some (.inr (.inr v4)), some (.inr (.inr v5)), some (.inr (.inr v6)), some (.inr (.inr v7)), some (.inl v8), none, none, some (.inl v11), some (.inl v12), some (.inl v13), some (.inl v14), some (.inl v15), some (.inl 0), some (.inl 1)] [] h := (zx_unfold zblk xs 90 237 _ rfl _ _ _).trans rfl
theorem e_L_rows_243 (xs : List Int) (v0 : Option Nat) (v1 : Option Nat) (v2 : Option Nat) (v3 : Option Nat) (v4 : Option Nat) (v5 : Option Nat) (v6 : Option Nat) (v7 : Option Nat) (v8 : Int) (v11 : Int) (v12 : Int) (v13 : Int) (v14 : Int) (v15 : Int) (v16 : Int) (v17 : Int) (h : zH) : zx zblk xs 90 243 [some (.inr (.inr v0)), some (.inr (.inr v1)), some (.inr (.inr v2)), some (.inr (.inr v3)), some (.inr (.inr v4)), some (.inr (.inr v5)), some (.inr (.inr v6)), some (.inr (.inr v7)), some (.inl v8), none, none, some (.inl v11), some (.inl v12), some (.inl v13), some (.inl v14), some (.inl v15), some (.inl v16), some (.inl v17)] [] h = (zai xs h v6 0 fun a1 => (if zw a1 < zw v17 then zx zblk xs 90 292 [some (.inr (.inr v0)), some (.inr (.inr v1)), some (.inr (.inr v2)), some (.inr (.inr v3)), some (.inr (.inr v4)), some (.inr (.inr v5)), some (.inr (.inr v6)), some (.inr (.inr v7)), some (.inl v8), none, none, some (.inl v11), some (.inl v12), some (.inl v13), some (.inl v14), some (.inl v15), some (.inl v16)] [] h else (zai xs h v6 0 fun a2 => (zai xs h v7 0 fun a3 => (if zw a2 ≠ zw a3 then zx zblk xs 90 292 [some (.inr (.inr v0)), some (.inr (.inr v1)), some (.inr (.inr v2)), some (.inr (.inr v3)), some (.inr (.inr v4)), some (.inr (.inr v5)), some (.inr (.inr v6)), some (.inr (.inr v7)), some (.inl v8), none, none, some (.inl v11), some (.inl v12), some (.inl v13), some (.inl v14), some (.inl v15), some (.inl v16)] [] h else (zai xs h v6 v17 fun a4 => (zai xs h v7 v17 fun a5 => (if zw a4 ≠ zw a5 then zx zblk xs 90 282 [some (.inr (.inr v0)), some (.inr (.inr v1)), some (.inr (.inr v2)), some (.inr (.inr v3)), some (.inr (.inr v4)), some (.inr (.inr v5)), some (.inr (.inr v6)), some (.inr (.inr v7)), some (.inl v8), none, none, some (.inl v11), some (.inl v12), some (.inl v13), some (.inl v14), some (.inl v15), none, some (.inl v17)] [.inl v16] h else zx zblk xs 90 283 [some (.inr (.inr v0)), some (.inr (.inr v1)), some (.inr (.inr v2)), some (.inr (.inr v3)), some (.inr (.inr v4)), some (.inr (.inr v5)), some (.inr (.inr v6)), some (.inr (.inr v7)), some (.inl v8), none, none, some (.inl v11), some (.inl v12), some (.inl v13), some (.inl v14), some (.inl v15), none, some (.inl v17)] [.inl 0, .inl v16] h)))))))) := (zx_unfold zblk xs 90 243 _ rfl _ _ _).trans rfl
theorem e_L_rows_282 (xs : List Int) (v0 : Option Nat) (v1 : Option Nat) (v2 : Option Nat) (v3 : Option Nat) (v4 : Option Nat) (v5 : Option Nat) (v6 : Option Nat) (v7 : Option Nat) (v8 : Int) (v11 : Int) (v12 : Int) (v13 : Int) (v14 : Int) (v15 : Int) (v17 : Int) (s0 : Int) (h : zH) : zx zblk xs 90 282 [some (.inr (.inr v0)), some (.inr (.inr v1)), some (.inr (.inr v2)), some (.inr (.inr v3)), some (.inr (.inr v4)), some (.inr (.inr v5)), some (.inr (.inr v6)), some (.inr (.inr v7)), some (.inl v8), none, none, some (.inl v11), some (.inl v12), some (.inl v13), some (.inl v14), some (.inl v15), none, some (.inl v17)] [.inl s0] h = zx zblk xs 90 283 [some (.inr (.inr v0)), some (.inr (.inr v1)), some (.inr (.inr v2)), some (.inr (.inr v3)), some (.inr (.inr v4)), some (.inr (.inr v5)), some (.inr (.inr v6)), some (.inr (.inr v7)), some (.inl v8), none, none, some (.inl v11), some (.inl v12), some (.inl v13), some (.inl v14), some (.inl v15), none, some (.inl v17)] [.inl 1, .inl s0] h := (zx_unfold zblk xs 90 282 _ rfl _ _ _).trans rfl
theorem e_L_rows_283 (xs : List Int) (v0 : Option Nat) (v1 : Option Nat) (v2 : Option Nat) (v3 : Option Nat) (v4 : Option Nat) (v5 : Option Nat) (v6 : Option Nat) (v7 : Option Nat) (v8 : Int) (v11 : Int) (v12 : Int) (v13 : Int) (v14 : Int) (v15 : Int) (v17 : Int) (s0 : Int) (s1 : Int) (h : zH) : zx zblk xs 90 283 [some (.inr (.inr v0)), some (.inr (.inr v1)), some (.inr (.inr v2)), some (.inr (.inr v3)), some (.inr (.inr v4)), some (.inr (.inr v5)), some (.inr (.inr v6)), some (.inr (.inr v7)), some (.inl v8), none, none, some (.inl v11), some (.inl v12), some (.inl v13), some (.inl v14), some (.inl v15), none, some (.inl v17)] [.inl s1, .inl s0] h = zx zblk xs 90 243 [some (.inr (.inr v0)), some (.inr (.inr v1)), some (.inr (.inr v2)), some (.inr (.inr v3)), some (.inr (.inr v4)), some (.inr (.inr v5)), some (.inr (.inr v6)), some (.inr (.inr v7)), some (.inl v8), none, none, some (.inl v11), some (.inl v12), some (.inl v13), some (.inl v14), some (.inl v15), some (.inl (s0 + s1)), some (.inl (v17 + 1))] [] h := (zx_unfold zblk xs 90 283 _ rfl _ _ _).trans rfl
theorem e_L_rows_292 (xs : List Int) (v0 : Option Nat) (v1 : Option Nat) (v2 : Option Nat) (v3 : Option Nat) (v4 : Option Nat) (v5 : Option Nat) (v6 : Option Nat) (v7 : Option Nat) (v8 : Int) (v11 : Int) (v12 : Int) (v13 : Int) (v14 : Int) (v15 : Int) (v16 : Int) (h : zH) : zx zblk xs 90 292 [some (.inr (.inr v0)), some (.inr (.inr v1)), some (.inr (.inr v2)), some (.inr (.inr v3)), some (.inr (.inr v4)), some (.inr (.inr v5)), some (.inr (.inr v6)), some (.inr (.inr v7)), some (.inl v8), none, none, some (.inl v11), some (.inl v12), some (.inl v13), some (.inl v14), some (.inl v15), some (.inl v16)] [] h = (zai xs h v6 0 fun a1 => (zai xs h v7 0 fun a2 => (if zw a1 ≠ zw a2 then zx zblk xs 90 321 [some (.inr (.inr v0)), some (.inr (.inr v1)), some (.inr (.inr v2)), some (.inr (.inr v3)), some (.inr (.inr v4)), some (.inr (.inr v5)), some (.inr (.inr v6)), some (.inr (.inr v7)), some (.inl v8), none, none, some (.inl v11), some (.inl v12), some (.inl v13), some (.inl v14), some (.inl v15)] [] h else (if zw v16 < zw v14 then zx zblk xs 90 313 [some (.inr (.inr v0)), some (.inr (.inr v1)), some (.inr (.inr v2)), some (.inr (.inr v3)), some (.inr (.inr v4)), some (.inr (.inr v5)), some (.inr (.inr v6)), some (.inr (.inr v7)), some (.inl v8), none, none, some (.inl v11), some (.inl v12), none, none, some (.inl v15), some (.inl v16)] [] h else zx zblk xs 90 321 [some (.inr (.inr v0)), some (.inr (.inr v1)), some (.inr (.inr v2)), some (.inr (.inr v3)), some (.inr (.inr v4)), some (.inr (.inr v5)), some (.inr (.inr v6)), some (.inr (.inr v7)), some (.inl v8), none, none, some (.inl v11), some (.inl v12), some (.inl v13), some (.inl v14), some (.inl v15)] [] h)))) := (zx_unfold zblk xs 90 292 _ rfl _ _ _).trans rfl
theorem e_L_rows_313 (xs : List Int) (v0 : Option Nat) (v1 : Option Nat) (v2 : Option Nat) (v3 : Option Nat) (v4 : Option Nat) (v5 : Option Nat) (v6 : Option Nat) (v7 : Option Nat) (v8 : Int) (v11 : Int) (v12 : Int) (v15 : Int) (v16 : Int) (h : zH) : zx zblk xs 90 313 [some (.inr (.inr v0)), some (.inr (.inr v1)), some (.inr (.inr v2)), some (.inr (.inr v3)), some (.inr (.inr v4)), some (.inr (.inr v5)), some (.inr (.inr v6)), some (.inr (.inr v7)), some (.inl v8), none, none, some (.inl v11), some (.inl v12), none, none, some (.inl v15), some (.inl v16)] [] h = zx zblk xs 90 321 [some (.inr (.inr v0)), some (.inr (.inr v1)), some (.inr (.inr v2)), some (.inr (.inr v3)), some (.inr (.inr v4)), some (.inr (.inr v5)), some (.inr (.inr v6)), some (.inr (.inr v7)), some (.inl v8), none, none, some (.inl v11), some (.inl v12), some (.inl v15), some (.inl v16), some (.inl v15)] [] h := (zx_unfold zblk xs 90 313 _ rfl _ _ _).trans rfl
theorem e_L_rows_321 (xs : List Int) (v0 : Option Nat) (v1 : Option Nat) (v2 : Option Nat) (v3 : Option Nat) (v4 : Option Nat) (v5 : Option Nat) (v6 : Option Nat) (v7 : Option Nat) (v8 : Int) (v11 : Int) (v12 : Int) (v13 : Int) (v14 : Int) (v15 : Int) (h : zH) : zx zblk xs 90 321 [some (.inr (.inr v0)), some (.inr (.inr v1)), some (.inr (.inr v2)), some (.inr (.inr v3)), some (.inr (.inr v4)), some (.inr (.inr v5)), some (.inr (.inr v6)), some (.inr (.inr v7)), some (.inl v8), none, none, some (.inl v11), some (.inl v12), some (.inl v13), some (.inl v14), some (.inl v15)] [] h = zx zblk xs 90 200 [some (.inr (.inr v0)), some (.inr (.inr v1)), some (.inr (.inr v2)), some (.inr (.inr v3)), some (.inr (.inr v4)), some (.inr (.inr v5)), some (.inr (.inr v6)), some (.inr (.inr v7)), some (.inl v8), none, none, some (.inl v11), some (.inl v12), some (.inl v13), some (.inl v14), some (.inl (v15 + 1))] [] h := (zx_unfold zblk xs 90 321 _ rfl _ _ _).trans rfl
theorem e_L_rows_327 (xs : List Int) (v0 : Option Nat) (v1 : Option Nat) (v2 : Option Nat) (v3 : Option Nat) (v4 : Option Nat) (v5 : Option Nat) (v6 : Option Nat) (v7 : Option Nat) (v8 : Int) (v11 : Int) (v12 : Int) (v13 : Int) (h : zH) : zx zblk xs 90 327 [some (.inr (.inr v0)), some (.inr (.inr v1)), some (.inr (.inr v2)), some (.inr (.inr v3)), some (.inr (.inr v4)), some (.inr (.inr v5)), some (.inr (.inr v6)), some (.inr (.inr v7)), some (.inl v8), none, none, some (.inl v11), some (.inl v12), some (.inl v13)] [] h = (zci (zx zblk xs 82 0 [some (.inr (.inr v0)), some (.inr (.inr v5)), some (.inl v11)] [] h) fun r2 h1 => (if zw r2 = 0 then zx zblk xs 90 413 [] [] h1 else (zck h1 v0 6 (zci (zx zblk xs 50 0 [some (.inr (.inr v0)), some (.inl 0)] [] h1) fun r4 h3 => (if zw r4 ≠ zw v12 then zx zblk xs 90 413 [] [] h3 else (zck h3 v0 6 (zci (zx zblk xs 58 0 [some (.inr (.inr v0)), some (.inl 0)] [] h3) fun r6 h5 => (if zw r6 ≠ zw v13 then zx zblk xs 90 413 [] [] h5 else (zck h5 v0 6 (zci (zx zblk xs 44 0 [some (.inr (.inr v0)), some (.inr (.inl 120)), none] [] h5) fun r8 h7 => (if zw r8 ≠ zw (v11 + 1) then zx zblk xs 90 413 [] [] h7 else (zck h7 v0 6 (zci (zx zblk xs 50 0 [some (.inr (.inr v0)), some (.inl 0)] [] h7) fun r10 h9 => (if zw r10 ≠ zw (-103) then zx zblk xs 90 413 [] [] h9 else (zck h9 v0 6 (zci (zx zblk xs 58 0 [some (.inr (.inr v0)), some (.inl 0)] [] h9) fun r12 h11 => (if zw r12 ≠ zw (-103) then zx zblk xs 90 413 [] [] h11 else (zck h11 v0 6 (zci (zx zblk xs 50 0 [some (.inr (.inr v0)), some (.inl 1)] [] h11) fun r14 h13 => (if zw r14 ≠ zw (-101) then zx zblk xs 90 413 [] [] h13 else (zck h13 v0 6 (zci (zx zblk xs 45 0 [some (.inr (.inr v0))] [] h13) fun r16 h15 => (if zw r16 = zw (v11 + 1) then zx zblk xs 90 415 [some (.inr (.inr v0)), some (.inr (.inr v1)), some (.inr (.inr v2)), some (.inr (.inr v3)), some (.inr (.inr v4)), some (.inr (.inr v5)), some (.inr (.inr v6)), some (.inr (.inr v7)), some (.inl v8)] [] h15 else zx zblk xs 90 413 [] [] h15))))))))))))))))))))))) := (zx_unfold zblk xs 90 327 _ rfl _ _ _).trans rfl
theorem e_L_rows_413 (xs : List Int)  (h : zH) : zx zblk xs 90 413 [] [] h = (if 0 = 0 ∨ 0 = 1 then some (some (.inl 0), h) else none) := (zx_unfold zblk xs 90 413 _ rfl _ _ _).trans rfl
theorem e_L_rows_415 (xs : List Int) (v0 : Option Nat) (v1 : Option Nat) (v2 : Option Nat) (v3 : Option Nat) (v4 : Option Nat) (v5 : Option Nat) (v6 : Option Nat) (v7 : Option Nat) (v8 : Int) (h : zH) : zx zblk xs 90 415 [some (.inr (.inr v0)), some (.inr (.inr v1)), some (.inr (.inr v2)), some (.inr (.inr v3)), some (.inr (.inr v4)), some (.inr (.inr v5)), some (.inr (.inr v6)), some (.inr (.inr v7)), some (.inl v8)] [] h = zx zblk xs 90 27 [some (.inr (.inr v0)), some (.inr (.inr v1)), some (.inr (.inr v2)), some (.inr (.inr v3)), some (.inr (.inr v4)), some (.inr (.inr v5)), some (.inr (.inr v6)), some (.inr (.inr v7)), some (.inl (v8 + 1))] [] h := (zx_unfold zblk xs 90 415 _ rfl _ _ _).trans rfl
theorem e_L_rows_421 (xs : List Int)  (h : zH) : zx zblk xs 90 421 [] [] h = (if 1 = 0 ∨ 1 = 1 then some (some (.inl 1), h) else none) := (zx_unfold zblk xs 90 421 _ rfl _ _ _).trans rfl
/-- MindReadersLaw.twice(LMindReaders;[I[I)Z -/
noncomputable abbrev r_L_twice (xs : List Int) (v1 : Option Nat) (v2 : Option Nat) (v3 : Option Nat) (h : zH) : Option zR := zx zblk xs 91 0 [some (.inr (.inr v1)), some (.inr (.inr v2)), some (.inr (.inr v3))] [] h
theorem e_L_twice_0 (xs : List Int) (v0 : Option Nat) (v1 : Option Nat) (v2 : Option Nat) (h : zH) : zx zblk xs 91 0 [some (.inr (.inr v0)), some (.inr (.inr v1)), some (.inr (.inr v2))] [] h = (zna h 12 fun p1 h2 => (zna h2 12 fun p3 h4 => (zna h4 64 fun p5 h6 => (zna h6 32 fun p7 h8 => zx zblk xs 91 26 [some (.inr (.inr v0)), some (.inr (.inr v1)), some (.inr (.inr v2)), some (.inr (.inr p1)), some (.inr (.inr p3)), some (.inr (.inr p5)), some (.inr (.inr p7)), some (.inl 0)] [] h8)))) := (zx_unfold zblk xs 91 0 _ rfl _ _ _).trans rfl
theorem e_L_twice_26 (xs : List Int) (v0 : Option Nat) (v1 : Option Nat) (v2 : Option Nat) (v3 : Option Nat) (v4 : Option Nat) (v5 : Option Nat) (v6 : Option Nat) (v7 : Int) (h : zH) : zx zblk xs 91 26 [some (.inr (.inr v0)), some (.inr (.inr v1)), some (.inr (.inr v2)), some (.inr (.inr v3)), some (.inr (.inr v4)), some (.inr (.inr v5)), some (.inr (.inr v6)), some (.inl v7)] [] h = (if zw 64 ≤ zw v7 then zx zblk xs 91 47 [some (.inr (.inr v0)), some (.inr (.inr v1)), some (.inr (.inr v2)), some (.inr (.inr v3)), some (.inr (.inr v4)), some (.inr (.inr v5)), some (.inr (.inr v6))] [] h else (zst h v5 100 v7 (.inl 999) fun h1 => zx zblk xs 91 26 [some (.inr (.inr v0)), some (.inr (.inr v1)), some (.inr (.inr v2)), some (.inr (.inr v3)), some (.inr (.inr v4)), some (.inr (.inr v5)), some (.inr (.inr v6)), some (.inl (v7 + 1))] [] h1)) := (zx_unfold zblk xs 91 26 _ rfl _ _ _).trans rfl
theorem e_L_twice_47 (xs : List Int) (v0 : Option Nat) (v1 : Option Nat) (v2 : Option Nat) (v3 : Option Nat) (v4 : Option Nat) (v5 : Option Nat) (v6 : Option Nat) (h : zH) : zx zblk xs 91 47 [some (.inr (.inr v0)), some (.inr (.inr v1)), some (.inr (.inr v2)), some (.inr (.inr v3)), some (.inr (.inr v4)), some (.inr (.inr v5)), some (.inr (.inr v6))] [] h = zx zblk xs 91 50 [some (.inr (.inr v0)), some (.inr (.inr v1)), some (.inr (.inr v2)), some (.inr (.inr v3)), some (.inr (.inr v4)), some (.inr (.inr v5)), some (.inr (.inr v6)), some (.inl 0)] [] h := (zx_unfold zblk xs 91 47 _ rfl _ _ _).trans rfl
theorem e_L_twice_50 (xs : List Int) (v0 : Option Nat) (v1 : Option Nat) (v2 : Option Nat) (v3 : Option Nat) (v4 : Option Nat) (v5 : Option Nat) (v6 : Option Nat) (v7 : Int) (h : zH) : zx zblk xs 91 50 [some (.inr (.inr v0)), some (.inr (.inr v1)), some (.inr (.inr v2)), some (.inr (.inr v3)), some (.inr (.inr v4)), some (.inr (.inr v5)), some (.inr (.inr v6)), some (.inl v7)] [] h = (if zw 32 ≤ zw v7 then zx zblk xs 91 71 [some (.inr (.inr v0)), some (.inr (.inr v1)), some (.inr (.inr v2)), some (.inr (.inr v3)), some (.inr (.inr v4)), some (.inr (.inr v5)), some (.inr (.inr v6))] [] h else (zst h v6 100 v7 (.inl 999) fun h1 => zx zblk xs 91 50 [some (.inr (.inr v0)), some (.inr (.inr v1)), some (.inr (.inr v2)), some (.inr (.inr v3)), some (.inr (.inr v4)), some (.inr (.inr v5)), some (.inr (.inr v6)), some (.inl (v7 + 1))] [] h1)) := (zx_unfold zblk xs 91 50 _ rfl _ _ _).trans rfl
theorem e_L_twice_71 (xs : List Int) (v0 : Option Nat) (v1 : Option Nat) (v2 : Option Nat) (v3 : Option Nat) (v4 : Option Nat) (v5 : Option Nat) (v6 : Option Nat) (h : zH) : zx zblk xs 91 71 [some (.inr (.inr v0)), some (.inr (.inr v1)), some (.inr (.inr v2)), some (.inr (.inr v3)), some (.inr (.inr v4)), some (.inr (.inr v5)), some (.inr (.inr v6))] [] h = zx zblk xs 91 79 [some (.inr (.inr v0)), some (.inr (.inr v1)), some (.inr (.inr v2)), some (.inr (.inr v3)), some (.inr (.inr v4)), some (.inr (.inr v5)), some (.inr (.inr v6)), some (.inl 999), some (.inl 0)] [] h := (zx_unfold zblk xs 91 71 _ rfl _ _ _).trans rfl
theorem e_L_twice_79 (xs : List Int) (v0 : Option Nat) (v1 : Option Nat) (v2 : Option Nat) (v3 : Option Nat) (v4 : Option Nat) (v5 : Option Nat) (v6 : Option Nat) (v7 : Int) (v8 : Int) (h : zH) : zx zblk xs 91 79 [some (.inr (.inr v0)), some (.inr (.inr v1)), some (.inr (.inr v2)), some (.inr (.inr v3)), some (.inr (.inr v4)), some (.inr (.inr v5)), some (.inr (.inr v6)), some (.inl v7), some (.inl v8)] [] h = (zai xs h v2 0 fun a1 => (if zw a1 ≤ zw v8 then zx zblk xs 91 284 [some (.inr (.inr v0)), some (.inr (.inr v1)), some (.inr (.inr v2)), some (.inr (.inr v3)), some (.inr (.inr v4)), some (.inr (.inr v5)), some (.inr (.inr v6)), some (.inl v7)] [] h else zx zblk xs 91 90 [some (.inr (.inr v0)), some (.inr (.inr v1)), some (.inr (.inr v2)), some (.inr (.inr v3)), some (.inr (.inr v4)), some (.inr (.inr v5)), some (.inr (.inr v6)), some (.inl v7), some (.inl v8), some (.inl 0)] [] h)) := (zx_unfold zblk xs 91 79 _ rfl _ _ _).trans rfl
theorem e_L_twice_90 (xs : List Int) (v0 : Option Nat) (v1 : Option Nat) (v2 : Option Nat) (v3 : Option Nat) (v4 : Option Nat) (v5 : Option Nat) (v6 : Option Nat) (v7 : Int) (v8 : Int) (v9 : Int) (h : zH) : zx zblk xs 91 90 [some (.inr (.inr v0)), some (.inr (.inr v1)), some (.inr (.inr v2)), some (.inr (.inr v3)), some (.inr (.inr v4)), some (.inr (.inr v5)), some (.inr (.inr v6)), some (.inl v7), some (.inl v8), some (.inl v9)] [] h = (zai xs h v2 0 fun a1 => (if zw a1 ≤ zw v9 then zx zblk xs 91 278 [some (.inr (.inr v0)), some (.inr (.inr v1)), some (.inr (.inr v2)), some (.inr (.inr v3)), some (.inr (.inr v4)), some (.inr (.inr v5)), some (.inr (.inr v6)), some (.inl v7), some (.inl v8)] [] h else (zcv (zx zblk xs 84 0 [some (.inr (.inr v1)), some (.inr (.inr v2)), some (.inl v8), some (.inl 0), some (.inr (.inr v3))] [] h) fun h2 => (zcv (zx zblk xs 84 0 [some (.inr (.inr v1)), some (.inr (.inr v2)), some (.inl v9), some (.inl 0), some (.inr (.inr v4))] [] h2) fun h3 => (if zw v8 = zw v9 then zx zblk xs 91 272 [some (.inr (.inr v0)), some (.inr (.inr v1)), some (.inr (.inr v2)), some (.inr (.inr v3)), some (.inr (.inr v4)), some (.inr (.inr v5)), some (.inr (.inr v6)), some (.inl v7), some (.inl v8), some (.inl v9)] [] h3 else (zai xs h3 v3 0 fun a4 => (if zw a4 = 0 then zx zblk xs 91 272 [some (.inr (.inr v0)), some (.inr (.inr v1)), some (.inr (.inr v2)), some (.inr (.inr v3)), some (.inr (.inr v4)), some (.inr (.inr v5)), some (.inr (.inr v6)), some (.inl v7), some (.inl v8), some (.inl v9)] [] h3 else (zai xs h3 v3 0 fun a5 => (zai xs h3 v4 0 fun a6 => (if zw a5 ≤ zw a6 then zx zblk xs 91 143 [some (.inr (.inr v0)), some (.inr (.inr v1)), some (.inr (.inr v2)), some (.inr (.inr v3)), some (.inr (.inr v4)), some (.inr (.inr v5)), some (.inr (.inr v6)), some (.inl v7), some (.inl v8), some (.inl v9)] [] h3 else zx zblk xs 91 272 [some (.inr (.inr v0)), some (.inr (.inr v1)), some (.inr (.inr v2)), some (.inr (.inr v3)), some (.inr (.inr v4)), some (.inr (.inr v5)), some (.inr (.inr v6)), some (.inl v7), some (.inl v8), some (.inl v9)] [] h3)))))))))) := (zx_unfold zblk xs 91 90 _ rfl _ _ _).trans rfl
theorem e_L_twice_143 (xs : List Int) (v0 : Option Nat) (v1 : Option Nat) (v2 : Option Nat) (v3 : Option Nat) (v4 : Option Nat) (v5 : Option Nat) (v6 : Option Nat) (v7 : Int) (v8 : Int) (v9 : Int) (h : zH) : zx zblk xs 91 143 [some (.inr (.inr v0)), some (.inr (.inr v1)), some (.inr (.inr v2)), some (.inr (.inr v3)), some (.inr (.inr v4)), some (.inr (.inr v5)), some (.inr (.inr v6)), some (.inl v7), some (.inl v8), some (.inl v9)] [] h = zx zblk xs 91 149 [some (.inr (.inr v0)), some (.inr (.inr v1)), some (.inr (.inr v2)), some (.inr (.inr v3)), some (.inr (.inr v4)), some (.inr (.inr v5)), some (.inr (.inr v6)), some (.inl v7), some (.inl v8), some (.inl v9), some (.inl 1), some (.inl 1)] [] h := (zx_unfold zblk xs 91 143 _ rfl _ _ _).trans rfl
theorem e_L_twice_149 (xs : List Int) (v0 : Option Nat) (v1 : Option Nat) (v2 : Option Nat) (v3 : Option Nat) (v4 : Option Nat) (v5 : Option Nat) (v6 : Option Nat) (v7 : Int) (v8 : Int) (v9 : Int) (v10 : Int) (v11 : Int) (h : zH) : zx zblk xs 91 149 [some (.inr (.inr v0)), some (.inr (.inr v1)), some (.inr (.inr v2)), some (.inr (.inr v3)), some (.inr (.inr v4)), some (.inr (.inr v5)), some (.inr (.inr v6)), some (.inl v7), some (.inl v8), some (.inl v9), some (.inl v10), some (.inl v11)] [] h = (zai xs h v3 0 fun a1 => (if zw a1 < zw v11 then zx zblk xs 91 185 [some (.inr (.inr v0)), some (.inr (.inr v1)), some (.inr (.inr v2)), some (.inr (.inr v3)), some (.inr (.inr v4)), some (.inr (.inr v5)), some (.inr (.inr v6)), some (.inl v7), some (.inl v8), some (.inl v9), some (.inl v10)] [] h else (zai xs h v3 v11 fun a2 => (zai xs h v4 v11 fun a3 => (if zw a2 ≠ zw a3 then zx zblk xs 91 175 [some (.inr (.inr v0)), some (.inr (.inr v1)), some (.inr (.inr v2)), some (.inr (.inr v3)), some (.inr (.inr v4)), some (.inr (.inr v5)), some (.inr (.inr v6)), some (.inl v7), some (.inl v8), some (.inl v9), none, some (.inl v11)] [.inl v10] h else zx zblk xs 91 176 [some (.inr (.inr v0)), some (.inr (.inr v1)), some (.inr (.inr v2)), some (.inr (.inr v3)), some (.inr (.inr v4)), some (.inr (.inr v5)), some (.inr (.inr v6)), some (.inl v7), some (.inl v8), some (.inl v9), none, some (.inl v11)] [.inl 1, .inl v10] h))))) := (zx_unfold zblk xs 91 149 _ rfl _ _ _).trans rfl
theorem e_L_twice_175 (xs : List Int) (v0 : Option Nat) (v1 : Option Nat) (v2 : Option Nat) (v3 : Option Nat) (v4 : Option Nat) (v5 : Option Nat) (v6 : Option Nat) (v7 : Int) (v8 : Int) (v9 : Int) (v11 : Int) (s0 : Int) (h : zH) : zx zblk xs 91 175 [some (.inr (.inr v0)), some (.inr (.inr v1)), some (.inr (.inr v2)), some (.inr (.inr v3)), some (.inr (.inr v4)), some (.inr (.inr v5)), some (.inr (.inr v6)), some (.inl v7), some (.inl v8), some (.inl v9), none, some (.inl v11)] [.inl s0] h = zx zblk xs 91 176 [some (.inr (.inr v0)), some (.inr (.inr v1)), some (.inr (.inr v2)), some (.inr (.inr v3)), some (.inr (.inr v4)), some (.inr (.inr v5)), some (.inr (.inr v6)), some (.inl v7), some (.inl v8), some (.inl v9), none, some (.inl v11)] [.inl 0, .inl s0] h := (zx_unfold zblk xs 91 175 _ rfl _ _ _).trans rfl
theorem e_L_twice_176 (xs : List Int) (v0 : Option Nat) (v1 : Option Nat) (v2 : Option Nat) (v3 : Option Nat) (v4 : Option Nat) (v5 : Option Nat) (v6 : Option Nat) (v7 : Int) (v8 : Int) (v9 : Int) (v11 : Int) (s0 : Int) (s1 : Int) (h : zH) : zx zblk xs 91 176 [some (.inr (.inr v0)), some (.inr (.inr v1)), some (.inr (.inr v2)), some (.inr (.inr v3)), some (.inr (.inr v4)), some (.inr (.inr v5)), some (.inr (.inr v6)), some (.inl v7), some (.inl v8), some (.inl v9), none, some (.inl v11)] [.inl s1, .inl s0] h = zx zblk xs 91 149 [some (.inr (.inr v0)), some (.inr (.inr v1)), some (.inr (.inr v2)), some (.inr (.inr v3)), some (.inr (.inr v4)), some (.inr (.inr v5)), some (.inr (.inr v6)), some (.inl v7), some (.inl v8), some (.inl v9), some (.inl (zand s0 s1)), some (.inl (v11 + 1))] [] h := (zx_unfold zblk xs 91 176 _ rfl _ _ _).trans rfl
theorem e_L_twice_185 (xs : List Int) (v0 : Option Nat) (v1 : Option Nat) (v2 : Option Nat) (v3 : Option Nat) (v4 : Option Nat) (v5 : Option Nat) (v6 : Option Nat) (v7 : Int) (v8 : Int) (v9 : Int) (v10 : Int) (h : zH) : zx zblk xs 91 185 [some (.inr (.inr v0)), some (.inr (.inr v1)), some (.inr (.inr v2)), some (.inr (.inr v3)), some (.inr (.inr v4)), some (.inr (.inr v5)), some (.inr (.inr v6)), some (.inl v7), some (.inl v8), some (.inl v9), some (.inl v10)] [] h = (if zw v10 ≠ 0 then zx zblk xs 91 193 [some (.inr (.inr v0)), some (.inr (.inr v1)), some (.inr (.inr v2)), some (.inr (.inr v3)), some (.inr (.inr v4)), some (.inr (.inr v5)), some (.inr (.inr v6)), some (.inl v7), some (.inl v8), some (.inl v9)] [] h else zx zblk xs 91 272 [some (.inr (.inr v0)), some (.inr (.inr v1)), some (.inr (.inr v2)), some (.inr (.inr v3)), some (.inr (.inr v4)), some (.inr (.inr v5)), some (.inr (.inr v6)), some (.inl v7), some (.inl v8), some (.inl v9)] [] h) := (zx_unfold zblk xs 91 185 _ rfl _ _ _).trans rfl
theorem e_L_twice_193 (xs : List Int) (v0 : Option Nat) (v1 : Option Nat) (v2 : Option Nat) (v3 : Option Nat) (v4 : Option Nat) (v5 : Option Nat) (v6 : Option Nat) (v7 : Int) (v8 : Int) (v9 : Int) (h : zH) : zx zblk xs 91 193 [some (.inr (.inr v0)), some (.inr (.inr v1)), some (.inr (.inr v2)), some (.inr (.inr v3)), some (.inr (.inr v4)), some (.inr (.inr v5)), some (.inr (.inr v6)), some (.inl v7), some (.inl v8), some (.inl v9)] [] h = (zai xs h v3 0 fun a1 => (zai xs h v4 0 fun a2 => (if zw a1 ≠ zw a2 then zx zblk xs 91 226 [some (.inr (.inr v0)), some (.inr (.inr v1)), some (.inr (.inr v2)), some (.inr (.inr v3)), some (.inr (.inr v4)), some (.inr (.inr v5)), some (.inr (.inr v6)), some (.inl v7), some (.inl v8), some (.inl v9)] [] h else (zai xs h v4 0 fun a3 => (if zw v7 ≤ zw a3 then zx zblk xs 91 219 [some (.inr (.inr v0)), some (.inr (.inr v1)), some (.inr (.inr v2)), some (.inr (.inr v3)), some (.inr (.inr v4)), some (.inr (.inr v5)), some (.inr (.inr v6)), some (.inl v7), some (.inl v8), some (.inl v9)] [] h else (zai xs h v4 0 fun a4 => zx zblk xs 91 221 [some (.inr (.inr v0)), some (.inr (.inr v1)), some (.inr (.inr v2)), some (.inr (.inr v3)), some (.inr (.inr v4)), some (.inr (.inr v5)), some (.inr (.inr v6)), none, some (.inl v8), some (.inl v9)] [.inl a4] h)))))) := (zx_unfold zblk xs 91 193 _ rfl _ _ _).trans rfl
theorem e_L_twice_219 (xs : List Int) (v0 : Option Nat) (v1 : Option Nat) (v2 : Option Nat) (v3 : Option Nat) (v4 : Option Nat) (v5 : Option Nat) (v6 : Option Nat) (v7 : Int) (v8 : Int) (v9 : Int) (h : zH) : zx zblk xs 91 219 [some (.inr (.inr v0)), some (.inr (.inr v1)), some (.inr (.inr v2)), some (.inr (.inr v3)), some (.inr (.inr v4)), some (.inr (.inr v5)), some (.inr (.inr v6)), some (.inl v7), some (.inl v8), some (.inl v9)] [] h = zx zblk xs 91 221 [some (.inr (.inr v0)), some (.inr (.inr v1)), some (.inr (.inr v2)), some (.inr (.inr v3)), some (.inr (.inr v4)), some (.inr (.inr v5)), some (.inr (.inr v6)), none, some (.inl v8), some (.inl v9)] [.inl v7] h := (zx_unfold zblk xs 91 219 _ rfl _ _ _).trans rfl
theorem e_L_twice_221 (xs : List Int) (v0 : Option Nat) (v1 : Option Nat) (v2 : Option Nat) (v3 : Option Nat) (v4 : Option Nat) (v5 : Option Nat) (v6 : Option Nat) (v8 : Int) (v9 : Int) (s0 : Int) (h : zH) : zx zblk xs 91 221 [some (.inr (.inr v0)), some (.inr (.inr v1)), some (.inr (.inr v2)), some (.inr (.inr v3)), some (.inr (.inr v4)), some (.inr (.inr v5)), some (.inr (.inr v6)), none, some (.inl v8), some (.inl v9)] [.inl s0] h = zx zblk xs 91 272 [some (.inr (.inr v0)), some (.inr (.inr v1)), some (.inr (.inr v2)), some (.inr (.inr v3)), some (.inr (.inr v4)), some (.inr (.inr v5)), some (.inr (.inr v6)), some (.inl s0), some (.inl v8), some (.inl v9)] [] h := (zx_unfold zblk xs 91 221 _ rfl _ _ _).trans rfl
theorem e_L_twice_226 (xs : List Int) (v0 : Option Nat) (v1 : Option Nat) (v2 : Option Nat) (v3 : Option Nat) (v4 : Option Nat) (v5 : Option Nat) (v6 : Option Nat) (v7 : Int) (v8 : Int) (v9 : Int) (h : zH) : zx zblk xs 91 226 [some (.inr (.inr v0)), some (.inr (.inr v1)), some (.inr (.inr v2)), some (.inr (.inr v3)), some (.inr (.inr v4)), some (.inr (.inr v5)), some (.inr (.inr v6)), some (.inl v7), some (.inl v8), some (.inl v9)] [] h = (zai xs h v3 0 fun a1 => (if zw 8 ≤ zw a1 then zx zblk xs 91 253 [some (.inr (.inr v0)), some (.inr (.inr v1)), some (.inr (.inr v2)), some (.inr (.inr v3)), some (.inr (.inr v4)), some (.inr (.inr v5)), some (.inr (.inr v6)), some (.inl v7), some (.inl v8), some (.inl v9)] [] h else (zai xs h v3 0 fun a2 => (zai xs h v4 0 fun a3 => (zst h v5 100 ((8 * a2) + v9) (.inl a3) fun h4 => zx zblk xs 91 272 [some (.inr (.inr v0)), some (.inr (.inr v1)), some (.inr (.inr v2)), some (.inr (.inr v3)), some (.inr (.inr v4)), some (.inr (.inr v5)), some (.inr (.inr v6)), some (.inl v7), some (.inl v8), some (.inl v9)] [] h4))))) := (zx_unfold zblk xs 91 226 _ rfl _ _ _).trans rfl
theorem e_L_twice_253 (xs : List Int) (v0 : Option Nat) (v1 : Option Nat) (v2 : Option Nat) (v3 : Option Nat) (v4 : Option Nat) (v5 : Option Nat) (v6 : Option Nat) (v7 : Int) (v8 : Int) (v9 : Int) (h : zH) : zx zblk xs 91 253 [some (.inr (.inr v0)), some (.inr (.inr v1)), some (.inr (.inr v2)), some (.inr (.inr v3)), some (.inr (.inr v4)), some (.inr (.inr v5)), some (.inr (.inr v6)), some (.inl v7), some (.inl v8), some (.inl v9)] [] h = (zai xs h v3 0 fun a1 => (zai xs h v4 0 fun a2 => (zst h v6 100 (((8 * a1) - 64) + v9) (.inl a2) fun h3 => zx zblk xs 91 272 [some (.inr (.inr v0)), some (.inr (.inr v1)), some (.inr (.inr v2)), some (.inr (.inr v3)), some (.inr (.inr v4)), some (.inr (.inr v5)), some (.inr (.inr v6)), some (.inl v7), some (.inl v8), some (.inl v9)] [] h3))) := (zx_unfold zblk xs 91 253 _ rfl _ _ _).trans rfl
theorem e_L_twice_272 (xs : List Int) (v0 : Option Nat) (v1 : Option Nat) (v2 : Option Nat) (v3 : Option Nat) (v4 : Option Nat) (v5 : Option Nat) (v6 : Option Nat) (v7 : Int) (v8 : Int) (v9 : Int) (h : zH) : zx zblk xs 91 272 [some (.inr (.inr v0)), some (.inr (.inr v1)), some (.inr (.inr v2)), some (.inr (.inr v3)), some (.inr (.inr v4)), some (.inr (.inr v5)), some (.inr (.inr v6)), some (.inl v7), some (.inl v8), some (.inl v9)] [] h = zx zblk xs 91 90 [some (.inr (.inr v0)), some (.inr (.inr v1)), some (.inr (.inr v2)), some (.inr (.inr v3)), some (.inr (.inr v4)), some (.inr (.inr v5)), some (.inr (.inr v6)), some (.inl v7), some (.inl v8), some (.inl (v9 + 1))] [] h := (zx_unfold zblk xs 91 272 _ rfl _ _ _).trans rfl
theorem e_L_twice_278 (xs : List Int) (v0 : Option Nat) (v1 : Option Nat) (v2 : Option Nat) (v3 : Option Nat) (v4 : Option Nat) (v5 : Option Nat) (v6 : Option Nat) (v7 : Int) (v8 : Int) (h : zH) : zx zblk xs 91 278 [some (.inr (.inr v0)), some (.inr (.inr v1)), some (.inr (.inr v2)), some (.inr (.inr v3)), some (.inr (.inr v4)), some (.inr (.inr v5)), some (.inr (.inr v6)), some (.inl v7), some (.inl v8)] [] h = zx zblk xs 91 79 [some (.inr (.inr v0)), some (.inr (.inr v1)), some (.inr (.inr v2)), some (.inr (.inr v3)), some (.inr (.inr v4)), some (.inr (.inr v5)), some (.inr (.inr v6)), some (.inl v7), some (.inl (v8 + 1))] [] h := (zx_unfold zblk xs 91 278 _ rfl _ _ _).trans rfl
theorem e_L_twice_284 (xs : List Int) (v0 : Option Nat) (v1 : Option Nat) (v2 : Option Nat) (v3 : Option Nat) (v4 : Option Nat) (v5 : Option Nat) (v6 : Option Nat) (v7 : Int) (h : zH) : zx zblk xs 91 284 [some (.inr (.inr v0)), some (.inr (.inr v1)), some (.inr (.inr v2)), some (.inr (.inr v3)), some (.inr (.inr v4)), some (.inr (.inr v5)), some (.inr (.inr v6)), some (.inl v7)] [] h = zx zblk xs 91 287 [some (.inr (.inr v0)), some (.inr (.inr v1)), some (.inr (.inr v2)), some (.inr (.inr v3)), some (.inr (.inr v4)), some (.inr (.inr v5)), some (.inr (.inr v6)), some (.inl v7), some (.inl 1)] [] h := (zx_unfold zblk xs 91 284 _ rfl _ _ _).trans rfl
theorem e_L_twice_287 (xs : List Int) (v0 : Option Nat) (v1 : Option Nat) (v2 : Option Nat) (v3 : Option Nat) (v4 : Option Nat) (v5 : Option Nat) (v6 : Option Nat) (v7 : Int) (v8 : Int) (h : zH) : zx zblk xs 91 287 [some (.inr (.inr v0)), some (.inr (.inr v1)), some (.inr (.inr v2)), some (.inr (.inr v3)), some (.inr (.inr v4)), some (.inr (.inr v5)), some (.inr (.inr v6)), some (.inl v7), some (.inl v8)] [] h = (if zw v8 = 0 then zx zblk xs 91 687 [some (.inr (.inr v0)), none, none, none, none, none, none, some (.inl v7)] [] h else zx zblk xs 91 298 [some (.inr (.inr v0)), some (.inr (.inr v1)), some (.inr (.inr v2)), some (.inr (.inr v3)), some (.inr (.inr v4)), some (.inr (.inr v5)), some (.inr (.inr v6)), some (.inl v7), some (.inl 0), some (.inl 0)] [] h) := (zx_unfold zblk xs 91 287 _ rfl _ _ _).trans rfl
theorem e_L_twice_298 (xs : List Int) (v0 : Option Nat) (v1 : Option Nat) (v2 : Option Nat) (v3 : Option Nat) (v4 : Option Nat) (v5 : Option Nat) (v6 : Option Nat) (v7 : Int) (v8 : Int) (v9 : Int) (h : zH) : zx zblk xs 91 298 [some (.inr (.inr v0)), some (.inr (.inr v1)), some (.inr (.inr v2)), some (.inr (.inr v3)), some (.inr (.inr v4)), some (.inr (.inr v5)), some (.inr (.inr v6)), some (.inl v7), some (.inl v8), some (.inl v9)] [] h = (zai xs h v2 0 fun a1 => (if zw a1 ≤ zw v9 then zx zblk xs 91 684 [some (.inr (.inr v0)), some (.inr (.inr v1)), some (.inr (.inr v2)), some (.inr (.inr v3)), some (.inr (.inr v4)), some (.inr (.inr v5)), some (.inr (.inr v6)), some (.inl v7), some (.inl v8)] [] h else zx zblk xs 91 309 [some (.inr (.inr v0)), some (.inr (.inr v1)), some (.inr (.inr v2)), some (.inr (.inr v3)), some (.inr (.inr v4)), some (.inr (.inr v5)), some (.inr (.inr v6)), some (.inl v7), some (.inl v8), some (.inl v9), some (.inl 1)] [] h)) := (zx_unfold zblk xs 91 298 _ rfl _ _ _).trans rfl
theorem e_L_twice_309 (xs : List Int) (v0 : Option Nat) (v1 : Option Nat) (v2 : Option Nat) (v3 : Option Nat) (v4 : Option Nat) (v5 : Option Nat) (v6 : Option Nat) (v7 : Int) (v8 : Int) (v9 : Int) (v10 : Int) (h : zH) : zx zblk xs 91 309 [some (.inr (.inr v0)), some (.inr (.inr v1)), some (.inr (.inr v2)), some (.inr (.inr v3)), some (.inr (.inr v4)), some (.inr (.inr v5)), some (.inr (.inr v6)), some (.inl v7), some (.inl v8), some (.inl v9), some (.inl v10)] [] h = (if zw 11 ≤ zw v10 then zx zblk xs 91 678 [some (.inr (.inr v0)), some (.inr (.inr v1)), some (.inr (.inr v2)), some (.inr (.inr v3)), some (.inr (.inr v4)), some (.inr (.inr v5)), some (.inr (.inr v6)), some (.inl v7), some (.inl v8), some (.inl v9)] [] h else (if zw 8 ≤ zw v10 then zx zblk xs 91 337 [some (.inr (.inr v0)), some (.inr (.inr v1)), some (.inr (.inr v2)), some (.inr (.inr v3)), some (.inr (.inr v4)), some (.inr (.inr v5)), some (.inr (.inr v6)), some (.inl v7), some (.inl v8), some (.inl v9), some (.inl v10)] [] h else (zai xs h v5 ((8 * v10) + v9) fun a1 => zx zblk xs 91 351 [some (.inr (.inr v0)), some (.inr (.inr v1)), some (.inr (.inr v2)), some (.inr (.inr v3)), some (.inr (.inr v4)), some (.inr (.inr v5)), some (.inr (.inr v6)), some (.inl v7), some (.inl v8), some (.inl v9), some (.inl v10)] [.inl a1] h))) := (zx_unfold zblk xs 91 309 _ rfl _ _ _).trans rfl
theorem e_L_twice_337 (xs : List Int) (v0 : Option Nat) (v1 : Option Nat) (v2 : Option Nat) (v3 : Option Nat) (v4 : Option Nat) (v5 : Option Nat) (v6 : Option Nat) (v7 : Int) (v8 : Int) (v9 : Int) (v10 : Int) (h : zH) : zx zblk xs 91 337 [some (.inr (.inr v0)), some (.inr (.inr v1)), some (.inr (.inr v2)), some (.inr (.inr v3)), some (.inr (.inr v4)), some (.inr (.inr v5)), some (.inr (.inr v6)), some (.inl v7), some (.inl v8), some (.inl v9), some (.inl v10)] [] h = (zai xs h v6 (((8 * v10) - 64) + v9) fun a1 => zx zblk xs 91 351 [some (.inr (.inr v0)), some (.inr (.inr v1)), some (.inr (.inr v2)), some (.inr (.inr v3)), some (.inr (.inr v4)), some (.inr (.inr v5)), some (.inr (.inr v6)), some (.inl v7), some (.inl v8), some (.inl v9), some (.inl v10)] [.inl a1] h) := (zx_unfold zblk xs 91 337 _ rfl _ _ _).trans rfl
theorem e_L_twice_351 (xs : List Int) (v0 : Option Nat) (v1 : Option Nat) (v2 : Option Nat) (v3 : Option Nat) (v4 : Option Nat) (v5 : Option Nat) (v6 : Option Nat) (v7 : Int) (v8 : Int) (v9 : Int) (v10 : Int) (s0 : Int) (h : zH) : zx zblk xs 91 351 [some (.inr (.inr v0)), some (.inr (.inr v1)), some (.inr (.inr v2)), some (.inr (.inr v3)), some (.inr (.inr v4)), some (.inr (.inr v5)), some (.inr (.inr v6)), some (.inl v7), some (.inl v8), some (.inl v9), some (.inl v10)] [.inl s0] h = (if zw s0 < zw v7 then zx zblk xs 91 363 [some (.inr (.inr v0)), some (.inr (.inr v1)), some (.inr (.inr v2)), some (.inr (.inr v3)), some (.inr (.inr v4)), some (.inr (.inr v5)), some (.inr (.inr v6)), some (.inl v7), some (.inl v8), some (.inl v9), some (.inl v10), some (.inl s0)] [] h else zx zblk xs 91 672 [some (.inr (.inr v0)), some (.inr (.inr v1)), some (.inr (.inr v2)), some (.inr (.inr v3)), some (.inr (.inr v4)), some (.inr (.inr v5)), some (.inr (.inr v6)), some (.inl v7), some (.inl v8), some (.inl v9), some (.inl v10)] [] h) := (zx_unfold zblk xs 91 351 _ rfl _ _ _).trans rfl
theorem e_L_twice_363 (xs : List Int) (v0 : Option Nat) (v1 : Option Nat) (v2 : Option Nat) (v3 : Option Nat) (v4 : Option Nat) (v5 : Option Nat) (v6 : Option Nat) (v7 : Int) (v8 : Int) (v9 : Int) (v10 : Int) (v11 : Int) (h : zH) : zx zblk xs 91 363 [some (.inr (.inr v0)), some (.inr (.inr v1)), some (.inr (.inr v2)), some (.inr (.inr v3)), some (.inr (.inr v4)), some (.inr (.inr v5)), some (.inr (.inr v6)), some (.inl v7), some (.inl v8), some (.inl v9), some (.inl v10), some (.inl v11)] [] h = (zcv (zx zblk xs 84 0 [some (.inr (.inr v1)), some (.inr (.inr v2)), some (.inl v9), some (.inl 0), some (.inr (.inr v4))] [] h) fun h1 => zx zblk xs 91 376 [some (.inr (.inr v0)), some (.inr (.inr v1)), some (.inr (.inr v2)), some (.inr (.inr v3)), some (.inr (.inr v4)), some (.inr (.inr v5)), some (.inr (.inr v6)), some (.inl v7), some (.inl v8), some (.inl v9), some (.inl v10), some (.inl v11), some (.inl 0)] [] h1) := (zx_unfold zblk xs 91 363 _ rfl _ _ _).trans rfl
theorem e_L_twice_376 (xs : List Int) (v0 : Option Nat) (v1 : Option Nat) (v2 : Option Nat) (v3 : Option Nat) (v4 : Option Nat) (v5 : Option Nat) (v6 : Option Nat) (v7 : Int) (v8 : Int) (v9 : Int) (v10 : Int) (v11 : Int) (v12 : Int) (h : zH) : zx zblk xs 91 376 [some (.inr (.inr v0)), some (.inr (.inr v1)), some (.inr (.inr v2)), some (.inr (.inr v3)), some (.inr (.inr v4)), some (.inr (.inr v5)), some (.inr (.inr v6)), some (.inl v7), some (.inl v8), some (.inl v9), some (.inl v10), some (.inl v11), some (.inl v12)] [] h = (zai xs h v2 0 fun a1 => (if zw a1 ≤ zw v12 then zx zblk xs 91 672 [some (.inr (.inr v0)), some (.inr (.inr v1)), some (.inr (.inr v2)), some (.inr (.inr v3)), some (.inr (.inr v4)), some (.inr (.inr v5)), some (.inr (.inr v6)), some (.inl v7), some (.inl v8), some (.inl v9), some (.inl v10)] [] h else (zcv (zx zblk xs 84 0 [some (.inr (.inr v1)), some (.inr (.inr v2)), some (.inl v12), some (.inl 0), some (.inr (.inr v3))] [] h) fun h2 => (zai xs h2 v4 0 fun a3 => (zai xs h2 v3 0 fun a4 => (if zw a4 ≠ 0 then zx zblk xs 91 411 [some (.inr (.inr v0)), some (.inr (.inr v1)), some (.inr (.inr v2)), some (.inr (.inr v3)), some (.inr (.inr v4)), some (.inr (.inr v5)), some (.inr (.inr v6)), some (.inl v7), some (.inl v8), some (.inl v9), some (.inl v10), some (.inl v11), some (.inl v12), some (.inl (a3 - v10))] [] h2 else zx zblk xs 91 666 [some (.inr (.inr v0)), some (.inr (.inr v1)), some (.inr (.inr v2)), some (.inr (.inr v3)), some (.inr (.inr v4)), some (.inr (.inr v5)), some (.inr (.inr v6)), some (.inl v7), some (.inl v8), some (.inl v9), some (.inl v10), some (.inl v11), some (.inl v12)] [] h2)))))) := (zx_unfold zblk xs 91 376 _ rfl _ _ _).trans rfl
theorem e_L_twice_411 (xs : List Int) (v0 : Option Nat) (v1 : Option Nat) (v2 : Option Nat) (v3 : Option Nat) (v4 : Option Nat) (v5 : Option Nat) (v6 : Option Nat) (v7 : Int) (v8 : Int) (v9 : Int) (v10 : Int) (v11 : Int) (v12 : Int) (v13 : Int) (h : zH) : zx zblk xs 91 411 [some (.inr (.inr v0)), some (.inr (.inr v1)), some (.inr (.inr v2)), some (.inr (.inr v3)), some (.inr (.inr v4)), some (.inr (.inr v5)), some (.inr (.inr v6)), some (.inl v7), some (.inl v8), some (.inl v9), some (.inl v10), some (.inl v11), some (.inl v12), some (.inl v13)] [] h = zx zblk xs 91 417 [some (.inr (.inr v0)), some (.inr (.inr v1)), some (.inr (.inr v2)), some (.inr (.inr v3)), some (.inr (.inr v4)), some (.inr (.inr v5)), some (.inr (.inr v6)), some (.inl v7), some (.inl v8), some (.inl v9), some (.inl v10), some (.inl v11), some (.inl v12), some (.inl v13), some (.inl 1), some (.inl 1)] [] h := (zx_unfold zblk xs 91 411 _ rfl _ _ _).trans rfl
theorem e_L_twice_417 (xs : List Int) (v0 : Option Nat) (v1 : Option Nat) (v2 : Option Nat) (v3 : Option Nat) (v4 : Option Nat) (v5 : Option Nat) (v6 : Option Nat) (v7 : Int) (v8 : Int) (v9 : Int) (v10 : Int) (v11 : Int) (v12 : Int) (v13 : Int) (v14 : Int) (v15 : Int) (h : zH) : zx zblk xs 91 417 [some (.inr (.inr v0)), some (.inr (.inr v1)), some (.inr (.inr v2)), some (.inr (.inr v3)), some (.inr (.inr v4)), some (.inr (.inr v5)), some (.inr (.inr v6)), some (.inl v7), some (.inl v8), some (.inl v9), some (.inl v10), some (.inl v11), some (.inl v12), some (.inl v13), some (.inl v14), some (.inl v15)] [] h = (zai xs h v3 0 fun a1 => (if zw a1 < zw v15 then zx zblk xs 91 463 [some (.inr (.inr v0)), some (.inr (.inr v1)), some (.inr (.inr v2)), some (.inr (.inr v3)), some (.inr (.inr v4)), some (.inr (.inr v5)), some (.inr (.inr v6)), some (.inl v7), some (.inl v8), some (.inl v9), some (.inl v10), some (.inl v11), some (.inl v12), some (.inl v13), some (.inl v14)] [] h else (if zw v13 < zw v15 then zx zblk xs 91 463 [some (.inr (.inr v0)), some (.inr (.inr v1)), some (.inr (.inr v2)), some (.inr (.inr v3)), some (.inr (.inr v4)), some (.inr (.inr v5)), some (.inr (.inr v6)), some (.inl v7), some (.inl v8), some (.inl v9), some (.inl v10), some (.inl v11), some (.inl v12), some (.inl v13), some (.inl v14)] [] h else (zai xs h v3 v15 fun a2 => (zai xs h v4 (v10 + v15) fun a3 => (if zw a2 ≠ zw a3 then zx zblk xs 91 453 [some (.inr (.inr v0)), some (.inr (.inr v1)), some (.inr (.inr v2)), some (.inr (.inr v3)), some (.inr (.inr v4)), some (.inr (.inr v5)), some (.inr (.inr v6)), some (.inl v7), some (.inl v8), some (.inl v9), some (.inl v10), some (.inl v11), some (.inl v12), some (.inl v13), none, some (.inl v15)] [.inl v14] h else zx zblk xs 91 454 [some (.inr (.inr v0)), some (.inr (.inr v1)), some (.inr (.inr v2)), some (.inr (.inr v3)), some (.inr (.inr v4)), some (.inr (.inr v5)), some (.inr (.inr v6)), some (.inl v7), some (.inl v8), some (.inl v9), some (.inl v10), some (.inl v11), some (.inl v12), some (.inl v13), none, some (.inl v15)] [.inl 1, .inl v14] h)))))) := (zx_unfold zblk xs 91 417 _ rfl _ _ _).trans rfl
theorem e_L_twice_453 (xs : List Int) (v0 : Option Nat) (v1 : Option Nat) (v2 : Option Nat) (v3 : Option Nat) (v4 : Option Nat) (v5 : Option Nat) (v6 : Option Nat) (v7 : Int) (v8 : Int) (v9 : Int) (v10 : Int) (v11 : Int) (v12 : Int) (v13 : Int) (v15 : Int) (s0 : Int) (h : zH) : zx zblk xs 91 453 [some (.inr (.inr v0)), some (.inr (.inr v1)), some (.inr (.inr v2)), some (.inr (.inr v3)), some (.inr (.inr v4)), some (.inr (.inr v5)), some (.inr (.inr v6)), some (.inl v7), some (.inl v8), some (.inl v9), some (.inl v10), some (.inl v11), some (.inl v12), some (.inl v13), none, some (.inl v15)] [.inl s0] h = zx zblk xs 91 454 [some (.inr (.inr v0)), some (.inr (.inr v1)), some (.inr (.inr v2)), some (.inr (.inr v3)), some (.inr (.inr v4)), some (.inr (.inr v5)), some (.inr (.inr v6)), some (.inl v7), some (.inl v8), some (.inl v9), some (.inl v10), some (.inl v11), some (.inl v12), some (.inl v13), none, some (.inl v15)] [.inl 0, .inl s0] h := (zx_unfold zblk xs 91 453 _ rfl _ _ _).trans rfl
theorem e_L_twice_454 (xs : List Int) (v0 : Option Nat) (v1 : Option Nat) (v2 : Option Nat) (v3 : Option Nat) (v4 : Option Nat) (v5 : Option Nat) (v6 : Option Nat) (v7 : Int) (v8 : Int) (v9 : Int) (v10 : Int) (v11 : Int) (v12 : Int) (v13 : Int) (v15 : Int) (s0 : Int) (s1 : Int) (h : zH) : zx zblk xs 91 454 [some (.inr (.inr v0)), some (.inr (.inr v1)), some (.inr (.inr v2)), some (.inr (.inr v3)), some (.inr (.inr v4)), some (.inr (.inr v5)), some (.inr (.inr v6)), some (.inl v7), some (.inl v8), some (.inl v9), some (.inl v10), some (.inl v11), some (.inl v12), some (.inl v13), none, some (.inl v15)] [.inl s1, .inl s0] h = zx zblk xs 91 417 [some (.inr (.inr v0)), some (.inr (.inr v1)), some (.inr (.inr v2)), some (.inr (.inr v3)), some (.inr (.inr v4)), some (.inr (.inr v5)), some (.inr (.inr v6)), some (.inl v7), some (.inl v8), some (.inl v9), some (.inl v10), some (.inl v11), some (.inl v12), some (.inl v13), some (.inl (zand s0 s1)), some (.inl (v15 + 1))] [] h := (zx_unfold zblk xs 91 454 _ rfl _ _ _).trans rfl
theorem e_L_twice_463 (xs : List Int) (v0 : Option Nat) (v1 : Option Nat) (v2 : Option Nat) (v3 : Option Nat) (v4 : Option Nat) (v5 : Option Nat) (v6 : Option Nat) (v7 : Int) (v8 : Int) (v9 : Int) (v10 : Int) (v11 : Int) (v12 : Int) (v13 : Int) (v14 : Int) (h : zH) : zx zblk xs 91 463 [some (.inr (.inr v0)), some (.inr (.inr v1)), some (.inr (.inr v2)), some (.inr (.inr v3)), some (.inr (.inr v4)), some (.inr (.inr v5)), some (.inr (.inr v6)), some (.inl v7), some (.inl v8), some (.inl v9), some (.inl v10), some (.inl v11), some (.inl v12), some (.inl v13), some (.inl v14)] [] h = (if zw v14 ≠ 0 then zx zblk xs 91 471 [some (.inr (.inr v0)), some (.inr (.inr v1)), some (.inr (.inr v2)), some (.inr (.inr v3)), some (.inr (.inr v4)), some (.inr (.inr v5)), some (.inr (.inr v6)), some (.inl v7), some (.inl v8), some (.inl v9), some (.inl v10), some (.inl v11), some (.inl v12), some (.inl v13)] [] h else zx zblk xs 91 666 [some (.inr (.inr v0)), some (.inr (.inr v1)), some (.inr (.inr v2)), some (.inr (.inr v3)), some (.inr (.inr v4)), some (.inr (.inr v5)), some (.inr (.inr v6)), some (.inl v7), some (.inl v8), some (.inl v9), some (.inl v10), some (.inl v11), some (.inl v12)] [] h) := (zx_unfold zblk xs 91 463 _ rfl _ _ _).trans rfl
theorem e_L_twice_471 (xs : List Int) (v0 : Option Nat) (v1 : Option Nat) (v2 : Option Nat) (v3 : Option Nat) (v4 : Option Nat) (v5 : Option Nat) (v6 : Option Nat) (v7 : Int) (v8 : Int) (v9 : Int) (v10 : Int) (v11 : Int) (v12 : Int) (v13 : Int) (h : zH) : zx zblk xs 91 471 [some (.inr (.inr v0)), some (.inr (.inr v1)), some (.inr (.inr v2)), some (.inr (.inr v3)), some (.inr (.inr v4)), some (.inr (.inr v5)), some (.inr (.inr v6)), some (.inl v7), some (.inl v8), some (.inl v9), some (.inl v10), some (.inl v11), some (.inl v12), some (.inl v13)] [] h = (zai xs h v3 0 fun a1 => (if zw a1 ≠ zw v13 then zx zblk xs 91 515 [some (.inr (.inr v0)), some (.inr (.inr v1)), some (.inr (.inr v2)), some (.inr (.inr v3)), some (.inr (.inr v4)), some (.inr (.inr v5)), some (.inr (.inr v6)), some (.inl v7), some (.inl v8), some (.inl v9), some (.inl v10), some (.inl v11), some (.inl v12), some (.inl v13)] [] h else (if zw v7 ≤ zw v11 then zx zblk xs 91 492 [some (.inr (.inr v0)), some (.inr (.inr v1)), some (.inr (.inr v2)), some (.inr (.inr v3)), some (.inr (.inr v4)), some (.inr (.inr v5)), some (.inr (.inr v6)), some (.inl v7), none, some (.inl v9), some (.inl v10), some (.inl v11), some (.inl v12)] [.inl v8] h else zx zblk xs 91 493 [some (.inr (.inr v0)), some (.inr (.inr v1)), some (.inr (.inr v2)), some (.inr (.inr v3)), some (.inr (.inr v4)), some (.inr (.inr v5)), some (.inr (.inr v6)), some (.inl v7), none, some (.inl v9), some (.inl v10), some (.inl v11), some (.inl v12)] [.inl 1, .inl v8] h))) := (zx_unfold zblk xs 91 471 _ rfl _ _ _).trans rfl
theorem e_L_twice_492 (xs : List Int) (v0 : Option Nat) (v1 : Option Nat) (v2 : Option Nat) (v3 : Option Nat) (v4 : Option Nat) (v5 : Option Nat) (v6 : Option Nat) (v7 : Int) (v9 : Int) (v10 : Int) (v11 : Int) (v12 : Int) (s0 : Int) (h : zH) : zx zblk xs 91 492 [some (.inr (.inr v0)), some (.inr (.inr v1)), some (.inr (.inr v2)), some (.inr (.inr v3)), some (.inr (.inr v4)), some (.inr (.inr v5)), some (.inr (.inr v6)), some (.inl v7), none, some (.inl v9), some (.inl v10), some (.inl v11), some (.inl v12)] [.inl s0] h = zx zblk xs 91 493 [some (.inr (.inr v0)), some (.inr (.inr v1)), some (.inr (.inr v2)), some (.inr (.inr v3)), some (.inr (.inr v4)), some (.inr (.inr v5)), some (.inr (.inr v6)), some (.inl v7), none, some (.inl v9), some (.inl v10), some (.inl v11), some (.inl v12)] [.inl 0, .inl s0] h := (zx_unfold zblk xs 91 492 _ rfl _ _ _).trans rfl
theorem e_L_twice_493 (xs : List Int) (v0 : Option Nat) (v1 : Option Nat) (v2 : Option Nat) (v3 : Option Nat) (v4 : Option Nat) (v5 : Option Nat) (v6 : Option Nat) (v7 : Int) (v9 : Int) (v10 : Int) (v11 : Int) (v12 : Int) (s0 : Int) (s1 : Int) (h : zH) : zx zblk xs 91 493 [some (.inr (.inr v0)), some (.inr (.inr v1)), some (.inr (.inr v2)), some (.inr (.inr v3)), some (.inr (.inr v4)), some (.inr (.inr v5)), some (.inr (.inr v6)), some (.inl v7), none, some (.inl v9), some (.inl v10), some (.inl v11), some (.inl v12)] [.inl s1, .inl s0] h = (if zw v7 ≤ zw v11 then zx zblk xs 91 508 [some (.inr (.inr v0)), some (.inr (.inr v1)), some (.inr (.inr v2)), some (.inr (.inr v3)), some (.inr (.inr v4)), some (.inr (.inr v5)), some (.inr (.inr v6)), some (.inl v7), some (.inl (zor s0 s1)), some (.inl v9), some (.inl v10), some (.inl v11), some (.inl v12)] [] h else zx zblk xs 91 510 [some (.inr (.inr v0)), some (.inr (.inr v1)), some (.inr (.inr v2)), some (.inr (.inr v3)), some (.inr (.inr v4)), some (.inr (.inr v5)), some (.inr (.inr v6)), none, some (.inl (zor s0 s1)), some (.inl v9), some (.inl v10), some (.inl v11), some (.inl v12)] [.inl v11] h) := (zx_unfold zblk xs 91 493 _ rfl _ _ _).trans rfl
theorem e_L_twice_508 (xs : List Int) (v0 : Option Nat) (v1 : Option Nat) (v2 : Option Nat) (v3 : Option Nat) (v4 : Option Nat) (v5 : Option Nat) (v6 : Option Nat) (v7 : Int) (v8 : Int) (v9 : Int) (v10 : Int) (v11 : Int) (v12 : Int) (h : zH) : zx zblk xs 91 508 [some (.inr (.inr v0)), some (.inr (.inr v1)), some (.inr (.inr v2)), some (.inr (.inr v3)), some (.inr (.inr v4)), some (.inr (.inr v5)), some (.inr (.inr v6)), some (.inl v7), some (.inl v8), some (.inl v9), some (.inl v10), some (.inl v11), some (.inl v12)] [] h = zx zblk xs 91 510 [some (.inr (.inr v0)), some (.inr (.inr v1)), some (.inr (.inr v2)), some (.inr (.inr v3)), some (.inr (.inr v4)), some (.inr (.inr v5)), some (.inr (.inr v6)), none, some (.inl v8), some (.inl v9), some (.inl v10), some (.inl v11), some (.inl v12)] [.inl v7] h := (zx_unfold zblk xs 91 508 _ rfl _ _ _).trans rfl
theorem e_L_twice_510 (xs : List Int) (v0 : Option Nat) (v1 : Option Nat) (v2 : Option Nat) (v3 : Option Nat) (v4 : Option Nat) (v5 : Option Nat) (v6 : Option Nat) (v8 : Int) (v9 : Int) (v10 : Int) (v11 : Int) (v12 : Int) (s0 : Int) (h : zH) : zx zblk xs 91 510 [some (.inr (.inr v0)), some (.inr (.inr v1)), some (.inr (.inr v2)), some (.inr (.inr v3)), some (.inr (.inr v4)), some (.inr (.inr v5)), some (.inr (.inr v6)), none, some (.inl v8), some (.inl v9), some (.inl v10), some (.inl v11), some (.inl v12)] [.inl s0] h = zx zblk xs 91 666 [some (.inr (.inr v0)), some (.inr (.inr v1)), some (.inr (.inr v2)), some (.inr (.inr v3)), some (.inr (.inr v4)), some (.inr (.inr v5)), some (.inr (.inr v6)), some (.inl s0), some (.inl v8), some (.inl v9), some (.inl v10), some (.inl v11), some (.inl v12)] [] h := (zx_unfold zblk xs 91 510 _ rfl _ _ _).trans rfl
theorem e_L_twice_515 (xs : List Int) (v0 : Option Nat) (v1 : Option Nat) (v2 : Option Nat) (v3 : Option Nat) (v4 : Option Nat) (v5 : Option Nat) (v6 : Option Nat) (v7 : Int) (v8 : Int) (v9 : Int) (v10 : Int) (v11 : Int) (v12 : Int) (v13 : Int) (h : zH) : zx zblk xs 91 515 [some (.inr (.inr v0)), some (.inr (.inr v1)), some (.inr (.inr v2)), some (.inr (.inr v3)), some (.inr (.inr v4)), some (.inr (.inr v5)), some (.inr (.inr v6)), some (.inl v7), some (.inl v8), some (.inl v9), some (.inl v10), some (.inl v11), some (.inl v12), some (.inl v13)] [] h = (zai xs h v3 0 fun a1 => (if zw v13 ≤ zw a1 then zx zblk xs 91 532 [some (.inr (.inr v0)), some (.inr (.inr v1)), some (.inr (.inr v2)), some (.inr (.inr v3)), some (.inr (.inr v4)), some (.inr (.inr v5)), some (.inr (.inr v6)), some (.inl v7), some (.inl v8), some (.inl v9), some (.inl v10), some (.inl v11), some (.inl v12), some (.inl v13)] [] h else (zai xs h v3 0 fun a2 => zx zblk xs 91 534 [some (.inr (.inr v0)), some (.inr (.inr v1)), some (.inr (.inr v2)), some (.inr (.inr v3)), some (.inr (.inr v4)), some (.inr (.inr v5)), some (.inr (.inr v6)), some (.inl v7), some (.inl v8), some (.inl v9), some (.inl v10), some (.inl v11), some (.inl v12), some (.inl v13)] [.inl (v10 + a2)] h))) := (zx_unfold zblk xs 91 515 _ rfl _ _ _).trans rfl
theorem e_L_twice_532 (xs : List Int) (v0 : Option Nat) (v1 : Option Nat) (v2 : Option Nat) (v3 : Option Nat) (v4 : Option Nat) (v5 : Option Nat) (v6 : Option Nat) (v7 : Int) (v8 : Int) (v9 : Int) (v10 : Int) (v11 : Int) (v12 : Int) (v13 : Int) (h : zH) : zx zblk xs 91 532 [some (.inr (.inr v0)), some (.inr (.inr v1)), some (.inr (.inr v2)), some (.inr (.inr v3)), some (.inr (.inr v4)), some (.inr (.inr v5)), some (.inr (.inr v6)), some (.inl v7), some (.inl v8), some (.inl v9), some (.inl v10), some (.inl v11), some (.inl v12), some (.inl v13)] [] h = zx zblk xs 91 534 [some (.inr (.inr v0)), some (.inr (.inr v1)), some (.inr (.inr v2)), some (.inr (.inr v3)), some (.inr (.inr v4)), some (.inr (.inr v5)), some (.inr (.inr v6)), some (.inl v7), some (.inl v8), some (.inl v9), some (.inl v10), some (.inl v11), some (.inl v12), some (.inl v13)] [.inl v13] h := (zx_unfold zblk xs 91 532 _ rfl _ _ _).trans rfl
theorem e_L_twice_534 (xs : List Int) (v0 : Option Nat) (v1 : Option Nat) (v2 : Option Nat) (v3 : Option Nat) (v4 : Option Nat) (v5 : Option Nat) (v6 : Option Nat) (v7 : Int) (v8 : Int) (v9 : Int) (v10 : Int) (v11 : Int) (v12 : Int) (v13 : Int) (s0 : Int) (h : zH) : zx zblk xs 91 534 [some (.inr (.inr v0)), some (.inr (.inr v1)), some (.inr (.inr v2)), some (.inr (.inr v3)), some (.inr (.inr v4)), some (.inr (.inr v5)), some (.inr (.inr v6)), some (.inl v7), some (.inl v8), some (.inl v9), some (.inl v10), some (.inl v11), some (.inl v12), some (.inl v13)] [.inl s0] h = (zai xs h v3 0 fun a1 => (if zw v13 ≤ zw a1 then zx zblk xs 91 549 [some (.inr (.inr v0)), some (.inr (.inr v1)), some (.inr (.inr v2)), some (.inr (.inr v3)), some (.inr (.inr v4)), some (.inr (.inr v5)), some (.inr (.inr v6)), some (.inl v7), some (.inl v8), some (.inl v9), some (.inl v10), some (.inl v11), some (.inl v12), some (.inl v13), none, some (.inl s0)] [] h else zx zblk xs 91 551 [some (.inr (.inr v0)), some (.inr (.inr v1)), some (.inr (.inr v2)), some (.inr (.inr v3)), some (.inr (.inr v4)), some (.inr (.inr v5)), some (.inr (.inr v6)), some (.inl v7), some (.inl v8), some (.inl v9), some (.inl v10), some (.inl v11), some (.inl v12), some (.inl v13), none, some (.inl s0)] [.inl v9] h)) := (zx_unfold zblk xs 91 534 _ rfl _ _ _).trans rfl
theorem e_L_twice_549 (xs : List Int) (v0 : Option Nat) (v1 : Option Nat) (v2 : Option Nat) (v3 : Option Nat) (v4 : Option Nat) (v5 : Option Nat) (v6 : Option Nat) (v7 : Int) (v8 : Int) (v9 : Int) (v10 : Int) (v11 : Int) (v12 : Int) (v13 : Int) (v15 : Int) (h : zH) : zx zblk xs 91 549 [some (.inr (.inr v0)), some (.inr (.inr v1)), some (.inr (.inr v2)), some (.inr (.inr v3)), some (.inr (.inr v4)), some (.inr (.inr v5)), some (.inr (.inr v6)), some (.inl v7), some (.inl v8), some (.inl v9), some (.inl v10), some (.inl v11), some (.inl v12), some (.inl v13), none, some (.inl v15)] [] h = zx zblk xs 91 551 [some (.inr (.inr v0)), some (.inr (.inr v1)), some (.inr (.inr v2)), some (.inr (.inr v3)), some (.inr (.inr v4)), some (.inr (.inr v5)), some (.inr (.inr v6)), some (.inl v7), some (.inl v8), some (.inl v9), some (.inl v10), some (.inl v11), some (.inl v12), some (.inl v13), none, some (.inl v15)] [.inl v12] h := (zx_unfold zblk xs 91 549 _ rfl _ _ _).trans rfl
theorem e_L_twice_551 (xs : List Int) (v0 : Option Nat) (v1 : Option Nat) (v2 : Option Nat) (v3 : Option Nat) (v4 : Option Nat) (v5 : Option Nat) (v6 : Option Nat) (v7 : Int) (v8 : Int) (v9 : Int) (v10 : Int) (v11 : Int) (v12 : Int) (v13 : Int) (v15 : Int) (s0 : Int) (h : zH) : zx zblk xs 91 551 [some (.inr (.inr v0)), some (.inr (.inr v1)), some (.inr (.inr v2)), some (.inr (.inr v3)), some (.inr (.inr v4)), some (.inr (.inr v5)), some (.inr (.inr v6)), some (.inl v7), some (.inl v8), some (.inl v9), some (.inl v10), some (.inl v11), some (.inl v12), some (.inl v13), none, some (.inl v15)] [.inl s0] h = (zai xs h v3 0 fun a1 => (if zw v13 ≤ zw a1 then zx zblk xs 91 566 [some (.inr (.inr v0)), some (.inr (.inr v1)), some (.inr (.inr v2)), some (.inr (.inr v3)), some (.inr (.inr v4)), some (.inr (.inr v5)), some (.inr (.inr v6)), some (.inl v7), some (.inl v8), some (.inl v9), some (.inl v10), some (.inl v11), some (.inl v12), some (.inl v13), none, some (.inl v15), some (.inl s0)] [] h else zx zblk xs 91 575 [some (.inr (.inr v0)), some (.inr (.inr v1)), some (.inr (.inr v2)), some (.inr (.inr v3)), some (.inr (.inr v4)), some (.inr (.inr v5)), some (.inr (.inr v6)), some (.inl v7), some (.inl v8), some (.inl v9), some (.inl v10), some (.inl v11), some (.inl v12), none, none, some (.inl v15), some (.inl s0)] [.inl v11] h)) := (zx_unfold zblk xs 91 551 _ rfl _ _ _).trans rfl
theorem e_L_twice_566 (xs : List Int) (v0 : Option Nat) (v1 : Option Nat) (v2 : Option Nat) (v3 : Option Nat) (v4 : Option Nat) (v5 : Option Nat) (v6 : Option Nat) (v7 : Int) (v8 : Int) (v9 : Int) (v10 : Int) (v11 : Int) (v12 : Int) (v13 : Int) (v15 : Int) (v16 : Int) (h : zH) : zx zblk xs 91 566 [some (.inr (.inr v0)), some (.inr (.inr v1)), some (.inr (.inr v2)), some (.inr (.inr v3)), some (.inr (.inr v4)), some (.inr (.inr v5)), some (.inr (.inr v6)), some (.inl v7), some (.inl v8), some (.inl v9), some (.inl v10), some (.inl v11), some (.inl v12), some (.inl v13), none, some (.inl v15), some (.inl v16)] [] h = (zai xs h v3 0 fun a1 => zx zblk xs 91 575 [some (.inr (.inr v0)), some (.inr (.inr v1)), some (.inr (.inr v2)), some (.inr (.inr v3)), some (.inr (.inr v4)), some (.inr (.inr v5)), some (.inr (.inr v6)), some (.inl v7), some (.inl v8), some (.inl v9), some (.inl v10), some (.inl v11), some (.inl v12), none, none, some (.inl v15), some (.inl v16)] [.inl ((v11 + a1) - v13)] h) := (zx_unfold zblk xs 91 566 _ rfl _ _ _).trans rfl
theorem e_L_twice_575 (xs : List Int) (v0 : Option Nat) (v1 : Option Nat) (v2 : Option Nat) (v3 : Option Nat) (v4 : Option Nat) (v5 : Option Nat) (v6 : Option Nat) (v7 : Int) (v8 : Int) (v9 : Int) (v10 : Int) (v11 : Int) (v12 : Int) (v15 : Int) (v16 : Int) (s0 : Int) (h : zH) : zx zblk xs 91 575 [some (.inr (.inr v0)), some (.inr (.inr v1)), some (.inr (.inr v2)), some (.inr (.inr v3)), some (.inr (.inr v4)), some (.inr (.inr v5)), some (.inr (.inr v6)), some (.inl v7), some (.inl v8), some (.inl v9), some (.inl v10), some (.inl v11), some (.inl v12), none, none, some (.inl v15), some (.inl v16)] [.inl s0] h = (if zw 8 ≤ zw v15 then zx zblk xs 91 598 [some (.inr (.inr v0)), some (.inr (.inr v1)), some (.inr (.inr v2)), some (.inr (.inr v3)), some (.inr (.inr v4)), some (.inr (.inr v5)), some (.inr (.inr v6)), some (.inl v7), some (.inl v8), some (.inl v9), some (.inl v10), some (.inl v11), some (.inl v12), none, none, some (.inl v15), some (.inl v16), some (.inl s0)] [] h else (zai xs h v5 ((8 * v15) + v16) fun a1 => zx zblk xs 91 612 [some (.inr (.inr v0)), some (.inr (.inr v1)), some (.inr (.inr v2)), some (.inr (.inr v3)), some (.inr (.inr v4)), some (.inr (.inr v5)), some (.inr (.inr v6)), some (.inl v7), some (.inl v8), some (.inl v9), some (.inl v10), some (.inl v11), some (.inl v12), none, none, some (.inl v15), some (.inl v16), some (.inl s0)] [.inl a1] h)) := (zx_unfold zblk xs 91 575 _ rfl _ _ _).trans rfl
theorem e_L_twice_598 (xs : List Int) (v0 : Option Nat) (v1 : Option Nat) (v2 : Option Nat) (v3 : Option Nat) (v4 : Option Nat) (v5 : Option Nat) (v6 : Option Nat) (v7 : Int) (v8 : Int) (v9 : Int) (v10 : Int) (v11 : Int) (v12 : Int) (v15 : Int) (v16 : Int) (v17 : Int) (h : zH) : zx zblk xs 91 598 [some (.inr (.inr v0)), some (.inr (.inr v1)), some (.inr (.inr v2)), some (.inr (.inr v3)), some (.inr (.inr v4)), some (.inr (.inr v5)), some (.inr (.inr v6)), some (.inl v7), some (.inl v8), some (.inl v9), some (.inl v10), some (.inl v11), some (.inl v12), none, none, some (.inl v15), some (.inl v16), some (.inl v17)] [] h = (zai xs h v6 (((8 * v15) - 64) + v16) fun a1 => zx zblk xs 91 612 [some (.inr (.inr v0)), some (.inr (.inr v1)), some (.inr (.inr v2)), some (.inr (.inr v3)), some (.inr (.inr v4)), some (.inr (.inr v5)), some (.inr (.inr v6)), some (.inl v7), some (.inl v8), some (.inl v9), some (.inl v10), some (.inl v11), some (.inl v12), none, none, some (.inl v15), some (.inl v16), some (.inl v17)] [.inl a1] h) := (zx_unfold zblk xs 91 598 _ rfl _ _ _).trans rfl
theorem e_L_twice_612 (xs : List Int) (v0 : Option Nat) (v1 : Option Nat) (v2 : Option Nat) (v3 : Option Nat) (v4 : Option Nat) (v5 : Option Nat) (v6 : Option Nat) (v7 : Int) (v8 : Int) (v9 : Int) (v10 : Int) (v11 : Int) (v12 : Int) (v15 : Int) (v16 : Int) (v17 : Int) (s0 : Int) (h : zH) : zx zblk xs 91 612 [some (.inr (.inr v0)), some (.inr (.inr v1)), some (.inr (.inr v2)), some (.inr (.inr v3)), some (.inr (.inr v4)), some (.inr (.inr v5)), some (.inr (.inr v6)), some (.inl v7), some (.inl v8), some (.inl v9), some (.inl v10), some (.inl v11), some (.inl v12), none, none, some (.inl v15), some (.inl v16), some (.inl v17)] [.inl s0] h = (if zw v17 < zw s0 then zx zblk xs 91 624 [some (.inr (.inr v0)), some (.inr (.inr v1)), some (.inr (.inr v2)), some (.inr (.inr v3)), some (.inr (.inr v4)), some (.inr (.inr v5)), some (.inr (.inr v6)), some (.inl v7), none, some (.inl v9), some (.inl v10), some (.inl v11), some (.inl v12), none, none, some (.inl v15), some (.inl v16), some (.inl v17)] [] h else zx zblk xs 91 666 [some (.inr (.inr v0)), some (.inr (.inr v1)), some (.inr (.inr v2)), some (.inr (.inr v3)), some (.inr (.inr v4)), some (.inr (.inr v5)), some (.inr (.inr v6)), some (.inl v7), some (.inl v8), some (.inl v9), some (.inl v10), some (.inl v11), some (.inl v12)] [] h) := (zx_unfold zblk xs 91 612 _ rfl _ _ _).trans rfl
theorem e_L_twice_624 (xs : List Int) (v0 : Option Nat) (v1 : Option Nat) (v2 : Option Nat) (v3 : Option Nat) (v4 : Option Nat) (v5 : Option Nat) (v6 : Option Nat) (v7 : Int) (v9 : Int) (v10 : Int) (v11 : Int) (v12 : Int) (v15 : Int) (v16 : Int) (v17 : Int) (h : zH) : zx zblk xs 91 624 [some (.inr (.inr v0)), some (.inr (.inr v1)), some (.inr (.inr v2)), some (.inr (.inr v3)), some (.inr (.inr v4)), some (.inr (.inr v5)), some (.inr (.inr v6)), some (.inl v7), none, some (.inl v9), some (.inl v10), some (.inl v11), some (.inl v12), none, none, some (.inl v15), some (.inl v16), some (.inl v17)] [] h = (if zw 8 ≤ zw v15 then zx zblk xs 91 647 [some (.inr (.inr v0)), some (.inr (.inr v1)), some (.inr (.inr v2)), some (.inr (.inr v3)), some (.inr (.inr v4)), some (.inr (.inr v5)), some (.inr (.inr v6)), some (.inl v7), none, some (.inl v9), some (.inl v10), some (.inl v11), some (.inl v12), none, none, some (.inl v15), some (.inl v16), some (.inl v17)] [] h else (zst h v5 100 ((8 * v15) + v16) (.inl v17) fun h1 => zx zblk xs 91 663 [some (.inr (.inr v0)), some (.inr (.inr v1)), some (.inr (.inr v2)), some (.inr (.inr v3)), some (.inr (.inr v4)), some (.inr (.inr v5)), some (.inr (.inr v6)), some (.inl v7), none, some (.inl v9), some (.inl v10), some (.inl v11), some (.inl v12)] [] h1)) := (zx_unfold zblk xs 91 624 _ rfl _ _ _).trans rfl
theorem e_L_twice_647 (xs : List Int) (v0 : Option Nat) (v1 : Option Nat) (v2 : Option Nat) (v3 : Option Nat) (v4 : Option Nat) (v5 : Option Nat) (v6 : Option Nat) (v7 : Int) (v9 : Int) (v10 : Int) (v11 : Int) (v12 : Int) (v15 : Int) (v16 : Int) (v17 : Int) (h : zH) : zx zblk xs 91 647 [some (.inr (.inr v0)), some (.inr (.inr v1)), some (.inr (.inr v2)), some (.inr (.inr v3)), some (.inr (.inr v4)), some (.inr (.inr v5)), some (.inr (.inr v6)), some (.inl v7), none, some (.inl v9), some (.inl v10), some (.inl v11), some (.inl v12), none, none, some (.inl v15), some (.inl v16), some (.inl v17)] [] h = (zst h v6 100 (((8 * v15) - 64) + v16) (.inl v17) fun h1 => zx zblk xs 91 663 [some (.inr (.inr v0)), some (.inr (.inr v1)), some (.inr (.inr v2)), some (.inr (.inr v3)), some (.inr (.inr v4)), some (.inr (.inr v5)), some (.inr (.inr v6)), some (.inl v7), none, some (.inl v9), some (.inl v10), some (.inl v11), some (.inl v12)] [] h1) := (zx_unfold zblk xs 91 647 _ rfl _ _ _).trans rfl
theorem e_L_twice_663 (xs : List Int) (v0 : Option Nat) (v1 : Option Nat) (v2 : Option Nat) (v3 : Option Nat) (v4 : Option Nat) (v5 : Option Nat) (v6 : Option Nat) (v7 : Int) (v9 : Int) (v10 : Int) (v11 : Int) (v12 : Int) (h : zH) : zx zblk xs 91 663 [some (.inr (.inr v0)), some (.inr (.inr v1)), some (.inr (.inr v2)), some (.inr (.inr v3)), some (.inr (.inr v4)), some (.inr (.inr v5)), some (.inr (.inr v6)), some (.inl v7), none, some (.inl v9), some (.inl v10), some (.inl v11), some (.inl v12)] [] h = zx zblk xs 91 666 [some (.inr (.inr v0)), some (.inr (.inr v1)), some (.inr (.inr v2)), some (.inr (.inr v3)), some (.inr (.inr v4)), some (.inr (.inr v5)), some (.inr (.inr v6)), some (.inl v7), some (.inl 1), some (.inl v9), some (.inl v10), some (.inl v11), some (.inl v12)] [] h := (zx_unfold zblk xs 91 663 _ rfl _ _ _).trans rfl
theorem e_L_twice_666 (xs : List Int) (v0 : Option Nat) (v1 : Option Nat) (v2 : Option Nat) (v3 : Option Nat) (v4 : Option Nat) (v5 : Option Nat) (v6 : Option Nat) (v7 : Int) (v8 : Int) (v9 : Int) (v10 : Int) (v11 : Int) (v12 : Int) (h : zH) : zx zblk xs 91 666 [some (.inr (.inr v0)), some (.inr (.inr v1)), some (.inr (.inr v2)), some (.inr (.inr v3)), some (.inr (.inr v4)), some (.inr (.inr v5)), some (.inr (.inr v6)), some (.inl v7), some (.inl v8), some (.inl v9), some (.inl v10), some (.inl v11), some (.inl v12)] [] h = zx zblk xs 91 376 [some (.inr (.inr v0)), some (.inr (.inr v1)), some (.inr (.inr v2)), some (.inr (.inr v3)), some (.inr (.inr v4)), some (.inr (.inr v5)), some (.inr (.inr v6)), some (.inl v7), some (.inl v8), some (.inl v9), some (.inl v10), some (.inl v11), some (.inl (v12 + 1))] [] h := (zx_unfold zblk xs 91 666 _ rfl _ _ _).trans rfl
theorem e_L_twice_672 (xs : List Int) (v0 : Option Nat) (v1 : Option Nat) (v2 : Option Nat) (v3 : Option Nat) (v4 : Option Nat) (v5 : Option Nat) (v6 : Option Nat) (v7 : Int) (v8 : Int) (v9 : Int) (v10 : Int) (h : zH) : zx zblk xs 91 672 [some (.inr (.inr v0)), some (.inr (.inr v1)), some (.inr (.inr v2)), some (.inr (.inr v3)), some (.inr (.inr v4)), some (.inr (.inr v5)), some (.inr (.inr v6)), some (.inl v7), some (.inl v8), some (.inl v9), some (.inl v10)] [] h = zx zblk xs 91 309 [some (.inr (.inr v0)), some (.inr (.inr v1)), some (.inr (.inr v2)), some (.inr (.inr v3)), some (.inr (.inr v4)), some (.inr (.inr v5)), some (.inr (.inr v6)), some (.inl v7), some (.inl v8), some (.inl v9), some (.inl (v10 + 1))] [] h := (zx_unfold zblk xs 91 672 _ rfl _ _ _).trans rfl
theorem e_L_twice_678 (xs : List Int) (v0 : Option Nat) (v1 : Option Nat) (v2 : Option Nat) (v3 : Option Nat) (v4 : Option Nat) (v5 : Option Nat) (v6 : Option Nat) (v7 : Int) (v8 : Int) (v9 : Int) (h : zH) : zx zblk xs 91 678 [some (.inr (.inr v0)), some (.inr (.inr v1)), some (.inr (.inr v2)), some (.inr (.inr v3)), some (.inr (.inr v4)), some (.inr (.inr v5)), some (.inr (.inr v6)), some (.inl v7), some (.inl v8), some (.inl v9)] [] h = zx zblk xs 91 298 [some (.inr (.inr v0)), some (.inr (.inr v1)), some (.inr (.inr v2)), some (.inr (.inr v3)), some (.inr (.inr v4)), some (.inr (.inr v5)), some (.inr (.inr v6)), some (.inl v7), some (.inl v8), some (.inl (v9 + 1))] [] h := (zx_unfold zblk xs 91 678 _ rfl _ _ _).trans rfl
theorem e_L_twice_684 (xs : List Int) (v0 : Option Nat) (v1 : Option Nat) (v2 : Option Nat) (v3 : Option Nat) (v4 : Option Nat) (v5 : Option Nat) (v6 : Option Nat) (v7 : Int) (v8 : Int) (h : zH) : zx zblk xs 91 684 [some (.inr (.inr v0)), some (.inr (.inr v1)), some (.inr (.inr v2)), some (.inr (.inr v3)), some (.inr (.inr v4)), some (.inr (.inr v5)), some (.inr (.inr v6)), some (.inl v7), some (.inl v8)] [] h = zx zblk xs 91 287 [some (.inr (.inr v0)), some (.inr (.inr v1)), some (.inr (.inr v2)), some (.inr (.inr v3)), some (.inr (.inr v4)), some (.inr (.inr v5)), some (.inr (.inr v6)), some (.inl v7), some (.inl v8)] [] h := (zx_unfold zblk xs 91 684 _ rfl _ _ _).trans rfl
theorem e_L_twice_687 (xs : List Int) (v0 : Option Nat) (v7 : Int) (h : zH) : zx zblk xs 91 687 [some (.inr (.inr v0)), none, none, none, none, none, none, some (.inl v7)] [] h = (zck h v0 6 (zci (zx zblk xs 53 0 [some (.inr (.inr v0)), some (.inl 0)] [] h) fun r2 h1 => (if zw v7 ≠ zw 999 then zx zblk xs 91 704 [none, none, none, none, none, none, none, some (.inl v7)] [.inl r2] h1 else zx zblk xs 91 706 [] [.inl (-1), .inl r2] h1))) := (zx_unfold zblk xs 91 687 _ rfl _ _ _).trans rfl
theorem e_L_twice_704 (xs : List Int) (v7 : Int) (s0 : Int) (h : zH) : zx zblk xs 91 704 [none, none, none, none, none, none, none, some (.inl v7)] [.inl s0] h = zx zblk xs 91 706 [] [.inl v7, .inl s0] h := (zx_unfold zblk xs 91 704 _ rfl _ _ _).trans rfl
theorem e_L_twice_706 (xs : List Int) (s0 : Int) (s1 : Int) (h : zH) : zx zblk xs 91 706 [] [.inl s1, .inl s0] h = (if zw s0 ≠ zw s1 then zx zblk xs 91 713 [] [] h else zx zblk xs 91 714 [] [.inl 1] h) := (zx_unfold zblk xs 91 706 _ rfl _ _ _).trans rfl
theorem e_L_twice_713 (xs : List Int)  (h : zH) : zx zblk xs 91 713 [] [] h = zx zblk xs 91 714 [] [.inl 0] h := (zx_unfold zblk xs 91 713 _ rfl _ _ _).trans rfl
theorem e_L_twice_714 (xs : List Int) (s0 : Int) (h : zH) : zx zblk xs 91 714 [] [.inl s0] h = (if s0 = 0 ∨ s0 = 1 then some (some (.inl s0), h) else none) := (zx_unfold zblk xs 91 714 _ rfl _ _ _).trans rfl
/-- MindReadersLaw.lengths(LMindReaders;[I[I[II)Z -/
noncomputable abbrev r_L_lengths (xs : List Int) (v1 : Option Nat) (v2 : Option Nat) (v3 : Option Nat) (v4 : Option Nat) (v5 : Int) (h : zH) : Option zR := zx zblk xs 92 0 [some (.inr (.inr v1)), some (.inr (.inr v2)), some (.inr (.inr v3)), some (.inr (.inr v4)), some (.inl v5)] [] h
theorem e_L_lengths_0 (xs : List Int) (v0 : Option Nat) (v1 : Option Nat) (v2 : Option Nat) (v3 : Option Nat) (v4 : Int) (h : zH) : zx zblk xs 92 0 [some (.inr (.inr v0)), some (.inr (.inr v1)), some (.inr (.inr v2)), some (.inr (.inr v3)), some (.inl v4)] [] h = (zai xs h v2 0 fun a1 => (if zw v4 ≤ zw a1 then zx zblk xs 92 14 [some (.inr (.inr v0)), some (.inr (.inr v1)), some (.inr (.inr v2)), some (.inr (.inr v3)), some (.inl v4)] [] h else (zai xs h v2 0 fun a2 => zx zblk xs 92 16 [some (.inr (.inr v0)), some (.inr (.inr v1)), some (.inr (.inr v2)), some (.inr (.inr v3))] [.inl a2] h))) := (zx_unfold zblk xs 92 0 _ rfl _ _ _).trans rfl
theorem e_L_lengths_14 (xs : List Int) (v0 : Option Nat) (v1 : Option Nat) (v2 : Option Nat) (v3 : Option Nat) (v4 : Int) (h : zH) : zx zblk xs 92 14 [some (.inr (.inr v0)), some (.inr (.inr v1)), some (.inr (.inr v2)), some (.inr (.inr v3)), some (.inl v4)] [] h = zx zblk xs 92 16 [some (.inr (.inr v0)), some (.inr (.inr v1)), some (.inr (.inr v2)), some (.inr (.inr v3))] [.inl v4] h := (zx_unfold zblk xs 92 14 _ rfl _ _ _).trans rfl
theorem e_L_lengths_16 (xs : List Int) (v0 : Option Nat) (v1 : Option Nat) (v2 : Option Nat) (v3 : Option Nat) (s0 : Int) (h : zH) : zx zblk xs 92 16 [some (.inr (.inr v0)), some (.inr (.inr v1)), some (.inr (.inr v2)), some (.inr (.inr v3))] [.inl s0] h = zx zblk xs 92 30 [some (.inr (.inr v0)), some (.inr (.inr v1)), some (.inr (.inr v2)), some (.inr (.inr v3)), none, some (.inl s0), some (.inl 0), some (.inl 0), some (.inl 0), some (.inl 0)] [] h := (zx_unfold zblk xs 92 16 _ rfl _ _ _).trans rfl
theorem e_L_lengths_30 (xs : List Int) (v0 : Option Nat) (v1 : Option Nat) (v2 : Option Nat) (v3 : Option Nat) (v5 : Int) (v6 : Int) (v7 : Int) (v8 : Int) (v9 : Int) (h : zH) : zx zblk xs 92 30 [some (.inr (.inr v0)), some (.inr (.inr v1)), some (.inr (.inr v2)), some (.inr (.inr v3)), none, some (.inl v5), some (.inl v6), some (.inl v7), some (.inl v8), some (.inl v9)] [] h = (if zw v5 ≤ zw v9 then zx zblk xs 92 118 [some (.inr (.inr v0)), some (.inr (.inr v1)), some (.inr (.inr v2)), some (.inr (.inr v3)), none, some (.inl v5), some (.inl v6), some (.inl v7), some (.inl v8)] [] h else (zai xs h v3 v9 fun a1 => (zci (zx zblk xs 88 0 [some (.inr (.inr v1)), some (.inr (.inr v2)), some (.inl v9)] [] h) fun r3 h2 => (zai xs h2 v3 v9 fun a4 => zx zblk xs 92 66 [some (.inr (.inr v0)), some (.inr (.inr v1)), some (.inr (.inr v2)), some (.inr (.inr v3)), none, some (.inl v5), some (.inl (v6 + (a1 * r3))), some (.inl v7), some (.inl (v8 + a4)), some (.inl v9), some (.inl 0)] [] h2)))) := (zx_unfold zblk xs 92 30 _ rfl _ _ _).trans rfl
theorem e_L_lengths_66 (xs : List Int) (v0 : Option Nat) (v1 : Option Nat) (v2 : Option Nat) (v3 : Option Nat) (v5 : Int) (v6 : Int) (v7 : Int) (v8 : Int) (v9 : Int) (v10 : Int) (h : zH) : zx zblk xs 92 66 [some (.inr (.inr v0)), some (.inr (.inr v1)), some (.inr (.inr v2)), some (.inr (.inr v3)), none, some (.inl v5), some (.inl v6), some (.inl v7), some (.inl v8), some (.inl v9), some (.inl v10)] [] h = (zai xs h v2 (1 + (6 * v9)) fun a1 => (if zw a1 ≤ zw v10 then zx zblk xs 92 112 [some (.inr (.inr v0)), some (.inr (.inr v1)), some (.inr (.inr v2)), some (.inr (.inr v3)), none, some (.inl v5), some (.inl v6), some (.inl v7), some (.inl v8), some (.inl v9)] [] h else (zai xs h v3 v9 fun a2 => (zai xs h v2 ((2 + (6 * v9)) + v10) fun a3 => (zci (zx zblk xs 87 0 [some (.inr (.inr v1)), some (.inl a3)] [] h) fun r5 h4 => zx zblk xs 92 66 [some (.inr (.inr v0)), some (.inr (.inr v1)), some (.inr (.inr v2)), some (.inr (.inr v3)), none, some (.inl v5), some (.inl v6), some (.inl (v7 + (a2 * r5))), some (.inl v8), some (.inl v9), some (.inl (v10 + 1))] [] h4))))) := (zx_unfold zblk xs 92 66 _ rfl _ _ _).trans rfl
theorem e_L_lengths_112 (xs : List Int) (v0 : Option Nat) (v1 : Option Nat) (v2 : Option Nat) (v3 : Option Nat) (v5 : Int) (v6 : Int) (v7 : Int) (v8 : Int) (v9 : Int) (h : zH) : zx zblk xs 92 112 [some (.inr (.inr v0)), some (.inr (.inr v1)), some (.inr (.inr v2)), some (.inr (.inr v3)), none, some (.inl v5), some (.inl v6), some (.inl v7), some (.inl v8), some (.inl v9)] [] h = zx zblk xs 92 30 [some (.inr (.inr v0)), some (.inr (.inr v1)), some (.inr (.inr v2)), some (.inr (.inr v3)), none, some (.inl v5), some (.inl v6), some (.inl v7), some (.inl v8), some (.inl (v9 + 1))] [] h := (zx_unfold zblk xs 92 112 _ rfl _ _ _).trans rfl
theorem e_L_lengths_118 (xs : List Int) (v0 : Option Nat) (v1 : Option Nat) (v2 : Option Nat) (v3 : Option Nat) (v5 : Int) (v6 : Int) (v7 : Int) (v8 : Int) (h : zH) : zx zblk xs 92 118 [some (.inr (.inr v0)), some (.inr (.inr v1)), some (.inr (.inr v2)), some (.inr (.inr v3)), none, some (.inl v5), some (.inl v6), some (.inl v7), some (.inl v8)] [] h = (zck h v0 6 (zci (zx zblk xs 55 0 [some (.inr (.inr v0)), some (.inl 0)] [] h) fun r2 h1 => (if zw r2 = zw v7 then zx zblk xs 92 130 [some (.inr (.inr v0)), some (.inr (.inr v1)), some (.inr (.inr v2)), some (.inr (.inr v3)), none, some (.inl v5), some (.inl v6), none, some (.inl v8)] [] h1 else (if 0 = 0 ∨ 0 = 1 then some (some (.inl 0), h1) else none)))) := (zx_unfold zblk xs 92 118 _ rfl _ _ _).trans rfl
theorem e_L_lengths_130 (xs : List Int) (v0 : Option Nat) (v1 : Option Nat) (v2 : Option Nat) (v3 : Option Nat) (v5 : Int) (v6 : Int) (v8 : Int) (h : zH) : zx zblk xs 92 130 [some (.inr (.inr v0)), some (.inr (.inr v1)), some (.inr (.inr v2)), some (.inr (.inr v3)), none, some (.inl v5), some (.inl v6), none, some (.inl v8)] [] h = (if zw v5 ≠ 0 then zx zblk xs 92 164 [some (.inr (.inr v0)), some (.inr (.inr v1)), some (.inr (.inr v2)), some (.inr (.inr v3)), none, some (.inl v5), some (.inl v6), none, some (.inl v8)] [] h else (zck h v0 6 (zci (zx zblk xs 54 0 [some (.inr (.inr v0)), some (.inl 0), some (.inl 0)] [] h) fun r2 h1 => (if zw r2 ≠ zw (-103) then zx zblk xs 92 162 [] [] h1 else (zck h1 v0 6 (zci (zx zblk xs 56 0 [some (.inr (.inr v0)), some (.inl 0), some (.inl 10)] [] h1) fun r4 h3 => (if zw r4 ≠ zw (-103) then zx zblk xs 92 162 [] [] h3 else zx zblk xs 92 163 [] [.inl 1] h3))))))) := (zx_unfold zblk xs 92 130 _ rfl _ _ _).trans rfl
theorem e_L_lengths_162 (xs : List Int)  (h : zH) : zx zblk xs 92 162 [] [] h = zx zblk xs 92 163 [] [.inl 0] h := (zx_unfold zblk xs 92 162 _ rfl _ _ _).trans rfl
theorem e_L_lengths_163 (xs : List Int) (s0 : Int) (h : zH) : zx zblk xs 92 163 [] [.inl s0] h = (if s0 = 0 ∨ s0 = 1 then some (some (.inl s0), h) else none) := (zx_unfold zblk xs 92 163 _ rfl _ _ _).trans rfl
theorem e_L_lengths_164 (xs : List Int) (v0 : Option Nat) (v1 : Option Nat) (v2 : Option Nat) (v3 : Option Nat) (v5 : Int) (v6 : Int) (v8 : Int) (h : zH) : zx zblk xs 92 164 [some (.inr (.inr v0)), some (.inr (.inr v1)), some (.inr (.inr v2)), some (.inr (.inr v3)), none, some (.inl v5), some (.inl v6), none, some (.inl v8)] [] h = (zck h v0 6 (zci (zx zblk xs 54 0 [some (.inr (.inr v0)), some (.inl 0), some (.inl 0)] [] h) fun r2 h1 => (zck h1 v0 6 (zci (zx zblk xs 54 0 [some (.inr (.inr v0)), some (.inl 0), some (.inl 1)] [] h1) fun r4 h3 => (zci (zx zblk xs 89 0 [some (.inr (.inl (zw r2))), none, some (.inr (.inl (zw r4))), none, some (.inr (.inl (zw v6))), none, some (.inr (.inl (zw v8))), none] [] h3) fun r6 h5 => (if zw r6 ≠ 0 then zx zblk xs 92 192 [some (.inr (.inr v0)), some (.inr (.inr v1)), some (.inr (.inr v2)), some (.inr (.inr v3)), none, some (.inl v5), none, none, some (.inl v8)] [] h5 else (if 0 = 0 ∨ 0 = 1 then some (some (.inl 0), h5) else none))))))) := (zx_unfold zblk xs 92 164 _ rfl _ _ _).trans rfl
theorem e_L_lengths_192 (xs : List Int) (v0 : Option Nat) (v1 : Option Nat) (v2 : Option Nat) (v3 : Option Nat) (v5 : Int) (v8 : Int) (h : zH) : zx zblk xs 92 192 [some (.inr (.inr v0)), some (.inr (.inr v1)), some (.inr (.inr v2)), some (.inr (.inr v3)), none, some (.inl v5), none, none, some (.inl v8)] [] h = zx zblk xs 92 198 [some (.inr (.inr v0)), some (.inr (.inr v1)), some (.inr (.inr v2)), some (.inr (.inr v3)), none, some (.inl v5), none, none, some (.inl v8), some (.inl 1), some (.inl 0)] [] h := (zx_unfold zblk xs 92 192 _ rfl _ _ _).trans rfl
theorem e_L_lengths_198 (xs : List Int) (v0 : Option Nat) (v1 : Option Nat) (v2 : Option Nat) (v3 : Option Nat) (v5 : Int) (v8 : Int) (v9 : Int) (v10 : Int) (h : zH) : zx zblk xs 92 198 [some (.inr (.inr v0)), some (.inr (.inr v1)), some (.inr (.inr v2)), some (.inr (.inr v3)), none, some (.inl v5), none, none, some (.inl v8), some (.inl v9), some (.inl v10)] [] h = (if zw v5 ≤ zw v10 then zx zblk xs 92 218 [some (.inr (.inr v0)), some (.inr (.inr v1)), some (.inr (.inr v2)), some (.inr (.inr v3)), none, some (.inl v5), none, none, some (.inl v8), some (.inl v9)] [] h else zx zblk xs 92 198 [some (.inr (.inr v0)), some (.inr (.inr v1)), some (.inr (.inr v2)), some (.inr (.inr v3)), none, some (.inl v5), none, none, some (.inl v8), some (.inl (v9 * v5)), some (.inl (v10 + 1))] [] h) := (zx_unfold zblk xs 92 198 _ rfl _ _ _).trans rfl
theorem e_L_lengths_218 (xs : List Int) (v0 : Option Nat) (v1 : Option Nat) (v2 : Option Nat) (v3 : Option Nat) (v5 : Int) (v8 : Int) (v9 : Int) (h : zH) : zx zblk xs 92 218 [some (.inr (.inr v0)), some (.inr (.inr v1)), some (.inr (.inr v2)), some (.inr (.inr v3)), none, some (.inl v5), none, none, some (.inl v8), some (.inl v9)] [] h = zx zblk xs 92 224 [some (.inr (.inr v0)), some (.inr (.inr v1)), some (.inr (.inr v2)), some (.inr (.inr v3)), none, some (.inl v5), none, none, some (.inl v8), some (.inl v9), some (.inl (-1)), some (.inl 0)] [] h := (zx_unfold zblk xs 92 218 _ rfl _ _ _).trans rfl
theorem e_L_lengths_224 (xs : List Int) (v0 : Option Nat) (v1 : Option Nat) (v2 : Option Nat) (v3 : Option Nat) (v5 : Int) (v8 : Int) (v9 : Int) (v10 : Int) (v11 : Int) (h : zH) : zx zblk xs 92 224 [some (.inr (.inr v0)), some (.inr (.inr v1)), some (.inr (.inr v2)), some (.inr (.inr v3)), none, some (.inl v5), none, none, some (.inl v8), some (.inl v9), some (.inl v10), some (.inl v11)] [] h = (if zw v9 ≤ zw v11 then zx zblk xs 92 332 [some (.inr (.inr v0)), some (.inr (.inr v1)), some (.inr (.inr v2)), some (.inr (.inr v3)), none, some (.inl v5), none, none, some (.inl v8), none, some (.inl v10)] [] h else zx zblk xs 92 244 [some (.inr (.inr v0)), some (.inr (.inr v1)), some (.inr (.inr v2)), some (.inr (.inr v3)), none, some (.inl v5), none, none, some (.inl v8), some (.inl v9), some (.inl v10), some (.inl v11), some (.inl 0), some (.inl 0), some (.inl v11), some (.inl 0)] [] h) := (zx_unfold zblk xs 92 224 _ rfl _ _ _).trans rfl
theorem e_L_lengths_244 (xs : List Int) (v0 : Option Nat) (v1 : Option Nat) (v2 : Option Nat) (v3 : Option Nat) (v5 : Int) (v8 : Int) (v9 : Int) (v10 : Int) (v11 : Int) (v12 : Int) (v13 : Int) (v14 : Int) (v15 : Int) (h : zH) : zx zblk xs 92 244 [some (.inr (.inr v0)), some (.inr (.inr v1)), some (.inr (.inr v2)), some (.inr (.inr v3)), none, some (.inl v5), none, none, some (.inl v8), some (.inl v9), some (.inl v10), some (.inl v11), some (.inl v12), some (.inl v13), some (.inl v14), some (.inl v15)] [] h = (if zw v5 ≤ zw v15 then zx zblk xs 92 296 [some (.inr (.inr v0)), some (.inr (.inr v1)), some (.inr (.inr v2)), some (.inr (.inr v3)), none, some (.inl v5), none, none, some (.inl v8), some (.inl v9), some (.inl v10), some (.inl v11), some (.inl v12), some (.inl v13)] [] h else (if zw v5 = 0 then none else (zai xs h v3 v15 fun a1 => (if zw v5 = 0 then none else (zci (zx zblk xs 88 0 [some (.inr (.inr v1)), some (.inr (.inr v2)), some (.inl ((zw v14).tmod (zw v5)))] [] h) fun r3 h2 => (if zw v5 = 0 then none else zx zblk xs 92 244 [some (.inr (.inr v0)), some (.inr (.inr v1)), some (.inr (.inr v2)), some (.inr (.inr v3)), none, some (.inl v5), none, none, some (.inl v8), some (.inl v9), some (.inl v10), some (.inl v11), some (.inl (zor v12 (zshl 1 ((zw v14).tmod (zw v5))))), some (.inl (v13 + (a1 * r3))), some (.inl ((zw v14).tdiv (zw v5))), some (.inl (v15 + 1))] [] h2)))))) := (zx_unfold zblk xs 92 244 _ rfl _ _ _).trans rfl
theorem e_L_lengths_296 (xs : List Int) (v0 : Option Nat) (v1 : Option Nat) (v2 : Option Nat) (v3 : Option Nat) (v5 : Int) (v8 : Int) (v9 : Int) (v10 : Int) (v11 : Int) (v12 : Int) (v13 : Int) (h : zH) : zx zblk xs 92 296 [some (.inr (.inr v0)), some (.inr (.inr v1)), some (.inr (.inr v2)), some (.inr (.inr v3)), none, some (.inl v5), none, none, some (.inl v8), some (.inl v9), some (.inl v10), some (.inl v11), some (.inl v12), some (.inl v13)] [] h = (if zw (v12 + 1) < zw (zshl 1 v5) then zx zblk xs 92 326 [some (.inr (.inr v0)), some (.inr (.inr v1)), some (.inr (.inr v2)), some (.inr (.inr v3)), none, some (.inl v5), none, none, some (.inl v8), some (.inl v9), some (.inl v10), some (.inl v11)] [] h else (if zw v10 < 0 then zx zblk xs 92 322 [some (.inr (.inr v0)), some (.inr (.inr v1)), some (.inr (.inr v2)), some (.inr (.inr v3)), none, some (.inl v5), none, none, some (.inl v8), some (.inl v9), none, some (.inl v11), none, some (.inl v13)] [] h else (if zw v13 < zw v10 then zx zblk xs 92 322 [some (.inr (.inr v0)), some (.inr (.inr v1)), some (.inr (.inr v2)), some (.inr (.inr v3)), none, some (.inl v5), none, none, some (.inl v8), some (.inl v9), none, some (.inl v11), none, some (.inl v13)] [] h else zx zblk xs 92 326 [some (.inr (.inr v0)), some (.inr (.inr v1)), some (.inr (.inr v2)), some (.inr (.inr v3)), none, some (.inl v5), none, none, some (.inl v8), some (.inl v9), some (.inl v10), some (.inl v11)] [] h))) := (zx_unfold zblk xs 92 296 _ rfl _ _ _).trans rfl
theorem e_L_lengths_322 (xs : List Int) (v0 : Option Nat) (v1 : Option Nat) (v2 : Option Nat) (v3 : Option Nat) (v5 : Int) (v8 : Int) (v9 : Int) (v11 : Int) (v13 : Int) (h : zH) : zx zblk xs 92 322 [some (.inr (.inr v0)), some (.inr (.inr v1)), some (.inr (.inr v2)), some (.inr (.inr v3)), none, some (.inl v5), none, none, some (.inl v8), some (.inl v9), none, some (.inl v11), none, some (.inl v13)] [] h = zx zblk xs 92 326 [some (.inr (.inr v0)), some (.inr (.inr v1)), some (.inr (.inr v2)), some (.inr (.inr v3)), none, some (.inl v5), none, none, some (.inl v8), some (.inl v9), some (.inl v13), some (.inl v11)] [] h := (zx_unfold zblk xs 92 322 _ rfl _ _ _).trans rfl
theorem e_L_lengths_326 (xs : List Int) (v0 : Option Nat) (v1 : Option Nat) (v2 : Option Nat) (v3 : Option Nat) (v5 : Int) (v8 : Int) (v9 : Int) (v10 : Int) (v11 : Int) (h : zH) : zx zblk xs 92 326 [some (.inr (.inr v0)), some (.inr (.inr v1)), some (.inr (.inr v2)), some (.inr (.inr v3)), none, some (.inl v5), none, none, some (.inl v8), some (.inl v9), some (.inl v10), some (.inl v11)] [] h = zx zblk xs 92 224 [some (.inr (.inr v0)), some (.inr (.inr v1)), some (.inr (.inr v2)), some (.inr (.inr v3)), none, some (.inl v5), none, none, some (.inl v8), some (.inl v9), some (.inl v10), some (.inl (v11 + 1))] [] h := (zx_unfold zblk xs 92 326 _ rfl _ _ _).trans rfl
theorem e_L_lengths_332 (xs : List Int) (v0 : Option Nat) (v1 : Option Nat) (v2 : Option Nat) (v3 : Option Nat) (v5 : Int) (v8 : Int) (v10 : Int) (h : zH) : zx zblk xs 92 332 [some (.inr (.inr v0)), some (.inr (.inr v1)), some (.inr (.inr v2)), some (.inr (.inr v3)), none, some (.inl v5), none, none, some (.inl v8), none, some (.inl v10)] [] h = (zck h v0 6 (zci (zx zblk xs 56 0 [some (.inr (.inr v0)), some (.inl 0), some (.inl 0)] [] h) fun r2 h1 => (zck h1 v0 6 (zci (zx zblk xs 56 0 [some (.inr (.inr v0)), some (.inl 0), some (.inl 1)] [] h1) fun r4 h3 => (zci (zx zblk xs 89 0 [some (.inr (.inl (zw r2))), none, some (.inr (.inl (zw r4))), none, some (.inr (.inl (zw v10))), none, some (.inr (.inl (zw v8))), none] [] h3) fun r6 h5 => (if zw r6 ≠ 0 then zx zblk xs 92 360 [some (.inr (.inr v0)), some (.inr (.inr v1)), some (.inr (.inr v2)), some (.inr (.inr v3)), none, some (.inl v5)] [] h5 else (if 0 = 0 ∨ 0 = 1 then some (some (.inl 0), h5) else none))))))) := (zx_unfold zblk xs 92 332 _ rfl _ _ _).trans rfl
theorem e_L_lengths_360 (xs : List Int) (v0 : Option Nat) (v1 : Option Nat) (v2 : Option Nat) (v3 : Option Nat) (v5 : Int) (h : zH) : zx zblk xs 92 360 [some (.inr (.inr v0)), some (.inr (.inr v1)), some (.inr (.inr v2)), some (.inr (.inr v3)), none, some (.inl v5)] [] h = zx zblk xs 92 363 [some (.inr (.inr v0)), some (.inr (.inr v1)), some (.inr (.inr v2)), some (.inr (.inr v3)), none, some (.inl v5), none, none, none, none, none, some (.inl 0)] [] h := (zx_unfold zblk xs 92 360 _ rfl _ _ _).trans rfl
theorem e_L_lengths_363 (xs : List Int) (v0 : Option Nat) (v1 : Option Nat) (v2 : Option Nat) (v3 : Option Nat) (v5 : Int) (v11 : Int) (h : zH) : zx zblk xs 92 363 [some (.inr (.inr v0)), some (.inr (.inr v1)), some (.inr (.inr v2)), some (.inr (.inr v3)), none, some (.inl v5), none, none, none, none, none, some (.inl v11)] [] h = (if zw 8 ≤ zw v11 then zx zblk xs 92 535 [] [] h else zx zblk xs 92 376 [some (.inr (.inr v0)), some (.inr (.inr v1)), some (.inr (.inr v2)), some (.inr (.inr v3)), none, some (.inl v5), none, none, none, none, none, some (.inl v11), some (.inl (-1)), some (.inl 0)] [] h) := (zx_unfold zblk xs 92 363 _ rfl _ _ _).trans rfl
theorem e_L_lengths_376 (xs : List Int) (v0 : Option Nat) (v1 : Option Nat) (v2 : Option Nat) (v3 : Option Nat) (v5 : Int) (v11 : Int) (v12 : Int) (v13 : Int) (h : zH) : zx zblk xs 92 376 [some (.inr (.inr v0)), some (.inr (.inr v1)), some (.inr (.inr v2)), some (.inr (.inr v3)), none, some (.inl v5), none, none, none, none, none, some (.inl v11), some (.inl v12), some (.inl v13)] [] h = (if zw v5 ≤ zw v13 then zx zblk xs 92 512 [some (.inr (.inr v0)), some (.inr (.inr v1)), some (.inr (.inr v2)), some (.inr (.inr v3)), none, some (.inl v5), none, none, none, none, none, some (.inl v11), some (.inl v12)] [] h else (if zw v5 ≤ zw v11 then zx zblk xs 92 512 [some (.inr (.inr v0)), some (.inr (.inr v1)), some (.inr (.inr v2)), some (.inr (.inr v3)), none, some (.inl v5), none, none, none, none, none, some (.inl v11), some (.inl v12)] [] h else zx zblk xs 92 399 [some (.inr (.inr v0)), some (.inr (.inr v1)), some (.inr (.inr v2)), some (.inr (.inr v3)), none, some (.inl v5), none, none, none, none, none, some (.inl v11), some (.inl v12), some (.inl v13), some (.inl 0), some (.inl 0), some (.inl 0)] [] h)) := (zx_unfold zblk xs 92 376 _ rfl _ _ _).trans rfl
theorem e_L_lengths_399 (xs : List Int) (v0 : Option Nat) (v1 : Option Nat) (v2 : Option Nat) (v3 : Option Nat) (v5 : Int) (v11 : Int) (v12 : Int) (v13 : Int) (v14 : Int) (v15 : Int) (v16 : Int) (h : zH) : zx zblk xs 92 399 [some (.inr (.inr v0)), some (.inr (.inr v1)), some (.inr (.inr v2)), some (.inr (.inr v3)), none, some (.inl v5), none, none, none, none, none, some (.inl v11), some (.inl v12), some (.inl v13), some (.inl v14), some (.inl v15), some (.inl v16)] [] h = (if zw v5 ≤ zw v16 then zx zblk xs 92 495 [some (.inr (.inr v0)), some (.inr (.inr v1)), some (.inr (.inr v2)), some (.inr (.inr v3)), none, some (.inl v5), none, none, none, none, none, some (.inl v11), some (.inl v12), some (.inl v13), some (.inl v14), some (.inl v15)] [] h else (zai xs h v3 v16 fun a1 => (zai xs h v3 v11 fun a2 => (if zw a2 < zw a1 then zx zblk xs 92 437 [some (.inr (.inr v0)), some (.inr (.inr v1)), some (.inr (.inr v2)), some (.inr (.inr v3)), none, some (.inl v5), none, none, none, none, none, some (.inl v11), some (.inl v12), some (.inl v13), none, some (.inl v15), some (.inl v16)] [.inl v14] h else (zai xs h v3 v16 fun a3 => (zai xs h v3 v11 fun a4 => (if zw a3 ≠ zw a4 then zx zblk xs 92 441 [some (.inr (.inr v0)), some (.inr (.inr v1)), some (.inr (.inr v2)), some (.inr (.inr v3)), none, some (.inl v5), none, none, none, none, none, some (.inl v11), some (.inl v12), some (.inl v13), none, some (.inl v15), some (.inl v16)] [.inl v14] h else (if zw v11 ≤ zw v16 then zx zblk xs 92 441 [some (.inr (.inr v0)), some (.inr (.inr v1)), some (.inr (.inr v2)), some (.inr (.inr v3)), none, some (.inl v5), none, none, none, none, none, some (.inl v11), some (.inl v12), some (.inl v13), none, some (.inl v15), some (.inl v16)] [.inl v14] h else zx zblk xs 92 437 [some (.inr (.inr v0)), some (.inr (.inr v1)), some (.inr (.inr v2)), some (.inr (.inr v3)), none, some (.inl v5), none, none, none, none, none, some (.inl v11), some (.inl v12), some (.inl v13), none, some (.inl v15), some (.inl v16)] [.inl v14] h)))))))) := (zx_unfold zblk xs 92 399 _ rfl _ _ _).trans rfl
theorem e_L_lengths_437 (xs : List Int) (v0 : Option Nat) (v1 : Option Nat) (v2 : Option Nat) (v3 : Option Nat) (v5 : Int) (v11 : Int) (v12 : Int) (v13 : Int) (v15 : Int) (v16 : Int) (s0 : Int) (h : zH) : zx zblk xs 92 437 [some (.inr (.inr v0)), some (.inr (.inr v1)), some (.inr (.inr v2)), some (.inr (.inr v3)), none, some (.inl v5), none, none, none, none, none, some (.inl v11), some (.inl v12), some (.inl v13), none, some (.inl v15), some (.inl v16)] [.inl s0] h = zx zblk xs 92 442 [some (.inr (.inr v0)), some (.inr (.inr v1)), some (.inr (.inr v2)), some (.inr (.inr v3)), none, some (.inl v5), none, none, none, none, none, some (.inl v11), some (.inl v12), some (.inl v13), none, some (.inl v15), some (.inl v16)] [.inl 1, .inl s0] h := (zx_unfold zblk xs 92 437 _ rfl _ _ _).trans rfl
theorem e_L_lengths_441 (xs : List Int) (v0 : Option Nat) (v1 : Option Nat) (v2 : Option Nat) (v3 : Option Nat) (v5 : Int) (v11 : Int) (v12 : Int) (v13 : Int) (v15 : Int) (v16 : Int) (s0 : Int) (h : zH) : zx zblk xs 92 441 [some (.inr (.inr v0)), some (.inr (.inr v1)), some (.inr (.inr v2)), some (.inr (.inr v3)), none, some (.inl v5), none, none, none, none, none, some (.inl v11), some (.inl v12), some (.inl v13), none, some (.inl v15), some (.inl v16)] [.inl s0] h = zx zblk xs 92 442 [some (.inr (.inr v0)), some (.inr (.inr v1)), some (.inr (.inr v2)), some (.inr (.inr v3)), none, some (.inl v5), none, none, none, none, none, some (.inl v11), some (.inl v12), some (.inl v13), none, some (.inl v15), some (.inl v16)] [.inl 0, .inl s0] h := (zx_unfold zblk xs 92 441 _ rfl _ _ _).trans rfl
theorem e_L_lengths_442 (xs : List Int) (v0 : Option Nat) (v1 : Option Nat) (v2 : Option Nat) (v3 : Option Nat) (v5 : Int) (v11 : Int) (v12 : Int) (v13 : Int) (v15 : Int) (v16 : Int) (s0 : Int) (s1 : Int) (h : zH) : zx zblk xs 92 442 [some (.inr (.inr v0)), some (.inr (.inr v1)), some (.inr (.inr v2)), some (.inr (.inr v3)), none, some (.inl v5), none, none, none, none, none, some (.inl v11), some (.inl v12), some (.inl v13), none, some (.inl v15), some (.inl v16)] [.inl s1, .inl s0] h = (zci (zx zblk xs 88 0 [some (.inr (.inr v1)), some (.inr (.inr v2)), some (.inl v16)] [] h) fun r2 h1 => (zci (zx zblk xs 88 0 [some (.inr (.inr v1)), some (.inr (.inr v2)), some (.inl v13)] [] h1) fun r4 h3 => (if zw (r2 - r4) < 0 then zx zblk xs 92 481 [some (.inr (.inr v0)), some (.inr (.inr v1)), some (.inr (.inr v2)), some (.inr (.inr v3)), none, some (.inl v5), none, none, none, none, none, some (.inl v11), some (.inl v12), some (.inl v13), some (.inl (s0 + s1)), none, some (.inl v16)] [.inl v15] h3 else (if zw (r2 - r4) ≠ 0 then zx zblk xs 92 485 [some (.inr (.inr v0)), some (.inr (.inr v1)), some (.inr (.inr v2)), some (.inr (.inr v3)), none, some (.inl v5), none, none, none, none, none, some (.inl v11), some (.inl v12), some (.inl v13), some (.inl (s0 + s1)), none, some (.inl v16)] [.inl v15] h3 else (if zw v13 ≤ zw v16 then zx zblk xs 92 485 [some (.inr (.inr v0)), some (.inr (.inr v1)), some (.inr (.inr v2)), some (.inr (.inr v3)), none, some (.inl v5), none, none, none, none, none, some (.inl v11), some (.inl v12), some (.inl v13), some (.inl (s0 + s1)), none, some (.inl v16)] [.inl v15] h3 else zx zblk xs 92 481 [some (.inr (.inr v0)), some (.inr (.inr v1)), some (.inr (.inr v2)), some (.inr (.inr v3)), none, some (.inl v5), none, none, none, none, none, some (.inl v11), some (.inl v12), some (.inl v13), some (.inl (s0 + s1)), none, some (.inl v16)] [.inl v15] h3))))) := (zx_unfold zblk xs 92 442 _ rfl _ _ _).trans rfl
theorem e_L_lengths_481 (xs : List Int) (v0 : Option Nat) (v1 : Option Nat) (v2 : Option Nat) (v3 : Option Nat) (v5 : Int) (v11 : Int) (v12 : Int) (v13 : Int) (v14 : Int) (v16 : Int) (s0 : Int) (h : zH) : zx zblk xs 92 481 [some (.inr (.inr v0)), some (.inr (.inr v1)), some (.inr (.inr v2)), some (.inr (.inr v3)), none, some (.inl v5), none, none, none, none, none, some (.inl v11), some (.inl v12), some (.inl v13), some (.inl v14), none, some (.inl v16)] [.inl s0] h = zx zblk xs 92 486 [some (.inr (.inr v0)), some (.inr (.inr v1)), some (.inr (.inr v2)), some (.inr (.inr v3)), none, some (.inl v5), none, none, none, none, none, some (.inl v11), some (.inl v12), some (.inl v13), some (.inl v14), none, some (.inl v16)] [.inl 1, .inl s0] h := (zx_unfold zblk xs 92 481 _ rfl _ _ _).trans rfl
theorem e_L_lengths_485 (xs : List Int) (v0 : Option Nat) (v1 : Option Nat) (v2 : Option Nat) (v3 : Option Nat) (v5 : Int) (v11 : Int) (v12 : Int) (v13 : Int) (v14 : Int) (v16 : Int) (s0 : Int) (h : zH) : zx zblk xs 92 485 [some (.inr (.inr v0)), some (.inr (.inr v1)), some (.inr (.inr v2)), some (.inr (.inr v3)), none, some (.inl v5), none, none, none, none, none, some (.inl v11), some (.inl v12), some (.inl v13), some (.inl v14), none, some (.inl v16)] [.inl s0] h = zx zblk xs 92 486 [some (.inr (.inr v0)), some (.inr (.inr v1)), some (.inr (.inr v2)), some (.inr (.inr v3)), none, some (.inl v5), none, none, none, none, none, some (.inl v11), some (.inl v12), some (.inl v13), some (.inl v14), none, some (.inl v16)] [.inl 0, .inl s0] h := (zx_unfold zblk xs 92 485 _ rfl _ _ _).trans rfl
theorem e_L_lengths_486 (xs : List Int) (v0 : Option Nat) (v1 : Option Nat) (v2 : Option Nat) (v3 : Option Nat) (v5 : Int) (v11 : Int) (v12 : Int) (v13 : Int) (v14 : Int) (v16 : Int) (s0 : Int) (s1 : Int) (h : zH) : zx zblk xs 92 486 [some (.inr (.inr v0)), some (.inr (.inr v1)), some (.inr (.inr v2)), some (.inr (.inr v3)), none, some (.inl v5), none, none, none, none, none, some (.inl v11), some (.inl v12), some (.inl v13), some (.inl v14), none, some (.inl v16)] [.inl s1, .inl s0] h = zx zblk xs 92 399 [some (.inr (.inr v0)), some (.inr (.inr v1)), some (.inr (.inr v2)), some (.inr (.inr v3)), none, some (.inl v5), none, none, none, none, none, some (.inl v11), some (.inl v12), some (.inl v13), some (.inl v14), some (.inl (s0 + s1)), some (.inl (v16 + 1))] [] h := (zx_unfold zblk xs 92 486 _ rfl _ _ _).trans rfl
theorem e_L_lengths_495 (xs : List Int) (v0 : Option Nat) (v1 : Option Nat) (v2 : Option Nat) (v3 : Option Nat) (v5 : Int) (v11 : Int) (v12 : Int) (v13 : Int) (v14 : Int) (v15 : Int) (h : zH) : zx zblk xs 92 495 [some (.inr (.inr v0)), some (.inr (.inr v1)), some (.inr (.inr v2)), some (.inr (.inr v3)), none, some (.inl v5), none, none, none, none, none, some (.inl v11), some (.inl v12), some (.inl v13), some (.inl v14), some (.inl v15)] [] h = (if zw v14 ≠ zw v15 then zx zblk xs 92 506 [some (.inr (.inr v0)), some (.inr (.inr v1)), some (.inr (.inr v2)), some (.inr (.inr v3)), none, some (.inl v5), none, none, none, none, none, some (.inl v11), some (.inl v12), some (.inl v13)] [] h else zx zblk xs 92 506 [some (.inr (.inr v0)), some (.inr (.inr v1)), some (.inr (.inr v2)), some (.inr (.inr v3)), none, some (.inl v5), none, none, none, none, none, some (.inl v11), some (.inl v13), some (.inl v13)] [] h) := (zx_unfold zblk xs 92 495 _ rfl _ _ _).trans rfl
theorem e_L_lengths_506 (xs : List Int) (v0 : Option Nat) (v1 : Option Nat) (v2 : Option Nat) (v3 : Option Nat) (v5 : Int) (v11 : Int) (v12 : Int) (v13 : Int) (h : zH) : zx zblk xs 92 506 [some (.inr (.inr v0)), some (.inr (.inr v1)), some (.inr (.inr v2)), some (.inr (.inr v3)), none, some (.inl v5), none, none, none, none, none, some (.inl v11), some (.inl v12), some (.inl v13)] [] h = zx zblk xs 92 376 [some (.inr (.inr v0)), some (.inr (.inr v1)), some (.inr (.inr v2)), some (.inr (.inr v3)), none, some (.inl v5), none, none, none, none, none, some (.inl v11), some (.inl v12), some (.inl (v13 + 1))] [] h := (zx_unfold zblk xs 92 506 _ rfl _ _ _).trans rfl
theorem e_L_lengths_512 (xs : List Int) (v0 : Option Nat) (v1 : Option Nat) (v2 : Option Nat) (v3 : Option Nat) (v5 : Int) (v11 : Int) (v12 : Int) (h : zH) : zx zblk xs 92 512 [some (.inr (.inr v0)), some (.inr (.inr v1)), some (.inr (.inr v2)), some (.inr (.inr v3)), none, some (.inl v5), none, none, none, none, none, some (.inl v11), some (.inl v12)] [] h = (zck h v0 6 (zci (zx zblk xs 56 0 [some (.inr (.inr v0)), some (.inl 0), some (.inl (10 + v11))] [] h) fun r2 h1 => (if zw r2 = zw v12 then zx zblk xs 92 529 [some (.inr (.inr v0)), some (.inr (.inr v1)), some (.inr (.inr v2)), some (.inr (.inr v3)), none, some (.inl v5), none, none, none, none, none, some (.inl v11)] [] h1 else (if 0 = 0 ∨ 0 = 1 then some (some (.inl 0), h1) else none)))) := (zx_unfold zblk xs 92 512 _ rfl _ _ _).trans rfl
theorem e_L_lengths_529 (xs : List Int) (v0 : Option Nat) (v1 : Option Nat) (v2 : Option Nat) (v3 : Option Nat) (v5 : Int) (v11 : Int) (h : zH) : zx zblk xs 92 529 [some (.inr (.inr v0)), some (.inr (.inr v1)), some (.inr (.inr v2)), some (.inr (.inr v3)), none, some (.inl v5), none, none, none, none, none, some (.inl v11)] [] h = zx zblk xs 92 363 [some (.inr (.inr v0)), some (.inr (.inr v1)), some (.inr (.inr v2)), some (.inr (.inr v3)), none, some (.inl v5), none, none, none, none, none, some (.inl (v11 + 1))] [] h := (zx_unfold zblk xs 92 529 _ rfl _ _ _).trans rfl
theorem e_L_lengths_535 (xs : List Int)  (h : zH) : zx zblk xs 92 535 [] [] h = (if 1 = 0 ∨ 1 = 1 then some (some (.inl 1), h) else none) := (zx_unfold zblk xs 92 535 _ rfl _ _ _).trans rfl
/-- MindReadersLaw.stops(LMindReaders;[I[I[I)Z -/
noncomputable abbrev r_L_stops (xs : List Int) (v1 : Option Nat) (v2 : Option Nat) (v3 : Option Nat) (v4 : Option Nat) (h : zH) : Option zR := zx zblk xs 93 0 [some (.inr (.inr v1)), some (.inr (.inr v2)), some (.inr (.inr v3)), some (.inr (.inr v4))] [] h
theorem e_L_stops_0 (xs : List Int) (v0 : Option Nat) (v1 : Option Nat) (v2 : Option Nat) (v3 : Option Nat) (h : zH) : zx zblk xs 93 0 [some (.inr (.inr v0)), some (.inr (.inr v1)), some (.inr (.inr v2)), some (.inr (.inr v3))] [] h = (zci (zx zblk xs 78 0 [some (.inr (.inr v1)), some (.inl 32)] [] h) fun r2 h1 => (zci (zx zblk xs 79 0 [some (.inl r2), some (.inl 256)] [] h1) fun r4 h3 => (zna h3 12 fun p5 h6 => (zna h6 12 fun p7 h8 => zx zblk xs 93 36 [some (.inr (.inr v0)), none, some (.inr (.inr v2)), some (.inr (.inr v3)), some (.inl 99), some (.inl (-1)), some (.inl r4), some (.inr (.inr p5)), some (.inr (.inr p7)), some (.inl 0)] [] h8)))) := (zx_unfold zblk xs 93 0 _ rfl _ _ _).trans rfl
theorem e_L_stops_36 (xs : List Int) (v0 : Option Nat) (v2 : Option Nat) (v3 : Option Nat) (v4 : Int) (v5 : Int) (v6 : Int) (v7 : Option Nat) (v8 : Option Nat) (v9 : Int) (h : zH) : zx zblk xs 93 36 [some (.inr (.inr v0)), none, some (.inr (.inr v2)), some (.inr (.inr v3)), some (.inl v4), some (.inl v5), some (.inl v6), some (.inr (.inr v7)), some (.inr (.inr v8)), some (.inl v9)] [] h = (if zw 256 ≤ zw v9 then zx zblk xs 93 241 [some (.inr (.inr v0)), none, none, none, none, some (.inl v5)] [] h else zx zblk xs 93 50 [some (.inr (.inr v0)), none, some (.inr (.inr v2)), some (.inr (.inr v3)), some (.inl v4), some (.inl v5), some (.inl v6), some (.inr (.inr v7)), some (.inr (.inr v8)), some (.inl v9), some (.inl 0), some (.inl 0)] [] h) := (zx_unfold zblk xs 93 36 _ rfl _ _ _).trans rfl
theorem e_L_stops_50 (xs : List Int) (v0 : Option Nat) (v2 : Option Nat) (v3 : Option Nat) (v4 : Int) (v5 : Int) (v6 : Int) (v7 : Option Nat) (v8 : Option Nat) (v9 : Int) (v10 : Int) (v11 : Int) (h : zH) : zx zblk xs 93 50 [some (.inr (.inr v0)), none, some (.inr (.inr v2)), some (.inr (.inr v3)), some (.inl v4), some (.inl v5), some (.inl v6), some (.inr (.inr v7)), some (.inr (.inr v8)), some (.inl v9), some (.inl v10), some (.inl v11)] [] h = (if zw 8 ≤ zw v11 then zx zblk xs 93 75 [some (.inr (.inr v0)), none, some (.inr (.inr v2)), some (.inr (.inr v3)), some (.inl v4), some (.inl v5), some (.inl v6), some (.inr (.inr v7)), some (.inr (.inr v8)), some (.inl v9), some (.inl v10)] [] h else zx zblk xs 93 50 [some (.inr (.inr v0)), none, some (.inr (.inr v2)), some (.inr (.inr v3)), some (.inl v4), some (.inl v5), some (.inl v6), some (.inr (.inr v7)), some (.inr (.inr v8)), some (.inl v9), some (.inl (v10 + (zand (zshr v9 v11) 1))), some (.inl (v11 + 1))] [] h) := (zx_unfold zblk xs 93 50 _ rfl _ _ _).trans rfl
theorem e_L_stops_75 (xs : List Int) (v0 : Option Nat) (v2 : Option Nat) (v3 : Option Nat) (v4 : Int) (v5 : Int) (v6 : Int) (v7 : Option Nat) (v8 : Option Nat) (v9 : Int) (v10 : Int) (h : zH) : zx zblk xs 93 75 [some (.inr (.inr v0)), none, some (.inr (.inr v2)), some (.inr (.inr v3)), some (.inl v4), some (.inl v5), some (.inl v6), some (.inr (.inr v7)), some (.inr (.inr v8)), some (.inl v9), some (.inl v10)] [] h = (if zw v10 < zw v4 then zx zblk xs 93 92 [some (.inr (.inr v0)), none, some (.inr (.inr v2)), some (.inr (.inr v3)), some (.inl v4), some (.inl v5), some (.inl v6), some (.inr (.inr v7)), some (.inr (.inr v8)), some (.inl v9), some (.inl v10)] [] h else (if zw v9 = zw v6 then zx zblk xs 93 92 [some (.inr (.inr v0)), none, some (.inr (.inr v2)), some (.inr (.inr v3)), some (.inl v4), some (.inl v5), some (.inl v6), some (.inr (.inr v7)), some (.inr (.inr v8)), some (.inl v9), some (.inl v10)] [] h else zx zblk xs 93 235 [some (.inr (.inr v0)), none, some (.inr (.inr v2)), some (.inr (.inr v3)), some (.inl v4), some (.inl v5), some (.inl v6), some (.inr (.inr v7)), some (.inr (.inr v8)), some (.inl v9)] [] h)) := (zx_unfold zblk xs 93 75 _ rfl _ _ _).trans rfl
theorem e_L_stops_92 (xs : List Int) (v0 : Option Nat) (v2 : Option Nat) (v3 : Option Nat) (v4 : Int) (v5 : Int) (v6 : Int) (v7 : Option Nat) (v8 : Option Nat) (v9 : Int) (v10 : Int) (h : zH) : zx zblk xs 93 92 [some (.inr (.inr v0)), none, some (.inr (.inr v2)), some (.inr (.inr v3)), some (.inl v4), some (.inl v5), some (.inl v6), some (.inr (.inr v7)), some (.inr (.inr v8)), some (.inl v9), some (.inl v10)] [] h = zx zblk xs 93 98 [some (.inr (.inr v0)), none, some (.inr (.inr v2)), some (.inr (.inr v3)), some (.inl v4), some (.inl v5), some (.inl v6), some (.inr (.inr v7)), some (.inr (.inr v8)), some (.inl v9), some (.inl v10), some (.inl 0), some (.inl 0)] [] h := (zx_unfold zblk xs 93 92 _ rfl _ _ _).trans rfl
theorem e_L_stops_98 (xs : List Int) (v0 : Option Nat) (v2 : Option Nat) (v3 : Option Nat) (v4 : Int) (v5 : Int) (v6 : Int) (v7 : Option Nat) (v8 : Option Nat) (v9 : Int) (v10 : Int) (v11 : Int) (v12 : Int) (h : zH) : zx zblk xs 93 98 [some (.inr (.inr v0)), none, some (.inr (.inr v2)), some (.inr (.inr v3)), some (.inl v4), some (.inl v5), some (.inl v6), some (.inr (.inr v7)), some (.inr (.inr v8)), some (.inl v9), some (.inl v10), some (.inl v11), some (.inl v12)] [] h = (zai xs h v3 0 fun a1 => (if zw a1 ≤ zw v12 then zx zblk xs 93 190 [some (.inr (.inr v0)), none, some (.inr (.inr v2)), some (.inr (.inr v3)), some (.inl v4), some (.inl v5), some (.inl v6), some (.inr (.inr v7)), some (.inr (.inr v8)), some (.inl v9), some (.inl v10), some (.inl v11)] [] h else (zcv (zx zblk xs 84 0 [some (.inr (.inr v2)), some (.inr (.inr v3)), some (.inl v12), some (.inl v9), some (.inr (.inr v7))] [] h) fun h2 => zx zblk xs 93 123 [some (.inr (.inr v0)), none, some (.inr (.inr v2)), some (.inr (.inr v3)), some (.inl v4), some (.inl v5), some (.inl v6), some (.inr (.inr v7)), some (.inr (.inr v8)), some (.inl v9), some (.inl v10), some (.inl v11), some (.inl v12), some (.inl 1), some (.inl 0)] [] h2))) := (zx_unfold zblk xs 93 98 _ rfl _ _ _).trans rfl
theorem e_L_stops_123 (xs : List Int) (v0 : Option Nat) (v2 : Option Nat) (v3 : Option Nat) (v4 : Int) (v5 : Int) (v6 : Int) (v7 : Option Nat) (v8 : Option Nat) (v9 : Int) (v10 : Int) (v11 : Int) (v12 : Int) (v13 : Int) (v14 : Int) (h : zH) : zx zblk xs 93 123 [some (.inr (.inr v0)), none, some (.inr (.inr v2)), some (.inr (.inr v3)), some (.inl v4), some (.inl v5), some (.inl v6), some (.inr (.inr v7)), some (.inr (.inr v8)), some (.inl v9), some (.inl v10), some (.inl v11), some (.inl v12), some (.inl v13), some (.inl v14)] [] h = (if zw v12 ≤ zw v14 then zx zblk xs 93 169 [some (.inr (.inr v0)), none, some (.inr (.inr v2)), some (.inr (.inr v3)), some (.inl v4), some (.inl v5), some (.inl v6), some (.inr (.inr v7)), some (.inr (.inr v8)), some (.inl v9), some (.inl v10), some (.inl v11), some (.inl v12), some (.inl v13)] [] h else (if zw v13 = 0 then zx zblk xs 93 169 [some (.inr (.inr v0)), none, some (.inr (.inr v2)), some (.inr (.inr v3)), some (.inl v4), some (.inl v5), some (.inl v6), some (.inr (.inr v7)), some (.inr (.inr v8)), some (.inl v9), some (.inl v10), some (.inl v11), some (.inl v12), some (.inl v13)] [] h else (zcv (zx zblk xs 84 0 [some (.inr (.inr v2)), some (.inr (.inr v3)), some (.inl v14), some (.inl v9), some (.inr (.inr v8))] [] h) fun h1 => (zci (zx zblk xs 85 0 [some (.inr (.inr v7)), some (.inr (.inr v8))] [] h1) fun r3 h2 => (if zw r3 ≠ 0 then zx zblk xs 93 160 [some (.inr (.inr v0)), none, some (.inr (.inr v2)), some (.inr (.inr v3)), some (.inl v4), some (.inl v5), some (.inl v6), some (.inr (.inr v7)), some (.inr (.inr v8)), some (.inl v9), some (.inl v10), some (.inl v11), some (.inl v12), none, some (.inl v14)] [] h2 else zx zblk xs 93 161 [some (.inr (.inr v0)), none, some (.inr (.inr v2)), some (.inr (.inr v3)), some (.inl v4), some (.inl v5), some (.inl v6), some (.inr (.inr v7)), some (.inr (.inr v8)), some (.inl v9), some (.inl v10), some (.inl v11), some (.inl v12), none, some (.inl v14)] [.inl 1] h2))))) := (zx_unfold zblk xs 93 123 _ rfl _ _ _).trans rfl
theorem e_L_stops_160 (xs : List Int) (v0 : Option Nat) (v2 : Option Nat) (v3 : Option Nat) (v4 : Int) (v5 : Int) (v6 : Int) (v7 : Option Nat) (v8 : Option Nat) (v9 : Int) (v10 : Int) (v11 : Int) (v12 : Int) (v14 : Int) (h : zH) : zx zblk xs 93 160 [some (.inr (.inr v0)), none, some (.inr (.inr v2)), some (.inr (.inr v3)), some (.inl v4), some (.inl v5), some (.inl v6), some (.inr (.inr v7)), some (.inr (.inr v8)), some (.inl v9), some (.inl v10), some (.inl v11), some (.inl v12), none, some (.inl v14)] [] h = zx zblk xs 93 161 [some (.inr (.inr v0)), none, some (.inr (.inr v2)), some (.inr (.inr v3)), some (.inl v4), some (.inl v5), some (.inl v6), some (.inr (.inr v7)), some (.inr (.inr v8)), some (.inl v9), some (.inl v10), some (.inl v11), some (.inl v12), none, some (.inl v14)] [.inl 0] h := (zx_unfold zblk xs 93 160 _ rfl _ _ _).trans rfl
theorem e_L_stops_161 (xs : List Int) (v0 : Option Nat) (v2 : Option Nat) (v3 : Option Nat) (v4 : Int) (v5 : Int) (v6 : Int) (v7 : Option Nat) (v8 : Option Nat) (v9 : Int) (v10 : Int) (v11 : Int) (v12 : Int) (v14 : Int) (s0 : Int) (h : zH) : zx zblk xs 93 161 [some (.inr (.inr v0)), none, some (.inr (.inr v2)), some (.inr (.inr v3)), some (.inl v4), some (.inl v5), some (.inl v6), some (.inr (.inr v7)), some (.inr (.inr v8)), some (.inl v9), some (.inl v10), some (.inl v11), some (.inl v12), none, some (.inl v14)] [.inl s0] h = zx zblk xs 93 123 [some (.inr (.inr v0)), none, some (.inr (.inr v2)), some (.inr (.inr v3)), some (.inl v4), some (.inl v5), some (.inl v6), some (.inr (.inr v7)), some (.inr (.inr v8)), some (.inl v9), some (.inl v10), some (.inl v11), some (.inl v12), some (.inl s0), some (.inl (v14 + 1))] [] h := (zx_unfold zblk xs 93 161 _ rfl _ _ _).trans rfl
theorem e_L_stops_169 (xs : List Int) (v0 : Option Nat) (v2 : Option Nat) (v3 : Option Nat) (v4 : Int) (v5 : Int) (v6 : Int) (v7 : Option Nat) (v8 : Option Nat) (v9 : Int) (v10 : Int) (v11 : Int) (v12 : Int) (v13 : Int) (h : zH) : zx zblk xs 93 169 [some (.inr (.inr v0)), none, some (.inr (.inr v2)), some (.inr (.inr v3)), some (.inl v4), some (.inl v5), some (.inl v6), some (.inr (.inr v7)), some (.inr (.inr v8)), some (.inl v9), some (.inl v10), some (.inl v11), some (.inl v12), some (.inl v13)] [] h = (if zw v13 = 0 then zx zblk xs 93 180 [some (.inr (.inr v0)), none, some (.inr (.inr v2)), some (.inr (.inr v3)), some (.inl v4), some (.inl v5), some (.inl v6), some (.inr (.inr v7)), some (.inr (.inr v8)), some (.inl v9), some (.inl v10), none, some (.inl v12)] [.inl v11] h else zx zblk xs 93 181 [some (.inr (.inr v0)), none, some (.inr (.inr v2)), some (.inr (.inr v3)), some (.inl v4), some (.inl v5), some (.inl v6), some (.inr (.inr v7)), some (.inr (.inr v8)), some (.inl v9), some (.inl v10), none, some (.inl v12)] [.inl 1, .inl v11] h) := (zx_unfold zblk xs 93 169 _ rfl _ _ _).trans rfl
theorem e_L_stops_180 (xs : List Int) (v0 : Option Nat) (v2 : Option Nat) (v3 : Option Nat) (v4 : Int) (v5 : Int) (v6 : Int) (v7 : Option Nat) (v8 : Option Nat) (v9 : Int) (v10 : Int) (v12 : Int) (s0 : Int) (h : zH) : zx zblk xs 93 180 [some (.inr (.inr v0)), none, some (.inr (.inr v2)), some (.inr (.inr v3)), some (.inl v4), some (.inl v5), some (.inl v6), some (.inr (.inr v7)), some (.inr (.inr v8)), some (.inl v9), some (.inl v10), none, some (.inl v12)] [.inl s0] h = zx zblk xs 93 181 [some (.inr (.inr v0)), none, some (.inr (.inr v2)), some (.inr (.inr v3)), some (.inl v4), some (.inl v5), some (.inl v6), some (.inr (.inr v7)), some (.inr (.inr v8)), some (.inl v9), some (.inl v10), none, some (.inl v12)] [.inl 0, .inl s0] h := (zx_unfold zblk xs 93 180 _ rfl _ _ _).trans rfl
theorem e_L_stops_181 (xs : List Int) (v0 : Option Nat) (v2 : Option Nat) (v3 : Option Nat) (v4 : Int) (v5 : Int) (v6 : Int) (v7 : Option Nat) (v8 : Option Nat) (v9 : Int) (v10 : Int) (v12 : Int) (s0 : Int) (s1 : Int) (h : zH) : zx zblk xs 93 181 [some (.inr (.inr v0)), none, some (.inr (.inr v2)), some (.inr (.inr v3)), some (.inl v4), some (.inl v5), some (.inl v6), some (.inr (.inr v7)), some (.inr (.inr v8)), some (.inl v9), some (.inl v10), none, some (.inl v12)] [.inl s1, .inl s0] h = zx zblk xs 93 98 [some (.inr (.inr v0)), none, some (.inr (.inr v2)), some (.inr (.inr v3)), some (.inl v4), some (.inl v5), some (.inl v6), some (.inr (.inr v7)), some (.inr (.inr v8)), some (.inl v9), some (.inl v10), some (.inl (s0 + s1)), some (.inl (v12 + 1))] [] h := (zx_unfold zblk xs 93 181 _ rfl _ _ _).trans rfl
theorem e_L_stops_190 (xs : List Int) (v0 : Option Nat) (v2 : Option Nat) (v3 : Option Nat) (v4 : Int) (v5 : Int) (v6 : Int) (v7 : Option Nat) (v8 : Option Nat) (v9 : Int) (v10 : Int) (v11 : Int) (h : zH) : zx zblk xs 93 190 [some (.inr (.inr v0)), none, some (.inr (.inr v2)), some (.inr (.inr v3)), some (.inl v4), some (.inl v5), some (.inl v6), some (.inr (.inr v7)), some (.inr (.inr v8)), some (.inl v9), some (.inl v10), some (.inl v11)] [] h = (if zw v9 ≠ zw v6 then zx zblk xs 93 211 [some (.inr (.inr v0)), none, some (.inr (.inr v2)), some (.inr (.inr v3)), some (.inl v4), some (.inl v5), some (.inl v6), some (.inr (.inr v7)), some (.inr (.inr v8)), some (.inl v9), some (.inl v10), some (.inl v11)] [] h else (zck h v0 6 (zci (zx zblk xs 59 0 [some (.inr (.inr v0)), some (.inl 0), some (.inl v9)] [] h) fun r2 h1 => (if zw r2 = zw v11 then zx zblk xs 93 211 [some (.inr (.inr v0)), none, some (.inr (.inr v2)), some (.inr (.inr v3)), some (.inl v4), some (.inl v5), some (.inl v6), some (.inr (.inr v7)), some (.inr (.inr v8)), some (.inl v9), some (.inl v10), some (.inl v11)] [] h1 else (if 0 = 0 ∨ 0 = 1 then some (some (.inl 0), h1) else none))))) := (zx_unfold zblk xs 93 190 _ rfl _ _ _).trans rfl
theorem e_L_stops_211 (xs : List Int) (v0 : Option Nat) (v2 : Option Nat) (v3 : Option Nat) (v4 : Int) (v5 : Int) (v6 : Int) (v7 : Option Nat) (v8 : Option Nat) (v9 : Int) (v10 : Int) (v11 : Int) (h : zH) : zx zblk xs 93 211 [some (.inr (.inr v0)), none, some (.inr (.inr v2)), some (.inr (.inr v3)), some (.inl v4), some (.inl v5), some (.inl v6), some (.inr (.inr v7)), some (.inr (.inr v8)), some (.inl v9), some (.inl v10), some (.inl v11)] [] h = (if zw 1 < zw v11 then zx zblk xs 93 235 [some (.inr (.inr v0)), none, some (.inr (.inr v2)), some (.inr (.inr v3)), some (.inl v4), some (.inl v5), some (.inl v6), some (.inr (.inr v7)), some (.inr (.inr v8)), some (.inl v9)] [] h else (if zw v10 < zw v4 then zx zblk xs 93 227 [some (.inr (.inr v0)), none, some (.inr (.inr v2)), some (.inr (.inr v3)), none, none, some (.inl v6), some (.inr (.inr v7)), some (.inr (.inr v8)), some (.inl v9), some (.inl v10)] [] h else zx zblk xs 93 235 [some (.inr (.inr v0)), none, some (.inr (.inr v2)), some (.inr (.inr v3)), some (.inl v4), some (.inl v5), some (.inl v6), some (.inr (.inr v7)), some (.inr (.inr v8)), some (.inl v9)] [] h)) := (zx_unfold zblk xs 93 211 _ rfl _ _ _).trans rfl
theorem e_L_stops_227 (xs : List Int) (v0 : Option Nat) (v2 : Option Nat) (v3 : Option Nat) (v6 : Int) (v7 : Option Nat) (v8 : Option Nat) (v9 : Int) (v10 : Int) (h : zH) : zx zblk xs 93 227 [some (.inr (.inr v0)), none, some (.inr (.inr v2)), some (.inr (.inr v3)), none, none, some (.inl v6), some (.inr (.inr v7)), some (.inr (.inr v8)), some (.inl v9), some (.inl v10)] [] h = zx zblk xs 93 235 [some (.inr (.inr v0)), none, some (.inr (.inr v2)), some (.inr (.inr v3)), some (.inl v10), some (.inl v9), some (.inl v6), some (.inr (.inr v7)), some (.inr (.inr v8)), some (.inl v9)] [] h := (zx_unfold zblk xs 93 227 _ rfl _ _ _).trans rfl
theorem e_L_stops_235 (xs : List Int) (v0 : Option Nat) (v2 : Option Nat) (v3 : Option Nat) (v4 : Int) (v5 : Int) (v6 : Int) (v7 : Option Nat) (v8 : Option Nat) (v9 : Int) (h : zH) : zx zblk xs 93 235 [some (.inr (.inr v0)), none, some (.inr (.inr v2)), some (.inr (.inr v3)), some (.inl v4), some (.inl v5), some (.inl v6), some (.inr (.inr v7)), some (.inr (.inr v8)), some (.inl v9)] [] h = zx zblk xs 93 36 [some (.inr (.inr v0)), none, some (.inr (.inr v2)), some (.inr (.inr v3)), some (.inl v4), some (.inl v5), some (.inl v6), some (.inr (.inr v7)), some (.inr (.inr v8)), some (.inl (v9 + 1))] [] h := (zx_unfold zblk xs 93 235 _ rfl _ _ _).trans rfl
theorem e_L_stops_241 (xs : List Int) (v0 : Option Nat) (v5 : Int) (h : zH) : zx zblk xs 93 241 [some (.inr (.inr v0)), none, none, none, none, some (.inl v5)] [] h = (zck h v0 6 (zci (zx zblk xs 60 0 [some (.inr (.inr v0)), some (.inl 0)] [] h) fun r2 h1 => (if zw r2 ≠ zw v5 then zx zblk xs 93 255 [] [] h1 else zx zblk xs 93 256 [] [.inl 1] h1))) := (zx_unfold zblk xs 93 241 _ rfl _ _ _).trans rfl
theorem e_L_stops_255 (xs : List Int)  (h : zH) : zx zblk xs 93 255 [] [] h = zx zblk xs 93 256 [] [.inl 0] h := (zx_unfold zblk xs 93 255 _ rfl _ _ _).trans rfl
theorem e_L_stops_256 (xs : List Int) (s0 : Int) (h : zH) : zx zblk xs 93 256 [] [.inl s0] h = (if s0 = 0 ∨ s0 = 1 then some (some (.inl s0), h) else none) := (zx_unfold zblk xs 93 256 _ rfl _ _ _).trans rfl
end
section
/-! ===== the heap behind the constructors (its shape printed by a program of mine): no call changes its shape ===== -/
/-- tag, and of each place: 0 int, 1 long, 2 null, q + 3 the place q -/
def zsh : List (Nat × List Nat) := [(6, [5, 14, 16, 0, 17, 19, 46, 48, 0, 75, 77, 79, 81, 101]),
  (5, [6, 8, 10, 12]),
  (3, [7, 0]),
  (100, List.replicate 8 0),
  (3, [9, 0]),
  (100, List.replicate 8 0),
  (3, [11, 0]),
  (100, List.replicate 8 0),
  (3, [13, 0]),
  (100, List.replicate 8 0),
  (3, [15, 0]),
  (100, List.replicate 8 0),
  (102, [104, 145, 186, 227]),
  (3, [18, 0]),
  (100, List.replicate 48 0),
  (1, [20, 22]),
  (3, [21, 0]),
  (100, List.replicate 10 0),
  (4, [25, 23]),
  (3, [24, 0]),
  (100, List.replicate 0 0),
  (105, [26, 28, 30, 32, 34, 36, 38, 40, 42, 44]),
  (3, [27, 0]),
  (100, List.replicate 8 0),
  (3, [29, 0]),
  (100, List.replicate 8 0),
  (3, [31, 0]),
  (100, List.replicate 8 0),
  (3, [33, 0]),
  (100, List.replicate 8 0),
  (3, [35, 0]),
  (100, List.replicate 8 0),
  (3, [37, 0]),
  (100, List.replicate 8 0),
  (3, [39, 0]),
  (100, List.replicate 8 0),
  (3, [41, 0]),
  (100, List.replicate 8 0),
  (3, [43, 0]),
  (100, List.replicate 8 0),
  (3, [45, 0]),
  (100, List.replicate 8 0),
  (3, [47, 0]),
  (100, List.replicate 8 0),
  (1, [49, 51]),
  (3, [50, 0]),
  (100, List.replicate 10 0),
  (4, [54, 52]),
  (3, [53, 0]),
  (100, List.replicate 0 0),
  (105, [55, 57, 59, 61, 63, 65, 67, 69, 71, 73]),
  (3, [56, 0]),
  (100, List.replicate 8 0),
  (3, [58, 0]),
  (100, List.replicate 8 0),
  (3, [60, 0]),
  (100, List.replicate 8 0),
  (3, [62, 0]),
  (100, List.replicate 8 0),
  (3, [64, 0]),
  (100, List.replicate 8 0),
  (3, [66, 0]),
  (100, List.replicate 8 0),
  (3, [68, 0]),
  (100, List.replicate 8 0),
  (3, [70, 0]),
  (100, List.replicate 8 0),
  (3, [72, 0]),
  (100, List.replicate 8 0),
  (3, [74, 0]),
  (100, List.replicate 8 0),
  (3, [76, 0]),
  (100, List.replicate 48 0),
  (3, [78, 0]),
  (100, List.replicate 96 0),
  (3, [80, 0]),
  (100, List.replicate 8 0),
  (4, [84, 82]),
  (3, [83, 0]),
  (100, List.replicate 0 0),
  (105, [85, 87, 89, 91, 93, 95, 97, 99]),
  (3, [86, 0]),
  (100, List.replicate 10 0),
  (3, [88, 0]),
  (100, List.replicate 10 0),
  (3, [90, 0]),
  (100, List.replicate 10 0),
  (3, [92, 0]),
  (100, List.replicate 10 0),
  (3, [94, 0]),
  (100, List.replicate 10 0),
  (3, [96, 0]),
  (100, List.replicate 10 0),
  (3, [98, 0]),
  (100, List.replicate 10 0),
  (3, [100, 0]),
  (100, List.replicate 10 0),
  (2, [102, 0]),
  (3, [103, 0]),
  (100, List.replicate 80 0),
  (0, [105, 125, 0]),
  (4, [108, 106]),
  (3, [107, 0]),
  (100, List.replicate 0 0),
  (105, [109, 111, 113, 115, 117, 119, 121, 123]),
  (3, [110, 0]),
  (100, List.replicate 5 0),
  (3, [112, 0]),
  (100, List.replicate 5 0),
  (3, [114, 0]),
  (100, List.replicate 5 0),
  (3, [116, 0]),
  (100, List.replicate 5 0),
  (3, [118, 0]),
  (100, List.replicate 5 0),
  (3, [120, 0]),
  (100, List.replicate 5 0),
  (3, [122, 0]),
  (100, List.replicate 5 0),
  (3, [124, 0]),
  (100, List.replicate 5 0),
  (4, [128, 126]),
  (3, [127, 0]),
  (100, List.replicate 0 0),
  (105, [129, 131, 133, 135, 137, 139, 141, 143]),
  (3, [130, 0]),
  (100, List.replicate 10 0),
  (3, [132, 0]),
  (100, List.replicate 10 0),
  (3, [134, 0]),
  (100, List.replicate 10 0),
  (3, [136, 0]),
  (100, List.replicate 10 0),
  (3, [138, 0]),
  (100, List.replicate 10 0),
  (3, [140, 0]),
  (100, List.replicate 10 0),
  (3, [142, 0]),
  (100, List.replicate 10 0),
  (3, [144, 0]),
  (100, List.replicate 10 0),
  (0, [146, 166, 0]),
  (4, [149, 147]),
  (3, [148, 0]),
  (100, List.replicate 0 0),
  (105, [150, 152, 154, 156, 158, 160, 162, 164]),
  (3, [151, 0]),
  (100, List.replicate 5 0),
  (3, [153, 0]),
  (100, List.replicate 5 0),
  (3, [155, 0]),
  (100, List.replicate 5 0),
  (3, [157, 0]),
  (100, List.replicate 5 0),
  (3, [159, 0]),
  (100, List.replicate 5 0),
  (3, [161, 0]),
  (100, List.replicate 5 0),
  (3, [163, 0]),
  (100, List.replicate 5 0),
  (3, [165, 0]),
  (100, List.replicate 5 0),
  (4, [169, 167]),
  (3, [168, 0]),
  (100, List.replicate 0 0),
  (105, [170, 172, 174, 176, 178, 180, 182, 184]),
  (3, [171, 0]),
  (100, List.replicate 10 0),
  (3, [173, 0]),
  (100, List.replicate 10 0),
  (3, [175, 0]),
  (100, List.replicate 10 0),
  (3, [177, 0]),
  (100, List.replicate 10 0),
  (3, [179, 0]),
  (100, List.replicate 10 0),
  (3, [181, 0]),
  (100, List.replicate 10 0),
  (3, [183, 0]),
  (100, List.replicate 10 0),
  (3, [185, 0]),
  (100, List.replicate 10 0),
  (0, [187, 207, 0]),
  (4, [190, 188]),
  (3, [189, 0]),
  (100, List.replicate 0 0),
  (105, [191, 193, 195, 197, 199, 201, 203, 205]),
  (3, [192, 0]),
  (100, List.replicate 5 0),
  (3, [194, 0]),
  (100, List.replicate 5 0),
  (3, [196, 0]),
  (100, List.replicate 5 0),
  (3, [198, 0]),
  (100, List.replicate 5 0),
  (3, [200, 0]),
  (100, List.replicate 5 0),
  (3, [202, 0]),
  (100, List.replicate 5 0),
  (3, [204, 0]),
  (100, List.replicate 5 0),
  (3, [206, 0]),
  (100, List.replicate 5 0),
  (4, [210, 208]),
  (3, [209, 0]),
  (100, List.replicate 0 0),
  (105, [211, 213, 215, 217, 219, 221, 223, 225]),
  (3, [212, 0]),
  (100, List.replicate 10 0),
  (3, [214, 0]),
  (100, List.replicate 10 0),
  (3, [216, 0]),
  (100, List.replicate 10 0),
  (3, [218, 0]),
  (100, List.replicate 10 0),
  (3, [220, 0]),
  (100, List.replicate 10 0),
  (3, [222, 0]),
  (100, List.replicate 10 0),
  (3, [224, 0]),
  (100, List.replicate 10 0),
  (3, [226, 0]),
  (100, List.replicate 10 0),
  (0, [228, 248, 0]),
  (4, [231, 229]),
  (3, [230, 0]),
  (100, List.replicate 0 0),
  (105, [232, 234, 236, 238, 240, 242, 244, 246]),
  (3, [233, 0]),
  (100, List.replicate 5 0),
  (3, [235, 0]),
  (100, List.replicate 5 0),
  (3, [237, 0]),
  (100, List.replicate 5 0),
  (3, [239, 0]),
  (100, List.replicate 5 0),
  (3, [241, 0]),
  (100, List.replicate 5 0),
  (3, [243, 0]),
  (100, List.replicate 5 0),
  (3, [245, 0]),
  (100, List.replicate 5 0),
  (3, [247, 0]),
  (100, List.replicate 5 0),
  (4, [251, 249]),
  (3, [250, 0]),
  (100, List.replicate 0 0),
  (105, [252, 254, 256, 258, 260, 262, 264, 266]),
  (3, [253, 0]),
  (100, List.replicate 10 0),
  (3, [255, 0]),
  (100, List.replicate 10 0),
  (3, [257, 0]),
  (100, List.replicate 10 0),
  (3, [259, 0]),
  (100, List.replicate 10 0),
  (3, [261, 0]),
  (100, List.replicate 10 0),
  (3, [263, 0]),
  (100, List.replicate 10 0),
  (3, [265, 0]),
  (100, List.replicate 10 0),
  (3, [267, 0]),
  (100, List.replicate 10 0)]
def zkv (kd : Nat) (v : Int) : zV := match kd with
  | 0 => .inl v
  | 1 => .inr (.inl v)
  | 2 => .inr (.inr none)
  | q + 3 => .inr (.inr (some q))
def zcell (c : Nat × List Nat) (f : Int → Int) : Nat × List zV := (c.1, c.2.mapIdx fun k kd => zkv kd (f k))
abbrev zG' : Type := Nat → Int → Int
theorem zsh_len : zsh.length = 264 := by decide +kernel
/-- the law's own arrays, in the order in which they are made; how many there are stands at place 0 -/
def zlw : List Nat := [33, 49, 48, 8, 12, 12, 6, 6, 14, 12, 12, 12, 64, 32, 12, 12]
def zsF (g : Nat → Int → Int) : List (Nat × List Nat) := zsh ++ (zlw.take (g 0 0).toNat).map fun n => (100, List.replicate n 0)
theorem zsF_get {g : Nat → Int → Int} {q : Nat} {c : Nat × List Nat} (h : zsh[q]? = some c) : (zsF g)[q]? = some c := by
  rw [zsF, List.getElem?_append_left (List.getElem?_eq_some_iff.mp h).1]
  exact h
def HH (g : Nat → Int → Int) : zH := (zsF g).mapIdx fun q c => zcell c (g (q + 1))
def up (g : Nat → Int → Int) (p : Nat) (i v : Int) : Nat → Int → Int := fun q j => if q = p ∧ j = i then v else g q j
theorem up_same (g : Nat → Int → Int) (p : Nat) (i v : Int) : up g p i v p i = v := by simp [up]
theorem up_ne (g : Nat → Int → Int) {p q : Nat} {i j : Int} (v : Int) (h : ¬ (q = p ∧ j = i)) : up g p i v q j = g q j := by simp only [up, if_neg h]
theorem up_p (g : Nat → Int → Int) {p q : Nat} (i v : Int) (h : q ≠ p) : up g p i v q = g q := by funext j; simp [up, h]
theorem HF_get {g : Nat → Int → Int} {q : Nat} {c : Nat × List Nat} (h : (zsF g)[q]? = some c) : (HH g)[q]? = some (zcell c (g (q + 1))) := by
  simp [HH, List.getElem?_mapIdx, h]
theorem zcell_get {c : Nat × List Nat} {f : Int → Int} {k kd : Nat} (h : c.2[k]? = some kd) : (zcell c f).2[k]? = some (zkv kd (f k)) := by
  simp [zcell, List.getElem?_mapIdx, h]
theorem HF_set {g : Nat → Int → Int} {q k kd : Nat} {c : Nat × List Nat} {v : Int} (h : (zsF g)[q]? = some c) (hk : c.2[k]? = some kd) : (HH g).set q ((zcell c (g (q + 1))).1, (zcell c (g (q + 1))).2.set k (zkv kd v)) = HH (up g (q + 1) k v) := by
  have hl : q < (zsF g).length := (List.getElem?_eq_some_iff.mp h).1
  have hz : zsF (up g (q + 1) k v) = zsF g := by unfold zsF; rw [up_p _ _ _ (by omega)]
  rw [show HH (up g (q + 1) k v) = (zsF g).mapIdx fun n c => zcell c (up g (q + 1) k v (n + 1)) by unfold HH; rw [hz]]
  apply List.ext_getElem?
  intro n
  by_cases hn : n = q
  · subst hn
    rw [List.getElem?_set_self (by simp [HH]; exact hl), List.getElem?_mapIdx, h, Option.map_some]
    congr 1
    simp only [zcell]
    congr 1
    apply List.ext_getElem?
    intro j
    have hkl : k < c.2.length := (List.getElem?_eq_some_iff.mp hk).1
    by_cases hj : j = k
    · subst hj
      rw [List.getElem?_set_self (by simp; exact hkl)]
      simp [List.getElem?_mapIdx, hk, up]
    · rw [List.getElem?_set_ne (Ne.symm hj)]
      simp only [List.getElem?_mapIdx]
      cases c.2[j]? with
      | none => rfl
      | some kd2 =>
        simp only [Option.map_some]
        rw [up_ne]
        intro z
        exact hj (by have := z.2; omega)
  · rw [List.getElem?_set_ne (Ne.symm hn)]
    simp only [HH, List.getElem?_mapIdx]
    cases (zsF g)[n]? with
    | none => rfl
    | some c2 =>
      simp only [Option.map_some]
      rw [up_p]
      omega
theorem HH_get {g : Nat → Int → Int} {q : Nat} {c : Nat × List Nat} (h : zsh[q]? = some c) : (HH g)[q]? = some (zcell c (g (q + 1))) := HF_get (zsF_get h)
theorem HH_set {g : Nat → Int → Int} {q k kd : Nat} {c : Nat × List Nat} {v : Int} (h : zsh[q]? = some c) (hk : c.2[k]? = some kd) : (HH g).set q ((zcell c (g (q + 1))).1, (zcell c (g (q + 1))).2.set k (zkv kd v)) = HH (up g (q + 1) k v) := HF_set (zsF_get h) hk
theorem HH_gi {g : Nat → Int → Int} {p ci j : Nat} {c : Nat × List Nat} (h : zsh[p - 1]? = some c) (hp : p ≠ 0) (ht : c.1 = ci) (hk : c.2[j]? = some 0) (f : Int → Option zR) : zgi (HH g) (some p) ci j f = f (g p j) := by
  obtain ⟨q, rfl⟩ : ∃ q, p = q + 1 := ⟨p - 1, by omega⟩
  have h' := HH_get (g := g) h
  simp only [Nat.add_sub_cancel] at h'
  have hk' := zcell_get (f := g (q + 1)) hk
  simp [zgi, zfd, h', hk', ht, zkv]
  simp [zcell, ht]
theorem HH_gl {g : Nat → Int → Int} {p ci j : Nat} {c : Nat × List Nat} (h : zsh[p - 1]? = some c) (hp : p ≠ 0) (ht : c.1 = ci) (hk : c.2[j]? = some 1) (f : Int → Option zR) : zgl (HH g) (some p) ci j f = f (g p j) := by
  obtain ⟨q, rfl⟩ : ∃ q, p = q + 1 := ⟨p - 1, by omega⟩
  have h' := HH_get (g := g) h
  simp only [Nat.add_sub_cancel] at h'
  have hk' := zcell_get (f := g (q + 1)) hk
  simp [zgl, zfd, h', hk', ht, zkv]
  simp [zcell, ht]
theorem HH_gr {g : Nat → Int → Int} {p ci j r : Nat} {c : Nat × List Nat} (h : zsh[p - 1]? = some c) (hp : p ≠ 0) (ht : c.1 = ci) (hk : c.2[j]? = some (r + 3)) (f : Option Nat → Option zR) : zgr (HH g) (some p) ci j f = f (some r) := by
  obtain ⟨q, rfl⟩ : ∃ q, p = q + 1 := ⟨p - 1, by omega⟩
  have h' := HH_get (g := g) h
  simp only [Nat.add_sub_cancel] at h'
  have hk' := zcell_get (f := g (q + 1)) hk
  simp [zgr, zfd, h', hk', ht, zkv]
  simp [zcell, ht]
theorem HH_pf {g : Nat → Int → Int} {p ci j : Nat} {c : Nat × List Nat} {v : Int} (h : zsh[p - 1]? = some c) (hp : p ≠ 0) (ht : c.1 = ci) (hk : c.2[j]? = some 0) (f : zH → Option zR) : zpf (HH g) (some p) ci j (.inl v) f = f (HH (up g p j v)) := by
  obtain ⟨q, rfl⟩ : ∃ q, p = q + 1 := ⟨p - 1, by omega⟩
  have h' := HH_get (g := g) h
  simp only [Nat.add_sub_cancel] at h'
  have hs := HH_set (g := g) (q := q) (v := v) h hk
  have hl : j < c.2.length := (List.getElem?_eq_some_iff.mp hk).1
  simp only [zpf, h']
  rw [if_pos ⟨ht, by simp [zcell]; exact hl⟩]
  exact congrArg f hs
theorem HH_pfl {g : Nat → Int → Int} {p ci j : Nat} {c : Nat × List Nat} {v : Int} (h : zsh[p - 1]? = some c) (hp : p ≠ 0) (ht : c.1 = ci) (hk : c.2[j]? = some 1) (f : zH → Option zR) : zpf (HH g) (some p) ci j (.inr (.inl v)) f = f (HH (up g p j v)) := by
  obtain ⟨q, rfl⟩ : ∃ q, p = q + 1 := ⟨p - 1, by omega⟩
  have h' := HH_get (g := g) h
  simp only [Nat.add_sub_cancel] at h'
  have hs := HH_set (g := g) (q := q) (v := v) h hk
  have hl : j < c.2.length := (List.getElem?_eq_some_iff.mp hk).1
  simp only [zpf, h']
  rw [if_pos ⟨ht, by simp [zcell]; exact hl⟩]
  exact congrArg f hs
theorem HH_ai {xs : List Int} {g : Nat → Int → Int} {p n : Nat} (h : zsh[p - 1]? = some (100, List.replicate n 0)) (hp : p ≠ 0) (hn : n ≤ 1000) {i : Int} (h0 : 0 ≤ i) (h1 : i < n) (f : Int → Option zR) : zai xs (HH g) (some p) i f = f (g p i) := by
  obtain ⟨q, rfl⟩ : ∃ q, p = q + 1 := ⟨p - 1, by omega⟩
  have h' := HH_get (g := g) h
  simp only [Nat.add_sub_cancel] at h'
  have hz : zw i = i := zw_id (by omega) (by omega)
  have hk : (List.replicate n 0)[i.toNat]? = some 0 := by rw [List.getElem?_replicate, if_pos (by omega)]
  have hk' := zcell_get (c := (100, List.replicate n 0)) (f := g (q + 1)) hk
  simp only [zai, zar, h', hz]
  rw [if_pos ⟨rfl, h0⟩, hk']
  simp only [zkv]
  rw [Int.toNat_of_nonneg h0]
theorem HH_al {xs : List Int} {g : Nat → Int → Int} {p n : Nat} (h : zsh[p - 1]? = some (101, List.replicate n 1)) (hp : p ≠ 0) (hn : n ≤ 1000) {i : Int} (h0 : 0 ≤ i) (h1 : i < n) (f : Int → Option zR) : zal xs (HH g) (some p) i f = f (g p i) := by
  obtain ⟨q, rfl⟩ : ∃ q, p = q + 1 := ⟨p - 1, by omega⟩
  have h' := HH_get (g := g) h
  simp only [Nat.add_sub_cancel] at h'
  have hz : zw i = i := zw_id (by omega) (by omega)
  have hk : (List.replicate n 1)[i.toNat]? = some 1 := by rw [List.getElem?_replicate, if_pos (by omega)]
  have hk' := zcell_get (c := (101, List.replicate n 1)) (f := g (q + 1)) hk
  simp only [zal, zar, h', hz]
  rw [if_pos ⟨rfl, h0⟩, hk']
  simp only [zkv]
  rw [Int.toNat_of_nonneg h0]
theorem HH_aa {xs : List Int} {g : Nat → Int → Int} {p tag n r : Nat} {rs : List Nat} (h : zsh[p - 1]? = some (tag, rs)) (hp : p ≠ 0) (ht : 101 < tag) {i : Int} (h0 : 0 ≤ i) (h1 : i < 1000) (hr : rs[i.toNat]? = some (r + 3)) (f : Option Nat → Option zR) : zaa xs (HH g) (some p) tag i f = f (some r) := by
  obtain ⟨q, rfl⟩ : ∃ q, p = q + 1 := ⟨p - 1, by omega⟩
  have h' := HH_get (g := g) h
  simp only [Nat.add_sub_cancel] at h'
  have hz : zw i = i := zw_id (by omega) (by omega)
  have hk' := zcell_get (c := (tag, rs)) (f := g (q + 1)) hr
  simp only [zaa, zar, h', hz]
  rw [if_pos ⟨rfl, h0⟩, hk']
  simp only [zkv]
theorem HH_st {g : Nat → Int → Int} {p n : Nat} {v : Int} (h : zsh[p - 1]? = some (100, List.replicate n 0)) (hp : p ≠ 0) (hn : n ≤ 1000) {i : Int} (h0 : 0 ≤ i) (h1 : i < n) (f : zH → Option zR) : zst (HH g) (some p) 100 i (.inl v) f = f (HH (up g p i v)) := by
  obtain ⟨q, rfl⟩ : ∃ q, p = q + 1 := ⟨p - 1, by omega⟩
  have h' := HH_get (g := g) h
  simp only [Nat.add_sub_cancel] at h'
  have hz : zw i = i := zw_id (by omega) (by omega)
  have hk : (List.replicate n 0)[i.toNat]? = some 0 := by rw [List.getElem?_replicate, if_pos (by omega)]
  have hs := HH_set (g := g) (q := q) (v := v) h hk
  simp only [zst, h', hz]
  rw [if_pos ⟨rfl, h0, by simp [zcell]; omega⟩]
  rw [Int.toNat_of_nonneg h0] at hs
  exact congrArg f hs
theorem HH_stl {g : Nat → Int → Int} {p n : Nat} {v : Int} (h : zsh[p - 1]? = some (101, List.replicate n 1)) (hp : p ≠ 0) (hn : n ≤ 1000) {i : Int} (h0 : 0 ≤ i) (h1 : i < n) (f : zH → Option zR) : zst (HH g) (some p) 101 i (.inr (.inl v)) f = f (HH (up g p i v)) := by
  obtain ⟨q, rfl⟩ : ∃ q, p = q + 1 := ⟨p - 1, by omega⟩
  have h' := HH_get (g := g) h
  simp only [Nat.add_sub_cancel] at h'
  have hz : zw i = i := zw_id (by omega) (by omega)
  have hk : (List.replicate n 1)[i.toNat]? = some 1 := by rw [List.getElem?_replicate, if_pos (by omega)]
  have hs := HH_set (g := g) (q := q) (v := v) h hk
  simp only [zst, h', hz]
  rw [if_pos ⟨rfl, h0, by simp [zcell]; omega⟩]
  rw [Int.toNat_of_nonneg h0] at hs
  exact congrArg f hs
theorem HH_ln {xs : List Int} {g : Nat → Int → Int} {p : Nat} {c : Nat × List Nat} (h : zsh[p - 1]? = some c) (hp : p ≠ 0) (ht : 100 ≤ c.1) (f : Int → Option zR) : zln xs (HH g) (some p) f = f (c.2.length : Int) := by
  obtain ⟨q, rfl⟩ : ∃ q, p = q + 1 := ⟨p - 1, by omega⟩
  have h' := HH_get (g := g) h
  simp only [Nat.add_sub_cancel] at h'
  simp only [zln, h']
  rw [if_pos (show 100 ≤ (zcell c _).1 from ht)]
  simp [zcell]
theorem HH_ck {g : Nat → Int → Int} {p ci : Nat} {c : Nat × List Nat} (h : zsh[p - 1]? = some c) (hp : p ≠ 0) (ht : c.1 = ci) (o : Option zR) : zck (HH g) (some p) ci o = o := by
  obtain ⟨q, rfl⟩ : ∃ q, p = q + 1 := ⟨p - 1, by omega⟩
  have h' := HH_get (g := g) h
  simp only [Nat.add_sub_cancel] at h'
  simp only [zck, h']
  rw [if_pos (show (zcell c _).1 = ci from ht)]
/-- place p is an array of n ints -/
def zAr (g : Nat → Int → Int) (p n : Nat) : Prop := p ≠ 0 ∧ n ≤ 1000 ∧ (zsF g)[p - 1]? = some (100, List.replicate n 0)
theorem zAr_cg {g g1 : Nat → Int → Int} {p n : Nat} (h : zAr g p n) (e : g1 0 0 = g 0 0) : zAr g1 p n := by
  unfold zAr zsF at *
  rw [e]
  exact h
theorem zAr_up {g : Nat → Int → Int} {p n q : Nat} {i v : Int} (h : zAr g p n) (hq : q ≠ 0) : zAr (up g q i v) p n := zAr_cg h (by rw [up_p _ _ _ (Ne.symm hq)])
theorem zAr_law {g : Nat → Int → Int} {k n N : Nat} (h : g 0 0 = (N : Nat)) (hk : zlw[k]? = some n) (hkN : k < N) (hn : n ≤ 1000) : zAr g (265 + k) n := by
  refine ⟨by omega, hn, ?_⟩
  unfold zsF
  have hl := zsh_len
  rw [List.getElem?_append_right (by omega), h, List.getElem?_map, List.getElem?_take, if_pos (by omega), hl, show 265 + k - 1 - 264 = k by omega, hk]
  rfl
theorem HF_ai {xs : List Int} {g : Nat → Int → Int} {p n : Nat} (h : zAr g p n) {i : Int} (h0 : 0 ≤ i) (h1 : i < n) (f : Int → Option zR) : zai xs (HH g) (some p) i f = f (g p i) := by
  obtain ⟨hp, hn, h⟩ := h
  obtain ⟨q, rfl⟩ : ∃ q, p = q + 1 := ⟨p - 1, by omega⟩
  have h' := HF_get (g := g) h
  simp only [Nat.add_sub_cancel] at h'
  have hz : zw i = i := zw_id (by omega) (by omega)
  have hk : (List.replicate n 0)[i.toNat]? = some 0 := by rw [List.getElem?_replicate, if_pos (by omega)]
  have hk' := zcell_get (c := (100, List.replicate n 0)) (f := g (q + 1)) hk
  simp only [zai, zar, h', hz]
  rw [if_pos ⟨rfl, h0⟩, hk']
  simp only [zkv]
  rw [Int.toNat_of_nonneg h0]
theorem HF_st {g : Nat → Int → Int} {p n : Nat} {v : Int} (h : zAr g p n) {i : Int} (h0 : 0 ≤ i) (h1 : i < n) (f : zH → Option zR) : zst (HH g) (some p) 100 i (.inl v) f = f (HH (up g p i v)) := by
  obtain ⟨hp, hn, h⟩ := h
  obtain ⟨q, rfl⟩ : ∃ q, p = q + 1 := ⟨p - 1, by omega⟩
  have h' := HF_get (g := g) h
  simp only [Nat.add_sub_cancel] at h'
  have hz : zw i = i := zw_id (by omega) (by omega)
  have hk : (List.replicate n 0)[i.toNat]? = some 0 := by rw [List.getElem?_replicate, if_pos (by omega)]
  have hs := HF_set (g := g) (q := q) (v := v) h hk
  simp only [zst, h', hz]
  rw [if_pos ⟨rfl, h0, by simp [zcell]; omega⟩]
  rw [Int.toNat_of_nonneg h0] at hs
  exact congrArg f hs
/-- a new array of the law's -/
def gnw (g : Nat → Int → Int) (N : Nat) : Nat → Int → Int := fun q j => if q = 265 + N then 0 else if q = 0 ∧ j = 0 then (N : Int) + 1 else g q j
theorem HH_zna {g : Nat → Int → Int} {N n : Nat} (h : g 0 0 = (N : Nat)) (hk : zlw[N]? = some n) (hn : n ≤ 1000) (f : Option Nat → zH → Option zR) : zna (HH g) (n : Int) f = f (some (265 + N)) (HH (gnw g N)) := by
  have hz : zw (n : Int) = n := zw_id (by omega) (by omega)
  have hl := zsh_len
  have hN : N < zlw.length := (List.getElem?_eq_some_iff.mp hk).1
  have hlen : (HH g).length = 264 + N := by
    unfold HH
    rw [List.length_mapIdx, zsF, List.length_append, List.length_map, List.length_take, h, hl]
    omega
  have hF : zsF (gnw g N) = zsF g ++ [(100, List.replicate n 0)] := by
    unfold zsF
    have e : gnw g N 0 0 = ((N + 1 : Nat) : Int) := by
      unfold gnw
      rw [if_neg (by omega), if_pos ⟨rfl, rfl⟩]
      omega
    rw [e, h, show ((N + 1 : Nat) : Int).toNat = N + 1 by omega, show ((N : Nat) : Int).toNat = N by omega, List.take_add_one, hk, List.map_append, List.append_assoc]
    rfl
  have hH : HH (gnw g N) = HH g ++ [(100, List.replicate n (.inl 0))] := by
    unfold HH
    rw [hF, List.mapIdx_append]
    have hl2 : (zsF g).length = 264 + N := by rw [← hlen]; unfold HH; rw [List.length_mapIdx]
    have ea : ((zsF g).mapIdx fun q c => zcell c (gnw g N (q + 1))) = ((zsF g).mapIdx fun q c => zcell c (g (q + 1))) := by
      apply List.ext_getElem?
      intro q
      rw [List.getElem?_mapIdx, List.getElem?_mapIdx]
      cases hq : (zsF g)[q]? with
      | none => rfl
      | some c =>
        have hql := (List.getElem?_eq_some_iff.mp hq).1
        simp only [Option.map_some]
        have : gnw g N (q + 1) = g (q + 1) := by
          funext j
          unfold gnw
          rw [if_neg (by omega), if_neg (by omega)]
        rw [this]
    have eb : zcell (100, List.replicate n 0) (gnw g N (0 + (zsF g).length + 1)) = (100, List.replicate n (.inl 0)) := by
      have : gnw g N (0 + (zsF g).length + 1) = fun _ => 0 := by
        funext j
        unfold gnw
        rw [if_pos (by omega)]
      rw [this]
      unfold zcell
      rw [Prod.mk.injEq]
      refine ⟨rfl, ?_⟩
      apply List.ext_getElem?
      intro j
      rw [List.getElem?_mapIdx, List.getElem?_replicate, List.getElem?_replicate]
      by_cases hj : j < n
      · rw [if_pos hj, if_pos hj]
        rfl
      · rw [if_neg hj, if_neg hj]
        rfl
    rw [ea, List.mapIdx_cons, List.mapIdx_nil, eb]
  unfold zna
  rw [hz, if_pos (by omega), hH, hlen, show ((n : Int)).toNat = n by omega, show 264 + N + 1 = 265 + N by omega]
/-- ghost places don't lie in the heap -/
theorem HH_gh {g g1 : Nat → Int → Int} (e : ∀ q, q < 1000 → g1 q = g q) : HH g1 = HH g := by
  have e0 : zsF g1 = zsF g := by unfold zsF; rw [e 0 (by omega)]
  unfold HH
  rw [e0]
  apply List.ext_getElem?
  intro q
  rw [List.getElem?_mapIdx, List.getElem?_mapIdx]
  cases hq : (zsF g)[q]? with
  | none => rfl
  | some c =>
    have hql := (List.getElem?_eq_some_iff.mp hq).1
    have hl := zsh_len
    have hlw : zlw.length = 16 := rfl
    have hl2 : (zsF g).length ≤ 280 := by
      rw [zsF, List.length_append, List.length_map, List.length_take]
      omega
    simp only [Option.map_some]
    rw [e (q + 1) (by omega)]
theorem zci_ok (v : Int) (h : zH) (f : Int → zH → Option zR) : zci (some (some (.inl v), h)) f = f v h := by rw [zci]
theorem zcl_ok' (v : Int) (h : zH) (f : Int → zH → Option zR) : zcl (some (some (.inr (.inl v)), h)) f = f v h := by rw [zcl]
theorem zcr_ok (v : Option Nat) (h : zH) (f : Option Nat → zH → Option zR) : zcr (some (some (.inr (.inr v)), h)) f = f v h := by rw [zcr]
theorem zcv_ok (h : zH) (f : zH → Option zR) : zcv (some (none, h)) f = f h := by rw [zcv]

abbrev pX : Nat := 1
theorem pX_ck (g : Nat → Int → Int) (o : Option zR) : zck (HH g) (some pX) 6 o = o := HH_ck (p := pX) rfl (by decide) rfl o
abbrev pX_signals : Nat := 2
theorem pX_r_signals (g : Nat → Int → Int) (f : Option Nat → Option zR) : zgr (HH g) (some pX) 6 0 f = f (some pX_signals) := HH_gr (p := pX) (j := 0) rfl (by decide) rfl rfl f
abbrev pX_weights : Nat := 11
theorem pX_r_weights (g : Nat → Int → Int) (f : Option Nat → Option zR) : zgr (HH g) (some pX) 6 1 f = f (some pX_weights) := HH_gr (p := pX) (j := 1) rfl (by decide) rfl rfl f
abbrev pX_codes : Nat := 13
theorem pX_r_codes (g : Nat → Int → Int) (f : Option Nat → Option zR) : zgr (HH g) (some pX) 6 2 f = f (some pX_codes) := HH_gr (p := pX) (j := 2) rfl (by decide) rfl rfl f
theorem pX_g_codesRead (g : Nat → Int → Int) (f : Int → Option zR) : zgi (HH g) (some pX) 6 3 f = f (g pX 3) := HH_gi (p := pX) (j := 3) rfl (by decide) rfl rfl f
theorem pX_p_codesRead (g : Nat → Int → Int) (v : Int) (f : zH → Option zR) : zpf (HH g) (some pX) 6 3 (.inl v) f = f (HH (up g pX 3 v)) := HH_pf (p := pX) (j := 3) rfl (by decide) rfl rfl f
abbrev pX_page : Nat := 14
theorem pX_r_page (g : Nat → Int → Int) (f : Option Nat → Option zR) : zgr (HH g) (some pX) 6 4 f = f (some pX_page) := HH_gr (p := pX) (j := 4) rfl (by decide) rfl rfl f
abbrev pX_notes : Nat := 16
theorem pX_r_notes (g : Nat → Int → Int) (f : Option Nat → Option zR) : zgr (HH g) (some pX) 6 5 f = f (some pX_notes) := HH_gr (p := pX) (j := 5) rfl (by decide) rfl rfl f
abbrev pX_keptWeights : Nat := 43
theorem pX_r_keptWeights (g : Nat → Int → Int) (f : Option Nat → Option zR) : zgr (HH g) (some pX) 6 6 f = f (some pX_keptWeights) := HH_gr (p := pX) (j := 6) rfl (by decide) rfl rfl f
abbrev pX_keptNotes : Nat := 45
theorem pX_r_keptNotes (g : Nat → Int → Int) (f : Option Nat → Option zR) : zgr (HH g) (some pX) 6 7 f = f (some pX_keptNotes) := HH_gr (p := pX) (j := 7) rfl (by decide) rfl rfl f
theorem pX_g_kept (g : Nat → Int → Int) (f : Int → Option zR) : zgi (HH g) (some pX) 6 8 f = f (g pX 8) := HH_gi (p := pX) (j := 8) rfl (by decide) rfl rfl f
theorem pX_p_kept (g : Nat → Int → Int) (v : Int) (f : zH → Option zR) : zpf (HH g) (some pX) 6 8 (.inl v) f = f (HH (up g pX 8 v)) := HH_pf (p := pX) (j := 8) rfl (by decide) rfl rfl f
abbrev pX_said : Nat := 72
theorem pX_r_said (g : Nat → Int → Int) (f : Option Nat → Option zR) : zgr (HH g) (some pX) 6 9 f = f (some pX_said) := HH_gr (p := pX) (j := 9) rfl (by decide) rfl rfl f
abbrev pX_heard : Nat := 74
theorem pX_r_heard (g : Nat → Int → Int) (f : Option Nat → Option zR) : zgr (HH g) (some pX) 6 10 f = f (some pX_heard) := HH_gr (p := pX) (j := 10) rfl (by decide) rfl rfl f
abbrev pX_pool : Nat := 76
theorem pX_r_pool (g : Nat → Int → Int) (f : Option Nat → Option zR) : zgr (HH g) (some pX) 6 11 f = f (some pX_pool) := HH_gr (p := pX) (j := 11) rfl (by decide) rfl rfl f
abbrev pX_struck : Nat := 78
theorem pX_r_struck (g : Nat → Int → Int) (f : Option Nat → Option zR) : zgr (HH g) (some pX) 6 12 f = f (some pX_struck) := HH_gr (p := pX) (j := 12) rfl (by decide) rfl rfl f
abbrev pX_readings : Nat := 98
theorem pX_r_readings (g : Nat → Int → Int) (f : Option Nat → Option zR) : zgr (HH g) (some pX) 6 13 f = f (some pX_readings) := HH_gr (p := pX) (j := 13) rfl (by decide) rfl rfl f
abbrev pM : Nat := 1265
abbrev pM_page : Nat := 1266
abbrev pM_readRows : Nat := 1267
abbrev pM_speeches : Nat := 1268
abbrev pM_rows : Nat := 1269
abbrev pM_signalRows : Nat := 1270
abbrev pM_weights : Nat := 1271
abbrev pM_plain : Nat := 1272
abbrev pM_plains : Nat := 1273
abbrev pM_ahead : Nat := 1274
abbrev pM_heap : Nat := 1275
abbrev pM_noteRows : Nat := 1276
abbrev pM_ways : Nat := 1277
abbrev pM_before : Nat := 1278
abbrev pM_keptWeights : Nat := 1279
abbrev pM_keptRows : Nat := 1280
end
section
/-! ===== what the reference's small methods answer ===== -/
theorem zw_i32 (a : Int32) : zw a.toInt = a.toInt := zw_id (by have := a.le_toInt; omega) (by have := a.toInt_lt; omega)
theorem zw_zand (a b : Int) : zw (zand a b) = zand a b := zw_i32 _
/-- a number of a truth -/
def zb (c : Prop) [Decidable c] : Int := if c then 1 else 0
theorem zb_t {c : Prop} [Decidable c] (h : c) : zb c = 1 := if_pos h
theorem zb_f {c : Prop} [Decidable c] (h : ¬ c) : zb c = 0 := if_neg h
theorem zb_01 (c : Prop) [Decidable c] : zb c = 0 ∨ zb c = 1 := by
  by_cases h : c
  · exact Or.inr (zb_t h)
  · exact Or.inl (zb_f h)
theorem zb_zw (c : Prop) [Decidable c] : zw (zb c) = zb c := by rcases zb_01 c with h | h <;> rw [h] <;> rfl
theorem zb_eq0 (c : Prop) [Decidable c] : zb c = 0 ↔ ¬ c := by
  by_cases h : c
  · simp [zb, h]
  · simp [zb, h]
end
section
/-! ===== the reference's memory is the abstract state: what of it counts, its bounds, what a call leaves as it was ===== -/
theorem up_q {g : Nat → Int → Int} {p q : Nat} {i j v : Int} (h : q ≠ p) : up g p i v q j = g q j := by rw [up_p g i v h]
/-- changed are at most the places of S -/
def zFr (S : Nat → Int → Prop) (g g1 : Nat → Int → Int) : Prop := ∀ q j, ¬ S q j → g1 q j = g q j
theorem zFr.rf {S : Nat → Int → Prop} {g : Nat → Int → Int} : zFr S g g := fun _ _ _ => rfl
theorem zFr.tr {S : Nat → Int → Prop} {a b c : Nat → Int → Int} (h1 : zFr S a b) (h2 : zFr S b c) : zFr S a c := fun q j h => (h2 q j h).trans (h1 q j h)
theorem zFr.mono {S S' : Nat → Int → Prop} {a b : Nat → Int → Int} (h : zFr S a b) (hs : ∀ q j, S q j → S' q j) : zFr S' a b := fun q j hn => h q j (fun z => hn (hs q j z))
theorem zFr.up {S : Nat → Int → Prop} {g g1 : Nat → Int → Int} (h : zFr S g g1) {q : Nat} {j v : Int} (hs : S q j) : zFr S g (up g1 q j v) := fun q' j' hn => by
  rw [up_ne]
  · exact h q' j' hn
  · rintro ⟨rfl, rfl⟩; exact hn hs
theorem zFr.at {S : Nat → Int → Prop} {g g1 : Nat → Int → Int} (h : zFr S g g1) {q : Nat} (hs : ∀ j, ¬ S q j) : g1 q = g q := funext fun j => h q j (hs j)
/-- the class's scratch -/
def scX (q : Nat) (_ : Int) : Prop := pX_said ≤ q ∧ q < pX_readings + 3
/-- bounds -/
def bdS (G : Nat → Int → Int) : Prop := ∀ s : Int, 0 ≤ s → s < G pM 8 → 0 ≤ G pM_signalRows (4 * s) ∧ G pM_signalRows (4 * s) ≤ 4 ∧ -1 ≤ G pM_signalRows (4 * s + 1) ∧ G pM_signalRows (4 * s + 1) ≤ 7 ∧ (G pM_signalRows (4 * s) = 2 → 0 ≤ G pM_signalRows (4 * s + 1)) ∧ 1 ≤ G pM_signalRows (4 * s + 2) ∧ G pM_signalRows (4 * s + 2) ≤ 9 ∧ 0 ≤ G pM_signalRows (4 * s + 3) ∧ G pM_signalRows (4 * s + 3) ≤ 9
def bdC (G : Nat → Int → Int) : Prop := ∀ c : Int, 0 ≤ c → c < G pM 5 → 1 ≤ G pM_speeches c ∧ G pM_speeches c ≤ 8 ∧ ∀ s : Int, 0 ≤ s → s < G pM_speeches c → 1 ≤ G pM_rows (48 * c + 6 * s) ∧ G pM_rows (48 * c + 6 * s) ≤ 5 ∧ ∀ k : Int, 1 ≤ k → k ≤ G pM_rows (48 * c + 6 * s) → 0 ≤ G pM_rows (48 * c + 6 * s + k) ∧ G pM_rows (48 * c + 6 * s + k) ≤ 7
def bdW (G : Nat → Int → Int) : Prop := ∀ t : Int, 0 ≤ t → t < G pM 10 → 1 ≤ G pM_weights t ∧ G pM_weights t ≤ 99
def bdP (G : Nat → Int → Int) : Prop := ∀ k : Int, 0 ≤ k → k < G pM 1 → 1 ≤ G pM_page k ∧ G pM_page k ≤ 126
def bdN (things notes : Int) (f : Int → Int) : Prop := ∀ n : Int, 0 ≤ n → n < notes → 0 ≤ f (10 * n) ∧ f (10 * n) < things ∧ 0 ≤ f (10 * n + 1) ∧ f (10 * n + 1) ≤ 8 ∧ ∀ k : Int, 0 ≤ k → k < f (10 * n + 1) → 0 ≤ f (10 * n + 2 + k) ∧ f (10 * n + 2 + k) ≤ 7
def bdK (G : Nat → Int → Int) : Prop := G pM 22 = -1 ∨ (0 ≤ G pM 22 ∧ G pM 22 ≤ G pM 10 ∧ 0 ≤ G pM 23 ∧ G pM 23 ≤ 10 ∧ bdN (G pM 22) (G pM 23) (G pM_keptRows) ∧ ∀ t : Int, 0 ≤ t → t < G pM 22 → 1 ≤ G pM_keptWeights t ∧ G pM_keptWeights t ≤ 99)
def bdQ (G : Nat → Int → Int) : Prop := (0 ≤ G pM 1 ∧ G pM 1 ≤ 48) ∧ (0 ≤ G pM 5 ∧ G pM 5 ≤ 4) ∧ (0 ≤ G pM 8 ∧ G pM 8 ≤ 8) ∧ (0 ≤ G pM 10 ∧ G pM 10 ≤ 8) ∧ (0 ≤ G pM 18 ∧ G pM 18 ≤ 10)
def Bd (G : Nat → Int → Int) : Prop := bdQ G ∧ bdP G ∧ bdC G ∧ bdS G ∧ bdW G ∧ bdN (G pM 10) (G pM 18) (G pM_noteRows) ∧ bdK G
/-- a row of numbers in an array -/
def zPre (f : Int → Int) (l : List Int) : Prop := ∀ (k : Nat) (v : Int), l[k]? = some v → f (k : Int) = v
theorem zPre_nil (f : Int → Int) : zPre f [] := fun k v h => by simp at h
theorem zPre_snoc {f f1 : Int → Int} {l : List Int} {v : Int} (h : zPre f l) (h1 : f1 (l.length : Int) = v) (h2 : ∀ j : Int, 0 ≤ j → j < l.length → f1 j = f j) : zPre f1 (l ++ [v]) := fun k w hk => by
  by_cases hl : k < l.length
  · rw [List.getElem?_append_left hl] at hk
    rw [h2 k (by omega) (by omega)]
    exact h k w hk
  · rw [List.getElem?_append_right (by omega)] at hk
    have hz : k - l.length < 1 := (List.getElem?_eq_some_iff.mp hk).1
    have hk0 : k = l.length := by omega
    subst hk0
    simp at hk
    subst hk
    exact h1
theorem zPre_drop {f : Int → Int} {l : List Int} (h : zPre f l) : zPre f l.dropLast := fun k v hk => by
  have hl := (List.getElem?_eq_some_iff.mp hk).1
  rw [List.length_dropLast] at hl
  rw [List.getElem?_dropLast, if_pos (by omega)] at hk
  exact h k v hk
theorem zPre_get {f : Int → Int} {l : List Int} (h : zPre f l) {k : Nat} (hk : k < l.length) : f (k : Int) = l[k] := h k _ (List.getElem?_eq_getElem hk)
/-- signals -/
def kindS (G : Nat → Int → Int) (s : Int) : Int := if 0 ≤ s ∧ s < G pM 8 then G pM_signalRows (4 * s) else 0
def secS (G : Nat → Int → Int) (s : Int) : Int := if 0 ≤ s ∧ s < G pM 8 then G pM_signalRows (4 * s + 2) else 1
def oddS (G : Nat → Int → Int) (s : Int) : Int := if 0 ≤ s ∧ s < G pM 8 then G pM_signalRows (4 * s + 3) else 0
/-- what stands, with one signal more -/
def stp (G : Nat → Int → Int) (l : List Int) (s : Int) : List Int := if kindS G s < 2 then l ++ [s] else if kindS G s = 2 then l ++ [G pM_signalRows (4 * s + 1)] ++ [G pM_signalRows (4 * s + 1)] else if kindS G s = 4 then l.dropLast else l
theorem stp_len (G : Nat → Int → Int) (l : List Int) (s : Int) : (stp G l s).length ≤ l.length + 2 := by
  unfold stp
  split
  · simp
  · split
    · simp
    · split
      · simp; omega
      · omega
/-- the first n of a row, plain, some struck out -/
def pln (G : Nat → Int → Int) (st : Int) (f : Nat → Int) : Nat → List Int
  | 0 => []
  | n + 1 => if zand (zshr st (f n)) 1 ≠ 0 then pln G st f n else stp G (pln G st f n) (f n)
theorem pln_len (G : Nat → Int → Int) (st : Int) (f : Nat → Int) : ∀ n, (pln G st f n).length ≤ 2 * n
  | 0 => by simp [pln]
  | n + 1 => by
    have h := pln_len G st f n
    unfold pln
    split
    · omega
    · have := stp_len G (pln G st f n) (f n)
      omega
/-- a loop whose step changes nothing of what comes out -/
theorem zloop {α : Type} (F : Nat → α) : ∀ (n : Nat), (∀ i, i < n → F i = F (i + 1)) → F 0 = F n
  | 0, _ => rfl
  | n + 1, h => (zloop F n (fun i hi => h i (by omega))).trans (h n (by omega))
end
section
/-! ===== the reference: signals and rows ===== -/
theorem kindS_rg {g : Nat → Int → Int} (hb : bdS g) (s : Int) : 0 ≤ kindS g s ∧ kindS g s ≤ 4 := by
  unfold kindS
  split
  next h => exact ⟨(hb s h.1 h.2).1, (hb s h.1 h.2).2.1⟩
  next => omega
theorem kindS_2 {g : Nat → Int → Int} {s : Int} (h : kindS g s = 2) : 0 ≤ s ∧ s < g pM 8 := by
  unfold kindS at h
  split at h
  next h0 => exact h0
  next => omega
end
section
/-! ===== the reference: rows laid down plain ===== -/
/-- a speech's letters, and the speech plain -/
def rowS (G : Nat → Int → Int) (c s : Int) : Nat → Int := fun k => G pM_rows (48 * c + 6 * s + 1 + k)
def lenS (G : Nat → Int → Int) (c s : Int) : Nat := (G pM_rows (48 * c + 6 * s)).toNat
def plS (G : Nat → Int → Int) (st c s : Int) : List Int := pln G st (rowS G c s) (lenS G c s)
theorem lenS_rg {g : Nat → Int → Int} (hb : bdC g) {c s : Int} (hc : 0 ≤ c ∧ c < g pM 5) (hs : 0 ≤ s ∧ s < g pM_speeches c) : 1 ≤ lenS g c s ∧ lenS g c s ≤ 5 ∧ g pM_rows (48 * c + 6 * s) = lenS g c s ∧ ∀ k : Nat, k < lenS g c s → 0 ≤ rowS g c s k ∧ rowS g c s k ≤ 7 := by
  obtain ⟨-, -, h⟩ := hb c hc.1 hc.2
  obtain ⟨h1, h2, h3⟩ := h s hs.1 hs.2
  have e : g pM_rows (48 * c + 6 * s) = lenS g c s := by unfold lenS; omega
  refine ⟨by omega, by omega, e, fun k hk => ?_⟩
  have := h3 (1 + k) (by omega) (by omega)
  unfold rowS
  rw [show 48 * c + 6 * s + 1 + (k : Int) = 48 * c + 6 * s + (1 + k) by omega]
  exact this
theorem plS_len {g : Nat → Int → Int} (hb : bdC g) {c s : Int} (hc : 0 ≤ c ∧ c < g pM 5) (hs : 0 ≤ s ∧ s < g pM_speeches c) (st : Int) : (plS g st c s).length ≤ 10 := by
  have h1 := pln_len g st (rowS g c s) (lenS g c s)
  have h2 := (lenS_rg hb hc hs).2.1
  unfold plS
  omega
end
section
/-! ===== the reference: all speeches plain, how long ===== -/
theorem z0N : ((0 : Nat) : Int) = 0 := rfl
/-- sums -/
def zsum (f : Nat → Int) : Nat → Int
  | 0 => 0
  | n + 1 => zsum f n + f n
theorem zsum_cg {f f' : Nat → Int} : ∀ {n : Nat}, (∀ k, k < n → f k = f' k) → zsum f n = zsum f' n
  | 0, _ => rfl
  | n + 1, h => by rw [zsum, zsum, zsum_cg (fun k hk => h k (by omega)), h n (by omega)]
theorem zsum_rg {f : Nat → Int} {a b : Int} : ∀ {n : Nat}, (∀ k, k < n → a ≤ f k ∧ f k ≤ b) → n * a ≤ zsum f n ∧ zsum f n ≤ n * b
  | 0, _ => by simp [zsum]
  | n + 1, h => by
    have h1 := zsum_rg (n := n) (fun k hk => h k (by omega))
    have h2 := h n (by omega)
    rw [zsum]
    have e1 : ((n + 1 : Nat) : Int) * a = n * a + a := by rw [Int.natCast_succ, Int.add_mul, Int.one_mul]
    have e2 : ((n + 1 : Nat) : Int) * b = n * b + b := by rw [Int.natCast_succ, Int.add_mul, Int.one_mul]
    omega
def longS (G : Nat → Int → Int) (c s : Int) : Int := zsum (fun k => secS G (rowS G c s k)) (lenS G c s)
theorem secS_rg {g : Nat → Int → Int} (hb : bdS g) (s : Int) : 1 ≤ secS g s ∧ secS g s ≤ 9 := by
  unfold secS
  split
  next h => have := hb s h.1 h.2; omega
  next => omega
theorem longS_rg {g : Nat → Int → Int} (hB : Bd g) {c s : Int} (hc : 0 ≤ c ∧ c < g pM 5) (hs : 0 ≤ s ∧ s < g pM_speeches c) : 1 ≤ longS g c s ∧ longS g c s ≤ 45 := by
  obtain ⟨-, -, hC, hS, -⟩ := hB
  obtain ⟨l1, l2, -⟩ := lenS_rg hC hc hs
  have := zsum_rg (f := fun k => secS g (rowS g c s k)) (n := lenS g c s) (fun k _ => secS_rg hS _)
  unfold longS
  omega
end
section
/-! ===== the reference: comparing speeches, the page ===== -/
/-- numbers of signals -/
def isR7 (l : List Int) : Prop := ∀ v ∈ l, 0 ≤ v ∧ v ≤ 7
theorem isR7_get {l : List Int} (h : isR7 l) {k : Nat} (hk : k < l.length) : 0 ≤ l[k] ∧ l[k] ≤ 7 := h _ (List.getElem_mem hk)
theorem isR7_stp {g : Nat → Int → Int} (hb : bdS g) {l : List Int} (h : isR7 l) {s : Int} (hs : 0 ≤ s ∧ s ≤ 7) : isR7 (stp g l s) := by
  unfold stp
  split
  · intro v hv
    rcases List.mem_append.mp hv with hv | hv
    · exact h v hv
    · rw [List.mem_singleton.mp hv]; exact hs
  · split
    next h2 =>
      obtain ⟨h3, h4⟩ := kindS_2 h2
      have h5 := hb s h3 h4
      have h6 : kindS g s = g pM_signalRows (4 * s) := by unfold kindS; rw [if_pos ⟨h3, h4⟩]
      have h7 := h5.2.2.2.2.1 (by rw [← h6]; exact h2)
      intro v hv
      rcases List.mem_append.mp hv with hv | hv
      · rcases List.mem_append.mp hv with hv | hv
        · exact h v hv
        · rw [List.mem_singleton.mp hv]; exact ⟨h7, h5.2.2.2.1⟩
      · rw [List.mem_singleton.mp hv]; exact ⟨h7, h5.2.2.2.1⟩
    · split
      · intro v hv; exact h v (List.dropLast_subset l hv)
      · exact h
theorem isR7_pln {g : Nat → Int → Int} (hb : bdS g) (st : Int) {f : Nat → Int} : ∀ {n : Nat}, (∀ k, k < n → 0 ≤ f k ∧ f k ≤ 7) → isR7 (pln g st f n)
  | 0, _ => by intro v hv; simp [pln] at hv
  | n + 1, h => by
    have h1 := isR7_pln hb st (n := n) (fun k hk => h k (by omega))
    unfold pln
    split
    · exact h1
    · exact isR7_stp hb h1 (h n (by omega))
theorem isR7_plS {g : Nat → Int → Int} (hB : Bd g) {c s : Int} (hc : 0 ≤ c ∧ c < g pM 5) (hs : 0 ≤ s ∧ s < g pM_speeches c) (st : Int) : isR7 (plS g st c s) := isR7_pln hB.2.2.2.1 st (lenS_rg hB.2.2.1 hc hs).2.2.2
theorem take_succ_eq {A B : List Int} {k : Nat} (ha : k < A.length) (hb : k < B.length) : A.take (k + 1) = B.take (k + 1) ↔ A.take k = B.take k ∧ A[k] = B[k] := by
  rw [List.take_succ_eq_append_getElem ha, List.take_succ_eq_append_getElem hb]
  constructor
  · intro h
    have := List.append_inj' h rfl
    exact ⟨this.1, by simpa using this.2⟩
  · rintro ⟨h1, h2⟩
    rw [h1, h2]
/-- in how many places two rows differ; far: they are of unlike lengths -/
def dif (A B : List Int) : Int := if A.length = B.length then zsum (fun k => if A.getD k 0 = B.getD k 0 then 0 else 1) B.length else 1000000
theorem dif_rg (A B : List Int) (h : B.length ≤ 100) : 0 ≤ dif A B ∧ (dif A B ≤ 100 ∨ dif A B = 1000000) := by
  unfold dif
  split
  · have := zsum_rg (a := 0) (b := 1) (n := B.length) (f := fun k => if A.getD k 0 = B.getD k 0 then 0 else 1) (fun k _ => by split <;> omega)
    omega
  · omega
/-- the first of the least: its place, its value -/
def nbest (v : Nat → Int) : Nat → Int × Int
  | 0 => (-1, 1000000)
  | n + 1 => if v n < (nbest v n).2 then ((n : Int), v n) else nbest v n
theorem nbest_rg {v : Nat → Int} : ∀ {n : Nat}, (∀ k, k < n → 0 ≤ v k) → -1 ≤ (nbest v n).1 ∧ (nbest v n).1 < n ∧ 0 ≤ (nbest v n).2 ∧ (nbest v n).2 ≤ 1000000
  | 0, _ => by simp [nbest]
  | n + 1, h => by
    have h1 := nbest_rg (n := n) (fun k hk => h k (by omega))
    have h2 := h n (by omega)
    unfold nbest
    split
    · simp only; omega
    · omega
/-- the page as a row of signals, plain; what of it is a row -/
def pgOK (G : Nat → Int → Int) : Prop := ∀ k : Nat, (k : Int) < G pM 1 → 97 ≤ G pM_page k ∧ G pM_page k ≤ 104
def pgL (G : Nat → Int → Int) : List Int := pln G 0 (fun k => G pM_page k - 97) (G pM 1).toNat
theorem pgL_len {g : Nat → Int → Int} (hQ : bdQ g) : (pgL g).length ≤ 96 := by
  have := pln_len g 0 (fun k => g pM_page k - 97) (g pM 1).toNat
  obtain ⟨⟨h0, h1⟩, -⟩ := hQ
  unfold pgL
  omega
theorem pgL_R7 {g : Nat → Int → Int} (hb : bdS g) (ho : pgOK g) : isR7 (pgL g) := isR7_pln hb 0 (fun k hk => by
  have := ho k (by omega)
  omega)
end
section
/-! ===== the class: rows ===== -/
def zRw (p n : Nat) : Prop := p ≠ 0 ∧ n ≤ 1000 ∧ zsh[p - 1]? = some (3, [p + 1 + 3, 0]) ∧ zsh[p + 1 - 1]? = some (100, List.replicate n 0)
def zRow (g : Nat → Int → Int) (p : Nat) (l : List Int) : Prop := g p 1 = l.length ∧ zPre (g (p + 1)) l
def scR (p : Nat) (q : Nat) (_ : Int) : Prop := q = p ∨ q = p + 1
theorem zRow_fr {g g1 : Nat → Int → Int} {p : Nat} {l : List Int} (h : zRow g p l) (e1 : g1 p = g p) (e2 : g1 (p + 1) = g (p + 1)) : zRow g1 p l := by
  unfold zRow
  rw [e1, e2]
  exact h
section ROWS
variable {p n : Nat} {g : Nat → Int → Int}
theorem Rw_ck (h : zRw p n) (o : Option zR) : zck (HH g) (some p) 3 o = o := HH_ck h.2.2.1 h.1 rfl o
theorem Rw_g (h : zRw p n) (f : Int → Option zR) : zgi (HH g) (some p) 3 1 f = f (g p 1) := HH_gi (j := 1) h.2.2.1 h.1 rfl rfl f
theorem Rw_p (h : zRw p n) (v : Int) (f : zH → Option zR) : zpf (HH g) (some p) 3 1 (.inl v) f = f (HH (up g p 1 v)) := HH_pf (j := 1) h.2.2.1 h.1 rfl rfl f
theorem Rw_r (h : zRw p n) (f : Option Nat → Option zR) : zgr (HH g) (some p) 3 0 f = f (some (p + 1)) := HH_gr (j := 0) h.2.2.1 h.1 rfl rfl f
theorem Rw_ln (h : zRw p n) (xs : List Int) (f : Int → Option zR) : zln xs (HH g) (some (p + 1)) f = f n := by
  rw [HH_ln h.2.2.2 (by omega) (by show 100 ≤ 100; omega), List.length_replicate]
theorem Rw_a (h : zRw p n) (xs : List Int) {i : Int} (h0 : 0 ≤ i) (h1 : i < n) (f : Int → Option zR) : zai xs (HH g) (some (p + 1)) i f = f (g (p + 1) i) := HH_ai h.2.2.2 (by omega) h.2.1 h0 h1 f
theorem Rw_s (h : zRw p n) {i : Int} (v : Int) (h0 : 0 ≤ i) (h1 : i < n) (f : zH → Option zR) : zst (HH g) (some (p + 1)) 100 i (.inl v) f = f (HH (up g (p + 1) i v)) := HH_st h.2.2.2 (by omega) h.2.1 h0 h1 f
end ROWS
/-- a row's number at a place, -1 beyond it -/
def zat (l : List Int) (i : Int) : Int := if 0 ≤ i ∧ i < l.length then l.getD i.toNat 0 else -1
theorem zat_in {l : List Int} {k : Nat} (hk : k < l.length) : zat l (k : Int) = l[k] := by
  unfold zat
  rw [if_pos (by omega)]
  simp [List.getD, hk]
theorem zat_out {l : List Int} {i : Int} (h : i < 0 ∨ (l.length : Int) ≤ i) : zat l i = -1 := if_neg (by omega)
theorem Row_size (xs : List Int) {p n : Nat} {g : Nat → Int → Int} {l : List Int} (h : zRw p n) (hl : zRow g p l) : zx zblk xs 19 0 [some (.inr (.inr (some p)))] [] (HH g) = some (some (.inl (l.length : Int)), HH g) := by
  rw [e_Row_size_0, Rw_g h, hl.1]
theorem Row_at (xs : List Int) {p n : Nat} {g : Nat → Int → Int} {l : List Int} (h : zRw p n) (hl : zRow g p l) (hn : l.length ≤ n) (i : Int) (hi : zw i = i) : zx zblk xs 20 0 [some (.inr (.inr (some p))), some (.inl (i))] [] (HH g) = some (some (.inl (zat l i)), HH g) := by
  have hn0 := h.2.1
  have e30 : zx zblk xs 20 30 [] [] (HH g) = some (some (.inl (-1)), HH g) := by rw [e_Row_at_30, e_Row_at_31]
  rw [e_Row_at_0, hi]
  by_cases h0 : i < 0
  · rw [if_pos h0, e30, zat_out (Or.inl h0)]
  · rw [if_neg h0, Rw_g h, hl.1, zw_id (by omega) (by omega)]
    by_cases h1 : (l.length : Int) ≤ i
    · rw [if_pos h1, e30, zat_out (Or.inr h1)]
    · rw [if_neg h1, Rw_r h, Rw_ln h, zw_id (by omega) (by omega), if_neg (by omega), Rw_r h, Rw_a h xs (by omega) (by omega), e_Row_at_31]
      obtain ⟨k, rfl⟩ : ∃ k : Nat, i = k := ⟨i.toNat, by omega⟩
      rw [zPre_get hl.2 (by omega), zat_in (by omega)]
theorem Row_set (xs : List Int) {p n : Nat} {g : Nat → Int → Int} {l : List Int} (h : zRw p n) (hl : zRow g p l) (hn : l.length ≤ n) (k : Nat) (v : Int) (hk : k < l.length) : zx zblk xs 21 0 [some (.inr (.inr (some p))), some (.inl ((k : Int))), some (.inl (v))] [] (HH g) = some (none, HH (up g (p + 1) k v)) ∧ zRow (up g (p + 1) k v) p (l.set k v) := by
  have hn0 := h.2.1
  refine ⟨?_, ?_, ?_⟩
  · rw [e_Row_set_0, zw_id (by omega) (by omega), if_neg (by omega), Rw_g h, hl.1, zw_id (by omega) (by omega), if_neg (by omega), Rw_r h, Rw_ln h, zw_id (by omega) (by omega), if_neg (by omega), Rw_r h, Rw_s h v (by omega) (by omega), e_Row_set_28]
  · rw [up_q (by omega), List.length_set]; exact hl.1
  · intro j w hj
    by_cases hjk : j = k
    · subst hjk
      rw [List.getElem?_set_self hk] at hj
      cases hj
      exact up_same _ _ _ _
    · rw [List.getElem?_set_ne (Ne.symm hjk)] at hj
      rw [up_ne _ _ (by omega)]
      exact hl.2 j w hj
theorem Row_add (xs : List Int) {p n : Nat} {g : Nat → Int → Int} {l : List Int} (h : zRw p n) (hl : zRow g p l) (hn : l.length < n) (v : Int) : ∃ g1, zx zblk xs 22 0 [some (.inr (.inr (some p))), some (.inl (v))] [] (HH g) = some (none, HH g1) ∧ zRow g1 p (l ++ [v]) ∧ zFr (scR p) g g1 := by
  have hn0 := h.2.1
  have hne : p ≠ p + 1 := by omega
  refine ⟨up (up g (p + 1) l.length v) p 1 (l.length + 1), ?_, ⟨?_, ?_⟩, (zFr.rf.up (Or.inr rfl)).up (Or.inl rfl)⟩
  · have e1 : up g (p + 1) (l.length : Int) v p 1 = l.length := by rw [up_q hne]; exact hl.1
    rw [e_Row_add_0, Rw_g h, hl.1, zw_id (by omega) (by omega), if_neg (by omega), Rw_g h, hl.1, Rw_r h, Rw_ln h, zw_id (by omega) (by omega), zw_id (by omega) (by omega), if_neg (by omega), Rw_r h, Rw_g h, hl.1, Rw_s h v (by omega) (by omega), Rw_g h, e1, Rw_p h, e_Row_add_39]
  · rw [up_same]; simp
  · rw [up_p _ _ _ (Ne.symm hne)]
    exact zPre_snoc hl.2 (up_same _ _ _ _) (fun j h0 h1 => up_ne _ _ (by omega))
theorem Row_dropLast (xs : List Int) {p n : Nat} {g : Nat → Int → Int} {l : List Int} (h : zRw p n) (hl : zRow g p l) (hn : l.length ≤ n) : ∃ g1, zx zblk xs 23 0 [some (.inr (.inr (some p)))] [] (HH g) = some (none, HH g1) ∧ zRow g1 p l.dropLast ∧ zFr (scR p) g g1 := by
  have hn0 := h.2.1
  by_cases h0 : l.length = 0
  · refine ⟨g, ?_, ⟨?_, zPre_drop hl.2⟩, zFr.rf⟩
    · rw [e_Row_dropLast_0, Rw_g h, hl.1, zw_id (by omega) (by omega), if_pos (by omega), e_Row_dropLast_17]
    · rw [hl.1]; simp; omega
  · refine ⟨up g p 1 (l.length - 1), ?_, ⟨?_, ?_⟩, zFr.rf.up (Or.inl rfl)⟩
    · rw [e_Row_dropLast_0, Rw_g h, hl.1, zw_id (by omega) (by omega), if_neg (by omega), Rw_g h, hl.1, Rw_p h, e_Row_dropLast_17]
    · rw [up_same]; simp; omega
    · rw [up_p _ _ _ (by omega)]; exact zPre_drop hl.2
theorem Row_wipe (xs : List Int) {p n : Nat} {g : Nat → Int → Int} (h : zRw p n) : zx zblk xs 24 0 [some (.inr (.inr (some p)))] [] (HH g) = some (none, HH (up g p 1 0)) ∧ zRow (up g p 1 0) p [] ∧ zFr (scR p) g (up g p 1 0) := by
  refine ⟨?_, ⟨?_, zPre_nil _⟩, zFr.rf.up (Or.inl rfl)⟩
  · rw [e_Row_wipe_0, Rw_p h]
  · rw [up_same]; rfl
/-- numbers of a machine's size -/
def zInt (l : List Int) : Prop := ∀ v ∈ l, zw v = v
theorem zInt_get {l : List Int} (h : zInt l) {k : Nat} (hk : k < l.length) : zw l[k] = l[k] := h _ (List.getElem_mem hk)
theorem isR7_int {l : List Int} (h : isR7 l) : zInt l := fun v hv => by have := h v hv; exact zw_id (by omega) (by omega)
/-- a is the start of b -/
def isPfx (a b : List Int) : Prop := a.length ≤ b.length ∧ a = b.take a.length
theorem Row_isStartOf (xs : List Int) {p n p2 n2 : Nat} {g : Nat → Int → Int} {l l2 : List Int} (h : zRw p n) (h2 : zRw p2 n2) (hl : zRow g p l) (hl2 : zRow g p2 l2) (hn : l.length ≤ n) (hn2 : l2.length ≤ n2) (hr : isR7 l) (hr2 : isR7 l2) [Decidable (isPfx l l2)] : zx zblk xs 26 0 [some (.inr (.inr (some p))), some (.inr (.inr (some p2)))] [] (HH g) = some (some (.inl (zb (isPfx l l2))), HH g) := by
  have hn0 := h.2.1
  have loop : ∀ (r k : Nat), k + r = l.length → k ≤ l2.length → l.take k = l2.take k → zx zblk xs 26 2 [some (.inr (.inr (some p))), some (.inr (.inr (some p2))), some (.inl ((k : Int)))] [] (HH g) = some (some (.inl (zb (isPfx l l2))), HH g) := by
    intro r
    induction r with
    | zero =>
      intro k hk hk2 ht
      have hkl : k = l.length := by omega
      subst hkl
      rw [List.take_length] at ht
      rw [e_Row_isStartOf_2, Rw_g h, hl.1, if_pos (by omega), e_Row_isStartOf_31, if_pos (Or.inr rfl), zb_t ⟨hk2, ht⟩]
    | succ r ih =>
      intro k hk hk2 ht
      have b1 := isR7_get hr (k := k) (by omega)
      rw [e_Row_isStartOf_2, Rw_g h, hl.1, if_neg (by rw [zw_id (by omega) (by omega), zw_id (by omega) (by omega)]; omega), Rw_ck h, Row_at xs h hl hn k (zw_id (by omega) (by omega)), zci_ok, Rw_ck h2, Row_at xs h2 hl2 hn2 k (zw_id (by omega) (by omega)), zci_ok, zat_in (by omega), zw_id (a := l[k]) (by omega) (by omega)]
      by_cases hk3 : k < l2.length
      · have b2 := isR7_get hr2 (k := k) hk3
        have hts := take_succ_eq (A := l) (B := l2) (k := k) (by omega) hk3
        rw [zat_in hk3, zw_id (by omega) (by omega)]
        by_cases he : l[k] = l2[k]
        · rw [if_pos he, e_Row_isStartOf_25, ← Int.natCast_succ]
          exact ih (k + 1) (by omega) (by omega) (hts.mpr ⟨ht, he⟩)
        · rw [if_neg he, if_pos (Or.inl rfl), zb_f]
          rintro ⟨z1, z2⟩
          refine he (hts.mp ?_).2
          rw [z2, List.take_take, Nat.min_eq_left (by omega)]
      · rw [zat_out (Or.inr (by omega)), if_neg (by rw [show zw (-1) = -1 from rfl]; omega), if_pos (Or.inl rfl), zb_f]
        rintro ⟨z1, -⟩
        omega
  have := loop l.length 0 (by omega) (by omega) rfl
  rw [z0N] at this
  rw [e_Row_isStartOf_0]
  exact this
noncomputable def zdc (P : Prop) : Decidable P := Classical.propDecidable P
theorem Row_isLike (xs : List Int) {p n p2 n2 : Nat} {g : Nat → Int → Int} {l l2 : List Int} (h : zRw p n) (h2 : zRw p2 n2) (hl : zRow g p l) (hl2 : zRow g p2 l2) (hn : l.length ≤ n) (hn2 : l2.length ≤ n2) (hr : isR7 l) (hr2 : isR7 l2) : zx zblk xs 25 0 [some (.inr (.inr (some p))), some (.inr (.inr (some p2)))] [] (HH g) = some (some (.inl (zb (l = l2))), HH g) := by
  have hn0 := h.2.1
  have hn20 := h2.2.1
  have e23 : zx zblk xs 25 23 [] [] (HH g) = some (some (.inl 0), HH g) := by rw [e_Row_isLike_23, e_Row_isLike_24, if_pos (Or.inl rfl)]
  rw [e_Row_isLike_0, Rw_g h, hl.1, Rw_ck h2, Row_size xs h2 hl2, zci_ok, zw_id (by omega) (by omega), zw_id (by omega) (by omega)]
  by_cases he : l.length = l2.length
  · have hd := zdc (isPfx l l2)
    have hs := @Row_isStartOf xs p n p2 n2 g l l2 h h2 hl hl2 hn hn2 hr hr2 hd
    have hiff : isPfx l l2 ↔ l = l2 := by
      unfold isPfx
      rw [he, List.take_length]
      simp
    rw [if_neg (by omega), Rw_ck h, hs, zci_ok, zb_zw]
    by_cases h3 : l = l2
    · rw [zb_t (hiff.mpr h3), if_neg (by decide), e_Row_isLike_24, if_pos (Or.inr rfl), zb_t h3]
    · rw [zb_f (fun z => h3 (hiff.mp z)), if_pos rfl, e23, zb_f h3]
  · rw [if_pos (by omega), e23, zb_f (fun z => he (by rw [z]))]
theorem Row_placesApart (xs : List Int) {p n p2 n2 : Nat} {g : Nat → Int → Int} {l l2 : List Int} (h : zRw p n) (h2 : zRw p2 n2) (hl : zRow g p l) (hl2 : zRow g p2 l2) (hn : l.length ≤ n) (hn2 : l2.length ≤ n2) (hr : isR7 l) (hr2 : isR7 l2) (he : l.length = l2.length) : zx zblk xs 27 0 [some (.inr (.inr (some p))), some (.inr (.inr (some p2)))] [] (HH g) = some (some (.inl (dif l l2)), HH g) := by
  have hn0 := h.2.1
  have hh := zloop (fun k : Nat => zx zblk xs 27 4 [some (.inr (.inr (some p))), some (.inr (.inr (some p2))), some (.inl (zsum (fun k => if l.getD k 0 = l2.getD k 0 then 0 else 1) k)), some (.inl ((k : Int)))] [] (HH g)) l2.length (fun k hk => by
    have b1 := isR7_get hr (k := k) (by omega)
    have b2 := isR7_get hr2 (k := k) hk
    have d1 : l.getD k 0 = l[k] := by simp [List.getD, show k < l.length by omega]
    have d2 : l2.getD k 0 = l2[k] := by simp [List.getD, hk]
    rw [e_Row_placesApart_4, Rw_g h, hl.1, if_neg (by rw [zw_id (by omega) (by omega), zw_id (by omega) (by omega)]; omega), Rw_ck h, Row_at xs h hl hn k (zw_id (by omega) (by omega)), zci_ok, Rw_ck h2, Row_at xs h2 hl2 hn2 k (zw_id (by omega) (by omega)), zci_ok, zat_in (by omega), zat_in hk, zw_id (by omega) (by omega), zw_id (by omega) (by omega), zsum, d1, d2, Int.natCast_succ]
    by_cases he : l[k] = l2[k]
    · rw [if_pos he, e_Row_placesApart_28, if_pos he, Int.add_zero]
    · rw [if_neg he, e_Row_placesApart_28, if_neg he])
  unfold dif
  rw [if_pos he, e_Row_placesApart_0]
  refine Eq.trans ?_ (hh.trans ?_)
  · rfl
  · rw [e_Row_placesApart_4, Rw_g h, hl.1, if_pos (by rw [he]; omega), e_Row_placesApart_34]
theorem Row_sumOf (xs : List Int) {p n : Nat} {g : Nat → Int → Int} {l : List Int} (h : zRw p n) (hl : zRow g p l) (hn : l.length ≤ n) (m : Nat) (hm : m ≤ l.length) : zx zblk xs 28 0 [some (.inr (.inr (some p))), some (.inl ((m : Int)))] [] (HH g) = some (some (.inl (zsum (fun k => l.getD k 0) m)), HH g) := by
  have hn0 := h.2.1
  have hh := zloop (fun k : Nat => zx zblk xs 28 4 [some (.inr (.inr (some p))), some (.inl ((m : Int))), some (.inl (zsum (fun k => l.getD k 0) k)), some (.inl ((k : Int)))] [] (HH g)) m (fun k hk => by
    have d1 : l.getD k 0 = l[k] := by simp [List.getD, show k < l.length by omega]
    rw [e_Row_sumOf_4, if_neg (by rw [zw_id (by omega) (by omega), zw_id (by omega) (by omega)]; omega), Rw_g h, hl.1, if_neg (by rw [zw_id (by omega) (by omega), zw_id (by omega) (by omega)]; omega), Rw_ck h, Row_at xs h hl hn k (zw_id (by omega) (by omega)), zci_ok, zat_in (by omega), zsum, d1, Int.natCast_succ])
  rw [e_Row_sumOf_0]
  refine Eq.trans ?_ (hh.trans ?_)
  · rfl
  · rw [e_Row_sumOf_4, if_pos (by omega), e_Row_sumOf_31]
end
section
/-! ===== the class: signals ===== -/
/-- the first n numbers of f -/
def zLi (f : Nat → Int) (n : Nat) : List Int := (List.range n).map f
theorem zLi_len (f : Nat → Int) (n : Nat) : (zLi f n).length = n := by simp [zLi]
theorem zLi_snoc (f : Nat → Int) (n : Nat) : zLi f (n + 1) = zLi f n ++ [f n] := by simp [zLi, List.range_succ]
theorem zLi_get (f : Nat → Int) {n k : Nat} (h : k < (zLi f n).length) : (zLi f n)[k] = f k := by simp [zLi]
theorem zLi_getD (f : Nat → Int) {n k : Nat} (h : k < n) : (zLi f n).getD k 0 = f k := by simp [zLi, List.getD, h]
theorem zLi_cg {f f' : Nat → Int} {n : Nat} (h : ∀ k, k < n → f k = f' k) : zLi f n = zLi f' n := by
  induction n with
  | zero => rfl
  | succ n ih => rw [zLi_snoc, zLi_snoc, ih (fun k hk => h k (by omega)), h n (by omega)]
theorem zLi_mem {f : Nat → Int} {n : Nat} {P : Int → Prop} (h : ∀ k, k < n → P (f k)) : ∀ v ∈ zLi f n, P v := by
  intro v hv
  obtain ⟨k, hk, rfl⟩ := List.mem_map.mp hv
  exact h k (List.mem_range.mp hk)
theorem zat_Li {f : Nat → Int} {n : Nat} {i : Int} (h : 0 ≤ i ∧ i < n) : zat (zLi f n) i = f i.toNat := by
  obtain ⟨k, rfl⟩ : ∃ k : Nat, i = k := ⟨i.toNat, by omega⟩
  rw [zat_in (by rw [zLi_len]; omega), zLi_get]
  rfl
theorem zat_Lo {f : Nat → Int} {n : Nat} {i : Int} (h : ¬ (0 ≤ i ∧ i < n)) : zat (zLi f n) i = -1 := zat_out (by rw [zLi_len]; omega)
theorem pln_cg (G : Nat → Int → Int) (st : Int) {f f' : Nat → Int} : ∀ {n : Nat}, (∀ k, k < n → f k = f' k) → pln G st f n = pln G st f' n
  | 0, _ => rfl
  | n + 1, h => by
    have e := pln_cg G st (n := n) (fun k hk => h k (by omega))
    simp only [pln, e, h n (by omega)]
def sigL (G : Nat → Int → Int) (j : Int) : List Int := zLi (fun s => G pM_signalRows (4 * (s : Int) + j)) (G pM 8).toNat
def RelS (G g : Nat → Int → Int) : Prop := zRow g 3 (sigL G 0) ∧ zRow g 5 (sigL G 1) ∧ zRow g 7 (sigL G 2) ∧ zRow g 9 (sigL G 3)
theorem RelS_fr {G g g1 : Nat → Int → Int} (h : RelS G g) (e : ∀ q, 3 ≤ q → q ≤ 10 → g1 q = g q) : RelS G g1 :=
  ⟨zRow_fr h.1 (e 3 (by omega) (by omega)) (e 4 (by omega) (by omega)), zRow_fr h.2.1 (e 5 (by omega) (by omega)) (e 6 (by omega) (by omega)), zRow_fr h.2.2.1 (e 7 (by omega) (by omega)) (e 8 (by omega) (by omega)), zRow_fr h.2.2.2 (e 9 (by omega) (by omega)) (e 10 (by omega) (by omega))⟩
theorem sigL_len {G : Nat → Int → Int} (hQ : bdQ G) (j : Int) : (sigL G j).length ≤ 8 := by
  obtain ⟨-, -, ⟨h0, h1⟩, -, -⟩ := hQ
  unfold sigL
  rw [zLi_len]
  omega
theorem sigL_len' {G : Nat → Int → Int} (hQ : bdQ G) (j : Int) : ((sigL G j).length : Int) = G pM 8 := by
  obtain ⟨-, -, ⟨h0, h1⟩, -, -⟩ := hQ
  unfold sigL
  rw [zLi_len]
  omega
theorem zat_sig {G : Nat → Int → Int} (j s : Int) : zat (sigL G j) s = if 0 ≤ s ∧ s < G pM 8 then G pM_signalRows (4 * s + j) else -1 := by
  unfold sigL
  by_cases h : 0 ≤ s ∧ s < G pM 8
  · rw [if_pos h, zat_Li (by omega)]
    congr 1
    omega
  · rw [if_neg h, zat_Lo (by omega)]
theorem Rw3 : zRw 3 8 := ⟨by decide, by omega, rfl, rfl⟩
theorem Rw5 : zRw 5 8 := ⟨by decide, by omega, rfl, rfl⟩
theorem Rw7 : zRw 7 8 := ⟨by decide, by omega, rfl, rfl⟩
theorem Rw9 : zRw 9 8 := ⟨by decide, by omega, rfl, rfl⟩
theorem Sg_ck (g : Nat → Int → Int) (o : Option zR) : zck (HH g) (some pX_signals) 5 o = o := HH_ck (p := pX_signals) rfl (by decide) rfl o
theorem Sg_0 (g : Nat → Int → Int) (f : Option Nat → Option zR) : zgr (HH g) (some pX_signals) 5 0 f = f (some 3) := HH_gr (p := pX_signals) (j := 0) rfl (by decide) rfl rfl f
theorem Sg_1 (g : Nat → Int → Int) (f : Option Nat → Option zR) : zgr (HH g) (some pX_signals) 5 1 f = f (some 5) := HH_gr (p := pX_signals) (j := 1) rfl (by decide) rfl rfl f
theorem Sg_2 (g : Nat → Int → Int) (f : Option Nat → Option zR) : zgr (HH g) (some pX_signals) 5 2 f = f (some 7) := HH_gr (p := pX_signals) (j := 2) rfl (by decide) rfl rfl f
theorem Sg_3 (g : Nat → Int → Int) (f : Option Nat → Option zR) : zgr (HH g) (some pX_signals) 5 3 f = f (some 9) := HH_gr (p := pX_signals) (j := 3) rfl (by decide) rfl rfl f
section SIG
variable (xs : List Int) {G g : Nat → Int → Int}
theorem Signals_told (hQ : bdQ G) (h : RelS G g) : zx zblk xs 32 0 [some (.inr (.inr (some pX_signals)))] [] (HH g) = some (some (.inl (G pM 8)), HH g) := by
  rw [e_Signals_told_0, Sg_0, Rw_ck Rw3, Row_size xs Rw3 h.1, zci_ok, sigL_len' hQ]
theorem Signals_isTold (hQ : bdQ G) (h : RelS G g) (s : Int) : zx zblk xs 33 0 [some (.inr (.inr (some pX_signals))), some (.inl (s))] [] (HH g) = some (some (.inl (zb (0 ≤ zw s ∧ zw s < G pM 8))), HH g) := by
  obtain ⟨-, -, ⟨h0, h1⟩, -, -⟩ := id hQ
  have e19 : zx zblk xs 33 19 [] [] (HH g) = some (some (.inl 0), HH g) := by rw [e_Signals_isTold_19, e_Signals_isTold_20, if_pos (Or.inl rfl)]
  rw [e_Signals_isTold_0]
  by_cases a : zw s < 0
  · rw [if_pos a, e19, zb_f (by omega)]
  · rw [if_neg a, Sg_0, Rw_ck Rw3, Row_size xs Rw3 h.1, zci_ok, sigL_len' hQ, zw_id (a := G pM 8) (by omega) (by omega)]
    by_cases b : G pM 8 ≤ zw s
    · rw [if_pos b, e19, zb_f (by omega)]
    · rw [if_neg b, e_Signals_isTold_20, if_pos (Or.inr rfl), zb_t (by omega)]
theorem Signals_kindOf (hQ : bdQ G) (hS : bdS G) (h : RelS G g) (s : Int) (hs : zw s = s) : zx zblk xs 35 0 [some (.inr (.inr (some pX_signals))), some (.inl (s))] [] (HH g) = some (some (.inl (kindS G s)), HH g) := by
  rw [e_Signals_kindOf_0, Sg_0, Rw_ck Rw3, Row_at xs Rw3 h.1 (sigL_len hQ 0) s hs, zci_ok, zat_sig, Int.add_zero]
  unfold kindS
  by_cases a : 0 ≤ s ∧ s < G pM 8
  · have := hS s a.1 a.2
    rw [if_pos a, if_pos a, if_pos (by rw [zw_id (by omega) (by omega)]; show _ ≠ (-1 : Int); omega), e_Signals_kindOf_18, e_Signals_kindOf_19]
  · rw [if_neg a, if_neg a, if_neg (by simp), e_Signals_kindOf_19]
theorem Signals_toneOf (hQ : bdQ G) (h : RelS G g) (s : Int) (hs : zw s = s) : zx zblk xs 36 0 [some (.inr (.inr (some pX_signals))), some (.inl (s))] [] (HH g) = some (some (.inl (zat (sigL G 1) s)), HH g) := by
  rw [e_Signals_toneOf_0, Sg_1, Rw_ck Rw5, Row_at xs Rw5 h.2.1 (sigL_len hQ 1) s hs, zci_ok]
theorem Signals_secondsOf (hQ : bdQ G) (hS : bdS G) (h : RelS G g) (s : Int) (hs : zw s = s) : zx zblk xs 37 0 [some (.inr (.inr (some pX_signals))), some (.inl (s))] [] (HH g) = some (some (.inl (secS G s)), HH g) := by
  rw [e_Signals_secondsOf_0, Sg_2, Rw_ck Rw7, Row_at xs Rw7 h.2.2.1 (sigL_len hQ 2) s hs, zci_ok, zat_sig]
  unfold secS
  by_cases a : 0 ≤ s ∧ s < G pM 8
  · have := hS s a.1 a.2
    rw [if_pos a, if_pos a, if_pos (by rw [zw_id (by omega) (by omega)]; show _ ≠ (-1 : Int); omega), e_Signals_secondsOf_18, e_Signals_secondsOf_19]
  · rw [if_neg a, if_neg a, if_neg (by simp), e_Signals_secondsOf_19]
theorem Signals_oddOf (hQ : bdQ G) (hS : bdS G) (h : RelS G g) (s : Int) (hs : zw s = s) : zx zblk xs 38 0 [some (.inr (.inr (some pX_signals))), some (.inl (s))] [] (HH g) = some (some (.inl (oddS G s)), HH g) := by
  rw [e_Signals_oddOf_0, Sg_3, Rw_ck Rw9, Row_at xs Rw9 h.2.2.2 (sigL_len hQ 3) s hs, zci_ok, zat_sig]
  unfold oddS
  by_cases a : 0 ≤ s ∧ s < G pM 8
  · have := hS s a.1 a.2
    rw [if_pos a, if_pos a, if_pos (by rw [zw_id (by omega) (by omega)]; show _ ≠ (-1 : Int); omega), e_Signals_oddOf_18, e_Signals_oddOf_19]
  · rw [if_neg a, if_neg a, if_neg (by simp), e_Signals_oddOf_19]
theorem Signals_isToneFor (hQ : bdQ G) (hS : bdS G) (h : RelS G g) (k n : Int) (hk : zw k = k) (hn : zw n = n) : zx zblk xs 39 0 [some (.inr (.inr (some pX_signals))), some (.inl (k)), some (.inl (n))] [] (HH g) = some (some (.inl (zb (if k = 2 then 0 ≤ n ∧ n < G pM 8 ∧ kindS G n < 2 else n = -1))), HH g) := by
  have e14 : zx zblk xs 39 14 [] [] (HH g) = some (some (.inl 0), HH g) := by rw [e_Signals_isToneFor_14, e_Signals_isToneFor_15, if_pos (Or.inl rfl)]
  have e45 : zx zblk xs 39 45 [] [] (HH g) = some (some (.inl 0), HH g) := by rw [e_Signals_isToneFor_45, e_Signals_isToneFor_46, if_pos (Or.inl rfl)]
  have e41 : zx zblk xs 39 41 [] [] (HH g) = some (some (.inl 1), HH g) := by rw [e_Signals_isToneFor_41, e_Signals_isToneFor_46, if_pos (Or.inr rfl)]
  rw [e_Signals_isToneFor_0, hk, hn, show zw 2 = 2 from rfl, show zw (-1) = -1 from rfl]
  by_cases a : k = 2
  · simp only [if_pos a]
    rw [e_Signals_isToneFor_16, Sg_ck, Signals_isTold xs hQ h, zci_ok, zb_zw, hn]
    by_cases b : 0 ≤ n ∧ n < G pM 8
    · have hkk := kindS_rg hS n
      rw [zb_t b, if_neg (by decide), Sg_ck, Signals_kindOf xs hQ hS h n hn, zci_ok, zw_id (by omega) (by omega)]
      by_cases c0 : kindS G n = 0
      · rw [if_pos c0, e41, zb_t (by omega)]
      · rw [if_neg c0, Sg_ck, Signals_kindOf xs hQ hS h n hn, zci_ok, zw_id (by omega) (by omega), show zw 1 = 1 from rfl]
        by_cases c1 : kindS G n = 1
        · rw [if_neg (by omega), e41, zb_t (by omega)]
        · rw [if_pos c1, e45, zb_f (by omega)]
    · rw [zb_f b, if_pos rfl, e45, zb_f (by omega)]
  · simp only [if_neg a]
    by_cases b : n = -1
    · rw [if_neg (by omega), e_Signals_isToneFor_15, if_pos (Or.inr rfl), zb_t b]
    · rw [if_pos b, e14, zb_f b]
theorem Signals_secondsOfAll (hQ : bdQ G) (hS : bdS G) (h : RelS G g) {p n : Nat} {l : List Int} (hp : zRw p n) (hl : zRow g p l) (hn : l.length ≤ n) (hi : zInt l) : zx zblk xs 40 0 [some (.inr (.inr (some pX_signals))), some (.inr (.inr (some p)))] [] (HH g) = some (some (.inl (zsum (fun k => secS G (l.getD k 0)) l.length)), HH g) := by
  have hn0 := hp.2.1
  have hh := zloop (fun k : Nat => zx zblk xs 40 4 [some (.inr (.inr (some pX_signals))), some (.inr (.inr (some p))), some (.inl (zsum (fun k => secS G (l.getD k 0)) k)), some (.inl ((k : Int)))] [] (HH g)) l.length (fun k hk => by
    have d1 : l.getD k 0 = l[k] := by simp [List.getD, hk]
    rw [e_Signals_secondsOfAll_4, Rw_ck hp, Row_size xs hp hl, zci_ok, if_neg (by rw [zw_id (by omega) (by omega), zw_id (by omega) (by omega)]; omega), Rw_ck hp, Row_at xs hp hl hn k (zw_id (by omega) (by omega)), zci_ok, zat_in hk, Sg_ck, Signals_secondsOf xs hQ hS h _ (zInt_get hi hk), zci_ok, zsum, d1, Int.natCast_succ])
  rw [e_Signals_secondsOfAll_0]
  refine Eq.trans ?_ (hh.trans ?_)
  · rfl
  · rw [e_Signals_secondsOfAll_4, Rw_ck hp, Row_size xs hp hl, zci_ok, if_pos (by omega), e_Signals_secondsOfAll_30]
theorem Signals_oddOfAll (hQ : bdQ G) (hS : bdS G) (h : RelS G g) {p n : Nat} {l : List Int} (hp : zRw p n) (hl : zRow g p l) (hn : l.length ≤ n) (hi : zInt l) : zx zblk xs 41 0 [some (.inr (.inr (some pX_signals))), some (.inr (.inr (some p)))] [] (HH g) = some (some (.inl (zsum (fun k => oddS G (l.getD k 0)) l.length)), HH g) := by
  have hn0 := hp.2.1
  have hh := zloop (fun k : Nat => zx zblk xs 41 4 [some (.inr (.inr (some pX_signals))), some (.inr (.inr (some p))), some (.inl (zsum (fun k => oddS G (l.getD k 0)) k)), some (.inl ((k : Int)))] [] (HH g)) l.length (fun k hk => by
    have d1 : l.getD k 0 = l[k] := by simp [List.getD, hk]
    rw [e_Signals_oddOfAll_4, Rw_ck hp, Row_size xs hp hl, zci_ok, if_neg (by rw [zw_id (by omega) (by omega), zw_id (by omega) (by omega)]; omega), Rw_ck hp, Row_at xs hp hl hn k (zw_id (by omega) (by omega)), zci_ok, zat_in hk, Sg_ck, Signals_oddOf xs hQ hS h _ (zInt_get hi hk), zci_ok, zsum, d1, Int.natCast_succ])
  rw [e_Signals_oddOfAll_0]
  refine Eq.trans ?_ (hh.trans ?_)
  · rfl
  · rw [e_Signals_oddOfAll_4, Rw_ck hp, Row_size xs hp hl, zci_ok, if_pos (by omega), e_Signals_oddOfAll_30]
end SIG
theorem mpStep (xs : List Int) {G g : Nat → Int → Int} (hQ : bdQ G) (hS : bdS G) (h : RelS G g) {p n p2 : Nat} {l : List Int} (hp : zRw p n) (hp11 : 11 ≤ p) (hl : zRow g p l) (hn : l.length + 2 ≤ n) (st s k : Int) (hs : zw s = s) : ∃ g1, zx zblk xs 42 36 [some (.inr (.inr (some pX_signals))), some (.inr (.inr (some p2))), some (.inl (st)), some (.inr (.inr (some p))), some (.inl (k)), some (.inl (s))] [] (HH g) = zx zblk xs 42 103 [some (.inr (.inr (some pX_signals))), some (.inr (.inr (some p2))), some (.inl (st)), some (.inr (.inr (some p))), some (.inl (k))] [] (HH g1) ∧ zRow g1 p (stp G l s) ∧ zFr (scR p) g g1 := by
  have hkk := kindS_rg hS s
  have hz : zw (kindS G s) = kindS G s := zw_id (by omega) (by omega)
  rw [e_Signals_makePlain_36, Sg_ck, Signals_kindOf xs hQ hS h s hs, zci_ok, hz]
  unfold stp
  by_cases a : kindS G s < 2
  · obtain ⟨g1, q1, q2, q3⟩ := Row_add xs hp hl (by omega) s
    refine ⟨g1, ?_, by rw [if_pos a]; exact q2, q3⟩
    have e55 : zx zblk xs 42 55 [some (.inr (.inr (some pX_signals))), some (.inr (.inr (some p2))), some (.inl (st)), some (.inr (.inr (some p))), some (.inl (k)), some (.inl (s))] [] (HH g) = zx zblk xs 42 103 [some (.inr (.inr (some pX_signals))), some (.inr (.inr (some p2))), some (.inl (st)), some (.inr (.inr (some p))), some (.inl (k))] [] (HH g1) := by
      rw [e_Signals_makePlain_55, Rw_ck hp, q1, zcv_ok]
    by_cases a0 : kindS G s = 0
    · rw [if_pos a0, e55]
    · rw [if_neg a0, show zw 1 = 1 from rfl, if_neg (by omega), e55]
  · rw [if_neg (by omega), show zw 1 = 1 from rfl, if_pos (by omega), e_Signals_makePlain_64, hz, show zw 2 = 2 from rfl, if_neg a]
    by_cases b : kindS G s = 2
    · have hb := kindS_2 b
      obtain ⟨g1, q1, q2, q3⟩ := Row_add xs hp hl (by omega) (G pM_signalRows (4 * s + 1))
      have h1 : RelS G g1 := RelS_fr h (fun q h3 h10 => q3.at (fun j => by simp only [scR]; omega))
      obtain ⟨g2, r1, r2, r3⟩ := Row_add xs hp q2 (by simp; omega) (G pM_signalRows (4 * s + 1))
      refine ⟨g2, ?_, by rw [if_pos b]; exact r2, q3.tr r3⟩
      rw [if_neg (by omega), Sg_ck, Signals_toneOf xs hQ h s hs, zci_ok, zat_sig, if_pos hb, Rw_ck hp, q1, zcv_ok, Sg_ck, Signals_toneOf xs hQ h1 s hs, zci_ok, zat_sig, if_pos hb, Rw_ck hp, r1, zcv_ok]
    · rw [if_pos b, if_neg b, e_Signals_makePlain_93, hz, show zw 4 = 4 from rfl]
      by_cases c : kindS G s = 4
      · obtain ⟨g1, q1, q2, q3⟩ := Row_dropLast xs hp hl (by omega)
        refine ⟨g1, ?_, by rw [if_pos c]; exact q2, q3⟩
        rw [if_neg (by omega), Rw_ck hp, q1, zcv_ok]
      · exact ⟨g, by rw [if_pos c], by rw [if_neg c]; exact hl, zFr.rf⟩
theorem Signals_makePlain (xs : List Int) {G g : Nat → Int → Int} (hQ : bdQ G) (hS : bdS G) (h : RelS G g) {p n p2 n2 : Nat} {l2 : List Int} (hp : zRw p n) (hp11 : 11 ≤ p) (hp2 : zRw p2 n2) (hl2 : zRow g p2 l2) (hn2 : l2.length ≤ n2) (hi : zInt l2) (hn : 2 * l2.length ≤ n) (st : Int) (hd : p2 ≠ p ∧ p2 ≠ p + 1 ∧ p2 + 1 ≠ p) : ∃ g1, zx zblk xs 42 0 [some (.inr (.inr (some pX_signals))), some (.inr (.inr (some p2))), some (.inl (st)), some (.inr (.inr (some p)))] [] (HH g) = some (none, HH g1) ∧ zRow g1 p (pln G st (fun k => l2.getD k 0) l2.length) ∧ zFr (scR p) g g1 := by
  have hn0 := hp.2.1
  have hn20 := hp2.2.1
  have loop : ∀ (r k : Nat) (gk : Nat → Int → Int), k + r = l2.length → zRow gk p (pln G st (fun k => l2.getD k 0) k) → zFr (scR p) g gk → ∃ g1, zx zblk xs 42 7 [some (.inr (.inr (some pX_signals))), some (.inr (.inr (some p2))), some (.inl (st)), some (.inr (.inr (some p))), some (.inl ((k : Int)))] [] (HH gk) = some (none, HH g1) ∧ zRow g1 p (pln G st (fun k => l2.getD k 0) l2.length) ∧ zFr (scR p) g g1 := by
    intro r
    induction r with
    | zero =>
      intro k gk hk hlk hf
      have hkl : k = l2.length := by omega
      subst hkl
      have hl2k : zRow gk p2 l2 := zRow_fr hl2 (hf.at (fun j => by simp only [scR]; omega)) (hf.at (fun j => by simp only [scR]; omega))
      refine ⟨gk, ?_, hlk, hf⟩
      rw [e_Signals_makePlain_7, Rw_ck hp2, Row_size xs hp2 hl2k, zci_ok, if_pos (by omega), e_Signals_makePlain_109]
    | succ r ih =>
      intro k gk hk hlk hf
      have hl2k : zRow gk p2 l2 := zRow_fr hl2 (hf.at (fun j => by simp only [scR]; omega)) (hf.at (fun j => by simp only [scR]; omega))
      have hk2 : k < l2.length := by omega
      have d1 : l2.getD k 0 = l2[k] := by simp [List.getD, hk2]
      have hplen := pln_len G st (fun k => l2.getD k 0) k
      rw [e_Signals_makePlain_7, Rw_ck hp2, Row_size xs hp2 hl2k, zci_ok, if_neg (by rw [zw_id (by omega) (by omega), zw_id (by omega) (by omega)]; omega), Rw_ck hp2, Row_at xs hp2 hl2k hn2 k (zw_id (by omega) (by omega)), zci_ok, zat_in hk2, zw_zand]
      by_cases hbit : zand (zshr st l2[k]) 1 = 0
      · obtain ⟨g2, q1, q2, q3⟩ := mpStep xs hQ hS (RelS_fr h (fun q h3 h10 => hf.at (fun j => by simp only [scR]; omega))) (p2 := p2) hp hp11 hlk (by omega) st l2[k] k (zInt_get hi hk2)
        obtain ⟨g1, r1, r2, r3⟩ := ih (k + 1) g2 (by omega) (by simp only [pln, d1, hbit, ne_eq, not_true_eq_false, if_false]; exact q2) (hf.tr q3)
        refine ⟨g1, ?_, r2, r3⟩
        rw [if_pos hbit, q1, e_Signals_makePlain_103, ← Int.natCast_succ]
        exact r1
      · obtain ⟨g1, r1, r2, r3⟩ := ih (k + 1) gk (by omega) (by simp only [pln, d1, ne_eq, hbit, not_false_eq_true, if_true]; exact hlk) hf
        refine ⟨g1, ?_, r2, r3⟩
        rw [if_neg hbit, e_Signals_makePlain_103, ← Int.natCast_succ]
        exact r1
  obtain ⟨w1, w2, w3⟩ := Row_wipe xs (g := g) hp
  obtain ⟨g1, r1, r2, r3⟩ := loop l2.length 0 _ (by omega) w2 w3
  rw [z0N] at r1
  refine ⟨g1, ?_, r2, r3⟩
  rw [e_Signals_makePlain_0, Rw_ck hp, w1, zcv_ok]
  exact r1
end
section
/-! ===== the class: rows of rows, codes ===== -/
def zRws (P m n : Nat) : Prop := P ≠ 0 ∧ m ≤ 100 ∧ zsh[P - 1]? = some (4, [P + 3 + 3, P + 1 + 3]) ∧ zsh[P + 3 - 1]? = some (105, (List.range m).map fun i => P + 4 + 2 * i + 3) ∧ ∀ i, i < m → zRw (P + 4 + 2 * i) n
def zrwB (p n : Nat) : Bool := decide (p ≠ 0) && decide (n ≤ 1000) && decide (zsh[p - 1]? = some (3, [p + 1 + 3, 0])) && decide (zsh[p + 1 - 1]? = some (100, List.replicate n 0))
theorem zrwB_ok {p n : Nat} (h : zrwB p n = true) : zRw p n := by
  unfold zrwB at h
  simp only [Bool.and_eq_true, decide_eq_true_eq] at h
  exact ⟨h.1.1.1, h.1.1.2, h.1.2, h.2⟩
def zrwsB (P m n : Nat) : Bool := decide (P ≠ 0) && decide (m ≤ 100) && decide (zsh[P - 1]? = some (4, [P + 3 + 3, P + 1 + 3])) && decide (zsh[P + 3 - 1]? = some (105, (List.range m).map fun i => P + 4 + 2 * i + 3)) && (List.range m).all fun i => zrwB (P + 4 + 2 * i) n
theorem zrwsB_ok {P m n : Nat} (h : zrwsB P m n = true) : zRws P m n := by
  unfold zrwsB at h
  simp only [Bool.and_eq_true, decide_eq_true_eq, List.all_eq_true, List.mem_range] at h
  exact ⟨h.1.1.1.1, h.1.1.1.2, h.1.1.2, h.1.2, fun i hi => zrwB_ok (h.2 i hi)⟩
theorem Rws_ck {P m n : Nat} (h : zRws P m n) (g : Nat → Int → Int) (o : Option zR) : zck (HH g) (some P) 4 o = o := HH_ck h.2.2.1 h.1 rfl o
theorem zif_some (p : Nat) (a b : Option zR) : zif (some p) a b = b := rfl
theorem Rows_row (xs : List Int) (g : Nat → Int → Int) {P m n : Nat} (h : zRws P m n) (i : Nat) (hi : i < m) : zx zblk xs 30 0 [some (.inr (.inr (some P))), some (.inl ((i : Int)))] [] (HH g) = some (some (.inr (.inr (some (P + 4 + 2 * i)))), HH g) := by
  obtain ⟨h0, hm, h1, h2, -⟩ := h
  have r0 : ∀ f : Option Nat → Option zR, zgr (HH g) (some P) 4 0 f = f (some (P + 3)) := fun f => HH_gr (j := 0) h1 h0 rfl rfl f
  rw [e_Rows_row_0, zw_id (by omega) (by omega), if_neg (by omega), r0, HH_ln h2 (by omega) (by show 100 ≤ 105; omega), List.length_map, List.length_range, zw_id (by omega) (by omega), if_neg (by omega), r0, HH_aa (r := P + 4 + 2 * i) (n := 0) h2 (by omega) (by omega) (by omega) (by omega) (by simp [hi]), e_Rows_row_23, zif_some, e_Rows_row_35, e_Rows_row_36]
/-- a code's place -/
def zCo (P : Nat) : Prop := P ≠ 0 ∧ zsh[P - 1]? = some (0, [P + 1 + 3, P + 21 + 3, 0]) ∧ zRws (P + 1) 8 5 ∧ zRws (P + 21) 8 10
abbrev PC (c : Nat) : Nat := 101 + 41 * c
theorem zCo_PC {c : Nat} (hc : c < 4) : zCo (PC c) := by
  have h : c = 0 ∨ c = 1 ∨ c = 2 ∨ c = 3 := by omega
  rcases h with rfl | rfl | rfl | rfl
  · exact ⟨by decide, rfl, zrwsB_ok (by decide +kernel), zrwsB_ok (by decide +kernel)⟩
  · exact ⟨by decide, rfl, zrwsB_ok (by decide +kernel), zrwsB_ok (by decide +kernel)⟩
  · exact ⟨by decide, rfl, zrwsB_ok (by decide +kernel), zrwsB_ok (by decide +kernel)⟩
  · exact ⟨by decide, rfl, zrwsB_ok (by decide +kernel), zrwsB_ok (by decide +kernel)⟩
section CODE
variable {P : Nat} {g : Nat → Int → Int}
theorem Co_ck (h : zCo P) (o : Option zR) : zck (HH g) (some P) 0 o = o := HH_ck h.2.1 h.1 rfl o
theorem Co_g (h : zCo P) (f : Int → Option zR) : zgi (HH g) (some P) 0 2 f = f (g P 2) := HH_gi (j := 2) h.2.1 h.1 rfl rfl f
theorem Co_p (h : zCo P) (v : Int) (f : zH → Option zR) : zpf (HH g) (some P) 0 2 (.inl v) f = f (HH (up g P 2 v)) := HH_pf (j := 2) h.2.1 h.1 rfl rfl f
theorem Co_s (h : zCo P) (f : Option Nat → Option zR) : zgr (HH g) (some P) 0 0 f = f (some (P + 1)) := HH_gr (j := 0) h.2.1 h.1 rfl rfl f
theorem Co_l (h : zCo P) (f : Option Nat → Option zR) : zgr (HH g) (some P) 0 1 f = f (some (P + 21)) := HH_gr (j := 1) h.2.1 h.1 rfl rfl f
theorem Code_size (xs : List Int) (h : zCo P) : zx zblk xs 2 0 [some (.inr (.inr (some P)))] [] (HH g) = some (some (.inl (g P 2)), HH g) := by rw [e_Code_size_0, Co_g h]
theorem Code_spoken (xs : List Int) (h : zCo P) (i : Nat) (hi : i < 8) : zx zblk xs 3 0 [some (.inr (.inr (some P))), some (.inl ((i : Int)))] [] (HH g) = some (some (.inr (.inr (some (P + 1 + 4 + 2 * i)))), HH g) := by
  rw [e_Code_spoken_0, Co_s h, Rws_ck h.2.2.1, Rows_row xs g h.2.2.1 i hi, zcr_ok]
theorem Code_plain (xs : List Int) (h : zCo P) (i : Nat) (hi : i < 8) : zx zblk xs 4 0 [some (.inr (.inr (some P))), some (.inl ((i : Int)))] [] (HH g) = some (some (.inr (.inr (some (P + 21 + 4 + 2 * i)))), HH g) := by
  rw [e_Code_plain_0, Co_l h, Rws_ck h.2.2.2, Rows_row xs g h.2.2.2 i hi, zcr_ok]
end CODE
/-- a code whose speeches stand plain -/
def zCd (g : Nat → Int → Int) (P n : Nat) (L : Nat → List Int) : Prop := zCo P ∧ g P 2 = n ∧ n ≤ 8 ∧ ∀ i, i < n → zRow g (P + 21 + 4 + 2 * i) (L i) ∧ (L i).length ≤ 10 ∧ isR7 (L i)
theorem zCd.rw {g : Nat → Int → Int} {P n : Nat} {L : Nat → List Int} (h : zCd g P n L) {i : Nat} (hi : i < n) : zRw (P + 21 + 4 + 2 * i) 10 := h.1.2.2.2.2.2.2.2 i (by have := h.2.2.1; omega)
theorem zCd_fr {g g1 : Nat → Int → Int} {P n : Nat} {L : Nat → List Int} (h : zCd g P n L) (e : ∀ q, P ≤ q → q ≤ P + 40 → g1 q = g q) : zCd g1 P n L := by
  obtain ⟨h1, h2, h3, h4⟩ := h
  refine ⟨h1, by rw [e P (by omega) (by omega)]; exact h2, h3, fun i hi => ⟨zRow_fr (h4 i hi).1 (e _ (by omega) (by omega)) (e _ (by omega) (by omega)), (h4 i hi).2⟩⟩
/-- the first number that is not -1 -/
def zfo (f : Nat → Int) : Nat → Nat → Int
  | 0, _ => -1
  | n + 1, i => if f i ≠ -1 then f i else zfo f n (i + 1)
theorem zfo_no {f : Nat → Int} : ∀ {n i : Nat}, (∀ k, i ≤ k → k < i + n → f k = -1) → zfo f n i = -1
  | 0, _, _ => rfl
  | n + 1, i, h => by
    rw [zfo, if_neg (by rw [h i (by omega) (by omega)]; simp)]
    exact zfo_no (fun k h0 h1 => h k (by omega) (by omega))
theorem zfo_rg {f : Nat → Int} {a b : Int} (ha : a ≤ -1) (hb : -1 ≤ b) : ∀ {n i : Nat}, (∀ k, i ≤ k → k < i + n → a ≤ f k ∧ f k ≤ b) → a ≤ zfo f n i ∧ zfo f n i ≤ b
  | 0, _, _ => ⟨ha, hb⟩
  | n + 1, i, h => by
    rw [zfo]
    split
    · exact h i (by omega) (by omega)
    · exact zfo_rg ha hb (fun k h0 h1 => h k (by omega) (by omega))
section CODE2
variable (xs : List Int) {g : Nat → Int → Int} {P n : Nat} {L : Nat → List Int}
theorem Code_meaningOf (h : zCd g P n L) {p2 n2 : Nat} {l2 : List Int} (h2 : zRw p2 n2) (hl2 : zRow g p2 l2) (hn2 : l2.length ≤ n2) (hr2 : isR7 l2) : zx zblk xs 7 0 [some (.inr (.inr (some P))), some (.inr (.inr (some p2)))] [] (HH g) = some (some (.inl (zfo (fun i => if L i = l2 then i else -1) n 0)), HH g) := by
  obtain ⟨h1, hn, hn8, hr⟩ := id h
  have loop : ∀ (r i : Nat), i + r = n → zx zblk xs 7 2 [some (.inr (.inr (some P))), some (.inr (.inr (some p2))), some (.inl ((i : Int)))] [] (HH g) = some (some (.inl (zfo (fun i => if L i = l2 then (i : Int) else -1) r i)), HH g) := by
    intro r
    induction r with
    | zero =>
      intro i hi
      rw [e_Code_meaningOf_2, Co_g h1, hn, if_pos (by rw [zw_id (by omega) (by omega), zw_id (by omega) (by omega)]; omega), e_Code_meaningOf_30, zfo]
    | succ r ih =>
      intro i hi
      have hi' : i < n := by omega
      rw [e_Code_meaningOf_2, Co_g h1, hn, if_neg (by rw [zw_id (by omega) (by omega), zw_id (by omega) (by omega)]; omega), Co_ck h1, Code_plain xs h1 i (by omega), zcr_ok, Rw_ck (h.rw hi'), Row_isLike xs (h.rw hi') h2 (hr i hi').1 hl2 (hr i hi').2.1 hn2 (hr i hi').2.2 hr2, zci_ok, zb_zw, zfo]
      by_cases he : L i = l2
      · rw [zb_t he, if_neg (by decide), if_pos he, if_pos (by omega)]
      · rw [zb_f he, if_pos rfl, if_neg he, if_neg (by simp), e_Code_meaningOf_24, ← Int.natCast_succ]
        exact ih (i + 1) (by omega)
  rw [e_Code_meaningOf_0]
  exact loop n 0 (by omega)
theorem Code_firstAlike (h : zCd g P n L) : zx zblk xs 8 0 [some (.inr (.inr (some P)))] [] (HH g) = some (some (.inl (zfo (fun i => zfo (fun j => if L i = L j then 8 * i + j else -1) (n - (i + 1)) (i + 1)) n 0)), HH g) := by
  obtain ⟨h1, hn, hn8, hr⟩ := id h
  have inner : ∀ (i : Nat), i < n → ∀ (r j : Nat), j + r = n → zx zblk xs 8 14 [some (.inr (.inr (some P))), some (.inl ((i : Int))), some (.inl ((j : Int)))] [] (HH g) = if zfo (fun j => if L i = L j then (8 * i + j : Int) else -1) r j ≠ -1 then some (some (.inl (zfo (fun j => if L i = L j then (8 * i + j : Int) else -1) r j)), HH g) else zx zblk xs 8 51 [some (.inr (.inr (some P))), some (.inl ((i : Int)))] [] (HH g) := by
    intro i hi r
    induction r with
    | zero =>
      intro j hj
      rw [e_Code_firstAlike_14, Co_g h1, hn, if_pos (by rw [zw_id (by omega) (by omega), zw_id (by omega) (by omega)]; omega), if_neg (by simp [zfo])]
    | succ r ih =>
      intro j hj
      have hj' : j < n := by omega
      rw [e_Code_firstAlike_14, Co_g h1, hn, if_neg (by rw [zw_id (by omega) (by omega), zw_id (by omega) (by omega)]; omega), Co_ck h1, Code_plain xs h1 i (by omega), zcr_ok, Co_ck h1, Code_plain xs h1 j (by omega), zcr_ok, Rw_ck (h.rw hi), Row_isLike xs (h.rw hi) (h.rw hj') (hr i hi).1 (hr j hj').1 (hr i hi).2.1 (hr j hj').2.1 (hr i hi).2.2 (hr j hj').2.2, zci_ok, zb_zw]
      have e : zfo (fun j => if L i = L j then (8 * i + j : Int) else -1) (r + 1) j = if L i = L j then (8 * i + j : Int) else zfo (fun j => if L i = L j then (8 * i + j : Int) else -1) r (j + 1) := by
        rw [zfo]
        by_cases he : L i = L j
        · rw [if_pos he, if_pos (by omega), if_pos he]
        · rw [if_neg he, if_neg (by simp), if_neg he]
      rw [e]
      by_cases he : L i = L j
      · rw [zb_t he, if_neg (by decide), if_pos he, if_pos (by omega), Int.mul_comm]
      · rw [zb_f he, if_pos rfl, if_neg he, e_Code_firstAlike_45, ← Int.natCast_succ]
        exact ih (j + 1) (by omega)
  have outer : ∀ (r i : Nat), i + r = n → zx zblk xs 8 2 [some (.inr (.inr (some P))), some (.inl ((i : Int)))] [] (HH g) = some (some (.inl (zfo (fun i => zfo (fun j => if L i = L j then (8 * i + j : Int) else -1) (n - (i + 1)) (i + 1)) r i)), HH g) := by
    intro r
    induction r with
    | zero =>
      intro i hi
      rw [e_Code_firstAlike_2, Co_g h1, hn, if_pos (by rw [zw_id (by omega) (by omega), zw_id (by omega) (by omega)]; omega), e_Code_firstAlike_57, zfo]
    | succ r ih =>
      intro i hi
      have hi' : i < n := by omega
      rw [e_Code_firstAlike_2, Co_g h1, hn, if_neg (by rw [zw_id (by omega) (by omega), zw_id (by omega) (by omega)]; omega), ← Int.natCast_succ, inner i hi' (n - (i + 1)) (i + 1) (by omega), zfo]
      split
      · rfl
      · rw [e_Code_firstAlike_51, ← Int.natCast_succ]
        exact ih (i + 1) (by omega)
  rw [e_Code_firstAlike_0]
  exact outer n 0 (by omega)
theorem Code_firstStart (h : zCd g P n L) : zx zblk xs 9 0 [some (.inr (.inr (some P)))] [] (HH g) = some (some (.inl (zfo (fun i => zfo (fun j => if (L i).length < (L j).length ∧ L i = (L j).take (L i).length then 8 * i + j else -1) n 0) n 0)), HH g) := by
  obtain ⟨h1, hn, hn8, hr⟩ := id h
  have inner : ∀ (i : Nat), i < n → ∀ (r j : Nat), j + r = n → zx zblk xs 9 12 [some (.inr (.inr (some P))), some (.inl ((i : Int))), some (.inl ((j : Int)))] [] (HH g) = if zfo (fun j => if (L i).length < (L j).length ∧ L i = (L j).take (L i).length then (8 * i + j : Int) else -1) r j ≠ -1 then some (some (.inl (zfo (fun j => if (L i).length < (L j).length ∧ L i = (L j).take (L i).length then (8 * i + j : Int) else -1) r j)), HH g) else zx zblk xs 9 68 [some (.inr (.inr (some P))), some (.inl ((i : Int)))] [] (HH g) := by
    intro i hi r
    induction r with
    | zero =>
      intro j hj
      rw [e_Code_firstStart_12, Co_g h1, hn, if_pos (by rw [zw_id (by omega) (by omega), zw_id (by omega) (by omega)]; omega), if_neg (by simp [zfo])]
    | succ r ih =>
      intro j hj
      have hj' : j < n := by omega
      have li := (hr i hi).2.1
      have lj := (hr j hj').2.1
      have e : zfo (fun j => if (L i).length < (L j).length ∧ L i = (L j).take (L i).length then (8 * i + j : Int) else -1) (r + 1) j = if (L i).length < (L j).length ∧ L i = (L j).take (L i).length then (8 * i + j : Int) else zfo (fun j => if (L i).length < (L j).length ∧ L i = (L j).take (L i).length then (8 * i + j : Int) else -1) r (j + 1) := by
        rw [zfo]
        by_cases he : (L i).length < (L j).length ∧ L i = (L j).take (L i).length
        · rw [if_pos he, if_pos (by omega), if_pos he]
        · rw [if_neg he, if_neg (by simp), if_neg he]
      rw [e_Code_firstStart_12, Co_g h1, hn, if_neg (by rw [zw_id (by omega) (by omega), zw_id (by omega) (by omega)]; omega), Co_ck h1, Code_plain xs h1 i (by omega), zcr_ok, Rw_ck (h.rw hi), Row_size xs (h.rw hi) (hr i hi).1, zci_ok, Co_ck h1, Code_plain xs h1 j (by omega), zcr_ok, Rw_ck (h.rw hj'), Row_size xs (h.rw hj') (hr j hj').1, zci_ok, zw_id (by omega) (by omega), zw_id (by omega) (by omega), e]
      by_cases hlt : (L i).length < (L j).length
      · have hd := zdc (isPfx (L i) (L j))
        have hpf : isPfx (L i) (L j) ↔ (L i).length < (L j).length ∧ L i = (L j).take (L i).length := by
          unfold isPfx
          constructor
          · rintro ⟨-, z⟩; exact ⟨hlt, z⟩
          · rintro ⟨-, z⟩; exact ⟨by omega, z⟩
        rw [if_neg (by omega), Co_ck h1, Code_plain xs h1 i (by omega), zcr_ok, Co_ck h1, Code_plain xs h1 j (by omega), zcr_ok, Rw_ck (h.rw hi), Row_isStartOf xs (h.rw hi) (h.rw hj') (hr i hi).1 (hr j hj').1 (hr i hi).2.1 (hr j hj').2.1 (hr i hi).2.2 (hr j hj').2.2, zci_ok, zb_zw]
        by_cases he : (L i).length < (L j).length ∧ L i = (L j).take (L i).length
        · rw [zb_t (hpf.mpr he), if_neg (by decide), if_pos he, if_pos (by omega), Int.mul_comm]
        · rw [zb_f (fun z => he (hpf.mp z)), if_pos rfl, if_neg he, e_Code_firstStart_62, ← Int.natCast_succ]
          exact ih (j + 1) (by omega)
      · have hne : ¬ ((L i).length < (L j).length ∧ L i = (L j).take (L i).length) := fun z => hlt z.1
        rw [if_pos (by omega), if_neg hne, e_Code_firstStart_62, ← Int.natCast_succ]
        exact ih (j + 1) (by omega)
  have outer : ∀ (r i : Nat), i + r = n → zx zblk xs 9 2 [some (.inr (.inr (some P))), some (.inl ((i : Int)))] [] (HH g) = some (some (.inl (zfo (fun i => zfo (fun j => if (L i).length < (L j).length ∧ L i = (L j).take (L i).length then (8 * i + j : Int) else -1) n 0) r i)), HH g) := by
    intro r
    induction r with
    | zero =>
      intro i hi
      rw [e_Code_firstStart_2, Co_g h1, hn, if_pos (by rw [zw_id (by omega) (by omega), zw_id (by omega) (by omega)]; omega), e_Code_firstStart_74, zfo]
    | succ r ih =>
      intro i hi
      have hi' : i < n := by omega
      have hin := inner i hi' n 0 (by omega)
      rw [z0N] at hin
      rw [e_Code_firstStart_2, Co_g h1, hn, if_neg (by rw [zw_id (by omega) (by omega), zw_id (by omega) (by omega)]; omega), hin, zfo]
      split
      · rfl
      · rw [e_Code_firstStart_68, ← Int.natCast_succ]
        exact ih (i + 1) (by omega)
  rw [e_Code_firstStart_0]
  exact outer n 0 (by omega)
theorem Code_nearestTo (h : zCd g P n L) {p2 n2 : Nat} {l2 : List Int} (h2 : zRw p2 n2) (hl2 : zRow g p2 l2) (hn2 : l2.length ≤ n2) (hr2 : isR7 l2) (hl96 : l2.length ≤ 96) : zx zblk xs 11 0 [some (.inr (.inr (some P))), some (.inr (.inr (some p2)))] [] (HH g) = some (some (.inl (nbest (fun i => dif (L i) l2) n).1), HH g) := by
  obtain ⟨h1, hn, hn8, hr⟩ := id h
  have hn20 := h2.2.1
  have loop : ∀ (r i : Nat) (w : Int), i + r = n → ((nbest (fun i => dif (L i) l2) i).1 = -1 → (nbest (fun i => dif (L i) l2) i).2 = 1000000) → ((nbest (fun i => dif (L i) l2) i).1 ≠ -1 → w = (nbest (fun i => dif (L i) l2) i).2 ∧ w ≤ 100) → zx zblk xs 11 7 [some (.inr (.inr (some P))), some (.inr (.inr (some p2))), some (.inl ((nbest (fun i => dif (L i) l2) i).1)), some (.inl (w)), some (.inl ((i : Int)))] [] (HH g) = some (some (.inl (nbest (fun i => dif (L i) l2) n).1), HH g) := by
    intro r
    induction r with
    | zero =>
      intro i w hi hw1 hw2
      have : i = n := by omega
      subst this
      rw [e_Code_nearestTo_7, Co_g h1, hn, if_pos (by omega), e_Code_nearestTo_70]
    | succ r ih =>
      intro i w hi hw1 hw2
      have hi' : i < n := by omega
      have hdr := dif_rg (L i) l2 (by omega)
      have hnr := nbest_rg (v := fun i => dif (L i) l2) (n := i) (fun k _ => (dif_rg (L k) l2 (by omega)).1)
      have e64 : ∀ (v2 v3 : Int), zx zblk xs 11 64 [some (.inr (.inr (some P))), some (.inr (.inr (some p2))), some (.inl (v2)), some (.inl (v3)), some (.inl ((i : Int)))] [] (HH g) = zx zblk xs 11 7 [some (.inr (.inr (some P))), some (.inr (.inr (some p2))), some (.inl (v2)), some (.inl (v3)), some (.inl (((i + 1 : Nat) : Int)))] [] (HH g) := fun v2 v3 => by rw [e_Code_nearestTo_64, ← Int.natCast_succ]
      rw [e_Code_nearestTo_7, Co_g h1, hn, if_neg (by rw [zw_id (by omega) (by omega), zw_id (by omega) (by omega)]; omega), Co_ck h1, Code_plain xs h1 i (by omega), zcr_ok, Rw_ck (h.rw hi'), Row_size xs (h.rw hi') (hr i hi').1, zci_ok, Rw_ck h2, Row_size xs h2 hl2, zci_ok, zw_id (a := ((L i).length : Int)) (by omega) (by have := (hr i hi').2.1; omega), zw_id (a := (l2.length : Int)) (by omega) (by omega)]
      have hnb : nbest (fun i => dif (L i) l2) (i + 1) = if dif (L i) l2 < (nbest (fun i => dif (L i) l2) i).2 then ((i : Int), dif (L i) l2) else nbest (fun i => dif (L i) l2) i := by
        rw [nbest]
      by_cases hle : (L i).length = l2.length
      · have hd100 : dif (L i) l2 ≤ 100 := by
          unfold dif
          rw [if_pos hle]
          have := zsum_rg (a := 0) (b := 1) (n := l2.length) (f := fun k => if (L i).getD k 0 = l2.getD k 0 then 0 else 1) (fun k _ => by split <;> omega)
          omega
        rw [if_pos (by omega), e_Code_nearestTo_35, Co_ck h1, Code_plain xs h1 i (by omega), zcr_ok, Rw_ck (h.rw hi'), Row_placesApart xs (h.rw hi') h2 (hr i hi').1 hl2 (hr i hi').2.1 hn2 (hr i hi').2.2 hr2 hle, zci_ok, zw_id (by omega) (by omega), show zw (-1) = -1 from rfl]
        have take : zx zblk xs 11 58 [some (.inr (.inr (some P))), some (.inr (.inr (some p2))), none, none, some (.inl ((i : Int))), some (.inl (dif (L i) l2))] [] (HH g) = zx zblk xs 11 7 [some (.inr (.inr (some P))), some (.inr (.inr (some p2))), some (.inl ((i : Int))), some (.inl (dif (L i) l2)), some (.inl (((i + 1 : Nat) : Int)))] [] (HH g) := by rw [e_Code_nearestTo_58, e64]
        by_cases hb : dif (L i) l2 < (nbest (fun i => dif (L i) l2) i).2
        · rw [if_pos hb] at hnb
          have := ih (i + 1) (dif (L i) l2) (by omega) (by rw [hnb]; simp) (by rw [hnb]; intro _; exact ⟨rfl, hd100⟩)
          rw [hnb] at this
          by_cases hm : (nbest (fun i => dif (L i) l2) i).1 = -1
          · rw [if_pos hm, take]
            exact this
          · obtain ⟨w1, w2⟩ := hw2 hm
            rw [if_neg hm, zw_id (a := w) (by omega) (by omega), zw_id (a := dif (L i) l2) (by omega) (by omega), if_neg (by omega), take]
            exact this
        · rw [if_neg hb] at hnb
          have hm : (nbest (fun i => dif (L i) l2) i).1 ≠ -1 := fun z => by have := hw1 z; omega
          obtain ⟨w1, w2⟩ := hw2 hm
          rw [if_neg hm, zw_id (a := w) (by omega) (by omega), zw_id (a := dif (L i) l2) (by omega) (by omega), if_pos (by omega), e64]
          have := ih (i + 1) w (by omega) (by rw [hnb]; exact hw1) (by rw [hnb]; exact hw2)
          rw [hnb] at this
          exact this
      · have hdf : dif (L i) l2 = 1000000 := by unfold dif; rw [if_neg hle]
        rw [hdf, if_neg (by omega)] at hnb
        rw [if_neg (by omega), e64]
        have := ih (i + 1) w (by omega) (by rw [hnb]; exact hw1) (by rw [hnb]; exact hw2)
        rw [hnb] at this
        exact this
  rw [e_Code_nearestTo_0]
  exact loop n 0 0 (by omega) (fun _ => rfl) (fun z => absurd rfl z)
end CODE2
end
section
/-! ===== how the class's memory lies to the reference's ===== -/
def nS (G : Nat → Int → Int) (c : Int) : Nat := (G pM_speeches c).toNat
def rowL (G : Nat → Int → Int) (c s : Int) : List Int := zLi (rowS G c s) (lenS G c s)
def wL (G : Nat → Int → Int) : List Int := zLi (fun t => G pM_weights t) (G pM 10).toNat
def pL (G : Nat → Int → Int) : List Int := zLi (fun k => G pM_page k) (G pM 1).toNat
def RelC (G g : Nat → Int → Int) : Prop := g pX 3 = G pM 5 ∧ ∀ c : Nat, c < 4 → ((c : Int) < G pM 5 → zCd g (PC c) (nS G c) (fun s => plS G 0 c s) ∧ ∀ s : Nat, s < nS G c → zRow g (PC c + 1 + 4 + 2 * s) (rowL G c s)) ∧ (G pM 5 ≤ c → ∀ s : Nat, s < 8 → zRow g (PC c + 1 + 4 + 2 * s) [])
def nRow (f : Int → Int) (n : Int) : List Int := zLi (fun k => f (10 * n + 2 + k)) (f (10 * n + 1)).toNat
def RelN (g : Nat → Int → Int) (P : Nat) (f : Int → Int) (n : Int) : Prop := zRow g (P + 1) (zLi (fun k => f (10 * k)) n.toNat) ∧ ∀ k : Nat, (k : Int) < n → zRow g (P + 3 + 4 + 2 * k) (nRow f k)
def RelK (G g : Nat → Int → Int) : Prop := g pX 8 = (if G pM 22 = -1 then 0 else 1) ∧ (G pM 22 ≠ -1 → zRow g 43 (zLi (fun t => G pM_keptWeights t) (G pM 22).toNat) ∧ RelN g 45 (G pM_keptRows) (G pM 23))
def Rel (G g : Nat → Int → Int) : Prop := RelS G g ∧ zRow g 11 (wL G) ∧ zRow g 14 (pL G) ∧ RelC G g ∧ RelN g 16 (G pM_noteRows) (G pM 18) ∧ RelK G g
theorem RelC_fr {G g g1 : Nat → Int → Int} (h : RelC G g) (e0 : g1 pX 3 = g pX 3) (e : ∀ q, 101 ≤ q → q ≤ 264 → g1 q = g q) : RelC G g1 := by
  refine ⟨e0.trans h.1, fun c hc => ⟨fun hc5 => ?_, fun hc5 s hs => ?_⟩⟩
  · obtain ⟨h1, h2⟩ := (h.2 c hc).1 hc5
    have h8 := h1.2.2.1
    exact ⟨zCd_fr h1 (fun q q1 q2 => e q (by simp only [PC] at q1; omega) (by simp only [PC] at q2; omega)), fun s hs => zRow_fr (h2 s hs) (e _ (by simp only [PC]; omega) (by simp only [PC]; omega)) (e _ (by simp only [PC]; omega) (by simp only [PC]; omega))⟩
  · exact zRow_fr ((h.2 c hc).2 hc5 s hs) (e _ (by simp only [PC]; omega) (by simp only [PC]; omega)) (e _ (by simp only [PC]; omega) (by simp only [PC]; omega))
theorem RelN_fr {g g1 : Nat → Int → Int} {P : Nat} {f : Int → Int} {n : Int} (hn : n ≤ 10) (h : RelN g P f n) (e : ∀ q, P ≤ q → q ≤ P + 26 → g1 q = g q) : RelN g1 P f n :=
  ⟨zRow_fr h.1 (e _ (by omega) (by omega)) (e _ (by omega) (by omega)), fun k hk => zRow_fr (h.2 k hk) (e _ (by omega) (by omega)) (e _ (by omega) (by omega))⟩
theorem Rel_fr {G g g1 : Nat → Int → Int} (hB : Bd G) (h : Rel G g) (e : ∀ q, q < 72 ∨ 101 ≤ q → q < 265 → g1 q = g q) : Rel G g1 := by
  obtain ⟨h1, h2, h3, h4, h5, h6, h7⟩ := h
  obtain ⟨⟨-, -, -, -, ⟨-, hn⟩⟩, -, -, -, -, -, hK⟩ := hB
  refine ⟨RelS_fr h1 (fun q _ _ => e q (by omega) (by omega)), zRow_fr h2 (e _ (by omega) (by omega)) (e _ (by omega) (by omega)), zRow_fr h3 (e _ (by omega) (by omega)) (e _ (by omega) (by omega)), RelC_fr h4 (by rw [e pX (Or.inl (by decide)) (by decide)]) (fun q _ _ => e q (by omega) (by omega)), RelN_fr hn h5 (fun q _ _ => e q (by omega) (by omega)), by rw [e pX (Or.inl (by decide)) (by decide)]; exact h6, fun hk => ?_⟩
  obtain ⟨k1, k2⟩ := h7 hk
  refine ⟨zRow_fr k1 (e _ (by omega) (by omega)) (e _ (by omega) (by omega)), RelN_fr ?_ k2 (fun q _ _ => e q (by omega) (by omega))⟩
  rcases hK with hK | hK
  · exact absurd hK hk
  · exact hK.2.2.2.1
theorem Rel_scX {G g g1 : Nat → Int → Int} (hB : Bd G) (h : Rel G g) (hf : zFr scX g g1) : Rel G g1 := Rel_fr hB h (fun q _ _ => hf.at (fun j => by simp only [scX, pX, pX_signals, pX_weights, pX_codes, pX_page, pX_notes, pX_keptWeights, pX_keptNotes, pX_said, pX_heard, pX_pool, pX_struck, pX_readings, pM, pM_page, pM_readRows, pM_speeches, pM_rows, pM_signalRows, pM_weights, pM_plain, pM_plains, pM_ahead, pM_heap, pM_noteRows, pM_ways, pM_before, pM_keptWeights, pM_keptRows]; omega))
theorem zFr_scR {p : Nat} {g g1 : Nat → Int → Int} (hp : 72 ≤ p) (hp2 : p + 1 < 101) (h : zFr (scR p) g g1) : zFr scX g g1 := h.mono (fun q j hq => by simp only [scR] at hq; simp only [scX, pX, pX_signals, pX_weights, pX_codes, pX_page, pX_notes, pX_keptWeights, pX_keptNotes, pX_said, pX_heard, pX_pool, pX_struck, pX_readings, pM, pM_page, pM_readRows, pM_speeches, pM_rows, pM_signalRows, pM_weights, pM_plain, pM_plains, pM_ahead, pM_heap, pM_noteRows, pM_ways, pM_before, pM_keptWeights, pM_keptRows]; omega)
theorem wL_len {G : Nat → Int → Int} (hQ : bdQ G) : ((wL G).length : Int) = G pM 10 ∧ (wL G).length ≤ 8 := by
  obtain ⟨-, -, -, ⟨h0, h1⟩, -⟩ := hQ
  unfold wL
  rw [zLi_len]
  omega
theorem pL_len {G : Nat → Int → Int} (hQ : bdQ G) : ((pL G).length : Int) = G pM 1 ∧ (pL G).length ≤ 48 := by
  obtain ⟨⟨h0, h1⟩, -⟩ := hQ
  unfold pL
  rw [zLi_len]
  omega
theorem nS_rg {G : Nat → Int → Int} (hB : Bd G) {c : Int} (hc : 0 ≤ c ∧ c < G pM 5) : (nS G c : Int) = G pM_speeches c ∧ 1 ≤ nS G c ∧ nS G c ≤ 8 := by
  have := hB.2.2.1 c hc.1 hc.2
  unfold nS
  omega
theorem rowL_ok {G : Nat → Int → Int} (hB : Bd G) {c s : Int} (hc : 0 ≤ c ∧ c < G pM 5) (hs : 0 ≤ s ∧ s < G pM_speeches c) : (rowL G c s).length = lenS G c s ∧ (rowL G c s).length ≤ 5 ∧ 1 ≤ lenS G c s ∧ isR7 (rowL G c s) := by
  have := lenS_rg hB.2.2.1 hc hs
  refine ⟨zLi_len _ _, ?_, this.1, zLi_mem this.2.2.2⟩
  unfold rowL
  rw [zLi_len]
  omega
theorem Rw11 : zRw 11 8 := ⟨by decide, by omega, rfl, rfl⟩
theorem Rw14 : zRw 14 48 := ⟨by decide, by omega, rfl, rfl⟩
theorem Rw72 : zRw 72 48 := ⟨by decide, by omega, rfl, rfl⟩
theorem Rw74 : zRw 74 96 := ⟨by decide, by omega, rfl, rfl⟩
theorem Rw99 : zRw 99 80 := ⟨by decide, by omega, rfl, rfl⟩
theorem Rs78 : zRws 78 8 10 := zrwsB_ok (by decide +kernel)
theorem X_signalOf (xs : List Int) (v : Int) (h : zH) (hv : zw v = v) : zx zblk xs 63 0 [some (.inl (v))] [] h = some (some (.inl (if 97 ≤ v ∧ v ≤ 104 then v - 97 else -1)), h) := by
  have e19 : zx zblk xs 63 19 [] [] h = some (some (.inl (-1)), h) := by rw [e_X_signalOf_19, e_X_signalOf_20]
  rw [e_X_signalOf_0, hv, show zw 97 = 97 from rfl, show zw 104 = 104 from rfl]
  by_cases a : v < 97
  · rw [if_pos a, e19, if_neg (by omega)]
  · by_cases b : 104 < v
    · rw [if_neg a, if_pos b, e19, if_neg (by omega)]
    · rw [if_neg a, if_neg b, e_X_signalOf_20, if_pos (by omega)]
theorem X_isWeight (xs : List Int) (v : Int) (h : zH) (hv : zw v = v) : zx zblk xs 67 0 [some (.inl (v))] [] h = some (some (.inl (zb (1 ≤ v ∧ v ≤ 99))), h) := by
  have e15 : zx zblk xs 67 15 [] [] h = some (some (.inl 0), h) := by rw [e_X_isWeight_15, e_X_isWeight_16, if_pos (Or.inl rfl)]
  rw [e_X_isWeight_0, hv, show zw 1 = 1 from rfl, show zw 99 = 99 from rfl]
  by_cases a : v < 1
  · rw [if_pos a, e15, zb_f (by omega)]
  · by_cases b : 99 < v
    · rw [if_neg a, if_pos b, e15, zb_f (by omega)]
    · rw [if_neg a, if_neg b, e_X_isWeight_16, if_pos (Or.inr rfl), zb_t (by omega)]
theorem X_isPart (xs : List Int) (v : Int) (h : zH) (hv : zw v = v) : zx zblk xs 68 0 [some (.inl (v))] [] h = some (some (.inl (zb (v = 0 ∨ v = 1))), h) := by
  have e9 : zx zblk xs 68 9 [] [] h = some (some (.inl 1), h) := by rw [e_X_isPart_9, e_X_isPart_14, if_pos (Or.inr rfl)]
  rw [e_X_isPart_0, hv, show zw 1 = 1 from rfl]
  by_cases a : v = 0
  · rw [if_pos a, e9, zb_t (by omega)]
  · by_cases b : v = 1
    · rw [if_neg a, if_neg (by omega), e9, zb_t (by omega)]
    · rw [if_neg a, if_pos b, e_X_isPart_13, e_X_isPart_14, if_pos (Or.inl rfl), zb_f (by omega)]
section XH
variable (xs : List Int) {G g : Nat → Int → Int}
theorem X_codeAt_in (hB : Bd G) (h : Rel G g) (c : Nat) (hc : (c : Int) < G pM 5) : zx zblk xs 69 0 [some (.inr (.inr (some pX))), some (.inl ((c : Int)))] [] (HH g) = some (some (.inr (.inr (some (PC c)))), HH g) := by
  obtain ⟨-, ⟨h0, h1⟩, -⟩ := hB.1
  have e3 := h.2.2.2.1.1
  have h4 : zsh[pX_codes - 1]? = some (102, [104, 145, 186, 227]) := rfl
  have hr : ([104, 145, 186, 227] : List Nat)[(c : Int).toNat]? = some (PC c + 3) := by
    have : c = 0 ∨ c = 1 ∨ c = 2 ∨ c = 3 := by omega
    rcases this with rfl | rfl | rfl | rfl <;> rfl
  rw [e_X_codeAt_0, zw_id (by omega) (by omega), if_neg (by omega), pX_g_codesRead, e3, zw_id (by omega) (by omega), if_neg (by omega), pX_r_codes, HH_ln h4 (by decide) (by show 100 ≤ 102; omega), if_neg (by show ¬ zw 4 ≤ _; rw [show zw 4 = 4 from rfl]; omega), pX_r_codes, HH_aa (n := 0) h4 (by decide) (by omega) (by omega) (by omega) hr, e_X_codeAt_31]
theorem X_codeAt_out (hB : Bd G) (h : Rel G g) (c : Int) (hz : zw c = c) (hc : ¬ (0 ≤ c ∧ c < G pM 5)) : zx zblk xs 69 0 [some (.inr (.inr (some pX))), some (.inl (c))] [] (HH g) = some (some (.inr (.inr none)), HH g) := by
  obtain ⟨-, ⟨h0, h1⟩, -⟩ := hB.1
  have e3 := h.2.2.2.1.1
  have e30 : zx zblk xs 69 30 [] [] (HH g) = some (some (.inr (.inr none)), HH g) := by rw [e_X_codeAt_30, e_X_codeAt_31]
  rw [e_X_codeAt_0, hz]
  by_cases a : c < 0
  · rw [if_pos a, e30]
  · rw [if_neg a, pX_g_codesRead, e3, zw_id (by omega) (by omega), if_pos (by omega), e30]
theorem Rel.cd (h : Rel G g) {c : Nat} (hc4 : c < 4) (hc : (c : Int) < G pM 5) : zCd g (PC c) (nS G c) (fun s => plS G 0 c s) := ((h.2.2.2.1.2 c hc4).1 hc).1
theorem Rel.sp (h : Rel G g) {c : Nat} (hc4 : c < 4) (hc : (c : Int) < G pM 5) {s : Nat} (hs : s < nS G c) : zRow g (PC c + 1 + 4 + 2 * s) (rowL G c s) := ((h.2.2.2.1.2 c hc4).1 hc).2 s hs
theorem Rw_sp {c : Nat} (hc4 : c < 4) {s : Nat} (hs : s < 8) : zRw (PC c + 1 + 4 + 2 * s) 5 := (zCo_PC hc4).2.2.1.2.2.2.2 s hs
theorem Rw_pl {c : Nat} (hc4 : c < 4) {s : Nat} (hs : s < 8) : zRw (PC c + 21 + 4 + 2 * s) 10 := (zCo_PC hc4).2.2.2.2.2.2.2 s hs
theorem X_longOf (hB : Bd G) (h : Rel G g) (c s : Nat) (hc : (c : Int) < G pM 5) (hs : s < nS G c) : zx zblk xs 71 0 [some (.inr (.inr (some pX))), some (.inr (.inr (some (PC c)))), some (.inl ((s : Int)))] [] (HH g) = some (some (.inl (longS G c s)), HH g) := by
  obtain ⟨-, ⟨h0, h1⟩, -⟩ := id hB.1
  have hc4 : c < 4 := by omega
  obtain ⟨n1, n2, n3⟩ := nS_rg hB (c := c) (by omega)
  obtain ⟨r1, r2, r3, r4⟩ := rowL_ok hB (c := c) (s := s) (by omega) (by omega)
  rw [e_X_longOf_0, pX_r_signals, Co_ck (zCo_PC hc4), Code_spoken xs (zCo_PC hc4) s (by omega), zcr_ok, Sg_ck, Signals_secondsOfAll xs hB.1 hB.2.2.2.1 h.1 (Rw_sp hc4 (by omega)) (h.sp hc4 hc hs) r2 (isR7_int r4), zci_ok, r1]
  unfold longS
  rw [zsum_cg (f' := fun k => secS G (rowS G c s k))]
  intro k hk
  unfold rowL
  rw [zLi_getD _ hk]
def saidS (G : Nat → Int → Int) (c : Int) : Int := if G pM_speeches c < G pM 10 then G pM_speeches c else G pM 10
theorem X_thingsSaid (hB : Bd G) (h : Rel G g) (c : Nat) (hc : (c : Int) < G pM 5) : zx zblk xs 70 0 [some (.inr (.inr (some pX))), some (.inr (.inr (some (PC c))))] [] (HH g) = some (some (.inl (saidS G c)), HH g) := by
  obtain ⟨-, ⟨h0, h1⟩, -⟩ := id hB.1
  have hc4 : c < 4 := by omega
  obtain ⟨n1, n2, n3⟩ := nS_rg hB (c := c) (by omega)
  have hl := wL_len hB.1
  have hcd := h.cd hc4 hc
  rw [e_X_thingsSaid_0, Co_ck (zCo_PC hc4), Code_size xs (zCo_PC hc4), zci_ok, pX_r_weights, Rw_ck Rw11, Row_size xs Rw11 h.2.1, zci_ok, hl.1, hcd.2.1, n1, zw_id (a := G pM 10) (by omega) (by omega), zw_id (a := G pM_speeches c) (by omega) (by omega)]
  congr 4
  unfold saidS
  split <;> split <;> omega
theorem X_readPage (hB : Bd G) (h : Rel G g) : ∃ g1, zFr (scR 72) g g1 ∧ ((pgOK G ∧ zx zblk xs 65 0 [some (.inr (.inr (some pX)))] [] (HH g) = some (some (.inl 1), HH g1) ∧ zRow g1 72 (zLi (fun k => G pM_page k - 97) (G pM 1).toNat)) ∨ (¬ pgOK G ∧ zx zblk xs 65 0 [some (.inr (.inr (some pX)))] [] (HH g) = some (some (.inl 0), HH g1))) := by
  obtain ⟨hQ, hPg, -⟩ := id hB
  obtain ⟨⟨h0, h1⟩, -⟩ := id hQ
  have hl := pL_len hQ
  have loop : ∀ (n k : Nat) (gk : Nat → Int → Int), (k : Int) + n = G pM 1 → (∀ j : Nat, j < k → 97 ≤ G pM_page j ∧ G pM_page j ≤ 104) → zRow gk 72 (zLi (fun k => G pM_page k - 97) k) → zFr (scR 72) g gk → ∃ g1, zFr (scR 72) g g1 ∧ ((pgOK G ∧ zx zblk xs 65 9 [some (.inr (.inr (some pX))), some (.inl ((k : Int)))] [] (HH gk) = some (some (.inl 1), HH g1) ∧ zRow g1 72 (zLi (fun k => G pM_page k - 97) (G pM 1).toNat)) ∨ (¬ pgOK G ∧ zx zblk xs 65 9 [some (.inr (.inr (some pX))), some (.inl ((k : Int)))] [] (HH gk) = some (some (.inl 0), HH g1))) := by
    intro n
    induction n with
    | zero =>
      intro k gk hk hj hlk hf
      have hp : zRow gk 14 (pL G) := zRow_fr h.2.2.1 (hf.at (fun j => by simp only [scR]; omega)) (hf.at (fun j => by simp only [scR]; omega))
      refine ⟨gk, hf, Or.inl ⟨fun j hj' => hj j (by omega), ?_, by rw [show (G pM 1).toNat = k by omega]; exact hlk⟩⟩
      rw [e_X_readPage_9, pX_r_page, Rw_ck Rw14, Row_size xs Rw14 hp, zci_ok, hl.1, if_pos (by rw [zw_id (by omega) (by omega), zw_id (by omega) (by omega)]; omega), e_X_readPage_53, if_pos (Or.inr rfl)]
    | succ n ih =>
      intro k gk hk hj hlk hf
      have hp : zRow gk 14 (pL G) := zRow_fr h.2.2.1 (hf.at (fun j => by simp only [scR]; omega)) (hf.at (fun j => by simp only [scR]; omega))
      have hpk := hPg k (by omega) (by omega)
      have hat : zat (pL G) (k : Int) = G pM_page k := by unfold pL; rw [zat_Li (by omega)]; rfl
      rw [e_X_readPage_9, pX_r_page, Rw_ck Rw14, Row_size xs Rw14 hp, zci_ok, hl.1, if_neg (by rw [zw_id (by omega) (by omega), zw_id (by omega) (by omega)]; omega), pX_r_page, Rw_ck Rw14, Row_at xs Rw14 hp hl.2 k (zw_id (by omega) (by omega)), zci_ok, hat, X_signalOf xs _ _ (zw_id (by omega) (by omega)), zci_ok]
      by_cases hr : 97 ≤ G pM_page k ∧ G pM_page k ≤ 104
      · obtain ⟨g2, q1, q2, q3⟩ := Row_add xs Rw72 hlk (by rw [zLi_len]; omega) (G pM_page k - 97)
        rw [← zLi_snoc] at q2
        obtain ⟨g1, r1, r2⟩ := ih (k + 1) g2 (by omega) (fun j hj' => by
          by_cases hjk : j = k
          · subst hjk; exact hr
          · exact hj j (by omega)) q2 (hf.tr q3)
        refine ⟨g1, r1, ?_⟩
        rw [if_pos hr, if_pos (by rw [zw_id (by omega) (by omega), show zw (-1) = -1 from rfl]; omega), e_X_readPage_39, pX_r_said, Rw_ck Rw72, q1, zcv_ok, ← Int.natCast_succ]
        exact r2
      · refine ⟨gk, hf, Or.inr ⟨fun z => hr (z k (by omega)), ?_⟩⟩
        rw [if_neg hr, if_neg (by simp), if_pos (Or.inl rfl)]
  obtain ⟨w1, w2, w3⟩ := Row_wipe xs (g := g) Rw72
  obtain ⟨g1, r1, r2⟩ := loop (G pM 1).toNat 0 _ (by omega) (fun j hj => by omega) w2 w3
  rw [z0N] at r2
  refine ⟨g1, r1, ?_⟩
  rw [e_X_readPage_0, pX_r_said, Rw_ck Rw72, w1, zcv_ok]
  exact r2
theorem X_hearPage (hB : Bd G) (h : Rel G g) : ∃ g1, zFr scX g g1 ∧ ((pgOK G ∧ zx zblk xs 66 0 [some (.inr (.inr (some pX)))] [] (HH g) = some (some (.inl 1), HH g1) ∧ zRow g1 74 (pgL G)) ∨ (¬ pgOK G ∧ zx zblk xs 66 0 [some (.inr (.inr (some pX)))] [] (HH g) = some (some (.inl 0), HH g1))) := by
  obtain ⟨⟨h0, h1⟩, -⟩ := id hB.1
  obtain ⟨g1, q1, q2⟩ := X_readPage xs hB h
  have f1 := zFr_scR (by omega) (by omega) q1
  rw [e_X_hearPage_0, pX_ck]
  rcases q2 with ⟨o, q2, q3⟩ | ⟨o, q2⟩
  · have hi : isR7 (zLi (fun k => G pM_page k - 97) (G pM 1).toNat) := zLi_mem (fun k hk => by have := o k (by omega); omega)
    obtain ⟨g2, r1, r2, r3⟩ := Signals_makePlain xs hB.1 hB.2.2.2.1 (Rel_scX hB h f1).1 Rw74 (by omega) Rw72 q3 (by rw [zLi_len]; omega) (isR7_int hi) (by rw [zLi_len]; omega) 0 (by omega)
    refine ⟨g2, f1.tr (zFr_scR (by omega) (by omega) r3), Or.inl ⟨o, ?_, ?_⟩⟩
    · rw [q2, zci_ok, if_pos (by decide), e_X_hearPage_9, pX_r_signals, pX_r_said, pX_r_heard, Sg_ck, r1, zcv_ok, if_pos (Or.inr rfl)]
    · unfold pgL
      rw [zLi_len] at r2
      rw [pln_cg G 0 (f' := fun k => G pM_page k - 97) (fun k hk => zLi_getD _ hk)] at r2
      exact r2
  · refine ⟨g1, f1, Or.inr ⟨o, ?_⟩⟩
    rw [q2, zci_ok, if_neg (by decide), if_pos (Or.inl rfl)]
end XH
end
section
/-! ===== queries: as, about, speech ===== -/
noncomputable def zite (P : Prop) (a b : Int) : Int := @ite _ P (zdc P) a b
theorem zite_t {P : Prop} (h : P) (a b : Int) : zite P a b = a := @if_pos _ (zdc P) h _ _ _
theorem zite_f {P : Prop} (h : ¬ P) (a b : Int) : zite P a b = b := @if_neg _ (zdc P) h _ _ _
def spO (G : Nat → Int → Int) (c s i : Int) : Int := if 0 ≤ i ∧ i ≤ 5 then (if i ≤ G pM_rows (48 * c + 6 * s) then G pM_rows (48 * c + 6 * s + i) else -1) else if 11 ≤ i ∧ i ≤ 20 then zat (plS G 0 c s) (i - 11) else if i = 10 then (plS G 0 c s).length else if i = 30 then longS G c s else -102
def spS (G : Nat → Int → Int) (c s i : Int) : Int := if 0 ≤ c ∧ c < G pM 5 then (if 0 ≤ s ∧ s < G pM_speeches c then spO G c s i else -101) else -101
theorem X_speechIn (xs : List Int) {G g : Nat → Int → Int} (hB : Bd G) (h : Rel G g) {c s : Nat} {i : Int} (hc : (c : Int) < G pM 5) (hs : s < nS G c) (hi : zw i = i) : zx zblk xs 49 28 [some (.inr (.inr (some pX))), none, some (.inl ((s : Int))), some (.inl (i)), some (.inr (.inr (some (PC c))))] [] (HH g) = some (some (.inl (spO G c s i)), HH g) := by
  obtain ⟨hQ, -, hC, -⟩ := id hB
  obtain ⟨-, ⟨hc0, hc1⟩, -⟩ := id hQ
  have hc4 : c < 4 := by omega
  obtain ⟨n1, n2, n3⟩ := nS_rg hB (c := c) (by omega)
  obtain ⟨r1, r2, r3, r4⟩ := rowL_ok hB (c := c) (s := s) (by omega) (by omega)
  obtain ⟨l1, l2, l3, l4⟩ := lenS_rg hC (c := c) (s := s) (by omega) (by omega)
  have hl := plS_len hC (c := c) (s := s) (by omega) (by omega) 0
  have hcd := h.cd hc4 hc
  have hsp := h.sp hc4 hc hs
  have hpl := hcd.2.2.2 s hs
  have hro := Rw_sp hc4 (s := s) (by omega)
  have hrp := Rw_pl hc4 (s := s) (by omega)
  have hco := zCo_PC hc4
  rw [e_X_speech_28, hi]
  unfold spO
  by_cases a0 : i = 0
  · rw [if_neg (by omega), Co_ck hco, Code_spoken xs hco s (by omega), zcr_ok, Rw_ck hro, Row_size xs hro hsp, zci_ok, if_pos (by omega), if_pos (by omega), a0, Int.add_zero, l3, r1]
  · rw [if_pos a0, e_X_speech_42, hi, show zw 1 = 1 from rfl, show zw 5 = 5 from rfl]
    by_cases a : 0 ≤ i ∧ i ≤ 5
    · rw [if_neg (by omega), if_neg (by omega), Co_ck hco, Code_spoken xs hco s (by omega), zcr_ok, Rw_ck hro, Row_at xs hro hsp r2 _ (zw_id (by omega) (by omega)), zci_ok, if_pos a]
      unfold rowL
      by_cases b : i ≤ G pM_rows (48 * c + 6 * s)
      · rw [if_pos b, zat_Li (by omega)]
        unfold rowS
        rw [show 48 * (c : Int) + 6 * s + 1 + ((i - 1).toNat : Int) = 48 * c + 6 * s + i by omega]
      · rw [if_neg b, zat_Lo (by omega)]
    · have e65 : zx zblk xs 49 65 [some (.inr (.inr (some pX))), none, some (.inl ((s : Int))), some (.inl (i)), some (.inr (.inr (some (PC c))))] [] (HH g) = some (some (.inl (if 11 ≤ i ∧ i ≤ 20 then zat (plS G 0 c s) (i - 11) else if i = 10 then (plS G 0 c s).length else if i = 30 then longS G c s else -102)), HH g) := by
        rw [e_X_speech_65, hi, show zw 10 = 10 from rfl]
        by_cases b : i = 10
        · rw [if_neg (by omega), Co_ck hco, Code_plain xs hco s (by omega), zcr_ok, Rw_ck hrp, Row_size xs hrp hpl.1, zci_ok, if_neg (by omega), if_pos b]
        · rw [if_pos b, e_X_speech_81, hi, show zw 10 = 10 from rfl, show zw 20 = 20 from rfl]
          have e107 : ¬ (11 ≤ i ∧ i ≤ 20) → zx zblk xs 49 107 [some (.inr (.inr (some pX))), none, some (.inl ((s : Int))), some (.inl (i)), some (.inr (.inr (some (PC c))))] [] (HH g) = some (some (.inl (if i = 30 then longS G c s else -102)), HH g) := by
            intro _
            rw [e_X_speech_107, hi, show zw 30 = 30 from rfl]
            by_cases d : i = 30
            · rw [if_neg (by omega), pX_ck, X_longOf xs hB h c s hc hs, zci_ok, e_X_speech_125, if_pos d]
            · rw [if_pos d, e_X_speech_123, e_X_speech_125, if_neg d]
          by_cases d : 11 ≤ i ∧ i ≤ 20
          · rw [if_neg (by omega), if_neg (by omega), Co_ck hco, Code_plain xs hco s (by omega), zcr_ok, Rw_ck hrp, Row_at xs hrp hpl.1 (by omega) _ (zw_id (by omega) (by omega)), zci_ok, if_pos d]
          · rw [if_neg d, if_neg b, ← e107 d]
            by_cases e : i ≤ 10
            · rw [if_pos e]
            · rw [if_neg e, if_pos (by omega)]
      rw [if_neg a, ← e65]
      by_cases b : i < 1
      · rw [if_pos b]
      · rw [if_neg b, if_pos (by omega)]
theorem X_speech (xs : List Int) {G g : Nat → Int → Int} (hB : Bd G) (h : Rel G g) {c s i : Int} (hc : zw c = c) (hs : zw s = s) (hi : zw i = i) : zx zblk xs 49 0 [some (.inr (.inr (some pX))), some (.inl (c)), some (.inl (s)), some (.inl (i))] [] (HH g) = some (some (.inl (spS G c s i)), HH g) := by
  obtain ⟨hQ, -, hC, -⟩ := id hB
  obtain ⟨-, ⟨hc0, hc1⟩, -⟩ := id hQ
  have e25 : zx zblk xs 49 25 [] [] (HH g) = some (some (.inl (-101)), HH g) := e_X_speech_25 xs _
  rw [e_X_speech_0, pX_ck]
  unfold spS
  by_cases a : 0 ≤ c ∧ c < G pM 5
  · obtain ⟨k, rfl⟩ : ∃ k : Nat, c = k := ⟨c.toNat, by omega⟩
    have hk4 : k < 4 := by omega
    obtain ⟨n1, n2, n3⟩ := nS_rg hB (c := k) (by omega)
    have hcd := h.cd hk4 a.2
    rw [X_codeAt_in xs hB h k a.2, zcr_ok, zif_some, if_pos a, hs, Co_ck (zCo_PC hk4), Code_size xs (zCo_PC hk4), zci_ok, hcd.2.1, zw_id (a := (nS G k : Int)) (by omega) (by omega)]
    by_cases b : 0 ≤ s ∧ s < G pM_speeches k
    · obtain ⟨j, rfl⟩ : ∃ j : Nat, s = j := ⟨s.toNat, by omega⟩
      rw [if_neg (by omega), if_pos (by omega), if_pos b, X_speechIn xs hB h a.2 (by omega) hi]
    · rw [if_neg b]
      by_cases b0 : s < 0
      · rw [if_pos b0, e25]
      · rw [if_neg b0, if_neg (by omega), e25]
  · rw [X_codeAt_out xs hB h c hc a, zcr_ok, zif, e25, if_neg a]
end
section
/-! ===== queries: means, named, clear, starts ===== -/
theorem zsum_nn {f : Nat → Int} (h0 : ∀ k, 0 ≤ f k) : ∀ {n : Nat}, 0 ≤ zsum f n
  | 0 => by simp [zsum]
  | n + 1 => by
    have := zsum_nn h0 (n := n)
    have := h0 n
    rw [zsum]
    omega
theorem zsum_zero {f : Nat → Int} (h0 : ∀ k, 0 ≤ f k) : ∀ {n : Nat}, zsum f n = 0 ↔ ∀ k, k < n → f k = 0
  | 0 => by simp [zsum]
  | n + 1 => by
    have ih := zsum_zero h0 (n := n)
    have hp := zsum_nn h0 (n := n)
    have hn := h0 n
    rw [zsum]
    constructor
    · intro h k hk
      by_cases hkn : k = n
      · subst hkn; omega
      · exact ih.mp (by omega) k (by omega)
    · intro h
      have := ih.mpr (fun k hk => h k (by omega))
      have := h n (by omega)
      omega
theorem zfo_at {f : Nat → Int} : ∀ {n i j : Nat}, (∀ k, i ≤ k → k < j → f k = -1) → f j ≠ -1 → i ≤ j → j < i + n → zfo f n i = f j
  | 0, _, _, _, _, h1, h2 => by omega
  | n + 1, i, j, h, hj, h1, h2 => by
    rw [zfo]
    by_cases hij : i = j
    · subst hij; rw [if_pos hj]
    · have n1 : ¬ f i ≠ -1 := fun z => z (h i (by omega) (by omega))
      rw [if_neg n1]
      exact zfo_at (fun k h3 h4 => h k (by omega) h4) hj (by omega) (by omega)
/-- the first speech that is the row -/
def mnO (L : Nat → List Int) (B : List Int) (n : Nat) : Int := zfo (fun i => if L i = B then i else -1) n 0
noncomputable def mnS (G : Nat → Int → Int) (c : Int) : Int := if 0 ≤ c ∧ c < G pM 5 then zite (pgOK G) (mnO (fun s => plS G 0 c s) (pgL G) (nS G c)) (-103) else -101
noncomputable def nmS (G : Nat → Int → Int) (c : Int) : Int := if 0 ≤ c ∧ c < G pM 5 then zite (pgOK G) (nbest (fun i => dif (plS G 0 c i) (pgL G)) (nS G c)).1 (-103) else -101
theorem X_means (xs : List Int) {G g : Nat → Int → Int} (hB : Bd G) (h : Rel G g) {c : Int} (hc : zw c = c) : ∃ g1, zx zblk xs 50 0 [some (.inr (.inr (some pX))), some (.inl (c))] [] (HH g) = some (some (.inl (mnS G c)), HH g1) ∧ zFr scX g g1 := by
  obtain ⟨hQ, -, hC, -⟩ := id hB
  obtain ⟨-, ⟨hc0, hc1⟩, -⟩ := id hQ
  rw [e_X_means_0, pX_ck]
  unfold mnS
  by_cases a : 0 ≤ c ∧ c < G pM 5
  · obtain ⟨k, rfl⟩ : ∃ k : Nat, c = k := ⟨c.toNat, by omega⟩
    have hk4 : k < 4 := by omega
    obtain ⟨g1, q1, q2⟩ := X_hearPage xs hB h
    have hcd := (Rel_scX hB h q1).cd hk4 a.2
    refine ⟨g1, ?_, q1⟩
    rw [X_codeAt_in xs hB h k a.2, zcr_ok, zif_some, if_pos a, e_X_means_13, pX_ck]
    rcases q2 with ⟨o, q2, q3⟩ | ⟨o, q2⟩
    · rw [q2, zci_ok, if_neg (by decide), pX_r_heard, Co_ck (zCo_PC hk4), Code_meaningOf xs hcd Rw74 q3 (pgL_len hQ) (pgL_R7 hB.2.2.2.1 o), zci_ok, e_X_means_33, zite_t o]
      rfl
    · rw [q2, zci_ok, if_pos (show zw 0 = 0 from rfl), e_X_means_31, e_X_means_33, zite_f o]
  · exact ⟨g, by rw [X_codeAt_out xs hB h c hc a, zcr_ok, zif, if_neg a], zFr.rf⟩
theorem X_named (xs : List Int) {G g : Nat → Int → Int} (hB : Bd G) (h : Rel G g) {c : Int} (hc : zw c = c) : ∃ g1, zx zblk xs 58 0 [some (.inr (.inr (some pX))), some (.inl (c))] [] (HH g) = some (some (.inl (nmS G c)), HH g1) ∧ zFr scX g g1 := by
  obtain ⟨hQ, -, hC, -⟩ := id hB
  obtain ⟨-, ⟨hc0, hc1⟩, -⟩ := id hQ
  rw [e_X_named_0, pX_ck]
  unfold nmS
  by_cases a : 0 ≤ c ∧ c < G pM 5
  · obtain ⟨k, rfl⟩ : ∃ k : Nat, c = k := ⟨c.toNat, by omega⟩
    have hk4 : k < 4 := by omega
    obtain ⟨g1, q1, q2⟩ := X_hearPage xs hB h
    have hcd := (Rel_scX hB h q1).cd hk4 a.2
    refine ⟨g1, ?_, q1⟩
    rw [X_codeAt_in xs hB h k a.2, zcr_ok, zif_some, if_pos a, e_X_named_13, pX_ck]
    rcases q2 with ⟨o, q2, q3⟩ | ⟨o, q2⟩
    · rw [q2, zci_ok, if_neg (by decide), pX_r_heard, Co_ck (zCo_PC hk4), Code_nearestTo xs hcd Rw74 q3 (pgL_len hQ) (pgL_R7 hB.2.2.2.1 o) (pgL_len hQ), zci_ok, e_X_named_33, zite_t o]
    · rw [q2, zci_ok, if_pos (show zw 0 = 0 from rfl), e_X_named_31, e_X_named_33, zite_f o]
  · exact ⟨g, by rw [X_codeAt_out xs hB h c hc a, zcr_ok, zif, if_neg a], zFr.rf⟩
end
section
/-! ===== queries: clear, starts ===== -/
def alO (L : Nat → List Int) (n : Nat) : Int := zfo (fun i => zfo (fun j => if L i = L j then 8 * i + j else -1) (n - (i + 1)) (i + 1)) n 0
def stO (L : Nat → List Int) (n : Nat) : Int := zfo (fun i => zfo (fun j => if (L i).length < (L j).length ∧ L i = (L j).take (L i).length then 8 * i + j else -1) n 0) n 0
def alS (G : Nat → Int → Int) (c : Int) : Int := alO (fun s => plS G 0 c s) (nS G c)
def stS (G : Nat → Int → Int) (c : Int) : Int := stO (fun s => plS G 0 c s) (nS G c)
theorem alO_rg (L : Nat → List Int) {n : Nat} (hn : n ≤ 8) : -1 ≤ alO L n ∧ alO L n ≤ 63 := by
  unfold alO
  refine zfo_rg (by omega) (by omega) (fun i _ hi => zfo_rg (by omega) (by omega) (fun j hj1 hj => ?_))
  split <;> omega
theorem stO_rg (L : Nat → List Int) {n : Nat} (hn : n ≤ 8) : -1 ≤ stO L n ∧ stO L n ≤ 63 := by
  unfold stO
  refine zfo_rg (by omega) (by omega) (fun i _ hi => zfo_rg (by omega) (by omega) (fun j hj1 hj => ?_))
  split <;> omega
def clS (G : Nat → Int → Int) (c w : Int) : Int := if 0 ≤ c ∧ c < G pM 5 then (if 0 ≤ w ∧ w ≤ 2 then (if w = 0 then (if alS G c = -1 then 1 else 0) else if alS G c = -1 then -1 else if w = 1 then (alS G c).tdiv 8 else (alS G c).tmod 8) else -102) else -101
def srS (G : Nat → Int → Int) (c w : Int) : Int := if 0 ≤ c ∧ c < G pM 5 then (if 0 ≤ w ∧ w ≤ 1 then (if stS G c = -1 then -1 else if w = 0 then (stS G c).tdiv 8 else (stS G c).tmod 8) else -102) else -101
theorem X_ofPair (xs : List Int) (v w : Int) (h : zH) (hv : zw v = v) (hw : zw w = w) : zx zblk xs 72 0 [some (.inl (v)), some (.inl (w))] [] h = some (some (.inl (if v = -1 then -1 else if w = 0 then v.tdiv 8 else v.tmod 8)), h) := by
  rw [e_X_ofPair_0, hv, show zw (-1) = -1 from rfl]
  by_cases a : v = -1
  · rw [if_neg (by omega), if_pos a]
  · rw [if_pos a, if_neg a, e_X_ofPair_7, hw]
    by_cases b : w = 0
    · rw [if_neg (by omega), if_neg (by decide), e_X_ofPair_22, if_pos b, hv]
      rfl
    · rw [if_pos b, e_X_ofPair_18, if_neg (by decide), e_X_ofPair_22, if_neg b, hv]
      rfl
theorem X_clear (xs : List Int) {G g : Nat → Int → Int} (hB : Bd G) (h : Rel G g) {c w : Int} (hc : zw c = c) (hw : zw w = w) : zx zblk xs 51 0 [some (.inr (.inr (some pX))), some (.inl (c)), some (.inl (w))] [] (HH g) = some (some (.inl (clS G c w)), HH g) := by
  obtain ⟨hQ, -, hC, -⟩ := id hB
  obtain ⟨-, ⟨hc0, hc1⟩, -⟩ := id hQ
  rw [e_X_clear_0, pX_ck]
  unfold clS
  by_cases a : 0 ≤ c ∧ c < G pM 5
  · obtain ⟨k, rfl⟩ : ∃ k : Nat, c = k := ⟨c.toNat, by omega⟩
    have hk4 : k < 4 := by omega
    have hcd := h.cd hk4 a.2
    have hrg := alO_rg (fun s => plS G 0 k s) (nS_rg hB a).2.2
    have hal : zx zblk xs 8 0 [some (.inr (.inr (some (PC k))))] [] (HH g) = some (some (.inl (alS G k)), HH g) := Code_firstAlike xs hcd
    change -1 ≤ alS G k ∧ alS G k ≤ 63 at hrg
    have e22 : zx zblk xs 51 22 [] [] (HH g) = some (some (.inl (-102)), HH g) := e_X_clear_22 xs _
    rw [X_codeAt_in xs hB h k a.2, zcr_ok, zif_some, if_pos a, e_X_clear_13, hw, show zw 2 = 2 from rfl]
    by_cases b : 0 ≤ w ∧ w ≤ 2
    · rw [if_neg (by omega), if_pos b.2, if_pos b, e_X_clear_25, Co_ck (zCo_PC hk4), hal, zci_ok, hw, zw_id (a := alS G k) (by omega) (by omega), show zw (-1) = -1 from rfl]
      by_cases w0 : w = 0
      · rw [if_neg (by omega), if_pos w0]
        by_cases m : alS G k = -1
        · rw [if_neg (by omega), if_pos m, e_X_clear_46]
        · rw [if_pos m, if_neg m, e_X_clear_45, e_X_clear_46]
      · rw [if_pos w0, if_neg w0, e_X_clear_47, X_ofPair xs _ _ _ (zw_id (by omega) (by omega)) (zw_id (by omega) (by omega)), zci_ok]
        by_cases m : alS G k = -1
        · rw [if_pos m, if_pos m]
        · rw [if_neg m, if_neg m]
          by_cases w1 : w = 1
          · rw [if_pos (by omega), if_pos w1]
          · rw [if_neg (by omega), if_neg w1]
    · rw [if_neg b]
      by_cases b0 : w < 0
      · rw [if_pos b0, e22]
      · rw [if_neg b0, if_neg (by omega), e22]
  · rw [X_codeAt_out xs hB h c hc a, zcr_ok, zif, if_neg a]
theorem X_starts (xs : List Int) {G g : Nat → Int → Int} (hB : Bd G) (h : Rel G g) {c w : Int} (hc : zw c = c) (hw : zw w = w) : zx zblk xs 52 0 [some (.inr (.inr (some pX))), some (.inl (c)), some (.inl (w))] [] (HH g) = some (some (.inl (srS G c w)), HH g) := by
  obtain ⟨hQ, -, hC, -⟩ := id hB
  obtain ⟨-, ⟨hc0, hc1⟩, -⟩ := id hQ
  rw [e_X_starts_0, pX_ck]
  unfold srS
  by_cases a : 0 ≤ c ∧ c < G pM 5
  · obtain ⟨k, rfl⟩ : ∃ k : Nat, c = k := ⟨c.toNat, by omega⟩
    have hk4 : k < 4 := by omega
    have hcd := h.cd hk4 a.2
    have hrg := stO_rg (fun s => plS G 0 k s) (nS_rg hB a).2.2
    have hal : zx zblk xs 9 0 [some (.inr (.inr (some (PC k))))] [] (HH g) = some (some (.inl (stS G k)), HH g) := Code_firstStart xs hcd
    change -1 ≤ stS G k ∧ stS G k ≤ 63 at hrg
    have e22 : zx zblk xs 52 22 [] [] (HH g) = some (some (.inl (-102)), HH g) := e_X_starts_22 xs _
    rw [X_codeAt_in xs hB h k a.2, zcr_ok, zif_some, if_pos a, e_X_starts_13, hw, show zw 1 = 1 from rfl]
    by_cases b : 0 ≤ w ∧ w ≤ 1
    · rw [if_neg (by omega), if_pos b.2, if_pos b, e_X_starts_25, Co_ck (zCo_PC hk4), hal, zci_ok, X_ofPair xs _ _ _ (zw_id (by omega) (by omega)) hw, zci_ok]
    · rw [if_neg b]
      by_cases b0 : w < 0
      · rw [if_pos b0, e22]
      · rw [if_neg b0, if_neg (by omega), e22]
  · rw [X_codeAt_out xs hB h c hc a, zcr_ok, zif, if_neg a]
end
section
/-! ===== queries: oddness, change, cheapest, count ===== -/
theorem saidS_rg {G : Nat → Int → Int} (hB : Bd G) {c : Int} (a : 0 ≤ c ∧ c < G pM 5) : 0 ≤ saidS G c ∧ saidS G c ≤ nS G c ∧ saidS G c ≤ G pM 10 ∧ saidS G c ≤ 8 := by
  have h1 := nS_rg hB a
  obtain ⟨-, -, -, ⟨h2, h3⟩, -⟩ := hB.1
  unfold saidS
  split <;> omega
/-- how odd a speech is -/
def osm (G : Nat → Int → Int) (c s : Int) : Int := zsum (fun k => oddS G (rowS G c s k)) (lenS G c s)
def odO (G : Nat → Int → Int) (c : Int) : Int := zsum (fun t => G pM_weights t * osm G c t) (saidS G c).toNat
def odS (G : Nat → Int → Int) (c : Int) : Int := if 0 ≤ c ∧ c < G pM 5 then odO G c else -101
theorem X_oddIn (xs : List Int) {G g : Nat → Int → Int} (hB : Bd G) (h : Rel G g) {c : Nat} (hc : (c : Int) < G pM 5) : zx zblk xs 55 13 [some (.inr (.inr (some pX))), none, some (.inr (.inr (some (PC c))))] [] (HH g) = some (some (.inl (odO G c)), HH g) := by
  obtain ⟨-, ⟨hc0, hc1⟩, -, ⟨h2, h3⟩, -⟩ := id hB.1
  have hc4 : c < 4 := by omega
  have a : 0 ≤ (c : Int) ∧ (c : Int) < G pM 5 := by omega
  have h1 := nS_rg hB a
  have hs := saidS_rg hB a
  have hw := wL_len hB.1
  have hh := zloop (fun t : Nat => zx zblk xs 55 25 [some (.inr (.inr (some pX))), none, some (.inr (.inr (some (PC c)))), some (.inl (saidS G c)), some (.inl (zsum (fun t => G pM_weights t * osm G c t) t)), some (.inl ((t : Int)))] [] (HH g)) (saidS G c).toNat (fun t ht => by
    obtain ⟨r1, r2, r3, r4⟩ := rowL_ok hB (c := c) (s := t) a (by omega)
    have hat : zat (wL G) (t : Int) = G pM_weights t := by unfold wL; rw [zat_Li (by omega)]; rfl
    have hos : zsum (fun k => oddS G ((rowL G c t).getD k 0)) (rowL G c t).length = osm G c t := by
      rw [r1]
      unfold osm
      refine zsum_cg (fun k hk => ?_)
      unfold rowL
      rw [zLi_getD _ hk]
    rw [e_X_oddness_25, if_neg (by rw [zw_id (by omega) (by omega), zw_id (by omega) (by omega)]; omega), pX_r_weights, Rw_ck Rw11, Row_at xs Rw11 h.2.1 hw.2 t (zw_id (by omega) (by omega)), zci_ok, hat, pX_r_signals, Co_ck (zCo_PC hc4), Code_spoken xs (zCo_PC hc4) t (by omega), zcr_ok, Sg_ck, Signals_oddOfAll xs hB.1 hB.2.2.2.1 h.1 (Rw_sp hc4 (by omega)) (h.sp hc4 hc (by omega)) r2 (isR7_int r4), zci_ok, hos, zsum, Int.natCast_succ])
  rw [e_X_oddness_13, pX_ck, X_thingsSaid xs hB h c hc, zci_ok]
  refine Eq.trans ?_ (hh.trans ?_)
  · rfl
  · rw [e_X_oddness_25, if_pos (by rw [zw_id (by omega) (by omega), zw_id (by omega) (by omega)]; omega), e_X_oddness_65]
    rfl
theorem X_oddness (xs : List Int) {G g : Nat → Int → Int} (hB : Bd G) (h : Rel G g) {c : Int} (hc : zw c = c) : zx zblk xs 55 0 [some (.inr (.inr (some pX))), some (.inl (c))] [] (HH g) = some (some (.inl (odS G c)), HH g) := by
  rw [e_X_oddness_0, pX_ck]
  unfold odS
  by_cases a : 0 ≤ c ∧ c < G pM 5
  · obtain ⟨k, rfl⟩ : ∃ k : Nat, c = k := ⟨c.toNat, by omega⟩
    rw [X_codeAt_in xs hB h k a.2, zcr_ok, zif_some, if_pos a, X_oddIn xs hB h a.2]
  · rw [X_codeAt_out xs hB h c hc a, zcr_ok, zif, if_neg a]
section NOTES
variable {P : Nat} {g : Nat → Int → Int}
end NOTES
def wsum (G : Nat → Int → Int) (n : Int) : Int := zsum (fun t => G pM_weights t) n.toNat
theorem X_weighed (xs : List Int) {G g : Nat → Int → Int} (hB : Bd G) (h : Rel G g) {m : Int} (h0 : 0 ≤ m) (hm : m ≤ G pM 10) : zx zblk xs 28 0 [some (.inr (.inr (some 11))), some (.inl (m))] [] (HH g) = some (some (.inl (wsum G m)), HH g) := by
  have hl := wL_len hB.1
  have hs := Row_sumOf xs Rw11 h.2.1 hl.2 m.toNat (by omega)
  rw [Int.toNat_of_nonneg h0] at hs
  rw [hs]
  unfold wsum
  rw [zsum_cg (f' := fun t => G pM_weights t)]
  intro k hk
  unfold wL
  rw [zLi_getD _ (by omega)]
end
section
/-! ===== lowest terms; mean, dealt ===== -/
def fracS (a b : Nat) (part : Int) : Int := if part = 0 then ((a / Nat.gcd a b : Nat) : Int) else ((b / Nat.gcd a b : Nat) : Int)
theorem zwl_nat {a : Nat} (h : a < 4611686018427387904) : zwl (a : Int) = a := zwl_id (by omega) (by omega)
theorem zcmp0 {a : Nat} (h : a < 4611686018427387904) : zw (if zwl (a : Int) < zwl 0 then -1 else if zwl (a : Int) = zwl 0 then 0 else 1) = if a = 0 then 0 else 1 := by
  rw [zwl_nat h, show zwl 0 = 0 from rfl, if_neg (by omega)]
  by_cases h0 : a = 0
  · rw [if_pos (by omega), if_pos h0]; rfl
  · rw [if_neg (by omega), if_neg h0]; rfl
theorem X_lowest_loop (xs : List Int) (h : zH) (a b : Nat) (part : Int) : ∀ (m x y i : Nat), x * y < 2 ^ m → y ≤ x → i + m + 1 ≤ 128 → x < 4611686018427387904 → zx zblk xs 76 9 [some (.inr (.inl ((a : Int)))), none, some (.inr (.inl ((b : Int)))), none, some (.inl (part)), some (.inr (.inl ((x : Int)))), none, some (.inr (.inl ((y : Int)))), none, some (.inl ((i : Int)))] [] h = zx zblk xs 76 45 [some (.inr (.inl ((a : Int)))), none, some (.inr (.inl ((b : Int)))), none, some (.inl (part)), some (.inr (.inl (((Nat.gcd x y : Nat) : Int))))] [] h := by
  intro m
  induction m with
  | zero =>
    intro x y i hm hyx hi hx
    have h0 : y = 0 := by
      have : x * y = 0 := by omega
      rcases Nat.mul_eq_zero.mp this with h | h <;> omega
    subst h0
    rw [e_X_lowest_9, show zw 128 = 128 from rfl, zw_id (by omega) (by omega), if_neg (by omega), zcmp0 (by omega), if_pos rfl, if_pos rfl, Nat.gcd_zero_right]
  | succ m ih =>
    intro x y i hm hyx hi hx
    rw [e_X_lowest_9, show zw 128 = 128 from rfl, zw_id (a := (i : Int)) (by omega) (by omega), if_neg (by omega), zcmp0 (by omega)]
    by_cases h0 : y = 0
    · subst h0
      rw [if_pos rfl, if_pos rfl, Nat.gcd_zero_right]
    · have hlt := Nat.mod_lt x (show 0 < y by omega)
      have hdm := Nat.div_add_mod x y
      have hd1 : 1 ≤ x / y := Nat.div_pos hyx (by omega)
      have hmul : y * 1 ≤ y * (x / y) := Nat.mul_le_mul_left y hd1
      have h2 : 2 * (x % y) ≤ x := by omega
      have h3 : y * (2 * (x % y)) ≤ y * x := Nat.mul_le_mul_left y h2
      have h4 : y * (2 * (x % y)) = 2 * (y * (x % y)) := by rw [Nat.mul_left_comm]
      have h5 : y * x = x * y := Nat.mul_comm y x
      have h6 : 2 ^ (m + 1) = 2 * 2 ^ m := by rw [Nat.pow_succ, Nat.mul_comm]
      have ht : (x : Int).tmod (y : Int) = ((x % y : Nat) : Int) := rfl
      rw [if_neg h0, if_neg (by decide), zwl_nat hx, zwl_nat (by omega), if_neg (by omega), ht, ← Int.natCast_succ, ih y (x % y) (i + 1) (by omega) (by omega) (by omega) (by omega)]
      rw [Nat.gcd_comm x y, Nat.gcd_rec y x, Nat.gcd_comm y (x % y)]
theorem X_lowest (xs : List Int) (h : zH) {a b : Nat} {part : Int} (hp : zw part = part) (ha : a < 4611686018427387904) (hb : b < 4611686018427387904) (hb0 : 0 < b) : zx zblk xs 76 0 [some (.inr (.inl ((a : Int)))), none, some (.inr (.inl ((b : Int)))), none, some (.inl (part))] [] h = some (some (.inr (.inl (fracS a b part))), h) := by
  have hg : 0 < Nat.gcd a b := Nat.gcd_pos_of_pos_right a hb0
  have hgl : Nat.gcd a b ≤ b := Nat.gcd_le_right a hb0
  have hab : a * b < 2 ^ 126 := by
    have h1 : a * b ≤ 4611686018427387904 * b := Nat.mul_le_mul_right b (by omega)
    have h2 : (2 : Nat) ^ 126 = 4611686018427387904 * 18446744073709551616 := rfl
    omega
  have key : zx zblk xs 76 9 [some (.inr (.inl ((a : Int)))), none, some (.inr (.inl ((b : Int)))), none, some (.inl (part)), some (.inr (.inl ((a : Int)))), none, some (.inr (.inl ((b : Int)))), none, some (.inl (0))] [] h = zx zblk xs 76 45 [some (.inr (.inl ((a : Int)))), none, some (.inr (.inl ((b : Int)))), none, some (.inl (part)), some (.inr (.inl (((Nat.gcd a b : Nat) : Int))))] [] h := by
    by_cases hle : b ≤ a
    · exact X_lowest_loop xs h a b part 126 a b 0 hab hle (by omega) ha
    · have ht : (a : Int).tmod (b : Int) = ((a % b : Nat) : Int) := rfl
      have hm : a % b = a := Nat.mod_eq_of_lt (by omega)
      rw [e_X_lowest_9, show zw 128 = 128 from rfl, show zw 0 = 0 from rfl, if_neg (by omega), zcmp0 hb, if_neg (show ¬ b = 0 by omega), if_neg (by decide), zwl_nat ha, zwl_nat hb, if_neg (by omega), ht, hm]
      have := X_lowest_loop xs h a b part 126 b a 1 (by rw [Nat.mul_comm]; exact hab) (by omega) (by omega) hb
      rw [Nat.gcd_comm b a] at this
      exact this
  rw [e_X_lowest_0, key, e_X_lowest_45, zcmp0 (by omega), if_neg (show ¬ Nat.gcd a b = 0 by omega), if_pos (by decide), e_X_lowest_54, hp]
  unfold fracS
  by_cases p0 : part = 0
  · have ht : (a : Int).tdiv ((Nat.gcd a b : Nat) : Int) = ((a / Nat.gcd a b : Nat) : Int) := rfl
    rw [if_neg (by omega), zwl_nat (by omega), if_neg (by omega), e_X_lowest_70, zwl_nat ha, ht, if_pos p0]
  · have ht : (b : Int).tdiv ((Nat.gcd a b : Nat) : Int) = ((b / Nat.gcd a b : Nat) : Int) := rfl
    rw [if_pos p0, e_X_lowest_66, zwl_nat (by omega), if_neg (by omega), e_X_lowest_70, zwl_nat hb, ht, if_neg p0]
theorem w_rg {G : Nat → Int → Int} (hB : Bd G) (t : Nat) (h : (t : Int) < G pM 10) : 1 ≤ G pM_weights t ∧ G pM_weights t ≤ 99 := hB.2.2.2.2.1 t (by omega) h
theorem wsum_rg {G : Nat → Int → Int} (hB : Bd G) {n : Int} (h0 : 0 ≤ n) (h : n ≤ G pM 10) : n ≤ wsum G n ∧ wsum G n ≤ n * 99 := by
  have := zsum_rg (a := 1) (b := 99) (n := n.toNat) (f := fun t => G pM_weights t) (fun k hk => w_rg hB k (by omega))
  unfold wsum
  omega
theorem X_wAt (xs : List Int) {G g : Nat → Int → Int} (hB : Bd G) (h : Rel G g) (t : Nat) (ht : (t : Int) < G pM 10) : zx zblk xs 20 0 [some (.inr (.inr (some 11))), some (.inl ((t : Int)))] [] (HH g) = some (some (.inl (G pM_weights t)), HH g) := by
  have hw := wL_len hB.1
  have hat : zat (wL G) (t : Int) = G pM_weights t := by unfold wL; rw [zat_Li (by omega)]; rfl
  rw [Row_at xs Rw11 h.2.1 hw.2 t (zw_id (by omega) (by omega)), hat]
def meO (G : Nat → Int → Int) (c : Int) : Int := zsum (fun t => G pM_weights t * longS G c t) (saidS G c).toNat
def meS (G : Nat → Int → Int) (c p : Int) : Int := if 0 ≤ c ∧ c < G pM 5 then (if p = 0 ∨ p = 1 then (if saidS G c = 0 then -103 else fracS (meO G c).toNat (wsum G (saidS G c)).toNat p) else -102) else -101
theorem mul_rg {a b x y : Int} (ha : 0 ≤ a ∧ a ≤ x) (hb : 0 ≤ b ∧ b ≤ y) : 0 ≤ a * b ∧ a * b ≤ x * y :=
  ⟨Int.mul_nonneg ha.1 hb.1, Int.le_trans (Int.mul_le_mul_of_nonneg_right ha.2 hb.1) (Int.mul_le_mul_of_nonneg_left hb.2 (Int.le_trans ha.1 ha.2))⟩
theorem meO_rg {G : Nat → Int → Int} (hB : Bd G) {c : Int} (a : 0 ≤ c ∧ c < G pM 5) : 0 ≤ meO G c ∧ meO G c ≤ 35640 := by
  have hs := saidS_rg hB a
  have hn := nS_rg hB a
  have := zsum_rg (a := 0) (b := 4455) (n := (saidS G c).toNat) (f := fun t => G pM_weights t * longS G c t) (fun k hk => by
    have h1 := w_rg hB k (by omega)
    have h2 := longS_rg hB a (s := (k : Int)) (by omega)
    have := mul_rg (a := G pM_weights k) (b := longS G c k) (x := 99) (y := 45) (by omega) (by omega)
    omega)
  unfold meO
  omega
theorem X_mean (xs : List Int) {G g : Nat → Int → Int} (hB : Bd G) (h : Rel G g) {c p : Int} (hc : zw c = c) (hp : zw p = p) : zx zblk xs 54 0 [some (.inr (.inr (some pX))), some (.inl (c)), some (.inl (p))] [] (HH g) = some (some (.inl (meS G c p)), HH g) := by
  obtain ⟨-, ⟨hc0, hc1⟩, -, ⟨h2, h3⟩, -⟩ := id hB.1
  rw [e_X_mean_0, pX_ck]
  unfold meS
  by_cases a : 0 ≤ c ∧ c < G pM 5
  · obtain ⟨k, rfl⟩ : ∃ k : Nat, c = k := ⟨c.toNat, by omega⟩
    rw [X_codeAt_in xs hB h k a.2, zcr_ok, zif_some, if_pos a, e_X_mean_13, X_isPart xs p _ hp, zci_ok, zb_zw]
    by_cases b : p = 0 ∨ p = 1
    · have hs := saidS_rg hB a
      have hn := nS_rg hB a
      rw [zb_t b, if_pos (by decide), if_pos b, e_X_mean_23, pX_ck, X_thingsSaid xs hB h k a.2, zci_ok, zw_id (by omega) (by omega)]
      by_cases s0 : saidS G k = 0
      · rw [if_neg (by omega), if_pos s0]
      · have hws := wsum_rg hB (n := saidS G k) (by omega) (by omega)
        have hme := meO_rg hB a
        have hh := zloop (fun t : Nat => zx zblk xs 54 44 [some (.inr (.inr (some pX))), none, some (.inl (p)), some (.inr (.inr (some (PC k)))), some (.inl (saidS G k)), some (.inr (.inl (zsum (fun t => G pM_weights t * longS G k t) t))), none, some (.inl ((t : Int)))] [] (HH g)) (saidS G k).toNat (fun t ht => by
          have h1 := w_rg hB t (by omega)
          have h2 := longS_rg hB a (s := (t : Int)) (by omega)
          have hm := mul_rg (a := G pM_weights t) (b := longS G k t) (x := 99) (y := 45) (by omega) (by omega)
          rw [e_X_mean_44, if_neg (by rw [zw_id (by omega) (by omega), zw_id (by omega) (by omega)]; omega), pX_r_weights, Rw_ck Rw11, X_wAt xs hB h t (by omega), zci_ok, pX_ck, X_longOf xs hB h k t a.2 (by omega), zci_ok, zw_id (a := G pM_weights t * longS G k t) (by omega) (by omega), zsum, Int.natCast_succ])
        have ht := X_lowest xs (HH g) (a := (meO G k).toNat) (b := (wsum G (saidS G k)).toNat) hp (by omega) (by omega) (by omega)
        rw [Int.toNat_of_nonneg hme.1, Int.toNat_of_nonneg (by omega)] at ht
        rw [if_pos s0, if_neg s0, e_X_mean_38]
        refine Eq.trans ?_ (hh.trans ?_)
        · rfl
        · rw [e_X_mean_44, if_pos (by rw [zw_id (by omega) (by omega), zw_id (by omega) (by omega)]; omega), e_X_mean_80, pX_r_weights, Rw_ck Rw11, X_weighed xs hB h hs.1 hs.2.2.1, zci_ok, show zsum (fun t => G pM_weights t * longS G k t) (saidS G k).toNat = meO G k from rfl, zw_id (a := wsum G (saidS G k)) (by omega) (by omega), ht, zcl_ok']
    · rw [zb_f b, if_neg (by decide), if_neg b]
  · rw [X_codeAt_out xs hB h c hc a, zcr_ok, zif, if_neg a]
end
section
/-! ===== dealt ===== -/
/-- how many are ahead of one -/
def rk (K : Nat → Int) (n i : Nat) : Int := zsum (fun j => if K j < K i ∨ (K j = K i ∧ j < i) then 1 else 0) n
theorem zsum_le {f f' : Nat → Int} : ∀ {n : Nat}, (∀ k, k < n → f k ≤ f' k) → zsum f n ≤ zsum f' n
  | 0, _ => Int.le_refl _
  | n + 1, h => by
    have := zsum_le (n := n) (fun k hk => h k (by omega))
    have := h n (by omega)
    rw [zsum, zsum]
    omega
theorem zsum_lt {f f' : Nat → Int} {j : Nat} : ∀ {n : Nat}, (∀ k, k < n → f k ≤ f' k) → j < n → f j < f' j → zsum f n < zsum f' n
  | 0, _, h, _ => by omega
  | n + 1, h, hj, hlt => by
    rw [zsum, zsum]
    by_cases hn : j = n
    · have := zsum_le (n := n) (fun k hk => h k (by omega))
      subst hn
      omega
    · have := zsum_lt (n := n) (fun k hk => h k (by omega)) (by omega) hlt
      have := h n (by omega)
      omega
theorem zsum_const (n : Nat) : zsum (fun _ => 1) n = n := by
  induction n with
  | zero => rfl
  | succ n ih => rw [zsum, ih, Int.natCast_succ]
theorem rk_rg (K : Nat → Int) {n i : Nat} (hi : i < n) : 0 ≤ rk K n i ∧ rk K n i < n := by
  constructor
  · exact zsum_nn (fun k => by split <;> omega)
  · rw [← zsum_const n]
    unfold rk
    refine zsum_lt (j := i) (fun k _ => by split <;> omega) hi ?_
    rw [if_neg (by omega)]
    omega
theorem rk_lt (K : Nat → Int) {n i i' : Nat} (hi : i < n) (h : K i < K i' ∨ (K i = K i' ∧ i < i')) : rk K n i < rk K n i' := by
  unfold rk
  refine zsum_lt (j := i) (fun k _ => ?_) hi ?_
  · by_cases a : K k < K i ∨ (K k = K i ∧ k < i)
    · rw [if_pos a, if_pos (by omega)]; omega
    · rw [if_neg a]; split <;> omega
  · rw [if_neg (by omega), if_pos h]; omega
theorem rk_inj (K : Nat → Int) {n i i' : Nat} (hi : i < n) (hi' : i' < n) (h : rk K n i = rk K n i') : i = i' := by
  by_cases a : K i < K i' ∨ (K i = K i' ∧ i < i')
  · have := rk_lt K hi a; omega
  · by_cases b : K i' < K i ∨ (K i' = K i ∧ i' < i)
    · have := rk_lt K hi' b; omega
    · omega
theorem pigeon : ∀ (n : Nat) (f : Nat → Nat), (∀ i, i < n → f i < n) → (∀ i j, i < n → j < n → f i = f j → i = j) → ∀ r, r < n → ∃ i, i < n ∧ f i = r
  | 0, _, _, _, r, h => by omega
  | n + 1, f, hf, hj, r, hr => by
    by_cases hex : ∃ i, i < n + 1 ∧ f i = n
    · obtain ⟨i0, h0, h1⟩ := hex
      by_cases hrn : r = n
      · exact ⟨i0, h0, by omega⟩
      · have hfn : f n ≤ n := by have := hf n (by omega); omega
        obtain ⟨i, hi, hfi⟩ := pigeon n (fun i => if i = i0 then f n else f i) (fun i hi => by
          show (if i = i0 then f n else f i) < n
          by_cases a : i = i0
          · rw [if_pos a]
            by_cases b : f n = n
            · have := hj n i0 (by omega) h0 (by omega)
              omega
            · omega
          · rw [if_neg a]
            have := hf i (by omega)
            by_cases b : f i = n
            · exact absurd (hj i i0 (by omega) h0 (by omega)) a
            · omega) (fun i j hi hj' he => by
          change (if i = i0 then f n else f i) = (if j = i0 then f n else f j) at he
          by_cases a : i = i0
          · by_cases b : j = i0
            · omega
            · rw [if_pos a, if_neg b] at he
              have := hj n j (by omega) (by omega) he
              omega
          · by_cases b : j = i0
            · rw [if_neg a, if_pos b] at he
              have := hj i n (by omega) (by omega) he
              omega
            · rw [if_neg a, if_neg b] at he
              exact hj i j (by omega) (by omega) he) r (by omega)
        change (if i = i0 then f n else f i) = r at hfi
        by_cases a : i = i0
        · rw [if_pos a] at hfi; exact ⟨n, by omega, hfi⟩
        · rw [if_neg a] at hfi; exact ⟨i, by omega, hfi⟩
    · have hlt : ∀ i, i < n + 1 → f i < n := fun i hi => by
        have := hf i hi
        by_cases a : f i = n
        · exact absurd ⟨i, hi, a⟩ hex
        · omega
      obtain ⟨i, hi, hfi⟩ := pigeon n f (fun i hi => hlt i (by omega)) (fun i j hi hj' => hj i j (by omega) (by omega)) (f n) (hlt n (by omega))
      have := hj i n (by omega) (by omega) hfi
      omega
theorem rk_ex (K : Nat → Int) {n : Nat} {r : Int} (h0 : 0 ≤ r) (h1 : r < n) : ∃ i : Nat, i < n ∧ rk K n i = r := by
  obtain ⟨i, hi, he⟩ := pigeon n (fun i => (rk K n i).toNat) (fun i hi => by have := rk_rg K hi; show (rk K n i).toNat < n; omega) (fun i j hi hj he => by
    have h1 := rk_rg K hi
    have h2 := rk_rg K hj
    change (rk K n i).toNat = (rk K n j).toNat at he
    exact rk_inj K hi hj (by omega)) r.toNat (by omega)
  have h2 := rk_rg K hi
  change (rk K n i).toNat = r.toNat at he
  exact ⟨i, hi, by omega⟩
/-- the one of a rank -/
def rkAt (K : Nat → Int) (n : Nat) (r : Int) : Int := zfo (fun i => if rk K n i = r then i else -1) n 0
theorem rkAt_eq (K : Nat → Int) {n i : Nat} (hi : i < n) {r : Int} (h : rk K n i = r) : rkAt K n r = i := by
  unfold rkAt
  rw [zfo_at (j := i) (fun k _ hk => if_neg (fun z => by have := rk_inj K (by omega) hi (z.trans h.symm); omega)) (by rw [if_pos h]; omega) (by omega) (by omega), if_pos h]
/-- how the speeches come by length, the things by weight -/
def kL (G : Nat → Int → Int) (c : Int) : Nat → Int := fun i => longS G c i
def kW (G : Nat → Int → Int) : Nat → Int := fun t => -G pM_weights t
def mS (G : Nat → Int → Int) (c : Int) : Nat := (saidS G c).toNat
def dlT (G : Nat → Int → Int) (c : Int) (t : Nat) : Int := rkAt (kL G c) (mS G c) (rk (kW G) (mS G c) t)
def dlO (G : Nat → Int → Int) (c : Int) : Int := zsum (fun t => G pM_weights t * longS G c (dlT G c t)) (mS G c)
def dlS (G : Nat → Int → Int) (c w : Int) : Int := if 0 ≤ c ∧ c < G pM 5 then (if (w = 0 ∨ w = 1) ∨ (10 ≤ w ∧ w ≤ 17) then (if saidS G c = 0 then -103 else if 10 ≤ w then (if w - 10 < saidS G c then dlT G c (w - 10).toNat else -1) else fracS (dlO G c).toNat (wsum G (saidS G c)).toNat w) else -102) else -101
theorem dlT_ex {G : Nat → Int → Int} {c : Int} {t : Nat} (ht : t < mS G c) : ∃ i : Nat, i < mS G c ∧ rk (kL G c) (mS G c) i = rk (kW G) (mS G c) t ∧ dlT G c t = i := by
  have h := rk_rg (kW G) ht
  obtain ⟨i, hi, he⟩ := rk_ex (kL G c) h.1 h.2
  exact ⟨i, hi, he, rkAt_eq _ hi he⟩
theorem dlO_rg {G : Nat → Int → Int} (hB : Bd G) {c : Int} (a : 0 ≤ c ∧ c < G pM 5) : 0 ≤ dlO G c ∧ dlO G c ≤ 35640 := by
  have hs := saidS_rg hB a
  have hn := nS_rg hB a
  have hm : (mS G c : Int) = saidS G c := by unfold mS; omega
  have := zsum_rg (a := 0) (b := 4455) (n := mS G c) (f := fun t => G pM_weights t * longS G c (dlT G c t)) (fun k hk => by
    obtain ⟨i, hi, -, he⟩ := dlT_ex hk
    have h1 := w_rg hB k (by omega)
    have h2 := longS_rg hB a (s := (i : Int)) (by omega)
    have := mul_rg (a := G pM_weights k) (b := longS G c i) (x := 99) (y := 45) (by omega) (by omega)
    rw [he]
    omega)
  unfold dlO
  omega
theorem X_isAhead (xs : List Int) (h : zH) {x i y j : Int} (hx : zw x = x) (hi : zw i = i) (hy : zw y = y) (hj : zw j = j) : zx zblk xs 75 0 [some (.inl (x)), some (.inl (i)), some (.inl (y)), some (.inl (j))] [] h = some (some (.inl (zb (x < y ∨ (x = y ∧ i < j)))), h) := by
  have e15 : zx zblk xs 75 15 [] [] h = some (some (.inl 1), h) := by rw [e_X_isAhead_15, e_X_isAhead_20, if_pos (Or.inr rfl)]
  have e19 : zx zblk xs 75 19 [] [] h = some (some (.inl 0), h) := by rw [e_X_isAhead_19, e_X_isAhead_20, if_pos (Or.inl rfl)]
  rw [e_X_isAhead_0, e15, e19, hx, hi, hy, hj]
  by_cases a : x < y
  · rw [if_pos a, zb_t (by omega)]
  · rw [if_neg a]
    by_cases b : x = y
    · rw [if_neg (by omega)]
      by_cases d : i < j
      · rw [if_neg (by omega), zb_t (by omega)]
      · rw [if_pos (by omega), zb_f (by omega)]
    · rw [if_pos b, zb_f (by omega)]
theorem X_rankByLong (xs : List Int) {G g : Nat → Int → Int} (hB : Bd G) (h : Rel G g) {c : Nat} (hc : (c : Int) < G pM 5) {m i : Nat} (hm : m ≤ nS G c) (hi : i < m) : zx zblk xs 74 0 [some (.inr (.inr (some pX))), some (.inr (.inr (some (PC c)))), some (.inl ((i : Int))), some (.inl ((m : Int)))] [] (HH g) = some (some (.inl (rk (kL G c) m i)), HH g) := by
  have a : 0 ≤ (c : Int) ∧ (c : Int) < G pM 5 := by omega
  have hn := nS_rg hB a
  have hli := longS_rg hB a (s := (i : Int)) (by omega)
  have hh := zloop (fun j : Nat => zx zblk xs 74 6 [some (.inr (.inr (some pX))), some (.inr (.inr (some (PC c)))), some (.inl ((i : Int))), some (.inl ((m : Int))), some (.inl (rk (kL G c) j i)), some (.inl ((j : Int)))] [] (HH g)) m (fun j hj => by
    have hlj := longS_rg hB a (s := (j : Int)) (by omega)
    have e37 : ∀ v4 : Int, zx zblk xs 74 37 [some (.inr (.inr (some pX))), some (.inr (.inr (some (PC c)))), some (.inl ((i : Int))), some (.inl ((m : Int))), some (.inl (v4)), some (.inl ((j : Int)))] [] (HH g) = zx zblk xs 74 6 [some (.inr (.inr (some pX))), some (.inr (.inr (some (PC c)))), some (.inl ((i : Int))), some (.inl ((m : Int))), some (.inl (v4)), some (.inl (((j + 1 : Nat) : Int)))] [] (HH g) := fun v4 => by rw [e_X_rankByLong_37, Int.natCast_succ]
    rw [e_X_rankByLong_6, if_neg (by rw [zw_id (by omega) (by omega), zw_id (by omega) (by omega)]; omega), pX_ck, X_longOf xs hB h c j hc (by omega), zci_ok, pX_ck, X_longOf xs hB h c i hc (by omega), zci_ok, X_isAhead xs _ (zw_id (by omega) (by omega)) (zw_id (by omega) (by omega)) (zw_id (by omega) (by omega)) (zw_id (by omega) (by omega)), zci_ok, zb_zw, e37, e37]
    rw [show rk (kL G c) (j + 1) i = rk (kL G c) j i + (if kL G c j < kL G c i ∨ (kL G c j = kL G c i ∧ j < i) then 1 else 0) from rfl]
    unfold kL
    by_cases b : longS G c j < longS G c i ∨ (longS G c j = longS G c i ∧ j < i)
    · rw [zb_t (by omega), if_neg (by decide), if_pos b]
    · rw [zb_f (by omega), if_pos rfl, if_neg b, Int.add_zero])
  rw [e_X_rankByLong_0]
  refine Eq.trans ?_ (hh.trans ?_)
  · rfl
  · rw [e_X_rankByLong_6, if_pos (by omega), e_X_rankByLong_43]
theorem X_dealtTo (xs : List Int) {G g : Nat → Int → Int} (hB : Bd G) (h : Rel G g) {c : Nat} (hc : (c : Int) < G pM 5) {t : Int} (htz : zw t = t) (ht0 : 0 ≤ t) : zx zblk xs 73 0 [some (.inr (.inr (some pX))), some (.inr (.inr (some (PC c)))), some (.inl (t))] [] (HH g) = some (some (.inl (if t < saidS G c then dlT G c t.toNat else -1)), HH g) := by
  have a : 0 ≤ (c : Int) ∧ (c : Int) < G pM 5 := by omega
  have hs := saidS_rg hB a
  have hn := nS_rg hB a
  have hm : (mS G c : Int) = saidS G c := by unfold mS; omega
  rw [e_X_dealtTo_0, pX_ck, X_thingsSaid xs hB h c hc, zci_ok, htz, if_neg (by omega), zw_id (a := saidS G c) (by omega) (by omega)]
  by_cases tl : t < saidS G c
  · obtain ⟨k, rfl⟩ : ∃ k : Nat, t = k := ⟨t.toNat, by omega⟩
    have hk : k < mS G c := by omega
    rw [if_pos tl, if_pos tl, e_X_dealtTo_17]
    have hw := w_rg hB k (by omega)
    have hh := zloop (fun j : Nat => zx zblk xs 73 23 [some (.inr (.inr (some pX))), some (.inr (.inr (some (PC c)))), some (.inl ((k : Int))), some (.inl (saidS G c)), some (.inl (rk (kW G) j k)), some (.inl ((j : Int)))] [] (HH g)) (mS G c) (fun j hj => by
      have hwj := w_rg hB j (by omega)
      have e60 : ∀ v4 : Int, zx zblk xs 73 60 [some (.inr (.inr (some pX))), some (.inr (.inr (some (PC c)))), some (.inl ((k : Int))), some (.inl (saidS G c)), some (.inl (v4)), some (.inl ((j : Int)))] [] (HH g) = zx zblk xs 73 23 [some (.inr (.inr (some pX))), some (.inr (.inr (some (PC c)))), some (.inl ((k : Int))), some (.inl (saidS G c)), some (.inl (v4)), some (.inl (((j + 1 : Nat) : Int)))] [] (HH g) := fun v4 => by rw [e_X_dealtTo_60, Int.natCast_succ]
      rw [e_X_dealtTo_23, if_neg (by rw [zw_id (by omega) (by omega), zw_id (by omega) (by omega)]; omega), pX_r_weights, Rw_ck Rw11, X_wAt xs hB h j (by omega), zci_ok, pX_r_weights, Rw_ck Rw11, X_wAt xs hB h k (by omega), zci_ok, X_isAhead xs _ (zw_id (by omega) (by omega)) (zw_id (by omega) (by omega)) (zw_id (by omega) (by omega)) (zw_id (by omega) (by omega)), zci_ok, zb_zw, e60, e60]
      rw [show rk (kW G) (j + 1) k = rk (kW G) j k + (if kW G j < kW G k ∨ (kW G j = kW G k ∧ j < k) then 1 else 0) from rfl]
      unfold kW
      by_cases b : -G pM_weights j < -G pM_weights k ∨ (-G pM_weights j = -G pM_weights k ∧ j < k)
      · rw [zb_t (by omega), if_neg (by decide), if_pos b]
      · rw [zb_f (by omega), if_pos rfl, if_neg b, Int.add_zero])
    refine Eq.trans ?_ (hh.trans ?_)
    · rfl
    · have hrk := rk_rg (kW G) hk
      rw [e_X_dealtTo_23, if_pos (by rw [zw_id (by omega) (by omega), zw_id (by omega) (by omega)]; omega), e_X_dealtTo_66]
      obtain ⟨i, hi, hri, he⟩ := dlT_ex hk
      have loop : ∀ (r j : Nat), j + r = mS G c → zx zblk xs 73 69 [some (.inr (.inr (some pX))), some (.inr (.inr (some (PC c)))), none, some (.inl (saidS G c)), some (.inl (rk (kW G) (mS G c) k)), some (.inl ((j : Int)))] [] (HH g) = some (some (.inl (zfo (fun i => if rk (kL G c) (mS G c) i = rk (kW G) (mS G c) k then (i : Int) else -1) r j)), HH g) := by
        intro r
        induction r with
        | zero =>
          intro j hj
          rw [e_X_dealtTo_69, if_pos (by rw [zw_id (by omega) (by omega), zw_id (by omega) (by omega)]; omega), e_X_dealtTo_97, zfo]
        | succ r ih =>
          intro j hj
          have hj' : j < mS G c := by omega
          have hrj := rk_rg (kL G c) hj'
          have hrb := X_rankByLong xs hB h hc (m := mS G c) (i := j) (by omega) hj'
          rw [hm] at hrb
          rw [e_X_dealtTo_69, if_neg (by rw [zw_id (by omega) (by omega), zw_id (by omega) (by omega)]; omega), pX_ck, hrb, zci_ok, zw_id (by omega) (by omega), zw_id (by omega) (by omega), zfo]
          by_cases b : rk (kL G c) (mS G c) j = rk (kW G) (mS G c) k
          · rw [if_neg (by omega), if_pos b, if_pos (by omega)]
          · rw [if_pos b, if_neg b, if_neg (by simp), e_X_dealtTo_91, ← Int.natCast_succ]
            exact ih (j + 1) (by omega)
      exact loop (mS G c) 0 (by omega)
  · rw [if_neg tl, if_neg tl, e_X_dealtTo_15]
theorem X_dealt (xs : List Int) {G g : Nat → Int → Int} (hB : Bd G) (h : Rel G g) {c w : Int} (hc : zw c = c) (hw : zw w = w) : zx zblk xs 56 0 [some (.inr (.inr (some pX))), some (.inl (c)), some (.inl (w))] [] (HH g) = some (some (.inl (dlS G c w)), HH g) := by
  obtain ⟨-, ⟨hc0, hc1⟩, -, ⟨h2, h3⟩, -⟩ := id hB.1
  rw [e_X_dealt_0, pX_ck]
  unfold dlS
  by_cases a : 0 ≤ c ∧ c < G pM 5
  · obtain ⟨k, rfl⟩ : ∃ k : Nat, c = k := ⟨c.toNat, by omega⟩
    have hs := saidS_rg hB a
    have hn := nS_rg hB a
    have hm : (mS G k : Int) = saidS G k := by unfold mS; omega
    have e32 : zx zblk xs 56 32 [] [] (HH g) = some (some (.inl (-102)), HH g) := e_X_dealt_32 xs _
    have e35 : (w = 0 ∨ w = 1) ∨ (10 ≤ w ∧ w ≤ 17) → zx zblk xs 56 35 [some (.inr (.inr (some pX))), none, some (.inl (w)), some (.inr (.inr (some (PC k))))] [] (HH g) = some (some (.inl (if saidS G k = 0 then -103 else if 10 ≤ w then (if w - 10 < saidS G k then dlT G k (w - 10).toNat else -1) else fracS (dlO G k).toNat (wsum G (saidS G k)).toNat w)), HH g) := by
      intro hww
      rw [e_X_dealt_35, pX_ck, X_thingsSaid xs hB h k a.2, zci_ok, zw_id (by omega) (by omega)]
      by_cases s0 : saidS G k = 0
      · rw [if_neg (by omega), if_pos s0]
      · rw [if_pos s0, if_neg s0, e_X_dealt_50, hw, show zw 10 = 10 from rfl]
        by_cases w10 : 10 ≤ w
        · rw [if_neg (by omega), if_pos w10, pX_ck, X_dealtTo xs hB h a.2 (zw_id (by omega) (by omega)) (by omega), zci_ok]
        · have hws := wsum_rg hB (n := saidS G k) (by omega) (by omega)
          have hdl := dlO_rg hB a
          have hh := zloop (fun t : Nat => zx zblk xs 56 72 [some (.inr (.inr (some pX))), none, some (.inl (w)), some (.inr (.inr (some (PC k)))), some (.inl (saidS G k)), some (.inr (.inl (zsum (fun t => G pM_weights t * longS G k (dlT G k t)) t))), none, some (.inl ((t : Int)))] [] (HH g)) (mS G k) (fun t ht => by
            obtain ⟨i, hi, -, he⟩ := dlT_ex ht
            have h1 := w_rg hB t (by omega)
            have h2 := longS_rg hB a (s := (i : Int)) (by omega)
            have hmm := mul_rg (a := G pM_weights t) (b := longS G k i) (x := 99) (y := 45) (by omega) (by omega)
            rw [e_X_dealt_72, if_neg (by rw [zw_id (by omega) (by omega), zw_id (by omega) (by omega)]; omega), pX_r_weights, Rw_ck Rw11, X_wAt xs hB h t (by omega), zci_ok, pX_ck, X_dealtTo xs hB h a.2 (zw_id (by omega) (by omega)) (by omega), zci_ok, if_pos (by omega), show (t : Int).toNat = t from rfl, he, pX_ck, X_longOf xs hB h k i a.2 (by omega), zci_ok, zw_id (a := G pM_weights t * longS G k i) (by omega) (by omega), zsum, he, Int.natCast_succ])
          have ht := X_lowest xs (HH g) (a := (dlO G k).toNat) (b := (wsum G (saidS G k)).toNat) hw (by omega) (by omega) (by omega)
          rw [Int.toNat_of_nonneg hdl.1, Int.toNat_of_nonneg (by omega)] at ht
          rw [if_pos (by omega), if_neg w10, e_X_dealt_66]
          refine Eq.trans ?_ (hh.trans ?_)
          · rfl
          · rw [e_X_dealt_72, if_pos (by rw [zw_id (by omega) (by omega), zw_id (by omega) (by omega)]; omega), e_X_dealt_113, pX_r_weights, Rw_ck Rw11, X_weighed xs hB h hs.1 hs.2.2.1, zci_ok, show zsum (fun t => G pM_weights t * longS G k (dlT G k t)) (mS G k) = dlO G k from rfl, zw_id (a := wsum G (saidS G k)) (by omega) (by omega), ht, zcl_ok']
    rw [X_codeAt_in xs hB h k a.2, zcr_ok, zif_some, if_pos a, e_X_dealt_13, X_isPart xs w _ hw, zci_ok, zb_zw]
    by_cases b : w = 0 ∨ w = 1
    · rw [zb_t b, if_pos (by decide), if_pos (Or.inl b), e35 (Or.inl b)]
    · rw [zb_f b, if_neg (by decide), hw, show zw 10 = 10 from rfl, show zw 18 = 18 from rfl]
      by_cases d : 10 ≤ w ∧ w ≤ 17
      · rw [if_neg (by omega), if_pos (by omega), if_pos (Or.inr d), e35 (Or.inr d)]
      · rw [if_neg (show ¬ ((w = 0 ∨ w = 1) ∨ (10 ≤ w ∧ w ≤ 17)) from fun z => by rcases z with z | z; exact b z; exact d z)]
        by_cases d0 : w < 10
        · rw [if_pos d0, e32]
        · rw [if_neg d0, if_neg (by omega), e32]
  · rw [X_codeAt_out xs hB h c hc a, zcr_ok, zif, if_neg a]
end
section
/-! ===== apart ===== -/
theorem dif_comm (A B : List Int) : dif A B = dif B A := by
  unfold dif
  by_cases h : A.length = B.length
  · rw [if_pos h, if_pos h.symm, h]
    refine zsum_cg (fun k _ => ?_)
    by_cases e : A.getD k 0 = B.getD k 0
    · rw [if_pos e, if_pos e.symm]
    · rw [if_neg e, if_neg (fun z => e z.symm)]
  · rw [if_neg h, if_neg (fun z => h z.symm)]
/-- what the least distance is -/
def isAp (L : Nat → List Int) (n : Nat) (v : Int) : Prop :=
  ((n < 2 ∨ ∃ i, i < n ∧ (L i).length ≠ (L 0).length) → v = -1) ∧
  (2 ≤ n → (∀ i, i < n → (L i).length = (L 0).length) → (∃ i j, i < j ∧ j < n ∧ dif (L i) (L j) = v) ∧ ∀ i j, i < j → j < n → v ≤ dif (L i) (L j))
theorem isAp_un {L : Nat → List Int} {n : Nat} {v w : Int} (hv : isAp L n v) (hw : isAp L n w) : v = w := by
  by_cases h : n < 2 ∨ ∃ i, i < n ∧ (L i).length ≠ (L 0).length
  · rw [hv.1 h, hw.1 h]
  · have h2 : 2 ≤ n := by
      by_cases z : n < 2
      · exact absurd (Or.inl z) h
      · omega
    have h3 : ∀ i, i < n → (L i).length = (L 0).length := fun i hi => by
      by_cases z : (L i).length = (L 0).length
      · exact z
      · exact absurd (Or.inr ⟨i, hi, z⟩) h
    obtain ⟨⟨i, j, a, b, c⟩, d⟩ := hv.2 h2 h3
    obtain ⟨⟨i', j', a', b', c'⟩, d'⟩ := hw.2 h2 h3
    have := d i' j' a' b'
    have := d' i j a b
    omega
noncomputable def apV (L : Nat → List Int) (n : Nat) : Int := @dite _ (∃ v, isAp L n v) (zdc _) (fun h => h.choose) (fun _ => 0)
theorem apV_eq {L : Nat → List Int} {n : Nat} {v : Int} (h : isAp L n v) : apV L n = v := by
  have hx : ∃ v, isAp L n v := ⟨v, h⟩
  unfold apV
  rw [@dif_pos _ (zdc _) hx]
  exact isAp_un hx.choose_spec h
noncomputable def apO (G : Nat → Int → Int) (c : Int) : Int := apV (fun s => plS G 0 c s) (nS G c)
noncomputable def apS (G : Nat → Int → Int) (c : Int) : Int := if 0 ≤ c ∧ c < G pM 5 then apO G c else -101
/-- the least distance of the pairs of a set; far: there is none -/
def isMn (L : Nat → List Int) (S : Nat → Nat → Prop) (v : Int) : Prop := (v = 1000000 ∨ ∃ i j, S i j ∧ dif (L i) (L j) = v) ∧ (∀ i j, S i j → v ≤ dif (L i) (L j))
theorem dif_eq_rg {A B : List Int} (h : A.length = B.length) (hl : B.length ≤ 100) : 0 ≤ dif A B ∧ dif A B ≤ 100 := by
  have := dif_rg A B hl
  unfold dif at this ⊢
  rw [if_pos h] at this ⊢
  have := zsum_rg (a := 0) (b := 1) (n := B.length) (f := fun k => if A.getD k 0 = B.getD k 0 then 0 else 1) (fun k _ => by split <;> omega)
  omega
theorem Code_leastApart (xs : List Int) {g : Nat → Int → Int} {P n : Nat} {L : Nat → List Int} (h : zCd g P n L) (h1n : 1 ≤ n) : zx zblk xs 10 0 [some (.inr (.inr (some P)))] [] (HH g) = some (some (.inl (apV L n)), HH g) := by
  obtain ⟨h1, hn, hn8, hr⟩ := id h
  -- v is -1 as long as there is no pair
  have inner : ∀ (i : Nat), i < n → (∀ k, k ≤ i → (L k).length = (L 0).length) → ∀ (r j : Nat) (v : Int), j + r = i → isMn L (fun a b => a < b ∧ (b < i ∨ (b = i ∧ a < j))) v → ∃ v', isMn L (fun a b => a < b ∧ b < i + 1) v' ∧ zx zblk xs 10 35 [some (.inr (.inr (some P))), some (.inl (if v = 1000000 then -1 else v)), some (.inl ((i : Int))), some (.inl ((j : Int)))] [] (HH g) = zx zblk xs 10 75 [some (.inr (.inr (some P))), some (.inl (if v' = 1000000 then -1 else v')), some (.inl ((i : Int)))] [] (HH g) := by
    intro i hi hle r
    induction r with
    | zero =>
      intro j v hj hv
      refine ⟨v, ⟨?_, fun a b hab => hv.2 a b ⟨hab.1, by omega⟩⟩, ?_⟩
      · rcases hv.1 with z | ⟨a, b, z, w⟩
        · exact Or.inl z
        · exact Or.inr ⟨a, b, ⟨z.1, by omega⟩, w⟩
      · rw [e_Code_leastApart_35, if_pos (by rw [zw_id (by omega) (by omega), zw_id (by omega) (by omega)]; omega)]
    | succ r ih =>
      intro j v hj hv
      have hj' : j < n := by omega
      have hlen : (L i).length = (L j).length := by rw [hle i (Nat.le_refl _), hle j (by omega)]
      have hdr := dif_eq_rg hlen (by have := (hr j hj').2.1; omega)
      have hdc := dif_comm (L i) (L j)
      have e69 : ∀ v1 : Int, zx zblk xs 10 69 [some (.inr (.inr (some P))), some (.inl (v1)), some (.inl ((i : Int))), some (.inl ((j : Int)))] [] (HH g) = zx zblk xs 10 35 [some (.inr (.inr (some P))), some (.inl (v1)), some (.inl ((i : Int))), some (.inl (((j + 1 : Nat) : Int)))] [] (HH g) := fun v1 => by rw [e_Code_leastApart_69, ← Int.natCast_succ]
      have e66 : zx zblk xs 10 66 [some (.inr (.inr (some P))), none, some (.inl ((i : Int))), some (.inl ((j : Int))), some (.inl (dif (L i) (L j)))] [] (HH g) = zx zblk xs 10 35 [some (.inr (.inr (some P))), some (.inl (dif (L i) (L j))), some (.inl ((i : Int))), some (.inl (((j + 1 : Nat) : Int)))] [] (HH g) := by rw [e_Code_leastApart_66, e69]
      rw [e_Code_leastApart_35, if_neg (by rw [zw_id (by omega) (by omega), zw_id (by omega) (by omega)]; omega), Co_ck h1, Code_plain xs h1 i (by omega), zcr_ok, Co_ck h1, Code_plain xs h1 j (by omega), zcr_ok, Rw_ck (h.rw hi), Row_placesApart xs (h.rw hi) (h.rw hj') (hr i hi).1 (hr j hj').1 (hr i hi).2.1 (hr j hj').2.1 (hr i hi).2.2 (hr j hj').2.2 hlen, zci_ok, e66, e69, zw_id (a := dif (L i) (L j)) (by omega) (by omega), show zw (-1) = -1 from rfl]
      have hv0 : v = 1000000 ∨ (0 ≤ v ∧ v ≤ 100 ∨ v = 1000000) := by
        rcases hv.1 with z | ⟨a, b, z, w⟩
        · exact Or.inl z
        · have := dif_rg (L a) (L b) (by have := (hr b (by omega)).2.1; omega)
          right
          omega
      by_cases hlt : v = 1000000 ∨ dif (L i) (L j) < v
      · obtain ⟨v', p1, p2⟩ := ih (j + 1) (dif (L i) (L j)) (by omega) ⟨Or.inr ⟨j, i, ⟨by omega, Or.inr ⟨rfl, by omega⟩⟩, hdc.symm⟩, fun a b hab => by
          by_cases hab' : b = i ∧ a = j
          · rw [hab'.1, hab'.2, hdc]; exact Int.le_refl _
          · rcases hlt with z | z
            · have := hv.2 a b ⟨hab.1, by omega⟩; omega
            · have := hv.2 a b ⟨hab.1, by omega⟩; omega⟩
        rw [if_neg (by omega)] at p2
        refine ⟨v', p1, ?_⟩
        rw [← p2]
        by_cases m : v = 1000000
        · rw [if_pos m, if_pos (show zw (-1) = -1 from rfl)]
        · rw [if_neg m, zw_id (a := v) (by omega) (by omega), if_neg (by omega), if_neg (by omega)]
      · obtain ⟨v', p1, p2⟩ := ih (j + 1) v (by omega) ⟨by
          rcases hv.1 with z | ⟨a, b, z, w⟩
          · exact Or.inl z
          · exact Or.inr ⟨a, b, ⟨z.1, by omega⟩, w⟩, fun a b hab => by
          by_cases hab' : b = i ∧ a = j
          · rw [hab'.1, hab'.2, ← hdc]; omega
          · exact hv.2 a b ⟨hab.1, by omega⟩⟩
        have hvm : ¬ v = 1000000 := fun z => hlt (Or.inl z)
        rw [if_neg hvm] at p2
        refine ⟨v', p1, ?_⟩
        rw [if_neg hvm, zw_id (a := v) (by omega) (by omega), if_neg (show ¬ v = -1 by omega), if_pos (show v ≤ dif (L i) (L j) by omega)]
        exact p2
  have outer : ∀ (r i : Nat) (v : Int), i + r = n → (∀ k, k < i → (L k).length = (L 0).length) → isMn L (fun a b => a < b ∧ b < i) v → zx zblk xs 10 4 [some (.inr (.inr (some P))), some (.inl (if v = 1000000 then -1 else v)), some (.inl ((i : Int)))] [] (HH g) = some (some (.inl (apV L n)), HH g) := by
    intro r
    induction r with
    | zero =>
      intro i v hi hle hv
      have : i = n := by omega
      subst this
      rw [e_Code_leastApart_4, Co_g h1, hn, if_pos (by omega), e_Code_leastApart_81, apV_eq (v := if v = 1000000 then -1 else v)]
      constructor
      · rintro (z | ⟨k, hk, z⟩)
        · rcases hv.1 with w | ⟨a, b, w, -⟩
          · rw [if_pos w]
          · omega
        · exact absurd (hle k hk) z
      · intro h2 _
        have h01 : (L 0).length = (L 1).length := (hle 1 (by omega)).symm
        have := hv.2 0 1 ⟨by omega, by omega⟩
        have hd01 := dif_eq_rg h01 (by have := (hr 1 (by omega)).2.1; omega)
        rw [if_neg (by omega)]
        refine ⟨?_, fun a b c d => hv.2 a b ⟨c, d⟩⟩
        rcases hv.1 with w | ⟨a, b, w, x⟩
        · omega
        · exact ⟨a, b, w.1, w.2, x⟩
    | succ r ih =>
      intro i v hi hle hv
      have hi' : i < n := by omega
      rw [e_Code_leastApart_4, Co_g h1, hn, if_neg (by rw [zw_id (by omega) (by omega), zw_id (by omega) (by omega)]; omega), Co_ck h1, Code_plain xs h1 i (by omega), zcr_ok, Rw_ck (h.rw hi'), Row_size xs (h.rw hi') (hr i hi').1, zci_ok, Co_ck h1]
      have e0 := Code_plain xs (g := g) h1 0 (by omega)
      rw [z0N] at e0
      rw [e0, zcr_ok, Rw_ck (h.rw (show 0 < n by omega)), Row_size xs (h.rw (show 0 < n by omega)) (hr 0 (by omega)).1, zci_ok, zw_id (a := ((L i).length : Int)) (by omega) (by have := (hr i hi').2.1; omega), zw_id (a := ((L 0).length : Int)) (by omega) (by have := (hr 0 (by omega)).2.1; omega)]
      by_cases hl : (L i).length = (L 0).length
      · obtain ⟨v', p1, p2⟩ := inner i hi' (fun k hk => by
          by_cases z : k = i
          · subst z; exact hl
          · exact hle k (by omega)) i 0 v (by omega) ⟨by
          rcases hv.1 with z | ⟨a, b, z, w⟩
          · exact Or.inl z
          · exact Or.inr ⟨a, b, ⟨z.1, by omega⟩, w⟩, fun a b hab => hv.2 a b ⟨hab.1, by omega⟩⟩
        rw [z0N] at p2
        rw [if_pos (by omega), e_Code_leastApart_33, p2, e_Code_leastApart_75, ← Int.natCast_succ]
        exact ih (i + 1) v' (by omega) (fun k hk => by
          by_cases z : k = i
          · subst z; exact hl
          · exact hle k (by omega)) p1
      · rw [if_neg (by omega), apV_eq (v := -1)]
        exact ⟨fun _ => rfl, fun _ z => absurd (z i hi') hl⟩
  rw [e_Code_leastApart_0]
  have h0 := outer n 0 1000000 (by omega) (fun k hk => by omega) ⟨Or.inl rfl, fun a b hab => by omega⟩
  rw [if_pos rfl, z0N] at h0
  exact h0
theorem X_apart (xs : List Int) {G g : Nat → Int → Int} (hB : Bd G) (h : Rel G g) {c : Int} (hc : zw c = c) : zx zblk xs 57 0 [some (.inr (.inr (some pX))), some (.inl (c))] [] (HH g) = some (some (.inl (apS G c)), HH g) := by
  obtain ⟨-, ⟨hc0, hc1⟩, -⟩ := id hB.1
  rw [e_X_apart_0, pX_ck]
  unfold apS
  by_cases a : 0 ≤ c ∧ c < G pM 5
  · obtain ⟨k, rfl⟩ : ∃ k : Nat, c = k := ⟨c.toNat, by omega⟩
    have hk4 : k < 4 := by omega
    rw [X_codeAt_in xs hB h k a.2, zcr_ok, zif_some, if_pos a, e_X_apart_15, Co_ck (zCo_PC hk4), Code_leastApart xs (h.cd hk4 a.2) (nS_rg hB a).2.1, zci_ok, e_X_apart_19]
    rfl
  · rw [X_codeAt_out xs hB h c hc a, zcr_ok, zif, if_neg a, e_X_apart_19]
end
section
/-! ===== left, stop ===== -/
/-- whether all of the first n are so -/
def zall (P : Nat → Prop) [DecidablePred P] : Nat → Int
  | 0 => 1
  | n + 1 => if zall P n = 0 then 0 else if P n then 1 else 0
theorem zall_01 (P : Nat → Prop) [DecidablePred P] : ∀ n, zall P n = 0 ∨ zall P n = 1
  | 0 => Or.inr rfl
  | n + 1 => by
    rw [zall]
    split
    · exact Or.inl rfl
    · split
      · exact Or.inr rfl
      · exact Or.inl rfl
theorem zall_0 {P : Nat → Prop} [DecidablePred P] {k : Nat} (h : zall P k = 0) : ∀ {n : Nat}, k ≤ n → zall P n = 0
  | 0, hk => by rw [show k = 0 by omega] at h; exact h
  | n + 1, hk => by
    by_cases a : k = n + 1
    · rw [← a]; exact h
    · rw [zall, if_pos (zall_0 h (by omega))]
theorem zall_zw (P : Nat → Prop) [DecidablePred P] (n : Nat) : zw (zall P n) = zall P n := by
  rcases zall_01 P n with h | h <;> rw [h] <;> rfl
def frs (L : Nat → List Int) (i : Nat) : Nat → Int := zall (fun j => ¬ L i = L j)
def lfO (L : Nat → List Int) : Nat → Int := zsum (fun i => frs L i i)
theorem lfO_rg (L : Nat → List Int) (n : Nat) : 0 ≤ lfO L n ∧ lfO L n ≤ n := by
  have := zsum_rg (a := 0) (b := 1) (n := n) (f := fun i => frs L i i) (fun k _ => by
    rcases zall_01 (fun j => ¬ L k = L j) k with h | h <;> unfold frs <;> rw [h] <;> omega)
  unfold lfO
  omega
theorem lfO_mono (L : Nat → List Int) {i : Nat} : ∀ {n : Nat}, i ≤ n → lfO L i ≤ lfO L n
  | 0, h => by rw [show i = 0 by omega]; exact Int.le_refl _
  | n + 1, h => by
    by_cases a : i = n + 1
    · rw [a]; exact Int.le_refl _
    · have h1 := lfO_mono L (i := i) (n := n) (by omega)
      have h2 : lfO L (n + 1) = lfO L n + frs L n n := rfl
      rcases zall_01 (fun j => ¬ L n = L j) n with h3 | h3 <;> unfold frs at h2 <;> rw [h3] at h2 <;> omega
def lfV (G : Nat → Int → Int) (c st : Int) : Int := lfO (fun s => plS G st c s) (nS G c)
def lfS (G : Nat → Int → Int) (c st : Int) : Int := if 0 ≤ c ∧ c < G pM 5 then (if 0 ≤ st ∧ st ≤ 255 then lfV G c st else -102) else -101
theorem X_unlike (xs : List Int) {G g : Nat → Int → Int} (hB : Bd G) (h : Rel G g) {c : Nat} (hc : (c : Int) < G pM 5) (st e : Int) (he0 : 0 ≤ e) (he : e ≤ 100) : ∃ g1, zx zblk xs 77 0 [some (.inr (.inr (some pX))), some (.inr (.inr (some (PC c)))), some (.inl (st)), some (.inl (e))] [] (HH g) = some (some (.inl (if lfV G c st < e then lfV G c st else e)), HH g1) ∧ zFr scX g g1 := by
  obtain ⟨-, ⟨hc0, hc1⟩, -⟩ := id hB.1
  have hc4 : c < 4 := by omega
  have a : 0 ≤ (c : Int) ∧ (c : Int) < G pM 5 := by omega
  have hn := nS_rg hB a
  have loop : ∀ (r i : Nat) (gk : Nat → Int → Int), i + r = nS G c → (∀ j, j < i → zRow gk (78 + 4 + 2 * j) (plS G st c j)) → zFr scX g gk → lfO (fun s => plS G st c s) i ≤ e → ∃ g1, zx zblk xs 77 6 [some (.inr (.inr (some pX))), some (.inr (.inr (some (PC c)))), some (.inl (st)), some (.inl (e)), some (.inl (lfO (fun s => plS G st c s) i)), some (.inl ((i : Int)))] [] (HH gk) = some (some (.inl (if lfV G c st < e then lfV G c st else e)), HH g1) ∧ zFr scX g g1 := by
    intro r
    induction r with
    | zero =>
      intro i gk hi hj hf hle
      have hR := Rel_scX hB h hf
      have hcd := hR.cd hc4 hc
      have hin : i = nS G c := by omega
      refine ⟨gk, ?_, hf⟩
      rw [e_X_unlike_6, Co_ck (zCo_PC hc4), Code_size xs (zCo_PC hc4), zci_ok, hcd.2.1, if_pos (by rw [zw_id (by omega) (by omega), zw_id (by omega) (by omega)]; omega), e_X_unlike_113, hin]
      change lfO (fun s : Nat => plS G st c s) i ≤ e at hle
      rw [hin] at hle
      change lfV G c st ≤ e at hle
      rw [show lfO (fun s : Nat => plS G st c s) (nS G c) = lfV G c st from rfl]
      by_cases z : lfV G c st < e
      · rw [if_pos z]
      · rw [if_neg z, show lfV G c st = e by omega]
    | succ r ih =>
      intro i gk hi hj hf hle
      have hi' : i < nS G c := by omega
      have hR := Rel_scX hB h hf
      have hcd := hR.cd hc4 hc
      have hlr := lfO_rg (fun s : Nat => plS G st c s) i
      rw [e_X_unlike_6, Co_ck (zCo_PC hc4), Code_size xs (zCo_PC hc4), zci_ok, hcd.2.1, if_neg (by rw [zw_id (by omega) (by omega), zw_id (by omega) (by omega)]; omega), zw_id (a := e) (by omega) (by omega), zw_id (a := lfO (fun s : Nat => plS G st c s) i) (by omega) (by omega)]
      by_cases full : e ≤ lfO (fun s : Nat => plS G st c s) i
      · refine ⟨gk, ?_, hf⟩
        have hm := lfO_mono (fun s : Nat => plS G st c s) (i := i) (n := nS G c) (by omega)
        change _ ≤ lfV G c st at hm
        rw [if_pos full, e_X_unlike_113, if_neg (by omega), show lfO (fun s : Nat => plS G st c s) i = e by omega]
      · obtain ⟨r1, r2, r3, r4⟩ := rowL_ok hB (c := c) (s := i) a (by omega)
        have hrs : zRw (78 + 4 + 2 * i) 10 := Rs78.2.2.2.2 i (by omega)
        obtain ⟨g2, p1, p2, p3⟩ := Signals_makePlain xs hB.1 hB.2.2.2.1 hR.1 hrs (by omega) (Rw_sp hc4 (s := i) (by omega)) (hR.sp hc4 hc hi') r2 (isR7_int r4) (by omega) st (by simp only [PC]; omega)
        have hf2 : zFr scX gk g2 := zFr_scR (by omega) (by omega) p3
        have hpl : pln G st (fun k => (rowL G c i).getD k 0) (rowL G c i).length = plS G st c i := by
          rw [r1]
          unfold plS
          refine pln_cg G st (fun k hk => ?_)
          unfold rowL
          rw [zLi_getD _ hk]
        rw [hpl] at p2
        have hj2 : ∀ j, j < i + 1 → zRow g2 (78 + 4 + 2 * j) (plS G st c j) := fun j hj' => by
          by_cases z : j = i
          · subst z; exact p2
          · exact zRow_fr (hj j (by omega)) (p3.at (fun k => by simp only [scR]; omega)) (p3.at (fun k => by simp only [scR]; omega))
        have hok : ∀ j : Nat, j < i + 1 → (plS G st c j).length ≤ 10 ∧ isR7 (plS G st c j) := fun j hj' => ⟨plS_len hB.2.2.1 a (s := (j : Int)) (by omega) st, isR7_plS hB a (s := (j : Int)) (by omega) st⟩
        have inner : ∀ (r' j : Nat), j + r' = i → zx zblk xs 77 50 [some (.inr (.inr (some pX))), some (.inr (.inr (some (PC c)))), some (.inl (st)), some (.inl (e)), some (.inl (lfO (fun s => plS G st c s) i)), some (.inl ((i : Int))), some (.inl (frs (fun s => plS G st c s) i j)), some (.inl ((j : Int)))] [] (HH g2) = zx zblk xs 77 99 [some (.inr (.inr (some pX))), some (.inr (.inr (some (PC c)))), some (.inl (st)), some (.inl (e)), some (.inl (lfO (fun s => plS G st c s) i)), some (.inl ((i : Int))), some (.inl (frs (fun s => plS G st c s) i i))] [] (HH g2) := by
          intro r'
          induction r' with
          | zero =>
            intro j hj'
            have : j = i := by omega
            subst this
            rw [e_X_unlike_50, if_pos (Int.le_refl _)]
          | succ r' ih' =>
            intro j hj'
            have hji : j < i := by omega
            have hrj : zRw (78 + 4 + 2 * j) 10 := Rs78.2.2.2.2 j (by omega)
            rw [e_X_unlike_50, if_neg (by rw [zw_id (by omega) (by omega), zw_id (by omega) (by omega)]; omega), show zw (frs (fun s : Nat => plS G st c s) i j) = frs (fun s : Nat => plS G st c s) i j from zall_zw _ _]
            by_cases z : frs (fun s : Nat => plS G st c s) i j = 0
            · rw [if_pos z, z, show frs (fun s : Nat => plS G st c s) i i = 0 from zall_0 z (by omega)]
            · have hf : frs (fun s : Nat => plS G st c s) i (j + 1) = if frs (fun s : Nat => plS G st c s) i j = 0 then 0 else if ¬ plS G st c i = plS G st c j then 1 else 0 := rfl
              rw [if_neg z] at hf
              rw [if_neg z, pX_r_struck, Rws_ck Rs78, Rows_row xs g2 Rs78 j (by omega), zcr_ok, pX_r_struck, Rws_ck Rs78, Rows_row xs g2 Rs78 i (by omega), zcr_ok, Rw_ck hrj, Row_isLike xs hrj hrs (hj2 j (by omega)) (hj2 i (by omega)) (hok j (by omega)).1 (hok i (by omega)).1 (hok j (by omega)).2 (hok i (by omega)).2, zci_ok, zb_zw, ← ih' (j + 1) (by omega)]
              by_cases he' : plS G st c j = plS G st c i
              · rw [zb_t he', if_pos (by decide), e_X_unlike_90, e_X_unlike_91, hf, if_neg (fun w => w he'.symm), ← Int.natCast_succ]
              · rw [zb_f he', if_neg (by decide), e_X_unlike_91, hf, if_pos (fun w => he' w.symm), ← Int.natCast_succ]
        have hf1 : lfO (fun s : Nat => plS G st c s) (i + 1) = lfO (fun s : Nat => plS G st c s) i + frs (fun s : Nat => plS G st c s) i i := rfl
        have h01 : frs (fun s : Nat => plS G st c s) i i = 0 ∨ frs (fun s : Nat => plS G st c s) i i = 1 := zall_01 _ _
        obtain ⟨g3, s1, s2⟩ := ih (i + 1) g2 (by omega) hj2 (hf.tr hf2) (by omega)
        refine ⟨g3, ?_, s2⟩
        have hin := inner i 0 (by omega)
        rw [z0N] at hin
        change zx zblk xs 77 50 [some (.inr (.inr (some pX))), some (.inr (.inr (some (PC c)))), some (.inl (st)), some (.inl (e)), some (.inl (lfO (fun s => plS G st c s) i)), some (.inl ((i : Int))), some (.inl (1)), some (.inl (0))] [] (HH g2) = _ at hin
        rw [if_neg full, pX_r_signals, Co_ck (zCo_PC hc4), Code_spoken xs (zCo_PC hc4) i (by omega), zcr_ok, pX_r_struck, Rws_ck Rs78, Rows_row xs gk Rs78 i (by omega), zcr_ok, Sg_ck, p1, zcv_ok, hin, e_X_unlike_99, ← s1, hf1]
        rcases h01 with z | z
        · rw [z, if_pos (show zw 0 = 0 from rfl), e_X_unlike_107, Int.add_zero, ← Int.natCast_succ]
        · rw [z, if_neg (by decide), e_X_unlike_107, ← Int.natCast_succ]
  rw [e_X_unlike_0]
  exact loop (nS G c) 0 g (by omega) (fun j hj => by omega) zFr.rf he0
theorem X_left (xs : List Int) {G g : Nat → Int → Int} (hB : Bd G) (h : Rel G g) {c st : Int} (hc : zw c = c) (hst : zw st = st) : ∃ g1, zx zblk xs 59 0 [some (.inr (.inr (some pX))), some (.inl (c)), some (.inl (st))] [] (HH g) = some (some (.inl (lfS G c st)), HH g1) ∧ zFr scX g g1 := by
  rw [e_X_left_0, pX_ck]
  unfold lfS
  by_cases a : 0 ≤ c ∧ c < G pM 5
  · obtain ⟨k, rfl⟩ : ∃ k : Nat, c = k := ⟨c.toNat, by omega⟩
    have hn := nS_rg hB a
    have hl := lfO_rg (fun s : Nat => plS G st k s) (nS G k)
    change 0 ≤ lfV G k st ∧ lfV G k st ≤ _ at hl
    have e24 : zx zblk xs 59 24 [] [] (HH g) = some (some (.inl (-102)), HH g) := e_X_left_24 xs _
    rw [X_codeAt_in xs hB h k a.2, zcr_ok, zif_some, if_pos a, e_X_left_13, hst, show zw 255 = 255 from rfl]
    by_cases b : 0 ≤ st ∧ st ≤ 255
    · obtain ⟨g1, q1, q2⟩ := X_unlike xs hB h a.2 st 8 (by omega) (by omega)
      refine ⟨g1, ?_, q2⟩
      rw [if_neg (by omega), if_pos b.2, if_pos b, e_X_left_27, pX_ck, q1, zci_ok]
      by_cases z : lfV G k st < 8
      · rw [if_pos z]
      · rw [if_neg z, show lfV G k st = 8 by omega]
    · refine ⟨g, ?_, zFr.rf⟩
      rw [if_neg b]
      by_cases b0 : st < 0
      · rw [if_pos b0, e24]
      · rw [if_neg b0, if_neg (by omega), e24]
  · exact ⟨g, by rw [X_codeAt_out xs hB h c hc a, zcr_ok, zif, if_neg a], zFr.rf⟩
end
section
/-! ===== stop ===== -/
def bc1 (v : Int) : Int := v - zand (zushr v 1) 1431655765
def bc2 (v : Int) : Int := zand v 858993459 + zand (zushr v 2) 858993459
def bc3 (v : Int) : Int := zand (v + zushr v 4) 252645135
def bc4 (v : Int) : Int := v + zushr v 8
def bc5 (v : Int) : Int := zand (v + zushr v 16) 63
def bcF (v : Int) : Int := bc5 (bc4 (bc3 (bc2 (bc1 v))))
theorem J_bitCount (xs : List Int) (v : Int) (h : zH) : zx zblk xs 94 0 [some (.inl (v))] [] h = some (some (.inl (bcF v)), h) := (e_J_bitCount_0 xs v h).trans rfl
def popI (s : Int) : Int := zsum (fun k => zand (zshr s k) 1) 8
theorem pop_ok : ∀ s : Nat, s < 256 → bcF s = popI s ∧ 0 ≤ popI s ∧ popI s ≤ 8 := by decide +kernel
def stv (G : Nat → Int → Int) (c : Int) : Nat → Int := fun s => if lfV G c s < 2 then popI s else 8
def mbst (v : Nat → Int) : Nat → Int × Int
  | 0 => (255, 8)
  | n + 1 => if v n < (mbst v n).2 then ((n : Int), v n) else mbst v n
theorem mbst_ch (v : Nat → Int) (h0 : ∀ k, k < 256 → 0 ≤ v k) : ∀ n : Nat, n ≤ 256 → ((∀ k, k < n → 8 ≤ v k) ∧ mbst v n = (255, 8)) ∨ ∃ j : Nat, j < n ∧ v j < 8 ∧ mbst v n = ((j : Int), v j) ∧ (∀ k, k < j → v j < v k) ∧ ∀ k, k < n → v j ≤ v k
  | 0, _ => Or.inl ⟨fun k hk => by omega, rfl⟩
  | n + 1, hn => by
    rcases mbst_ch v h0 n (by omega) with ⟨a, b⟩ | ⟨j, a, b, c, d, e⟩
    · rw [mbst, b]
      by_cases z : v n < 8
      · right
        refine ⟨n, by omega, z, if_pos z, fun k hk => by have := a k hk; omega, fun k hk => ?_⟩
        by_cases w : k = n
        · rw [w]; exact Int.le_refl _
        · have := a k (by omega); omega
      · left
        refine ⟨fun k hk => ?_, if_neg z⟩
        by_cases w : k = n
        · rw [w]; omega
        · exact a k (by omega)
    · right
      rw [mbst, c]
      by_cases z : v n < v j
      · refine ⟨n, by omega, by omega, if_pos z, fun k hk => by have := e k hk; omega, fun k hk => ?_⟩
        by_cases w : k = n
        · rw [w]; exact Int.le_refl _
        · have := e k (by omega); omega
      · refine ⟨j, by omega, b, if_neg z, d, fun k hk => ?_⟩
        by_cases w : k = n
        · rw [w]; omega
        · exact e k (by omega)
theorem mbst_zfo (v : Nat → Int) (h0 : ∀ k, k < 256 → 0 ≤ v k) : (if zfo (fun m => zfo (fun s => if v s = m then s else -1) 256 0) 8 0 = -1 then 255 else zfo (fun m => zfo (fun s => if v s = m then (s : Int) else -1) 256 0) 8 0) = (mbst v 256).1 := by
  rcases mbst_ch v h0 256 (Nat.le_refl _) with ⟨a, b⟩ | ⟨j, a, b, c, d, e⟩
  · rw [b, if_pos (zfo_no (fun m _ hm => zfo_no (fun s _ hs => if_neg (by have := a s (by omega); omega))))]
  · have hj := h0 j a
    obtain ⟨m, hm⟩ : ∃ m : Nat, v j = m := ⟨(v j).toNat, by omega⟩
    have hi : zfo (fun s => if v s = (m : Int) then (s : Int) else -1) 256 0 = j := by
      rw [zfo_at (j := j) (fun k _ hk => if_neg (by have := d k hk; omega)) (by rw [if_pos hm]; omega) (by omega) (by omega), if_pos hm]
    have ho : zfo (fun m => zfo (fun s => if v s = m then (s : Int) else -1) 256 0) 8 0 = j := by
      rw [zfo_at (j := m) (fun m' _ hm' => zfo_no (fun s _ hs => if_neg (by have := e s (by omega); omega))) (by rw [hi]; omega) (by omega) (by omega)]
      exact hi
    rw [ho, if_neg (by omega), c]
theorem stv_nn (G : Nat → Int → Int) (c : Int) : ∀ k, k < 256 → 0 ≤ stv G c k := fun k hk => by
  have := pop_ok k hk
  unfold stv
  split <;> omega
theorem zfo_s (f : Nat → Int) (n i : Nat) : zfo f (n + 1) i = if f i ≠ -1 then f i else zfo f n (i + 1) := rfl
def spV (G : Nat → Int → Int) (c : Int) : Int := (mbst (stv G c) 256).1
def stopS (G : Nat → Int → Int) (c : Int) : Int := if 0 ≤ c ∧ c < G pM 5 then spV G c else -101
theorem X_stopIn (xs : List Int) {G g : Nat → Int → Int} (hB : Bd G) (h : Rel G g) {c : Nat} (hc : (c : Int) < G pM 5) : ∃ g1, zx zblk xs 60 13 [some (.inr (.inr (some pX))), none, some (.inr (.inr (some (PC c))))] [] (HH g) = some (some (.inl (spV G c)), HH g1) ∧ zFr scX g g1 := by
  have a : 0 ≤ (c : Int) ∧ (c : Int) < G pM 5 := by omega
  have hn := nS_rg hB a
  have inner : ∀ (m : Nat), m < 8 → ∀ (r s : Nat) (gk : Nat → Int → Int), s + r = 256 → zFr scX g gk → ∃ g1, zFr scX g g1 ∧ zx zblk xs 60 24 [some (.inr (.inr (some pX))), none, some (.inr (.inr (some (PC c)))), some (.inl ((m : Int))), some (.inl ((s : Int)))] [] (HH gk) = if zfo (fun s => if stv G c s = m then (s : Int) else -1) r s ≠ -1 then some (some (.inl (zfo (fun s => if stv G c s = m then (s : Int) else -1) r s)), HH g1) else zx zblk xs 60 62 [some (.inr (.inr (some pX))), none, some (.inr (.inr (some (PC c)))), some (.inl ((m : Int)))] [] (HH g1) := by
    intro m hm r
    induction r with
    | zero =>
      intro s gk hs hf
      refine ⟨gk, hf, ?_⟩
      rw [e_X_stop_24, show zw 255 = 255 from rfl, zw_id (by omega) (by omega), if_pos (by omega), if_neg (by simp [zfo])]
    | succ r ih =>
      intro s gk hs hf
      have hp := pop_ok s (by omega)
      have e56 : ∀ h : zH, zx zblk xs 60 56 [some (.inr (.inr (some pX))), none, some (.inr (.inr (some (PC c)))), some (.inl ((m : Int))), some (.inl ((s : Int)))] [] h = zx zblk xs 60 24 [some (.inr (.inr (some pX))), none, some (.inr (.inr (some (PC c)))), some (.inl ((m : Int))), some (.inl (((s + 1 : Nat) : Int)))] [] h := fun h => by rw [e_X_stop_56, ← Int.natCast_succ]
      have e : zfo (fun s => if stv G c s = m then (s : Int) else -1) (r + 1) s = if stv G c s = m then (s : Int) else zfo (fun s => if stv G c s = m then (s : Int) else -1) r (s + 1) := by
        rw [zfo]
        by_cases he : stv G c s = m
        · rw [if_pos he, if_pos (by omega), if_pos he]
        · rw [if_neg he, if_neg (by simp), if_neg he]
      rw [e_X_stop_24, show zw 255 = 255 from rfl, zw_id (a := (s : Int)) (by omega) (by omega), if_neg (by omega), J_bitCount, zci_ok, hp.1, zw_id (a := popI s) (by omega) (by omega), zw_id (a := (m : Int)) (by omega) (by omega), e, e56]
      by_cases z : popI s = m
      · obtain ⟨g2, p1, p2⟩ := X_unlike xs hB (Rel_scX hB h hf) hc s 2 (by omega) (by omega)
        have hl := lfO_rg (fun i : Nat => plS G s c i) (nS G c)
        change 0 ≤ lfV G c s ∧ lfV G c s ≤ _ at hl
        rw [if_neg (by omega), pX_ck, p1, zci_ok, show zw 1 = 1 from rfl]
        by_cases w : lfV G c s < 2
        · have hst : stv G c s = m := by unfold stv; rw [if_pos w]; exact z
          refine ⟨g2, hf.tr p2, ?_⟩
          rw [if_pos w, zw_id (a := lfV G c s) (by omega) (by omega), if_neg (by omega), if_pos hst, if_pos (by omega)]
        · have hst : ¬ stv G c s = m := by unfold stv; rw [if_neg w]; omega
          obtain ⟨g1, q1, q2⟩ := ih (s + 1) g2 (by omega) (hf.tr p2)
          refine ⟨g1, q1, ?_⟩
          rw [if_neg w, show zw 2 = 2 from rfl, if_pos (by omega), e56, if_neg hst, q2]
      · have hst : ¬ stv G c s = m := by unfold stv; split <;> omega
        obtain ⟨g1, q1, q2⟩ := ih (s + 1) gk (by omega) hf
        refine ⟨g1, q1, ?_⟩
        rw [if_pos z, if_neg hst, q2]
  have outer : ∀ (r m : Nat) (gk : Nat → Int → Int), m + r = 8 → zFr scX g gk → ∃ g1, zFr scX g g1 ∧ zx zblk xs 60 15 [some (.inr (.inr (some pX))), none, some (.inr (.inr (some (PC c)))), some (.inl ((m : Int)))] [] (HH gk) = some (some (.inl (if zfo (fun m => zfo (fun s => if stv G c s = m then (s : Int) else -1) 256 0) r m = -1 then 255 else zfo (fun m => zfo (fun s => if stv G c s = m then (s : Int) else -1) 256 0) r m)), HH g1) := by
    intro r
    induction r with
    | zero =>
      intro m gk hm hf
      refine ⟨gk, hf, ?_⟩
      rw [e_X_stop_15, show zw 8 = 8 from rfl, zw_id (by omega) (by omega), if_pos (by omega), e_X_stop_68, zfo, if_pos rfl]
    | succ r ih =>
      intro m gk hm hf
      obtain ⟨g1, q1, q2⟩ := inner m (by omega) 256 0 gk (by omega) hf
      rw [z0N] at q2
      rw [e_X_stop_15, show zw 8 = 8 from rfl, zw_id (by omega) (by omega), if_neg (by omega), q2, zfo_s _ r m]
      by_cases z : zfo (fun s => if stv G c s = m then (s : Int) else -1) 256 0 = -1
      · obtain ⟨g2, p1, p2⟩ := ih (m + 1) g1 (by omega) q1
        have nz : ¬ zfo (fun s => if stv G c s = m then (s : Int) else -1) 256 0 ≠ -1 := fun w => w z
        refine ⟨g2, p1, ?_⟩
        rw [if_neg nz, if_neg nz, e_X_stop_62, ← Int.natCast_succ, p2]
      · refine ⟨g1, q1, ?_⟩
        rw [if_pos z, if_pos z, if_neg z]
  obtain ⟨g1, q1, q2⟩ := outer 8 0 g (by omega) zFr.rf
  rw [z0N] at q2
  refine ⟨g1, ?_, q1⟩
  rw [e_X_stop_13, q2, mbst_zfo (stv G c) (stv_nn G c)]
  rfl
theorem X_stop (xs : List Int) {G g : Nat → Int → Int} (hB : Bd G) (h : Rel G g) {c : Int} (hc : zw c = c) : ∃ g1, zx zblk xs 60 0 [some (.inr (.inr (some pX))), some (.inl (c))] [] (HH g) = some (some (.inl (stopS G c)), HH g1) ∧ zFr scX g g1 := by
  rw [e_X_stop_0, pX_ck]
  unfold stopS
  by_cases a : 0 ≤ c ∧ c < G pM 5
  · obtain ⟨k, rfl⟩ : ∃ k : Nat, c = k := ⟨c.toNat, by omega⟩
    obtain ⟨g1, q1, q2⟩ := X_stopIn xs hB h a.2
    refine ⟨g1, ?_, q2⟩
    rw [X_codeAt_in xs hB h k a.2, zcr_ok, zif_some, if_pos a, q1]
  · exact ⟨g, by rw [X_codeAt_out xs hB h c hc a, zcr_ok, zif, if_neg a], zFr.rf⟩
end
section
/-! ===== updates: both memories go on together ===== -/
def Inv (g : Nat → Int → Int) : Prop := Bd g ∧ Rel g g
theorem RelS_cg {G G1 g : Nat → Int → Int} (h : RelS G g) (e1 : G1 pM_signalRows = G pM_signalRows) (e2 : G1 pM 8 = G pM 8) : RelS G1 g := by
  unfold RelS sigL at *
  rw [e1, e2]
  exact h
theorem plS_cg {G G1 : Nat → Int → Int} (e1 : G1 pM_signalRows = G pM_signalRows) (e2 : G1 pM 8 = G pM 8) (e3 : G1 pM_rows = G pM_rows) : plS G1 = plS G := by
  have k : kindS G1 = kindS G := by
    funext s
    unfold kindS
    rw [e1, e2]
  have st : stp G1 = stp G := by
    funext l s
    unfold stp
    rw [k, e1]
  have p : pln G1 = pln G := by
    funext st' f n
    induction n with
    | zero => rfl
    | succ n ih => simp only [pln, ih, st]
  funext st' c s
  unfold plS rowS lenS
  rw [p, e3]
theorem RelC_cg {G G1 g : Nat → Int → Int} (h : RelC G g) (e1 : G1 pM_signalRows = G pM_signalRows) (e2 : G1 pM 8 = G pM 8) (e3 : G1 pM_rows = G pM_rows) (e4 : G1 pM_speeches = G pM_speeches) (e5 : G1 pM 5 = G pM 5) : RelC G1 g := by
  unfold RelC nS rowL rowS lenS at *
  rw [plS_cg e1 e2 e3, e3, e4, e5]
  exact h
theorem RelK_cg {G G1 g : Nat → Int → Int} (h : RelK G g) (e1 : G1 pM 22 = G pM 22) (e2 : G1 pM 23 = G pM 23) (e3 : G1 pM_keptWeights = G pM_keptWeights) (e4 : G1 pM_keptRows = G pM_keptRows) : RelK G1 g := by
  unfold RelK at *
  rw [e1, e2, e3, e4]
  exact h
theorem RelK_fr {G g g1 : Nat → Int → Int} (hB : Bd G) (h : RelK G g) (e0 : g1 pX 8 = g pX 8) (e : ∀ q, 43 ≤ q → q ≤ 71 → g1 q = g q) : RelK G g1 := by
  refine ⟨by rw [e0]; exact h.1, fun hk => ?_⟩
  obtain ⟨k1, k2⟩ := h.2 hk
  refine ⟨zRow_fr k1 (e _ (by omega) (by omega)) (e _ (by omega) (by omega)), RelN_fr ?_ k2 (fun q _ _ => e q (by omega) (by omega))⟩
  rcases hB.2.2.2.2.2.2 with z | z
  · exact absurd z hk
  · exact z.2.2.2.1
end
section
/-! ===== weigh, forget ===== -/
theorem zLi_set (f : Nat → Int) (n k : Nat) (v : Int) : (zLi f n).set k v = zLi (fun j => if j = k then v else f j) n := by
  apply List.ext_getElem
  · rw [List.length_set, zLi_len, zLi_len]
  · intro i h1 h2
    rw [zLi_get _ h2, List.getElem_set]
    by_cases h : k = i
    · rw [if_pos h, if_pos h.symm]
    · rw [if_neg h, if_neg (fun z => h z.symm), zLi_get]
end
section
/-! ===== the bytes of a long ===== -/
def byI (w : Int) (k : Nat) : Int := zandl (zushrl w (8 * k)) 255
theorem zandl_rg (a : Int) : 0 ≤ zandl a 255 ∧ zandl a 255 ≤ 255 := by
  unfold zandl
  have h : (Int64.ofInt a &&& Int64.ofInt 255).toBitVec.toNat ≤ 255 := by
    rw [Int64.toBitVec_and, BitVec.toNat_and]
    exact Nat.and_le_right
  have h2 : (Int64.ofInt a &&& Int64.ofInt 255).toInt = ((Int64.ofInt a &&& Int64.ofInt 255).toBitVec.toNat : Int) := by
    show (Int64.ofInt a &&& Int64.ofInt 255).toBitVec.toInt = _
    exact BitVec.toInt_eq_toNat_of_lt (by omega)
  rw [h2]
  omega
end
section
/-! ===== letters ===== -/
def cntB (w : Int) : Nat → Int := zsum (fun k => if byI w k = 0 then 0 else 1)
def okB (w : Int) : Nat → Int := zall (fun k => byI w k ≤ 126 ∧ (byI w k = 0 ∨ cntB w k = k))
def lnB (w : Int) : Int := if okB w 8 = 0 then -1 else cntB w 8
theorem byI_rg (w : Int) (k : Nat) : 0 ≤ byI w k ∧ byI w k ≤ 255 := zandl_rg _
theorem cntB_rg (w : Int) (n : Nat) : 0 ≤ cntB w n ∧ cntB w n ≤ n := by
  have := zsum_rg (a := 0) (b := 1) (n := n) (f := fun k => if byI w k = 0 then 0 else 1) (fun k _ => by split <;> omega)
  unfold cntB
  omega
theorem cntB_s (w : Int) (n : Nat) : cntB w (n + 1) = cntB w n + (if byI w n = 0 then 0 else 1) := rfl
theorem okB_s (w : Int) (n : Nat) : okB w (n + 1) = if okB w n = 0 then 0 else if byI w n ≤ 126 ∧ (byI w n = 0 ∨ cntB w n = n) then 1 else 0 := rfl
theorem zall_get {P : Nat → Prop} [DecidablePred P] : ∀ {n : Nat}, zall P n = 1 → ∀ k, k < n → P k
  | 0, _, k, hk => by omega
  | n + 1, h, k, hk => by
    rw [zall] at h
    by_cases a : zall P n = 0
    · rw [if_pos a] at h; omega
    · rw [if_neg a] at h
      by_cases b : P n
      · by_cases e : k = n
        · rw [e]; exact b
        · have h1 : zall P n = 1 := by rcases zall_01 P n with z | z; exact absurd z a; exact z
          exact zall_get h1 k (by omega)
      · rw [if_neg b] at h; omega
theorem okB_by {w : Int} (h : okB w 8 = 1) {k : Nat} (hk : (k : Int) < cntB w 8) : 1 ≤ byI w k ∧ byI w k ≤ 126 := by
  have hr := cntB_rg w 8
  have h1 := zall_get h
  have hk8 : k < 8 := by omega
  have hb := byI_rg w k
  refine ⟨?_, (h1 k hk8).1⟩
  by_cases z : byI w k = 0
  · have key : ∀ m : Nat, k + 1 ≤ m → m ≤ 8 → cntB w m ≤ k := by
      intro m
      induction m with
      | zero => intro h0 _; omega
      | succ m ih =>
        intro h0 h8
        rw [cntB_s]
        by_cases e : m = k
        · rw [e, if_pos z]
          have := (cntB_rg w k).2
          omega
        · have := ih (by omega) (by omega)
          by_cases y : byI w m = 0
          · rw [if_pos y]; omega
          · rcases (h1 m (by omega)).2 with x | x
            · exact absurd x y
            · omega
    have := key 8 (by omega) (by omega)
    omega
  · omega
theorem X_lettersIn (xs : List Int) (w : Int) (h : zH) : zx zblk xs 62 0 [some (.inr (.inl (w))), none] [] h = some (some (.inl (lnB w)), h) := by
  have loop : ∀ (r k : Nat), k + r = 8 → okB w k = 1 → zx zblk xs 62 4 [some (.inr (.inl (w))), none, some (.inl (cntB w k)), some (.inl ((k : Int)))] [] h = some (some (.inl (lnB w)), h) := by
    intro r
    induction r with
    | zero =>
      intro k hk ho
      have : k = 8 := by omega
      subst this
      rw [e_X_lettersIn_4, if_pos (by decide), e_X_lettersIn_50]
      unfold lnB
      rw [if_neg (by omega)]
    | succ r ih =>
      intro k hk ho
      have hb := byI_rg w k
      have hc := cntB_rg w k
      have hs := okB_s w k
      rw [if_neg (by omega)] at hs
      have hbe : zandl (zushrl w (8 * (k : Int))) 255 = byI w k := rfl
      have bad : okB w (k + 1) = 0 → (some (some (.inl (-1)), h) : Option zR) = some (some (.inl (lnB w)), h) := fun z => by
        unfold lnB
        rw [if_pos (show okB w 8 = 0 from zall_0 z (by omega))]
      rw [e_X_lettersIn_4, if_neg (by rw [show zw 8 = 8 from rfl, zw_id (by omega) (by omega)]; omega), e_X_byteOf_0, zci_ok, hbe, show zw 126 = 126 from rfl, zw_id (a := byI w k) (by omega) (by omega), e_X_lettersIn_34, zw_id (a := (k : Int)) (by omega) (by omega), zw_id (a := cntB w k) (by omega) (by omega)]
      by_cases a : 126 < byI w k
      · rw [if_pos a]
        exact bad (by rw [hs, if_neg (by omega)])
      · rw [if_neg a]
        by_cases b : byI w k = 0
        · rw [if_pos b, e_X_lettersIn_36, if_pos (by rw [b]; rfl), e_X_lettersIn_44, ← Int.natCast_succ]
          have := ih (k + 1) (by omega) (by rw [hs, if_pos ⟨by omega, Or.inl b⟩])
          rw [cntB_s, if_pos b, Int.add_zero] at this
          exact this
        · rw [if_neg b]
          by_cases c : (k : Int) ≤ cntB w k
          · rw [if_pos c, e_X_lettersIn_36, if_neg (by rw [zw_id (by omega) (by omega)]; exact b), e_X_lettersIn_44, ← Int.natCast_succ]
            have := ih (k + 1) (by omega) (by rw [hs, if_pos ⟨by omega, Or.inr (by omega)⟩])
            rw [cntB_s, if_neg b] at this
            exact this
          · rw [if_neg c]
            exact bad (by rw [hs, if_neg (by omega)])
  rw [e_X_lettersIn_0]
  exact loop 8 0 (by omega) rfl
end
section
/-! ===== fault ===== -/
def ftStep (s : Int × Int) (v : Int) : Option (Int × Int) := if (97 ≤ v ∧ v ≤ 104) ∧ s.2 < 5 then some (s.1, s.2 + 1) else if v = 44 ∧ 0 < s.2 ∧ s.1 < 7 then some (s.1 + 1, 0) else none
/-- how far a text is good, and where its reading stands then -/
def ftF (f : Nat → Int) : Nat → Nat → Int × Int → Nat × (Int × Int)
  | 0, k, s => (k, s)
  | n + 1, k, s => match ftStep s (f k) with
    | none => (k, s)
    | some s' => ftF f n (k + 1) s'
def ftS (G : Nat → Int → Int) : Nat × (Int × Int) := ftF (fun k => G pM_page k) (G pM 1).toNat 0 (0, 0)
theorem ftF_some {f : Nat → Int} {n k : Nat} {s s' : Int × Int} (h : ftStep s (f k) = some s') : ftF f (n + 1) k s = ftF f n (k + 1) s' := by rw [ftF, h]
theorem ftF_none {f : Nat → Int} {n k : Nat} {s : Int × Int} (h : ftStep s (f k) = none) : ftF f (n + 1) k s = (k, s) := by rw [ftF, h]
theorem X_firstFault (xs : List Int) {G g : Nat → Int → Int} (hB : Bd G) (h : Rel G g) : zx zblk xs 64 0 [some (.inr (.inr (some pX)))] [] (HH g) = some (some (.inl ((ftS G).1 : Int)), HH g) := by
  obtain ⟨⟨h0, h1⟩, -⟩ := id hB.1
  have hl := pL_len hB.1
  have loop : ∀ (r k : Nat) (c l : Int), (k : Int) + r = G pM 1 → 0 ≤ c → c ≤ 7 → 0 ≤ l → l ≤ 5 → zx zblk xs 64 6 [some (.inr (.inr (some pX))), some (.inl (c)), some (.inl (l)), some (.inl ((k : Int)))] [] (HH g) = some (some (.inl ((ftF (fun k => G pM_page k) r k (c, l)).1 : Int)), HH g) := by
    intro r
    induction r with
    | zero =>
      intro k c l hk c0 c1 l0 l1
      rw [e_X_firstFault_6, pX_r_page, Rw_ck Rw14, Row_size xs Rw14 h.2.2.1, zci_ok, hl.1, if_pos (by rw [zw_id (by omega) (by omega), zw_id (by omega) (by omega)]; omega), e_X_firstFault_80, pX_r_page, Rw_ck Rw14, Row_size xs Rw14 h.2.2.1, zci_ok, hl.1, ftF, ← hk]
      simp
    | succ r ih =>
      intro k c l hk c0 c1 l0 l1
      have hpk := hB.2.1 k (by omega) (by omega)
      have hat : zat (pL G) (k : Int) = G pM_page k := by unfold pL; rw [zat_Li (by omega)]; rfl
      have e74 : ∀ v1 v2 : Int, zx zblk xs 64 74 [some (.inr (.inr (some pX))), some (.inl (v1)), some (.inl (v2)), some (.inl ((k : Int)))] [] (HH g) = zx zblk xs 64 6 [some (.inr (.inr (some pX))), some (.inl (v1)), some (.inl (v2)), some (.inl (((k + 1 : Nat) : Int)))] [] (HH g) := fun v1 v2 => by rw [e_X_firstFault_74, ← Int.natCast_succ]
      have e47 : ¬ ((97 ≤ G pM_page k ∧ G pM_page k ≤ 104) ∧ l < 5) → zx zblk xs 64 47 [some (.inr (.inr (some pX))), some (.inl (c)), some (.inl (l)), some (.inl ((k : Int))), some (.inl (G pM_page k))] [] (HH g) = some (some (.inl ((ftF (fun k => G pM_page k) (r + 1) k (c, l)).1 : Int)), HH g) := by
        intro no
        rw [e_X_firstFault_47, zw_id (a := G pM_page k) (by omega) (by omega), show zw 44 = 44 from rfl, zw_id (a := l) (by omega) (by omega), show zw 7 = 7 from rfl, zw_id (a := c) (by omega) (by omega), e_X_firstFault_72, e74]
        by_cases a : G pM_page k = 44 ∧ 0 < l ∧ c < 7
        · rw [if_neg (by omega), if_neg (by omega), if_neg (by omega), ftF_some (s' := (c + 1, 0)) (by show ftStep (c, l) (G pM_page k) = _; unfold ftStep; rw [if_neg no, if_pos a])]
          exact ih (k + 1) (c + 1) 0 (by omega) (by omega) (by omega) (by omega) (by omega)
        · rw [ftF_none (by show ftStep (c, l) (G pM_page k) = _; unfold ftStep; rw [if_neg no, if_neg a])]
          by_cases a1 : G pM_page k = 44
          · rw [if_neg (by omega)]
            by_cases a2 : l ≤ 0
            · rw [if_pos a2]
            · rw [if_neg a2, if_pos (by omega)]
          · rw [if_pos a1]
      rw [e_X_firstFault_6, pX_r_page, Rw_ck Rw14, Row_size xs Rw14 h.2.2.1, zci_ok, hl.1, if_neg (by rw [zw_id (by omega) (by omega), zw_id (by omega) (by omega)]; omega), pX_r_page, Rw_ck Rw14, Row_at xs Rw14 h.2.2.1 hl.2 k (zw_id (by omega) (by omega)), zci_ok, hat, X_signalOf xs _ _ (zw_id (by omega) (by omega)), zci_ok, show zw (-1) = -1 from rfl, show zw 5 = 5 from rfl, zw_id (a := l) (by omega) (by omega)]
      by_cases a : 97 ≤ G pM_page k ∧ G pM_page k ≤ 104
      · rw [if_pos a, zw_id (by omega) (by omega), if_neg (by omega)]
        by_cases b : l < 5
        · rw [if_neg (by omega), e74, ftF_some (s' := (c, l + 1)) (by show ftStep (c, l) (G pM_page k) = _; unfold ftStep; rw [if_pos ⟨a, b⟩])]
          exact ih (k + 1) c (l + 1) (by omega) (by omega) (by omega) (by omega) (by omega)
        · rw [if_pos (by omega), e47 (fun z => b z.2)]
      · rw [if_neg a, show zw (-1) = -1 from rfl, if_pos rfl, e47 (fun z => a z.1)]
  rw [e_X_firstFault_0]
  exact loop (G pM 1).toNat 0 0 0 (by omega) (by omega) (by omega) (by omega) (by omega)
end
section
/-! ===== the reference's reading, and what it writes down ===== -/
/-- the speeches of the first k letters: those that are done and the one that goes on -/
def rdF (f : Nat → Int) : Nat → List (List Int) × List Int
  | 0 => ([], [])
  | k + 1 => if f k = 44 then ((rdF f k).1 ++ [(rdF f k).2], []) else ((rdF f k).1, (rdF f k).2 ++ [f k - 97])
end
section
/-! ===== the class reads a code ===== -/
def rdN (f : Nat → Int) (k : Nat) : Int × Int := ((rdF f k).1.length, (rdF f k).2.length)
theorem rdN_s {f : Nat → Int} {k : Nat} {s : Int × Int} (h : ftStep (rdN f k) (f k) = some s) : s = rdN f (k + 1) := by
  unfold ftStep at h
  unfold rdN at h ⊢
  by_cases a : (97 ≤ f k ∧ f k ≤ 104) ∧ ((rdF f k).2.length : Int) < 5
  · rw [if_pos a] at h
    have hs := (Option.some.inj h).symm
    rw [hs, rdF, if_neg (by omega)]
    simp
  · rw [if_neg a] at h
    by_cases b : f k = 44 ∧ 0 < ((rdF f k).2.length : Int) ∧ ((rdF f k).1.length : Int) < 7
    · rw [if_pos b] at h
      have hs := (Option.some.inj h).symm
      rw [hs, rdF, if_pos b.1]
      simp
    · rw [if_neg b] at h
      exact absurd h (by simp)
theorem ftF_gd {f : Nat → Int} : ∀ {n k : Nat}, (ftF f n k (rdN f k)).1 = k + n → ∀ j, j < n → ∃ s, ftStep (rdN f (k + j)) (f (k + j)) = some s
  | 0, _, _, j, hj => by omega
  | n + 1, k, h, j, hj => by
    cases hst : ftStep (rdN f k) (f k) with
    | none =>
      rw [ftF_none hst] at h
      simp at h
    | some s =>
      have hs := rdN_s hst
      subst hs
      rw [ftF_some hst] at h
      by_cases e : j = 0
      · subst e; exact ⟨_, hst⟩
      · obtain ⟨s, hs⟩ := ftF_gd (f := f) (n := n) (k := k + 1) (by rw [h]; omega) (j - 1) (by omega)
        rw [show k + 1 + (j - 1) = k + j by omega] at hs
        exact ⟨s, hs⟩
/-- a text that is good all through -/
def gdT (f : Nat → Int) (n : Nat) : Prop := ∀ k, k < n → ∃ s, ftStep (rdN f k) (f k) = some s
theorem gdT_rg {f : Nat → Int} {n : Nat} (h : gdT f n) : ∀ k, k ≤ n → (rdF f k).1.length ≤ 7 ∧ (rdF f k).2.length ≤ 5 ∧ (∀ l ∈ (rdF f k).1, 1 ≤ l.length ∧ l.length ≤ 5 ∧ isR7 l) ∧ isR7 (rdF f k).2 := by
  intro k
  induction k with
  | zero => intro _; simp [rdF, isR7]
  | succ k ih =>
    intro hk
    obtain ⟨i1, i2, i3, i4⟩ := ih (by omega)
    obtain ⟨s, hs⟩ := h k (by omega)
    unfold ftStep rdN at hs
    by_cases a : (97 ≤ f k ∧ f k ≤ 104) ∧ ((rdF f k).2.length : Int) < 5
    · rw [rdF, if_neg (by omega)]
      refine ⟨i1, by simp; omega, i3, ?_⟩
      intro v hv
      rcases List.mem_append.mp hv with hv | hv
      · exact i4 v hv
      · rw [List.mem_singleton.mp hv]; omega
    · rw [if_neg a] at hs
      by_cases b : f k = 44 ∧ 0 < ((rdF f k).2.length : Int) ∧ ((rdF f k).1.length : Int) < 7
      · rw [rdF, if_pos b.1]
        refine ⟨by simp; omega, by simp, ?_, by intro v hv; simp at hv⟩
        intro l hl
        rcases List.mem_append.mp hl with hl | hl
        · exact i3 l hl
        · rw [List.mem_singleton.mp hl]; exact ⟨by omega, i2, i4⟩
      · rw [if_neg b] at hs
        exact absurd hs (by simp)
def rdA (f : Nat → Int) (k : Nat) : List (List Int) := (rdF f k).1 ++ [(rdF f k).2]
theorem rdA_len (f : Nat → Int) (k : Nat) : (rdA f k).length = (rdF f k).1.length + 1 := by simp [rdA]
theorem rdA_last (f : Nat → Int) (k : Nat) : (rdA f k).getD (rdF f k).1.length [] = (rdF f k).2 := by simp [rdA, List.getD]
theorem Code_readFrom (xs : List Int) {g : Nat → Int → Int} {P : Nat} (hP : zCo P) (hP2 : 101 ≤ P) {p2 n2 : Nat} {f : Nat → Int} {n : Nat} (h2 : zRw p2 n2) (hp2 : p2 + 1 < 101) (hl2 : zRow g p2 (zLi f n)) (hn2 : n ≤ n2) (hf : ∀ k, k < n → zw (f k) = f k) (hg : gdT f n) (he : ∀ i, i < 8 → zRow g (P + 1 + 4 + 2 * i) []) : ∃ g1, zx zblk xs 5 0 [some (.inr (.inr (some P))), some (.inr (.inr (some p2)))] [] (HH g) = some (none, HH g1) ∧ g1 P 2 = ((rdA f n).length : Int) ∧ (∀ i, i < 8 → zRow g1 (P + 1 + 4 + 2 * i) ((rdA f n).getD i [])) ∧ zFr (fun q j => (q = P ∧ j = 2) ∨ (P + 5 ≤ q ∧ q ≤ P + 20)) g g1 := by
  have hn20 := h2.2.1
  have hll : (zLi f n).length = n := zLi_len _ _
  have loop : ∀ (r k : Nat) (gk : Nat → Int → Int), k + r = n → gk P 2 = ((rdA f k).length : Int) → (∀ i, i < 8 → zRow gk (P + 1 + 4 + 2 * i) ((rdA f k).getD i [])) → zFr (fun q j => (q = P ∧ j = 2) ∨ (P + 5 ≤ q ∧ q ≤ P + 20)) g gk → ∃ g1, zx zblk xs 5 7 [some (.inr (.inr (some P))), some (.inr (.inr (some p2))), some (.inl ((k : Int)))] [] (HH gk) = some (none, HH g1) ∧ g1 P 2 = ((rdA f n).length : Int) ∧ (∀ i, i < 8 → zRow g1 (P + 1 + 4 + 2 * i) ((rdA f n).getD i [])) ∧ zFr (fun q j => (q = P ∧ j = 2) ∨ (P + 5 ≤ q ∧ q ≤ P + 20)) g g1 := by
    intro r
    induction r with
    | zero =>
      intro k gk hk hs hr hfr
      have : k = n := by omega
      subst this
      have hl : zRow gk p2 (zLi f k) := zRow_fr hl2 (hfr.at (fun j => by omega)) (hfr.at (fun j => by omega))
      refine ⟨gk, ?_, hs, hr, hfr⟩
      rw [e_Code_readFrom_7, Rw_ck h2, Row_size xs h2 hl, zci_ok, hll, if_pos (Int.le_refl _), e_Code_readFrom_62]
    | succ r ih =>
      intro k gk hk hs hr hfr
      have hl : zRow gk p2 (zLi f n) := zRow_fr hl2 (hfr.at (fun j => by omega)) (hfr.at (fun j => by omega))
      have hat : zat (zLi f n) (k : Int) = f k := by rw [zat_Li (by omega)]; rfl
      obtain ⟨i1, i2, i3, i4⟩ := gdT_rg hg k (by omega)
      obtain ⟨s, hst⟩ := hg k (by omega)
      have hal := rdA_len f k
      unfold ftStep rdN at hst
      rw [e_Code_readFrom_7, Rw_ck h2, Row_size xs h2 hl, zci_ok, hll, if_neg (by rw [zw_id (by omega) (by omega), zw_id (by omega) (by omega)]; omega), Rw_ck h2, Row_at xs h2 hl (by omega) k (zw_id (by omega) (by omega)), zci_ok, hat, X_signalOf xs _ _ (hf k (by omega)), zci_ok, show zw (-1) = -1 from rfl]
      by_cases a : (97 ≤ f k ∧ f k ≤ 104) ∧ ((rdF f k).2.length : Int) < 5
      · have hrd : rdA f (k + 1) = (rdF f k).1 ++ [(rdF f k).2 ++ [f k - 97]] := by
          unfold rdA
          rw [rdF, if_neg (by omega)]
        have hrw : zRw (P + 1 + 4 + 2 * (rdF f k).1.length) 5 := hP.2.2.1.2.2.2.2 _ (by omega)
        have hlast := hr (rdF f k).1.length (by omega)
        rw [rdA_last] at hlast
        obtain ⟨g2, p1, p2', p3⟩ := Row_add xs hrw hlast (by omega) (f k - 97)
        obtain ⟨g1, q1, q2, q3, q4⟩ := ih (k + 1) g2 (by omega) (by
          rw [p3 P 2 (by simp only [scR]; omega), hs, hal, hrd]
          simp) (fun i hi => by
          rw [hrd]
          by_cases e : i = (rdF f k).1.length
          · subst e
            rw [show ((rdF f k).1 ++ [(rdF f k).2 ++ [f k - 97]]).getD (rdF f k).1.length [] = (rdF f k).2 ++ [f k - 97] by simp [List.getD]]
            exact p2'
          · have h1 := zRow_fr (hr i hi) (p3.at (fun j => by simp only [scR]; omega)) (p3.at (fun j => by simp only [scR]; omega))
            have h2 : ((rdF f k).1 ++ [(rdF f k).2 ++ [f k - 97]]).getD i [] = (rdA f k).getD i [] := by
              unfold rdA
              by_cases e2 : i < (rdF f k).1.length
              · simp [List.getD, List.getElem?_append_left e2]
              · simp [List.getD, List.getElem?_append_right (show (rdF f k).1.length ≤ i by omega), show ¬ i - (rdF f k).1.length = 0 by omega]
            rw [h2]
            exact h1) (hfr.tr (p3.mono (fun q j z => by simp only [scR] at z; omega)))
        refine ⟨g1, ?_, q2, q3, q4⟩
        rw [if_pos a.1, zw_id (by omega) (by omega), if_pos (by omega), e_Code_readFrom_42, Co_g hP, hs, hal, Co_ck hP, show (((rdF f k).1.length + 1 : Nat) : Int) - 1 = ((rdF f k).1.length : Int) by omega, Code_spoken xs hP _ (by omega), zcr_ok, Rw_ck hrw, p1, zcv_ok, e_Code_readFrom_56, ← Int.natCast_succ]
        exact q1
      · rw [if_neg a] at hst
        by_cases b : f k = 44 ∧ 0 < ((rdF f k).2.length : Int) ∧ ((rdF f k).1.length : Int) < 7
        · have hrd : rdA f (k + 1) = rdA f k ++ [[]] := by
            unfold rdA
            rw [rdF, if_pos b.1]
          obtain ⟨g1, q1, q2, q3, q4⟩ := ih (k + 1) (up gk P 2 ((rdA f k).length + 1)) (by omega) (by
            rw [up_same, hrd]
            simp) (fun i hi => by
            rw [hrd]
            have h1 := zRow_fr (hr i hi) (up_p gk 2 (((rdA f k).length : Int) + 1) (show P + 1 + 4 + 2 * i ≠ P by omega)) (up_p gk 2 (((rdA f k).length : Int) + 1) (show P + 1 + 4 + 2 * i + 1 ≠ P by omega))
            have h2 : (rdA f k ++ [[]]).getD i [] = (rdA f k).getD i [] := by
              by_cases e2 : i < (rdA f k).length
              · simp [List.getD, List.getElem?_append_left e2]
              · rw [List.getD, List.getD, List.getElem?_append_right (by omega), List.getElem?_eq_none (show (rdA f k).length ≤ i by omega)]
                by_cases e3 : i - (rdA f k).length = 0
                · rw [e3]; rfl
                · rw [List.getElem?_eq_none (by simp; omega)]
            rw [h2]
            exact h1) (hfr.up (Or.inl ⟨rfl, rfl⟩))
          refine ⟨g1, ?_, q2, q3, q4⟩
          rw [if_neg (show ¬ (97 ≤ f k ∧ f k ≤ 104) by omega), show zw (-1) = -1 from rfl, if_neg (by simp), Co_g hP, hs, Co_p hP, e_Code_readFrom_56, ← Int.natCast_succ]
          exact q1
        · rw [if_neg b] at hst
          exact absurd hst (by simp)
  obtain ⟨g1, q1, q2, q3, q4⟩ := loop n 0 (up g P 2 1) (by omega) (by rw [up_same]; rfl) (fun i hi => by
    have h2 : (rdA f 0).getD i [] = [] := by cases i <;> simp [rdA, rdF, List.getD]
    rw [h2]
    exact zRow_fr (he i hi) (up_p _ _ _ (by omega)) (up_p _ _ _ (by omega))) (zFr.rf.up (Or.inl ⟨rfl, rfl⟩))
  rw [z0N] at q1
  refine ⟨g1, ?_, q2, q3, q4⟩
  rw [e_Code_readFrom_0, Co_p hP]
  exact q1
end
section
/-! ===== the class lays a code plain ===== -/
theorem Code_makePlain (xs : List Int) {G g : Nat → Int → Int} (hQ : bdQ G) (hS : bdS G) (h : RelS G g) {P n : Nat} (hP : zCo P) (hP2 : 101 ≤ P) (hn8 : n ≤ 8) (hn : g P 2 = n) {R : Nat → List Int} (hR : ∀ i, i < n → zRow g (P + 1 + 4 + 2 * i) (R i) ∧ (R i).length ≤ 5 ∧ isR7 (R i)) : ∃ g1, zx zblk xs 6 0 [some (.inr (.inr (some P))), some (.inr (.inr (some pX_signals)))] [] (HH g) = some (none, HH g1) ∧ (∀ i, i < n → zRow g1 (P + 21 + 4 + 2 * i) (pln G 0 (fun k => (R i).getD k 0) (R i).length)) ∧ zFr (fun q _ => P + 25 ≤ q ∧ q ≤ P + 40) g g1 := by
  have loop : ∀ (r i : Nat) (gk : Nat → Int → Int), i + r = n → (∀ j, j < i → zRow gk (P + 21 + 4 + 2 * j) (pln G 0 (fun k => (R j).getD k 0) (R j).length)) → zFr (fun q _ => P + 25 ≤ q ∧ q ≤ P + 40) g gk → ∃ g1, zx zblk xs 6 2 [some (.inr (.inr (some P))), some (.inr (.inr (some pX_signals))), some (.inl ((i : Int)))] [] (HH gk) = some (none, HH g1) ∧ (∀ i, i < n → zRow g1 (P + 21 + 4 + 2 * i) (pln G 0 (fun k => (R i).getD k 0) (R i).length)) ∧ zFr (fun q _ => P + 25 ≤ q ∧ q ≤ P + 40) g g1 := by
    intro r
    induction r with
    | zero =>
      intro i gk hi hj hf
      have : i = n := by omega
      subst this
      have k2 : gk P 2 = i := by rw [hf P 2 (by omega)]; exact hn
      refine ⟨gk, ?_, hj, hf⟩
      rw [e_Code_makePlain_2, Co_g hP, k2, if_pos (Int.le_refl _), e_Code_makePlain_31]
    | succ r ih =>
      intro i gk hi hj hf
      have k2 : gk P 2 = n := by rw [hf P 2 (by omega)]; exact hn
      obtain ⟨r1, r2, r3⟩ := hR i (by omega)
      have hsp : zRw (P + 1 + 4 + 2 * i) 5 := hP.2.2.1.2.2.2.2 i (by omega)
      have hpl : zRw (P + 21 + 4 + 2 * i) 10 := hP.2.2.2.2.2.2.2 i (by omega)
      obtain ⟨g2, p1, p2, p3⟩ := Signals_makePlain xs hQ hS (RelS_fr h (fun q h3 h10 => hf.at (fun j => by omega))) hpl (by omega) hsp (zRow_fr r1 (hf.at (fun j => by omega)) (hf.at (fun j => by omega))) r2 (isR7_int r3) (by omega) 0 (by omega)
      obtain ⟨g1, q1, q2, q3⟩ := ih (i + 1) g2 (by omega) (fun j hj' => by
        by_cases e : j = i
        · subst e; exact p2
        · exact zRow_fr (hj j (by omega)) (p3.at (fun k => by simp only [scR]; omega)) (p3.at (fun k => by simp only [scR]; omega))) (hf.tr (p3.mono (fun q j z => by simp only [scR] at z; omega)))
      refine ⟨g1, ?_, q2, q3⟩
      rw [e_Code_makePlain_2, Co_g hP, k2, if_neg (by rw [zw_id (by omega) (by omega), zw_id (by omega) (by omega)]; omega), Co_ck hP, Code_spoken xs hP i (by omega), zcr_ok, Co_ck hP, Code_plain xs hP i (by omega), zcr_ok, Sg_ck, p1, zcv_ok, ← Int.natCast_succ]
      exact q1
  obtain ⟨g1, q1, q2, q3⟩ := loop n 0 g (by omega) (fun j hj => by omega) zFr.rf
  rw [z0N] at q1
  refine ⟨g1, ?_, q2, q3⟩
  rw [e_Code_makePlain_0]
  exact q1
end
section
/-! ===== a code is read: what the texts say ===== -/
theorem gdT_of {f : Nat → Int} {n : Nat} (h : (ftF f n 0 (0, 0)).1 = n) : gdT f n := by
  intro k hk
  obtain ⟨s, hs⟩ := ftF_gd (f := f) (n := n) (k := 0) (by rw [Nat.zero_add]; exact h) k hk
  rw [Nat.zero_add] at hs
  exact ⟨s, hs⟩
theorem rd_ends {f : Nat → Int} {m : Nat} (h : gdT f (m + 1)) : (rdF f (m + 1)).2.length ≠ 0 ↔ 97 ≤ f m ∧ f m ≤ 104 := by
  obtain ⟨s, hs⟩ := h m (by omega)
  unfold ftStep at hs
  by_cases a : (97 ≤ f m ∧ f m ≤ 104) ∧ (rdN f m).2 < 5
  · rw [rdF, if_neg (by omega)]
    simp
    exact a.1
  · rw [if_neg a] at hs
    by_cases b : f m = 44 ∧ 0 < (rdN f m).2 ∧ (rdN f m).1 < 7
    · rw [rdF, if_pos b.1]
      simp
      omega
    · rw [if_neg b] at hs
      exact absurd hs (by simp)
theorem rdA_ok {f : Nat → Int} {n : Nat} (h : gdT f n) (hC : (rdF f n).2.length ≠ 0) {s : Nat} (hs : s < (rdA f n).length) : 1 ≤ ((rdA f n).getD s []).length ∧ ((rdA f n).getD s []).length ≤ 5 ∧ isR7 ((rdA f n).getD s []) := by
  obtain ⟨h1, h2, h3, h4⟩ := gdT_rg h n (Nat.le_refl _)
  have hm : (rdA f n).getD s [] ∈ rdA f n := by
    rw [show (rdA f n).getD s [] = (rdA f n)[s] by simp [List.getD, hs]]
    exact List.getElem_mem hs
  unfold rdA at hm
  rcases List.mem_append.mp hm with hm | hm
  · exact h3 _ hm
  · have := List.mem_singleton.mp hm
    unfold rdA
    rw [this]
    exact ⟨by omega, h2, h4⟩
theorem pln_G {G G1 : Nat → Int → Int} (e1 : G1 pM_signalRows = G pM_signalRows) (e2 : G1 pM 8 = G pM 8) : pln G1 = pln G := by
  have k : kindS G1 = kindS G := by
    funext s
    unfold kindS
    rw [e1, e2]
  have st : stp G1 = stp G := by
    funext l s
    unfold stp
    rw [k, e1]
  funext st' f n
  induction n with
  | zero => rfl
  | succ n ih => simp only [pln, ih, st]
theorem rowL_of {G : Nat → Int → Int} {c s : Int} {l : List Int} (h1 : G pM_rows (48 * c + 6 * s) = l.length) (h2 : ∀ (j : Nat) (hj : j < l.length), G pM_rows (48 * c + 6 * s + 1 + j) = l[j]) : lenS G c s = l.length ∧ (∀ j, j < l.length → rowS G c s j = l.getD j 0) ∧ rowL G c s = l := by
  have hl : lenS G c s = l.length := by unfold lenS; rw [h1]; omega
  have hr : ∀ j, j < l.length → rowS G c s j = l.getD j 0 := fun j hj => by
    unfold rowS
    rw [h2 j hj]
    simp [List.getD, hj]
  refine ⟨hl, hr, ?_⟩
  unfold rowL
  rw [hl]
  apply List.ext_getElem
  · rw [zLi_len]
  · intro i q1 q2
    rw [zLi_get, hr i q2]
    simp [List.getD, q2]
end
section
/-! ===== the class takes a code ===== -/
theorem X_code_go (xs : List Int) {g : Nat → Int → Int} (hI : Inv g) {n m : Nat} (h5 : g pM 5 = n) (hn : n < 4) (hm : (g pM 1).toNat = m) (hgd : gdT (fun k => g pM_page k) m) (hC : (rdF (fun k => g pM_page k) m).2.length ≠ 0) : ∃ g1, zx zblk xs 46 50 [some (.inr (.inr (some pX)))] [] (HH g) = some (some (.inl (n : Int)), HH g1) ∧ g1 pX 3 = n + 1 ∧ zRow g1 14 [] ∧ zCd g1 (PC n) (rdA (fun k => g pM_page k) m).length (fun s => pln g 0 (fun k => ((rdA (fun k => g pM_page k) m).getD s []).getD k 0) ((rdA (fun k => g pM_page k) m).getD s []).length) ∧ (∀ s, s < (rdA (fun k => g pM_page k) m).length → zRow g1 (PC n + 1 + 4 + 2 * s) ((rdA (fun k => g pM_page k) m).getD s [])) ∧ (∀ q, q ≠ 14 → q ≠ 15 → (q < PC n ∨ PC n + 40 < q) → q ≠ pX → g1 q = g q) ∧ ∀ j, j ≠ 3 → g1 pX j = g pX j := by
  obtain ⟨hB, hR⟩ := id hI
  obtain ⟨r1, r2, r3, r4, r5, r6⟩ := id hR
  obtain ⟨q1, q5, q8, q10, q18⟩ := id hB.1
  have hP := zCo_PC hn
  have h3 : g pX 3 = n := by rw [r4.1, h5]
  have h4 : zsh[pX_codes - 1]? = some (102, [104, 145, 186, 227]) := rfl
  have hr : ([104, 145, 186, 227] : List Nat)[(n : Int).toNat]? = some (PC n + 3) := by
    have : n = 0 ∨ n = 1 ∨ n = 2 ∨ n = 3 := by omega
    rcases this with rfl | rfl | rfl | rfl <;> rfl
  have hpl : pL g = zLi (fun k => g pM_page k) m := by unfold pL; rw [hm]
  obtain ⟨ga, a1, a2, a3, a4⟩ := Code_readFrom xs (g := g) hP (by simp only [PC]; omega) (f := fun k => g pM_page k) (n := m) Rw14 (by omega) (by rw [← hpl]; exact r3) (by omega) (fun k hk => by have := hB.2.1 k (by omega) (by omega); exact zw_id (by omega) (by omega)) hgd ((r4.2 n hn).2 (by omega))
  obtain ⟨i1, i2, i3, i4⟩ := gdT_rg hgd m (Nat.le_refl _)
  have hal := rdA_len (fun k : Nat => g pM_page k) m
  have haX : ∀ q, (q < PC n ∨ PC n + 40 < q) → ga q = g q := fun q hq => a4.at (fun j => by omega)
  obtain ⟨gb, b1, b2, b3⟩ := Code_makePlain xs (G := g) (g := ga) hB.1 hB.2.2.2.1 (RelS_fr r1 (fun q h1 h2 => haX q (by simp only [PC]; omega))) hP (by simp only [PC]; omega) (n := (rdA (fun k => g pM_page k) m).length) (by omega) a2 (R := fun i => (rdA (fun k => g pM_page k) m).getD i []) (fun i hi => ⟨a3 i (by omega), (rdA_ok hgd hC hi).2⟩)
  have hbX : ∀ q, (q < PC n ∨ PC n + 40 < q) → gb q = g q := fun q hq => by rw [b3.at (fun j => by omega), haX q hq]
  obtain ⟨w1, w2, w3⟩ := Row_wipe xs (g := gb) Rw14
  have hcX : ∀ q, q ≠ 14 → q ≠ 15 → up gb 14 1 0 q = gb q := fun q h1 h2 => w3.at (fun j => by simp only [scR]; omega)
  have hpx : pX < PC n := by simp only [PC, pX]; omega
  have k3 : up gb 14 1 0 pX 3 = n := by rw [hcX pX (by decide) (by decide), hbX pX (Or.inl hpx)]; exact h3
  have u0 : ∀ q, q ≠ pX → up (up gb 14 1 0) pX 3 ((n : Int) + 1) q = up gb 14 1 0 q := fun q h => up_p _ _ _ h
  refine ⟨up (up gb 14 1 0) pX 3 ((n : Int) + 1), ?_, up_same _ _ _ _, zRow_fr w2 (u0 _ (by decide)) (u0 _ (by decide)), ⟨hP, ?_, by omega, fun i hi => ⟨?_, ?_, ?_⟩⟩, fun i hi => ?_, fun q h1 h2 h3 h4 => by rw [u0 q h4, hcX q h1 h2, hbX q h3], fun j hj => by rw [up_ne _ _ (fun z => hj z.2), hcX pX (by decide) (by decide), hbX pX (Or.inl hpx)]⟩
  · rw [e_X_code_50, pX_g_codesRead, h3, zw_id (by omega) (by omega), if_neg (by omega), pX_g_codesRead, h3, pX_r_codes, HH_ln h4 (by decide) (by show 100 ≤ 102; omega), if_pos (by show zw (n : Int) < zw 4; rw [show zw 4 = 4 from rfl, zw_id (by omega) (by omega)]; omega), e_X_code_72, pX_r_codes, pX_g_codesRead, h3, HH_aa (n := 0) h4 (by decide) (by omega) (by omega) (by omega) hr, zif_some, e_X_code_89, pX_r_page, Co_ck hP, a1, zcv_ok, pX_r_signals, Co_ck hP, b1, zcv_ok, pX_r_page, Rw_ck Rw14, w1, zcv_ok, pX_g_codesRead, k3, pX_p_codesRead, pX_g_codesRead, up_same, show (n : Int) + 1 - 1 = n by omega]
  · rw [u0 _ (by omega), hcX _ (by simp only [PC]; omega) (by simp only [PC]; omega), b3 _ _ (by omega)]
    exact a2
  · exact zRow_fr (b2 i hi) (by rw [u0 _ (by omega), hcX _ (by simp only [PC]; omega) (by simp only [PC]; omega)]) (by rw [u0 _ (by omega), hcX _ (by simp only [PC]; omega) (by simp only [PC]; omega)])
  · have := pln_len g 0 (fun k => ((rdA (fun k => g pM_page k) m).getD i []).getD k 0) ((rdA (fun k => g pM_page k) m).getD i []).length
    have := (rdA_ok hgd hC hi).2.1
    show (pln g 0 (fun k => ((rdA (fun k => g pM_page k) m).getD i []).getD k 0) ((rdA (fun k => g pM_page k) m).getD i []).length).length ≤ 10
    omega
  · refine isR7_pln hB.2.2.2.1 0 (fun k hk => ?_)
    have := isR7_get (rdA_ok hgd hC hi).2.2 hk
    rw [show ((rdA (fun k => g pM_page k) m).getD i []).getD k 0 = ((rdA (fun k => g pM_page k) m).getD i [])[k] by rw [List.getD, List.getElem?_eq_getElem hk, Option.getD_some]]
    exact this
  · have hi8 : i < 8 := by omega
    refine zRow_fr (a3 i hi8) ?_ ?_
    · rw [u0 _ (by omega), hcX _ (by simp only [PC]; omega) (by simp only [PC]; omega), b3.at (fun j => by omega)]
    · rw [u0 _ (by omega), hcX _ (by simp only [PC]; omega) (by simp only [PC]; omega), b3.at (fun j => by omega)]
end
section
/-! ===== code ===== -/
theorem zCd_cg {g : Nat → Int → Int} {P n : Nat} {L L' : Nat → List Int} (h : zCd g P n L) (e : ∀ i, i < n → L' i = L i) : zCd g P n L' := by
  obtain ⟨h1, h2, h3, h4⟩ := h
  exact ⟨h1, h2, h3, fun i hi => by rw [e i hi]; exact h4 i hi⟩
/-- a code of other rows stays what it is -/
theorem code_keep {G G1 : Nat → Int → Int} (hB : Bd G) {c : Int} (hc : 0 ≤ c ∧ c < G pM 5) (e1 : G1 pM_signalRows = G pM_signalRows) (e2 : G1 pM 8 = G pM 8) (e3 : ∀ j : Int, 48 * c ≤ j → j < 48 * c + 48 → G1 pM_rows j = G pM_rows j) (e4 : G1 pM_speeches c = G pM_speeches c) : nS G1 c = nS G c ∧ ∀ s : Nat, s < nS G c → rowL G1 c s = rowL G c s ∧ plS G1 0 c s = plS G 0 c s := by
  obtain ⟨n1, n2, n3⟩ := nS_rg hB hc
  refine ⟨by unfold nS; rw [e4], fun s hs => ?_⟩
  obtain ⟨l1, l2, l3, l4⟩ := lenS_rg hB.2.2.1 hc (s := s) (by omega)
  have hl : lenS G1 c s = lenS G c s := by unfold lenS; rw [e3 _ (by omega) (by omega)]
  have hr : ∀ k, k < lenS G c s → rowS G1 c s k = rowS G c s k := fun k hk => by unfold rowS; rw [e3 _ (by omega) (by omega)]
  constructor
  · unfold rowL
    rw [hl]
    exact zLi_cg hr
  · unfold plS
    rw [hl, pln_G e1 e2]
    exact pln_cg G 0 hr
end
section
/-! ===== signal ===== -/
theorem X_codeAt_q (xs : List Int) {g : Nat → Int → Int} {c n : Nat} (h3 : g pX 3 = n) (hn : n ≤ 4) (hc : c < n) : zx zblk xs 69 0 [some (.inr (.inr (some pX))), some (.inl ((c : Int)))] [] (HH g) = some (some (.inr (.inr (some (PC c)))), HH g) := by
  have h4 : zsh[pX_codes - 1]? = some (102, [104, 145, 186, 227]) := rfl
  have hr : ([104, 145, 186, 227] : List Nat)[(c : Int).toNat]? = some (PC c + 3) := by
    have : c = 0 ∨ c = 1 ∨ c = 2 ∨ c = 3 := by omega
    rcases this with rfl | rfl | rfl | rfl <;> rfl
  rw [e_X_codeAt_0, zw_id (by omega) (by omega), if_neg (by omega), pX_g_codesRead, h3, zw_id (by omega) (by omega), if_neg (by omega), pX_r_codes, HH_ln h4 (by decide) (by show 100 ≤ 102; omega), if_neg (by show ¬ zw 4 ≤ _; rw [show zw 4 = 4 from rfl]; omega), pX_r_codes, HH_aa (n := 0) h4 (by decide) (by omega) (by omega) (by omega) hr, e_X_codeAt_31]
/-- the signals of a memory and of the next one -/
def sgNx (g G : Nat → Int → Int) (N : Nat) (k n se od : Int) : Prop := g pM 8 = N ∧ G pM 8 = (N : Int) + 1 ∧ (∀ j : Int, j < 4 * N → G pM_signalRows j = g pM_signalRows j) ∧ G pM_signalRows (4 * N) = k ∧ G pM_signalRows (4 * N + 1) = n ∧ G pM_signalRows (4 * N + 2) = se ∧ G pM_signalRows (4 * N + 3) = od
theorem sgNx_L {g G : Nat → Int → Int} {N : Nat} {k n se od : Int} (h : sgNx g G N k n se od) : sigL G 0 = sigL g 0 ++ [k] ∧ sigL G 1 = sigL g 1 ++ [n] ∧ sigL G 2 = sigL g 2 ++ [se] ∧ sigL G 3 = sigL g 3 ++ [od] := by
  obtain ⟨h1, h2, h3, h4, h5, h6, h7⟩ := h
  unfold sigL
  rw [h1, h2, show ((N : Int) + 1).toNat = N + 1 by omega, show ((N : Int)).toNat = N by omega, zLi_snoc, zLi_snoc, zLi_snoc, zLi_snoc, h5, h6, h7, Int.add_zero, h4]
  refine ⟨?_, ?_, ?_, ?_⟩
  · rw [zLi_cg (fun s hs => h3 _ (by omega))]
  · rw [zLi_cg (fun s hs => h3 _ (by omega))]
  · rw [zLi_cg (fun s hs => h3 _ (by omega))]
  · rw [zLi_cg (fun s hs => h3 _ (by omega))]
theorem Signals_tell (xs : List Int) {g G : Nat → Int → Int} {N : Nat} {k n se od : Int} (hN : N < 8) (h : sgNx g G N k n se od) (hR : RelS g g) : ∃ g1, zx zblk xs 34 0 [some (.inr (.inr (some pX_signals))), some (.inl (k)), some (.inl (n)), some (.inl (se)), some (.inl (od))] [] (HH g) = some (none, HH g1) ∧ RelS G g1 ∧ zFr (fun q _ => 3 ≤ q ∧ q ≤ 10) g g1 := by
  obtain ⟨l0, l1, l2, l3⟩ := sgNx_L h
  have hl : ∀ j, (sigL g j).length < 8 := fun j => by unfold sigL; rw [zLi_len, h.1]; omega
  obtain ⟨r0, r1, r2, r3⟩ := hR
  obtain ⟨ga, a1, a2, a3⟩ := Row_add xs Rw3 r0 (hl 0) k
  have fa : ∀ q, q ≠ 3 → q ≠ 4 → ga q = g q := fun q h1 h2 => a3.at (fun j => by simp only [scR]; omega)
  obtain ⟨gb, b1, b2, b3⟩ := Row_add xs Rw5 (zRow_fr r1 (fa _ (by omega) (by omega)) (fa _ (by omega) (by omega))) (hl 1) n
  have fb : ∀ q, q ≠ 5 → q ≠ 6 → gb q = ga q := fun q h1 h2 => b3.at (fun j => by simp only [scR]; omega)
  obtain ⟨gc, c1, c2, c3⟩ := Row_add xs Rw7 (zRow_fr (zRow_fr r2 (fa _ (by omega) (by omega)) (fa _ (by omega) (by omega))) (fb _ (by omega) (by omega)) (fb _ (by omega) (by omega))) (hl 2) se
  have fc : ∀ q, q ≠ 7 → q ≠ 8 → gc q = gb q := fun q h1 h2 => c3.at (fun j => by simp only [scR]; omega)
  obtain ⟨gd, d1, d2, d3⟩ := Row_add xs Rw9 (zRow_fr (zRow_fr (zRow_fr r3 (fa _ (by omega) (by omega)) (fa _ (by omega) (by omega))) (fb _ (by omega) (by omega)) (fb _ (by omega) (by omega))) (fc _ (by omega) (by omega)) (fc _ (by omega) (by omega))) (hl 3) od
  have fd : ∀ q, q ≠ 9 → q ≠ 10 → gd q = gc q := fun q h1 h2 => d3.at (fun j => by simp only [scR]; omega)
  refine ⟨gd, ?_, ⟨?_, ?_, ?_, ?_⟩, fun q j hq => ?_⟩
  · rw [e_Signals_tell_0, Sg_0, Rw_ck Rw3, a1, zcv_ok, Sg_1, Rw_ck Rw5, b1, zcv_ok, Sg_2, Rw_ck Rw7, c1, zcv_ok, Sg_3, Rw_ck Rw9, d1, zcv_ok]
  · rw [l0]
    exact zRow_fr (zRow_fr (zRow_fr a2 (fb _ (by omega) (by omega)) (fb _ (by omega) (by omega))) (fc _ (by omega) (by omega)) (fc _ (by omega) (by omega))) (fd _ (by omega) (by omega)) (fd _ (by omega) (by omega))
  · rw [l1]
    exact zRow_fr (zRow_fr b2 (fc _ (by omega) (by omega)) (fc _ (by omega) (by omega))) (fd _ (by omega) (by omega)) (fd _ (by omega) (by omega))
  · rw [l2]
    exact zRow_fr c2 (fd _ (by omega) (by omega)) (fd _ (by omega) (by omega))
  · rw [l3]
    exact d2
  · rw [fd q (by omega) (by omega), fc q (by omega) (by omega), fb q (by omega) (by omega), fa q (by omega) (by omega)]
theorem X_signal_go (xs : List Int) {g G : Nat → Int → Int} (hI : Inv g) {N C : Nat} {k n se od : Int} (hN : N < 8) (h : sgNx g G N k n se od) (hC : g pM 5 = C) (hQ : bdQ G) (hS : bdS G) (hro : G pM_rows = g pM_rows) : ∃ g1, zx zblk xs 47 68 [some (.inr (.inr (some pX))), some (.inl (k)), some (.inl (n)), some (.inl (se)), some (.inl (od))] [] (HH g) = zx zblk xs 47 120 [some (.inr (.inr (some pX)))] [] (HH g1) ∧ RelS G g1 ∧ (∀ c, c < C → zCd g1 (PC c) (nS g c) (fun s => plS G 0 c s)) ∧ zFr (fun q _ => (3 ≤ q ∧ q ≤ 10) ∨ ∃ c, c < C ∧ PC c + 25 ≤ q ∧ q ≤ PC c + 40) g g1 := by
  obtain ⟨hB, hR⟩ := id hI
  obtain ⟨-, q5, -⟩ := id hB.1
  obtain ⟨gt, t1, t2, t3⟩ := Signals_tell xs hN h hR.1
  have h3t : gt pX 3 = C := by rw [t3 pX 3 (by simp only [pX]; omega), hR.2.2.2.1.1, hC]
  have loop : ∀ (r i : Nat) (gk : Nat → Int → Int), i + r = C → (∀ c, c < i → zCd gk (PC c) (nS g c) (fun s => plS G 0 c s)) → zFr (fun q _ => ∃ c, c < C ∧ PC c + 25 ≤ q ∧ q ≤ PC c + 40) gt gk → ∃ g1, zx zblk xs 47 83 [some (.inr (.inr (some pX))), none, none, none, none, some (.inl ((i : Int)))] [] (HH gk) = zx zblk xs 47 120 [some (.inr (.inr (some pX)))] [] (HH g1) ∧ (∀ c, c < C → zCd g1 (PC c) (nS g c) (fun s => plS G 0 c s)) ∧ zFr (fun q _ => ∃ c, c < C ∧ PC c + 25 ≤ q ∧ q ≤ PC c + 40) gt g1 := by
    intro r
    induction r with
    | zero =>
      intro i gk hi hc hf
      have : i = C := by omega
      subst this
      have k3 : gk pX 3 = i := by rw [hf pX 3 (by rintro ⟨c, z⟩; simp only [PC, pX] at z; omega)]; exact h3t
      refine ⟨gk, ?_, hc, hf⟩
      rw [e_X_signal_83, pX_g_codesRead, k3, if_pos (Int.le_refl _)]
    | succ r ih =>
      intro i gk hi hc hf
      have k3 : gk pX 3 = C := by rw [hf pX 3 (by rintro ⟨c, z⟩; simp only [PC, pX] at z; omega)]; exact h3t
      have hP := zCo_PC (c := i) (by omega)
      obtain ⟨n1, n2, n3⟩ := nS_rg hB (c := (i : Int)) (by omega)
      obtain ⟨j1, j2⟩ := (hR.2.2.2.1.2 i (by omega)).1 (by omega)
      have hgk : ∀ q, PC i ≤ q → q ≤ PC i + 20 → gk q = g q := fun q h1 h2 => by
        rw [hf.at (fun j => by rintro ⟨c, z⟩; simp only [PC] at z h1 h2; omega), t3.at (fun j => by simp only [PC] at h1; omega)]
      obtain ⟨gm, m1, m2, m3⟩ := Code_makePlain xs (G := G) (g := gk) hQ hS (RelS_fr t2 (fun q h1 h2 => hf.at (fun j => by rintro ⟨c, z⟩; simp only [PC] at z; omega))) hP (by simp only [PC]; omega) (n := nS g i) n3 (by rw [hgk _ (by omega) (by omega)]; exact j1.2.1) (R := fun s => rowL g i s) (fun s hs => by
        obtain ⟨o1, o2, o3, o4⟩ := rowL_ok hB (c := (i : Int)) (s := (s : Int)) (by omega) (by omega)
        exact ⟨zRow_fr (j2 s hs) (hgk _ (by omega) (by omega)) (hgk _ (by omega) (by omega)), o2, o4⟩)
      obtain ⟨g1, q1, q2, q3⟩ := ih (i + 1) gm (by omega) (fun c hc' => by
        by_cases e : c = i
        · subst e
          refine ⟨hP, ?_, n3, fun s hs => ?_⟩
          · rw [m3 (PC c) 2 (by omega), hgk _ (by omega) (by omega)]
            exact j1.2.1
          · obtain ⟨o1, o2, o3, o4⟩ := rowL_ok hB (c := (c : Int)) (s := (s : Int)) (by omega) (by omega)
            have hpl : pln G 0 (fun k => (rowL g c s).getD k 0) (rowL g c s).length = plS G 0 c s := by
              unfold plS
              have e1 : lenS G c s = lenS g c s := by unfold lenS; rw [hro]
              have e2 : rowS G c s = rowS g c s := by unfold rowS; rw [hro]
              rw [e1, e2, o1]
              exact pln_cg G 0 (fun k hk => zLi_getD _ hk)
            have m2' := m2 s hs
            rw [hpl] at m2'
            have hlen := pln_len G 0 (fun k => (rowL g c s).getD k 0) (rowL g c s).length
            rw [hpl] at hlen
            refine ⟨m2', by show (plS G 0 c s).length ≤ 10; omega, ?_⟩
            show isR7 (plS G 0 c s)
            rw [← hpl]
            refine isR7_pln hS 0 (fun k hk => ?_)
            have := isR7_get o4 hk
            show 0 ≤ (rowL g c s).getD k 0 ∧ (rowL g c s).getD k 0 ≤ 7
            rw [List.getD, List.getElem?_eq_getElem hk, Option.getD_some]
            exact this
        · exact zCd_fr (hc c (by omega)) (fun q h1 h2 => m3.at (fun j => by simp only [PC] at h1 h2 ⊢; omega))) (hf.tr (m3.mono (fun q j z => ⟨i, by omega, z.1, z.2⟩)))
      refine ⟨g1, ?_, q2, q3⟩
      rw [e_X_signal_83, pX_g_codesRead, k3, if_neg (by rw [zw_id (by omega) (by omega), zw_id (by omega) (by omega)]; omega), pX_ck, X_codeAt_q xs k3 (by omega) (by omega), zcr_ok, zif_some, pX_r_signals, Co_ck hP, m1, zcv_ok, e_X_signal_114, ← Int.natCast_succ]
      exact q1
  obtain ⟨g1, q1, q2, q3⟩ := loop C 0 gt (by omega) (fun c hc => by omega) zFr.rf
  rw [z0N] at q1
  refine ⟨g1, ?_, RelS_fr t2 (fun q h1 h2 => q3.at (fun j => by rintro ⟨c, z⟩; simp only [PC] at z; omega)), q2, fun q j hq => ?_⟩
  · rw [e_X_signal_68, pX_r_signals, Sg_ck, t1, zcv_ok]
    exact q1
  · rw [q3 q j (fun z => hq (Or.inr z)), t3 q j (fun z => hq (Or.inl z))]
end
section
/-! ===== signal: refusals ===== -/
def tnS (g : Nat → Int → Int) (k n : Int) : Prop := if k = 2 then 0 ≤ n ∧ n < g pM 8 ∧ kindS g n < 2 else n = -1
theorem X_signal_pre (xs : List Int) {g : Nat → Int → Int} (hI : Inv g) {k n se od : Int} (hk : zw k = k) (hn : zw n = n) (hs : zw se = se) (ho : zw od = od) [Decidable (tnS g k n)] : zx zblk xs 47 0 [some (.inr (.inr (some pX))), some (.inl (k)), some (.inl (n)), some (.inl (se)), some (.inl (od))] [] (HH g) = if ¬ (0 ≤ k ∧ k ≤ 4) then some (some (.inl (-102)), HH g) else if ¬ tnS g k n then some (some (.inl (-101)), HH g) else if ¬ (1 ≤ se ∧ se ≤ 9 ∧ 0 ≤ od ∧ od ≤ 9) then some (some (.inl (-102)), HH g) else if g pM 8 = 8 then some (some (.inl (-104)), HH g) else zx zblk xs 47 68 [some (.inr (.inr (some pX))), some (.inl (k)), some (.inl (n)), some (.inl (se)), some (.inl (od))] [] (HH g) := by
  obtain ⟨hB, hR⟩ := id hI
  obtain ⟨-, -, q8, -⟩ := id hB.1
  have e9 : zx zblk xs 47 9 [] [] (HH g) = some (some (.inl (-102)), HH g) := e_X_signal_9 xs _
  have e50 : zx zblk xs 47 50 [] [] (HH g) = some (some (.inl (-102)), HH g) := e_X_signal_50 xs _
  rw [e_X_signal_0, hk, show zw 4 = 4 from rfl]
  by_cases a : 0 ≤ k ∧ k ≤ 4
  · rw [if_neg (by omega), if_pos a.2, if_neg (fun z => z a), e_X_signal_12, pX_r_signals, Sg_ck, Signals_isToneFor xs hB.1 hB.2.2.2.1 hR.1 k n hk hn, zci_ok, zb_zw]
    by_cases b : tnS g k n
    · have b' : if k = 2 then 0 ≤ n ∧ n < g pM 8 ∧ kindS g n < 2 else n = -1 := b
      rw [zb_t b', if_pos (by decide), if_neg (fun z => z b), e_X_signal_27, hs, ho, show zw 1 = 1 from rfl, show zw 9 = 9 from rfl, e50]
      by_cases c : 1 ≤ se ∧ se ≤ 9 ∧ 0 ≤ od ∧ od ≤ 9
      · rw [if_neg (by omega), if_neg (by omega), if_neg (by omega), if_pos (by omega), if_neg (fun z => z c), e_X_signal_53, pX_r_signals, Sg_ck, Signals_told xs hB.1 hR.1, zci_ok, show zw 8 = 8 from rfl, zw_id (by omega) (by omega)]
        by_cases d : g pM 8 = 8
        · rw [if_neg (by omega), if_pos d]
        · rw [if_pos (by omega), if_neg d]
      · rw [if_pos c]
        by_cases c1 : se < 1
        · rw [if_pos c1]
        · by_cases c2 : 9 < se
          · rw [if_neg c1, if_pos c2]
          · by_cases c3 : od < 0
            · rw [if_neg c1, if_neg c2, if_pos c3]
            · rw [if_neg c1, if_neg c2, if_neg c3, if_neg (by omega)]
    · have b' : ¬ (if k = 2 then 0 ≤ n ∧ n < g pM 8 ∧ kindS g n < 2 else n = -1) := b
      rw [zb_f b', if_neg (by decide), if_pos b]
  · rw [if_pos a]
    by_cases a1 : k < 0
    · rw [if_pos a1, e9]
    · rw [if_neg a1, if_neg (by omega), e9]
end
section
/-! ===== seen: sets ===== -/
theorem zsum_nought : ∀ n, zsum (fun _ => 0) n = 0
  | 0 => rfl
  | n + 1 => by simp only [zsum]; rw [zsum_nought n]; rfl
end
section
/-! ===== twice: ways of reading, and what is found of them ===== -/
/-- what is left of a speech from a place on begins as another one, as far as both go -/
def agr (L : Nat → List Int) (j f k : Nat) : Prop := ((L j).drop f).take (L k).length = (L k).take ((L j).length - f)
/-- from a tail to a tail by a speech -/
def edg (L : Nat → List Int) (n j f k x fx : Nat) (w : Int) : Prop := k < n ∧ 0 < (L k).length ∧ agr L j f k ∧ (((L k).length < (L j).length - f ∧ x = j ∧ fx = f + (L k).length ∧ w = 0) ∨ ((L j).length - f < (L k).length ∧ x = k ∧ fx = (L j).length - f ∧ w = (L k).length - ((L j).length - f : Nat)))
def fnE (L : Nat → List Int) (n j f k : Nat) : Prop := k < n ∧ 0 < (L k).length ∧ agr L j f k ∧ (L k).length = (L j).length - f
def stt (L : Nat → List Int) (n i j : Nat) : Prop := i < n ∧ j < n ∧ i ≠ j ∧ 0 < (L i).length ∧ (L i).length ≤ (L j).length ∧ agr L j 0 i
/-- a tail is come to in so many steps by a row so long -/
def RcN (L : Nat → List Int) (n : Nat) : Nat → Nat → Nat → Int → Prop
  | 0, j, f, len => ∃ i, stt L n i j ∧ (L i).length < (L j).length ∧ f = (L i).length ∧ len = (L j).length
  | t + 1, j, f, len => ∃ j0 f0 k len0 w, RcN L n t j0 f0 len0 ∧ edg L n j0 f0 k j f w ∧ len = len0 + w
def Rch (L : Nat → List Int) (n j f : Nat) (len : Int) : Prop := ∃ t, RcN L n t j f len
def FnR (L : Nat → List Int) (n : Nat) (len : Int) : Prop := (∃ i j, stt L n i j ∧ (L i).length = (L j).length ∧ len = (L j).length) ∨ ∃ j f k, Rch L n j f len ∧ fnE L n j f k
theorem edg_w {L : Nat → List Int} {n j f k x fx : Nat} {w : Int} (h : edg L n j f k x fx w) : 0 ≤ w ∧ (w = 0 → x = j ∧ f < fx) := by
  obtain ⟨h1, h2, h3, h4⟩ := h
  rcases h4 with ⟨a, b, c, d⟩ | ⟨a, b, c, d⟩
  · exact ⟨by omega, fun _ => ⟨b, by omega⟩⟩
  · exact ⟨by omega, fun z => by omega⟩
theorem Rch_rg {L : Nat → List Int} {n : Nat} : ∀ {t j f : Nat} {len : Int}, RcN L n t j f len → j < n ∧ 0 < f ∧ f < (L j).length ∧ 0 ≤ len
  | 0, j, f, len, ⟨i, ⟨h1, h2, h3, h4, h5, h6⟩, a, b, c⟩ => ⟨h2, by omega, by omega, by omega⟩
  | t + 1, j, f, len, ⟨j0, f0, k, len0, w, h, e, c⟩ => by
    obtain ⟨r1, r2, r3, r4⟩ := Rch_rg h
    have hw := edg_w e
    obtain ⟨e1, e2, e3, e4⟩ := e
    rcases e4 with ⟨a, b, d, g⟩ | ⟨a, b, d, g⟩
    · subst b
      exact ⟨r1, by omega, by omega, by omega⟩
    · subst b
      exact ⟨e1, by omega, by omega, by omega⟩
theorem Rch_s {L : Nat → List Int} {n j f k x fx : Nat} {len w : Int} (h : Rch L n j f len) (e : edg L n j f k x fx w) : Rch L n x fx (len + w) := by
  obtain ⟨t, h⟩ := h
  exact ⟨t + 1, j, f, k, len, w, h, e, rfl⟩
/-- what is found so far: the ways to tails, the best row -/
abbrev zFd := (Nat → Nat → Int) × Int
def okF (L : Nat → List Int) (n : Nat) (s : zFd) : Prop := (∀ j f, 0 ≤ s.1 j f ∧ s.1 j f ≤ 1000000 ∧ (s.1 j f < 1000000 → Rch L n j f (s.1 j f))) ∧ 0 ≤ s.2 ∧ s.2 ≤ 1000000 ∧ (s.2 < 1000000 → FnR L n s.2)
def rlx (s : zFd) (j f : Nat) (v : Int) : zFd := (fun j' f' => if j' = j ∧ f' = f ∧ v < s.1 j f then v else s.1 j' f', s.2)
theorem rlx_le (s : zFd) (j f : Nat) (v : Int) : (∀ j' f', (rlx s j f v).1 j' f' ≤ s.1 j' f') ∧ (rlx s j f v).1 j f ≤ v := by
  unfold rlx
  constructor
  · intro j' f'
    show (if j' = j ∧ f' = f ∧ v < s.1 j f then v else s.1 j' f') ≤ _
    by_cases c : j' = j ∧ f' = f ∧ v < s.1 j f
    · rw [if_pos c, c.1, c.2.1]; omega
    · rw [if_neg c]; exact Int.le_refl _
  · show (if j = j ∧ f = f ∧ v < s.1 j f then v else s.1 j f) ≤ _
    by_cases c : v < s.1 j f
    · rw [if_pos ⟨rfl, rfl, c⟩]; exact Int.le_refl _
    · rw [if_neg (fun z => c z.2.2)]; omega
theorem rlx_ok {L : Nat → List Int} {n : Nat} {s : zFd} (h : okF L n s) {j f : Nat} {v : Int} (hv : Rch L n j f v) : okF L n (rlx s j f v) := by
  refine ⟨fun j' f' => ?_, h.2⟩
  unfold rlx
  show 0 ≤ (if j' = j ∧ f' = f ∧ v < s.1 j f then v else s.1 j' f') ∧ _
  by_cases c : j' = j ∧ f' = f ∧ v < s.1 j f
  · have h1 := h.1 j f
    obtain ⟨t, ht⟩ := id hv
    have h2 := Rch_rg ht
    simp only [if_pos c]
    refine ⟨h2.2.2.2, by omega, fun _ => ?_⟩
    rw [c.1, c.2.1]
    exact hv
  · simp only [if_neg c]
    exact h.1 j' f'
/-- a speech against a tail: what is found then, whether a tail is come to sooner -/
noncomputable def mtF (L : Nat → List Int) (s : zFd) (j f k : Nat) (v : Int) : zFd × Int :=
  @ite _ (0 < (L k).length ∧ agr L j f k) (zdc _) (if (L k).length = (L j).length - f then ((s.1, if v < s.2 then v else s.2), 0) else if (L k).length < (L j).length - f then (rlx s j (f + (L k).length) v, zb (v < s.1 j (f + (L k).length))) else (rlx s k ((L j).length - f) (v + (L k).length - ((L j).length - f : Nat)), zb (v + (L k).length - ((L j).length - f : Nat) < s.1 k ((L j).length - f)))) (s, 0)
/-- what follows on: no more than before, what is found is right -/
def onF (L : Nat → List Int) (n : Nat) (s s' : zFd) : Prop := okF L n s' ∧ (∀ j f, s'.1 j f ≤ s.1 j f) ∧ s'.2 ≤ s.2
theorem onF_rf {L : Nat → List Int} {n : Nat} {s : zFd} (h : okF L n s) : onF L n s s := ⟨h, fun _ _ => Int.le_refl _, Int.le_refl _⟩
theorem onF_tr {L : Nat → List Int} {n : Nat} {a b c : zFd} (h1 : onF L n a b) (h2 : onF L n b c) : onF L n a c := ⟨h2.1, fun j f => Int.le_trans (h2.2.1 j f) (h1.2.1 j f), Int.le_trans h2.2.2 h1.2.2⟩
theorem rlx_same {s : zFd} {j f : Nat} {v : Int} (h : zb (v < s.1 j f) = 0) : (rlx s j f v).1 = s.1 := by
  have := (zb_eq0 _).mp h
  funext j' f'
  unfold rlx
  show (if j' = j ∧ f' = f ∧ v < s.1 j f then v else s.1 j' f') = _
  rw [if_neg (fun z => this z.2.2)]
theorem mtF_ok {L : Nat → List Int} {n : Nat} {s : zFd} (h : okF L n s) {j f k : Nat} (hk : k < n) {v : Int} (hv : Rch L n j f v) : onF L n s (mtF L s j f k v).1 ∧ ((mtF L s j f k v).2 = 0 ∨ (mtF L s j f k v).2 = 1) ∧ ((mtF L s j f k v).2 = 0 → (mtF L s j f k v).1.1 = s.1) ∧ (∀ x fx w, edg L n j f k x fx w → (mtF L s j f k v).1.1 x fx ≤ v + w) ∧ (fnE L n j f k → (mtF L s j f k v).1.2 ≤ v) := by
  obtain ⟨t, ht⟩ := id hv
  have hr := Rch_rg ht
  unfold mtF
  by_cases c : 0 < (L k).length ∧ agr L j f k
  · simp only [@if_pos _ (zdc _) c]
    by_cases d : (L k).length = (L j).length - f
    · simp only [if_pos d]
      refine ⟨⟨⟨h.1, ?_⟩, fun _ _ => Int.le_refl _, ?_⟩, Or.inl trivial, fun _ => trivial, fun x fx w e => ?_, fun _ => ?_⟩
      · show 0 ≤ (if v < s.2 then v else s.2) ∧ (if v < s.2 then v else s.2) ≤ 1000000 ∧ ((if v < s.2 then v else s.2) < 1000000 → FnR L n (if v < s.2 then v else s.2))
        have := h.2
        by_cases e : v < s.2
        · rw [if_pos e]
          exact ⟨hr.2.2.2, by omega, fun _ => Or.inr ⟨j, f, k, hv, hk, c.1, c.2, d⟩⟩
        · rw [if_neg e]
          exact h.2
      · show (if v < s.2 then v else s.2) ≤ s.2
        split <;> omega
      · obtain ⟨-, -, -, e4⟩ := e
        omega
      · show (if v < s.2 then v else s.2) ≤ v
        split <;> omega
    · simp only [if_neg d]
      by_cases g : (L k).length < (L j).length - f
      · simp only [if_pos g]
        have he : edg L n j f k j (f + (L k).length) 0 := ⟨hk, c.1, c.2, Or.inl ⟨g, rfl, rfl, rfl⟩⟩
        have hv2 := Rch_s hv he
        rw [Int.add_zero] at hv2
        have hle := rlx_le s j (f + (L k).length) v
        refine ⟨⟨rlx_ok h hv2, hle.1, Int.le_refl _⟩, zb_01 _, rlx_same, fun x fx w e => ?_, fun e => absurd e.2.2.2 d⟩
        obtain ⟨-, -, -, e4⟩ := e
        rcases e4 with ⟨-, rfl, rfl, rfl⟩ | ⟨e4, -⟩
        · have := hle.2
          omega
        · omega
      · simp only [if_neg g]
        have he : edg L n j f k k ((L j).length - f) ((L k).length - ((L j).length - f : Nat)) := ⟨hk, c.1, c.2, Or.inr ⟨by omega, rfl, rfl, rfl⟩⟩
        have hv2 := Rch_s hv he
        rw [← Int.add_sub_assoc] at hv2
        have hle := rlx_le s k ((L j).length - f) (v + (L k).length - ((L j).length - f : Nat))
        refine ⟨⟨rlx_ok h hv2, hle.1, Int.le_refl _⟩, zb_01 _, rlx_same, fun x fx w e => ?_, fun e => absurd e.2.2.2 d⟩
        obtain ⟨-, -, -, e4⟩ := e
        rcases e4 with ⟨e4, -⟩ | ⟨-, rfl, rfl, rfl⟩
        · omega
        · have := hle.2
          omega
  · simp only [@if_neg _ (zdc _) c]
    refine ⟨onF_rf h, Or.inl trivial, fun _ => trivial, fun x fx w e => absurd ⟨e.2.1, e.2.2.1⟩ c, fun e => absurd ⟨e.2.1, e.2.2.1⟩ c⟩
/-- the first k speeches against a tail -/
noncomputable def swK (L : Nat → List Int) (j f : Nat) : Nat → zFd × Int → zFd × Int
  | 0, s => s
  | k + 1, s => if (swK L j f k s).1.1 j f < 1000000 then ((mtF L (swK L j f k s).1 j f k ((swK L j f k s).1.1 j f)).1, if (mtF L (swK L j f k s).1 j f k ((swK L j f k s).1.1 j f)).2 = 0 then (swK L j f k s).2 else 1) else swK L j f k s
/-- the first t tails, m to a speech -/
noncomputable def swT (L : Nat → List Int) (n m : Nat) : Nat → zFd × Int → zFd × Int
  | 0, s => s
  | t + 1, s => swK L (t / m) (t % m) n (swT L n m t s)
def fl01 (s s' : zFd × Int) : Prop := (s.2 = 0 ∨ s.2 = 1) → (s'.2 = 0 ∨ s'.2 = 1) ∧ (s'.2 = 0 → s.2 = 0 ∧ s'.1.1 = s.1.1)
theorem swK_ok {L : Nat → List Int} {n j f : Nat} {s : zFd × Int} (h : okF L n s.1) : ∀ k, k ≤ n → onF L n s.1 (swK L j f k s).1 ∧ fl01 s (swK L j f k s) ∧ (∀ k' x fx w, k' < k → edg L n j f k' x fx w → (swK L j f k s).1.1 x fx ≤ s.1.1 j f + w) ∧ (∀ k', k' < k → fnE L n j f k' → (swK L j f k s).1.2 ≤ s.1.1 j f)
  | 0, _ => ⟨onF_rf h, fun h01 => ⟨h01, fun h0 => ⟨h0, rfl⟩⟩, fun k' x fx w hk => by omega, fun k' hk => by omega⟩
  | k + 1, hk => by
    obtain ⟨i1, i2, i3, i4⟩ := swK_ok h (j := j) (f := f) k (by omega)
    rw [swK]
    by_cases c : (swK L j f k s).1.1 j f < 1000000
    · simp only [if_pos c]
      obtain ⟨m1, m2, m3, m4, m5⟩ := mtF_ok i1.1 (j := j) (f := f) (k := k) (by omega) ((i1.1.1 j f).2.2 c)
      have hle := i1.2.1 j f
      refine ⟨onF_tr i1 m1, fun h01 => ?_, fun k' x fx w hk' e => ?_, fun k' hk' e => ?_⟩
      · obtain ⟨a1, a2⟩ := i2 h01
        by_cases d : (mtF L (swK L j f k s).1 j f k ((swK L j f k s).1.1 j f)).2 = 0
        · simp only [if_pos d]
          exact ⟨a1, fun z => ⟨(a2 z).1, by rw [m3 d]; exact (a2 z).2⟩⟩
        · simp only [if_neg d]
          exact ⟨Or.inr trivial, fun z => absurd z (by decide)⟩
      · by_cases e2 : k' = k
        · subst e2
          have := m4 x fx w e
          exact Int.le_trans this (by omega)
        · exact Int.le_trans (m1.2.1 x fx) (i3 k' x fx w (by omega) e)
      · by_cases e2 : k' = k
        · subst e2
          exact Int.le_trans (m5 e) hle
        · exact Int.le_trans m1.2.2 (i4 k' (by omega) e)
    · simp only [if_neg c]
      have h1 := (h.1 j f).2.1
      have hle := i1.2.1 j f
      refine ⟨i1, i2, fun k' x fx w hk' e => ?_, fun k' hk' e => ?_⟩
      · have h2 := (i1.1.1 x fx).2.1
        have h3 := (edg_w e).1
        omega
      · have h2 := i1.1.2.2.1
        omega
theorem swT_ok {L : Nat → List Int} {n m : Nat} (hm : 0 < m) {s : zFd × Int} (h : okF L n s.1) : ∀ t, onF L n s.1 (swT L n m t s).1 ∧ fl01 s (swT L n m t s) ∧ (∀ j f k x fx w, f < m → m * j + f < t → edg L n j f k x fx w → (swT L n m t s).1.1 x fx ≤ s.1.1 j f + w) ∧ (∀ j f k, f < m → m * j + f < t → fnE L n j f k → (swT L n m t s).1.2 ≤ s.1.1 j f)
  | 0 => ⟨onF_rf h, fun h01 => ⟨h01, fun h0 => ⟨h0, rfl⟩⟩, fun j f k x fx w _ hk => by omega, fun j f k _ hk => by omega⟩
  | t + 1 => by
    obtain ⟨i1, i2, i3, i4⟩ := swT_ok hm h t
    obtain ⟨k1, k2, k3, k4⟩ := swK_ok (L := L) (n := n) (j := t / m) (f := t % m) i1.1 n (Nat.le_refl _)
    rw [swT]
    have hjf : ∀ j f, f < m → m * j + f = t → j = t / m ∧ f = t % m := fun j f hf e => by
      rw [← e, Nat.mul_add_mod, Nat.mod_eq_of_lt hf, Nat.mul_add_div hm, Nat.div_eq_of_lt hf]
      exact ⟨rfl, rfl⟩
    refine ⟨onF_tr i1 k1, fun h01 => ?_, fun j f k x fx w hf hk e => ?_, fun j f k hf hk e => ?_⟩
    · obtain ⟨a1, a2⟩ := i2 h01
      obtain ⟨b1, b2⟩ := k2 a1
      exact ⟨b1, fun z => ⟨(a2 (b2 z).1).1, (b2 z).2.trans (a2 (b2 z).1).2⟩⟩
    · by_cases e2 : m * j + f = t
      · obtain ⟨rfl, rfl⟩ := hjf j f hf e2
        have := k3 k x fx w e.1 e
        have := i1.2.1 (t / m) (t % m)
        omega
      · exact Int.le_trans (k1.2.1 x fx) (i3 j f k x fx w hf (by omega) e)
    · by_cases e2 : m * j + f = t
      · obtain ⟨rfl, rfl⟩ := hjf j f hf e2
        have := k4 k e.1 e
        have := i1.2.1 (t / m) (t % m)
        omega
      · exact Int.le_trans k1.2.2 (i4 j f k hf (by omega) e)
end
section
/-! ===== twice: so many rounds are enough ===== -/
def cmF (L : Nat → List Int) (n : Nat) (s : zFd) (j f : Nat) : Prop := ∀ len, Rch L n j f len → s.1 j f ≤ len
def stC (L : Nat → List Int) (n : Nat) (s : zFd) : Prop := (∀ j f len, RcN L n 0 j f len → s.1 j f ≤ len) ∧ (∀ i j, stt L n i j → (L i).length = (L j).length → s.2 ≤ (L j).length)
def bC (L : Nat → List Int) (n : Nat) (s : zFd) : Prop := ∀ len, FnR L n len → s.2 ≤ len
theorem stC_on {L : Nat → List Int} {n : Nat} {s s' : zFd} (h : stC L n s) (o : onF L n s s') : stC L n s' := ⟨fun j f len r => Int.le_trans (o.2.1 j f) (h.1 j f len r), fun i j r e => Int.le_trans o.2.2 (h.2 i j r e)⟩
/-- what a sweep does for the edges -/
def edC (L : Nat → List Int) (n : Nat) (s s' : zFd) : Prop := (∀ j f k x fx w, j < n → f < (L j).length → edg L n j f k x fx w → s'.1 x fx ≤ s.1 j f + w) ∧ (∀ j f k, j < n → f < (L j).length → fnE L n j f k → s'.2 ≤ s.1 j f)
theorem bC_same {L : Nat → List Int} {n : Nat} {s s' : zFd} (hst : stC L n s) (o : onF L n s s') (e : edC L n s s') (hd : s'.1 = s.1) : bC L n s' := by
  have hc : ∀ t j f len, RcN L n t j f len → s.1 j f ≤ len := by
    intro t
    induction t with
    | zero => exact hst.1
    | succ t ih =>
      rintro j f len ⟨j0, f0, k, len0, w, h, ee, rfl⟩
      obtain ⟨r1, r2, r3, r4⟩ := Rch_rg h
      have h1 := e.1 j0 f0 k j f w r1 r3 ee
      have h2 := ih j0 f0 len0 h
      rw [hd] at h1
      omega
  intro len hf
  rcases hf with ⟨i, j, h, a, b⟩ | ⟨j, f, k, ⟨t, h⟩, ee⟩
  · subst b
    exact Int.le_trans o.2.2 (hst.2 i j h a)
  · obtain ⟨r1, r2, r3, r4⟩ := Rch_rg h
    exact Int.le_trans (e.2 j f k r1 r3 ee) (hc t j f len h)
theorem bC_all {L : Nat → List Int} {n : Nat} {s s' : zFd} (hst : stC L n s) (o : onF L n s s') (e : edC L n s s') (hc : ∀ j f, j < n → f < (L j).length → cmF L n s j f) : bC L n s' := by
  intro len hf
  rcases hf with ⟨i, j, h, a, b⟩ | ⟨j, f, k, ⟨t, h⟩, ee⟩
  · subst b
    exact Int.le_trans o.2.2 (hst.2 i j h a)
  · obtain ⟨r1, r2, r3, r4⟩ := Rch_rg h
    exact Int.le_trans (e.2 j f k r1 r3 ee) (hc j f r1 r3 len ⟨t, h⟩)
theorem prog {L : Nat → List Int} {n : Nat} (hL : ∀ i, i < n → (L i).length ≤ 10) {s s' : zFd} (hst : stC L n s) (o : onF L n s s') (e : edC L n s s') : ∀ (N : Nat) (j f : Nat) (len : Int), len.toNat * 16 + f = N → Rch L n j f len → len < s.1 j f → ∃ j f, j < n ∧ f < (L j).length ∧ ¬ cmF L n s j f ∧ cmF L n s' j f := by
  intro N
  induction N using Nat.strongRecOn with
  | _ N ih =>
    intro j f len hN hR hlt
    by_cases hx : ∃ j' f' len', len'.toNat * 16 + f' < N ∧ Rch L n j' f' len' ∧ len' < s.1 j' f'
    · obtain ⟨j', f', len', h1, h2, h3⟩ := hx
      exact ih _ h1 j' f' len' rfl h2 h3
    · obtain ⟨t, ht⟩ := id hR
      obtain ⟨r1, r2, r3, r4⟩ := Rch_rg ht
      have hn : ∀ j' f' len', len'.toNat * 16 + f' < N → Rch L n j' f' len' → s.1 j' f' ≤ len' := fun j' f' len' h1 h2 => by
        refine Int.not_lt.mp (fun z => hx ⟨j', f', len', h1, h2, z⟩)
      refine ⟨j, f, r1, r3, fun z => by have := z len hR; omega, ?_⟩
      have hnew : s'.1 j f ≤ len := by
        cases t with
        | zero =>
          have := hst.1 j f len ht
          omega
        | succ t =>
          obtain ⟨j0, f0, k, len0, w, h, ee, e2⟩ := ht
          obtain ⟨q1, q2, q3, q4⟩ := Rch_rg h
          have hl0 := hL j0 q1
          have hw := edg_w ee
          have h0 : s.1 j0 f0 ≤ len0 := hn j0 f0 len0 (by
            by_cases c : w = 0
            · have := (hw.2 c).2
              have e3 : len = len0 := by omega
              rw [e3] at hN
              omega
            · have : len0.toNat + 1 ≤ len.toNat := by omega
              omega) ⟨t, h⟩
          have := e.1 j0 f0 k j f w q1 q3 ee
          omega
      intro len' hR'
      by_cases c : len ≤ len'
      · omega
      · obtain ⟨t', ht'⟩ := id hR'
        have q4 := (Rch_rg ht').2.2.2
        have := hn j f len' (by omega) hR'
        omega
noncomputable def leS (L : Nat → List Int) (n : Nat) (s : zFd) : Int := zsum (fun t => zite (cmF L n s (t / 10) (t % 10)) 0 1) 80
theorem zite_01 (P : Prop) : zite P 0 1 = 0 ∨ zite P 0 1 = 1 := by
  by_cases h : P
  · exact Or.inl (zite_t h _ _)
  · exact Or.inr (zite_f h _ _)
theorem leS_rg (L : Nat → List Int) (n : Nat) (s : zFd) : 0 ≤ leS L n s ∧ leS L n s ≤ 80 := by
  have := zsum_rg (a := 0) (b := 1) (n := 80) (f := fun t => zite (cmF L n s (t / 10) (t % 10)) 0 1) (fun k _ => by
    rcases zite_01 (cmF L n s (k / 10) (k % 10)) with h | h <;> rw [h] <;> decide)
  unfold leS
  omega
theorem leS_0 {L : Nat → List Int} {n : Nat} (hL : ∀ i, i < n → (L i).length ≤ 10) (hn : n ≤ 8) {s : zFd} (h : leS L n s = 0) : ∀ j f, j < n → f < (L j).length → cmF L n s j f := by
  intro j f hj hf
  have hl := hL j hj
  have h0 := (zsum_zero (f := fun t => zite (cmF L n s (t / 10) (t % 10)) 0 1) (fun k => by
    rcases zite_01 (cmF L n s (k / 10) (k % 10)) with h | h <;> rw [h] <;> decide) (n := 80)).mp h (10 * j + f) (by omega)
  rw [show (10 * j + f) / 10 = j by omega, show (10 * j + f) % 10 = f by omega] at h0
  refine Classical.byContradiction (fun c => ?_)
  rw [zite_f c] at h0
  exact absurd h0 (by decide)
theorem leS_lt {L : Nat → List Int} {n : Nat} (hL : ∀ i, i < n → (L i).length ≤ 10) (hn : n ≤ 8) {s s' : zFd} (hst : stC L n s) (o : onF L n s s') (e : edC L n s s') (hx : ¬ ∀ j f, j < n → f < (L j).length → cmF L n s j f) : leS L n s' < leS L n s := by
  have : ∃ j f len, Rch L n j f len ∧ len < s.1 j f := Classical.byContradiction (fun c => hx (fun j f _ _ len hr => Int.not_lt.mp (fun z => c ⟨j, f, len, hr, z⟩)))
  obtain ⟨j0, f0, len, h1, h2⟩ := this
  obtain ⟨j, f, a, b, c, d⟩ := prog hL hst o e _ j0 f0 len rfl h1 h2
  have hl := hL j a
  refine zsum_lt (j := 10 * j + f) (fun t _ => ?_) (by omega) ?_
  · by_cases c : cmF L n s (t / 10) (t % 10)
    · rw [zite_t c, zite_t (show cmF L n s' (t / 10) (t % 10) from fun len h => Int.le_trans (o.2.1 _ _) (c len h))]
      exact Int.le_refl _
    · rw [zite_f c]
      rcases zite_01 (cmF L n s' (t / 10) (t % 10)) with h | h <;> rw [h] <;> decide
  · show zite (cmF L n s' ((10 * j + f) / 10) ((10 * j + f) % 10)) 0 1 < zite (cmF L n s ((10 * j + f) / 10) ((10 * j + f) % 10)) 0 1
    rw [show (10 * j + f) / 10 = j by omega, show (10 * j + f) % 10 = f by omega, zite_f c, zite_t d]
    decide
theorem rlx_lw {s : zFd} {j f : Nat} {v : Int} (h : zb (v < s.1 j f) ≠ 0) : (rlx s j f v).1 j f < s.1 j f := by
  have c : v < s.1 j f := Classical.byContradiction (fun z => h (zb_f z))
  show (if j = j ∧ f = f ∧ v < s.1 j f then v else s.1 j f) < _
  rw [if_pos ⟨rfl, rfl, c⟩]
  exact c
theorem mtF_lw {L : Nat → List Int} {s : zFd} {j f k : Nat} {v : Int} (h : (mtF L s j f k v).2 ≠ 0) : ∃ x fx, (mtF L s j f k v).1.1 x fx < s.1 x fx := by
  unfold mtF at h ⊢
  by_cases c : 0 < (L k).length ∧ agr L j f k
  · simp only [@if_pos _ (zdc _) c] at h ⊢
    by_cases d : (L k).length = (L j).length - f
    · simp only [if_pos d] at h
      exact absurd rfl h
    · simp only [if_neg d] at h ⊢
      by_cases g : (L k).length < (L j).length - f
      · simp only [if_pos g] at h ⊢
        exact ⟨_, _, rlx_lw h⟩
      · simp only [if_neg g] at h ⊢
        exact ⟨_, _, rlx_lw h⟩
  · simp only [@if_neg _ (zdc _) c] at h
    exact absurd rfl h
theorem swK_lw {L : Nat → List Int} {n j f : Nat} {s : zFd × Int} (hs : okF L n s.1) (h0 : s.2 = 0) : ∀ k, k ≤ n → (swK L j f k s).2 ≠ 0 → ∃ x fx, (swK L j f k s).1.1 x fx < s.1.1 x fx
  | 0, _, h => absurd h0 h
  | k + 1, hk, h => by
    obtain ⟨i1, i2, i3, i4⟩ := swK_ok hs (j := j) (f := f) k (by omega)
    rw [swK] at h ⊢
    by_cases c : (swK L j f k s).1.1 j f < 1000000
    · simp only [if_pos c] at h ⊢
      obtain ⟨m1, m2, m3, m4, m5⟩ := mtF_ok i1.1 (j := j) (f := f) (k := k) (by omega) ((i1.1.1 j f).2.2 c)
      by_cases d : (mtF L (swK L j f k s).1 j f k ((swK L j f k s).1.1 j f)).2 = 0
      · simp only [if_pos d] at h
        obtain ⟨x, fx, hx⟩ := swK_lw hs h0 k (by omega) h
        exact ⟨x, fx, Int.lt_of_le_of_lt (m1.2.1 x fx) hx⟩
      · obtain ⟨x, fx, hx⟩ := mtF_lw d
        exact ⟨x, fx, Int.lt_of_lt_of_le hx (i1.2.1 x fx)⟩
    · simp only [if_neg c] at h ⊢
      exact swK_lw hs h0 k (by omega) h
theorem swT_lw {L : Nat → List Int} {n m : Nat} (hm : 0 < m) {s : zFd × Int} (hs : okF L n s.1) (h0 : s.2 = 0) : ∀ t, (swT L n m t s).2 ≠ 0 → ∃ x fx, (swT L n m t s).1.1 x fx < s.1.1 x fx
  | 0, h => absurd h0 h
  | t + 1, h => by
    obtain ⟨i1, i2, i3, i4⟩ := swT_ok hm hs t
    rw [swT] at h ⊢
    obtain ⟨k1, k2, k3, k4⟩ := swK_ok (L := L) (n := n) (j := t / m) (f := t % m) i1.1 n (Nat.le_refl _)
    by_cases c : (swT L n m t s).2 = 0
    · obtain ⟨x, fx, hx⟩ := swK_lw i1.1 c n (Nat.le_refl _) h
      exact ⟨x, fx, Int.lt_of_lt_of_le hx (i1.2.1 x fx)⟩
    · obtain ⟨x, fx, hx⟩ := swT_lw hm hs h0 t c
      exact ⟨x, fx, Int.lt_of_le_of_lt (k1.2.1 x fx) hx⟩
/-- one sweep -/
theorem sweep {L : Nat → List Int} {n m : Nat} (hL : ∀ i, i < n → (L i).length ≤ 10) (hn : n ≤ 8) (hm : 10 ≤ m) {s : zFd} (hs : okF L n s) (hst : stC L n s) : okF L n (swT L n m (8 * m) (s, 0)).1 ∧ stC L n (swT L n m (8 * m) (s, 0)).1 ∧ ((swT L n m (8 * m) (s, 0)).2 = 0 ∨ (swT L n m (8 * m) (s, 0)).2 = 1) ∧ ((swT L n m (8 * m) (s, 0)).2 = 0 → bC L n (swT L n m (8 * m) (s, 0)).1) ∧ (leS L n s = 0 → bC L n (swT L n m (8 * m) (s, 0)).1) ∧ (leS L n s ≠ 0 → leS L n (swT L n m (8 * m) (s, 0)).1 < leS L n s) ∧ ((swT L n m (8 * m) (s, 0)).2 ≠ 0 → leS L n s ≠ 0) := by
  obtain ⟨h1, h2, h3, h4⟩ := swT_ok (L := L) (n := n) (m := m) (s := (s, 0)) (by omega) hs (8 * m)
  have hmul : ∀ j f, j < n → f < (L j).length → f < m ∧ m * j + f < 8 * m := fun j f hj hf => by
    have h5 := hL j hj
    have h6 := Nat.mul_le_mul_left m (show j + 1 ≤ 8 by omega)
    rw [Nat.mul_succ] at h6
    omega
  have he : edC L n s (swT L n m (8 * m) (s, 0)).1 := ⟨fun j f k x fx w hj hf e => h3 j f k x fx w (hmul j f hj hf).1 (hmul j f hj hf).2 e, fun j f k hj hf e => h4 j f k (hmul j f hj hf).1 (hmul j f hj hf).2 e⟩
  obtain ⟨f1, f2⟩ := h2 (Or.inl rfl)
  refine ⟨h1.1, stC_on hst h1, f1, fun z => bC_same hst h1 he (f2 z).2, fun z => bC_all hst h1 he (leS_0 hL hn z), fun z => leS_lt hL hn hst h1 he (fun c => z ?_), fun z c => ?_⟩
  · unfold leS
    rw [zsum_cg (f' := fun _ => 0) (fun t ht => ?_), zsum_nought]
    refine zite_t (fun len hr => ?_) _ _
    obtain ⟨t', ht'⟩ := id hr
    obtain ⟨r1, r2, r3, r4⟩ := Rch_rg ht'
    exact c _ _ r1 r3 len hr
  · obtain ⟨x, fx, hx⟩ := swT_lw (by omega) (s := (s, 0)) hs rfl (8 * m) z
    have hx' : (swT L n m (8 * m) (s, 0)).1.1 x fx < s.1 x fx := hx
    have hsx := hs.1 x fx
    have hr := (h1.1.1 x fx).2.2 (by omega)
    obtain ⟨t', ht'⟩ := id hr
    obtain ⟨r1, r2, r3, r4⟩ := Rch_rg ht'
    have := leS_0 hL hn c x fx r1 r3 _ hr
    omega
/-- the best row -/
def bF (L : Nat → List Int) (n : Nat) (b : Int) : Prop := 0 ≤ b ∧ b ≤ 1000000 ∧ (b < 1000000 → FnR L n b) ∧ ∀ len, FnR L n len → b ≤ len
theorem bF_of {L : Nat → List Int} {n : Nat} {s : zFd} (h : okF L n s) (hb : bC L n s) : bF L n s.2 := ⟨h.2.1, h.2.2.1, h.2.2.2, hb⟩
theorem bF_eq {L : Nat → List Int} {n : Nat} {a b : Int} (ha : bF L n a) (hb : bF L n b) : a = b := by
  obtain ⟨a0, a1, a2, a3⟩ := ha
  obtain ⟨b0, b1, b2, b3⟩ := hb
  by_cases c : a < 1000000
  · have h1 := b3 a (a2 c)
    have h2 := a3 b (b2 (by omega))
    omega
  · by_cases d : b < 1000000
    · have := a3 b (b2 d)
      omega
    · omega
noncomputable def bV (L : Nat → List Int) (n : Nat) : Int := Classical.epsilon (bF L n)
theorem bV_eq {L : Nat → List Int} {n : Nat} {a : Int} (ha : bF L n a) : bV L n = a := bF_eq (Classical.epsilon_spec ⟨a, ha⟩) ha
end
section
/-! ===== twice: the reference ===== -/
theorem agr_iff {L : Nat → List Int} {j f k : Nat} : agr L j f k ↔ ((L j).drop f).take (min ((L j).length - f) (L k).length) = (L k).take (min ((L j).length - f) (L k).length) := by
  unfold agr
  have hl : ((L j).drop f).length = (L j).length - f := List.length_drop
  by_cases c : (L j).length - f ≤ (L k).length
  · rw [Nat.min_eq_left c, List.take_of_length_le (l := (L j).drop f) (by omega), List.take_of_length_le (l := (L j).drop f) (by omega)]
  · rw [Nat.min_eq_right (by omega), List.take_of_length_le (l := L k) (by omega), List.take_of_length_le (l := L k) (by omega)]
end
section
/-! ===== twice: the reference's sweeps ===== -/
theorem swK_stop {L : Nat → List Int} {j f : Nat} {s : zFd × Int} : ∀ {k r : Nat}, ¬ (swK L j f k s).1.1 j f < 1000000 → swK L j f (k + r) s = swK L j f k s
  | _, 0, _ => rfl
  | k, r + 1, h => by
    have ih := swK_stop (r := r) h
    rw [← Nat.add_assoc, swK, ih, if_neg h]
end
section
/-! ===== twice: starts ===== -/
def stF (L : Nat → List Int) (s : zFd) (i j : Nat) : zFd := if (L i).length = (L j).length then (s.1, if ((L j).length : Int) < s.2 then ((L j).length : Int) else s.2) else rlx s j (L i).length (L j).length
theorem stF_ok {L : Nat → List Int} {n : Nat} {s : zFd} (h : okF L n s) {i j : Nat} (hs : stt L n i j) : onF L n s (stF L s i j) ∧ ((L i).length < (L j).length → (stF L s i j).1 j (L i).length ≤ (L j).length) ∧ ((L i).length = (L j).length → (stF L s i j).2 ≤ (L j).length) := by
  unfold stF
  by_cases c : (L i).length = (L j).length
  · simp only [if_pos c]
    have hle : (if ((L j).length : Int) < s.2 then ((L j).length : Int) else s.2) ≤ (L j).length ∧ (if ((L j).length : Int) < s.2 then ((L j).length : Int) else s.2) ≤ s.2 := by split <;> omega
    refine ⟨⟨⟨h.1, ?_⟩, fun _ _ => Int.le_refl _, hle.2⟩, fun z => by omega, fun _ => hle.1⟩
    show 0 ≤ (if ((L j).length : Int) < s.2 then ((L j).length : Int) else s.2) ∧ (if ((L j).length : Int) < s.2 then ((L j).length : Int) else s.2) ≤ 1000000 ∧ ((if ((L j).length : Int) < s.2 then ((L j).length : Int) else s.2) < 1000000 → FnR L n (if ((L j).length : Int) < s.2 then ((L j).length : Int) else s.2))
    have h2 := h.2
    by_cases d : ((L j).length : Int) < s.2
    · rw [if_pos d]
      exact ⟨by omega, by omega, fun _ => Or.inl ⟨i, j, hs, c, rfl⟩⟩
    · rw [if_neg d]
      exact h.2
  · simp only [if_neg c]
    have hlt : (L i).length < (L j).length := by
      have := hs.2.2.2.2.1
      omega
    have hr := rlx_le s j (L i).length (L j).length
    exact ⟨⟨rlx_ok h ⟨0, i, hs, hlt, rfl, rfl⟩, hr.1, Int.le_refl _⟩, fun _ => hr.2, fun z => absurd z c⟩
/-- the starts that are through -/
def prS (L : Nat → List Int) (n : Nat) (D : Nat → Nat → Prop) (s : zFd) : Prop := ∀ i j, D i j → stt L n i j → ((L i).length < (L j).length → s.1 j (L i).length ≤ (L j).length) ∧ ((L i).length = (L j).length → s.2 ≤ (L j).length)
theorem prS_on {L : Nat → List Int} {n : Nat} {D : Nat → Nat → Prop} {s s' : zFd} (h : prS L n D s) (o : onF L n s s') : prS L n D s' := fun i j d st => ⟨fun z => Int.le_trans (o.2.1 _ _) ((h i j d st).1 z), fun z => Int.le_trans o.2.2 ((h i j d st).2 z)⟩
theorem prS_all {L : Nat → List Int} {n : Nat} {D : Nat → Nat → Prop} {s : zFd} (h : prS L n D s) (hd : ∀ i j, stt L n i j → D i j) : stC L n s := by
  refine ⟨fun j f len ⟨i, st, a, b, c⟩ => ?_, fun i j st e => (h i j (hd i j st) st).2 e⟩
  subst b c
  exact (h i j (hd i j st) st).1 a
def s0F : zFd := (fun _ _ => 1000000, 1000000)
theorem s0F_ok (L : Nat → List Int) (n : Nat) : okF L n s0F := ⟨fun j f => ⟨show (0 : Int) ≤ 1000000 by decide, Int.le_refl _, fun z => absurd z (show ¬ (1000000 : Int) < 1000000 by decide)⟩, show (0 : Int) ≤ 1000000 by decide, Int.le_refl _, fun z => absurd z (show ¬ (1000000 : Int) < 1000000 by decide)⟩
noncomputable def twO (G : Nat → Int → Int) (c : Int) : Int := if bV (fun i => plS G 0 c i) (nS G c) < 1000000 then bV (fun i => plS G 0 c i) (nS G c) else -1
noncomputable def twS (G : Nat → Int → Int) (c : Int) : Int := if 0 ≤ c ∧ c < G pM 5 then twO G c else -101
end
section
/-! ===== twice: the class ===== -/
theorem Rd_ck (g : Nat → Int → Int) (o : Option zR) : zck (HH g) (some pX_readings) 2 o = o := HH_ck (p := pX_readings) rfl (by decide) rfl o
theorem Rd_g (g : Nat → Int → Int) (f : Int → Option zR) : zgi (HH g) (some pX_readings) 2 1 f = f (g pX_readings 1) := HH_gi (p := pX_readings) (j := 1) rfl (by decide) rfl rfl f
theorem Rd_p (g : Nat → Int → Int) (v : Int) (f : zH → Option zR) : zpf (HH g) (some pX_readings) 2 1 (.inl v) f = f (HH (up g pX_readings 1 v)) := HH_pf (p := pX_readings) (j := 1) rfl (by decide) rfl rfl f
theorem Rd_r (g : Nat → Int → Int) (f : Option Nat → Option zR) : zgr (HH g) (some pX_readings) 2 0 f = f (some 99) := HH_gr (p := pX_readings) (j := 0) rfl (by decide) rfl rfl f
/-- the class's tables say what is found -/
def RpX (g : Nat → Int → Int) (s : zFd) : Prop := zRow g 99 (zLi (fun t => s.1 (t / 10) (t % 10)) 80) ∧ g pX_readings 1 = s.2
def scD (q : Nat) (_ : Int) : Prop := q = pX_readings ∨ q = 99 ∨ q = 100
theorem scD_X {q : Nat} {j : Int} (h : scD q j) : scX q j := by
  simp only [scD, scX, pX, pX_signals, pX_weights, pX_codes, pX_page, pX_notes, pX_keptWeights, pX_keptNotes, pX_said, pX_heard, pX_pool, pX_struck, pX_readings, pM, pM_page, pM_readRows, pM_speeches, pM_rows, pM_signalRows, pM_weights, pM_plain, pM_plains, pM_ahead, pM_heap, pM_noteRows, pM_ways, pM_before, pM_keptWeights, pM_keptRows] at h ⊢
  omega
theorem zCd_D {g g1 : Nat → Int → Int} {P n : Nat} {L : Nat → List Int} (h : zCd g P n L) (hP : 101 ≤ P) (hf : zFr scD g g1) : zCd g1 P n L := zCd_fr h (fun q h1 h2 => hf.at (fun j => by simp only [scD, pX, pX_signals, pX_weights, pX_codes, pX_page, pX_notes, pX_keptWeights, pX_keptNotes, pX_said, pX_heard, pX_pool, pX_struck, pX_readings, pM, pM_page, pM_readRows, pM_speeches, pM_rows, pM_signalRows, pM_weights, pM_plain, pM_plains, pM_ahead, pM_heap, pM_noteRows, pM_ways, pM_before, pM_keptWeights, pM_keptRows]; omega))
theorem Rd_comeTo (xs : List Int) {g : Nat → Int → Int} {s : zFd} (hs : RpX g s) {i f : Nat} (hi : i < 8) (hf : f < 10) {v : Int} (hv : 0 ≤ v ∧ v ≤ 2000000) (h2 : 0 ≤ s.1 i f ∧ s.1 i f ≤ 1000000) : ∃ g1, zx zblk xs 17 0 [some (.inr (.inr (some pX_readings))), some (.inl ((i : Int))), some (.inl ((f : Int))), some (.inl (v))] [] (HH g) = some (some (.inl (zb (v < s.1 i f))), HH g1) ∧ RpX g1 (rlx s i f v) ∧ zFr scD g g1 := by
  have hat : zat (zLi (fun t => s.1 (t / 10) (t % 10)) 80) (((10 * i + f : Nat)) : Int) = s.1 i f := by
    rw [zat_Li (by omega)]
    show s.1 ((10 * i + f) / 10) ((10 * i + f) % 10) = _
    rw [show (10 * i + f) / 10 = i by omega, show (10 * i + f) % 10 = f by omega]
  rw [e_Readings_comeTo_0, Rd_r, Rw_ck Rw99, show (i : Int) * 10 + f = ((10 * i + f : Nat) : Int) by omega, Row_at xs Rw99 hs.1 (by rw [zLi_len]; omega) _ (zw_id (by omega) (by omega)), zci_ok, hat, zw_id (by omega) (by omega), zw_id (by omega) (by omega)]
  by_cases c : v < s.1 i f
  · obtain ⟨p1, p2⟩ := Row_set xs Rw99 hs.1 (by rw [zLi_len]; omega) (10 * i + f) v (by rw [zLi_len]; omega)
    refine ⟨up g (99 + 1) ((10 * i + f : Nat) : Int) v, ?_, ⟨?_, by rw [up_q (by decide)]; exact hs.2⟩, zFr.rf.up (Or.inr (Or.inr rfl))⟩
    · rw [if_pos c, e_Readings_comeTo_23, Rd_r, Rw_ck Rw99, p1, zcv_ok, if_pos (Or.inr rfl), zb_t c]
    · rw [zLi_set] at p2
      rw [zLi_cg (f' := fun t => if t = 10 * i + f then v else s.1 (t / 10) (t % 10)) (fun t ht => by
        show (if t / 10 = i ∧ t % 10 = f ∧ v < s.1 i f then v else s.1 (t / 10) (t % 10)) = _
        by_cases e : t = 10 * i + f
        · rw [if_pos e, if_pos ⟨by omega, by omega, c⟩]
        · rw [if_neg e, if_neg (fun z => e (by omega))])]
      exact p2
  · have hsame : rlx s i f v = s := by
      have := rlx_same (s := s) (j := i) (f := f) (v := v) (zb_f c)
      exact Prod.ext this rfl
    refine ⟨g, ?_, by rw [hsame]; exact hs, zFr.rf⟩
    rw [if_neg c, if_pos (Or.inl rfl), zb_f c]
theorem Rd_meet (xs : List Int) {g : Nat → Int → Int} {P n : Nat} {L : Nat → List Int} (h : zCd g P n L) {s : zFd} (hs : RpX g s) (hok : okF L n s) {i f k : Nat} (hi : i < n) (hk : k < n) (hf : f < (L i).length) {v : Int} (hv : 0 ≤ v ∧ v ≤ 1000000) : ∃ g1, zx zblk xs 16 0 [some (.inr (.inr (some pX_readings))), some (.inr (.inr (some P))), some (.inl ((i : Int))), some (.inl ((f : Int))), some (.inl ((k : Int))), some (.inl (v))] [] (HH g) = some (some (.inl (mtF L s i f k v).2), HH g1) ∧ RpX g1 (mtF L s i f k v).1 ∧ zFr scD g g1 := by
  obtain ⟨h1, hn, hn8, hr⟩ := id h
  obtain ⟨ri, li, ri7⟩ := hr i hi
  obtain ⟨rk, lk, rk7⟩ := hr k hk
  have wi := h.rw hi
  have wk := h.rw hk
  have hdl : ((L i).drop f).length = (L i).length - f := List.length_drop
  have X0 : zx zblk xs 16 0 [some (.inr (.inr (some pX_readings))), some (.inr (.inr (some P))), some (.inl ((i : Int))), some (.inl ((f : Int))), some (.inl ((k : Int))), some (.inl (v))] [] (HH g) = if (L k).length ≠ 0 then zx zblk xs 16 42 [some (.inr (.inr (some pX_readings))), none, some (.inl ((i : Int))), some (.inl ((f : Int))), some (.inl ((k : Int))), some (.inl (v)), some (.inr (.inr (some (P + 21 + 4 + 2 * i)))), some (.inr (.inr (some (P + 21 + 4 + 2 * k)))), some (.inl ((((L i).length - f : Nat) : Int))), some (.inl (0))] [] (HH g) else some (some (.inl 0), HH g) := by
    rw [e_Readings_meet_0, Co_ck h1, Code_plain xs h1 i (by omega), zcr_ok, Co_ck h1, Code_plain xs h1 k (by omega), zcr_ok, Rw_ck wi, Row_size xs wi ri, zci_ok, zw_id (by omega) (by omega), if_neg (by omega), Rw_ck wk, Row_size xs wk rk, zci_ok, zw_id (by omega) (by omega)]
    by_cases c : (L k).length = 0
    · rw [if_neg (by omega), e_Readings_meet_37, if_pos (Or.inl rfl), if_neg (fun z => z c)]
    · rw [if_pos (by omega), e_Readings_meet_39, if_pos c, show ((L i).length : Int) - f = (((L i).length - f : Nat) : Int) by omega]
  rw [X0]
  by_cases c : (L k).length = 0
  · have hm : mtF L s i f k v = (s, 0) := by
      unfold mtF
      exact @if_neg _ (zdc _) (fun z => by omega) _ _ _
    refine ⟨g, ?_, by rw [hm]; exact hs, zFr.rf⟩
    rw [if_neg (fun z => z c), hm]
  · rw [if_pos c]
    have X86 : agr L i f k → ∃ g1, zx zblk xs 16 86 [some (.inr (.inr (some pX_readings))), none, some (.inl ((i : Int))), some (.inl ((f : Int))), some (.inl ((k : Int))), some (.inl (v)), none, some (.inr (.inr (some (P + 21 + 4 + 2 * k)))), some (.inl ((((L i).length - f : Nat) : Int)))] [] (HH g) = some (some (.inl (mtF L s i f k v).2), HH g1) ∧ RpX g1 (mtF L s i f k v).1 ∧ zFr scD g g1 := fun ha => by
      unfold mtF
      simp only [@if_pos _ (zdc _) (⟨by omega, ha⟩ : 0 < (L k).length ∧ agr L i f k)]
      rw [e_Readings_meet_86, Rw_ck wk, Row_size xs wk rk, zci_ok, zw_id (by omega) (by omega), zw_id (by omega) (by omega)]
      by_cases d : (L k).length = (L i).length - f
      · simp only [if_pos d]
        refine ⟨up g pX_readings 1 (if v < s.2 then v else s.2), ?_, ⟨zRow_fr hs.1 (up_p _ _ _ (by decide)) (up_p _ _ _ (by decide)), up_same _ _ _ _⟩, zFr.rf.up (Or.inl rfl)⟩
        have h2 := hok.2
        rw [if_neg (by omega), Rd_g, hs.2, zw_id (by omega) (by omega), zw_id (by omega) (by omega), Rd_p, if_pos (Or.inl trivial)]
      · simp only [if_neg d]
        rw [if_pos (by omega), e_Readings_meet_111, Rw_ck wk, Row_size xs wk rk, zci_ok, zw_id (by omega) (by omega), zw_id (by omega) (by omega)]
        by_cases e : (L k).length < (L i).length - f
        · simp only [if_pos e]
          obtain ⟨g1, q1, q2, q3⟩ := Rd_comeTo xs hs (i := i) (f := f + (L k).length) (by omega) (by omega) (v := v) (by omega) ⟨(hok.1 _ _).1, (hok.1 _ _).2.1⟩
          refine ⟨g1, ?_, q2, q3⟩
          rw [if_neg (by omega), Rw_ck wk, Row_size xs wk rk, zci_ok, Rd_ck, show (f : Int) + (L k).length = ((f + (L k).length : Nat) : Int) by omega, q1, zci_ok, if_pos (zb_01 _)]
        · simp only [if_neg e]
          obtain ⟨g1, q1, q2, q3⟩ := Rd_comeTo xs hs (i := k) (f := (L i).length - f) (by omega) (by omega) (v := v + (L k).length - ((L i).length - f : Nat)) (by omega) ⟨(hok.1 _ _).1, (hok.1 _ _).2.1⟩
          refine ⟨g1, ?_, q2, q3⟩
          rw [if_pos (by omega), e_Readings_meet_136, Rw_ck wk, Row_size xs wk rk, zci_ok, Rd_ck, q1, zci_ok, if_pos (zb_01 _)]
    have loop : ∀ (r x : Nat), x + r = min ((L i).length - f) (L k).length → ((L i).drop f).take x = (L k).take x → ∃ g1, zx zblk xs 16 42 [some (.inr (.inr (some pX_readings))), none, some (.inl ((i : Int))), some (.inl ((f : Int))), some (.inl ((k : Int))), some (.inl (v)), some (.inr (.inr (some (P + 21 + 4 + 2 * i)))), some (.inr (.inr (some (P + 21 + 4 + 2 * k)))), some (.inl ((((L i).length - f : Nat) : Int))), some (.inl ((x : Int)))] [] (HH g) = some (some (.inl (mtF L s i f k v).2), HH g1) ∧ RpX g1 (mtF L s i f k v).1 ∧ zFr scD g g1 := by
      intro r
      induction r with
      | zero =>
        intro x hx ht
        have hxm : x = min ((L i).length - f) (L k).length := by omega
        obtain ⟨g1, q1, q2, q3⟩ := X86 (agr_iff.mpr (hxm ▸ ht))
        refine ⟨g1, ?_, q2, q3⟩
        rw [e_Readings_meet_42, zw_id (by omega) (by omega), zw_id (by omega) (by omega)]
        by_cases d : (L i).length - f ≤ x
        · rw [if_pos (by omega)]
          exact q1
        · rw [if_neg (by omega), Rw_ck wk, Row_size xs wk rk, zci_ok, zw_id (by omega) (by omega), if_pos (by omega)]
          exact q1
      | succ r ih =>
        intro x hx ht
        have v1 := isR7_get ri7 (k := f + x) (by omega)
        have v2 := isR7_get rk7 (k := x) (by omega)
        have hd : ((L i).drop f)[x]'(by omega) = (L i)[f + x]'(by omega) := List.getElem_drop
        have hts := take_succ_eq (A := (L i).drop f) (B := L k) (k := x) (by omega) (by omega)
        rw [e_Readings_meet_42, zw_id (by omega) (by omega), zw_id (by omega) (by omega), if_neg (by omega), Rw_ck wk, Row_size xs wk rk, zci_ok, zw_id (by omega) (by omega), if_neg (by omega), Rw_ck wi, show (f : Int) + x = ((f + x : Nat) : Int) by omega, Row_at xs wi ri li _ (zw_id (by omega) (by omega)), zci_ok, zat_in (show f + x < (L i).length by omega), Rw_ck wk, Row_at xs wk rk lk x (zw_id (by omega) (by omega)), zci_ok, zat_in (show x < (L k).length by omega), zw_id (by omega) (by omega), zw_id (by omega) (by omega)]
        by_cases d : (L i)[f + x]'(by omega) = (L k)[x]'(by omega)
        · obtain ⟨g1, q1, q2, q3⟩ := ih (x + 1) (by omega) (hts.mpr ⟨ht, by rw [hd]; exact d⟩)
          refine ⟨g1, ?_, q2, q3⟩
          rw [if_pos d, e_Readings_meet_80, ← Int.natCast_succ]
          exact q1
        · have hna : ¬ agr L i f k := fun z => by
            have h3 := agr_iff.mp z
            have h4 := congrArg (fun l : List Int => l.take (x + 1)) h3
            simp only [List.take_take] at h4
            rw [Nat.min_eq_left (by omega)] at h4
            have := (hts.mp h4).2
            rw [hd] at this
            exact d this
          have hm : mtF L s i f k v = (s, 0) := by
            unfold mtF
            exact @if_neg _ (zdc _) (fun z => hna z.2) _ _ _
          refine ⟨g, ?_, by rw [hm]; exact hs, zFr.rf⟩
          rw [if_neg d, if_pos (Or.inl rfl), hm]
    obtain ⟨g1, q1, q2, q3⟩ := loop (min ((L i).length - f) (L k).length) 0 (by omega) rfl
    rw [z0N] at q1
    exact ⟨g1, q1, q2, q3⟩
theorem mtF_self {L : Nat → List Int} {s : zFd} {j f k : Nat} : (mtF L s j f k (s.1 j f)).1.1 j f = s.1 j f := by
  unfold mtF
  by_cases c : 0 < (L k).length ∧ agr L j f k
  · simp only [@if_pos _ (zdc _) c]
    by_cases d : (L k).length = (L j).length - f
    · simp only [if_pos d]
    · simp only [if_neg d]
      by_cases g : (L k).length < (L j).length - f
      · simp only [if_pos g]
        show (if j = j ∧ f = f + (L k).length ∧ _ then _ else s.1 j f) = _
        rw [if_neg (fun z => by omega)]
      · simp only [if_neg g]
        show (if j = k ∧ f = (L j).length - f ∧ s.1 j f + (L k).length - ((L j).length - f : Nat) < s.1 k ((L j).length - f) then _ else s.1 j f) = _
        rw [if_neg]
        rintro ⟨z1, z2, z3⟩
        rw [← z2, ← z1] at z3
        rw [← z1] at d g
        omega
  · simp only [@if_neg _ (zdc _) c]
theorem swK_self {L : Nat → List Int} {j f : Nat} {s : zFd × Int} : ∀ k, (swK L j f k s).1.1 j f = s.1.1 j f
  | 0 => rfl
  | k + 1 => by
    rw [swK]
    by_cases c : (swK L j f k s).1.1 j f < 1000000
    · rw [if_pos c]
      exact mtF_self.trans (swK_self k)
    · rw [if_neg c]
      exact swK_self k
theorem Rd_swK (xs : List Int) {L : Nat → List Int} {P n : Nat} (hP : 101 ≤ P) {t : Nat} (ht : t < 80) {s : zFd × Int} (hok : okF L n s.1) : ∀ (r k : Nat) (gk : Nat → Int → Int), k + r = n → zCd gk P n L → RpX gk (swK L (t / 10) (t % 10) k s).1 → ∃ g1, zx zblk xs 15 23 [some (.inr (.inr (some pX_readings))), some (.inr (.inr (some P))), some (.inl ((swK L (t / 10) (t % 10) k s).2)), some (.inl ((t : Int))), some (.inl (s.1.1 (t / 10) (t % 10))), some (.inl ((k : Int)))] [] (HH gk) = zx zblk xs 15 67 [some (.inr (.inr (some pX_readings))), some (.inr (.inr (some P))), some (.inl ((swK L (t / 10) (t % 10) n s).2)), some (.inl ((t : Int)))] [] (HH g1) ∧ RpX g1 (swK L (t / 10) (t % 10) n s).1 ∧ zFr scD gk g1 := by
  intro r
  induction r with
  | zero =>
    intro k gk hk hc hs
    have : k = n := by omega
    subst this
    refine ⟨gk, ?_, hs, zFr.rf⟩
    rw [e_Readings_goOn_23, Co_ck hc.1, Code_size xs hc.1, zci_ok, hc.2.1, if_pos (Int.le_refl _)]
  | succ r ih =>
    intro k gk hk hc hs
    have hn8 := hc.2.2.1
    obtain ⟨i1, i2, i3, i4⟩ := swK_ok hok (j := t / 10) (f := t % 10) k (by omega)
    have hself := swK_self (L := L) (j := t / 10) (f := t % 10) (s := s) k
    have hv := hok.1 (t / 10) (t % 10)
    have hst : zx zblk xs 15 23 [some (.inr (.inr (some pX_readings))), some (.inr (.inr (some P))), some (.inl ((swK L (t / 10) (t % 10) k s).2)), some (.inl ((t : Int))), some (.inl (s.1.1 (t / 10) (t % 10))), some (.inl ((k : Int)))] [] (HH gk) = if 1000000 ≤ s.1.1 (t / 10) (t % 10) then zx zblk xs 15 67 [some (.inr (.inr (some pX_readings))), some (.inr (.inr (some P))), some (.inl ((swK L (t / 10) (t % 10) k s).2)), some (.inl ((t : Int)))] [] (HH gk) else zci (zx zblk xs 16 0 [some (.inr (.inr (some pX_readings))), some (.inr (.inr (some P))), some (.inl (((t / 10 : Nat) : Int))), some (.inl (((t % 10 : Nat) : Int))), some (.inl ((k : Int))), some (.inl ((s.1.1 (t / 10) (t % 10))))] [] (HH gk)) fun r4 h3 => (if zw r4 = 0 then zx zblk xs 15 61 [some (.inr (.inr (some pX_readings))), some (.inr (.inr (some P))), some (.inl ((swK L (t / 10) (t % 10) k s).2)), some (.inl ((t : Int))), some (.inl (s.1.1 (t / 10) (t % 10))), some (.inl ((k : Int)))] [] h3 else zx zblk xs 15 61 [some (.inr (.inr (some pX_readings))), some (.inr (.inr (some P))), some (.inl (1)), some (.inl ((t : Int))), some (.inl (s.1.1 (t / 10) (t % 10))), some (.inl ((k : Int)))] [] h3) := by
      have hdv : (t : Int).tdiv 10 = ((t / 10 : Nat) : Int) := rfl
      have hmd : (t : Int).tmod 10 = ((t % 10 : Nat) : Int) := rfl
      rw [e_Readings_goOn_23, Co_ck hc.1, Code_size xs hc.1, zci_ok, hc.2.1, if_neg (by rw [zw_id (by omega) (by omega), zw_id (by omega) (by omega)]; omega), show zw 1000000 = 1000000 from rfl, zw_id (a := s.1.1 (t / 10) (t % 10)) (by omega) (by omega), show zw 10 = 10 from rfl]
      by_cases q : 1000000 ≤ s.1.1 (t / 10) (t % 10)
      · rw [if_pos q, if_pos q]
      rw [if_neg q, if_neg q, if_neg (by decide), if_neg (by decide), Rd_ck, zw_id (a := (t : Int)) (by omega) (by omega), hdv, hmd]
    rw [hst]
    by_cases c : s.1.1 (t / 10) (t % 10) < 1000000
    · have hrch := hv.2.2 c
      obtain ⟨t', ht'⟩ := id hrch
      obtain ⟨r1, r2, r3, r4⟩ := Rch_rg ht'
      have hsw : swK L (t / 10) (t % 10) (k + 1) s = ((mtF L (swK L (t / 10) (t % 10) k s).1 (t / 10) (t % 10) k (s.1.1 (t / 10) (t % 10))).1, if (mtF L (swK L (t / 10) (t % 10) k s).1 (t / 10) (t % 10) k (s.1.1 (t / 10) (t % 10))).2 = 0 then (swK L (t / 10) (t % 10) k s).2 else 1) := by rw [swK, hself, if_pos c]
      obtain ⟨m1, m2, m3, m4, m5⟩ := mtF_ok i1.1 (j := t / 10) (f := t % 10) (k := k) (by omega) hrch
      obtain ⟨g2, p1, p2, p3⟩ := Rd_meet xs hc hs i1.1 r1 (k := k) (by omega) r3 (v := s.1.1 (t / 10) (t % 10)) (by omega)
      obtain ⟨g1, q1, q2, q3⟩ := ih (k + 1) g2 (by omega) (zCd_D hc hP p3) (by rw [hsw]; exact p2)
      refine ⟨g1, ?_, q2, p3.tr q3⟩
      rw [hsw] at q1
      rw [if_neg (by omega), p1, zci_ok]
      rcases m2 with z | z
      · rw [z] at q1 ⊢
        rw [if_pos rfl] at q1
        rw [if_pos (show zw 0 = 0 from rfl), e_Readings_goOn_61, ← Int.natCast_succ]
        exact q1
      · rw [z] at q1 ⊢
        rw [if_neg (by decide)] at q1
        rw [if_neg (by decide), e_Readings_goOn_61, ← Int.natCast_succ]
        exact q1
    · have hstop := swK_stop (L := L) (j := t / 10) (f := t % 10) (s := s) (k := k) (r := r + 1) (by rw [hself]; exact c)
      rw [hk] at hstop
      refine ⟨gk, ?_, by rw [hstop]; exact hs, zFr.rf⟩
      rw [if_pos (by omega), hstop]
end
section
/-! ===== twice: the class's rounds ===== -/
theorem Rd_goOn (xs : List Int) {L : Nat → List Int} {P n : Nat} (hP : 101 ≤ P) {g : Nat → Int → Int} (hc : zCd g P n L) {s : zFd} (hok : okF L n s) (hs : RpX g s) : ∃ g1, zx zblk xs 15 0 [some (.inr (.inr (some pX_readings))), some (.inr (.inr (some P)))] [] (HH g) = some (some (.inl (swT L n 10 80 (s, 0)).2), HH g1) ∧ RpX g1 (swT L n 10 80 (s, 0)).1 ∧ zFr scD g g1 := by
  have loop : ∀ (r t : Nat) (gk : Nat → Int → Int), t + r = 80 → zCd gk P n L → RpX gk (swT L n 10 t (s, 0)).1 → ∃ g1, zx zblk xs 15 4 [some (.inr (.inr (some pX_readings))), some (.inr (.inr (some P))), some (.inl ((swT L n 10 t (s, 0)).2)), some (.inl ((t : Int)))] [] (HH gk) = some (some (.inl (swT L n 10 80 (s, 0)).2), HH g1) ∧ RpX g1 (swT L n 10 80 (s, 0)).1 ∧ zFr scD gk g1 := by
    intro r
    induction r with
    | zero =>
      intro t gk ht hck hsk
      have : t = 80 := by omega
      subst this
      obtain ⟨i1, i2, -, -⟩ := swT_ok (L := L) (n := n) (m := 10) (s := (s, 0)) (by omega) hok 80
      obtain ⟨fl, -⟩ := i2 (Or.inl rfl)
      refine ⟨gk, ?_, hsk, zFr.rf⟩
      rw [e_Readings_goOn_4, if_pos (by decide), e_Readings_goOn_73, if_pos fl]
    | succ r ih =>
      intro t gk ht hck hsk
      obtain ⟨i1, i2, -, -⟩ := swT_ok (L := L) (n := n) (m := 10) (s := (s, 0)) (by omega) hok t
      obtain ⟨g2, p1, p2, p3⟩ := Rd_swK xs hP (show t < 80 by omega) (s := swT L n 10 t (s, 0)) i1.1 n 0 gk (by omega) hck hsk
      obtain ⟨g1, q1, q2, q3⟩ := ih (t + 1) g2 (by omega) (zCd_D hck hP p3) p2
      refine ⟨g1, ?_, q2, p3.tr q3⟩
      rw [z0N] at p1
      have hat : zat (zLi (fun u => (swT L n 10 t (s, 0)).1.1 (u / 10) (u % 10)) 80) (t : Int) = (swT L n 10 t (s, 0)).1.1 (t / 10) (t % 10) := by
        rw [zat_Li (by omega)]
        rfl
      rw [e_Readings_goOn_4, if_neg (by rw [show zw 80 = 80 from rfl, zw_id (by omega) (by omega)]; omega), Rd_r, Rw_ck Rw99, Row_at xs Rw99 hsk.1 (by rw [zLi_len]; omega) t (zw_id (by omega) (by omega)), zci_ok, hat]
      refine Eq.trans p1 ?_
      rw [e_Readings_goOn_67, ← Int.natCast_succ]
      exact q1
  obtain ⟨g1, q1, q2, q3⟩ := loop 80 0 g (by omega) hc hs
  rw [z0N] at q1
  exact ⟨g1, by rw [e_Readings_goOn_0]; exact q1, q2, q3⟩
theorem agr_sym {L : Nat → List Int} {i j : Nat} : agr L i 0 j ↔ agr L j 0 i := by
  unfold agr
  rw [List.drop_zero, List.drop_zero, Nat.sub_zero, Nat.sub_zero]
  exact ⟨Eq.symm, Eq.symm⟩
/-- a pair against each other is both of its starts -/
theorem mt_start {L : Nat → List Int} {n : Nat} {s : zFd} (h : okF L n s) {i j : Nat} (hi : i < n) (hj : j < n) (hij : i ≠ j) (h0 : 0 < (L i).length) : onF L n s (mtF L s i 0 j (L i).length).1 ∧ (stt L n i j → ((L i).length < (L j).length → (mtF L s i 0 j (L i).length).1.1 j (L i).length ≤ (L j).length) ∧ ((L i).length = (L j).length → (mtF L s i 0 j (L i).length).1.2 ≤ (L j).length)) ∧ (stt L n j i → ((L j).length < (L i).length → (mtF L s i 0 j (L i).length).1.1 i (L j).length ≤ (L i).length) ∧ ((L j).length = (L i).length → (mtF L s i 0 j (L i).length).1.2 ≤ (L i).length)) := by
  by_cases c : 0 < (L j).length ∧ agr L i 0 j
  · have hm : (mtF L s i 0 j (L i).length).1 = if (L j).length = (L i).length then (s.1, if ((L i).length : Int) < s.2 then ((L i).length : Int) else s.2) else if (L j).length < (L i).length then rlx s i (L j).length (L i).length else rlx s j (L i).length (L j).length := by
      unfold mtF
      simp only [@if_pos _ (zdc _) c, Nat.sub_zero, Nat.zero_add]
      by_cases d : (L j).length = (L i).length
      · simp only [if_pos d]
      · by_cases e : (L j).length < (L i).length
        · simp only [if_neg d, if_pos e]
        · simp only [if_neg d, if_neg e]
          rw [show ((L i).length : Int) + (L j).length - (L i).length = (L j).length by omega]
    by_cases d : (L j).length = (L i).length
    · rw [if_pos d] at hm
      have st1 : stt L n i j := ⟨hi, hj, hij, h0, by omega, agr_sym.mp c.2⟩
      have hst : (mtF L s i 0 j (L i).length).1 = stF L s i j := by
        rw [hm]
        unfold stF
        rw [if_pos d.symm, d]
      obtain ⟨o1, o2, o3⟩ := stF_ok h st1
      rw [hst]
      exact ⟨o1, fun _ => ⟨o2, o3⟩, fun _ => ⟨fun z => by omega, fun _ => by have := o3 d.symm; omega⟩⟩
    · rw [if_neg d] at hm
      by_cases e : (L j).length < (L i).length
      · rw [if_pos e] at hm
        have st1 : stt L n j i := ⟨hj, hi, fun z => hij z.symm, c.1, by omega, c.2⟩
        have hst : (mtF L s i 0 j (L i).length).1 = stF L s j i := by
          rw [hm]
          unfold stF
          rw [if_neg d]
        obtain ⟨o1, o2, o3⟩ := stF_ok h st1
        rw [hst]
        exact ⟨o1, fun z => absurd z.2.2.2.2.1 (by omega), fun _ => ⟨o2, o3⟩⟩
      · rw [if_neg e] at hm
        have st1 : stt L n i j := ⟨hi, hj, hij, h0, by omega, agr_sym.mp c.2⟩
        have hst : (mtF L s i 0 j (L i).length).1 = stF L s i j := by
          rw [hm]
          unfold stF
          rw [if_neg (fun z => d z.symm)]
        obtain ⟨o1, o2, o3⟩ := stF_ok h st1
        rw [hst]
        exact ⟨o1, fun _ => ⟨o2, o3⟩, fun z => absurd z.2.2.2.2.1 (by omega)⟩
  · have hm : mtF L s i 0 j (L i).length = (s, 0) := by
      unfold mtF
      exact @if_neg _ (zdc _) c _ _ _
    rw [hm]
    refine ⟨onF_rf h, fun z => absurd ⟨?_, agr_sym.mpr z.2.2.2.2.2⟩ c, fun z => absurd ⟨z.2.2.2.1, z.2.2.2.2.2⟩ c⟩
    have := z.2.2.2.2.1
    omega
theorem Rd_starts (xs : List Int) {L : Nat → List Int} {P n : Nat} (hP : 101 ≤ P) {g : Nat → Int → Int} (hc : zCd g P n L) (hs : RpX g s0F) : ∃ g1 s1, zx zblk xs 14 36 [some (.inr (.inr (some pX_readings))), some (.inr (.inr (some P)))] [] (HH g) = zx zblk xs 14 87 [some (.inr (.inr (some pX_readings))), some (.inr (.inr (some P)))] [] (HH g1) ∧ RpX g1 s1 ∧ okF L n s1 ∧ stC L n s1 ∧ zFr scD g g1 := by
  have hn8 := hc.2.2.1
  have inner : ∀ (i : Nat), i < n → ∀ (r j : Nat) (gk : Nat → Int → Int) (s : zFd), j + r = n → i < j → zCd gk P n L → RpX gk s → okF L n s → prS L n (fun i' j' => (i' < i ∨ j' < i) ∨ (i' = i ∧ j' < j) ∨ (j' = i ∧ i' < j)) s → ∃ g1 s1, zx zblk xs 14 50 [some (.inr (.inr (some pX_readings))), some (.inr (.inr (some P))), some (.inl ((i : Int))), some (.inl ((j : Int)))] [] (HH gk) = zx zblk xs 14 38 [some (.inr (.inr (some pX_readings))), some (.inr (.inr (some P))), some (.inl (((i + 1 : Nat) : Int)))] [] (HH g1) ∧ RpX g1 s1 ∧ okF L n s1 ∧ prS L n (fun i' j' => i' < i + 1 ∨ j' < i + 1) s1 ∧ zFr scD gk g1 := by
    intro i hi r
    induction r with
    | zero =>
      intro j gk s hj hij hck hsk hok hp
      have : j = n := by omega
      subst this
      refine ⟨gk, s, ?_, hsk, hok, fun i' j' d st => hp i' j' (by have := st.2.1; have := st.1; omega) st, zFr.rf⟩
      rw [e_Readings_leastTwice_50, Co_ck hck.1, Code_size xs hck.1, zci_ok, hck.2.1, if_pos (Int.le_refl _), e_Readings_leastTwice_81, Int.natCast_succ]
    | succ r ih =>
      intro j gk s hj hij hck hsk hok hp
      obtain ⟨o1, o2, o3⟩ := hck.2.2.2 i hi
      have hst : zx zblk xs 14 50 [some (.inr (.inr (some pX_readings))), some (.inr (.inr (some P))), some (.inl ((i : Int))), some (.inl ((j : Int)))] [] (HH gk) = zci (zx zblk xs 16 0 [some (.inr (.inr (some pX_readings))), some (.inr (.inr (some P))), some (.inl ((i : Int))), some (.inl (0)), some (.inl ((j : Int))), some (.inl (((L i).length : Int)))] [] (HH gk)) fun r8 h7 => zx zblk xs 14 50 [some (.inr (.inr (some pX_readings))), some (.inr (.inr (some P))), some (.inl ((i : Int))), some (.inl (((j + 1 : Nat) : Int)))] [] h7 := by
        rw [e_Readings_leastTwice_50, Co_ck hck.1, Code_size xs hck.1, zci_ok, hck.2.1, if_neg (by rw [zw_id (by omega) (by omega), zw_id (by omega) (by omega)]; omega), Co_ck hck.1, Code_plain xs hck.1 i (by omega), zcr_ok, Rw_ck (hck.rw hi), Row_size xs (hck.rw hi) o1, zci_ok, Rd_ck, Int.natCast_succ]
      by_cases c : 0 < (L i).length
      · obtain ⟨g2, p1, p2, p3⟩ := Rd_meet xs hck hsk hok hi (k := j) (by omega) (f := 0) c (v := ((L i).length : Int)) (by omega)
        rw [z0N] at p1
        obtain ⟨m1, m2, m3⟩ := mt_start hok hi (show j < n by omega) (by omega) c
        obtain ⟨g1, s1, q1, q2, q3, q4, q5⟩ := ih (j + 1) g2 (mtF L s i 0 j (L i).length).1 (by omega) (by omega) (zCd_D hck hP p3) p2 m1.1 (fun i' j' d st => by
          by_cases e : i' = i ∧ j' = j
          · obtain ⟨rfl, rfl⟩ := e
            exact m2 st
          · by_cases e2 : i' = j ∧ j' = i
            · obtain ⟨rfl, rfl⟩ := e2
              exact m3 st
            · exact prS_on hp m1 i' j' (by omega) st)
        refine ⟨g1, s1, ?_, q2, q3, q4, p3.tr q5⟩
        rw [hst, p1, zci_ok]
        exact q1
      · have hme : zx zblk xs 16 0 [some (.inr (.inr (some pX_readings))), some (.inr (.inr (some P))), some (.inl ((i : Int))), some (.inl (0)), some (.inl ((j : Int))), some (.inl (((L i).length : Int)))] [] (HH gk) = some (some (.inl 0), HH gk) := by
          rw [e_Readings_meet_0, Co_ck hck.1, Code_plain xs hck.1 i (by omega), zcr_ok, Co_ck hck.1, Code_plain xs hck.1 j (by omega), zcr_ok, Rw_ck (hck.rw hi), Row_size xs (hck.rw hi) o1, zci_ok, zw_id (by omega) (by omega), if_pos (by omega), e_Readings_meet_37, if_pos (Or.inl rfl)]
        obtain ⟨g1, s1, q1, q2, q3, q4, q5⟩ := ih (j + 1) gk s (by omega) (by omega) hck hsk hok (fun i' j' d st => by
          by_cases e : i' = i ∧ j' = j
          · obtain ⟨rfl, rfl⟩ := e
            exact absurd st.2.2.2.1 c
          · by_cases e2 : i' = j ∧ j' = i
            · obtain ⟨rfl, rfl⟩ := e2
              have := st.2.2.2.2.1
              have := st.2.2.2.1
              omega
            · exact hp i' j' (by omega) st)
        refine ⟨g1, s1, ?_, q2, q3, q4, q5⟩
        rw [hst, hme, zci_ok]
        exact q1
  have outer : ∀ (r i : Nat) (gk : Nat → Int → Int) (s : zFd), i + r = n → zCd gk P n L → RpX gk s → okF L n s → prS L n (fun i' j' => i' < i ∨ j' < i) s → ∃ g1 s1, zx zblk xs 14 38 [some (.inr (.inr (some pX_readings))), some (.inr (.inr (some P))), some (.inl ((i : Int)))] [] (HH gk) = zx zblk xs 14 87 [some (.inr (.inr (some pX_readings))), some (.inr (.inr (some P)))] [] (HH g1) ∧ RpX g1 s1 ∧ okF L n s1 ∧ stC L n s1 ∧ zFr scD gk g1 := by
    intro r
    induction r with
    | zero =>
      intro i gk s hi hck hsk hok hp
      have : i = n := by omega
      subst this
      refine ⟨gk, s, ?_, hsk, hok, prS_all hp (fun i' j' st => Or.inl st.1), zFr.rf⟩
      rw [e_Readings_leastTwice_38, Co_ck hck.1, Code_size xs hck.1, zci_ok, hck.2.1, if_pos (Int.le_refl _)]
    | succ r ih =>
      intro i gk s hi hck hsk hok hp
      obtain ⟨g2, s2, p1, p2, p3, p4, p5⟩ := inner i (by omega) (n - (i + 1)) (i + 1) gk s (by omega) (by omega) hck hsk hok (fun i' j' d st => by
        by_cases e : i' < i ∨ j' < i
        · exact hp i' j' e st
        · exact absurd st.2.2.1 (by omega))
      obtain ⟨g1, s1, q1, q2, q3, q4, q5⟩ := ih (i + 1) g2 s2 (by omega) (zCd_D hck hP p5) p2 p3 p4
      refine ⟨g1, s1, ?_, q2, q3, q4, p5.tr q5⟩
      rw [e_Readings_leastTwice_38, Co_ck hck.1, Code_size xs hck.1, zci_ok, hck.2.1, if_neg (by rw [zw_id (by omega) (by omega), zw_id (by omega) (by omega)]; omega), ← Int.natCast_succ]
      exact p1.trans q1
  obtain ⟨g1, s1, q1, q2, q3, q4, q5⟩ := outer n 0 g s0F (by omega) hc hs (s0F_ok L n) (fun i' j' d st => by omega)
  rw [z0N] at q1
  exact ⟨g1, s1, by rw [e_Readings_leastTwice_36]; exact q1, q2, q3, q4, q5⟩
theorem Rd_rounds (xs : List Int) {L : Nat → List Int} {P n : Nat} (hP : 101 ≤ P) (hL : ∀ i, i < n → (L i).length ≤ 10) : ∀ (r k : Nat) (gk : Nat → Int → Int) (s : zFd) (fl : Int), k + r = 81 → zCd gk P n L → RpX gk s → okF L n s → stC L n s → (bC L n s ∨ (fl = 1 ∧ leS L n s ≤ 80 - (k : Int) ∧ k ≤ 80)) → (fl = 0 ∨ fl = 1) → ∃ g1 b, zx zblk xs 14 91 [some (.inr (.inr (some pX_readings))), some (.inr (.inr (some P))), some (.inl (fl)), some (.inl ((k : Int)))] [] (HH gk) = zx zblk xs 14 113 [some (.inr (.inr (some pX_readings)))] [] (HH g1) ∧ g1 pX_readings 1 = b ∧ bF L n b ∧ zFr scD gk g1 := by
  intro r
  induction r with
  | zero =>
    intro k gk s fl hk hc hs hok hst hb hfl
    have : k = 81 := by omega
    subst this
    have hbC : bC L n s := by
      rcases hb with z | z
      · exact z
      · omega
    refine ⟨gk, s.2, ?_, hs.2, bF_of hok hbC, zFr.rf⟩
    rw [e_Readings_leastTwice_91, if_pos (by decide)]
  | succ r ih =>
    intro k gk s fl hk hc hs hok hst hb hfl
    have hn8 := hc.2.2.1
    rw [e_Readings_leastTwice_91, if_neg (by rw [show zw 80 = 80 from rfl, zw_id (by omega) (by omega)]; omega)]
    by_cases c : fl = 0
    · have hbC : bC L n s := by
        rcases hb with z | z
        · exact z
        · omega
      refine ⟨gk, s.2, ?_, hs.2, bF_of hok hbC, zFr.rf⟩
      rw [c, if_pos (show zw 0 = 0 from rfl)]
    · have h1 : fl = 1 := by omega
      subst h1
      have sw := sweep hL hn8 (m := 10) (by omega) hok hst
      rw [show 8 * 10 = 80 from rfl] at sw
      obtain ⟨s1, s2, s3, s4, s5, s6, s7⟩ := sw
      obtain ⟨g2, p1, p2, p3⟩ := Rd_goOn xs hP hc hok hs
      have hon := (swT_ok (L := L) (n := n) (m := 10) (s := (s, 0)) (by omega) hok 80).1
      obtain ⟨g1, b, q1, q2, q3, q4⟩ := ih (k + 1) g2 (swT L n 10 80 (s, 0)).1 (swT L n 10 80 (s, 0)).2 (by omega) (zCd_D hc hP p3) p2 s1 s2 (by
        rcases hb with z | z
        · exact Or.inl (fun len h => Int.le_trans hon.2.2 (z len h))
        · by_cases d : leS L n s = 0
          · exact Or.inl (s5 d)
          · have h2 := s6 d
            by_cases e : (swT L n 10 80 (s, 0)).2 = 0
            · exact Or.inl (s4 e)
            · have h3 := (leS_rg L n (swT L n 10 80 (s, 0)).1).1
              refine Or.inr ⟨?_, by omega, by omega⟩
              rcases s3 with z | z
              · exact absurd z e
              · exact z) s3
      refine ⟨g1, b, ?_, q2, q3, p3.tr q4⟩
      rw [if_neg (by decide), Rd_ck, p1, zci_ok, ← Int.natCast_succ]
      exact q1
theorem Rd_leastTwice (xs : List Int) {L : Nat → List Int} {P n : Nat} (hP : 101 ≤ P) {g : Nat → Int → Int} (hc : zCd g P n L) : ∃ g1, zx zblk xs 14 0 [some (.inr (.inr (some pX_readings))), some (.inr (.inr (some P)))] [] (HH g) = some (some (.inl (if bV L n < 1000000 then bV L n else -1)), HH g1) ∧ zFr scX g g1 := by
  have e0 : ∀ {gk : Nat → Int → Int}, zFr scD (up g pX_readings 1 1000000) gk → zFr scD g gk := fun h => (zFr.rf.up (Or.inl rfl)).tr h
  obtain ⟨w1, w2, w3⟩ := Row_wipe xs (g := up g pX_readings 1 1000000) Rw99
  have fw : zFr scD (up g pX_readings 1 1000000) (up (up g pX_readings 1 1000000) 99 1 0) := w3.mono (fun q j z => by simp only [scR] at z; simp only [scD, pX, pX_signals, pX_weights, pX_codes, pX_page, pX_notes, pX_keptWeights, pX_keptNotes, pX_said, pX_heard, pX_pool, pX_struck, pX_readings, pM, pM_page, pM_readRows, pM_speeches, pM_rows, pM_signalRows, pM_weights, pM_plain, pM_plains, pM_ahead, pM_heap, pM_noteRows, pM_ways, pM_before, pM_keptWeights, pM_keptRows]; omega)
  have loop : ∀ (r k : Nat) (gk : Nat → Int → Int), k + r = 80 → zRow gk 99 (zLi (fun _ => 1000000) k) → gk pX_readings 1 = 1000000 → zFr scD (up g pX_readings 1 1000000) gk → ∃ g1, zx zblk xs 14 15 [some (.inr (.inr (some pX_readings))), some (.inr (.inr (some P))), some (.inl ((k : Int)))] [] (HH gk) = zx zblk xs 14 36 [some (.inr (.inr (some pX_readings))), some (.inr (.inr (some P)))] [] (HH g1) ∧ RpX g1 s0F ∧ zFr scD (up g pX_readings 1 1000000) g1 := by
    intro r
    induction r with
    | zero =>
      intro k gk hk hr hb hf
      have : k = 80 := by omega
      subst this
      refine ⟨gk, ?_, ⟨hr, hb⟩, hf⟩
      rw [e_Readings_leastTwice_15, if_pos (by decide)]
    | succ r ih =>
      intro k gk hk hr hb hf
      obtain ⟨g2, p1, p2, p3⟩ := Row_add xs Rw99 hr (by rw [zLi_len]; omega) 1000000
      rw [← zLi_snoc (fun _ => 1000000)] at p2
      obtain ⟨g1, q1, q2, q3⟩ := ih (k + 1) g2 (by omega) p2 (by rw [p3 pX_readings 1 (by simp only [scR, pX, pX_signals, pX_weights, pX_codes, pX_page, pX_notes, pX_keptWeights, pX_keptNotes, pX_said, pX_heard, pX_pool, pX_struck, pX_readings, pM, pM_page, pM_readRows, pM_speeches, pM_rows, pM_signalRows, pM_weights, pM_plain, pM_plains, pM_ahead, pM_heap, pM_noteRows, pM_ways, pM_before, pM_keptWeights, pM_keptRows]; omega)]; exact hb) (hf.tr (p3.mono (fun q j z => by simp only [scR] at z; simp only [scD, pX, pX_signals, pX_weights, pX_codes, pX_page, pX_notes, pX_keptWeights, pX_keptNotes, pX_said, pX_heard, pX_pool, pX_struck, pX_readings, pM, pM_page, pM_readRows, pM_speeches, pM_rows, pM_signalRows, pM_weights, pM_plain, pM_plains, pM_ahead, pM_heap, pM_noteRows, pM_ways, pM_before, pM_keptWeights, pM_keptRows]; omega)))
      refine ⟨g1, ?_, q2, q3⟩
      rw [e_Readings_leastTwice_15, if_neg (by rw [show zw 80 = 80 from rfl, zw_id (by omega) (by omega)]; omega), Rd_r, Rw_ck Rw99, p1, zcv_ok, ← Int.natCast_succ]
      exact q1
  obtain ⟨ga, a1, a2, a3⟩ := loop 80 0 _ (by omega) w2 (by rw [up_q (by decide), up_same]) fw
  rw [z0N] at a1
  have hca := zCd_D hc hP (e0 a3)
  obtain ⟨gb, s1, b1, b2, b3, b4, b5⟩ := Rd_starts xs hP hca a2
  have hcb := zCd_D hca hP b5
  have hL : ∀ i, i < n → (L i).length ≤ 10 := fun i hi => (hc.2.2.2 i hi).2.1
  obtain ⟨g1, b, c1, c2, c3, c4⟩ := Rd_rounds xs hP hL 81 0 gb s1 1 (by omega) hcb b2 b3 b4 (Or.inr ⟨rfl, by have := (leS_rg L n s1).2; omega, by omega⟩) (Or.inr rfl)
  rw [z0N] at c1
  refine ⟨g1, ?_, ((e0 a3).tr (b5.tr c4)).mono (fun q j z => scD_X z)⟩
  rw [e_Readings_leastTwice_0, Rd_p, Rd_r, Rw_ck Rw99, w1, zcv_ok, a1, b1, e_Readings_leastTwice_87, c1, e_Readings_leastTwice_113, Rd_g, c2, show zw 1000000 = 1000000 from rfl, zw_id (a := b) (by have := c3.1; omega) (by have := c3.2.1; omega), bV_eq c3]
  by_cases e : b < 1000000
  · rw [if_neg (by omega), Rd_g, c2, e_Readings_leastTwice_130, if_pos e]
  · rw [if_pos (by omega), e_Readings_leastTwice_129, e_Readings_leastTwice_130, if_neg e]
theorem X_twice (xs : List Int) {G g : Nat → Int → Int} (hB : Bd G) (h : Rel G g) {c : Int} (hc : zw c = c) : ∃ g1, zx zblk xs 53 0 [some (.inr (.inr (some pX))), some (.inl (c))] [] (HH g) = some (some (.inl (twS G c)), HH g1) ∧ zFr scX g g1 := by
  rw [e_X_twice_0, pX_ck]
  unfold twS
  by_cases a : 0 ≤ c ∧ c < G pM 5
  · obtain ⟨k, rfl⟩ : ∃ k : Nat, c = k := ⟨c.toNat, by omega⟩
    obtain ⟨-, q5, -⟩ := id hB.1
    obtain ⟨g1, q1, q2⟩ := Rd_leastTwice xs (by simp only [PC]; omega) (h.cd (show k < 4 by omega) a.2)
    refine ⟨g1, ?_, q2⟩
    rw [X_codeAt_in xs hB h k a.2, zcr_ok, zif_some, e_X_twice_15, pX_r_readings, Rd_ck, q1, zci_ok, e_X_twice_23, if_pos a]
    rfl
  · exact ⟨g, by rw [X_codeAt_out xs hB h c hc a, zcr_ok, zif, e_X_twice_23, if_neg a], zFr.rf⟩
end
