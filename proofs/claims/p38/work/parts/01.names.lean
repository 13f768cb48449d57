-- ===== PART A: goes FIRST, ahead of the names: the tables' words, and 'selects' of the private methods out of them =====
/-- a private method of a class that the tables say can be made, by its rows of tables_1 -/
def lw_okq (q : MethodName × Nat) : Prop := (q.1.cls ≠ "java/lang/invoke/MethodHandle" ∧ q.1.cls ≠ "java/lang/invoke/VarHandle") ∧ Cond.instantiable q.1.cls q.2 ∈ tables_1 ∧ Cond.privateMethod q.1 ∈ tables_1 ∧ Cond.instanceMethod q.1 ∈ tables_1
theorem lw_p0 : lw_okq (⟨"MindReaders", "firstFault", "()I"⟩, 14) := ⟨⟨by decide +kernel, by decide +kernel⟩, List.mem_of_getElem? (i := 11) (by decide +kernel), List.mem_of_getElem? (i := 182) (by decide +kernel), List.mem_of_getElem? (i := 183) (by decide +kernel)⟩
theorem lw_p1 : lw_okq (⟨"MindReaders", "codeAt", "(I)LMindReaders$Code;"⟩, 14) := ⟨⟨by decide +kernel, by decide +kernel⟩, List.mem_of_getElem? (i := 11) (by decide +kernel), List.mem_of_getElem? (i := 249) (by decide +kernel), List.mem_of_getElem? (i := 250) (by decide +kernel)⟩
theorem lw_p2 : lw_okq (⟨"MindReaders", "longOf", "(LMindReaders$Code;I)I"⟩, 14) := ⟨⟨by decide +kernel, by decide +kernel⟩, List.mem_of_getElem? (i := 11) (by decide +kernel), List.mem_of_getElem? (i := 259) (by decide +kernel), List.mem_of_getElem? (i := 260) (by decide +kernel)⟩
theorem lw_p3 : lw_okq (⟨"MindReaders$Readings", "meet", "(LMindReaders$Code;IIII)Z"⟩, 2) := ⟨⟨by decide +kernel, by decide +kernel⟩, List.mem_of_getElem? (i := 93) (by decide +kernel), List.mem_of_getElem? (i := 315) (by decide +kernel), List.mem_of_getElem? (i := 316) (by decide +kernel)⟩
theorem lw_p4 : lw_okq (⟨"MindReaders$Readings", "comeTo", "(III)Z"⟩, 2) := ⟨⟨by decide +kernel, by decide +kernel⟩, List.mem_of_getElem? (i := 93) (by decide +kernel), List.mem_of_getElem? (i := 323) (by decide +kernel), List.mem_of_getElem? (i := 324) (by decide +kernel)⟩
theorem lw_p5 : lw_okq (⟨"MindReaders$Readings", "goOn", "(LMindReaders$Code;)Z"⟩, 2) := ⟨⟨by decide +kernel, by decide +kernel⟩, List.mem_of_getElem? (i := 93) (by decide +kernel), List.mem_of_getElem? (i := 331) (by decide +kernel), List.mem_of_getElem? (i := 332) (by decide +kernel)⟩
theorem lw_p6 : lw_okq (⟨"MindReaders", "thingsSaid", "(LMindReaders$Code;)I"⟩, 14) := ⟨⟨by decide +kernel, by decide +kernel⟩, List.mem_of_getElem? (i := 11) (by decide +kernel), List.mem_of_getElem? (i := 342) (by decide +kernel), List.mem_of_getElem? (i := 343) (by decide +kernel)⟩
theorem lw_p7 : lw_okq (⟨"MindReaders", "dealtTo", "(LMindReaders$Code;I)I"⟩, 14) := ⟨⟨by decide +kernel, by decide +kernel⟩, List.mem_of_getElem? (i := 11) (by decide +kernel), List.mem_of_getElem? (i := 370) (by decide +kernel), List.mem_of_getElem? (i := 371) (by decide +kernel)⟩
theorem lw_p8 : lw_okq (⟨"MindReaders", "rankByLong", "(LMindReaders$Code;II)I"⟩, 14) := ⟨⟨by decide +kernel, by decide +kernel⟩, List.mem_of_getElem? (i := 11) (by decide +kernel), List.mem_of_getElem? (i := 377) (by decide +kernel), List.mem_of_getElem? (i := 378) (by decide +kernel)⟩
theorem lw_p9 : lw_okq (⟨"MindReaders", "unlike", "(LMindReaders$Code;II)I"⟩, 14) := ⟨⟨by decide +kernel, by decide +kernel⟩, List.mem_of_getElem? (i := 11) (by decide +kernel), List.mem_of_getElem? (i := 397) (by decide +kernel), List.mem_of_getElem? (i := 398) (by decide +kernel)⟩
theorem lw_p10 : lw_okq (⟨"MindReaders", "hearPage", "()Z"⟩, 14) := ⟨⟨by decide +kernel, by decide +kernel⟩, List.mem_of_getElem? (i := 11) (by decide +kernel), List.mem_of_getElem? (i := 483) (by decide +kernel), List.mem_of_getElem? (i := 484) (by decide +kernel)⟩
theorem lw_p11 : lw_okq (⟨"MindReaders", "readPage", "()Z"⟩, 14) := ⟨⟨by decide +kernel, by decide +kernel⟩, List.mem_of_getElem? (i := 11) (by decide +kernel), List.mem_of_getElem? (i := 487) (by decide +kernel), List.mem_of_getElem? (i := 488) (by decide +kernel)⟩
def lw_privs_1 : List (MethodName × Nat) := [(⟨"MindReaders", "firstFault", "()I"⟩, 14), (⟨"MindReaders", "codeAt", "(I)LMindReaders$Code;"⟩, 14), (⟨"MindReaders", "longOf", "(LMindReaders$Code;I)I"⟩, 14), (⟨"MindReaders$Readings", "meet", "(LMindReaders$Code;IIII)Z"⟩, 2), (⟨"MindReaders$Readings", "comeTo", "(III)Z"⟩, 2), (⟨"MindReaders$Readings", "goOn", "(LMindReaders$Code;)Z"⟩, 2), (⟨"MindReaders", "thingsSaid", "(LMindReaders$Code;)I"⟩, 14), (⟨"MindReaders", "dealtTo", "(LMindReaders$Code;I)I"⟩, 14), (⟨"MindReaders", "rankByLong", "(LMindReaders$Code;II)I"⟩, 14), (⟨"MindReaders", "unlike", "(LMindReaders$Code;II)I"⟩, 14), (⟨"MindReaders", "hearPage", "()Z"⟩, 14), (⟨"MindReaders", "readPage", "()Z"⟩, 14)]
theorem lw_r1 : ∀ q ∈ lw_privs_1, lw_okq q := List.forall_mem_cons.mpr ⟨lw_p0, List.forall_mem_cons.mpr ⟨lw_p1, List.forall_mem_cons.mpr ⟨lw_p2, List.forall_mem_cons.mpr ⟨lw_p3, List.forall_mem_cons.mpr ⟨lw_p4, List.forall_mem_cons.mpr ⟨lw_p5, List.forall_mem_cons.mpr ⟨lw_p6, List.forall_mem_cons.mpr ⟨lw_p7, List.forall_mem_cons.mpr ⟨lw_p8, List.forall_mem_cons.mpr ⟨lw_p9, List.forall_mem_cons.mpr ⟨lw_p10, List.forall_mem_cons.mpr ⟨lw_p11, fun _ h => absurd h List.not_mem_nil⟩⟩⟩⟩⟩⟩⟩⟩⟩⟩⟩⟩
def lw_privs : List (MethodName × Nat) := lw_privs_1
def lw_tbl : List Cond := k2_sels lw_privs ++ tables_1
theorem lw_privs_ok : ∀ q ∈ lw_privs, lw_okq q := lw_r1
def RX0 : String := "MindReaders$Code"
def TX0 : u_T := fun k => match k with
  | 0 => ("MindReaders$Code", "spoken", "LMindReaders$Rows;", true)
  | 1 => ("MindReaders$Code", "plain", "LMindReaders$Rows;", true)
  | _ => ("MindReaders$Code", "size", "I", false)
def tyX0 : Nat → FieldType := fun k => match k with
  | 0 => .object "MindReaders$Rows"
  | 1 => .object "MindReaders$Rows"
  | _ => .int
abbrev wsX00 : List Cond := u_ws RX0 TX0 3
theorem nmX0 : ∀ a, a < 3 → ∀ b, b < 3 → a ≠ b → (TX0 a).2.1 ≠ (TX0 b).2.1 := by decide +kernel
theorem tyX0_ok : ∀ k, k < 3 → parseFieldDescriptor (TX0 k).2.2.1 = some (tyX0 k) := by decide +kernel
def RX1 : String := "MindReaders$Notes"
def TX1 : u_T := fun k => match k with
  | 0 => ("MindReaders$Notes", "things", "LMindReaders$Row;", true)
  | _ => ("MindReaders$Notes", "rows", "LMindReaders$Rows;", true)
def tyX1 : Nat → FieldType := fun k => match k with
  | 0 => .object "MindReaders$Row"
  | _ => .object "MindReaders$Rows"
abbrev wsX10 : List Cond := u_ws RX1 TX1 2
theorem nmX1 : ∀ a, a < 2 → ∀ b, b < 2 → a ≠ b → (TX1 a).2.1 ≠ (TX1 b).2.1 := by decide +kernel
theorem tyX1_ok : ∀ k, k < 2 → parseFieldDescriptor (TX1 k).2.2.1 = some (tyX1 k) := by decide +kernel
def RX2 : String := "MindReaders$Readings"
def TX2 : u_T := fun k => match k with
  | 0 => ("MindReaders$Readings", "lengths", "LMindReaders$Row;", true)
  | _ => ("MindReaders$Readings", "best", "I", false)
def tyX2 : Nat → FieldType := fun k => match k with
  | 0 => .object "MindReaders$Row"
  | _ => .int
abbrev wsX20 : List Cond := u_ws RX2 TX2 2
theorem nmX2 : ∀ a, a < 2 → ∀ b, b < 2 → a ≠ b → (TX2 a).2.1 ≠ (TX2 b).2.1 := by decide +kernel
theorem tyX2_ok : ∀ k, k < 2 → parseFieldDescriptor (TX2 k).2.2.1 = some (tyX2 k) := by decide +kernel
def RX3 : String := "MindReaders$Row"
def TX3 : u_T := fun k => match k with
  | 0 => ("MindReaders$Row", "cells", "[I", true)
  | _ => ("MindReaders$Row", "size", "I", false)
def tyX3 : Nat → FieldType := fun k => match k with
  | 0 => .array .int
  | _ => .int
abbrev wsX30 : List Cond := u_ws RX3 TX3 2
theorem nmX3 : ∀ a, a < 2 → ∀ b, b < 2 → a ≠ b → (TX3 a).2.1 ≠ (TX3 b).2.1 := by decide +kernel
theorem tyX3_ok : ∀ k, k < 2 → parseFieldDescriptor (TX3 k).2.2.1 = some (tyX3 k) := by decide +kernel
def RX4 : String := "MindReaders$Rows"
def TX4 : u_T := fun k => match k with
  | 0 => ("MindReaders$Rows", "rows", "[LMindReaders$Row;", true)
  | _ => ("MindReaders$Rows", "nothing", "LMindReaders$Row;", true)
def tyX4 : Nat → FieldType := fun k => match k with
  | 0 => .array (.object "MindReaders$Row")
  | _ => .object "MindReaders$Row"
abbrev wsX40 : List Cond := u_ws RX4 TX4 2
theorem nmX4 : ∀ a, a < 2 → ∀ b, b < 2 → a ≠ b → (TX4 a).2.1 ≠ (TX4 b).2.1 := by decide +kernel
theorem tyX4_ok : ∀ k, k < 2 → parseFieldDescriptor (TX4 k).2.2.1 = some (tyX4 k) := by decide +kernel
def RX5 : String := "MindReaders$Signals"
def TX5 : u_T := fun k => match k with
  | 0 => ("MindReaders$Signals", "kinds", "LMindReaders$Row;", true)
  | 1 => ("MindReaders$Signals", "tones", "LMindReaders$Row;", true)
  | 2 => ("MindReaders$Signals", "seconds", "LMindReaders$Row;", true)
  | _ => ("MindReaders$Signals", "odds", "LMindReaders$Row;", true)
def tyX5 : Nat → FieldType := fun k => match k with
  | 0 => .object "MindReaders$Row"
  | 1 => .object "MindReaders$Row"
  | 2 => .object "MindReaders$Row"
  | _ => .object "MindReaders$Row"
abbrev wsX50 : List Cond := u_ws RX5 TX5 4
theorem nmX5 : ∀ a, a < 4 → ∀ b, b < 4 → a ≠ b → (TX5 a).2.1 ≠ (TX5 b).2.1 := by decide +kernel
theorem tyX5_ok : ∀ k, k < 4 → parseFieldDescriptor (TX5 k).2.2.1 = some (tyX5 k) := by decide +kernel
def RX6 : String := "MindReaders"
def TX6 : u_T := fun k => match k with
  | 0 => ("MindReaders", "signals", "LMindReaders$Signals;", true)
  | 1 => ("MindReaders", "weights", "LMindReaders$Row;", true)
  | 2 => ("MindReaders", "codes", "[LMindReaders$Code;", true)
  | 3 => ("MindReaders", "codesRead", "I", false)
  | 4 => ("MindReaders", "page", "LMindReaders$Row;", true)
  | 5 => ("MindReaders", "notes", "LMindReaders$Notes;", true)
  | 6 => ("MindReaders", "keptWeights", "LMindReaders$Row;", true)
  | 7 => ("MindReaders", "keptNotes", "LMindReaders$Notes;", true)
  | 8 => ("MindReaders", "kept", "Z", false)
  | 9 => ("MindReaders", "said", "LMindReaders$Row;", true)
  | 10 => ("MindReaders", "heard", "LMindReaders$Row;", true)
  | 11 => ("MindReaders", "pool", "LMindReaders$Row;", true)
  | 12 => ("MindReaders", "struck", "LMindReaders$Rows;", true)
  | _ => ("MindReaders", "readings", "LMindReaders$Readings;", true)
def tyX6 : Nat → FieldType := fun k => match k with
  | 0 => .object "MindReaders$Signals"
  | 1 => .object "MindReaders$Row"
  | 2 => .array (.object "MindReaders$Code")
  | 3 => .int
  | 4 => .object "MindReaders$Row"
  | 5 => .object "MindReaders$Notes"
  | 6 => .object "MindReaders$Row"
  | 7 => .object "MindReaders$Notes"
  | 8 => .boolean
  | 9 => .object "MindReaders$Row"
  | 10 => .object "MindReaders$Row"
  | 11 => .object "MindReaders$Row"
  | 12 => .object "MindReaders$Rows"
  | _ => .object "MindReaders$Readings"
abbrev wsX60 : List Cond := u_ws RX6 TX6 14
theorem nmX6 : ∀ a, a < 14 → ∀ b, b < 14 → a ≠ b → (TX6 a).2.1 ≠ (TX6 b).2.1 := by decide +kernel
theorem tyX6_ok : ∀ k, k < 14 → parseFieldDescriptor (TX6 k).2.2.1 = some (tyX6 k) := by decide +kernel
def RX7 : String := "MindReadersModel"
def TX7 : u_T := fun k => match k with
  | _ => ("", "", "", false)
def tyX7 : Nat → FieldType := fun k => match k with
  | _ => .int
abbrev wsX70 : List Cond := u_ws RX7 TX7 0
theorem nmX7 : ∀ a, a < 0 → ∀ b, b < 0 → a ≠ b → (TX7 a).2.1 ≠ (TX7 b).2.1 := by decide +kernel
theorem tyX7_ok : ∀ k, k < 0 → parseFieldDescriptor (TX7 k).2.2.1 = some (tyX7 k) := by decide +kernel
def RJ6 : String := "java/lang/Integer"
def RJ9 : String := "java/lang/Math"
def RL : String := "MindReadersLaw"
