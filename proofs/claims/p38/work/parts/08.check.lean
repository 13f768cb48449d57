/-! ===== the tables are right: what a program can check of them ===== -/
def zcpOK (mt : Nat → Option zM) (cl : List vw_C) (Ts : List Cond) (own : String) (idx : Nat) (e : List Nat) : Prop := match e with
  | [0, ci, j, k, fin] => ∃ (T : u_T) (N : Nat), cl[ci]? = some (own, T, N) ∧ j < N ∧ (T j).1 = own ∧ Cond.fieldLink own idx own (T j).2.1 (T j).2.2.1 ∈ Ts ∧ (∃ ty, parseFieldDescriptor (T j).2.2.1 = some ty ∧ zKd k ty) ∧ (fin = 0 → (T j).2.2.2 = false)
  | [1, q, n, mx, f2, l2, ci] => ∃ y by' rt T N, q ≠ 0 ∧ mt q = some (y, by', mx, rt, f2, l2) ∧ (parseMethodDescriptor y.desc).map (fun d => d.parameters.length) = some n ∧ cl[ci]? = some (y.cls, T, N) ∧ Cond.methodLink own idx y ∈ Ts ∧ Cond.instanceMethod y ∈ Ts ∧ Cond.selects y.cls y y ∈ Ts
  | [2, q, n, mx, f2, l2] => ∃ y by' rt, q ≠ 0 ∧ mt q = some (y, by', mx, rt, f2, l2) ∧ (parseMethodDescriptor y.desc).map (fun d => d.parameters.length) = some n ∧ (Cond.methodLink own idx y ∈ Ts ∨ ∃ host, Cond.methodLinkNest own idx y host ∈ Ts) ∧ Cond.static y ∈ Ts
  | [3, q, n, mx, f2, l2, ci] => ∃ y by' T N, q ≠ 0 ∧ mt q = some (y, by', mx, none, f2, l2) ∧ (parseMethodDescriptor y.desc).map (fun d => d.parameters.length) = some n ∧ cl[ci]? = some (y.cls, T, N) ∧ (Cond.methodLink own idx y ∈ Ts ∨ ∃ host, Cond.methodLinkNest own idx y host ∈ Ts) ∧ Cond.instanceMethod y ∈ Ts ∧ y.name = "<init>"
  | [4] => Cond.methodLink own idx Lib.objectInit ∈ Ts ∧ Cond.instanceMethod Lib.objectInit ∈ Ts ∧ Cond.code Lib.objectInit ⟨#[0xb1]⟩ 1 none ∈ Ts
  | 5 :: ci :: ks => zNw cl Ts own idx ci ks
  | [6, ci] => ∃ C T N, cl[ci]? = some (C, T, N) ∧ Cond.classLink own (idx - 100000) C ∈ Ts ∧ Cond.arrayOver (.object C) ∈ Ts
  | [7, sg, a] => Cond.constant own idx (Int32.ofInt (if sg = 0 then (a : Int) else -(a : Int))) ∈ Ts
  | [8, sg, a] => Cond.constantLong own idx (Int64.ofInt (if sg = 0 then (a : Int) else -(a : Int))) ∈ Ts
  | [9, w] => (w = 0 ∧ zMth Ts own idx Lib.Math.max.name Lib.Math.max.code) ∨ (w = 1 ∧ zMth Ts own idx Lib.Math.min.name Lib.Math.min.code)
  | _ => False
def zfnd (cp : List (Nat × List Nat)) (i : Nat) : List Nat := (cp.lookup i).getD []
def zdec (cc : ByteArray) (pc : Nat) (I : Instr) (n : Nat) : Bool := decide (decode cc pc = .ok (I, n))
/-- a jump's target -/
def zjmp (pc : Nat) (off : Int) (x : List Nat) : Bool := match x with
  | t :: _ => decide ((pc : Int) + off = (t : Int))
  | [] => false
def zck1 (cp : List (Nat × List Nat)) (ctor : Bool) (nL : Nat) (rt : Option FieldType) (fr lo : Nat) (cc : ByteArray) (pc : Nat) (I : Instr) (x : List Nat) (c : Int) : Bool := match I with
  | .nop => match x with | t :: _ => t == pc | [] => false
  | .goto off => zdec cc pc (.goto off) 3 && zjmp pc off x
  | .ifCond cd off => zdec cc pc (.ifCond cd off) 3 && zjmp pc off x
  | .if_icmp cd off => zdec cc pc (.if_icmp cd off) 3 && zjmp pc off x
  | .ifnull off => zdec cc pc (.ifnull off) 3 && zjmp pc off x
  | .ifnonnull off => zdec cc pc (.ifnonnull off) 3 && zjmp pc off x
  | .tableswitch d lo2 hi2 offs => zdec cc pc (.tableswitch d lo2 hi2 offs) c.toNat && (match x with
    | n :: dt :: rest => decide ((pc : Int) + d = (dt : Int)) && (offs.toList.map fun o => (pc : Int) + o) == ((rest.drop n).map fun (t : Nat) => (t : Int))
    | _ => false)
  | .ireturn => zdec cc pc .ireturn 1 && ((x == [0] && decide (rt = some .int)) || (x == [1] && decide (rt = some .boolean)))
  | .lreturn => zdec cc pc .lreturn 1 && decide (rt = some .long)
  | .areturn => zdec cc pc .areturn 1 && (match rt with | some (.object _) => true | some (.array _) => true | _ => false)
  | .return_ => zdec cc pc .return_ 1 && decide (rt = none)
  | .invokevirtual i => zdec cc pc (.invokevirtual i) 3 && (match zfnd cp i, x with | [1, q, n, mx, f2, l2, ci], [q', n', _, mx', ci'] => q == q' && n + 1 == n' && mx == mx' && ci == ci' && decide (f2 + 1 ≤ fr) && decide (8 + (mx + 11) + l2 ≤ lo) | _, _ => false)
  | .invokestatic i => zdec cc pc (.invokestatic i) 3 && (match zfnd cp i, x with | [2, q, n, mx, f2, l2], [q', n', _, mx'] => q == q' && n == n' && mx == mx' && decide (f2 + 1 ≤ fr) && decide (8 + (mx + 11) + l2 ≤ lo) | [9, w], [w'] => w == w' && decide (1 ≤ fr) && decide (21 ≤ lo) | _, _ => false)
  | .invokespecial i => zdec cc pc (.invokespecial i) 3 && (match zfnd cp i, x with | [4], [] => decide (1 ≤ fr) && decide (20 ≤ lo) | [3, q, n, mx, f2, l2, ci], [q', n', _, mx', ci'] => q == q' && n + 1 == n' && mx == mx' && ci == ci' && decide (f2 + 1 ≤ fr) && decide (8 + (mx + 11) + l2 ≤ lo) | _, _ => false)
  | .bipush n => zdec cc pc (.bipush n) 2 && decide (-128 ≤ n) && decide (n ≤ 127)
  | .sipush n => zdec cc pc (.sipush n) 3 && decide (-32768 ≤ n) && decide (n ≤ 32767)
  | .ldc i => zdec cc pc (.ldc i) 2 && (match zfnd cp i with | [7, sg, a] => decide (c = if sg = 0 then (a : Int) else -(a : Int)) | _ => false)
  | .ldc_w i => zdec cc pc (.ldc_w i) 3 && (match zfnd cp i with | [7, sg, a] => decide (c = if sg = 0 then (a : Int) else -(a : Int)) | _ => false)
  | .ldc2_w i => zdec cc pc (.ldc2_w i) 3 && (match zfnd cp i with | [8, sg, a] => decide (c = if sg = 0 then (a : Int) else -(a : Int)) | _ => false)
  | .istore i => zdec cc pc (.istore i) 2 && decide (i < nL)
  | .istore_n i => zdec cc pc (.istore_n i) 1 && decide ((i : Nat) < nL)
  | .astore i => zdec cc pc (.astore i) 2 && decide (i < nL)
  | .astore_n i => zdec cc pc (.astore_n i) 1 && decide ((i : Nat) < nL)
  | .lstore i => zdec cc pc (.lstore i) 2 && decide (i + 1 < nL)
  | .lstore_n i => zdec cc pc (.lstore_n i) 1 && decide ((i : Nat) + 1 < nL)
  | .getfield i => zdec cc pc (.getfield i) 3 && (match zfnd cp i, x with | [0, ci, j, _, _], [ci', j', _] => ci == ci' && j == j' | _, _ => false)
  | .putfield i => zdec cc pc (.putfield i) 3 && (match zfnd cp i, x with | [0, ci, j, k, fin], [ci', j', k'] => ci == ci' && j == j' && k == k' && (fin == 0 || ctor) | _, _ => false)
  | .new i => zdec cc pc (.new i) 3 && (match zfnd cp i with | 5 :: ks => ks == x | _ => false)
  | .newarray t => zdec cc pc (.newarray t) 2 && (x == [0] && decide (t = .int))
  | .anewarray i => zdec cc pc (.anewarray i) 3 && (match zfnd cp (i + 100000) with | [6, ci] => x == [102 + ci] | _ => false)
  | .aaload => zdec cc pc .aaload 1 && (match x with | [t] => decide (102 ≤ t) | _ => false)
  | .aastore => zdec cc pc .aastore 1 && (match x with | [t, ci] => t == 102 + ci | _ => false)
  | I => zdec cc pc I (zlen I)
def zckB (cp : List (Nat × List Nat)) (ctor : Bool) (nL : Nat) (rt : Option FieldType) (fr lo : Nat) (cc : ByteArray) : Nat → List zE → Bool
  | _, [] => true
  | pc, (I, x, c) :: t => zck1 cp ctor nL rt fr lo cc pc I x c && zckB cp ctor nL rt fr lo cc (pc + zlen I) t
theorem zfnd_ok {mt : Nat → Option zM} {cl : List vw_C} {Ts : List Cond} {own : String} {cp : List (Nat × List Nat)} (hcp : ∀ i e, cp.lookup i = some e → zcpOK mt cl Ts own i e) {i n : Nat} {e : List Nat} (h : zfnd cp i = n :: e) : zcpOK mt cl Ts own i (n :: e) := by
  unfold zfnd at h
  cases hl : cp.lookup i with
  | none => rw [hl] at h; cases h
  | some e2 =>
    rw [hl] at h
    simp at h
    subst h
    exact hcp _ _ hl
theorem zdec_ok {cc : ByteArray} {pc n : Nat} {I : Instr} (h : zdec cc pc I n = true) : decode cc pc = .ok (I, n) := of_decide_eq_true h
theorem zjmp_ok {pc : Nat} {off : Int} {x : List Nat} (h : zjmp pc off x = true) : ∃ t mm, x = t :: mm ∧ (pc : Int) + off = (t : Int) := by
  rcases x with _ | ⟨t, x⟩
  · cases h
  · exact ⟨t, x, rfl, of_decide_eq_true h⟩
theorem zck1_ok {mt : Nat → Option zM} {cl : List vw_C} {Ts : List Cond} {own : String} {cp : List (Nat × List Nat)} (hcp : ∀ i e, cp.lookup i = some e → zcpOK mt cl Ts own i e) (hai : Cond.arrayClass .int ∈ Ts) {ctor : Bool} {nL : Nat} {rt : Option FieldType} {fr lo : Nat} {cc : ByteArray} {pc : Nat} {I : Instr} {x : List Nat} {c : Int} (h : zck1 cp ctor nL rt fr lo cc pc I x c = true) : zIOK mt cl Ts own ctor nL rt fr lo cc pc I x c := by
  cases I
  case nop =>
    rcases x with _ | ⟨t, x⟩
    · cases h
    · have := eq_of_beq h
      subst this
      exact ⟨x, rfl⟩
  case goto off => simp only [zck1, Bool.and_eq_true] at h; exact ⟨zdec_ok h.1, zjmp_ok h.2⟩
  case ifCond cd off => simp only [zck1, Bool.and_eq_true] at h; exact ⟨zdec_ok h.1, zjmp_ok h.2⟩
  case if_icmp cd off => simp only [zck1, Bool.and_eq_true] at h; exact ⟨zdec_ok h.1, zjmp_ok h.2⟩
  case ifnull off => simp only [zck1, Bool.and_eq_true] at h; exact ⟨zdec_ok h.1, zjmp_ok h.2⟩
  case ifnonnull off => simp only [zck1, Bool.and_eq_true] at h; exact ⟨zdec_ok h.1, zjmp_ok h.2⟩
  case tableswitch d lo2 hi2 offs =>
    simp only [zck1, Bool.and_eq_true] at h
    obtain ⟨h1, h2⟩ := h
    rcases x with _ | ⟨n, _ | ⟨dt, rest⟩⟩
    · cases h2
    · cases h2
    · simp only [Bool.and_eq_true] at h2
      refine ⟨_, zdec_ok h1, n, dt, rest, rfl, of_decide_eq_true h2.1, fun j t ht => ?_⟩
      have h3 := eq_of_beq h2.2
      have h4 : ((rest.drop n).map fun (t : Nat) => (t : Int))[j]? = some (t : Int) := by rw [List.getElem?_map, ht]; rfl
      rw [← h3, List.getElem?_map] at h4
      cases ho : offs.toList[j]? with
      | none => rw [ho] at h4; cases h4
      | some o =>
        rw [ho] at h4
        refine ⟨o, by rw [← Array.getElem?_toList]; exact ho, ?_⟩
        simpa using h4
  case ireturn =>
    simp only [zck1, Bool.and_eq_true, Bool.or_eq_true, decide_eq_true_eq, beq_iff_eq] at h
    exact ⟨zdec_ok h.1, h.2⟩
  case lreturn =>
    simp only [zck1, Bool.and_eq_true, decide_eq_true_eq] at h
    exact ⟨zdec_ok h.1, h.2⟩
  case areturn =>
    simp only [zck1, Bool.and_eq_true] at h
    refine ⟨zdec_ok h.1, ?_⟩
    have h2 := h.2
    split at h2
    next n => exact ⟨_, rfl, Or.inl ⟨n, rfl⟩⟩
    next t => exact ⟨_, rfl, Or.inr ⟨t, rfl⟩⟩
    next => cases h2
  case return_ =>
    simp only [zck1, Bool.and_eq_true, decide_eq_true_eq] at h
    exact ⟨zdec_ok h.1, h.2⟩
  case invokevirtual i =>
    simp only [zck1, Bool.and_eq_true] at h
    refine ⟨zdec_ok h.1, ?_⟩
    have h2 := h.2
    split at h2
    next q n mx f2 l2 ci q' n' t mx' ci' he =>
      simp only [Bool.and_eq_true, decide_eq_true_eq, beq_iff_eq] at h2
      obtain ⟨⟨⟨⟨⟨rfl, rfl⟩, rfl⟩, rfl⟩, hf⟩, hl⟩ := h2
      obtain ⟨y, by', rt2, T, N, e0, e1, e2, e3, e4, e5, e6⟩ := zfnd_ok hcp he
      exact ⟨q, n, t, mx, ci, y, rt2, T, N, rfl, ⟨by', f2, l2, e0, e1, hf, hl, e2⟩, e3, e4, e5, e6⟩
    next => cases h2
  case invokestatic i =>
    simp only [zck1, Bool.and_eq_true] at h
    refine ⟨zdec_ok h.1, ?_⟩
    have h2 := h.2
    split at h2
    next q n mx f2 l2 q' n' t mx' he =>
      simp only [Bool.and_eq_true, decide_eq_true_eq, beq_iff_eq] at h2
      obtain ⟨⟨⟨⟨rfl, rfl⟩, rfl⟩, hf⟩, hl⟩ := h2
      obtain ⟨y, by', rt2, e0, e1, e2, e3, e4⟩ := zfnd_ok hcp he
      exact Or.inr (Or.inr ⟨q, n, t, mx, y, rt2, rfl, ⟨by', f2, l2, e0, e1, hf, hl, e2⟩, e3, e4⟩)
    next w w' he =>
      simp only [Bool.and_eq_true, decide_eq_true_eq, beq_iff_eq] at h2
      obtain ⟨⟨rfl, hf⟩, hl⟩ := h2
      rcases zfnd_ok hcp he with ⟨rfl, hm⟩ | ⟨rfl, hm⟩
      · exact Or.inl ⟨rfl, hm, hf, hl⟩
      · exact Or.inr (Or.inl ⟨rfl, hm, hf, hl⟩)
    next => cases h2
  case invokespecial i =>
    simp only [zck1, Bool.and_eq_true] at h
    refine ⟨zdec_ok h.1, ?_⟩
    have h2 := h.2
    split at h2
    next he =>
      simp only [Bool.and_eq_true, decide_eq_true_eq] at h2
      obtain ⟨e1, e2, e3⟩ := zfnd_ok hcp he
      exact Or.inl ⟨rfl, e1, e2, e3, h2.1, h2.2⟩
    next q n mx f2 l2 ci q' n' t mx' ci' he =>
      simp only [Bool.and_eq_true, decide_eq_true_eq, beq_iff_eq] at h2
      obtain ⟨⟨⟨⟨⟨rfl, rfl⟩, rfl⟩, rfl⟩, hf⟩, hl⟩ := h2
      obtain ⟨y, by', T, N, e0, e1, e2, e3, e4, e5, e6⟩ := zfnd_ok hcp he
      exact Or.inr ⟨q, n, t, mx, ci, y, T, N, rfl, ⟨by', f2, l2, e0, e1, hf, hl, e2⟩, e3, e4, e5, e6⟩
    next => cases h2
  case bipush n => simp only [zck1, Bool.and_eq_true, decide_eq_true_eq] at h; exact ⟨zdec_ok h.1.1, h.1.2, h.2⟩
  case sipush n => simp only [zck1, Bool.and_eq_true, decide_eq_true_eq] at h; exact ⟨zdec_ok h.1.1, h.1.2, h.2⟩
  case ldc i =>
    simp only [zck1, Bool.and_eq_true] at h
    refine ⟨zdec_ok h.1, ?_⟩
    have h2 := h.2
    split at h2
    next sg a he => rw [of_decide_eq_true h2]; exact zfnd_ok hcp he
    next => cases h2
  case ldc_w i =>
    simp only [zck1, Bool.and_eq_true] at h
    refine ⟨zdec_ok h.1, ?_⟩
    have h2 := h.2
    split at h2
    next sg a he => rw [of_decide_eq_true h2]; exact zfnd_ok hcp he
    next => cases h2
  case ldc2_w i =>
    simp only [zck1, Bool.and_eq_true] at h
    refine ⟨zdec_ok h.1, ?_⟩
    have h2 := h.2
    split at h2
    next sg a he => rw [of_decide_eq_true h2]; exact zfnd_ok hcp he
    next => cases h2
  case istore i => simp only [zck1, Bool.and_eq_true, decide_eq_true_eq] at h; exact ⟨zdec_ok h.1, h.2⟩
  case istore_n i => simp only [zck1, Bool.and_eq_true, decide_eq_true_eq] at h; exact ⟨zdec_ok h.1, h.2⟩
  case astore i => simp only [zck1, Bool.and_eq_true, decide_eq_true_eq] at h; exact ⟨zdec_ok h.1, h.2⟩
  case astore_n i => simp only [zck1, Bool.and_eq_true, decide_eq_true_eq] at h; exact ⟨zdec_ok h.1, h.2⟩
  case lstore i => simp only [zck1, Bool.and_eq_true, decide_eq_true_eq] at h; exact ⟨zdec_ok h.1, h.2⟩
  case lstore_n i => simp only [zck1, Bool.and_eq_true, decide_eq_true_eq] at h; exact ⟨zdec_ok h.1, h.2⟩
  case getfield i =>
    simp only [zck1, Bool.and_eq_true] at h
    refine ⟨zdec_ok h.1, ?_⟩
    have h2 := h.2
    split at h2
    next ci j k fin ci' j' k' he =>
      simp only [Bool.and_eq_true, beq_iff_eq] at h2
      obtain ⟨rfl, rfl⟩ := h2
      obtain ⟨T, N, e1, e2, e3, e4, -⟩ := zfnd_ok hcp he
      exact ⟨ci, j, k', rfl, T, N, e1, e2, e3, e4⟩
    next => cases h2
  case putfield i =>
    simp only [zck1, Bool.and_eq_true] at h
    refine ⟨zdec_ok h.1, ?_⟩
    have h2 := h.2
    split at h2
    next ci j k fin ci' j' k' he =>
      simp only [Bool.and_eq_true, Bool.or_eq_true, beq_iff_eq] at h2
      obtain ⟨⟨⟨rfl, rfl⟩, rfl⟩, hfin⟩ := h2
      obtain ⟨T, N, e1, e2, e3, e4, e5, e6⟩ := zfnd_ok hcp he
      exact ⟨ci, j, k, rfl, T, N, e1, e2, e3, e4, e5, hfin.imp e6 id⟩
    next => cases h2
  case new i =>
    simp only [zck1, Bool.and_eq_true] at h
    refine ⟨zdec_ok h.1, ?_⟩
    have h2 := h.2
    split at h2
    next ks he =>
      have := eq_of_beq h2
      subst this
      have h3 := zfnd_ok hcp he
      rcases ks with _ | ⟨ci, ks⟩
      · exact h3.elim
      · exact ⟨ci, ks, rfl, h3⟩
    next => cases h2
  case newarray t =>
    simp only [zck1, Bool.and_eq_true, decide_eq_true_eq, beq_iff_eq] at h
    refine ⟨zdec_ok h.1, ?_⟩
    obtain ⟨h1, h2⟩ := h.2
    exact Or.inl ⟨h1, h2, hai⟩
  case anewarray i =>
    simp only [zck1, Bool.and_eq_true] at h
    refine ⟨zdec_ok h.1, ?_⟩
    have h2 := h.2
    split at h2
    next ci he =>
      obtain ⟨C, T, N, e1, e2, e3⟩ := zfnd_ok hcp he
      rw [Nat.add_sub_cancel] at e2
      exact ⟨ci, C, T, N, eq_of_beq h2, e1, e2, e3⟩
    next => cases h2
  case aaload =>
    simp only [zck1, Bool.and_eq_true] at h
    refine ⟨zdec_ok h.1, ?_⟩
    have h2 := h.2
    split at h2
    next t => exact ⟨t - 102, by have := of_decide_eq_true h2; simp; omega⟩
    next => cases h2
  case aastore =>
    simp only [zck1, Bool.and_eq_true] at h
    refine ⟨zdec_ok h.1, ?_⟩
    have h2 := h.2
    split at h2
    next t ci => exact ⟨ci, by rw [eq_of_beq h2]⟩
    next => cases h2
  all_goals exact ⟨zdec_ok h, trivial⟩
theorem zckB_ok {mt : Nat → Option zM} {cl : List vw_C} {Ts : List Cond} {own : String} {cp : List (Nat × List Nat)} (hcp : ∀ i e, cp.lookup i = some e → zcpOK mt cl Ts own i e) (hai : Cond.arrayClass .int ∈ Ts) {ctor : Bool} {nL : Nat} {rt : Option FieldType} {fr lo : Nat} {cc : ByteArray} : ∀ {b : List zE} {pc : Nat}, zckB cp ctor nL rt fr lo cc pc b = true → zBK mt cl Ts own ctor nL rt fr lo cc pc b
  | [], _, _ => trivial
  | (I, x, c) :: t, pc, h => by
    simp only [zckB, Bool.and_eq_true] at h
    exact ⟨zck1_ok hcp hai h.1, zckB_ok hcp hai h.2⟩
/-- all blocks of a method -/
def zckM (cp : List (Nat × List Nat)) (ctor : Bool) (nL : Nat) (rt : Option FieldType) (fr lo : Nat) (cc : ByteArray) (bs : List (Nat × List zE)) : Bool := bs.all fun q => zckB cp ctor nL rt fr lo cc q.1 q.2
theorem zlook {α : Type} : ∀ {l : List (Nat × α)} {i : Nat} {e : α}, l.lookup i = some e → (i, e) ∈ l
  | [], _, _, h => by cases h
  | (j, d) :: t, i, e, h => by
    rw [List.lookup_cons] at h
    cases hij : (i == j) with
    | true =>
      rw [hij] at h
      cases h
      rw [eq_of_beq hij]
      exact List.mem_cons_self
    | false =>
      rw [hij] at h
      exact List.mem_cons_of_mem _ (zlook h)
theorem zckM_ok {mt : Nat → Option zM} {cl : List vw_C} {Ts : List Cond} {own : String} {cp : List (Nat × List Nat)} (hcp : ∀ q ∈ cp, zcpOK mt cl Ts own q.1 q.2) (hai : Cond.arrayClass .int ∈ Ts) {ctor : Bool} {nL : Nat} {rt : Option FieldType} {fr lo : Nat} {cc : ByteArray} {bs : List (Nat × List zE)} (h : zckM cp ctor nL rt fr lo cc bs = true) (pc : Nat) (b : List zE) (hb : bs.lookup pc = some b) : zBK mt cl Ts own ctor nL rt fr lo cc pc b :=
  zckB_ok (fun i e he => hcp _ (zlook he)) hai (List.all_eq_true.mp h _ (zlook hb))
