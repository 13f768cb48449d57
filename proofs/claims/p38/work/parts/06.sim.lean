/-! ===== one step of the reading is a step of the machine ===== -/
def zlen : Instr → Nat
  | .bipush _ => 2
  | .sipush _ => 3
  | .ldc _ => 2
  | .ldc_w _ => 3
  | .ldc2_w _ => 3
  | .iload _ => 2
  | .lload _ => 2
  | .aload _ => 2
  | .istore _ => 2
  | .lstore _ => 2
  | .astore _ => 2
  | .iinc _ _ => 3
  | .getfield _ => 3
  | .putfield _ => 3
  | .new _ => 3
  | .anewarray _ => 3
  | .newarray _ => 2
  | .goto _ => 3
  | .ifCond _ _ => 3
  | .if_icmp _ _ => 3
  | .ifnull _ => 3
  | .ifnonnull _ => 3
  | .invokevirtual _ => 3
  | .invokestatic _ => 3
  | .invokespecial _ => 3
  | _ => 1
def zxf (xs : List Int) : Nat → Int32 := fun j => Int32.ofInt (xs.getD j 0)
/-- what the tables say of a field's use, of a class, of a constant -/
def zFl (cl : List vw_C) (Ts : List Cond) (own : String) (idx ci j : Nat) : Prop := ∃ (T : u_T) (N : Nat), cl[ci]? = some (own, T, N) ∧ j < N ∧ (T j).1 = own ∧ Cond.fieldLink own idx own (T j).2.1 (T j).2.2.1 ∈ Ts
def zKd (k : Nat) (ty : FieldType) : Prop := match k with
  | 0 => ty = .int
  | 1 => ty = .long
  | 2 => (∃ n, ty = .object n) ∨ ∃ t, ty = .array t
  | 3 => ty = .boolean
  | _ => False
def zPf (cl : List vw_C) (Ts : List Cond) (own : String) (ctor : Bool) (idx ci j k : Nat) : Prop := ∃ (T : u_T) (N : Nat), cl[ci]? = some (own, T, N) ∧ j < N ∧ (T j).1 = own ∧ Cond.fieldLink own idx own (T j).2.1 (T j).2.2.1 ∈ Ts ∧ (∃ ty, parseFieldDescriptor (T j).2.2.1 = some ty ∧ zKd k ty) ∧ ((T j).2.2.2 = false ∨ ctor = true)
def zCl (cl : List vw_C) (Ts : List Cond) : Prop := ∀ (ci : Nat) (C : String) (T : u_T) (N : Nat), cl[ci]? = some (C, T, N) → (∀ w ∈ u_ws C T N, w ∈ Ts) ∧ (∃ ty : Nat → FieldType, ∀ k, k < N → parseFieldDescriptor (T k).2.2.1 = some (ty k)) ∧ (∀ a, a < N → ∀ b, b < N → a ≠ b → (T a).2.1 ≠ (T b).2.1) ∧ Cond.instantiable C N ∈ Ts ∧ Cond.initialized C ∈ Ts ∧ ci < 100
def zNw (cl : List vw_C) (Ts : List Cond) (own : String) (idx ci : Nat) (ks : List Nat) : Prop := ∃ (C : String) (T : u_T) (N : Nat), cl[ci]? = some (C, T, N) ∧ ks.length = N ∧ Cond.classLink own idx C ∈ Ts ∧ ∀ (j k : Nat), ks[j]? = some k → ∃ ty, parseFieldDescriptor (T j).2.2.1 = some ty ∧ ((k = 0 ∧ (ty = .int ∨ ty = .boolean)) ∨ (k = 1 ∧ ty = .long) ∨ (k = 2 ∧ ((∃ n, ty = .object n) ∨ ∃ t, ty = .array t)))
def zOK (cl : List vw_C) (Ts : List Cond) (own : String) (ctor : Bool) (nL : Nat) (cc : ByteArray) (pc : Nat) (I : Instr) (x : List Nat) (c : Int) : Prop := decode cc pc = .ok (I, zlen I) ∧ match I with
  | .bipush n => -128 ≤ n ∧ n ≤ 127
  | .sipush n => -32768 ≤ n ∧ n ≤ 32767
  | .ldc i => Cond.constant own i (Int32.ofInt c) ∈ Ts
  | .ldc_w i => Cond.constant own i (Int32.ofInt c) ∈ Ts
  | .ldc2_w i => Cond.constantLong own i (Int64.ofInt c) ∈ Ts
  | .istore i => i < nL
  | .istore_n i => (i : Nat) < nL
  | .astore i => i < nL
  | .astore_n i => (i : Nat) < nL
  | .lstore i => i + 1 < nL
  | .lstore_n i => (i : Nat) + 1 < nL
  | .getfield i => ∃ ci j k, x = [ci, j, k] ∧ zFl cl Ts own i ci j
  | .putfield i => ∃ ci j k, x = [ci, j, k] ∧ zPf cl Ts own ctor i ci j k
  | .new i => ∃ ci ks, x = ci :: ks ∧ zNw cl Ts own i ci ks
  | .newarray t => (x = [0] ∧ t = .int ∧ Cond.arrayClass .int ∈ Ts) ∨ (x = [1] ∧ t = .long ∧ Cond.arrayClass .long ∈ Ts)
  | .anewarray i => ∃ ci C T N, x = [102 + ci] ∧ cl[ci]? = some (C, T, N) ∧ Cond.classLink own i C ∈ Ts ∧ Cond.arrayOver (.object C) ∈ Ts
  | .aaload => ∃ ci, x = [102 + ci]
  | .aastore => ∃ ci, x = [102 + ci, ci]
  | _ => True
theorem zfit_r {ads : List Nat} {r : Option Nat} {V : Value} {ty : FieldType} (h : zcR ads (.inr (.inr r)) V) (ht : (∃ n, ty = .object n) ∨ ∃ t, ty = .array t) : narrow ty V = V ∧ fits ty V = true := by
  rcases r with _ | p
  · cases h
    rcases ht with ⟨n, rfl⟩ | ⟨t, rfl⟩ <;> exact ⟨rfl, rfl⟩
  · obtain ⟨a, -, rfl⟩ := h
    rcases ht with ⟨n, rfl⟩ | ⟨t, rfl⟩ <;> exact ⟨rfl, rfl⟩
theorem zfit_b {x : Int} (h : x = 0 ∨ x = 1) : narrow .boolean (.int (Int32.ofInt x)) = .int (Int32.ofInt x) ∧ fits .boolean (.int (Int32.ofInt x)) = true := by
  rcases h with rfl | rfl <;> exact ⟨by decide, by decide⟩
/-- the place where a field is read -/
theorem zfd_some {h : zH} {r : Option Nat} {ci j : Nat} {v : zV} (q : zfd h r ci j = some v) : ∃ p c, r = some (p + 1) ∧ h[p]? = some c ∧ c.1 = ci ∧ c.2[j]? = some v := by
  rcases r with _ | _ | p
  · cases q
  · cases q
  · unfold zfd at q
    dsimp only at q
    cases hc : h[p]? with
    | none => rw [hc] at q; cases q
    | some c =>
      rw [hc] at q
      dsimp only at q
      split at q
      next he => exact ⟨p, c, rfl, hc, he, q⟩
      next => cases q
theorem zpf_some {h : zH} {r : Option Nat} {ci j : Nat} {v : zV} {f : zH → Option zR} {res : zR} (q : zpf h r ci j v f = some res) : ∃ p c, r = some (p + 1) ∧ h[p]? = some c ∧ c.1 = ci ∧ j < c.2.length ∧ f (h.set p (c.1, c.2.set j v)) = some res := by
  rcases r with _ | _ | p
  · cases q
  · cases q
  · unfold zpf at q
    dsimp only at q
    cases hc : h[p]? with
    | none => rw [hc] at q; cases q
    | some c =>
      rw [hc] at q
      dsimp only at q
      split at q
      next he => exact ⟨p, c, rfl, hc, he.1, he.2, q⟩
      next => cases q
theorem zst_some {h : zH} {r : Option Nat} {tag : Nat} {i : Int} {v : zV} {f : zH → Option zR} {res : zR} (q : zst h r tag i v f = some res) : ∃ p c, r = some (p + 1) ∧ h[p]? = some c ∧ c.1 = tag ∧ 0 ≤ zw i ∧ (zw i).toNat < c.2.length ∧ f (h.set p (c.1, c.2.set (zw i).toNat v)) = some res := by
  rcases r with _ | _ | p
  · cases q
  · cases q
  · unfold zst at q
    dsimp only at q
    cases hc : h[p]? with
    | none => rw [hc] at q; cases q
    | some c =>
      rw [hc] at q
      dsimp only at q
      split at q
      next he => exact ⟨p, c, rfl, hc, he.1, he.2.1, he.2.2, q⟩
      next => cases q
theorem zar_some {xs : List Int} {h : zH} {r : Option Nat} {tag : Nat} {i : Int} {v : zV} (q : zar xs h r tag i = some v) : 0 ≤ zw i ∧ ((r = some 0 ∧ tag = 100 ∧ ∃ x, xs[(zw i).toNat]? = some x ∧ v = .inl x) ∨ ∃ p c, r = some (p + 1) ∧ h[p]? = some c ∧ c.1 = tag ∧ c.2[(zw i).toNat]? = some v) := by
  rcases r with _ | _ | p
  · cases q
  · unfold zar at q
    dsimp only at q
    split at q
    next he =>
      refine ⟨he.2, Or.inl ⟨rfl, he.1, ?_⟩⟩
      cases hx : xs[(zw i).toNat]? with
      | none => rw [hx] at q; cases q
      | some x => rw [hx] at q; cases q; exact ⟨x, rfl, rfl⟩
    next => cases q
  · unfold zar at q
    dsimp only at q
    cases hc : h[p]? with
    | none => rw [hc] at q; cases q
    | some c =>
      rw [hc] at q
      dsimp only at q
      split at q
      next he => exact ⟨he.2, Or.inr ⟨p, c, rfl, hc, he.1, q⟩⟩
      next => cases q
theorem zRep_obj {cl : List vw_C} {ads : List Nat} {tys : List (ClassId × FieldType)} {ws : va_W} {h : zH} (hR : zRep cl ads tys ws h) {p a : Nat} {c : Nat × List zV} (hp : h[p]? = some c) (ht : c.1 < 100) (ha : ads[p + 1]? = some a) : ∃ fs, ws[p]? = some (a, .inr (c.1, fs)) ∧ zSt ads c.2 fs := by
  obtain ⟨a1, e, q1, q2, q3⟩ := hR.2.2 p c hp
  cases ha.symm.trans q1
  rcases q3 with ⟨-, fs, rfl, h3⟩ | ⟨h1, -⟩ | ⟨h1, -⟩ | ⟨h1, -⟩
  · exact ⟨fs, q2, h3⟩
  · omega
  · omega
  · omega
theorem zRep_int {cl : List vw_C} {ads : List Nat} {tys : List (ClassId × FieldType)} {ws : va_W} {h : zH} (hR : zRep cl ads tys ws h) {p a : Nat} {c : Nat × List zV} (hp : h[p]? = some c) (ht : c.1 = 100) (ha : ads[p + 1]? = some a) : ∃ (cA : ClassId) (f : Nat → Int32), ws[p]? = some (a, .inl (cA, c.2.length, .inl f)) ∧ (cA, FieldType.int) ∈ tys ∧ ∀ (j : Nat) (v : zV), c.2[j]? = some v → ∃ x, v = .inl x ∧ f j = Int32.ofInt x := by
  obtain ⟨a1, e, q1, q2, q3⟩ := hR.2.2 p c hp
  cases ha.symm.trans q1
  rcases q3 with ⟨h1, -⟩ | ⟨-, cA, f, rfl, h3, h4⟩ | ⟨h1, -⟩ | ⟨h1, -⟩
  · omega
  · exact ⟨cA, f, q2, h3, h4⟩
  · omega
  · omega
theorem zRep_long {cl : List vw_C} {ads : List Nat} {tys : List (ClassId × FieldType)} {ws : va_W} {h : zH} (hR : zRep cl ads tys ws h) {p a : Nat} {c : Nat × List zV} (hp : h[p]? = some c) (ht : c.1 = 101) (ha : ads[p + 1]? = some a) : ∃ (cA : ClassId) (f : Nat → Int64), ws[p]? = some (a, .inl (cA, c.2.length, .inr (.inl f))) ∧ (cA, FieldType.long) ∈ tys ∧ ∀ (j : Nat) (v : zV), c.2[j]? = some v → ∃ x, v = .inr (.inl x) ∧ f j = Int64.ofInt x := by
  obtain ⟨a1, e, q1, q2, q3⟩ := hR.2.2 p c hp
  cases ha.symm.trans q1
  rcases q3 with ⟨h1, -⟩ | ⟨h1, -⟩ | ⟨-, cA, f, rfl, h3, h4⟩ | ⟨h1, -⟩
  · omega
  · omega
  · exact ⟨cA, f, q2, h3, h4⟩
  · omega
theorem zRep_ref {cl : List vw_C} {ads : List Nat} {tys : List (ClassId × FieldType)} {ws : va_W} {h : zH} (hR : zRep cl ads tys ws h) {p a : Nat} {c : Nat × List zV} (hp : h[p]? = some c) (ht : 102 ≤ c.1) (ha : ads[p + 1]? = some a) : ∃ (cA : ClassId) (f : Nat → Option Nat) (r : vw_C), ws[p]? = some (a, .inl (cA, c.2.length, .inr (.inr (.inr (.inr f))))) ∧ cl[c.1 - 102]? = some r ∧ (cA, FieldType.object r.1) ∈ tys ∧ ∀ (j : Nat) (v : zV), c.2[j]? = some v → ∃ x, v = .inr (.inr x) ∧ zcR ads (.inr (.inr x)) (va_rf (f j)) := by
  obtain ⟨a1, e, q1, q2, q3⟩ := hR.2.2 p c hp
  cases ha.symm.trans q1
  rcases q3 with ⟨h1, -⟩ | ⟨h1, -⟩ | ⟨h1, -⟩ | ⟨-, cA, f, r, rfl, h3, h4, h5⟩
  · omega
  · omega
  · omega
  · exact ⟨cA, f, r, q2, h3, h4, h5⟩
theorem zRep_arr {cl : List vw_C} {ads : List Nat} {tys : List (ClassId × FieldType)} {ws : va_W} {h : zH} (hR : zRep cl ads tys ws h) {p a : Nat} {c : Nat × List zV} (hp : h[p]? = some c) (ht : 100 ≤ c.1) (ha : ads[p + 1]? = some a) : ∃ (cA : ClassId) (x : vp_A) (ty : FieldType), ws[p]? = some (a, .inl (cA, x)) ∧ (cA, ty) ∈ tys ∧ x.1 = c.2.length := by
  obtain ⟨a1, e, q1, q2, q3⟩ := hR.2.2 p c hp
  cases ha.symm.trans q1
  rcases q3 with ⟨h1, -⟩ | ⟨-, cA, f, rfl, h3, -⟩ | ⟨-, cA, f, rfl, h3, -⟩ | ⟨-, cA, f, r, rfl, -, h4, -⟩
  · omega
  · exact ⟨cA, _, _, q2, h3, rfl⟩
  · exact ⟨cA, _, _, q2, h3, rfl⟩
  · exact ⟨cA, _, _, q2, h4, rfl⟩
theorem zofNat (n : Nat) : Int32.ofNat n = Int32.ofInt (n : Int) := by
  apply Int32.toBitVec_inj.mp
  simp
def zdfv : Nat → Value
  | 0 => .int 0
  | 1 => .long 0
  | _ => .null
theorem zdfv_ok (ads : List Nat) : ∀ ks : List Nat, zSt ads (ks.map fun t => match t with | 0 => .inl 0 | 1 => .inr (.inl 0) | _ => .inr (.inr none)) (ks.map zdfv)
  | [] => trivial
  | 0 :: ks => ⟨rfl, zdfv_ok ads ks⟩
  | 1 :: ks => ⟨rfl, zdfv_ok ads ks⟩
  | (_ + 2) :: ks => ⟨rfl, zdfv_ok ads ks⟩
section ZSIM
variable {p : Program} {l : Launch} {e : Env} {R : Room} {s : State} {m : MethodId} {args : Array Value} {below : List Frame} {meth : Method} {c : Code} {Q : State → Prop}
variable {cc : ByteArray} {nL : Nat} {own : String} {D : va_G} {cl : List vw_C} {A : Nat → Prop} {xs : List Int} {ads0 : List Nat} {n0 z0 : Nat} {Ts : List Cond} {ctor : Bool}
/-- the method's own circumstances -/
def zCtx (p : Program) (s : State) (m : MethodId) (args : Array Value) (meth : Method) (c : Code) (cc : ByteArray) (nL : Nat) (own : String) (ctor : Bool) (cl : List vw_C) (A : Nat → Prop) (xs : List Int) (ads0 : List Nat) (Ts : List Cond) : Prop :=
  p.tables.exec = Jvm.exec ∧ c.code = cc ∧ c.maxLocals = nL ∧ (∀ w ∈ Ts, w.before args s = true) ∧ s.vm.findClass own = some m.cls ∧ (∀ q, s.heap.size ≤ q → A q) ∧ zCl cl Ts ∧ (ctor = true → meth.name = "<init>") ∧ ∃ b, ads0[0]? = some b ∧ va_X b xs.length (zxf xs) s s.heap ∧ b < s.heap.size ∧ ¬ A b
def zSim (p : Program) (l : Launch) (e : Env) (R : Room) (s : State) (m : MethodId) (args : Array Value) (below : List Frame) (meth : Method) (c : Code) (Q : State → Prop) (nL : Nat) (D : va_G) (cl : List vw_C) (A : Nat → Prop) (ads0 : List Nat) (n0 z0 : Nat) (pc : Nat) (L : zL) (st : List zV) (h : zH) : Prop :=
  ∀ (ls : Array Slot) (sv : List Value) (H : Heap) (locs : List Loc) (cells slots : Nat) (ads : List Nat) (tys : List (ClassId × FieldType)) (ws : va_W), zLo ads nL L ls → zSt ads st sv → zRep cl ads tys ws h → zpre ads0 ads → va_K D cl tys s → va_P D cl ws H → va_D A ws → va_S A s.heap H locs → cells + n0 = h.length → slots + z0 = zsz h → W p l e R s m args below meth c H locs cells slots Q (F0 m pc ls sv)
theorem zS_arith (C0 : zCtx p s m args meth c cc nL own ctor cl A xs ads0 Ts) {pc : Nat} {I : Instr} {x : List Nat} {cv : Int} {L : zL} {st : List zV} {h : zH} {k : zL → List zV → zH → Option zR} {res : zR} (ok : zOK cl Ts own ctor nL cc pc I x cv)
    (hk : ∀ L' st' h', k L' st' h' = some res → zSim p l e R s m args below meth c Q nL D cl A ads0 n0 z0 (pc + zlen I) L' st' h') (hr : ∀ L' st' h', k L' st' h' = some res → h'.length ≤ R.cells + n0 ∧ zsz h' ≤ R.slots + z0)
    (q : zS xs I x cv L st h k = some res) : zSim p l e R s m args below meth c Q nL D cl A ads0 n0 z0 pc L st h := by
  intro ls sv H locs cells slots ads tys ws hL hst hR hpre hK hP hD hS hn hz
  obtain ⟨hx, hb, hml, hts, hown, hA, hcl, hct, b, hb0, hX, hbl, hbA⟩ := C0
  obtain ⟨hd, ok⟩ := ok
  cases I
  case iconst n => exact lv_iconst hx hb hd rfl (hk _ _ _ q _ _ _ _ _ _ _ _ _ hL ⟨rfl, hst⟩ hR hpre hK hP hD hS hn hz)
  case bipush n => exact lv_bipush hx hb hd (zw_bip ok.1 ok.2) (hk _ _ _ q _ _ _ _ _ _ _ _ _ hL ⟨rfl, hst⟩ hR hpre hK hP hD hS hn hz)
  case sipush n => exact lv_sipush hx hb hd (zw_sip ok.1 ok.2) (hk _ _ _ q _ _ _ _ _ _ _ _ _ hL ⟨rfl, hst⟩ hR hpre hK hP hD hS hn hz)
  case ldc i => exact lv_ldc hx hb hown (hts _ ok) hd (hk _ _ _ q _ _ _ _ _ _ _ _ _ hL ⟨rfl, hst⟩ hR hpre hK hP hD hS hn hz)
  case ldc_w i => exact lv_ldcw hx hb hown (hts _ ok) hd (hk _ _ _ q _ _ _ _ _ _ _ _ _ hL ⟨rfl, hst⟩ hR hpre hK hP hD hS hn hz)
  case ldc2_w i => exact lv_ldc2 hx hb hown (hts _ ok) hd (hk _ _ _ q _ _ _ _ _ _ _ _ _ hL ⟨rfl, hst⟩ hR hpre hK hP hD hS hn hz)
  case lconst n => exact lv_lconst (v := Int64.ofInt ((n : Nat) : Int)) hx hb hd (by clear hk hr q hd ok; revert n; decide) (hk _ _ _ q _ _ _ _ _ _ _ _ _ hL ⟨rfl, hst⟩ hR hpre hK hP hD hS hn hz)
  case aconst_null => exact lv_null hx hb hd (hk _ _ _ q _ _ _ _ _ _ _ _ _ hL ⟨rfl, hst⟩ hR hpre hK hP hD hS hn hz)
  case iload i =>
    simp only [zS] at q
    split at q
    next v hv =>
      obtain ⟨V, e1, e2⟩ := zLo_ld hL hv
      cases e2
      exact lv_iload hx hb hd e1 (hk _ _ _ q _ _ _ _ _ _ _ _ _ hL ⟨rfl, hst⟩ hR hpre hK hP hD hS hn hz)
    next => cases q
  case iload_n i =>
    simp only [zS] at q
    split at q
    next v hv =>
      obtain ⟨V, e1, e2⟩ := zLo_ld hL hv
      cases e2
      exact lv_iload_n hx hb hd rfl e1 (hk _ _ _ q _ _ _ _ _ _ _ _ _ hL ⟨rfl, hst⟩ hR hpre hK hP hD hS hn hz)
    next => cases q
  case lload i =>
    simp only [zS] at q
    split at q
    next v hv =>
      obtain ⟨V, e1, e2⟩ := zLo_ld hL hv
      cases e2
      exact lv_lload hx hb hd e1 (hk _ _ _ q _ _ _ _ _ _ _ _ _ hL ⟨rfl, hst⟩ hR hpre hK hP hD hS hn hz)
    next => cases q
  case lload_n i =>
    simp only [zS] at q
    split at q
    next v hv =>
      obtain ⟨V, e1, e2⟩ := zLo_ld hL hv
      cases e2
      exact lv_lload_n hx hb hd rfl e1 (hk _ _ _ q _ _ _ _ _ _ _ _ _ hL ⟨rfl, hst⟩ hR hpre hK hP hD hS hn hz)
    next => cases q
  case aload i =>
    simp only [zS] at q
    split at q
    next v hv =>
      obtain ⟨V, e1, e2⟩ := zLo_ld hL hv
      rcases v with _ | v
      · cases e2
        exact lv_aloadN hx hb hd e1 (hk _ _ _ q _ _ _ _ _ _ _ _ _ hL ⟨rfl, hst⟩ hR hpre hK hP hD hS hn hz)
      · obtain ⟨a, e3, rfl⟩ := e2
        exact lv_aload hx hb hd e1 (hk _ _ _ q _ _ _ _ _ _ _ _ _ hL ⟨⟨a, e3, rfl⟩, hst⟩ hR hpre hK hP hD hS hn hz)
    next => cases q
  case aload_n i =>
    simp only [zS] at q
    split at q
    next v hv =>
      obtain ⟨V, e1, e2⟩ := zLo_ld hL hv
      rcases v with _ | v
      · cases e2
        exact lv_aload_nN hx hb hd rfl e1 (hk _ _ _ q _ _ _ _ _ _ _ _ _ hL ⟨rfl, hst⟩ hR hpre hK hP hD hS hn hz)
      · obtain ⟨a, e3, rfl⟩ := e2
        exact lv_aload_n hx hb hd rfl e1 (hk _ _ _ q _ _ _ _ _ _ _ _ _ hL ⟨⟨a, e3, rfl⟩, hst⟩ hR hpre hK hP hD hS hn hz)
    next => cases q
  case istore i =>
    rcases st with _ | ⟨v | v | v, st⟩ <;> first | (cases q; done) | skip
    obtain ⟨T, rfl, hst1⟩ := zSt_i hst
    obtain ⟨lv, hlv, hc⟩ := zLo_lv hL
    exact lv_istore hx hb hd hlv ok rfl (fun ls' hlz => hk _ _ _ q _ _ _ _ _ _ _ _ _ (zLo_s1 hc rfl hlz) hst1 hR hpre hK hP hD hS hn hz)
  case istore_n i =>
    rcases st with _ | ⟨v | v | v, st⟩ <;> first | (cases q; done) | skip
    obtain ⟨T, rfl, hst1⟩ := zSt_i hst
    obtain ⟨lv, hlv, hc⟩ := zLo_lv hL
    exact lv_istore_n hx hb hd rfl hlv ok rfl (fun ls' hlz => hk _ _ _ q _ _ _ _ _ _ _ _ _ (zLo_s1 hc rfl hlz) hst1 hR hpre hK hP hD hS hn hz)
  case lstore i =>
    rcases st with _ | ⟨v | v | v, st⟩ <;> first | (cases q; done) | skip
    obtain ⟨T, rfl, hst1⟩ := zSt_l hst
    obtain ⟨lv, hlv, hc⟩ := zLo_lv hL
    exact lv_lstore hx hb hd hlv ok rfl (fun ls' hlz => hk _ _ _ q _ _ _ _ _ _ _ _ _ (zLo_s2 hc rfl hlz) hst1 hR hpre hK hP hD hS hn hz)
  case lstore_n i =>
    rcases st with _ | ⟨v | v | v, st⟩ <;> first | (cases q; done) | skip
    obtain ⟨T, rfl, hst1⟩ := zSt_l hst
    obtain ⟨lv, hlv, hc⟩ := zLo_lv hL
    exact lv_lstore_n hx hb hd rfl hlv ok rfl (fun ls' hlz => hk _ _ _ q _ _ _ _ _ _ _ _ _ (zLo_s2 hc rfl hlz) hst1 hR hpre hK hP hD hS hn hz)
  case astore i =>
    rcases st with _ | ⟨v | v | v, st⟩ <;> first | (cases q; done) | skip
    obtain ⟨V, T, rfl, hv, hst1⟩ := zSt_r hst
    obtain ⟨lv, hlv, hc⟩ := zLo_lv hL
    rcases v with _ | v
    · cases hv
      exact lv_astoreN hx hb hd hlv ok rfl (fun ls' hlz => hk _ _ _ q _ _ _ _ _ _ _ _ _ (zLo_s1 hc rfl hlz) hst1 hR hpre hK hP hD hS hn hz)
    · obtain ⟨a, e3, rfl⟩ := hv
      exact lv_astore hx hb hd hlv ok rfl (fun ls' hlz => hk _ _ _ q _ _ _ _ _ _ _ _ _ (zLo_s1 hc ⟨a, e3, rfl⟩ hlz) hst1 hR hpre hK hP hD hS hn hz)
  case astore_n i =>
    rcases st with _ | ⟨v | v | v, st⟩ <;> first | (cases q; done) | skip
    obtain ⟨V, T, rfl, hv, hst1⟩ := zSt_r hst
    obtain ⟨lv, hlv, hc⟩ := zLo_lv hL
    rcases v with _ | v
    · cases hv
      exact lv_astore_nN hx hb hd rfl hlv ok rfl (fun ls' hlz => hk _ _ _ q _ _ _ _ _ _ _ _ _ (zLo_s1 hc rfl hlz) hst1 hR hpre hK hP hD hS hn hz)
    · obtain ⟨a, e3, rfl⟩ := hv
      exact lv_astore_n hx hb hd rfl hlv ok rfl (fun ls' hlz => hk _ _ _ q _ _ _ _ _ _ _ _ _ (zLo_s1 hc ⟨a, e3, rfl⟩ hlz) hst1 hR hpre hK hP hD hS hn hz)
  case iinc i n =>
    simp only [zS] at q
    split at q
    next v hv =>
      obtain ⟨V, e1, e2⟩ := zLo_ld hL hv
      cases e2
      obtain ⟨lv, hlv, hc⟩ := zLo_lv hL
      have hlv2 : lv_has ls nL ((i, .int (Int32.ofInt v)) :: lv) := ⟨hlv.1, hlv.2.1, fun q hq => by
        rcases List.mem_cons.mp hq with rfl | hq
        · exact e1
        · exact hlv.2.2 q hq⟩
      have hi : i < nL := by rw [← hL.1]; exact lv_lt e1
      exact lv_iinc (k := 0) hx hb hd hlv2 rfl (Int32.ofInt_add v n).symm hi rfl (fun ls' hlz => hk _ _ _ q _ _ _ _ _ _ _ _ _ (zLo_s1 (fun j w hw => by obtain ⟨W, z1, z2⟩ := hc j w hw; exact ⟨W, List.mem_cons_of_mem _ z1, z2⟩) rfl hlz) hst hR hpre hK hP hD hS hn hz)
    next => cases q
  case iadd =>
    rcases st with _ | ⟨b | b | b, _ | ⟨a | a | a, st⟩⟩ <;> first | (cases q; done) | skip
    obtain ⟨T, rfl, hst1⟩ := zSt_i hst
    obtain ⟨T, rfl, hst2⟩ := zSt_i hst1
    exact lv_iadd hx hb hd (hk _ _ _ q _ _ _ _ _ _ _ _ _ hL ⟨by show _ = _; rw [Int32.ofInt_add], hst2⟩ hR hpre hK hP hD hS hn hz)
  case isub =>
    rcases st with _ | ⟨b | b | b, _ | ⟨a | a | a, st⟩⟩ <;> first | (cases q; done) | skip
    obtain ⟨T, rfl, hst1⟩ := zSt_i hst
    obtain ⟨T, rfl, hst2⟩ := zSt_i hst1
    exact lv_isub hx hb hd (hk _ _ _ q _ _ _ _ _ _ _ _ _ hL ⟨by show _ = _; rw [Int32.ofInt_sub], hst2⟩ hR hpre hK hP hD hS hn hz)
  case imul =>
    rcases st with _ | ⟨b | b | b, _ | ⟨a | a | a, st⟩⟩ <;> first | (cases q; done) | skip
    obtain ⟨T, rfl, hst1⟩ := zSt_i hst
    obtain ⟨T, rfl, hst2⟩ := zSt_i hst1
    exact lv_imul hx hb hd (hk _ _ _ q _ _ _ _ _ _ _ _ _ hL ⟨by show _ = _; rw [Int32.ofInt_mul], hst2⟩ hR hpre hK hP hD hS hn hz)
  case iand =>
    rcases st with _ | ⟨b | b | b, _ | ⟨a | a | a, st⟩⟩ <;> first | (cases q; done) | skip
    obtain ⟨T, rfl, hst1⟩ := zSt_i hst
    obtain ⟨T, rfl, hst2⟩ := zSt_i hst1
    exact lv_iand hx hb hd (hk _ _ _ q _ _ _ _ _ _ _ _ _ hL ⟨by show _ = _; unfold zand; rw [Int32.ofInt_toInt], hst2⟩ hR hpre hK hP hD hS hn hz)
  case ior =>
    rcases st with _ | ⟨b | b | b, _ | ⟨a | a | a, st⟩⟩ <;> first | (cases q; done) | skip
    obtain ⟨T, rfl, hst1⟩ := zSt_i hst
    obtain ⟨T, rfl, hst2⟩ := zSt_i hst1
    exact lv_ior hx hb hd (hk _ _ _ q _ _ _ _ _ _ _ _ _ hL ⟨by show _ = _; unfold zor; rw [Int32.ofInt_toInt], hst2⟩ hR hpre hK hP hD hS hn hz)
  case ishl =>
    rcases st with _ | ⟨b | b | b, _ | ⟨a | a | a, st⟩⟩ <;> first | (cases q; done) | skip
    obtain ⟨T, rfl, hst1⟩ := zSt_i hst
    obtain ⟨T, rfl, hst2⟩ := zSt_i hst1
    exact lv_ishl hx hb hd (hk _ _ _ q _ _ _ _ _ _ _ _ _ hL ⟨by show _ = _; unfold zshl; rw [Int32.ofInt_toInt], hst2⟩ hR hpre hK hP hD hS hn hz)
  case ishr =>
    rcases st with _ | ⟨b | b | b, _ | ⟨a | a | a, st⟩⟩ <;> first | (cases q; done) | skip
    obtain ⟨T, rfl, hst1⟩ := zSt_i hst
    obtain ⟨T, rfl, hst2⟩ := zSt_i hst1
    exact lv_ishr hx hb hd (hk _ _ _ q _ _ _ _ _ _ _ _ _ hL ⟨by show _ = _; unfold zshr; rw [Int32.ofInt_toInt], hst2⟩ hR hpre hK hP hD hS hn hz)
  case iushr =>
    rcases st with _ | ⟨b | b | b, _ | ⟨a | a | a, st⟩⟩ <;> first | (cases q; done) | skip
    obtain ⟨T, rfl, hst1⟩ := zSt_i hst
    obtain ⟨T, rfl, hst2⟩ := zSt_i hst1
    exact lv_iushr hx hb hd rfl (hk _ _ _ q _ _ _ _ _ _ _ _ _ hL ⟨by show _ = _; unfold zushr; rw [Int32.ofInt_toInt], hst2⟩ hR hpre hK hP hD hS hn hz)
  case idiv =>
    rcases st with _ | ⟨b | b | b, _ | ⟨a | a | a, st⟩⟩ <;> first | (cases q; done) | skip
    obtain ⟨T, rfl, hst1⟩ := zSt_i hst
    obtain ⟨T, rfl, hst2⟩ := zSt_i hst1
    simp only [zS] at q
    split at q
    next => cases q
    next h0 => exact lv_idiv hx hb hd (fun z => h0 ((zw_eq0 b).mp z)) (hk _ _ _ q _ _ _ _ _ _ _ _ _ hL ⟨by show _ = _; rw [zw_div], hst2⟩ hR hpre hK hP hD hS hn hz)
  case irem =>
    rcases st with _ | ⟨b | b | b, _ | ⟨a | a | a, st⟩⟩ <;> first | (cases q; done) | skip
    obtain ⟨T, rfl, hst1⟩ := zSt_i hst
    obtain ⟨T, rfl, hst2⟩ := zSt_i hst1
    simp only [zS] at q
    split at q
    next => cases q
    next h0 => exact lv_irem hx hb hd (fun z => h0 ((zw_eq0 b).mp z)) (hk _ _ _ q _ _ _ _ _ _ _ _ _ hL ⟨by show _ = _; rw [zw_mod], hst2⟩ hR hpre hK hP hD hS hn hz)
  case ineg =>
    rcases st with _ | ⟨a | a | a, st⟩ <;> first | (cases q; done) | skip
    obtain ⟨T, rfl, hst1⟩ := zSt_i hst
    exact lv_ineg hx hb hd (hk _ _ _ q _ _ _ _ _ _ _ _ _ hL ⟨by show _ = _; rw [Int32.ofInt_neg], hst1⟩ hR hpre hK hP hD hS hn hz)
  case i2l =>
    rcases st with _ | ⟨a | a | a, st⟩ <;> first | (cases q; done) | skip
    obtain ⟨T, rfl, hst1⟩ := zSt_i hst
    exact lv_i2l hx hb hd (zw_i2l a) (hk _ _ _ q _ _ _ _ _ _ _ _ _ hL ⟨rfl, hst1⟩ hR hpre hK hP hD hS hn hz)
  case l2i =>
    rcases st with _ | ⟨a | a | a, st⟩ <;> first | (cases q; done) | skip
    obtain ⟨T, rfl, hst1⟩ := zSt_l hst
    exact lv_l2i hx hb hd (zw_l2i a) (hk _ _ _ q _ _ _ _ _ _ _ _ _ hL ⟨rfl, hst1⟩ hR hpre hK hP hD hS hn hz)
  case ladd =>
    rcases st with _ | ⟨b | b | b, _ | ⟨a | a | a, st⟩⟩ <;> first | (cases q; done) | skip
    obtain ⟨T, rfl, hst1⟩ := zSt_l hst
    obtain ⟨T, rfl, hst2⟩ := zSt_l hst1
    exact lv_ladd hx hb hd (hk _ _ _ q _ _ _ _ _ _ _ _ _ hL ⟨by show _ = _; rw [Int64.ofInt_add], hst2⟩ hR hpre hK hP hD hS hn hz)
  case lsub =>
    rcases st with _ | ⟨b | b | b, _ | ⟨a | a | a, st⟩⟩ <;> first | (cases q; done) | skip
    obtain ⟨T, rfl, hst1⟩ := zSt_l hst
    obtain ⟨T, rfl, hst2⟩ := zSt_l hst1
    exact lv_lsub hx hb hd (hk _ _ _ q _ _ _ _ _ _ _ _ _ hL ⟨by show _ = _; rw [Int64.ofInt_sub], hst2⟩ hR hpre hK hP hD hS hn hz)
  case lmul =>
    rcases st with _ | ⟨b | b | b, _ | ⟨a | a | a, st⟩⟩ <;> first | (cases q; done) | skip
    obtain ⟨T, rfl, hst1⟩ := zSt_l hst
    obtain ⟨T, rfl, hst2⟩ := zSt_l hst1
    exact lv_lmul hx hb hd (hk _ _ _ q _ _ _ _ _ _ _ _ _ hL ⟨by show _ = _; rw [Int64.ofInt_mul], hst2⟩ hR hpre hK hP hD hS hn hz)
  case land =>
    rcases st with _ | ⟨b | b | b, _ | ⟨a | a | a, st⟩⟩ <;> first | (cases q; done) | skip
    obtain ⟨T, rfl, hst1⟩ := zSt_l hst
    obtain ⟨T, rfl, hst2⟩ := zSt_l hst1
    exact lv_land hx hb hd (hk _ _ _ q _ _ _ _ _ _ _ _ _ hL ⟨by show _ = _; unfold zandl; rw [Int64.ofInt_toInt], hst2⟩ hR hpre hK hP hD hS hn hz)
  case lor =>
    rcases st with _ | ⟨b | b | b, _ | ⟨a | a | a, st⟩⟩ <;> first | (cases q; done) | skip
    obtain ⟨T, rfl, hst1⟩ := zSt_l hst
    obtain ⟨T, rfl, hst2⟩ := zSt_l hst1
    exact lv_lor hx hb hd (hk _ _ _ q _ _ _ _ _ _ _ _ _ hL ⟨by show _ = _; unfold zorl; rw [Int64.ofInt_toInt], hst2⟩ hR hpre hK hP hD hS hn hz)
  case lneg =>
    rcases st with _ | ⟨a | a | a, st⟩ <;> first | (cases q; done) | skip
    obtain ⟨T, rfl, hst1⟩ := zSt_l hst
    exact lv_lneg hx hb hd (hk _ _ _ q _ _ _ _ _ _ _ _ _ hL ⟨by show _ = _; rw [Int64.ofInt_neg], hst1⟩ hR hpre hK hP hD hS hn hz)
  case ldiv =>
    rcases st with _ | ⟨b | b | b, _ | ⟨a | a | a, st⟩⟩ <;> first | (cases q; done) | skip
    obtain ⟨T, rfl, hst1⟩ := zSt_l hst
    obtain ⟨T, rfl, hst2⟩ := zSt_l hst1
    simp only [zS] at q
    split at q
    next => cases q
    next h0 => exact lv_ldiv hx hb hd (fun z => h0 ((zwl_eq0 b).mp z)) (hk _ _ _ q _ _ _ _ _ _ _ _ _ hL ⟨by show _ = _; rw [zwl_div], hst2⟩ hR hpre hK hP hD hS hn hz)
  case lrem =>
    rcases st with _ | ⟨b | b | b, _ | ⟨a | a | a, st⟩⟩ <;> first | (cases q; done) | skip
    obtain ⟨T, rfl, hst1⟩ := zSt_l hst
    obtain ⟨T, rfl, hst2⟩ := zSt_l hst1
    simp only [zS] at q
    split at q
    next => cases q
    next h0 => exact lv_lrem hx hb hd (fun z => h0 ((zwl_eq0 b).mp z)) (hk _ _ _ q _ _ _ _ _ _ _ _ _ hL ⟨by show _ = _; rw [zwl_mod], hst2⟩ hR hpre hK hP hD hS hn hz)
  case lshl =>
    rcases st with _ | ⟨b | b | b, _ | ⟨a | a | a, st⟩⟩ <;> first | (cases q; done) | skip
    obtain ⟨T, rfl, hst1⟩ := zSt_i hst
    obtain ⟨T, rfl, hst2⟩ := zSt_l hst1
    exact lv_lshl hx hb hd rfl (hk _ _ _ q _ _ _ _ _ _ _ _ _ hL ⟨by show _ = _; unfold zshll; rw [Int64.ofInt_toInt], hst2⟩ hR hpre hK hP hD hS hn hz)
  case lushr =>
    rcases st with _ | ⟨b | b | b, _ | ⟨a | a | a, st⟩⟩ <;> first | (cases q; done) | skip
    obtain ⟨T, rfl, hst1⟩ := zSt_i hst
    obtain ⟨T, rfl, hst2⟩ := zSt_l hst1
    exact lv_lushr hx hb hd rfl (hk _ _ _ q _ _ _ _ _ _ _ _ _ hL ⟨by show _ = _; unfold zushrl; rw [Int64.ofInt_toInt], hst2⟩ hR hpre hK hP hD hS hn hz)
  case lcmp =>
    rcases st with _ | ⟨b | b | b, _ | ⟨a | a | a, st⟩⟩ <;> first | (cases q; done) | skip
    obtain ⟨T, rfl, hst1⟩ := zSt_l hst
    obtain ⟨T, rfl, hst2⟩ := zSt_l hst1
    exact W.lcmp hx hb hd (hk _ _ _ q _ _ _ _ _ _ _ _ _ hL ⟨by show _ = _; rw [zwl_cmp], hst2⟩ hR hpre hK hP hD hS hn hz)
  case dup =>
    rcases st with _ | ⟨a | a | a, st⟩ <;> first | (cases q; done) | skip
    · obtain ⟨T, rfl, hst1⟩ := zSt_i hst
      exact lv_dup hx hb hd rfl (hk _ _ _ q _ _ _ _ _ _ _ _ _ hL ⟨rfl, rfl, hst1⟩ hR hpre hK hP hD hS hn hz)
    · obtain ⟨V, T, rfl, hv, hst1⟩ := zSt_r hst
      exact lv_dup hx hb hd (zcR_cat hv) (hk _ _ _ q _ _ _ _ _ _ _ _ _ hL ⟨hv, hv, hst1⟩ hR hpre hK hP hD hS hn hz)
  case dup2 =>
    rcases st with _ | ⟨b | b | b, _ | ⟨a | a | a, st⟩⟩ <;> first | (cases q; done) | skip
    obtain ⟨T, rfl, hst1⟩ := zSt_i hst
    obtain ⟨V, T, rfl, hv, hst2⟩ := zSt_r hst1
    exact lv_dup2_11 hx hb hd rfl (zcR_cat hv) (hk _ _ _ q _ _ _ _ _ _ _ _ _ hL ⟨rfl, hv, rfl, hv, hst2⟩ hR hpre hK hP hD hS hn hz)
  case dup_x2 =>
    rcases st with _ | ⟨d | d | d, _ | ⟨b | b | b, _ | ⟨a | a | a, st⟩⟩⟩ <;> first | (cases q; done) | skip
    obtain ⟨T, rfl, hst1⟩ := zSt_i hst
    obtain ⟨T, rfl, hst2⟩ := zSt_i hst1
    obtain ⟨V, T, rfl, hv, hst3⟩ := zSt_r hst2
    exact lv_dup_x2 hx hb hd rfl rfl (zcR_cat hv) (hk _ _ _ q _ _ _ _ _ _ _ _ _ hL ⟨rfl, rfl, hv, rfl, hst3⟩ hR hpre hK hP hD hS hn hz)
  case pop =>
    rcases st with _ | ⟨a | a | a, st⟩ <;> first | (cases q; done) | skip
    · obtain ⟨T, rfl, hst1⟩ := zSt_i hst
      exact lv_pop hx hb hd rfl (hk _ _ _ q _ _ _ _ _ _ _ _ _ hL hst1 hR hpre hK hP hD hS hn hz)
    · obtain ⟨V, T, rfl, hv, hst1⟩ := zSt_r hst
      exact lv_pop hx hb hd (zcR_cat hv) (hk _ _ _ q _ _ _ _ _ _ _ _ _ hL hst1 hR hpre hK hP hD hS hn hz)
  case getfield i =>
    obtain ⟨ci, j, kd, rfl, T, N, hc, hj, hT1, hlink⟩ := ok
    have hcc := hcl ci _ _ _ hc
    have main : ∀ (r : Option Nat) (v : zV) (st' : List zV), st = .inr (.inr r) :: st' → zfd h r ci j = some v → zSim p l e R s m args below meth c Q nL D cl A ads0 n0 z0 (pc + 3) L (v :: st') h → W p l e R s m args below meth c H locs cells slots Q (F0 m pc ls sv) := by
      intro r v st' hst0 hv hkk
      subst hst0
      obtain ⟨p', c', rfl, hp, hci, hcj⟩ := zfd_some hv
      obtain ⟨V, sv', rfl, hV, hst1⟩ := zSt_r hst
      obtain ⟨a, ha, rfl⟩ := hV
      obtain ⟨fs, he, hfs⟩ := zRep_obj hR hp (by rw [hci]; exact hcc.2.2.2.2.2) ha
      rw [hci] at he
      obtain ⟨V2, g1, g2⟩ := zSt_get hfs hcj
      exact va_get hx hb hts hcc.1 hown hK hP p' he hc j hj (hts _ hlink) (fun x h9 => by rw [hT1] at h9; exact h9) g1 hd (hkk _ _ _ _ _ _ _ _ _ hL ⟨g2, hst1⟩ hR hpre hK hP hD hS hn hz)
    rcases kd with _ | _ | _ | kd <;> rcases st with _ | ⟨a | a | r, st⟩ <;> first | (cases q; done) | skip
    · simp only [zS, zgi] at q
      split at q
      next v hv => exact main r _ st rfl hv (hk _ _ _ q)
      next => cases q
    · simp only [zS, zgl] at q
      split at q
      next v hv => exact main r _ st rfl hv (hk _ _ _ q)
      next => cases q
    · simp only [zS, zgr] at q
      split at q
      next v hv => exact main r _ st rfl hv (hk _ _ _ q)
      next => cases q
  case putfield i =>
    obtain ⟨ci, j, kd, rfl, T, N, hc, hj, hT1, hlink, ⟨ty, hty, hkd⟩, hfin⟩ := ok
    obtain ⟨hcw, ⟨ty0, hty0⟩, hnm, -, -, hlt⟩ := hcl ci _ _ _ hc
    have main : ∀ (r : Option Nat) (v : zV) (st' : List zV), st = v :: .inr (.inr r) :: st' → (∀ V, zcR ads v V → narrow ty V = V ∧ fits ty V = true) → zpf h r ci j v (fun h => k L st' h) = some res → W p l e R s m args below meth c H locs cells slots Q (F0 m pc ls sv) := by
      intro r v st' hst0 hfit q1
      subst hst0
      obtain ⟨p', c', rfl, hp, hci, hlen, q2⟩ := zpf_some q1
      rcases sv with _ | ⟨V, sv⟩
      · exact hst.elim
      obtain ⟨hV0, hst0⟩ := hst
      obtain ⟨V2, sv', rfl, hV, hst1⟩ := zSt_r hst0
      obtain ⟨a, ha, rfl⟩ := hV
      obtain ⟨fs, he, hfs⟩ := zRep_obj hR hp (by rw [hci]; exact hlt) ha
      rw [hci] at he
      have hfs2 := zSt_len hfs
      obtain ⟨f1, f2⟩ := hfit V hV0
      have fin : ∀ (H1 : Heap) (locs1 : List Loc), va_P D cl (ws.set p' (a, .inr (ci, fs.set j V))) H1 → va_D A (ws.set p' (a, .inr (ci, fs.set j V))) → va_S A s.heap H1 locs1 → W p l e R s m args below meth c H1 locs1 cells slots Q (F0 m (pc + 3) ls sv') := fun H1 locs1 hP1 hD1 hS1 =>
        hk _ _ _ q2 _ _ _ _ _ _ _ _ _ hL hst1 (zRep_set hR ha (Or.inl ⟨by rw [hci]; exact hlt, fs.set j V, by rw [hci], zSt_set j hfs hV0⟩)) hpre hK hP1 hD1 hS1 (by rw [List.length_set]; exact hn) (by rw [zsz_set h p' c' _ hp (by simp)]; exact hz)
      by_cases hf0 : (T j).2.2.2 = false
      · exact va_put hx hb hts hcw ty0 hty0 hnm hown hK hP hD hS p' he hc j hj (hts _ hlink) (fun x h9 => by rw [hT1] at h9; exact h9) hf0 hty f1 f2 (by rw [hfs2]; exact hlen) hd fin
      · exact va_putF hx hb hts hcw ty0 hty0 hnm hown hK hP hD hS p' he hc j hj (hts _ hlink) (fun x h9 => by rw [hT1] at h9; exact h9) (by simpa using hf0) (hct (hfin.resolve_left hf0)) hT1 hty f1 f2 (by rw [hfs2]; exact hlen) hd fin
    rcases kd with _ | _ | _ | _ | kd <;> rcases st with _ | ⟨v | v | v, _ | ⟨a | a | r, st⟩⟩ <;> first | (cases q; done) | skip
    · cases hkd
      exact main r _ st rfl (fun V hV => by cases hV; exact ⟨rfl, rfl⟩) q
    · cases hkd
      exact main r _ st rfl (fun V hV => by cases hV; exact ⟨rfl, rfl⟩) q
    · exact main r _ st rfl (fun V hV => zfit_r hV hkd) q
    · cases hkd
      simp only [zS] at q
      split at q
      next hv => exact main r _ st rfl (fun V hV => by cases hV; exact zfit_b hv) q
      next => cases q
  case iaload =>
    rcases st with _ | ⟨i | i | i, _ | ⟨a | a | r, st⟩⟩ <;> first | (cases q; done) | skip
    simp only [zS, zai] at q
    split at q
    next v hv =>
      obtain ⟨T1, rfl, hst1⟩ := zSt_i hst
      obtain ⟨V, T2, rfl, hV, hst2⟩ := zSt_r hst1
      obtain ⟨h0, ⟨rfl, -, x0, hx0, hx1⟩ | ⟨p', c', rfl, hp, htag, hcj⟩⟩ := zar_some hv
      · cases hx1
        obtain ⟨a, ha, rfl⟩ := hV
        have hab : a = b := Option.some.inj (ha.symm.trans (hpre _ _ hb0))
        subst hab
        have hlt := (List.getElem?_eq_some_iff.mp hx0).1
        refine va_sld hx hb hX hbl hbA hS (zw_in h0 hlt) hd ?_
        refine hk _ _ _ q _ _ _ _ _ _ _ _ _ hL ⟨?_, hst2⟩ hR hpre hK hP hD hS hn hz
        show Value.int (zxf xs _) = _
        rw [zw_clamp]
        simp [zxf, List.getD, hx0]
      · obtain ⟨a, ha, rfl⟩ := hV
        obtain ⟨cA, f, he, ht, hf⟩ := zRep_int hR hp htag ha
        obtain ⟨t0, ht0⟩ := zty_mem ht
        obtain ⟨x1, e1, e2⟩ := hf _ _ hcj
        cases e1
        have hlt := (List.getElem?_eq_some_iff.mp hcj).1
        refine va_iald hx hb hK hP p' t0 he ht0 (zw_in h0 hlt) hd ?_
        refine hk _ _ _ q _ _ _ _ _ _ _ _ _ hL ⟨?_, hst2⟩ hR hpre hK hP hD hS hn hz
        show Value.int (f _) = _
        rw [zw_clamp, e2]
    next => cases q
  case laload =>
    rcases st with _ | ⟨i | i | i, _ | ⟨a | a | r, st⟩⟩ <;> first | (cases q; done) | skip
    simp only [zS, zal] at q
    split at q
    next v hv =>
      obtain ⟨T1, rfl, hst1⟩ := zSt_i hst
      obtain ⟨V, T2, rfl, hV, hst2⟩ := zSt_r hst1
      obtain ⟨h0, ⟨rfl, hbad, -⟩ | ⟨p', c', rfl, hp, htag, hcj⟩⟩ := zar_some hv
      · exact absurd hbad (by decide)
      · obtain ⟨a, ha, rfl⟩ := hV
        obtain ⟨cA, f, he, ht, hf⟩ := zRep_long hR hp htag ha
        obtain ⟨t0, ht0⟩ := zty_mem ht
        obtain ⟨x1, e1, e2⟩ := hf _ _ hcj
        cases e1
        have hlt := (List.getElem?_eq_some_iff.mp hcj).1
        refine va_lald hx hb hK hP p' t0 he ht0 (zw_in h0 hlt) hd ?_
        refine hk _ _ _ q _ _ _ _ _ _ _ _ _ hL ⟨?_, hst2⟩ hR hpre hK hP hD hS hn hz
        show Value.long (f _) = _
        rw [zw_clamp, e2]
    next => cases q
  case aaload =>
    obtain ⟨ci, rfl⟩ := ok
    rcases st with _ | ⟨i | i | i, _ | ⟨a | a | r, st⟩⟩ <;> first | (cases q; done) | skip
    simp only [zS, zaa] at q
    split at q
    next v hv =>
      obtain ⟨T1, rfl, hst1⟩ := zSt_i hst
      obtain ⟨V, T2, rfl, hV, hst2⟩ := zSt_r hst1
      obtain ⟨h0, ⟨rfl, hbad, -⟩ | ⟨p', c', rfl, hp, htag, hcj⟩⟩ := zar_some hv
      · omega
      · obtain ⟨a, ha, rfl⟩ := hV
        obtain ⟨cA, f, r, he, hr2, ht, hf⟩ := zRep_ref hR hp (by omega) ha
        obtain ⟨t0, ht0⟩ := zty_mem ht
        obtain ⟨x1, e1, e2⟩ := hf _ _ hcj
        cases e1
        have hlt := (List.getElem?_eq_some_iff.mp hcj).1
        refine va_aldq hx hb hK hP p' t0 he ht0 (zw_in h0 hlt) hd ?_
        refine hk _ _ _ q _ _ _ _ _ _ _ _ _ hL ⟨?_, hst2⟩ hR hpre hK hP hD hS hn hz
        rw [zw_clamp]
        exact e2
    next => cases q
  case iastore =>
    rcases st with _ | ⟨v | v | v, _ | ⟨i | i | i, _ | ⟨a | a | r, st⟩⟩⟩ <;> first | (cases q; done) | skip
    obtain ⟨p', c', rfl, hp, htag, h0, hlt, q⟩ := zst_some q
    obtain ⟨T1, rfl, hst1⟩ := zSt_i hst
    obtain ⟨T2, rfl, hst2⟩ := zSt_i hst1
    obtain ⟨V, T3, rfl, hV, hst3⟩ := zSt_r hst2
    obtain ⟨a, ha, rfl⟩ := hV
    obtain ⟨cA, f, he, ht, hf⟩ := zRep_int hR hp htag ha
    obtain ⟨t0, ht0⟩ := zty_mem ht
    refine va_iast hx hb hK hP hD hS p' t0 he ht0 (zw_in h0 hlt) hd (fun H1 locs1 hP1 hD1 hS1 => ?_)
    refine hk _ _ _ q _ _ _ _ _ _ _ _ _ hL hst3 (zRep_set hR ha (Or.inr (Or.inl ⟨htag, cA, _, by rw [List.length_set], ht, fun j w hw => ?_⟩))) hpre hK hP1 hD1 hS1 (by rw [List.length_set]; exact hn) (by rw [zsz_set h p' c' _ hp (by simp)]; exact hz)
    rw [zw_clamp]
    by_cases hj : j = (zw i).toNat
    · subst hj
      rw [List.getElem?_set_self hlt] at hw
      cases hw
      exact ⟨v, rfl, pk_us⟩
    · rw [List.getElem?_set_ne (Ne.symm hj)] at hw
      obtain ⟨x1, e1, e2⟩ := hf j w hw
      exact ⟨x1, e1, by rw [pk_un hj]; exact e2⟩
  case lastore =>
    rcases st with _ | ⟨v | v | v, _ | ⟨i | i | i, _ | ⟨a | a | r, st⟩⟩⟩ <;> first | (cases q; done) | skip
    obtain ⟨p', c', rfl, hp, htag, h0, hlt, q⟩ := zst_some q
    obtain ⟨T1, rfl, hst1⟩ := zSt_l hst
    obtain ⟨T2, rfl, hst2⟩ := zSt_i hst1
    obtain ⟨V, T3, rfl, hV, hst3⟩ := zSt_r hst2
    obtain ⟨a, ha, rfl⟩ := hV
    obtain ⟨cA, f, he, ht, hf⟩ := zRep_long hR hp htag ha
    obtain ⟨t0, ht0⟩ := zty_mem ht
    refine va_last hx hb hK hP hD hS p' t0 he ht0 (zw_in h0 hlt) hd (fun H1 locs1 hP1 hD1 hS1 => ?_)
    refine hk _ _ _ q _ _ _ _ _ _ _ _ _ hL hst3 (zRep_set hR ha (Or.inr (Or.inr (Or.inl ⟨htag, cA, _, by rw [List.length_set], ht, fun j w hw => ?_⟩)))) hpre hK hP1 hD1 hS1 (by rw [List.length_set]; exact hn) (by rw [zsz_set h p' c' _ hp (by simp)]; exact hz)
    rw [zw_clamp]
    by_cases hj : j = (zw i).toNat
    · subst hj
      rw [List.getElem?_set_self hlt] at hw
      cases hw
      exact ⟨v, rfl, pk_uLs⟩
    · rw [List.getElem?_set_ne (Ne.symm hj)] at hw
      obtain ⟨x1, e1, e2⟩ := hf j w hw
      exact ⟨x1, e1, by rw [pk_uLn hj]; exact e2⟩
  case aastore =>
    obtain ⟨ci, rfl⟩ := ok
    rcases st with _ | ⟨v | v | (_ | _ | v), _ | ⟨i | i | i, _ | ⟨a | a | r, st⟩⟩⟩ <;> first | (cases q; done) | skip
    simp only [zS] at q
    cases hv0 : h[v]? with
    | none => rw [hv0] at q; cases q
    | some cv0 =>
    rw [hv0] at q
    simp only at q
    split at q
    next hci =>
      obtain ⟨p', c', rfl, hp, htag, h0, hlt, q⟩ := zst_some q
      obtain ⟨V, T1, rfl, hV0, hst1⟩ := zSt_r hst
      obtain ⟨T2, rfl, hst2⟩ := zSt_i hst1
      obtain ⟨V, T3, rfl, hV, hst3⟩ := zSt_r hst2
      obtain ⟨a, ha, rfl⟩ := hV
      obtain ⟨av, hav, rfl⟩ := hV0
      obtain ⟨cA, f, r, he, hr2, ht, hf⟩ := zRep_ref hR hp (by omega) ha
      obtain ⟨t0, ht0⟩ := zty_mem ht
      rw [htag, show 102 + ci - 102 = ci by omega] at hr2
      obtain ⟨fs, hve, hfs⟩ := zRep_obj hR hv0 (by rw [hci]; exact (hcl ci r.1 r.2.1 r.2.2 hr2).2.2.2.2.2) hav
      rw [hci] at hve
      refine va_astq hx hb hK hP hD hS p' t0 v ci he ht0 hve hr2 (zw_in h0 hlt) hd (fun H1 locs1 hP1 hD1 hS1 => ?_)
      refine hk _ _ _ q _ _ _ _ _ _ _ _ _ hL hst3 (zRep_set hR ha (Or.inr (Or.inr (Or.inr ⟨by show 102 ≤ c'.1; omega, cA, _, r, by rw [List.length_set], by show cl[c'.1 - 102]? = _; rw [htag, show 102 + ci - 102 = ci by omega]; exact hr2, ht, fun j w hw => ?_⟩)))) hpre hK hP1 hD1 hS1 (by rw [List.length_set]; exact hn) (by rw [zsz_set h p' c' _ hp (by simp)]; exact hz)
      rw [zw_clamp]
      by_cases hj : j = (zw i).toNat
      · subst hj
        rw [List.getElem?_set_self hlt] at hw
        cases hw
        exact ⟨some (v + 1), rfl, av, hav, by simp [va_up, va_rf]⟩
      · rw [List.getElem?_set_ne (Ne.symm hj)] at hw
        obtain ⟨x1, e1, e2⟩ := hf j w hw
        exact ⟨x1, e1, by rw [show va_up f (zw i).toNat (some av) j = f j by simp [va_up, hj]]; exact e2⟩
    next => cases q
  case arraylength =>
    rcases st with _ | ⟨a | a | r, st⟩ <;> first | (cases q; done) | skip
    obtain ⟨V, T, rfl, hV, hst1⟩ := zSt_r hst
    have q : zln xs h r (fun v => k L (.inl v :: st) h) = some res := q
    rcases r with _ | _ | p'
    · cases q
    · obtain ⟨a, ha, rfl⟩ := hV
      have hab : a = b := Option.some.inj (ha.symm.trans (hpre _ _ hb0))
      subst hab
      refine va_slen hx hb hX hbl hbA hS hd ?_
      exact hk _ _ _ q _ _ _ _ _ _ _ _ _ hL ⟨by show _ = _; rw [zofNat], hst1⟩ hR hpre hK hP hD hS hn hz
    · unfold zln at q
      dsimp only at q
      cases hp : h[p']? with
      | none => rw [hp] at q; cases q
      | some c' =>
      rw [hp] at q
      dsimp only at q
      split at q
      next htag =>
        obtain ⟨a, ha, rfl⟩ := hV
        obtain ⟨cA, x, ty, he, ht, hlen⟩ := zRep_arr hR hp htag ha
        obtain ⟨t0, ht0⟩ := zty_mem ht
        refine va_alen hx hb hK hP p' t0 he ht0 (v := Int32.ofInt c'.2.length) (by rw [hlen, zofNat]) hd ?_
        exact hk _ _ _ q _ _ _ _ _ _ _ _ _ hL ⟨rfl, hst1⟩ hR hpre hK hP hD hS hn hz
      next => cases q
  case new i =>
    obtain ⟨ci, ks, rfl, C, T, N, hc, hks, hlink, hdef⟩ := ok
    obtain ⟨hcw, ⟨ty0, hty0⟩, hnm, hinst, hini, hlt⟩ := hcl ci _ _ _ hc
    have q : k L (.inr (.inr (some (h.length + 1))) :: st) (h ++ [(ci, ks.map fun t => match t with | 0 => .inl 0 | 1 => .inr (.inl 0) | _ => .inr (.inr none))]) = some res := q
    obtain ⟨r1, r2⟩ := hr _ _ _ q
    rw [List.length_append] at r1
    rw [zsz_app] at r2
    simp only [List.length_singleton, zsz, List.length_map] at r1 r2
    have hfs : ∀ j, j < N → defaultValue (ty0 j) = vp_V (ks.map zdfv) j := by
      intro j hj
      obtain ⟨kd, hkd⟩ : ∃ kd, ks[j]? = some kd := ⟨_, List.getElem?_eq_getElem (by omega)⟩
      obtain ⟨ty, h1, h2⟩ := hdef j kd hkd
      have h3 : ty0 j = ty := Option.some.inj ((hty0 j hj).symm.trans h1)
      rw [h3]
      have h4 : vp_V (ks.map zdfv) j = zdfv kd := by simp [vp_V, List.getD, hkd]
      rw [h4]
      rcases h2 with ⟨rfl, rfl | rfl⟩ | ⟨rfl, rfl⟩ | ⟨rfl, ⟨n, rfl⟩ | ⟨t, rfl⟩⟩ <;> rfl
    refine va_new hx hb hts hcw ty0 hty0 hown (hts _ hlink) (hts _ hinst) (hts _ hini) hK hP hD hS hA hc hfs (by omega) (by omega) hd (fun qa H1 hP1 hD1 hS1 => ?_)
    refine hk _ _ _ q _ _ _ _ _ _ _ _ _ (zLo_pre (zpre_app _ _) hL) ⟨⟨qa, by rw [← hR.2.1, List.getElem?_append_right (by omega)]; simp, rfl⟩, zSt_pre (zpre_app _ _) hst⟩ (zRep_app hR (fun _ z => z) (Or.inl ⟨hlt, _, rfl, ?_⟩)) (zpre_tr hpre (zpre_app _ _)) hK hP1 hD1 hS1 (by rw [List.length_append]; simp; omega) (by rw [zsz_app]; simp only [zsz, List.length_map]; omega)
    exact zdfv_ok ads ks
  case newarray t =>
    have main : ∀ (n : Int) (st' : List zV) (ty : FieldType) (tag : Nat) (v0 : zV) (a0 : Nat → vp_A), (∀ N', (a0 N').1 = N') → st = .inl n :: st' → newarray.typeOf t = ty → Cond.arrayClass ty ∈ Ts → componentBytes ty ≤ 8 → (∀ (N' : Nat) (cA : ClassId), vp_cell cA (a0 N') = arrV cA N' (fun _ => defaultValue ty)) → (∀ (ads : List Nat) (N' : Nat) (cA : ClassId) (tys : List (ClassId × FieldType)), zCe cl ads (tys ++ [(cA, ty)]) (tag, List.replicate N' v0) (.inl (cA, a0 N'))) → 0 ≤ zw n ∧ zw n ≤ 1000000 → k L (.inr (.inr (some (h.length + 1))) :: st') (h ++ [(tag, List.replicate (zw n).toNat v0)]) = some res → W p l e R s m args below meth c H locs cells slots Q (F0 m pc ls sv) := by
      intro n st' ty tag v0 a0 ha1 hst0 hty harr hcb ha0 hce hn0 q1
      subst hst0
      obtain ⟨T, rfl, hst1⟩ := zSt_i hst
      obtain ⟨r1, r2⟩ := hr _ _ _ q1
      rw [List.length_append] at r1
      rw [zsz_app] at r2
      simp only [List.length_singleton, zsz, List.length_replicate] at r1 r2
      refine va_newa hx hb (by rw [hty]; exact hts _ harr) hty hK hP hD hS hA (ha0 (zw n).toNat) (fun z => by have := (zw_lt0 n).mp z; omega) (zw_clamp n) ?_ (by omega) (by omega) hd (fun qa cA H1 hK1 hP1 hD1 hS1 => ?_)
      · have : (zw n).toNat * componentBytes ty ≤ 1000000 * 8 := Nat.mul_le_mul (by omega) hcb
        omega
      · exact hk _ _ _ q1 _ _ _ _ _ _ _ _ _ (zLo_pre (zpre_app _ _) hL) ⟨⟨qa, by rw [← hR.2.1, List.getElem?_append_right (by omega)]; simp, rfl⟩, zSt_pre (zpre_app _ _) hst1⟩ (zRep_app hR (fun _ z => List.mem_append_left _ z) (hce _ _ _ _)) (zpre_tr hpre (zpre_app _ _)) hK1 hP1 hD1 hS1 (by rw [List.length_append]; simp; omega) (by rw [zsz_app]; simp only [zsz, List.length_replicate]; omega)
    rcases ok with ⟨rfl, rfl, harr⟩ | ⟨rfl, rfl, harr⟩ <;> rcases st with _ | ⟨n | n | n, st⟩ <;> first | (cases q; done) | skip
    · simp only [zS] at q
      split at q
      next hn0 => exact main n st .int 100 (.inl 0) (fun N' => (N', .inl (fun _ => 0))) (fun _ => rfl) rfl rfl harr (by decide) (fun _ _ => rfl) (fun ads N' cA tys => Or.inr (Or.inl ⟨rfl, cA, fun _ => 0, by rw [List.length_replicate], by simp, fun j v hv => ⟨0, by simp [List.getElem?_replicate] at hv; exact hv.2.symm, rfl⟩⟩)) hn0 q
      next => cases q
    · simp only [zS] at q
      split at q
      next hn0 => exact main n st .long 101 (.inr (.inl 0)) (fun N' => (N', .inr (.inl (fun _ => 0)))) (fun _ => rfl) rfl rfl harr (by decide) (fun _ _ => rfl) (fun ads N' cA tys => Or.inr (Or.inr (Or.inl ⟨rfl, cA, fun _ => 0, by rw [List.length_replicate], by simp, fun j v hv => ⟨0, by simp [List.getElem?_replicate] at hv; exact hv.2.symm, rfl⟩⟩))) hn0 q
      next => cases q
  case anewarray i =>
    obtain ⟨ci, C, T, N, rfl, hc, hlink, hov⟩ := ok
    rcases st with _ | ⟨n | n | n, st⟩ <;> first | (cases q; done) | skip
    simp only [zS] at q
    split at q
    next hn0 =>
      obtain ⟨T1, rfl, hst1⟩ := zSt_i hst
      obtain ⟨r1, r2⟩ := hr _ _ _ q
      rw [List.length_append] at r1
      rw [zsz_app] at r2
      simp only [List.length_singleton, zsz, List.length_replicate] at r1 r2
      refine va_newq hx hb hown (hts _ hlink) (va_AO.of (hts _ hov)) hK hP hD hS hA (fun z => by have := (zw_lt0 n).mp z; omega) (zw_clamp n) (by omega) (by omega) (by omega) hd (fun qa cA H1 hK1 hP1 hD1 hS1 => ?_)
      refine hk _ _ _ q _ _ _ _ _ _ _ _ _ (zLo_pre (zpre_app _ _) hL) ⟨⟨qa, by rw [← hR.2.1, List.getElem?_append_right (by omega)]; simp, rfl⟩, zSt_pre (zpre_app _ _) hst1⟩ (zRep_app hR (fun _ z => List.mem_append_left _ z) (Or.inr (Or.inr (Or.inr ⟨by show 102 ≤ 102 + ci; omega, cA, fun _ => none, (C, T, N), by rw [List.length_replicate], by show cl[102 + ci - 102]? = _; rw [show 102 + ci - 102 = ci by omega]; exact hc, by simp, fun j v hv => ⟨none, by simp [List.getElem?_replicate] at hv; exact hv.2.symm, rfl⟩⟩)))) (zpre_tr hpre (zpre_app _ _)) hK1 hP1 hD1 hS1 (by rw [List.length_append]; simp; omega) (by rw [zsz_app]; simp only [zsz, List.length_replicate]; omega)
    next => cases q

  all_goals first
    | (cases q; done)
    | (exfalso; cases q; done)
end ZSIM
