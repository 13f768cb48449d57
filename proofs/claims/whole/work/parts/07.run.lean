/-! ===== a whole reading is a run of the machine ===== -/
abbrev zM : Type := MethodName × ByteArray × Nat × Option FieldType × Nat × Nat
/-- what is returned -/
def zRet (ads : List Nat) : Option zV → Option Value → Prop
  | none, rv => rv = none
  | some v, rv => ∃ V, rv = some V ∧ zcR ads v V
def zRI (I : Instr) (rt : Option FieldType) (rv : Option Value) : Prop :=
  (I = .ireturn ∧ ∃ v, rv = some (.int v) ∧ (rt = some .int ∨ (rt = some .boolean ∧ (v = 0 ∨ v = 1)))) ∨
  (I = .lreturn ∧ rt = some .long ∧ ∃ v, rv = some (.long v)) ∨
  (I = .areturn ∧ ∃ V, rv = some V ∧ (V = .null ∨ ∃ a, V = .ref a) ∧ ∃ t, rt = some t ∧ ((∃ n, t = .object n) ∨ ∃ t2, t = .array t2)) ∨
  (I = .return_ ∧ rt = none ∧ rv = none)
/-- what the tables say of a call -/
def zCal (mt : Nat → Option zM) (Ts : List Cond) (fr lo : Nat) (q n mx : Nat) (y : MethodName) (rt : Option FieldType) : Prop := ∃ by' f2 l2, mt q = some (y, by', mx, rt, f2, l2) ∧ f2 + 1 ≤ fr ∧ 8 + (mx + 11) + l2 ≤ lo ∧ (parseMethodDescriptor y.desc).map (fun d => d.parameters.length) = some n
def zIOK (mt : Nat → Option zM) (cl : List vw_C) (Ts : List Cond) (own : String) (ctor : Bool) (nL : Nat) (rt : Option FieldType) (fr lo : Nat) (cc : ByteArray) (pc : Nat) (I : Instr) (x : List Nat) (c : Int) : Prop := match I with
  | .nop => ∃ mm, x = pc :: mm
  | .goto off => decode cc pc = .ok (.goto off, 3) ∧ ∃ t mm, x = t :: mm ∧ (pc : Int) + off = (t : Int)
  | .ifCond cd off => decode cc pc = .ok (.ifCond cd off, 3) ∧ ∃ t mm, x = t :: mm ∧ (pc : Int) + off = (t : Int)
  | .if_icmp cd off => decode cc pc = .ok (.if_icmp cd off, 3) ∧ ∃ t mm, x = t :: mm ∧ (pc : Int) + off = (t : Int)
  | .ifnull off => decode cc pc = .ok (.ifnull off, 3) ∧ ∃ t mm, x = t :: mm ∧ (pc : Int) + off = (t : Int)
  | .ifnonnull off => decode cc pc = .ok (.ifnonnull off, 3) ∧ ∃ t mm, x = t :: mm ∧ (pc : Int) + off = (t : Int)
  | .tableswitch d lo hi offs => ∃ len, decode cc pc = .ok (.tableswitch d lo hi offs, len) ∧ ∃ n dt rest, x = n :: dt :: rest ∧ (pc : Int) + d = (dt : Int) ∧ ∀ (j t : Nat), (rest.drop n)[j]? = some t → ∃ off, offs[j]? = some off ∧ (pc : Int) + off = (t : Int)
  | .ireturn => decode cc pc = .ok (.ireturn, 1) ∧ ((x = [0] ∧ rt = some .int) ∨ (x = [1] ∧ rt = some .boolean))
  | .lreturn => decode cc pc = .ok (.lreturn, 1) ∧ rt = some .long
  | .areturn => decode cc pc = .ok (.areturn, 1) ∧ ∃ t, rt = some t ∧ ((∃ n, t = .object n) ∨ ∃ t2, t = .array t2)
  | .return_ => decode cc pc = .ok (.return_, 1) ∧ rt = none
  | .invokevirtual i => decode cc pc = .ok (.invokevirtual i, 3) ∧ ∃ q n t mx ci y r2 T N, x = [q, n + 1, t, mx, ci] ∧ zCal mt Ts fr lo q n mx y r2 ∧ cl[ci]? = some (y.cls, T, N) ∧ Cond.methodLink own i y ∈ Ts ∧ Cond.instanceMethod y ∈ Ts ∧ Cond.selects y.cls y y ∈ Ts
  | .invokestatic i => decode cc pc = .ok (.invokestatic i, 3) ∧ ∃ q n t mx y r2, x = [q, n, t, mx] ∧ zCal mt Ts fr lo q n mx y r2 ∧ (Cond.methodLink own i y ∈ Ts ∨ ∃ host, Cond.methodLinkNest own i y host ∈ Ts) ∧ Cond.static y ∈ Ts
  | .invokespecial i => decode cc pc = .ok (.invokespecial i, 3) ∧ ((x = [] ∧ Cond.methodLink own i Lib.objectInit ∈ Ts ∧ Cond.instanceMethod Lib.objectInit ∈ Ts ∧ Cond.code Lib.objectInit ⟨#[0xb1]⟩ 1 none ∈ Ts ∧ 1 ≤ fr ∧ 20 ≤ lo) ∨ (∃ q n t mx y, x = [q, n + 1, t, mx] ∧ zCal mt Ts fr lo q n mx y none ∧ (Cond.methodLink own i y ∈ Ts ∨ ∃ host, Cond.methodLinkNest own i y host ∈ Ts) ∧ Cond.instanceMethod y ∈ Ts ∧ y.name = "<init>"))
  | I => zOK cl Ts own ctor nL cc pc I x c
def zBK (mt : Nat → Option zM) (cl : List vw_C) (Ts : List Cond) (own : String) (ctor : Bool) (nL : Nat) (rt : Option FieldType) (fr lo : Nat) (cc : ByteArray) : Nat → List zE → Prop
  | _, [] => True
  | pc, (I, x, c) :: t => zIOK mt cl Ts own ctor nL rt fr lo cc pc I x c ∧ zBK mt cl Ts own ctor nL rt fr lo cc (pc + zlen I) t
def zProg (mt : Nat → Option zM) (B : Nat → Nat → Option (List zE)) (cl : List vw_C) (Ts : List Cond) : Prop := GoodIn Ts Ts ∧ zCl cl Ts ∧ ∀ (M : Nat) (y : MethodName) (by' : ByteArray) (mL : Nat) (rt : Option FieldType) (fr lo : Nat), mt M = some (y, by', mL, rt, fr, lo) → (y.cls ≠ "java/lang/invoke/MethodHandle" ∧ y.cls ≠ "java/lang/invoke/VarHandle") ∧ plainName y.cls = true ∧ Cond.code y by' mL rt ∈ Ts ∧ Cond.initialized y.cls ∈ Ts ∧ ∀ (pc : Nat) (b : List zE), B M pc = some b → zBK mt cl Ts y.cls (y.name == "<init>") mL rt fr lo by' pc b
/-- a method's contract, out of a reading -/
def zPc (cl : List vw_C) (D : va_G) (xs : List Int) (b : Nat) (tys : List (ClassId × FieldType)) (ws : va_W) (sz : Nat) (avs : List Value) : Array Value → State → Prop := va_Pc avs (fun U => U.heap.size = sz ∧ va_P D cl ws U.heap ∧ va_K D cl tys U ∧ va_D (fun _ => True) ws ∧ va_X b xs.length (zxf xs) U U.heap ∧ b < sz ∧ ¬ va_A ws sz b)
def zQc (cl : List vw_C) (D : va_G) (ads : List Nat) (ws : va_W) (sz : Nat) (r : zR) : Array Value → State → Outcome → State → Prop := fun _ st oc t =>
  (∃ rv ads' tys' ws', oc = .returned rv ∧ zRet ads' r.1 rv ∧ zRep cl ads' tys' ws' r.2 ∧ zpre ads ads' ∧ va_P D cl ws' t.heap ∧ va_K D cl tys' t ∧ va_D (va_A ws sz) ws') ∧ va_F (va_A ws sz) st t
def zMet (l : Launch) (cl : List vw_C) (Ts : List Cond) (xs : List Int) (y : MethodName) (by' : ByteArray) (mL : Nat) (rt : Option FieldType) (fr lo : Nat) (vs : List zV) (h : zH) (r : zR) : Prop :=
  ∀ (D : va_G) (ads : List Nat) (b : Nat) (tys : List (ClassId × FieldType)) (ws : va_W) (sz : Nat) (avs : List Value), ads[0]? = some b → zRep cl ads tys ws h → zSt ads vs avs → (zargs vs).length ≤ mL →
    Met l y (Cond.code y by' mL rt :: Ts) { frames := fr, cells := r.2.length - h.length, slots := zsz r.2 - zsz h, locals := lo } (zPc cl D xs b tys ws sz avs) (zQc cl D ads ws sz r) (r.2.length - h.length) (zsz r.2 - zsz h) (va_A ws sz)
theorem zPc_blind {cl : List vw_C} {D : va_G} {xs : List Int} {b : Nat} {tys : List (ClassId × FieldType)} {ws : va_W} {sz : Nat} {avs : List Value} : FrameBlind (zPc cl D xs b tys ws sz avs) := by
  rintro a U g mk ⟨h1, h2, h3, h4, h5, h6, h7, h8⟩
  exact ⟨h1, h2, h3, va_K.moved (u := U) (U := U.calling g mk a) (Vm.Alike.refl U.vm) h4, h5, va_X.moved (u := U) (U := U.calling g mk a) (Vm.Alike.refl U.vm) h6, h7, h8⟩
section ZRUN
variable {p : Program} {l : Launch} {e : Env} {R : Room} {s : State} {m : MethodId} {args : Array Value} {below : List Frame} {meth : Method} {c : Code} {Q : State → Prop}
variable {cc : ByteArray} {nL : Nat} {own : String} {D : va_G} {cl : List vw_C} {A : Nat → Prop} {xs : List Int} {ads0 : List Nat} {n0 z0 : Nat} {Ts : List Cond} {ctor : Bool}
theorem zAfter {H : Heap} {locs : List Loc} {cells slots mc ms : Nat} {pc : Nat} {ls : Array Slot} {sv rest : List Value} {ads : List Nat} {ws : va_W} {r : zR} {avs : Array Value}
    (hr : va_Run p l e R s m args below meth c H locs cells slots mc ms (F0 m pc ls sv) rest (zQc cl D ads ws H.size r avs) (va_A ws H.size)) (hA : ∀ q, s.heap.size ≤ q → A q) (hS : va_S A s.heap H locs) (hD : va_D A ws)
    (kk : ∀ (rv : Option Value) (ads' : List Nat) (tys' : List (ClassId × FieldType)) (ws' : va_W) (H1 : Heap) (locs1 : List Loc), zRet ads' r.1 rv → zRep cl ads' tys' ws' r.2 → zpre ads ads' → va_K D cl tys' s → va_P D cl ws' H1 → va_D A ws' → va_S A s.heap H1 locs1 → W p l e R s m args below meth c H1 locs1 (cells + mc) (slots + ms) Q (F0 m (pc + 3) ls (rv.toList ++ rest))) : W p l e R s m args below meth c H locs cells slots Q (F0 m pc ls sv) := by
  intro T hT X
  obtain ⟨v, st₀, t, T', L, h0, X', hL, e1, e2, ⟨⟨rv, ads', tys', ws', hv, hrv, hR, hp, hP, hK, hD1⟩, hz, hk⟩, st⟩ := hr T hT X
  cases hv
  rw [h0] at hz hk
  have hf : ∀ q, va_A ws H.size q → A q := fun q hq => by
    rcases hq with ⟨k, ee, hq⟩ | hq
    · exact hD.2 k _ hq
    · exact hA q (Nat.le_trans hS.1 hq)
  obtain ⟨t2, a1, b1⟩ := kk v ads' tys' ws' T'.heap (locs ++ L) hrv hR hp (hK.moved (by rw [← e2]; exact X'.warmed.alike.symm)) (by rw [e1]; exact hP) (hD1.weaken (fun k q _ h => hf q.1 h))
    ⟨Nat.le_trans hS.1 (by rw [e1]; exact hz), fun q h1 h2 => by rw [e1, hk q (Nat.lt_of_lt_of_le h1 hS.1) (fun z => h2 (hf q z))]; exact hS.2.1 q h1 h2, fun q hq => by
      rcases List.mem_append.mp hq with h | h
      · exact hS.2.2 q h
      · exact hf _ (hL q h)⟩ T' rfl X'
  exact ⟨t2, st t2 a1, b1⟩
/-- what comes behind a call -/
theorem zY_sim {mt : Nat → Option zM} {pc : Nat} {t : Nat} {o : Option zR} {L : zL} {st : List zV} {h : zH} {k : zL → List zV → zH → Option zR} {res : zR}
    (hk : ∀ L' st' h', k L' st' h' = some res → zSim p l e R s m args below meth c Q nL D cl A ads0 n0 z0 (pc + 3) L' st' h') (q : zY t o L st k = some res) :
    ∃ r1, o = some r1 ∧ (∃ st', k L st' r1.2 = some res) ∧ ∀ (ls : Array Slot) (rest : List Value) (rv : Option Value) (H : Heap) (locs : List Loc) (cells slots : Nat) (ads : List Nat) (tys : List (ClassId × FieldType)) (ws : va_W), zRet ads r1.1 rv → zLo ads nL L ls → zSt ads st rest → zRep cl ads tys ws r1.2 → zpre ads0 ads → va_K D cl tys s → va_P D cl ws H → va_D A ws → va_S A s.heap H locs → cells + n0 = r1.2.length → slots + z0 = zsz r1.2 → W p l e R s m args below meth c H locs cells slots Q (F0 m (pc + 3) ls (rv.toList ++ rest)) := by
  cases o with
  | none => rcases t with _ | _ | _ | _ | t <;> cases q
  | some r1 =>
    obtain ⟨v, h1⟩ := r1
    refine ⟨(v, h1), rfl, ?_⟩
    rcases t with _ | _ | _ | _ | t <;> rcases v with _ | v | v | v <;> simp only [zY, zcv, zci, zcl, zcr] at q <;> first
      | (cases q; done)
      | (refine ⟨⟨_, q⟩, fun ls rest rv H locs cells slots ads tys ws hrv hL hst hR hpre hK hP hD hS hn hz => ?_⟩
         cases hrv
         exact hk _ _ _ q _ _ _ _ _ _ _ _ _ hL hst hR hpre hK hP hD hS hn hz)
      | (refine ⟨⟨_, q⟩, fun ls rest rv H locs cells slots ads tys ws hrv hL hst hR hpre hK hP hD hS hn hz => ?_⟩
         obtain ⟨V, rfl, hV⟩ := hrv
         exact hk _ _ _ q _ _ _ _ _ _ _ _ _ hL ⟨hV, hst⟩ hR hpre hK hP hD hS hn hz)
end ZRUN
