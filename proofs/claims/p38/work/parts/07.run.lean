/-! ===== a whole reading is a run of the machine ===== -/
abbrev zM : Type := MethodName × ByteArray × Nat × Option FieldType × Nat × Nat
/-- words that a contract hands on beside the good ones: links of nest mates, arrays over a class -/
def zbad (w : Cond) : Prop := (∃ a i x h, w = .methodLinkNest a i x h) ∨ ∃ C, w = .arrayOver (.object C)
theorem zbad_warm {w : Cond} (h : zbad w) {s U : State} (hW : s.WarmedH U.vm) (hZ : va_Nw w s) : va_Nw w U := by
  rcases h with ⟨a, i, x, h, rfl⟩ | ⟨C, rfl⟩
  · exact va_Nw.warmM hW hZ
  · exact va_AO.moved hW.alike hZ
theorem zbad_same {w : Cond} (h : zbad w) {u U : State} (hvm : u.vm = U.vm) (hZ : va_Nw w u) : va_Nw w U := by
  rcases h with ⟨a, i, x, h, rfl⟩ | ⟨C, rfl⟩
  · exact va_Nw.same rfl hvm hZ
  · exact va_AO.moved (by rw [hvm]; exact Vm.Alike.refl _) hZ
theorem zbad_of {w : Cond} (h : zbad w) {args : Array Value} {s : State} (hZ : w.before args s = true) : va_Nw w s := by
  rcases h with ⟨a, i, x, h, rfl⟩ | ⟨C, rfl⟩
  · exact va_Nw.of rfl hZ
  · exact va_AO.of hZ
theorem zbad_use {w : Cond} (h : zbad w) {args : Array Value} {s : State} (hZ : va_Nw w s) : w.before args s = true := by
  rcases h with ⟨a, i, x, h, rfl⟩ | ⟨C, rfl⟩
  · exact va_Nw.use rfl hZ
  · exact va_AO.use hZ
def zTk (Ts : List Cond) : Prop := ∀ w ∈ Ts, goodWord w = true ∨ zbad w
/-- what is returned -/
def zRet (ads : List Nat) : Option zV → Option Value → Prop
  | none, rv => rv = none
  | some v, rv => ∃ V, rv = some V ∧ zcR ads v V
def zRI (I : Instr) (rt : Option FieldType) (rv : Option Value) : Prop :=
  (I = .ireturn ∧ ∃ v, rv = some (.int v) ∧ (rt = some .int ∨ (rt = some .boolean ∧ (v = 0 ∨ v = 1)))) ∨
  (I = .lreturn ∧ rt = some .long ∧ ∃ v, rv = some (.long v)) ∨
  (I = .areturn ∧ ∃ V, rv = some V ∧ (V = .null ∨ ∃ a, V = .ref a) ∧ ∃ t, rt = some t ∧ ((∃ n, t = .object n) ∨ ∃ t2, t = .array t2)) ∨
  (I = .return_ ∧ rt = none ∧ rv = none)
def zMth (Ts : List Cond) (own : String) (i : Nat) (y : MethodName) (cd : ByteArray) : Prop := Cond.methodLink own i y ∈ Ts ∧ Cond.static y ∈ Ts ∧ Cond.initialized "java/lang/Math" ∈ Ts ∧ Cond.code y cd 2 (some .int) ∈ Ts
/-- what the tables say of a call -/
def zCal (mt : Nat → Option zM) (Ts : List Cond) (fr lo : Nat) (q n mx : Nat) (y : MethodName) (rt : Option FieldType) : Prop := ∃ by' f2 l2, q ≠ 0 ∧ mt q = some (y, by', mx, rt, f2, l2) ∧ f2 + 1 ≤ fr ∧ 8 + (mx + 11) + l2 ≤ lo ∧ (parseMethodDescriptor y.desc).map (fun d => d.parameters.length) = some n
def zIOK (mt : Nat → Option zM) (cl : List vw_C) (Ts : List Cond) (own : String) (ctor : Bool) (nL : Nat) (rt : Option FieldType) (fr lo : Nat) (cc : ByteArray) (pc : Nat) (I : Instr) (x : List Nat) (c : Int) : Prop := match I with
  | .nop => ∃ mm, x = pc :: mm
  | .goto off => decode cc pc = .ok (.goto off, 3) ∧ ∃ t mm, x = t :: mm ∧ (pc : Int) + off = (t : Int)
  | .ifCond cd off => decode cc pc = .ok (.ifCond cd off, 3) ∧ ∃ t mm, x = t :: mm ∧ (pc : Int) + off = (t : Int)
  | .if_icmp cd off => decode cc pc = .ok (.if_icmp cd off, 3) ∧ ∃ t mm, x = t :: mm ∧ (pc : Int) + off = (t : Int)
  | .ifnull off => decode cc pc = .ok (.ifnull off, 3) ∧ ∃ t mm, x = t :: mm ∧ (pc : Int) + off = (t : Int)
  | .ifnonnull off => decode cc pc = .ok (.ifnonnull off, 3) ∧ ∃ t mm, x = t :: mm ∧ (pc : Int) + off = (t : Int)
  | .tableswitch d lo hi offs => ∃ len, decode cc pc = .ok (.tableswitch d lo hi offs, len) ∧ ∃ n dt rest, x = n :: dt :: rest ∧ (pc : Int) + d = (dt : Int) ∧ ∀ (j t : Nat), (rest.drop n)[j]? = some t → ∃ off, offs[j]? = some off ∧ (pc : Int) + off = (t : Int)
  | .ireturn => decode cc pc = .ok (.ireturn, 1) ∧ ((x = [0] ∧ rt = some .int) ∨ (x = [1] ∧ rt = some .boolean))
  | .lreturn => decode cc pc = .ok (.lreturn, 1) ∧ rt = some .long
  | .areturn => decode cc pc = .ok (.areturn, 1) ∧ ∃ t, rt = some t ∧ ((∃ n, t = .object n) ∨ ∃ t2, t = .array t2)
  | .return_ => decode cc pc = .ok (.return_, 1) ∧ rt = none
  | .invokevirtual i => decode cc pc = .ok (.invokevirtual i, 3) ∧ ∃ q n t mx ci y r2 T N, x = [q, n + 1, t, mx, ci] ∧ zCal mt Ts fr lo q n mx y r2 ∧ cl[ci]? = some (y.cls, T, N) ∧ Cond.methodLink own i y ∈ Ts ∧ Cond.instanceMethod y ∈ Ts ∧ Cond.selects y.cls y y ∈ Ts
  | .invokestatic i => decode cc pc = .ok (.invokestatic i, 3) ∧ ((x = [0] ∧ zMth Ts own i Lib.Math.max.name Lib.Math.max.code ∧ 1 ≤ fr ∧ 21 ≤ lo) ∨ (x = [1] ∧ zMth Ts own i Lib.Math.min.name Lib.Math.min.code ∧ 1 ≤ fr ∧ 21 ≤ lo) ∨ ∃ q n t mx y r2, x = [q, n, t, mx] ∧ zCal mt Ts fr lo q n mx y r2 ∧ (Cond.methodLink own i y ∈ Ts ∨ ∃ host, Cond.methodLinkNest own i y host ∈ Ts) ∧ Cond.static y ∈ Ts)
  | .invokespecial i => decode cc pc = .ok (.invokespecial i, 3) ∧ ((x = [] ∧ Cond.methodLink own i Lib.objectInit ∈ Ts ∧ Cond.instanceMethod Lib.objectInit ∈ Ts ∧ Cond.code Lib.objectInit ⟨#[0xb1]⟩ 1 none ∈ Ts ∧ 1 ≤ fr ∧ 20 ≤ lo) ∨ (∃ q n t mx ci y T N, x = [q, n + 1, t, mx, ci] ∧ zCal mt Ts fr lo q n mx y none ∧ cl[ci]? = some (y.cls, T, N) ∧ (Cond.methodLink own i y ∈ Ts ∨ ∃ host, Cond.methodLinkNest own i y host ∈ Ts) ∧ Cond.instanceMethod y ∈ Ts ∧ y.name = "<init>"))
  | I => zOK cl Ts own ctor nL cc pc I x c
def zBK (mt : Nat → Option zM) (cl : List vw_C) (Ts : List Cond) (own : String) (ctor : Bool) (nL : Nat) (rt : Option FieldType) (fr lo : Nat) (cc : ByteArray) : Nat → List zE → Prop
  | _, [] => True
  | pc, (I, x, c) :: t => zIOK mt cl Ts own ctor nL rt fr lo cc pc I x c ∧ zBK mt cl Ts own ctor nL rt fr lo cc (pc + zlen I) t
def zProg (mt : Nat → Option zM) (B : Nat → Nat → Option (List zE)) (cl : List vw_C) (Ts : List Cond) : Prop := zTk Ts ∧ zCl cl Ts ∧ ∀ (M : Nat) (y : MethodName) (by' : ByteArray) (mL : Nat) (rt : Option FieldType) (fr lo : Nat), mt M = some (y, by', mL, rt, fr, lo) → (y.cls ≠ "java/lang/invoke/MethodHandle" ∧ y.cls ≠ "java/lang/invoke/VarHandle") ∧ plainName y.cls = true ∧ (M ≠ 0 → Cond.code y by' mL rt ∈ Ts ∧ Cond.initialized y.cls ∈ Ts) ∧ ∀ (pc : Nat) (b : List zE), B M pc = some b → zBK mt cl Ts y.cls (y.name == "<init>") mL rt fr lo by' pc b
/-- a method's contract, out of a reading -/
def zPc (Ts : List Cond) (cl : List vw_C) (D : va_G) (xs : List Int) (b : Nat) (tys : List (ClassId × FieldType)) (ws : va_W) (sz : Nat) (avs : List Value) : Array Value → State → Prop := va_Pc avs (fun U => U.heap.size = sz ∧ va_P D cl ws U.heap ∧ va_K D cl tys U ∧ va_D (fun _ => True) ws ∧ va_X b xs.length (zxf xs) U U.heap ∧ b < sz ∧ ¬ va_A ws sz b ∧ ∀ w ∈ Ts, zbad w → va_Nw w U)
def zQc (cl : List vw_C) (D : va_G) (ads : List Nat) (ws : va_W) (sz : Nat) (r : zR) : Array Value → State → Outcome → State → Prop := fun _ st oc t =>
  (∃ rv ads' tys' ws', oc = .returned rv ∧ zRet ads' r.1 rv ∧ zRep cl ads' tys' ws' r.2 ∧ zpre ads ads' ∧ va_P D cl ws' t.heap ∧ va_K D cl tys' t ∧ va_D (va_A ws sz) ws') ∧ va_F (va_A ws sz) st t
def zMet (l : Launch) (cl : List vw_C) (Ts : List Cond) (xs : List Int) (y : MethodName) (by' : ByteArray) (mL : Nat) (rt : Option FieldType) (fr lo : Nat) (vs : List zV) (h : zH) (r : zR) : Prop :=
  ∀ (D : va_G) (ads : List Nat) (b : Nat) (tys : List (ClassId × FieldType)) (ws : va_W) (sz : Nat) (avs : List Value), ads[0]? = some b → zRep cl ads tys ws h → zSt ads vs avs → (zargs vs).length ≤ mL →
    Met l y (Cond.code y by' mL rt :: Ts.filter goodWord) { frames := fr, cells := r.2.length - h.length, slots := zsz r.2 - zsz h, locals := lo } (zPc Ts cl D xs b tys ws sz avs) (zQc cl D ads ws sz r) (r.2.length - h.length) (zsz r.2 - zsz h) (va_A ws sz)
theorem zPc_blind {Ts : List Cond} {cl : List vw_C} {D : va_G} {xs : List Int} {b : Nat} {tys : List (ClassId × FieldType)} {ws : va_W} {sz : Nat} {avs : List Value} : FrameBlind (zPc Ts cl D xs b tys ws sz avs) := by
  rintro a U g mk ⟨h1, h2, h3, h4, h5, h6, h7, h8, h9⟩
  exact ⟨h1, h2, h3, va_K.moved (u := U) (U := U.calling g mk a) (Vm.Alike.refl U.vm) h4, h5, va_X.moved (u := U) (U := U.calling g mk a) (Vm.Alike.refl U.vm) h6, h7, h8, fun w hw hb => zbad_same (u := U) (U := U.calling g mk a) hb rfl (h9 w hw hb)⟩
section ZRUN
variable {p : Program} {l : Launch} {e : Env} {R : Room} {s : State} {m : MethodId} {args : Array Value} {below : List Frame} {meth : Method} {c : Code} {Q : State → Prop}
variable {cc : ByteArray} {nL : Nat} {own : String} {D : va_G} {cl : List vw_C} {A : Nat → Prop} {xs : List Int} {ads0 : List Nat} {n0 z0 : Nat} {Ts : List Cond} {ctor : Bool} {rt0 : Option FieldType}
theorem zAfter {H : Heap} {locs : List Loc} {cells slots mc ms : Nat} {pc : Nat} {ls : Array Slot} {sv rest : List Value} {ads : List Nat} {ws : va_W} {r : zR} {avs : Array Value}
    (hr : va_Run p l e R s m args below meth c H locs cells slots mc ms (F0 m pc ls sv) rest (zQc cl D ads ws H.size r avs) (va_A ws H.size)) (hA : ∀ q, s.heap.size ≤ q → A q) (hS : va_S A s.heap H locs) (hD : va_D A ws)
    (kk : ∀ (rv : Option Value) (ads' : List Nat) (tys' : List (ClassId × FieldType)) (ws' : va_W) (H1 : Heap) (locs1 : List Loc), zRet ads' r.1 rv → zRep cl ads' tys' ws' r.2 → zpre ads ads' → va_K D cl tys' s → va_P D cl ws' H1 → va_D A ws' → va_S A s.heap H1 locs1 → W p l e R s m args below meth c H1 locs1 (cells + mc) (slots + ms) Q (F0 m (pc + 3) ls (rv.toList ++ rest))) : W p l e R s m args below meth c H locs cells slots Q (F0 m pc ls sv) := by
  intro T hT X
  obtain ⟨v, st₀, t, T', L, h0, X', hL, e1, e2, ⟨⟨rv, ads', tys', ws', hv, hrv, hR, hp, hP, hK, hD1⟩, hz, hk⟩, st⟩ := hr T hT X
  cases hv
  rw [h0] at hz hk
  have hf : ∀ q, va_A ws H.size q → A q := fun q hq => by
    rcases hq with ⟨k, ee, hq⟩ | hq
    · exact hD.2 k _ hq
    · exact hA q (Nat.le_trans hS.1 hq)
  obtain ⟨t2, a1, b1⟩ := kk v ads' tys' ws' T'.heap (locs ++ L) hrv hR hp (hK.moved (by rw [← e2]; exact X'.warmed.alike.symm)) (by rw [e1]; exact hP) (hD1.weaken (fun k q _ h => hf q.1 h))
    ⟨Nat.le_trans hS.1 (by rw [e1]; exact hz), fun q h1 h2 => by rw [e1, hk q (Nat.lt_of_lt_of_le h1 hS.1) (fun z => h2 (hf q z))]; exact hS.2.1 q h1 h2, fun q hq => by
      rcases List.mem_append.mp hq with h | h
      · exact hS.2.2 q h
      · exact hf _ (hL q h)⟩ T' rfl X'
  exact ⟨t2, st t2 a1, b1⟩
/-- what comes behind a call -/
theorem zY_sim {pc : Nat} {t : Nat} {o : Option zR} {L : zL} {st : List zV} {k : zL → List zV → zH → Option zR} {res : zR}
    (hk : ∀ L' st' h', k L' st' h' = some res → zSim p l e R s m args below meth c Q nL D cl A ads0 n0 z0 (pc + 3) L' st' h') (q : zY t o L st k = some res) :
    ∃ r1, o = some r1 ∧ (∃ st', k L st' r1.2 = some res) ∧ ∀ (ls : Array Slot) (rest : List Value) (rv : Option Value) (H : Heap) (locs : List Loc) (cells slots : Nat) (ads : List Nat) (tys : List (ClassId × FieldType)) (ws : va_W), zRet ads r1.1 rv → zLo ads nL L ls → zSt ads st rest → zRep cl ads tys ws r1.2 → zpre ads0 ads → va_K D cl tys s → va_P D cl ws H → va_D A ws → va_S A s.heap H locs → cells + n0 = r1.2.length → slots + z0 = zsz r1.2 → W p l e R s m args below meth c H locs cells slots Q (F0 m (pc + 3) ls (rv.toList ++ rest)) := by
  cases o with
  | none => rcases t with _ | _ | _ | _ | t <;> cases q
  | some r1 =>
    obtain ⟨v, h1⟩ := r1
    refine ⟨(v, h1), rfl, ?_⟩
    rcases t with _ | _ | _ | _ | t <;> rcases v with _ | v | v | v <;> simp only [zY, zcv, zci, zcl, zcr] at q <;> first
      | (cases q; done)
      | (refine ⟨⟨_, q⟩, fun ls rest rv H locs cells slots ads tys ws hrv hL hst hR hpre hK hP hD hS hn hz => ?_⟩
         cases hrv
         exact hk _ _ _ q _ _ _ _ _ _ _ _ _ hL hst hR hpre hK hP hD hS hn hz)
      | (refine ⟨⟨_, q⟩, fun ls rest rv H locs cells slots ads tys ws hrv hL hst hR hpre hK hP hD hS hn hz => ?_⟩
         obtain ⟨V, rfl, hV⟩ := hrv
         exact hk _ _ _ q _ _ _ _ _ _ _ _ _ hL ⟨hV, hst⟩ hR hpre hK hP hD hS hn hz)
/-- where a method ends -/
def zFin (p : Program) (l : Launch) (e : Env) (R : Room) (s : State) (m : MethodId) (args : Array Value) (below : List Frame) (meth : Method) (c : Code) (Q : State → Prop) (cc : ByteArray) (rt : Option FieldType) (D : va_G) (cl : List vw_C) (A : Nat → Prop) (ads0 : List Nat) (n0 z0 : Nat) (res : zR) : Prop :=
  ∀ (pc : Nat) (I : Instr) (ls : Array Slot) (rv : Option Value) (H : Heap) (locs : List Loc) (cells slots : Nat) (ads : List Nat) (tys : List (ClassId × FieldType)) (ws : va_W), decode cc pc = .ok (I, 1) → zRI I rt rv → zRet ads res.1 rv → zRep cl ads tys ws res.2 → zpre ads0 ads → va_K D cl tys s → va_P D cl ws H → va_D A ws → va_S A s.heap H locs → cells + n0 = res.2.length → slots + z0 = zsz res.2 → W p l e R s m args below meth c H locs cells slots Q (F0 m pc ls rv.toList)
theorem zPre_of {H : Heap} {locs : List Loc} {tys : List (ClassId × FieldType)} {ws : va_W} {b : Nat} {avs : List Value} (hts : ∀ w ∈ Ts, w.before args s = true) (hX : va_X b xs.length (zxf xs) s s.heap) (hbl : b < s.heap.size) (hbA : ¬ A b) (hA : ∀ q, s.heap.size ≤ q → A q) (hK : va_K D cl tys s) (hP : va_P D cl ws H) (hD : va_D A ws) (hS : va_S A s.heap H locs) (U : State) (hU : U.heap = H) (hW : s.WarmedH U.vm) : zPc Ts cl D xs b tys ws H.size avs avs.toArray U := by
  refine ⟨rfl, by rw [hU], by rw [hU]; exact hP, va_K.moved hW.alike hK, hD.weaken (fun _ _ _ _ => trivial), ?_, Nat.lt_of_lt_of_le hbl hS.1, ?_, fun w hw hb => zbad_warm hb hW (zbad_of hb (hts w hw))⟩
  · rw [hU]
    exact va_X.moved hW.alike (hX.kept (hS.2.1 b hbl hbA))
  · rintro (⟨k, ee, hq⟩ | hq)
    · exact hbA (hD.2 k _ hq)
    · exact absurd (Nat.lt_of_lt_of_le hbl hS.1) (by omega)
theorem zck_some {h : zH} {rr : Option Nat} {ci : Nat} {o : Option zR} {res : zR} (q : zck h rr ci o = some res) : ∃ p c, rr = some (p + 1) ∧ h[p]? = some c ∧ c.1 = ci ∧ o = some res := by
  rcases rr with _ | _ | p
  · cases q
  · cases q
  · unfold zck at q
    dsimp only at q
    cases hc : h[p]? with
    | none => rw [hc] at q; cases q
    | some c =>
      rw [hc] at q
      dsimp only at q
      split at q
      next he => exact ⟨p, c, rfl, hc, he, q⟩
      next => cases q
/-- the receiver under a call's arguments -/
theorem zRecv {ads : List Nat} {tys : List (ClassId × FieldType)} {ws : va_W} {st : List zV} {sv : List Value} {h : zH} {n p' : Nat} {c' : Nat × List zV} (hst : zSt ads st sv) (c1 : n + 1 ≤ st.length) (hR : zRep cl ads tys ws h) (e1 : zrcv (st.take (n + 1)).reverse = some (p' + 1)) (e2 : h[p']? = some c') (ht : c'.1 < 100) :
    ∃ a As fs, ads[p' + 1]? = some a ∧ zSt ads (st.take (n + 1)).reverse (.ref a :: As) ∧ zSt ads (st.drop (n + 1)) (sv.drop (n + 1)) ∧ sv = As.reverse ++ .ref a :: sv.drop (n + 1) ∧ As.length = n ∧ ws[p']? = some (a, .inr (c'.1, fs)) := by
  have hst1 : zSt ads (st.take (n + 1)).reverse (sv.take (n + 1)).reverse := zSt_rev (zSt_take (n + 1) hst).1
  have hst2 := (zSt_take (n + 1) hst).2
  have hlen : (sv.take (n + 1)).reverse.length = n + 1 := by rw [List.length_reverse, List.length_take, zSt_len hst]; omega
  have hsv : sv = (sv.take (n + 1)).reverse.reverse ++ sv.drop (n + 1) := by rw [List.reverse_reverse, List.take_append_drop]
  generalize (st.take (n + 1)).reverse = vs at hst1 e1 ⊢
  generalize (sv.take (n + 1)).reverse = avs at hst1 hlen hsv
  rcases vs with _ | ⟨v, vs⟩
  · cases e1
  rcases avs with _ | ⟨V, As⟩
  · exact hst1.elim
  rcases v with v | v | v
  · cases e1
  · cases e1
  · cases e1
    obtain ⟨⟨a, ha, rfl⟩, h2⟩ := hst1
    obtain ⟨fs, he, -⟩ := zRep_obj hR e2 ht ha
    refine ⟨a, As, fs, ha, ⟨⟨a, ha, rfl⟩, h2⟩, hst2, ?_, by simpa using hlen, he⟩
    rw [List.reverse_cons, List.append_assoc] at hsv
    exact hsv
theorem zX_sim {mt : Nat → Option zM} {rec : Nat → Nat → zL → List zV → zH → Option zR} {fr lo : Nat} (hG : zTk Ts) (hMt : ∀ (q : Nat) (y : MethodName) (by' : ByteArray) (mL : Nat) (rt : Option FieldType) (fr lo : Nat), q ≠ 0 → mt q = some (y, by', mL, rt, fr, lo) → (y.cls ≠ "java/lang/invoke/MethodHandle" ∧ y.cls ≠ "java/lang/invoke/VarHandle") ∧ Cond.code y by' mL rt ∈ Ts ∧ Cond.initialized y.cls ∈ Ts)
    (hMet : ∀ (q : Nat) (y : MethodName) (by' : ByteArray) (mL : Nat) (rt : Option FieldType) (fr lo : Nat) (vs : List zV) (h : zH) (r : zR), mt q = some (y, by', mL, rt, fr, lo) → rec q 0 (zargs vs) [] h = some r → zMet l cl Ts xs y by' mL rt fr lo vs h r)
    (hgr : ∀ m pc L st h r, rec m pc L st h = some r → zge h r.2)
    (C0 : zCtx p s m args meth c cc nL own ctor cl A xs ads0 Ts) (hfr : fr ≤ R.frames) (hlo : lo ≤ R.locals) {pc : Nat} {I : Instr} {x : List Nat} {cv : Int} {L : zL} {st : List zV} {h : zH} {k : zL → List zV → zH → Option zR} {res : zR} (ok : zIOK mt cl Ts own ctor nL rt0 fr lo cc pc I x cv)
    (hI : (∃ i, I = .invokevirtual i) ∨ (∃ i, I = .invokestatic i ∧ x ≠ [0] ∧ x ≠ [1]) ∨ ∃ i, I = .invokespecial i ∧ x ≠ [])
    (hk : ∀ L' st' h', k L' st' h' = some res → zSim p l e R s m args below meth c Q nL D cl A ads0 n0 z0 (pc + 3) L' st' h') (hr : ∀ L' st' h', k L' st' h' = some res → h'.length ≤ R.cells + n0 ∧ zsz h' ≤ R.slots + z0)
    (q : zX rec x L st h k = some res) : zSim p l e R s m args below meth c Q nL D cl A ads0 n0 z0 pc L st h := by
  intro ls sv H locs cells slots ads tys ws hL hst hR hpre hK hP hD hS hn hz
  obtain ⟨hx, hb, hml, hts, hown, hA, hcl, hct, b, hb0, hX, hbl, hbA⟩ := C0
  have hb1 := hpre _ _ hb0
  -- the callee's words
  have words : ∀ (y : MethodName) (by' : ByteArray) (mL : Nat) (rt : Option FieldType), Cond.code y by' mL rt ∈ Ts → GoodIn Ts (Cond.code y by' mL rt :: Ts.filter goodWord) := fun y by' mL rt hc w hw => by
    rcases List.mem_cons.mp hw with rfl | hw
    · refine ⟨hc, (hG _ hc).elim good_of_word (fun hb => ?_)⟩
      rcases hb with ⟨a, i, x, h, hb⟩ | ⟨C, hb⟩ <;> cases hb
    · obtain ⟨h1, h2⟩ := List.mem_filter.mp hw
      exact ⟨h1, good_of_word h2⟩
  -- the run of a callee, and what comes behind it
  have go : ∀ (qm n t mx : Nat) (y : MethodName) (rt : Option FieldType) (rest : List Value) (avs : List Value), zSt ads (st.drop n) rest → zSt ads (st.take n).reverse avs → (zargs (st.take n).reverse).length ≤ mx →
      (∀ (by' : ByteArray) (f2 l2 : Nat) (r1 : zR), mt qm = some (y, by', mx, rt, f2, l2) → r1.2.length ≤ R.cells + n0 → zsz r1.2 ≤ R.slots + z0 → zge h r1.2 → zMet l cl Ts xs y by' mx rt f2 l2 (st.take n).reverse h r1 → va_Run p l e R s m args below meth c H locs cells slots (r1.2.length - h.length) (zsz r1.2 - zsz h) (F0 m pc ls sv) rest (zQc cl D ads ws H.size r1 avs.toArray) (va_A ws H.size)) →
      (∃ by' f2 l2, mt qm = some (y, by', mx, rt, f2, l2)) → zY t (rec qm 0 (zargs (st.take n).reverse) [] h) L (st.drop n) k = some res → W p l e R s m args below meth c H locs cells slots Q (F0 m pc ls sv) := by
    intro qm n t mx y rt rest avs hrest havs hlen run ⟨by', f2, l2, hm⟩ qy
    obtain ⟨r1, h1, ⟨st', h2⟩, h3⟩ := zY_sim hk qy
    obtain ⟨g1, g2⟩ := hr _ _ _ h2
    have hge := hgr _ _ _ _ _ _ h1
    have hM := hMet qm y by' mx rt f2 l2 (st.take n).reverse h r1 hm h1
    refine zAfter (run by' f2 l2 r1 hm g1 g2 hge hM) hA hS hD (fun rv ads' tys' ws' H1 locs1 hrv hR1 hp1 hK1 hP1 hD1 hS1 => ?_)
    exact h3 ls rest rv H1 locs1 _ _ ads' tys' ws' hrv (zLo_pre hp1 hL) (zSt_pre hp1 hrest) hR1 (zpre_tr hpre hp1) hK1 hP1 hD1 hS1 (by have := hge.1; omega) (by have := hge.2; omega)
  have cats : ∀ (n : Nat) (rest : List Value), zSt ads (st.drop n) rest → zcs (st.drop n) ≤ 8 → (rest.map fun v => v.category).sum ≤ 8 := fun n rest h1 h2 => by
    rw [zSt_cat h1]
    exact h2
  rcases hI with ⟨i, rfl⟩ | ⟨i, rfl, hx1, hx2⟩ | ⟨i, rfl, hx0⟩
  · obtain ⟨hd, qm, n, t, mx, ci, y, r2, T, N, rfl, ⟨by', f2, l2, hq0, hm, hf1, hl1, hnp⟩, hc, w1, w2, w3⟩ := ok
    obtain ⟨hy, hcode, hini⟩ := hMt qm y by' mx r2 f2 l2 hq0 hm
    simp only [zX] at q
    split at q
    next hcond =>
      obtain ⟨c1, c2, c3⟩ := hcond
      obtain ⟨p', c', e1, e2, e3, q⟩ := zck_some q
      obtain ⟨a, As, fs, ha, hst1, hst2, hsv, hAs, he⟩ := zRecv hst c1 hR e1 e2 (by rw [e3]; exact (hcl ci _ _ _ hc).2.2.2.2.2)
      rw [e3] at he
      refine go qm (n + 1) t mx y r2 (sv.drop (n + 1)) (.ref a :: As) hst2 hst1 c3 (fun by2 f3 l3 r1 hm2 g1 g2 hge hM => ?_) ⟨by', f2, l2, hm⟩ q
      cases hm.symm.trans hm2
      exact va_runV (As := As) (rest := sv.drop (n + 1)) ⟨hx, hb, hml, hown, hts⟩ (hM D ads b tys ws H.size (.ref a :: As) hb1 hR hst1 c3) (C := y.cls)
        ⟨callB_of n hts (words _ _ _ _ hcode) rfl rfl rfl (hts _ hini) (hts _ w1) ⟨hy.1, hy.2, hnp⟩ ⟨by show f2 + 1 ≤ _; omega, by show 8 + (mx + 11) + l2 ≤ _; omega⟩, hts _ w2, hts _ w3⟩
        ⟨zPc_blind, va_recv hK hP hc he, zPre_of hts hX hbl hbA hA hK hP hD hS⟩ rfl hAs hL.1 hsv (lv_room (cats _ _ hst2 c2)) hd ⟨by have := hge.1; omega, by have := hge.2; omega⟩
    next => cases q
  · obtain ⟨hd, ⟨hbad, -⟩ | ⟨hbad, -⟩ | ⟨qm, n, t, mx, y, r2, rfl, ⟨by', f2, l2, hq0, hm, hf1, hl1, hnp⟩, w1, w2⟩⟩ := ok
    · exact absurd hbad hx1
    · exact absurd hbad hx2
    obtain ⟨hy, hcode, hini⟩ := hMt qm y by' mx r2 f2 l2 hq0 hm
    simp only [zX] at q
    split at q
    next hcond =>
      obtain ⟨c1, c2, c3⟩ := hcond
      have hst1 : zSt ads (st.take n).reverse (sv.take n).reverse := zSt_rev (zSt_take n hst).1
      have hst2 := (zSt_take n hst).2
      have hAs : (sv.take n).reverse.length = n := by rw [List.length_reverse, List.length_take, zSt_len hst]; omega
      refine go qm n t mx y r2 (sv.drop n) (sv.take n).reverse hst2 hst1 c3 (fun by2 f3 l3 r1 hm2 g1 g2 hge hM => ?_) ⟨by', f2, l2, hm⟩ q
      cases hm.symm.trans hm2
      have hsv : sv = (sv.take n).reverse.reverse ++ sv.drop n := by rw [List.reverse_reverse, List.take_append_drop]
      rcases w1 with w1 | ⟨host, w1⟩
      · exact va_runS (As := (sv.take n).reverse) (rest := sv.drop n) ⟨hx, hb, hml, hown, hts⟩ (hM D ads b tys ws H.size _ hb1 hR hst1 c3)
          ⟨callB_of n hts (words _ _ _ _ hcode) rfl rfl rfl (hts _ hini) (hts _ w1) ⟨hy.1, hy.2, hnp⟩ ⟨by show f2 + 1 ≤ _; omega, by show 8 + (mx + 11) + l2 ≤ _; omega⟩, hts _ w2⟩
          ⟨zPc_blind, zPre_of hts hX hbl hbA hA hK hP hD hS⟩ rfl hAs hL.1 hsv (lv_room (cats _ _ hst2 c2)) hd ⟨by have := hge.1; omega, by have := hge.2; omega⟩
      · exact va_runSN (As := (sv.take n).reverse) (rest := sv.drop n) ⟨hx, hb, hml, hown, hts⟩ (hM D ads b tys ws H.size _ hb1 hR hst1 c3)
          ⟨va_cnB n hts (words _ _ _ _ hcode) rfl rfl rfl (va_Nw.of rfl (hts _ w1)) (hts _ hini) ⟨hy.1, hy.2, hnp⟩ ⟨by show f2 + 1 ≤ _; omega, by show 8 + (mx + 11) + l2 ≤ _; omega⟩, hts _ w2, trivial⟩
          ⟨zPc_blind, zPre_of hts hX hbl hbA hA hK hP hD hS⟩ rfl hAs hL.1 hsv (lv_room (cats _ _ hst2 c2)) hd ⟨by have := hge.1; omega, by have := hge.2; omega⟩
    next => cases q
  · obtain ⟨hd, ⟨hbad, -⟩ | ⟨qm, n, t, mx, ci, y, T, N, rfl, ⟨by', f2, l2, hq0, hm, hf1, hl1, hnp⟩, hc, w1, w2, w3⟩⟩ := ok
    · exact absurd hbad hx0
    obtain ⟨hy, hcode, hini⟩ := hMt qm y by' mx none f2 l2 hq0 hm
    simp only [zX] at q
    split at q
    next hcond =>
      obtain ⟨c1, c2, c3⟩ := hcond
      obtain ⟨p', c', e1, e2, e3, q⟩ := zck_some q
      obtain ⟨a, As, fs, ha, hst1, hst2, hsv, hAs, he⟩ := zRecv hst c1 hR e1 e2 (by rw [e3]; exact (hcl ci _ _ _ hc).2.2.2.2.2)
      refine go qm (n + 1) t mx y none (sv.drop (n + 1)) (.ref a :: As) hst2 hst1 c3 (fun by2 f3 l3 r1 hm2 g1 g2 hge hM => ?_) ⟨by', f2, l2, hm⟩ q
      cases hm.symm.trans hm2
      rcases w1 with w1 | ⟨host, w1⟩
      · exact va_runI (As := As) (rest := sv.drop (n + 1)) ⟨hx, hb, hml, hown, hts⟩ (hM D ads b tys ws H.size (.ref a :: As) hb1 hR hst1 c3)
          (cwI n hts (words _ _ _ _ hcode) rfl rfl rfl (hts _ hini) (hts _ w1) (hts _ w2) w3 ⟨hy.1, hy.2, hnp⟩ ⟨by show f2 + 1 ≤ _; omega, by show 8 + (mx + 11) + l2 ≤ _; omega⟩)
          ⟨zPc_blind, zPre_of hts hX hbl hbA hA hK hP hD hS⟩ rfl hAs hL.1 hsv (lv_room (cats _ _ hst2 c2)) hd ⟨by have := hge.1; omega, by have := hge.2; omega⟩
      · exact va_runIN (As := As) (rest := sv.drop (n + 1)) ⟨hx, hb, hml, hown, hts⟩ (hM D ads b tys ws H.size (.ref a :: As) hb1 hR hst1 c3)
          ⟨va_cnB n hts (words _ _ _ _ hcode) rfl rfl rfl (va_Nw.of rfl (hts _ w1)) (hts _ hini) ⟨hy.1, hy.2, hnp⟩ ⟨by show f2 + 1 ≤ _; omega, by show 8 + (mx + 11) + l2 ≤ _; omega⟩, w3, hts _ w2⟩
          ⟨zPc_blind, zPre_of hts hX hbl hbA hA hK hP hD hS⟩ rfl hAs hL.1 hsv (lv_room (cats _ _ hst2 c2)) hd ⟨by have := hge.1; omega, by have := hge.2; omega⟩
    next => cases q
theorem zJ_sim {rec : Nat → zL → List zV → zH → Option zR} {res : zR} (hJ : ∀ pc L st h, rec pc L st h = some res → zSim p l e R s m args below meth c Q nL D cl A ads0 n0 z0 pc L st h) {t : Nat} {mm : List Nat} {L : zL} {st : List zV} {h : zH} (q : zJ rec (t :: mm) L st h = some res) : zSim p l e R s m args below meth c Q nL D cl A ads0 n0 z0 t L st h := by
  intro ls sv H locs cells slots ads tys ws hL hst hR hpre hK hP hD hS hn hz
  exact hJ _ _ _ _ q _ _ _ _ _ _ _ _ _ (zLo_keep hL mm) hst hR hpre hK hP hD hS hn hz
theorem zI_sim {mt : Nat → Option zM} {rec : Nat → Nat → zL → List zV → zH → Option zR} {M fr lo : Nat} (hG : zTk Ts) (hMt : ∀ (q : Nat) (y : MethodName) (by' : ByteArray) (mL : Nat) (rt : Option FieldType) (fr lo : Nat), q ≠ 0 → mt q = some (y, by', mL, rt, fr, lo) → (y.cls ≠ "java/lang/invoke/MethodHandle" ∧ y.cls ≠ "java/lang/invoke/VarHandle") ∧ Cond.code y by' mL rt ∈ Ts ∧ Cond.initialized y.cls ∈ Ts)
    (hMet : ∀ (q : Nat) (y : MethodName) (by' : ByteArray) (mL : Nat) (rt : Option FieldType) (fr lo : Nat) (vs : List zV) (h : zH) (r : zR), mt q = some (y, by', mL, rt, fr, lo) → rec q 0 (zargs vs) [] h = some r → zMet l cl Ts xs y by' mL rt fr lo vs h r)
    (hgr : ∀ m pc L st h r, rec m pc L st h = some r → zge h r.2)
    (C0 : zCtx p s m args meth c cc nL own ctor cl A xs ads0 Ts) (hfr : fr ≤ R.frames) (hlo : lo ≤ R.locals) {res : zR} (hJ : ∀ pc L st h, rec M pc L st h = some res → zSim p l e R s m args below meth c Q nL D cl A ads0 n0 z0 pc L st h) (hF : zFin p l e R s m args below meth c Q cc rt0 D cl A ads0 n0 z0 res)
    {pc : Nat} {I : Instr} {x : List Nat} {cv : Int} {L : zL} {st : List zV} {h : zH} {k : zL → List zV → zH → Option zR} (ok : zIOK mt cl Ts own ctor nL rt0 fr lo cc pc I x cv)
    (hk : ∀ L' st' h', k L' st' h' = some res → zSim p l e R s m args below meth c Q nL D cl A ads0 n0 z0 (pc + zlen I) L' st' h') (hr : ∀ L' st' h', k L' st' h' = some res → h'.length ≤ R.cells + n0 ∧ zsz h' ≤ R.slots + z0)
    (q : zI xs rec M I x cv L st h k = some res) : zSim p l e R s m args below meth c Q nL D cl A ads0 n0 z0 pc L st h := by
  obtain ⟨J, hJ0⟩ : ∃ J, J = I := ⟨I, rfl⟩
  cases I
  case nop =>
    obtain ⟨mm, rfl⟩ := ok
    exact zJ_sim hJ q
  case goto off =>
    obtain ⟨hd, t, mm, rfl, ht⟩ := ok
    obtain ⟨hx, hb, -⟩ := C0
    intro ls sv H locs cells slots ads tys ws hL hst hR hpre hK hP hD hS hn hz
    exact lv_goto hx hb hd ht (zJ_sim hJ q _ _ _ _ _ _ _ _ _ hL hst hR hpre hK hP hD hS hn hz)
  case ifCond cnd off =>
    obtain ⟨hd, t, mm, rfl, ht⟩ := ok
    obtain ⟨hx, hb, -⟩ := C0
    intro ls sv H locs cells slots ads tys ws hL hst hR hpre hK hP hD hS hn hz
    cases cnd <;> rcases st with _ | ⟨a | a | a, st⟩ <;> first | (cases q; done) | skip
    all_goals
      obtain ⟨T1, rfl, hst1⟩ := zSt_i hst
      simp only [zI] at q
    · exact lv_if_eq hx hb hd ht (fun z => by rw [if_pos ((zw_eq0 a).mp z)] at q; exact zJ_sim hJ q _ _ _ _ _ _ _ _ _ hL hst1 hR hpre hK hP hD hS hn hz) (fun z => by rw [if_neg (fun z' => z ((zw_eq0 a).mpr z'))] at q; exact hk _ _ _ q _ _ _ _ _ _ _ _ _ hL hst1 hR hpre hK hP hD hS hn hz)
    · exact lv_if_ne hx hb hd ht (fun z => by rw [if_pos (fun z' => z ((zw_eq0 a).mpr z'))] at q; exact zJ_sim hJ q _ _ _ _ _ _ _ _ _ hL hst1 hR hpre hK hP hD hS hn hz) (fun z => by rw [if_neg (fun z' => z' ((zw_eq0 a).mp z))] at q; exact hk _ _ _ q _ _ _ _ _ _ _ _ _ hL hst1 hR hpre hK hP hD hS hn hz)
    · exact lv_if_lt hx hb hd ht (fun z => by rw [if_pos ((zw_lt0 a).mp z)] at q; exact zJ_sim hJ q _ _ _ _ _ _ _ _ _ hL hst1 hR hpre hK hP hD hS hn hz) (fun z => by rw [if_neg (fun z' => z ((zw_lt0 a).mpr z'))] at q; exact hk _ _ _ q _ _ _ _ _ _ _ _ _ hL hst1 hR hpre hK hP hD hS hn hz)
    · exact lv_if_ge hx hb hd ht (fun z => by rw [if_pos ((zw_ge0 a).mp z)] at q; exact zJ_sim hJ q _ _ _ _ _ _ _ _ _ hL hst1 hR hpre hK hP hD hS hn hz) (fun z => by rw [if_neg (fun z' => z ((zw_ge0 a).mpr z'))] at q; exact hk _ _ _ q _ _ _ _ _ _ _ _ _ hL hst1 hR hpre hK hP hD hS hn hz)
    · exact lv_if_gt hx hb hd ht (fun z => by rw [if_pos ((zw_gt0 a).mp z)] at q; exact zJ_sim hJ q _ _ _ _ _ _ _ _ _ hL hst1 hR hpre hK hP hD hS hn hz) (fun z => by rw [if_neg (fun z' => z ((zw_gt0 a).mpr z'))] at q; exact hk _ _ _ q _ _ _ _ _ _ _ _ _ hL hst1 hR hpre hK hP hD hS hn hz)
    · exact lv_if_le hx hb hd ht (fun z => by rw [if_pos ((zw_le0 a).mp z)] at q; exact zJ_sim hJ q _ _ _ _ _ _ _ _ _ hL hst1 hR hpre hK hP hD hS hn hz) (fun z => by rw [if_neg (fun z' => z ((zw_le0 a).mpr z'))] at q; exact hk _ _ _ q _ _ _ _ _ _ _ _ _ hL hst1 hR hpre hK hP hD hS hn hz)
  case if_icmp cnd off =>
    obtain ⟨hd, t, mm, rfl, ht⟩ := ok
    obtain ⟨hx, hb, -⟩ := C0
    intro ls sv H locs cells slots ads tys ws hL hst hR hpre hK hP hD hS hn hz
    cases cnd <;> rcases st with _ | ⟨b | b | b, _ | ⟨a | a | a, st⟩⟩ <;> first | (cases q; done) | skip
    all_goals
      obtain ⟨T1, rfl, hst1⟩ := zSt_i hst
      obtain ⟨T2, rfl, hst2⟩ := zSt_i hst1
      simp only [zI] at q
    · exact lv_icmp_eq hx hb hd ht (fun z => by rw [if_pos ((zw_eq a b).mp z)] at q; exact zJ_sim hJ q _ _ _ _ _ _ _ _ _ hL hst2 hR hpre hK hP hD hS hn hz) (fun z => by rw [if_neg (fun z' => z ((zw_eq a b).mpr z'))] at q; exact hk _ _ _ q _ _ _ _ _ _ _ _ _ hL hst2 hR hpre hK hP hD hS hn hz)
    · exact lv_icmp_ne hx hb hd ht (fun z => by rw [if_pos (fun z' => z ((zw_eq a b).mpr z'))] at q; exact zJ_sim hJ q _ _ _ _ _ _ _ _ _ hL hst2 hR hpre hK hP hD hS hn hz) (fun z => by rw [if_neg (fun z' => z' ((zw_eq a b).mp z))] at q; exact hk _ _ _ q _ _ _ _ _ _ _ _ _ hL hst2 hR hpre hK hP hD hS hn hz)
    · exact lv_icmp_lt hx hb hd ht (fun z => by rw [if_pos ((zw_lt a b).mp z)] at q; exact zJ_sim hJ q _ _ _ _ _ _ _ _ _ hL hst2 hR hpre hK hP hD hS hn hz) (fun z => by rw [if_neg (fun z' => z ((zw_lt a b).mpr z'))] at q; exact hk _ _ _ q _ _ _ _ _ _ _ _ _ hL hst2 hR hpre hK hP hD hS hn hz)
    · exact lv_icmp_ge hx hb hd ht (fun z => by rw [if_pos ((zw_le b a).mp z)] at q; exact zJ_sim hJ q _ _ _ _ _ _ _ _ _ hL hst2 hR hpre hK hP hD hS hn hz) (fun z => by rw [if_neg (fun z' => z ((zw_le b a).mpr z'))] at q; exact hk _ _ _ q _ _ _ _ _ _ _ _ _ hL hst2 hR hpre hK hP hD hS hn hz)
    · exact lv_icmp_gt hx hb hd ht (fun z => by rw [if_pos ((zw_lt b a).mp z)] at q; exact zJ_sim hJ q _ _ _ _ _ _ _ _ _ hL hst2 hR hpre hK hP hD hS hn hz) (fun z => by rw [if_neg (fun z' => z ((zw_lt b a).mpr z'))] at q; exact hk _ _ _ q _ _ _ _ _ _ _ _ _ hL hst2 hR hpre hK hP hD hS hn hz)
    · exact lv_icmp_le hx hb hd ht (fun z => by rw [if_pos ((zw_le a b).mp z)] at q; exact zJ_sim hJ q _ _ _ _ _ _ _ _ _ hL hst2 hR hpre hK hP hD hS hn hz) (fun z => by rw [if_neg (fun z' => z ((zw_le a b).mpr z'))] at q; exact hk _ _ _ q _ _ _ _ _ _ _ _ _ hL hst2 hR hpre hK hP hD hS hn hz)
  case ifnull off =>
    obtain ⟨hd, t, mm, rfl, ht⟩ := ok
    obtain ⟨hx, hb, -⟩ := C0
    intro ls sv H locs cells slots ads tys ws hL hst hR hpre hK hP hD hS hn hz
    rcases st with _ | ⟨a | a | (_ | a), st⟩ <;> first | (cases q; done) | skip
    · obtain ⟨V, T1, rfl, hV, hst1⟩ := zSt_r hst
      cases hV
      exact lv_ifnullN hx hb hd ht (zJ_sim hJ q _ _ _ _ _ _ _ _ _ hL hst1 hR hpre hK hP hD hS hn hz)
    · obtain ⟨V, T1, rfl, hV, hst1⟩ := zSt_r hst
      obtain ⟨a1, -, rfl⟩ := hV
      exact lv_ifnull hx hb hd (hk _ _ _ q _ _ _ _ _ _ _ _ _ hL hst1 hR hpre hK hP hD hS hn hz)
  case ifnonnull off =>
    obtain ⟨hd, t, mm, rfl, ht⟩ := ok
    obtain ⟨hx, hb, -⟩ := C0
    intro ls sv H locs cells slots ads tys ws hL hst hR hpre hK hP hD hS hn hz
    rcases st with _ | ⟨a | a | (_ | a), st⟩ <;> first | (cases q; done) | skip
    · obtain ⟨V, T1, rfl, hV, hst1⟩ := zSt_r hst
      cases hV
      exact lv_ifnonnullN hx hb hd (hk _ _ _ q _ _ _ _ _ _ _ _ _ hL hst1 hR hpre hK hP hD hS hn hz)
    · obtain ⟨V, T1, rfl, hV, hst1⟩ := zSt_r hst
      obtain ⟨a1, -, rfl⟩ := hV
      exact lv_ifnonnull hx hb hd ht (zJ_sim hJ q _ _ _ _ _ _ _ _ _ hL hst1 hR hpre hK hP hD hS hn hz)
  case tableswitch d2 lo2 hi2 offs =>
    obtain ⟨len, hd, n, dt, rest, rfl, hdt, htg⟩ := ok
    obtain ⟨hx, hb, -⟩ := C0
    intro ls sv H locs cells slots ads tys ws hL hst hR hpre hK hP hD hS hn hz
    rcases st with _ | ⟨a | a | a, st⟩ <;> first | (cases q; done) | skip
    obtain ⟨T1, rfl, hst1⟩ := zSt_i hst
    simp only [zI] at q
    split at q
    next hc => exact lv_tableOut hx hb hd (by rw [zw_toInt]; exact hc) hdt (hJ _ _ _ _ q _ _ _ _ _ _ _ _ _ (zLo_keep hL _) hst1 hR hpre hK hP hD hS hn hz)
    next hc =>
      cases htt : (rest.drop n)[(zw a - lo2).toNat]? with
      | none => rw [htt] at q; cases q
      | some t =>
        rw [htt] at q
        obtain ⟨off, ho1, ho2⟩ := htg _ _ htt
        exact lv_tableIn hx hb hd (by rw [zw_toInt]; omega) (by rw [zw_toInt]; omega) (by rw [zw_toInt]; exact ho1) ho2 (hJ _ _ _ _ q _ _ _ _ _ _ _ _ _ (zLo_keep hL _) hst1 hR hpre hK hP hD hS hn hz)
  case ireturn =>
    obtain ⟨hd, ⟨rfl, hrt⟩ | ⟨rfl, hrt⟩⟩ := ok
    · intro ls sv H locs cells slots ads tys ws hL hst hR hpre hK hP hD hS hn hz
      rcases st with _ | ⟨a | a | a, _ | ⟨b, st⟩⟩ <;> first | (cases q; done) | skip
      cases q
      obtain ⟨T1, rfl, hst1⟩ := zSt_i hst
      rcases T1 with _ | ⟨V, T1⟩
      · exact hF pc _ ls (some (.int (Int32.ofInt a))) H locs cells slots ads tys ws hd (Or.inl ⟨rfl, _, rfl, Or.inl hrt⟩) ⟨_, rfl, rfl⟩ hR hpre hK hP hD hS hn hz
      · exact hst1.elim
    · intro ls sv H locs cells slots ads tys ws hL hst hR hpre hK hP hD hS hn hz
      rcases st with _ | ⟨a | a | a, _ | ⟨b, st⟩⟩ <;> first | (cases q; done) | skip
      simp only [zI] at q
      split at q
      next h01 =>
        cases q
        obtain ⟨T1, rfl, hst1⟩ := zSt_i hst
        rcases T1 with _ | ⟨V, T1⟩
        · exact hF pc _ ls (some (.int (Int32.ofInt a))) H locs cells slots ads tys ws hd (Or.inl ⟨rfl, _, rfl, Or.inr ⟨hrt, by rcases h01 with rfl | rfl; exact Or.inl rfl; exact Or.inr rfl⟩⟩) ⟨_, rfl, rfl⟩ hR hpre hK hP hD hS hn hz
        · exact hst1.elim
      next => cases q
  case lreturn =>
    obtain ⟨hd, hrt⟩ := ok
    intro ls sv H locs cells slots ads tys ws hL hst hR hpre hK hP hD hS hn hz
    rcases st with _ | ⟨a | a | a, _ | ⟨b, st⟩⟩ <;> first | (cases q; done) | skip
    cases q
    obtain ⟨T1, rfl, hst1⟩ := zSt_l hst
    rcases T1 with _ | ⟨V, T1⟩
    · exact hF pc _ ls (some (.long (Int64.ofInt a))) H locs cells slots ads tys ws hd (Or.inr (Or.inl ⟨rfl, hrt, _, rfl⟩)) ⟨_, rfl, rfl⟩ hR hpre hK hP hD hS hn hz
    · exact hst1.elim
  case areturn =>
    obtain ⟨hd, t, hrt, hkt⟩ := ok
    intro ls sv H locs cells slots ads tys ws hL hst hR hpre hK hP hD hS hn hz
    rcases st with _ | ⟨a | a | a, _ | ⟨b, st⟩⟩ <;> first | (cases q; done) | skip
    cases q
    obtain ⟨V, T1, rfl, hV, hst1⟩ := zSt_r hst
    rcases T1 with _ | ⟨V2, T1⟩
    · refine hF pc _ ls (some V) H locs cells slots ads tys ws hd (Or.inr (Or.inr (Or.inl ⟨rfl, V, rfl, ?_, t, hrt, hkt⟩))) ⟨_, rfl, hV⟩ hR hpre hK hP hD hS hn hz
      rcases a with _ | a
      · exact Or.inl hV
      · obtain ⟨a1, -, h2⟩ := hV
        exact Or.inr ⟨a1, h2⟩
    · exact hst1.elim
  case return_ =>
    obtain ⟨hd, hrt⟩ := ok
    intro ls sv H locs cells slots ads tys ws hL hst hR hpre hK hP hD hS hn hz
    rcases st with _ | ⟨a, st⟩ <;> first | (cases q; done) | skip
    cases q
    rcases sv with _ | ⟨V, sv⟩
    · exact hF pc _ ls none H locs cells slots ads tys ws hd (Or.inr (Or.inr (Or.inr ⟨rfl, hrt, rfl⟩))) rfl hR hpre hK hP hD hS hn hz
    · exact hst.elim
  case invokevirtual i => exact zX_sim hG hMt hMet hgr C0 hfr hlo ok (Or.inl ⟨i, rfl⟩) hk hr q
  case invokestatic i =>
    have main : ∀ (a b : Int) (st' : List zV) (v : Int), st = .inl b :: .inl a :: st' → zcs st' ≤ 8 → k L (.inl v :: st') h = some res → 1 ≤ fr → 21 ≤ lo → (∀ (ls : Array Slot) (sv : List Value) (H : Heap) (locs : List Loc) (cells slots : Nat), ls.size = nL → (sv.map fun v => v.category).sum + 13 ≤ R.locals → 1 ≤ R.frames → cells ≤ R.cells → slots ≤ R.slots → W p l e R s m args below meth c H locs cells slots Q (F0 m (pc + 3) ls (.int (Int32.ofInt v) :: sv)) → W p l e R s m args below meth c H locs cells slots Q (F0 m pc ls (.int (Int32.ofInt b) :: .int (Int32.ofInt a) :: sv))) → zSim p l e R s m args below meth c Q nL D cl A ads0 n0 z0 pc L st h := by
      intro a b st' v hst0 hlen q' hf1 hl1 row ls sv H locs cells slots ads tys ws hL hst hR hpre hK hP hD hS hn hz
      subst hst0
      obtain ⟨T1, rfl, hst1⟩ := zSt_i hst
      obtain ⟨T2, rfl, hst2⟩ := zSt_i hst1
      obtain ⟨r1, r2⟩ := hr _ _ _ q'
      have hc := zSt_cat hst2
      exact row ls T2 H locs cells slots hL.1 (by omega) (by omega) (by omega) (by omega) (hk _ _ _ q' _ _ _ _ _ _ _ _ _ hL ⟨rfl, hst2⟩ hR hpre hK hP hD hS hn hz)
    by_cases hx1 : x = [0]
    · subst hx1
      obtain ⟨hd, ⟨-, ⟨w1, w2, w3, w4⟩, hf1, hl1⟩ | ⟨hbad, -⟩ | ⟨_, _, _, _, _, _, hbad, -⟩⟩ := ok
      · obtain ⟨hx, hb, hml, hts, hown, -⟩ := C0
        rcases st with _ | ⟨b | b | b, _ | ⟨a | a | a, st⟩⟩ <;> first | (cases q; done) | skip
        simp only [zI] at q
        split at q
        next hlen =>
          refine main a b st _ rfl hlen q hf1 hl1 (fun ls sv H locs cells slots z1 z2 z3 z4 z5 kk => va_mmax hx hb (by rw [hml]; exact z1.symm) hown (hts _ w1) (hts _ w2) (hts _ w3) (hts _ w4) z3 z2 z4 z5 hd ?_)
          by_cases hlt : zw a < zw b
          · rw [if_pos hlt] at kk
            rw [if_pos ((zw_lt a b).mpr hlt)]
            exact kk
          · rw [if_neg hlt] at kk
            rw [if_neg (fun z => hlt ((zw_lt a b).mp z))]
            exact kk
        next => cases q
      · cases hbad
      · cases hbad
    by_cases hx2 : x = [1]
    · subst hx2
      obtain ⟨hd, ⟨hbad, -⟩ | ⟨-, ⟨w1, w2, w3, w4⟩, hf1, hl1⟩ | ⟨_, _, _, _, _, _, hbad, -⟩⟩ := ok
      · cases hbad
      · obtain ⟨hx, hb, hml, hts, hown, -⟩ := C0
        rcases st with _ | ⟨b | b | b, _ | ⟨a | a | a, st⟩⟩ <;> first | (cases q; done) | skip
        simp only [zI] at q
        split at q
        next hlen =>
          refine main a b st _ rfl hlen q hf1 hl1 (fun ls sv H locs cells slots z1 z2 z3 z4 z5 kk => va_mmin hx hb (by rw [hml]; exact z1.symm) hown (hts _ w1) (hts _ w2) (hts _ w3) (hts _ w4) z3 z2 z4 z5 hd ?_)
          by_cases hlt : zw b < zw a
          · rw [if_pos hlt] at kk
            rw [if_pos ((zw_lt b a).mpr hlt)]
            exact kk
          · rw [if_neg hlt] at kk
            rw [if_neg (fun z => hlt ((zw_lt b a).mp z))]
            exact kk
        next => cases q
      · cases hbad
    have q' : zX rec x L st h k = some res := by
      rcases x with _ | ⟨_ | _ | t, _ | ⟨t2, x⟩⟩ <;> first | exact q | exact absurd rfl hx1 | exact absurd rfl hx2
    exact zX_sim hG hMt hMet hgr C0 hfr hlo ok (Or.inr (Or.inl ⟨i, rfl, hx1, hx2⟩)) hk hr q'
  case invokespecial i =>
    rcases x with _ | ⟨x1, x⟩
    · rcases st with _ | ⟨a | a | (_ | a), _ | ⟨b, st⟩⟩ <;> first | (cases q; done) | skip
      obtain ⟨hd, ⟨-, w1, w2, w3, hf1, hl1⟩ | ⟨_, _, _, _, _, _, _, _, hbad, -⟩⟩ := ok
      · obtain ⟨hx, hb, hml, hts, hown, -⟩ := C0
        intro ls sv H locs cells slots ads tys ws hL hst hR hpre hK hP hD hS hn hz
        obtain ⟨V, T1, rfl, hV, hst1⟩ := zSt_r hst
        obtain ⟨a1, -, rfl⟩ := hV
        rcases T1 with _ | ⟨V2, T1⟩
        · refine W.objInit hx hb hown (hts _ w1) (hts _ w2) (hts _ w3) rfl (by rw [hml]; exact hL.1) rfl hd (by omega) ?_ ?_
          · have := lv_room (m := m) (pc := pc) (ls := ls) (rest := [Value.ref a1]) (st := []) (by simp)
            simp only [List.map_nil, List.sum_nil] at this ⊢
            omega
          · exact hk _ _ _ q _ _ _ _ _ _ _ _ _ hL hst1 hR hpre hK hP hD hS hn hz
        · exact hst1.elim
      · cases hbad
    · exact zX_sim hG hMt hMet hgr C0 hfr hlo ok (Or.inr (Or.inr ⟨i, rfl, by simp⟩)) hk hr q
  all_goals exact zS_arith (x := x) (cv := cv) (L := L) (st := st) (h := h) (k := k) C0 ok hk hr q
end ZRUN
theorem zB_sim {p : Program} {l : Launch} {e : Env} {R : Room} {s : State} {m : MethodId} {args : Array Value} {below : List Frame} {meth : Method} {c : Code} {Q : State → Prop} {cc : ByteArray} {nL : Nat} {own : String} {D : va_G} {cl : List vw_C} {A : Nat → Prop} {xs : List Int} {ads0 : List Nat} {n0 z0 : Nat} {Ts : List Cond} {ctor : Bool} {rt0 : Option FieldType}
    {mt : Nat → Option zM} {rec : Nat → Nat → zL → List zV → zH → Option zR} {M fr lo : Nat} (hG : zTk Ts) (hMt : ∀ (q : Nat) (y : MethodName) (by' : ByteArray) (mL : Nat) (rt : Option FieldType) (fr lo : Nat), q ≠ 0 → mt q = some (y, by', mL, rt, fr, lo) → (y.cls ≠ "java/lang/invoke/MethodHandle" ∧ y.cls ≠ "java/lang/invoke/VarHandle") ∧ Cond.code y by' mL rt ∈ Ts ∧ Cond.initialized y.cls ∈ Ts)
    (hMet : ∀ (q : Nat) (y : MethodName) (by' : ByteArray) (mL : Nat) (rt : Option FieldType) (fr lo : Nat) (vs : List zV) (h : zH) (r : zR), mt q = some (y, by', mL, rt, fr, lo) → rec q 0 (zargs vs) [] h = some r → zMet l cl Ts xs y by' mL rt fr lo vs h r)
    (hgr : ∀ m pc L st h r, rec m pc L st h = some r → zge h r.2)
    (C0 : zCtx p s m args meth c cc nL own ctor cl A xs ads0 Ts) (hfr : fr ≤ R.frames) (hlo : lo ≤ R.locals) {res : zR} (hroom : res.2.length ≤ R.cells + n0 ∧ zsz res.2 ≤ R.slots + z0) (hJ : ∀ pc L st h, rec M pc L st h = some res → zSim p l e R s m args below meth c Q nL D cl A ads0 n0 z0 pc L st h) (hF : zFin p l e R s m args below meth c Q cc rt0 D cl A ads0 n0 z0 res) :
    ∀ (b : List zE) (pc : Nat) (L : zL) (st : List zV) (h : zH), zBK mt cl Ts own ctor nL rt0 fr lo cc pc b → zB xs rec M b L st h = some res → zSim p l e R s m args below meth c Q nL D cl A ads0 n0 z0 pc L st h
  | [], pc, L, st, h, _, q => by cases q
  | (I, x, cv) :: t, pc, L, st, h, ok, q => zI_sim hG hMt hMet hgr C0 hfr hlo hJ hF ok.1 (fun L' st' h' q' => zB_sim hG hMt hMet hgr C0 hfr hlo hroom hJ hF t _ L' st' h' ok.2 q') (fun L' st' h' q' => by
      have := zgrow_B xs rec hgr M res t L' st' h' q'
      exact ⟨Nat.le_trans this.1 hroom.1, Nat.le_trans this.2 hroom.2⟩) q
def zGood (mt : Nat → Option zM) (B : Nat → Nat → Option (List zE)) (cl : List vw_C) (Ts : List Cond) (xs : List Int) (n : Nat) : Prop := ∀ (M : Nat) (y : MethodName) (by' : ByteArray) (mL : Nat) (rt : Option FieldType) (fr lo : Nat), mt M = some (y, by', mL, rt, fr, lo) →
  ∀ (p : Program) (l : Launch) (e : Env) (R : Room) (s : State) (m : MethodId) (args : Array Value) (below : List Frame) (meth : Method) (c : Code) (Q : State → Prop) (D : va_G) (A : Nat → Prop) (ads0 : List Nat) (n0 z0 : Nat) (res : zR), zCtx p s m args meth c by' mL y.cls (y.name == "<init>") cl A xs ads0 Ts → fr ≤ R.frames → lo ≤ R.locals → zFin p l e R s m args below meth c Q by' rt D cl A ads0 n0 z0 res → (res.2.length ≤ R.cells + n0 ∧ zsz res.2 ≤ R.slots + z0) →
  ∀ (pc : Nat) (L : zL) (st : List zV) (h : zH), zrun B xs n M pc L st h = some res → zSim p l e R s m args below meth c Q mL D cl A ads0 n0 z0 pc L st h
theorem zargs_lg {ads : List Nat} : ∀ {vs : List zV} {avs : List Value}, zSt ads vs avs → (lg_sl avs).length = (zargs vs).length
  | [], [], _ => rfl
  | .inl x :: t, V :: T, h => by
    have h1 := zargs_lg h.2
    have h2 := zcR_cat h.1
    simp [lg_sl, h2, zcat, zargs] at h1 ⊢
    exact h1
  | .inr (.inl x) :: t, V :: T, h => by
    have h1 := zargs_lg h.2
    have h2 := zcR_cat h.1
    simp [lg_sl, h2, zcat, zargs] at h1 ⊢
    omega
  | .inr (.inr x) :: t, V :: T, h => by
    have h1 := zargs_lg h.2
    have h2 := zcR_cat h.1
    simp [lg_sl, h2, zcat, zargs] at h1 ⊢
    exact h1
  | [], _ :: _, h => h.elim
  | _ :: _, [], h => h.elim
theorem zargs_lv {ads : List Nat} : ∀ (vs : List zV) (avs : List Value) (k : Nat), zSt ads vs avs → ∀ (i : Nat) (v : zV), (zargs vs)[i]? = some (some v) → ∃ V, (k + i, V) ∈ lv_args k avs ∧ zcR ads v V
  | [], [], k, _, i, v, h => by simp [zargs] at h
  | [], _ :: _, k, hh, i, v, h => hh.elim
  | _ :: _, [], k, hh, i, v, h => hh.elim
  | w :: t, V :: T, k, hh, i, v, h => by
    have h2 := zcR_cat hh.1
    rcases w with w | w | w
    · rcases i with _ | i
      · simp [zargs] at h
        subst h
        exact ⟨V, by simp [lv_args], hh.1⟩
      · simp [zargs] at h
        obtain ⟨V2, e1, e2⟩ := zargs_lv t T (k + 1) hh.2 i v h
        exact ⟨V2, by simp [lv_args, h2, zcat]; rw [show k + (i + 1) = k + 1 + i by omega]; exact e1, e2⟩
    · rcases i with _ | _ | i
      · simp [zargs] at h
        subst h
        exact ⟨V, by simp [lv_args], hh.1⟩
      · simp [zargs] at h
      · simp [zargs] at h
        obtain ⟨V2, e1, e2⟩ := zargs_lv t T (k + 2) hh.2 i v h
        exact ⟨V2, by simp [lv_args, h2, zcat]; rw [show k + (i + 1 + 1) = k + 2 + i by omega]; exact e1, e2⟩
    · rcases i with _ | i
      · simp [zargs] at h
        subst h
        exact ⟨V, by simp [lv_args], hh.1⟩
      · simp [zargs] at h
        obtain ⟨V2, e1, e2⟩ := zargs_lv t T (k + 1) hh.2 i v h
        exact ⟨V2, by simp [lv_args, h2, zcat]; rw [show k + (i + 1) = k + 1 + i by omega]; exact e1, e2⟩
theorem zMet_of {mt : Nat → Option zM} {B : Nat → Nat → Option (List zE)} {cl : List vw_C} {Ts : List Cond} {xs : List Int} (hW : zProg mt B cl Ts) {n : Nat} (ih : zGood mt B cl Ts xs n) (l : Launch) (M : Nat) (y : MethodName) (by' : ByteArray) (mL : Nat) (rt : Option FieldType) (fr lo : Nat) (vs : List zV) (h : zH) (r : zR) (hm : mt M = some (y, by', mL, rt, fr, lo)) (q : zrun B xs n M 0 (zargs vs) [] h = some r) : zMet l cl Ts xs y by' mL rt fr lo vs h r := by
  intro D ads b tys ws sz avs hb0 hR hvs hlen
  obtain ⟨hG, hcl, hW3⟩ := hW
  obtain ⟨hy, hplain, -, -⟩ := hW3 M y by' mL rt fr lo hm
  have hge := zgrow_run B xs n M 0 _ _ _ _ q
  refine Met.ofW (cc := by') (maxL := mL) (ret := rt) hplain rfl ?_
  intro p e s m args below meth c s₁ Bd hml hv
  obtain ⟨rfl, hsz, hP, hK, hD0, hX, hbl, hbA, hbw⟩ := hv
  have hx := Bd.exec
  have hb := Bd.bytes
  have hr := Bd.returns
  have hts : ∀ w ∈ Ts, w.before avs.toArray s = true := fun w hw => by
    rcases hG w hw with hg | hg
    · exact atoms_spec (ws := Cond.code y by' mL rt :: Ts.filter goodWord) Bd.pre w (List.mem_cons_of_mem _ (List.mem_filter.mpr ⟨hw, hg⟩))
    · exact zbad_use hg (hbw w hw hg)
  have hown : s.vm.findClass y.cls = some m.cls := findClass_of_methodNamed Bd.named
  have hlocks := Bd.notSynchronized
  have hin : (y.name == "<init>") = true → meth.name = "<init>" := fun hh => by
    rw [(name_of_methodNamed Bd.named Bd.method).1]
    exact eq_of_beq hh
  subst hsz
  have hD := hD0.self (sz := s.heap.size)
  have hA : ∀ q : Nat, s.heap.size ≤ q → va_A ws s.heap.size q := fun q h => Or.inr h
  rw [lg_entry_eq]
  have hl := lv_entry avs (n := mL) (by rw [zargs_lg hvs]; exact hlen)
  refine ih M y by' mL rt fr lo hm p l e _ s m avs.toArray below meth c _ D (va_A ws s.heap.size) ads h.length (zsz h) r ⟨hx, hb, hml, hts, hown, hA, hcl, hin, b, hb0, hX, hbl, hbA⟩ (Nat.le_refl _) (Nat.le_refl _) ?_ ⟨?_, ?_⟩ 0 (zargs vs) [] h q _ [] _ [] 0 0 ads tys ws ⟨hl.1, hl.2.1, fun i v hv => ?_⟩ trivial hR (zpre_rf _) hK hP hD va_S.rf (Nat.zero_add _) (Nat.zero_add _)
  · intro pc I ls rv H locs cells slots ads' tys' ws' hd hri hret hR' hpre' hK' hP' hD' hS' hn' hz'
    have e1 : cells = r.2.length - h.length := by omega
    have e2 : slots = zsz r.2 - zsz h := by omega
    subst e1
    subst e2
    have post : ∀ t : State, t.heap = H → s.WarmedH t.vm → zQc cl D ads ws s.heap.size r avs.toArray s (.returned rv) t := fun t ht hW => ⟨⟨rv, ads', tys', ws', rfl, hret, hR', hpre', by rw [ht]; exact hP', va_K.moved hW.alike hK', hD'⟩, hS'.F ht⟩
    rcases hri with ⟨rfl, v, rfl, hrt | ⟨hrt, hv⟩⟩ | ⟨rfl, hrt, v, rfl⟩ | ⟨rfl, V, rfl, hV, t, hrt, hkt⟩ | ⟨rfl, hrt, rfl⟩
    · exact W.iret hx hb (by rw [hr, hrt]) post hS'.2.2 hd hlocks
    · exact W.zret (ty := .boolean) hx hb (by rw [hr, hrt]) (by rcases hv with rfl | rfl <;> decide) post hS'.2.2 hd hlocks
    · exact W.lret hx hb (by rw [hr, hrt]) post hS'.2.2 hd hlocks
    · exact W.aret hx hb (by rw [hr, hrt]) hkt hV post hS'.2.2 hd hlocks
    · exact W.vret hx hb (by rw [hr, hrt]) post hS'.2.2 hd hlocks
  · show r.2.length ≤ (r.2.length - h.length) + h.length
    have := hge.1
    omega
  · show zsz r.2 ≤ (zsz r.2 - zsz h) + zsz h
    have := hge.2
    omega
  · obtain ⟨V, e1, e2⟩ := zargs_lv vs avs 0 hvs i v hv
    rw [Nat.zero_add] at e1
    exact ⟨V, hl.2.2 _ e1, e2⟩
theorem zGood_all {mt : Nat → Option zM} {B : Nat → Nat → Option (List zE)} {cl : List vw_C} {Ts : List Cond} {xs : List Int} (hW : zProg mt B cl Ts) : ∀ n, zGood mt B cl Ts xs n := by
  intro n
  induction n with
  | zero =>
    intro M y by' mL rt fr lo hm p l e R s m args below meth c Q D A ads0 n0 z0 res C0 hfr hlo hF hroom pc L st h q
    cases q
  | succ n ih =>
    intro M y by' mL rt fr lo hm p l e R s m args below meth c Q D A ads0 n0 z0 res C0 hfr hlo hF hroom pc L st h q
    rw [zrun] at q
    cases hb : B M pc with
    | none => rw [hb] at q; cases q
    | some b =>
      rw [hb] at q
      have hW3 := hW.2.2
      obtain ⟨-, -, -, hblk⟩ := hW3 M y by' mL rt fr lo hm
      refine zB_sim hW.1 (fun q y by' mL rt fr lo hq0 hq => ?_) (fun q y by' mL rt fr lo vs h r hq hrun => zMet_of hW ih l q y by' mL rt fr lo vs h r hq hrun) (zgrow_run B xs n) C0 hfr hlo hroom (fun pc L st h q' => ih M y by' mL rt fr lo hm p l e R s m args below meth c Q D A ads0 n0 z0 res C0 hfr hlo hF hroom pc L st h q') hF b pc L st h (hblk pc b hb) q
      obtain ⟨h1, -, h2, -⟩ := hW3 q y by' mL rt fr lo hq
      exact ⟨h1, h2 hq0⟩
