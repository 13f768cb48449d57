/-! ===== the law's start ===== -/
def okI (I : Instr) : Bool := match I with
  | .iaload => false
  | .laload => false
  | .aaload => false
  | .arraylength => false
  | _ => true
theorem zI_xs (xs : List Int) (rec : Nat → Nat → zL → List zV → zH → Option zR) (m : Nat) (I : Instr) (x : List Nat) (c : Int) (L : zL) (st : List zV) (h : zH) (k : zL → List zV → zH → Option zR) (hI : okI I = true) : zI [] rec m I x c L st h k = zI xs rec m I x c L st h k := by
  cases I <;> first | rfl | (cases hI; done) | (rename_i cc oo; cases cc <;> rfl)
def okBk (b : List zE) : Bool := b.all fun e => okI e.1
theorem zB_xs (xs : List Int) (rec : Nat → Nat → zL → List zV → zH → Option zR) (m : Nat) : ∀ (b : List zE), okBk b = true → zB [] rec m b = zB xs rec m b
  | [], _ => rfl
  | (I, x, c) :: t, hb => by
    simp only [okBk, List.all_cons, Bool.and_eq_true] at hb
    have ih := zB_xs xs rec m t hb.2
    funext L st h
    show zI [] rec m I x c L st h (zB [] rec m t) = zI xs rec m I x c L st h (zB xs rec m t)
    rw [ih]
    exact zI_xs xs rec m I x c L st h _ hb.1
def nzV (v : zV) : Bool := match v with
  | .inr (.inr (some 0)) => false
  | _ => true
def nzH (h : zH) : Bool := h.all fun c => c.2.all nzV
theorem nzH_fd {h : zH} (hn : nzH h = true) {r : Option Nat} {ci k : Nat} : zfd h r ci k ≠ some (.inr (.inr (some 0))) := by
  intro e
  unfold zfd at e
  rcases r with _ | _ | p
  · cases e
  · cases e
  · dsimp only at e
    cases hp : h[p]? with
    | none => rw [hp] at e; cases e
    | some c =>
      rw [hp] at e
      dsimp only at e
      split at e
      · have h1 := List.all_eq_true.mp hn c (List.mem_of_getElem? hp)
        have h2 := List.all_eq_true.mp h1 _ (List.mem_of_getElem? e)
        cases h2
      · cases e
/-- a block that asks a row of an object for its length -/
def lnBk (b : List zE) : Bool := match b with
  | (.iload_n _, _, _) :: (.aload_n _, _, _) :: (.getfield _, [_, _, 2], _) :: (.arraylength, _, _) :: t => okBk t
  | _ => false
theorem zln_xs (xs : List Int) {h : zH} {v : Option Nat} (hv : v ≠ some 0) (f : Int → Option zR) : zln [] h v f = zln xs h v f := by
  rcases v with _ | _ | p
  · rfl
  · exact absurd rfl hv
  · rfl
theorem zB_ln (xs : List Int) (rec : Nat → Nat → zL → List zV → zH → Option zR) (m : Nat) (b : List zE) (hb : lnBk b = true) (L : zL) (st : List zV) (h : zH) (hn : nzH h = true) : zB [] rec m b L st h = zB xs rec m b L st h := by
  unfold lnBk at hb
  split at hb
  next i x1 c1 i2 x2 c2 i3 ci j c3 x4 c4 t =>
    have ih := zB_xs xs rec m t hb
    show (match zld L i with | some (.inl v) => zB [] rec m ((.aload_n i2, x2, c2) :: (.getfield i3, [ci, j, 2], c3) :: (.arraylength, x4, c4) :: t) L (.inl v :: st) h | _ => none) = (match zld L i with | some (.inl v) => zB xs rec m ((.aload_n i2, x2, c2) :: (.getfield i3, [ci, j, 2], c3) :: (.arraylength, x4, c4) :: t) L (.inl v :: st) h | _ => none)
    rcases zld L i with _ | v | v | v
    · rfl
    · show (match zld L i2 with | some (.inr (.inr r)) => zB [] rec m ((.getfield i3, [ci, j, 2], c3) :: (.arraylength, x4, c4) :: t) L (.inr (.inr r) :: .inl v :: st) h | _ => none) = (match zld L i2 with | some (.inr (.inr r)) => zB xs rec m ((.getfield i3, [ci, j, 2], c3) :: (.arraylength, x4, c4) :: t) L (.inr (.inr r) :: .inl v :: st) h | _ => none)
      rcases zld L i2 with _ | r | r | r
      · rfl
      · rfl
      · rfl
      · show zgr h r ci j (fun w => zln [] h w fun u => zB [] rec m t L (.inl u :: .inl v :: st) h) = zgr h r ci j (fun w => zln xs h w fun u => zB xs rec m t L (.inl u :: .inl v :: st) h)
        rw [ih]
        unfold zgr
        cases e : zfd h r ci j with
        | none => rfl
        | some w =>
          rcases w with w | w | w
          · rfl
          · rfl
          · exact zln_xs xs (fun z => nzH_fd hn (z ▸ e)) _
    · rfl
    · rfl
  next => cases hb
/-- a reading that no script can change -/
def zrunS : Nat → Nat → Nat → zL → List zV → zH → Option zR
  | 0, _, _, _, _, _ => none
  | n + 1, m, pc, L, st, h => match zblk m pc with
    | some b => if okBk b || (lnBk b && nzH h) then zB [] (zrunS n) m b L st h else none
    | none => none
theorem zrunS_ok (xs : List Int) : ∀ (n m pc : Nat) (L : zL) (st : List zV) (h : zH) (r : zR), zrunS n m pc L st h = some r → zrun zblk xs n m pc L st h = some r := by
  intro n
  induction n with
  | zero => intro m pc L st h r q; cases q
  | succ n ih =>
    intro m pc L st h r q
    rw [zrunS] at q
    rw [zrun]
    cases hb : zblk m pc with
    | none => rw [hb] at q; cases q
    | some b =>
      rw [hb] at q
      dsimp only at q ⊢
      split at q
      next hc =>
        have e : zB [] (zrunS n) m b L st h = zB xs (zrunS n) m b L st h := by
          rw [Bool.or_eq_true, Bool.and_eq_true] at hc
          rcases hc with hc | hc
          · rw [zB_xs xs (zrunS n) m b hc]
          · exact zB_ln xs (zrunS n) m b hc.1 L st h hc.2
        rw [e] at q
        obtain ⟨N, e2⟩ := zcont_B xs (fun _ => zrun zblk xs n) (zrunS n) (fun m pc L st h r q => ⟨0, fun _ _ => ih m pc L st h r q⟩) m r b L st h q
        exact e2 N (Nat.le_refl _)
      next => cases q
theorem zxS (xs : List Int) {n m pc : Nat} {L : zL} {st : List zV} {h : zH} {r : zR} (q : zrunS n m pc L st h = some r) : zx zblk xs m pc L st h = some r := (zx_iff zblk xs m pc L st h r).mpr ⟨n, zrunS_ok xs n m pc L st h r q⟩
def g0 : Nat → Int → Int := fun q j => if q = pM ∧ j = 22 then -1 else 0
def cX0 : Nat × List zV := (6, [2, 2, 2, 0, 2, 2, 2, 2, 0, 2, 2, 2, 2, 2].map fun t => match t with | 0 => .inl 0 | 1 => .inr (.inl 0) | _ => .inr (.inr none))
def eqV : zV → zV → Bool
  | .inl a, .inl b => decide (a = b)
  | .inr (.inl a), .inr (.inl b) => decide (a = b)
  | .inr (.inr a), .inr (.inr b) => decide (a = b)
  | _, _ => false
theorem eqV_ok : ∀ {a b : zV}, eqV a b = true → a = b
  | .inl a, .inl b, h => by rw [of_decide_eq_true h]
  | .inr (.inl a), .inr (.inl b), h => by rw [of_decide_eq_true h]
  | .inr (.inr a), .inr (.inr b), h => by rw [of_decide_eq_true h]
  | .inl a, .inr b, h => by cases h
  | .inr a, .inl b, h => by rcases a with a | a <;> cases h
  | .inr (.inl a), .inr (.inr b), h => by cases h
  | .inr (.inr a), .inr (.inl b), h => by cases h
def eqVs : List zV → List zV → Bool
  | [], [] => true
  | a :: s, b :: t => eqV a b && eqVs s t
  | _, _ => false
theorem eqVs_ok : ∀ {a b : List zV}, eqVs a b = true → a = b
  | [], [], _ => rfl
  | a :: s, b :: t, h => by
    simp only [eqVs, Bool.and_eq_true] at h
    rw [eqV_ok h.1, eqVs_ok h.2]
  | [], _ :: _, h => by cases h
  | _ :: _, [], h => by cases h
def eqH : zH → zH → Bool
  | [], [] => true
  | (n, a) :: s, (m, b) :: t => decide (n = m) && eqVs a b && eqH s t
  | _, _ => false
theorem eqH_ok : ∀ {a b : zH}, eqH a b = true → a = b
  | [], [], _ => rfl
  | (n, a) :: s, (m, b) :: t, h => by
    simp only [eqH, Bool.and_eq_true, decide_eq_true_eq] at h
    rw [h.1.1, eqVs_ok h.1.2, eqH_ok h.2]
  | [], _ :: _, h => by cases h
  | _ :: _, [], h => by cases h
def eqR (a : Option zR) (h : zH) : Bool := match a with
  | some (none, h') => eqH h' h
  | _ => false
theorem eqR_ok {a : Option zR} {h : zH} (e : eqR a h = true) : a = some (none, h) := by
  unfold eqR at e
  split at e
  · rw [eqH_ok e]
  · cases e
theorem start_X : eqR (zrunS 400 43 0 [some (.inr (.inr (some 1)))] [] [cX0]) (HH g0) = true := by decide +kernel
theorem e_L_law_0 (xs : List Int) : zx zblk xs 0 0 [some (.inr (.inr (some 0)))] [] [] = zcv (zx zblk xs 43 0 [some (.inr (.inr (some 1)))] [] [cX0]) fun h1 => zna h1 33 fun p2 h2 => zna h2 49 fun p3 h3 => zna h3 48 fun p4 h4 => zci (zx zblk xs 80 0 [some (.inr (.inr (some 1))), some (.inr (.inr (some 0))), some (.inl 0), some (.inr (.inr p2))] [] h4) fun r5 h5 => if zw r5 ≠ 0 then zx zblk xs 0 36 [some (.inr (.inr (some 0))), some (.inr (.inr (some 1))), some (.inr (.inr p2)), some (.inr (.inr p3)), some (.inr (.inr p4))] [] h5 else if (0 : Int) = 0 ∨ (0 : Int) = 1 then some (some (.inl 0), h5) else none := (zx_unfold zblk xs 0 0 _ rfl _ _ _).trans rfl
theorem Bd_cg {G G1 : Nat → Int → Int} (h : Bd G) (e : ∀ q, 1000 ≤ q → G1 q = G q) : Bd G1 := by
  unfold Bd bdQ bdP bdC bdS bdW bdK at *
  rw [e pM (by decide), e pM_page (by decide), e pM_speeches (by decide), e pM_rows (by decide), e pM_signalRows (by decide), e pM_weights (by decide), e pM_noteRows (by decide), e pM_keptWeights (by decide), e pM_keptRows (by decide)]
  exact h
theorem Rel_cgG {G G1 g : Nat → Int → Int} (h : Rel G g) (e : ∀ q, 1000 ≤ q → G1 q = G q) : Rel G1 g := by
  obtain ⟨h1, h2, h3, h4, h5, h6⟩ := h
  have em := e pM (by decide)
  refine ⟨RelS_cg h1 (e _ (by decide)) (by rw [em]), ?_, ?_, RelC_cg h4 (e _ (by decide)) (by rw [em]) (e _ (by decide)) (e _ (by decide)) (by rw [em]), ?_, RelK_cg h6 (by rw [em]) (by rw [em]) (e _ (by decide)) (e _ (by decide))⟩
  · unfold wL
    rw [em, e pM_weights (by decide)]
    exact h2
  · unfold pL
    rw [em, e pM_page (by decide)]
    exact h3
  · rw [em, e pM_noteRows (by decide)]
    exact h5
theorem Inv_fr {g g1 : Nat → Int → Int} (h : Inv g) (e : ∀ q, 0 < q → (q < 265 ∨ 1000 ≤ q) → g1 q = g q) : Inv g1 :=
  ⟨Bd_cg h.1 (fun q hq => e q (by omega) (Or.inr hq)), Rel_cgG (Rel_fr0 h.1 h.2 (fun q a b c => e q a (Or.inl c))) (fun q hq => e q (by omega) (Or.inr hq))⟩
theorem Inv_gnw {g : Nat → Int → Int} {N : Nat} (h : Inv g) (hN : N ≤ 20) : Inv (gnw g N) := Inv_fr h (fun q a b => gnw_q (by omega) (by omega))
theorem inv0 : Inv g0 := by
  have e : ∀ q j, ¬ (q = pM ∧ j = 22) → g0 q j = 0 := fun q j h => if_neg h
  have f : ∀ q : Nat, q ≠ pM → g0 q = fun _ => 0 := fun q h => funext fun j => e q j (fun z => h z.1)
  have m : ∀ j : Int, j ≠ 22 → g0 pM j = 0 := fun j h => e _ _ (fun z => h z.2)
  have r : ∀ q : Nat, q ≠ pM → q + 1 ≠ pM → zRow g0 q [] := fun q h1 h2 => ⟨by rw [f q h1]; rfl, zPre_nil _⟩
  have m22 : g0 pM 22 = -1 := rfl
  refine ⟨⟨?_, ?_, ?_, ?_, ?_, ?_, ?_⟩, ?_, ?_, ?_, ?_, ?_, ?_⟩
  · unfold bdQ
    rw [m 1 (by decide), m 5 (by decide), m 8 (by decide), m 10 (by decide), m 18 (by decide)]
    decide
  · intro k h1 h2
    rw [m 1 (by decide)] at h2
    omega
  · intro c h1 h2
    rw [m 5 (by decide)] at h2
    omega
  · intro s h1 h2
    rw [m 8 (by decide)] at h2
    omega
  · intro t h1 h2
    rw [m 10 (by decide)] at h2
    omega
  · intro n h1 h2
    rw [m 18 (by decide)] at h2
    omega
  · exact Or.inl m22
  · have hs : ∀ j, sigL g0 j = [] := fun j => by
      unfold sigL
      rw [m 8 (by decide)]
      rfl
    unfold RelS
    rw [hs, hs, hs, hs]
    exact ⟨r 3 (by decide) (by decide), r 5 (by decide) (by decide), r 7 (by decide) (by decide), r 9 (by decide) (by decide)⟩
  · unfold wL
    rw [m 10 (by decide)]
    exact r 11 (by decide) (by decide)
  · unfold pL
    rw [m 1 (by decide)]
    exact r 14 (by decide) (by decide)
  · refine ⟨by rw [f pX (by decide), m 5 (by decide)], fun c hc => ⟨fun h5 => ?_, fun _ s hs => r _ (by simp only [PC, pM]; omega) (by simp only [PC, pM]; omega)⟩⟩
    rw [m 5 (by decide)] at h5
    omega
  · rw [m 18 (by decide)]
    exact ⟨r 17 (by decide) (by decide), fun k hk => by omega⟩
  · refine ⟨by rw [f pX (by decide), m22]; rfl, fun h => absurd m22 h⟩
