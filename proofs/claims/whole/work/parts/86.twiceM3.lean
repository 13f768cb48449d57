/-! ===== twice: starts ===== -/
def stF (L : Nat → List Int) (s : zFd) (i j : Nat) : zFd := if (L i).length = (L j).length then (s.1, if ((L j).length : Int) < s.2 then ((L j).length : Int) else s.2) else rlx s j (L i).length (L j).length
theorem stF_ok {L : Nat → List Int} {n : Nat} {s : zFd} (h : okF L n s) {i j : Nat} (hs : stt L n i j) : onF L n s (stF L s i j) ∧ ((L i).length < (L j).length → (stF L s i j).1 j (L i).length ≤ (L j).length) ∧ ((L i).length = (L j).length → (stF L s i j).2 ≤ (L j).length) := by
  unfold stF
  by_cases c : (L i).length = (L j).length
  · simp only [if_pos c]
    have hle : (if ((L j).length : Int) < s.2 then ((L j).length : Int) else s.2) ≤ (L j).length ∧ (if ((L j).length : Int) < s.2 then ((L j).length : Int) else s.2) ≤ s.2 := by split <;> omega
    refine ⟨⟨⟨h.1, ?_⟩, fun _ _ => Int.le_refl _, hle.2⟩, fun z => by omega, fun _ => hle.1⟩
    show 0 ≤ (if ((L j).length : Int) < s.2 then ((L j).length : Int) else s.2) ∧ (if ((L j).length : Int) < s.2 then ((L j).length : Int) else s.2) ≤ 1000000 ∧ ((if ((L j).length : Int) < s.2 then ((L j).length : Int) else s.2) < 1000000 → FnR L n (if ((L j).length : Int) < s.2 then ((L j).length : Int) else s.2))
    have h2 := h.2
    by_cases d : ((L j).length : Int) < s.2
    · rw [if_pos d]
      exact ⟨by omega, by omega, fun _ => Or.inl ⟨i, j, hs, c, rfl⟩⟩
    · rw [if_neg d]
      exact h.2
  · simp only [if_neg c]
    have hlt : (L i).length < (L j).length := by
      have := hs.2.2.2.2.1
      omega
    have hr := rlx_le s j (L i).length (L j).length
    exact ⟨⟨rlx_ok h ⟨0, i, hs, hlt, rfl, rfl⟩, hr.1, Int.le_refl _⟩, fun _ => hr.2, fun z => absurd z c⟩
/-- the starts that are through -/
def prS (L : Nat → List Int) (n : Nat) (D : Nat → Nat → Prop) (s : zFd) : Prop := ∀ i j, D i j → stt L n i j → ((L i).length < (L j).length → s.1 j (L i).length ≤ (L j).length) ∧ ((L i).length = (L j).length → s.2 ≤ (L j).length)
theorem prS_on {L : Nat → List Int} {n : Nat} {D : Nat → Nat → Prop} {s s' : zFd} (h : prS L n D s) (o : onF L n s s') : prS L n D s' := fun i j d st => ⟨fun z => Int.le_trans (o.2.1 _ _) ((h i j d st).1 z), fun z => Int.le_trans o.2.2 ((h i j d st).2 z)⟩
theorem prS_all {L : Nat → List Int} {n : Nat} {D : Nat → Nat → Prop} {s : zFd} (h : prS L n D s) (hd : ∀ i j, stt L n i j → D i j) : stC L n s := by
  refine ⟨fun j f len ⟨i, st, a, b, c⟩ => ?_, fun i j st e => (h i j (hd i j st) st).2 e⟩
  subst b c
  exact (h i j (hd i j st) st).1 a
def s0F : zFd := (fun _ _ => 1000000, 1000000)
theorem s0F_ok (L : Nat → List Int) (n : Nat) : okF L n s0F := ⟨fun j f => ⟨show (0 : Int) ≤ 1000000 by decide, Int.le_refl _, fun z => absurd z (show ¬ (1000000 : Int) < 1000000 by decide)⟩, show (0 : Int) ≤ 1000000 by decide, Int.le_refl _, fun z => absurd z (show ¬ (1000000 : Int) < 1000000 by decide)⟩
theorem M_twStart (xs : List Int) {L : Nat → List Int} {n i j : Nat} (hi : i < n) (hj : j < n) {g : Nat → Int → Int} (hR : rdy g L n) {s : zFd} (hok : okF L n s) (hs : RpM g s) : ∃ g1 s1, zx zblk xs 38 51 [some (.inr (.inr (some pM))), none, some (.inl ((n : Int))), some (.inl ((i : Int))), some (.inl ((j : Int)))] [] (HH g) = zx zblk xs 38 51 [some (.inr (.inr (some pM))), none, some (.inl ((n : Int))), some (.inl ((i : Int))), some (.inl (((j + 1 : Nat) : Int)))] [] (HH g1) ∧ RpM g1 s1 ∧ zFr scT g g1 ∧ onF L n s s1 ∧ (stt L n i j → ((L i).length < (L j).length → s1.1 j (L i).length ≤ (L j).length) ∧ ((L i).length = (L j).length → s1.2 ≤ (L j).length)) := by
  obtain ⟨hall, hn, hr⟩ := id hR
  have li := (hr i hi).1
  have lj := (hr j hj).1
  have ai := (hall i hi).1
  have aj := (hall j hj).1
  have e153 : ∀ (v : Int) (h : zH), zx zblk xs 38 153 [some (.inr (.inr (some pM))), none, some (.inl ((n : Int))), some (.inl ((i : Int))), some (.inl ((j : Int)))] [.inl v] h = zx zblk xs 38 51 [some (.inr (.inr (some pM))), none, some (.inl ((n : Int))), some (.inl ((i : Int))), some (.inl (((j + 1 : Nat) : Int)))] [] h := fun v h => by rw [e_M_twiceOf_153, Int.natCast_succ]
  have e152 : ∀ h : zH, zx zblk xs 38 152 [some (.inr (.inr (some pM))), none, some (.inl ((n : Int))), some (.inl ((i : Int))), some (.inl ((j : Int)))] [] h = zx zblk xs 38 51 [some (.inr (.inr (some pM))), none, some (.inl ((n : Int))), some (.inl ((i : Int))), some (.inl (((j + 1 : Nat) : Int)))] [] h := fun h => by rw [e_M_twiceOf_152, e153]
  have e101 : zx zblk xs 38 101 [some (.inr (.inr (some pM))), none, some (.inl ((n : Int))), some (.inl ((i : Int))), some (.inl ((j : Int)))] [] (HH g) = zx zblk xs 38 51 [some (.inr (.inr (some pM))), none, some (.inl ((n : Int))), some (.inl ((i : Int))), some (.inl (((j + 1 : Nat) : Int)))] [] (HH g) := by rw [e_M_twiceOf_101, e_M_twiceOf_102, if_pos (show zw 0 = 0 from rfl), e152]
  have hst : zx zblk xs 38 51 [some (.inr (.inr (some pM))), none, some (.inl ((n : Int))), some (.inl ((i : Int))), some (.inl ((j : Int)))] [] (HH g) = if i ≠ j ∧ 0 < (L i).length ∧ (L i).length ≤ (L j).length then zx zblk xs 38 102 [some (.inr (.inr (some pM))), none, some (.inl ((n : Int))), some (.inl ((i : Int))), some (.inl ((j : Int)))] [.inl 1] (HH g) else zx zblk xs 38 51 [some (.inr (.inr (some pM))), none, some (.inl ((n : Int))), some (.inl ((i : Int))), some (.inl (((j + 1 : Nat) : Int)))] [] (HH g) := by
    rw [e_M_twiceOf_51, if_neg (by rw [zw_id (by omega) (by omega), zw_id (by omega) (by omega)]; omega), zw_id (a := (i : Int)) (by omega) (by omega), zw_id (a := (j : Int)) (by omega) (by omega), pM_r_plains, pM_a_plains xs _ (by omega) (by omega), ai, pM_r_plains, pM_a_plains xs _ (by omega) (by omega), ai, pM_r_plains, pM_a_plains xs _ (by omega) (by omega), aj, zw_id (a := ((L i).length : Int)) (by omega) (by omega), zw_id (a := ((L j).length : Int)) (by omega) (by omega), e101]
    by_cases c1 : i = j
    · rw [if_pos (by omega), if_neg (fun z => z.1 c1)]
    · rw [if_neg (by omega)]
      by_cases c2 : 0 < (L i).length
      · rw [if_neg (by omega)]
        by_cases c3 : (L i).length ≤ (L j).length
        · rw [if_neg (by omega), if_pos ⟨c1, c2, c3⟩]
        · rw [if_pos (by omega), if_neg (fun z => c3 z.2.2)]
      · rw [if_pos (by omega), if_neg (fun z => c2 z.2.1)]
  rw [hst]
  by_cases c : i ≠ j ∧ 0 < (L i).length ∧ (L i).length ≤ (L j).length
  · have hda := agD L j 0 i
    have hgo := M_goesOn xs hR hj hi (f := 0) (by omega)
    rw [z0N] at hgo
    by_cases d : agr L j 0 i
    · have hS : stt L n i j := ⟨hi, hj, c.1, c.2.1, c.2.2, d⟩
      obtain ⟨o1, o2, o3⟩ := stF_ok hok hS
      have hre : ∃ g1 v, zx zblk xs 36 0 [some (.inr (.inr (some pM))), some (.inl ((j : Int))), some (.inl (((L i).length : Int))), some (.inl (((L j).length : Int)))] [] (HH g) = some (some (.inl v), HH g1) ∧ RpM g1 (stF L s i j) ∧ zFr scT g g1 := by
        by_cases e : (L i).length = (L j).length
        · obtain ⟨g1, q1, q2, q3⟩ := M_reach_end xs hR hj hs (v := ((L j).length : Int)) (by omega) ⟨hok.2.1, hok.2.2.1⟩
          refine ⟨g1, 0, by rw [e]; exact q1, ?_, q3⟩
          unfold stF
          rw [if_pos e]
          exact q2
        · obtain ⟨g1, q1, q2, q3⟩ := M_reach_on xs hR hj (f := (L i).length) (by omega) hs (v := ((L j).length : Int)) (by omega) ⟨(hok.1 _ _).1, (hok.1 _ _).2.1⟩
          refine ⟨g1, _, q1, ?_, q3⟩
          unfold stF
          rw [if_neg e]
          exact q2
      obtain ⟨g1, v, q1, q2, q3⟩ := hre
      refine ⟨g1, stF L s i j, ?_, q2, q3, o1, fun _ => ⟨o2, o3⟩⟩
      rw [if_pos c, e_M_twiceOf_102, if_neg (by decide), pM_ck, hgo, zci_ok, zb_zw, zb_t d, if_neg (by decide), pM_r_plains, pM_a_plains xs _ (by omega) (by omega), ai, pM_r_plains, pM_a_plains xs _ (by omega) (by omega), aj, pM_ck, q1, zci_ok]
      by_cases e : zw v = 0
      · rw [if_pos e, e152]
      · rw [if_neg e, e153]
    · refine ⟨g, s, ?_, hs, zFr.rf, onF_rf hok, fun z => absurd z.2.2.2.2.2 d⟩
      rw [if_pos c, e_M_twiceOf_102, if_neg (by decide), pM_ck, hgo, zci_ok, zb_zw, zb_f d, if_pos rfl, e152]
  · exact ⟨g, s, by rw [if_neg c], hs, zFr.rf, onF_rf hok, fun z => absurd ⟨z.2.2.1, z.2.2.2.1, z.2.2.2.2.1⟩ c⟩
theorem M_twStarts (xs : List Int) {L : Nat → List Int} {n : Nat} {g : Nat → Int → Int} (hR : rdy g L n) (hs : RpM g s0F) : ∃ g1 s1, zx zblk xs 38 43 [some (.inr (.inr (some pM))), none, some (.inl ((n : Int))), some (.inl (0))] [] (HH g) = zx zblk xs 38 167 [some (.inr (.inr (some pM))), none, some (.inl ((n : Int)))] [] (HH g1) ∧ RpM g1 s1 ∧ okF L n s1 ∧ stC L n s1 ∧ zFr scT g g1 := by
  have hn := hR.2.1
  have inner : ∀ (i : Nat), i < n → ∀ (r j : Nat) (gk : Nat → Int → Int) (s : zFd), j + r = n → rdy gk L n → RpM gk s → okF L n s → prS L n (fun i' j' => i' < i ∨ (i' = i ∧ j' < j)) s → ∃ g1 s1, zx zblk xs 38 51 [some (.inr (.inr (some pM))), none, some (.inl ((n : Int))), some (.inl ((i : Int))), some (.inl ((j : Int)))] [] (HH gk) = zx zblk xs 38 43 [some (.inr (.inr (some pM))), none, some (.inl ((n : Int))), some (.inl (((i + 1 : Nat) : Int)))] [] (HH g1) ∧ RpM g1 s1 ∧ okF L n s1 ∧ prS L n (fun i' _ => i' < i + 1) s1 ∧ zFr scT gk g1 := by
    intro i hi r
    induction r with
    | zero =>
      intro j gk s hj hRk hsk hok hp
      have : j = n := by omega
      subst this
      refine ⟨gk, s, ?_, hsk, hok, fun i' j' d st => hp i' j' (by have := st.2.1; omega) st, zFr.rf⟩
      rw [e_M_twiceOf_51, if_pos (Int.le_refl _), e_M_twiceOf_161, Int.natCast_succ]
    | succ r ih =>
      intro j gk s hj hRk hsk hok hp
      obtain ⟨g2, s2, p1, p2, p3, p4, p5⟩ := M_twStart xs hi (show j < n by omega) hRk hok hsk
      obtain ⟨g1, s1, q1, q2, q3, q4, q5⟩ := ih (j + 1) g2 s2 (by omega) (rdy_T hRk p3) p2 p4.1 (fun i' j' d st => by
        by_cases e : i' = i ∧ j' = j
        · obtain ⟨rfl, rfl⟩ := e
          exact p5 st
        · exact prS_on hp p4 i' j' (by omega) st)
      exact ⟨g1, s1, p1.trans q1, q2, q3, q4, p3.tr q5⟩
  have outer : ∀ (r i : Nat) (gk : Nat → Int → Int) (s : zFd), i + r = n → rdy gk L n → RpM gk s → okF L n s → prS L n (fun i' _ => i' < i) s → ∃ g1 s1, zx zblk xs 38 43 [some (.inr (.inr (some pM))), none, some (.inl ((n : Int))), some (.inl ((i : Int)))] [] (HH gk) = zx zblk xs 38 167 [some (.inr (.inr (some pM))), none, some (.inl ((n : Int)))] [] (HH g1) ∧ RpM g1 s1 ∧ okF L n s1 ∧ stC L n s1 ∧ zFr scT gk g1 := by
    intro r
    induction r with
    | zero =>
      intro i gk s hi hRk hsk hok hp
      have : i = n := by omega
      subst this
      refine ⟨gk, s, ?_, hsk, hok, prS_all hp (fun i' j' st => st.1), zFr.rf⟩
      rw [e_M_twiceOf_43, if_pos (Int.le_refl _)]
    | succ r ih =>
      intro i gk s hi hRk hsk hok hp
      obtain ⟨g2, s2, p1, p2, p3, p4, p5⟩ := inner i (by omega) n 0 gk s (by omega) hRk hsk hok (fun i' j' d st => hp i' j' (by omega) st)
      obtain ⟨g1, s1, q1, q2, q3, q4, q5⟩ := ih (i + 1) g2 s2 (by omega) (rdy_T hRk p5) p2 p3 p4
      refine ⟨g1, s1, ?_, q2, q3, q4, p5.tr q5⟩
      rw [z0N] at p1
      rw [e_M_twiceOf_43, if_neg (by rw [zw_id (by omega) (by omega), zw_id (by omega) (by omega)]; omega)]
      exact p1.trans q1
  obtain ⟨g1, s1, q1, q2, q3, q4, q5⟩ := outer n 0 g s0F (by omega) hR hs (s0F_ok L n) (fun i' j' d st => by omega)
  rw [z0N] at q1
  exact ⟨g1, s1, q1, q2, q3, q4, q5⟩
noncomputable def twO (G : Nat → Int → Int) (c : Int) : Int := if bV (fun i => plS G 0 c i) (nS G c) < 1000000 then bV (fun i => plS G 0 c i) (nS G c) else -1
noncomputable def twS (G : Nat → Int → Int) (c : Int) : Int := if 0 ≤ c ∧ c < G pM 5 then twO G c else -101
theorem es_twO {g1 g : Nat → Int → Int} (h : es g1 = es g) : twO g1 = twO g := by
  funext c
  unfold twO
  rw [es_plS h, es_nS h]
theorem es_twS {g1 g : Nat → Int → Int} (h : es g1 = es g) : twS g1 = twS g := by
  obtain ⟨e1, e2, e3, e4, e5, e6, e7, e8, e9, e10, e11, e12, e13, e14, e15⟩ := es_all h
  funext c
  unfold twS
  rw [e10, es_twO h]
theorem scAT_M {q : Nat} {j : Int} (h : scA q j ∨ scT q j) : scM q j := by
  rcases h with h | h
  · exact scA_M h
  · simp only [scT, scM, pM, pM_page, pM_readRows, pM_speeches, pM_rows, pM_signalRows, pM_weights, pM_plain, pM_plains, pM_ahead, pM_heap, pM_noteRows, pM_ways, pM_before, pM_keptWeights, pM_keptRows, pX, pX_signals, pX_weights, pX_codes, pX_page, pX_notes, pX_keptWeights, pX_keptNotes, pX_said, pX_heard, pX_pool, pX_struck, pX_readings] at h ⊢
    omega
theorem M_twiceOf (xs : List Int) {g : Nat → Int → Int} (hB : Bd g) {c : Int} (a : 0 ≤ c ∧ c < g pM 5) : ∃ g1, zx zblk xs 38 0 [some (.inr (.inr (some pM))), some (.inl (c))] [] (HH g) = some (some (.inl (twO g c)), HH g1) ∧ zFr (fun q j => scA q j ∨ scT q j) g g1 := by
  obtain ⟨-, q5, -⟩ := id hB.1
  obtain ⟨n1, n2, n3⟩ := nS_rg hB a
  obtain ⟨ga, x1, x2, x3⟩ := M_layAll xs g c 0 hB a
  have hr1 := rdy_of hB a x2
  have hsp : ga pM_speeches c = nS g c := by
    have := (es_all (scA_es x3)).2.1
    rw [this, n1]
  have loop : ∀ (r k : Nat) (gk : Nat → Int → Int), k + r = 88 → (∀ j : Nat, j < k → gk pM_ahead j = 1000000) → gk pM 16 = 1000000 → zFr scT ga gk → ∃ g1, zx zblk xs 38 21 [some (.inr (.inr (some pM))), none, some (.inl ((nS g c : Int))), some (.inl ((k : Int)))] [] (HH gk) = zx zblk xs 38 41 [some (.inr (.inr (some pM))), none, some (.inl ((nS g c : Int)))] [] (HH g1) ∧ RpM g1 s0F ∧ zFr scT ga g1 := by
    intro r
    induction r with
    | zero =>
      intro k gk hk hj h16 hf
      have : k = 88 := by omega
      subst this
      refine ⟨gk, ?_, ⟨fun j f h1 h2 => ?_, h16⟩, hf⟩
      · rw [e_M_twiceOf_21, if_pos (by decide)]
      · have := hj (11 * j + f) (by omega)
        rw [show ((11 * j + f : Nat) : Int) = 11 * (j : Int) + f by omega] at this
        exact this
    | succ r ih =>
      intro k gk hk hj h16 hf
      obtain ⟨g1, q1, q2, q3⟩ := ih (k + 1) (up gk pM_ahead k 1000000) (by omega) (fun j hj' => by
        by_cases e : j = k
        · subst e; exact up_same _ _ _ _
        · rw [up_ne _ _ (fun z => by omega)]; exact hj j (by omega)) (by rw [up_q (by decide)]; exact h16) (hf.up (Or.inl rfl))
      refine ⟨g1, ?_, q2, q3⟩
      rw [e_M_twiceOf_21, if_neg (by rw [show zw 88 = 88 from rfl, zw_id (by omega) (by omega)]; omega), pM_r_ahead, pM_s_ahead _ _ (by omega) (by omega), ← Int.natCast_succ]
      exact q1
  obtain ⟨gb, y1, y2, y3⟩ := loop 88 0 (up ga pM 16 1000000) (by omega) (fun j hj => by omega) (up_same _ _ _ _) (zFr.rf.up (Or.inr ⟨rfl, rfl⟩))
  rw [z0N] at y1
  obtain ⟨gc, s1, z1, z2, z3, z4, z5⟩ := M_twStarts xs (rdy_T hr1 y3) y2
  have hR3 := rdy_T (rdy_T hr1 y3) z5
  obtain ⟨gd, b, w1, w2, w3, w4⟩ := M_sweeps xs (L := fun i => plS g 0 c i) hR3.2.1 (fun i hi => (hR3.2.2 i hi).1) (leS (fun i => plS g 0 c i) (nS g c) s1).toNat s1 gc (by have := (leS_rg (fun i => plS g 0 c i) (nS g c) s1).1; omega) z3 z4 hR3 z2
  refine ⟨gd, ?_, (((x3.mono (fun _ _ => Or.inl)).tr (y3.mono (fun _ _ => Or.inr))).tr (z5.mono (fun _ _ => Or.inr))).tr (w4.mono (fun _ _ => Or.inr))⟩
  rw [e_M_twiceOf_0, pM_ck, x1, zcv_ok, pM_r_speeches, pM_a_speeches xs _ (by omega) (by omega), hsp, pM_p_least, y1, e_M_twiceOf_41, z1, e_M_twiceOf_167, w1, e_M_twiceOf_315, pM_g_least, w2, show zw 1000000 = 1000000 from rfl, zw_id (a := b) (by have := w3.1; omega) (by have := w3.2.1; omega)]
  unfold twO
  rw [bV_eq w3]
  by_cases e : b < 1000000
  · rw [if_pos (by omega), e_M_twiceOf_328, pM_g_least, w2, e_M_twiceOf_332, if_pos e]
  · have := w3.2.1
    rw [if_neg (by omega), e_M_twiceOf_332, if_neg e]
theorem M_twice (xs : List Int) {g : Nat → Int → Int} (hB : Bd g) {c : Int} (hc : zw c = c) : ∃ g1, zx zblk xs 39 0 [some (.inr (.inr (some pM))), some (.inl (c))] [] (HH g) = some (some (.inl (twS g c)), HH g1) ∧ zFr scM g g1 := by
  rw [e_M_twice_0, pM_ck, M_isCode' xs hB hc, zci_ok, zb_zw]
  unfold twS
  by_cases a : 0 ≤ c ∧ c < g pM 5
  · obtain ⟨g1, q1, q2⟩ := M_twiceOf xs hB a
    exact ⟨g1, by rw [zb_t a, if_neg (by decide), pM_ck, q1, zci_ok, e_M_twice_18, if_pos a], q2.mono (fun q j z => scAT_M z)⟩
  · exact ⟨g, by rw [zb_f a, if_pos rfl, e_M_twice_16, e_M_twice_18, if_neg a], zFr.rf⟩
