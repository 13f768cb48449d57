/-! ===== rows: what the class says of them ===== -/
theorem zite_p {P : Prop} {a b : Int} (h : P) : zite P a b = a := @if_pos P (zdc P) h _ _ _
theorem zite_n {P : Prop} {a b : Int} (h : ¬ P) : zite P a b = b := @if_neg P (zdc P) h _ _ _
def scG (q : Nat) (j : Int) : Prop := scX q j ∨ q = 14 ∨ q = 15
theorem LS_pgF {G g g1 : Nat → Int → Int} (h : LwS G g) {l : List Int} (hl : isPg l) (hrow : zRow g1 14 l) (e : zFr scG g g1) : LwS (pgS G l) g1 := LS_pg h hl hrow (fun q a b c d => e.at (fun j => by simp only [scG, scX, pX, pX_signals, pX_weights, pX_codes, pX_page, pX_notes, pX_keptWeights, pX_keptNotes, pX_said, pX_heard, pX_pool, pX_struck, pX_readings, pM, pM_page, pM_readRows, pM_speeches, pM_rows, pM_signalRows, pM_weights, pM_plain, pM_plains, pM_ahead, pM_heap, pM_noteRows, pM_ways, pM_before, pM_keptWeights, pM_keptRows]; omega))
theorem scX_G {g g1 : Nat → Int → Int} (h : zFr scX g g1) : zFr scG g g1 := h.mono (fun q j z => Or.inl z)
theorem sc14_G {g g1 : Nat → Int → Int} (h : zFr (scR 14) g g1) : zFr scG g g1 := h.mono (fun q j z => Or.inr (by simp only [scR] at z; omega))
theorem zRow14_X {g g1 : Nat → Int → Int} {l : List Int} (h : zRow g 14 l) (hf : zFr scX g g1) : zRow g1 14 l := zRow_fr h (hf.at (fun j => by simp only [scX, pX, pX_signals, pX_weights, pX_codes, pX_page, pX_notes, pX_keptWeights, pX_keptNotes, pX_said, pX_heard, pX_pool, pX_struck, pX_readings, pM, pM_page, pM_readRows, pM_speeches, pM_rows, pM_signalRows, pM_weights, pM_plain, pM_plains, pM_ahead, pM_heap, pM_noteRows, pM_ways, pM_before, pM_keptWeights, pM_keptRows]; omega)) (hf.at (fun j => by simp only [scX, pX, pX_signals, pX_weights, pX_codes, pX_page, pX_notes, pX_keptWeights, pX_keptNotes, pX_said, pX_heard, pX_pool, pX_struck, pX_readings, pM, pM_page, pM_readRows, pM_speeches, pM_rows, pM_signalRows, pM_weights, pM_plain, pM_plains, pM_ahead, pM_heap, pM_noteRows, pM_ways, pM_before, pM_keptWeights, pM_keptRows]; omega))
theorem pgL_of {G : Nat → Int → Int} {m : Nat} {f : Nat → Int} : pgL (pgS G (zLi (fun k => 97 + f k) m)) = pln G 0 f m := by
  unfold pgL
  rw [pg_pln, pgS_1, zLi_len, Int.toNat_natCast]
  refine pln_cg G 0 (fun k hk => ?_)
  rw [pgS_p G _ (by rw [zLi_len]; exact hk), zLi_get]
  omega
theorem R4 (xs : List Int) {G g : Nat → Int → Int} (h : LwS G g) (hG : pgS G [] = G) (ht : zAr g 272 6) {m : Nat} {f : Nat → Int} (hm : m ≤ 5) (hf : ∀ k, k < m → 0 ≤ f k ∧ f k ≤ 7) (hg : ∀ k : Nat, k < m → g 272 (k : Int) = 97 + f k) (t : Int) : ∃ g1, zx zblk xs 90 327 [some (.inr (.inr (some pX))), some (.inr (.inr (some 0))), some (.inr (.inr (some 265))), some (.inr (.inr (some 266))), some (.inr (.inr (some 271))), some (.inr (.inr (some 272))), some (.inr (.inr (some 273))), some (.inr (.inr (some 274))), some (.inl (t)), none, none, some (.inl ((m : Int))), some (.inl (mnO (fun s : Nat => plS G 0 0 s) (pln G 0 f m) (nS G 0))), some (.inl ((nbest (fun s : Nat => dif (plS G 0 0 s) (pln G 0 f m)) (nS G 0)).1))] [] (HH g) = zx zblk xs 90 27 [some (.inr (.inr (some pX))), some (.inr (.inr (some 0))), some (.inr (.inr (some 265))), some (.inr (.inr (some 266))), some (.inr (.inr (some 271))), some (.inr (.inr (some 272))), some (.inr (.inr (some 273))), some (.inr (.inr (some 274))), some (.inl (t + 1))] [] (HH g1) ∧ LwS G g1 ∧ g1 0 0 = g 0 0 ∧ g1 268 = g 268 := by
  have hpg0 : pL G = [] := by rw [← hG]; exact pgS_pL G []
  have hr0 : zRow g 14 [] := by have := h.2.1.2.2.1; rw [hpg0] at this; exact this
  have hlen : (zLi (fun k => 97 + f k) m).length = m := zLi_len _ _
  have hpg : isPg (zLi (fun k => 97 + f k) m) := by
    refine ⟨by omega, fun v hv => ?_⟩
    obtain ⟨k, hk, rfl⟩ := List.getElem_of_mem hv
    have := hf k (by omega)
    rw [zLi_get]
    omega
  obtain ⟨g1, w1, w2, w3⟩ := L_write xs (pt := 272) (nt := 6) (zLi (fun k => 97 + f k) m) (by omega) (by omega) hpg ht (fun k hk => by rw [zLi_get]; exact hg k (by omega)) hr0
  rw [hlen] at w1
  have f1 := sc14_G w3
  have h1 := LS_pgF h hpg w2 f1
  have hok : pgOK (pgS G (zLi (fun k => 97 + f k) m)) := fun k hk => by
    rw [pgS_1] at hk
    rw [pgS_p G _ (by omega), zLi_get]
    have := hf k (by omega)
    omega
  have v1 : mnS (pgS G (zLi (fun k => 97 + f k) m)) 0 = mnO (fun s : Nat => plS G 0 0 s) (pln G 0 f m) (nS G 0) := by
    unfold mnS
    rw [if_pos h1.c1, zite_p hok, pgL_of, pg_plS, pg_nS]
  have v2 : nmS (pgS G (zLi (fun k => 97 + f k) m)) 0 = (nbest (fun s : Nat => dif (plS G 0 0 s) (pln G 0 f m)) (nS G 0)).1 := by
    unfold nmS
    rw [if_pos h1.c1, zite_p hok, pgL_of, pg_plS, pg_nS]
  obtain ⟨g2, x1, x2⟩ := X_means xs h1.1 h1.2.1 (c := 0) rfl
  have f2 := f1.tr (scX_G x2)
  have r2 := zRow14_X w2 x2
  have h2 := LS_pgF h hpg r2 f2
  obtain ⟨g3, y1, y2⟩ := X_named xs h2.1 h2.2.1 (c := 0) rfl
  have f3 := f2.tr (scX_G y2)
  have r3 := zRow14_X r2 y2
  obtain ⟨g4, z1, z2, z3⟩ := X_letter1 xs r3 (by omega) (v := 120) (by omega)
  rw [hlen] at z1
  have f4 := f3.tr (sc14_G z3)
  have hpg4 : isPg (zLi (fun k => 97 + f k) m ++ [120]) := by
    refine ⟨by rw [List.length_append]; simp only [List.length_singleton]; omega, fun v hv => ?_⟩
    rcases List.mem_append.mp hv with hv | hv
    · exact hpg.2 v hv
    · rw [List.mem_singleton.mp hv]; omega
  have hlen4 : (zLi (fun k => 97 + f k) m ++ [120]).length = m + 1 := by rw [List.length_append, hlen]; rfl
  have h4 := LS_pgF h hpg4 z2 f4
  have hno : ¬ pgOK (pgS G (zLi (fun k => 97 + f k) m ++ [120])) := fun z => by
    have := z m (by rw [pgS_1, hlen4]; omega)
    rw [pgS_p G _ (by omega), List.getElem_append_right (by omega)] at this
    simp only [List.getElem_singleton] at this
    omega
  have u1 : mnS (pgS G (zLi (fun k => 97 + f k) m ++ [120])) 0 = -103 := by
    unfold mnS
    rw [if_pos h4.c1, zite_n hno]
  have u2 : nmS (pgS G (zLi (fun k => 97 + f k) m ++ [120])) 0 = -103 := by
    unfold nmS
    rw [if_pos h4.c1, zite_n hno]
  have u3 : mnS (pgS G (zLi (fun k => 97 + f k) m ++ [120])) 1 = -101 := by
    unfold mnS
    rw [if_neg (fun z => by have := z.2; rw [h4.2.2.2.1] at this; omega)]
  obtain ⟨g5, a1, a2⟩ := X_means xs h4.1 h4.2.1 (c := 0) rfl
  have f5 := f4.tr (scX_G a2)
  have r5 := zRow14_X z2 a2
  have h5 := LS_pgF h hpg4 r5 f5
  obtain ⟨g6, b1, b2⟩ := X_named xs h5.1 h5.2.1 (c := 0) rfl
  have f6 := f5.tr (scX_G b2)
  have r6 := zRow14_X r5 b2
  have h6 := LS_pgF h hpg4 r6 f6
  obtain ⟨g7, c1, c2⟩ := X_means xs h6.1 h6.2.1 (c := 1) rfl
  have f7 := f6.tr (scX_G c2)
  have r7 := zRow14_X r6 c2
  obtain ⟨d1, d2, d3⟩ := X_blank1 xs r7
  rw [hlen4] at d1
  have f8 := f7.tr (sc14_G d3)
  have h8 := LS_pgF h (l := []) ⟨by simp, fun v hv => by simp at hv⟩ d2 f8
  rw [hG] at h8
  refine ⟨_, ?_, h8, f8 0 0 (by simp only [scG, scX, pX, pX_signals, pX_weights, pX_codes, pX_page, pX_notes, pX_keptWeights, pX_keptNotes, pX_said, pX_heard, pX_pool, pX_struck, pX_readings, pM, pM_page, pM_readRows, pM_speeches, pM_rows, pM_signalRows, pM_weights, pM_plain, pM_plains, pM_ahead, pM_heap, pM_noteRows, pM_ways, pM_before, pM_keptWeights, pM_keptRows]; omega), f8.at (fun j => by simp only [scG, scX, pX, pX_signals, pX_weights, pX_codes, pX_page, pX_notes, pX_keptWeights, pX_keptNotes, pX_said, pX_heard, pX_pool, pX_struck, pX_readings, pM, pM_page, pM_readRows, pM_speeches, pM_rows, pM_signalRows, pM_weights, pM_plain, pM_plains, pM_ahead, pM_heap, pM_noteRows, pM_ways, pM_before, pM_keptWeights, pM_keptRows]; omega)⟩
  rw [e_L_rows_327, w1, zci_ok, if_neg (by decide), pX_ck, x1, zci_ok, v1, if_neg (fun z => z rfl), pX_ck, y1, zci_ok, v2, if_neg (fun z => z rfl), pX_ck, z1, zci_ok, if_neg (fun z => z rfl), pX_ck, a1, zci_ok, u1, if_neg (fun z => z rfl), pX_ck, b1, zci_ok, u2, if_neg (fun z => z rfl), pX_ck, c1, zci_ok, u3, if_neg (fun z => z rfl), pX_ck, d1, zci_ok, if_pos (by rw [Int.natCast_succ]), e_L_rows_415]
theorem L_rows (xs : List Int) (hx : xs.length ≤ 260) {G g : Nat → Int → Int} (h : LwS G g) (hG : pgS G [] = G) (hN : g 0 0 = (6 : Nat)) : ∃ g1, zx zblk xs 90 0 [some (.inr (.inr (some pX))), some (.inr (.inr (some 0))), some (.inr (.inr (some 265))), some (.inr (.inr (some 266)))] [] (HH g) = some (some (.inl 1), HH g1) ∧ LwS G g1 ∧ g1 0 0 = (10 : Nat) ∧ g1 268 = g 268 := by
  have a1 := LS_gnw h hN (n := 6) rfl (by omega)
  have a2 := LS_gnw a1 gnw_0 (n := 6) rfl (by omega)
  have a3 := LS_gnw a2 gnw_0 (n := 14) rfl (by omega)
  have a4 := LS_gnw a3 gnw_0 (n := 12) rfl (by omega)
  have loop : ∀ (r t : Nat) (gk : Nat → Int → Int), t + r = 4 → LwS G gk → gk 0 0 = (10 : Nat) → ∃ g1, zx zblk xs 90 27 [some (.inr (.inr (some pX))), some (.inr (.inr (some 0))), some (.inr (.inr (some 265))), some (.inr (.inr (some 266))), some (.inr (.inr (some 271))), some (.inr (.inr (some 272))), some (.inr (.inr (some 273))), some (.inr (.inr (some 274))), some (.inl ((t : Int)))] [] (HH gk) = some (some (.inl 1), HH g1) ∧ LwS G g1 ∧ g1 0 0 = (10 : Nat) ∧ g1 268 = gk 268 := by
    intro r
    induction r with
    | zero =>
      intro t gk ht hk c0
      have : t = 4 := by omega
      subst this
      exact ⟨gk, by rw [e_L_rows_27, if_pos (by decide), e_L_rows_421, if_pos (Or.inr rfl)], hk, c0, rfl⟩
    | succ r ih =>
      intro t gk ht hk c0
      have l1 : zAr gk 271 6 := zAr_law (k := 6) (N := 10) c0 rfl (by omega) (by omega)
      obtain ⟨g1, m, f, p1, p2, p3, p4⟩ := R1 xs hx hk l1 (t := t) (by omega)
      have k1 : LwS G g1 := LS_fr hk (fun q a b => p4.at (fun j => by omega))
      have c1 : g1 0 0 = (10 : Nat) := by rw [p4 0 0 (by omega)]; exact c0
      obtain ⟨g2, q1, q2, q3, q4⟩ := R2 xs k1 (zAr_law (k := 6) (N := 10) c1 rfl (by omega) (by omega)) (zAr_law (k := 7) (N := 10) c1 rfl (by omega) (by omega)) (zAr_law (k := 8) (N := 10) c1 rfl (by omega) (by omega)) p1 p2 (t : Int)
      have k2 : LwS G g2 := LS_fr k1 (fun q a b => q4.at (fun j => by omega))
      have c2 : g2 0 0 = (10 : Nat) := by rw [q4 0 0 (by omega)]; exact c1
      have hB1 := pln_len G 0 f m
      have hB7 : isR7 (pln G 0 f m) := isR7_pln hk.1.2.2.2.1 0 (fun k hk => ⟨(p2 k hk).1, (p2 k hk).2.1⟩)
      obtain ⟨g3, r1, r2⟩ := R3 xs (G := G) (B := pln G 0 f m) (by omega) hB7 t m (nS G 0) 0 g2 (by omega) k2 (zAr_law (k := 8) (N := 10) c2 rfl (by omega) (by omega)) (zAr_law (k := 9) (N := 10) c2 rfl (by omega) (by omega)) q3
      rw [z0N] at r1
      have k3 : LwS G g3 := LS_fr k2 (fun q a b => r2.at (fun j => by omega))
      have c3 : g3 0 0 = (10 : Nat) := by rw [r2 0 0 (by omega)]; exact c2
      obtain ⟨g4, s1, s2, s3, s4⟩ := R4 xs k3 hG (zAr_law (k := 7) (N := 10) c3 rfl (by omega) (by omega)) p1 (fun k hk => ⟨(p2 k hk).1, (p2 k hk).2.1⟩) (fun k hk => by rw [r2.at (fun j => by omega)]; exact q2 k hk) (t : Int)
      obtain ⟨g5, u1, u2, u3, u4⟩ := ih (t + 1) g4 (by omega) s2 (by rw [s3]; exact c3)
      refine ⟨g5, ?_, u2, u3, ?_⟩
      rotate_left
      · rw [u4, s4, r2.at (fun j => by omega), q4.at (fun j => by omega), p4.at (fun j => by omega)]
      rw [p3, q1, show (-1 : Int) = mst (fun s : Nat => plS G 0 0 s) (pln G 0 f m) 0 from rfl]
      refine Eq.trans r1 ?_
      rw [s1, ← u1, Int.natCast_succ]
  obtain ⟨g1, s1, s2, s3, s4⟩ := loop 4 0 _ (by omega) a4 gnw_0
  refine ⟨g1, ?_, s2, s3, by rw [s4, gnw_q (by omega) (by omega), gnw_q (by omega) (by omega), gnw_q (by omega) (by omega), gnw_q (by omega) (by omega)]⟩
  rw [e_L_rows_0, zna_at (m := 6) (n := 6) rfl hN rfl (by omega), zna_at (m := 6) (N := 7) (n := 6) rfl gnw_0 rfl (by omega), zna_at (m := 14) (N := 8) (n := 14) rfl gnw_0 rfl (by omega), zna_at (m := 12) (N := 9) (n := 12) rfl gnw_0 rfl (by omega)]
  exact s1
