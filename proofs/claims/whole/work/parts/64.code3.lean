/-! ===== code ===== -/
theorem zCd_cg {g : Nat → Int → Int} {P n : Nat} {L L' : Nat → List Int} (h : zCd g P n L) (e : ∀ i, i < n → L' i = L i) : zCd g P n L' := by
  obtain ⟨h1, h2, h3, h4⟩ := h
  exact ⟨h1, h2, h3, fun i hi => by rw [e i hi]; exact h4 i hi⟩
theorem inv_scM {g g1 : Nat → Int → Int} (hI : Inv g) (h : zFr scM g g1) : Inv g1 := ⟨es_Bd (es_scM h) hI.1, Rel_es (Rel_scM hI.1 hI.2 h) (es_scM h)⟩
/-- a code of other rows stays what it is -/
theorem code_keep {G G1 : Nat → Int → Int} (hB : Bd G) {c : Int} (hc : 0 ≤ c ∧ c < G pM 5) (e1 : G1 pM_signalRows = G pM_signalRows) (e2 : G1 pM 8 = G pM 8) (e3 : ∀ j : Int, 48 * c ≤ j → j < 48 * c + 48 → G1 pM_rows j = G pM_rows j) (e4 : G1 pM_speeches c = G pM_speeches c) : nS G1 c = nS G c ∧ ∀ s : Nat, s < nS G c → rowL G1 c s = rowL G c s ∧ plS G1 0 c s = plS G 0 c s := by
  obtain ⟨n1, n2, n3⟩ := nS_rg hB hc
  refine ⟨by unfold nS; rw [e4], fun s hs => ?_⟩
  obtain ⟨l1, l2, l3, l4⟩ := lenS_rg hB.2.2.1 hc (s := s) (by omega)
  have hl : lenS G1 c s = lenS G c s := by unfold lenS; rw [e3 _ (by omega) (by omega)]
  have hr : ∀ k, k < lenS G c s → rowS G1 c s k = rowS G c s k := fun k hk => by unfold rowS; rw [e3 _ (by omega) (by omega)]
  constructor
  · unfold rowL
    rw [hl]
    exact zLi_cg hr
  · unfold plS
    rw [hl, pln_G e1 e2]
    exact pln_cg G 0 hr
theorem op_code (xs : List Int) {g : Nat → Int → Int} (hI : Inv g) : ∃ v g1 g2, zx zblk xs 138 0 [some (.inr (.inr (some pX)))] [] (HH g) = some (some (.inl v), HH g1) ∧ zx zblk xs 8 0 [some (.inr (.inr (some pM)))] [] (HH g1) = some (some (.inl v), HH g2) ∧ Inv g2 := by
  obtain ⟨hB, hR⟩ := id hI
  obtain ⟨r1, r2, r3, r4, r5, r6⟩ := id hR
  obtain ⟨hQ, hP, hC, hS, hW, hN, hK⟩ := id hB
  obtain ⟨q1, q5, q8, q10, q18⟩ := id hQ
  have hpl := pL_len hQ
  obtain ⟨n, hn⟩ : ∃ n : Nat, g pM 5 = n := ⟨(g pM 5).toNat, by omega⟩
  obtain ⟨m, hm⟩ : ∃ m : Nat, (g pM 1).toNat = m := ⟨_, rfl⟩
  have hle : (ftS g).1 ≤ m := by
    have := ftF_le (f := fun k : Nat => g pM_page k) (n := (g pM 1).toNat) (k := 0) (s := (0, 0))
    unfold ftS
    omega
  have hz : -1 ≤ zat (pL g) (g pM 1 - 1) ∧ zat (pL g) (g pM 1 - 1) ≤ 126 := by
    by_cases e : 0 < g pM 1
    · unfold pL
      rw [zat_Li (by omega)]
      have := hP (g pM 1 - 1).toNat (by omega) (by omega)
      show -1 ≤ g pM_page ((g pM 1 - 1).toNat : Int) ∧ g pM_page ((g pM 1 - 1).toNat : Int) ≤ 126
      omega
    · rw [zat_out (Or.inl (by omega))]
      omega
  have X47 : zx zblk xs 138 47 [] [] (HH g) = some (some (.inl (-103)), HH g) := e_X_code_47 xs _
  have M18 : ∀ h, zx zblk xs 8 18 [] [] h = some (some (.inl (-103)), h) := fun h => e_M_code_18 xs _
  have X28 : zx zblk xs 138 28 [some (.inr (.inr (some pX)))] [.inl 1] (HH g) = if (ftS g).1 = m then zx zblk xs 138 50 [some (.inr (.inr (some pX)))] [] (HH g) else some (some (.inl (-103)), HH g) := by
    rw [e_X_code_28, show zw 1 = 1 from rfl, if_neg (by decide), pX_ck, X_firstFault xs hB hR, zci_ok, pX_r_page, Rw_ck Rw14, Row_size xs Rw14 r3, zci_ok, hpl.1, zw_id (by omega) (by omega), zw_id (by omega) (by omega)]
    by_cases e : (ftS g).1 = m
    · rw [if_pos (by omega), if_pos e]
    · rw [if_neg (by omega), if_neg e, X47]
  have X0 : zx zblk xs 138 0 [some (.inr (.inr (some pX)))] [] (HH g) = if 97 ≤ zat (pL g) (g pM 1 - 1) ∧ zat (pL g) (g pM 1 - 1) ≤ 104 then zx zblk xs 138 28 [some (.inr (.inr (some pX)))] [.inl 1] (HH g) else some (some (.inl (-103)), HH g) := by
    rw [e_X_code_0, pX_r_page, pX_r_page, Rw_ck Rw14, Row_size xs Rw14 r3, zci_ok, hpl.1, Rw_ck Rw14, Row_at xs Rw14 r3 hpl.2 _ (zw_id (by omega) (by omega)), zci_ok, X_signalOf xs _ _ (zw_id (by omega) (by omega)), zci_ok]
    by_cases e : 97 ≤ zat (pL g) (g pM 1 - 1) ∧ zat (pL g) (g pM 1 - 1) ≤ 104
    · rw [if_pos e, if_pos e, if_neg (by rw [zw_id (by omega) (by omega), show zw (-1) = -1 from rfl]; omega)]
    · rw [if_neg e, if_neg e, if_pos rfl, e_X_code_27, e_X_code_28, if_pos (show zw 0 = 0 from rfl), X47]
  by_cases a : (ftS g).1 = m
  · have hgd : gdT (fun k => g pM_page k) m := gdT_of (by rw [← hm] at a ⊢; exact a)
    have hE : (97 ≤ zat (pL g) (g pM 1 - 1) ∧ zat (pL g) (g pM 1 - 1) ≤ 104) ↔ (rdF (fun k => g pM_page k) m).2.length ≠ 0 := by
      by_cases e : m = 0
      · subst e
        rw [zat_out (Or.inl (by omega))]
        simp [rdF]
      · obtain ⟨m', rfl⟩ : ∃ m', m = m' + 1 := ⟨m - 1, by omega⟩
        rw [rd_ends hgd]
        unfold pL
        rw [zat_Li (by omega), show (g pM 1 - 1).toNat = m' by omega]
    by_cases b : (rdF (fun k => g pM_page k) m).2.length ≠ 0
    · by_cases c : n < 4
      · obtain ⟨g1, x1, x2, x3, x4, x5, x6, x7⟩ := X_code_go xs hI hn c hm hgd b
        have x6' : ∀ q, 265 ≤ q → g1 q = g q := fun q hq => x6 q (by omega) (by omega) (Or.inr (by simp only [PC]; omega)) (by simp only [pX]; omega)
        have e1 : es g1 = es g := es_ag x6'
        obtain ⟨g2, y1, y2, y3⟩ := M_faultOf xs (es_Bd e1 hB)
        rw [es_ftS e1] at y1 y3
        rw [x6' pM (by decide), x6' pM_page (by decide), hm] at y3
        obtain ⟨z1, z2, z3, z4, z5, z6, z7⟩ := y3 a
        have hal := rdA_len (fun k : Nat => g pM_page k) m
        have c5 : g2 pM 5 = n := by rw [y2 pM 5 (by simp only [scM, pM, pM_page, pM_readRows, pM_speeches, pM_rows, pM_signalRows, pM_weights, pM_plain, pM_plains, pM_ahead, pM_heap, pM_noteRows, pM_ways, pM_before, pM_keptWeights, pM_keptRows, pX, pX_signals, pX_weights, pX_codes, pX_page, pX_notes, pX_keptWeights, pX_keptNotes, pX_said, pX_heard, pX_pool, pX_struck, pX_readings]; omega), x6' pM (by decide)]; exact hn
        have c1 : g2 pM 1 = g pM 1 := by rw [y2 pM 1 (by simp only [scM, pM, pM_page, pM_readRows, pM_speeches, pM_rows, pM_signalRows, pM_weights, pM_plain, pM_plains, pM_ahead, pM_heap, pM_noteRows, pM_ways, pM_before, pM_keptWeights, pM_keptRows, pX, pX_signals, pX_weights, pX_codes, pX_page, pX_notes, pX_keptWeights, pX_keptNotes, pX_said, pX_heard, pX_pool, pX_struck, pX_readings]; omega), x6' pM (by decide)]
        obtain ⟨g4, w1, w2, w3⟩ := M_code_copy xs (g := up g2 pM_speeches (n : Int) (g2 pM 2 + 1)) c (by rw [up_q (by decide)]; exact c5)
        have d5 : g4 pM 5 = n := by rw [w3 pM 5 (fun z => absurd z.1 (by decide)), up_q (by decide)]; exact c5
        refine ⟨n, g1, up (up g4 pM 5 ((n : Int) + 1)) pM 1 0, ?_, ?_, ?_⟩
        · rw [X0, if_pos (hE.mpr b), X28, if_pos a, x1]
        · rw [e_M_code_0, pM_ck, y1, zci_ok, pM_g_pageMany, c1, if_neg (by rw [zw_id (by omega) (by omega), zw_id (by omega) (by omega)]; omega), pM_g_readLetters, z2, zw_id (by omega) (by omega), if_pos (by omega), e_M_code_21, pM_g_codes, c5, if_pos (by rw [show zw 4 = 4 from rfl, zw_id (by omega) (by omega)]; omega), e_M_code_32, pM_r_speeches, pM_g_codes, c5, pM_g_readMany, pM_s_speeches _ _ (by omega) (by omega), w1, e_M_code_81, pM_g_codes, d5, pM_p_codes, pM_p_pageMany, pM_g_codes, up_ne _ _ (by decide), up_same, show (n : Int) + 1 - 1 = n by omega]
        · have a0 : ∀ q, q ≠ pM → q ≠ pM_rows → q ≠ pM_speeches → (∀ j, ¬ scM q j) → up (up g4 pM 5 ((n : Int) + 1)) pM 1 0 q = g1 q := fun q h1 h2 h3 h4 => by
            rw [up_p _ _ _ h1, up_p _ _ _ h1, w3.at (fun j z => h2 z.1), up_p _ _ _ h3, y2.at h4]
          have a1 : ∀ j : Int, j ≠ 1 → j ≠ 5 → ¬ scM pM j → up (up g4 pM 5 ((n : Int) + 1)) pM 1 0 pM j = g pM j := fun j h1 h2 h3 => by
            rw [up_ne _ _ (fun z => h1 z.2), up_ne _ _ (fun z => h2 z.2), w3 pM j (fun z => absurd z.1 (by decide)), up_p _ _ _ (by decide), y2 pM j h3, x6' pM (by decide)]
          have a2 : up (up g4 pM 5 ((n : Int) + 1)) pM 1 0 pM 1 = 0 := up_same _ _ _ _
          have a3 : up (up g4 pM 5 ((n : Int) + 1)) pM 1 0 pM 5 = (n : Int) + 1 := by rw [up_ne _ _ (by decide), up_same]
          have a4 : up (up g4 pM 5 ((n : Int) + 1)) pM 1 0 pM_speeches n = (rdA (fun k : Nat => g pM_page k) m).length := by
            rw [up_q (by decide), up_q (by decide), w3 pM_speeches n (fun z => absurd z.1 (by decide)), up_same]
            omega
          have a5 : ∀ j : Int, j ≠ n → up (up g4 pM 5 ((n : Int) + 1)) pM 1 0 pM_speeches j = g pM_speeches j := fun j hj => by
            rw [up_q (by decide), up_q (by decide), w3 pM_speeches j (fun z => absurd z.1 (by decide)), up_ne _ _ (fun z => hj z.2), y2 pM_speeches j (by simp only [scM, pM, pM_page, pM_readRows, pM_speeches, pM_rows, pM_signalRows, pM_weights, pM_plain, pM_plains, pM_ahead, pM_heap, pM_noteRows, pM_ways, pM_before, pM_keptWeights, pM_keptRows, pX, pX_signals, pX_weights, pX_codes, pX_page, pX_notes, pX_keptWeights, pX_keptNotes, pX_said, pX_heard, pX_pool, pX_struck, pX_readings]; omega), x6' pM_speeches (by decide)]
          have a6 : ∀ j : Int, (j < 48 * n ∨ 48 * n + 48 ≤ j) → up (up g4 pM 5 ((n : Int) + 1)) pM 1 0 pM_rows j = g pM_rows j := fun j hj => by
            rw [up_q (by decide), up_q (by decide), w3 pM_rows j (fun z => by omega), up_q (by decide), y2 pM_rows j (by simp only [scM, pM, pM_page, pM_readRows, pM_speeches, pM_rows, pM_signalRows, pM_weights, pM_plain, pM_plains, pM_ahead, pM_heap, pM_noteRows, pM_ways, pM_before, pM_keptWeights, pM_keptRows, pX, pX_signals, pX_weights, pX_codes, pX_page, pX_notes, pX_keptWeights, pX_keptNotes, pX_said, pX_heard, pX_pool, pX_struck, pX_readings]; omega), x6' pM_rows (by decide)]
          have a7 : ∀ j : Int, 0 ≤ j → j < 48 → up (up g4 pM 5 ((n : Int) + 1)) pM 1 0 pM_rows (48 * n + j) = g2 pM_readRows j := fun j h0 h1 => by
            rw [up_q (by decide), up_q (by decide), w2 j h0 h1, up_q (by decide)]
          generalize hG : up (up g4 pM 5 ((n : Int) + 1)) pM 1 0 = G at a0 a1 a2 a3 a4 a5 a6 a7
          clear hG
          have aB : ∀ q, 265 ≤ q → q ≠ pM → q ≠ pM_rows → q ≠ pM_speeches → (∀ j, ¬ scM q j) → G q = g q := fun q h0 h1 h2 h3 h4 => by rw [a0 q h1 h2 h3 h4, x6' q h0]
          have aC : ∀ q, q < 265 → G q = g1 q := fun q h0 => a0 q (by simp only [pM]; omega) (by simp only [pM_rows]; omega) (by simp only [pM_speeches]; omega) (fun j => by simp only [scM, pM, pM_page, pM_readRows, pM_speeches, pM_rows, pM_signalRows, pM_weights, pM_plain, pM_plains, pM_ahead, pM_heap, pM_noteRows, pM_ways, pM_before, pM_keptWeights, pM_keptRows, pX, pX_signals, pX_weights, pX_codes, pX_page, pX_notes, pX_keptWeights, pX_keptNotes, pX_said, pX_heard, pX_pool, pX_struck, pX_readings]; omega)
          have aX : ∀ q, q < 265 → q ≠ 14 → q ≠ 15 → (q < PC n ∨ PC n + 40 < q) → q ≠ pX → G q = g q := fun q h0 h1 h2 h3 h4 => by rw [aC q h0, x6 q h1 h2 h3 h4]
          have s := aB pM_signalRows (by decide) (by decide) (by decide) (by decide) (fun j => by simp only [scM, pM, pM_page, pM_readRows, pM_speeches, pM_rows, pM_signalRows, pM_weights, pM_plain, pM_plains, pM_ahead, pM_heap, pM_noteRows, pM_ways, pM_before, pM_keptWeights, pM_keptRows, pX, pX_signals, pX_weights, pX_codes, pX_page, pX_notes, pX_keptWeights, pX_keptNotes, pX_said, pX_heard, pX_pool, pX_struck, pX_readings]; omega)
          have we := aB pM_weights (by decide) (by decide) (by decide) (by decide) (fun j => by simp only [scM, pM, pM_page, pM_readRows, pM_speeches, pM_rows, pM_signalRows, pM_weights, pM_plain, pM_plains, pM_ahead, pM_heap, pM_noteRows, pM_ways, pM_before, pM_keptWeights, pM_keptRows, pX, pX_signals, pX_weights, pX_codes, pX_page, pX_notes, pX_keptWeights, pX_keptNotes, pX_said, pX_heard, pX_pool, pX_struck, pX_readings]; omega)
          have nr := aB pM_noteRows (by decide) (by decide) (by decide) (by decide) (fun j => by simp only [scM, pM, pM_page, pM_readRows, pM_speeches, pM_rows, pM_signalRows, pM_weights, pM_plain, pM_plains, pM_ahead, pM_heap, pM_noteRows, pM_ways, pM_before, pM_keptWeights, pM_keptRows, pX, pX_signals, pX_weights, pX_codes, pX_page, pX_notes, pX_keptWeights, pX_keptNotes, pX_said, pX_heard, pX_pool, pX_struck, pX_readings]; omega)
          have kw := aB pM_keptWeights (by decide) (by decide) (by decide) (by decide) (fun j => by simp only [scM, pM, pM_page, pM_readRows, pM_speeches, pM_rows, pM_signalRows, pM_weights, pM_plain, pM_plains, pM_ahead, pM_heap, pM_noteRows, pM_ways, pM_before, pM_keptWeights, pM_keptRows, pX, pX_signals, pX_weights, pX_codes, pX_page, pX_notes, pX_keptWeights, pX_keptNotes, pX_said, pX_heard, pX_pool, pX_struck, pX_readings]; omega)
          have kr := aB pM_keptRows (by decide) (by decide) (by decide) (by decide) (fun j => by simp only [scM, pM, pM_page, pM_readRows, pM_speeches, pM_rows, pM_signalRows, pM_weights, pM_plain, pM_plains, pM_ahead, pM_heap, pM_noteRows, pM_ways, pM_before, pM_keptWeights, pM_keptRows, pX, pX_signals, pX_weights, pX_codes, pX_page, pX_notes, pX_keptWeights, pX_keptNotes, pX_said, pX_heard, pX_pool, pX_struck, pX_readings]; omega)
          have f8 := a1 8 (by decide) (by decide) (by simp only [scM, pM, pM_page, pM_readRows, pM_speeches, pM_rows, pM_signalRows, pM_weights, pM_plain, pM_plains, pM_ahead, pM_heap, pM_noteRows, pM_ways, pM_before, pM_keptWeights, pM_keptRows, pX, pX_signals, pX_weights, pX_codes, pX_page, pX_notes, pX_keptWeights, pX_keptNotes, pX_said, pX_heard, pX_pool, pX_struck, pX_readings]; omega)
          have f10 := a1 10 (by decide) (by decide) (by simp only [scM, pM, pM_page, pM_readRows, pM_speeches, pM_rows, pM_signalRows, pM_weights, pM_plain, pM_plains, pM_ahead, pM_heap, pM_noteRows, pM_ways, pM_before, pM_keptWeights, pM_keptRows, pX, pX_signals, pX_weights, pX_codes, pX_page, pX_notes, pX_keptWeights, pX_keptNotes, pX_said, pX_heard, pX_pool, pX_struck, pX_readings]; omega)
          have f18 := a1 18 (by decide) (by decide) (by simp only [scM, pM, pM_page, pM_readRows, pM_speeches, pM_rows, pM_signalRows, pM_weights, pM_plain, pM_plains, pM_ahead, pM_heap, pM_noteRows, pM_ways, pM_before, pM_keptWeights, pM_keptRows, pX, pX_signals, pX_weights, pX_codes, pX_page, pX_notes, pX_keptWeights, pX_keptNotes, pX_said, pX_heard, pX_pool, pX_struck, pX_readings]; omega)
          have f22 := a1 22 (by decide) (by decide) (by simp only [scM, pM, pM_page, pM_readRows, pM_speeches, pM_rows, pM_signalRows, pM_weights, pM_plain, pM_plains, pM_ahead, pM_heap, pM_noteRows, pM_ways, pM_before, pM_keptWeights, pM_keptRows, pX, pX_signals, pX_weights, pX_codes, pX_page, pX_notes, pX_keptWeights, pX_keptNotes, pX_said, pX_heard, pX_pool, pX_struck, pX_readings]; omega)
          have f23 := a1 23 (by decide) (by decide) (by simp only [scM, pM, pM_page, pM_readRows, pM_speeches, pM_rows, pM_signalRows, pM_weights, pM_plain, pM_plains, pM_ahead, pM_heap, pM_noteRows, pM_ways, pM_before, pM_keptWeights, pM_keptRows, pX, pX_signals, pX_weights, pX_codes, pX_page, pX_notes, pX_keptWeights, pX_keptNotes, pX_said, pX_heard, pX_pool, pX_struck, pX_readings]; omega)
          have hC0 : (rdF (fun k : Nat => g pM_page k) m).2 ≠ [] := fun z => b (by rw [z]; rfl)
          have hL : ∀ s, s < (rdA (fun k : Nat => g pM_page k) m).length → G pM_rows (48 * n + 6 * s) = ((rdA (fun k : Nat => g pM_page k) m).getD s []).length ∧ ∀ (j : Nat) (hj : j < ((rdA (fun k : Nat => g pM_page k) m).getD s []).length), G pM_rows (48 * n + 6 * s + 1 + j) = ((rdA (fun k : Nat => g pM_page k) m).getD s [])[j] := fun s hs => by
            have ok := rdA_ok hgd b hs
            obtain ⟨t1, t2⟩ := rdI_all z7 hC0 (s := s) (by omega)
            refine ⟨by rw [a7 _ (by omega) (by omega)]; exact t1, fun j hj => ?_⟩
            rw [show 48 * (n : Int) + 6 * s + 1 + j = 48 * n + (6 * s + 1 + j) by omega, a7 _ (by omega) (by omega)]
            exact t2 j hj
          have hnS : nS G n = (rdA (fun k : Nat => g pM_page k) m).length := by unfold nS; rw [a4]; omega
          have hkeep : ∀ c : Nat, c < n → nS G c = nS g c ∧ ∀ s : Nat, s < nS g c → rowL G c s = rowL g c s ∧ plS G 0 c s = plS g 0 c s := fun c hc => code_keep hB (by omega) s f8 (fun j h0 h1 => a6 j (by omega)) (a5 c (by omega))
          refine ⟨⟨?_, ?_, ?_, ?_, ?_, ?_, ?_⟩, ?_, ?_, ?_, ?_, ?_, ?_⟩
          · unfold bdQ
            rw [a2, a3, f8, f10, f18]
            exact ⟨by omega, by omega, q8, q10, q18⟩
          · intro k h1 h2
            rw [a2] at h2
            omega
          · intro d d0 d1
            rw [a3] at d1
            by_cases e : d = n
            · subst e
              rw [a4]
              refine ⟨by omega, by omega, fun s s0 s1 => ?_⟩
              obtain ⟨s, rfl⟩ : ∃ s' : Nat, s = s' := ⟨s.toNat, by omega⟩
              obtain ⟨l1, l2⟩ := hL s (by omega)
              obtain ⟨o1, o2, o3⟩ := rdA_ok hgd b (s := s) (by omega)
              rw [l1]
              refine ⟨by omega, by omega, fun k k0 k1 => ?_⟩
              obtain ⟨j, rfl⟩ : ∃ j : Nat, k = 1 + j := ⟨(k - 1).toNat, by omega⟩
              rw [← Int.add_assoc, l2 j (by omega)]
              exact isR7_get o3 (by omega)
            · rw [a5 d e]
              obtain ⟨o1, o2, o3⟩ := hC d d0 (by omega)
              refine ⟨o1, o2, fun s s0 s1 => ?_⟩
              obtain ⟨p1, p2, p3⟩ := o3 s s0 s1
              rw [a6 _ (by omega)]
              refine ⟨p1, p2, fun k k0 k1 => ?_⟩
              rw [a6 _ (by omega)]
              exact p3 k k0 k1
          · unfold bdS
            rw [f8, s]
            exact hS
          · unfold bdW
            rw [f10, we]
            exact hW
          · rw [f10, f18, nr]
            exact hN
          · unfold bdK
            rw [f10, f22, f23, kw, kr]
            exact hK
          · exact RelS_cg (RelS_fr r1 (fun q h1 h2 => aX q (by omega) (by omega) (by omega) (by simp only [PC]; omega) (by simp only [pX]; omega))) s f8
          · unfold wL
            rw [we, f10]
            exact zRow_fr r2 (aX _ (by omega) (by omega) (by omega) (by simp only [PC]; omega) (by simp only [pX]; omega)) (aX _ (by omega) (by omega) (by omega) (by simp only [PC]; omega) (by simp only [pX]; omega))
          · unfold pL
            rw [a2]
            exact zRow_fr x3 (aC _ (by omega)) (aC _ (by omega))
          · refine ⟨by rw [aC pX (by decide), a3]; exact x2, fun d hd => ⟨fun hd5 => ?_, fun hd5 s hs => ?_⟩⟩
            · rw [a3] at hd5
              by_cases e : d = n
              · subst e
                rw [hnS]
                have hx : ∀ s, s < (rdA (fun k : Nat => g pM_page k) m).length → plS G 0 d s = pln g 0 (fun k => ((rdA (fun k => g pM_page k) m).getD s []).getD k 0) ((rdA (fun k => g pM_page k) m).getD s []).length := fun s' hs => by
                  obtain ⟨l1, l2⟩ := hL s' hs
                  obtain ⟨t1, t2, t3⟩ := rowL_of l1 l2
                  unfold plS
                  rw [t1, pln_G s f8]
                  exact pln_cg g 0 t2
                refine ⟨zCd_fr (zCd_cg x4 (fun i hi => hx i hi)) (fun q h1 h2 => aC q (by simp only [PC] at h2; omega)), fun s hs => ?_⟩
                obtain ⟨l1, l2⟩ := hL s hs
                rw [(rowL_of l1 l2).2.2]
                exact zRow_fr (x5 s hs) (aC _ (by simp only [PC]; omega)) (aC _ (by simp only [PC]; omega))
              · obtain ⟨k1, k2⟩ := hkeep d (by omega)
                obtain ⟨j1, j2⟩ := (r4.2 d hd).1 (by omega)
                obtain ⟨n1, n2, n3⟩ := nS_rg hB (c := (d : Int)) (by omega)
                rw [k1]
                refine ⟨zCd_fr (zCd_cg j1 (fun i hi => (k2 i hi).2)) (fun q h1 h2 => aX q (by simp only [PC] at h2; omega) (by simp only [PC] at h1; omega) (by simp only [PC] at h1; omega) (by simp only [PC] at h1 h2 ⊢; omega) (by simp only [PC, pX] at h1 ⊢; omega)), fun s hs => ?_⟩
                rw [(k2 s hs).1]
                exact zRow_fr (j2 s hs) (aX _ (by simp only [PC]; omega) (by simp only [PC]; omega) (by simp only [PC]; omega) (by simp only [PC]; omega) (by simp only [PC, pX]; omega)) (aX _ (by simp only [PC]; omega) (by simp only [PC]; omega) (by simp only [PC]; omega) (by simp only [PC]; omega) (by simp only [PC, pX]; omega))
            · rw [a3] at hd5
              exact zRow_fr ((r4.2 d hd).2 (by omega) s hs) (aX _ (by simp only [PC]; omega) (by simp only [PC]; omega) (by simp only [PC]; omega) (by simp only [PC]; omega) (by simp only [PC, pX]; omega)) (aX _ (by simp only [PC]; omega) (by simp only [PC]; omega) (by simp only [PC]; omega) (by simp only [PC]; omega) (by simp only [PC, pX]; omega))
          · rw [nr, f18]
            exact RelN_fr hQ.2.2.2.2.2 r5 (fun q h1 h2 => aX q (by omega) (by omega) (by omega) (by simp only [PC]; omega) (by simp only [pX]; omega))
          · exact RelK_cg (RelK_fr hB r6 (by rw [aC pX (by decide), x7 8 (by decide)]) (fun q h1 h2 => aX q (by omega) (by omega) (by omega) (by simp only [PC]; omega) (by simp only [pX]; omega))) f22 f23 kw kr
      · obtain ⟨g2, y1, y2, y3⟩ := M_faultOf xs hB
        rw [hm] at y3
        obtain ⟨z1, z2, z3, z4, z5, z6, z7⟩ := y3 a
        have c5 : g2 pM 5 = n := by rw [y2 pM 5 (by simp only [scM, pM, pM_page, pM_readRows, pM_speeches, pM_rows, pM_signalRows, pM_weights, pM_plain, pM_plains, pM_ahead, pM_heap, pM_noteRows, pM_ways, pM_before, pM_keptWeights, pM_keptRows, pX, pX_signals, pX_weights, pX_codes, pX_page, pX_notes, pX_keptWeights, pX_keptNotes, pX_said, pX_heard, pX_pool, pX_struck, pX_readings]; omega)]; exact hn
        have c1 : g2 pM 1 = g pM 1 := y2 pM 1 (by simp only [scM, pM, pM_page, pM_readRows, pM_speeches, pM_rows, pM_signalRows, pM_weights, pM_plain, pM_plains, pM_ahead, pM_heap, pM_noteRows, pM_ways, pM_before, pM_keptWeights, pM_keptRows, pX, pX_signals, pX_weights, pX_codes, pX_page, pX_notes, pX_keptWeights, pX_keptNotes, pX_said, pX_heard, pX_pool, pX_struck, pX_readings]; omega)
        have h4 : zsh[pX_codes - 1]? = some (102, [104, 145, 186, 227]) := rfl
        have h3 : g pX 3 = n := by rw [r4.1, hn]
        refine ⟨-104, g, g2, ?_, ?_, inv_scM hI y2⟩
        · rw [X0, if_pos (hE.mpr b), X28, if_pos a, e_X_code_50, pX_g_codesRead, h3, zw_id (by omega) (by omega), if_neg (by omega), pX_g_codesRead, h3, pX_r_codes, HH_ln h4 (by decide) (by show 100 ≤ 102; omega), if_neg (by show ¬ zw (n : Int) < zw 4; rw [show zw 4 = 4 from rfl, zw_id (by omega) (by omega)]; omega), e_X_code_69]
        · rw [e_M_code_0, pM_ck, y1, zci_ok, pM_g_pageMany, c1, if_neg (by rw [zw_id (by omega) (by omega), zw_id (by omega) (by omega)]; omega), pM_g_readLetters, z2, zw_id (by omega) (by omega), if_pos (by omega), e_M_code_21, pM_g_codes, c5, if_neg (by rw [show zw 4 = 4 from rfl, zw_id (by omega) (by omega)]; omega)]
    · obtain ⟨g2, y1, y2, y3⟩ := M_faultOf xs hB
      rw [hm] at y3
      obtain ⟨z1, z2, z3, z4, z5, z6, z7⟩ := y3 a
      have c1 : g2 pM 1 = g pM 1 := y2 pM 1 (by simp only [scM, pM, pM_page, pM_readRows, pM_speeches, pM_rows, pM_signalRows, pM_weights, pM_plain, pM_plains, pM_ahead, pM_heap, pM_noteRows, pM_ways, pM_before, pM_keptWeights, pM_keptRows, pX, pX_signals, pX_weights, pX_codes, pX_page, pX_notes, pX_keptWeights, pX_keptNotes, pX_said, pX_heard, pX_pool, pX_struck, pX_readings]; omega)
      refine ⟨-103, g, g2, ?_, ?_, inv_scM hI y2⟩
      · rw [X0, if_neg (fun z => b (hE.mp z))]
      · rw [e_M_code_0, pM_ck, y1, zci_ok, pM_g_pageMany, c1, if_neg (by rw [zw_id (by omega) (by omega), zw_id (by omega) (by omega)]; omega), pM_g_readLetters, z2, zw_id (by omega) (by omega), if_neg (by omega), M18]
  · obtain ⟨g2, y1, y2, y3⟩ := M_faultOf xs hB
    have c1 : g2 pM 1 = g pM 1 := y2 pM 1 (by simp only [scM, pM, pM_page, pM_readRows, pM_speeches, pM_rows, pM_signalRows, pM_weights, pM_plain, pM_plains, pM_ahead, pM_heap, pM_noteRows, pM_ways, pM_before, pM_keptWeights, pM_keptRows, pX, pX_signals, pX_weights, pX_codes, pX_page, pX_notes, pX_keptWeights, pX_keptNotes, pX_said, pX_heard, pX_pool, pX_struck, pX_readings]; omega)
    refine ⟨-103, g, g2, ?_, ?_, inv_scM hI y2⟩
    · rw [X0, X28, if_neg a]
      split <;> rfl
    · rw [e_M_code_0, pM_ck, y1, zci_ok, pM_g_pageMany, c1, if_pos (by rw [zw_id (by omega) (by omega), zw_id (by omega) (by omega)]; omega), M18]
