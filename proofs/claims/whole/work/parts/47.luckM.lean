/-! ===== luck: the reference ===== -/
theorem scM_ways (j : Int) : scM pM_ways j := by simp [scP, scA, scM, scX, pM, pM_page, pM_readRows, pM_speeches, pM_rows, pM_signalRows, pM_weights, pM_plain, pM_plains, pM_ahead, pM_heap, pM_noteRows, pM_ways, pM_before, pM_keptWeights, pM_keptRows, pX, pX_signals, pX_weights, pX_codes, pX_page, pX_notes, pX_keptWeights, pX_keptNotes, pX_said, pX_heard, pX_pool, pX_struck, pX_readings]
theorem scM_before (j : Int) : scM pM_before j := by simp [scP, scA, scM, scX, pM, pM_page, pM_readRows, pM_speeches, pM_rows, pM_signalRows, pM_weights, pM_plain, pM_plains, pM_ahead, pM_heap, pM_noteRows, pM_ways, pM_before, pM_keptWeights, pM_keptRows, pX, pX_signals, pX_weights, pX_codes, pX_page, pX_notes, pX_keptWeights, pX_keptNotes, pX_said, pX_heard, pX_pool, pX_struck, pX_readings]
theorem scM_ahead (j : Int) : scM pM_ahead j := by simp [scP, scA, scM, scX, pM, pM_page, pM_readRows, pM_speeches, pM_rows, pM_signalRows, pM_weights, pM_plain, pM_plains, pM_ahead, pM_heap, pM_noteRows, pM_ways, pM_before, pM_keptWeights, pM_keptRows, pX, pX_signals, pX_weights, pX_codes, pX_page, pX_notes, pX_keptWeights, pX_keptNotes, pX_said, pX_heard, pX_pool, pX_struck, pX_readings]
theorem scM_heap (j : Int) : scM pM_heap j := by simp [scP, scA, scM, scX, pM, pM_page, pM_readRows, pM_speeches, pM_rows, pM_signalRows, pM_weights, pM_plain, pM_plains, pM_ahead, pM_heap, pM_noteRows, pM_ways, pM_before, pM_keptWeights, pM_keptRows, pX, pX_signals, pX_weights, pX_codes, pX_page, pX_notes, pX_keptWeights, pX_keptNotes, pX_said, pX_heard, pX_pool, pX_struck, pX_readings]
theorem scM_plain (j : Int) : scM pM_plain j := by simp [scP, scA, scM, scX, pM, pM_page, pM_readRows, pM_speeches, pM_rows, pM_signalRows, pM_weights, pM_plain, pM_plains, pM_ahead, pM_heap, pM_noteRows, pM_ways, pM_before, pM_keptWeights, pM_keptRows, pX, pX_signals, pX_weights, pX_codes, pX_page, pX_notes, pX_keptWeights, pX_keptNotes, pX_said, pX_heard, pX_pool, pX_struck, pX_readings]
theorem scM_readRows (j : Int) : scM pM_readRows j := by simp [scP, scA, scM, scX, pM, pM_page, pM_readRows, pM_speeches, pM_rows, pM_signalRows, pM_weights, pM_plain, pM_plains, pM_ahead, pM_heap, pM_noteRows, pM_ways, pM_before, pM_keptWeights, pM_keptRows, pX, pX_signals, pX_weights, pX_codes, pX_page, pX_notes, pX_keptWeights, pX_keptNotes, pX_said, pX_heard, pX_pool, pX_struck, pX_readings]
theorem scM_16 : scM pM 16 := by simp [scP, scA, scM, scX, pM, pM_page, pM_readRows, pM_speeches, pM_rows, pM_signalRows, pM_weights, pM_plain, pM_plains, pM_ahead, pM_heap, pM_noteRows, pM_ways, pM_before, pM_keptWeights, pM_keptRows, pX, pX_signals, pX_weights, pX_codes, pX_page, pX_notes, pX_keptWeights, pX_keptNotes, pX_said, pX_heard, pX_pool, pX_struck, pX_readings]
theorem scM_2 : scM pM 2 := by simp [scP, scA, scM, scX, pM, pM_page, pM_readRows, pM_speeches, pM_rows, pM_signalRows, pM_weights, pM_plain, pM_plains, pM_ahead, pM_heap, pM_noteRows, pM_ways, pM_before, pM_keptWeights, pM_keptRows, pX, pX_signals, pX_weights, pX_codes, pX_page, pX_notes, pX_keptWeights, pX_keptNotes, pX_said, pX_heard, pX_pool, pX_struck, pX_readings]
theorem scM_3 : scM pM 3 := by simp [scP, scA, scM, scX, pM, pM_page, pM_readRows, pM_speeches, pM_rows, pM_signalRows, pM_weights, pM_plain, pM_plains, pM_ahead, pM_heap, pM_noteRows, pM_ways, pM_before, pM_keptWeights, pM_keptRows, pX, pX_signals, pX_weights, pX_codes, pX_page, pX_notes, pX_keptWeights, pX_keptNotes, pX_said, pX_heard, pX_pool, pX_struck, pX_readings]
theorem scM_13 : scM pM 13 := by simp [scP, scA, scM, scX, pM, pM_page, pM_readRows, pM_speeches, pM_rows, pM_signalRows, pM_weights, pM_plain, pM_plains, pM_ahead, pM_heap, pM_noteRows, pM_ways, pM_before, pM_keptWeights, pM_keptRows, pX, pX_signals, pX_weights, pX_codes, pX_page, pX_notes, pX_keptWeights, pX_keptNotes, pX_said, pX_heard, pX_pool, pX_struck, pX_readings]
theorem scM_26 : scM pM 26 := by simp [scP, scA, scM, scX, pM, pM_page, pM_readRows, pM_speeches, pM_rows, pM_signalRows, pM_weights, pM_plain, pM_plains, pM_ahead, pM_heap, pM_noteRows, pM_ways, pM_before, pM_keptWeights, pM_keptRows, pX, pX_signals, pX_weights, pX_codes, pX_page, pX_notes, pX_keptWeights, pX_keptNotes, pX_said, pX_heard, pX_pool, pX_struck, pX_readings]
theorem M_luck (xs : List Int) (g : Nat → Int → Int) {n k r p : Int} (hn : zw n = n) (hk : zw k = k) (hr : zw r = r) (hp : zw p = p) : ∃ g1, zx zblk xs 70 0 [some (.inr (.inr (some pM))), some (.inl (n)), some (.inl (k)), some (.inl (r)), some (.inl (p))] [] (HH g) = some (some (.inr (.inl (luS n k r p))), HH g1) ∧ zFr scM g g1 := by
  have e45 : zx zblk xs 70 45 [] [] (HH g) = some (some (.inr (.inl (-102))), HH g) := e_M_luck_45 xs _
  have b1 := zw_lo n
  have b2 := zw_hi n
  rw [hn] at b1 b2
  rw [e_M_luck_0, M_in' xs _ hn rfl rfl, zci_ok, zb_zw, e45]
  unfold luS
  by_cases c1 : 1 ≤ n ∧ n ≤ 12
  · rw [zb_t c1, if_neg (by decide), M_in' xs _ hk rfl rfl, zci_ok, zb_zw, e45]
    by_cases c2 : 2 ≤ k ∧ k ≤ 9
    · rw [zb_t c2, if_neg (by decide), hn, M_in' xs _ hr rfl (zwl_id (by omega) (by omega)), zci_ok, zb_zw, e45]
      by_cases c3 : 0 ≤ r ∧ r ≤ n
      · rw [zb_t c3, if_neg (by decide), M_isPart' xs _ hp, zci_ok, zb_zw, e45]
        by_cases c4 : p = 0 ∨ p = 1
        · rw [zb_t c4, if_pos (by decide), if_pos ⟨c1, c2, c3, c4⟩, e_M_luck_49]
          obtain ⟨n', rfl⟩ : ∃ n' : Nat, n = n' := ⟨n.toNat, by omega⟩
          obtain ⟨r', rfl⟩ : ∃ r' : Nat, r = r' := ⟨r.toNat, by omega⟩
          have init : ∀ (m j : Nat) (gk : Nat → Int → Int), j + m = 13 → (∀ i : Nat, i < j → gk pM_ways i = wy (k - 1) 0 i) → zFr scM g gk → ∃ g1, zx zblk xs 70 52 [some (.inr (.inr (some pM))), some (.inl ((n' : Int))), some (.inl (k)), some (.inl ((r' : Int))), some (.inl (p)), some (.inl ((j : Int)))] [] (HH gk) = zx zblk xs 70 82 [some (.inr (.inr (some pM))), some (.inl ((n' : Int))), some (.inl (k)), some (.inl ((r' : Int))), some (.inl (p))] [] (HH g1) ∧ (∀ i : Nat, i < 13 → g1 pM_ways i = wy (k - 1) 0 i) ∧ zFr scM g g1 := by
            intro m
            induction m with
            | zero =>
              intro j gk hj hw hf
              refine ⟨gk, ?_, fun i hi => hw i (by omega), hf⟩
              rw [e_M_luck_52, if_pos (by rw [show zw 13 = 13 from rfl, zw_id (by omega) (by omega)]; omega)]
            | succ m ih =>
              intro j gk hj hw hf
              obtain ⟨g1, q1, q2, q3⟩ := ih (j + 1) (up gk pM_ways (j : Int) (wy (k - 1) 0 j)) (by omega) (fun i hi => by
                by_cases e : i = j
                · subst e; rw [up_same]
                · rw [up_ne _ _ (by omega)]; exact hw i (by omega)) (hf.up (scM_ways _))
              refine ⟨g1, ?_, q2, q3⟩
              rw [← q1, e_M_luck_52, if_neg (by rw [show zw 13 = 13 from rfl, zw_id (by omega) (by omega)]; omega), pM_r_ways, zw_id (a := (j : Int)) (by omega) (by omega)]
              by_cases j0 : j = 0
              · subst j0
                rw [if_neg (by omega), e_M_luck_75, pM_s_ways _ _ (by omega) (by omega)]
                rfl
              · rw [if_pos (by omega), e_M_luck_74, e_M_luck_75, pM_s_ways _ _ (by omega) (by omega), Int.natCast_succ]
                obtain ⟨j', rfl⟩ : ∃ j', j = j' + 1 := ⟨j - 1, by omega⟩
                rfl
          have round : ∀ (i : Nat) (v5 : Int) (t : Nat) (gk : Nat → Int → Int), t ≤ n' + 1 → (∀ j : Nat, j < t → gk pM_ways j = wy (k - 1) i j) → (∀ j : Nat, t ≤ j → j ≤ n' → gk pM_ways j = wy (k - 1) (i + 1) j) → zFr scM g gk → ∃ g1, zx zblk xs 70 104 [some (.inr (.inr (some pM))), some (.inl ((n' : Int))), some (.inl (k)), some (.inl ((r' : Int))), some (.inl (p)), some (.inr (.inl (v5))), none, some (.inl ((i : Int))), some (.inl ((t : Int) + (-1)))] [] (HH gk) = zx zblk xs 70 153 [some (.inr (.inr (some pM))), some (.inl ((n' : Int))), some (.inl (k)), some (.inl ((r' : Int))), some (.inl (p)), some (.inr (.inl (v5))), none, some (.inl ((i : Int)))] [] (HH g1) ∧ (∀ j : Nat, j ≤ n' → g1 pM_ways j = wy (k - 1) (i + 1) j) ∧ zFr scM g g1 := by
            intro i v5 t
            induction t with
            | zero =>
              intro gk ht h1 h2 hf
              refine ⟨gk, ?_, fun j hj => h2 j (by omega) hj, hf⟩
              rw [e_M_luck_104, if_pos (by rw [zw_id (by omega) (by omega)]; omega)]
            | succ t ih =>
              intro gk ht h1 h2 hf
              obtain ⟨g1, q1, q2, q3⟩ := ih (up gk pM_ways (t : Int) (wy (k - 1) (i + 1) t)) (by omega) (fun j hj => by rw [up_ne _ _ (by omega)]; exact h1 j (by omega)) (fun j hj hj' => by
                by_cases e : j = t
                · subst e; rw [up_same]
                · rw [up_ne _ _ (by omega)]; exact h2 j (by omega) hj') (hf.up (scM_ways _))
              refine ⟨g1, ?_, q2, q3⟩
              have et : ((t + 1 : Nat) : Int) + (-1) = t := by omega
              rw [← q1, et, e_M_luck_104, zw_id (a := (t : Int)) (by omega) (by omega), if_neg (by omega), pM_r_ways, pM_r_ways, pM_a_ways xs _ (by omega) (by omega), h1 t (by omega), zw_id (a := k - 1) (by omega) (by omega)]
              by_cases t0 : t = 0
              · subst t0
                rw [if_pos (by omega), e_M_luck_144, e_M_luck_145, pM_s_ways _ _ (by omega) (by omega)]
                rfl
              · obtain ⟨t', rfl⟩ : ∃ t', t = t' + 1 := ⟨t - 1, by omega⟩
                have h1' := h1 t' (by omega)
                rw [if_neg (by omega), pM_r_ways, pM_a_ways xs _ (by omega) (by omega), show ((t' + 1 : Nat) : Int) - 1 = (t' : Int) by omega, h1', e_M_luck_145, pM_s_ways _ _ (by omega) (by omega)]
                rfl
          have rounds : ∀ (m i : Nat) (gk : Nat → Int → Int), i + m = n' → (∀ j : Nat, j ≤ n' → gk pM_ways j = wy (k - 1) i j) → zFr scM g gk → ∃ g1, zx zblk xs 70 88 [some (.inr (.inr (some pM))), some (.inl ((n' : Int))), some (.inl (k)), some (.inl ((r' : Int))), some (.inl (p)), some (.inr (.inl (k ^ i))), none, some (.inl ((i : Int)))] [] (HH gk) = zx zblk xs 70 159 [some (.inr (.inr (some pM))), some (.inl ((n' : Int))), none, some (.inl ((r' : Int))), some (.inl (p)), some (.inr (.inl (k ^ n')))] [] (HH g1) ∧ (∀ j : Nat, j ≤ n' → g1 pM_ways j = wy (k - 1) n' j) ∧ zFr scM g g1 := by
            intro m
            induction m with
            | zero =>
              intro i gk hi hw hf
              have : i = n' := by omega
              subst this
              refine ⟨gk, ?_, hw, hf⟩
              rw [e_M_luck_88, if_pos (Int.le_refl _)]
            | succ m ih =>
              intro i gk hi hw hf
              obtain ⟨g2, p1, p2, p3⟩ := round i (k ^ i * k) (n' + 1) gk (Nat.le_refl _) (fun j hj => hw j (by omega)) (fun j hj hj' => by omega) hf
              obtain ⟨g1, q1, q2, q3⟩ := ih (i + 1) g2 (by omega) p2 p3
              refine ⟨g1, ?_, q2, q3⟩
              rw [show ((n' + 1 : Nat) : Int) + (-1) = (n' : Int) by omega] at p1
              rw [Int.pow_succ, Int.natCast_succ] at q1
              rw [e_M_luck_88, if_neg (by rw [zw_id (by omega) (by omega), zw_id (by omega) (by omega)]; omega), hk, p1, e_M_luck_153, q1]
          obtain ⟨g1, q1, q2, q3⟩ := init 13 0 g (by omega) (fun i hi => by omega) zFr.rf
          obtain ⟨g2, r1, r2, r3⟩ := rounds n' 0 g1 (by omega) (fun j hj => q2 j (by omega)) q3
          refine ⟨g2, ?_, r3⟩
          have hh := zloop (fun t : Nat => zx zblk xs 70 165 [some (.inr (.inr (some pM))), some (.inl ((n' : Int))), none, none, some (.inl (p)), some (.inr (.inl (k ^ n'))), none, some (.inr (.inl (zsum (fun t => wy (k - 1) n' (r' + t)) t))), none, some (.inl (((r' + t : Nat) : Int)))] [] (HH g2)) (n' + 1 - r') (fun t ht => by
            rw [e_M_luck_165, if_neg (by rw [zw_id (by omega) (by omega), zw_id (by omega) (by omega)]; omega), pM_r_ways, pM_a_ways xs _ (by omega) (by omega), r2 (r' + t) (by omega), zsum, ← Int.natCast_succ, Nat.succ_eq_add_one, Nat.add_assoc])
          have hlu := luO_rg c1 c2 c3
          have hpo := pow_ok k.toNat (by omega) n' (by omega)
          rw [Int.toNat_of_nonneg (by omega)] at hpo
          have hk0 := hpo.2.2 (by omega)
          have ht := M_term xs (HH g2) (a := (luO n' k r').toNat) (b := (k ^ n').toNat) hp (by omega) (by omega) (by omega)
          rw [Int.toNat_of_nonneg hlu.1, Int.toNat_of_nonneg (by omega)] at ht
          rw [z0N] at q1
          rw [Int.pow_zero, z0N] at r1
          rw [q1, e_M_luck_82, r1, e_M_luck_159]
          refine Eq.trans ?_ (hh.trans ?_)
          · rfl
          · rw [e_M_luck_165, if_pos (by rw [zw_id (by omega) (by omega), zw_id (by omega) (by omega)]; omega), e_M_luck_189, show zsum (fun t => wy (k - 1) n' (r' + t)) (n' + 1 - r') = luO n' k r' by unfold luO; rw [show ((n' : Int) + 1 - (r' : Int)).toNat = n' + 1 - r' by omega]; rfl, ht, zcl_ok']
            rfl
        · exact ⟨g, by rw [zb_f c4, if_neg (by decide), if_neg (fun z => c4 z.2.2.2)], zFr.rf⟩
      · exact ⟨g, by rw [zb_f c3, if_pos rfl, if_neg (fun z => c3 z.2.2.1)], zFr.rf⟩
    · exact ⟨g, by rw [zb_f c2, if_pos rfl, if_neg (fun z => c2 z.2.1)], zFr.rf⟩
  · exact ⟨g, by rw [zb_f c1, if_pos rfl, if_neg (fun z => c1 z.1)], zFr.rf⟩
