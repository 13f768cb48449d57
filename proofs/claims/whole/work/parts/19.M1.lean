/-! ===== the reference: signals and rows ===== -/
theorem M_isSignal (xs : List Int) (g : Nat → Int → Int) (c : Int) (h0 : 0 ≤ g pM 8) (h1 : g pM 8 ≤ 100) : zx zblk xs 11 0 [some (.inr (.inr (some pM))), some (.inl (c))] [] (HH g) = some (some (.inl (zb (0 ≤ zw c ∧ zw c < g pM 8))), HH g) := by
  rw [e_M_isSignal_0, pM_g_signals, zw_id (a := g pM 8 - 1) (by omega) (by omega), M_in xs (zw c) 0 (g pM 8 - 1) (HH g) (zwl_zw c) (by rfl) (zwl_id (by omega) (by omega)), zci_ok, if_pos (zb_01 _)]
  congr 4
  simp only [zb]
  congr 1
  apply propext
  omega
theorem M_isThing (xs : List Int) (g : Nat → Int → Int) (c : Int) (h0 : 0 ≤ g pM 10) (h1 : g pM 10 ≤ 100) : zx zblk xs 15 0 [some (.inr (.inr (some pM))), some (.inl (c))] [] (HH g) = some (some (.inl (zb (0 ≤ zw c ∧ zw c < g pM 10))), HH g) := by
  rw [e_M_isThing_0, pM_g_things, zw_id (a := g pM 10 - 1) (by omega) (by omega), M_in xs (zw c) 0 (g pM 10 - 1) (HH g) (zwl_zw c) (by rfl) (zwl_id (by omega) (by omega)), zci_ok, if_pos (zb_01 _)]
  congr 4
  simp only [zb]
  congr 1
  apply propext
  omega
theorem M_isPart (xs : List Int) (c : Int) (h : zH) : zx zblk xs 43 0 [some (.inl (c))] [] h = some (some (.inl (zb (zw c = 0 ∨ zw c = 1))), h) := by
  rw [e_M_isPart_0, M_in xs (zw c) 0 1 h (zwl_zw c) (by rfl) (by rfl), zci_ok, if_pos (zb_01 _)]
  congr 4
  simp only [zb]
  congr 1
  apply propext
  omega
theorem M_kindOf (xs : List Int) (g : Nat → Int → Int) (s : Int) (hs : zw s = s) (hb : bdQ g) : zx zblk xs 17 0 [some (.inr (.inr (some pM))), some (.inl (s))] [] (HH g) = some (some (.inl (kindS g s)), HH g) := by
  obtain ⟨-, -, ⟨h0, h1⟩, -, -⟩ := hb
  rw [e_M_kindOf_0, pM_ck, M_isSignal xs g s h0 (by omega), zci_ok, zb_zw, hs]
  unfold kindS
  by_cases h : 0 ≤ s ∧ s < g pM 8
  · rw [zb_t h, if_pos h]
    simp (disch := omega) only [e_M_kindOf_20, zci_ok, zcl_ok', zcr_ok, zcv_ok, zw_id, if_pos, if_neg, ne_eq, not_true_eq_false, not_false_eq_true, if_true, if_false, pM_ck, pM_r_page, pM_a_page, pM_s_page, pM_g_pageMany, pM_p_pageMany, pM_g_readMany, pM_p_readMany, pM_g_readLetters, pM_p_readLetters, pM_r_readRows, pM_a_readRows, pM_s_readRows, pM_g_codes, pM_p_codes, pM_r_speeches, pM_a_speeches, pM_s_speeches, pM_r_rows, pM_a_rows, pM_s_rows, pM_g_signals, pM_p_signals, pM_r_signalRows, pM_a_signalRows, pM_s_signalRows, pM_g_things, pM_p_things, pM_r_weights, pM_a_weights, pM_s_weights, pM_r_plain, pM_a_plain, pM_s_plain, pM_g_plainMany, pM_p_plainMany, pM_r_plains, pM_a_plains, pM_s_plains, pM_r_ahead, pM_a_ahead, pM_s_ahead, pM_g_least, pM_p_least, pM_r_heap, pM_a_heap, pM_s_heap, pM_g_notes, pM_p_notes, pM_r_noteRows, pM_a_noteRows, pM_s_noteRows, pM_r_ways, pM_a_ways, pM_s_ways, pM_r_before, pM_a_before, pM_s_before, pM_g_keptThings, pM_p_keptThings, pM_g_keptNotes, pM_p_keptNotes, pM_r_keptWeights, pM_a_keptWeights, pM_s_keptWeights, pM_r_keptRows, pM_a_keptRows, pM_s_keptRows, pM_g_hash, pM_p_hash]
  · rw [zb_f h, if_neg h, if_pos rfl, e_M_kindOf_19, e_M_kindOf_20]
theorem M_secondsOf (xs : List Int) (g : Nat → Int → Int) (s : Int) (hs : zw s = s) (hb : bdQ g) : zx zblk xs 18 0 [some (.inr (.inr (some pM))), some (.inl (s))] [] (HH g) = some (some (.inl (secS g s)), HH g) := by
  obtain ⟨-, -, ⟨h0, h1⟩, -, -⟩ := hb
  rw [e_M_secondsOf_0, pM_ck, M_isSignal xs g s h0 (by omega), zci_ok, zb_zw, hs]
  unfold secS
  by_cases h : 0 ≤ s ∧ s < g pM 8
  · rw [zb_t h, if_pos h]
    simp (disch := omega) only [e_M_secondsOf_22, zci_ok, zcl_ok', zcr_ok, zcv_ok, zw_id, if_pos, if_neg, ne_eq, not_true_eq_false, not_false_eq_true, if_true, if_false, pM_ck, pM_r_page, pM_a_page, pM_s_page, pM_g_pageMany, pM_p_pageMany, pM_g_readMany, pM_p_readMany, pM_g_readLetters, pM_p_readLetters, pM_r_readRows, pM_a_readRows, pM_s_readRows, pM_g_codes, pM_p_codes, pM_r_speeches, pM_a_speeches, pM_s_speeches, pM_r_rows, pM_a_rows, pM_s_rows, pM_g_signals, pM_p_signals, pM_r_signalRows, pM_a_signalRows, pM_s_signalRows, pM_g_things, pM_p_things, pM_r_weights, pM_a_weights, pM_s_weights, pM_r_plain, pM_a_plain, pM_s_plain, pM_g_plainMany, pM_p_plainMany, pM_r_plains, pM_a_plains, pM_s_plains, pM_r_ahead, pM_a_ahead, pM_s_ahead, pM_g_least, pM_p_least, pM_r_heap, pM_a_heap, pM_s_heap, pM_g_notes, pM_p_notes, pM_r_noteRows, pM_a_noteRows, pM_s_noteRows, pM_r_ways, pM_a_ways, pM_s_ways, pM_r_before, pM_a_before, pM_s_before, pM_g_keptThings, pM_p_keptThings, pM_g_keptNotes, pM_p_keptNotes, pM_r_keptWeights, pM_a_keptWeights, pM_s_keptWeights, pM_r_keptRows, pM_a_keptRows, pM_s_keptRows, pM_g_hash, pM_p_hash]
  · rw [zb_f h, if_neg h, if_pos rfl, e_M_secondsOf_21, e_M_secondsOf_22]
theorem M_oddOf (xs : List Int) (g : Nat → Int → Int) (s : Int) (hs : zw s = s) (hb : bdQ g) : zx zblk xs 19 0 [some (.inr (.inr (some pM))), some (.inl (s))] [] (HH g) = some (some (.inl (oddS g s)), HH g) := by
  obtain ⟨-, -, ⟨h0, h1⟩, -, -⟩ := hb
  rw [e_M_oddOf_0, pM_ck, M_isSignal xs g s h0 (by omega), zci_ok, zb_zw, hs]
  unfold oddS
  by_cases h : 0 ≤ s ∧ s < g pM 8
  · rw [zb_t h, if_pos h]
    simp (disch := omega) only [e_M_oddOf_22, zci_ok, zcl_ok', zcr_ok, zcv_ok, zw_id, if_pos, if_neg, ne_eq, not_true_eq_false, not_false_eq_true, if_true, if_false, pM_ck, pM_r_page, pM_a_page, pM_s_page, pM_g_pageMany, pM_p_pageMany, pM_g_readMany, pM_p_readMany, pM_g_readLetters, pM_p_readLetters, pM_r_readRows, pM_a_readRows, pM_s_readRows, pM_g_codes, pM_p_codes, pM_r_speeches, pM_a_speeches, pM_s_speeches, pM_r_rows, pM_a_rows, pM_s_rows, pM_g_signals, pM_p_signals, pM_r_signalRows, pM_a_signalRows, pM_s_signalRows, pM_g_things, pM_p_things, pM_r_weights, pM_a_weights, pM_s_weights, pM_r_plain, pM_a_plain, pM_s_plain, pM_g_plainMany, pM_p_plainMany, pM_r_plains, pM_a_plains, pM_s_plains, pM_r_ahead, pM_a_ahead, pM_s_ahead, pM_g_least, pM_p_least, pM_r_heap, pM_a_heap, pM_s_heap, pM_g_notes, pM_p_notes, pM_r_noteRows, pM_a_noteRows, pM_s_noteRows, pM_r_ways, pM_a_ways, pM_s_ways, pM_r_before, pM_a_before, pM_s_before, pM_g_keptThings, pM_p_keptThings, pM_g_keptNotes, pM_p_keptNotes, pM_r_keptWeights, pM_a_keptWeights, pM_s_keptWeights, pM_r_keptRows, pM_a_keptRows, pM_s_keptRows, pM_g_hash, pM_p_hash]
  · rw [zb_f h, if_neg h, if_pos rfl, e_M_oddOf_21, e_M_oddOf_22]
/-- the row that is laid down plain -/
def isPl (g : Nat → Int → Int) (l : List Int) : Prop := zPre (g pM_plain) l ∧ g pM 13 = l.length
theorem kindS_rg {g : Nat → Int → Int} (hb : bdS g) (s : Int) : 0 ≤ kindS g s ∧ kindS g s ≤ 4 := by
  unfold kindS
  split
  next h => exact ⟨(hb s h.1 h.2).1, (hb s h.1 h.2).2.1⟩
  next => omega
theorem kindS_2 {g : Nat → Int → Int} {s : Int} (h : kindS g s = 2) : 0 ≤ s ∧ s < g pM 8 := by
  unfold kindS at h
  split at h
  next h0 => exact h0
  next => omega
theorem M_stand (xs : List Int) (g : Nat → Int → Int) (s : Int) (l : List Int) (hs : zw s = s) (hq : bdQ g) (hb : bdS g) (hl : isPl g l) (hlen : l.length + 2 ≤ 96) : ∃ g1, zx zblk xs 20 0 [some (.inr (.inr (some pM))), some (.inl (s))] [] (HH g) = some (none, HH g1) ∧ isPl g1 (stp g l s) ∧ zFr scP g g1 := by
  have hk := kindS_rg hb s
  obtain ⟨hP, hn⟩ := hl
  rw [e_M_stand_0, pM_ck, M_kindOf xs g s hs hq, zci_ok]
  unfold stp
  by_cases h1 : kindS g s < 2
  · rw [if_pos h1]
    refine ⟨up (up g pM_plain (l.length : Int) s) pM 13 (l.length + 1), ?_, ⟨?_, ?_⟩, ?_⟩
    · have e1 : up g pM_plain (l.length : Int) s pM 13 = g pM 13 := up_q (by decide)
      simp (disch := omega) only [e_M_stand_114, hn, e1, zci_ok, zcl_ok', zcr_ok, zcv_ok, zw_id, if_pos, if_neg, ne_eq, not_true_eq_false, not_false_eq_true, if_true, if_false, pM_ck, pM_r_page, pM_a_page, pM_s_page, pM_g_pageMany, pM_p_pageMany, pM_g_readMany, pM_p_readMany, pM_g_readLetters, pM_p_readLetters, pM_r_readRows, pM_a_readRows, pM_s_readRows, pM_g_codes, pM_p_codes, pM_r_speeches, pM_a_speeches, pM_s_speeches, pM_r_rows, pM_a_rows, pM_s_rows, pM_g_signals, pM_p_signals, pM_r_signalRows, pM_a_signalRows, pM_s_signalRows, pM_g_things, pM_p_things, pM_r_weights, pM_a_weights, pM_s_weights, pM_r_plain, pM_a_plain, pM_s_plain, pM_g_plainMany, pM_p_plainMany, pM_r_plains, pM_a_plains, pM_s_plains, pM_r_ahead, pM_a_ahead, pM_s_ahead, pM_g_least, pM_p_least, pM_r_heap, pM_a_heap, pM_s_heap, pM_g_notes, pM_p_notes, pM_r_noteRows, pM_a_noteRows, pM_s_noteRows, pM_r_ways, pM_a_ways, pM_s_ways, pM_r_before, pM_a_before, pM_s_before, pM_g_keptThings, pM_p_keptThings, pM_g_keptNotes, pM_p_keptNotes, pM_r_keptWeights, pM_a_keptWeights, pM_s_keptWeights, pM_r_keptRows, pM_a_keptRows, pM_s_keptRows, pM_g_hash, pM_p_hash]
    · refine zPre_snoc hP ?_ (fun j h0 h1 => ?_)
      · rw [up_p _ _ _ (by decide), up_same]
      · rw [up_p _ _ _ (by decide), up_ne _ _ (by omega)]
    · rw [up_same]; simp
    · exact (zFr.rf.up (Or.inl rfl)).up (Or.inr ⟨rfl, rfl⟩)
  · rw [if_neg h1]
    by_cases h2 : kindS g s = 2
    · obtain ⟨h3, h4⟩ := kindS_2 h2
      obtain ⟨-, -, ⟨h5, h6⟩, -, -⟩ := hq
      rw [if_pos h2]
      refine ⟨up (up (up g pM_plain (l.length : Int) (g pM_signalRows (4 * s + 1))) pM_plain (l.length + 1 : Int) (g pM_signalRows (4 * s + 1))) pM 13 (l.length + 2), ?_, ⟨?_, ?_⟩, ?_⟩
      · have e1 : ∀ v, up g pM_plain (l.length : Int) v pM 13 = g pM 13 := fun v => up_q (by decide)
        have e2 : ∀ v j, up g pM_plain (l.length : Int) v pM_signalRows j = g pM_signalRows j := fun v j => up_q (by decide)
        have e3 : ∀ v w, up (up g pM_plain (l.length : Int) v) pM_plain (l.length + 1 : Int) w pM 13 = g pM 13 := fun v w => by rw [up_q (by decide), e1]
        simp (disch := omega) only [e_M_stand_34, e_M_stand_114, hn, e1, e2, e3, h2, zci_ok, zcl_ok', zcr_ok, zcv_ok, zw_id, if_pos, if_neg, ne_eq, not_true_eq_false, not_false_eq_true, if_true, if_false, pM_ck, pM_r_page, pM_a_page, pM_s_page, pM_g_pageMany, pM_p_pageMany, pM_g_readMany, pM_p_readMany, pM_g_readLetters, pM_p_readLetters, pM_r_readRows, pM_a_readRows, pM_s_readRows, pM_g_codes, pM_p_codes, pM_r_speeches, pM_a_speeches, pM_s_speeches, pM_r_rows, pM_a_rows, pM_s_rows, pM_g_signals, pM_p_signals, pM_r_signalRows, pM_a_signalRows, pM_s_signalRows, pM_g_things, pM_p_things, pM_r_weights, pM_a_weights, pM_s_weights, pM_r_plain, pM_a_plain, pM_s_plain, pM_g_plainMany, pM_p_plainMany, pM_r_plains, pM_a_plains, pM_s_plains, pM_r_ahead, pM_a_ahead, pM_s_ahead, pM_g_least, pM_p_least, pM_r_heap, pM_a_heap, pM_s_heap, pM_g_notes, pM_p_notes, pM_r_noteRows, pM_a_noteRows, pM_s_noteRows, pM_r_ways, pM_a_ways, pM_s_ways, pM_r_before, pM_a_before, pM_s_before, pM_g_keptThings, pM_p_keptThings, pM_g_keptNotes, pM_p_keptNotes, pM_r_keptWeights, pM_a_keptWeights, pM_s_keptWeights, pM_r_keptRows, pM_a_keptRows, pM_s_keptRows, pM_g_hash, pM_p_hash]
      · refine zPre_snoc (zPre_snoc hP ?_ (fun j h0 h1 => ?_) (f1 := up (up (up g pM_plain (l.length : Int) (g pM_signalRows (4 * s + 1))) pM_plain (l.length + 1 : Int) (g pM_signalRows (4 * s + 1))) pM 13 (l.length + 2) pM_plain)) ?_ (fun _ _ _ => rfl)
        · rw [up_p _ _ _ (by decide), up_ne _ _ (by omega), up_same]
        · rw [up_p _ _ _ (by decide), up_ne _ _ (by omega), up_ne _ _ (by omega)]
        · rw [up_p _ _ _ (by decide)]
          simp only [List.length_append, List.length_singleton]
          rw [show ((l.length + 1 : Nat) : Int) = (l.length : Int) + 1 by omega, up_same]
      · rw [up_same]; simp
      · exact ((zFr.rf.up (Or.inl rfl)).up (Or.inl rfl)).up (Or.inr ⟨rfl, rfl⟩)
    · rw [if_neg h2]
      by_cases h4 : kindS g s = 4
      · rw [if_pos h4]
        by_cases h0 : l.length = 0
        · refine ⟨g, ?_, ⟨zPre_drop hP, ?_⟩, zFr.rf⟩
          · simp (disch := omega) only [e_M_stand_34, e_M_stand_92, e_M_stand_114, hn, h4, zci_ok, zcl_ok', zcr_ok, zcv_ok, zw_id, if_pos, if_neg, ne_eq, not_true_eq_false, not_false_eq_true, if_true, if_false, pM_ck, pM_r_page, pM_a_page, pM_s_page, pM_g_pageMany, pM_p_pageMany, pM_g_readMany, pM_p_readMany, pM_g_readLetters, pM_p_readLetters, pM_r_readRows, pM_a_readRows, pM_s_readRows, pM_g_codes, pM_p_codes, pM_r_speeches, pM_a_speeches, pM_s_speeches, pM_r_rows, pM_a_rows, pM_s_rows, pM_g_signals, pM_p_signals, pM_r_signalRows, pM_a_signalRows, pM_s_signalRows, pM_g_things, pM_p_things, pM_r_weights, pM_a_weights, pM_s_weights, pM_r_plain, pM_a_plain, pM_s_plain, pM_g_plainMany, pM_p_plainMany, pM_r_plains, pM_a_plains, pM_s_plains, pM_r_ahead, pM_a_ahead, pM_s_ahead, pM_g_least, pM_p_least, pM_r_heap, pM_a_heap, pM_s_heap, pM_g_notes, pM_p_notes, pM_r_noteRows, pM_a_noteRows, pM_s_noteRows, pM_r_ways, pM_a_ways, pM_s_ways, pM_r_before, pM_a_before, pM_s_before, pM_g_keptThings, pM_p_keptThings, pM_g_keptNotes, pM_p_keptNotes, pM_r_keptWeights, pM_a_keptWeights, pM_s_keptWeights, pM_r_keptRows, pM_a_keptRows, pM_s_keptRows, pM_g_hash, pM_p_hash]
          · rw [hn]; simp; omega
        · refine ⟨up g pM 13 (l.length - 1), ?_, ⟨?_, ?_⟩, zFr.rf.up (Or.inr ⟨rfl, rfl⟩)⟩
          · simp (disch := omega) only [e_M_stand_34, e_M_stand_92, e_M_stand_114, hn, h4, zci_ok, zcl_ok', zcr_ok, zcv_ok, zw_id, if_pos, if_neg, ne_eq, not_true_eq_false, not_false_eq_true, if_true, if_false, pM_ck, pM_r_page, pM_a_page, pM_s_page, pM_g_pageMany, pM_p_pageMany, pM_g_readMany, pM_p_readMany, pM_g_readLetters, pM_p_readLetters, pM_r_readRows, pM_a_readRows, pM_s_readRows, pM_g_codes, pM_p_codes, pM_r_speeches, pM_a_speeches, pM_s_speeches, pM_r_rows, pM_a_rows, pM_s_rows, pM_g_signals, pM_p_signals, pM_r_signalRows, pM_a_signalRows, pM_s_signalRows, pM_g_things, pM_p_things, pM_r_weights, pM_a_weights, pM_s_weights, pM_r_plain, pM_a_plain, pM_s_plain, pM_g_plainMany, pM_p_plainMany, pM_r_plains, pM_a_plains, pM_s_plains, pM_r_ahead, pM_a_ahead, pM_s_ahead, pM_g_least, pM_p_least, pM_r_heap, pM_a_heap, pM_s_heap, pM_g_notes, pM_p_notes, pM_r_noteRows, pM_a_noteRows, pM_s_noteRows, pM_r_ways, pM_a_ways, pM_s_ways, pM_r_before, pM_a_before, pM_s_before, pM_g_keptThings, pM_p_keptThings, pM_g_keptNotes, pM_p_keptNotes, pM_r_keptWeights, pM_a_keptWeights, pM_s_keptWeights, pM_r_keptRows, pM_a_keptRows, pM_s_keptRows, pM_g_hash, pM_p_hash]
          · rw [up_p _ _ _ (by decide)]; exact zPre_drop hP
          · rw [up_same]; simp; omega
      · rw [if_neg h4]
        refine ⟨g, ?_, ⟨hP, hn⟩, zFr.rf⟩
        simp (disch := omega) only [e_M_stand_34, e_M_stand_92, e_M_stand_114, zci_ok, zcl_ok', zcr_ok, zcv_ok, zw_id, if_pos, if_neg, ne_eq, not_true_eq_false, not_false_eq_true, if_true, if_false, pM_ck, pM_r_page, pM_a_page, pM_s_page, pM_g_pageMany, pM_p_pageMany, pM_g_readMany, pM_p_readMany, pM_g_readLetters, pM_p_readLetters, pM_r_readRows, pM_a_readRows, pM_s_readRows, pM_g_codes, pM_p_codes, pM_r_speeches, pM_a_speeches, pM_s_speeches, pM_r_rows, pM_a_rows, pM_s_rows, pM_g_signals, pM_p_signals, pM_r_signalRows, pM_a_signalRows, pM_s_signalRows, pM_g_things, pM_p_things, pM_r_weights, pM_a_weights, pM_s_weights, pM_r_plain, pM_a_plain, pM_s_plain, pM_g_plainMany, pM_p_plainMany, pM_r_plains, pM_a_plains, pM_s_plains, pM_r_ahead, pM_a_ahead, pM_s_ahead, pM_g_least, pM_p_least, pM_r_heap, pM_a_heap, pM_s_heap, pM_g_notes, pM_p_notes, pM_r_noteRows, pM_a_noteRows, pM_s_noteRows, pM_r_ways, pM_a_ways, pM_s_ways, pM_r_before, pM_a_before, pM_s_before, pM_g_keptThings, pM_p_keptThings, pM_g_keptNotes, pM_p_keptNotes, pM_r_keptWeights, pM_a_keptWeights, pM_s_keptWeights, pM_r_keptRows, pM_a_keptRows, pM_s_keptRows, pM_g_hash, pM_p_hash]
