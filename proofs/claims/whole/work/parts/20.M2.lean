/-! ===== the reference: rows laid down plain ===== -/
theorem es_all {g1 g : Nat → Int → Int} (h : es g1 = es g) : g1 pM_page = g pM_page ∧ g1 pM_speeches = g pM_speeches ∧ g1 pM_rows = g pM_rows ∧ g1 pM_signalRows = g pM_signalRows ∧ g1 pM_weights = g pM_weights ∧ g1 pM_noteRows = g pM_noteRows ∧ g1 pM_keptWeights = g pM_keptWeights ∧ g1 pM_keptRows = g pM_keptRows ∧ g1 pM 1 = g pM 1 ∧ g1 pM 5 = g pM 5 ∧ g1 pM 8 = g pM 8 ∧ g1 pM 10 = g pM 10 ∧ g1 pM 18 = g pM 18 ∧ g1 pM 22 = g pM 22 ∧ g1 pM 23 = g pM 23 := by
  refine ⟨?_, ?_, ?_, ?_, ?_, ?_, ?_, ?_, ?_, ?_, ?_, ?_, ?_, ?_, ?_⟩
  · rw [← es_page g1, h, es_page]
  · rw [← es_speeches g1, h, es_speeches]
  · rw [← es_rows g1, h, es_rows]
  · rw [← es_sig g1, h, es_sig]
  · rw [← es_weights g1, h, es_weights]
  · rw [← es_noteRows g1, h, es_noteRows]
  · rw [← es_keptWeights g1, h, es_keptWeights]
  · rw [← es_keptRows g1, h, es_keptRows]
  · rw [← es_1 g1, h, es_1]
  · rw [← es_5 g1, h, es_5]
  · rw [← es_8 g1, h, es_8]
  · rw [← es_10 g1, h, es_10]
  · rw [← es_18 g1, h, es_18]
  · rw [← es_22 g1, h, es_22]
  · rw [← es_23 g1, h, es_23]
theorem es_Bd {g1 g : Nat → Int → Int} (h : es g1 = es g) (hb : Bd g) : Bd g1 := by
  obtain ⟨e1, e2, e3, e4, e5, e6, e7, e8, e9, e10, e11, e12, e13, e14, e15⟩ := es_all h
  unfold Bd bdQ bdP bdC bdS bdW bdK at hb ⊢
  rw [e1, e2, e3, e4, e5, e6, e7, e8, e9, e10, e11, e12, e13, e14, e15]
  exact hb
theorem es_kindS {g1 g : Nat → Int → Int} (h : es g1 = es g) : kindS g1 = kindS g := by
  obtain ⟨e1, e2, e3, e4, e5, e6, e7, e8, e9, e10, e11, e12, e13, e14, e15⟩ := es_all h
  funext s
  unfold kindS
  rw [e4, e11]
theorem es_stp {g1 g : Nat → Int → Int} (h : es g1 = es g) : stp g1 = stp g := by
  obtain ⟨e1, e2, e3, e4, e5, e6, e7, e8, e9, e10, e11, e12, e13, e14, e15⟩ := es_all h
  funext l s
  unfold stp
  rw [es_kindS h, e4]
theorem es_pln {g1 g : Nat → Int → Int} (h : es g1 = es g) : pln g1 = pln g := by
  funext st f n
  induction n with
  | zero => rfl
  | succ n ih => simp only [pln, ih, es_stp h]
/-- a speech's letters, and the speech plain -/
def rowS (G : Nat → Int → Int) (c s : Int) : Nat → Int := fun k => G pM_rows (48 * c + 6 * s + 1 + k)
def lenS (G : Nat → Int → Int) (c s : Int) : Nat := (G pM_rows (48 * c + 6 * s)).toNat
def plS (G : Nat → Int → Int) (st c s : Int) : List Int := pln G st (rowS G c s) (lenS G c s)
theorem es_rowS {g1 g : Nat → Int → Int} (h : es g1 = es g) : rowS g1 = rowS g := by
  obtain ⟨-, -, e3, -⟩ := es_all h
  funext c s k
  unfold rowS
  rw [e3]
theorem es_lenS {g1 g : Nat → Int → Int} (h : es g1 = es g) : lenS g1 = lenS g := by
  obtain ⟨-, -, e3, -⟩ := es_all h
  funext c s
  unfold lenS
  rw [e3]
theorem es_plS {g1 g : Nat → Int → Int} (h : es g1 = es g) : plS g1 = plS g := by
  funext st c s
  unfold plS
  rw [es_pln h, es_rowS h, es_lenS h]
theorem scP_es {g1 g : Nat → Int → Int} (h : zFr scP g g1) : es g1 = es g := es_scM (h.mono (fun _ _ => scP_M))
theorem scA_es {g1 g : Nat → Int → Int} (h : zFr scA g g1) : es g1 = es g := es_scM (h.mono (fun _ _ => scA_M))
theorem lenS_rg {g : Nat → Int → Int} (hb : bdC g) {c s : Int} (hc : 0 ≤ c ∧ c < g pM 5) (hs : 0 ≤ s ∧ s < g pM_speeches c) : 1 ≤ lenS g c s ∧ lenS g c s ≤ 5 ∧ g pM_rows (48 * c + 6 * s) = lenS g c s ∧ ∀ k : Nat, k < lenS g c s → 0 ≤ rowS g c s k ∧ rowS g c s k ≤ 7 := by
  obtain ⟨-, -, h⟩ := hb c hc.1 hc.2
  obtain ⟨h1, h2, h3⟩ := h s hs.1 hs.2
  have e : g pM_rows (48 * c + 6 * s) = lenS g c s := by unfold lenS; omega
  refine ⟨by omega, by omega, e, fun k hk => ?_⟩
  have := h3 (1 + k) (by omega) (by omega)
  unfold rowS
  rw [show 48 * c + 6 * s + 1 + (k : Int) = 48 * c + 6 * s + (1 + k) by omega]
  exact this
theorem plS_len {g : Nat → Int → Int} (hb : bdC g) {c s : Int} (hc : 0 ≤ c ∧ c < g pM 5) (hs : 0 ≤ s ∧ s < g pM_speeches c) (st : Int) : (plS g st c s).length ≤ 10 := by
  have h1 := pln_len g st (rowS g c s) (lenS g c s)
  have h2 := (lenS_rg hb hc hs).2.1
  unfold plS
  omega
theorem M_layPlain_loop (xs : List Int) (g : Nat → Int → Int) (c s st : Int) (hB : Bd g) (hc : 0 ≤ c ∧ c < g pM 5) (hs : 0 ≤ s ∧ s < g pM_speeches c) : ∀ (n i : Nat) (gi : Nat → Int → Int), i + n = lenS g c s → isPl gi (pln g st (rowS g c s) i) → zFr scP g gi → ∃ g1, zx zblk xs 21 19 [some (.inr (.inr (some pM))), none, none, some (.inl (st)), some (.inl (48 * c + 6 * s)), some (.inl ((i : Int) + 1))] [] (HH gi) = some (none, HH g1) ∧ isPl g1 (plS g st c s) ∧ zFr scP g g1 := by
  obtain ⟨hQ, -, hC, hS, -⟩ := hB
  obtain ⟨⟨-, -⟩, ⟨hc0, hc1⟩, -⟩ := id hQ
  obtain ⟨hs0, hs1, -⟩ := hC c hc.1 hc.2
  obtain ⟨l1, l2, l3, l4⟩ := lenS_rg hC hc hs
  intro n
  induction n with
  | zero =>
    intro i gi hi hl hf
    have er : gi pM_rows = g pM_rows := hf.at (fun j => by simp [scP, scA, scM, scX, pM, pM_page, pM_readRows, pM_speeches, pM_rows, pM_signalRows, pM_weights, pM_plain, pM_plains, pM_ahead, pM_heap, pM_noteRows, pM_ways, pM_before, pM_keptWeights, pM_keptRows, pX, pX_signals, pX_weights, pX_codes, pX_page, pX_notes, pX_keptWeights, pX_keptNotes, pX_said, pX_heard, pX_pool, pX_struck, pX_readings])
    have e1 : gi pM_rows (48 * c + 6 * s) = lenS g c s := by rw [er]; exact l3
    have hii : i = lenS g c s := by omega
    subst hii
    refine ⟨gi, ?_, hl, hf⟩
    rw [e_M_layPlain_19]
    simp (disch := omega) only [e1, e_M_layPlain_68, zci_ok, zcl_ok', zcr_ok, zcv_ok, zw_id, if_pos, if_neg, ne_eq, not_true_eq_false, not_false_eq_true, if_true, if_false, pM_ck, pM_r_page, pM_a_page, pM_s_page, pM_g_pageMany, pM_p_pageMany, pM_g_readMany, pM_p_readMany, pM_g_readLetters, pM_p_readLetters, pM_r_readRows, pM_a_readRows, pM_s_readRows, pM_g_codes, pM_p_codes, pM_r_speeches, pM_a_speeches, pM_s_speeches, pM_r_rows, pM_a_rows, pM_s_rows, pM_g_signals, pM_p_signals, pM_r_signalRows, pM_a_signalRows, pM_s_signalRows, pM_g_things, pM_p_things, pM_r_weights, pM_a_weights, pM_s_weights, pM_r_plain, pM_a_plain, pM_s_plain, pM_g_plainMany, pM_p_plainMany, pM_r_plains, pM_a_plains, pM_s_plains, pM_r_ahead, pM_a_ahead, pM_s_ahead, pM_g_least, pM_p_least, pM_r_heap, pM_a_heap, pM_s_heap, pM_g_notes, pM_p_notes, pM_r_noteRows, pM_a_noteRows, pM_s_noteRows, pM_r_ways, pM_a_ways, pM_s_ways, pM_r_before, pM_a_before, pM_s_before, pM_g_keptThings, pM_p_keptThings, pM_g_keptNotes, pM_p_keptNotes, pM_r_keptWeights, pM_a_keptWeights, pM_s_keptWeights, pM_r_keptRows, pM_a_keptRows, pM_s_keptRows, pM_g_hash, pM_p_hash]
  | succ n ih =>
    intro i gi hi hl hf
    have er : gi pM_rows = g pM_rows := hf.at (fun j => by simp [scP, scA, scM, scX, pM, pM_page, pM_readRows, pM_speeches, pM_rows, pM_signalRows, pM_weights, pM_plain, pM_plains, pM_ahead, pM_heap, pM_noteRows, pM_ways, pM_before, pM_keptWeights, pM_keptRows, pX, pX_signals, pX_weights, pX_codes, pX_page, pX_notes, pX_keptWeights, pX_keptNotes, pX_said, pX_heard, pX_pool, pX_struck, pX_readings])
    have e1 : gi pM_rows (48 * c + 6 * s) = lenS g c s := by rw [er]; exact l3
    have e2 : gi pM_rows (48 * c + 6 * s + ((i : Int) + 1)) = rowS g c s i := by
      rw [er]; unfold rowS; congr 1; omega
    have hee := scP_es hf
    have hBi : bdQ gi ∧ bdS gi := by
      obtain ⟨e1, e2, e3, e4, e5, e6, e7, e8, e9, e10, e11, e12, e13, e14, e15⟩ := es_all hee
      unfold bdQ bdS at *
      rw [e4, e9, e10, e11, e12, e13]
      exact ⟨hQ, hS⟩
    have hrow := l4 i (by omega)
    rw [e_M_layPlain_19]
    by_cases hbit : zand (zshr st (rowS g c s i)) 1 = 0
    · obtain ⟨g2, q1, q2, q3⟩ := M_stand xs gi (rowS g c s i) _ (zw_id (by omega) (by omega)) hBi.1 hBi.2 hl (by have := pln_len g st (rowS g c s) i; omega)
      obtain ⟨g1, r1, r2, r3⟩ := ih (i + 1) g2 (by omega) (by
        simp only [pln, hbit, ne_eq, not_true_eq_false, if_false]
        rw [← es_stp hee]
        exact q2) (hf.tr q3)
      refine ⟨g1, ?_, r2, r3⟩
      rw [← r1]
      simp (disch := omega) only [e1, e2, hbit, q1, e_M_layPlain_62, zci_ok, zcl_ok', zcr_ok, zcv_ok, zw_id, if_pos, if_neg, ne_eq, not_true_eq_false, not_false_eq_true, if_true, if_false, pM_ck, pM_r_page, pM_a_page, pM_s_page, pM_g_pageMany, pM_p_pageMany, pM_g_readMany, pM_p_readMany, pM_g_readLetters, pM_p_readLetters, pM_r_readRows, pM_a_readRows, pM_s_readRows, pM_g_codes, pM_p_codes, pM_r_speeches, pM_a_speeches, pM_s_speeches, pM_r_rows, pM_a_rows, pM_s_rows, pM_g_signals, pM_p_signals, pM_r_signalRows, pM_a_signalRows, pM_s_signalRows, pM_g_things, pM_p_things, pM_r_weights, pM_a_weights, pM_s_weights, pM_r_plain, pM_a_plain, pM_s_plain, pM_g_plainMany, pM_p_plainMany, pM_r_plains, pM_a_plains, pM_s_plains, pM_r_ahead, pM_a_ahead, pM_s_ahead, pM_g_least, pM_p_least, pM_r_heap, pM_a_heap, pM_s_heap, pM_g_notes, pM_p_notes, pM_r_noteRows, pM_a_noteRows, pM_s_noteRows, pM_r_ways, pM_a_ways, pM_s_ways, pM_r_before, pM_a_before, pM_s_before, pM_g_keptThings, pM_p_keptThings, pM_g_keptNotes, pM_p_keptNotes, pM_r_keptWeights, pM_a_keptWeights, pM_s_keptWeights, pM_r_keptRows, pM_a_keptRows, pM_s_keptRows, pM_g_hash, pM_p_hash]
      congr 6
    · obtain ⟨g1, r1, r2, r3⟩ := ih (i + 1) gi (by omega) (by
        simp only [pln, ne_eq, hbit, not_false_eq_true, if_true]
        exact hl) hf
      refine ⟨g1, ?_, r2, r3⟩
      rw [← r1]
      have hz : zw (zand (zshr st (rowS g c s i)) 1) ≠ 0 := by
        rw [zw_zand]; exact hbit
      simp (disch := omega) only [e1, e2, e_M_layPlain_62, hz, zci_ok, zcl_ok', zcr_ok, zcv_ok, zw_id, if_pos, if_neg, ne_eq, not_true_eq_false, not_false_eq_true, if_true, if_false, pM_ck, pM_r_page, pM_a_page, pM_s_page, pM_g_pageMany, pM_p_pageMany, pM_g_readMany, pM_p_readMany, pM_g_readLetters, pM_p_readLetters, pM_r_readRows, pM_a_readRows, pM_s_readRows, pM_g_codes, pM_p_codes, pM_r_speeches, pM_a_speeches, pM_s_speeches, pM_r_rows, pM_a_rows, pM_s_rows, pM_g_signals, pM_p_signals, pM_r_signalRows, pM_a_signalRows, pM_s_signalRows, pM_g_things, pM_p_things, pM_r_weights, pM_a_weights, pM_s_weights, pM_r_plain, pM_a_plain, pM_s_plain, pM_g_plainMany, pM_p_plainMany, pM_r_plains, pM_a_plains, pM_s_plains, pM_r_ahead, pM_a_ahead, pM_s_ahead, pM_g_least, pM_p_least, pM_r_heap, pM_a_heap, pM_s_heap, pM_g_notes, pM_p_notes, pM_r_noteRows, pM_a_noteRows, pM_s_noteRows, pM_r_ways, pM_a_ways, pM_s_ways, pM_r_before, pM_a_before, pM_s_before, pM_g_keptThings, pM_p_keptThings, pM_g_keptNotes, pM_p_keptNotes, pM_r_keptWeights, pM_a_keptWeights, pM_s_keptWeights, pM_r_keptRows, pM_a_keptRows, pM_s_keptRows, pM_g_hash, pM_p_hash]
      congr 6
theorem M_layPlain (xs : List Int) (g : Nat → Int → Int) (c s st : Int) (hB : Bd g) (hc : 0 ≤ c ∧ c < g pM 5) (hs : 0 ≤ s ∧ s < g pM_speeches c) : ∃ g1, zx zblk xs 21 0 [some (.inr (.inr (some pM))), some (.inl (c)), some (.inl (s)), some (.inl (st))] [] (HH g) = some (none, HH g1) ∧ isPl g1 (plS g st c s) ∧ zFr scP g g1 := by
  obtain ⟨g1, h1, h2, h3⟩ := M_layPlain_loop xs g c s st hB hc hs (lenS g c s) 0 (up g pM 13 0) (by omega) ⟨zPre_nil _, by rw [up_same]; rfl⟩ (zFr.rf.up (Or.inr ⟨rfl, rfl⟩))
  refine ⟨g1, ?_, h2, h3⟩
  rw [← h1, e_M_layPlain_0]
  simp (disch := omega) only [zci_ok, zcl_ok', zcr_ok, zcv_ok, zw_id, if_pos, if_neg, ne_eq, not_true_eq_false, not_false_eq_true, if_true, if_false, pM_ck, pM_r_page, pM_a_page, pM_s_page, pM_g_pageMany, pM_p_pageMany, pM_g_readMany, pM_p_readMany, pM_g_readLetters, pM_p_readLetters, pM_r_readRows, pM_a_readRows, pM_s_readRows, pM_g_codes, pM_p_codes, pM_r_speeches, pM_a_speeches, pM_s_speeches, pM_r_rows, pM_a_rows, pM_s_rows, pM_g_signals, pM_p_signals, pM_r_signalRows, pM_a_signalRows, pM_s_signalRows, pM_g_things, pM_p_things, pM_r_weights, pM_a_weights, pM_s_weights, pM_r_plain, pM_a_plain, pM_s_plain, pM_g_plainMany, pM_p_plainMany, pM_r_plains, pM_a_plains, pM_s_plains, pM_r_ahead, pM_a_ahead, pM_s_ahead, pM_g_least, pM_p_least, pM_r_heap, pM_a_heap, pM_s_heap, pM_g_notes, pM_p_notes, pM_r_noteRows, pM_a_noteRows, pM_s_noteRows, pM_r_ways, pM_a_ways, pM_s_ways, pM_r_before, pM_a_before, pM_s_before, pM_g_keptThings, pM_p_keptThings, pM_g_keptNotes, pM_p_keptNotes, pM_r_keptWeights, pM_a_keptWeights, pM_s_keptWeights, pM_r_keptRows, pM_a_keptRows, pM_s_keptRows, pM_g_hash, pM_p_hash]
  rfl
