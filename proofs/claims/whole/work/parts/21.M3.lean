/-! ===== the reference: all speeches plain, how long ===== -/
/-- the lists that stand in the reference's rows of plain speeches -/
def isAll (g1 : Nat → Int → Int) (L : Nat → List Int) (n : Nat) : Prop := ∀ i : Nat, i < n → g1 pM_plains (11 * i) = (L i).length ∧ zPre (fun k => g1 pM_plains (11 * i + 1 + k)) (L i)
theorem isAll_fr {g g1 : Nat → Int → Int} {L : Nat → List Int} {n : Nat} (h : isAll g L n) (e : g1 pM_plains = g pM_plains) : isAll g1 L n := by
  unfold isAll
  rw [e]
  exact h
theorem z0N : ((0 : Nat) : Int) = 0 := rfl
theorem M_layAll_copy (xs : List Int) (g : Nat → Int → Int) (c st : Int) (i : Nat) (l : List Int) (hi : i < 8) (hlen : l.length ≤ 10) (hpl : isPl g l) : ∀ (n k : Nat) (gk : Nat → Int → Int), k + n = l.length → zFr (fun q j => q = pM_plains ∧ 11 * (i : Int) < j ∧ j ≤ 11 * i + 10) g gk → (∀ j : Nat, j < k → gk pM_plains (11 * i + 1 + j) = l.getD j 0) → ∃ g1, zx zblk xs 22 35 [some (.inr (.inr (some pM))), some (.inl (c)), some (.inl (st)), some (.inl ((i : Int))), some (.inl ((k : Int)))] [] (HH gk) = zx zblk xs 22 71 [some (.inr (.inr (some pM))), some (.inl (c)), some (.inl (st)), some (.inl ((i : Int)))] [] (HH g1) ∧ zFr (fun q j => q = pM_plains ∧ 11 * (i : Int) < j ∧ j ≤ 11 * i + 10) g g1 ∧ zPre (fun k => g1 pM_plains (11 * i + 1 + k)) l := by
  obtain ⟨hP, hn⟩ := hpl
  intro n
  induction n with
  | zero =>
    intro k gk hk hf hc
    have hk' : k = l.length := by omega
    subst hk'
    have e1 : gk pM 13 = l.length := by rw [hf pM 13 (by simp [scP, scA, scM, scX, pM, pM_page, pM_readRows, pM_speeches, pM_rows, pM_signalRows, pM_weights, pM_plain, pM_plains, pM_ahead, pM_heap, pM_noteRows, pM_ways, pM_before, pM_keptWeights, pM_keptRows, pX, pX_signals, pX_weights, pX_codes, pX_page, pX_notes, pX_keptWeights, pX_keptNotes, pX_said, pX_heard, pX_pool, pX_struck, pX_readings])]; exact hn
    refine ⟨gk, ?_, hf, fun j v hj => ?_⟩
    · rw [e_M_layAll_35]
      simp (disch := omega) only [e1, zci_ok, zcl_ok', zcr_ok, zcv_ok, zw_id, if_pos, if_neg, ne_eq, not_true_eq_false, not_false_eq_true, if_true, if_false, pM_ck, pM_r_page, pM_a_page, pM_s_page, pM_g_pageMany, pM_p_pageMany, pM_g_readMany, pM_p_readMany, pM_g_readLetters, pM_p_readLetters, pM_r_readRows, pM_a_readRows, pM_s_readRows, pM_g_codes, pM_p_codes, pM_r_speeches, pM_a_speeches, pM_s_speeches, pM_r_rows, pM_a_rows, pM_s_rows, pM_g_signals, pM_p_signals, pM_r_signalRows, pM_a_signalRows, pM_s_signalRows, pM_g_things, pM_p_things, pM_r_weights, pM_a_weights, pM_s_weights, pM_r_plain, pM_a_plain, pM_s_plain, pM_g_plainMany, pM_p_plainMany, pM_r_plains, pM_a_plains, pM_s_plains, pM_r_ahead, pM_a_ahead, pM_s_ahead, pM_g_least, pM_p_least, pM_r_heap, pM_a_heap, pM_s_heap, pM_g_notes, pM_p_notes, pM_r_noteRows, pM_a_noteRows, pM_s_noteRows, pM_r_ways, pM_a_ways, pM_s_ways, pM_r_before, pM_a_before, pM_s_before, pM_g_keptThings, pM_p_keptThings, pM_g_keptNotes, pM_p_keptNotes, pM_r_keptWeights, pM_a_keptWeights, pM_s_keptWeights, pM_r_keptRows, pM_a_keptRows, pM_s_keptRows, pM_g_hash, pM_p_hash]
    · have := (List.getElem?_eq_some_iff.mp hj).1
      show gk pM_plains (11 * i + 1 + j) = v
      rw [hc j this]
      simp [List.getD, hj]
  | succ n ih =>
    intro k gk hk hf hc
    have e1 : gk pM 13 = l.length := by rw [hf pM 13 (by simp [scP, scA, scM, scX, pM, pM_page, pM_readRows, pM_speeches, pM_rows, pM_signalRows, pM_weights, pM_plain, pM_plains, pM_ahead, pM_heap, pM_noteRows, pM_ways, pM_before, pM_keptWeights, pM_keptRows, pX, pX_signals, pX_weights, pX_codes, pX_page, pX_notes, pX_keptWeights, pX_keptNotes, pX_said, pX_heard, pX_pool, pX_struck, pX_readings])]; exact hn
    have e2 : gk pM_plain = g pM_plain := hf.at (fun j => by simp [scP, scA, scM, scX, pM, pM_page, pM_readRows, pM_speeches, pM_rows, pM_signalRows, pM_weights, pM_plain, pM_plains, pM_ahead, pM_heap, pM_noteRows, pM_ways, pM_before, pM_keptWeights, pM_keptRows, pX, pX_signals, pX_weights, pX_codes, pX_page, pX_notes, pX_keptWeights, pX_keptNotes, pX_said, pX_heard, pX_pool, pX_struck, pX_readings])
    have e3 : gk pM_plain (k : Int) = l.getD k 0 := by rw [e2, zPre_get hP (by omega)]; simp [List.getD, show k < l.length by omega]
    obtain ⟨g1, r1, r2, r3⟩ := ih (k + 1) (up gk pM_plains (11 * i + 1 + k) (l.getD k 0)) (by omega) (hf.up ⟨rfl, by omega, by omega⟩) (fun j hj => by
      by_cases hjk : j = k
      · subst hjk; rw [up_same]
      · rw [up_ne _ _ (by omega)]; exact hc j (by omega))
    refine ⟨g1, ?_, r2, r3⟩
    rw [← r1, e_M_layAll_35]
    simp (disch := omega) only [e1, e3, zci_ok, zcl_ok', zcr_ok, zcv_ok, zw_id, if_pos, if_neg, ne_eq, not_true_eq_false, not_false_eq_true, if_true, if_false, pM_ck, pM_r_page, pM_a_page, pM_s_page, pM_g_pageMany, pM_p_pageMany, pM_g_readMany, pM_p_readMany, pM_g_readLetters, pM_p_readLetters, pM_r_readRows, pM_a_readRows, pM_s_readRows, pM_g_codes, pM_p_codes, pM_r_speeches, pM_a_speeches, pM_s_speeches, pM_r_rows, pM_a_rows, pM_s_rows, pM_g_signals, pM_p_signals, pM_r_signalRows, pM_a_signalRows, pM_s_signalRows, pM_g_things, pM_p_things, pM_r_weights, pM_a_weights, pM_s_weights, pM_r_plain, pM_a_plain, pM_s_plain, pM_g_plainMany, pM_p_plainMany, pM_r_plains, pM_a_plains, pM_s_plains, pM_r_ahead, pM_a_ahead, pM_s_ahead, pM_g_least, pM_p_least, pM_r_heap, pM_a_heap, pM_s_heap, pM_g_notes, pM_p_notes, pM_r_noteRows, pM_a_noteRows, pM_s_noteRows, pM_r_ways, pM_a_ways, pM_s_ways, pM_r_before, pM_a_before, pM_s_before, pM_g_keptThings, pM_p_keptThings, pM_g_keptNotes, pM_p_keptNotes, pM_r_keptWeights, pM_a_keptWeights, pM_s_keptWeights, pM_r_keptRows, pM_a_keptRows, pM_s_keptRows, pM_g_hash, pM_p_hash]
    congr 6
theorem M_layAll (xs : List Int) (g : Nat → Int → Int) (c st : Int) (hB : Bd g) (hc : 0 ≤ c ∧ c < g pM 5) : ∃ g1, zx zblk xs 22 0 [some (.inr (.inr (some pM))), some (.inl (c)), some (.inl (st))] [] (HH g) = some (none, HH g1) ∧ isAll g1 (fun i => plS g st c i) (g pM_speeches c).toNat ∧ zFr scA g g1 := by
  obtain ⟨hQ, -, hC, -⟩ := id hB
  obtain ⟨⟨-, -⟩, ⟨hc0, hc1⟩, -⟩ := id hQ
  obtain ⟨hs0, hs1, -⟩ := hC c hc.1 hc.2
  have loop : ∀ (n i : Nat) (gi : Nat → Int → Int), (i : Int) + n = g pM_speeches c → isAll gi (fun i => plS g st c i) i → zFr scA g gi → ∃ g1, zx zblk xs 22 2 [some (.inr (.inr (some pM))), some (.inl (c)), some (.inl (st)), some (.inl ((i : Int)))] [] (HH gi) = some (none, HH g1) ∧ isAll g1 (fun i => plS g st c i) (g pM_speeches c).toNat ∧ zFr scA g g1 := by
    intro n
    induction n with
    | zero =>
      intro i gi hi ha hf
      have hee := scA_es hf
      have e2 := (es_all hee).2.1
      refine ⟨gi, ?_, by rw [show (g pM_speeches c).toNat = i by omega]; exact ha, hf⟩
      rw [e_M_layAll_2]
      simp (disch := omega) only [e2, e_M_layAll_77, zci_ok, zcl_ok', zcr_ok, zcv_ok, zw_id, if_pos, if_neg, ne_eq, not_true_eq_false, not_false_eq_true, if_true, if_false, pM_ck, pM_r_page, pM_a_page, pM_s_page, pM_g_pageMany, pM_p_pageMany, pM_g_readMany, pM_p_readMany, pM_g_readLetters, pM_p_readLetters, pM_r_readRows, pM_a_readRows, pM_s_readRows, pM_g_codes, pM_p_codes, pM_r_speeches, pM_a_speeches, pM_s_speeches, pM_r_rows, pM_a_rows, pM_s_rows, pM_g_signals, pM_p_signals, pM_r_signalRows, pM_a_signalRows, pM_s_signalRows, pM_g_things, pM_p_things, pM_r_weights, pM_a_weights, pM_s_weights, pM_r_plain, pM_a_plain, pM_s_plain, pM_g_plainMany, pM_p_plainMany, pM_r_plains, pM_a_plains, pM_s_plains, pM_r_ahead, pM_a_ahead, pM_s_ahead, pM_g_least, pM_p_least, pM_r_heap, pM_a_heap, pM_s_heap, pM_g_notes, pM_p_notes, pM_r_noteRows, pM_a_noteRows, pM_s_noteRows, pM_r_ways, pM_a_ways, pM_s_ways, pM_r_before, pM_a_before, pM_s_before, pM_g_keptThings, pM_p_keptThings, pM_g_keptNotes, pM_p_keptNotes, pM_r_keptWeights, pM_a_keptWeights, pM_s_keptWeights, pM_r_keptRows, pM_a_keptRows, pM_s_keptRows, pM_g_hash, pM_p_hash]
    | succ n ih =>
      intro i gi hi ha hf
      have hee := scA_es hf
      obtain ⟨e1, e2, e3, e4, e5, e6, e7, e8, e9, e10, e11, e12, e13, e14, e15⟩ := es_all hee
      obtain ⟨g2, p1, p2, p3⟩ := M_layPlain xs gi c i st (es_Bd hee hB) (by rw [e10]; exact hc) (by rw [e2]; omega)
      rw [es_plS hee] at p2
      have hl10 := plS_len hC hc (s := (i : Int)) (by omega) st
      obtain ⟨g3, r1, r2, r3⟩ := M_layAll_copy xs (up g2 pM_plains (11 * i) (plS g st c i).length) c st i (plS g st c i) (by omega) hl10 ⟨by rw [up_p _ _ _ (by decide)]; exact p2.1, by rw [up_q (by decide)]; exact p2.2⟩ (plS g st c i).length 0 _ (by omega) zFr.rf (fun j hj => by omega)
      have hf3 : zFr scA gi g3 := ((p3.mono (fun _ _ => scP_A)).up (Or.inl rfl)).tr (r2.mono (fun q j h => Or.inl h.1))
      have hpl : g2 pM_plains = gi pM_plains := p3.at (fun j => by simp [scP, scA, scM, scX, pM, pM_page, pM_readRows, pM_speeches, pM_rows, pM_signalRows, pM_weights, pM_plain, pM_plains, pM_ahead, pM_heap, pM_noteRows, pM_ways, pM_before, pM_keptWeights, pM_keptRows, pX, pX_signals, pX_weights, pX_codes, pX_page, pX_notes, pX_keptWeights, pX_keptNotes, pX_said, pX_heard, pX_pool, pX_struck, pX_readings])
      obtain ⟨g1, q1, q2, q3⟩ := ih (i + 1) g3 (by omega) (fun i' hi' => by
        by_cases hii : i' = i
        · subst hii
          refine ⟨?_, r3⟩
          rw [r2 _ _ (by simp), up_same]
        · obtain ⟨a1, a2⟩ := ha i' (by omega)
          have hoff : ∀ j : Int, 0 ≤ j → j ≤ 10 → g3 pM_plains (11 * i' + j) = gi pM_plains (11 * i' + j) := fun j h0 h1 => by
            rw [r2 _ _ (by rintro ⟨-, z1, z2⟩; omega), up_ne _ _ (by rintro ⟨-, z⟩; omega), hpl]
          have hl := plS_len hC hc (s := (i' : Int)) (by omega) st
          refine ⟨?_, zPre_eq a2 (fun j h0 h1 => ?_)⟩
          · have := hoff 0 (by omega) (by omega)
            simp only [Int.add_zero] at this
            rw [this]
            exact a1
          · show g3 pM_plains _ = gi pM_plains _
            rw [show 11 * (i' : Int) + 1 + j = 11 * i' + (1 + j) by omega]
            have h1' : j < ((plS g st c i').length : Int) := h1
            exact hoff (1 + j) (by omega) (by omega)) (hf.tr hf3)
      refine ⟨g1, ?_, q2, q3⟩
      rw [← q1, e_M_layAll_2]
      have e5' : g2 pM 13 = (plS g st c i).length := p2.2
      rw [z0N] at r1
      rw [pM_r_speeches, pM_a_speeches xs _ (by omega) (by omega), e2, zw_id (by omega) (by omega), zw_id (by omega) (by omega), if_neg (by omega), pM_ck, p1, zcv_ok, pM_r_plains, pM_g_plainMany, e5', pM_s_plains _ _ (by omega) (by omega), r1, e_M_layAll_71, Int.natCast_succ]
  obtain ⟨g1, q1, q2, q3⟩ := loop (g pM_speeches c).toNat 0 g (by omega) (fun i hi => by omega) zFr.rf
  refine ⟨g1, ?_, q2, q3⟩
  rw [← q1, e_M_layAll_0, z0N]
/-- sums -/
def zsum (f : Nat → Int) : Nat → Int
  | 0 => 0
  | n + 1 => zsum f n + f n
theorem zsum_cg {f f' : Nat → Int} : ∀ {n : Nat}, (∀ k, k < n → f k = f' k) → zsum f n = zsum f' n
  | 0, _ => rfl
  | n + 1, h => by rw [zsum, zsum, zsum_cg (fun k hk => h k (by omega)), h n (by omega)]
theorem zsum_rg {f : Nat → Int} {a b : Int} : ∀ {n : Nat}, (∀ k, k < n → a ≤ f k ∧ f k ≤ b) → n * a ≤ zsum f n ∧ zsum f n ≤ n * b
  | 0, _ => by simp [zsum]
  | n + 1, h => by
    have h1 := zsum_rg (n := n) (fun k hk => h k (by omega))
    have h2 := h n (by omega)
    rw [zsum]
    have e1 : ((n + 1 : Nat) : Int) * a = n * a + a := by rw [Int.natCast_succ, Int.add_mul, Int.one_mul]
    have e2 : ((n + 1 : Nat) : Int) * b = n * b + b := by rw [Int.natCast_succ, Int.add_mul, Int.one_mul]
    omega
def longS (G : Nat → Int → Int) (c s : Int) : Int := zsum (fun k => secS G (rowS G c s k)) (lenS G c s)
theorem secS_rg {g : Nat → Int → Int} (hb : bdS g) (s : Int) : 1 ≤ secS g s ∧ secS g s ≤ 9 := by
  unfold secS
  split
  next h => have := hb s h.1 h.2; omega
  next => omega
theorem oddS_rg {g : Nat → Int → Int} (hb : bdS g) (s : Int) : 0 ≤ oddS g s ∧ oddS g s ≤ 9 := by
  unfold oddS
  split
  next h => have := hb s h.1 h.2; omega
  next => omega
theorem longS_rg {g : Nat → Int → Int} (hB : Bd g) {c s : Int} (hc : 0 ≤ c ∧ c < g pM 5) (hs : 0 ≤ s ∧ s < g pM_speeches c) : 1 ≤ longS g c s ∧ longS g c s ≤ 45 := by
  obtain ⟨-, -, hC, hS, -⟩ := hB
  obtain ⟨l1, l2, -⟩ := lenS_rg hC hc hs
  have := zsum_rg (f := fun k => secS g (rowS g c s k)) (n := lenS g c s) (fun k _ => secS_rg hS _)
  unfold longS
  omega
theorem M_longOf (xs : List Int) (g : Nat → Int → Int) (c s : Int) (hB : Bd g) (hc : 0 ≤ c ∧ c < g pM 5) (hs : 0 ≤ s ∧ s < g pM_speeches c) : zx zblk xs 23 0 [some (.inr (.inr (some pM))), some (.inl (c)), some (.inl (s))] [] (HH g) = some (some (.inl (longS g c s)), HH g) := by
  obtain ⟨hQ, -, hC, hS, -⟩ := hB
  obtain ⟨⟨-, -⟩, ⟨hc0, hc1⟩, -⟩ := id hQ
  obtain ⟨hs0, hs1, -⟩ := hC c hc.1 hc.2
  obtain ⟨l1, l2, l3, l4⟩ := lenS_rg hC hc hs
  rw [e_M_longOf_0]
  have h := zloop (fun i : Nat => zx zblk xs 23 16 [some (.inr (.inr (some pM))), none, none, some (.inl (48 * c + 6 * s)), some (.inl (zsum (fun k => secS g (rowS g c s k)) i)), some (.inl ((i : Int) + 1))] [] (HH g)) (lenS g c s) (fun i hi => by
    have hrow := l4 i hi
    have e2 : g pM_rows (48 * c + 6 * s + ((i : Int) + 1)) = rowS g c s i := by unfold rowS; congr 1; omega
    rw [e_M_longOf_16]
    simp (disch := omega) only [l3, e2, M_secondsOf xs g (rowS g c s i) (zw_id (by omega) (by omega)) hQ, zci_ok, zcl_ok', zcr_ok, zcv_ok, zw_id, if_pos, if_neg, ne_eq, not_true_eq_false, not_false_eq_true, if_true, if_false, pM_ck, pM_r_page, pM_a_page, pM_s_page, pM_g_pageMany, pM_p_pageMany, pM_g_readMany, pM_p_readMany, pM_g_readLetters, pM_p_readLetters, pM_r_readRows, pM_a_readRows, pM_s_readRows, pM_g_codes, pM_p_codes, pM_r_speeches, pM_a_speeches, pM_s_speeches, pM_r_rows, pM_a_rows, pM_s_rows, pM_g_signals, pM_p_signals, pM_r_signalRows, pM_a_signalRows, pM_s_signalRows, pM_g_things, pM_p_things, pM_r_weights, pM_a_weights, pM_s_weights, pM_r_plain, pM_a_plain, pM_s_plain, pM_g_plainMany, pM_p_plainMany, pM_r_plains, pM_a_plains, pM_s_plains, pM_r_ahead, pM_a_ahead, pM_s_ahead, pM_g_least, pM_p_least, pM_r_heap, pM_a_heap, pM_s_heap, pM_g_notes, pM_p_notes, pM_r_noteRows, pM_a_noteRows, pM_s_noteRows, pM_r_ways, pM_a_ways, pM_s_ways, pM_r_before, pM_a_before, pM_s_before, pM_g_keptThings, pM_p_keptThings, pM_g_keptNotes, pM_p_keptNotes, pM_r_keptWeights, pM_a_keptWeights, pM_s_keptWeights, pM_r_keptRows, pM_a_keptRows, pM_s_keptRows, pM_g_hash, pM_p_hash]
    congr 6)
  refine Eq.trans ?_ (h.trans ?_)
  · rfl
  · rw [e_M_longOf_16]
    simp (disch := omega) only [l3, e_M_longOf_51, zci_ok, zcl_ok', zcr_ok, zcv_ok, zw_id, if_pos, if_neg, ne_eq, not_true_eq_false, not_false_eq_true, if_true, if_false, pM_ck, pM_r_page, pM_a_page, pM_s_page, pM_g_pageMany, pM_p_pageMany, pM_g_readMany, pM_p_readMany, pM_g_readLetters, pM_p_readLetters, pM_r_readRows, pM_a_readRows, pM_s_readRows, pM_g_codes, pM_p_codes, pM_r_speeches, pM_a_speeches, pM_s_speeches, pM_r_rows, pM_a_rows, pM_s_rows, pM_g_signals, pM_p_signals, pM_r_signalRows, pM_a_signalRows, pM_s_signalRows, pM_g_things, pM_p_things, pM_r_weights, pM_a_weights, pM_s_weights, pM_r_plain, pM_a_plain, pM_s_plain, pM_g_plainMany, pM_p_plainMany, pM_r_plains, pM_a_plains, pM_s_plains, pM_r_ahead, pM_a_ahead, pM_s_ahead, pM_g_least, pM_p_least, pM_r_heap, pM_a_heap, pM_s_heap, pM_g_notes, pM_p_notes, pM_r_noteRows, pM_a_noteRows, pM_s_noteRows, pM_r_ways, pM_a_ways, pM_s_ways, pM_r_before, pM_a_before, pM_s_before, pM_g_keptThings, pM_p_keptThings, pM_g_keptNotes, pM_p_keptNotes, pM_r_keptWeights, pM_a_keptWeights, pM_s_keptWeights, pM_r_keptRows, pM_a_keptRows, pM_s_keptRows, pM_g_hash, pM_p_hash]
    rfl
