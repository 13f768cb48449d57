/-! ===== which, step ===== -/
def ntP (G : Nat → Int → Int) (n : Nat) : List Int := pln G 0 (fun k => G pM_noteRows (10 * n + 2 + k)) (G pM_noteRows (10 * n + 1)).toNat
def ntA (G : Nat → Int → Int) (c th mv : Int) : Int := zall (fun n => G pM_noteRows (10 * (n : Int)) < th ∧ ntP G n = plS G 0 c ((G pM_noteRows (10 * (n : Int)) + mv) % th)) (G pM 18).toNat
def whI (G : Nat → Int → Int) : Nat → Int
  | 0 => 0
  | n + 1 => zor (whI G n) (if ntA G n (nS G n) 0 = 0 then 0 else zshl 1 n)
def whS (G : Nat → Int → Int) : Int := whI G (G pM 5).toNat
def steS (G : Nat → Int → Int) (c w : Int) : Int := if 0 ≤ c ∧ c < G pM 5 then (if 0 ≤ w ∧ w ≤ 99 then (if saidS G c = 0 then -103 else zfo (fun k => if ntA G c (saidS G c) (k * w) = 0 then -1 else k) 8 0) else -102) else -101
theorem es_ntP {g1 g : Nat → Int → Int} (h : es g1 = es g) : ntP g1 = ntP g := by
  obtain ⟨e1, e2, e3, e4, e5, e6, e7, e8, e9, e10, e11, e12, e13, e14, e15⟩ := es_all h
  funext n
  unfold ntP
  rw [es_pln h, e6]
theorem es_ntA {g1 g : Nat → Int → Int} (h : es g1 = es g) : ntA g1 = ntA g := by
  obtain ⟨e1, e2, e3, e4, e5, e6, e7, e8, e9, e10, e11, e12, e13, e14, e15⟩ := es_all h
  funext c th mv
  unfold ntA
  rw [es_ntP h, es_plS h, e6, e13]
theorem es_whI {g1 g : Nat → Int → Int} (h : es g1 = es g) : whI g1 = whI g := by
  funext n
  induction n with
  | zero => rfl
  | succ n ih => rw [whI, whI, ih, es_ntA h, es_nS h]
theorem es_whS {g1 g : Nat → Int → Int} (h : es g1 = es g) : whS g1 = whS g := by
  obtain ⟨e1, e2, e3, e4, e5, e6, e7, e8, e9, e10, e11, e12, e13, e14, e15⟩ := es_all h
  unfold whS
  rw [es_whI h, e10]
theorem es_steS {g1 g : Nat → Int → Int} (h : es g1 = es g) : steS g1 = steS g := by
  obtain ⟨e1, e2, e3, e4, e5, e6, e7, e8, e9, e10, e11, e12, e13, e14, e15⟩ := es_all h
  funext c w
  unfold steS
  rw [es_ntA h, es_saidS h, e10]
theorem zall_cg {P Q : Nat → Prop} [DecidablePred P] [DecidablePred Q] : ∀ {n : Nat}, (∀ k, k < n → (P k ↔ Q k)) → zall P n = zall Q n
  | 0, _ => rfl
  | n + 1, h => by
    rw [zall, zall, zall_cg (n := n) (fun k hk => h k (by omega))]
    by_cases a : P n
    · rw [if_pos a, if_pos ((h n (by omega)).mp a)]
    · rw [if_neg a, if_neg (fun z => a ((h n (by omega)).mpr z))]
theorem zor_zero {b : Int} (h : zw b = b) : zor b 0 = b := by
  unfold zor
  rw [show Int32.ofInt 0 = 0 from rfl, Int32.or_zero, zw_toInt, h]
theorem whI_zw (G : Nat → Int → Int) : ∀ n, zw (whI G n) = whI G n
  | 0 => rfl
  | n + 1 => by rw [whI, zw_zor]
theorem ntP_ok {g : Nat → Int → Int} (hB : Bd g) {n : Nat} (hn : (n : Int) < g pM 18) : (ntP g n).length ≤ 16 ∧ isR7 (ntP g n) ∧ 0 ≤ g pM_noteRows (10 * n) ∧ g pM_noteRows (10 * n) < g pM 10 ∧ 0 ≤ g pM_noteRows (10 * n + 1) ∧ g pM_noteRows (10 * n + 1) ≤ 8 := by
  obtain ⟨h1, h2, h3, h4, h5⟩ := hB.2.2.2.2.2.1 n (by omega) hn
  have hl := pln_len g 0 (fun k => g pM_noteRows (10 * n + 2 + k)) (g pM_noteRows (10 * n + 1)).toNat
  refine ⟨by unfold ntP; omega, isR7_pln hB.2.2.2.1 0 (fun k hk => h5 k (by omega) (by omega)), h1, h2, h3, h4⟩
theorem M_isSaid (xs : List Int) {g : Nat → Int → Int} (hB : Bd g) {c : Int} (a : 0 ≤ c ∧ c < g pM 5) {L : Nat → List Int} (hr : rdy g L (nS g c)) {n : Nat} (hn : (n : Int) < g pM 18) {sp : Int} (hs0 : 0 ≤ sp) (hs1 : sp ≤ 100) : ∃ g1, zx zblk xs 61 0 [some (.inr (.inr (some pM))), some (.inl ((n : Int))), some (.inl (c)), some (.inl (sp))] [] (HH g) = some (some (.inl (zb (sp < nS g c ∧ ntP g n = L sp.toNat))), HH g1) ∧ zFr scP g g1 := by
  obtain ⟨hQ, -, hC, hS, -⟩ := id hB
  obtain ⟨-, ⟨hc0, hc1⟩, -, -, ⟨hn0, hn1⟩⟩ := id hQ
  have hnn := nS_rg hB a
  obtain ⟨n1, n2, n3, n4, n5, n6⟩ := ntP_ok hB hn
  rw [e_M_isSaid_0, pM_r_speeches, pM_a_speeches xs _ (by omega) (by omega), zw_id (by omega) (by omega), zw_id (by omega) (by omega)]
  by_cases b : sp < nS g c
  · rw [if_pos (by omega), e_M_isSaid_12, pM_p_plainMany]
    have loop : ∀ (r k : Nat) (gk : Nat → Int → Int), (k : Int) + r = g pM_noteRows (10 * n + 1) → isPl gk (pln g 0 (fun k => g pM_noteRows (10 * n + 2 + k)) k) → zFr scP g gk → ∃ g1, zx zblk xs 61 20 [some (.inr (.inr (some pM))), some (.inl ((n : Int))), none, some (.inl (sp)), some (.inl ((k : Int)))] [] (HH gk) = zx zblk xs 61 60 [some (.inr (.inr (some pM))), none, none, some (.inl (sp))] [] (HH g1) ∧ isPl g1 (ntP g n) ∧ zFr scP g g1 := by
      intro r
      induction r with
      | zero =>
        intro k gk hk hl hf
        have hee := scP_es hf
        have e6 := (es_all hee).2.2.2.2.2.1
        refine ⟨gk, ?_, ?_, hf⟩
        · rw [e_M_isSaid_20, pM_r_noteRows, pM_a_noteRows xs _ (by omega) (by omega), e6, if_pos (by rw [zw_id (by omega) (by omega), zw_id (by omega) (by omega)]; omega)]
        · unfold ntP
          rw [show (g pM_noteRows (10 * n + 1)).toNat = k by omega]
          exact hl
      | succ r ih =>
        intro k gk hk hl hf
        have hee := scP_es hf
        have e6 := (es_all hee).2.2.2.2.2.1
        have hBk := es_Bd hee hB
        have hv := (hB.2.2.2.2.2.1 n (by omega) hn).2.2.2.2 k (by omega) (by omega)
        obtain ⟨g2, q1, q2, q3⟩ := M_stand xs gk (g pM_noteRows (10 * n + 2 + k)) _ (zw_id (by omega) (by omega)) hBk.1 hBk.2.2.2.1 hl (by have := pln_len g 0 (fun k => g pM_noteRows (10 * n + 2 + k)) k; omega)
        rw [es_stp hee] at q2
        obtain ⟨g1, r1, r2, r3⟩ := ih (k + 1) g2 (by omega) (by
          simp only [pln, zshr0, ne_eq, not_true_eq_false, if_false]
          exact q2) (hf.tr q3)
        refine ⟨g1, ?_, r2, r3⟩
        rw [e_M_isSaid_20, pM_r_noteRows, pM_a_noteRows xs _ (by omega) (by omega), e6, if_neg (by rw [zw_id (by omega) (by omega), zw_id (by omega) (by omega)]; omega), pM_r_noteRows, pM_a_noteRows xs _ (by omega) (by omega), e6, pM_ck, q1, zcv_ok, ← Int.natCast_succ]
        exact r1
    obtain ⟨g1, r1, r2, r3⟩ := loop (g pM_noteRows (10 * n + 1)).toNat 0 (up g pM 13 0) (by omega) ⟨zPre_nil _, by rw [up_same]; rfl⟩ (zFr.rf.up (Or.inr ⟨rfl, rfl⟩))
    rw [z0N] at r1
    refine ⟨g1, ?_, r3⟩
    have hr1 := rdy_fr hr (r3.at (fun j => by simp [scP, scA, scM, scX, pM, pM_page, pM_readRows, pM_speeches, pM_rows, pM_signalRows, pM_weights, pM_plain, pM_plains, pM_ahead, pM_heap, pM_noteRows, pM_ways, pM_before, pM_keptWeights, pM_keptRows, pX, pX_signals, pX_weights, pX_codes, pX_page, pX_notes, pX_keptWeights, pX_keptNotes, pX_said, pX_heard, pX_pool, pX_struck, pX_readings]))
    obtain ⟨i, rfl⟩ : ∃ i : Nat, sp = i := ⟨sp.toNat, by omega⟩
    have hd := M_differs xs g1 L (nS g c) i (ntP g n) hr1 (by omega) r2 n2 (by omega)
    have hdr := dif_rg (L i) (ntP g n) (by omega)
    rw [r1, e_M_isSaid_60, pM_ck, hd, zci_ok, zw_id (by omega) (by omega)]
    by_cases d : L i = ntP g n
    · rw [dif_zero.mpr d, if_neg (by decide), e_M_isSaid_73, if_pos (Or.inr rfl), zb_t ⟨b, d.symm⟩]
    · rw [if_pos (fun z => d (dif_zero.mp z)), e_M_isSaid_72, e_M_isSaid_73, if_pos (Or.inl rfl), zb_f (fun z => d z.2.symm)]
  · refine ⟨g, ?_, zFr.rf⟩
    rw [if_neg (by omega), if_pos (Or.inl rfl), zb_f (fun z => b z.1)]
