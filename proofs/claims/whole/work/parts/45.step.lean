/-! ===== step ===== -/
theorem M_step (xs : List Int) {g : Nat → Int → Int} (hB : Bd g) {c w : Int} (hc : zw c = c) (hw : zw w = w) : ∃ g1, zx zblk xs 64 0 [some (.inr (.inr (some pM))), some (.inl (c)), some (.inl (w))] [] (HH g) = some (some (.inl (steS g c w)), HH g1) ∧ zFr scM g g1 := by
  obtain ⟨hQ, -, hC, hS, -⟩ := id hB
  obtain ⟨-, ⟨hc0, hc1⟩, -, ⟨hw0, hw1⟩, ⟨hn0, hn1⟩⟩ := id hQ
  rw [e_M_step_0, pM_ck, M_isCode' xs hB hc, zci_ok, zb_zw]
  unfold steS
  by_cases a : 0 ≤ c ∧ c < g pM 5
  · rw [zb_t a, if_pos (by decide), if_pos a, e_M_step_11, M_in' xs _ hw rfl rfl, zci_ok, zb_zw]
    by_cases b : 0 ≤ w ∧ w ≤ 99
    · have hs := saidS_rg hB a
      have hnn := nS_rg hB a
      rw [zb_t b, if_pos (by decide), if_pos b, e_M_step_26, pM_ck, M_saidBy xs hB a, zci_ok, zw_id (by omega) (by omega)]
      by_cases s0 : saidS g c = 0
      · exact ⟨g, by rw [if_neg (by omega), if_pos s0], zFr.rf⟩
      · obtain ⟨g0, q1, q2, q3⟩ := M_layAll xs g c 0 hB a
        have hr0 := rdy_of hB a q2
        have inner : ∀ (k : Nat), k < 8 → ∀ (r n : Nat) (gk : Nat → Int → Int), (n : Int) + r = g pM 18 → zFr scP g0 gk → ∃ g1, zx zblk xs 64 61 [some (.inr (.inr (some pM))), some (.inl (c)), some (.inl (w)), some (.inl (saidS g c)), some (.inl ((k : Int))), some (.inl (ntZ g c (saidS g c) (k * w) n)), some (.inl ((n : Int)))] [] (HH gk) = zx zblk xs 64 125 [some (.inr (.inr (some pM))), some (.inl (c)), some (.inl (w)), some (.inl (saidS g c)), some (.inl ((k : Int))), some (.inl (ntA g c (saidS g c) (k * w)))] [] (HH g1) ∧ zFr scP g0 g1 := by
          intro k hk r
          have hkw := mul_rg (a := (k : Int)) (b := w) (x := 7) (y := 99) (by omega) b
          induction r with
          | zero =>
            intro n gk hn hf
            have hee := scA_es (q3.tr (hf.mono (fun _ _ => scP_A)))
            have e13 : gk pM 18 = g pM 18 := by obtain ⟨e1, e2, e3, e4, e5, e6, e7, e8, e9, e10, e11, e12, e13, e14, e15⟩ := es_all hee; exact e13
            refine ⟨gk, ?_, hf⟩
            rw [e_M_step_61, pM_g_notes, e13, if_pos (by rw [zw_id (by omega) (by omega), zw_id (by omega) (by omega)]; omega)]
            rw [show ntA g c (saidS g c) (k * w) = ntZ g c (saidS g c) (k * w) (g pM 18).toNat from rfl, show (g pM 18).toNat = n by omega]
          | succ r ih =>
            intro n gk hn hf
            have hee := scA_es (q3.tr (hf.mono (fun _ _ => scP_A)))
            obtain ⟨e1, e2, e3, e4, e5, e6, e7, e8, e9, e10, e11, e12, e13, e14, e15⟩ := es_all hee
            have hr := rdy_fr hr0 (hf.at (fun j => by simp [scP, scA, scM, scX, pM, pM_page, pM_readRows, pM_speeches, pM_rows, pM_signalRows, pM_weights, pM_plain, pM_plains, pM_ahead, pM_heap, pM_noteRows, pM_ways, pM_before, pM_keptWeights, pM_keptRows, pX, pX_signals, pX_weights, pX_codes, pX_page, pX_notes, pX_keptWeights, pX_keptNotes, pX_said, pX_heard, pX_pool, pX_struck, pX_readings]))
            have hnt := ntP_ok hB (n := n) (by omega)
            have e117 : ∀ (s0 : Int) (h : zH), zx zblk xs 64 117 [some (.inr (.inr (some pM))), some (.inl (c)), some (.inl (w)), some (.inl (saidS g c)), some (.inl ((k : Int))), none, some (.inl ((n : Int)))] [.inl s0] h = zx zblk xs 64 61 [some (.inr (.inr (some pM))), some (.inl (c)), some (.inl (w)), some (.inl (saidS g c)), some (.inl ((k : Int))), some (.inl (s0)), some (.inl (((n + 1 : Nat) : Int)))] [] h := fun s0 h => by rw [e_M_step_117, ← Int.natCast_succ]
            have e116 : ∀ h : zH, zx zblk xs 64 116 [some (.inr (.inr (some pM))), some (.inl (c)), some (.inl (w)), some (.inl (saidS g c)), some (.inl ((k : Int))), none, some (.inl ((n : Int)))] [] h = zx zblk xs 64 61 [some (.inr (.inr (some pM))), some (.inl (c)), some (.inl (w)), some (.inl (saidS g c)), some (.inl ((k : Int))), some (.inl (0)), some (.inl (((n + 1 : Nat) : Int)))] [] h := fun h => by rw [e_M_step_116, e117]
            have hzs := ntZ_s g c (saidS g c) (k * w) n
            rw [e_M_step_61, pM_g_notes, e13, if_neg (by rw [zw_id (by omega) (by omega), zw_id (by omega) (by omega)]; omega), pM_r_noteRows, pM_a_noteRows xs _ (by omega) (by omega), e6, ntZ_zw, e116, zw_id (a := saidS g c) (by omega) (by omega), zw_id (a := g pM_noteRows (10 * n)) (by omega) (by omega)]
            by_cases z : ntZ g c (saidS g c) (k * w) n = 0
            · obtain ⟨g1, p1, p2⟩ := ih (n + 1) gk (by omega) hf
              rw [hzs, if_pos z] at p1
              exact ⟨g1, by rw [if_pos z]; exact p1, p2⟩
            · rw [if_neg z] at hzs
              by_cases bt : g pM_noteRows (10 * n) < saidS g c
              · have hmod0 : 0 ≤ (g pM_noteRows (10 * n) + k * w) % saidS g c := Int.emod_nonneg _ (by omega)
                have hmod1 : (g pM_noteRows (10 * n) + k * w) % saidS g c < saidS g c := Int.emod_lt_of_pos _ (by omega)
                have htm : (g pM_noteRows (10 * n) + k * w).tmod (saidS g c) = (g pM_noteRows (10 * n) + k * w) % saidS g c := Int.tmod_eq_emod_of_nonneg (by omega)
                obtain ⟨g2, p1, p2⟩ := M_isSaid xs (es_Bd hee hB) (c := c) (by rw [e10]; exact a) (by rw [es_nS hee]; exact hr) (n := n) (by rw [e13]; omega) (sp := (g pM_noteRows (10 * n) + k * w) % saidS g c) hmod0 (by omega)
                rw [es_nS hee, es_ntP hee, Int.toNat_of_nonneg hmod0] at p1
                obtain ⟨g1, s1, s2⟩ := ih (n + 1) g2 (by omega) (hf.tr p2)
                rw [hzs] at s1
                refine ⟨g1, ?_, s2⟩
                rw [if_neg z, if_neg (by omega), if_neg s0, zw_id (a := g pM_noteRows (10 * n) + k * w) (by omega) (by omega), htm, pM_ck, p1, zci_ok, zb_zw, e116, e117, ← s1]
                by_cases d : ntP g n = plS g 0 c ((g pM_noteRows (10 * n) + k * w) % saidS g c)
                · rw [zb_t ⟨by omega, d⟩, if_neg (by decide), if_pos ⟨bt, d⟩]
                · rw [zb_f (fun y => d y.2), if_pos rfl, if_neg (fun y => d y.2)]
              · obtain ⟨g1, p1, p2⟩ := ih (n + 1) gk (by omega) hf
                rw [hzs, if_neg (fun y => bt y.1)] at p1
                exact ⟨g1, by rw [if_neg z, if_pos (by omega)]; exact p1, p2⟩
        have outer : ∀ (r k : Nat) (gk : Nat → Int → Int), k + r = 8 → zFr scP g0 gk → ∃ g1, zx zblk xs 64 48 [some (.inr (.inr (some pM))), some (.inl (c)), some (.inl (w)), some (.inl (saidS g c)), some (.inl ((k : Int)))] [] (HH gk) = some (some (.inl (zfo (fun k => if ntA g c (saidS g c) (k * w) = 0 then -1 else (k : Int)) r k)), HH g1) ∧ zFr scP g0 g1 := by
          intro r
          induction r with
          | zero =>
            intro k gk hk hf
            refine ⟨gk, ?_, hf⟩
            rw [e_M_step_48, if_pos (by rw [show zw 8 = 8 from rfl, zw_id (by omega) (by omega)]; omega), e_M_step_139, zfo]
          | succ r ih =>
            intro k gk hk hf
            obtain ⟨g2, p1, p2⟩ := inner k (by omega) (g pM 18).toNat 0 gk (by omega) hf
            rw [z0N] at p1
            obtain ⟨g1, s1, s2⟩ := ih (k + 1) g2 (by omega) p2
            have p1' : zx zblk xs 64 61 [some (.inr (.inr (some pM))), some (.inl (c)), some (.inl (w)), some (.inl (saidS g c)), some (.inl ((k : Int))), some (.inl (1)), some (.inl (0))] [] (HH gk) = _ := p1
            rw [e_M_step_48, if_neg (by rw [show zw 8 = 8 from rfl, zw_id (by omega) (by omega)]; omega), p1', e_M_step_125, zfo_s _ r k]
            rcases ntA_01 g c (saidS g c) (k * w) with z | z
            · refine ⟨g1, ?_, s2⟩
              rw [z, if_pos (show zw 0 = 0 from rfl), e_M_step_133, ← Int.natCast_succ, s1, if_pos rfl, if_neg (by simp)]
            · refine ⟨g2, ?_, p2⟩
              have hk1 : (if (1 : Int) = 0 then (-1 : Int) else (k : Int)) = k := if_neg (by decide)
              rw [z, if_neg (by decide), hk1, if_pos (by omega)]
        obtain ⟨g1, r1, r2⟩ := outer 8 0 g0 (by omega) zFr.rf
        rw [z0N] at r1
        refine ⟨g1, ?_, (q3.mono (fun _ _ => scA_M)).tr (r2.mono (fun _ _ => scP_M))⟩
        rw [if_pos s0, if_neg s0, e_M_step_39, pM_ck, q1, zcv_ok, r1]
    · exact ⟨g, by rw [zb_f b, if_neg (by decide), if_neg b], zFr.rf⟩
  · exact ⟨g, by rw [zb_f a, if_neg (by decide), if_neg a], zFr.rf⟩
theorem X_step (xs : List Int) {G g : Nat → Int → Int} (hB : Bd G) (h : Rel G g) {c w : Int} (hc : zw c = c) (hw : zw w = w) : ∃ g1, zx zblk xs 159 0 [some (.inr (.inr (some pX))), some (.inl (c)), some (.inl (w))] [] (HH g) = some (some (.inl (steS G c w)), HH g1) ∧ zFr scX g g1 := by
  rw [e_X_step_0, pX_ck]
  unfold steS
  by_cases a : 0 ≤ c ∧ c < G pM 5
  · obtain ⟨c', rfl⟩ : ∃ k : Nat, c = k := ⟨c.toNat, by omega⟩
    have hs := saidS_rg hB a
    have hnn := nS_rg hB a
    have e23 : zx zblk xs 159 23 [] [] (HH g) = some (some (.inl (-102)), HH g) := e_X_step_23 xs _
    rw [X_codeAt_in xs hB h c' a.2, zcr_ok, zif_some, if_pos a, e_X_step_13, hw, show zw 99 = 99 from rfl]
    by_cases b : 0 ≤ w ∧ w ≤ 99
    · rw [if_neg (by omega), if_pos b.2, if_pos b, e_X_step_26, pX_ck, X_thingsSaid xs hB h c' a.2, zci_ok, zw_id (by omega) (by omega)]
      by_cases s0 : saidS G c' = 0
      · exact ⟨g, by rw [if_neg (by omega), if_pos s0], zFr.rf⟩
      · have outer : ∀ (r k : Nat) (gk : Nat → Int → Int), k + r = 8 → zFr scX g gk → ∃ g1, zx zblk xs 159 44 [some (.inr (.inr (some pX))), none, some (.inl (w)), some (.inr (.inr (some (PC c')))), some (.inl (saidS G c')), some (.inl ((k : Int)))] [] (HH gk) = some (some (.inl (zfo (fun k => if ntA G c' (saidS G c') (k * w) = 0 then -1 else (k : Int)) r k)), HH g1) ∧ zFr scX g g1 := by
          intro r
          induction r with
          | zero =>
            intro k gk hk hf
            refine ⟨gk, ?_, hf⟩
            rw [e_X_step_44, if_pos (by rw [show zw 7 = 7 from rfl, zw_id (by omega) (by omega)]; omega), e_X_step_74, zfo]
          | succ r ih =>
            intro k gk hk hf
            have hkw := mul_rg (a := (k : Int)) (b := w) (x := 7) (y := 99) (by omega) b
            obtain ⟨g2, p1, p2⟩ := X_notesLet xs hB (Rel_scX hB h hf) a.2 (th := saidS G c') (mv := k * w) (by omega) (by omega) hkw.1 (by omega)
            obtain ⟨g1, s1, s2⟩ := ih (k + 1) g2 (by omega) (hf.tr p2)
            rw [e_X_step_44, if_neg (by rw [show zw 7 = 7 from rfl, zw_id (by omega) (by omega)]; omega), pX_ck, p1, zci_ok, zfo_s _ r k]
            rcases ntA_01 G c' (saidS G c') (k * w) with z | z
            · refine ⟨g1, ?_, s2⟩
              rw [z, if_pos (show zw 0 = 0 from rfl), e_X_step_68, ← Int.natCast_succ, s1, if_pos rfl, if_neg (by simp)]
            · refine ⟨g2, ?_, hf.tr p2⟩
              have hk1 : (if (1 : Int) = 0 then (-1 : Int) else (k : Int)) = k := if_neg (by decide)
              rw [z, if_neg (by decide), hk1, if_pos (by omega)]
        obtain ⟨g1, r1, r2⟩ := outer 8 0 g (by omega) zFr.rf
        rw [z0N] at r1
        refine ⟨g1, ?_, r2⟩
        rw [if_pos s0, if_neg s0, e_X_step_41, r1]
    · refine ⟨g, ?_, zFr.rf⟩
      rw [if_neg b]
      by_cases b0 : w < 0
      · rw [if_pos b0, e23]
      · rw [if_neg b0, if_neg (by omega), e23]
  · exact ⟨g, by rw [X_codeAt_out xs hB h c hc a, zcr_ok, zif, if_neg a], zFr.rf⟩
