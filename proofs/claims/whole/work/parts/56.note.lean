/-! ===== note ===== -/
theorem op_note (xs : List Int) {g : Nat → Int → Int} (hI : Inv g) {t : Int} (ht : zw t = t) : ∃ v g1 g2, zx zblk xs 156 0 [some (.inr (.inr (some pX))), some (.inl (t))] [] (HH g) = some (some (.inl v), HH g1) ∧ zx zblk xs 59 0 [some (.inr (.inr (some pM))), some (.inl (t))] [] (HH g1) = some (some (.inl v), HH g2) ∧ Inv g2 := by
  obtain ⟨hB, hR⟩ := id hI
  obtain ⟨hQ, hP, hC, hS, hW, hN, hK⟩ := id hB
  obtain ⟨q1, q5, q8, q10, q18⟩ := id hQ
  -- a refusal leaves what counts
  have inv_of : ∀ g1 g2, zFr scX g g1 → zFr scM g1 g2 → Inv g2 := fun g1 g2 h1 h2 => by
    have e1 := es_scX h1
    have e2 := es_scM h2
    have hB1 := es_Bd e1 hB
    refine ⟨es_Bd e2 hB1, Rel_es (Rel_scM hB1 (Rel_es (Rel_scX hB hR h1) e1) h2) e2⟩
  by_cases b : 0 ≤ t ∧ t < g pM 10
  · obtain ⟨g1, x1, x2⟩ := X_readPage xs hB hR
    have f1 := zFr_scR (by omega) (by omega) x1
    have e1 := es_scX f1
    have hB1 := es_Bd e1 hB
    have hR1 := Rel_scX hB hR f1
    have X0 : zx zblk xs 156 0 [some (.inr (.inr (some pX))), some (.inl (t))] [] (HH g) = zx zblk xs 156 11 [some (.inr (.inr (some pX))), some (.inl (t))] [] (HH g) := by
      rw [e_X_note_0, pX_ck, X_isThing xs hB hR _ ht, zci_ok, zb_zw, zb_t b, if_pos (by decide)]
    have M0 : ∀ g' : Nat → Int → Int, Bd g' → g' pM 10 = g pM 10 → zx zblk xs 59 0 [some (.inr (.inr (some pM))), some (.inl (t))] [] (HH g') = zx zblk xs 59 11 [some (.inr (.inr (some pM))), some (.inl (t))] [] (HH g') := fun g' hB' e' => by
      rw [e_M_note_0, pM_ck, M_isThing' xs hB' ht, zci_ok, zb_zw, zb_t (by rw [e']; exact b), if_pos (by decide)]
    have k10 : g1 pM 10 = g pM 10 := by obtain ⟨e1', e2, e3, e4, e5, e6, e7, e8, e9, e10, e11, e12, e13, e14, e15⟩ := es_all e1; exact e12
    have X30 : ∀ h : zH, zx zblk xs 156 30 [] [] h = some (some (.inl (-103)), h) := fun h => e_X_note_30 xs h
    have M27 : ∀ h : zH, zx zblk xs 59 27 [] [] h = some (some (.inl (-103)), h) := fun h => e_M_note_27 xs h
    rcases x2 with ⟨o, x2, x3⟩ | ⟨o, x2⟩
    · have hsl : (zLi (fun k => g pM_page k - 97) (g pM 1).toNat).length = (g pM 1).toNat := zLi_len _ _
      by_cases c : g pM 1 ≤ 8
      · obtain ⟨pm, hpm⟩ : ∃ pm : Nat, g pM 1 = pm := ⟨(g pM 1).toNat, by omega⟩
        obtain ⟨n, hn⟩ : ∃ n : Nat, g pM 18 = n := ⟨(g pM 18).toNat, by omega⟩
        have hN1 : RelN g1 16 (g pM_noteRows) n := by rw [← hn]; exact hR1.2.2.2.2.1
        have X33 : zx zblk xs 156 11 [some (.inr (.inr (some pX))), some (.inl (t))] [] (HH g) = zx zblk xs 156 33 [some (.inr (.inr (some pX))), some (.inl (t))] [] (HH g1) := by
          rw [e_X_note_11, pX_ck, x2, zci_ok, if_neg (by decide), pX_r_said, Rw_ck Rw72, Row_size xs Rw72 x3, zci_ok, hsl, show zw 8 = 8 from rfl, zw_id (by omega) (by omega), if_pos (by omega)]
        have M30 : ∀ g' : Nat → Int → Int, Bd g' → es g' = es g → ∃ g2, zx zblk xs 59 11 [some (.inr (.inr (some pM))), some (.inl (t))] [] (HH g') = zx zblk xs 59 30 [some (.inr (.inr (some pM))), some (.inl (t))] [] (HH g2) ∧ zFr scP g' g2 := fun g' hB' he' => by
          obtain ⟨g2, y1, y2⟩ := M_layPage xs g' hB'
          rw [es_pgOK he'] at y2
          have k1 : g2 pM 1 = g pM 1 := by
            obtain ⟨e1', e2, e3, e4, e5, e6, e7, e8, e9, e10, e11, e12, e13, e14, e15⟩ := es_all ((scP_es y1).trans he')
            exact e9
          refine ⟨g2, ?_, y1⟩
          rcases y2 with ⟨-, y2, -⟩ | ⟨o', -⟩
          · rw [e_M_note_11, pM_ck, y2, zci_ok, if_neg (by decide), pM_g_pageMany, k1, show zw 8 = 8 from rfl, zw_id (by omega) (by omega), if_pos (by omega)]
          · exact absurd o o'
        by_cases d : n < 10
        · obtain ⟨gA, n1, n2, n3, n4⟩ := Notes_add xs No16 d hN1 Rw72 x3 (by omega) (by omega) (Or.inr (by omega)) t
          have n2' : zRow gA 17 (zLi (fun j => g pM_noteRows (10 * (j : Int))) n ++ [t]) := n2
          obtain ⟨w1, w2, w3⟩ := Row_wipe xs (g := gA) Rw14
          have hnt : ∀ (g' : Nat → Int → Int) f, zgr (HH g') (some 16) 1 0 f = f (some 17) := fun g' f => No_t No16 f
          have hth : zRow (up gA 14 1 0) 17 (zLi (fun j => g pM_noteRows (10 * (j : Int))) n ++ [t]) := zRow_fr n2' (up_p _ _ _ (by decide)) (up_p _ _ _ (by decide))
          have hlen : ((zLi (fun j => g pM_noteRows (10 * (j : Int))) n ++ [t]).length : Int) = (n : Int) + 1 := by rw [List.length_append, zLi_len]; simp
          have hagB : ∀ q, 101 ≤ q → up gA 14 1 0 q = g q := fun q hq => by
            rw [up_p _ _ _ (by omega), n4.at (fun j => by omega), x1.at (fun j => by simp only [scR]; omega)]
          have eB : es (up gA 14 1 0) = es g := es_ag (fun q hq => hagB q (by omega))
          have hBB := es_Bd eB hB
          have hagB2 : ∀ q, q ≠ 14 → q ≠ 15 → q ≠ 17 → q ≠ 18 → q ≠ 23 + 2 * n → q ≠ 24 + 2 * n → q ≠ 72 → q ≠ 73 → up gA 14 1 0 q = g q := fun q h1 h2 h3 h4 h5 h6 h7 h8 => by
            rw [up_p _ _ _ h1, n4.at (fun j => by omega), x1.at (fun j => by simp only [scR]; omega)]
          have hrowB : zRow (up gA 14 1 0) (16 + 3 + 4 + 2 * n) (zLi (fun k => g pM_page k - 97) (g pM 1).toNat) := zRow_fr n3 (up_p _ _ _ (by omega)) (up_p _ _ _ (by omega))
          generalize hgB : up gA 14 1 0 = gB at hth hagB eB hBB hagB2 hrowB w1 w2
          obtain ⟨gC, y1, y2⟩ := M30 gB hBB eB
          have eC : es gC = es g := (scP_es y2).trans eB
          obtain ⟨c1, c2, c3, c4, c5, c6, c7, c8, c9, c10, c11, c12, c13, c14, c15⟩ := es_all eC
          have loopM : ∀ (r k : Nat) (gk : Nat → Int → Int), k + r = pm → (∀ j : Nat, j < k → gk pM_noteRows (10 * n + 2 + j) = g pM_page j - 97) → zFr (fun q j => q = pM_noteRows ∧ 10 * (n : Int) + 2 ≤ j) (up (up gC pM_noteRows (10 * n) t) pM_noteRows (10 * n + 1) pm) gk → ∃ gE, zx zblk xs 59 75 [some (.inr (.inr (some pM))), none, some (.inl ((k : Int)))] [] (HH gk) = zx zblk xs 59 114 [some (.inr (.inr (some pM)))] [] (HH gE) ∧ (∀ j : Nat, j < pm → gE pM_noteRows (10 * n + 2 + j) = g pM_page j - 97) ∧ zFr (fun q j => q = pM_noteRows ∧ 10 * (n : Int) + 2 ≤ j) (up (up gC pM_noteRows (10 * n) t) pM_noteRows (10 * n + 1) pm) gE := by
            intro r
            induction r with
            | zero =>
              intro k gk hk h1 hf
              have : k = pm := by omega
              subst this
              have k1 : gk pM 1 = k := by rw [hf pM 1 (fun z => absurd z.1 (by decide)), up_q (by decide), up_q (by decide), c9, hpm]
              exact ⟨gk, by rw [e_M_note_75, pM_g_pageMany, k1, if_pos (Int.le_refl _)], h1, hf⟩
            | succ r ih =>
              intro k gk hk h1 hf
              have k1 : gk pM 1 = pm := by rw [hf pM 1 (fun z => absurd z.1 (by decide)), up_q (by decide), up_q (by decide), c9, hpm]
              have k18 : gk pM 18 = n := by rw [hf pM 18 (fun z => absurd z.1 (by decide)), up_q (by decide), up_q (by decide), c13, hn]
              have kp : gk pM_page = g pM_page := by rw [hf.at (fun j z => absurd z.1 (by decide)), up_p _ _ _ (by decide), up_p _ _ _ (by decide), c1]
              obtain ⟨gE, s1, s2, s3⟩ := ih (k + 1) (up gk pM_noteRows (10 * n + 2 + k) (g pM_page k - 97)) (by omega) (fun j hj => by
                by_cases e : j = k
                · rw [e, up_same]
                · rw [up_ne _ _ (by omega)]; exact h1 j (by omega)) (hf.up ⟨rfl, by omega⟩)
              refine ⟨gE, ?_, s2, s3⟩
              rw [e_M_note_75, pM_g_pageMany, k1, if_neg (by rw [zw_id (by omega) (by omega), zw_id (by omega) (by omega)]; omega), pM_r_noteRows, pM_g_notes, k18, pM_r_page, pM_a_page xs _ (by omega) (by omega), kp, pM_s_noteRows _ _ (by omega) (by omega), ← Int.natCast_succ]
              exact s1
          obtain ⟨gE, s1, s2, s3⟩ := loopM pm 0 _ (by omega) (fun j hj => by omega) zFr.rf
          rw [z0N] at s1
          refine ⟨(n : Int) + 1, gB, up (up gE pM 18 (n + 1)) pM 1 0, ?_, ?_, ?_⟩
          · rw [X0, X33, e_X_note_33, pX_r_notes, No_ck No16, Notes_size xs No16 (by omega) hN1, zci_ok, zw_id (by omega) (by omega), show zw 10 = 10 from rfl, if_pos (by omega), e_X_note_48, pX_r_notes, pX_r_said, No_ck No16, n1, zcv_ok, pX_r_page, Rw_ck Rw14, w1, zcv_ok, pX_r_notes, No_ck No16, e_Notes_size_0, hnt, Rw_ck Rw17, Row_size xs Rw17 hth, zci_ok, zci_ok, hlen]
          · have kE18 : gE pM 18 = n := by rw [s3 pM 18 (fun z => absurd z.1 (by decide)), up_q (by decide), up_q (by decide), c13, hn]
            have kD : up gC pM_noteRows (10 * (n : Int)) t pM 18 = n := by rw [up_q (by decide), c13, hn]
            have kD1 : up gC pM_noteRows (10 * (n : Int)) t pM 1 = pm := by rw [up_q (by decide), c9, hpm]
            rw [M0 gB hBB (by rw [hagB pM (by decide)]), y1, e_M_note_30, pM_g_notes, c13, hn, if_pos (by rw [zw_id (by omega) (by omega), show zw 10 = 10 from rfl]; omega), e_M_note_42, pM_r_noteRows, pM_g_notes, c13, hn, pM_s_noteRows _ _ (by omega) (by omega), pM_r_noteRows, pM_g_notes, kD, pM_g_pageMany, kD1, pM_s_noteRows _ _ (by omega) (by omega), s1, e_M_note_114, pM_g_notes, kE18, pM_p_notes, pM_p_pageMany, pM_g_notes, up_ne _ _ (by decide), up_same]
          · have a0 : ∀ q, q ≠ pM → q ≠ pM_noteRows → q ≠ pM_plain → up (up gE pM 18 ((n : Int) + 1)) pM 1 0 q = gB q := fun q h1 h2 h3 => by
              rw [up_p _ _ _ h1, up_p _ _ _ h1, s3.at (fun j z => h2 z.1), up_p _ _ _ h2, up_p _ _ _ h2, y2.at (fun j z => by rcases z with z | z; exact h3 z; exact h1 z.1)]
            have a1 : ∀ j : Int, j ≠ 1 → j ≠ 18 → j ≠ 13 → up (up gE pM 18 ((n : Int) + 1)) pM 1 0 pM j = g pM j := fun j h1 h2 h3 => by
              rw [up_ne _ _ (fun z => h1 z.2), up_ne _ _ (fun z => h2 z.2), s3 pM j (fun z => absurd z.1 (by decide)), up_p _ _ _ (by decide), up_p _ _ _ (by decide), y2 pM j (fun z => by rcases z with z | z; exact absurd z (by decide); exact h3 z.2), hagB pM (by decide)]
            have a2 : up (up gE pM 18 ((n : Int) + 1)) pM 1 0 pM 18 = (n : Int) + 1 := by rw [up_ne _ _ (by decide), up_same]
            have a3 : up (up gE pM 18 ((n : Int) + 1)) pM 1 0 pM 1 = 0 := up_same _ _ _ _
            have a4 : ∀ j : Int, j < 10 * n → up (up gE pM 18 ((n : Int) + 1)) pM 1 0 pM_noteRows j = g pM_noteRows j := fun j hj => by
              rw [up_p _ _ _ (by decide), up_p _ _ _ (by decide), s3 pM_noteRows j (fun z => by omega), up_ne _ _ (by omega), up_ne _ _ (by omega), c6]
            have a5 : up (up gE pM 18 ((n : Int) + 1)) pM 1 0 pM_noteRows (10 * n) = t := by
              rw [up_p _ _ _ (by decide), up_p _ _ _ (by decide), s3 pM_noteRows _ (fun z => by omega), up_ne _ _ (by omega), up_same]
            have a6 : up (up gE pM 18 ((n : Int) + 1)) pM 1 0 pM_noteRows (10 * n + 1) = pm := by
              rw [up_p _ _ _ (by decide), up_p _ _ _ (by decide), s3 pM_noteRows _ (fun z => by omega), up_same]
            have a7 : ∀ j : Nat, j < pm → up (up gE pM 18 ((n : Int) + 1)) pM 1 0 pM_noteRows (10 * n + 2 + j) = g pM_page j - 97 := fun j hj => by
              rw [up_p _ _ _ (by decide), up_p _ _ _ (by decide), s2 j hj]
            generalize hgF : up (up gE pM 18 ((n : Int) + 1)) pM 1 0 = gF at a0 a1 a2 a3 a4 a5 a6 a7
            have aB : ∀ q, 101 ≤ q → q ≠ pM → q ≠ pM_noteRows → q ≠ pM_plain → gF q = g q := fun q h0 h1 h2 h3 => by rw [a0 q h1 h2 h3, hagB q h0]
            have aX : ∀ q, q < 265 → q ≠ 14 → q ≠ 15 → q ≠ 17 → q ≠ 18 → q ≠ 23 + 2 * n → q ≠ 24 + 2 * n → q ≠ 72 → q ≠ 73 → gF q = g q := fun q h0 h1 h2 h3 h4 h5 h6 h7 h8 => by rw [a0 q (by simp only [pM]; omega) (by simp only [pM_noteRows]; omega) (by simp only [pM_plain]; omega), hagB2 q h1 h2 h3 h4 h5 h6 h7 h8]
            have aC : ∀ q, q < 265 → gF q = gB q := fun q h0 => a0 q (by simp only [pM]; omega) (by simp only [pM_noteRows]; omega) (by simp only [pM_plain]; omega)
            have s := aB pM_signalRows (by decide) (by decide) (by decide) (by decide)
            have pg := aB pM_page (by decide) (by decide) (by decide) (by decide)
            have sp := aB pM_speeches (by decide) (by decide) (by decide) (by decide)
            have ro := aB pM_rows (by decide) (by decide) (by decide) (by decide)
            have we := aB pM_weights (by decide) (by decide) (by decide) (by decide)
            have kw := aB pM_keptWeights (by decide) (by decide) (by decide) (by decide)
            have kr := aB pM_keptRows (by decide) (by decide) (by decide) (by decide)
            have f5 := a1 5 (by decide) (by decide) (by decide)
            have f8 := a1 8 (by decide) (by decide) (by decide)
            have f10 := a1 10 (by decide) (by decide) (by decide)
            have f22 := a1 22 (by decide) (by decide) (by decide)
            have f23 := a1 23 (by decide) (by decide) (by decide)
            obtain ⟨r1, r2, r3, r4, r5, r6⟩ := id hR
            refine ⟨⟨?_, ?_, ?_, ?_, ?_, ?_, ?_⟩, ?_, ?_, ?_, ?_, ?_, ?_⟩
            · unfold bdQ
              rw [a2, a3, f5, f8, f10]
              exact ⟨by omega, q5, q8, q10, by omega⟩
            · intro k h1 h2
              rw [a3] at h2
              omega
            · unfold bdC
              rw [f5, sp, ro]
              exact hC
            · unfold bdS
              rw [f8, s]
              exact hS
            · unfold bdW
              rw [f10, we]
              exact hW
            · intro m h1 h2
              rw [a2] at h2
              rw [f10]
              by_cases z : m = n
              · subst z
                rw [a5, a6]
                refine ⟨b.1, b.2, by omega, by omega, fun k k0 k1 => ?_⟩
                obtain ⟨j, rfl⟩ : ∃ j : Nat, k = j := ⟨k.toNat, by omega⟩
                have := o j (by omega)
                rw [a7 j (by omega)]
                omega
              · have hm := hN m h1 (by omega)
                rw [a4 _ (by omega), a4 _ (by omega)]
                refine ⟨hm.1, hm.2.1, hm.2.2.1, hm.2.2.2.1, fun k k0 k1 => ?_⟩
                rw [a4 _ (by omega)]
                exact hm.2.2.2.2 k k0 k1
            · unfold bdK
              rw [f10, f22, f23, kw, kr]
              exact hK
            · exact RelS_cg (RelS_fr r1 (fun q h1 h2 => aX q (by omega) (by omega) (by omega) (by omega) (by omega) (by omega) (by omega) (by omega) (by omega))) s f8
            · unfold wL
              rw [we, f10]
              exact zRow_fr r2 (aX _ (by omega) (by omega) (by omega) (by omega) (by omega) (by omega) (by omega) (by omega) (by omega)) (aX _ (by omega) (by omega) (by omega) (by omega) (by omega) (by omega) (by omega) (by omega) (by omega))
            · unfold pL
              rw [a3]
              exact zRow_fr w2 (aC _ (by omega)) (aC _ (by omega))
            · exact RelC_cg (RelC_fr r4 (by rw [aX pX (by decide) (by decide) (by decide) (by decide) (by decide) (by simp only [pX]; omega) (by simp only [pX]; omega) (by decide) (by decide)]) (fun q h1 h2 => aX q (by omega) (by omega) (by omega) (by omega) (by omega) (by omega) (by omega) (by omega) (by omega))) s f8 ro sp f5
            · rw [a2]
              refine ⟨?_, fun k hk => ?_⟩
              · rw [show ((n : Int) + 1).toNat = n + 1 by omega, zLi_snoc, a5, zLi_cg (f' := fun j => g pM_noteRows (10 * (j : Int))) (fun j hj => a4 _ (by omega))]
                exact zRow_fr hth (aC _ (by omega)) (aC _ (by omega))
              · by_cases z : k = n
                · subst z
                  have hrw : nRow (gF pM_noteRows) k = zLi (fun k => g pM_page k - 97) (g pM 1).toNat := by
                    unfold nRow
                    rw [a6, hpm]
                    exact zLi_cg (fun j hj => a7 j (by omega))
                  rw [hrw]
                  exact zRow_fr hrowB (aC _ (by omega)) (aC _ (by omega))
                · have hm := hN k (by omega) (by omega)
                  have hrw : nRow (gF pM_noteRows) k = nRow (g pM_noteRows) k := by
                    unfold nRow
                    rw [a4 _ (by omega)]
                    exact zLi_cg (fun j hj => a4 _ (by omega))
                  rw [hrw]
                  exact zRow_fr (r5.2 k (by omega)) (aX _ (by omega) (by omega) (by omega) (by omega) (by omega) (by omega) (by omega) (by omega) (by omega)) (aX _ (by omega) (by omega) (by omega) (by omega) (by omega) (by omega) (by omega) (by omega) (by omega))
            · exact RelK_cg (RelK_fr hB r6 (by rw [aX pX (by decide) (by decide) (by decide) (by decide) (by decide) (by simp only [pX]; omega) (by simp only [pX]; omega) (by decide) (by decide)]) (fun q h1 h2 => aX q (by omega) (by omega) (by omega) (by omega) (by omega) (by omega) (by omega) (by omega) (by omega))) f22 f23 kw kr
        · obtain ⟨g2, y1, y2⟩ := M30 g1 hB1 e1
          have k18 : g2 pM 18 = g pM 18 := by
            obtain ⟨e1', e2, e3, e4, e5, e6, e7, e8, e9, e10, e11, e12, e13, e14, e15⟩ := es_all ((scP_es y2).trans e1)
            exact e13
          refine ⟨-104, g1, g2, ?_, ?_, inv_of g1 g2 f1 (y2.mono (fun _ _ => scP_M))⟩
          · rw [X0, X33, e_X_note_33, pX_r_notes, No_ck No16, Notes_size xs No16 (by omega) hN1, zci_ok, zw_id (by omega) (by omega), show zw 10 = 10 from rfl, if_neg (by omega)]
          · rw [M0 g1 hB1 k10, y1, e_M_note_30, pM_g_notes, k18, hn, zw_id (by omega) (by omega), show zw 10 = 10 from rfl, if_neg (by omega)]
      · obtain ⟨g2, y1, y2⟩ := M_layPage xs g1 hB1
        rw [es_pgOK e1] at y2
        have k1 : g2 pM 1 = g pM 1 := by
          obtain ⟨e1', e2, e3, e4, e5, e6, e7, e8, e9, e10, e11, e12, e13, e14, e15⟩ := es_all ((scP_es y1).trans e1)
          exact e9
        refine ⟨-103, g1, g2, ?_, ?_, inv_of g1 g2 f1 (y1.mono (fun _ _ => scP_M))⟩
        · rw [X0, e_X_note_11, pX_ck, x2, zci_ok, if_neg (by decide), pX_r_said, Rw_ck Rw72, Row_size xs Rw72 x3, zci_ok, hsl, show zw 8 = 8 from rfl, zw_id (by omega) (by omega), if_neg (by omega), X30]
        · rw [M0 g1 hB1 k10, e_M_note_11, pM_ck]
          rcases y2 with ⟨-, y2, y3⟩ | ⟨o', y2⟩
          · rw [y2, zci_ok, if_neg (by decide), pM_g_pageMany, k1, show zw 8 = 8 from rfl, zw_id (by omega) (by omega), if_neg c, M27]
          · exact absurd o o'
    · obtain ⟨g2, y1, y2⟩ := M_layPage xs g1 hB1
      rw [es_pgOK e1] at y2
      refine ⟨-103, g1, g2, ?_, ?_, inv_of g1 g2 f1 (y1.mono (fun _ _ => scP_M))⟩
      · rw [X0, e_X_note_11, pX_ck, x2, zci_ok, if_pos (show zw 0 = 0 from rfl), X30]
      · rw [M0 g1 hB1 k10, e_M_note_11, pM_ck]
        rcases y2 with ⟨o', y2, y3⟩ | ⟨-, y2⟩
        · exact absurd o' o
        · rw [y2, zci_ok, if_pos (show zw 0 = 0 from rfl), M27]
  · refine ⟨-101, g, g, ?_, ?_, hI⟩
    · rw [e_X_note_0, pX_ck, X_isThing xs hB hR _ ht, zci_ok, zb_zw, zb_f b, if_neg (by decide)]
    · rw [e_M_note_0, pM_ck, M_isThing' xs hB ht, zci_ok, zb_zw, zb_f b, if_neg (by decide)]
