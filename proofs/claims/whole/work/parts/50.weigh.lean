/-! ===== weigh, forget ===== -/
theorem zLi_set (f : Nat → Int) (n k : Nat) (v : Int) : (zLi f n).set k v = zLi (fun j => if j = k then v else f j) n := by
  apply List.ext_getElem
  · rw [List.length_set, zLi_len, zLi_len]
  · intro i h1 h2
    rw [zLi_get _ h2, List.getElem_set]
    by_cases h : k = i
    · rw [if_pos h, if_pos h.symm]
    · rw [if_neg h, if_neg (fun z => h z.symm), zLi_get]
theorem es_ag {g g1 : Nat → Int → Int} (h : ∀ q, 265 ≤ q → g1 q = g q) : es g1 = es g := by
  funext q j
  unfold es
  split
  next hq => rw [h q (by simp only [pM, pM_page, pM_readRows, pM_speeches, pM_rows, pM_signalRows, pM_weights, pM_plain, pM_plains, pM_ahead, pM_heap, pM_noteRows, pM_ways, pM_before, pM_keptWeights, pM_keptRows, pX, pX_signals, pX_weights, pX_codes, pX_page, pX_notes, pX_keptWeights, pX_keptNotes, pX_said, pX_heard, pX_pool, pX_struck, pX_readings] at hq; omega)]
  next => rfl
theorem op_weigh (xs : List Int) {g : Nat → Int → Int} (hI : Inv g) {t w : Int} (ht : zw t = t) (hw : zw w = w) : ∃ v g1 g2, zx zblk xs 143 0 [some (.inr (.inr (some pX))), some (.inl (t)), some (.inl (w))] [] (HH g) = some (some (.inl v), HH g1) ∧ zx zblk xs 16 0 [some (.inr (.inr (some pM))), some (.inl (t)), some (.inl (w))] [] (HH g1) = some (some (.inl v), HH g2) ∧ Inv g2 := by
  obtain ⟨hB, hR⟩ := id hI
  obtain ⟨r1, r2, r3, r4, r5, r6⟩ := id hR
  obtain ⟨hQ, hP, hC, hS, hW, hN, hK⟩ := id hB
  obtain ⟨q1, q5, q8, q10, q18⟩ := id hQ
  have hwl := wL_len hQ
  by_cases b : 0 ≤ t ∧ t < g pM 10
  · by_cases c : 1 ≤ w ∧ w ≤ 99
    · obtain ⟨n, rfl⟩ : ∃ n : Nat, t = n := ⟨t.toNat, by omega⟩
      obtain ⟨p1, p2⟩ := Row_set xs Rw11 r2 hwl.2 n w (by omega)
      have hag : ∀ q, q ≠ 12 → up g 12 (n : Int) w q = g q := fun q h1 => up_p _ _ _ h1
      refine ⟨g pM_weights n, up g 12 (n : Int) w, up (up g 12 (n : Int) w) pM_weights (n : Int) w, ?_, ?_, ?_⟩
      · rw [e_X_weigh_0, pX_ck, X_isThing xs hB hR _ ht, zci_ok, zb_zw, zb_t b, if_pos (by decide), e_X_weigh_11, X_isWeight xs w _ hw, zci_ok, zb_zw, zb_t c, if_pos (by decide), e_X_weigh_21, pX_r_weights, Rw_ck Rw11, X_wAt xs hB hR n b.2, zci_ok, pX_r_weights, Rw_ck Rw11, p1, zcv_ok]
      · have hBx : Bd (up g 12 (n : Int) w) := es_Bd (es_ag (fun q hq => hag q (by omega))) hB
        have e10 : up g 12 (n : Int) w pM 10 = g pM 10 := by rw [hag pM (by decide)]
        rw [e_M_weigh_0, pM_ck, M_isThing' xs hBx ht, zci_ok, zb_zw, zb_t (by rw [e10]; exact b), if_pos (by decide), e_M_weigh_11, M_in' xs _ hw rfl rfl, zci_ok, zb_zw, zb_t c, if_pos (by decide), e_M_weigh_26, pM_r_weights, pM_a_weights xs _ (by omega) (by omega), pM_r_weights, pM_s_weights _ _ (by omega) (by omega), hag pM_weights (by decide)]
      · have a0 : ∀ q, q ≠ 12 → q ≠ pM_weights → up (up g 12 (n : Int) w) pM_weights (n : Int) w q = g q := fun q h1 h2 => by rw [up_p _ _ _ h2, hag q h1]
        have a3 : up (up g 12 (n : Int) w) pM_weights (n : Int) w 12 = up g 12 (n : Int) w 12 := up_p _ _ _ (by decide)
        have a3' : up (up g 12 (n : Int) w) pM_weights (n : Int) w 11 = up g 12 (n : Int) w 11 := up_p _ _ _ (by decide)
        have a4 : up (up g 12 (n : Int) w) pM_weights (n : Int) w pM_weights (n : Int) = w := up_same _ _ _ _
        have a5 : ∀ j : Int, j ≠ n → up (up g 12 (n : Int) w) pM_weights (n : Int) w pM_weights j = g pM_weights j := fun j hj => by rw [up_ne _ _ (fun z => hj z.2), hag pM_weights (by decide)]
        generalize hg2 : up (up g 12 (n : Int) w) pM_weights (n : Int) w = g2 at a0 a3 a3' a4 a5
        have s := a0 pM_signalRows (by decide) (by decide)
        have pg := a0 pM_page (by decide) (by decide)
        have sp := a0 pM_speeches (by decide) (by decide)
        have ro := a0 pM_rows (by decide) (by decide)
        have nr := a0 pM_noteRows (by decide) (by decide)
        have kw := a0 pM_keptWeights (by decide) (by decide)
        have kr := a0 pM_keptRows (by decide) (by decide)
        have fm := a0 pM (by decide) (by decide)
        refine ⟨⟨?_, ?_, ?_, ?_, ?_, ?_, ?_⟩, ?_, ?_, ?_, ?_, ?_, ?_⟩
        · unfold bdQ
          rw [fm]
          exact hQ
        · unfold bdP
          rw [fm, pg]
          exact hP
        · unfold bdC
          rw [fm, sp, ro]
          exact hC
        · unfold bdS
          rw [fm, s]
          exact hS
        · intro m h1 h2
          rw [fm] at h2
          by_cases z : m = n
          · rw [z, a4]; omega
          · rw [a5 m z]; exact hW m h1 h2
        · rw [fm, nr]
          exact hN
        · unfold bdK
          rw [fm, kw, kr]
          exact hK
        · exact RelS_cg (RelS_fr r1 (fun q h1 h2 => a0 q (by omega) (by simp only [pM_weights]; omega))) s (by rw [fm])
        · have hwl2 : wL g2 = (wL g).set n w := by
            unfold wL
            rw [fm, zLi_set]
            refine zLi_cg (fun k hk => ?_)
            by_cases z : k = n
            · rw [if_pos z, z, a4]
            · rw [if_neg z, a5 k (by omega)]
          rw [hwl2]
          exact zRow_fr p2 a3' a3
        · unfold pL
          rw [fm, pg]
          exact zRow_fr r3 (a0 _ (by decide) (by decide)) (a0 _ (by decide) (by decide))
        · exact RelC_cg (RelC_fr r4 (by rw [a0 pX (by decide) (by decide)]) (fun q h1 h2 => a0 q (by omega) (by simp only [pM_weights]; omega))) s (by rw [fm]) ro sp (by rw [fm])
        · rw [nr, fm]
          exact RelN_fr q18.2 r5 (fun q h1 h2 => a0 q (by omega) (by simp only [pM_weights]; omega))
        · exact RelK_cg (RelK_fr hB r6 (by rw [a0 pX (by decide) (by decide)]) (fun q h1 h2 => a0 q (by omega) (by simp only [pM_weights]; omega))) (by rw [fm]) (by rw [fm]) kw kr
    · refine ⟨-102, g, g, ?_, ?_, hI⟩
      · rw [e_X_weigh_0, pX_ck, X_isThing xs hB hR _ ht, zci_ok, zb_zw, zb_t b, if_pos (by decide), e_X_weigh_11, X_isWeight xs w _ hw, zci_ok, zb_zw, zb_f c, if_neg (by decide)]
      · rw [e_M_weigh_0, pM_ck, M_isThing' xs hB ht, zci_ok, zb_zw, zb_t b, if_pos (by decide), e_M_weigh_11, M_in' xs _ hw rfl rfl, zci_ok, zb_zw, zb_f c, if_neg (by decide)]
  · refine ⟨-101, g, g, ?_, ?_, hI⟩
    · rw [e_X_weigh_0, pX_ck, X_isThing xs hB hR _ ht, zci_ok, zb_zw, zb_f b, if_neg (by decide)]
    · rw [e_M_weigh_0, pM_ck, M_isThing' xs hB ht, zci_ok, zb_zw, zb_f b, if_neg (by decide)]
theorem op_forget (xs : List Int) {g : Nat → Int → Int} (hI : Inv g) : ∃ v g1 g2, zx zblk xs 157 0 [some (.inr (.inr (some pX)))] [] (HH g) = some (some (.inl v), HH g1) ∧ zx zblk xs 60 0 [some (.inr (.inr (some pM)))] [] (HH g1) = some (some (.inl v), HH g2) ∧ Inv g2 := by
  obtain ⟨hB, hR⟩ := hI
  obtain ⟨r1, r2, r3, r4, r5, r6⟩ := id hR
  obtain ⟨hQ, hP, hC, hS, hW, hN, hK⟩ := id hB
  obtain ⟨q1, q5, q8, q10, q18⟩ := id hQ
  obtain ⟨w1, w2, w3⟩ := Row_wipe xs (g := g) Rw17
  have hag : ∀ q, q ≠ 17 → q ≠ 18 → up g 17 1 0 q = g q := fun q h1 h2 => w3.at (fun j => by simp only [scR]; omega)
  refine ⟨g pM 18, up g 17 1 0, up (up g 17 1 0) pM 18 0, ?_, ?_, ?_⟩
  · have hnt : ∀ f, zgr (HH g) (some 16) 1 0 f = f (some 17) := fun f => No_t No16 f
    rw [e_X_forget_0, pX_r_notes, No_ck No16, Notes_size xs No16 q18.1 r5, zci_ok, pX_r_notes, No_ck No16, e_Notes_wipe_0, hnt, Rw_ck Rw17, w1, zcv_ok, zcv_ok]
  · rw [e_M_forget_0, pM_g_notes, pM_p_notes, hag pM (by decide) (by decide)]
  · have a0 : ∀ q, q ≠ 17 → q ≠ 18 → q ≠ pM → up (up g 17 1 0) pM 18 0 q = g q := fun q h1 h2 h3 => by rw [up_p _ _ _ h3, hag q h1 h2]
    have a1 : ∀ j : Int, j ≠ 18 → up (up g 17 1 0) pM 18 0 pM j = g pM j := fun j hj => by rw [up_ne _ _ (fun z => hj z.2), hag pM (by decide) (by decide)]
    have a2 : up (up g 17 1 0) pM 18 0 pM 18 = 0 := up_same _ _ _ _
    have a3 : ∀ q, q ≠ pM → up (up g 17 1 0) pM 18 0 q = up g 17 1 0 q := fun q h => up_p _ _ _ h
    generalize hg2 : up (up g 17 1 0) pM 18 0 = g2 at a0 a1 a2 a3
    have s := a0 pM_signalRows (by decide) (by decide) (by decide)
    have pg := a0 pM_page (by decide) (by decide) (by decide)
    have sp := a0 pM_speeches (by decide) (by decide) (by decide)
    have ro := a0 pM_rows (by decide) (by decide) (by decide)
    have we := a0 pM_weights (by decide) (by decide) (by decide)
    have kw := a0 pM_keptWeights (by decide) (by decide) (by decide)
    have kr := a0 pM_keptRows (by decide) (by decide) (by decide)
    have f1 := a1 1 (by decide)
    have f5 := a1 5 (by decide)
    have f8 := a1 8 (by decide)
    have f10 := a1 10 (by decide)
    have f22 := a1 22 (by decide)
    have f23 := a1 23 (by decide)
    refine ⟨⟨?_, ?_, ?_, ?_, ?_, ?_, ?_⟩, ?_, ?_, ?_, ?_, ?_, ?_⟩
    · unfold bdQ
      rw [a2, f1, f5, f8, f10]
      exact ⟨q1, q5, q8, q10, by omega⟩
    · unfold bdP
      rw [f1, pg]
      exact hP
    · unfold bdC
      rw [f5, sp, ro]
      exact hC
    · unfold bdS
      rw [f8, s]
      exact hS
    · unfold bdW
      rw [f10, we]
      exact hW
    · intro m h1 h2
      rw [a2] at h2
      omega
    · unfold bdK
      rw [f10, f22, f23, kw, kr]
      exact hK
    · exact RelS_cg (RelS_fr r1 (fun q h1 h2 => a0 q (by omega) (by omega) (by simp only [pM]; omega))) s f8
    · unfold wL
      rw [we, f10]
      exact zRow_fr r2 (a0 _ (by decide) (by decide) (by decide)) (a0 _ (by decide) (by decide) (by decide))
    · unfold pL
      rw [f1, pg]
      exact zRow_fr r3 (a0 _ (by decide) (by decide) (by decide)) (a0 _ (by decide) (by decide) (by decide))
    · exact RelC_cg (RelC_fr r4 (by rw [a0 pX (by decide) (by decide) (by decide)]) (fun q h1 h2 => a0 q (by omega) (by omega) (by simp only [pM]; omega))) s f8 ro sp f5
    · rw [a2]
      exact ⟨zRow_fr w2 (a3 _ (by decide)) (a3 _ (by decide)), fun k hk => by omega⟩
    · exact RelK_cg (RelK_fr hB r6 (by rw [a0 pX (by decide) (by decide) (by decide)]) (fun q h1 h2 => a0 q (by omega) (by omega) (by simp only [pM]; omega))) f22 f23 kw kr
