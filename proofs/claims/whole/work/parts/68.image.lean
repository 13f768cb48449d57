/-! ===== image, restore ===== -/
theorem op_image (xs : List Int) {g : Nat → Int → Int} (hI : Inv g) : ∃ v g1 g2, zx zblk xs 166 0 [some (.inr (.inr (some pX)))] [] (HH g) = some (some (.inl v), HH g1) ∧ zx zblk xs 75 0 [some (.inr (.inr (some pM)))] [] (HH g1) = some (some (.inl v), HH g2) ∧ Inv g2 := by
  obtain ⟨hB, hR⟩ := id hI
  obtain ⟨r1, r2, r3, r4, r5, r6⟩ := id hR
  obtain ⟨hQ, hP, hC, hS, hW, hN, hK⟩ := id hB
  obtain ⟨q1, q5, q8, q10, q18⟩ := id hQ
  have hwl := wL_len hQ
  obtain ⟨N, hNN⟩ : ∃ N : Nat, g pM 18 = N := ⟨(g pM 18).toNat, by omega⟩
  obtain ⟨ga, a1, a2, a3⟩ := Row_copyOf xs Rw43 Rw11 r2 hwl.2 hwl.2 (by omega)
  have fa : ∀ q, q ≠ 43 → q ≠ 44 → ga q = g q := fun q h1 h2 => a3.at (fun j => by simp only [scR]; omega)
  rw [hNN] at hN r5
  obtain ⟨gb, b1, b2, b3⟩ := Notes_copyOf xs No45 No16 (by omega) (by omega) hN (RelN_fr (by omega) r5 (fun q h1 h2 => fa q (by omega) (by omega)))
  have fb : ∀ q, q < 46 ∨ 71 < q → gb q = ga q := fun q h1 => b3.at (fun j => by omega)
  have x5 : ∀ q, q ≠ pX → q < 43 ∨ 71 < q → up gb pX 8 1 q = g q := fun q h0 h1 => by rw [up_p _ _ _ h0, fb q (by omega), fa q (by omega) (by omega)]
  have x6 : ∀ q, q ≠ pX → up gb pX 8 1 q = gb q := fun q h0 => up_p _ _ _ h0
  have x7 : ∀ j, j ≠ 8 → up gb pX 8 1 pX j = g pX j := fun j hj => by rw [up_ne _ _ (fun z => hj z.2), fb pX (by simp only [pX]; omega), fa pX (by decide) (by decide)]
  have x8 : up gb pX 8 1 pX 8 = 1 := up_same _ _ _ _
  have xX : zx zblk xs 166 0 [some (.inr (.inr (some pX)))] [] (HH g) = some (some (.inl (g pM 10)), HH (up gb pX 8 1)) := by
    rw [e_X_image_0, pX_r_keptWeights, pX_r_weights, Rw_ck Rw43, a1, zcv_ok, pX_r_keptNotes, pX_r_notes, No_ck No45, b1, zcv_ok, if_pos (Or.inr rfl), pX_p_kept, pX_r_weights, Rw_ck Rw11, Row_size xs Rw11 (zRow_fr r2 (x5 _ (by decide) (by omega)) (x5 _ (by decide) (by omega))), zci_ok, hwl.1]
  generalize up gb pX 8 1 = g1 at x5 x6 x7 x8 xX
  obtain ⟨gc, c1, c2, c3⟩ := M_image_w xs g1
  obtain ⟨gd, d1, d2, d3⟩ := M_image_n xs gc
  have k18 : gd pM 18 = g pM 18 := by rw [d3.at (q := pM) (fun j => by decide), c3.at (q := pM) (fun j => by decide), x5 pM (by decide) (by simp only [pM]; omega)]
  have k10 : gd pM 10 = g pM 10 := by rw [d3.at (q := pM) (fun j => by decide), c3.at (q := pM) (fun j => by decide), x5 pM (by decide) (by simp only [pM]; omega)]
  refine ⟨g pM 10, g1, up (up gd pM 23 (g pM 18)) pM 22 (g pM 10), xX, ?_, ?_⟩
  · rw [e_M_image_0, c1, e_M_image_26, d1, e_M_image_52, pM_g_notes, k18, pM_p_keptNotes, pM_g_things, up_ne _ _ (by decide), k10, pM_p_keptThings, pM_g_things, up_ne _ _ (by decide), up_ne _ _ (by decide), k10]
  · have a0 : ∀ q, q ≠ pM → q ≠ pM_keptWeights → q ≠ pM_keptRows → up (up gd pM 23 (g pM 18)) pM 22 (g pM 10) q = g1 q := fun q h1 h2 h3 => by
      rw [up_p _ _ _ h1, up_p _ _ _ h1, d3.at (fun j => h3), c3.at (fun j => h2)]
    have a1' : ∀ j : Int, j ≠ 22 → j ≠ 23 → up (up gd pM 23 (g pM 18)) pM 22 (g pM 10) pM j = g pM j := fun j h1 h2 => by
      rw [up_ne _ _ (fun z => h1 z.2), up_ne _ _ (fun z => h2 z.2), d3.at (q := pM) (fun j => by decide), c3.at (q := pM) (fun j => by decide), x5 pM (by decide) (by simp only [pM]; omega)]
    have a2' : up (up gd pM 23 (g pM 18)) pM 22 (g pM 10) pM 22 = g pM 10 := up_same _ _ _ _
    have a3' : up (up gd pM 23 (g pM 18)) pM 22 (g pM 10) pM 23 = g pM 18 := by rw [up_ne _ _ (by decide), up_same]
    have a4 : ∀ j : Int, 0 ≤ j → j < 8 → up (up gd pM 23 (g pM 18)) pM 22 (g pM 10) pM_keptWeights j = g pM_weights j := fun j h0 h1 => by
      rw [up_q (by decide), up_q (by decide), d3.at (q := pM_keptWeights) (fun j => by decide), c2 j h0 h1, x5 pM_weights (by decide) (by simp only [pM_weights]; omega)]
    have a5 : ∀ j : Int, 0 ≤ j → j < 100 → up (up gd pM 23 (g pM 18)) pM 22 (g pM 10) pM_keptRows j = g pM_noteRows j := fun j h0 h1 => by
      rw [up_q (by decide), up_q (by decide), d2 j h0 h1, c3.at (q := pM_noteRows) (fun j => by decide), x5 pM_noteRows (by decide) (by simp only [pM_noteRows]; omega)]
    generalize hG : up (up gd pM 23 (g pM 18)) pM 22 (g pM 10) = G at a0 a1' a2' a3' a4 a5
    clear hG
    have aC : ∀ q, q < 265 → G q = g1 q := fun q h0 => a0 q (by simp only [pM]; omega) (by simp only [pM_keptWeights]; omega) (by simp only [pM_keptRows]; omega)
    have aX : ∀ q, q < 265 → q ≠ pX → q < 43 ∨ 71 < q → G q = g q := fun q h0 h1 h2 => by rw [aC q h0, x5 q h1 h2]
    have aB : ∀ q, 265 ≤ q → q ≠ pM → q ≠ pM_keptWeights → q ≠ pM_keptRows → G q = g q := fun q h0 h1 h2 h3 => by rw [a0 q h1 h2 h3, x5 q (by simp only [pX]; omega) (by omega)]
    have s := aB pM_signalRows (by decide) (by decide) (by decide) (by decide)
    have pg := aB pM_page (by decide) (by decide) (by decide) (by decide)
    have sp := aB pM_speeches (by decide) (by decide) (by decide) (by decide)
    have ro := aB pM_rows (by decide) (by decide) (by decide) (by decide)
    have we := aB pM_weights (by decide) (by decide) (by decide) (by decide)
    have nr := aB pM_noteRows (by decide) (by decide) (by decide) (by decide)
    have f1 := a1' 1 (by decide) (by decide)
    have f5 := a1' 5 (by decide) (by decide)
    have f8 := a1' 8 (by decide) (by decide)
    have f10 := a1' 10 (by decide) (by decide)
    have f18 := a1' 18 (by decide) (by decide)
    refine ⟨⟨?_, ?_, ?_, ?_, ?_, ?_, ?_⟩, ?_, ?_, ?_, ?_, ?_, ?_⟩
    · unfold bdQ
      rw [f1, f5, f8, f10, f18]
      exact hQ
    · unfold bdP
      rw [f1, pg]
      exact hP
    · unfold bdC
      rw [f5, sp, ro]
      exact hC
    · unfold bdS
      rw [f8, s]
      exact hS
    · unfold bdW
      rw [f10, we]
      exact hW
    · rw [f10, f18, nr, hNN]
      exact hN
    · refine Or.inr ⟨by omega, by omega, by omega, by omega, ?_, fun t t0 t1 => ?_⟩
      · rw [a2', a3', hNN]
        exact bdN_cg (by omega) hN a5
      · rw [a4 t t0 (by omega)]
        exact hW t t0 (by omega)
    · exact RelS_cg (RelS_fr r1 (fun q h1 h2 => aX q (by omega) (by simp only [pX]; omega) (by omega))) s f8
    · unfold wL
      rw [we, f10]
      exact zRow_fr r2 (aX _ (by omega) (by decide) (by omega)) (aX _ (by omega) (by decide) (by omega))
    · unfold pL
      rw [pg, f1]
      exact zRow_fr r3 (aX _ (by omega) (by decide) (by omega)) (aX _ (by omega) (by decide) (by omega))
    · exact RelC_cg (RelC_fr r4 (by rw [aC pX (by decide), x7 3 (by decide)]) (fun q h1 h2 => aX q (by omega) (by simp only [pX]; omega) (by omega))) s f8 ro sp f5
    · rw [nr, f18, hNN]
      exact RelN_fr (by omega) r5 (fun q h1 h2 => aX q (by omega) (by simp only [pX]; omega) (by omega))
    · refine ⟨by rw [aC pX (by decide), x8, if_neg (by omega)], fun _ => ⟨?_, ?_⟩⟩
      · rw [a2', zLi_cg (f := fun t : Nat => G pM_keptWeights t) (f' := fun t : Nat => g pM_weights t) (fun k hk => a4 k (by omega) (by omega))]
        have e43 : G 43 = ga 43 := by rw [aC 43 (by omega), x6 43 (by decide), fb 43 (by omega)]
        have e44 : G 44 = ga 44 := by rw [aC 44 (by omega), x6 44 (by decide), fb 44 (by omega)]
        exact zRow_fr a2 e43 e44
      · rw [a3', hNN]
        exact RelN_cg (by omega) hN (RelN_fr (by omega) b2 (fun q h1 h2 => by rw [aC q (by omega), x6 q (by simp only [pX]; omega)])) a5
