/-! ===== restore ===== -/
theorem X_restore_w (xs : List Int) {g : Nat → Int → Int} {K w : Nat → Int} {T N : Nat} (hN : N ≤ 8) (hTN : T ≤ N) (h43 : zRow g 43 (zLi K T)) (h11 : zRow g 11 (zLi w N)) (hK : ∀ t, t < T → zw (K t) = K t) : ∃ g1, zx zblk xs 167 12 [some (.inr (.inr (some pX))), some (.inl (0))] [] (HH g) = zx zblk xs 167 45 [some (.inr (.inr (some pX)))] [] (HH g1) ∧ zRow g1 11 (zLi (fun t => if t < T then K t else w t) N) ∧ zFr (scR 11) g g1 := by
  have loop : ∀ (r k : Nat) (gk : Nat → Int → Int), k + r = T → zRow gk 11 (zLi (fun t => if t < k then K t else w t) N) → zFr (scR 11) g gk → ∃ g1, zx zblk xs 167 12 [some (.inr (.inr (some pX))), some (.inl ((k : Int)))] [] (HH gk) = zx zblk xs 167 45 [some (.inr (.inr (some pX)))] [] (HH g1) ∧ zRow g1 11 (zLi (fun t => if t < T then K t else w t) N) ∧ zFr (scR 11) g g1 := by
    intro r
    induction r with
    | zero =>
      intro k gk hk hr hf
      have : k = T := by omega
      subst this
      have h43k : zRow gk 43 (zLi K k) := zRow_fr h43 (hf.at (fun j => by simp only [scR]; omega)) (hf.at (fun j => by simp only [scR]; omega))
      refine ⟨gk, ?_, hr, hf⟩
      rw [e_X_restore_12, pX_r_keptWeights, Rw_ck Rw43, Row_size xs Rw43 h43k, zci_ok, zLi_len, if_pos (Int.le_refl _)]
    | succ r ih =>
      intro k gk hk hr hf
      have h43k : zRow gk 43 (zLi K T) := zRow_fr h43 (hf.at (fun j => by simp only [scR]; omega)) (hf.at (fun j => by simp only [scR]; omega))
      obtain ⟨p1, p2⟩ := Row_set xs Rw11 hr (by rw [zLi_len]; omega) k (K k) (by rw [zLi_len]; omega)
      obtain ⟨g1, q1, q2, q3⟩ := ih (k + 1) (up gk (11 + 1) k (K k)) (by omega) (by
        rw [zLi_set] at p2
        rw [zLi_cg (f' := fun j => if j = k then K k else if j < k then K j else w j) (fun j hj => by
          by_cases e : j = k
          · rw [e, if_pos (by omega), if_pos rfl]
          · rw [if_neg e]
            by_cases e2 : j < k
            · rw [if_pos (by omega), if_pos e2]
            · rw [if_neg (by omega), if_neg e2])]
        exact p2) (hf.up (Or.inr rfl))
      refine ⟨g1, ?_, q2, q3⟩
      rw [e_X_restore_12, pX_r_keptWeights, Rw_ck Rw43, Row_size xs Rw43 h43k, zci_ok, zLi_len, if_neg (by rw [zw_id (by omega) (by omega), zw_id (by omega) (by omega)]; omega), pX_r_weights, pX_r_keptWeights, Rw_ck Rw43, Row_at xs Rw43 h43k (by rw [zLi_len]; omega) k (zw_id (by omega) (by omega)), zci_ok, zat_Li (by omega), show ((k : Int)).toNat = k from rfl, Rw_ck Rw11, p1, zcv_ok, ← Int.natCast_succ]
      exact q1
  obtain ⟨g1, q1, q2, q3⟩ := loop T 0 g (by omega) (by
    rw [zLi_cg (f' := w) (fun j hj => if_neg (by omega))]
    exact h11) zFr.rf
  rw [z0N] at q1
  exact ⟨g1, q1, q2, q3⟩
theorem op_restore (xs : List Int) {g : Nat → Int → Int} (hI : Inv g) : ∃ v g1 g2, zx zblk xs 167 0 [some (.inr (.inr (some pX)))] [] (HH g) = some (some (.inl v), HH g1) ∧ zx zblk xs 76 0 [some (.inr (.inr (some pM)))] [] (HH g1) = some (some (.inl v), HH g2) ∧ Inv g2 := by
  obtain ⟨hB, hR⟩ := id hI
  obtain ⟨r1, r2, r3, r4, r5, r6⟩ := id hR
  obtain ⟨hQ, hP, hC, hS, hW, hN, hK⟩ := id hB
  obtain ⟨q1, q5, q8, q10, q18⟩ := id hQ
  have hwl := wL_len hQ
  by_cases k : g pM 22 = -1
  · refine ⟨-103, g, g, ?_, ?_, hI⟩
    · rw [e_X_restore_0, pX_g_kept, r6.1, if_pos k, if_neg (by decide)]
    · rw [e_M_restore_0, pM_g_keptThings, k, if_neg (fun z => z rfl)]
  · obtain ⟨k1, k2⟩ := r6.2 k
    rcases hK with hK | ⟨t0, t1, n0, n1, bn, bw⟩
    · exact absurd hK k
    obtain ⟨T, hT⟩ : ∃ T : Nat, g pM 22 = T := ⟨(g pM 22).toNat, by omega⟩
    obtain ⟨N, hNN⟩ : ∃ N : Nat, g pM 23 = N := ⟨(g pM 23).toNat, by omega⟩
    obtain ⟨W, hWW⟩ : ∃ W : Nat, g pM 10 = W := ⟨(g pM 10).toNat, by omega⟩
    rw [hT] at k1 bw
    rw [hNN] at k2 bn
    rw [show ((T : Int)).toNat = T from rfl] at k1
    have r2' : zRow g 11 (zLi (fun t => g pM_weights t) W) := by unfold wL at r2; rw [hWW] at r2; exact r2
    obtain ⟨ga, a1, a2, a3⟩ := X_restore_w xs (by omega) (by omega) k1 r2' (fun t ht => by have := bw t (by omega) (by omega); exact zw_id (by omega) (by omega))
    have fa : ∀ q, q ≠ 11 → q ≠ 12 → ga q = g q := fun q h1 h2 => a3.at (fun j => by simp only [scR]; omega)
    obtain ⟨g1, b1, b2, b3⟩ := Notes_copyOf xs No16 No45 (by omega) (by omega) bn (RelN_fr (by omega) k2 (fun q h1 h2 => fa q (by omega) (by omega)))
    have fb : ∀ q, q < 17 ∨ 42 < q → g1 q = ga q := fun q h1 => b3.at (fun j => by omega)
    have x5 : ∀ q, q < 11 ∨ 12 < q → q < 17 ∨ 42 < q → g1 q = g q := fun q h0 h1 => by rw [fb q (by omega), fa q (by omega) (by omega)]
    have xX : zx zblk xs 167 0 [some (.inr (.inr (some pX)))] [] (HH g) = some (some (.inl (W : Int)), HH g1) := by
      rw [e_X_restore_0, pX_g_kept, r6.1, if_neg k, if_pos (by decide), e_X_restore_10, a1, e_X_restore_45, pX_r_notes, pX_r_keptNotes, No_ck No16, b1, zcv_ok, pX_r_weights, Rw_ck Rw11, Row_size xs Rw11 (zRow_fr a2 (fb _ (by omega)) (fb _ (by omega))), zci_ok, zLi_len]
    have kt : g1 pM 22 = T := by rw [x5 pM (by simp only [pM]; omega) (by simp only [pM]; omega)]; exact hT
    obtain ⟨gc, c1, c2, c3⟩ := M_restore_w xs kt (by omega)
    obtain ⟨gd, d1, d2, d3⟩ := M_restore_n xs gc
    have kk : ∀ j : Int, gd pM j = g pM j := fun j => by rw [d3.at (q := pM) (fun j => by decide), c3 pM j (fun z => absurd z.1 (by decide)), x5 pM (by simp only [pM]; omega) (by simp only [pM]; omega)]
    refine ⟨W, g1, up gd pM 18 N, xX, ?_, ?_⟩
    · rw [e_M_restore_0, pM_g_keptThings, kt, if_pos (by rw [zw_id (by omega) (by omega), show zw (-1) = -1 from rfl]; omega), e_M_restore_11, c1, e_M_restore_39, d1, e_M_restore_65, pM_g_keptNotes, kk 23, hNN, pM_p_notes, pM_g_things, up_ne _ _ (by decide), kk 10, hWW]
    · have a0 : ∀ q, q ≠ pM → q ≠ pM_weights → q ≠ pM_noteRows → up gd pM 18 (N : Int) q = g1 q := fun q h1 h2 h3 => by
        rw [up_p _ _ _ h1, d3.at (fun j => h3), c3.at (fun j z => h2 z.1)]
      have a1' : ∀ j : Int, j ≠ 18 → up gd pM 18 (N : Int) pM j = g pM j := fun j h1 => by rw [up_ne _ _ (fun z => h1 z.2), kk j]
      have a2' : up gd pM 18 (N : Int) pM 18 = N := up_same _ _ _ _
      have a4 : ∀ j : Int, 0 ≤ j → j < T → up gd pM 18 (N : Int) pM_weights j = g pM_keptWeights j := fun j h0 h1 => by
        rw [up_q (by decide), d3.at (q := pM_weights) (fun j => by decide), c2 j h0 h1, x5 pM_keptWeights (by simp only [pM_keptWeights]; omega) (by simp only [pM_keptWeights]; omega)]
      have a4' : ∀ j : Int, (T : Int) ≤ j → up gd pM 18 (N : Int) pM_weights j = g pM_weights j := fun j h0 => by
        rw [up_q (by decide), d3.at (q := pM_weights) (fun j => by decide), c3 pM_weights j (fun z => by omega), x5 pM_weights (by simp only [pM_weights]; omega) (by simp only [pM_weights]; omega)]
      have a5 : ∀ j : Int, 0 ≤ j → j < 100 → up gd pM 18 (N : Int) pM_noteRows j = g pM_keptRows j := fun j h0 h1 => by
        rw [up_q (by decide), d2 j h0 h1, c3.at (q := pM_keptRows) (fun j z => absurd z.1 (by decide)), x5 pM_keptRows (by simp only [pM_keptRows]; omega) (by simp only [pM_keptRows]; omega)]
      generalize hG : up gd pM 18 (N : Int) = G at a0 a1' a2' a4 a4' a5
      clear hG
      have aC : ∀ q, q < 265 → G q = g1 q := fun q h0 => a0 q (by simp only [pM]; omega) (by simp only [pM_weights]; omega) (by simp only [pM_noteRows]; omega)
      have aX : ∀ q, q < 265 → q < 11 ∨ 12 < q → q < 17 ∨ 42 < q → G q = g q := fun q h0 h1 h2 => by rw [aC q h0, x5 q h1 h2]
      have aB : ∀ q, 265 ≤ q → q ≠ pM → q ≠ pM_weights → q ≠ pM_noteRows → G q = g q := fun q h0 h1 h2 h3 => by rw [a0 q h1 h2 h3, x5 q (by omega) (by omega)]
      have s := aB pM_signalRows (by decide) (by decide) (by decide) (by decide)
      have pg := aB pM_page (by decide) (by decide) (by decide) (by decide)
      have sp := aB pM_speeches (by decide) (by decide) (by decide) (by decide)
      have ro := aB pM_rows (by decide) (by decide) (by decide) (by decide)
      have kw := aB pM_keptWeights (by decide) (by decide) (by decide) (by decide)
      have kr := aB pM_keptRows (by decide) (by decide) (by decide) (by decide)
      have f1 := a1' 1 (by decide)
      have f5 := a1' 5 (by decide)
      have f8 := a1' 8 (by decide)
      have f10 := a1' 10 (by decide)
      have f22 := a1' 22 (by decide)
      have f23 := a1' 23 (by decide)
      refine ⟨⟨?_, ?_, ?_, ?_, ?_, ?_, ?_⟩, ?_, ?_, ?_, ?_, ?_, ?_⟩
      · unfold bdQ
        rw [f1, f5, f8, f10, a2']
        exact ⟨q1, q5, q8, q10, by omega⟩
      · unfold bdP
        rw [f1, pg]
        exact hP
      · unfold bdC
        rw [f5, sp, ro]
        exact hC
      · unfold bdS
        rw [f8, s]
        exact hS
      · intro t h0 h1
        rw [f10] at h1
        by_cases e : t < T
        · rw [a4 t h0 e]; exact bw t h0 e
        · rw [a4' t (by omega)]; exact hW t h0 h1
      · rw [f10, a2']
        have bn' : bdN (g pM 10) N (g pM_keptRows) := fun m m0 m1 => by
          obtain ⟨o1, o2, o3⟩ := bn m m0 m1
          exact ⟨o1, by omega, o3⟩
        exact bdN_cg (by omega) bn' a5
      · unfold bdK
        rw [f10, f22, f23, kw, kr]
        refine Or.inr ⟨t0, t1, n0, n1, ?_, ?_⟩
        · rw [hNN]; exact bn
        · rw [hT]; exact bw
      · exact RelS_cg (RelS_fr r1 (fun q h1 h2 => aX q (by omega) (by omega) (by omega))) s f8
      · unfold wL
        rw [f10, hWW, show ((W : Int)).toNat = W from rfl, zLi_cg (f' := fun t : Nat => if t < T then g pM_keptWeights t else g pM_weights t) (fun t ht => by
          by_cases e : t < T
          · rw [if_pos e]; exact a4 t (by omega) (by omega)
          · rw [if_neg e]; exact a4' t (by omega))]
        exact zRow_fr a2 (by rw [aC _ (by omega), fb _ (by omega)]) (by rw [aC _ (by omega), fb _ (by omega)])
      · unfold pL
        rw [pg, f1]
        exact zRow_fr r3 (aX _ (by omega) (by omega) (by omega)) (aX _ (by omega) (by omega) (by omega))
      · exact RelC_cg (RelC_fr r4 (by rw [aX pX (by decide) (by decide) (by decide)]) (fun q h1 h2 => aX q (by omega) (by omega) (by omega))) s f8 ro sp f5
      · rw [a2']
        exact RelN_cg (by omega) bn (RelN_fr (by omega) b2 (fun q h1 h2 => aC q (by omega))) a5
      · exact RelK_cg (RelK_fr hB r6 (by rw [aX pX (by decide) (by decide) (by decide)]) (fun q h1 h2 => aX q (by omega) (by omega) (by omega))) f22 f23 kw kr
