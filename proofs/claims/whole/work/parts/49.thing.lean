/-! ===== thing, weigh, forget ===== -/
theorem op_thing (xs : List Int) {g : Nat → Int → Int} (hI : Inv g) {w : Int} (hw : zw w = w) : ∃ v g1 g2, zx zblk xs 142 0 [some (.inr (.inr (some pX))), some (.inl (w))] [] (HH g) = some (some (.inl v), HH g1) ∧ zx zblk xs 14 0 [some (.inr (.inr (some pM))), some (.inl (w))] [] (HH g1) = some (some (.inl v), HH g2) ∧ Inv g2 := by
  obtain ⟨hB, hR⟩ := id hI
  obtain ⟨r1, r2, r3, r4, r5, r6⟩ := id hR
  obtain ⟨hQ, hP, hC, hS, hW, hN, hK⟩ := id hB
  obtain ⟨q1, q5, q8, q10, q18⟩ := id hQ
  have hwl := wL_len hQ
  by_cases c : 1 ≤ w ∧ w ≤ 99
  · by_cases d : g pM 10 < 8
    · obtain ⟨n, hn⟩ : ∃ n : Nat, g pM 10 = n := ⟨(g pM 10).toNat, by omega⟩
      obtain ⟨g1, p1, p2, p3⟩ := Row_add xs Rw11 r2 (by omega) w
      have hag : ∀ q, q ≠ 11 → q ≠ 12 → g1 q = g q := fun q h1 h2 => p3.at (fun j => by simp only [scR]; omega)
      have hlen : ((wL g ++ [w]).length : Int) = g pM 10 + 1 := by rw [List.length_append]; simp only [List.length_singleton]; omega
      refine ⟨g pM 10 + 1 - 1, g1, up (up g1 pM_weights (n : Int) w) pM 10 (g pM 10 + 1), ?_, ?_, ?_⟩
      · rw [e_X_thing_0, X_isWeight xs w _ hw, zci_ok, zb_zw, zb_t c, if_pos (by decide), e_X_thing_10, pX_r_weights, Rw_ck Rw11, Row_size xs Rw11 r2, zci_ok, hwl.1, zw_id (by omega) (by omega), if_pos (by exact d), e_X_thing_25, pX_r_weights, Rw_ck Rw11, p1, zcv_ok, pX_r_weights, Rw_ck Rw11, Row_size xs Rw11 p2, zci_ok, hlen]
      · have e10 : g1 pM 10 = g pM 10 := by rw [hag pM (by decide) (by decide)]
        have e10' : up g1 pM_weights (n : Int) w pM 10 = g pM 10 := by rw [up_q (by decide), e10]
        rw [e_M_thing_0, M_in' xs _ hw rfl rfl, zci_ok, zb_zw, zb_t c, if_pos (by decide), e_M_thing_15, pM_g_things, e10, if_pos (by rw [zw_id (by omega) (by omega), show zw 8 = 8 from rfl]; omega), e_M_thing_27, pM_r_weights, pM_g_things, e10, hn, pM_s_weights _ _ (by omega) (by omega), pM_g_things, e10', pM_p_things, pM_g_things, up_same, hn]
      · have a0 : ∀ q, q ≠ 11 → q ≠ 12 → q ≠ pM → q ≠ pM_weights → up (up g1 pM_weights (n : Int) w) pM 10 (g pM 10 + 1) q = g q := fun q h1 h2 h3 h4 => by rw [up_p _ _ _ h3, up_p _ _ _ h4, hag q h1 h2]
        have a1 : ∀ j : Int, j ≠ 10 → up (up g1 pM_weights (n : Int) w) pM 10 (g pM 10 + 1) pM j = g pM j := fun j hj => by rw [up_ne _ _ (fun z => hj z.2), up_p _ _ _ (by decide), hag pM (by decide) (by decide)]
        have a2 : up (up g1 pM_weights (n : Int) w) pM 10 (g pM 10 + 1) pM 10 = g pM 10 + 1 := up_same _ _ _ _
        have a3 : ∀ q, q = 11 ∨ q = 12 → up (up g1 pM_weights (n : Int) w) pM 10 (g pM 10 + 1) q = g1 q := fun q h => by rw [up_p _ _ _ (by simp only [pM]; omega), up_p _ _ _ (by simp only [pM_weights]; omega)]
        have a4 : up (up g1 pM_weights (n : Int) w) pM 10 (g pM 10 + 1) pM_weights (n : Int) = w := by rw [up_p _ _ _ (by decide), up_same]
        have a5 : ∀ j : Int, j ≠ n → up (up g1 pM_weights (n : Int) w) pM 10 (g pM 10 + 1) pM_weights j = g pM_weights j := fun j hj => by rw [up_p _ _ _ (by decide), up_ne _ _ (fun z => hj z.2), hag pM_weights (by decide) (by decide)]
        generalize hg2 : up (up g1 pM_weights (n : Int) w) pM 10 (g pM 10 + 1) = g2 at a0 a1 a2 a3 a4 a5
        have s := a0 pM_signalRows (by decide) (by decide) (by decide) (by decide)
        have pg := a0 pM_page (by decide) (by decide) (by decide) (by decide)
        have sp := a0 pM_speeches (by decide) (by decide) (by decide) (by decide)
        have ro := a0 pM_rows (by decide) (by decide) (by decide) (by decide)
        have nr := a0 pM_noteRows (by decide) (by decide) (by decide) (by decide)
        have kw := a0 pM_keptWeights (by decide) (by decide) (by decide) (by decide)
        have kr := a0 pM_keptRows (by decide) (by decide) (by decide) (by decide)
        have f1 := a1 1 (by decide)
        have f5 := a1 5 (by decide)
        have f8 := a1 8 (by decide)
        have f18 := a1 18 (by decide)
        have f22 := a1 22 (by decide)
        have f23 := a1 23 (by decide)
        refine ⟨⟨?_, ?_, ?_, ?_, ?_, ?_, ?_⟩, ?_, ?_, ?_, ?_, ?_, ?_⟩
        · unfold bdQ
          rw [f1, a2, f5, f8, f18]
          exact ⟨q1, q5, q8, by omega, q18⟩
        · unfold bdP
          rw [f1, pg]
          exact hP
        · unfold bdC
          rw [f5, sp, ro]
          exact hC
        · unfold bdS
          rw [f8, s]
          exact hS
        · intro t h1 h2
          rw [a2] at h2
          by_cases z : t = n
          · rw [z, a4]; omega
          · rw [a5 t z]; exact hW t h1 (by omega)
        · intro m h1 h2
          rw [f18] at h2
          rw [nr, a2]
          have := hN m h1 h2
          exact ⟨this.1, by omega, this.2.2⟩
        · unfold bdK at hK ⊢
          rw [a2, f22, f23, kw, kr]
          rcases hK with z | ⟨z1, z2, z3⟩
          · exact Or.inl z
          · exact Or.inr ⟨z1, by omega, z3⟩
        · exact RelS_cg (RelS_fr r1 (fun q h1 h2 => a0 q (by omega) (by omega) (by simp only [pM]; omega) (by simp only [pM_weights]; omega))) s f8
        · have hwl2 : wL g2 = wL g ++ [w] := by
            unfold wL
            rw [a2, show (g pM 10 + 1).toNat = (g pM 10).toNat + 1 by omega, zLi_snoc, show (((g pM 10).toNat : Nat) : Int) = n by omega, a4]
            congr 1
            exact zLi_cg (fun k hk => a5 k (by omega))
          rw [hwl2]
          exact zRow_fr p2 (a3 _ (Or.inl rfl)) (a3 _ (Or.inr rfl))
        · unfold pL
          rw [f1, pg]
          exact zRow_fr r3 (a0 _ (by decide) (by decide) (by decide) (by decide)) (a0 _ (by decide) (by decide) (by decide) (by decide))
        · exact RelC_cg (RelC_fr r4 (by rw [a0 pX (by decide) (by decide) (by decide) (by decide)]) (fun q h1 h2 => a0 q (by omega) (by omega) (by simp only [pM]; omega) (by simp only [pM_weights]; omega))) s f8 ro sp f5
        · rw [nr, f18]
          exact RelN_fr q18.2 r5 (fun q h1 h2 => a0 q (by omega) (by omega) (by simp only [pM]; omega) (by simp only [pM_weights]; omega))
        · exact RelK_cg (RelK_fr hB r6 (by rw [a0 pX (by decide) (by decide) (by decide) (by decide)]) (fun q h1 h2 => a0 q (by omega) (by omega) (by simp only [pM]; omega) (by simp only [pM_weights]; omega))) f22 f23 kw kr
    · refine ⟨-104, g, g, ?_, ?_, hI⟩
      · rw [e_X_thing_0, X_isWeight xs w _ hw, zci_ok, zb_zw, zb_t c, if_pos (by decide), e_X_thing_10, pX_r_weights, Rw_ck Rw11, Row_size xs Rw11 r2, zci_ok, hwl.1, zw_id (by omega) (by omega), if_neg (by exact d)]
      · rw [e_M_thing_0, M_in' xs _ hw rfl rfl, zci_ok, zb_zw, zb_t c, if_pos (by decide), e_M_thing_15, pM_g_things, if_neg (by rw [zw_id (by omega) (by omega), show zw 8 = 8 from rfl]; omega)]
  · refine ⟨-102, g, g, ?_, ?_, hI⟩
    · rw [e_X_thing_0, X_isWeight xs w _ hw, zci_ok, zb_zw, zb_f c, if_neg (by decide)]
    · rw [e_M_thing_0, M_in' xs _ hw rfl rfl, zci_ok, zb_zw, zb_f c, if_neg (by decide)]
