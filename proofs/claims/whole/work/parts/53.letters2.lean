/-! ===== letters: both memories go on together ===== -/
theorem op_letters (xs : List Int) {g : Nat → Int → Int} (hI : Inv g) (w : Int) : ∃ v g1 g2, zx zblk xs 135 0 [some (.inr (.inr (some pX))), some (.inr (.inl (w))), none] [] (HH g) = some (some (.inl v), HH g1) ∧ zx zblk xs 3 0 [some (.inr (.inr (some pM))), some (.inr (.inl (w))), none] [] (HH g1) = some (some (.inl v), HH g2) ∧ Inv g2 := by
  obtain ⟨hB, hR⟩ := id hI
  obtain ⟨r1, r2, r3, r4, r5, r6⟩ := id hR
  obtain ⟨hQ, hP, hC, hS, hW, hN, hK⟩ := id hB
  obtain ⟨q1, q5, q8, q10, q18⟩ := id hQ
  have hpl := pL_len hQ
  have hcr := cntB_rg w 8
  have ho01 : okB w 8 = 0 ∨ okB w 8 = 1 := zall_01 _ _
  rcases ho01 with ho | ho
  · refine ⟨-102, g, g, ?_, ?_, hI⟩
    · rw [e_X_letters_0, X_lettersIn xs w, zci_ok, show lnB w = -1 from if_pos ho, if_neg (by simp)]
    · rw [M_lettersIn xs w, e_M_letters_83, ho, if_neg (by decide)]
  · have hln : lnB w = cntB w 8 := if_neg (by omega)
    obtain ⟨m, hm⟩ : ∃ m : Nat, cntB w 8 = m := ⟨(cntB w 8).toNat, by omega⟩
    have hm8 : m ≤ 8 := by omega
    have hby : ∀ k, k < m → 1 ≤ byI w k ∧ byI w k ≤ 126 := fun k hk => okB_by ho (by omega)
    have hX0 : ∀ g' : Nat → Int → Int, zx zblk xs 135 0 [some (.inr (.inr (some pX))), some (.inr (.inl (w))), none] [] (HH g') = zx zblk xs 135 13 [some (.inr (.inr (some pX))), some (.inr (.inl (w))), none, some (.inl ((m : Int)))] [] (HH g') := fun g' => by
      rw [e_X_letters_0, X_lettersIn xs w, zci_ok, hln, hm, if_pos (by rw [zw_id (by omega) (by omega), show zw (-1) = -1 from rfl]; omega)]
    have hM0 : ∀ g' : Nat → Int → Int, zx zblk xs 3 0 [some (.inr (.inr (some pM))), some (.inr (.inl (w))), none] [] (HH g') = zx zblk xs 3 91 [some (.inr (.inr (some pM))), some (.inr (.inl (w))), none, some (.inl ((m : Int)))] [] (HH g') := fun g' => by
      rw [M_lettersIn xs w, e_M_letters_83, ho, hm, if_pos (by decide)]
    by_cases c : g pM 1 + m ≤ 48
    · obtain ⟨n, hn⟩ : ∃ n : Nat, g pM 1 = n := ⟨(g pM 1).toNat, by omega⟩
      have loopX : ∀ (r k : Nat) (gk : Nat → Int → Int), k + r = m → zRow gk 14 (pL g ++ zLi (byI w) k) → zFr (scR 14) g gk → ∃ g1, zx zblk xs 135 33 [some (.inr (.inr (some pX))), some (.inr (.inl (w))), none, some (.inl ((m : Int))), some (.inl ((k : Int)))] [] (HH gk) = some (some (.inl (g pM 1 + m)), HH g1) ∧ zRow g1 14 (pL g ++ zLi (byI w) m) ∧ zFr (scR 14) g g1 := by
        intro r
        induction r with
        | zero =>
          intro k gk hk hl hf
          have : k = m := by omega
          subst this
          refine ⟨gk, ?_, hl, hf⟩
          have hlen : ((pL g ++ zLi (byI w) k).length : Int) = g pM 1 + k := by rw [List.length_append, zLi_len]; omega
          rw [e_X_letters_33, if_pos (Int.le_refl _), e_X_letters_58, pX_r_page, Rw_ck Rw14, Row_size xs Rw14 hl, zci_ok, hlen]
        | succ r ih =>
          intro k gk hk hl hf
          have hlen : (pL g ++ zLi (byI w) k).length = n + k := by rw [List.length_append, zLi_len]; omega
          obtain ⟨g2, p1, p2, p3⟩ := Row_add xs Rw14 hl (by omega) (byI w k)
          rw [List.append_assoc, ← zLi_snoc] at p2
          obtain ⟨g1, s1, s2, s3⟩ := ih (k + 1) g2 (by omega) p2 (hf.tr p3)
          refine ⟨g1, ?_, s2, s3⟩
          have hbe : zandl (zushrl w (8 * (k : Int))) 255 = byI w k := rfl
          rw [e_X_letters_33, if_neg (by rw [zw_id (by omega) (by omega), zw_id (by omega) (by omega)]; omega), pX_r_page, e_X_byteOf_0, zci_ok, hbe, Rw_ck Rw14, p1, zcv_ok, ← Int.natCast_succ]
          exact s1
      obtain ⟨g1, p1, p2, p3⟩ := loopX m 0 g (by omega) (by rw [zLi_0, List.append_nil]; exact r3) zFr.rf
      rw [z0N] at p1
      have hag : ∀ q, q ≠ 14 → q ≠ 15 → g1 q = g q := fun q h1 h2 => p3.at (fun j => by simp only [scR]; omega)
      have loopM : ∀ (r k : Nat) (gk : Nat → Int → Int), k + r = m → gk pM 1 = g pM 1 + k → (∀ j : Nat, j < k → gk pM_page ((n : Int) + j) = byI w j) → (∀ j : Int, j < n → gk pM_page j = g pM_page j) → zFr (fun q j => q = pM_page ∨ (q = pM ∧ j = 1)) g1 gk → ∃ g2, zx zblk xs 3 108 [some (.inr (.inr (some pM))), some (.inr (.inl (w))), none, some (.inl ((m : Int))), none, none, none, some (.inl ((k : Int)))] [] (HH gk) = some (some (.inl (g pM 1 + m)), HH g2) ∧ g2 pM 1 = g pM 1 + m ∧ (∀ j : Nat, j < m → g2 pM_page ((n : Int) + j) = byI w j) ∧ (∀ j : Int, j < n → g2 pM_page j = g pM_page j) ∧ zFr (fun q j => q = pM_page ∨ (q = pM ∧ j = 1)) g1 g2 := by
        intro r
        induction r with
        | zero =>
          intro k gk hk h1 h2 h3 hf
          have : k = m := by omega
          subst this
          refine ⟨gk, ?_, h1, h2, h3, hf⟩
          rw [e_M_letters_108, if_pos (Int.le_refl _), e_M_letters_151, pM_g_pageMany, h1]
        | succ r ih =>
          intro k gk hk h1 h2 h3 hf
          have hbe : zandl (zushrl w (8 * (k : Int))) 255 = byI w k := rfl
          have hv : up gk pM_page ((n : Int) + k) (byI w k) pM 1 = (n : Int) + k := by rw [up_q (by decide), h1]; omega
          obtain ⟨g2, s1, s2, s3, s4, s5⟩ := ih (k + 1) (up (up gk pM_page ((n : Int) + k) (byI w k)) pM 1 ((n : Int) + k + 1)) (by omega) (by rw [up_same]; omega) (fun j hj => by
            rw [up_p _ _ _ (by decide)]
            by_cases e : j = k
            · rw [e, up_same]
            · rw [up_ne _ _ (by omega)]; exact h2 j (by omega)) (fun j hj => by
            rw [up_p _ _ _ (by decide), up_ne _ _ (by omega)]; exact h3 j hj) ((hf.up (Or.inl rfl)).up (Or.inr ⟨rfl, rfl⟩))
          refine ⟨g2, ?_, s2, s3, s4, s5⟩
          rw [e_M_letters_108, if_neg (by rw [zw_id (by omega) (by omega), zw_id (by omega) (by omega)]; omega), pM_r_page, pM_g_pageMany, h1, hn, hbe, pM_s_page _ _ (by omega) (by omega), pM_g_pageMany, hv, pM_p_pageMany, ← Int.natCast_succ]
          rw [hn] at s1
          exact s1
      obtain ⟨g2, s1, s2, s3, s4, s5⟩ := loopM m 0 g1 (by omega) (by rw [hag pM (by decide) (by decide)]; omega) (fun j hj => by omega) (fun j hj => by rw [hag pM_page (by decide) (by decide)]) zFr.rf
      rw [z0N] at s1
      refine ⟨g pM 1 + m, g1, g2, ?_, ?_, ?_⟩
      · rw [hX0, e_X_letters_13, pX_r_page, Rw_ck Rw14, Row_size xs Rw14 r3, zci_ok, hpl.1, if_pos (by rw [zw_id (by omega) (by omega), show zw 48 = 48 from rfl]; exact c), e_X_letters_30, p1]
      · rw [hM0, e_M_letters_91, pM_g_pageMany, hag pM (by decide) (by decide), if_pos (by rw [zw_id (by omega) (by omega), show zw 48 = 48 from rfl]; exact c), e_M_letters_105, s1]
      · have a0 : ∀ q, q ≠ 14 → q ≠ 15 → q ≠ pM → q ≠ pM_page → g2 q = g q := fun q h1 h2 h3 h4 => by rw [s5.at (fun j z => by rcases z with z | z; exact h4 z; exact h3 z.1), hag q h1 h2]
        have a1 : ∀ j : Int, j ≠ 1 → g2 pM j = g pM j := fun j hj => by rw [s5 pM j (fun z => by rcases z with z | z; exact absurd z (by decide); exact hj z.2), hag pM (by decide) (by decide)]
        have a3 : ∀ q, q = 14 ∨ q = 15 → g2 q = g1 q := fun q h => s5.at (fun j z => by rcases z with z | z; simp only [pM_page] at z; omega; have := z.1; simp only [pM] at this; omega)
        have s := a0 pM_signalRows (by decide) (by decide) (by decide) (by decide)
        have sp := a0 pM_speeches (by decide) (by decide) (by decide) (by decide)
        have ro := a0 pM_rows (by decide) (by decide) (by decide) (by decide)
        have we := a0 pM_weights (by decide) (by decide) (by decide) (by decide)
        have nr := a0 pM_noteRows (by decide) (by decide) (by decide) (by decide)
        have kw := a0 pM_keptWeights (by decide) (by decide) (by decide) (by decide)
        have kr := a0 pM_keptRows (by decide) (by decide) (by decide) (by decide)
        have f5 := a1 5 (by decide)
        have f8 := a1 8 (by decide)
        have f10 := a1 10 (by decide)
        have f18 := a1 18 (by decide)
        have f22 := a1 22 (by decide)
        have f23 := a1 23 (by decide)
        refine ⟨⟨?_, ?_, ?_, ?_, ?_, ?_, ?_⟩, ?_, ?_, ?_, ?_, ?_, ?_⟩
        · unfold bdQ
          rw [s2, f5, f8, f10, f18]
          exact ⟨by omega, q5, q8, q10, q18⟩
        · intro k h1 h2
          rw [s2] at h2
          by_cases z : k < n
          · rw [s4 k z]; exact hP k h1 (by omega)
          · obtain ⟨j, hj⟩ : ∃ j : Nat, k = (n : Int) + j := ⟨(k - n).toNat, by omega⟩
            rw [hj, s3 j (by omega)]
            exact hby j (by omega)
        · unfold bdC
          rw [f5, sp, ro]
          exact hC
        · unfold bdS
          rw [f8, s]
          exact hS
        · unfold bdW
          rw [f10, we]
          exact hW
        · rw [f10, f18, nr]
          exact hN
        · unfold bdK
          rw [f10, f22, f23, kw, kr]
          exact hK
        · exact RelS_cg (RelS_fr r1 (fun q h1 h2 => a0 q (by omega) (by omega) (by simp only [pM]; omega) (by simp only [pM_page]; omega))) s f8
        · unfold wL
          rw [we, f10]
          exact zRow_fr r2 (a0 _ (by decide) (by decide) (by decide) (by decide)) (a0 _ (by decide) (by decide) (by decide) (by decide))
        · have hp2 : pL g2 = pL g ++ zLi (byI w) m := by
            have key : ∀ k : Nat, k ≤ m → zLi (fun j => g2 pM_page (j : Int)) (n + k) = zLi (fun j => g pM_page (j : Int)) n ++ zLi (byI w) k := by
              intro k
              induction k with
              | zero =>
                intro _
                rw [zLi_0, List.append_nil, Nat.add_zero]
                exact zLi_cg (fun j hj => s4 j (by omega))
              | succ k ih =>
                intro hk
                rw [← Nat.add_assoc, zLi_snoc, zLi_snoc, ih (by omega), List.append_assoc, show ((n + k : Nat) : Int) = (n : Int) + k by omega, s3 k (by omega)]
            unfold pL
            rw [s2, show (g pM 1 + (m : Int)).toNat = n + m by omega, show (g pM 1).toNat = n by omega]
            exact key m (Nat.le_refl _)
          rw [hp2]
          exact zRow_fr p2 (a3 _ (Or.inl rfl)) (a3 _ (Or.inr rfl))
        · exact RelC_cg (RelC_fr r4 (by rw [a0 pX (by decide) (by decide) (by decide) (by decide)]) (fun q h1 h2 => a0 q (by omega) (by omega) (by simp only [pM]; omega) (by simp only [pM_page]; omega))) s f8 ro sp f5
        · rw [nr, f18]
          exact RelN_fr q18.2 r5 (fun q h1 h2 => a0 q (by omega) (by omega) (by simp only [pM]; omega) (by simp only [pM_page]; omega))
        · exact RelK_cg (RelK_fr hB r6 (by rw [a0 pX (by decide) (by decide) (by decide) (by decide)]) (fun q h1 h2 => a0 q (by omega) (by omega) (by simp only [pM]; omega) (by simp only [pM_page]; omega))) f22 f23 kw kr
    · refine ⟨-104, g, g, ?_, ?_, hI⟩
      · rw [hX0, e_X_letters_13, pX_r_page, Rw_ck Rw14, Row_size xs Rw14 r3, zci_ok, hpl.1, if_neg (by rw [zw_id (by omega) (by omega), show zw 48 = 48 from rfl]; exact c)]
      · rw [hM0, e_M_letters_91, pM_g_pageMany, if_neg (by rw [zw_id (by omega) (by omega), show zw 48 = 48 from rfl]; exact c)]
