/-! ===== the class takes a code ===== -/
theorem X_code_go (xs : List Int) {g : Nat → Int → Int} (hI : Inv g) {n m : Nat} (h5 : g pM 5 = n) (hn : n < 4) (hm : (g pM 1).toNat = m) (hgd : gdT (fun k => g pM_page k) m) (hC : (rdF (fun k => g pM_page k) m).2.length ≠ 0) : ∃ g1, zx zblk xs 46 50 [some (.inr (.inr (some pX)))] [] (HH g) = some (some (.inl (n : Int)), HH g1) ∧ g1 pX 3 = n + 1 ∧ zRow g1 14 [] ∧ zCd g1 (PC n) (rdA (fun k => g pM_page k) m).length (fun s => pln g 0 (fun k => ((rdA (fun k => g pM_page k) m).getD s []).getD k 0) ((rdA (fun k => g pM_page k) m).getD s []).length) ∧ (∀ s, s < (rdA (fun k => g pM_page k) m).length → zRow g1 (PC n + 1 + 4 + 2 * s) ((rdA (fun k => g pM_page k) m).getD s [])) ∧ (∀ q, q ≠ 14 → q ≠ 15 → (q < PC n ∨ PC n + 40 < q) → q ≠ pX → g1 q = g q) ∧ ∀ j, j ≠ 3 → g1 pX j = g pX j := by
  obtain ⟨hB, hR⟩ := id hI
  obtain ⟨r1, r2, r3, r4, r5, r6⟩ := id hR
  obtain ⟨q1, q5, q8, q10, q18⟩ := id hB.1
  have hP := zCo_PC hn
  have h3 : g pX 3 = n := by rw [r4.1, h5]
  have h4 : zsh[pX_codes - 1]? = some (102, [104, 145, 186, 227]) := rfl
  have hr : ([104, 145, 186, 227] : List Nat)[(n : Int).toNat]? = some (PC n + 3) := by
    have : n = 0 ∨ n = 1 ∨ n = 2 ∨ n = 3 := by omega
    rcases this with rfl | rfl | rfl | rfl <;> rfl
  have hpl : pL g = zLi (fun k => g pM_page k) m := by unfold pL; rw [hm]
  obtain ⟨ga, a1, a2, a3, a4⟩ := Code_readFrom xs (g := g) hP (by simp only [PC]; omega) (f := fun k => g pM_page k) (n := m) Rw14 (by omega) (by rw [← hpl]; exact r3) (by omega) (fun k hk => by have := hB.2.1 k (by omega) (by omega); exact zw_id (by omega) (by omega)) hgd ((r4.2 n hn).2 (by omega))
  obtain ⟨i1, i2, i3, i4⟩ := gdT_rg hgd m (Nat.le_refl _)
  have hal := rdA_len (fun k : Nat => g pM_page k) m
  have haX : ∀ q, (q < PC n ∨ PC n + 40 < q) → ga q = g q := fun q hq => a4.at (fun j => by omega)
  obtain ⟨gb, b1, b2, b3⟩ := Code_makePlain xs (G := g) (g := ga) hB.1 hB.2.2.2.1 (RelS_fr r1 (fun q h1 h2 => haX q (by simp only [PC]; omega))) hP (by simp only [PC]; omega) (n := (rdA (fun k => g pM_page k) m).length) (by omega) a2 (R := fun i => (rdA (fun k => g pM_page k) m).getD i []) (fun i hi => ⟨a3 i (by omega), (rdA_ok hgd hC hi).2⟩)
  have hbX : ∀ q, (q < PC n ∨ PC n + 40 < q) → gb q = g q := fun q hq => by rw [b3.at (fun j => by omega), haX q hq]
  obtain ⟨w1, w2, w3⟩ := Row_wipe xs (g := gb) Rw14
  have hcX : ∀ q, q ≠ 14 → q ≠ 15 → up gb 14 1 0 q = gb q := fun q h1 h2 => w3.at (fun j => by simp only [scR]; omega)
  have hpx : pX < PC n := by simp only [PC, pX]; omega
  have k3 : up gb 14 1 0 pX 3 = n := by rw [hcX pX (by decide) (by decide), hbX pX (Or.inl hpx)]; exact h3
  have u0 : ∀ q, q ≠ pX → up (up gb 14 1 0) pX 3 ((n : Int) + 1) q = up gb 14 1 0 q := fun q h => up_p _ _ _ h
  refine ⟨up (up gb 14 1 0) pX 3 ((n : Int) + 1), ?_, up_same _ _ _ _, zRow_fr w2 (u0 _ (by decide)) (u0 _ (by decide)), ⟨hP, ?_, by omega, fun i hi => ⟨?_, ?_, ?_⟩⟩, fun i hi => ?_, fun q h1 h2 h3 h4 => by rw [u0 q h4, hcX q h1 h2, hbX q h3], fun j hj => by rw [up_ne _ _ (fun z => hj z.2), hcX pX (by decide) (by decide), hbX pX (Or.inl hpx)]⟩
  · rw [e_X_code_50, pX_g_codesRead, h3, zw_id (by omega) (by omega), if_neg (by omega), pX_g_codesRead, h3, pX_r_codes, HH_ln h4 (by decide) (by show 100 ≤ 102; omega), if_pos (by show zw (n : Int) < zw 4; rw [show zw 4 = 4 from rfl, zw_id (by omega) (by omega)]; omega), e_X_code_72, pX_r_codes, pX_g_codesRead, h3, HH_aa (n := 0) h4 (by decide) (by omega) (by omega) (by omega) hr, zif_some, e_X_code_89, pX_r_page, Co_ck hP, a1, zcv_ok, pX_r_signals, Co_ck hP, b1, zcv_ok, pX_r_page, Rw_ck Rw14, w1, zcv_ok, pX_g_codesRead, k3, pX_p_codesRead, pX_g_codesRead, up_same, show (n : Int) + 1 - 1 = n by omega]
  · rw [u0 _ (by omega), hcX _ (by simp only [PC]; omega) (by simp only [PC]; omega), b3 _ _ (by omega)]
    exact a2
  · exact zRow_fr (b2 i hi) (by rw [u0 _ (by omega), hcX _ (by simp only [PC]; omega) (by simp only [PC]; omega)]) (by rw [u0 _ (by omega), hcX _ (by simp only [PC]; omega) (by simp only [PC]; omega)])
  · have := pln_len g 0 (fun k => ((rdA (fun k => g pM_page k) m).getD i []).getD k 0) ((rdA (fun k => g pM_page k) m).getD i []).length
    have := (rdA_ok hgd hC hi).2.1
    show (pln g 0 (fun k => ((rdA (fun k => g pM_page k) m).getD i []).getD k 0) ((rdA (fun k => g pM_page k) m).getD i []).length).length ≤ 10
    omega
  · refine isR7_pln hB.2.2.2.1 0 (fun k hk => ?_)
    have := isR7_get (rdA_ok hgd hC hi).2.2 hk
    rw [show ((rdA (fun k => g pM_page k) m).getD i []).getD k 0 = ((rdA (fun k => g pM_page k) m).getD i [])[k] by rw [List.getD, List.getElem?_eq_getElem hk, Option.getD_some]]
    exact this
  · have hi8 : i < 8 := by omega
    refine zRow_fr (a3 i hi8) ?_ ?_
    · rw [u0 _ (by omega), hcX _ (by simp only [PC]; omega) (by simp only [PC]; omega), b3.at (fun j => by omega)]
    · rw [u0 _ (by omega), hcX _ (by simp only [PC]; omega) (by simp only [PC]; omega), b3.at (fun j => by omega)]

