/-! ===== things are told ===== -/
theorem op_th (xs : List Int) {g : Nat → Int → Int} (hI : Inv g) {n : Nat} (hn : g pM 10 = (n : Int)) (hn8 : n < 8) {w : Int} (hw : 1 ≤ w ∧ w ≤ 99) : ∃ g2, zx zblk xs 48 0 [some (.inr (.inr (some pX))), some (.inl (w))] [] (HH g) = some (some (.inl (n : Int)), HH g2) ∧ Inv g2 ∧ g2 pM 10 = ((n + 1 : Nat) : Int) ∧ g2 pM_weights (n : Int) = w ∧ (∀ j : Int, j ≠ n → g2 pM_weights j = g pM_weights j) ∧ (∀ q, 1000 ≤ q → q ≠ pM → q ≠ pM_weights → g2 q = g q) ∧ (∀ j : Int, j ≠ 10 → g2 pM j = g pM j) ∧ (∀ q, q = 0 ∨ (265 ≤ q ∧ q < 1000) → g2 q = g q) := by
  obtain ⟨hB, hR⟩ := id hI
  obtain ⟨r1, r2, r3, r4, r5, r6⟩ := id hR
  obtain ⟨hQ, hP, hC, hS, hW, hN, hK⟩ := id hB
  obtain ⟨q1, q5, q8, q10, q18⟩ := id hQ
  have hwl := wL_len hQ
  obtain ⟨g1, p1, p2, p3⟩ := Row_add xs Rw11 r2 (by omega) w
  have hag : ∀ q, q ≠ 11 → q ≠ 12 → g1 q = g q := fun q h1 h2 => p3.at (fun j => by simp only [scR]; omega)
  have hlen : ((wL g ++ [w]).length : Int) = g pM 10 + 1 := by rw [List.length_append]; simp only [List.length_singleton]; omega
  have aL : ∀ q, q < 1000 → up (up g1 pM_weights (n : Int) w) pM 10 ((n + 1 : Nat) : Int) q = g1 q := fun q hq => by rw [up_p _ _ _ (by simp only [pM]; omega), up_p _ _ _ (by simp only [pM_weights]; omega)]
  have hH : HH (up (up g1 pM_weights (n : Int) w) pM 10 ((n + 1 : Nat) : Int)) = HH g1 := HH_gh aL
  have a0 : ∀ q, q ≠ 11 → q ≠ 12 → q ≠ pM → q ≠ pM_weights → up (up g1 pM_weights (n : Int) w) pM 10 ((n + 1 : Nat) : Int) q = g q := fun q h1 h2 h3 h4 => by rw [up_p _ _ _ h3, up_p _ _ _ h4, hag q h1 h2]
  have a1 : ∀ j : Int, j ≠ 10 → up (up g1 pM_weights (n : Int) w) pM 10 ((n + 1 : Nat) : Int) pM j = g pM j := fun j hj => by rw [up_ne _ _ (fun z => hj z.2), up_p _ _ _ (by decide), hag pM (by decide) (by decide)]
  have a2 : up (up g1 pM_weights (n : Int) w) pM 10 ((n + 1 : Nat) : Int) pM 10 = ((n + 1 : Nat) : Int) := up_same _ _ _ _
  have a4 : up (up g1 pM_weights (n : Int) w) pM 10 ((n + 1 : Nat) : Int) pM_weights (n : Int) = w := by rw [up_p _ _ _ (by decide), up_same]
  have a5 : ∀ j : Int, j ≠ n → up (up g1 pM_weights (n : Int) w) pM 10 ((n + 1 : Nat) : Int) pM_weights j = g pM_weights j := fun j hj => by rw [up_p _ _ _ (by decide), up_ne _ _ (fun z => hj z.2), hag pM_weights (by decide) (by decide)]
  have X0 : zx zblk xs 48 0 [some (.inr (.inr (some pX))), some (.inl (w))] [] (HH g) = some (some (.inl (n : Int)), HH g1) := by
    rw [e_X_thing_0, X_isWeight xs w _ (zw_id (by omega) (by omega)), zci_ok, zb_zw, zb_t hw, if_pos (by decide), e_X_thing_10, pX_r_weights, Rw_ck Rw11, Row_size xs Rw11 r2, zci_ok, hwl.1, hn, if_pos (by rw [zw_id (by omega) (by omega), show zw 8 = 8 from rfl]; omega), e_X_thing_25, pX_r_weights, Rw_ck Rw11, p1, zcv_ok, pX_r_weights, Rw_ck Rw11, Row_size xs Rw11 p2, zci_ok, hlen, hn, show (n : Int) + 1 - 1 = n by omega]
  rw [← hH] at X0
  clear hH
  generalize hg2 : up (up g1 pM_weights (n : Int) w) pM 10 ((n + 1 : Nat) : Int) = g2 at *
  clear hg2
  have s := a0 pM_signalRows (by decide) (by decide) (by decide) (by decide)
  have pg := a0 pM_page (by decide) (by decide) (by decide) (by decide)
  have sp := a0 pM_speeches (by decide) (by decide) (by decide) (by decide)
  have ro := a0 pM_rows (by decide) (by decide) (by decide) (by decide)
  have nr := a0 pM_noteRows (by decide) (by decide) (by decide) (by decide)
  have kw := a0 pM_keptWeights (by decide) (by decide) (by decide) (by decide)
  have kr := a0 pM_keptRows (by decide) (by decide) (by decide) (by decide)
  have f1 := a1 1 (by decide)
  have f5 := a1 5 (by decide)
  have f8 := a1 8 (by decide)
  have f18 := a1 18 (by decide)
  have f22 := a1 22 (by decide)
  have f23 := a1 23 (by decide)
  refine ⟨g2, X0, ⟨⟨?_, ?_, ?_, ?_, ?_, ?_, ?_⟩, ?_, ?_, ?_, ?_, ?_, ?_⟩, a2, a4, a5, fun q h0 h1 h2 => a0 q (by omega) (by omega) h1 h2, a1, fun q hq => a0 q (by omega) (by omega) (by simp only [pM]; omega) (by simp only [pM_weights]; omega)⟩
  · unfold bdQ
    rw [f1, f5, f8, a2, f18]
    exact ⟨q1, q5, q8, by omega, q18⟩
  · unfold bdP
    rw [f1, pg]
    exact hP
  · unfold bdC
    rw [f5, sp, ro]
    exact hC
  · unfold bdS
    rw [f8, s]
    exact hS
  · intro t h0 h1
    rw [a2] at h1
    by_cases e : t = n
    · rw [e, a4]; exact hw
    · rw [a5 t e]
      exact hW t h0 (by omega)
  · rw [a2, f18, nr]
    intro k h0 h1
    have := hN k h0 h1
    rw [hn] at this
    refine ⟨this.1, by have := this.2.1; omega, this.2.2⟩
  · unfold bdK
    rw [a2, f22, f23, kw, kr]
    rcases hK with z | z
    · exact Or.inl z
    · refine Or.inr ⟨z.1, by have := z.2.1; omega, z.2.2⟩
  · exact RelS_cg (RelS_fr r1 (fun q h1 h2 => a0 q (by omega) (by omega) (by simp only [pM]; omega) (by simp only [pM_weights]; omega))) s f8
  · have hp2 : wL g2 = wL g ++ [w] := by
      unfold wL
      rw [a2, hn, Int.toNat_natCast, Int.toNat_natCast, zLi_snoc, a4]
      congr 1
      exact zLi_cg (fun j hj => a5 j (by omega))
    rw [hp2]
    exact zRow_fr p2 (aL _ (by omega)) (aL _ (by omega))
  · unfold pL
    rw [pg, f1]
    exact zRow_fr r3 (a0 _ (by decide) (by decide) (by decide) (by decide)) (a0 _ (by decide) (by decide) (by decide) (by decide))
  · exact RelC_cg (RelC_fr r4 (by rw [a0 pX (by decide) (by decide) (by decide) (by decide)]) (fun q h1 h2 => a0 q (by omega) (by omega) (by simp only [pM]; omega) (by simp only [pM_weights]; omega))) s f8 ro sp f5
  · rw [nr, f18]
    exact RelN_fr hQ.2.2.2.2.2 r5 (fun q h1 h2 => a0 q (by omega) (by omega) (by simp only [pM]; omega) (by simp only [pM_weights]; omega))
  · exact RelK_cg (RelK_fr hB r6 (by rw [a0 pX (by decide) (by decide) (by decide) (by decide)]) (fun q h1 h2 => a0 q (by omega) (by omega) (by simp only [pM]; omega) (by simp only [pM_weights]; omega))) f22 f23 kw kr
/-- the law's state with the state in the memory itself -/
theorem LwS_st {g g2 : Nat → Int → Int} (h : LwS g g) (hI : Inv g2) (e1 : g2 pM_signalRows = g pM_signalRows) (e2 : g2 pM_speeches = g pM_speeches) (e3 : g2 pM_rows = g pM_rows) (e4 : g2 pM 8 = g pM 8) (e5 : g2 pM 5 = g pM 5) (e6 : g2 0 0 = g 0 0) (e7 : g2 265 = g 265) (e8 : g2 266 = g 266) : LwS g2 g2 := by
  obtain ⟨h1, h2, ⟨h3, h3', h3''⟩, h4, h5, h6, h7⟩ := h
  refine ⟨hI.1, hI.2, ⟨zAr_cg h3 e6, by rw [e7, e4]; exact h3', by rw [e7, e4, e1]; exact h3''⟩, by rw [e5]; exact h4, zAr_cg h5 e6, ?_⟩
  have en : nS g2 = nS g := by funext c; unfold nS; rw [e2]
  have el : lenS g2 = lenS g := by funext c s; unfold lenS; rw [e3]
  have er : rowS g2 = rowS g := by funext c s k; unfold rowS; rw [e3]
  rw [e8, en, el, er]
  exact ⟨h6, h7⟩
theorem L_things (xs : List Int) (hx : xs.length ≤ 260) {th : Nat} (hth : th ≤ 5) : ∀ (r k : Nat) (g : Nat → Int → Int), k + r = th → LwS g g → g pM 10 = (k : Int) → g pM 1 = 0 → g 0 0 = (4 : Nat) → (∀ t : Nat, t < k → g 268 (t : Int) = g pM_weights t) → ∃ g1, zx zblk xs 0 89 [some (.inr (.inr (some 0))), some (.inr (.inr (some pX))), some (.inr (.inr (some 265))), some (.inr (.inr (some 266))), none, none, some (.inl ((th : Int))), some (.inr (.inr (some 268))), some (.inl ((k : Int)))] [] (HH g) = zx zblk xs 0 139 [some (.inr (.inr (some 0))), some (.inr (.inr (some pX))), some (.inr (.inr (some 265))), some (.inr (.inr (some 266))), none, none, some (.inl ((th : Int))), some (.inr (.inr (some 268)))] [] (HH g1) ∧ LwS g1 g1 ∧ g1 pM 10 = (th : Int) ∧ g1 pM 1 = 0 ∧ g1 0 0 = (4 : Nat) ∧ (∀ t : Nat, t < th → g1 268 (t : Int) = g1 pM_weights t) := by
  intro r
  induction r with
  | zero =>
    intro k g hk h h10 h1 h0 hw
    have : k = th := by omega
    subst this
    exact ⟨g, by rw [e_L_law_89, if_pos (Int.le_refl _)], h, h10, h1, h0, hw⟩
  | succ r ih =>
    intro k g hk h h10 h1 h0 hw
    have hv := atV_rg (clV xs (19 + k)) (n := 99) (by omega)
    have har : zAr g 268 8 := zAr_law (k := 3) (N := 4) h0 rfl (by omega) (by omega)
    have h' : LwS g (up g 268 k (1 + atV (clV xs (19 + k)) 99)) := LS_fr h (fun q a b => up_p _ _ _ (by omega))
    have hI0 : Inv (up g 268 k (1 + atV (clV xs (19 + k)) 99)) := Inv_fr ⟨h.1, h.2.1⟩ (fun q a b => up_p _ _ _ (by omega))
    have hs : LwS (up g 268 k (1 + atV (clV xs (19 + k)) 99)) (up g 268 k (1 + atV (clV xs (19 + k)) 99)) := LwS_st h hI0 (up_p _ _ _ (by decide)) (up_p _ _ _ (by decide)) (up_p _ _ _ (by decide)) (by rw [up_q (by decide)]) (by rw [up_q (by decide)]) (by rw [up_q (by omega)]) (up_p _ _ _ (by omega)) (up_p _ _ _ (by omega))
    obtain ⟨g2, a1, a2, a3, a4, a5, a6, a7, a8⟩ := op_th xs hI0 (n := k) (by rw [up_q (by decide)]; exact h10) (by omega) (w := 1 + atV (clV xs (19 + k)) 99) (by omega)
    have e268 : g2 268 = up g 268 k (1 + atV (clV xs (19 + k)) 99) 268 := a8 268 (by omega)
    obtain ⟨g3, s1, s2, s3, s4, s5, s6⟩ := ih (k + 1) g2 (by omega) (LwS_st hs a2 (a6 _ (by decide) (by decide) (by decide)) (a6 _ (by decide) (by decide) (by decide)) (a6 _ (by decide) (by decide) (by decide)) (a7 8 (by decide)) (a7 5 (by decide)) (by rw [a8 0 (Or.inl rfl)]) (a8 265 (by omega)) (a8 266 (by omega))) a3 (by rw [a7 1 (by decide), up_q (by decide)]; exact h1) (by rw [a8 0 (Or.inl rfl), up_q (by omega)]; exact h0) (fun t ht => by
      rw [e268]
      by_cases c : t = k
      · rw [c, up_same, a4]
      · rw [up_ne _ _ (by omega), a5 t (by omega), up_q (by decide)]
        exact hw t (by omega))
    refine ⟨g3, ?_, s2, s3, s4, s5, s6⟩
    rw [e_L_law_89, if_neg (by rw [zw_id (by omega) (by omega), zw_id (by omega) (by omega)]; omega), show (19 + (k : Int)) = ((19 + k : Nat) : Int) by omega, L_cell xs hx (19 + k) (by omega), zci_ok, L_at xs _ 99 _ (by omega) (by omega), zci_ok, HF_st har (by omega) (by omega), HF_ai (zAr_up har (by omega)) (by omega) (by omega), up_same, pX_ck, a1, zci_ok, if_pos rfl, e_L_law_133, ← s1, Int.natCast_succ]
