/-! ===== a signal told, before any code ===== -/
def sgU (g : Nat → Int → Int) (N : Nat) (k n se od : Int) : Nat → Int → Int := up (up (up (up (up g pM_signalRows (4 * N) k) pM_signalRows (4 * N + 1) n) pM_signalRows (4 * N + 2) se) pM_signalRows (4 * N + 3) od) pM 8 (N + 1)
theorem sgU_nx {g : Nat → Int → Int} {N : Nat} {k n se od : Int} (h : g pM 8 = N) (g' : Nat → Int → Int) (e : g' pM_signalRows = g pM_signalRows) : sgNx g (sgU g' N k n se od) N k n se od := by
  unfold sgU
  refine ⟨h, up_same _ _ _ _, fun j hj => ?_, ?_, ?_, ?_, ?_⟩
  · rw [up_q (by decide), up_ne _ _ (by omega), up_ne _ _ (by omega), up_ne _ _ (by omega), up_ne _ _ (by omega), e]
  · rw [up_q (by decide), up_ne _ _ (by omega), up_ne _ _ (by omega), up_ne _ _ (by omega), up_same]
  · rw [up_q (by decide), up_ne _ _ (by omega), up_ne _ _ (by omega), up_same]
  · rw [up_q (by decide), up_ne _ _ (by omega), up_same]
  · rw [up_q (by decide), up_same]
theorem sgU_q (g : Nat → Int → Int) (N : Nat) (k n se od : Int) {q : Nat} (h1 : q ≠ pM) (h2 : q ≠ pM_signalRows) : sgU g N k n se od q = g q := by
  unfold sgU
  rw [up_p _ _ _ h1, up_p _ _ _ h2, up_p _ _ _ h2, up_p _ _ _ h2, up_p _ _ _ h2]
theorem sgU_M (g : Nat → Int → Int) (N : Nat) (k n se od : Int) {j : Int} (h : j ≠ 8) : sgU g N k n se od pM j = g pM j := by
  unfold sgU
  rw [up_ne _ _ (fun z => h z.2), up_p _ _ _ (by decide), up_p _ _ _ (by decide), up_p _ _ _ (by decide), up_p _ _ _ (by decide)]
theorem op_sig (xs : List Int) {g : Nat → Int → Int} (hI : Inv g) {N : Nat} (hN : g pM 8 = N) (hN8 : N < 8) (hC : g pM 5 = 0) {k n se od : Int} (hk : 0 ≤ k ∧ k ≤ 4) (ht : tnS g k n) (hs : 1 ≤ se ∧ se ≤ 9) (ho : 0 ≤ od ∧ od ≤ 9) : ∃ g2, zx zblk xs 47 0 [some (.inr (.inr (some pX))), some (.inl (k)), some (.inl (n)), some (.inl (se)), some (.inl (od))] [] (HH g) = some (some (.inl (N : Int)), HH g2) ∧ Inv g2 ∧ sgNx g g2 N k n se od ∧ (∀ q, 1000 ≤ q → q ≠ pM_signalRows → q ≠ pM → g2 q = g q) ∧ (∀ j : Int, j ≠ 8 → g2 pM j = g pM j) ∧ (∀ q, q = 0 ∨ (265 ≤ q ∧ q < 1000) → g2 q = g q) := by
  obtain ⟨hB, hR⟩ := id hI
  obtain ⟨r1, r2, r3, r4, r5, r6⟩ := id hR
  obtain ⟨hQ, hP, hCd, hS, hW, hNn, hK⟩ := id hB
  obtain ⟨q1, q5, q8, q10, q18⟩ := id hQ
  have htn : -1 ≤ n ∧ n ≤ 7 ∧ (k = 2 → 0 ≤ n) := by
    unfold tnS at ht
    by_cases e : k = 2
    · rw [if_pos e] at ht; omega
    · rw [if_neg e] at ht; omega
  have bd : ∀ G : Nat → Int → Int, sgNx g G N k n se od → bdS G := fun G h => by
    obtain ⟨h1, h2, h3, h4, h5, h6, h7⟩ := h
    intro s s0 s1
    rw [h2] at s1
    by_cases e : s = N
    · subst e
      rw [h4, h5, h6, h7]
      exact ⟨hk.1, hk.2, htn.1, htn.2.1, htn.2.2, hs.1, hs.2, ho.1, ho.2⟩
    · rw [h3 _ (by omega), h3 _ (by omega), h3 _ (by omega), h3 _ (by omega)]
      exact hS s s0 (by omega)
  have nx := sgU_nx (k := k) (n := n) (se := se) (od := od) hN g rfl
  have hQx : bdQ (sgU g N k n se od) := by
    unfold bdQ
    rw [nx.2.1, sgU_M _ _ _ _ _ _ (by decide), sgU_M _ _ _ _ _ _ (by decide), sgU_M _ _ _ _ _ _ (by decide), sgU_M _ _ _ _ _ _ (by decide)]
    exact ⟨q1, q5, by omega, q10, q18⟩
  obtain ⟨g1, x1, x2, -, x4⟩ := X_signal_go xs hI (C := 0) hN8 nx hC hQx (bd _ nx) (sgU_q _ _ _ _ _ _ (by decide) (by decide))
  have x5 : ∀ q, q < 3 ∨ 10 < q → g1 q = g q := fun q hq => x4.at (fun j => by rintro (z | ⟨c, z, -⟩) <;> omega)
  have nx2 := sgU_nx (k := k) (n := n) (se := se) (od := od) hN g1 (x5 _ (Or.inr (by decide)))
  have aG : ∀ q, q ≠ pM → q ≠ pM_signalRows → sgU g1 N k n se od q = g1 q := fun q h1 h2 => sgU_q _ _ _ _ _ _ h1 h2
  have aM : ∀ j : Int, j ≠ 8 → sgU g1 N k n se od pM j = g pM j := fun j hj => by rw [sgU_M _ _ _ _ _ _ hj, x5 pM (Or.inr (by decide))]
  have aL : ∀ q, q < 1000 → sgU g1 N k n se od q = g1 q := fun q hq => aG q (by simp only [pM]; omega) (by simp only [pM_signalRows]; omega)
  have hH : HH (sgU g1 N k n se od) = HH g1 := HH_gh aL
  have hsg : sgU g1 N k n se od pM_signalRows = sgU g N k n se od pM_signalRows := by
    funext j
    have e := x5 pM_signalRows (Or.inr (by decide))
    unfold sgU
    simp only [up, e]
  have bB : ∀ q, 1000 ≤ q → q ≠ pM → q ≠ pM_signalRows → sgU g1 N k n se od q = g q := fun q h0 h1 h2 => by rw [aG q h1 h2, x5 q (Or.inr (by omega))]
  refine ⟨sgU g1 N k n se od, ?_, ?_, nx2, fun q h0 h1 h2 => bB q h0 h2 h1, aM, fun q hq => by rw [aL q (by omega), x5 q (by omega)]⟩
  · have hd := zdc (tnS g k n)
    rw [@X_signal_pre xs g hI k n se od (zw_id (by omega) (by omega)) (zw_id (by omega) (by omega)) (zw_id (by omega) (by omega)) (zw_id (by omega) (by omega)) hd, if_neg (fun z => z hk), if_neg (fun z => z ht), if_neg (fun z => z ⟨hs.1, hs.2, ho.1, ho.2⟩), if_neg (by omega), x1, e_X_signal_120, pX_r_signals, Sg_ck, Signals_told xs hQx x2, zci_ok, nx.2.1, hH, show (N : Int) + 1 - 1 = N by omega]
  · have pg := bB pM_page (by decide) (by decide) (by decide)
    have sp := bB pM_speeches (by decide) (by decide) (by decide)
    have ro := bB pM_rows (by decide) (by decide) (by decide)
    have we := bB pM_weights (by decide) (by decide) (by decide)
    have nr := bB pM_noteRows (by decide) (by decide) (by decide)
    have kw := bB pM_keptWeights (by decide) (by decide) (by decide)
    have kr := bB pM_keptRows (by decide) (by decide) (by decide)
    have f1 := aM 1 (by decide)
    have f5 := aM 5 (by decide)
    have f10 := aM 10 (by decide)
    have f18 := aM 18 (by decide)
    have f22 := aM 22 (by decide)
    have f23 := aM 23 (by decide)
    have bdn := bd _ nx2
    have nx28 := nx2.2.1
    generalize hG : sgU g1 N k n se od = G at *
    clear hG hH
    refine ⟨⟨?_, ?_, ?_, bdn, ?_, ?_, ?_⟩, ?_, ?_, ?_, ?_, ?_, ?_⟩
    · unfold bdQ
      rw [nx28, f1, f5, f10, f18]
      exact ⟨q1, q5, by omega, q10, q18⟩
    · unfold bdP
      rw [f1, pg]
      exact hP
    · unfold bdC
      rw [f5, sp, ro]
      exact hCd
    · unfold bdW
      rw [f10, we]
      exact hW
    · rw [f10, f18, nr]
      exact hNn
    · unfold bdK
      rw [f10, f22, f23, kw, kr]
      exact hK
    · have := RelS_fr (g1 := G) x2 (fun q h1 h2 => aL q (by omega))
      exact RelS_cg this hsg (by rw [nx28, nx.2.1])
    · unfold wL
      rw [we, f10]
      exact zRow_fr r2 (by rw [aL _ (by omega), x5 _ (by omega)]) (by rw [aL _ (by omega), x5 _ (by omega)])
    · unfold pL
      rw [pg, f1]
      exact zRow_fr r3 (by rw [aL _ (by omega), x5 _ (by omega)]) (by rw [aL _ (by omega), x5 _ (by omega)])
    · refine ⟨by rw [aL pX (by decide), x5 pX (Or.inl (by decide)), f5]; exact r4.1, fun c' hc' => ⟨fun h5 => ?_, fun h5 s hs' => ?_⟩⟩
      · rw [f5, hC] at h5
        omega
      · have h5' : g pM 5 ≤ (c' : Int) := by rw [hC]; omega
        refine zRow_fr ((r4.2 c' hc').2 h5' s hs') ?_ ?_
        · rw [aL _ (by simp only [PC]; omega), x5 _ (by simp only [PC]; omega)]
        · rw [aL _ (by simp only [PC]; omega), x5 _ (by simp only [PC]; omega)]
    · rw [nr, f18]
      exact RelN_fr hQ.2.2.2.2.2 r5 (fun q h1 h2 => by rw [aL _ (by omega), x5 _ (by omega)])
    · exact RelK_cg (RelK_fr hB r6 (by rw [aL pX (by decide), x5 pX (Or.inl (by decide))]) (fun q h1 h2 => by rw [aL _ (by omega), x5 _ (by omega)])) f22 f23 kw kr
