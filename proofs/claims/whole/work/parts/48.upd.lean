/-! ===== updates: both memories go on together ===== -/
def Inv (g : Nat → Int → Int) : Prop := Bd g ∧ Rel g g
theorem RelS_cg {G G1 g : Nat → Int → Int} (h : RelS G g) (e1 : G1 pM_signalRows = G pM_signalRows) (e2 : G1 pM 8 = G pM 8) : RelS G1 g := by
  unfold RelS sigL at *
  rw [e1, e2]
  exact h
theorem plS_cg {G G1 : Nat → Int → Int} (e1 : G1 pM_signalRows = G pM_signalRows) (e2 : G1 pM 8 = G pM 8) (e3 : G1 pM_rows = G pM_rows) : plS G1 = plS G := by
  have k : kindS G1 = kindS G := by
    funext s
    unfold kindS
    rw [e1, e2]
  have st : stp G1 = stp G := by
    funext l s
    unfold stp
    rw [k, e1]
  have p : pln G1 = pln G := by
    funext st' f n
    induction n with
    | zero => rfl
    | succ n ih => simp only [pln, ih, st]
  funext st' c s
  unfold plS rowS lenS
  rw [p, e3]
theorem RelC_cg {G G1 g : Nat → Int → Int} (h : RelC G g) (e1 : G1 pM_signalRows = G pM_signalRows) (e2 : G1 pM 8 = G pM 8) (e3 : G1 pM_rows = G pM_rows) (e4 : G1 pM_speeches = G pM_speeches) (e5 : G1 pM 5 = G pM 5) : RelC G1 g := by
  unfold RelC nS rowL rowS lenS at *
  rw [plS_cg e1 e2 e3, e3, e4, e5]
  exact h
theorem RelK_cg {G G1 g : Nat → Int → Int} (h : RelK G g) (e1 : G1 pM 22 = G pM 22) (e2 : G1 pM 23 = G pM 23) (e3 : G1 pM_keptWeights = G pM_keptWeights) (e4 : G1 pM_keptRows = G pM_keptRows) : RelK G1 g := by
  unfold RelK at *
  rw [e1, e2, e3, e4]
  exact h
theorem RelK_fr {G g g1 : Nat → Int → Int} (hB : Bd G) (h : RelK G g) (e0 : g1 pX 8 = g pX 8) (e : ∀ q, 43 ≤ q → q ≤ 71 → g1 q = g q) : RelK G g1 := by
  refine ⟨by rw [e0]; exact h.1, fun hk => ?_⟩
  obtain ⟨k1, k2⟩ := h.2 hk
  refine ⟨zRow_fr k1 (e _ (by omega) (by omega)) (e _ (by omega) (by omega)), RelN_fr ?_ k2 (fun q _ _ => e q (by omega) (by omega))⟩
  rcases hB.2.2.2.2.2.2 with z | z
  · exact absurd z hk
  · exact z.2.2.2.1
theorem op_blank (xs : List Int) {g : Nat → Int → Int} (hI : Inv g) : ∃ v g1 g2, zx zblk xs 136 0 [some (.inr (.inr (some pX)))] [] (HH g) = some (some (.inl v), HH g1) ∧ zx zblk xs 4 0 [some (.inr (.inr (some pM)))] [] (HH g1) = some (some (.inl v), HH g2) ∧ Inv g2 := by
  obtain ⟨hB, hR⟩ := hI
  obtain ⟨r1, r2, r3, r4, r5, r6⟩ := id hR
  obtain ⟨hQ, hP, hC, hS, hW, hN, hK⟩ := id hB
  obtain ⟨w1, w2, w3⟩ := Row_wipe xs (g := g) Rw14
  have hag : ∀ q, q ≠ 14 → q ≠ 15 → up g 14 1 0 q = g q := fun q h1 h2 => w3.at (fun j => by simp only [scR]; omega)
  refine ⟨g pM 1, up g 14 1 0, up (up g 14 1 0) pM 1 0, ?_, ?_, ?_⟩
  · rw [e_X_blank_0, pX_r_page, Rw_ck Rw14, Row_size xs Rw14 r3, zci_ok, pX_r_page, Rw_ck Rw14, w1, zcv_ok, (pL_len hQ).1]
  · rw [e_M_blank_0, pM_g_pageMany, pM_p_pageMany, hag pM (by decide) (by decide)]
  · have a0 : ∀ q, q ≠ 14 → q ≠ 15 → q ≠ pM → up (up g 14 1 0) pM 1 0 q = g q := fun q h1 h2 h3 => by rw [up_p _ _ _ h3, hag q h1 h2]
    have a1 : ∀ j : Int, j ≠ 1 → up (up g 14 1 0) pM 1 0 pM j = g pM j := fun j hj => by rw [up_ne _ _ (fun z => hj z.2), hag pM (by decide) (by decide)]
    have a2 : up (up g 14 1 0) pM 1 0 pM 1 = 0 := up_same _ _ _ _
    have a3 : ∀ q, q ≠ pM → up (up g 14 1 0) pM 1 0 q = up g 14 1 0 q := fun q h => up_p _ _ _ h
    generalize hg2 : up (up g 14 1 0) pM 1 0 = g2 at a0 a1 a2 a3
    have s := a0 pM_signalRows (by decide) (by decide) (by decide)
    have sp := a0 pM_speeches (by decide) (by decide) (by decide)
    have ro := a0 pM_rows (by decide) (by decide) (by decide)
    have we := a0 pM_weights (by decide) (by decide) (by decide)
    have nr := a0 pM_noteRows (by decide) (by decide) (by decide)
    have kw := a0 pM_keptWeights (by decide) (by decide) (by decide)
    have kr := a0 pM_keptRows (by decide) (by decide) (by decide)
    have f5 := a1 5 (by decide)
    have f8 := a1 8 (by decide)
    have f10 := a1 10 (by decide)
    have f18 := a1 18 (by decide)
    have f22 := a1 22 (by decide)
    have f23 := a1 23 (by decide)
    refine ⟨⟨?_, ?_, ?_, ?_, ?_, ?_, ?_⟩, ?_, ?_, ?_, ?_, ?_, ?_⟩
    · unfold bdQ at hQ ⊢
      rw [a2, f5, f8, f10, f18]
      exact ⟨by omega, hQ.2⟩
    · intro k h1 h2
      rw [a2] at h2
      omega
    · unfold bdC
      rw [f5, sp, ro]
      exact hC
    · unfold bdS
      rw [f8, s]
      exact hS
    · unfold bdW
      rw [f10, we]
      exact hW
    · rw [f10, f18, nr]
      exact hN
    · unfold bdK
      rw [f10, f22, f23, kw, kr]
      exact hK
    · exact RelS_cg (RelS_fr r1 (fun q h1 h2 => a0 q (by omega) (by omega) (by simp only [pM]; omega))) s f8
    · unfold wL
      rw [we, f10]
      exact zRow_fr r2 (a0 _ (by decide) (by decide) (by decide)) (a0 _ (by decide) (by decide) (by decide))
    · unfold pL
      rw [a2]
      exact zRow_fr w2 (a3 _ (by decide)) (a3 _ (by decide))
    · exact RelC_cg (RelC_fr r4 (by rw [a0 pX (by decide) (by decide) (by decide)]) (fun q h1 h2 => a0 q (by omega) (by omega) (by simp only [pM]; omega))) s f8 ro sp f5
    · rw [nr, f18]
      exact RelN_fr hQ.2.2.2.2.2 r5 (fun q h1 h2 => a0 q (by omega) (by omega) (by simp only [pM]; omega))
    · exact RelK_cg (RelK_fr hB r6 (by rw [a0 pX (by decide) (by decide) (by decide)]) (fun q h1 h2 => a0 q (by omega) (by omega) (by simp only [pM]; omega))) f22 f23 kw kr
