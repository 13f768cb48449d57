/-! ===== updates: both memories go on together ===== -/
def Inv (g : Nat → Int → Int) : Prop := Bd g ∧ Rel g g
theorem RelS_cg {G G1 g : Nat → Int → Int} (h : RelS G g) (e1 : G1 pM_signalRows = G pM_signalRows) (e2 : G1 pM 8 = G pM 8) : RelS G1 g := by
  unfold RelS sigL at *
  rw [e1, e2]
  exact h
theorem plS_cg {G G1 : Nat → Int → Int} (e1 : G1 pM_signalRows = G pM_signalRows) (e2 : G1 pM 8 = G pM 8) (e3 : G1 pM_rows = G pM_rows) : plS G1 = plS G := by
  have k : kindS G1 = kindS G := by
    funext s
    unfold kindS
    rw [e1, e2]
  have st : stp G1 = stp G := by
    funext l s
    unfold stp
    rw [k, e1]
  have p : pln G1 = pln G := by
    funext st' f n
    induction n with
    | zero => rfl
    | succ n ih => simp only [pln, ih, st]
  funext st' c s
  unfold plS rowS lenS
  rw [p, e3]
theorem RelC_cg {G G1 g : Nat → Int → Int} (h : RelC G g) (e1 : G1 pM_signalRows = G pM_signalRows) (e2 : G1 pM 8 = G pM 8) (e3 : G1 pM_rows = G pM_rows) (e4 : G1 pM_speeches = G pM_speeches) (e5 : G1 pM 5 = G pM 5) : RelC G1 g := by
  unfold RelC nS rowL rowS lenS at *
  rw [plS_cg e1 e2 e3, e3, e4, e5]
  exact h
theorem RelK_cg {G G1 g : Nat → Int → Int} (h : RelK G g) (e1 : G1 pM 22 = G pM 22) (e2 : G1 pM 23 = G pM 23) (e3 : G1 pM_keptWeights = G pM_keptWeights) (e4 : G1 pM_keptRows = G pM_keptRows) : RelK G1 g := by
  unfold RelK at *
  rw [e1, e2, e3, e4]
  exact h
theorem RelK_fr {G g g1 : Nat → Int → Int} (hB : Bd G) (h : RelK G g) (e0 : g1 pX 8 = g pX 8) (e : ∀ q, 43 ≤ q → q ≤ 71 → g1 q = g q) : RelK G g1 := by
  refine ⟨by rw [e0]; exact h.1, fun hk => ?_⟩
  obtain ⟨k1, k2⟩ := h.2 hk
  refine ⟨zRow_fr k1 (e _ (by omega) (by omega)) (e _ (by omega) (by omega)), RelN_fr ?_ k2 (fun q _ _ => e q (by omega) (by omega))⟩
  rcases hB.2.2.2.2.2.2 with z | z
  · exact absurd z hk
  · exact z.2.2.2.1
