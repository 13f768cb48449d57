/-! ===== code ===== -/
theorem zCd_cg {g : Nat → Int → Int} {P n : Nat} {L L' : Nat → List Int} (h : zCd g P n L) (e : ∀ i, i < n → L' i = L i) : zCd g P n L' := by
  obtain ⟨h1, h2, h3, h4⟩ := h
  exact ⟨h1, h2, h3, fun i hi => by rw [e i hi]; exact h4 i hi⟩
/-- a code of other rows stays what it is -/
theorem code_keep {G G1 : Nat → Int → Int} (hB : Bd G) {c : Int} (hc : 0 ≤ c ∧ c < G pM 5) (e1 : G1 pM_signalRows = G pM_signalRows) (e2 : G1 pM 8 = G pM 8) (e3 : ∀ j : Int, 48 * c ≤ j → j < 48 * c + 48 → G1 pM_rows j = G pM_rows j) (e4 : G1 pM_speeches c = G pM_speeches c) : nS G1 c = nS G c ∧ ∀ s : Nat, s < nS G c → rowL G1 c s = rowL G c s ∧ plS G1 0 c s = plS G 0 c s := by
  obtain ⟨n1, n2, n3⟩ := nS_rg hB hc
  refine ⟨by unfold nS; rw [e4], fun s hs => ?_⟩
  obtain ⟨l1, l2, l3, l4⟩ := lenS_rg hB.2.2.1 hc (s := s) (by omega)
  have hl : lenS G1 c s = lenS G c s := by unfold lenS; rw [e3 _ (by omega) (by omega)]
  have hr : ∀ k, k < lenS G c s → rowS G1 c s k = rowS G c s k := fun k hk => by unfold rowS; rw [e3 _ (by omega) (by omega)]
  constructor
  · unfold rowL
    rw [hl]
    exact zLi_cg hr
  · unfold plS
    rw [hl, pln_G e1 e2]
    exact pln_cg G 0 hr
