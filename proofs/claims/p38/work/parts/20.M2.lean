/-! ===== the reference: rows laid down plain ===== -/
/-- a speech's letters, and the speech plain -/
def rowS (G : Nat → Int → Int) (c s : Int) : Nat → Int := fun k => G pM_rows (48 * c + 6 * s + 1 + k)
def lenS (G : Nat → Int → Int) (c s : Int) : Nat := (G pM_rows (48 * c + 6 * s)).toNat
def plS (G : Nat → Int → Int) (st c s : Int) : List Int := pln G st (rowS G c s) (lenS G c s)
theorem lenS_rg {g : Nat → Int → Int} (hb : bdC g) {c s : Int} (hc : 0 ≤ c ∧ c < g pM 5) (hs : 0 ≤ s ∧ s < g pM_speeches c) : 1 ≤ lenS g c s ∧ lenS g c s ≤ 5 ∧ g pM_rows (48 * c + 6 * s) = lenS g c s ∧ ∀ k : Nat, k < lenS g c s → 0 ≤ rowS g c s k ∧ rowS g c s k ≤ 7 := by
  obtain ⟨-, -, h⟩ := hb c hc.1 hc.2
  obtain ⟨h1, h2, h3⟩ := h s hs.1 hs.2
  have e : g pM_rows (48 * c + 6 * s) = lenS g c s := by unfold lenS; omega
  refine ⟨by omega, by omega, e, fun k hk => ?_⟩
  have := h3 (1 + k) (by omega) (by omega)
  unfold rowS
  rw [show 48 * c + 6 * s + 1 + (k : Int) = 48 * c + 6 * s + (1 + k) by omega]
  exact this
theorem plS_len {g : Nat → Int → Int} (hb : bdC g) {c s : Int} (hc : 0 ≤ c ∧ c < g pM 5) (hs : 0 ≤ s ∧ s < g pM_speeches c) (st : Int) : (plS g st c s).length ≤ 10 := by
  have h1 := pln_len g st (rowS g c s) (lenS g c s)
  have h2 := (lenS_rg hb hc hs).2.1
  unfold plS
  omega
