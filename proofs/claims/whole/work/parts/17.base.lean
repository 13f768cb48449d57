/-! ===== what the reference's small methods answer ===== -/
theorem zwl_zw (a : Int) : zwl (zw a) = zw a := zwl_id (by have := zw_lo a; omega) (by have := zw_hi a; omega)
theorem zw_zw (a : Int) : zw (zw a) = zw a := zw_id (zw_lo a) (zw_hi a)
theorem zw_i32 (a : Int32) : zw a.toInt = a.toInt := zw_id (by have := a.le_toInt; omega) (by have := a.toInt_lt; omega)
theorem zw_zand (a b : Int) : zw (zand a b) = zand a b := zw_i32 _
theorem zw_zor (a b : Int) : zw (zor a b) = zor a b := zw_i32 _
theorem zw_zshl (a b : Int) : zw (zshl a b) = zshl a b := zw_i32 _
theorem zw_zshr (a b : Int) : zw (zshr a b) = zshr a b := zw_i32 _
theorem zw_zushr (a b : Int) : zw (zushr a b) = zushr a b := zw_i32 _
/-- a number of a truth -/
def zb (c : Prop) [Decidable c] : Int := if c then 1 else 0
theorem zb_t {c : Prop} [Decidable c] (h : c) : zb c = 1 := if_pos h
theorem zb_f {c : Prop} [Decidable c] (h : ¬ c) : zb c = 0 := if_neg h
theorem zb_01 (c : Prop) [Decidable c] : zb c = 0 ∨ zb c = 1 := by
  by_cases h : c
  · exact Or.inr (zb_t h)
  · exact Or.inl (zb_f h)
theorem zb_zw (c : Prop) [Decidable c] : zw (zb c) = zb c := by rcases zb_01 c with h | h <;> rw [h] <;> rfl
theorem zb_eq0 (c : Prop) [Decidable c] : zb c = 0 ↔ ¬ c := by
  by_cases h : c
  · simp [zb, h]
  · simp [zb, h]
theorem M_in (xs : List Int) (v a b : Int) (h : zH) (hv : zwl v = v) (ha : zwl a = a) (hb : zwl b = b) : zx zblk xs 2 0 [some (.inr (.inl (v))), none, some (.inr (.inl (a))), none, some (.inr (.inl (b))), none] [] h = some (some (.inl (zb (a ≤ v ∧ v ≤ b))), h) := by
  rw [e_M_in_0, hv, ha, hb]
  simp only [e_M_in_17, e_M_in_18]
  by_cases h1 : v < a
  · rw [if_pos h1, if_pos (by decide), zb_f (by omega)]
    rfl
  · rw [if_neg h1]
    by_cases h2 : b < v
    · rw [zb_f (by omega)]
      have e1 : ¬ v < b := by omega
      have e2 : ¬ v = b := by omega
      by_cases h3 : v = a
      · simp [h3, zw, show ¬ a < b by omega, show ¬ a = b by omega]
      · simp [h3, e1, e2, zw]
    · rw [zb_t (by omega)]
      by_cases h3 : v = a <;> by_cases h4 : v < b <;> simp [h3, h4, zw] <;> omega
theorem M_isCode (xs : List Int) (g : Nat → Int → Int) (c : Int) (h0 : 0 ≤ g pM 5) (h1 : g pM 5 ≤ 100) : zx zblk xs 9 0 [some (.inr (.inr (some pM))), some (.inl (c))] [] (HH g) = some (some (.inl (zb (0 ≤ zw c ∧ zw c < g pM 5))), HH g) := by
  rw [e_M_isCode_0, pM_g_codes, zw_id (a := g pM 5 - 1) (by omega) (by omega)]
  have := M_in xs (zw c) 0 (g pM 5 - 1) (HH g) (zwl_zw c) (by rfl) (zwl_id (by omega) (by omega))
  rw [this, zci_ok, if_pos (zb_01 _)]
  congr 4
  simp only [zb]
  congr 1
  apply propext
  omega
