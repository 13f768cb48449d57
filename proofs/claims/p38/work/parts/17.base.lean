/-! ===== what the reference's small methods answer ===== -/
theorem zw_i32 (a : Int32) : zw a.toInt = a.toInt := zw_id (by have := a.le_toInt; omega) (by have := a.toInt_lt; omega)
theorem zw_zand (a b : Int) : zw (zand a b) = zand a b := zw_i32 _
/-- a number of a truth -/
def zb (c : Prop) [Decidable c] : Int := if c then 1 else 0
theorem zb_t {c : Prop} [Decidable c] (h : c) : zb c = 1 := if_pos h
theorem zb_f {c : Prop} [Decidable c] (h : ¬ c) : zb c = 0 := if_neg h
theorem zb_01 (c : Prop) [Decidable c] : zb c = 0 ∨ zb c = 1 := by
  by_cases h : c
  · exact Or.inr (zb_t h)
  · exact Or.inl (zb_f h)
theorem zb_zw (c : Prop) [Decidable c] : zw (zb c) = zb c := by rcases zb_01 c with h | h <;> rw [h] <;> rfl
theorem zb_eq0 (c : Prop) [Decidable c] : zb c = 0 ↔ ¬ c := by
  by_cases h : c
  · simp [zb, h]
  · simp [zb, h]
