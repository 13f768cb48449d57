/-! ===== twice: the reference ===== -/
theorem agr_iff {L : Nat → List Int} {j f k : Nat} : agr L j f k ↔ ((L j).drop f).take (min ((L j).length - f) (L k).length) = (L k).take (min ((L j).length - f) (L k).length) := by
  unfold agr
  have hl : ((L j).drop f).length = (L j).length - f := List.length_drop
  by_cases c : (L j).length - f ≤ (L k).length
  · rw [Nat.min_eq_left c, List.take_of_length_le (l := (L j).drop f) (by omega), List.take_of_length_le (l := (L j).drop f) (by omega)]
  · rw [Nat.min_eq_right (by omega), List.take_of_length_le (l := L k) (by omega), List.take_of_length_le (l := L k) (by omega)]
