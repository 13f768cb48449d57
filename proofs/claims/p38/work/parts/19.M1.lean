/-! ===== the reference: signals and rows ===== -/
theorem kindS_rg {g : Nat → Int → Int} (hb : bdS g) (s : Int) : 0 ≤ kindS g s ∧ kindS g s ≤ 4 := by
  unfold kindS
  split
  next h => exact ⟨(hb s h.1 h.2).1, (hb s h.1 h.2).2.1⟩
  next => omega
theorem kindS_2 {g : Nat → Int → Int} {s : Int} (h : kindS g s = 2) : 0 ≤ s ∧ s < g pM 8 := by
  unfold kindS at h
  split at h
  next h0 => exact h0
  next => omega
