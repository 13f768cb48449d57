/-! ===== seen: sets ===== -/
theorem zsum_nought : ∀ n, zsum (fun _ => 0) n = 0
  | 0 => rfl
  | n + 1 => by simp only [zsum]; rw [zsum_nought n]; rfl
