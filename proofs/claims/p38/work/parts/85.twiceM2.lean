/-! ===== twice: the reference's sweeps ===== -/
theorem swK_stop {L : Nat → List Int} {j f : Nat} {s : zFd × Int} : ∀ {k r : Nat}, ¬ (swK L j f k s).1.1 j f < 1000000 → swK L j f (k + r) s = swK L j f k s
  | _, 0, _ => rfl
  | k, r + 1, h => by
    have ih := swK_stop (r := r) h
    rw [← Nat.add_assoc, swK, ih, if_neg h]
