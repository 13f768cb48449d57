/-! ===== the reference: all speeches plain, how long ===== -/
theorem z0N : ((0 : Nat) : Int) = 0 := rfl
/-- sums -/
def zsum (f : Nat → Int) : Nat → Int
  | 0 => 0
  | n + 1 => zsum f n + f n
theorem zsum_cg {f f' : Nat → Int} : ∀ {n : Nat}, (∀ k, k < n → f k = f' k) → zsum f n = zsum f' n
  | 0, _ => rfl
  | n + 1, h => by rw [zsum, zsum, zsum_cg (fun k hk => h k (by omega)), h n (by omega)]
theorem zsum_rg {f : Nat → Int} {a b : Int} : ∀ {n : Nat}, (∀ k, k < n → a ≤ f k ∧ f k ≤ b) → n * a ≤ zsum f n ∧ zsum f n ≤ n * b
  | 0, _ => by simp [zsum]
  | n + 1, h => by
    have h1 := zsum_rg (n := n) (fun k hk => h k (by omega))
    have h2 := h n (by omega)
    rw [zsum]
    have e1 : ((n + 1 : Nat) : Int) * a = n * a + a := by rw [Int.natCast_succ, Int.add_mul, Int.one_mul]
    have e2 : ((n + 1 : Nat) : Int) * b = n * b + b := by rw [Int.natCast_succ, Int.add_mul, Int.one_mul]
    omega
def longS (G : Nat → Int → Int) (c s : Int) : Int := zsum (fun k => secS G (rowS G c s k)) (lenS G c s)
theorem secS_rg {g : Nat → Int → Int} (hb : bdS g) (s : Int) : 1 ≤ secS g s ∧ secS g s ≤ 9 := by
  unfold secS
  split
  next h => have := hb s h.1 h.2; omega
  next => omega
theorem longS_rg {g : Nat → Int → Int} (hB : Bd g) {c s : Int} (hc : 0 ≤ c ∧ c < g pM 5) (hs : 0 ≤ s ∧ s < g pM_speeches c) : 1 ≤ longS g c s ∧ longS g c s ≤ 45 := by
  obtain ⟨-, -, hC, hS, -⟩ := hB
  obtain ⟨l1, l2, -⟩ := lenS_rg hC hc hs
  have := zsum_rg (f := fun k => secS g (rowS g c s k)) (n := lenS g c s) (fun k _ => secS_rg hS _)
  unfold longS
  omega
