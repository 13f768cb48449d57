/-! ===== seen: sets ===== -/
theorem zsum_add (f f' : Nat → Int) : ∀ n, zsum (fun k => f k + f' k) n = zsum f n + zsum f' n
  | 0 => rfl
  | n + 1 => by simp only [zsum]; rw [zsum_add f f' n]; omega
theorem zsum_sub (f f' : Nat → Int) : ∀ n, zsum (fun k => f k - f' k) n = zsum f n - zsum f' n
  | 0 => rfl
  | n + 1 => by simp only [zsum]; rw [zsum_sub f f' n]; omega
theorem zsum_nought : ∀ n, zsum (fun _ => 0) n = 0
  | 0 => rfl
  | n + 1 => by simp only [zsum]; rw [zsum_nought n]; rfl
theorem zsum_swap (f : Nat → Nat → Int) (m : Nat) : ∀ n, zsum (fun a => zsum (fun b => f a b) m) n = zsum (fun b => zsum (fun a => f a b) n) m
  | 0 => by simp only [zsum]; rw [zsum_nought]
  | n + 1 => by
    simp only [zsum]
    rw [zsum_swap f m n, ← zsum_add]
theorem zsum_one {f : Nat → Int} {i : Nat} : ∀ {n : Nat}, i < n → (∀ k, k < n → k ≠ i → f k = 0) → zsum f n = f i
  | 0, h, _ => by omega
  | n + 1, h, h0 => by
    rw [zsum]
    by_cases e : i = n
    · subst e
      rw [zsum_cg (f' := fun _ => 0) (fun k hk => h0 k (by omega) (by omega)), zsum_nought, Int.zero_add]
    · rw [zsum_one (n := n) (by omega) (fun k hk hne => h0 k (by omega) hne), h0 n (by omega) (fun z => e z.symm), Int.add_zero]
theorem zsum_two {f : Nat → Int} {i j : Nat} : ∀ {n : Nat}, i < n → j < i → (∀ k, k < n → k ≠ i → k ≠ j → f k = 0) → zsum f n = f i + f j
  | 0, h, _, _ => by omega
  | n + 1, h, hj, h0 => by
    rw [zsum]
    by_cases e : i = n
    · subst e
      rw [zsum_one hj (fun k hk hne => h0 k (by omega) (by omega) hne), Int.add_comm]
    · rw [zsum_two (n := n) (by omega) hj (fun k hk h1 h2 => h0 k (by omega) h1 h2), h0 n (by omega) (fun z => e z.symm) (by omega), Int.add_zero]
/-- over all that lie in a set of the first m, with signs: the power of what is free and of them -/
def dS (w : Nat → Int) : Nat → Nat → Int → Nat → Int
  | 0, _, c, k => c ^ k
  | m + 1, s, c, k => if s.testBit m then dS w m s (c + w m) k - dS w m s c k else dS w m s c k
theorem dS_cg (w : Nat → Int) {s s' : Nat} (k : Nat) : ∀ {m : Nat} (c : Int), (∀ i, i < m → s.testBit i = s'.testBit i) → dS w m s c k = dS w m s' c k
  | 0, _, _ => rfl
  | m + 1, c, h => by
    rw [dS, dS, h m (by omega), dS_cg w k (m := m) c (fun i hi => h i (by omega)), dS_cg w k (m := m) (c + w m) (fun i hi => h i (by omega))]
theorem bit_off {s t i : Nat} : (s ^^^ 2 ^ t).testBit i = (s.testBit i != decide (t = i)) := by
  rw [Nat.testBit_xor, Nat.testBit_two_pow]
theorem bit_off_ne {s t i : Nat} (h : t ≠ i) : (s ^^^ 2 ^ t).testBit i = s.testBit i := by
  rw [bit_off, decide_eq_false h]
  cases s.testBit i <;> rfl
theorem bit_off_eq {s t : Nat} (h : s.testBit t = true) : (s ^^^ 2 ^ t).testBit t = false := by
  rw [bit_off, h]
  simp
def dT (w : Nat → Int) (m s : Nat) (c : Int) (k : Nat) (t : Nat) : Int := if s.testBit t then w t * (dS w m s c k + dS w m (s ^^^ 2 ^ t) c k) else 0
theorem dS_step (w : Nat → Int) (s k : Nat) : ∀ (m : Nat) (c : Int), dS w m s c (k + 1) = c * dS w m s c k + zsum (dT w m s c k) m
  | 0, c => by
    rw [dS, dS, Int.pow_succ, Int.mul_comm]
    simp [zsum]
  | m + 1, c => by
    have h1 := dS_step w s k m c
    by_cases b : s.testBit m = true
    · have h2 := dS_step w s k m (c + w m)
      have e1 : dS w (m + 1) s c (k + 1) = dS w m s (c + w m) (k + 1) - dS w m s c (k + 1) := by rw [dS, if_pos b]
      have e2 : dS w (m + 1) s c k = dS w m s (c + w m) k - dS w m s c k := by rw [dS, if_pos b]
      have e3 : dS w (m + 1) (s ^^^ 2 ^ m) c k = dS w m s c k := by
        rw [dS, bit_off_eq b, if_neg (by simp)]
        exact dS_cg w k c (fun i hi => bit_off_ne (by omega))
      have e4 : zsum (dT w (m + 1) s c k) m = zsum (dT w m s (c + w m) k) m - zsum (dT w m s c k) m := by
        rw [← zsum_sub]
        refine zsum_cg (fun t ht => ?_)
        unfold dT
        by_cases bt : s.testBit t = true
        · rw [if_pos bt, if_pos bt, if_pos bt, e2, dS, bit_off_ne (by omega), if_pos b, ← Int.mul_sub]
          congr 1
          omega
        · rw [if_neg bt, if_neg bt, if_neg bt]
          rfl
      have e5 : dT w (m + 1) s c k m = w m * dS w m s (c + w m) k := by
        unfold dT
        rw [if_pos b, e2, e3, Int.sub_add_cancel]
      rw [e1, h1, h2, e2, zsum, e4, e5, Int.add_mul, Int.mul_sub]
      omega
    · have e1 : ∀ k c, dS w (m + 1) s c k = dS w m s c k := fun k c => by rw [dS, if_neg b]
      have e4 : zsum (dT w (m + 1) s c k) m = zsum (dT w m s c k) m := zsum_cg (fun t ht => by
        unfold dT
        by_cases bt : s.testBit t = true
        · rw [if_pos bt, if_pos bt, e1, dS, bit_off_ne (by omega), if_neg b]
        · rw [if_neg bt, if_neg bt])
      have e5 : dT w (m + 1) s c k m = 0 := by unfold dT; rw [if_neg b]
      rw [e1, e1, h1, zsum, e4, e5, Int.add_zero]
/-- how many are in a set -/
def pcS : Nat → Nat → Nat
  | 0, _ => 0
  | m + 1, s => pcS m s + if s.testBit m then 1 else 0
theorem pcS_cg {s s' : Nat} : ∀ {m : Nat}, (∀ i, i < m → s.testBit i = s'.testBit i) → pcS m s = pcS m s'
  | 0, _ => rfl
  | m + 1, h => by rw [pcS, pcS, h m (by omega), pcS_cg (m := m) (fun i hi => h i (by omega))]
theorem pcS_off {s t : Nat} (h : s.testBit t = true) : ∀ {m : Nat}, t < m → pcS m (s ^^^ 2 ^ t) + 1 = pcS m s
  | 0, hm => by omega
  | m + 1, hm => by
    rw [pcS, pcS]
    by_cases e : t = m
    · subst e
      rw [bit_off_eq h, h, pcS_cg (m := t) (fun i hi => bit_off_ne (by omega))]
      simp
    · have := pcS_off h (m := m) (by omega)
      rw [bit_off_ne e]
      omega
theorem dS_0 (w : Nat → Int) (s : Nat) : ∀ (m : Nat) (c : Int), dS w m s c 0 = if pcS m s = 0 then 1 else 0
  | 0, c => by rw [dS, Int.pow_zero, pcS, if_pos rfl]
  | m + 1, c => by
    rw [dS, pcS, dS_0 w s m c, dS_0 w s m (c + w m)]
    by_cases b : s.testBit m = true
    · rw [if_pos b, if_pos b, Int.sub_self, if_neg (by omega)]
    · rw [if_neg b, if_neg b, Nat.add_zero]
/-- the ways of so many that are just a set -/
def aS (w : Nat → Int) (m k s : Nat) : Int := dS w m s 0 k
theorem aS_step (w : Nat → Int) (m k s : Nat) : aS w m (k + 1) s = zsum (fun t => if s.testBit t then w t * (aS w m k s + aS w m k (s ^^^ 2 ^ t)) else 0) m := by
  unfold aS
  rw [dS_step, Int.zero_mul, Int.zero_add]
  rfl
theorem aS_few (w : Nat → Int) (m : Nat) : ∀ (k s : Nat), k < pcS m s → aS w m k s = 0
  | 0, s, h => by
    unfold aS
    rw [dS_0, if_neg (by omega)]
  | k + 1, s, h => by
    rw [aS_step, zsum_cg (f' := fun _ => 0) (fun t ht => by
      by_cases b : s.testBit t = true
      · have := pcS_off b ht
        rw [if_pos b, aS_few w m k s (by omega), aS_few w m k (s ^^^ 2 ^ t) (by omega)]
        simp
      · rw [if_neg b]), zsum_nought]
theorem aS_rg {w : Nat → Int} {m : Nat} (hw : ∀ t, t < m → 1 ≤ w t ∧ w t ≤ 99) : ∀ (k s : Nat), 0 ≤ aS w m k s ∧ aS w m k s ≤ ((198 * m) ^ k : Nat)
  | 0, s => by
    unfold aS
    rw [dS_0, Nat.pow_zero]
    split <;> omega
  | k + 1, s => by
    rw [aS_step]
    have hb : ∀ t, t < m → 0 ≤ (if s.testBit t then w t * (aS w m k s + aS w m k (s ^^^ 2 ^ t)) else 0) ∧ (if s.testBit t then w t * (aS w m k s + aS w m k (s ^^^ 2 ^ t)) else 0) ≤ 198 * (((198 * m) ^ k : Nat) : Int) := fun t ht => by
      have h1 := aS_rg hw k s
      have h2 := aS_rg hw k (s ^^^ 2 ^ t)
      have h3 := hw t ht
      split
      · refine ⟨Int.mul_nonneg (by omega) (by omega), ?_⟩
        have := Int.mul_le_mul (show w t ≤ 99 from h3.2) (show aS w m k s + aS w m k (s ^^^ 2 ^ t) ≤ 2 * (((198 * m) ^ k : Nat) : Int) by omega) (by omega) (by omega)
        omega
      · omega
    have := zsum_rg hb
    rw [Nat.pow_succ, Int.natCast_mul]
    have e : (m : Int) * (198 * (((198 * m) ^ k : Nat) : Int)) = (((198 * m) ^ k : Nat) : Int) * ((198 * m : Nat) : Int) := by
      rw [Int.natCast_mul, Int.mul_comm, Int.mul_comm 198, Int.mul_assoc]
      rfl
    rw [← e]
    omega
theorem or_iff {s s' t : Nat} (h : s'.testBit t = true) : s' = s ||| 2 ^ t ↔ s = s' ∨ s = s' ^^^ 2 ^ t := by
  constructor
  · intro e
    by_cases b : s.testBit t = true
    · left
      apply Nat.eq_of_testBit_eq
      intro i
      rw [e, Nat.testBit_or, Nat.testBit_two_pow]
      by_cases c : t = i
      · subst c; rw [b]; rfl
      · rw [decide_eq_false c, Bool.or_false]
    · right
      apply Nat.eq_of_testBit_eq
      intro i
      rw [bit_off, e, Nat.testBit_or, Nat.testBit_two_pow]
      by_cases c : t = i
      · subst c
        rw [Bool.not_eq_true] at b
        rw [b]
        simp
      · rw [decide_eq_false c]
        cases s.testBit i <;> rfl
  · intro e
    apply Nat.eq_of_testBit_eq
    intro i
    rw [Nat.testBit_or, Nat.testBit_two_pow]
    by_cases c : t = i
    · subst c
      rw [h]
      simp
    · rw [decide_eq_false c, Bool.or_false]
      rcases e with e | e
      · rw [e]
      · rw [e, bit_off_ne c]
theorem or_no {s s' t : Nat} (h : ¬ s'.testBit t = true) : s' ≠ s ||| 2 ^ t := by
  intro e
  apply h
  rw [e, Nat.testBit_or, Nat.testBit_two_pow]
  simp
theorem off_lt {s t : Nat} (h : s.testBit t = true) : s ^^^ 2 ^ t < s := by
  have h1 : s ^^^ 2 ^ t ||| 2 ^ t = s := ((or_iff h).mpr (Or.inr rfl)).symm
  have h2 : s ^^^ 2 ^ t ≤ s ^^^ 2 ^ t ||| 2 ^ t := Nat.left_le_or
  have h3 : s ^^^ 2 ^ t ≠ s := fun z => by
    have := bit_off_eq h
    rw [z, h] at this
    exact absurd this (by simp)
  omega
/-- what each one of the sets gives on -/
def psS (w : Nat → Int) (m : Nat) (b : Nat → Int) (s' : Nat) : Nat → Int := fun s => zsum (fun t => if s' = s ||| 2 ^ t then b s * w t else 0) m
theorem push_ok (w : Nat → Int) (m : Nat) (b : Nat → Int) {s' N : Nat} (hs : s' < N) : zsum (psS w m b s') N = zsum (fun t => if s'.testBit t then w t * (b s' + b (s' ^^^ 2 ^ t)) else 0) m := by
  unfold psS
  rw [zsum_swap]
  refine zsum_cg (fun t ht => ?_)
  by_cases c : s'.testBit t = true
  · have hlt := off_lt c
    rw [if_pos c, zsum_two (i := s') (j := s' ^^^ 2 ^ t) hs hlt (fun k hk h1 h2 => if_neg (fun z => by
      rcases (or_iff c).mp z with e | e
      · exact h1 e
      · exact h2 e)), if_pos ((or_iff c).mpr (Or.inl rfl)), if_pos ((or_iff c).mpr (Or.inr rfl)), ← Int.add_mul, Int.mul_comm]
  · rw [if_neg c, zsum_cg (f' := fun _ => 0) (fun k hk => if_neg (or_no c)), zsum_nought]
