/-! ===== luck ===== -/
theorem X_power (xs : List Int) (h : zH) (b : Int) (m : Nat) (hm : m ≤ 1000) : zx zblk xs 196 0 [some (.inr (.inl (b))), none, some (.inl ((m : Int)))] [] h = some (some (.inr (.inl (b ^ m))), h) := by
  have hh := zloop (fun k : Nat => zx zblk xs 196 5 [some (.inr (.inl (b))), none, some (.inl ((m : Int))), some (.inr (.inl (b ^ k))), none, some (.inl ((k : Int)))] [] h) m (fun k hk => by
    rw [e_X_power_5, if_neg (by rw [zw_id (by omega) (by omega), zw_id (by omega) (by omega)]; omega), Int.pow_succ, Int.natCast_succ])
  rw [e_X_power_0]
  refine Eq.trans ?_ (hh.trans ?_)
  · rw [Int.pow_zero]
    rfl
  · rw [e_X_power_5, if_pos (Int.le_refl _), e_X_power_21]
/-- in how many ways so many of so many are chosen -/
def bin : Nat → Nat → Int
  | 0, 0 => 1
  | 0, _ + 1 => 0
  | _ + 1, 0 => 1
  | i + 1, j + 1 => bin i (j + 1) + bin i j
def wy (q : Int) : Nat → Nat → Int
  | 0, 0 => 1
  | 0, _ + 1 => 0
  | i + 1, 0 => wy q i 0 * q + 0
  | i + 1, j + 1 => wy q i (j + 1) * q + wy q i j
theorem bin_0 : ∀ {i j : Nat}, i < j → bin i j = 0
  | 0, 0, h => by omega
  | 0, _ + 1, _ => rfl
  | _ + 1, 0, h => by omega
  | i + 1, j + 1, h => by rw [bin, bin_0 (by omega), bin_0 (by omega)]; rfl
theorem wy_bin (q : Int) : ∀ i j : Nat, wy q i j = bin i j * q ^ (i - j)
  | 0, 0 => by simp [wy, bin]
  | 0, _ + 1 => by simp [wy, bin]
  | i + 1, 0 => by
    have hb : bin i 0 = 1 := by cases i <;> rfl
    rw [wy, wy_bin q i 0, bin, hb, Nat.sub_zero, Nat.sub_zero, Int.pow_succ, Int.one_mul, Int.one_mul, Int.add_zero]
  | i + 1, j + 1 => by
    rw [wy, wy_bin q i (j + 1), wy_bin q i j, bin, Int.add_mul, Nat.add_sub_add_right]
    by_cases h : j + 1 ≤ i
    · rw [show i - j = i - (j + 1) + 1 by omega, Int.pow_succ, Int.mul_assoc]
    · rw [bin_0 (show i < j + 1 by omega), Int.zero_mul, Int.zero_mul, Int.zero_mul]
def chR (n k : Nat) : Nat → Int
  | 0 => 1
  | i + 1 => (chR n k i * ((n : Int) - k + (i + 1))).tdiv (i + 1)
theorem chR_ok : ∀ n, n < 13 → ∀ k, k < n + 1 → (∀ i, i < k + 1 → 0 ≤ chR n k i ∧ chR n k i ≤ 10000) ∧ chR n k k = bin n k := by decide +kernel
theorem X_choices (xs : List Int) (h : zH) {n k : Nat} (hn : n < 13) (hk : k < n + 1) : zx zblk xs 195 0 [some (.inl ((n : Int))), some (.inl ((k : Int)))] [] h = some (some (.inr (.inl (bin n k))), h) := by
  obtain ⟨c1, c2⟩ := chR_ok n hn k hk
  have hh := zloop (fun i : Nat => zx zblk xs 195 5 [some (.inl ((n : Int))), some (.inl ((k : Int))), some (.inr (.inl (chR n k i))), none, some (.inl ((i : Int) + 1))] [] h) k (fun i hi => by
    have c3 := c1 i (by omega)
    have hm := mul_rg (a := chR n k i) (b := (n : Int) - k + (i + 1)) (x := 10000) (y := 100) c3 (by omega)
    rw [e_X_choices_5, if_neg (by rw [zw_id (by omega) (by omega), zw_id (by omega) (by omega)]; omega), zw_id (a := (i : Int) + 1) (by omega) (by omega), zwl_id (a := (i : Int) + 1) (by omega) (by omega), if_neg (by omega), zw_id (a := (n : Int) - k + (i + 1)) (by omega) (by omega), zwl_id (a := chR n k i * ((n : Int) - k + (i + 1))) (by omega) (by omega), chR, Int.natCast_succ])
  rw [e_X_choices_0]
  refine Eq.trans ?_ (hh.trans ?_)
  · rfl
  · rw [e_X_choices_5, if_pos (by rw [zw_id (by omega) (by omega), zw_id (by omega) (by omega)]; omega), e_X_choices_31, c2]
def luO (n k r : Int) : Int := zsum (fun t => wy (k - 1) n.toNat (r.toNat + t)) (n + 1 - r).toNat
def luS (n k r p : Int) : Int := if (1 ≤ n ∧ n ≤ 12) ∧ (2 ≤ k ∧ k ≤ 9) ∧ (0 ≤ r ∧ r ≤ n) ∧ (p = 0 ∨ p = 1) then fracS (luO n k r).toNat (k ^ n.toNat).toNat p else -102
theorem bin_rg : ∀ n, n < 13 → ∀ k, k < n + 1 → 0 ≤ bin n k ∧ bin n k ≤ 924 := by decide +kernel
theorem pow_ok : ∀ b : Nat, b < 10 → ∀ m : Nat, m < 13 → 0 ≤ (b : Int) ^ m ∧ (b : Int) ^ m ≤ 282429536481 ∧ (0 < b → 0 < (b : Int) ^ m) := by decide +kernel
theorem luO_rg {n k r : Int} (hn : 1 ≤ n ∧ n ≤ 12) (hk : 2 ≤ k ∧ k ≤ 9) (hr : 0 ≤ r ∧ r ≤ n) : 0 ≤ luO n k r ∧ luO n k r < 4611686018427387904 := by
  have := zsum_rg (a := 0) (b := 924 * 282429536481) (n := (n + 1 - r).toNat) (f := fun t => wy (k - 1) n.toNat (r.toNat + t)) (fun t ht => by
    rw [wy_bin]
    have h1 := bin_rg n.toNat (by omega) (r.toNat + t) (by omega)
    have h2 := pow_ok (k - 1).toNat (by omega) (n.toNat - (r.toNat + t)) (by omega)
    rw [Int.toNat_of_nonneg (by omega)] at h2
    exact mul_rg h1 ⟨h2.1, h2.2.1⟩)
  unfold luO
  omega
theorem X_luck (xs : List Int) (g : Nat → Int → Int) {n k r p : Int} (hn : zw n = n) (hk : zw k = k) (hr : zw r = r) (hp : zw p = p) : zx zblk xs 163 0 [some (.inr (.inr (some pX))), some (.inl (n)), some (.inl (k)), some (.inl (r)), some (.inl (p))] [] (HH g) = some (some (.inr (.inl (luS n k r p))), HH g) := by
  have e39 : zx zblk xs 163 39 [] [] (HH g) = some (some (.inr (.inl (-102))), HH g) := e_X_luck_39 xs _
  rw [e_X_luck_0, e39, hn, hk, hr, show zw 1 = 1 from rfl, show zw 12 = 12 from rfl, show zw 2 = 2 from rfl, show zw 9 = 9 from rfl]
  unfold luS
  by_cases c : (1 ≤ n ∧ n ≤ 12) ∧ (2 ≤ k ∧ k ≤ 9) ∧ (0 ≤ r ∧ r ≤ n) ∧ (p = 0 ∨ p = 1)
  · obtain ⟨c1, c2, c3, c4⟩ := id c
    rw [if_pos c, if_neg (by omega), if_neg (by omega), if_neg (by omega), if_neg (by omega), if_neg (by omega), if_neg (by omega), X_isPart xs p _ hp, zci_ok, zb_zw, zb_t c4, if_pos (by decide), e_X_luck_43]
    obtain ⟨n', rfl⟩ : ∃ n' : Nat, n = n' := ⟨n.toNat, by omega⟩
    obtain ⟨r', rfl⟩ : ∃ r' : Nat, r = r' := ⟨r.toNat, by omega⟩
    have hh := zloop (fun t : Nat => zx zblk xs 163 49 [none, some (.inl ((n' : Int))), some (.inl (k)), none, some (.inl (p)), some (.inr (.inl (zsum (fun t => wy (k - 1) n' (r' + t)) t))), none, some (.inl (((r' + t : Nat) : Int)))] [] (HH g)) (n' + 1 - r') (fun t ht => by
      have hpw := X_power xs (HH g) (k - 1) (n' - (r' + t)) (by omega)
      rw [show ((n' - (r' + t) : Nat) : Int) = (n' : Int) - ((r' + t : Nat) : Int) by omega] at hpw
      rw [e_X_luck_49, if_neg (by rw [zw_id (by omega) (by omega), zw_id (by omega) (by omega)]; omega), X_choices xs _ (by omega) (by omega), zcl_ok', zw_id (a := k - 1) (by omega) (by omega), hpw, zcl_ok', zsum, wy_bin, ← Int.natCast_succ, Nat.succ_eq_add_one, Nat.add_assoc])
    have hlu := luO_rg c1 c2 c3
    have hpo := pow_ok k.toNat (by omega) n' (by omega)
    rw [Int.toNat_of_nonneg (by omega)] at hpo
    have hk0 := hpo.2.2 (by omega)
    have hlow := X_lowest xs (HH g) (a := (luO n' k r').toNat) (b := (k ^ n').toNat) hp (by omega) (by omega) (by omega)
    rw [Int.toNat_of_nonneg hlu.1, Int.toNat_of_nonneg (by omega)] at hlow
    refine Eq.trans ?_ (hh.trans ?_)
    · rfl
    · rw [e_X_luck_49, if_pos (by rw [zw_id (by omega) (by omega), zw_id (by omega) (by omega)]; omega), e_X_luck_84, hk, X_power xs (HH g) k n' (by omega), zcl_ok', show zsum (fun t => wy (k - 1) n' (r' + t)) (n' + 1 - r') = luO n' k r' by unfold luO; rw [show ((n' : Int) + 1 - (r' : Int)).toNat = n' + 1 - r' by omega]; rfl, hlow, zcl_ok']
      rfl
  · rw [if_neg c]
    by_cases d1 : n < 1
    · rw [if_pos d1]
    · rw [if_neg d1]
      by_cases d2 : 12 < n
      · rw [if_pos d2]
      · rw [if_neg d2]
        by_cases d3 : k < 2
        · rw [if_pos d3]
        · rw [if_neg d3]
          by_cases d4 : 9 < k
          · rw [if_pos d4]
          · rw [if_neg d4]
            by_cases d5 : r < 0
            · rw [if_pos d5]
            · rw [if_neg d5]
              by_cases d6 : n < r
              · rw [if_pos d6]
              · rw [if_neg d6, X_isPart xs p _ hp, zci_ok, zb_zw, zb_f (by omega), if_neg (by decide), e39]
