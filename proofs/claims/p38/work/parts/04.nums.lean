/-! ===== whole numbers and machine numbers ===== -/
theorem zw_toInt (a : Int) : (Int32.ofInt a).toInt = zw a := by
  rw [Int32.toInt_ofInt, Int.bmod_def]
  unfold zw
  simp only [Int32.size]
  split <;> omega
theorem zwl_toInt (a : Int) : (Int64.ofInt a).toInt = zwl a := by
  rw [Int64.toInt_ofInt, Int.bmod_def]
  unfold zwl
  simp only [Int64.size]
  split <;> omega
theorem zw_of (a : Int) : Int32.ofInt (zw a) = Int32.ofInt a := by rw [← zw_toInt, Int32.ofInt_toInt]
theorem zwl_of (a : Int) : Int64.ofInt (zwl a) = Int64.ofInt a := by rw [← zwl_toInt, Int64.ofInt_toInt]
theorem zw_lo (a : Int) : -2147483648 ≤ zw a := by unfold zw; omega
theorem zw_hi (a : Int) : zw a ≤ 2147483647 := by unfold zw; omega
theorem zw_id {a : Int} (h1 : -2147483648 ≤ a) (h2 : a ≤ 2147483647) : zw a = a := by unfold zw; omega
theorem zwl_lo (a : Int) : -9223372036854775808 ≤ zwl a := by unfold zwl; omega
theorem zwl_hi (a : Int) : zwl a ≤ 9223372036854775807 := by unfold zwl; omega
theorem zwl_id {a : Int} (h1 : -9223372036854775808 ≤ a) (h2 : a ≤ 9223372036854775807) : zwl a = a := by unfold zwl; omega
theorem zw_min : Int32.minValue.toInt = -2147483648 := by decide
theorem zw_max : Int32.maxValue.toInt = 2147483647 := by decide
theorem zwl_min : Int64.minValue.toInt = -9223372036854775808 := by decide
theorem zwl_max : Int64.maxValue.toInt = 9223372036854775807 := by decide
theorem zw_div (a b : Int) : Int32.ofInt ((zw a).tdiv (zw b)) = Int32.ofInt a / Int32.ofInt b := by
  rw [Int32.ofInt_tdiv (by rw [zw_min]; exact zw_lo a) (by rw [zw_max]; exact zw_hi a) (by rw [zw_min]; exact zw_lo b) (by rw [zw_max]; exact zw_hi b), zw_of, zw_of]
theorem zwl_div (a b : Int) : Int64.ofInt ((zwl a).tdiv (zwl b)) = Int64.ofInt a / Int64.ofInt b := by
  rw [Int64.ofInt_tdiv (by rw [zwl_min]; exact zwl_lo a) (by rw [zwl_max]; exact zwl_hi a) (by rw [zwl_min]; exact zwl_lo b) (by rw [zwl_max]; exact zwl_hi b), zwl_of, zwl_of]
theorem zw_mod (a b : Int) : Int32.ofInt ((zw a).tmod (zw b)) = Int32.ofInt a - Int32.ofInt a / Int32.ofInt b * Int32.ofInt b := by
  have h : (zw a).tmod (zw b) = zw a - (zw a).tdiv (zw b) * zw b := by rw [Int.tmod_def, Int.mul_comm]
  rw [h, Int32.ofInt_sub, Int32.ofInt_mul, zw_div, zw_of, zw_of]
theorem zwl_mod (a b : Int) : Int64.ofInt ((zwl a).tmod (zwl b)) = Int64.ofInt a - Int64.ofInt a / Int64.ofInt b * Int64.ofInt b := by
  have h : (zwl a).tmod (zwl b) = zwl a - (zwl a).tdiv (zwl b) * zwl b := by rw [Int.tmod_def, Int.mul_comm]
  rw [h, Int64.ofInt_sub, Int64.ofInt_mul, zwl_div, zwl_of, zwl_of]
theorem zw_eq (a b : Int) : Int32.ofInt a = Int32.ofInt b ↔ zw a = zw b := by rw [← Int32.toInt_inj, zw_toInt, zw_toInt]
theorem zw_lt (a b : Int) : Int32.ofInt a < Int32.ofInt b ↔ zw a < zw b := by rw [Int32.lt_iff_toInt_lt, zw_toInt, zw_toInt]
theorem zw_le (a b : Int) : Int32.ofInt a ≤ Int32.ofInt b ↔ zw a ≤ zw b := by rw [Int32.le_iff_toInt_le, zw_toInt, zw_toInt]
theorem zwl_eq (a b : Int) : Int64.ofInt a = Int64.ofInt b ↔ zwl a = zwl b := by rw [← Int64.toInt_inj, zwl_toInt, zwl_toInt]
theorem zwl_lt (a b : Int) : Int64.ofInt a < Int64.ofInt b ↔ zwl a < zwl b := by rw [Int64.lt_iff_toInt_lt, zwl_toInt, zwl_toInt]
theorem zw_eq0 (a : Int) : Int32.ofInt a = 0 ↔ zw a = 0 := by
  have h := zw_eq a 0
  rw [show zw 0 = 0 by rfl] at h
  exact h
theorem zwl_eq0 (a : Int) : Int64.ofInt a = 0 ↔ zwl a = 0 := by
  have h := zwl_eq a 0
  rw [show zwl 0 = 0 by rfl] at h
  exact h
theorem zw_lt0 (a : Int) : Int32.ofInt a < 0 ↔ zw a < 0 := by
  have h := zw_lt a 0
  rw [show zw 0 = 0 by rfl] at h
  exact h
theorem zw_gt0 (a : Int) : 0 < Int32.ofInt a ↔ 0 < zw a := by
  have h := zw_lt 0 a
  rw [show zw 0 = 0 by rfl] at h
  exact h
theorem zw_le0 (a : Int) : Int32.ofInt a ≤ 0 ↔ zw a ≤ 0 := by
  have h := zw_le a 0
  rw [show zw 0 = 0 by rfl] at h
  exact h
theorem zw_ge0 (a : Int) : 0 ≤ Int32.ofInt a ↔ 0 ≤ zw a := by
  have h := zw_le 0 a
  rw [show zw 0 = 0 by rfl] at h
  exact h
theorem zw_i2l (a : Int) : (Int32.ofInt a).toInt64 = Int64.ofInt (zw a) := by
  rw [← zw_of, Int32.toInt64_ofInt (by rw [zw_min]; exact zw_lo a) (by rw [zw_max]; exact zw_hi a)]
theorem zw_l2i (a : Int) : (Int64.ofInt a).toInt32 = Int32.ofInt a := Int64.toInt32_ofInt
theorem zwl_cmp (a b : Int) : lg_cmp (Int64.ofInt a) (Int64.ofInt b) = Int32.ofInt (if zwl a < zwl b then -1 else if zwl a = zwl b then 0 else 1) := by
  unfold lg_cmp
  by_cases h1 : zwl b < zwl a
  · rw [if_pos (show Int64.ofInt b < Int64.ofInt a from (zwl_lt b a).mpr h1), if_neg (by omega), if_neg (by omega)]
    rfl
  · rw [if_neg (show ¬ Int64.ofInt b < Int64.ofInt a from fun h => h1 ((zwl_lt b a).mp h))]
    by_cases h2 : zwl a = zwl b
    · rw [if_pos ((zwl_eq a b).mpr h2), if_neg (by omega), if_pos h2]
      rfl
    · rw [if_neg (fun h => h2 ((zwl_eq a b).mp h)), if_pos (by omega)]
      rfl
theorem zw_clamp (a : Int) : (Int32.ofInt a).toNatClampNeg = (zw a).toNat := by
  show (Int32.ofInt a).toInt.toNat = _
  rw [zw_toInt]
theorem zw_in {a : Int} {n : Nat} (h0 : 0 ≤ zw a) (h : (zw a).toNat < n) : vp_in (Int32.ofInt a) n := by
  unfold vp_in
  rw [zw_lt0, zw_clamp]
  omega
theorem zw_bip {n : Int} (h1 : -128 ≤ n) (h2 : n ≤ 127) : (Int8.ofInt n).toInt32 = Int32.ofInt n := Int8.toInt32_ofInt (by rw [show Int8.minValue.toInt = -128 by decide]; exact h1) (by rw [show Int8.maxValue.toInt = 127 by decide]; exact h2)
theorem zw_sip {n : Int} (h1 : -32768 ≤ n) (h2 : n ≤ 32767) : (Int16.ofInt n).toInt32 = Int32.ofInt n := Int16.toInt32_ofInt (by rw [show Int16.minValue.toInt = -32768 by decide]; exact h1) (by rw [show Int16.maxValue.toInt = 32767 by decide]; exact h2)
