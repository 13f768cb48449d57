/-! ===== the bytes of a long ===== -/
def byI (w : Int) (k : Nat) : Int := zandl (zushrl w (8 * k)) 255
def shA (k : Nat) : UInt64 := (Int32.ofInt (8 * (k : Int))).toInt64.toUInt64 &&& Int64.toUInt64 63
theorem shA_ok : ∀ k : Nat, k < 8 → (shA k).toNat = 8 * k := by decide +kernel
theorem zush_sh (a : Int) (k : Nat) : zushrl a (8 * (k : Int)) = ((Int64.ofInt a).toUInt64 >>> shA k).toInt64.toInt := rfl
theorem zush_of (a : Int) (k : Nat) : (Int64.ofInt (zushrl a (8 * (k : Int)))).toUInt64 = (Int64.ofInt a).toUInt64 >>> shA k := by
  rw [zush_sh, Int64.ofInt_toInt, UInt64.toUInt64_toInt64]
theorem zush_s (a : Int) {k : Nat} (hk : k < 7) : zushrl (zushrl a (8 * (k : Int))) 8 = zushrl a (8 * ((k + 1 : Nat) : Int)) := by
  have h1 := zush_sh (zushrl a (8 * (k : Int))) 1
  have h2 : (8 * ((1 : Nat) : Int)) = 8 := rfl
  rw [h2] at h1
  rw [h1, zush_of, zush_sh]
  congr 2
  apply UInt64.toNat_inj.mp
  rw [UInt64.toNat_shiftRight, UInt64.toNat_shiftRight, UInt64.toNat_shiftRight, shA_ok 1 (by omega), shA_ok k (by omega), shA_ok (k + 1) (by omega), Nat.mod_eq_of_lt (by omega), Nat.mod_eq_of_lt (by omega), Nat.mod_eq_of_lt (by omega), ← Nat.shiftRight_add]
  congr 1
theorem zandl_rg (a : Int) : 0 ≤ zandl a 255 ∧ zandl a 255 ≤ 255 := by
  unfold zandl
  have h : (Int64.ofInt a &&& Int64.ofInt 255).toBitVec.toNat ≤ 255 := by
    rw [Int64.toBitVec_and, BitVec.toNat_and]
    exact Nat.and_le_right
  have h2 : (Int64.ofInt a &&& Int64.ofInt 255).toInt = ((Int64.ofInt a &&& Int64.ofInt 255).toBitVec.toNat : Int) := by
    show (Int64.ofInt a &&& Int64.ofInt 255).toBitVec.toInt = _
    exact BitVec.toInt_eq_toNat_of_lt (by omega)
  rw [h2]
  omega
theorem zush_0 (a : Int) : zandl (zushrl a 0) 255 = zandl a 255 := by
  have h := zush_of a 0
  have h0 : (8 * ((0 : Nat) : Int)) = 0 := rfl
  have hs : shA 0 = 0 := by decide
  rw [h0, hs, UInt64.shiftRight_zero] at h
  have h3 : Int64.ofInt (zushrl a 0) = Int64.ofInt a := by
    have := congrArg UInt64.toInt64 h
    rw [Int64.toInt64_toUInt64, Int64.toInt64_toUInt64] at this
    exact this
  unfold zandl
  rw [h3]
