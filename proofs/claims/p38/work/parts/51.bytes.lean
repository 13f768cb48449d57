/-! ===== the bytes of a long ===== -/
def byI (w : Int) (k : Nat) : Int := zandl (zushrl w (8 * k)) 255
theorem zandl_rg (a : Int) : 0 ≤ zandl a 255 ∧ zandl a 255 ≤ 255 := by
  unfold zandl
  have h : (Int64.ofInt a &&& Int64.ofInt 255).toBitVec.toNat ≤ 255 := by
    rw [Int64.toBitVec_and, BitVec.toNat_and]
    exact Nat.and_le_right
  have h2 : (Int64.ofInt a &&& Int64.ofInt 255).toInt = ((Int64.ofInt a &&& Int64.ofInt 255).toBitVec.toNat : Int) := by
    show (Int64.ofInt a &&& Int64.ofInt 255).toBitVec.toInt = _
    exact BitVec.toInt_eq_toNat_of_lt (by omega)
  rw [h2]
  omega
