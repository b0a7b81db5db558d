/-! The open share: the numbers. -/
/-- a share -/
def shr (t n : Nat) : UInt64 := FP.ddiv (FP.i2d (nI t)) (FP.i2d (nI n))
theorem shr_nn : ∀ n, n < 37 → 0 < n → ∀ t, t ≤ n → nn (shr t n) = true := by decide +kernel
theorem shr_cmp : ∀ n, n < 37 → 0 < n → ∀ t, t ≤ n → Op.cmpValue (FP.dcmp (shr t n) (shr t n)) CmpOp.l = 0 := by decide +kernel
theorem shr_bits : ∀ n, n < 37 → 0 < n → ∀ t, t ≤ n → f4_bitsOfShare (shr t n) = some (shr t n).toInt64 := by decide +kernel
theorem zero_cmp : Op.cmpValue (FP.dcmp FP.dconst0 FP.dconst0) CmpOp.l = 0 := by decide +kernel
theorem zero_bits : f4_bitsOfShare FP.dconst0 = some FP.dconst0.toInt64 := by decide +kernel
