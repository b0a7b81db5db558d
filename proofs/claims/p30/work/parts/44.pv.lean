/-! (of the class alone) -/
theorem lI_add (a b : Int) : Int64.ofInt a + Int64.ofInt b = Int64.ofInt (a + b) := (Int64.ofInt_add a b).symm
theorem lI_neg (a : Int) : -Int64.ofInt a = Int64.ofInt (-a) := (Int64.ofInt_neg a).symm
theorem lN_lI (n : Nat) : lN n = Int64.ofInt (n : Int) := rfl
/-- the product of the first n places' sums -/
def pr (x : Nat → Nat → Nat) (E : Nat) : Nat → Nat
  | 0 => 1
  | n + 1 => pr x E n * AE (x n) E
theorem pr4 (x : Nat → Nat → Nat) (E : Nat) : ((pr x E 4 : Nat) : Int) = PE x E 4 := by
  simp only [pr, PE, Int.natCast_mul, Int.mul_assoc, Int.mul_one]
  rw [show ((1 : Nat) : Int) = 1 from rfl, Int.one_mul]
theorem AE_le {x : Nat → Nat} {E c : Nat} (h : ∀ t, t < 16 → x t ≤ c) : AE x E ≤ 16 * c := sm_le (fun t ht => by
  split
  · exact h t ht
  · exact Nat.zero_le _)
section PV
variable {Z : Nat → Nat}
end PV
