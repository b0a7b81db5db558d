/-! (of the class alone) -/
section PP
variable {Z : Nat → Nat}
theorem and16 : ∀ a, a < 16 → ∀ b, b < 16 → nI a &&& nI b = nI (a &&& b) ∧ a &&& b < 16 := by decide +kernel
theorem or16b : ∀ a, a < 16 → ∀ b, b < 16 → nI a ||| nI b = nI (a ||| b) := by decide +kernel
/-- the way downward: 3, 2, 1, 0, -1 -/
def dn (i : Nat) : Int32 := if i < 4 then nI (3 - i) else -1
theorem dn_s : ∀ i, i < 4 → dn i + (-1) = dn (i + 1) ∧ ¬ dn i < 0 ∧ dn i = nI (3 - i) := by decide +kernel
/-- what the ways must reach -/
def yM (P : Nat) : Nat → Nat := fun s => if s &&& P = P then 1 else 0
/-- the pattern that the ways must reach -/
def PT (Z : Nat → Nat) : Nat := if Z 24 = 1 then 0 else US Z
theorem PT_lt (Z : Nat → Nat) : PT Z < 16 := by
  unfold PT
  split
  · omega
  · exact US_lt Z
end PP
