/-! (of the class alone) -/
theorem fa_ne1 : ∀ f, f < 8 → ¬ nI f = (-1 : Int32) := by decide +kernel
section PG
variable {EP LP : CS → (Nat → Nat) → Prop} {st : CS}
end PG
