/-! (of the class alone) -/
theorem one_ne : ¬ (1 : Int32) = 0 := by decide +kernel
section QG
variable {LP : CS → (Nat → Nat) → Prop} {st : CS} {Z : Nat → Nat}
end QG
