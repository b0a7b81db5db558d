/-! (of the class alone) -/
section PC
variable {EP LP : CS → (Nat → Nat) → Prop} {st : CS}
/-- what the rest of a constant is -/
def rs (Z : Nat → Nat) (c : Nat) : Int32 := nI (Z (16 + c)) - nI (Z c)
theorem rs_c {Z : Nat → Nat} (h : CZ st Z) {c : Nat} (hc : c < 4) : f4_restOf st (nI c) = some (rs Z c) := by
  unfold f4_restOf
  rw [show (16 : Int32) + nI c = nI (16 + c) from nI_add 16 c, show (0 : Int32) + nI c = nI (0 + c) from nI_add 0 c, if_pos (ib_n (by omega) (by omega)), if_pos (ib_n (by omega) (by omega)), tn (by omega), tn (by omega), h _ (by omega), h _ (by omega), Nat.zero_add]
  rfl
end PC
