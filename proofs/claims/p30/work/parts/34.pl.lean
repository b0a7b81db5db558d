/-! (of the class alone) -/
section PL
variable {Z : Nat → Nat}
theorem bit_m {x k : Nat} (hx : x < 2 ^ 31) : (if nI x ≤ (0 : Int32) then (0 : Int32) else nI k) = nI (if x = 0 then 0 else k) := by
  by_cases q : x = 0
  · rw [q, if_pos (show nI 0 ≤ (0 : Int32) from Int32.le_refl _), if_pos rfl]
    rfl
  · rw [if_neg (nI_nle (by omega) hx), if_neg q]
end PL
