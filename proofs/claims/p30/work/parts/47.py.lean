/-! (of the class alone) -/
section PY
variable {LP : CS → (Nat → Nat) → Prop} {st : CS}
theorem ne4 : ∀ p, p < 4 → ¬ nI p = (4 : Int32) := by decide +kernel
theorem bySets_c {s : CS} {Z : Nat → Nat} (hv : VZ Z) (h : EPt s Z) : f0_bySets s = some (lN (Wk (xs Z) (yM (PT Z)) 4 0)) := by
  unfold f0_bySets
  rw [sets_c (x := xs Z) h.2.1 h.2.2.1 (fun p hp => ⟨p, by omega, if_neg (ne4 p hp), (h.2.2.2.1 p hp).2.2.2⟩) (xs_out hv), bi1_s]
end PY
