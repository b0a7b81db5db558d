/-! (of the class alone) -/
theorem setin : ∀ U, U < 16 → ∀ E, E < 16 → ((nI E &&& (nI U ^^^ (-1 : Int32))) = (0 : Int32) ↔ (E &&& U = E ∧ E &&& 0 = 0)) := by decide +kernel
theorem ie_0 (x : Nat → Nat → Nat) : PE x 0 4 = ((Wk x (yM 0) 4 0 : Nat) : Int) := by
  rw [ie x (P := 0) (by omega) 4 0 (by omega)]
  have h : sz (fun E => if E &&& 0 = E ∧ E &&& 0 = 0 then sg E * PE x E 4 else 0) 16 = sz (fun E => if E = 0 then PE x 0 4 else 0) 16 := by
    refine sz_congr (fun E _ => ?_)
    by_cases q : E = 0
    · subst q
      rw [if_pos (by simp), if_pos rfl, show sg 0 = 1 by decide +kernel, Int.one_mul]
    · rw [if_neg (fun z => q (by simpa using z.1.symm)), if_neg q]
  rw [h]
  simp [sz]
section PW
variable {Z : Nat → Nat}
end PW
