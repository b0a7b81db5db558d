/-! (of the class alone) -/
section PU
variable {Z : Nat → Nat}
theorem and_eq : ∀ U, U < 16 → ∀ s, s < 16 → s &&& U = s → (s &&& U = U ↔ s = U) := by decide +kernel
theorem yMC (Z : Nat → Nat) : ∀ s, s < 16 → s &&& US Z = s → yM (PT Z) s = yC Z s := by
  intro s hs h
  have hU := US_lt Z
  unfold yM yC PT
  by_cases q : Z 24 = 1
  · rw [if_pos q, if_pos q, if_pos (by simp)]
  · rw [if_neg q, if_neg q]
    have e := and_eq _ hU s hs h
    by_cases z : s = US Z
    · rw [if_pos (e.mpr z), if_pos z]
    · rw [if_neg (fun w => z (e.mp w)), if_neg z]
theorem xs_out (hv : VZ Z) : ∀ p, p < 4 → ∀ t, t < 16 → ¬ t &&& US Z = t → xs Z p t = 0 := fun p _ t _ h => cnt_out (fun e he => mk_in hv he) h
theorem xs_le (hv : VZ Z) {p : Nat} (hp : p < 4) (t : Nat) : xs Z p t ≤ 220 := Nat.le_trans (cnt_le _ _) (SL_220 hv hp)
theorem zero_in : ∀ U, U < 16 → (0 : Nat) &&& U = 0 := by decide +kernel
/-- the ways from a set of the pattern's variables: the class's and the model's -/
theorem Wk_MC (hv : VZ Z) {n s : Nat} (hn : n ≤ 4) (hs : s < 16) (h : s &&& US Z = s) : Wk (xs Z) (yM (PT Z)) n s = Wk (xs Z) (yC Z) n s := Wk_eq (US_lt Z) (xs_out hv) (yMC Z) n hn s hs h
theorem byConstants_c {s : CS} (hv : VZ Z) (h : EPt s Z) : f0_byConstants s = some (lN (Wk (xs Z) (yM (PT Z)) 4 0)) := by
  unfold f0_byConstants
  rw [Wk_MC hv (by omega) (by omega) (zero_in _ (US_lt Z))]
  exact congrArg some (h.2.2.2.2 4 (by omega) 0 (by omega))
end PU
