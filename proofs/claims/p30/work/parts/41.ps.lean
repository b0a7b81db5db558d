/-! (of the class alone) -/
section PS
variable {LP : CS → (Nat → Nat) → Prop} {st : CS}
end PS
/-- the sum over the supports that miss E -/
def AE (x : Nat → Nat) (E : Nat) : Nat := sm (fun t => if t &&& E = 0 then x t else 0) 16
theorem sm16 (f : Nat → Nat) : sm f 16 = f 0 + f 1 + f 2 + f 3 + f 4 + f 5 + f 6 + f 7 + f 8 + f 9 + f 10 + f 11 + f 12 + f 13 + f 14 + f 15 := by
  simp only [sm]
  omega
theorem V_sum (x : Nat → Nat) : ∀ t, t < 16 → V x 4 t = sm (fun s => if s &&& t = s then x s else 0) 16 := by
  intro t ht
  rw [sm16]
  rcases (show t = 0 ∨ t = 1 ∨ t = 2 ∨ t = 3 ∨ t = 4 ∨ t = 5 ∨ t = 6 ∨ t = 7 ∨ t = 8 ∨ t = 9 ∨ t = 10 ∨ t = 11 ∨ t = 12 ∨ t = 13 ∨ t = 14 ∨ t = 15 by omega) with rfl | rfl | rfl | rfl | rfl | rfl | rfl | rfl | rfl | rfl | rfl | rfl | rfl | rfl | rfl | rfl
  all_goals
    simp [V]
    try omega
theorem in_miss : ∀ U, U < 16 → ∀ E, E < 16 → ∀ s, s < 16 → s &&& U = s → (s &&& (U &&& (15 - E)) = s ↔ s &&& E = 0) := by decide +kernel
/-- within the variables outside of E -/
theorem V_AE {x : Nat → Nat} {U E : Nat} (hU : U < 16) (hE : E < 16) (hx : ∀ t, t < 16 → ¬ t &&& U = t → x t = 0) : V x 4 (U &&& (15 - E)) = AE x E := by
  have h : U &&& (15 - E) < 16 := (and16 U hU (15 - E) (by omega)).2
  rw [V_sum x _ h, AE]
  refine sm_congr (fun s hs => ?_)
  by_cases q : s &&& U = s
  · have := in_miss U hU E hE s hs q
    by_cases e : s &&& E = 0
    · rw [if_pos (this.mpr e), if_pos e]
    · rw [if_neg (fun z => e (this.mp z)), if_neg e]
  · rw [hx s hs q]
    split <;> split <;> rfl
