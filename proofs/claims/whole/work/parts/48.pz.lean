/-! ifMore. -/
section PZ
variable {LP : CS → (Nat → Nat) → Prop} {st : CS} {ms : MS}
theorem rest_d : ∀ a, a < 10 → ∀ b, b < 10 → ∀ k, k < 19 → (nI a - nI b + (nI k - 9)) < (0 : Int32) ∨ ∃ r, r < 19 ∧ nI a - nI b + (nI k - 9) = nI r := by decide +kernel
theorem rq_d {Z : Nat → Nat} (hv : VZ Z) {c k : Nat} (hk : k < 19) : ∀ p, p < 4 → (rq Z (nI c) (nI k - 9) p < 0 ∨ ∃ r, r < 1000 ∧ rq Z (nI c) (nI k - 9) p = nI r) ∧ (SL Z (rq Z (nI c) (nI k - 9) p)).length < 701 := by
  intro p hp
  have b1 := hv.le9 (k := 16 + p) (by omega)
  have b2 := hv.le9 (k := p) (by omega)
  have key : rq Z (nI c) (nI k - 9) p < 0 ∨ ∃ r, r < 19 ∧ rq Z (nI c) (nI k - 9) p = nI r := by
    unfold rq
    by_cases q : nI p = nI c
    · rw [if_pos q]
      exact rest_d _ (by omega) _ (by omega) k hk
    · rw [if_neg q, show rs Z p + 0 = rs Z p from Int32.add_zero _]
      rcases rs_9 hv hp with z | ⟨r, z, e⟩
      · exact Or.inl z
      · exact Or.inr ⟨r, by omega, e⟩
  rcases key with z | ⟨r, z, e⟩
  · refine ⟨Or.inl z, ?_⟩
    unfold SL
    rw [if_pos z]
    exact Nat.succ_le_succ (Nat.zero_le _)
  · refine ⟨Or.inr ⟨r, by omega, e⟩, ?_⟩
    rw [e]
    have := SL_le hv z
    split at this <;> omega
end PZ
