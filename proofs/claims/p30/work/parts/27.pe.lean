/-! (of the class alone) -/
section PE
variable {EP LP : CS → (Nat → Nat) → Prop} {st : CS}
/-- the first i factors are cancelled -/
def cz (Z : Nat → Nat) (p q i : Nat) : Nat → Nat := fun k => if 8 * p ≤ k ∧ k < 8 * p + i then Z k - Z (8 * q + (k - 8 * p)) else if 8 * q ≤ k ∧ k < 8 * q + i then Z k - Z (8 * p + (k - 8 * q)) else Z k
theorem cz_le {Z : Nat → Nat} {p q i k : Nat} : cz Z p q i k ≤ Z k := by
  unfold cz
  repeat' split
  all_goals omega
theorem cz_0 {Z : Nat → Nat} {p q : Nat} (k : Nat) : cz Z p q 0 k = Z k := by
  unfold cz
  rw [if_neg (by omega), if_neg (by omega)]
theorem cz_p {Z : Nat → Nat} {p q i : Nat} (hi : i < 8) : cz Z p q i (8 * p + i) = Z (8 * p + i) := by
  unfold cz
  rw [if_neg (by omega), if_neg (by omega)]
theorem cz_q {Z : Nat → Nat} {p q i : Nat} (hi : i < 8) : cz Z p q i (8 * q + i) = Z (8 * q + i) := by
  unfold cz
  rw [if_neg (by omega), if_neg (by omega)]
theorem cz_s {Z : Nat → Nat} {p q i k : Nat} (hi : i < 8) : cz Z p q (i + 1) k = if k = 8 * q + i then Z (8 * q + i) - min (Z (8 * p + i)) (Z (8 * q + i)) else if k = 8 * p + i then Z (8 * p + i) - min (Z (8 * p + i)) (Z (8 * q + i)) else cz Z p q i k := by
  unfold cz
  by_cases e1 : k = 8 * q + i
  · subst e1
    rw [if_pos rfl]
    by_cases e : 8 * p ≤ 8 * q + i ∧ 8 * q + i < 8 * p + (i + 1)
    · rw [if_pos e]
      have : p = q := by omega
      subst this
      rw [show 8 * p + (8 * p + i - 8 * p) = 8 * p + i by omega]
      omega
    · rw [if_neg e, if_pos (by omega), show 8 * p + (8 * q + i - 8 * q) = 8 * p + i by omega]
      omega
  · rw [if_neg e1]
    by_cases e2 : k = 8 * p + i
    · subst e2
      rw [if_pos rfl, if_pos (by omega), show 8 * q + (8 * p + i - 8 * p) = 8 * q + i by omega]
      omega
    · rw [if_neg e2]
      by_cases a : 8 * p ≤ k ∧ k < 8 * p + i
      · rw [if_pos a, if_pos (by omega)]
      · rw [if_neg a, if_neg (by omega)]
        by_cases b : 8 * q ≤ k ∧ k < 8 * q + i
        · rw [if_pos b, if_pos (by omega)]
        · rw [if_neg b, if_neg (by omega)]
theorem cs_cs (st : CS) (a b : Nat → Int32) : c_state_s (c_state_s st a) b = c_state_s st b := rfl
def mn (Z : Nat → Nat) (p q i : Nat) : Nat := min (Z (8 * p + i)) (Z (8 * q + i))
theorem mn_l (Z : Nat → Nat) (p q i : Nat) : mn Z p q i ≤ Z (8 * p + i) := Nat.min_le_left _ _
theorem mn_r (Z : Nat → Nat) (p q i : Nat) : mn Z p q i ≤ Z (8 * q + i) := Nat.min_le_right _ _
theorem cancel_c {Z : Nat → Nat} {Y : CS} {p q : Nat} (hp : p < 3) (hq : q < 3) (hv : VZ Z) (h : CZ Y Z) : ∃ s, wh (f4_cancel_b19 (nI p) (nI q)) FU (Y, (0 : Int32), (0 : Int32)) = some (c_state_s Y s, nI (sm (mn Z p q) 8)) ∧ ∀ k, k < 26 → s k = nI (cz Z p q 8 k) := by
  have key : ∃ r, wh (f4_cancel_b19 (nI p) (nI q)) FU (Y, (0 : Int32), (0 : Int32)) = some r ∧ ∃ s, r = (c_state_s Y s, nI (sm (mn Z p q) 8)) ∧ ∀ k, k < 26 → s k = nI (cz Z p q 8 k) := by
    refine wh_inv 8 (by omega) (fun i z => ∃ s, z = (c_state_s Y s, nI (sm (mn Z p q) i), nI i) ∧ ∀ k, k < 26 → s k = nI (cz Z p q i k)) (fun r => ∃ s, r = (c_state_s Y s, nI (sm (mn Z p q) 8)) ∧ ∀ k, k < 26 → s k = nI (cz Z p q 8 k)) ⟨c_state Y, rfl, fun k hk => by rw [cz_0]; exact h k hk⟩ ?_ ?_
    · rintro i _ hi ⟨s, rfl, hs⟩
      refine Or.inl ⟨_, ?_, upd (upd s (8 * p + i) (nI (Z (8 * p + i) - mn Z p q i))) (8 * q + i) (nI (Z (8 * q + i) - mn Z p q i)), rfl, ?_⟩
      · unfold f4_cancel_b19
        simp only
        rw [if_neg (show ¬ (8 : Int32) ≤ nI i from lge 8 hi), e8', e8', if_pos (ib_n (by omega) (by omega)), if_pos (ib_n (by omega) (by omega)), tn (by omega), tn (by omega), lq_e, if_pos (ib_n (by omega) (by omega)), if_pos (ib_n (by omega) (by omega))]
        show some (Sum.inl (c_state_s (c_state_s (c_state_s Y s) (upd s (8 * p + i) (s (8 * p + i) - (if s (8 * q + i) < s (8 * p + i) then s (8 * q + i) else s (8 * p + i))))) (upd (upd s (8 * p + i) (s (8 * p + i) - (if s (8 * q + i) < s (8 * p + i) then s (8 * q + i) else s (8 * p + i)))) (8 * q + i) (s (8 * q + i) - (if s (8 * q + i) < s (8 * p + i) then s (8 * q + i) else s (8 * p + i)))), nI (sm (mn Z p q) i) + (if s (8 * q + i) < s (8 * p + i) then s (8 * q + i) else s (8 * p + i)), nI i + 1)) = _
        have ep : s (8 * p + i) = nI (Z (8 * p + i)) := by rw [hs _ (by omega), cz_p hi]
        have eq : s (8 * q + i) = nI (Z (8 * q + i)) := by rw [hs _ (by omega), cz_q hi]
        have em : (if s (8 * q + i) < s (8 * p + i) then s (8 * q + i) else s (8 * p + i)) = nI (mn Z p q i) := by
          have b1 := hv.le9 (k := 8 * p + i) (by omega)
          have b2 := hv.le9 (k := 8 * q + i) (by omega)
          rw [ep, eq]
          unfold mn
          by_cases c : Z (8 * q + i) < Z (8 * p + i)
          · rw [if_pos (nI_lt c (by omega)), Nat.min_eq_right (by omega)]
          · rw [if_neg (nI_nlt (by omega) (by omega)), Nat.min_eq_left (by omega)]
        rw [em, ep, eq, pk_sub (mn_l _ _ _ _), pk_sub (mn_r _ _ _ _), nI_add, nI_1, cs_cs, cs_cs]
        rfl
      · intro k hk
        rw [cz_s hi]
        unfold upd mn
        split
        · rfl
        · split
          · rfl
          · exact hs k hk
    · rintro _ ⟨s, rfl, hs⟩
      refine ⟨_, ?_, s, rfl, hs⟩
      unfold f4_cancel_b19
      exact if_pos (Int32.le_refl _)
  obtain ⟨r, h1, s, rfl, h3⟩ := key
  exact ⟨s, h1, h3⟩
end PE
