/-! How many matchers there are, by sets: the model's sum. -/
theorem setin : ∀ U, U < 16 → ∀ E, E < 16 → ((nI E &&& (nI U ^^^ (-1 : Int32))) = (0 : Int32) ↔ (E &&& U = E ∧ E &&& 0 = 0)) := by decide +kernel
theorem ones_sg : ∀ E, E < 16 → (((f5_ones (nI E)) - (f5_ones (nI E)) / (2 : Int32) * (2 : Int32)) = (0 : Int32) ↔ sg E = 1) ∧ (sg E = 1 ∨ sg E = -1) := by decide +kernel
theorem ie_0 (x : Nat → Nat → Nat) : PE x 0 4 = ((Wk x (yM 0) 4 0 : Nat) : Int) := by
  rw [ie x (P := 0) (by omega) 4 0 (by omega)]
  have h : sz (fun E => if E &&& 0 = E ∧ E &&& 0 = 0 then sg E * PE x E 4 else 0) 16 = sz (fun E => if E = 0 then PE x 0 4 else 0) 16 := by
    refine sz_congr (fun E _ => ?_)
    by_cases q : E = 0
    · subst q
      rw [if_pos (by simp), if_pos rfl, show sg 0 = 1 by decide +kernel, Int.one_mul]
    · rw [if_neg (fun z => q (by simpa using z.1.symm)), if_neg q]
  rw [h]
  simp [sz]
section PW
variable {ms : MS} {Z : Nat → Nat}
theorem sets_m (hM : MZ ms Z) (hv : VZ Z) {x : Nat → Nat → Nat} (hB : ∀ p, p < 4 → ∀ u, u < 16 → m_bySupport ms (16 * p + u) = nI (x p u)) (hx : ∀ p, p < 4 → ∀ u, u < 16 → x p u ≤ 700) : wh (f5_matchersBySets_b27 ms) FU ((0 : Int64), (0 : Int32)) = some (lN (Wk x (yM (US Z)) 4 0)) := by
  have hU := US_lt Z
  rw [lN_lI, ie x hU 4 0 (by omega)]
  refine wh_for' 16 (by omega) (fun i => (Int64.ofInt (sz (fun E => if E &&& US Z = E ∧ E &&& 0 = 0 then sg E * PE x E 4 else 0) i), nI i)) rfl (fun i hi => ?_) ?_
  · obtain ⟨o1, o2⟩ := ones_sg i hi
    have hs := setin _ hU i hi
    unfold f5_matchersBySets_b27
    simp only
    rw [if_neg (show ¬ (16 : Int32) ≤ nI i from lge 16 hi), mask_m hM hv, bi1_s, withEmpty_m hi hB hx, bi1_s, bi1_s, nI_1]
    by_cases q : i &&& US Z = i ∧ i &&& 0 = 0
    · rw [if_pos (hs.mpr q), sz, if_pos q]
      by_cases o : sg i = 1
      · rw [if_pos (o1.mpr o), lI_add, o, Int.one_mul]
      · rw [if_neg (fun z => o (o1.mp z)), lI_neg, lI_add, o2.resolve_left o, Int.neg_mul, Int.one_mul]
    · rw [if_neg (fun z => q (hs.mp z)), sz, if_neg q, Int.add_zero]
  · unfold f5_matchersBySets_b27
    exact if_pos (Int32.le_refl _)
theorem bySets_m (hM : MZ ms Z) (hv : VZ Z) : ∃ s, f5_matchersBySets ms = some (s, lN (Wk (xs Z) (yM (PT Z)) 4 0)) ∧ msame ms s ∧ m_thrown s = m_thrown ms ∧ m_hash s = m_hash ms := by
  have h9 := hv.le9 (k := 24) (by omega)
  obtain ⟨s, k1, k2⟩ := listAll_m hM hv (rq_ok hv)
  have hM' := k2.mz hM
  obtain ⟨L, N, B, rfl, k3⟩ := k2
  have hB : ∀ p, p < 4 → ∀ u, u < 16 → m_bySupport (LM ms L N B) (16 * p + u) = nI (xs Z p u) := fun p hp u hu => by
    have := (k3 p hp).2.2 u hu
    simp only [rq_0 hp] at this
    exact this
  have hx : ∀ p, p < 4 → ∀ u, u < 16 → xs Z p u ≤ 700 := fun p hp u _ => by have := xs_le hv hp u; omega
  refine ⟨LM ms L N B, ?_, LM_msame _ _ _ _, rfl, rfl⟩
  unfold f5_matchersBySets
  rw [k1, bi1_s, show m_z (LM ms L N B) (24 : Int32).toNatClampNeg = nI (Z 24) from hM 24 (by omega)]
  by_cases q : Z 24 = 1
  · rw [q, if_pos (show nI 1 = (1 : Int32) from rfl), show f5_withEmpty (LM ms L N B) 0 = _ from withEmpty_m (E := 0) (by omega) hB hx, bi1_s, ie_0, PT, if_pos q]
    rfl
  · rw [if_neg (show ¬ nI (Z 24) = (1 : Int32) from fun z => q ((nI_eq (a := Z 24) (b := 1) (by omega) (by omega)).mp z)), sets_m hM' hv hB hx, bi1_s, PT, if_neg q]
end PW
