/-! (of the class alone) -/
theorem sg_pm : ∀ E, E < 16 → sg E = 1 ∨ sg E = -1 := by decide +kernel
theorem cmpl : ∀ U, U < 16 → ∀ E, E < 16 → (nI U &&& (nI E ^^^ (-1 : Int32))) = nI (U &&& (15 - E)) ∧ U &&& (15 - E) < 16 ∧ ((nI E &&& nI U) = nI E ↔ (E &&& U = E ∧ E &&& 0 = 0)) := by decide +kernel
theorem bitc_sg : ∀ E, E < 16 → (((fJ_bitCount (nI E)) - (fJ_bitCount (nI E)) / (2 : Int32) * (2 : Int32)) = (0 : Int32) ↔ sg E = 1) := by decide +kernel
theorem only0 : ∀ E, E < 16 → (nI E = (0 : Int32) ↔ (E &&& 0 = E ∧ E &&& 0 = 0)) := by decide +kernel
section PX
variable {s : CS} {Z : Nat → Nat}
theorem prod_c {x : Nat → Nat → Nat} {q2 q3 : Int32} (hu : c_used s = nI (US Z)) (hw : ∀ p, p < 4 → ∃ p', p' < 5 ∧ (if nI p = q2 then q3 else nI p) = nI p' ∧ ∀ t, t < 16 → c_within s p' t = lN (V (x p) 4 t)) (hx : ∀ p, p < 4 → ∀ t, t < 16 → ¬ t &&& US Z = t → x p t = 0) {E : Nat} (hE : E < 16) (a : Int64) : wh (f0_bySetsWith_b62 s q2 q3 a (nI E)) FU ((1 : Int64), (0 : Int32)) = some (Int64.ofInt (PE x E 4)) := by
  rw [← pr4, ← lN_lI]
  have hU := US_lt Z
  obtain ⟨c1, c2, _⟩ := cmpl _ hU E hE
  refine wh_for' 4 (by omega) (fun i => (lN (pr x E i), nI i)) rfl (fun i hi => ?_) ?_
  · obtain ⟨p', w1, w2, w3⟩ := hw i hi
    unfold f0_bySetsWith_b62
    simp only
    rw [if_neg (show ¬ (4 : Int32) ≤ nI i from lge 4 hi), w2, hu, c1, if_pos (ib_n w1 (by omega)), if_pos (ib_n c2 (by omega)), lq_e, tn (by omega), tn (by omega), w3 _ c2, V_AE hU hE (hx i hi), lN_mul, nI_1]
    rfl
  · unfold f0_bySetsWith_b62
    exact if_pos (Int32.le_refl _)
theorem sets_c {x : Nat → Nat → Nat} {q2 q3 : Int32} (hu : c_used s = nI (US Z)) (he : c_canBeEmpty s = if Z 24 = 1 then 1 else 0) (hw : ∀ p, p < 4 → ∃ p', p' < 5 ∧ (if nI p = q2 then q3 else nI p) = nI p' ∧ ∀ t, t < 16 → c_within s p' t = lN (V (x p) 4 t)) (hx : ∀ p, p < 4 → ∀ t, t < 16 → ¬ t &&& US Z = t → x p t = 0) : f0_bySetsWith s q2 q3 = some (lN (Wk x (yM (PT Z)) 4 0)) := by
  have hU := US_lt Z
  have h1 : wh (f0_bySetsWith_b5 s q2 q3) FU ((0 : Int64), (0 : Int32)) = some (lN (Wk x (yM (PT Z)) 4 0)) := by
    rw [lN_lI, ie x (PT_lt Z) 4 0 (by omega)]
    refine wh_for' 16 (by omega) (fun i => (Int64.ofInt (sz (fun E => if E &&& PT Z = E ∧ E &&& 0 = 0 then sg E * PE x E 4 else 0) i), nI i)) rfl (fun i hi => ?_) ?_
    · obtain ⟨c1, c2, c3⟩ := cmpl _ hU i hi
      have o2 := sg_pm i hi
      have o1 := bitc_sg i hi
      have key1 : i &&& PT Z = i ∧ i &&& 0 = 0 → ∀ a, f0_bySetsWith_j49 s q2 q3 a (nI i) 1 = some (.inl (a + Int64.ofInt (sg i * PE x i 4), nI (i + 1))) := by
        intro _ a
        unfold f0_bySetsWith_j49
        rw [if_neg (show ¬ (1 : Int32) = 0 by decide +kernel), prod_c hu hw hx hi, bi1_s, nI_1]
        by_cases o : sg i = 1
        · rw [if_pos (o1.mpr o), o, Int.one_mul]
        · rw [if_neg (fun z => o (o1.mp z)), lI_neg, o2.resolve_left o, Int.neg_mul, Int.one_mul]
      have key0 : ∀ a, f0_bySetsWith_j49 s q2 q3 a (nI i) 0 = some (.inl (a, nI (i + 1))) := by
        intro a
        unfold f0_bySetsWith_j49
        rw [if_pos rfl, nI_1]
      unfold f0_bySetsWith_b5
      simp only
      rw [if_neg (show ¬ (16 : Int32) ≤ nI i from lge 16 hi), he, hu]
      by_cases z : Z 24 = 1
      · have eP : PT Z = 0 := if_pos z
        rw [eP] at key1 ⊢
        rw [if_pos z, if_neg (show ¬ (1 : Int32) = 0 by decide +kernel)]
        have h0 := only0 i hi
        by_cases q : i &&& 0 = i ∧ i &&& 0 = 0
        · rw [if_pos (h0.mpr q), key1 q, sz, if_pos q, lI_add]
        · rw [if_neg (fun w => q (h0.mp w)), key0, sz, if_neg q, Int.add_zero]
      · have eP : PT Z = US Z := if_neg z
        rw [eP] at key1 ⊢
        rw [if_neg z, if_pos rfl]
        by_cases q : i &&& US Z = i ∧ i &&& 0 = 0
        · rw [if_pos (c3.mpr q), key1 q, sz, if_pos q, lI_add]
        · rw [if_neg (fun w => q (c3.mp w)), key0, sz, if_neg q, Int.add_zero]
    · unfold f0_bySetsWith_b5
      exact if_pos (Int32.le_refl _)
  unfold f0_bySetsWith
  rw [h1, bi1_s]
end PX
