/-! How many matchers there are, by sets: the model. -/
theorem lI_add (a b : Int) : Int64.ofInt a + Int64.ofInt b = Int64.ofInt (a + b) := (Int64.ofInt_add a b).symm
theorem lI_neg (a : Int) : -Int64.ofInt a = Int64.ofInt (-a) := (Int64.ofInt_neg a).symm
theorem lN_lI (n : Nat) : lN n = Int64.ofInt (n : Int) := rfl
/-- the product of the first n places' sums -/
def pr (x : Nat → Nat → Nat) (E : Nat) : Nat → Nat
  | 0 => 1
  | n + 1 => pr x E n * AE (x n) E
theorem pr4 (x : Nat → Nat → Nat) (E : Nat) : ((pr x E 4 : Nat) : Int) = PE x E 4 := by
  simp only [pr, PE, Int.natCast_mul, Int.mul_assoc, Int.mul_one]
  rw [show ((1 : Nat) : Int) = 1 from rfl, Int.one_mul]
theorem AE_le {x : Nat → Nat} {E c : Nat} (h : ∀ t, t < 16 → x t ≤ c) : AE x E ≤ 16 * c := sm_le (fun t ht => by
  split
  · exact h t ht
  · exact Nat.zero_le _)
section PV
variable {ms : MS} {Z : Nat → Nat}
theorem miss_m {x : Nat → Nat} {E p : Nat} (hE : E < 16) (hp : p < 4) (q10 : Int64) (hB : ∀ u, u < 16 → m_bySupport ms (16 * p + u) = nI (x u)) : wh (f5_withEmpty_b17 ms (nI E) q10 (nI p)) FU ((0 : Int32), (0 : Int32)) = some (nI (AE x E)) := by
  refine wh_for' 16 (by omega) (fun i => (nI (sm (fun t => if t &&& E = 0 then x t else 0) i), nI i)) rfl (fun i hi => ?_) ?_
  · obtain ⟨a1, a2⟩ := and16 i hi E hE
    unfold f5_withEmpty_b17
    simp only
    rw [if_neg (show ¬ (16 : Int32) ≤ nI i from lge 16 hi), a1, nI_1]
    by_cases q : i &&& E = 0
    · rw [q, if_pos (show nI 0 = (0 : Int32) from rfl), show (16 : Int32) * nI p + nI i = nI (16 * p + i) from emk 16 p i rfl, if_pos (ib_n (by omega) (by omega)), tn (by omega), hB i hi, lq_e, nI_add, sm, if_pos q]
    · rw [if_neg (show ¬ nI (i &&& E) = (0 : Int32) from fun z => q ((nI_eq (a := i &&& E) (b := 0) (by omega) (by omega)).mp z)), sm, if_neg q]
      show some (Sum.inl (nI _ + nI 0, _)) = _
      rw [nI_add]
  · unfold f5_withEmpty_b17
    exact if_pos (Int32.le_refl _)
theorem withEmpty_m {x : Nat → Nat → Nat} {E : Nat} (hE : E < 16) (hB : ∀ p, p < 4 → ∀ u, u < 16 → m_bySupport ms (16 * p + u) = nI (x p u)) (hx : ∀ p, p < 4 → ∀ u, u < 16 → x p u ≤ 700) : f5_withEmpty ms (nI E) = some (Int64.ofInt (PE x E 4)) := by
  have h1 : wh (f5_withEmpty_b5 ms (nI E)) FU ((1 : Int64), (0 : Int32)) = some (lN (pr x E 4)) := by
    refine wh_for' 4 (by omega) (fun i => (lN (pr x E i), nI i)) rfl (fun i hi => ?_) ?_
    · have hA := AE_le (E := E) (hx i hi)
      unfold f5_withEmpty_b5
      simp only
      rw [if_neg (show ¬ (4 : Int32) ≤ nI i from lge 4 hi), miss_m hE hi _ (hB i hi), bi1_s, nI_l (by omega), lN_mul, nI_1]
      rfl
    · unfold f5_withEmpty_b5
      exact if_pos (Int32.le_refl _)
  unfold f5_withEmpty
  rw [h1, bi1_s, lN_lI, pr4]
end PV
