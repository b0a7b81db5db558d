/-! The law counts the matchers by sets. -/
theorem bitv : ∀ v, v < 4 → ∀ E, E < 16 → ((nI E >>> (nI v &&& 31)) &&& (1 : Int32)) = nI (E / 2 ^ v % 2) := by decide +kernel
def pb (E : Nat) (i : Nat) : Nat := sm (fun v => E / 2 ^ v % 2) i
theorem pb_sg : ∀ E, E < 16 → (pb E 4 % 2 = 0 ↔ sg E = 1) ∧ pb E 4 < 5 := by decide +kernel
section MT
variable {Z : Nat → Nat} {pa n : Nat → Int32}
theorem mask_l (hP : PA pa Z) (hv : VZ Z) : wh (fL_matchers_b4 (pa, n)) FU ((0 : Int32), (0 : Int32)) = some (nI (US Z)) := by
  refine wh_for' 4 (by omega) (fun i => (nI (sm (fun f => if Z (4 + f) = 0 then 0 else 2 ^ f) i), nI i)) rfl (fun i hi => ?_) ?_
  · unfold fL_matchers_b4
    simp only
    have h2 := orbit i hi _ (sm_bit (fun f => Z (4 + f)) i) (decide (Z (4 + i) = 0))
    have hb := hv.w hi
    rw [if_neg (show ¬ (4 : Int32) ≤ nI i from lge 4 hi), show (4 : Int32) + nI i = nI (4 + i) from nI_add 4 i, if_pos (ib_n (by omega) (by omega)), tn (by omega), show n_pr (pa, n) (4 + i) = _ from hP _ (by omega), nI_1]
    by_cases q : Z (4 + i) = 0
    · rw [q, if_pos (show nI 0 ≤ (0 : Int32) from Int32.le_refl _), sm, if_pos q]
      rfl
    · rw [if_neg (nI_nle (by omega) (by omega))]
      simp only [q, decide_false, if_false, Bool.false_eq_true] at h2
      rw [h2, sm, if_neg q]
  · unfold fL_matchers_b4
    exact if_pos (Int32.le_refl _)
theorem odd_l {E : Nat} (hE : E < 16) (p : Int32) (a b : Int64) : wh (fL_matchers_b74 (pa, n) p a (nI E) b) FU ((0 : Int32), (0 : Int32)) = some (nI (pb E 4)) := by
  refine wh_for' 4 (by omega) (fun i => (nI (pb E i), nI i)) rfl (fun i hi => ?_) ?_
  · unfold fL_matchers_b74
    simp only
    rw [if_neg (show ¬ (4 : Int32) ≤ nI i from lge 4 hi), bitv i hi E hE, nI_add, nI_1]
    rfl
  · unfold fL_matchers_b74
    exact if_pos (Int32.le_refl _)
theorem prod_l (hP : PA pa Z) (hv : VZ Z) (hn : n 1 = nI (Z 25)) {E : Nat} (hE : E < 16) (p : Int32) (a : Int64) (o : Int32) : wh (fL_matchers_b101 (pa, n) p a (nI E) o) FU ((1 : Int64), (0 : Int32)) = some (Int64.ofInt (PE (xs Z) E 4)) := by
  rw [← pr4, ← lN_lI]
  refine wh_for' 4 (by omega) (fun i => (lN (pr (xs Z) E i), nI i)) rfl (fun i hi => ?_) ?_
  · have hA := AE_le (x := xs Z i) (E := E) (c := 220) (fun t _ => xs_le hv hi t)
    unfold fL_matchers_b101
    simp only
    rw [if_neg (show ¬ (4 : Int32) ≤ nI i from lge 4 hi), sol_l hP hv hn hE hi, bi1_s, nI_l (by omega), lN_mul, nI_1]
    rfl
  · unfold fL_matchers_b101
    exact if_pos (Int32.le_refl _)
theorem mat_l (hP : PA pa Z) (hv : VZ Z) (h0 : n 0 = nI (Z 24)) (hn : n 1 = nI (Z 25)) : fL_matchers (pa, n) = some (lN (Wk (xs Z) (yM (PT Z)) 4 0)) := by
  have hU := US_lt Z
  have h24 := hv.le9 (k := 24) (by omega)
  have h1 : wh (fL_matchers_b34 (pa, n) (nI (US Z))) FU ((0 : Int64), (0 : Int32)) = some (lN (Wk (xs Z) (yM (PT Z)) 4 0)) := by
    rw [lN_lI, ie (xs Z) (PT_lt Z) 4 0 (by omega)]
    refine wh_for' 16 (by omega) (fun i => (Int64.ofInt (sz (fun E => if E &&& PT Z = E ∧ E &&& 0 = 0 then sg E * PE (xs Z) E 4 else 0) i), nI i)) rfl (fun i hi => ?_) ?_
    · have o2 := sg_pm i hi
      obtain ⟨o1, o3⟩ := pb_sg i hi
      have hs := setin _ hU i hi
      have j65 : ∀ a, fL_matchers_j65 (pa, n) (nI (US Z)) a (nI i) = some (.inl (a + Int64.ofInt (sg i * PE (xs Z) i 4), nI (i + 1))) := by
        intro a
        unfold fL_matchers_j65
        rw [odd_l hi, bi1_s, prod_l hP hv hn hi, bi1_s, show nI (pb i 4) - nI (pb i 4) / (2 : Int32) * (2 : Int32) = nI (pb i 4 % 2) from md 2 (by omega), nI_1]
        by_cases o : sg i = 1
        · rw [if_pos ((v0_iff (by omega)).mpr (o1.mpr o)), o, Int.one_mul]
        · rw [if_neg (fun z => o (o1.mp ((v0_iff (by omega)).mp z))), lI_neg, o2.resolve_left o, Int.neg_mul, Int.one_mul]
      unfold fL_matchers_b34
      simp only
      rw [if_neg (show ¬ (16 : Int32) ≤ nI i from lge 16 hi), show n_n (pa, n) (0 : Int32).toNatClampNeg = nI (Z 24) from h0, j65, nI_1]
      by_cases z : Z 24 = 1
      · have eP : PT Z = 0 := if_pos z
        rw [eP, z, if_pos (show nI 1 = (1 : Int32) from rfl)]
        by_cases i0 : i = 0
        · have c0 : i &&& 0 = i ∧ i &&& 0 = 0 := by
            rw [i0]
            exact ⟨rfl, rfl⟩
          rw [if_pos (hs.mpr ⟨by rw [i0]; simp, by rw [i0]; simp⟩), if_pos (show nI i ≤ (0 : Int32) by rw [i0]; exact Int32.le_refl _), sz, if_pos c0, lI_add]
        · have c0 : ¬ (i &&& 0 = i ∧ i &&& 0 = 0) := fun k => i0 (k.1.symm.trans k.2)
          rw [if_neg (show ¬ nI i ≤ (0 : Int32) from nI_nle (by omega) (by omega)), sz, if_neg c0, Int.add_zero]
          split
          · rfl
          · rfl
      · have eP : PT Z = US Z := if_neg z
        rw [eP, if_neg (show ¬ nI (Z 24) = (1 : Int32) from fun e => z ((nI_eq (a := Z 24) (b := 1) (by omega) (by omega)).mp e))]
        by_cases q : i &&& US Z = i ∧ i &&& 0 = 0
        · rw [if_pos (hs.mpr q), sz, if_pos q, lI_add]
        · rw [if_neg (fun w => q (hs.mp w)), sz, if_neg q, Int.add_zero]
    · unfold fL_matchers_b34
      exact if_pos (Int32.le_refl _)
  unfold fL_matchers
  rw [mask_l hP hv, bi1_s, h1, bi1_s]
end MT
