/-! What the class answers, its state going on. -/
def KK (Z : Nat → Nat) (Hs : List (Nat → Nat)) (c : CS) : Prop := VZ Z ∧ CZ c Z ∧ CH c Hs ∧ EP c Z ∧ LQ c Z
section KA
variable {c : CS} {Z : Nat → Nat} {Hs : List (Nat → Nat)}
theorem KK_e (h : KK Z Hs c) : ∃ s, f0_prepare c = some s ∧ EPt s Z ∧ KK Z Hs s := by
  obtain ⟨h1, h2, h3, h4, h5⟩ := h
  obtain ⟨s, e1, e2, e3, e4⟩ := prepare_c h2 h1 h4
  exact ⟨s, e1, e4, h1, h2.m e2.1, h3.m e2.2.1 e2.2.2.1 e2.2.2.2.1, Or.inr e4, LQ_same e3 h5⟩
theorem KK_l (h : KK Z Hs c) : ∃ s, f2_prepare c = some s ∧ LPt s Z ∧ KK Z Hs s := by
  obtain ⟨h1, h2, h3, h4, h5⟩ := h
  obtain ⟨s, e1, e2, e3, e4⟩ := prepL_c h2 h1 h5
  exact ⟨s, e1, e4, h1, h2.m e2.1, h3.m e2.2.1 e2.2.2.1 e2.2.2.2.1, EP_same e3 h4, Or.inr e4⟩
theorem rest_ok (h : KK Z Hs c) {k : Nat} (hk : k < 4) : f4_rest c (nI k) = some (c, .inr (rs Z k)) := by
  unfold f4_rest
  rw [show f4_needIndex (nI k) 4 = _ from ni_in 4 hk, bt0_r, rs_c h.2.1 hk, bi1_s]
theorem solutions_ok (h : KK Z Hs c) {k : Nat} (hk : k < 4) : ∃ s, f4_solutions c (nI k) = some (s, .inr (nI (SL Z (rs Z k)).length)) ∧ KK Z Hs s := by
  obtain ⟨s, e1, e2, e3⟩ := KK_e h
  refine ⟨s, ?_, e3⟩
  unfold f4_solutions f0_solutionsOf
  rw [show f4_needIndex (nI k) 4 = _ from ni_in 4 hk, bt0_r, e1, bi1_s, if_pos (ib_n (by omega) (by omega)), tn (by omega), (e2.2.2.2.1 k hk).1, bi1_s]
theorem matchers_ok (h : KK Z Hs c) {k : Nat} (hk : k < 2) : ∃ s, f4_matchers c (nI k) = some (s, .inr (lN (Wk (xs Z) (yM (PT Z)) 4 0))) ∧ KK Z Hs s := by
  obtain ⟨s, e1, e2, e3⟩ := KK_e h
  refine ⟨s, ?_, e3⟩
  unfold f4_matchers
  rw [show f4_needNumber (nI k) 0 1 = _ from nn_in 1 (by omega), bt0_r, e1, bi1_s]
  rcases (show k = 0 ∨ k = 1 by omega) with rfl | rfl
  · rw [if_pos (show nI 0 = (0 : Int32) from rfl), bySets_c h.1 e2, bi1_s]
  · rw [if_neg (show ¬ nI 1 = (0 : Int32) by decide +kernel), byConstants_c h.1 e2, bi1_s]
theorem least_ok (h : KK Z Hs c) {k v : Nat} (hk : k < 2 ^ 31) (hv : v < 4) : ∃ s, f4_least c (nI k) (nI v) = some (s, .inr (la Z k v)) ∧ KK Z Hs s := by
  obtain ⟨s, e1, e2, e3⟩ := KK_l h
  refine ⟨s, ?_, e3⟩
  unfold f4_least
  rw [show f4_needIndex (nI v) 4 = _ from ni_in 4 hv, bt0_r, if_pos (nI_pos' hk), e1, bi1_s, la_c h.1 e2 hk hv, bi1_s]
theorem count4_ok (h : KK Z Hs c) : ∃ s, f4_count c (4 : Int32) = some (s, .inr (nI (LO Z).length)) ∧ KK Z Hs s := by
  obtain ⟨s, e1, e2, e3⟩ := KK_l h
  refine ⟨s, ?_, e3⟩
  unfold f4_count f2_size
  rw [show f4_needNumber (4 : Int32) 0 10 = _ from nn_in 10 (k := 4) (by omega), bt0_r, e1, bi1_s, e2.2.1]
  rfl
theorem count5_ok (h : KK Z Hs c) : ∃ s, f4_count c (5 : Int32) = some (s, .inr (nI (gm (LO Z) (LO Z).length))) ∧ KK Z Hs s := by
  obtain ⟨s, e1, e2, e3⟩ := KK_l h
  refine ⟨s, ?_, e3⟩
  unfold f4_count
  rw [show f4_needNumber (5 : Int32) 0 10 = _ from nn_in 10 (k := 5) (by omega), bt0_r, e1, bi1_s, greatest_c h.1 e2, bi1_s]
  rfl
theorem count10_ok (h : KK Z Hs c) : ∃ s, f4_count c (10 : Int32) = some (s, .inr (nI Hs.length)) ∧ KK Z Hs s := by
  obtain ⟨s, e1, e2, e3⟩ := KK_l h
  refine ⟨s, ?_, e3⟩
  unfold f4_count f1_size
  rw [show f4_needNumber (10 : Int32) 0 10 = _ from nn_in 10 (k := 10) (by omega), bt0_r, e1, bi1_s, e3.2.2.1.1]
  rfl
end KA
