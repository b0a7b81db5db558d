/-! The class's choice. -/
section QE
variable {Z : Nat → Nat}
theorem SL_31 (hv : VZ Z) {q : Int32} {e : Nat} (h : e ∈ SL Z q) : e < 2 ^ 31 := by
  have := (SL_mem hv h).1
  omega
theorem row_c {s : CS} (hv : VZ Z) (h : EPt s Z) {i j : Nat} (hi : i < 4) (hj : j < (SL Z (rs Z i)).length) : c_rows s i j = nI ((SL Z (rs Z i)).getD j 0) := (h.2.2.2.1 i hi).2.1 j _ (by have := SL_220 hv hi; omega) (getD_some hj)
theorem way_c {s : CS} (h : EPt s Z) {i u : Nat} (hi : i < 4) (hu : u < 16) : c_eways s (i + 1) u = lN (Wk (xs Z) (yC Z) (3 - i) u) := by
  have := h.2.2.2.2 (3 - i) (by omega) u hu
  rw [show 4 - (3 - i) = i + 1 by omega] at this
  exact this
theorem find_c {s : CS} (hv : VZ Z) (h : EPt s Z) {i : Nat} (hi : i < 4) {q : Nat × Nat} (g : gdS Z i q) : wh (f0_choose_b38 s (nI q.2) (nI i)) FU (lN q.1, (0 : Int32)) = some (.inr (lN (kN Z i q).1, nI (jO Z i q), nI (kN Z i q).2)) := by
  obtain ⟨a1, a2, a3, a4, a5⟩ := kN_ok hv hi g
  obtain ⟨g1, g2, g3⟩ := g
  have hl := SL_220 hv hi
  have hq : q.1 < 2 ^ 32 := Nat.lt_trans g1 (Wk_big hv (by omega) g2)
  refine wh_for' (jO Z i q) (by omega) (fun j => (lN (q.1 - LSq (hW Z i q.2) ((SL Z (rs Z i)).take j)), nI j)) (by simp [LSq]; rfl) (fun j hj => ?_) ?_
  · obtain ⟨b1, b2⟩ := pj_before hj a1 a3
    have hm := SL_31 hv (getD_mem (show j < (SL Z (rs Z i)).length by omega))
    have ho := or_lt _ g2 _ (mk_lt ((SL Z (rs Z i)).getD j 0))
    have hw : hW Z i q.2 (mk ((SL Z (rs Z i)).getD j 0)) < 2 ^ 32 := Wk_big hv (by omega) ho
    unfold f0_choose_b38
    simp only
    rw [if_pos (ib_n (by omega) (by omega)), tn (by omega), (h.2.2.2.1 i hi).1, if_neg (nI_ge (by omega) (by omega)), if_neg (show ¬ (220 : Int32) ≤ nI j from lge 220 (by omega)), if_pos (ib_n (by omega) (by omega)), if_pos (ib_n (by omega) (by omega)), tn (by omega), row_c hv h hi (by omega), set_c hm, bi1_s, or16b _ g2 _ (mk_lt _), nI_1, if_pos (ib_n (by omega) (by omega)), if_pos (ib_n ho (by omega)), tn (by omega), tn (by omega), way_c h hi ho, show Wk (xs Z) (yC Z) (3 - i) (q.2 ||| mk ((SL Z (rs Z i)).getD j 0)) = hW Z i q.2 (mk ((SL Z (rs Z i)).getD j 0)) from rfl]
    rw [if_pos ((lg_cmp_ge _ _).mpr ((pk_lLE (by omega) (by omega)).mpr (by omega))), if_pos (ib_n (by omega) (by omega)), if_pos (ib_n ho (by omega)), lN_sub (by omega), lq_e, nI_1, b1, Nat.sub_sub]
  · have hm := SL_31 hv a2
    have ho := or_lt _ g2 _ (mk_lt (eO Z i q))
    have hw : hW Z i q.2 (mk (eO Z i q)) < 2 ^ 32 := Wk_big hv (by omega) ho
    have e0 : (SL Z (rs Z i)).getD (jO Z i q) 0 = eO Z i q := rfl
    unfold f0_choose_b38
    simp only
    rw [if_pos (ib_n (by omega) (by omega)), tn (by omega), (h.2.2.2.1 i hi).1, if_neg (nI_ge (by omega) (by omega)), if_neg (show ¬ (220 : Int32) ≤ nI (jO Z i q) from lge 220 (by omega)), if_pos (ib_n (by omega) (by omega)), if_pos (ib_n (by omega) (by omega)), tn (by omega), row_c hv h hi (by omega), e0, set_c hm, bi1_s, or16b _ g2 _ (mk_lt _), nI_1, if_pos (ib_n (by omega) (by omega)), if_pos (ib_n ho (by omega)), tn (by omega), tn (by omega), way_c h hi ho, show Wk (xs Z) (yC Z) (3 - i) (q.2 ||| mk (eO Z i q)) = hW Z i q.2 (mk (eO Z i q)) from rfl]
    rw [if_neg]
    · rfl
    · intro z
      have := (pk_lLE (by omega) (by omega)).mp ((lg_cmp_ge _ _).mp z)
      omega
/-- the class's choice is laid -/
def CC (Z : Nat → Nat) (k : Nat) (C : Nat → Int32) (n : Nat) : Prop := ∀ p, p < n → C p = nI (eO Z p (kS Z k p))
theorem choose_c {s : CS} (hv : VZ Z) (h : EPt s Z) {k : Nat} (hk : k < Wk (xs Z) (yC Z) 4 0) (hk2 : k < 2 ^ 31) : ∃ C, f0_choose s (nI k) = some (c_choice_s s C, 1) ∧ CC Z k C 4 := by
  have hb := Wk_big hv (n := 4) (by omega) (s := 0) (by omega)
  have key : ∃ s', wh f0_choose_b29 FU (s, lN k, (0 : Int32), (0 : Int32)) = some s' ∧ ∃ C, s' = c_choice_s s C ∧ CC Z k C 4 := by
    refine wh_inv 4 (by omega) (fun i z => ∃ C, z = (c_choice_s s C, lN (kS Z k i).1, nI (kS Z k i).2, nI i) ∧ CC Z k C i) _ ⟨c_choice s, rfl, fun p hp => by omega⟩ ?_ ?_
    · rintro i _ hi ⟨C, rfl, hC⟩
      have g := kS_gd hv hk i (by omega)
      obtain ⟨a1, a2, a3, a4, a5⟩ := kN_ok hv hi g
      have hl := SL_220 hv hi
      have hE : EPt (c_choice_s s C) Z := h
      refine Or.inl ⟨_, ?_, upd C i (nI (eO Z i (kS Z k i))), rfl, fun p hp => ?_⟩
      · unfold f0_choose_b29
        simp only
        rw [if_neg (show ¬ (4 : Int32) ≤ nI i from lge 4 hi), find_c hv hE hi g, bi1_s]
        simp only [Sum.elim_inr]
        rw [if_pos (ib_n (by omega) (by omega)), if_pos (ib_n (by omega) (by omega)), if_pos (ib_n hi (by omega)), tn (by omega), tn (by omega), row_c hv hE hi a1, nI_1]
        rfl
      · by_cases e : p = i
        · rw [e, pk_us]
        · rw [pk_un e]
          exact hC p (by omega)
    · rintro _ ⟨C, rfl, hC⟩
      refine ⟨_, ?_, C, rfl, hC⟩
      unfold f0_choose_b29
      exact if_pos (Int32.le_refl _)
  obtain ⟨s', k1, C, rfl, k2⟩ := key
  refine ⟨C, ?_, k2⟩
  unfold f0_choose
  rw [if_neg (nI_pos hk2), nI_l hk2, show c_eways s (0 : Int32).toNatClampNeg (0 : Int32).toNatClampNeg = _ from h.2.2.2.2 4 (by omega) 0 (by omega), if_pos ((lg_cmp_lt _ _).mpr ((pk_lLT (by omega) (by omega)).mpr hk)), k1, bi1_s]
theorem choose_no {s : CS} (hv : VZ Z) (h : EPt s Z) {x : Int32} (hx : x < 0 ∨ ∃ k, k < 2 ^ 31 ∧ x = nI k ∧ Wk (xs Z) (yC Z) 4 0 ≤ k) : f0_choose s x = some (s, 0) := by
  have hb := Wk_big hv (n := 4) (by omega) (s := 0) (by omega)
  unfold f0_choose
  rcases hx with hx | ⟨k, hk, rfl, h1⟩
  · rw [if_pos hx]
  · rw [if_neg (nI_pos hk), nI_l hk, show c_eways s (0 : Int32).toNatClampNeg (0 : Int32).toNatClampNeg = _ from h.2.2.2.2 4 (by omega) 0 (by omega), if_neg (fun z => by have := (pk_lLT (by omega) (by omega)).mp ((lg_cmp_lt _ _).mp z); omega)]
end QE
