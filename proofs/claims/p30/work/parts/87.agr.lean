/-! The law's looks at all that the class answers. -/
theorem lg_cmp_self (x : Int64) : lg_cmp x x = 0 := by
  unfold lg_cmp
  rw [if_neg (by simp), if_pos rfl]
section AG
variable {Z : Nat → Nat} {Hs : List (Nat → Nat)} {pa n : Nat → Int32}
theorem LI_RP (hV : V2 Z) (hP : PA pa Z) (hN : NA n Z Hs) {ps : PS} (h : LI Z Hs pa n ps) : RP ps := by
  obtain ⟨⟨h1, h2, h3, h4, h5⟩, h6, h7⟩ := h
  exact ⟨Z, Hs, hV, h2, h3, h4, h5, by rw [h6]; exact hP, by rw [h7]; exact hN⟩
theorem ag_times (hP : PA pa Z) {ps : PS} (hI : LI Z Hs pa n ps) : wh fL_agree_b2 FU (ps, (0 : Int32)) = some (.inl ps) := by
  refine wh_for' 24 (by omega) (fun i => (ps, nI i)) rfl (fun i hi => ?_) ?_
  · unfold fL_agree_b2
    simp only
    rw [if_neg (show ¬ (24 : Int32) ≤ nI i from lge 24 hi), show nI i - nI i / (8 : Int32) * (8 : Int32) = nI (i % 8) from md 8 (by omega), show nI i / (8 : Int32) = nI (i / 8) from pk_div (d := 8) (by omega) (by omega) (by omega), times_ok hI.1.2.1 (p := i / 8) (f := i % 8) (by omega) (by omega), nx_r, bi2_s, if_pos (ib_n (by omega) (by omega)), tn (by omega), hI.2.1, hP i hi, show 8 * (i / 8) + i % 8 = i by omega, if_pos rfl, nI_1]
    rfl
  · unfold fL_agree_b2
    exact if_pos (Int32.le_refl _)
theorem ag_rests (hP : PA pa Z) (hN : NA n Z Hs) {ps : PS} (hI : LI Z Hs pa n ps) : ∃ ps', wh fL_agree_b36 FU (ps, (0 : Int32)) = some (.inl ps') ∧ LI Z Hs pa n ps' := by
  have key : ∃ r, wh fL_agree_b36 FU (ps, (0 : Int32)) = some r ∧ ∃ ps', r = .inl ps' ∧ LI Z Hs pa n ps' := by
    refine wh_inv 4 (by omega) (fun i z => ∃ ps', z = (ps', nI i) ∧ LI Z Hs pa n ps') _ ⟨ps, rfl, hI⟩ ?_ ?_
    · rintro i _ hi ⟨ps', rfl, g⟩
      obtain ⟨s1, a1, b1⟩ := solutions_ok g.1 hi
      have hs := sol_l hP g.1.1 hN.2.1 (E := 0) (by omega) hi
      refine Or.inl ⟨(p_c_s ps' s1, nI (i + 1)), ?_, p_c_s ps' s1, rfl, b1, g.2.1, g.2.2⟩
      unfold fL_agree_b36
      simp only
      rw [if_neg (show ¬ (4 : Int32) ≤ nI i from lge 4 hi), rest_ok g.1 hi, nx_r, bi2_s, show (16 : Int32) + nI i = nI (16 + i) from nI_add 16 i, if_pos (ib_n (by omega) (by omega)), if_pos (ib_n (by omega) (by omega)), tn (by omega), tn (by omega), g.2.1, g.2.2, hP _ (by omega), hP _ (by omega), if_pos (show rs Z i = nI (Z (16 + i)) - nI (Z i) from rfl), a1, nx_r, bi2_s, show fL_solutions (pa, n) (nI i) (0 : Int32) = _ from hs, bi1_s, show AE (xs Z i) 0 = (SL Z (rs Z i)).length from AE_0 _, if_pos rfl, nI_1]
      rfl
    · rintro _ ⟨ps', rfl, g⟩
      refine ⟨_, ?_, ps', rfl, g⟩
      unfold fL_agree_b36
      exact if_pos (Int32.le_refl _)
  obtain ⟨r, r1, ps', rfl, g⟩ := key
  exact ⟨ps', r1, g⟩
end AG
theorem agree_ok : ∀ st, RP st → ∃ st', fL_agree st = some (st', 1) ∧ RP st' := by
  intro st hR
  obtain ⟨Z, Hs, hV, hC, hH, hE, hL, hP, hN⟩ := hR
  have hI : LI Z Hs (p_pr st) (p_n st) st := ⟨⟨hV.v, hC, hH, hE, hL⟩, rfl, rfl⟩
  obtain ⟨p1, e1, g1⟩ := ag_rests hP hN hI
  have hm := mat_l hP hV.v hN.1 hN.2.1
  obtain ⟨s1, a1, b1⟩ := matchers_ok g1.1 (k := 0) (by omega)
  obtain ⟨s2, a2, b2⟩ := matchers_ok b1 (k := 1) (by omega)
  obtain ⟨s3, a3, b3⟩ := count10_ok b2
  obtain ⟨p2, e2, g2⟩ := least_l (ps := p_c_s (p_c_s (p_c_s p1 s1) s2) s3) hV hP ⟨b3, g1.2.1, g1.2.2⟩
  refine ⟨p2, ?_, LI_RP hV hP hN g2⟩
  unfold fL_agree
  rw [ag_times hP hI, bi1_s, Sum.elim_inl, e1, bi1_s, Sum.elim_inl, g1.2.1, g1.2.2, hm, bi1_s, show f4_matchers (p_c p1) (0 : Int32) = _ from a1, nx_r, bi2_s, if_pos (lg_cmp_self _), show f4_matchers s1 (1 : Int32) = _ from a2, nx_r, bi2_s, if_pos (lg_cmp_self _), a3, nx_r, bi2_s, if_pos (show nI Hs.length = p_n st (2 : Int32).toNatClampNeg from hN.2.2.symm), e2, bi2_s, if_neg one_ne]
theorem start_ok : RP (c_0, (fun _ => 0), n_0, (fun _ => 0)) := by
  refine ⟨Z0, [], fun k hk => ?_, fun k _ => Z0_s k, ⟨rfl, Nat.zero_le _, 0, by omega, rfl, fun j W h => by cases h⟩, Or.inl rfl, Or.inl rfl, fun k hk => ?_, rfl, rfl, rfl⟩
  · unfold Z0 b2
    repeat' split
    all_goals omega
  · show (0 : Int32) = _
    unfold Z0
    rw [if_neg (by omega), if_neg (by omega)]
    rfl
