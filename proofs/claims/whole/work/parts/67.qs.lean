/-! sums. -/
section QS
variable {EP : CS → (Nat → Nat) → Prop} {st : CS} {ms : MS} {Z : Nat → Nat}
theorem setRow_st (st : CS) (a b c d : Int32) : f2_setRow st a b c d = some (LR st (upd (upd (upd (upd (c_row st) 0 a) 1 b) 2 c) 3 d) (c_numbers st) (c_found st)) := setRow_c (st := st) (c_row st) (c_numbers st) (c_found st) a b c d
theorem ab_le6 {e a b c d : Nat} : ab e (p4 a b c d) ↔ le6 e a b c d := by
  constructor
  · intro h
    exact ⟨h 0 (by omega), h 1 (by omega), h 2 (by omega), h 3 (by omega)⟩
  · rintro ⟨h0, h1, h2, h3⟩ v hv
    rcases (show v = 0 ∨ v = 1 ∨ v = 2 ∨ v = 3 by omega) with rfl | rfl | rfl | rfl
    · exact h0
    · exact h1
    · exact h2
    · exact h3
theorem ps_X (n0 p q r : Nat) : ps p q r n0 p q r + 1 = (n0 + 1) * (p + 1) * (q + 1) * (r + 1) := by
  unfold ps
  have e1 : n0 * (p + 1) + p + 1 = (n0 + 1) * (p + 1) := by rw [Nat.add_mul, Nat.one_mul]; omega
  have e2 : (n0 * (p + 1) + p) * (q + 1) + q + 1 = (n0 + 1) * (p + 1) * (q + 1) := by rw [← e1, Nat.add_mul (n0 * (p + 1) + p), Nat.one_mul]; omega
  rw [← e2, Nat.add_mul ((n0 * (p + 1) + p) * (q + 1) + q), Nat.one_mul]
  omega
theorem ps_top {n0 p q r a b c d : Nat} (ha : a ≤ n0) (hb : b ≤ p) (hc : c ≤ q) (hd : d ≤ r) : ps p q r a b c d ≤ ps p q r n0 p q r := by
  unfold ps
  have e1 : a * (p + 1) ≤ n0 * (p + 1) := Nat.mul_le_mul_right _ ha
  have e2 : (a * (p + 1) + b) * (q + 1) ≤ (n0 * (p + 1) + p) * (q + 1) := Nat.mul_le_mul_right _ (by omega)
  have e3 : ((a * (p + 1) + b) * (q + 1) + c) * (r + 1) ≤ ((n0 * (p + 1) + p) * (q + 1) + q) * (r + 1) := Nat.mul_le_mul_right _ (by omega)
  omega
theorem lw_same (s : CS) (W : Nat → Int32) : csame s (c_lways_s s W) ∧ esame s (c_lways_s s W) := ⟨⟨rfl, rfl, rfl, rfl, rfl, rfl, rfl, rfl⟩, ⟨rfl, rfl, rfl, rfl, rfl, rfl, rfl, rfl, rfl, rfl⟩⟩
theorem lw_t {s : CS} {W : Nat → Int32} (h : LPt s Z) : LPt (c_lways_s s W) Z := h
theorem ways_c (hv : VZ Z) (h : LPt st Z) {n0 n1 n2 n3 : Nat} (h0 : n0 < 7) (h1 : n1 < 7) (h2 : n2 < 7) (h3 : n3 < 7) : ∃ s, f2_waysToSum st (nI n0) (nI n1) (nI n2) (nI n3) = some (s, nI (ws Z n0 n1 n2 n3)) ∧ csame st s ∧ esame st s ∧ LPt s Z := by
  have h30 := LO_30 hv
  unfold f2_waysToSum
  rcases solves4 (st := st) (Z := Z) h.1 hv h0 h1 h2 h3 with ⟨q, e⟩ | ⟨q, e⟩
  · obtain ⟨s5, hs5⟩ : ∃ s5, s5 = LR st (upd (upd (upd (upd (c_row st) 0 (nI n0)) 1 (nI n1)) 2 (nI n2)) 3 (nI n3)) (c_numbers st) (c_found st) := ⟨_, rfl⟩
    have hR : RW s5 n0 n1 n2 n3 := by
      rw [hs5]
      exact row4' (c_row st) n0 n1 n2 n3
    have hL : LPt s5 Z := by
      rw [hs5]
      exact LR_t h.1 h.2
    have hsm : csame st s5 ∧ esame st s5 := by
      rw [hs5]
      exact LR_same _ _ _ _
    have hX := ps_X n0 n1 n2 n3
    have hb := ps_bd h0 h1 h2 h3 (Nat.le_refl n0) (Nat.le_refl n1) (Nat.le_refl n2) (Nat.le_refl n3)
    obtain ⟨X, eX⟩ : ∃ X, X = (n0 + 1) * (n1 + 1) * (n2 + 1) * (n3 + 1) := ⟨_, rfl⟩
    rw [← eX] at hX
    obtain ⟨W0, i1, i2⟩ := init_c (s := s5) (X := X) (by omega)
    have key : ∃ r, wh (f2_waysToSum_b85 (nI X)) FU (c_lways_s s5 W0, (0 : Int32)) = some r ∧ ∃ W, r = c_lways_s s5 W ∧ ∀ a b c d, a ≤ n0 → b ≤ n1 → c ≤ n2 → d ≤ n3 → W (ps n1 n2 n3 a b c d) = nI (ws Z a b c d) := by
      refine wh_inv (LO Z).length (by omega) (fun i z => ∃ W, z = (c_lways_s s5 W, nI i) ∧ ∀ a b c d, a ≤ n0 → b ≤ n1 → c ≤ n2 → d ≤ n3 → W (ps n1 n2 n3 a b c d) = nI (Fi (LO Z) i a b c d)) _ ⟨W0, rfl, fun a b c d ha hb hc hd => ?_⟩ ?_ ?_
      · have ht := ps_top ha hb hc hd
        rw [i2 _ (by omega)]
        show _ = nI (if a = 0 ∧ b = 0 ∧ c = 0 ∧ d = 0 then 1 else 0)
        by_cases w : ps n1 n2 n3 a b c d = 0
        · have w2 : ps n1 n2 n3 a b c d = ps n1 n2 n3 0 0 0 0 := by rw [w]; simp [ps]
          obtain ⟨r0, r1, r2, r3⟩ := ps_in hb hc hd (Nat.zero_le _) (Nat.zero_le _) (Nat.zero_le _) w2
          rw [if_pos w, if_pos ⟨r0, r1, r2, r3⟩]
          rfl
        · rw [if_neg w, if_neg]
          · rfl
          · rintro ⟨rfl, rfl, rfl, rfl⟩
            exact w (by simp [ps])
      · rintro i _ hi ⟨W, rfl, hJ⟩
        obtain ⟨m1, m2, m3⟩ := lo_mem (getD_mem hi)
        have hk := getD_some hi
        refine Or.inl ?_
        unfold f2_waysToSum_b85
        simp only
        rw [show c_found (c_lways_s s5 W) = _ from hL.2.1, if_neg (nI_ge hi (by omega)), nI_1]
        rcases atMost_c (st := c_lways_s s5 W) (p := p4 n0 n1 n2 n3) hL.2 h30 hR (fun v _ => p4_lt h0 h1 h2 h3 v) hk with ⟨w, e1⟩ | ⟨w, e1⟩
        · obtain ⟨W', a1, a2⟩ := addSums_c (s := s5) (e := (LO Z).getD i 0) hR h0 h1 h2 h3 (ab_le6.mp w) (sd_pos m1 m2) hJ
          rw [e1, bi1_s, if_neg one_ne, show f2_number (c_lways_s s5 W) (nI i) 0 = _ from number_c (st := c_lways_s s5 W) hL.2 h30 hk (v := 0) (by omega), bi1_s, show f2_number (c_lways_s s5 W) (nI i) 1 = _ from number_c (st := c_lways_s s5 W) hL.2 h30 hk (v := 1) (by omega), bi1_s, show f2_number (c_lways_s s5 W) (nI i) 2 = _ from number_c (st := c_lways_s s5 W) hL.2 h30 hk (v := 2) (by omega), bi1_s, show f2_number (c_lways_s s5 W) (nI i) 3 = _ from number_c (st := c_lways_s s5 W) hL.2 h30 hk (v := 3) (by omega), bi1_s, a1, bi1_s]
          exact ⟨_, rfl, W', rfl, a2⟩
        · rw [e1, bi1_s, if_pos rfl]
          refine ⟨_, rfl, W, rfl, fun a b c d ha hb hc hd => ?_⟩
          rw [hJ a b c d ha hb hc hd]
          show _ = nI (S4 ((LO Z).getD i 0) (Fi (LO Z) i) a b c d)
          rw [S4_no]
          rintro ⟨z0, z1, z2, z3⟩
          exact w (ab_le6.mpr ⟨by omega, by omega, by omega, by omega⟩)
      · rintro _ ⟨W, rfl, hJ⟩
        refine ⟨_, ?_, W, rfl, hJ⟩
        unfold f2_waysToSum_b85
        simp only
        rw [show c_found (c_lways_s s5 W) = _ from hL.2.1, if_pos (Int32.le_refl _)]
    obtain ⟨r, k1, W, rfl, k2⟩ := key
    refine ⟨c_lways_s s5 W, ?_, hsm.1.t (lw_same s5 W).1, hsm.2.t (lw_same s5 W).2, lw_t hL⟩
    rw [e, bi1_s, if_neg one_ne, setRow_st, bi1_s, ← hs5, nI_1, nI_1, nI_1, nI_1, pk_mul, pk_mul, pk_mul, lq_e, ← eX, i1, bi1_s, k1, bi1_s, if_neg (nI_nle (by omega) (by omega)), if_neg (show ¬ (2401 : Int32) < nI X from nI_nlt (a := 2401) (by omega) (by omega)), show nI X - (1 : Int32) = nI (X - 1) from sb 1 (by omega), if_pos (ib_n (by omega) (by omega)), tn (by omega), show X - 1 = ps n1 n2 n3 n0 n1 n2 n3 by omega]
    show some (c_lways_s s5 W, W (ps n1 n2 n3 n0 n1 n2 n3)) = _
    rw [k2 n0 n1 n2 n3 (Nat.le_refl _) (Nat.le_refl _) (Nat.le_refl _) (Nat.le_refl _)]
  · refine ⟨st, ?_, csame.r st, esame.r st, h⟩
    rw [e, bi1_s, if_pos rfl, show ws Z n0 n1 n2 n3 = 0 from Fi_zero (D := df Z) (fun e he => (lo_mem he).2.2) _ (Nat.le_refl _) _ _ _ _ q]
    rfl
theorem sm_in {k : Nat} (h : k < 7) : f5_isSmall (nI k) = 1 := wi_in 6 (by omega)
theorem sm_out {x : Int32} (h : x < 0 ∨ nI 7 ≤ x) : f5_isSmall x = 0 := wi_out 6 h
theorem s19 (hS : Snd EP LQ) : St19 (Rel EP LQ) := by
  intro st ms hR x0 x1 x2 x3
  rcases ar x0 7 (by omega) with ⟨a, ha, rfl⟩ | h0
  · rcases ar x1 7 (by omega) with ⟨b, hb, rfl⟩ | h1
    · rcases ar x2 7 (by omega) with ⟨c, hc, rfl⟩ | h2
      · rcases ar x3 7 (by omega) with ⟨d, hd, rfl⟩ | h3
        · obtain ⟨s, Z, p1, p2, p3, p4, p5, p6, _, _, _, p8⟩ := hR.pl hS
          obtain ⟨s2, w1, w2, w3, w4⟩ := ways_c p2 p5 ha hb hc hd
          obtain ⟨s', m1, m2, m3, m4⟩ := sumsTo_m (ms := m_thrown_s ms 0) (Z := Z) p4 p2 ha hb hc hd
          refine ⟨s2, .inr (nI (ws Z a b c d)), s', nI (ws Z a b c d), 0, ?_, ?_, rfl, m3, fun _ q => by cases q; rfl, p8 s2 s' w2 w3 w4 ((msame_t ms 0).t m2)⟩
          · show f4_sums _ _ _ _ _ = _
            unfold f4_sums
            rw [show f4_needNumber (nI a) 0 6 = _ from nn_in 6 (by omega), bt0_r, show f4_needNumber (nI b) 0 6 = _ from nn_in 6 (by omega), bt0_r, show f4_needNumber (nI c) 0 6 = _ from nn_in 6 (by omega), bt0_r, show f4_needNumber (nI d) 0 6 = _ from nn_in 6 (by omega), bt0_r, p1, bi1_s, w1, bi2_s]
          · show f5_sums _ _ _ _ _ = _
            unfold f5_sums
            rw [sm_in ha, if_neg one_ne, sm_in hb, if_neg one_ne, sm_in hc, if_neg one_ne, sm_in hd, if_neg one_ne, if_pos (Int32.le_refl _), m1, bi2_s]
        · refine ok_ref (e := 1) (v := 1) ?_ ?_ rfl hR
          · show f4_sums _ _ _ _ _ = _
            unfold f4_sums
            rw [show f4_needNumber (nI a) 0 6 = _ from nn_in 6 (by omega), bt0_r, show f4_needNumber (nI b) 0 6 = _ from nn_in 6 (by omega), bt0_r, show f4_needNumber (nI c) 0 6 = _ from nn_in 6 (by omega), bt0_r, show f4_needNumber x3 0 6 = _ from nn_out 6 h3, bt0_l]
          · show f5_sums _ _ _ _ _ = _
            unfold f5_sums
            rw [sm_in ha, if_neg one_ne, sm_in hb, if_neg one_ne, sm_in hc, if_neg one_ne, sm_out h3]
            rfl
      · refine ok_ref (e := 1) (v := 1) ?_ ?_ rfl hR
        · show f4_sums _ _ _ _ _ = _
          unfold f4_sums
          rw [show f4_needNumber (nI a) 0 6 = _ from nn_in 6 (by omega), bt0_r, show f4_needNumber (nI b) 0 6 = _ from nn_in 6 (by omega), bt0_r, show f4_needNumber x2 0 6 = _ from nn_out 6 h2, bt0_l]
        · show f5_sums _ _ _ _ _ = _
          unfold f5_sums
          rw [sm_in ha, if_neg one_ne, sm_in hb, if_neg one_ne, sm_out h2]
          rfl
    · refine ok_ref (e := 1) (v := 1) ?_ ?_ rfl hR
      · show f4_sums _ _ _ _ _ = _
        unfold f4_sums
        rw [show f4_needNumber (nI a) 0 6 = _ from nn_in 6 (by omega), bt0_r, show f4_needNumber x1 0 6 = _ from nn_out 6 h1, bt0_l]
      · show f5_sums _ _ _ _ _ = _
        unfold f5_sums
        rw [sm_in ha, if_neg one_ne, sm_out h1]
        rfl
  · refine ok_ref (e := 1) (v := 1) ?_ ?_ rfl hR
    · show f4_sums _ _ _ _ _ = _
      unfold f4_sums
      rw [show f4_needNumber x0 0 6 = _ from nn_out 6 h0, bt0_l]
    · show f5_sums _ _ _ _ _ = _
      unfold f5_sums
      rw [sm_out h0]
      rfl
end QS
