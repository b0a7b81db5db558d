/-! variable, set, times, rest, setting, undo, take, restore. -/
section PC
variable {EP LP : CS → (Nat → Nat) → Prop} {st : CS} {ms : MS}
theorem s1 (hS : Snd EP LP) : St1 (Rel EP LP) := by
  intro st ms hR x0 x1 x2
  rcases ar x0 2 (by omega) with ⟨p, hp, rfl⟩ | h0
  · rcases ar x1 4 (by omega) with ⟨c, hc, rfl⟩ | h1
    · rcases ar x2 6 (by omega) with ⟨v, hv, rfl⟩ | h2
      · obtain ⟨Z, Hs, a1, a2, a3, a4, a5, a6, a7, a8, a9, a10⟩ := hR
        obtain ⟨K, o, n, e1, e2⟩ := change_ok a2 a5 (k := 8 * p + 4 + c) (by omega) (nI v)
        obtain ⟨f, n', e3, e4⟩ := save_m (ms := m_thrown_s ms 0) (Z := Z) (Hs := Hs) a3 (MH_ts a6) a5.2.1
        refine ⟨_, .inr (nI (Z (8 * p + 4 + c))), _, nI (Z (8 * p + 4 + c)), 0, ?_, ?_, rfl, ?_, fun _ q => by cases q; rfl, one_new hS a1 a2 a3 a4 a7 a8 e2 e4 (k := 8 * p + 4 + c) (v := v) ?_⟩
        · show f4_variable _ _ _ _ = _
          unfold f4_variable
          rw [show f4_needIndex (nI p) 2 = _ from ni_in 2 hp, bt0_r, show f4_needIndex (nI c) 4 = _ from ni_in 4 hc, bt0_r, show f4_needNumber (nI v) 0 5 = _ from nn_in 5 (by omega), bt0_r, show nI p * (8 : Int32) + (4 : Int32) + nI c = nI (8 * p + 4 + c) by rw [show nI p * (8 : Int32) + (4 : Int32) = nI (8 * p + 4) from e8' p 4, nI_add], e1, bi2_s]
        · show f5_variable _ _ _ _ = _
          unfold f5_variable
          rw [show f5_within (nI p) 0 1 = _ from wi_in 1 (by omega), isV_in hc, show f5_within (nI v) 0 5 = _ from wi_in 5 (by omega)]
          show (bi1 (f5_save (m_thrown_s ms 0)) fun st6 => _) = _
          rw [e3, bi1_s, vo_ok (Z := Z) (ms := SV (m_thrown_s ms 0) f n') a3 (by omega), bi1_s, show (8 : Int32) * nI p + (4 : Int32) + nI c = nI (8 * p + 4 + c) by rw [show (8 : Int32) * nI p + (4 : Int32) = nI (8 * p + 4) from e8 p 4, nI_add], if_pos (ib_n (by omega) (by omega)), tn (by omega), ← Nat.add_assoc]
          rfl
        · rfl
        · unfold bd
          rw [if_neg (by omega), if_pos (by omega)]
          omega
      · refine ok_ref (e := 1) (v := 2) ?_ ?_ rfl hR
        · show f4_variable _ _ _ _ = _
          unfold f4_variable
          rw [show f4_needIndex (nI p) 2 = _ from ni_in 2 hp, bt0_r, show f4_needIndex (nI c) 4 = _ from ni_in 4 hc, bt0_r, show f4_needNumber x2 0 5 = _ from nn_out 5 h2, bt0_l]
        · show f5_variable _ _ _ _ = _
          unfold f5_variable
          rw [show f5_within (nI p) 0 1 = _ from wi_in 1 (by omega), isV_in hc, show f5_within x2 0 5 = _ from wi_out 5 h2]
          rfl
    · refine ok_ref (e := 0) (v := 1) ?_ ?_ rfl hR
      · show f4_variable _ _ _ _ = _
        unfold f4_variable
        rw [show f4_needIndex (nI p) 2 = _ from ni_in 2 hp, bt0_r, show f4_needIndex x1 4 = _ from ni_out 4 h1, bt0_l]
      · show f5_variable _ _ _ _ = _
        unfold f5_variable
        rw [show f5_within (nI p) 0 1 = _ from wi_in 1 (by omega), isV_out h1]
        rfl
  · refine ok_ref (e := 0) (v := 1) ?_ ?_ rfl hR
    · show f4_variable _ _ _ _ = _
      unfold f4_variable
      rw [show f4_needIndex x0 2 = _ from ni_out 2 h0, bt0_l]
    · show f5_variable _ _ _ _ = _
      unfold f5_variable
      rw [show f5_within x0 0 1 = _ from wi_out 1 h0]
      rfl
theorem s5 (hS : Snd EP LP) : St5 (Rel EP LP) := by
  intro st ms hR x0 x1
  rcases ar x0 2 (by omega) with ⟨p, hp, rfl⟩ | h0
  · obtain ⟨m, hm1, hm2, hm3, hm4⟩ : ∃ m, (if nI p = 0 then (1 : Int32) else 9) = nI m ∧ m = bd (24 + p) ∧ m < 10 ∧ ∀ x : Int32, (if nI p = 0 then (if f5_within x 0 1 = 0 then (2 : Int32) else 0) else (if f5_within x 0 9 = 0 then (2 : Int32) else 0)) = if f5_within x 0 (nI m) = 0 then (2 : Int32) else 0 := by
      rcases (show p = 0 ∨ p = 1 by omega) with rfl | rfl
      · exact ⟨1, rfl, rfl, by omega, fun x => rfl⟩
      · exact ⟨9, rfl, rfl, by omega, fun x => rfl⟩
    rcases ar x1 (m + 1) (by omega) with ⟨v, hv, rfl⟩ | h1
    · obtain ⟨Z, Hs, a1, a2, a3, a4, a5, a6, a7, a8, a9, a10⟩ := hR
      obtain ⟨K, o, n, e1, e2⟩ := change_ok a2 a5 (k := 24 + p) (by omega) (nI v)
      obtain ⟨f, n', e3, e4⟩ := save_m (ms := m_thrown_s ms 0) (Z := Z) (Hs := Hs) a3 (MH_ts a6) a5.2.1
      refine ⟨_, .inr (nI (Z (24 + p))), _, nI (Z (24 + p)), 0, ?_, ?_, rfl, ?_, fun _ q => by cases q; rfl, one_new hS a1 a2 a3 a4 a7 a8 e2 e4 (k := 24 + p) (v := v) ?_⟩
      · show f4_set _ _ _ = _
        unfold f4_set
        rw [show f4_needIndex (nI p) 2 = _ from ni_in 2 hp, bt0_r, hm1, nn_in m (by omega), bt0_r, show (24 : Int32) + nI p = nI (24 + p) from nI_add 24 p, e1, bi2_s]
      · show f5_set _ _ _ = _
        unfold f5_set
        rw [show f5_within (nI p) 0 1 = _ from wi_in 1 (by omega), hm4, wi_in m (by omega)]
        show (bi1 (f5_save (m_thrown_s ms 0)) fun st6 => _) = _
        rw [e3, bi1_s, show (24 : Int32) + nI p = nI (24 + p) from nI_add 24 p, if_pos (ib_n (by omega) (by omega)), if_pos (ib_n (by omega) (by omega)), tn (by omega)]
        show some (_, m_z ms (24 + p)) = _
        rw [a3 _ (by omega)]
        rfl
      · rfl
      · omega
    · refine ok_ref (e := 1) (v := 2) ?_ ?_ rfl hR
      · show f4_set _ _ _ = _
        unfold f4_set
        rw [show f4_needIndex (nI p) 2 = _ from ni_in 2 hp, bt0_r, hm1, nn_out m h1, bt0_l]
      · show f5_set _ _ _ = _
        unfold f5_set
        rw [show f5_within (nI p) 0 1 = _ from wi_in 1 (by omega), hm4, wi_out m h1]
        rfl
  · refine ok_ref (e := 0) (v := 1) ?_ ?_ rfl hR
    · show f4_set _ _ _ = _
      unfold f4_set
      rw [show f4_needIndex x0 2 = _ from ni_out 2 h0, bt0_l]
    · show f5_set _ _ _ = _
      unfold f5_set
      rw [show f5_within x0 0 1 = _ from wi_out 1 h0]
      rfl
theorem s13 : St13 (Rel EP LP) := by
  intro st ms hR x0 x1
  rcases ar x0 3 (by omega) with ⟨p, hp, rfl⟩ | h0
  · rcases ar x1 8 (by omega) with ⟨c, hc, rfl⟩ | h1
    · obtain ⟨Z, Hs, a1, a2, a3, a4⟩ := id hR
      refine ok_ans (a := nI (Z (8 * p + c))) ?_ ?_ hR
      · show f4_times _ _ _ = _
        unfold f4_times
        rw [show f4_needIndex (nI p) 3 = _ from ni_in 3 hp, bt0_r, show f4_needIndex (nI c) 8 = _ from ni_in 8 hc, bt0_r, e8', if_pos (ib_n (by omega) (by omega)), tn (by omega), a2 _ (by omega)]
      · show f5_times _ _ _ = _
        unfold f5_times
        rw [isP_in hp, show f5_within (nI c) 0 7 = _ from wi_in 7 (by omega)]
        show (bi1 (f5_of (m_thrown_s ms 0) (nI p) (nI c)) fun r6 => _) = _
        rw [of_ok (Z := Z) (ms := m_thrown_s ms 0) a3 (by omega), bi1_s]
        rfl
    · refine ok_ref (e := 0) (v := 1) ?_ ?_ rfl hR
      · show f4_times _ _ _ = _
        unfold f4_times
        rw [show f4_needIndex (nI p) 3 = _ from ni_in 3 hp, bt0_r, show f4_needIndex x1 8 = _ from ni_out 8 h1, bt0_l]
      · show f5_times _ _ _ = _
        unfold f5_times
        rw [isP_in hp, show f5_within x1 0 7 = _ from wi_out 7 h1]
        rfl
  · refine ok_ref (e := 0) (v := 1) ?_ ?_ rfl hR
    · show f4_times _ _ _ = _
      unfold f4_times
      rw [show f4_needIndex x0 3 = _ from ni_out 3 h0, bt0_l]
    · show f5_times _ _ _ = _
      unfold f5_times
      rw [isP_out h0]
      rfl
/-- what the rest of a constant is -/
def rs (Z : Nat → Nat) (c : Nat) : Int32 := nI (Z (16 + c)) - nI (Z c)
theorem rs_c {Z : Nat → Nat} (h : CZ st Z) {c : Nat} (hc : c < 4) : f4_restOf st (nI c) = some (rs Z c) := by
  unfold f4_restOf
  rw [show (16 : Int32) + nI c = nI (16 + c) from nI_add 16 c, show (0 : Int32) + nI c = nI (0 + c) from nI_add 0 c, if_pos (ib_n (by omega) (by omega)), if_pos (ib_n (by omega) (by omega)), tn (by omega), tn (by omega), h _ (by omega), h _ (by omega), Nat.zero_add]
  rfl
theorem rs_m {Z : Nat → Nat} (h : MZ ms Z) {c : Nat} (hc : c < 4) : f5_restOf ms (nI c) = some (rs Z c) := by
  unfold f5_restOf
  rw [show (2 : Int32) = nI 2 from rfl, show (0 : Int32) = nI 0 from rfl, of_ok h (by omega), bi1_s, of_ok h (by omega), bi1_s, show 8 * 0 + c = c by omega]
  rfl
theorem s14 : St14 (Rel EP LP) := by
  intro st ms hR x0
  rcases ar x0 4 (by omega) with ⟨c, hc, rfl⟩ | h0
  · obtain ⟨Z, Hs, a1, a2, a3, a4⟩ := id hR
    refine ok_ans (a := rs Z c) ?_ ?_ hR
    · show f4_rest _ _ = _
      unfold f4_rest
      rw [show f4_needIndex (nI c) 4 = _ from ni_in 4 hc, bt0_r, rs_c a2 hc, bi1_s]
    · show f5_rest _ _ = _
      unfold f5_rest
      rw [isC_in hc]
      show (bi1 (f5_restOf (m_thrown_s ms 0) (nI c)) fun r6 => _) = _
      rw [rs_m (Z := Z) (ms := m_thrown_s ms 0) a3 hc, bi1_s]
      rfl
  · refine ok_ref (e := 0) (v := 1) ?_ ?_ rfl hR
    · show f4_rest _ _ = _
      unfold f4_rest
      rw [show f4_needIndex x0 4 = _ from ni_out 4 h0, bt0_l]
    · show f5_rest _ _ = _
      unfold f5_rest
      rw [isC_out h0]
      rfl
theorem s21 : St21 (Rel EP LP) := by
  intro st ms hR x0
  rcases ar x0 2 (by omega) with ⟨c, hc, rfl⟩ | h0
  · obtain ⟨Z, Hs, a1, a2, a3, a4⟩ := id hR
    refine ok_ans (a := nI (Z (24 + c))) ?_ ?_ hR
    · show f4_setting _ _ = _
      unfold f4_setting
      rw [show f4_needIndex (nI c) 2 = _ from ni_in 2 hc, bt0_r, show (24 : Int32) + nI c = nI (24 + c) from nI_add 24 c, if_pos (ib_n (by omega) (by omega)), tn (by omega), a2 _ (by omega)]
    · show f5_setting _ _ = _
      unfold f5_setting
      rw [show f5_within (nI c) 0 1 = _ from wi_in 1 (by omega), show (24 : Int32) + nI c = nI (24 + c) from nI_add 24 c, tn (by omega), a3 _ (by omega)]
      show (if ib (nI (24 + c)) 26 = true then _ else _) = _
      rw [if_pos (ib_n (by omega) (by omega))]
      rfl
  · refine ok_ref (e := 0) (v := 1) ?_ ?_ rfl hR
    · show f4_setting _ _ = _
      unfold f4_setting
      rw [show f4_needIndex x0 2 = _ from ni_out 2 h0, bt0_l]
    · show f5_setting _ _ = _
      unfold f5_setting
      rw [show f5_within x0 0 1 = _ from wi_out 1 h0]
      rfl
end PC
