/-! cancel, the draft, multiply. -/
section PE
variable {EP LP : CS → (Nat → Nat) → Prop} {st : CS} {ms : MS}
/-- the first i factors are cancelled -/
def cz (Z : Nat → Nat) (p q i : Nat) : Nat → Nat := fun k => if 8 * p ≤ k ∧ k < 8 * p + i then Z k - Z (8 * q + (k - 8 * p)) else if 8 * q ≤ k ∧ k < 8 * q + i then Z k - Z (8 * p + (k - 8 * q)) else Z k
theorem cz_le {Z : Nat → Nat} {p q i k : Nat} : cz Z p q i k ≤ Z k := by
  unfold cz
  repeat' split
  all_goals omega
theorem cz_0 {Z : Nat → Nat} {p q : Nat} (k : Nat) : cz Z p q 0 k = Z k := by
  unfold cz
  rw [if_neg (by omega), if_neg (by omega)]
theorem cz_p {Z : Nat → Nat} {p q i : Nat} (hi : i < 8) : cz Z p q i (8 * p + i) = Z (8 * p + i) := by
  unfold cz
  rw [if_neg (by omega), if_neg (by omega)]
theorem cz_q {Z : Nat → Nat} {p q i : Nat} (hi : i < 8) : cz Z p q i (8 * q + i) = Z (8 * q + i) := by
  unfold cz
  rw [if_neg (by omega), if_neg (by omega)]
theorem cz_s {Z : Nat → Nat} {p q i k : Nat} (hi : i < 8) : cz Z p q (i + 1) k = if k = 8 * q + i then Z (8 * q + i) - min (Z (8 * p + i)) (Z (8 * q + i)) else if k = 8 * p + i then Z (8 * p + i) - min (Z (8 * p + i)) (Z (8 * q + i)) else cz Z p q i k := by
  unfold cz
  by_cases e1 : k = 8 * q + i
  · subst e1
    rw [if_pos rfl]
    by_cases e : 8 * p ≤ 8 * q + i ∧ 8 * q + i < 8 * p + (i + 1)
    · rw [if_pos e]
      have : p = q := by omega
      subst this
      rw [show 8 * p + (8 * p + i - 8 * p) = 8 * p + i by omega]
      omega
    · rw [if_neg e, if_pos (by omega), show 8 * p + (8 * q + i - 8 * q) = 8 * p + i by omega]
      omega
  · rw [if_neg e1]
    by_cases e2 : k = 8 * p + i
    · subst e2
      rw [if_pos rfl, if_pos (by omega), show 8 * q + (8 * p + i - 8 * p) = 8 * q + i by omega]
      omega
    · rw [if_neg e2]
      by_cases a : 8 * p ≤ k ∧ k < 8 * p + i
      · rw [if_pos a, if_pos (by omega)]
      · rw [if_neg a, if_neg (by omega)]
        by_cases b : 8 * q ≤ k ∧ k < 8 * q + i
        · rw [if_pos b, if_pos (by omega)]
        · rw [if_neg b, if_neg (by omega)]
theorem cs_cs (st : CS) (a b : Nat → Int32) : c_state_s (c_state_s st a) b = c_state_s st b := rfl
theorem zs_zs (ms : MS) (a b : Nat → Int32) : m_z_s (m_z_s ms a) b = m_z_s ms b := rfl
def mn (Z : Nat → Nat) (p q i : Nat) : Nat := min (Z (8 * p + i)) (Z (8 * q + i))
theorem mn_l (Z : Nat → Nat) (p q i : Nat) : mn Z p q i ≤ Z (8 * p + i) := Nat.min_le_left _ _
theorem mn_r (Z : Nat → Nat) (p q i : Nat) : mn Z p q i ≤ Z (8 * q + i) := Nat.min_le_right _ _
theorem cancel_c {Z : Nat → Nat} {Y : CS} {p q : Nat} (hp : p < 3) (hq : q < 3) (hv : VZ Z) (h : CZ Y Z) : ∃ s, wh (f4_cancel_b19 (nI p) (nI q)) FU (Y, (0 : Int32), (0 : Int32)) = some (c_state_s Y s, nI (sm (mn Z p q) 8)) ∧ ∀ k, k < 26 → s k = nI (cz Z p q 8 k) := by
  have key : ∃ r, wh (f4_cancel_b19 (nI p) (nI q)) FU (Y, (0 : Int32), (0 : Int32)) = some r ∧ ∃ s, r = (c_state_s Y s, nI (sm (mn Z p q) 8)) ∧ ∀ k, k < 26 → s k = nI (cz Z p q 8 k) := by
    refine wh_inv 8 (by omega) (fun i z => ∃ s, z = (c_state_s Y s, nI (sm (mn Z p q) i), nI i) ∧ ∀ k, k < 26 → s k = nI (cz Z p q i k)) (fun r => ∃ s, r = (c_state_s Y s, nI (sm (mn Z p q) 8)) ∧ ∀ k, k < 26 → s k = nI (cz Z p q 8 k)) ⟨c_state Y, rfl, fun k hk => by rw [cz_0]; exact h k hk⟩ ?_ ?_
    · rintro i _ hi ⟨s, rfl, hs⟩
      refine Or.inl ⟨_, ?_, upd (upd s (8 * p + i) (nI (Z (8 * p + i) - mn Z p q i))) (8 * q + i) (nI (Z (8 * q + i) - mn Z p q i)), rfl, ?_⟩
      · unfold f4_cancel_b19
        simp only
        rw [if_neg (show ¬ (8 : Int32) ≤ nI i from lge 8 hi), e8', e8', if_pos (ib_n (by omega) (by omega)), if_pos (ib_n (by omega) (by omega)), tn (by omega), tn (by omega), lq_e, if_pos (ib_n (by omega) (by omega)), if_pos (ib_n (by omega) (by omega))]
        show some (Sum.inl (c_state_s (c_state_s (c_state_s Y s) (upd s (8 * p + i) (s (8 * p + i) - (if s (8 * q + i) < s (8 * p + i) then s (8 * q + i) else s (8 * p + i))))) (upd (upd s (8 * p + i) (s (8 * p + i) - (if s (8 * q + i) < s (8 * p + i) then s (8 * q + i) else s (8 * p + i)))) (8 * q + i) (s (8 * q + i) - (if s (8 * q + i) < s (8 * p + i) then s (8 * q + i) else s (8 * p + i)))), nI (sm (mn Z p q) i) + (if s (8 * q + i) < s (8 * p + i) then s (8 * q + i) else s (8 * p + i)), nI i + 1)) = _
        have ep : s (8 * p + i) = nI (Z (8 * p + i)) := by rw [hs _ (by omega), cz_p hi]
        have eq : s (8 * q + i) = nI (Z (8 * q + i)) := by rw [hs _ (by omega), cz_q hi]
        have em : (if s (8 * q + i) < s (8 * p + i) then s (8 * q + i) else s (8 * p + i)) = nI (mn Z p q i) := by
          have b1 := hv.le9 (k := 8 * p + i) (by omega)
          have b2 := hv.le9 (k := 8 * q + i) (by omega)
          rw [ep, eq]
          unfold mn
          by_cases c : Z (8 * q + i) < Z (8 * p + i)
          · rw [if_pos (nI_lt c (by omega)), Nat.min_eq_right (by omega)]
          · rw [if_neg (nI_nlt (by omega) (by omega)), Nat.min_eq_left (by omega)]
        rw [em, ep, eq, pk_sub (mn_l _ _ _ _), pk_sub (mn_r _ _ _ _), nI_add, nI_1, cs_cs, cs_cs]
        rfl
      · intro k hk
        rw [cz_s hi]
        unfold upd mn
        split
        · rfl
        · split
          · rfl
          · exact hs k hk
    · rintro _ ⟨s, rfl, hs⟩
      refine ⟨_, ?_, s, rfl, hs⟩
      unfold f4_cancel_b19
      exact if_pos (Int32.le_refl _)
  obtain ⟨r, h1, s, rfl, h3⟩ := key
  exact ⟨s, h1, h3⟩
theorem cancel_m {Z : Nat → Nat} {Y : MS} {p q : Nat} (hp : p < 3) (hq : q < 3) (hv : VZ Z) (h : MZ Y Z) : ∃ s, wh (f5_cancel_b41 (nI p) (nI q)) FU (Y, (0 : Int32), (0 : Int32)) = some (m_z_s Y s, nI (sm (mn Z p q) 8)) ∧ ∀ k, k < 26 → s k = nI (cz Z p q 8 k) := by
  have key : ∃ r, wh (f5_cancel_b41 (nI p) (nI q)) FU (Y, (0 : Int32), (0 : Int32)) = some r ∧ ∃ s, r = (m_z_s Y s, nI (sm (mn Z p q) 8)) ∧ ∀ k, k < 26 → s k = nI (cz Z p q 8 k) := by
    refine wh_inv 8 (by omega) (fun i z => ∃ s, z = (m_z_s Y s, nI (sm (mn Z p q) i), nI i) ∧ ∀ k, k < 26 → s k = nI (cz Z p q i k)) (fun r => ∃ s, r = (m_z_s Y s, nI (sm (mn Z p q) 8)) ∧ ∀ k, k < 26 → s k = nI (cz Z p q 8 k)) ⟨m_z Y, rfl, fun k hk => by rw [cz_0]; exact h k hk⟩ ?_ ?_
    · rintro i _ hi ⟨s, rfl, hs⟩
      refine Or.inl ⟨_, ?_, upd (upd s (8 * p + i) (nI (Z (8 * p + i) - mn Z p q i))) (8 * q + i) (nI (Z (8 * q + i) - mn Z p q i)), rfl, ?_⟩
      · have hM : MZ (m_z_s Y s) (cz Z p q i) := hs
        have ep : s (8 * p + i) = nI (Z (8 * p + i)) := by rw [hs _ (by omega), cz_p hi]
        have eq : s (8 * q + i) = nI (Z (8 * q + i)) := by rw [hs _ (by omega), cz_q hi]
        have b1 := hv.le9 (k := 8 * p + i) (by omega)
        have b2 := hv.le9 (k := 8 * q + i) (by omega)
        have hj : f5_cancel_j82 (nI p) (nI q) (m_z_s Y s) (nI (sm (mn Z p q) i)) (nI i) (nI (mn Z p q i)) = some (Sum.inl (m_z_s Y (upd (upd s (8 * p + i) (nI (Z (8 * p + i) - mn Z p q i))) (8 * q + i) (nI (Z (8 * q + i) - mn Z p q i))), nI (sm (mn Z p q) (i + 1)), nI (i + 1))) := by
          unfold f5_cancel_j82
          rw [e8, e8, if_pos (ib_n (by omega) (by omega)), if_pos (ib_n (by omega) (by omega)), if_pos (ib_n (by omega) (by omega)), if_pos (ib_n (by omega) (by omega)), tn (by omega), tn (by omega)]
          show some (Sum.inl (m_z_s (m_z_s (m_z_s Y s) (upd s (8 * p + i) (s (8 * p + i) - nI (mn Z p q i)))) (upd (upd s (8 * p + i) (s (8 * p + i) - nI (mn Z p q i))) (8 * q + i) (upd s (8 * p + i) (s (8 * p + i) - nI (mn Z p q i)) (8 * q + i) - (if nI p = nI q then 0 else nI (mn Z p q i)))), nI (sm (mn Z p q) i) + nI (mn Z p q i), nI i + 1)) = _
          have e2 : upd s (8 * p + i) (s (8 * p + i) - nI (mn Z p q i)) (8 * q + i) - (if nI p = nI q then 0 else nI (mn Z p q i)) = nI (Z (8 * q + i) - mn Z p q i) := by
            by_cases c : p = q
            · subst c
              rw [if_pos rfl, pk_us, ep, pk_sub (mn_l _ _ _ _)]
              exact (pk_sub (Nat.zero_le _)).trans (by rw [Nat.sub_zero])
            · rw [if_neg (fun e => c ((nI_eq (by omega) (by omega)).mp e)), pk_un (by omega), eq, pk_sub (mn_r _ _ _ _)]
          rw [e2, ep, pk_sub (mn_l _ _ _ _), nI_add, nI_1, zs_zs, zs_zs]
          rfl
        unfold f5_cancel_b41
        simp only
        rw [if_neg (show ¬ (8 : Int32) ≤ nI i from lge 8 hi), of_ok hM (by omega), bi1_s, of_ok hM (by omega), bi1_s, cz_p hi, cz_q hi, bi1_s, bi1_s]
        by_cases c : Z (8 * q + i) ≤ Z (8 * p + i)
        · rw [if_pos (nI_le c (by omega))]
          rw [show mn Z p q i = Z (8 * q + i) from Nat.min_eq_right c] at hj
          rw [hj]
          rw [show mn Z p q i = Z (8 * q + i) from Nat.min_eq_right c]
        · rw [if_neg (nI_ge (by omega) (by omega))]
          rw [show mn Z p q i = Z (8 * p + i) from Nat.min_eq_left (by omega)] at hj
          rw [hj]
          rw [show mn Z p q i = Z (8 * p + i) from Nat.min_eq_left (by omega)]
      · intro k hk
        rw [cz_s hi]
        unfold upd mn
        split
        · rfl
        · split
          · rfl
          · exact hs k hk
    · rintro _ ⟨s, rfl, hs⟩
      refine ⟨_, ?_, s, rfl, hs⟩
      unfold f5_cancel_b41
      exact if_pos (Int32.le_refl _)
  obtain ⟨r, h1, s, rfl, h3⟩ := key
  exact ⟨s, h1, h3⟩
theorem s4 (hS : Snd EP LP) : St4 (Rel EP LP) := by
  intro st ms hR x0 x1
  rcases ar x0 3 (by omega) with ⟨p, hp, rfl⟩ | h0
  · rcases ar x1 3 (by omega) with ⟨q, hq, rfl⟩ | h1
    · obtain ⟨Z, Hs, a1, a2, a3, a4, a5, a6, a7, a8, a9, a10⟩ := id hR
      obtain ⟨K, o, n, e1, e2⟩ := keep_c a2 a5
      obtain ⟨f, n', e3, e4⟩ := save_m (ms := m_thrown_s ms 0) (Z := Z) (Hs := Hs) a3 (MH_ts a6) a5.2.1
      obtain ⟨sc, c1, c2⟩ := cancel_c (Y := KS st K o n) hp hq a1 a2
      obtain ⟨sm', m1, m2⟩ := cancel_m (Y := SV (m_thrown_s ms 0) f n') hp hq a1 a3
      refine ⟨_, .inr (nI (sm (mn Z p q) 8)), _, nI (sm (mn Z p q) 8), 0, ?_, ?_, rfl, ?_, fun _ q => by cases q; rfl, ok_new hS (Z := cz Z p q 8) (fun k hk => Nat.le_trans cz_le (a1 k hk)) (st' := c_state_s (KS st K o n) sc) (ms' := m_z_s (SV (m_thrown_s ms 0) f n') sm') c2 m2 (psh_all a4 a1) (CH_cs e2) (MH_zs e4) (a7.m rfl rfl rfl rfl) (a8.m rfl rfl rfl rfl) rfl rfl⟩
      · show f4_cancel _ _ _ = _
        unfold f4_cancel
        rw [show f4_needIndex (nI p) 3 = _ from ni_in 3 hp, bt0_r, show f4_needIndex (nI q) 3 = _ from ni_in 3 hq, bt0_r, e1, bi1_s, c1, bi1_s]
      · show f5_cancel _ _ _ = _
        unfold f5_cancel
        rw [isP_in hp, isP_in hq]
        show (bi1 (f5_save (m_thrown_s ms 0)) fun st6 => _) = _
        rw [e3, bi1_s, m1, bi1_s]
      · rfl
    · refine ok_ref (e := 0) (v := 1) ?_ ?_ rfl hR
      · show f4_cancel _ _ _ = _
        unfold f4_cancel
        rw [show f4_needIndex (nI p) 3 = _ from ni_in 3 hp, bt0_r, show f4_needIndex x1 3 = _ from ni_out 3 h1, bt0_l]
      · show f5_cancel _ _ _ = _
        unfold f5_cancel
        rw [isP_in hp, isP_out h1]
        rfl
  · refine ok_ref (e := 0) (v := 1) ?_ ?_ rfl hR
    · show f4_cancel _ _ _ = _
      unfold f4_cancel
      rw [show f4_needIndex x0 3 = _ from ni_out 3 h0, bt0_l]
    · show f5_cancel _ _ _ = _
      unfold f5_cancel
      rw [isP_out h0]
      rfl
end PE
