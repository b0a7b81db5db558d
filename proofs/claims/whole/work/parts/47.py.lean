/-! matchers. -/
section PY
variable {LP : CS → (Nat → Nat) → Prop} {st : CS} {ms : MS}
theorem ne4 : ∀ p, p < 4 → ¬ nI p = (4 : Int32) := by decide +kernel
theorem bySets_c {s : CS} {Z : Nat → Nat} (hv : VZ Z) (h : EPt s Z) : f0_bySets s = some (lN (Wk (xs Z) (yM (PT Z)) 4 0)) := by
  unfold f0_bySets
  rw [sets_c (x := xs Z) h.2.1 h.2.2.1 (fun p hp => ⟨p, by omega, if_neg (ne4 p hp), (h.2.2.2.1 p hp).2.2.2⟩) (xs_out hv), bi1_s]
theorem okJ_ref {f : CS → Option (CS × (Nat ⊕ Int64))} {h : MS → Option (MS × Int64)} {L : List Nat} {e : Nat} {v : Int32} {EP LP : CS → (Nat → Nat) → Prop} (hf : f st = some (st, .inl e)) (hh : h ms = some (m_thrown_s ms v, 0)) (hv : hco L (.inl e : Nat ⊕ Int64) = some v) (hR : Rel EP LP st ms) : okJ f h L (Rel EP LP) st ms :=
  ⟨st, .inl e, m_thrown_s ms v, 0, v, hf, hh, hv, rfl, fun _ q => (nomatch q), hR.t v⟩
theorem s16 (hS : Snd EP LP) : St16 (Rel EP LP) := by
  intro st ms hR x0
  rcases ar x0 2 (by omega) with ⟨k, hk, rfl⟩ | h0
  · obtain ⟨s, Z, p1, p2, p3, p4, p5, p6, p7⟩ := hR.prep hS
    have hm : ∃ s', f5_matchersBy (m_thrown_s ms 0) (nI k) = some (s', lN (Wk (xs Z) (yM (PT Z)) 4 0)) ∧ msame (m_thrown_s ms 0) s' ∧ m_thrown s' = 0 := by
      unfold f5_matchersBy
      rcases (show k = 0 ∨ k = 1 by omega) with rfl | rfl
      · obtain ⟨s', k1, k2, k3, _⟩ := bySets_m (ms := m_thrown_s ms 0) (Z := Z) p5 p3
        rw [if_pos (show nI 0 = (0 : Int32) from rfl), k1, bi2_s]
        exact ⟨s', rfl, k2, k3⟩
      · obtain ⟨s', k1, k2⟩ := now_m (ms := m_thrown_s ms 0) (Z := Z) p5 p3
        obtain ⟨k3, k4, _⟩ := k2.same
        rw [if_neg (show ¬ nI 1 = (0 : Int32) by decide +kernel), k1, bi2_s]
        exact ⟨s', rfl, k3, k4⟩
    obtain ⟨s', k1, k2, k3⟩ := hm
    refine ⟨s, .inr (lN (Wk (xs Z) (yM (PT Z)) 4 0)), s', lN (Wk (xs Z) (yM (PT Z)) 4 0), 0, ?_, ?_, rfl, k3, fun _ q => by cases q; rfl, p2.m ((msame_t ms 0).t k2)⟩
    · show f4_matchers st (nI k) = _
      unfold f4_matchers
      rw [show f4_needNumber (nI k) 0 1 = _ from nn_in 1 (by omega), bt0_r, p1, bi1_s]
      rcases (show k = 0 ∨ k = 1 by omega) with rfl | rfl
      · rw [if_pos (show nI 0 = (0 : Int32) from rfl), bySets_c p3 p6, bi1_s]
      · rw [if_neg (show ¬ nI 1 = (0 : Int32) by decide +kernel), byConstants_c p3 p6, bi1_s]
    · show f5_matchers ms (nI k) = _
      unfold f5_matchers
      rw [show f5_within (nI k) 0 1 = _ from wi_in 1 (by omega)]
      show (bi2 (f5_matchersBy (m_thrown_s ms 0) (nI k)) fun st6 r7 => some (st6, r7)) = _
      rw [k1, bi2_s]
  · refine okJ_ref (e := 1) (v := 1) ?_ ?_ rfl hR
    · show f4_matchers _ _ = _
      unfold f4_matchers
      rw [show f4_needNumber x0 0 1 = _ from nn_out 1 h0, bt0_l]
    · show f5_matchers _ _ = _
      unfold f5_matchers
      rw [show f5_within x0 0 1 = _ from wi_out 1 h0]
      rfl
end PY
