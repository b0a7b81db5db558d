/-! ifMore: the call. -/
theorem ar19 (x : Int32) : (∃ k, k < 19 ∧ x = nI k - 9) ∨ (x < (-9 : Int32) ∨ (9 : Int32) < x) := by
  have e : x = Int32.ofInt x.toInt := (Int32.ofInt_toInt x).symm
  by_cases h : -9 ≤ x.toInt ∧ x.toInt ≤ 9
  · refine Or.inl ⟨(x.toInt + 9).toNat, by omega, ?_⟩
    obtain ⟨n, hn, h2⟩ : ∃ n : Nat, n < 19 ∧ x.toInt = (n : Int) - 9 := ⟨(x.toInt + 9).toNat, by omega, by omega⟩
    rw [show (x.toInt + 9).toNat = n by omega, e, h2]
    exact (by decide +kernel : ∀ n : Nat, n < 19 → Int32.ofInt ((n : Int) - 9) = nI n - 9) n hn
  · refine Or.inr ?_
    rw [Int32.lt_iff_toInt_lt, Int32.lt_iff_toInt_lt, show (-9 : Int32).toInt = -9 by decide +kernel, show (9 : Int32).toInt = 9 by decide +kernel]
    omega
theorem in19 : ∀ k, k < 19 → f4_needNumber (nI k - 9) (-9) 9 = .inr () ∧ f5_within (nI k - 9) (-9) 9 = 1 := by decide +kernel
theorem out19 {x : Int32} (h : x < (-9 : Int32) ∨ (9 : Int32) < x) : f4_needNumber x (-9) 9 = .inl 1 ∧ f5_within x (-9) 9 = 0 := by
  unfold f4_needNumber f5_within
  rcases h with h | h
  · rw [if_pos h, if_pos h]
    exact ⟨rfl, rfl⟩
  · by_cases q : x < (-9 : Int32)
    · rw [if_pos q, if_pos q]
      exact ⟨rfl, rfl⟩
    · rw [if_neg q, if_neg q, if_neg (Int32.not_le.mpr h), if_pos h]
      exact ⟨rfl, rfl⟩
section QC
variable {LP : CS → (Nat → Nat) → Prop} {st : CS} {ms : MS}
/-- the class has its tables, and may go on with them -/
theorem Rel.pr (hS : Snd EP LP) (h : Rel EP LP st ms) : ∃ s Z, f0_prepare st = some s ∧ VZ Z ∧ CZ s Z ∧ MZ ms Z ∧ EPt s Z ∧ csame st s ∧ lsame st s ∧ ∀ s' ms', csame s s' → lsame s s' → EPt s' Z → msame ms ms' → Rel EP LP s' ms' := by
  obtain ⟨Z, Hs, h1, h2, h3, h4, h5, h6, h7, h8, h9, h10⟩ := h
  obtain ⟨s, e1, e2, e3, e4⟩ := prepare_c h2 h1 h9
  refine ⟨s, Z, e1, h1, h2.m e2.1, h3, e4, e2, e3, fun s' ms' g1 g2 g3 g4 => ?_⟩
  have g := e2.t g1
  exact ⟨Z, Hs, h1, h2.m g.1, h3.m g4.1, h4, h5.m g.2.1 g.2.2.1 g.2.2.2.1, h6.m g4.2.1 g4.2.2.1, h7.m g.2.2.2.2.1 g.2.2.2.2.2.1 g4.2.2.2.2.1 g4.2.2.2.1, h8.m g.2.2.2.2.2.2.1 g.2.2.2.2.2.2.2 g4.2.2.2.2.2.1 g4.2.2.2.2.2.2, Or.inr g3, hS.2.2.2 st _ _ (e3.t g2) h10⟩
theorem s22 (hS : Snd EP LP) : St22 (Rel EP LP) := by
  intro st ms hR x0 x1
  rcases ar x0 4 (by omega) with ⟨c, hc, rfl⟩ | h0
  · rcases ar19 x1 with ⟨k, hk, rfl⟩ | h1
    · obtain ⟨s, Z, p1, p2, p3, p4, p5, p6, p7, p8⟩ := hR.pr hS
      obtain ⟨i1, i2⟩ := in19 k hk
      obtain ⟨s2, m1, m2, m3, m4⟩ := more_m (ms := m_thrown_s ms 0) (Z := Z) p4 p2 (c := c) hk
      obtain ⟨s3, c1, c2, c3, c4⟩ := more_c p2 p5 hc hk
      refine ⟨s3, .inr (lN (Wk (xr Z (nI c) (nI k - 9)) (yM (PT Z)) 4 0)), s2, lN (Wk (xr Z (nI c) (nI k - 9)) (yM (PT Z)) 4 0), 0, ?_, ?_, rfl, m3, fun _ q => by cases q; rfl, p8 s3 s2 c2 c3 c4 ((msame_t ms 0).t m2)⟩
      · show f4_ifMore st (nI c) (nI k - 9) = _
        unfold f4_ifMore
        rw [show f4_needIndex (nI c) 4 = _ from ni_in 4 hc, bt0_r, i1, bt0_r, p1, bi1_s, rs_c p3 hc, bi1_s, c1, bi2_s]
      · show f5_ifMore ms (nI c) (nI k - 9) = _
        unfold f5_ifMore
        rw [isC_in hc, i2]
        show (bi2 (f5_moreThen (m_thrown_s ms 0) (nI c) (nI k - 9)) fun st6 r7 => some (st6, r7)) = _
        rw [m1, bi2_s]
    · obtain ⟨i1, i2⟩ := out19 h1
      refine okJ_ref (e := 1) (v := 2) ?_ ?_ rfl hR
      · show f4_ifMore _ _ _ = _
        unfold f4_ifMore
        rw [show f4_needIndex (nI c) 4 = _ from ni_in 4 hc, bt0_r, i1, bt0_l]
      · show f5_ifMore _ _ _ = _
        unfold f5_ifMore
        rw [isC_in hc, i2]
        rfl
  · refine okJ_ref (e := 0) (v := 1) ?_ ?_ rfl hR
    · show f4_ifMore _ _ _ = _
      unfold f4_ifMore
      rw [show f4_needIndex x0 4 = _ from ni_out 4 h0, bt0_l]
    · show f5_ifMore _ _ _ = _
      unfold f5_ifMore
      rw [isC_out h0]
      rfl
end QC
