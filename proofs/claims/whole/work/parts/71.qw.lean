/-! The digest: its loops. -/
theorem hs_z (ms : MS) (v : Int64) : m_z (m_hash_s ms v) = m_z ms := rfl
theorem hs_l (ms : MS) (v : Int64) : m_length (m_hash_s ms v) = m_length ms := rfl
section QW
variable {LP : CS → (Nat → Nat) → Prop} {st : CS} {ms : MS} {Z : Nat → Nat}
/-- the pictures belong together, and the mixture too -/
def DG (EP LP : CS → (Nat → Nat) → Prop) (st : CS) (h : Int64) (ms : MS) : Prop := Rel EP LP st ms ∧ m_hash ms = h
theorem DG.mix {EP LP : CS → (Nat → Nat) → Prop} {s : CS} {h : Int64} (g : DG EP LP s h ms) (x : Int64) : DG EP LP s (f4_mix h x) (f5_mix ms x) := ⟨g.1.hx x, by
  rw [mix_m, g.2]
  rfl⟩
theorem dg_count {EP : CS → (Nat → Nat) → Prop} (hS : Snd EP LQ) {h : Int64} (g : DG EP LQ st h ms) : ∃ (r : CS × Int64) (r' : MS), wh f4_digest_b6 FU (st, h, (0 : Int32)) = some r ∧ wh f5_digest_b14 FU (ms, (0 : Int32)) = some r' ∧ DG EP LQ r.1 r.2 r' := by
  refine wh_two 11 (by omega) (fun i z z' => ∃ s h m, z = (s, h, nI i) ∧ z' = (m, nI i) ∧ DG EP LQ s h m) _ ⟨st, h, ms, rfl, rfl, g⟩ ?_ ?_
  · rintro i _ _ hi ⟨s, h, m, rfl, rfl, g⟩
    obtain ⟨s2, m2, r, c1, c2, c3, c4, c5, c6, c7⟩ := count_ok hS g.1 hi
    refine Or.inl ⟨(s2, f4_mix h r.toInt64, nI (i + 1)), (f5_mix m2 r.toInt64, nI (i + 1)), ?_, ?_, _, _, _, rfl, rfl, DG.mix (ms := m2) ⟨c3, c7.trans g.2⟩ _⟩
    · unfold f4_digest_b6
      simp only
      rw [if_neg (show ¬ (10 : Int32) < nI i from show ¬ nI 10 < nI i from nI_nlt (by omega) (by omega)), c1, nx_r, bi2_s, nI_1]
    · unfold f5_digest_b14
      simp only
      rw [if_neg (show ¬ (11 : Int32) ≤ nI i from lge 11 hi), c2, bi2_s, nI_1]
  · rintro _ _ ⟨s, h, m, rfl, rfl, g⟩
    refine ⟨(s, h), m, ?_, ?_, g⟩
    · unfold f4_digest_b6
      simp only
      rw [if_pos (show (10 : Int32) < nI 11 by decide +kernel)]
    · unfold f5_digest_b14
      simp only
      rw [if_pos (show (11 : Int32) ≤ nI 11 from Int32.le_refl _)]
theorem dg_state_c (h : CZ st Z) (x : Int64) : wh (f4_digest_b57 st) FU (x, (0 : Int32)) = some (hx (fun i => (nI (Z i)).toInt64) x 24) := by
  refine wh_for' 24 (by omega) (fun i => (hx (fun i => (nI (Z i)).toInt64) x i, nI i)) rfl (fun i hi => ?_) ?_
  · unfold f4_digest_b57 f4_mix
    simp only
    rw [if_neg (show ¬ (24 : Int32) ≤ nI i from lge 24 hi), if_pos (ib_n (by omega) (by omega)), tn (by omega), h i (by omega), nI_1]
    rfl
  · unfold f4_digest_b57
    exact if_pos (Int32.le_refl _)
theorem dg_state_m (h : MZ ms Z) (x : Int64) : wh f5_digest_b62 FU (m_hash_s ms x, (0 : Int32)) = some (m_hash_s ms (hx (fun i => (nI (Z i)).toInt64) x 24)) := by
  refine wh_for' 24 (by omega) (fun i => (m_hash_s ms (hx (fun i => (nI (Z i)).toInt64) x i), nI i)) rfl (fun i hi => ?_) ?_
  · unfold f5_digest_b62
    simp only
    rw [if_neg (show ¬ (24 : Int32) ≤ nI i from lge 24 hi), if_pos (ib_n (by omega) (by omega)), tn (by omega), hs_z, h i (by omega), nI_1, mix_hs]
    rfl
  · unfold f5_digest_b62
    exact if_pos (Int32.le_refl _)
theorem dg_rests (hS : Snd EP LP) {h : Int64} (g : DG EP LP st h ms) : ∃ (r : CS × Int64) (r' : MS), wh f4_digest_b83 FU (st, h, (0 : Int32)) = some r ∧ wh f5_digest_b87 FU (ms, (0 : Int32)) = some r' ∧ DG EP LP r.1 r.2 r' := by
  refine wh_two 4 (by omega) (fun i z z' => ∃ s h m, z = (s, h, nI i) ∧ z' = (m, nI i) ∧ DG EP LP s h m) _ ⟨st, h, ms, rfl, rfl, g⟩ ?_ ?_
  · rintro i _ _ hi ⟨s, h, m, rfl, rfl, g⟩
    obtain ⟨Z, Hs, z1, z2, z3, _⟩ := id g.1
    have g1 := g.mix (rs Z i).toInt64
    obtain ⟨s2, m2, r, c1, c2, c3, c4⟩ := solutions_ok hS g1.1 hi
    have g2 : DG EP LP s2 _ m2 := ⟨c3, c4.trans g1.2⟩
    have g3 := g2.mix r.toInt64
    obtain ⟨s3, m3, t, d1, d2, d3, d4⟩ := ifMore_ok hS g3.1 hi
    have g4 : DG EP LP s3 _ m3 := ⟨d3, d4.trans g3.2⟩
    refine Or.inl ⟨(s3, f4_mix (f4_mix (f4_mix h (rs Z i).toInt64) r.toInt64) t, nI (i + 1)), (f5_mix m3 t, nI (i + 1)), ?_, ?_, _, _, _, rfl, rfl, g4.mix t⟩
    · unfold f4_digest_b83
      simp only
      rw [if_neg (show ¬ (4 : Int32) ≤ nI i from lge 4 hi), rs_c z2 hi, bi1_s, c1, nx_r, bi2_s, d1, nx_r, bi2_s, nI_1]
    · unfold f5_digest_b87
      simp only
      rw [if_neg (show ¬ (4 : Int32) ≤ nI i from lge 4 hi), rs_m z3 hi, bi1_s, c2, bi2_s, d2, bi2_s, nI_1]
  · rintro _ _ ⟨s, h, m, rfl, rfl, g⟩
    refine ⟨(s, h), m, ?_, ?_, g⟩
    · unfold f4_digest_b83
      simp only
      rw [if_pos (show (4 : Int32) ≤ nI 4 from Int32.le_refl _)]
    · unfold f5_digest_b87
      simp only
      rw [if_pos (show (4 : Int32) ≤ nI 4 from Int32.le_refl _)]
theorem dg_short (hS : Snd EP LP) {h : Int64} (g : DG EP LP st h ms) : ∃ (r : CS × Int64) (r' : MS), wh f4_digest_b161 FU (st, h, (0 : Int32)) = some r ∧ wh f5_digest_b220 FU (ms, (0 : Int32)) = some r' ∧ DG EP LP r.1 r.2 r' := by
  refine wh_two 4 (by omega) (fun i z z' => ∃ s h m, z = (s, h, nI i) ∧ z' = (m, nI i) ∧ DG EP LP s h m) _ ⟨st, h, ms, rfl, rfl, g⟩ ?_ ?_
  · rintro i _ _ hi ⟨s, h, m, rfl, rfl, g⟩
    obtain ⟨s2, m2, r, c1, c2, c3, c4⟩ := shortest_ok hS g.1 hi
    have g2 : DG EP LP s2 _ m2 := ⟨c3, c4.trans g.2⟩
    refine Or.inl ⟨(s2, f4_mix h r.toInt64, nI (i + 1)), (f5_mix m2 r.toInt64, nI (i + 1)), ?_, ?_, _, _, _, rfl, rfl, g2.mix _⟩
    · unfold f4_digest_b161
      simp only
      rw [if_neg (show ¬ (4 : Int32) ≤ nI i from lge 4 hi), c1, nx_r, bi2_s, nI_1]
    · unfold f5_digest_b220
      simp only
      rw [if_neg (show ¬ (4 : Int32) ≤ nI i from lge 4 hi), c2, bi2_s, nI_1]
  · rintro _ _ ⟨s, h, m, rfl, rfl, g⟩
    refine ⟨(s, h), m, ?_, ?_, g⟩
    · unfold f4_digest_b161
      simp only
      rw [if_pos (show (4 : Int32) ≤ nI 4 from Int32.le_refl _)]
    · unfold f5_digest_b220
      simp only
      rw [if_pos (show (4 : Int32) ≤ nI 4 from Int32.le_refl _)]
/-- the text is mixed in -/
theorem dg_text (hT : TX st ms) (x : Int64) : ∃ y, wh (f4_digest_b210 st) FU (x, (0 : Int32)) = some y ∧ wh f5_digest_b263 FU (m_hash_s ms x, (0 : Int32)) = some (m_hash_s ms y) ∧ f3_size st = m_length ms := by
  obtain ⟨n, hn, e1, e2, hc⟩ := hT
  refine ⟨hx (fun i => (m_text ms i).toInt64) x n, ?_, ?_, e1.trans e2.symm⟩
  · refine wh_for' n (by omega) (fun i => (hx (fun i => (m_text ms i).toInt64) x i, nI i)) rfl (fun i hi => ?_) ?_
    · obtain ⟨a, a1, a2, a3, a4⟩ := hc i hi
      unfold f4_digest_b210 f3_codeAt f3_size f4_mix
      simp only
      rw [e1, if_neg (nI_ge hi (by omega)), if_neg (nI_pos (by omega)), if_neg (nI_ge hi (by omega)), if_pos (ib_n (by omega) (by omega)), bi1_s, tn (by omega), a3, nI_1, hx, a4]
    · unfold f4_digest_b210 f3_size
      simp only
      rw [e1, if_pos (Int32.le_refl _)]
  · refine wh_for' n (by omega) (fun i => (m_hash_s ms (hx (fun i => (m_text ms i).toInt64) x i), nI i)) rfl (fun i hi => ?_) ?_
    · unfold f5_digest_b263
      simp only
      rw [hs_l, e2, if_neg (nI_ge hi (by omega)), if_pos (ib_n (by omega) (by omega)), tn (by omega), nI_1, mix_hs]
      rfl
    · unfold f5_digest_b263
      simp only
      rw [hs_l, e2, if_pos (Int32.le_refl _)]
end QW
