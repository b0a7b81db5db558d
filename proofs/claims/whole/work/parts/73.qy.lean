/-! digest; a new object. -/
theorem LQ_same {s s' : CS} {Z : Nat → Nat} (e : lsame s s') (h : LQ s Z) : LQ s' Z := by
  obtain ⟨e1, e2, e3, e4⟩ := e
  unfold LQ LPt at *
  rw [e1, e2, e3, e4]
  exact h
theorem snd : Snd EP LQ := ⟨fun _ _ h => Or.inl h, fun _ _ h => Or.inl h, fun _ _ _ e h => EP_same e h, fun _ _ _ e h => LQ_same e h⟩
/-- the numbers of a new object -/
def Z0 (k : Nat) : Nat := if k = 24 then 1 else if k = 25 then 9 else 0
theorem Z0_s : ∀ k, upd (upd (fun _ => (0 : Int32)) (24 : Int32).toNatClampNeg (1 : Int32)) (25 : Int32).toNatClampNeg (9 : Int32) k = nI (Z0 k) := by
  intro k
  show upd (upd (fun _ => (0 : Int32)) 24 1) 25 9 k = _
  unfold upd Z0
  by_cases q : k = 25
  · subst q
    rfl
  · rw [if_neg q, if_neg q]
    by_cases w : k = 24
    · rw [if_pos w, if_pos w]
      rfl
    · rw [if_neg w, if_neg w]
      rfl
theorem rel_0 : Rel EP LQ c_0 m_0 := by
  refine ⟨Z0, [], fun k hk => ?_, fun k _ => Z0_s k, fun k _ => Z0_s k, fun W h => (by cases h), ⟨rfl, Nat.zero_le _, 0, by omega, rfl, fun j W h => by cases h⟩, ⟨rfl, fun j W h => by cases h⟩, fun s _ => Or.inl ⟨rfl, rfl⟩, ⟨0, Nat.zero_le _, rfl, rfl, fun i h => absurd h (Nat.not_lt_zero _)⟩, Or.inl rfl, Or.inl rfl⟩
  unfold Z0 bd
  repeat' split
  all_goals omega
theorem s26 : St26 (Rel EP LQ) := by
  intro st ms hR
  have hS := snd
  have g0 : DG EP LQ st 2593 (m_hash_s (m_thrown_s ms 0) 2593) := ⟨(hR.t 0).m (hs_same _ _), rfl⟩
  obtain ⟨⟨s1, h1⟩, m1, a1, a2, g1⟩ := dg_count hS g0
  have g1 : DG EP LQ s1 h1 m1 := g1
  obtain ⟨Z, Hs, z1, z2, z3, _⟩ := id g1.1
  have e24 : c_state s1 (24 : Int32).toNatClampNeg = nI (Z 24) := z2 24 (by omega)
  have e25 : c_state s1 (25 : Int32).toNatClampNeg = nI (Z 25) := z2 25 (by omega)
  have k24 : m_z m1 (24 : Int32).toNatClampNeg = nI (Z 24) := z3 24 (by omega)
  have k25 : m_z (f5_mix m1 (nI (Z 24)).toInt64) (25 : Int32).toNatClampNeg = nI (Z 25) := z3 25 (by omega)
  obtain ⟨H, hH⟩ : ∃ H, H = f4_mix (f4_mix h1 (nI (Z 24)).toInt64) (nI (Z 25)).toInt64 := ⟨_, rfl⟩
  have em : f5_mix (f5_mix m1 (nI (Z 24)).toInt64) (nI (Z 25)).toInt64 = m_hash_s m1 H := by
    rw [mix_m m1, mix_hs, g1.2, hH]
    rfl
  have b1 := dg_state_c z2 H
  have b2 := dg_state_m (ms := m1) z3 H
  obtain ⟨H2, hH2⟩ : ∃ H2, H2 = hx (fun i => (nI (Z i)).toInt64) H 24 := ⟨_, rfl⟩
  rw [← hH2] at b1 b2
  have g2 : DG EP LQ s1 H2 (m_hash_s m1 H2) := ⟨g1.1.m (hs_same _ _), rfl⟩
  obtain ⟨⟨s2, h2⟩, m2, c1, c2, g3⟩ := dg_rests hS g2
  have g3 : DG EP LQ s2 h2 m2 := g3
  obtain ⟨s3, m3, r3, d1, d2, d3, d4⟩ := matchers_ok hS g3.1 (k := 0) (by omega)
  have g4 : DG EP LQ s3 h2 m3 := ⟨d3, d4.trans g3.2⟩
  have g5 := g4.mix r3
  obtain ⟨s4, m4, r4, e1, e2, e3, e4⟩ := matchers_ok hS g5.1 (k := 1) (by omega)
  have g6 : DG EP LQ s4 _ m4 := ⟨e3, e4.trans g5.2⟩
  have g7 := g6.mix r4
  obtain ⟨s5, h5, m5, t5, m6, f1, f2, f3, g8⟩ := dg_match hS g7
  obtain ⟨s6, h6, m7, m8, t8, i1, i2, i3, g9⟩ := dg_least hS g8
  obtain ⟨⟨s7, h7⟩, m9, j1, j2, g10⟩ := dg_short hS g9
  have g10 : DG EP LQ s7 h7 m9 := g10
  obtain ⟨Y, Hs', y1, y2, y3, y4, y5, y6, y7, y8, _⟩ := id g10.1
  obtain ⟨o1, o2⟩ := sv_ok y1
  have p1 := share_c y2 y1
  have p2 := share_m y3 y1
  have p3 : fJ_doubleToLongBits (sv Y) = some (sv Y).toInt64 := by
    unfold fJ_doubleToLongBits fJ_isNaN
    rw [if_pos o1, bi1_s, if_pos rfl]
  obtain ⟨y, q1, q2, q3⟩ := dg_text y8 (f4_mix (f4_mix h7 (sv Y).toInt64) (f3_size s7).toInt64)
  have en : f5_mix (f5_mix m9 (sv Y).toInt64) (m_length (f5_mix m9 (sv Y).toInt64)).toInt64 = m_hash_s m9 (f4_mix (f4_mix h7 (sv Y).toInt64) (f3_size s7).toInt64) := by
    rw [mix_m m9, hs_l, mix_hs, g10.2, q3]
    rfl
  refine ⟨s7, y, m_hash_s m9 y, y, ?_, ?_, rfl, g10.1.m (hs_same _ _)⟩
  · unfold f4_digest
    rw [a1, bi1_s, lq_e, lq_e]
    dsimp only
    rw [e24, e25, ← hH, b1, bi1_s, c1, bi1_s]
    dsimp only
    rw [show f4_matchers s2 0 = _ from d1, nx_r, bi2_s, show f4_matchers s3 1 = _ from e1, nx_r, bi2_s, f1, bi2_s, i1, bi2_s, j1, bi1_s]
    dsimp only
    rw [p1, bi1_s, o2, bi1_s, q1, bi1_s]
  · unfold f5_digest
    rw [a2, bi1_s, k24, k25, em, b2, bi1_s, c2, bi1_s, show f5_matchersBy m2 0 = _ from d2, bi2_s, show f5_matchersBy (f5_mix m3 r3) 1 = _ from e2, bi2_s, f2, bi2_s, f3, bi1_s, i2, bi1_s, i3, bi2_s, j2, bi1_s, p2, bi1_s, p3, bi1_s, en, q2, bi1_s]
    rfl
