/-! rewrite. -/
section QI
variable {LP : CS → (Nat → Nat) → Prop} {st : CS} {ms : MS} {Z : Nat → Nat}
/-- the subject that a rewriting gives -/
def dw (Z : Nat → Nat) (k i : Nat) : Nat := if i < 4 then rwn Z k i else 0
theorem dw_lt (hv : VZ Z) (k i : Nat) : dw Z k i < 10000 := by
  unfold dw
  split
  · rename_i h
    exact rwn_lt hv k h
  · omega
theorem fits_dw (k : Nat) : fits (dw Z k) 2 ↔ ∀ c, c < 4 → rwn Z k c ≤ 9 := by
  constructor
  · intro h c hc
    have := h c (by omega)
    unfold dw bd at this
    rw [if_pos hc, if_pos (by omega)] at this
    exact this
  · intro h i hi
    unfold dw
    by_cases q : i < 4
    · rw [if_pos q]
      unfold bd
      rw [if_pos (by omega)]
      exact h i q
    · rw [if_neg q]
      exact Nat.zero_le _
theorem draft_c (h : CZ st Z) (hv : VZ Z) {k : Nat} (hk : k < Wk (xs Z) (yC Z) 4 0) (hC : CC Z k (c_choice st) 4) : ∃ g, wh f4_rewrite_b24 FU (st, (0 : Int32)) = some (c_draft_s st g) ∧ ∀ i, i < 8 → g i = nI (dw Z k i) := by
  have key : ∃ s, wh f4_rewrite_b24 FU (st, (0 : Int32)) = some s ∧ ∃ g, s = c_draft_s st g ∧ ∀ i, i < 8 → g i = nI (dw Z k i) := by
    refine wh_inv 8 (by omega) (fun i z => ∃ g, z = (c_draft_s st g, nI i) ∧ ∀ j, j < i → g j = nI (dw Z k j)) _ ⟨c_draft st, rfl, fun j q => by omega⟩ ?_ ?_
    · rintro i _ hi ⟨g, rfl, hg⟩
      refine Or.inl ⟨(c_draft_s st (upd g i (nI (dw Z k i))), nI (i + 1)), ?_, upd g i (nI (dw Z k i)), rfl, fun j hj => ?_⟩
      · unfold f4_rewrite_b24
        simp only
        rw [if_neg (show ¬ (8 : Int32) ≤ nI i from lge 8 hi), if_pos (ib_n hi (by omega)), nI_1, tn (by omega)]
        by_cases q : i < 4
        · rw [if_neg (show ¬ (4 : Int32) ≤ nI i from lge 4 q), rewritten_c (st := c_draft_s st g) h hv hk hC q, bi1_s, if_pos (ib_n hi (by omega)), show dw Z k i = rwn Z k i from if_pos q]
          rfl
        · rw [if_pos (show (4 : Int32) ≤ nI i from nI_le (a := 4) (by omega) (by omega)), show dw Z k i = 0 from if_neg q]
          rfl
      · by_cases e : j = i
        · rw [e, pk_us]
        · rw [pk_un e]
          exact hg j (by omega)
    · rintro _ ⟨g, rfl, hg⟩
      refine ⟨_, ?_, g, rfl, hg⟩
      unfold f4_rewrite_b24
      exact if_pos (Int32.le_refl _)
  obtain ⟨s, k1, g, rfl, k2⟩ := key
  exact ⟨g, k1, k2⟩
theorem tooMuch_m (h : MZ ms Z) (hv : VZ Z) {k : Nat} (hC : CV Z k (m_values ms) 4) : (fits (dw Z k) 2 ∧ f5_isTooMuch ms = some 0) ∨ (¬ fits (dw Z k) 2 ∧ f5_isTooMuch ms = some 1) := by
  have key : ∃ r, wh (f5_isTooMuch_b4 ms) FU ((0 : Int32), (0 : Int32)) = some r ∧ ((r = 0 ∧ ∀ c, c < 4 → rwn Z k c ≤ 9) ∨ (r = 1 ∧ ¬ ∀ c, c < 4 → rwn Z k c ≤ 9)) := by
    refine wh_inv 4 (by omega) (fun i z => ∃ a, z = (a, nI i) ∧ ((a = 0 ∧ ∀ c, c < i → rwn Z k c ≤ 9) ∨ (a = 1 ∧ ¬ ∀ c, c < 4 → rwn Z k c ≤ 9))) _ ⟨0, rfl, Or.inl ⟨rfl, fun v q => by omega⟩⟩ ?_ ?_
    · rintro i _ hi ⟨a, rfl, hN⟩
      have hb := rwn_lt hv k hi
      refine Or.inl ?_
      unfold f5_isTooMuch_b4
      simp only
      rw [if_neg (show ¬ (4 : Int32) ≤ nI i from lge 4 hi), rewritten_m (fun k hk => h k (by omega)) hC hi, bi1_s, nI_1]
      rcases hN with ⟨rfl, hN⟩ | ⟨rfl, hF⟩
      · rw [if_pos rfl]
        by_cases q : rwn Z k i ≤ 9
        · rw [if_pos (show nI (rwn Z k i) ≤ (9 : Int32) from nI_le (b := 9) q (by omega))]
          refine ⟨_, rfl, 0, rfl, Or.inl ⟨rfl, fun c hc => ?_⟩⟩
          by_cases e : c = i
          · subst e
            exact q
          · exact hN c (by omega)
        · rw [if_neg (show ¬ nI (rwn Z k i) ≤ (9 : Int32) from nI_ge (a := 9) (by omega) (by omega))]
          exact ⟨_, rfl, 1, rfl, Or.inr ⟨rfl, fun z => q (z i hi)⟩⟩
      · rw [if_neg (show ¬ (1 : Int32) = 0 by decide +kernel)]
        exact ⟨_, rfl, 1, rfl, Or.inr ⟨rfl, hF⟩⟩
    · rintro _ ⟨a, rfl, hN⟩
      refine ⟨a, ?_, hN⟩
      unfold f5_isTooMuch_b4
      exact if_pos (Int32.le_refl _)
  obtain ⟨r, k1, k2⟩ := key
  unfold f5_isTooMuch
  rw [k1, bi1_s, fits_dw]
  rcases k2 with ⟨rfl, k3⟩ | ⟨rfl, k3⟩
  · exact Or.inl ⟨k3, rfl⟩
  · exact Or.inr ⟨k3, rfl⟩
theorem put_m (h : MZ ms Z) (hv : VZ Z) {k : Nat} (hC : CV Z k (m_values ms) 4) : ∃ s, wh f5_rewrite_b67 FU (ms, (0 : Int32)) = some (m_z_s ms s) ∧ ∀ j, j < 26 → s j = nI (pz Z 2 (dw Z k) 8 j) := by
  have key : ∃ r, wh f5_rewrite_b67 FU (ms, (0 : Int32)) = some r ∧ ∃ s, r = m_z_s ms s ∧ ∀ j, j < 26 → s j = nI (pz Z 2 (dw Z k) 4 j) := by
    refine wh_inv 4 (by omega) (fun i z => ∃ s, z = (m_z_s ms s, nI i) ∧ ∀ j, j < 26 → s j = nI (pz Z 2 (dw Z k) i j)) _ ⟨m_z ms, rfl, fun j hj => by rw [pz_0]; exact h j hj⟩ ?_ ?_
    · rintro i _ hi ⟨s, rfl, hs⟩
      refine Or.inl ⟨(m_z_s ms (upd s (8 * 2 + i) (nI (rwn Z k i))), nI (i + 1)), ?_, _, rfl, upd_pz hs (by rw [show dw Z k i = rwn Z k i from if_pos hi])⟩
      unfold f5_rewrite_b67
      simp only
      rw [if_neg (show ¬ (4 : Int32) ≤ nI i from lge 4 hi), rewritten_m (ms := m_z_s ms s) (Z := Z) (k := k) (fun j hj => (hs j (by omega)).trans (by rw [show pz Z 2 (dw Z k) i j = Z j from if_neg (by omega)])) hC hi, bi1_s, show (16 : Int32) + nI i = nI (8 * 2 + i) from nI_add 16 i, if_pos (ib_n (by omega) (by omega)), tn (by omega), nI_1]
      rfl
    · rintro _ ⟨s, rfl, hs⟩
      refine ⟨_, ?_, s, rfl, hs⟩
      unfold f5_rewrite_b67
      exact if_pos (Int32.le_refl _)
  obtain ⟨r, k1, s, rfl, k2⟩ := key
  refine ⟨s, k1, fun j hj => ?_⟩
  rw [k2 j hj]
  unfold pz
  by_cases q : 8 * 2 ≤ j ∧ j < 8 * 2 + 4
  · rw [if_pos q, if_pos (by omega)]
  · rw [if_neg q]
    by_cases w : 8 * 2 ≤ j ∧ j < 8 * 2 + 8
    · rw [if_pos w, show dw Z k (j - 8 * 2) = 0 from if_neg (by omega)]
      have := hv j hj
      unfold bd at this
      rw [if_neg (by omega), if_neg (by omega), if_neg (by omega), if_neg (by omega)] at this
      rw [show Z j = 0 by omega]
    · rw [if_neg w]
theorem s3 (hS : Snd EP LP) : St3 (Rel EP LP) := by
  intro st ms hR x0
  rcases need hS hR x0 with ⟨s, Z, k, Hs, rfl, hk2, hk, n1, n2, n3, n4, n5, n6, ⟨s', n7, n8, n9, n10⟩, q1, q2, q3, q4, q5⟩ | ⟨s, s', n1, n2, n3, n4, n5, _⟩
  · obtain ⟨s2, l1, l2, l3, l4, l5⟩ := layMatcher_m (ms := m_thrown_s s' 0) (Z := Z) (n5.m n8.1) n3 hk hk2
    have hM2 : MZ s2 Z := (n5.m n8.1).m l2.1
    have hs2 : msame ms s2 := (n8.t (msame_t s' 0)).t l2
    have hRn : Rel EP LP s s2 := n6.m hs2
    obtain ⟨g, g1, g2⟩ := draft_c n4 n3 hk n2
    have hb : ∀ i, i < 8 → dw Z k i < 10000 := fun i _ => dw_lt n3 k i
    have hm : f5_rewrite ms (nI k) = bi1 (f5_isStrange s2) fun r30 => (if r30 = 0 then (bi1 (f5_isTooMuch s2) fun r33 => f5_rewrite_j52 (m_thrown_s s2 (if r33 = 0 then (0 : Int32) else (2 : Int32)))) else f5_rewrite_j52 (m_thrown_s s2 (2 : Int32))) := by
      unfold f5_rewrite
      rw [n7, bi2_s, if_neg one_ne, if_pos rfl, l1, bi1_s]
    have hcl : f4_rewrite st (nI k) = bi1 (f4_hasForeignVariable s) fun r5 => (if r5 = 0 then (bi1 (wh (f4_rewrite_b24) FU (s, (0 : Int32))) fun w23 => (bt2 (f4_putDraft w23 (2 : Int32)) fun st21 r22 => some (st21, .inr r22))) else some (s, .inl 2)) := by
      unfold f4_rewrite
      rw [n1, bt2_r]
    rcases foreign_c n4 n3 with ⟨hF, e1⟩ | ⟨hF, e1⟩
    · rcases strange_m hM2 n3 with ⟨_, e2⟩ | ⟨hF2, e2⟩
      · exact ⟨s, .inl 2, m_thrown_s s2 2, 0, 2, hcl.trans (by rw [e1, bi1_s, if_neg one_ne]), hm.trans (by rw [e2, bi1_s, if_neg one_ne]; rfl), rfl, rfl, fun _ q => (nomatch q), hRn.t 2⟩
      · exact absurd hF hF2
    · rcases strange_m hM2 n3 with ⟨hF2, e2⟩ | ⟨_, e2⟩
      · exact absurd hF2 hF
      · rcases tooMuch_m hM2 n3 l5 with ⟨hf, e3⟩ | ⟨hf, e3⟩
        · obtain ⟨K, o, n, t, a1, a2, a3⟩ := putDraft_ok (st := c_draft_s s g) (d := dw Z k) (Z := Z) (Hs := Hs) n4 (q2.m rfl rfl rfl) (p := 2) (by omega) g2 hb hf
          obtain ⟨f, n', a4, a5⟩ := save_m (ms := m_thrown_s s2 0) (Z := Z) (Hs := Hs) hM2 (MH_ts (q3.m hs2.2.1 hs2.2.2.1)) q2.2.1
          obtain ⟨t', a6, a7⟩ := put_m (ms := SV (m_thrown_s s2 0) f n') (Z := Z) (k := k) hM2 n3 l5
          refine ⟨_, .inr (nI (fo (pz Z 2 (dw Z k) 8) 2)), _, nI (fo (pz Z 2 (dw Z k) 8) 2), 0, hcl.trans ?_, hm.trans ?_, rfl, ?_, fun _ q => by cases q; rfl, ok_new hS (Z := pz Z 2 (dw Z k) 8) (pz_v n3 hf) (st' := c_state_s (KS (c_draft_s s g) K o n) t) (ms' := m_z_s (SV (m_thrown_s s2 0) f n') t') a3 a7 (psh_all q1 n3) (CH_cs a2) (MH_zs a5) (q4.m rfl rfl hs2.2.2.2.2.1 hs2.2.2.2.1) (q5.m rfl rfl hs2.2.2.2.2.2.1 hs2.2.2.2.2.2.2) rfl rfl⟩
          · rw [e1, bi1_s, if_pos rfl, g1, bi1_s, show f4_putDraft (c_draft_s s g) 2 = _ from a1, bt2_r]
          · rw [e2, bi1_s, if_pos rfl, e3, bi1_s, if_pos rfl]
            unfold f5_rewrite_j52
            rw [show m_thrown (m_thrown_s s2 0) = 0 from rfl, if_pos (Int32.le_refl _), a4, bi1_s, a6, bi1_s, show f5_factorsOf _ 2 = _ from fo_m (ms := m_z_s (SV (m_thrown_s s2 0) f n') t') a7 (p := 2) (by omega), bi1_s]
          · rfl
        · refine ⟨c_draft_s s g, .inl 2, m_thrown_s s2 2, 0, 2, hcl.trans ?_, hm.trans ?_, rfl, rfl, fun _ q => (nomatch q), (hRn.d hS g).t 2⟩
          · rw [e1, bi1_s, if_pos rfl, g1, bi1_s, show f4_putDraft (c_draft_s s g) 2 = _ from putDraft_no (st := c_draft_s s g) (p := 2) (by omega) g2 hb hf, bt2_l]
          · rw [e2, bi1_s, if_pos rfl, e3, bi1_s, if_neg one_ne]
            rfl
  · refine ⟨s, .inl 1, m_thrown_s s' 1, 0, 1, ?_, ?_, rfl, rfl, fun _ q => (nomatch q), n2.m (n4.t (msame_t s' 1))⟩
    · show f4_rewrite _ _ = _
      unfold f4_rewrite
      rw [n1, bt2_l]
    · show f5_rewrite _ _ = _
      unfold f5_rewrite
      rw [n3, bi2_s, if_pos rfl, if_neg one_ne]
      rfl
end QI
