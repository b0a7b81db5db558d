/-! The digest: matchers and least solutions. -/
section QX
variable {LP : CS → (Nat → Nat) → Prop} {st : CS} {ms : MS} {Z : Nat → Nat}
theorem d4 {n : Nat} (hn : n < 100) : nI n / (4 : Int32) = nI (n / 4) ∧ nI n - nI n / (4 : Int32) * (4 : Int32) = nI (n % 4) := ⟨pk_div (d := 4) (by omega) (by omega) (by omega), md 4 (by omega)⟩
/-- the values are mixed in -/
def vf (Z : Nat → Nat) (k n : Nat) : Int64 := (vl Z k (n / 4) (n % 4)).toInt64
theorem vals_c (h : CZ st Z) (hv : VZ Z) {k : Nat} (hk : k < Wk (xs Z) (yC Z) 4 0) (hC : CC Z k (c_choice st) 4) (x : Int64) (q : Int32) : wh (f4_mixMatchers_b37 st q) FU (x, (0 : Int32)) = some (hx (vf Z k) x 16) := by
  have inner : ∀ i, i < 4 → ∀ y, wh (f4_mixMatchers_b46 st q (nI i)) FU (y, (0 : Int32)) = some (hx (fun j => vf Z k (4 * i + j)) y 4) := by
    intro i hi y
    refine wh_for' 4 (by omega) (fun j => (hx (fun j => vf Z k (4 * i + j)) y j, nI j)) rfl (fun j hj => ?_) ?_
    · unfold f4_mixMatchers_b46 f4_mix
      simp only
      rw [if_neg (show ¬ (4 : Int32) ≤ nI j from lge 4 hj), value_c h hv hk hC hj hi, bi1_s, nI_1, hx]
      unfold vf
      rw [show (4 * i + j) / 4 = i by omega, show (4 * i + j) % 4 = j by omega]
    · unfold f4_mixMatchers_b46
      exact if_pos (Int32.le_refl _)
  refine wh_for' 4 (by omega) (fun i => (hx (vf Z k) x (4 * i), nI i)) rfl (fun i hi => ?_) ?_
  · unfold f4_mixMatchers_b37
    simp only
    rw [if_neg (show ¬ (4 : Int32) ≤ nI i from lge 4 hi), inner i hi, bi1_s, nI_1, show 4 * (i + 1) = 4 * i + 4 by omega, hx_add]
  · unfold f4_mixMatchers_b37
    exact if_pos (Int32.le_refl _)
theorem vals_m (h : MZ ms Z) (hv : VZ Z) {k : Nat} (hC : CV Z k (m_values ms) 4) : wh f5_mixMatcher_b7 FU (ms, (0 : Int32)) = some (m_hash_s ms (hx (vf Z k) (m_hash ms) 16)) := by
  refine wh_for' 16 (by omega) (fun i => (m_hash_s ms (hx (vf Z k) (m_hash ms) i), nI i)) rfl (fun i hi => ?_) ?_
  · obtain ⟨e1, e2⟩ := d4 (n := i) (by omega)
    unfold f5_mixMatcher_b7
    simp only
    rw [if_neg (show ¬ (16 : Int32) ≤ nI i from lge 16 hi), e2, e1, value_m (ms := m_hash_s ms (hx (vf Z k) (m_hash ms) i)) h hv hC (by omega) (by omega), bi1_s, nI_1, mix_hs]
    rfl
  · unfold f5_mixMatcher_b7
    exact if_pos (Int32.le_refl _)
theorem mix_val (h : CZ st Z) (h' : MZ ms Z) (hv : VZ Z) {k : Nat} (hk : k < Wk (xs Z) (yC Z) 4 0) (hC : CC Z k (c_choice st) 4) (hC' : CV Z k (m_values ms) 4) (q : Int32) (x : Int64) : ∃ y, wh (f4_mixMatchers_b81 st q) FU (x, (0 : Int32)) = some y ∧ wh f5_mixMatcher_b36 FU (m_hash_s ms x, (0 : Int32)) = some (m_hash_s ms y) := by
  rcases foreign_c h hv with ⟨hF, e1⟩ | ⟨hF, e1⟩
  · refine ⟨hx (fun _ => -1) x 4, ?_, ?_⟩
    · refine wh_for' 4 (by omega) (fun i => (hx (fun _ => -1) x i, nI i)) rfl (fun i hi => ?_) ?_
      · unfold f4_mixMatchers_b81 f4_mixMatchers_j108 f4_mix
        simp only
        rw [if_neg (show ¬ (4 : Int32) ≤ nI i from lge 4 hi), e1, bi1_s, if_neg one_ne, nI_1]
        rfl
      · unfold f4_mixMatchers_b81
        exact if_pos (Int32.le_refl _)
    · refine wh_for' 4 (by omega) (fun i => (m_hash_s ms (hx (fun _ => -1) x i), nI i)) rfl (fun i hi => ?_) ?_
      · rcases strange_m (ms := m_hash_s ms (hx (fun _ => -1) x i)) h' hv with ⟨_, e2⟩ | ⟨hF2, _⟩
        · unfold f5_mixMatcher_b36 f5_mixMatcher_j61
          simp only
          rw [if_neg (show ¬ (4 : Int32) ≤ nI i from lge 4 hi), e2, bi1_s, if_neg one_ne, nI_1, mix_hs]
          rfl
        · exact absurd hF hF2
      · unfold f5_mixMatcher_b36
        exact if_pos (Int32.le_refl _)
  · refine ⟨hx (fun c => (nI (rwn Z k c)).toInt64) x 4, ?_, ?_⟩
    · refine wh_for' 4 (by omega) (fun i => (hx (fun c => (nI (rwn Z k c)).toInt64) x i, nI i)) rfl (fun i hi => ?_) ?_
      · unfold f4_mixMatchers_b81 f4_mixMatchers_j108 f4_mix
        simp only
        rw [if_neg (show ¬ (4 : Int32) ≤ nI i from lge 4 hi), e1, bi1_s, if_pos rfl, rewritten_c h hv hk hC hi, bi1_s, nI_1]
        rfl
      · unfold f4_mixMatchers_b81
        exact if_pos (Int32.le_refl _)
    · refine wh_for' 4 (by omega) (fun i => (m_hash_s ms (hx (fun c => (nI (rwn Z k c)).toInt64) x i), nI i)) rfl (fun i hi => ?_) ?_
      · rcases strange_m (ms := m_hash_s ms (hx (fun c => (nI (rwn Z k c)).toInt64) x i)) h' hv with ⟨hF2, _⟩ | ⟨_, e2⟩
        · exact absurd hF2 hF
        · unfold f5_mixMatcher_b36 f5_mixMatcher_j61
          simp only
          rw [if_neg (show ¬ (4 : Int32) ≤ nI i from lge 4 hi), e2, bi1_s, if_pos rfl, rewritten_m (ms := m_hash_s ms (hx (fun c => (nI (rwn Z k c)).toInt64) x i)) (fun j hj => h' j (by omega)) hC' hi, bi1_s, nI_1, mix_hs]
          rfl
      · unfold f5_mixMatcher_b36
        exact if_pos (Int32.le_refl _)
theorem dg_match (hS : Snd EP LP) {h : Int64} (g : DG EP LP st h ms) : ∃ (s : CS) (y : Int64) (m1 : MS) (t : Int64) (m2 : MS), f4_mixMatchers st h = some (s, y) ∧ f5_matchersNow ms = some (m1, t) ∧ wh (f5_digest_b153 t) FU (m1, (0 : Int32)) = some m2 ∧ DG EP LP s y m2 := by
  obtain ⟨gR, gh⟩ := g
  obtain ⟨s, Z, p1, p2, p3, p4, p5, p6, p7, p8⟩ := gR.pr hS
  have hb := Wk_big p2 (n := 4) (by omega) (s := 0) (by omega)
  obtain ⟨m1, k1, k2⟩ := now_m p4 p2
  obtain ⟨r1, r2, r3⟩ := k2.same
  rw [Wk_MC p2 (by omega) (by omega) (zero_in _ (US_lt Z))] at k1
  have key : ∃ (r : CS × Int64) (r' : MS), wh f4_mixMatchers_b16 FU (s, h, (0 : Int32)) = some r ∧ wh (f5_digest_b153 (lN (Wk (xs Z) (yC Z) 4 0))) FU (m1, (0 : Int32)) = some r' ∧ csame s r.1 ∧ lsame s r.1 ∧ EPt r.1 Z ∧ msame ms r' ∧ m_hash r' = r.2 := by
    refine wh_two 3 (by omega) (fun i z z' => ∃ s' m, z = (s', m_hash m, nI i) ∧ z' = (m, nI i) ∧ csame s s' ∧ lsame s s' ∧ EPt s' Z ∧ msame ms m ∧ i ≤ Wk (xs Z) (yC Z) 4 0) _ ⟨s, m1, by rw [r3, gh]; rfl, rfl, csame.r s, lsame.r s, p5, r1, Nat.zero_le _⟩ ?_ ?_
    · rintro i _ _ hi ⟨s', m, rfl, rfl, g1, g2, g3, g4, g5⟩
      unfold f4_mixMatchers_b16 f5_digest_b153
      simp only
      rw [if_neg (show ¬ (3 : Int32) ≤ nI i from lge 3 hi), if_neg (show ¬ (3 : Int32) ≤ nI i from lge 3 hi), nI_l (by omega)]
      by_cases q : i < Wk (xs Z) (yC Z) 4 0
      · obtain ⟨C, c1, c2⟩ := choose_c p2 g3 q (by omega)
        obtain ⟨s2, l1, l2, l3, l4, l5⟩ := layMatcher_m (p4.m g4.1) p2 q (by omega)
        have hC : CZ (c_choice_s s' C) Z := fun k hk => (p3.m g1.1) k hk
        have hM : MZ s2 Z := (p4.m g4.1).m l2.1
        obtain ⟨y, y1, y2⟩ := mix_val (st := c_choice_s s' C) (ms := s2) hC hM p2 q c2 l5 (nI i) (hx (vf Z i) (m_hash m) 16)
        have v1 := vals_c (st := c_choice_s s' C) hC p2 q c2 (m_hash m) (nI i)
        have v2 := vals_m hM p2 l5
        rw [l4] at v2
        refine Or.inl ⟨(c_choice_s s' C, y, nI (i + 1)), (m_hash_s s2 y, nI (i + 1)), ?_, ?_, c_choice_s s' C, m_hash_s s2 y, rfl, rfl, g1.t (choice_same s' C).1, g2.t (choice_same s' C).2, g3, (g4.t l2).t (hs_same s2 y), q⟩
        · rw [c1, bi2_s, if_neg one_ne, v1, bi1_s, y1, bi1_s, nI_1]
        · unfold f5_mixMatcher
          rw [if_neg (fun z => by have := (pk_lLE (by omega) (by omega)).mp ((lg_cmp_ge _ _).mp z); omega), l1, bi1_s, v2, bi1_s, y2, bi1_s, bi1_s, nI_1]
      · refine Or.inr ⟨(s', m_hash m), m, ?_, ?_, g1, g2, g3, g4, rfl⟩
        · rw [choose_no p2 g3 (Or.inr ⟨i, by omega, rfl, by omega⟩), bi2_s, if_pos rfl]
        · rw [if_pos ((lg_cmp_ge _ _).mpr ((pk_lLE (by omega) (by omega)).mpr (by omega)))]
    · rintro _ _ ⟨s', m, rfl, rfl, g1, g2, g3, g4, g5⟩
      refine ⟨(s', m_hash m), m, ?_, ?_, g1, g2, g3, g4, rfl⟩
      · unfold f4_mixMatchers_b16
        simp only
        rw [if_pos (show (3 : Int32) ≤ nI 3 from Int32.le_refl _)]
      · unfold f5_digest_b153
        simp only
        rw [if_pos (show (3 : Int32) ≤ nI 3 from Int32.le_refl _)]
  obtain ⟨⟨s2, y⟩, m2, w1, w2, w3, w4, w5, w6, w7⟩ := key
  refine ⟨s2, y, m1, _, m2, ?_, k1, w2, p8 s2 m2 w3 w4 w5 w6, w7⟩
  unfold f4_mixMatchers
  rw [p1, bi1_s, w1, bi1_s]
/-- the least solutions are mixed in -/
def lf (Z : Nat → Nat) (n : Nat) : Int64 := (la Z (n / 4) (n % 4)).toInt64
theorem lsts_c {s : CS} (hv : VZ Z) (h : LPt s Z) (x : Int64) : wh (f4_mixLeasts_b16 s) FU (x, (0 : Int32)) = some (hx (lf Z) x 16) := by
  have inner : ∀ i, i < 4 → ∀ y, wh (f4_mixLeasts_b25 s (nI i)) FU (y, (0 : Int32)) = some (hx (fun j => lf Z (4 * i + j)) y 4) := by
    intro i hi y
    refine wh_for' 4 (by omega) (fun j => (hx (fun j => lf Z (4 * i + j)) y j, nI j)) rfl (fun j hj => ?_) ?_
    · unfold f4_mixLeasts_b25 f4_mix
      simp only
      rw [if_neg (show ¬ (4 : Int32) ≤ nI j from lge 4 hj), la_c hv h (by omega) hj, bi1_s, nI_1, hx]
      unfold lf
      rw [show (4 * i + j) / 4 = i by omega, show (4 * i + j) % 4 = j by omega]
    · unfold f4_mixLeasts_b25
      exact if_pos (Int32.le_refl _)
  refine wh_for' 4 (by omega) (fun i => (hx (lf Z) x (4 * i), nI i)) rfl (fun i hi => ?_) ?_
  · unfold f4_mixLeasts_b16
    simp only
    rw [if_neg (show ¬ (4 : Int32) ≤ nI i from lge 4 hi), inner i hi, bi1_s, nI_1, show 4 * (i + 1) = 4 * i + 4 by omega, hx_add]
  · unfold f4_mixLeasts_b16
    exact if_pos (Int32.le_refl _)
theorem lsts_m (hM : MZ ms Z) (hv : VZ Z) : ∃ m, wh f5_digest_b178 FU (ms, (0 : Int32)) = some m ∧ msame ms m ∧ m_hash m = hx (lf Z) (m_hash ms) 16 := by
  refine wh_inv 16 (by omega) (fun i z => ∃ m, z = (m, nI i) ∧ msame ms m ∧ m_hash m = hx (lf Z) (m_hash ms) i) _ ⟨ms, rfl, msame_r ms, rfl⟩ ?_ ?_
  · rintro i _ hi ⟨m, rfl, g1, g2⟩
    obtain ⟨e1, e2⟩ := d4 (n := i) (by omega)
    obtain ⟨s', k1, k2, k3, k4⟩ := leastAt_m (hM.m g1.1) hv (k := i / 4) (v := i % 4) (by omega) (by omega)
    refine Or.inl ⟨(f5_mix s' (lf Z i), nI (i + 1)), ?_, _, rfl, (g1.t k2).t (hs_same s' _), ?_⟩
    · unfold f5_digest_b178
      simp only
      rw [if_neg (show ¬ (16 : Int32) ≤ nI i from lge 16 hi), e2, e1, k1, bi2_s, nI_1]
      rfl
    · show 31 * m_hash s' + lf Z i = _
      rw [k4, g2, hx]
  · rintro _ ⟨m, rfl, g1, g2⟩
    refine ⟨m, ?_, g1, g2⟩
    unfold f5_digest_b178
    exact if_pos (Int32.le_refl _)
theorem dg_least {EP : CS → (Nat → Nat) → Prop} (hS : Snd EP LQ) {h : Int64} (g : DG EP LQ st h ms) : ∃ (s : CS) (y : Int64) (m1 m2 : MS) (t : Int32), f4_mixLeasts st h = some (s, y) ∧ wh f5_digest_b178 FU (ms, (0 : Int32)) = some m1 ∧ f5_sumsTo m1 2 2 2 2 = some (m2, t) ∧ DG EP LQ s y (f5_mix m2 t.toInt64) := by
  obtain ⟨gR, gh⟩ := g
  obtain ⟨s, Z, p1, p2, p3, p4, p5, p6, _, _, _, p8⟩ := gR.pl hS
  obtain ⟨s2, w1, w2, w3, w4⟩ := ways_c p2 p5 (n0 := 2) (n1 := 2) (n2 := 2) (n3 := 2) (by omega) (by omega) (by omega) (by omega)
  obtain ⟨m1, l1, l2, l3⟩ := lsts_m p4 p2
  obtain ⟨m2, k1, k2, k3, k4⟩ := sumsTo_m (p4.m l2.1) p2 (a := 2) (b := 2) (c := 2) (d := 2) (by omega) (by omega) (by omega) (by omega)
  refine ⟨s2, f4_mix (hx (lf Z) h 16) (nI (ws Z 2 2 2 2)).toInt64, m1, m2, nI (ws Z 2 2 2 2), ?_, l1, k1, p8 s2 _ w2 w3 w4 ((l2.t k2).t (hs_same m2 _)), ?_⟩
  · unfold f4_mixLeasts
    rw [p1, bi1_s, lsts_c p2 p5, bi1_s, show f2_waysToSum s 2 2 2 2 = _ from w1, bi2_s]
  · show 31 * m_hash m2 + (nI (ws Z 2 2 2 2)).toInt64 = _
    rw [k4, l3, gh]
    rfl
end QX
