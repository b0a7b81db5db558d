/-! shortest. -/
section QJ
variable {LP : CS → (Nat → Nat) → Prop} {st : CS} {ms : MS} {Z : Nat → Nat}
/-- how many factors a variable's values have together -/
def fs (Z : Nat → Nat) (v k : Nat) : Nat := sm (fun c => dg (eK Z k c) v) 4
theorem fs_lt (Z : Nat → Nat) (v k : Nat) : fs Z v k < 100 := by
  have : fs Z v k ≤ 4 * 16 := sm_le (fun c _ => Nat.le_of_lt (dg_lt _ _))
  omega
theorem sum_c (hv : VZ Z) {k : Nat} (hk : k < Wk (xs Z) (yC Z) 4 0) (hC : CC Z k (c_choice st) 4) {v : Nat} (hv4 : v < 4) (a b c : Int32) : wh (f4_shortest_b59 st (nI v) a b c) FU ((0 : Int32), (0 : Int32)) = some (nI (fs Z v k)) := by
  refine wh_for' 4 (by omega) (fun i => (nI (sm (fun c => dg (eK Z k c) v) i), nI i)) rfl (fun i hi => ?_) ?_
  · unfold f4_shortest_b59
    simp only
    rw [if_neg (show ¬ (4 : Int32) ≤ nI i from lge 4 hi), chosen_c hv hk hC hi hv4, bi1_s, nI_add, nI_1]
    rfl
  · unfold f4_shortest_b59
    exact if_pos (Int32.le_refl _)
theorem sum_m {k : Nat} (hC : CV Z k (m_values ms) 4) {v : Nat} (hv4 : v < 4) : f5_factorsOfValue ms (nI v) = some (nI (fs Z v k)) := by
  unfold f5_factorsOfValue
  rw [show (4 : Int32) * nI v = nI (4 * v) from pk_mul 4 v, show nI (4 * v) + (1 : Int32) = nI (4 * v + 1) from nI_add _ 1, show nI (4 * v) + (2 : Int32) = nI (4 * v + 2) from nI_add _ 2, show nI (4 * v) + (3 : Int32) = nI (4 * v + 3) from nI_add _ 3, if_pos (ib_n (by omega) (by omega)), if_pos (ib_n (by omega) (by omega)), if_pos (ib_n (by omega) (by omega)), if_pos (ib_n (by omega) (by omega)), tn (by omega), tn (by omega), tn (by omega), tn (by omega), show m_values ms (4 * v) = _ from hC 0 (by omega) v hv4, hC 1 (by omega) v hv4, hC 2 (by omega) v hv4, hC 3 (by omega) v hv4, nI_add, nI_add, nI_add]
  unfold fs
  simp only [sm, Nat.zero_add]
  rfl
/-- the best of the first i matchers -/
def bst (Z : Nat → Nat) (v : Nat) : Nat → Int32 × Nat
  | 0 => (-1, 0)
  | i + 1 => if (bst Z v i).1 = -1 then (nI i, fs Z v i) else if (bst Z v i).2 ≤ fs Z v i then bst Z v i else (nI i, fs Z v i)
theorem bst_lt (Z : Nat → Nat) (v : Nat) : ∀ i, (bst Z v i).2 < 100
  | 0 => by show (0 : Nat) < 100; omega
  | i + 1 => by
    rw [bst]
    have h1 := fs_lt Z v i
    have h2 := bst_lt Z v i
    split
    · exact h1
    · split
      · exact h2
      · exact h1
/-- the number of matchers that are looked at -/
def few (Z : Nat → Nat) : Nat := min 20 (Wk (xs Z) (yC Z) 4 0)
theorem best_c {s0 : CS} (hC : CZ s0 Z) (hv : VZ Z) (hE : EPt s0 Z) {v : Nat} (hv4 : v < 4) : ∃ s, wh (f4_shortest_b34 (nI v)) FU (s0, (-1 : Int32), (0 : Int32), (0 : Int32)) = some (s, (bst Z v (few Z)).1) ∧ csame s0 s ∧ lsame s0 s ∧ EPt s Z := by
  have key : ∃ r, wh (f4_shortest_b34 (nI v)) FU (s0, (-1 : Int32), (0 : Int32), (0 : Int32)) = some r ∧ r.2 = (bst Z v (few Z)).1 ∧ csame s0 r.1 ∧ lsame s0 r.1 ∧ EPt r.1 Z := by
    refine wh_inv 20 (by omega) (fun i z => ∃ s, z = (s, (bst Z v i).1, nI (bst Z v i).2, nI i) ∧ csame s0 s ∧ lsame s0 s ∧ EPt s Z ∧ i ≤ Wk (xs Z) (yC Z) 4 0) _ ⟨s0, rfl, csame.r _, lsame.r _, hE, Nat.zero_le _⟩ ?_ ?_
    · rintro i _ hi ⟨s, rfl, g1, g2, g3, g4⟩
      have b1 := fs_lt Z v i
      have b2 := bst_lt Z v i
      unfold f4_shortest_b34
      simp only
      rw [if_neg (show ¬ (20 : Int32) ≤ nI i from lge 20 hi)]
      by_cases q : i < Wk (xs Z) (yC Z) 4 0
      · obtain ⟨C, c1, c2⟩ := choose_c hv g3 q (by omega)
        refine Or.inl ⟨(c_choice_s s C, (bst Z v (i + 1)).1, nI (bst Z v (i + 1)).2, nI (i + 1)), ?_, c_choice_s s C, rfl, g1.t (choice_same s C).1, g2.t (choice_same s C).2, g3, q⟩
        rw [c1, bi2_s, if_neg (show ¬ (1 : Int32) = 0 by decide +kernel), sum_c (st := c_choice_s s C) hv q c2 hv4, bi1_s, nI_1, bst]
        by_cases w : (bst Z v i).1 = -1
        · rw [if_pos w, if_pos w]
        · rw [if_neg w, if_neg w]
          by_cases y : (bst Z v i).2 ≤ fs Z v i
          · rw [if_pos (nI_le y (by omega)), if_pos y]
          · rw [if_neg (nI_ge (by omega) (by omega)), if_neg y]
      · refine Or.inr ⟨(s, (bst Z v i).1), ?_, ?_, g1, g2, g3⟩
        · rw [choose_no hv g3 (Or.inr ⟨i, by omega, rfl, by omega⟩), bi2_s, if_pos rfl]
        · have : few Z = i := by unfold few; omega
          rw [this]
    · rintro _ ⟨s, rfl, g1, g2, g3, g4⟩
      refine ⟨(s, (bst Z v 20).1), ?_, ?_, g1, g2, g3⟩
      · unfold f4_shortest_b34
        simp only
        rw [if_pos (show (20 : Int32) ≤ nI 20 from Int32.le_refl _)]
      · have : few Z = 20 := by unfold few; omega
        rw [this]
  obtain ⟨⟨s, x⟩, k1, k2, k3⟩ := key
  simp only at k2
  rw [k2] at k1
  exact ⟨s, k1, k3⟩
theorem best_m (hM : MZ ms Z) (hv : VZ Z) {v : Nat} (hv4 : v < 4) : ∃ s, f5_shortestNow_j17 ms (nI v) (lN (Wk (xs Z) (yC Z) 4 0)) = some (s, (bst Z v (few Z)).1) ∧ msame ms s ∧ m_thrown s = m_thrown ms ∧ m_hash s = m_hash ms := by
  have hb := Wk_big hv (n := 4) (by omega) (s := 0) (by omega)
  have key : ∃ r, wh (f5_shortestNow_b27 (nI v) (lN (Wk (xs Z) (yC Z) 4 0))) FU (ms, (-1 : Int32), (0 : Int32), (0 : Int32)) = some r ∧ r.2 = (bst Z v (few Z)).1 ∧ msame ms r.1 ∧ m_thrown r.1 = m_thrown ms ∧ m_hash r.1 = m_hash ms := by
    refine wh_inv 20 (by omega) (fun i z => ∃ s, z = (s, (bst Z v i).1, nI (bst Z v i).2, nI i) ∧ msame ms s ∧ m_thrown s = m_thrown ms ∧ m_hash s = m_hash ms ∧ i ≤ Wk (xs Z) (yC Z) 4 0) _ ⟨ms, rfl, msame_r _, rfl, rfl, Nat.zero_le _⟩ ?_ ?_
    · rintro i _ hi ⟨s, rfl, g1, g2, g3, g4⟩
      have b1 := fs_lt Z v i
      have b2 := bst_lt Z v i
      unfold f5_shortestNow_b27
      simp only
      rw [if_neg (show ¬ (20 : Int32) ≤ nI i from lge 20 hi), nI_l (by omega)]
      by_cases q : i < Wk (xs Z) (yC Z) 4 0
      · obtain ⟨s2, l1, l2, l3, l4, l5⟩ := layMatcher_m (hM.m g1.1) hv q (by omega)
        refine Or.inl ⟨(s2, (bst Z v (i + 1)).1, nI (bst Z v (i + 1)).2, nI (i + 1)), ?_, s2, rfl, g1.t l2, l3.trans g2, l4.trans g3, q⟩
        rw [if_neg (fun z => by have := (pk_lLE (by omega) (by omega)).mp ((lg_cmp_ge _ _).mp z); omega), l1, bi1_s, bst]
        by_cases w : (bst Z v i).1 = -1
        · rw [if_pos w, if_pos w]
          unfold f5_shortestNow_j69
          rw [if_neg (show ¬ (1 : Int32) = 0 by decide +kernel), if_neg (show ¬ (1 : Int32) = 0 by decide +kernel), sum_m l5 hv4, bi1_s, nI_1]
        · rw [if_neg w, if_neg w, sum_m l5 hv4, bi1_s]
          unfold f5_shortestNow_j69
          by_cases y : (bst Z v i).2 ≤ fs Z v i
          · rw [if_pos (nI_le y (by omega)), if_pos y, if_pos rfl, if_pos rfl, nI_1]
          · rw [if_neg (nI_ge (by omega) (by omega)), if_neg y, if_neg (show ¬ (1 : Int32) = 0 by decide +kernel), if_neg (show ¬ (1 : Int32) = 0 by decide +kernel), sum_m l5 hv4, bi1_s, nI_1]
      · refine Or.inr ⟨(s, (bst Z v i).1), ?_, ?_, g1, g2, g3⟩
        · rw [if_pos ((lg_cmp_ge _ _).mpr ((pk_lLE (by omega) (by omega)).mpr (by omega)))]
        · have : few Z = i := by unfold few; omega
          rw [this]
    · rintro _ ⟨s, rfl, g1, g2, g3, g4⟩
      refine ⟨(s, (bst Z v 20).1), ?_, ?_, g1, g2, g3⟩
      · unfold f5_shortestNow_b27
        simp only
        rw [if_pos (show (20 : Int32) ≤ nI 20 from Int32.le_refl _)]
      · have : few Z = 20 := by unfold few; omega
        rw [this]
  obtain ⟨⟨s, x⟩, k1, k2, k3⟩ := key
  simp only at k2
  rw [k2] at k1
  refine ⟨s, ?_, k3⟩
  unfold f5_shortestNow_j17
  rw [k1, bi1_s]
/-- the answer of shortest -/
def sht (Z : Nat → Nat) (v : Nat) : Int32 := if Z (4 + v) = 0 then -1 else (bst Z v (few Z)).1
theorem none_m (v : Nat) : f5_shortestNow_j17 ms (nI v) 0 = some (ms, -1) := by
  have : wh (f5_shortestNow_b27 (nI v) 0) FU (ms, (-1 : Int32), (0 : Int32), (0 : Int32)) = some (ms, -1) := by
    refine wh_for' 0 (by omega) (fun _ => (ms, (-1 : Int32), (0 : Int32), (0 : Int32))) rfl (fun i hi => by omega) ?_
    unfold f5_shortestNow_b27
    simp only
    rw [if_neg (show ¬ (20 : Int32) ≤ 0 by decide +kernel), if_pos (show (0 : Int32) ≤ lg_cmp (0 : Int32).toInt64 0 by decide +kernel)]
  unfold f5_shortestNow_j17
  rw [this, bi1_s]
theorem now_sht (hM : MZ ms Z) (hv : VZ Z) {v : Nat} (hv4 : v < 4) : ∃ s, f5_shortestNow ms (nI v) = some (s, sht Z v) ∧ msame ms s ∧ m_thrown s = m_thrown ms ∧ m_hash s = m_hash ms := by
  have h9 := hv.le9 (k := 4 + v) (by omega)
  unfold f5_shortestNow sht
  rw [show f5_variableOf ms 0 (nI v) = _ from vo_ok hM (p := 0) (f := v) (by omega), bi1_s, show 8 * 0 + (4 + v) = 4 + v by omega]
  by_cases q : Z (4 + v) = 0
  · rw [q, if_pos (show nI 0 = (0 : Int32) from rfl), if_pos rfl]
    exact ⟨ms, none_m v, msame_r ms, rfl, rfl⟩
  · obtain ⟨s, k1, k2⟩ := now_m hM hv
    obtain ⟨r1, r2, r3⟩ := k2.same
    rw [Wk_MC hv (by omega) (by omega) (zero_in _ (US_lt Z))] at k1
    obtain ⟨s', l1, l2, l3, l4⟩ := best_m (hM.m r1.1) hv hv4
    rw [if_neg (nI_ne0 (by omega) (by omega)), if_neg q, k1, bi2_s, l1]
    exact ⟨s', rfl, r1.t l2, l3.trans r2, l4.trans r3⟩
theorem s24 (hS : Snd EP LP) : St24 (Rel EP LP) := by
  intro st ms hR x0
  rcases ar x0 4 (by omega) with ⟨v, hv4, rfl⟩ | h0
  · obtain ⟨s, Z, p1, p2, p3, p4, p5, p6, p7, p8⟩ := hR.pr hS
    have hC0 : CZ st Z := fun k hk => by rw [← p6.1]; exact p3 k hk
    obtain ⟨s', m1, m2, m3, m4⟩ := now_sht (ms := m_thrown_s ms 0) (Z := Z) p4 p2 hv4
    have hm : f5_shortest ms (nI v) = some (s', sht Z v) := by
      unfold f5_shortest
      rw [isV_in hv4]
      show (bi2 (f5_shortestNow (m_thrown_s ms 0) (nI v)) fun st6 r7 => some (st6, r7)) = _
      rw [m1, bi2_s]
    have hh := has_c hC0 p2 (p := 0) (v := v) (by omega) hv4
    rw [show 8 * 0 + (4 + v) = 4 + v by omega] at hh
    by_cases q : Z (4 + v) = 0
    · refine ⟨st, .inr (sht Z v), s', sht Z v, 0, ?_, hm, rfl, m3, fun _ q => by cases q; rfl, hR.m ((msame_t ms 0).t m2)⟩
      show f4_shortest _ _ = _
      unfold f4_shortest
      rw [show f4_needIndex (nI v) 4 = _ from ni_in 4 hv4, bt0_r, show f4_hasVariable st 0 (nI v) = _ from hh, bi1_s, if_pos q, if_pos rfl, sht, if_pos q]
    · obtain ⟨s2, b1, b2, b3, b4⟩ := best_c p3 p2 p5 hv4
      refine ⟨s2, .inr (sht Z v), s', sht Z v, 0, ?_, hm, rfl, m3, fun _ q => by cases q; rfl, p8 s2 s' b2 b3 b4 ((msame_t ms 0).t m2)⟩
      show f4_shortest _ _ = _
      unfold f4_shortest
      rw [show f4_needIndex (nI v) 4 = _ from ni_in 4 hv4, bt0_r, show f4_hasVariable st 0 (nI v) = _ from hh, bi1_s, if_neg q, if_neg (show ¬ (1 : Int32) = 0 by decide +kernel), p1, bi1_s, b1, bi1_s, sht, if_neg q]
  · refine ok_ref (e := 0) (v := 1) ?_ ?_ rfl hR
    · show f4_shortest _ _ = _
      unfold f4_shortest
      rw [show f4_needIndex x0 4 = _ from ni_out 4 h0, bt0_l]
    · show f5_shortest _ _ = _
      unfold f5_shortest
      rw [isV_out h0]
      rfl
end QJ
