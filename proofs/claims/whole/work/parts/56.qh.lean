/-! What the rewriting gives; ifRewritten. -/
section QH
variable {LP : CS → (Nat → Nat) → Prop} {st : CS} {ms : MS} {Z : Nat → Nat}
/-- the second product has a variable that the pattern lacks -/
def frn (Z : Nat → Nat) : Prop := ∃ v, v < 4 ∧ ¬ Z (12 + v) = 0 ∧ Z (4 + v) = 0
theorem foreign_c (h : CZ st Z) (hv : VZ Z) : (frn Z ∧ f4_hasForeignVariable st = some 1) ∨ (¬ frn Z ∧ f4_hasForeignVariable st = some 0) := by
  have key : ∃ r, wh (f4_hasForeignVariable_b2 st) FU (0 : Int32) = some r ∧ ((r = .inl () ∧ ¬ frn Z) ∨ (r = .inr () ∧ frn Z)) := by
    refine wh_inv 4 (by omega) (fun i z => z = nI i ∧ ∀ v, v < i → ¬ (¬ Z (12 + v) = 0 ∧ Z (4 + v) = 0)) _ ⟨rfl, fun v q => by omega⟩ ?_ ?_
    · rintro i _ hi ⟨rfl, hN⟩
      have e1 : f4_hasVariable st 1 (nI i) = _ := has_c h hv (p := 1) (v := i) (by omega) hi
      have e0 : f4_hasVariable st 0 (nI i) = _ := has_c h hv (p := 0) (v := i) (by omega) hi
      rw [show 8 * 1 + (4 + i) = 12 + i by omega] at e1
      rw [show 8 * 0 + (4 + i) = 4 + i by omega] at e0
      unfold f4_hasForeignVariable_b2
      rw [if_neg (show ¬ (4 : Int32) ≤ nI i from lge 4 hi), e1, bi1_s, e0, bi1_s, nI_1]
      by_cases q : Z (12 + i) = 0
      · refine Or.inl ⟨nI (i + 1), by rw [if_pos q, if_pos rfl], rfl, fun v hv' => ?_⟩
        by_cases e : v = i
        · subst e
          exact fun z => z.1 q
        · exact hN v (by omega)
      · rw [if_neg q, if_neg (show ¬ (1 : Int32) = 0 by decide +kernel)]
        by_cases w : Z (4 + i) = 0
        · exact Or.inr ⟨.inr (), by rw [if_pos w, if_pos rfl], Or.inr ⟨rfl, i, hi, q, w⟩⟩
        · refine Or.inl ⟨nI (i + 1), by rw [if_neg w, if_neg (show ¬ (1 : Int32) = 0 by decide +kernel)], rfl, fun v hv' => ?_⟩
          by_cases e : v = i
          · subst e
            exact fun z => w z.2
          · exact hN v (by omega)
    · rintro _ ⟨rfl, hN⟩
      refine ⟨.inl (), ?_, Or.inl ⟨rfl, fun ⟨v, h1, h2⟩ => hN v h1 h2⟩⟩
      unfold f4_hasForeignVariable_b2
      exact if_pos (Int32.le_refl _)
  obtain ⟨r, k1, k2⟩ := key
  unfold f4_hasForeignVariable
  rw [k1, bi1_s]
  rcases k2 with ⟨rfl, k3⟩ | ⟨rfl, k3⟩
  · exact Or.inr ⟨k3, rfl⟩
  · exact Or.inl ⟨k3, rfl⟩
theorem strange_m (h : MZ ms Z) (hv : VZ Z) : (frn Z ∧ f5_isStrange ms = some 1) ∨ (¬ frn Z ∧ f5_isStrange ms = some 0) := by
  have key : ∃ r, wh (f5_isStrange_b4 ms) FU ((0 : Int32), (0 : Int32)) = some r ∧ ((r = 0 ∧ ¬ frn Z) ∨ (r = 1 ∧ frn Z)) := by
    refine wh_inv 4 (by omega) (fun i z => ∃ a, z = (a, nI i) ∧ ((a = 0 ∧ ∀ v, v < i → ¬ (¬ Z (12 + v) = 0 ∧ Z (4 + v) = 0)) ∨ (a = 1 ∧ frn Z))) _ ⟨0, rfl, Or.inl ⟨rfl, fun v q => by omega⟩⟩ ?_ ?_
    · rintro i _ hi ⟨a, rfl, hN⟩
      have b1 := hv.le9 (k := 12 + i) (by omega)
      have b2 := hv.le9 (k := 4 + i) (by omega)
      have e1 : f5_variableOf ms 1 (nI i) = _ := vo_ok h (p := 1) (f := i) (by omega)
      have e0 : f5_variableOf ms 0 (nI i) = _ := vo_ok h (p := 0) (f := i) (by omega)
      rw [show 8 * 1 + (4 + i) = 12 + i by omega] at e1
      rw [show 8 * 0 + (4 + i) = 4 + i by omega] at e0
      refine Or.inl ?_
      unfold f5_isStrange_b4
      simp only
      rw [if_neg (show ¬ (4 : Int32) ≤ nI i from lge 4 hi), e1, bi1_s, e0, bi1_s, nI_1]
      rcases hN with ⟨rfl, hN⟩ | ⟨rfl, hF⟩
      · rw [if_pos rfl]
        by_cases q : Z (12 + i) = 0
        · rw [q, if_pos (show nI 0 ≤ (0 : Int32) from Int32.le_refl _)]
          refine ⟨_, rfl, 0, rfl, Or.inl ⟨rfl, fun v hv' => ?_⟩⟩
          by_cases e : v = i
          · subst e
            exact fun z => z.1 q
          · exact hN v (by omega)
        · rw [if_neg (nI_nle (by omega) (by omega))]
          by_cases w : Z (4 + i) = 0
          · rw [w, if_pos (show nI 0 = (0 : Int32) from rfl)]
            exact ⟨_, rfl, 1, rfl, Or.inr ⟨rfl, i, hi, q, w⟩⟩
          · rw [if_neg (nI_ne0 (by omega) (by omega))]
            refine ⟨_, rfl, 0, rfl, Or.inl ⟨rfl, fun v hv' => ?_⟩⟩
            by_cases e : v = i
            · subst e
              exact fun z => w z.2
            · exact hN v (by omega)
      · rw [if_neg (show ¬ (1 : Int32) = 0 by decide +kernel)]
        exact ⟨_, rfl, 1, rfl, Or.inr ⟨rfl, hF⟩⟩
    · rintro _ ⟨a, rfl, hN⟩
      refine ⟨a, ?_, ?_⟩
      · unfold f5_isStrange_b4
        exact if_pos (Int32.le_refl _)
      · rcases hN with ⟨h1, h2⟩ | h1
        · exact Or.inl ⟨h1, fun ⟨v, z1, z2⟩ => h2 v z1 z2⟩
        · exact Or.inr h1
  obtain ⟨r, k1, k2⟩ := key
  unfold f5_isStrange
  rw [k1, bi1_s]
  rcases k2 with ⟨rfl, k3⟩ | ⟨rfl, k3⟩
  · exact Or.inr ⟨k3, rfl⟩
  · exact Or.inl ⟨k3, rfl⟩
/-- how often a constant stands in the second product once the values are in -/
def rwn (Z : Nat → Nat) (k c : Nat) : Nat := Z (8 + c) + sm (fun v => Z (12 + v) * dg (eK Z k c) v) 4
theorem rwn_lt (hv : VZ Z) (k : Nat) {c : Nat} (hc : c < 4) : rwn Z k c < 10000 := by
  have b0 := hv.le9 (k := 8 + c) (by omega)
  have h1 : sm (fun v => Z (12 + v) * dg (eK Z k c) v) 4 ≤ 4 * (9 * 16) := sm_le (fun v hv4 => Nat.mul_le_mul (hv.le9 (by omega)) (Nat.le_of_lt (dg_lt _ _)))
  unfold rwn
  omega
theorem rewritten_c (h : CZ st Z) (hv : VZ Z) {k : Nat} (hk : k < Wk (xs Z) (yC Z) 4 0) (hC : CC Z k (c_choice st) 4) {c : Nat} (hc : c < 4) : f4_rewritten st (nI c) = some (nI (rwn Z k c)) := by
  have key : wh (f4_rewritten_b12 st (nI c)) FU (nI (Z (8 + c)), (0 : Int32)) = some (nI (rwn Z k c)) := by
    refine wh_for' 4 (by omega) (fun i => (nI (Z (8 + c) + sm (fun v => Z (12 + v) * dg (eK Z k c) v) i), nI i)) rfl (fun i hi => ?_) ?_
    · unfold f4_rewritten_b12
      simp only
      rw [if_neg (show ¬ (4 : Int32) ≤ nI i from lge 4 hi), show (12 : Int32) + nI i = nI (12 + i) from nI_add 12 i, if_pos (ib_n (by omega) (by omega)), chosen_c hv hk hC hc hi, bi1_s, tn (by omega), h _ (by omega), pk_mul, nI_add, lq_e, nI_1, sm, Nat.add_assoc]
    · unfold f4_rewritten_b12
      exact if_pos (Int32.le_refl _)
  unfold f4_rewritten
  rw [show (8 : Int32) + nI c = nI (8 + c) from nI_add 8 c, if_pos (ib_n (by omega) (by omega)), tn (by omega), h _ (by omega), key, bi1_s]
theorem of16 (h : ∀ k, k < 16 → m_z ms k = nI (Z k)) {f : Nat} (hf : f < 8) : f5_of ms 1 (nI f) = some (nI (Z (8 + f))) := by
  unfold f5_of
  rw [show (8 : Int32) * 1 + nI f = nI (8 + f) from e8 1 f, if_pos (ib_n (by omega) (by omega)), tn (by omega), h _ (by omega)]
theorem rewritten_m (h : ∀ k, k < 16 → m_z ms k = nI (Z k)) {k : Nat} (hC : CV Z k (m_values ms) 4) {c : Nat} (hc : c < 4) : f5_rewritten ms (nI c) = some (nI (rwn Z k c)) := by
  have key : wh (f5_rewritten_b9 ms (nI c)) FU (nI (Z (8 + c)), (0 : Int32)) = some (nI (rwn Z k c)) := by
    refine wh_for' 4 (by omega) (fun i => (nI (Z (8 + c) + sm (fun v => Z (12 + v) * dg (eK Z k c) v) i), nI i)) rfl (fun i hi => ?_) ?_
    · unfold f5_rewritten_b9 f5_variableOf
      simp only
      rw [if_neg (show ¬ (4 : Int32) ≤ nI i from lge 4 hi), show (4 : Int32) + nI i = nI (4 + i) from nI_add 4 i, of16 h (by omega), bi1_s, bi1_s, show (4 : Int32) * nI i + nI c = nI (4 * i + c) from emk 4 i c rfl, if_pos (ib_n (by omega) (by omega)), tn (by omega), hC c hc i hi, pk_mul, nI_add, lq_e, nI_1, sm, show 8 + (4 + i) = 12 + i by omega, Nat.add_assoc]
      rfl
    · unfold f5_rewritten_b9
      exact if_pos (Int32.le_refl _)
  unfold f5_rewritten
  rw [of16 h (by omega), bi1_s, key, bi1_s]
theorem s23 (hS : Snd EP LP) : St23 (Rel EP LP) := by
  intro st ms hR x0 x1
  rcases ar x1 4 (by omega) with ⟨c, hc, rfl⟩ | h1
  · rcases need hS hR x0 with ⟨s, Z, k, Hs, rfl, hk2, hk, n1, n2, n3, n4, n5, n6, ⟨s', n7, n8, n9, n10⟩, _⟩ | ⟨s, s', n1, n2, n3, n4, n5, _⟩
    · obtain ⟨s2, l1, l2, l3, l4, l5⟩ := layMatcher_m (ms := m_thrown_s s' 0) (Z := Z) (n5.m n8.1) n3 hk hk2
      have hM2 : MZ s2 Z := (n5.m n8.1).m l2.1
      have hRn : Rel EP LP s s2 := n6.m ((n8.t (msame_t s' 0)).t l2)
      have hm : f5_ifRewritten ms (nI k) (nI c) = bi1 (f5_isStrange s2) fun r4 => (if r4 = 0 then (bi1 (f5_rewritten s2 (nI c)) fun r7 => some (s2, r7)) else some (s2, (-1 : Int32))) := by
        unfold f5_ifRewritten
        rw [isC_in hc, if_neg one_ne, n7, bi2_s, if_neg one_ne]
        unfold f5_ifRewritten_j25 f5_rewrittenThen
        rw [if_pos (Int32.le_refl _), l1, bi1_s]
        rcases strange_m hM2 n3 with ⟨_, e⟩ | ⟨_, e⟩
        · rw [e, bi1_s, if_neg one_ne, bi2_s]
        · rw [e, bi1_s, if_pos rfl, rewritten_m (fun k hk => hM2 k (by omega)) l5 hc, bi1_s, bi2_s]
      have hcl : f4_ifRewritten st (nI k) (nI c) = bi1 (f4_hasForeignVariable s) fun r7 => (if r7 = 0 then (bi1 (f4_rewritten s (nI c)) fun r10 => some (s, .inr r10)) else some (s, .inr (-1 : Int32))) := by
        unfold f4_ifRewritten
        rw [show f4_needIndex (nI c) 4 = _ from ni_in 4 hc, bt0_r, n1, bt2_r]
      rcases foreign_c n4 n3 with ⟨hF, e1⟩ | ⟨hF, e1⟩
      · rcases strange_m hM2 n3 with ⟨_, e2⟩ | ⟨hF2, e2⟩
        · exact ⟨s, .inr (-1), s2, -1, 0, hcl.trans (by rw [e1, bi1_s, if_neg one_ne]), hm.trans (by rw [e2, bi1_s, if_neg one_ne]), rfl, l3, fun _ q => by cases q; rfl, hRn⟩
        · exact absurd hF hF2
      · rcases strange_m hM2 n3 with ⟨hF2, e2⟩ | ⟨_, e2⟩
        · exact absurd hF2 hF
        · refine ⟨s, .inr (nI (rwn Z k c)), s2, nI (rwn Z k c), 0, hcl.trans ?_, hm.trans ?_, rfl, l3, fun _ q => by cases q; rfl, hRn⟩
          · rw [e1, bi1_s, if_pos rfl, rewritten_c n4 n3 hk n2 hc, bi1_s]
          · rw [e2, bi1_s, if_pos rfl, rewritten_m (fun k hk => hM2 k (by omega)) l5 hc, bi1_s]
    · refine ⟨s, .inl 1, m_thrown_s s' 2, 0, 2, ?_, ?_, rfl, rfl, fun _ q => (nomatch q), n2.m (n4.t (msame_t s' 2))⟩
      · show f4_ifRewritten _ _ _ = _
        unfold f4_ifRewritten
        rw [show f4_needIndex (nI c) 4 = _ from ni_in 4 hc, bt0_r, n1, bt2_l]
      · show f5_ifRewritten _ _ _ = _
        unfold f5_ifRewritten
        rw [isC_in hc, if_neg one_ne, n3, bi2_s, if_pos rfl]
        rfl
  · refine ok_ref (e := 0) (v := 1) ?_ ?_ rfl hR
    · show f4_ifRewritten _ _ _ = _
      unfold f4_ifRewritten
      rw [show f4_needIndex x1 4 = _ from ni_out 4 h1, bt0_l]
    · show f5_ifRewritten _ _ _ = _
      unfold f5_ifRewritten
      rw [isC_out h1]
      rfl
end QH
