/-! The model's choice. -/
section QF
variable {ms : MS} {Z : Nat → Nat}
theorem dig_m (hv : VZ Z) {q : Int32} {e : Nat} (h : e ∈ SL Z q) : nI (dec e) / (1000 : Int32) = nI (dg e 0) ∧ nI (dec e) / (100 : Int32) - nI (dec e) / (100 : Int32) / (10 : Int32) * (10 : Int32) = nI (dg e 1) ∧ nI (dec e) / (10 : Int32) - nI (dec e) / (10 : Int32) / (10 : Int32) * (10 : Int32) = nI (dg e 2) ∧ nI (dec e) - nI (dec e) / (10 : Int32) * (10 : Int32) = nI (dg e 3) := by
  obtain ⟨_, h1⟩ := SL_mem hv h
  have h0 := (h1 0 (by omega)).1
  have h2 := (h1 1 (by omega)).1
  have h3 := (h1 2 (by omega)).1
  have h4 := (h1 3 (by omega)).1
  have e0 : dg e 0 = e / 4096 % 16 := by unfold dg; simp
  have e1 : dg e 1 = e / 256 % 16 := by unfold dg; simp
  have e2 : dg e 2 = e / 16 % 16 := by unfold dg; simp
  have e3 : dg e 3 = e % 16 := by unfold dg; simp
  rw [e0] at h0 ⊢
  rw [e1] at h2 ⊢
  rw [e2] at h3 ⊢
  rw [e3] at h4 ⊢
  have ed : dec e = 1000 * (e / 4096 % 16) + 100 * (e / 256 % 16) + 10 * (e / 16 % 16) + e % 16 := rfl
  generalize e / 4096 % 16 = a at *
  generalize e / 256 % 16 = b at *
  generalize e / 16 % 16 = c at *
  generalize e % 16 = d at *
  generalize dec e = x at *
  refine ⟨?_, ?_, ?_, ?_⟩
  · rw [show nI x / (1000 : Int32) = _ from pk_div (d := 1000) (by omega) (by omega) (by omega)]
    exact congrArg nI (by omega)
  · rw [show nI x / (100 : Int32) = _ from pk_div (d := 100) (by omega) (by omega) (by omega)]
    exact (md 10 (by omega)).trans (congrArg nI (by omega))
  · rw [show nI x / (10 : Int32) = _ from pk_div (d := 10) (by omega) (by omega) (by omega)]
    exact (md 10 (by omega)).trans (congrArg nI (by omega))
  · exact (md 10 (by omega)).trans (congrArg nI (by omega))
theorem sup_m (hv : VZ Z) {q : Int32} {e : Nat} (h : e ∈ SL Z q) : f5_supportOf (nI (dec e)) = nI (mk e) := by
  obtain ⟨d0, d1, d2, d3⟩ := dig_m hv h
  have b0 := dg_lt e 0
  have b1 := dg_lt e 1
  have b2 := dg_lt e 2
  have b3 := dg_lt e 3
  unfold f5_supportOf
  rw [d0, d1, d2, d3, show (if nI (dg e 0) ≤ (0 : Int32) then (0 : Int32) else 1) = _ from bit_m (k := 1) (by omega), show (if nI (dg e 1) ≤ (0 : Int32) then (0 : Int32) else 2) = _ from bit_m (k := 2) (by omega), show (if nI (dg e 2) ≤ (0 : Int32) then (0 : Int32) else 4) = _ from bit_m (k := 4) (by omega), show (if nI (dg e 3) ≤ (0 : Int32) then (0 : Int32) else 8) = _ from bit_m (k := 8) (by omega), nI_add, nI_add, nI_add, ← mk_sm]
  simp only [sm, Nat.reducePow, Nat.zero_add]
/-- the lists and the ways lie in the model -/
def LD (s : MS) (Z : Nat → Nat) : Prop := (∀ c, c < 4 → ∀ k e, (SL Z (rs Z c))[k]? = some e → m_listed s (700 * c + k) = nI (dec e)) ∧ ∀ n, n ≤ 4 → ∀ t, t < 16 → m_waysOn s (16 * (4 - n) + t) = lN (Wk (xs Z) (yM (PT Z)) n t)
theorem AW.ld {s : MS} (h : AW ms Z s) : LD s Z := by
  obtain ⟨L, N, B, W, rfl, h1, h2⟩ := h
  exact ⟨fun c hc => (h1 c hc).2, h2⟩
theorem way_m {s : MS} (hv : VZ Z) (h : LD s Z) {i u : Nat} (hi : i < 4) (hu : u < 16) (hU : u &&& US Z = u) : m_waysOn s (16 * (i + 1) + u) = lN (Wk (xs Z) (yC Z) (3 - i) u) := by
  have := h.2 (3 - i) (by omega) u hu
  rw [show 4 - (3 - i) = i + 1 by omega, Wk_MC hv (by omega) hu hU] at this
  exact this
theorem at16 (i u : Nat) : (16 : Int32) * nI i + (16 : Int32) + nI u = nI (16 * (i + 1) + u) := by
  rw [show (16 : Int32) * nI i + (16 : Int32) = nI (16 * i + 16) from emk 16 i 16 rfl, nI_add]
  exact congrArg nI (by omega)
theorem find_m {s : MS} (hv : VZ Z) (h : LD s Z) {i : Nat} (hi : i < 4) {q : Nat × Nat} (g : gdS Z i q) : wh (f5_layMatcher_b62 s (nI q.2) (nI i)) FU (lN q.1, nI (700 * i), lN (hW Z i q.2 (mk ((SL Z (rs Z i)).getD 0 0)))) = some (lN (kN Z i q).1, nI (700 * i + jO Z i q)) := by
  obtain ⟨a1, a2, a3, a4, a5⟩ := kN_ok hv hi g
  obtain ⟨g1, g2, g3⟩ := g
  have hl := SL_220 hv hi
  have hq : q.1 < 2 ^ 32 := Nat.lt_trans g1 (Wk_big hv (by omega) g2)
  have hw : ∀ e, hW Z i q.2 (mk e) < 2 ^ 32 := fun e => Wk_big hv (by omega) (or_lt _ g2 _ (mk_lt e))
  refine wh_for' (jO Z i q) (by omega) (fun j => (lN (q.1 - LSq (hW Z i q.2) ((SL Z (rs Z i)).take j)), nI (700 * i + j), lN (hW Z i q.2 (mk ((SL Z (rs Z i)).getD j 0))))) (by simp [LSq]) (fun j hj => ?_) ?_
  · obtain ⟨b1, b2⟩ := pj_before hj a1 a3
    have hm := getD_mem (show j + 1 < (SL Z (rs Z i)).length by omega)
    have ho := or_lt _ g2 _ (mk_lt ((SL Z (rs Z i)).getD (j + 1) 0))
    have hU := or_us _ (US_lt Z) _ g2 _ (mk_lt ((SL Z (rs Z i)).getD (j + 1) 0)) g3 (mk_in hv hm)
    have hw0 := hw ((SL Z (rs Z i)).getD j 0)
    unfold f5_layMatcher_b62
    simp only
    rw [if_neg (fun z => by have := (pk_lLT (by omega) (by omega)).mp ((lg_cmp_lt _ _).mp z); omega), nI_1, if_pos (ib_n (by omega) (by omega)), tn (by omega), show m_listed s (700 * i + j + 1) = _ from h.1 i hi (j + 1) _ (getD_some (by omega)), sup_m hv hm, or16b _ g2 _ (mk_lt _), at16, if_pos (ib_n (by omega) (by omega)), tn (by omega), way_m hv h hi ho hU, show Wk (xs Z) (yC Z) (3 - i) (q.2 ||| mk ((SL Z (rs Z i)).getD (j + 1) 0)) = hW Z i q.2 (mk ((SL Z (rs Z i)).getD (j + 1) 0)) from rfl, lq_e, lN_sub (by omega), b1, Nat.sub_sub]
    rfl
  · unfold f5_layMatcher_b62
    simp only
    have a6 : q.1 < LSq (hW Z i q.2) ((SL Z (rs Z i)).take (jO Z i q)) + hW Z i q.2 (mk ((SL Z (rs Z i)).getD (jO Z i q) 0)) := a4
    have a7 := hw ((SL Z (rs Z i)).getD (jO Z i q) 0)
    rw [if_pos ((lg_cmp_lt _ _).mpr ((pk_lLT (by omega) (by omega)).mpr (by omega)))]
    rfl
/-- the model's values -/
def VM (ms : MS) (V : Nat → Int32) : MS := (m_z ms, m_states ms, m_history ms, m_snaps ms, m_taken ms, m_length ms, m_text ms, m_thrown ms, m_listed ms, m_many ms, m_bySupport ms, m_waysOn ms, V, m_leastOnes ms, m_leastMany ms, m_sumsOf ms, m_readTimes ms, m_last ms, m_hash ms)
theorem VM_s (ms : MS) (V V' : Nat → Int32) : m_values_s (VM ms V) V' = VM ms V' := rfl
def CV (Z : Nat → Nat) (k : Nat) (V : Nat → Int32) (n : Nat) : Prop := ∀ p, p < n → ∀ f, f < 4 → V (4 * f + p) = nI (dg (eO Z p (kS Z k p)) f)
theorem lay_step {s : MS} (hv : VZ Z) (h : LD s Z) {i : Nat} (hi : i < 4) {q : Nat × Nat} (g : gdS Z i q) (V : Nat → Int32) : f5_layMatcher_b19 (VM s V, lN q.1, nI q.2, nI i) = some (.inl (VM s (upd (upd (upd (upd V i (nI (dg (eO Z i q) 0))) (4 + i) (nI (dg (eO Z i q) 1))) (8 + i) (nI (dg (eO Z i q) 2))) (12 + i) (nI (dg (eO Z i q) 3))), lN (kN Z i q).1, nI (kN Z i q).2, nI (i + 1))) := by
  obtain ⟨a1, a2, a3, a4, a5⟩ := kN_ok hv hi g
  have hf := find_m (s := VM s V) hv h hi g
  obtain ⟨g1, g2, g3⟩ := g
  have hl := SL_220 hv hi
  have hm := getD_mem (show 0 < (SL Z (rs Z i)).length by omega)
  have ho := or_lt _ g2 _ (mk_lt ((SL Z (rs Z i)).getD 0 0))
  have hU := or_us _ (US_lt Z) _ g2 _ (mk_lt ((SL Z (rs Z i)).getD 0 0)) g3 (mk_in hv hm)
  obtain ⟨d0, d1, d2, d3⟩ := dig_m hv a2
  unfold f5_layMatcher_b19
  simp only
  rw [if_neg (show ¬ (4 : Int32) ≤ nI i from lge 4 hi), show (700 : Int32) * nI i = nI (700 * i) from pk_mul 700 i, if_pos (ib_n (by omega) (by omega)), tn (by omega), show m_listed (VM s V) (700 * i) = _ from h.1 i hi 0 _ (getD_some (by omega)), sup_m hv hm, or16b _ g2 _ (mk_lt _), at16, if_pos (ib_n (by omega) (by omega)), tn (by omega), show m_waysOn (VM s V) _ = _ from way_m hv h hi ho hU, lq_e, show wh (f5_layMatcher_b62 (VM s V) (nI q.2) (nI i)) FU (lN q.1, nI (700 * i), lN (Wk (xs Z) (yC Z) (3 - i) (q.2 ||| mk ((SL Z (rs Z i)).getD 0 0)))) = _ from hf, bi1_s]
  simp only
  rw [if_pos (ib_n (by omega) (by omega)), if_pos (ib_n (by omega) (by omega)), if_pos (ib_n (by omega) (by omega)), if_pos (ib_n (by omega) (by omega)), show (4 : Int32) + nI i = nI (4 + i) from nI_add 4 i, show (8 : Int32) + nI i = nI (8 + i) from nI_add 8 i, show (12 : Int32) + nI i = nI (12 + i) from nI_add 12 i, if_pos (ib_n (by omega) (by omega)), if_pos (ib_n (by omega) (by omega)), if_pos (ib_n (by omega) (by omega)), if_pos (ib_n (by omega) (by omega)), if_pos (ib_n (by omega) (by omega)), tn (by omega), tn (by omega), tn (by omega), tn (by omega), tn (by omega), show m_listed (VM s V) (700 * i + jO Z i q) = nI (dec (eO Z i q)) from h.1 i hi _ _ (getD_some a1), d0, d1, d2, d3, VM_s, VM_s, VM_s, VM_s, sup_m hv a2, or16b _ g2 _ (mk_lt _), nI_1]
  rfl
theorem layMatcher_m (hM : MZ ms Z) (hv : VZ Z) {k : Nat} (hk : k < Wk (xs Z) (yC Z) 4 0) (hk2 : k < 2 ^ 31) : ∃ s, f5_layMatcher ms (nI k) = some s ∧ msame ms s ∧ m_thrown s = m_thrown ms ∧ m_hash s = m_hash ms ∧ CV Z k (m_values s) 4 := by
  obtain ⟨s0, s1, k1, k2, k3⟩ := lay_m hM hv
  have hL := k3.ld
  obtain ⟨r1, r2, r3⟩ := k3.same
  have key : ∃ s', wh f5_layMatcher_b19 FU (s1, lN k, (0 : Int32), (0 : Int32)) = some s' ∧ ∃ V, s' = VM s1 V ∧ CV Z k V 4 := by
    refine wh_inv 4 (by omega) (fun i z => ∃ V, z = (VM s1 V, lN (kS Z k i).1, nI (kS Z k i).2, nI i) ∧ CV Z k V i) _ ⟨m_values s1, rfl, fun p hp => by omega⟩ ?_ ?_
    · rintro i _ hi ⟨V, rfl, hC⟩
      refine Or.inl ⟨_, lay_step hv hL hi (kS_gd hv hk i (by omega)) V, _, rfl, fun p hp f hf => ?_⟩
      by_cases e : p = i
      · subst e
        rcases (show f = 0 ∨ f = 1 ∨ f = 2 ∨ f = 3 by omega) with rfl | rfl | rfl | rfl
        · rw [pk_un (by omega), pk_un (by omega), pk_un (by omega), show 4 * 0 + p = p by omega, pk_us]
        · rw [pk_un (by omega), pk_un (by omega), show 4 * 1 + p = 4 + p by omega, pk_us]
        · rw [pk_un (by omega), show 4 * 2 + p = 8 + p by omega, pk_us]
        · rw [show 4 * 3 + p = 12 + p by omega, pk_us]
      · rw [pk_un (by omega), pk_un (by omega), pk_un (by omega), pk_un (by omega)]
        exact hC p (by omega) f hf
    · rintro _ ⟨V, rfl, hC⟩
      refine ⟨_, ?_, V, rfl, hC⟩
      unfold f5_layMatcher_b19
      exact if_pos (Int32.le_refl _)
  obtain ⟨s', z1, V, rfl, z2⟩ := key
  refine ⟨VM s1 V, ?_, r1.t ⟨rfl, rfl, rfl, rfl, rfl, rfl, rfl⟩, r2, r3, z2⟩
  unfold f5_layMatcher
  rw [k1, bi1_s, k2, bi1_s, nI_l hk2, z1, bi1_s]
/-- is it a matcher -/
theorem isMatcher_m (hM : MZ ms Z) (hv : VZ Z) {k : Nat} (hk2 : k < 2 ^ 31) : ∃ s, f5_isMatcher ms (nI k) = some (s, if k < Wk (xs Z) (yC Z) 4 0 then 1 else 0) ∧ msame ms s ∧ m_thrown s = m_thrown ms ∧ m_hash s = m_hash ms := by
  have hb := Wk_big hv (n := 4) (by omega) (s := 0) (by omega)
  obtain ⟨s, k1, k2⟩ := now_m hM hv
  obtain ⟨r1, r2, r3⟩ := k2.same
  refine ⟨s, ?_, r1, r2, r3⟩
  rw [Wk_MC hv (by omega) (by omega) (zero_in _ (US_lt Z))] at k1
  unfold f5_isMatcher
  rw [if_neg (nI_pos hk2), k1, bi2_s, nI_l hk2]
  by_cases q : k < Wk (xs Z) (yC Z) 4 0
  · rw [if_pos q, if_neg (fun z => by have := (pk_lLE (by omega) (by omega)).mp ((lg_cmp_ge _ _).mp z); omega)]
  · rw [if_neg q, if_pos ((lg_cmp_ge _ _).mpr ((pk_lLE (by omega) (by omega)).mpr (by omega)))]
theorem isMatcher_no {x : Int32} (hx : x < 0) : f5_isMatcher ms x = some (ms, 0) := if_pos hx
end QF
