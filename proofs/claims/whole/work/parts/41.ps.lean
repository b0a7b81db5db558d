/-! solutions; the sums over sets. -/
section PS
variable {LP : CS → (Nat → Nat) → Prop} {st : CS} {ms : MS}
theorem Rel.prep (hS : Snd EP LP) (h : Rel EP LP st ms) : ∃ s Z, f0_prepare st = some s ∧ Rel EP LP s ms ∧ VZ Z ∧ CZ s Z ∧ MZ ms Z ∧ EPt s Z ∧ csame st s := by
  obtain ⟨Z, Hs, h1, h2, h3, h4, h5, h6, h7, h8, h9, h10⟩ := h
  obtain ⟨s, e1, e2, e3, e4⟩ := prepare_c h2 h1 h9
  exact ⟨s, Z, e1, ⟨Z, Hs, h1, h2.m e2.1, h3, h4, h5.m e2.2.1 e2.2.2.1 e2.2.2.2.1, h6, h7.m e2.2.2.2.2.1 e2.2.2.2.2.2.1 rfl rfl, h8.m e2.2.2.2.2.2.2.1 e2.2.2.2.2.2.2.2 rfl rfl, Or.inr e4, hS.2.2.2 st _ _ e3 h10⟩, h1, h2.m e2.1, h3, e4, e2⟩
theorem LM_msame (ms : MS) (L N B : Nat → Int32) : msame ms (LM ms L N B) := ⟨rfl, rfl, rfl, rfl, rfl, rfl, rfl⟩
theorem WM_msame (ms : MS) (W : Nat → Int64) : msame ms (WM ms W) := ⟨rfl, rfl, rfl, rfl, rfl, rfl, rfl⟩
theorem msame.t {a b c : MS} (h : msame a b) (g : msame b c) : msame a c := ⟨g.1.trans h.1, g.2.1.trans h.2.1, g.2.2.1.trans h.2.2.1, g.2.2.2.1.trans h.2.2.2.1, g.2.2.2.2.1.trans h.2.2.2.2.1, g.2.2.2.2.2.1.trans h.2.2.2.2.2.1, g.2.2.2.2.2.2.trans h.2.2.2.2.2.2⟩
theorem solutionsOf_m {Z : Nat → Nat} (hM : MZ ms Z) (hv : VZ Z) {c : Nat} (hc : c < 4) : ∃ s, f5_solutionsOf ms (nI c) = some (s, nI (SL Z (rs Z c)).length) ∧ msame ms s ∧ m_thrown s = m_thrown ms ∧ m_hash s = m_hash ms := by
  have h2 := SL_220 hv hc
  have hq : rs Z c < 0 ∨ ∃ r, r < 1000 ∧ rs Z c = nI r := by
    rcases rs_9 hv hc with z | ⟨r, z, e⟩
    · exact Or.inl z
    · exact Or.inr ⟨r, by omega, e⟩
  obtain ⟨s, k1, k2⟩ := list_m hM hv hc hq (by omega)
  obtain ⟨L, N, B, rfl, _, _, _, k3, _⟩ := k2
  refine ⟨LM ms L N B, ?_, LM_msame _ _ _ _, rfl, rfl⟩
  unfold f5_solutionsOf
  rw [rs_m hM hc, bi1_s, k1, bi1_s, if_pos (ib_n hc (by omega)), tn (by omega)]
  show some (LM ms L N B, N c) = _
  rw [k3]
theorem s15 (hS : Snd EP LP) : St15 (Rel EP LP) := by
  intro st ms hR x0
  rcases ar x0 4 (by omega) with ⟨c, hc, rfl⟩ | h0
  · obtain ⟨s, Z, p1, p2, p3, p4, p5, p6, p7⟩ := hR.prep hS
    obtain ⟨s', k1, k2, k3, _⟩ := solutionsOf_m (ms := m_thrown_s ms 0) (Z := Z) p5 p3 hc
    refine ⟨s, .inr (nI (SL Z (rs Z c)).length), s', nI (SL Z (rs Z c)).length, 0, ?_, ?_, rfl, k3, fun _ q => by cases q; rfl, p2.m ((msame_t ms 0).t k2)⟩
    · show f4_solutions st (nI c) = _
      unfold f4_solutions f0_solutionsOf
      rw [show f4_needIndex (nI c) 4 = _ from ni_in 4 hc, bt0_r, p1, bi1_s, if_pos (ib_n (by omega) (by omega)), tn (by omega), (p6.2.2.2.1 c hc).1, bi1_s]
    · show f5_solutions ms (nI c) = _
      unfold f5_solutions
      rw [isC_in hc]
      show (bi2 (f5_solutionsOf (m_thrown_s ms 0) (nI c)) fun st6 r7 => some (st6, r7)) = _
      rw [k1, bi2_s]
  · refine ok_ref (e := 0) (v := 1) ?_ ?_ rfl hR
    · show f4_solutions _ _ = _
      unfold f4_solutions
      rw [show f4_needIndex x0 4 = _ from ni_out 4 h0, bt0_l]
    · show f5_solutions _ _ = _
      unfold f5_solutions
      rw [isC_out h0]
      rfl
end PS
/-- the sum over the supports that miss E -/
def AE (x : Nat → Nat) (E : Nat) : Nat := sm (fun t => if t &&& E = 0 then x t else 0) 16
theorem sm16 (f : Nat → Nat) : sm f 16 = f 0 + f 1 + f 2 + f 3 + f 4 + f 5 + f 6 + f 7 + f 8 + f 9 + f 10 + f 11 + f 12 + f 13 + f 14 + f 15 := by
  simp only [sm]
  omega
theorem V_sum (x : Nat → Nat) : ∀ t, t < 16 → V x 4 t = sm (fun s => if s &&& t = s then x s else 0) 16 := by
  intro t ht
  rw [sm16]
  rcases (show t = 0 ∨ t = 1 ∨ t = 2 ∨ t = 3 ∨ t = 4 ∨ t = 5 ∨ t = 6 ∨ t = 7 ∨ t = 8 ∨ t = 9 ∨ t = 10 ∨ t = 11 ∨ t = 12 ∨ t = 13 ∨ t = 14 ∨ t = 15 by omega) with rfl | rfl | rfl | rfl | rfl | rfl | rfl | rfl | rfl | rfl | rfl | rfl | rfl | rfl | rfl | rfl
  all_goals
    simp [V]
    try omega
theorem in_miss : ∀ U, U < 16 → ∀ E, E < 16 → ∀ s, s < 16 → s &&& U = s → (s &&& (U &&& (15 - E)) = s ↔ s &&& E = 0) := by decide +kernel
/-- within the variables outside of E -/
theorem V_AE {x : Nat → Nat} {U E : Nat} (hU : U < 16) (hE : E < 16) (hx : ∀ t, t < 16 → ¬ t &&& U = t → x t = 0) : V x 4 (U &&& (15 - E)) = AE x E := by
  have h : U &&& (15 - E) < 16 := (and16 U hU (15 - E) (by omega)).2
  rw [V_sum x _ h, AE]
  refine sm_congr (fun s hs => ?_)
  by_cases q : s &&& U = s
  · have := in_miss U hU E hE s hs q
    by_cases e : s &&& E = 0
    · rw [if_pos (this.mpr e), if_pos e]
    · rw [if_neg (fun z => e (this.mp z)), if_neg e]
  · rw [hx s hs q]
    split <;> split <;> rfl
