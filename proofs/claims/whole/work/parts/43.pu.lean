/-! How many matchers there are, by constants. -/
section PU
variable {ms : MS} {Z : Nat → Nat}
theorem and_eq : ∀ U, U < 16 → ∀ s, s < 16 → s &&& U = s → (s &&& U = U ↔ s = U) := by decide +kernel
theorem yMC (Z : Nat → Nat) : ∀ s, s < 16 → s &&& US Z = s → yM (PT Z) s = yC Z s := by
  intro s hs h
  have hU := US_lt Z
  unfold yM yC PT
  by_cases q : Z 24 = 1
  · rw [if_pos q, if_pos q, if_pos (by simp)]
  · rw [if_neg q, if_neg q]
    have e := and_eq _ hU s hs h
    by_cases z : s = US Z
    · rw [if_pos (e.mpr z), if_pos z]
    · rw [if_neg (fun w => z (e.mp w)), if_neg z]
theorem xs_out (hv : VZ Z) : ∀ p, p < 4 → ∀ t, t < 16 → ¬ t &&& US Z = t → xs Z p t = 0 := fun p _ t _ h => cnt_out (fun e he => mk_in hv he) h
theorem xs_le (hv : VZ Z) {p : Nat} (hp : p < 4) (t : Nat) : xs Z p t ≤ 220 := Nat.le_trans (cnt_le _ _) (SL_220 hv hp)
theorem zero_in : ∀ U, U < 16 → (0 : Nat) &&& U = 0 := by decide +kernel
/-- the ways from a set of the pattern's variables: the class's and the model's -/
theorem Wk_MC (hv : VZ Z) {n s : Nat} (hn : n ≤ 4) (hs : s < 16) (h : s &&& US Z = s) : Wk (xs Z) (yM (PT Z)) n s = Wk (xs Z) (yC Z) n s := Wk_eq (US_lt Z) (xs_out hv) (yMC Z) n hn s hs h
/-- what the model knows when its lists and ways are laid -/
def AW (ms : MS) (Z : Nat → Nat) (s : MS) : Prop := ∃ L N B W, s = WM (LM ms L N B) W ∧ (∀ c, c < 4 → N c = nI (SL Z (rs Z c)).length ∧ ∀ k e, (SL Z (rs Z c))[k]? = some e → L (700 * c + k) = nI (dec e)) ∧ ∀ n, n ≤ 4 → ∀ t, t < 16 → W (16 * (4 - n) + t) = lN (Wk (xs Z) (yM (PT Z)) n t)
theorem lay_m (hM : MZ ms Z) (hv : VZ Z) : ∃ s s', f5_listAll ms (-1) 0 = some s ∧ f5_layWays s = some s' ∧ AW ms Z s' := by
  obtain ⟨s, k1, k2⟩ := listAll_m hM hv (rq_ok hv)
  have hM' := k2.mz hM
  obtain ⟨L, N, B, rfl, k3⟩ := k2
  obtain ⟨W, w1, w2⟩ := ways_m (ms := LM ms L N B) hM' hv (x := xs Z) (fun p hp u hu => by
    have := (k3 p hp).2.2 u hu
    simp only [rq_0 hp] at this
    exact this) (fun p hp u _ => by have := xs_le hv hp u; omega)
  refine ⟨_, _, k1, w1, L, N, B, W, rfl, fun c hc => ?_, w2⟩
  have := k3 c hc
  simp only [rq_0 hc] at this
  exact ⟨this.1, this.2.1⟩
theorem now_m (hM : MZ ms Z) (hv : VZ Z) : ∃ s, f5_matchersNow ms = some (s, lN (Wk (xs Z) (yM (PT Z)) 4 0)) ∧ AW ms Z s := by
  obtain ⟨s, s', k1, k2, L, N, B, W, rfl, k3, k4⟩ := lay_m hM hv
  refine ⟨_, ?_, L, N, B, W, rfl, k3, k4⟩
  unfold f5_matchersNow
  rw [k1, bi1_s, k2, bi1_s]
  show some (_, W 0) = _
  rw [show W 0 = _ from k4 4 (by omega) 0 (by omega)]
theorem AW.same {s : MS} (h : AW ms Z s) : msame ms s ∧ m_thrown s = m_thrown ms ∧ m_hash s = m_hash ms := by
  obtain ⟨L, N, B, W, rfl, _⟩ := h
  exact ⟨(LM_msame _ _ _ _).t (WM_msame _ _), rfl, rfl⟩
theorem byConstants_c {s : CS} (hv : VZ Z) (h : EPt s Z) : f0_byConstants s = some (lN (Wk (xs Z) (yM (PT Z)) 4 0)) := by
  unfold f0_byConstants
  rw [Wk_MC hv (by omega) (by omega) (zero_in _ (US_lt Z))]
  exact congrArg some (h.2.2.2.2 4 (by omega) 0 (by omega))
end PU
