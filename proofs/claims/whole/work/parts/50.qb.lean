/-! ifMore. -/
section QB
variable {LP : CS → (Nat → Nat) → Prop} {st : CS} {ms : MS}
theorem xr_out {Z : Nat → Nat} (hv : VZ Z) (x d : Int32) : ∀ p, p < 4 → ∀ t, t < 16 → ¬ t &&& US Z = t → xr Z x d p t = 0 := fun p _ t _ h => cnt_out (fun e he => mk_in hv he) h
theorem more_c {s : CS} {Z : Nat → Nat} (hv : VZ Z) (h : EPt s Z) {c k : Nat} (hc : c < 4) (hk : k < 19) : ∃ s', f0_bySetsIfRest s (nI c) (rs Z c + (nI k - 9)) = some (s', lN (Wk (xr Z (nI c) (nI k - 9)) (yM (PT Z)) 4 0)) ∧ csame s s' ∧ lsame s s' ∧ EPt s' Z := by
  have hq := (rq_d hv (c := c) hk c hc).1
  have e : rq Z (nI c) (nI k - 9) c = rs Z c + (nI k - 9) := by
    unfold rq
    rw [if_pos rfl]
  rw [e] at hq
  obtain ⟨s2, A, k1, k2, k3, k4⟩ := solve_c h.1 hv (p := 4) (by omega) hq
  obtain ⟨R, S, X, rfl, m1, m2, m3, m4⟩ := k2
  have hP : ∀ p, p < 4 → PF (c_within_s (ES s R S X) A) Z p := fun p hp => (h.2.2.2.1 p hp).m (m1 p (by omega)).2.1 (m1 p (by omega)).1 (m1 p (by omega)).2.2 (k3 p (by omega))
  have hw : ∀ p, p < 4 → ∃ p', p' < 5 ∧ (if nI p = nI c then (4 : Int32) else nI p) = nI p' ∧ ∀ t, t < 16 → c_within (c_within_s (ES s R S X) A) p' t = lN (V (xr Z (nI c) (nI k - 9) p) 4 t) := by
    intro p hp
    by_cases q : p = c
    · subst q
      refine ⟨4, by omega, if_pos rfl, fun t ht => ?_⟩
      unfold xr
      rw [e]
      exact k4 t ht
    · refine ⟨p, by omega, if_neg (fun z => q ((nI_eq (by omega) (by omega)).mp z)), fun t ht => ?_⟩
      unfold xr rq
      rw [if_neg (fun z => q ((nI_eq (by omega) (by omega)).mp z)), show rs Z p + 0 = rs Z p from Int32.add_zero _]
      exact (hP p hp).2.2.2 t ht
  have hs := sets_c (s := c_within_s (ES s R S X) A) (Z := Z) h.2.1 h.2.2.1 hw (xr_out hv _ _)
  refine ⟨c_within_s (ES s R S X) A, ?_, ⟨rfl, rfl, rfl, rfl, rfl, rfl, rfl, rfl⟩, ⟨rfl, rfl, rfl, rfl⟩, h.1, h.2.1, h.2.2.1, hP, h.2.2.2.2⟩
  unfold f0_bySetsIfRest
  rw [show f0_solve s 4 _ = _ from k1, bi1_s, hs, bi1_s]
end QB
