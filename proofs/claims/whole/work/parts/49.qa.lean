/-! ifMore: the model's answer. -/
section QA
variable {ms : MS} {Z : Nat → Nat}
/-- how many solutions have a support, one rest being changed -/
def xr (Z : Nat → Nat) (x d : Int32) (p : Nat) : Nat → Nat := cnt (SL Z (rq Z x d p))
theorem more_m (hM : MZ ms Z) (hv : VZ Z) {c k : Nat} (hk : k < 19) : ∃ s, f5_moreThen ms (nI c) (nI k - 9) = some (s, lN (Wk (xr Z (nI c) (nI k - 9)) (yM (PT Z)) 4 0)) ∧ msame ms s ∧ m_thrown s = m_thrown ms ∧ m_hash s = m_hash ms := by
  have hq := rq_d hv (c := c) hk
  obtain ⟨s, k1, k2⟩ := listAll_m hM hv hq
  have hM' := k2.mz hM
  obtain ⟨L, N, B, rfl, k3⟩ := k2
  obtain ⟨W, w1, w2⟩ := ways_m (ms := LM ms L N B) hM' hv (x := xr Z (nI c) (nI k - 9)) (fun p hp u hu => (k3 p hp).2.2 u hu) (fun p hp u _ => by
    have h1 := cnt_le (SL Z (rq Z (nI c) (nI k - 9) p)) u
    have h2 := (hq p hp).2
    unfold xr
    omega)
  refine ⟨WM (LM ms L N B) W, ?_, (LM_msame _ _ _ _).t (WM_msame _ _), rfl, rfl⟩
  unfold f5_moreThen
  rw [k1, bi1_s, w1, bi1_s]
  show some (_, W 0) = _
  rw [show W 0 = _ from w2 4 (by omega) 0 (by omega)]
end QA
