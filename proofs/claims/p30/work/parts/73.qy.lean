/-! (of the class alone) -/
theorem LQ_same {s s' : CS} {Z : Nat → Nat} (e : lsame s s') (h : LQ s Z) : LQ s' Z := by
  obtain ⟨e1, e2, e3, e4⟩ := e
  unfold LQ LPt at *
  rw [e1, e2, e3, e4]
  exact h
/-- the numbers of a new object -/
def Z0 (k : Nat) : Nat := if k = 24 then 1 else if k = 25 then 9 else 0
theorem Z0_s : ∀ k, upd (upd (fun _ => (0 : Int32)) (24 : Int32).toNatClampNeg (1 : Int32)) (25 : Int32).toNatClampNeg (9 : Int32) k = nI (Z0 k) := by
  intro k
  show upd (upd (fun _ => (0 : Int32)) 24 1) 25 9 k = _
  unfold upd Z0
  by_cases q : k = 25
  · subst q
    rfl
  · rw [if_neg q, if_neg q]
    by_cases w : k = 24
    · rw [if_pos w, if_pos w]
      rfl
    · rw [if_neg w, if_neg w]
      rfl
