/-! (of the class alone) -/
theorem ni_in (n : Nat) {k : Nat} (h : k < n) (hn : n < 2 ^ 31 := by omega) : f4_needIndex (nI k) (nI n) = .inr () := needIndex_in h hn
theorem nn_in (m : Nat) {k : Nat} (h : k ≤ m) (hm : m < 2 ^ 31 := by omega) : f4_needNumber (nI k) 0 (nI m) = .inr () := needNumber_in h hm
def esame (st st' : CS) : Prop := c_weight st' = c_weight st ∧ c_used st' = c_used st ∧ c_most st' = c_most st ∧ c_canBeEmpty st' = c_canBeEmpty st ∧ c_eprep st' = c_eprep st ∧ c_rows st' = c_rows st ∧ c_size st' = c_size st ∧ c_exactly st' = c_exactly st ∧ c_within st' = c_within st ∧ c_eways st' = c_eways st
def lsame (st st' : CS) : Prop := c_difference st' = c_difference st ∧ c_numbers st' = c_numbers st ∧ c_found st' = c_found st ∧ c_lprep st' = c_lprep st
theorem CH.m {st st' : CS} {Hs : List (Nat → Nat)} (h : CH st Hs) (e1 : c_held st' = c_held st) (e2 : c_oldest st' = c_oldest st) (e3 : c_kept st' = c_kept st) : CH st' Hs := by
  unfold CH
  rw [e1, e2, e3]
  exact h
theorem CH_cs {st : CS} {Hs : List (Nat → Nat)} {v : Nat → Int32} (h : CH st Hs) : CH (c_state_s st v) Hs := h.m rfl rfl rfl
/-- one of the state's numbers -/
def uz (Z : Nat → Nat) (k v : Nat) : Nat → Nat := fun j => if j = k then v else Z j
theorem uz_v {Z : Nat → Nat} (h : VZ Z) {k v : Nat} (hv : v ≤ bd k) : VZ (uz Z k v) := by
  intro j hj
  unfold uz
  split
  · rename_i e
    subst e
    exact hv
  · exact h j hj
theorem uz_u {f : Nat → Int32} {Z : Nat → Nat} (h : ∀ k, k < 26 → f k = nI (Z k)) (k v : Nat) : ∀ j, j < 26 → upd f k (nI v) j = nI (uz Z k v j) := by
  intro j hj
  unfold upd uz
  split
  · rfl
  · exact h j hj
section PB
variable {EP LP : CS → (Nat → Nat) → Prop} {st : CS}
/-- a number is put into the class's state -/
theorem change_ok {Z : Nat → Nat} {Hs : List (Nat → Nat)} (h : CZ st Z) (hh : CH st Hs) {k : Nat} (hk : k < 26) (v : Int32) : ∃ K o n, f4_change st (nI k) v = some (c_state_s (KS st K o n) (upd (c_state st) k v), nI (Z k)) ∧ CH (KS st K o n) (psh Hs Z) := by
  obtain ⟨K, o, n, e1, e2⟩ := keep_c h hh
  refine ⟨K, o, n, ?_, e2⟩
  unfold f4_change
  rw [e1, bi1_s, if_pos (ib_n hk (by omega)), if_pos (ib_n hk (by omega)), tn (by omega)]
  show some (c_state_s (KS st K o n) (upd (c_state st) k v), c_state st k) = _
  rw [h k hk]
end PB
