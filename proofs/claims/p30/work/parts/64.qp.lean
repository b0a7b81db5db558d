/-! (of the class alone) -/
section QP
variable {EP : CS → (Nat → Nat) → Prop} {st : CS} {Z : Nat → Nat}
/-- one number of the least solutions -/
def la (Z : Nat → Nat) (k v : Nat) : Int32 := if k < (LO Z).length then nI (d6 ((LO Z).getD k 0) v) else -1
theorem la_c {s : CS} (hv : VZ Z) (h : LPt s Z) {k v : Nat} (hk : k < 2 ^ 31) (hv4 : v < 4) : f2_number s (nI k) (nI v) = some (la Z k v) := by
  unfold la
  by_cases q : k < (LO Z).length
  · rw [if_pos q, number_c h.2 (LO_30 hv) (getD_some q) hv4]
  · rw [if_neg q, number_no h.2 (LO_30 hv) hk (by omega)]
/-- the greatest sum of a least solution, of the first ones -/
def sd (e : Nat) : Nat := d6 e 0 + d6 e 1 + d6 e 2 + d6 e 3
theorem sd_lt (e : Nat) : sd e < 30 := by
  have b0 := d6_lt e 0
  have b1 := d6_lt e 1
  have b2 := d6_lt e 2
  have b3 := d6_lt e 3
  unfold sd
  omega
def gm (l : List Nat) : Nat → Nat
  | 0 => 0
  | i + 1 => if gm l i < sd (l.getD i 0) then sd (l.getD i 0) else gm l i
theorem gm_lt (l : List Nat) : ∀ i, gm l i < 30
  | 0 => by show (0 : Nat) < 30; omega
  | i + 1 => by
    rw [gm]
    have h1 := gm_lt l i
    have h2 := sd_lt (l.getD i 0)
    split
    · exact h2
    · exact h1
theorem greatest_c {s : CS} (hv : VZ Z) (h : LPt s Z) : f2_greatestSum s = some (nI (gm (LO Z) (LO Z).length)) := by
  have h30 := LO_30 hv
  have h1 : wh (f2_greatestSum_b4 s) FU ((0 : Int32), (0 : Int32)) = some (nI (gm (LO Z) (LO Z).length)) := by
    refine wh_for' (LO Z).length (by omega) (fun i => (nI (gm (LO Z) i), nI i)) rfl (fun i hi => ?_) ?_
    · have b1 := gm_lt (LO Z) i
      have b2 := sd_lt ((LO Z).getD i 0)
      unfold f2_greatestSum_b4
      simp only
      rw [h.2.1, if_neg (nI_ge hi (by omega)), show f2_number s (nI i) 0 = _ from number_c h.2 h30 (getD_some hi) (v := 0) (by omega), bi1_s, show f2_number s (nI i) 1 = _ from number_c h.2 h30 (getD_some hi) (v := 1) (by omega), bi1_s, show f2_number s (nI i) 2 = _ from number_c h.2 h30 (getD_some hi) (v := 2) (by omega), bi1_s, show f2_number s (nI i) 3 = _ from number_c h.2 h30 (getD_some hi) (v := 3) (by omega), bi1_s, nI_add, nI_add, nI_add, lq_e, nI_1, gm, show d6 ((LO Z).getD i 0) 0 + d6 ((LO Z).getD i 0) 1 + d6 ((LO Z).getD i 0) 2 + d6 ((LO Z).getD i 0) 3 = sd ((LO Z).getD i 0) from rfl]
      by_cases q : gm (LO Z) i < sd ((LO Z).getD i 0)
      · rw [if_pos (nI_lt q (by omega)), if_pos q]
      · rw [if_neg (nI_nlt (by omega) (by omega)), if_neg q]
    · unfold f2_greatestSum_b4
      simp only
      rw [h.2.1, if_pos (Int32.le_refl _)]
  unfold f2_greatestSum
  rw [h1, bi1_s]
/-- factors that all three have -/
def m2 (Z : Nat → Nat) (f : Nat) : Nat := if Z (8 + f) ≤ Z f then Z (8 + f) else Z f
def m3 (Z : Nat → Nat) (f : Nat) : Nat := if Z (16 + f) ≤ m2 Z f then Z (16 + f) else m2 Z f
end QP
