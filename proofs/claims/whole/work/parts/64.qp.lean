/-! least; count. -/
section QP
variable {EP : CS → (Nat → Nat) → Prop} {st : CS} {ms : MS} {Z : Nat → Nat}
theorem LE4_same (ms : MS) (on : Nat → Int32) (mn : Int32) : msame ms (LE4 ms on mn) := ⟨rfl, rfl, rfl, rfl, rfl, rfl, rfl⟩
theorem p4_d6 (e : Nat) {v : Nat} (hv : v < 4) : p4 (d6 e 0) (d6 e 1) (d6 e 2) (d6 e 3) v = d6 e v := by
  rcases (show v = 0 ∨ v = 1 ∨ v = 2 ∨ v = 3 by omega) with rfl | rfl | rfl | rfl <;> rfl
theorem dig_dc (e : Nat) {v : Nat} (hv : v < 4) : f5_digit (nI (dc e)) (nI v) = nI (d6 e v) := by
  have bb : ∀ v, d6 e v < 10 := fun v => by have := d6_lt e v; omega
  rw [← p4_d6 e hv]
  exact digit_m (bb 0) (bb 1) (bb 2) (bb 3) hv
/-- one number of the least solutions -/
def la (Z : Nat → Nat) (k v : Nat) : Int32 := if k < (LO Z).length then nI (d6 ((LO Z).getD k 0) v) else -1
theorem la_c {s : CS} (hv : VZ Z) (h : LPt s Z) {k v : Nat} (hk : k < 2 ^ 31) (hv4 : v < 4) : f2_number s (nI k) (nI v) = some (la Z k v) := by
  unfold la
  by_cases q : k < (LO Z).length
  · rw [if_pos q, number_c h.2 (LO_30 hv) (getD_some q) hv4]
  · rw [if_neg q, number_no h.2 (LO_30 hv) hk (by omega)]
theorem leastAt_m (hM : MZ ms Z) (hv : VZ Z) {k v : Nat} (hk : k < 2 ^ 31) (hv4 : v < 4) : ∃ s, f5_leastAt ms (nI k) (nI v) = some (s, la Z k v) ∧ msame ms s ∧ m_thrown s = m_thrown ms ∧ m_hash s = m_hash ms := by
  have h30 := LO_30 hv
  obtain ⟨on, mn, k1, k2, k3⟩ := layLeast_m hM hv
  refine ⟨LE4 ms on mn, ?_, LE4_same _ _ _, rfl, rfl⟩
  unfold f5_leastAt la
  rw [k1, bi1_s, show m_leastMany (LE4 ms on mn) = _ from k2]
  by_cases q : k < (LO Z).length
  · rw [if_neg (nI_ge q (by omega)), if_pos q, if_pos (ib_n (by omega) (by omega)), tn hk, show m_leastOnes (LE4 ms on mn) k = _ from k3 k _ (getD_some q), dig_dc _ hv4]
  · rw [if_pos (nI_le (by omega) hk), if_neg q]
theorem s18 (hS : Snd EP LQ) : St18 (Rel EP LQ) := by
  intro st ms hR x0 x1
  rcases ar x1 4 (by omega) with ⟨v, hv4, rfl⟩ | h1
  · by_cases hx : x0 < 0
    · have hx2 : ¬ (0 : Int32) ≤ x0 := Int32.not_le.mpr hx
      refine ok_ref (e := 1) (v := 2) ?_ ?_ rfl hR
      · show f4_least _ _ _ = _
        unfold f4_least
        rw [show f4_needIndex (nI v) 4 = _ from ni_in 4 hv4, bt0_r, if_neg hx2]
      · show f5_least _ _ _ = _
        unfold f5_least
        rw [isV_in hv4, if_neg one_ne, if_neg hx2]
        rfl
    · obtain ⟨k, hk, rfl⟩ := nI_of hx
      obtain ⟨s, Z, p1, p2, p3, p4, p5, p6, _, _, _, p8⟩ := hR.pl hS
      obtain ⟨s', m1, m2, m3, m4⟩ := leastAt_m (ms := m_thrown_s ms 0) (Z := Z) p4 p2 hk hv4
      refine ⟨s, .inr (la Z k v), s', la Z k v, 0, ?_, ?_, rfl, m3, fun _ q => by cases q; rfl, p8 s s' (csame.r s) (esame.r s) p5 ((msame_t ms 0).t m2)⟩
      · show f4_least _ _ _ = _
        unfold f4_least
        rw [show f4_needIndex (nI v) 4 = _ from ni_in 4 hv4, bt0_r, if_pos (nI_pos' hk), p1, bi1_s, la_c p2 p5 hk hv4, bi1_s]
      · show f5_least _ _ _ = _
        unfold f5_least
        rw [isV_in hv4, if_neg one_ne, if_pos (nI_pos' hk), if_pos (Int32.le_refl _), m1, bi2_s]
  · refine ok_ref (e := 0) (v := 1) ?_ ?_ rfl hR
    · show f4_least _ _ _ = _
      unfold f4_least
      rw [show f4_needIndex x1 4 = _ from ni_out 4 h1, bt0_l]
    · show f5_least _ _ _ = _
      unfold f5_least
      rw [isV_out h1]
      rfl
/-- how many variables the pattern has -/
def uv (Z : Nat → Nat) : Nat := sm (fun f => if Z (4 + f) = 0 then 0 else 1) 4
theorem unlike_c (h : CZ st Z) (hv : VZ Z) : f4_unlikeVariables st = some (nI (uv Z)) := by
  have h1 : wh (f4_unlikeVariables_b4 st) FU ((0 : Int32), (0 : Int32)) = some (nI (uv Z)) := by
    refine wh_for' 4 (by omega) (fun i => (nI (sm (fun f => if Z (4 + f) = 0 then 0 else 1) i), nI i)) rfl (fun i hi => ?_) ?_
    · unfold f4_unlikeVariables_b4
      simp only
      rw [if_neg (show ¬ (4 : Int32) ≤ nI i from lge 4 hi), show f4_hasVariable st 0 (nI i) = _ from has_c h hv (p := 0) (by omega) hi, bi1_s, nI_1, show 8 * 0 + (4 + i) = 4 + i by omega, sm]
      by_cases q : Z (4 + i) = 0
      · rw [if_pos q, if_pos q, if_pos rfl, Int32.add_zero]
        rfl
      · rw [if_neg q, if_neg q, if_neg one_ne, nI_1]
    · unfold f4_unlikeVariables_b4
      exact if_pos (Int32.le_refl _)
  unfold f4_unlikeVariables
  rw [h1, bi1_s]
theorem ones4 : ∀ a b c d : Bool, f5_ones (nI ((((0 + if a = true then 0 else 1) + if b = true then 0 else 2) + if c = true then 0 else 4) + if d = true then 0 else 8)) = nI ((((0 + if a = true then 0 else 1) + if b = true then 0 else 1) + if c = true then 0 else 1) + if d = true then 0 else 1) := by decide +kernel
theorem ones_m (Z : Nat → Nat) : f5_ones (nI (US Z)) = nI (uv Z) := by
  have h1 : US Z = _ := sm4 (fun f => Z (4 + f))
  have h2 : uv Z = (((0 + if decide (Z 4 = 0) = true then 0 else 1) + if decide (Z 5 = 0) = true then 0 else 1) + if decide (Z 6 = 0) = true then 0 else 1) + if decide (Z 7 = 0) = true then 0 else 1 := by
    unfold uv
    simp only [sm, decide_eq_true_eq]
  rw [h1, h2]
  exact ones4 _ _ _ _
/-- the greatest sum of a least solution, of the first ones -/
def sd (e : Nat) : Nat := d6 e 0 + d6 e 1 + d6 e 2 + d6 e 3
theorem sd_lt (e : Nat) : sd e < 30 := by
  have b0 := d6_lt e 0
  have b1 := d6_lt e 1
  have b2 := d6_lt e 2
  have b3 := d6_lt e 3
  unfold sd
  omega
def gm (l : List Nat) : Nat → Nat
  | 0 => 0
  | i + 1 => if gm l i < sd (l.getD i 0) then sd (l.getD i 0) else gm l i
theorem gm_lt (l : List Nat) : ∀ i, gm l i < 30
  | 0 => by show (0 : Nat) < 30; omega
  | i + 1 => by
    rw [gm]
    have h1 := gm_lt l i
    have h2 := sd_lt (l.getD i 0)
    split
    · exact h2
    · exact h1
theorem greatest_c {s : CS} (hv : VZ Z) (h : LPt s Z) : f2_greatestSum s = some (nI (gm (LO Z) (LO Z).length)) := by
  have h30 := LO_30 hv
  have h1 : wh (f2_greatestSum_b4 s) FU ((0 : Int32), (0 : Int32)) = some (nI (gm (LO Z) (LO Z).length)) := by
    refine wh_for' (LO Z).length (by omega) (fun i => (nI (gm (LO Z) i), nI i)) rfl (fun i hi => ?_) ?_
    · have b1 := gm_lt (LO Z) i
      have b2 := sd_lt ((LO Z).getD i 0)
      unfold f2_greatestSum_b4
      simp only
      rw [h.2.1, if_neg (nI_ge hi (by omega)), show f2_number s (nI i) 0 = _ from number_c h.2 h30 (getD_some hi) (v := 0) (by omega), bi1_s, show f2_number s (nI i) 1 = _ from number_c h.2 h30 (getD_some hi) (v := 1) (by omega), bi1_s, show f2_number s (nI i) 2 = _ from number_c h.2 h30 (getD_some hi) (v := 2) (by omega), bi1_s, show f2_number s (nI i) 3 = _ from number_c h.2 h30 (getD_some hi) (v := 3) (by omega), bi1_s, nI_add, nI_add, nI_add, lq_e, nI_1, gm, show d6 ((LO Z).getD i 0) 0 + d6 ((LO Z).getD i 0) 1 + d6 ((LO Z).getD i 0) 2 + d6 ((LO Z).getD i 0) 3 = sd ((LO Z).getD i 0) from rfl]
      by_cases q : gm (LO Z) i < sd ((LO Z).getD i 0)
      · rw [if_pos (nI_lt q (by omega)), if_pos q]
      · rw [if_neg (nI_nlt (by omega) (by omega)), if_neg q]
    · unfold f2_greatestSum_b4
      simp only
      rw [h.2.1, if_pos (Int32.le_refl _)]
  unfold f2_greatestSum
  rw [h1, bi1_s]
theorem greatest_m (hM : MZ ms Z) (hv : VZ Z) : ∃ s, f5_greatestLeast ms = some (s, nI (gm (LO Z) (LO Z).length)) ∧ msame ms s ∧ m_thrown s = m_thrown ms ∧ m_hash s = m_hash ms := by
  have h30 := LO_30 hv
  obtain ⟨on, mn, k1, k2, k3⟩ := layLeast_m hM hv
  refine ⟨LE4 ms on mn, ?_, LE4_same _ _ _, rfl, rfl⟩
  have h1 : wh (f5_greatestLeast_b8 (LE4 ms on mn)) FU ((0 : Int32), (0 : Int32)) = some (nI (gm (LO Z) (LO Z).length)) := by
    refine wh_for' (LO Z).length (by omega) (fun i => (nI (gm (LO Z) i), nI i)) rfl (fun i hi => ?_) ?_
    · have b1 := gm_lt (LO Z) i
      have b2 := sd_lt ((LO Z).getD i 0)
      unfold f5_greatestLeast_b8
      simp only
      rw [show m_leastMany (LE4 ms on mn) = _ from k2, if_neg (nI_ge hi (by omega)), if_pos (ib_n (by omega) (by omega)), if_pos (ib_n (by omega) (by omega)), if_pos (ib_n (by omega) (by omega)), if_pos (ib_n (by omega) (by omega)), tn (by omega), show m_leastOnes (LE4 ms on mn) i = _ from k3 i _ (getD_some hi), show f5_digit (nI (dc ((LO Z).getD i 0))) 0 = _ from dig_dc _ (v := 0) (by omega), show f5_digit (nI (dc ((LO Z).getD i 0))) 1 = _ from dig_dc _ (v := 1) (by omega), show f5_digit (nI (dc ((LO Z).getD i 0))) 2 = _ from dig_dc _ (v := 2) (by omega), show f5_digit (nI (dc ((LO Z).getD i 0))) 3 = _ from dig_dc _ (v := 3) (by omega), nI_add, nI_add, nI_add, lq_e, nI_1, gm, show d6 ((LO Z).getD i 0) 0 + d6 ((LO Z).getD i 0) 1 + d6 ((LO Z).getD i 0) 2 + d6 ((LO Z).getD i 0) 3 = sd ((LO Z).getD i 0) from rfl]
      by_cases q : gm (LO Z) i < sd ((LO Z).getD i 0)
      · rw [if_neg (nI_ge q (by omega)), if_pos q]
      · rw [if_pos (nI_le (by omega) (by omega)), if_neg q]
    · unfold f5_greatestLeast_b8
      simp only
      rw [show m_leastMany (LE4 ms on mn) = _ from k2, if_pos (Int32.le_refl _)]
  unfold f5_greatestLeast
  rw [k1, bi1_s, h1, bi1_s]
/-- how many rests lie below zero -/
def ng (Z : Nat → Nat) : Int32 := fA (fun c => if 0 ≤ rs Z c then 0 else 1) 4
theorem below_c (h : CZ st Z) : f4_restsBelowZero st = some (ng Z) := by
  have h1 : wh (f4_restsBelowZero_b4 st) FU ((0 : Int32), (0 : Int32)) = some (ng Z) := by
    refine wh_for' 4 (by omega) (fun i => (fA (fun c => if 0 ≤ rs Z c then 0 else 1) i, nI i)) rfl (fun i hi => ?_) ?_
    · unfold f4_restsBelowZero_b4
      simp only
      rw [if_neg (show ¬ (4 : Int32) ≤ nI i from lge 4 hi), rs_c h hi, bi1_s, nI_1]
      rfl
    · unfold f4_restsBelowZero_b4
      exact if_pos (Int32.le_refl _)
  unfold f4_restsBelowZero
  rw [h1, bi1_s]
theorem below_m (h : MZ ms Z) : f5_negativeRests ms = some (ng Z) := by
  have h1 : wh (f5_negativeRests_b4 ms) FU ((0 : Int32), (0 : Int32)) = some (ng Z) := by
    refine wh_for' 4 (by omega) (fun i => (fA (fun c => if 0 ≤ rs Z c then 0 else 1) i, nI i)) rfl (fun i hi => ?_) ?_
    · unfold f5_negativeRests_b4
      simp only
      rw [if_neg (show ¬ (4 : Int32) ≤ nI i from lge 4 hi), rs_m h hi, bi1_s, nI_1]
      rfl
    · unfold f5_negativeRests_b4
      exact if_pos (Int32.le_refl _)
  unfold f5_negativeRests
  rw [h1, bi1_s]
def eqp (Z : Nat → Nat) : Prop := ∀ f, f < 8 → Z f = Z (8 + f)
theorem same_c (h : CZ st Z) (hv : VZ Z) : (eqp Z ∧ f4_patternsAreSame st = some 1) ∨ (¬ eqp Z ∧ f4_patternsAreSame st = some 0) := by
  have key : ∃ r, wh (f4_patternsAreSame_b2 st) FU (0 : Int32) = some r ∧ ((r = .inl () ∧ eqp Z) ∨ (r = .inr () ∧ ¬ eqp Z)) := by
    refine wh_inv 8 (by omega) (fun i z => z = nI i ∧ ∀ f, f < i → Z f = Z (8 + f)) _ ⟨rfl, fun v q => by omega⟩ ?_ ?_
    · rintro i _ hi ⟨rfl, hN⟩
      have b1 := hv.le9 (k := i) (by omega)
      have b2 := hv.le9 (k := 8 + i) (by omega)
      unfold f4_patternsAreSame_b2
      rw [if_neg (show ¬ (8 : Int32) ≤ nI i from lge 8 hi), show (0 : Int32) + nI i = nI i from Int32.zero_add _, show (8 : Int32) + nI i = nI (8 + i) from nI_add 8 i, if_pos (ib_n (by omega) (by omega)), if_pos (ib_n (by omega) (by omega)), tn (by omega), tn (by omega), h _ (by omega), h _ (by omega), nI_1]
      by_cases q : Z i = Z (8 + i)
      · refine Or.inl ⟨nI (i + 1), by rw [if_pos (by rw [q])], rfl, fun f hf => ?_⟩
        by_cases z : f = i
        · subst z
          exact q
        · exact hN f (by omega)
      · exact Or.inr ⟨.inr (), by rw [if_neg (fun z => q ((nI_eq (by omega) (by omega)).mp z))], Or.inr ⟨rfl, fun z => q (z i hi)⟩⟩
    · rintro _ ⟨rfl, hN⟩
      refine ⟨.inl (), ?_, Or.inl ⟨rfl, hN⟩⟩
      unfold f4_patternsAreSame_b2
      exact if_pos (Int32.le_refl _)
  obtain ⟨r, k1, k2⟩ := key
  unfold f4_patternsAreSame
  rw [k1, bi1_s]
  rcases k2 with ⟨rfl, k3⟩ | ⟨rfl, k3⟩
  · exact Or.inl ⟨k3, rfl⟩
  · exact Or.inr ⟨k3, rfl⟩
theorem same_m (h : MZ ms Z) (hv : VZ Z) : (eqp Z ∧ f5_areSame ms = some 1) ∨ (¬ eqp Z ∧ f5_areSame ms = some 0) := by
  have key : ∃ r, wh (f5_areSame_b4 ms) FU ((1 : Int32), (0 : Int32)) = some r ∧ ((r = 1 ∧ eqp Z) ∨ (r = 0 ∧ ¬ eqp Z)) := by
    refine wh_inv 8 (by omega) (fun i z => ∃ x, z = (x, nI i) ∧ ((x = 1 ∧ ∀ f, f < i → Z f = Z (8 + f)) ∨ (x = 0 ∧ ¬ eqp Z))) _ ⟨1, rfl, Or.inl ⟨rfl, fun v q => by omega⟩⟩ ?_ ?_
    · rintro i _ hi ⟨x, rfl, hN⟩
      have b1 := hv.le9 (k := i) (by omega)
      have b2 := hv.le9 (k := 8 + i) (by omega)
      have e0 : f5_of ms 0 (nI i) = _ := of_ok h (p := 0) (f := i) (by omega)
      have e1 : f5_of ms 1 (nI i) = _ := of_ok h (p := 1) (f := i) (by omega)
      rw [show 8 * 0 + i = i by omega] at e0
      rw [show 8 * 1 + i = 8 + i by omega] at e1
      refine Or.inl ?_
      unfold f5_areSame_b4
      simp only
      rw [if_neg (show ¬ (8 : Int32) ≤ nI i from lge 8 hi), e0, bi1_s, e1, bi1_s, nI_1]
      rcases hN with ⟨rfl, hN⟩ | ⟨rfl, hF⟩
      · rw [if_neg one_ne]
        by_cases q : Z i = Z (8 + i)
        · rw [if_pos (show nI (Z i) = nI (Z (8 + i)) by rw [q])]
          refine ⟨_, rfl, 1, rfl, Or.inl ⟨rfl, fun f hf => ?_⟩⟩
          by_cases z : f = i
          · subst z
            exact q
          · exact hN f (by omega)
        · rw [if_neg (show ¬ nI (Z i) = nI (Z (8 + i)) from fun z => q ((nI_eq (by omega) (by omega)).mp z))]
          exact ⟨_, rfl, 0, rfl, Or.inr ⟨rfl, fun z => q (z i hi)⟩⟩
      · rw [if_pos rfl]
        exact ⟨_, rfl, 0, rfl, Or.inr ⟨rfl, hF⟩⟩
    · rintro _ ⟨x, rfl, hN⟩
      refine ⟨x, ?_, hN⟩
      unfold f5_areSame_b4
      exact if_pos (Int32.le_refl _)
  obtain ⟨r, k1, k2⟩ := key
  unfold f5_areSame
  rw [k1, bi1_s]
  rcases k2 with ⟨rfl, k3⟩ | ⟨rfl, k3⟩
  · exact Or.inl ⟨k3, rfl⟩
  · exact Or.inr ⟨k3, rfl⟩
/-- factors that all three have -/
def m2 (Z : Nat → Nat) (f : Nat) : Nat := if Z (8 + f) ≤ Z f then Z (8 + f) else Z f
def m3 (Z : Nat → Nat) (f : Nat) : Nat := if Z (16 + f) ≤ m2 Z f then Z (16 + f) else m2 Z f
theorem common_c (h : CZ st Z) (hv : VZ Z) : f4_commonFactors st = some (nI (sm (m3 Z) 8)) := by
  have h1 : wh (f4_commonFactors_b4 st) FU ((0 : Int32), (0 : Int32)) = some (nI (sm (m3 Z) 8)) := by
    refine wh_for' 8 (by omega) (fun i => (nI (sm (m3 Z) i), nI i)) rfl (fun i hi => ?_) ?_
    · have b0 := hv.le9 (k := i) (by omega)
      have b1 := hv.le9 (k := 8 + i) (by omega)
      have b2 := hv.le9 (k := 16 + i) (by omega)
      have e2 : (if nI (Z (8 + i)) < nI (Z i) then nI (Z (8 + i)) else nI (Z i)) = nI (m2 Z i) := by
        unfold m2
        by_cases q : Z (8 + i) < Z i
        · rw [if_pos (nI_lt q (by omega)), if_pos (by omega)]
        · rw [if_neg (nI_nlt (by omega) (by omega))]
          by_cases w : Z (8 + i) ≤ Z i
          · rw [if_pos w, show Z (8 + i) = Z i by omega]
          · rw [if_neg w]
      have bm : m2 Z i ≤ 9 := by
        unfold m2
        split
        · exact b1
        · exact b0
      have e3 : (if nI (Z (16 + i)) < nI (m2 Z i) then nI (Z (16 + i)) else nI (m2 Z i)) = nI (m3 Z i) := by
        unfold m3
        by_cases q : Z (16 + i) < m2 Z i
        · rw [if_pos (nI_lt q (by omega)), if_pos (by omega)]
        · rw [if_neg (nI_nlt (by omega) (by omega))]
          by_cases w : Z (16 + i) ≤ m2 Z i
          · rw [if_pos w, show Z (16 + i) = m2 Z i by omega]
          · rw [if_neg w]
      unfold f4_commonFactors_b4
      simp only
      rw [if_neg (show ¬ (8 : Int32) ≤ nI i from lge 8 hi), show (0 : Int32) + nI i = nI i from Int32.zero_add _, show (8 : Int32) + nI i = nI (8 + i) from nI_add 8 i, show (16 : Int32) + nI i = nI (16 + i) from nI_add 16 i, if_pos (ib_n (by omega) (by omega)), if_pos (ib_n (by omega) (by omega)), tn (by omega), tn (by omega), h _ (by omega), h _ (by omega), e2, lq_e, if_pos (ib_n (by omega) (by omega)), tn (by omega), h _ (by omega), e3, nI_add, lq_e, nI_1]
      rfl
    · unfold f4_commonFactors_b4
      exact if_pos (Int32.le_refl _)
  unfold f4_commonFactors
  rw [h1, bi1_s]
theorem common_m (h : MZ ms Z) (hv : VZ Z) : f5_inCommon ms = some (nI (sm (m3 Z) 8)) := by
  have h1 : wh (f5_inCommon_b4 ms) FU ((0 : Int32), (0 : Int32)) = some (nI (sm (m3 Z) 8)) := by
    refine wh_for' 8 (by omega) (fun i => (nI (sm (m3 Z) i), nI i)) rfl (fun i hi => ?_) ?_
    · have b0 := hv.le9 (k := i) (by omega)
      have b1 := hv.le9 (k := 8 + i) (by omega)
      have b2 := hv.le9 (k := 16 + i) (by omega)
      have e0 : f5_of ms 0 (nI i) = _ := of_ok h (p := 0) (f := i) (by omega)
      have e1 : f5_of ms 1 (nI i) = _ := of_ok h (p := 1) (f := i) (by omega)
      have e2 : f5_of ms 2 (nI i) = _ := of_ok h (p := 2) (f := i) (by omega)
      rw [show 8 * 0 + i = i by omega] at e0
      rw [show 8 * 1 + i = 8 + i by omega] at e1
      rw [show 8 * 2 + i = 16 + i by omega] at e2
      have bm : m2 Z i ≤ 9 := by
        unfold m2
        split
        · exact b1
        · exact b0
      have ej : f5_inCommon_j40 ms (nI (sm (m3 Z) i)) (nI i) (nI (m2 Z i)) = some (.inl (nI (sm (m3 Z) (i + 1)), nI (i + 1))) := by
        unfold f5_inCommon_j40
        rw [e2, bi1_s, bi1_s, nI_1, sm, m3]
        by_cases q : Z (16 + i) ≤ m2 Z i
        · rw [if_pos (nI_le q (by omega)), if_pos q, nI_add]
        · rw [if_neg (nI_ge (by omega) (by omega)), if_neg q, nI_add]
      unfold f5_inCommon_b4
      simp only
      rw [if_neg (show ¬ (8 : Int32) ≤ nI i from lge 8 hi), e0, bi1_s, e1, bi1_s, bi1_s, bi1_s]
      by_cases q : Z (8 + i) ≤ Z i
      · rw [if_pos (nI_le q (by omega)), show Z (8 + i) = m2 Z i from (if_pos q).symm, ej]
      · rw [if_neg (nI_ge (by omega) (by omega)), show Z i = m2 Z i from (if_neg q).symm, ej]
    · unfold f5_inCommon_b4
      exact if_pos (Int32.le_refl _)
  unfold f5_inCommon
  rw [h1, bi1_s]
theorem taken_cm {s : CS} (h : SN s ms) : (if c_taken s (0 : Int32).toNatClampNeg = 0 then (0 : Int32) else 1) + (if c_taken s (1 : Int32).toNatClampNeg = 0 then (0 : Int32) else 1) = m_taken ms (0 : Int32).toNatClampNeg + m_taken ms (1 : Int32).toNatClampNeg := by
  show (if c_taken s 0 = 0 then (0 : Int32) else 1) + (if c_taken s 1 = 0 then (0 : Int32) else 1) = m_taken ms 0 + m_taken ms 1
  have e : ∀ j, j < 2 → (if c_taken s j = 0 then (0 : Int32) else 1) = m_taken ms j := by
    intro j hj
    rcases h j hj with ⟨a, b⟩ | ⟨Y, _, a, b, _⟩
    · rw [if_pos a, b]
    · rw [a, b]
      rfl
  rw [e 0 (by omega), e 1 (by omega)]
theorem count_ok (hS : Snd EP LQ) (hR : Rel EP LQ st ms) {k : Nat} (hk : k < 11) : ∃ s ms' r, f4_count st (nI k) = some (s, .inr r) ∧ f5_counted ms (nI k) = some (ms', r) ∧ Rel EP LQ s ms' ∧ csame st s ∧ msame ms ms' ∧ m_thrown ms' = m_thrown ms ∧ m_hash ms' = m_hash ms := by
  obtain ⟨s, Z, p1, p2, p3, p4, p5, p6, p7, p8, ⟨Hs, p9, p10⟩, p11⟩ := hR.pl hS
  have go : ∀ (ms' : MS) (r : Int32), f4_count st (nI k) = some (s, .inr r) → f5_counted ms (nI k) = some (ms', r) → msame ms ms' → m_thrown ms' = m_thrown ms → m_hash ms' = m_hash ms → ∃ s ms' r, f4_count st (nI k) = some (s, .inr r) ∧ f5_counted ms (nI k) = some (ms', r) ∧ Rel EP LQ s ms' ∧ csame st s ∧ msame ms ms' ∧ m_thrown ms' = m_thrown ms ∧ m_hash ms' = m_hash ms := fun ms' r h1 h2 h3 h4 h5 => ⟨s, ms', r, h1, h2, p11 s ms' (csame.r s) (esame.r s) p5 h3, p6, h3, h4, h5⟩
  have hn : f4_needNumber (nI k) 0 10 = .inr () := nn_in 10 (by omega)
  have hu : f4_count st (nI k) = (if nI k = 0 then (bi1 (f4_factorsOf s (nI k)) fun r7 => some (s, .inr r7)) else (if nI k = 1 then (bi1 (f4_factorsOf s (nI k)) fun r10 => some (s, .inr r10)) else (if nI k = 2 then (bi1 (f4_factorsOf s (nI k)) fun r13 => some (s, .inr r13)) else (if nI k = 3 then (bi1 (f4_unlikeVariables s) fun r16 => some (s, .inr r16)) else (if nI k = 4 then some (s, .inr (f2_size s)) else (if nI k = 5 then (bi1 (f2_greatestSum s) fun r20 => some (s, .inr r20)) else (if nI k = 6 then (bi1 (f4_restsBelowZero s) fun r23 => some (s, .inr r23)) else (if nI k = 7 then (bi1 (f4_patternsAreSame s) fun r26 => some (s, .inr (if r26 = 0 then (0 : Int32) else (1 : Int32)))) else (if nI k = 8 then (bi1 (f4_commonFactors s) fun r33 => some (s, .inr r33)) else (if nI k = 9 then some (s, .inr ((if ((c_taken s) (0 : Int32).toNatClampNeg) = 0 then (0 : Int32) else (1 : Int32)) + (if ((c_taken s) (1 : Int32).toNatClampNeg) = 0 then (0 : Int32) else (1 : Int32)))) else some (s, .inr (f1_size s)))))))))))) := by
    unfold f4_count
    rw [hn, bt0_r, p1, bi1_s]
  rcases (show k = 0 ∨ k = 1 ∨ k = 2 ∨ k = 3 ∨ k = 4 ∨ k = 5 ∨ k = 6 ∨ k = 7 ∨ k = 8 ∨ k = 9 ∨ k = 10 by omega) with rfl | rfl | rfl | rfl | rfl | rfl | rfl | rfl | rfl | rfl | rfl
  · refine go ms (nI (fo Z 0)) (hu.trans ?_) ?_ (msame_r ms) rfl rfl
    · rw [if_pos (show nI 0 = (0 : Int32) from rfl), fo_c p3 (p := 0) (by omega), bi1_s]
    · unfold f5_counted
      rw [if_pos (show nI 0 = (0 : Int32) from rfl), fo_m p4 (p := 0) (by omega), bi1_s]
  · refine go ms (nI (fo Z 1)) (hu.trans ?_) ?_ (msame_r ms) rfl rfl
    · rw [if_neg (show ¬ nI 1 = (0 : Int32) by decide +kernel), if_pos (show nI 1 = (1 : Int32) from rfl), fo_c p3 (p := 1) (by omega), bi1_s]
    · unfold f5_counted
      rw [if_neg (show ¬ nI 1 = (0 : Int32) by decide +kernel), if_pos (show nI 1 = (1 : Int32) from rfl), fo_m p4 (p := 1) (by omega), bi1_s]
  · refine go ms (nI (fo Z 2)) (hu.trans ?_) ?_ (msame_r ms) rfl rfl
    · rw [if_neg (show ¬ nI 2 = (0 : Int32) by decide +kernel), if_neg (show ¬ nI 2 = (1 : Int32) by decide +kernel), if_pos (show nI 2 = (2 : Int32) from rfl), fo_c p3 (p := 2) (by omega), bi1_s]
    · unfold f5_counted
      rw [if_neg (show ¬ nI 2 = (0 : Int32) by decide +kernel), if_neg (show ¬ nI 2 = (1 : Int32) by decide +kernel), if_pos (show nI 2 = (2 : Int32) from rfl), fo_m p4 (p := 2) (by omega), bi1_s]
  · refine go ms (nI (uv Z)) (hu.trans ?_) ?_ (msame_r ms) rfl rfl
    · rw [if_neg (show ¬ nI 3 = (0 : Int32) by decide +kernel), if_neg (show ¬ nI 3 = (1 : Int32) by decide +kernel), if_neg (show ¬ nI 3 = (2 : Int32) by decide +kernel), if_pos (show nI 3 = (3 : Int32) from rfl), unlike_c p3 p2, bi1_s]
    · unfold f5_counted
      rw [if_neg (show ¬ nI 3 = (0 : Int32) by decide +kernel), if_neg (show ¬ nI 3 = (1 : Int32) by decide +kernel), if_neg (show ¬ nI 3 = (2 : Int32) by decide +kernel), if_pos (show nI 3 = (3 : Int32) from rfl), mask_m p4 p2, bi1_s, ones_m]
  · obtain ⟨on, mn, k1, k2, k3⟩ := layLeast_m p4 p2
    refine go (LE4 ms on mn) (nI (LO Z).length) (hu.trans ?_) ?_ (LE4_same _ _ _) rfl rfl
    · rw [if_neg (show ¬ nI 4 = (0 : Int32) by decide +kernel), if_neg (show ¬ nI 4 = (1 : Int32) by decide +kernel), if_neg (show ¬ nI 4 = (2 : Int32) by decide +kernel), if_neg (show ¬ nI 4 = (3 : Int32) by decide +kernel), if_pos (show nI 4 = (4 : Int32) from rfl), show f2_size s = _ from p5.2.1]
    · unfold f5_counted f5_leastCount
      rw [if_neg (show ¬ nI 4 = (0 : Int32) by decide +kernel), if_neg (show ¬ nI 4 = (1 : Int32) by decide +kernel), if_neg (show ¬ nI 4 = (2 : Int32) by decide +kernel), if_neg (show ¬ nI 4 = (3 : Int32) by decide +kernel), if_pos (show nI 4 = (4 : Int32) from rfl), k1, bi1_s, bi2_s, show m_leastMany (LE4 ms on mn) = _ from k2]
  · obtain ⟨s', k1, k2, k3, k4⟩ := greatest_m p4 p2
    refine go s' (nI (gm (LO Z) (LO Z).length)) (hu.trans ?_) ?_ k2 k3 k4
    · rw [if_neg (show ¬ nI 5 = (0 : Int32) by decide +kernel), if_neg (show ¬ nI 5 = (1 : Int32) by decide +kernel), if_neg (show ¬ nI 5 = (2 : Int32) by decide +kernel), if_neg (show ¬ nI 5 = (3 : Int32) by decide +kernel), if_neg (show ¬ nI 5 = (4 : Int32) by decide +kernel), if_pos (show nI 5 = (5 : Int32) from rfl), greatest_c p2 p5, bi1_s]
    · unfold f5_counted
      rw [if_neg (show ¬ nI 5 = (0 : Int32) by decide +kernel), if_neg (show ¬ nI 5 = (1 : Int32) by decide +kernel), if_neg (show ¬ nI 5 = (2 : Int32) by decide +kernel), if_neg (show ¬ nI 5 = (3 : Int32) by decide +kernel), if_neg (show ¬ nI 5 = (4 : Int32) by decide +kernel), if_pos (show nI 5 = (5 : Int32) from rfl), k1, bi2_s]
  · refine go ms (ng Z) (hu.trans ?_) ?_ (msame_r ms) rfl rfl
    · rw [if_neg (show ¬ nI 6 = (0 : Int32) by decide +kernel), if_neg (show ¬ nI 6 = (1 : Int32) by decide +kernel), if_neg (show ¬ nI 6 = (2 : Int32) by decide +kernel), if_neg (show ¬ nI 6 = (3 : Int32) by decide +kernel), if_neg (show ¬ nI 6 = (4 : Int32) by decide +kernel), if_neg (show ¬ nI 6 = (5 : Int32) by decide +kernel), if_pos (show nI 6 = (6 : Int32) from rfl), below_c p3, bi1_s]
    · unfold f5_counted
      rw [if_neg (show ¬ nI 6 = (0 : Int32) by decide +kernel), if_neg (show ¬ nI 6 = (1 : Int32) by decide +kernel), if_neg (show ¬ nI 6 = (2 : Int32) by decide +kernel), if_neg (show ¬ nI 6 = (3 : Int32) by decide +kernel), if_neg (show ¬ nI 6 = (4 : Int32) by decide +kernel), if_neg (show ¬ nI 6 = (5 : Int32) by decide +kernel), if_pos (show nI 6 = (6 : Int32) from rfl), below_m p4, bi1_s]
  · rcases same_c p3 p2 with ⟨q, e1⟩ | ⟨q, e1⟩
    · rcases same_m p4 p2 with ⟨_, e2⟩ | ⟨q2, _⟩
      · refine go ms 1 (hu.trans ?_) ?_ (msame_r ms) rfl rfl
        · rw [if_neg (show ¬ nI 7 = (0 : Int32) by decide +kernel), if_neg (show ¬ nI 7 = (1 : Int32) by decide +kernel), if_neg (show ¬ nI 7 = (2 : Int32) by decide +kernel), if_neg (show ¬ nI 7 = (3 : Int32) by decide +kernel), if_neg (show ¬ nI 7 = (4 : Int32) by decide +kernel), if_neg (show ¬ nI 7 = (5 : Int32) by decide +kernel), if_neg (show ¬ nI 7 = (6 : Int32) by decide +kernel), if_pos (show nI 7 = (7 : Int32) from rfl), e1, bi1_s, if_neg one_ne]
        · unfold f5_counted
          rw [if_neg (show ¬ nI 7 = (0 : Int32) by decide +kernel), if_neg (show ¬ nI 7 = (1 : Int32) by decide +kernel), if_neg (show ¬ nI 7 = (2 : Int32) by decide +kernel), if_neg (show ¬ nI 7 = (3 : Int32) by decide +kernel), if_neg (show ¬ nI 7 = (4 : Int32) by decide +kernel), if_neg (show ¬ nI 7 = (5 : Int32) by decide +kernel), if_neg (show ¬ nI 7 = (6 : Int32) by decide +kernel), if_pos (show nI 7 = (7 : Int32) from rfl), e2, bi1_s, if_neg one_ne]
      · exact absurd q q2
    · rcases same_m p4 p2 with ⟨q2, _⟩ | ⟨_, e2⟩
      · exact absurd q2 q
      · refine go ms 0 (hu.trans ?_) ?_ (msame_r ms) rfl rfl
        · rw [if_neg (show ¬ nI 7 = (0 : Int32) by decide +kernel), if_neg (show ¬ nI 7 = (1 : Int32) by decide +kernel), if_neg (show ¬ nI 7 = (2 : Int32) by decide +kernel), if_neg (show ¬ nI 7 = (3 : Int32) by decide +kernel), if_neg (show ¬ nI 7 = (4 : Int32) by decide +kernel), if_neg (show ¬ nI 7 = (5 : Int32) by decide +kernel), if_neg (show ¬ nI 7 = (6 : Int32) by decide +kernel), if_pos (show nI 7 = (7 : Int32) from rfl), e1, bi1_s, if_pos rfl]
        · unfold f5_counted
          rw [if_neg (show ¬ nI 7 = (0 : Int32) by decide +kernel), if_neg (show ¬ nI 7 = (1 : Int32) by decide +kernel), if_neg (show ¬ nI 7 = (2 : Int32) by decide +kernel), if_neg (show ¬ nI 7 = (3 : Int32) by decide +kernel), if_neg (show ¬ nI 7 = (4 : Int32) by decide +kernel), if_neg (show ¬ nI 7 = (5 : Int32) by decide +kernel), if_neg (show ¬ nI 7 = (6 : Int32) by decide +kernel), if_pos (show nI 7 = (7 : Int32) from rfl), e2, bi1_s, if_pos rfl]
  · refine go ms (nI (sm (m3 Z) 8)) (hu.trans ?_) ?_ (msame_r ms) rfl rfl
    · rw [if_neg (show ¬ nI 8 = (0 : Int32) by decide +kernel), if_neg (show ¬ nI 8 = (1 : Int32) by decide +kernel), if_neg (show ¬ nI 8 = (2 : Int32) by decide +kernel), if_neg (show ¬ nI 8 = (3 : Int32) by decide +kernel), if_neg (show ¬ nI 8 = (4 : Int32) by decide +kernel), if_neg (show ¬ nI 8 = (5 : Int32) by decide +kernel), if_neg (show ¬ nI 8 = (6 : Int32) by decide +kernel), if_neg (show ¬ nI 8 = (7 : Int32) by decide +kernel), if_pos (show nI 8 = (8 : Int32) from rfl), common_c p3 p2, bi1_s]
    · unfold f5_counted
      rw [if_neg (show ¬ nI 8 = (0 : Int32) by decide +kernel), if_neg (show ¬ nI 8 = (1 : Int32) by decide +kernel), if_neg (show ¬ nI 8 = (2 : Int32) by decide +kernel), if_neg (show ¬ nI 8 = (3 : Int32) by decide +kernel), if_neg (show ¬ nI 8 = (4 : Int32) by decide +kernel), if_neg (show ¬ nI 8 = (5 : Int32) by decide +kernel), if_neg (show ¬ nI 8 = (6 : Int32) by decide +kernel), if_neg (show ¬ nI 8 = (7 : Int32) by decide +kernel), if_pos (show nI 8 = (8 : Int32) from rfl), common_m p4 p2, bi1_s]
  · refine go ms (m_taken ms (0 : Int32).toNatClampNeg + m_taken ms (1 : Int32).toNatClampNeg) (hu.trans ?_) ?_ (msame_r ms) rfl rfl
    · rw [if_neg (show ¬ nI 9 = (0 : Int32) by decide +kernel), if_neg (show ¬ nI 9 = (1 : Int32) by decide +kernel), if_neg (show ¬ nI 9 = (2 : Int32) by decide +kernel), if_neg (show ¬ nI 9 = (3 : Int32) by decide +kernel), if_neg (show ¬ nI 9 = (4 : Int32) by decide +kernel), if_neg (show ¬ nI 9 = (5 : Int32) by decide +kernel), if_neg (show ¬ nI 9 = (6 : Int32) by decide +kernel), if_neg (show ¬ nI 9 = (7 : Int32) by decide +kernel), if_neg (show ¬ nI 9 = (8 : Int32) by decide +kernel), if_pos (show nI 9 = (9 : Int32) from rfl), taken_cm p7]
    · unfold f5_counted
      rw [if_neg (show ¬ nI 9 = (0 : Int32) by decide +kernel), if_neg (show ¬ nI 9 = (1 : Int32) by decide +kernel), if_neg (show ¬ nI 9 = (2 : Int32) by decide +kernel), if_neg (show ¬ nI 9 = (3 : Int32) by decide +kernel), if_neg (show ¬ nI 9 = (4 : Int32) by decide +kernel), if_neg (show ¬ nI 9 = (5 : Int32) by decide +kernel), if_neg (show ¬ nI 9 = (6 : Int32) by decide +kernel), if_neg (show ¬ nI 9 = (7 : Int32) by decide +kernel), if_neg (show ¬ nI 9 = (8 : Int32) by decide +kernel), if_pos (show nI 9 = (9 : Int32) from rfl)]
  · refine go ms (m_states ms) (hu.trans ?_) ?_ (msame_r ms) rfl rfl
    · rw [if_neg (show ¬ nI 10 = (0 : Int32) by decide +kernel), if_neg (show ¬ nI 10 = (1 : Int32) by decide +kernel), if_neg (show ¬ nI 10 = (2 : Int32) by decide +kernel), if_neg (show ¬ nI 10 = (3 : Int32) by decide +kernel), if_neg (show ¬ nI 10 = (4 : Int32) by decide +kernel), if_neg (show ¬ nI 10 = (5 : Int32) by decide +kernel), if_neg (show ¬ nI 10 = (6 : Int32) by decide +kernel), if_neg (show ¬ nI 10 = (7 : Int32) by decide +kernel), if_neg (show ¬ nI 10 = (8 : Int32) by decide +kernel), if_neg (show ¬ nI 10 = (9 : Int32) by decide +kernel), show f1_size s = m_states ms from p9.1.trans p10.1.symm]
    · unfold f5_counted
      rw [if_neg (show ¬ nI 10 = (0 : Int32) by decide +kernel), if_neg (show ¬ nI 10 = (1 : Int32) by decide +kernel), if_neg (show ¬ nI 10 = (2 : Int32) by decide +kernel), if_neg (show ¬ nI 10 = (3 : Int32) by decide +kernel), if_neg (show ¬ nI 10 = (4 : Int32) by decide +kernel), if_neg (show ¬ nI 10 = (5 : Int32) by decide +kernel), if_neg (show ¬ nI 10 = (6 : Int32) by decide +kernel), if_neg (show ¬ nI 10 = (7 : Int32) by decide +kernel), if_neg (show ¬ nI 10 = (8 : Int32) by decide +kernel), if_neg (show ¬ nI 10 = (9 : Int32) by decide +kernel)]
theorem s20 (hS : Snd EP LQ) : St20 (Rel EP LQ) := by
  intro st ms hR x0
  rcases ar x0 11 (by omega) with ⟨k, hk, rfl⟩ | h0
  · obtain ⟨s, ms', r, c1, c2, c3, c4, c5, c6, c7⟩ := count_ok hS (hR.t 0) hk
    refine ⟨s, .inr r, ms', r, 0, c1, ?_, rfl, c6, fun _ q => by cases q; rfl, c3⟩
    show f5_count _ _ = _
    unfold f5_count
    rw [show f5_within (nI k) 0 10 = _ from wi_in 10 (by omega), if_neg one_ne, if_pos (Int32.le_refl _), c2, bi2_s]
  · refine ok_ref (e := 1) (v := 1) ?_ ?_ rfl hR
    · show f4_count _ _ = _
      unfold f4_count
      rw [show f4_needNumber x0 0 10 = _ from nn_out 10 h0, bt0_l]
    · show f5_count _ _ = _
      unfold f5_count
      rw [show f5_within x0 0 10 = _ from wi_out 10 h0]
      rfl
end QP
