/-! (of the class alone) -/
/-- how far a variable's number goes -/
def up (w m r : Nat) : Nat := if w = 0 then 0 else min m (r / w)
theorem up_le {w m r : Nat} : up w m r ≤ m := by
  unfold up
  split
  · omega
  · exact Nat.min_le_left _ _
theorem up_mul {w m r i : Nat} (h : i ≤ up w m r) : w * i ≤ r := by
  unfold up at h
  split at h
  · rename_i e
    subst e
    omega
  · have h1 : i ≤ r / w := Nat.le_trans h (Nat.min_le_right _ _)
    calc w * i ≤ w * (r / w) := Nat.mul_le_mul_left _ h1
      _ ≤ r := Nat.mul_div_le r w
theorem up_out {w m r i : Nat} (h : up w m r < i) : (w = 0 ∧ 0 < i) ∨ m < i ∨ r < w * i := by
  unfold up at h
  split at h
  · rename_i e
    exact Or.inl ⟨e, h⟩
  · rename_i e
    refine Or.inr ?_
    rcases Nat.lt_or_ge m i with q | q
    · exact Or.inl q
    · refine Or.inr ?_
      have h1 : r / w < i := by omega
      have := (Nat.div_lt_iff_lt_mul (Nat.pos_of_ne_zero e)).mp h1
      rw [Nat.mul_comm]
      exact this
/-- the solutions, as codes of base 16, in order -/
def solc (m : Nat) : List Nat → Nat → Nat → List Nat
  | [], r, b => if r = 0 then [b] else []
  | w :: ws, r, b => (List.range (up w m r + 1)).flatMap fun a => solc m ws (r - w * a) (16 * b + a)
/-- the variables that are not empty -/
def mk (e : Nat) : Nat := (if e / 4096 % 16 = 0 then 0 else 1) + (if e / 256 % 16 = 0 then 0 else 2) + (if e / 16 % 16 = 0 then 0 else 4) + (if e % 16 = 0 then 0 else 8)
theorem mk_lt (e : Nat) : mk e < 16 := by
  unfold mk
  repeat' split
  all_goals omega
def cnt : List Nat → Nat → Nat
  | [], _ => 0
  | e :: l, t => (if mk e = t then 1 else 0) + cnt l t
theorem cnt_app (l l' : List Nat) (t : Nat) : cnt (l ++ l') t = cnt l t + cnt l' t := by
  induction l with
  | nil => simp [cnt]
  | cons a l ih => rw [List.cons_append, cnt, cnt, ih, Nat.add_assoc]
theorem cnt_one (e t : Nat) : cnt [e] t = if mk e = t then 1 else 0 := by simp [cnt]
theorem fm_s {g : Nat → List Nat} (i : Nat) : (List.range (i + 1)).flatMap g = (List.range i).flatMap g ++ g i := by
  rw [List.range_succ, List.flatMap_append]
  simp
/-- the last variable is what is left -/
theorem solc_1 {m w r b : Nat} : solc m [w] r b = if w * (if w = 0 then 0 else r / w) = r ∧ (if w = 0 then 0 else r / w) ≤ m then [16 * b + (if w = 0 then 0 else r / w)] else [] := by
  have key : ∀ n, ∀ d, (∀ i, i < n → i ≠ d → ¬ r - w * i = 0) → (List.range n).flatMap (fun a => solc m [] (r - w * a) (16 * b + a)) = if d < n ∧ r - w * d = 0 then [16 * b + d] else [] := by
    intro n d
    induction n with
    | zero => intro _; simp
    | succ n ih =>
      intro h
      rw [fm_s, ih (fun i hi => h i (by omega)), solc]
      by_cases e : n = d
      · subst e
        rw [if_neg (by omega)]
        by_cases q : r - w * n = 0
        · rw [if_pos q, if_pos ⟨by omega, q⟩]; rfl
        · rw [if_neg q, if_neg (fun z => q z.2)]; rfl
      · rw [if_neg (h n (by omega) e)]
        by_cases q : d < n ∧ r - w * d = 0
        · rw [if_pos q, if_pos ⟨by omega, q.2⟩]; rfl
        · rw [if_neg q, if_neg (fun z => q ⟨by omega, z.2⟩)]; rfl
  rw [solc]
  by_cases hw : w = 0
  · subst hw
    rw [key _ 0 (fun i hi h => by unfold up at hi; rw [if_pos rfl] at hi; omega)]
    simp only [if_pos]
    by_cases q : r = 0
    · subst q; simp
    · rw [if_neg (by omega), if_neg (by omega)]
  · rw [if_neg hw]
    have hm : w * (r / w) ≤ r := Nat.mul_div_le r w
    have hs : r < w * (r / w) + w := by
      have := Nat.lt_mul_div_succ r (Nat.pos_of_ne_zero hw)
      rw [Nat.mul_add, Nat.mul_one] at this
      exact this
    rw [key _ (r / w) (fun i hi h e => ?_)]
    · by_cases q : w * (r / w) = r ∧ r / w ≤ m
      · rw [if_pos q, if_pos ⟨by unfold up; rw [if_neg hw, Nat.min_eq_right q.2]; omega, by omega⟩]
      · rw [if_neg q, if_neg]
        rintro ⟨a, b⟩
        refine q ⟨by omega, ?_⟩
        have := up_le (w := w) (m := m) (r := r)
        omega
    · have h1 := up_mul (w := w) (m := m) (r := r) (i := i) (by omega)
      have h2 : i = r / w := by
        have e1 : w * i = r := by omega
        rw [← e1, Nat.mul_div_cancel_left _ (Nat.pos_of_ne_zero hw)]
      exact h h2
theorem solc_len (m : Nat) (hm : m ≤ 9) : ∀ (ws : List Nat) (r b : Nat), (solc m ws r b).length ≤ 10 ^ ws.length
  | [], r, b => by
    rw [solc]
    split <;> simp
  | w :: ws, r, b => by
    have h : ∀ n, ((List.range n).flatMap fun a => solc m ws (r - w * a) (16 * b + a)).length ≤ n * 10 ^ ws.length := by
      intro n
      induction n with
      | zero => simp
      | succ n ih =>
        rw [fm_s, List.length_append, Nat.add_mul, Nat.one_mul]
        exact Nat.add_le_add ih (solc_len m hm ws (r - w * n) (16 * b + n))
    rw [solc, List.length_cons, Nat.pow_succ]
    have h1 := h (up w m r + 1)
    have h2 : (up w m r + 1) * 10 ^ ws.length ≤ 10 * 10 ^ ws.length := Nat.mul_le_mul_right _ (by have := up_le (w := w) (m := m) (r := r); omega)
    rw [Nat.mul_comm (10 ^ ws.length)]
    exact Nat.le_trans h1 h2
/-- the class's tables of one place -/
def ES (st : CS) (R : Nat → Nat → Int32) (S : Nat → Int32) (X : Nat → Nat → Int64) : CS := (c_state st, c_draft st, c_snaps st, c_taken st, c_kept st, c_oldest st, c_held st, c_codes st, c_length st, c_weight st, c_used st, c_most st, c_canBeEmpty st, c_eprep st, R, S, X, c_within st, c_eways st, c_choice st, c_difference st, c_row st, c_numbers st, c_found st, c_lprep st, c_lways st)
theorem ES_2 (st : CS) (R : Nat → Nat → Int32) (S S' : Nat → Int32) (X X' : Nat → Nat → Int64) : c_exactly_s (c_size_s (ES st R S X) S') X' = ES st R S' X' := rfl
theorem ES_3 (st : CS) (R R' : Nat → Nat → Int32) (S : Nat → Int32) (X : Nat → Nat → Int64) : c_rows_s (ES st R S X) R' = ES st R' S X := rfl
theorem ES_4 (st : CS) (R : Nat → Nat → Int32) (S : Nat → Int32) (X X' : Nat → Nat → Int64) : c_exactly_s (ES st R S X) X' = ES st R S X' := rfl
theorem ES_5 (st : CS) (S' : Nat → Int32) : c_size_s st S' = ES st (c_rows st) S' (c_exactly st) := rfl
/-- the class's tables at place p are those of the list l -/
def IC (st : CS) (p : Nat) (l : List Nat) (s : CS) : Prop := ∃ R S X, s = ES st R S X ∧ (∀ j, j ≠ p → R j = c_rows st j ∧ S j = c_size st j ∧ X j = c_exactly st j) ∧ S p = nI l.length ∧ (∀ k e, k < 220 → l[k]? = some e → R p k = nI e) ∧ ∀ t, t < 16 → X p t = lN (cnt l t)
/-- what the class knows of the variables -/
def EW (st : CS) (Z : Nat → Nat) : Prop := (∀ f, f < 4 → c_weight st f = nI (Z (4 + f))) ∧ c_most st = nI (Z 25)
theorem bn {n : Nat} (h : n < 2 ^ 31) : (nI n).toBitVec.toNat = n := by
  show n % 2 ^ 32 = n
  omega
theorem nI_or {a b : Nat} (ha : a < 2 ^ 31) (hb : b < 2 ^ 31) : nI a ||| nI b = nI (a ||| b) := by
  apply Int32.toBitVec_inj.mp
  apply BitVec.eq_of_toNat_eq
  rw [Int32.toBitVec_or, BitVec.toNat_or, bn ha, bn hb, bn (Nat.or_lt_two_pow ha hb)]
theorem or16 {y d : Nat} (hy : y < 2 ^ 26) (hd : d < 16) : nI (y * 16) ||| nI d = nI (16 * y + d) := by
  rw [nI_or (by omega) (by omega)]
  have := Nat.shiftLeft_add_eq_or_of_lt (a := y) (b := d) (i := 4) hd
  rw [Nat.shiftLeft_eq] at this
  rw [show y * 16 = y * 2 ^ 4 from rfl, ← this]
  congr 1
  omega
theorem num_c : ∀ a, a < 10 → ∀ b, b < 10 → ∀ c, c < 10 → (((nI a <<< ((12 : Int32) &&& 31)) ||| (nI b <<< ((8 : Int32) &&& 31))) ||| (nI c <<< ((4 : Int32) &&& 31))) = nI ((16 * (16 * (16 * 0 + a) + b) + c) * 16) := by decide +kernel
/-- a digit of base 16 -/
def dg (e f : Nat) : Nat := e / 16 ^ (3 - f) % 16
theorem dg_lt (e f : Nat) : dg e f < 16 := Nat.mod_lt _ (by omega)
theorem sh15 {e k : Nat} (he : e < 2 ^ 31) : (((nI e).toBitVec.sshiftRight k) &&& 15#32).toNat = e / 2 ^ k % 16 := by
  have hm : (nI e).toBitVec.msb = false := by rw [BitVec.msb_eq_false_iff_two_mul_lt, bn he]; omega
  rw [BitVec.sshiftRight_eq_of_msb_false hm, BitVec.toNat_and, BitVec.toNat_ushiftRight, bn he, Nat.shiftRight_eq_div_pow]
  exact Nat.and_two_pow_sub_one_eq_mod _ 4
theorem numIn {e : Nat} (he : e < 2 ^ 31) : ∀ f, f < 4 → f0_numberIn (nI e) (nI f) = nI (dg e f) := by
  intro f hf
  apply Int32.toBitVec_inj.mp
  apply BitVec.eq_of_toNat_eq
  rw [bn (by have := dg_lt e f; omega)]
  rcases (show f = 0 ∨ f = 1 ∨ f = 2 ∨ f = 3 by omega) with rfl | rfl | rfl | rfl
  · exact sh15 (k := 12) he
  · exact sh15 (k := 8) he
  · exact sh15 (k := 4) he
  · exact sh15 (k := 0) he
theorem orbit : ∀ i, i < 4 → ∀ m, m < 2 ^ i → ∀ b : Bool, (nI m ||| (if b = true then (0 : Int32) else ((1 : Int32) <<< (nI i &&& 31)))) = nI (m + if b = true then 0 else 2 ^ i) := by decide +kernel
theorem sm_bit (g : Nat → Nat) : ∀ i, sm (fun f => if g f = 0 then 0 else 2 ^ f) i < 2 ^ i
  | 0 => by simp [sm]
  | i + 1 => by
    have := sm_bit g i
    rw [sm, Nat.pow_succ]
    split <;> omega
theorem mk_sm (e : Nat) : sm (fun f => if dg e f = 0 then 0 else 2 ^ f) 4 = mk e := by
  unfold mk
  simp only [sm, dg]
  simp
  rfl
theorem set_c {e : Nat} (he : e < 2 ^ 31) : f0_setOf (nI e) = some (nI (mk e)) := by
  have h1 : wh (f0_setOf_b4 (nI e)) FU ((0 : Int32), (0 : Int32)) = some (nI (mk e)) := by
    rw [← mk_sm]
    refine wh_for' 4 (by omega) (fun i => (nI (sm (fun f => if dg e f = 0 then 0 else 2 ^ f) i), nI i)) rfl (fun i hi => ?_) ?_
    · unfold f0_setOf_b4
      simp only
      have hd := dg_lt e i
      have h2 := orbit i hi _ (sm_bit (dg e) i) (decide (dg e i = 0))
      rw [if_neg (show ¬ (4 : Int32) ≤ nI i from lge 4 hi), lq_e, numIn he i hi, nI_1]
      by_cases q : dg e i = 0
      · rw [q] at h2 ⊢
        rw [if_pos (show nI 0 ≤ (0 : Int32) from Int32.le_refl _)]
        simp only [decide_true, if_true] at h2
        rw [h2, sm, if_pos q]
      · rw [if_neg (nI_nle (by omega) (by omega))]
        simp only [q, decide_false, if_false, Bool.false_eq_true] at h2
        rw [h2, sm, if_neg q]
    · unfold f0_setOf_b4
      exact if_pos (Int32.le_refl _)
  unfold f0_setOf
  rw [h1, bi1_s]
