/-! The law counts the solutions without some variables. -/
theorem sm_zero_of {f : Nat → Nat} : ∀ {n : Nat}, (∀ k, k < n → f k = 0) → sm f n = 0
  | 0, _ => rfl
  | n + 1, h => by rw [sm, sm_zero_of (fun k hk => h k (by omega)), h n (by omega)]
theorem sm_ext (f : Nat → Nat) {n k : Nat} (h : n ≤ k) : sm f n = sm (fun a => if a < n then f a else 0) k := by
  induction k with
  | zero => rw [show n = 0 by omega]; rfl
  | succ k ih =>
    by_cases e : n = k + 1
    · subst e
      exact sm_congr (fun a ha => by rw [if_pos ha])
    · rw [ih (by omega), sm, if_neg (by omega), Nat.add_zero]
theorem AE_app (l l' : List Nat) (E : Nat) : AE (cnt (l ++ l')) E = AE (cnt l) E + AE (cnt l') E := by
  unfold AE
  rw [← sm_add]
  refine sm_congr (fun t _ => ?_)
  rw [cnt_app]
  split
  · rfl
  · rfl
theorem AE_nil (E : Nat) : AE (cnt []) E = 0 := by
  unfold AE
  refine sm_zero_of (fun t _ => ?_)
  split
  · rfl
  · rfl
theorem sm_one' (h : Nat → Nat) (k : Nat) : ∀ n, sm (fun t => if k = t then h t else 0) n = if k < n then h k else 0
  | 0 => by rw [if_neg (by omega)]; rfl
  | n + 1 => by
    rw [sm, sm_one' h k n]
    by_cases e : k = n
    · subst e
      rw [if_neg (by omega), if_pos rfl, if_pos (by omega), Nat.zero_add]
    · rw [if_neg e, Nat.add_zero]
      by_cases q : k < n
      · rw [if_pos q, if_pos (by omega)]
      · rw [if_neg q, if_neg (by omega)]
theorem AE_one (e E : Nat) : AE (cnt [e]) E = if mk e &&& E = 0 then 1 else 0 := by
  have h := sm_one' (fun t => if t &&& E = 0 then 1 else 0) (mk e) 16
  rw [if_pos (mk_lt e)] at h
  rw [← h]
  unfold AE
  refine sm_congr (fun t _ => ?_)
  rw [cnt_one]
  by_cases q : mk e = t
  · rw [if_pos q, if_pos q]
  · rw [if_neg q, if_neg q]
    split
    · rfl
    · rfl
theorem AE_fm (g : Nat → List Nat) (E : Nat) : ∀ n, AE (cnt ((List.range n).flatMap g)) E = sm (fun a => AE (cnt (g a)) E) n
  | 0 => AE_nil E
  | n + 1 => by rw [fm_s, AE_app, AE_fm g E n, sm]
/-- the list's length -/
theorem AE_0 (l : List Nat) : AE (cnt l) 0 = l.length := by
  induction l with
  | nil => exact AE_nil 0
  | cons a l ih =>
    rw [show a :: l = [a] ++ l from rfl, AE_app, ih, AE_one, if_pos (by simp), List.length_append]
    rfl
def bE (E : Nat) (a b c d : Bool) : Bool := Nat.beq (Nat.land ((((if a = true then 0 else 1) + (if b = true then 0 else 2)) + (if c = true then 0 else 4)) + (if d = true then 0 else 8)) E) 0 == ((Nat.beq (E % 2) 0 || a) && ((Nat.beq (E / 2 % 2) 0 || b) && ((Nat.beq (E / 4 % 2) 0 || c) && (Nat.beq (E / 8 % 2) 0 || d))))
theorem bE_ok : ∀ E, E < 16 → ∀ a b c d : Bool, bE E a b c d = true := by decide +kernel
theorem bitsE (E : Nat) (hE : E < 16) (a b c d : Bool) : ((((if a = true then 0 else 1) + (if b = true then 0 else 2)) + (if c = true then 0 else 4)) + (if d = true then 0 else 8)) &&& E = 0 ↔ ((E % 2 = 0 ∨ a = true) ∧ (E / 2 % 2 = 0 ∨ b = true) ∧ (E / 4 % 2 = 0 ∨ c = true) ∧ (E / 8 % 2 = 0 ∨ d = true)) := by
  have h := bE_ok E hE a b c d
  unfold bE at h
  rw [beq_iff_eq, Bool.eq_iff_iff] at h
  simp only [Bool.and_eq_true, Bool.or_eq_true, Nat.beq_eq] at h
  exact h
theorem mk_and {E w x y d : Nat} (hE : E < 16) (hw : w < 16) (hx : x < 16) (hy : y < 16) (hd : d < 16) : (mk (16 * (16 * (16 * (16 * 0 + w) + x) + y) + d) &&& E = 0) ↔ ((E % 2 = 0 ∨ w = 0) ∧ (E / 2 % 2 = 0 ∨ x = 0) ∧ (E / 4 % 2 = 0 ∨ y = 0) ∧ (E / 8 % 2 = 0 ∨ d = 0)) := by
  obtain ⟨e, he⟩ : ∃ e, e = 16 * (16 * (16 * (16 * 0 + w) + x) + y) + d := ⟨_, rfl⟩
  have em : mk e = ((((if decide (w = 0) = true then 0 else 1) + (if decide (x = 0) = true then 0 else 2)) + (if decide (y = 0) = true then 0 else 4)) + (if decide (d = 0) = true then 0 else 8)) := by
    unfold mk
    rw [show e / 4096 % 16 = w by omega, show e / 256 % 16 = x by omega, show e / 16 % 16 = y by omega, show e % 16 = d by omega]
    simp only [decide_eq_true_eq]
  rw [← he, em, bitsE E hE]
  simp only [decide_eq_true_eq]
/-- the last variable -/
def t3 (z7 m E left : Nat) : Nat := if z7 = 0 then (if left = 0 then 1 else 0) else if E / 8 % 2 = 0 then (if left % z7 = 0 then (if left / z7 ≤ m then 1 else 0) else 0) else (if left = 0 then 1 else 0)
theorem I3_eq {z7 m E left w x y : Nat} (hm : m ≤ 9) (hE : E < 16) (hw : w < 16) (hx : x < 16) (hy : y < 16) : AE (cnt (solc m [z7] left (16 * (16 * (16 * 0 + w) + x) + y))) E = if (E % 2 = 0 ∨ w = 0) ∧ (E / 2 % 2 = 0 ∨ x = 0) ∧ (E / 4 % 2 = 0 ∨ y = 0) then t3 z7 m E left else 0 := by
  rw [solc_1]
  unfold t3
  by_cases q : z7 = 0
  · subst q
    simp only [if_pos]
    by_cases l0 : left = 0
    · subst l0
      rw [if_pos ⟨by omega, by omega⟩, AE_one]
      have h := mk_and hE hw hx hy (d := 0) (by omega)
      by_cases z : (E % 2 = 0 ∨ w = 0) ∧ (E / 2 % 2 = 0 ∨ x = 0) ∧ (E / 4 % 2 = 0 ∨ y = 0)
      · rw [if_pos (h.mpr ⟨z.1, z.2.1, z.2.2, Or.inr rfl⟩), if_pos z, if_pos rfl]
      · rw [if_neg (fun k => z ⟨(h.mp k).1, (h.mp k).2.1, (h.mp k).2.2.1⟩), if_neg z]
    · rw [if_neg (fun k => l0 (by have := k.1; omega)), AE_nil, if_neg l0]
      split
      · rfl
      · rfl
  · rw [if_neg q, if_neg q]
    have hdm := Nat.div_add_mod left z7
    by_cases l0 : z7 * (left / z7) = left ∧ left / z7 ≤ m
    · rw [if_pos l0, AE_one]
      have h := mk_and hE hw hx hy (d := left / z7) (by omega)
      by_cases z : (E % 2 = 0 ∨ w = 0) ∧ (E / 2 % 2 = 0 ∨ x = 0) ∧ (E / 4 % 2 = 0 ∨ y = 0)
      · rw [if_pos z]
        by_cases e8 : E / 8 % 2 = 0
        · rw [if_pos (h.mpr ⟨z.1, z.2.1, z.2.2, Or.inl e8⟩), if_pos e8, if_pos (show left % z7 = 0 by omega), if_pos l0.2]
        · rw [if_neg e8]
          by_cases v : left = 0
          · rw [if_pos v, if_pos (h.mpr ⟨z.1, z.2.1, z.2.2, Or.inr (by rw [v]; exact Nat.zero_div _)⟩)]
          · rw [if_neg v, if_neg]
            intro k
            rcases (h.mp k).2.2.2 with g | g
            · exact e8 g
            · rw [g] at l0
              have := l0.1
              omega
      · rw [if_neg (fun k => z ⟨(h.mp k).1, (h.mp k).2.1, (h.mp k).2.2.1⟩), if_neg z]
    · rw [if_neg l0, AE_nil]
      split
      · by_cases e8 : E / 8 % 2 = 0
        · rw [if_pos e8]
          by_cases r0 : left % z7 = 0
          · rw [if_pos r0, if_neg (fun k => l0 ⟨by omega, k⟩)]
          · rw [if_neg r0]
        · rw [if_neg e8]
          by_cases v : left = 0
          · subst v
            exact absurd ⟨by rw [Nat.zero_div]; rfl, by rw [Nat.zero_div]; omega⟩ l0
          · rw [if_neg v]
      · rfl
/-- what the law adds at w, x, y -/
def TT (E z4 z5 z6 z7 m r w x y : Nat) : Nat := if r < z4 * w + z5 * x + z6 * y then 0 else if z4 = 0 ∧ 0 < w then 0 else if z5 = 0 ∧ 0 < x then 0 else if z6 = 0 ∧ 0 < y then 0 else if ¬ E % 2 = 0 ∧ 0 < w then 0 else if ¬ E / 2 % 2 = 0 ∧ 0 < x then 0 else if ¬ E / 4 % 2 = 0 ∧ 0 < y then 0 else t3 z7 m E (r - z4 * w - z5 * x - z6 * y)
theorem TT_1 {E z4 z5 z6 z7 m r w x y : Nat} (h : r < z4 * w + z5 * x + z6 * y ∨ (z4 = 0 ∧ 0 < w) ∨ (z5 = 0 ∧ 0 < x) ∨ (z6 = 0 ∧ 0 < y)) : TT E z4 z5 z6 z7 m r w x y = 0 := by
  unfold TT
  by_cases a : r < z4 * w + z5 * x + z6 * y
  · rw [if_pos a]
  rw [if_neg a]
  by_cases b : z4 = 0 ∧ 0 < w
  · rw [if_pos b]
  rw [if_neg b]
  by_cases c : z5 = 0 ∧ 0 < x
  · rw [if_pos c]
  rw [if_neg c, if_pos]
  rcases h with h | h | h | h
  · exact absurd h a
  · exact absurd h b
  · exact absurd h c
  · exact h
theorem TT_2 {E z4 z5 z6 z7 m r w x y : Nat} (h1 : ¬ r < z4 * w + z5 * x + z6 * y) (h2 : ¬ (z4 = 0 ∧ 0 < w)) (h3 : ¬ (z5 = 0 ∧ 0 < x)) (h4 : ¬ (z6 = 0 ∧ 0 < y)) : TT E z4 z5 z6 z7 m r w x y = if (E % 2 = 0 ∨ w = 0) ∧ (E / 2 % 2 = 0 ∨ x = 0) ∧ (E / 4 % 2 = 0 ∨ y = 0) then t3 z7 m E (r - z4 * w - z5 * x - z6 * y) else 0 := by
  unfold TT
  rw [if_neg h1, if_neg h2, if_neg h3, if_neg h4]
  by_cases a : ¬ E % 2 = 0 ∧ 0 < w
  · rw [if_pos a, if_neg (by omega)]
  rw [if_neg a]
  by_cases b : ¬ E / 2 % 2 = 0 ∧ 0 < x
  · rw [if_pos b, if_neg (by omega)]
  rw [if_neg b]
  by_cases c : ¬ E / 4 % 2 = 0 ∧ 0 < y
  · rw [if_pos c, if_neg (by omega)]
  rw [if_neg c, if_pos (by omega)]
theorem up_z {w m r a : Nat} (h : a < up w m r + 1) : ¬ (w = 0 ∧ 0 < a) := by
  rintro ⟨rfl, h0⟩
  unfold up at h
  rw [if_pos rfl] at h
  omega
theorem SLE {E z4 z5 z6 z7 m r : Nat} (hm : m ≤ 9) (hE : E < 16) : AE (cnt (solc m [z4, z5, z6, z7] r 0)) E = sm (fun w => sm (fun x => sm (fun y => TT E z4 z5 z6 z7 m r w x y) (m + 1)) (m + 1)) (m + 1) := by
  rw [solc, AE_fm, sm_ext _ (Nat.succ_le_succ up_le)]
  refine sm_congr (fun w hw => ?_)
  by_cases pw : w < up z4 m r + 1
  · rw [if_pos pw, solc, AE_fm, sm_ext _ (Nat.succ_le_succ up_le)]
    have w1 := up_mul (w := z4) (m := m) (r := r) (i := w) (by omega)
    refine sm_congr (fun x hx => ?_)
    by_cases px : x < up z5 m (r - z4 * w) + 1
    · rw [if_pos px, solc, AE_fm, sm_ext _ (Nat.succ_le_succ up_le)]
      have x1 := up_mul (w := z5) (m := m) (r := r - z4 * w) (i := x) (by omega)
      refine sm_congr (fun y hy => ?_)
      by_cases py : y < up z6 m (r - z4 * w - z5 * x) + 1
      · rw [if_pos py, I3_eq hm hE (by omega) (by omega) (by omega)]
        have y1 := up_mul (w := z6) (m := m) (r := r - z4 * w - z5 * x) (i := y) (by omega)
        rw [TT_2 (by omega) (up_z pw) (up_z px) (up_z py)]
      · rw [if_neg py, TT_1]
        rcases up_out (w := z6) (m := m) (r := r - z4 * w - z5 * x) (i := y) (by omega) with h | h | h
        · exact Or.inr (Or.inr (Or.inr h))
        · omega
        · exact Or.inl (by omega)
    · rw [if_neg px]
      refine (sm_zero_of (fun y hy => TT_1 ?_)).symm
      rcases up_out (w := z5) (m := m) (r := r - z4 * w) (i := x) (by omega) with h | h | h
      · exact Or.inr (Or.inr (Or.inl h))
      · omega
      · exact Or.inl (by omega)
  · rw [if_neg pw]
    refine (sm_zero_of (fun x hx => sm_zero_of (fun y hy => TT_1 ?_))).symm
    rcases up_out (w := z4) (m := m) (r := r) (i := w) (by omega) with h | h | h
    · exact Or.inr (Or.inl h)
    · omega
    · exact Or.inl (by omega)
section SO
variable {Z : Nat → Nat} {pr n : Nat → Int32} {q : Int32} {E : Nat}
theorem bitE : ∀ E, E < 16 → ((nI E &&& (1 : Int32)) = 0 ↔ E % 2 = 0) ∧ ((nI E &&& (2 : Int32)) = 0 ↔ E / 2 % 2 = 0) ∧ ((nI E &&& (4 : Int32)) = 0 ↔ E / 4 % 2 = 0) ∧ ((nI E &&& (8 : Int32)) = 0 ↔ E / 8 % 2 = 0) := by decide +kernel
theorem v0_iff {a : Nat} (h : a < 2 ^ 31) : nI a = (0 : Int32) ↔ a = 0 := nI_eq (b := 0) h (by omega)
theorem v0_lt {a : Nat} (h : a < 2 ^ 31) : (0 : Int32) < nI a ↔ 0 < a := nI_ltI (a := 0) (by omega) h
theorem v0_le {a : Nat} (h : a < 2 ^ 31) : nI a ≤ (0 : Int32) ↔ a = 0 := by
  rw [show (0 : Int32) = nI 0 from rfl, nI_leI h (by omega)]
  omega
theorem loops3 (hn : n 1 = nI (Z 25)) (hm : Z 25 ≤ 9) (T : Nat → Nat → Nat → Nat) (hT : ∀ w x y M, w ≤ Z 25 → x ≤ Z 25 → y ≤ Z 25 → fL_solutions_b54 (pr, n) (nI E) q (nI w) (nI x) (nI M, nI y) = if (9 : Int32) < nI y then some (.inr (nI M)) else if n 1 < nI y then some (.inr (nI M)) else some (.inl (nI (M + T w x y), nI (y + 1)))) : wh (fL_solutions_b18 (pr, n) (nI E) q) FU ((0 : Int32), (0 : Int32)) = some (nI (sm (fun w => sm (fun x => sm (fun y => T w x y) (Z 25 + 1)) (Z 25 + 1)) (Z 25 + 1))) := by
  have g9 : ∀ i, i < Z 25 + 1 → ¬ (9 : Int32) < nI i := fun i hi => show ¬ nI 9 < nI i from nI_nlt (by omega) (by omega)
  have gm : ∀ i, i < Z 25 + 1 → ¬ n 1 < nI i := fun i hi => by rw [hn]; exact nI_nlt (by omega) (by omega)
  have gx : n 1 < nI (Z 25 + 1) := by rw [hn]; exact nI_lt (by omega) (by omega)
  have l3 : ∀ w x M, w ≤ Z 25 → x ≤ Z 25 → wh (fL_solutions_b54 (pr, n) (nI E) q (nI w) (nI x)) FU (nI M, (0 : Int32)) = some (nI (M + sm (fun y => T w x y) (Z 25 + 1))) := by
    intro w x M hw hx
    refine wh_for' (Z 25 + 1) (by omega) (fun i => (nI (M + sm (fun y => T w x y) i), nI i)) rfl (fun i hi => ?_) ?_
    · show fL_solutions_b54 (pr, n) (nI E) q (nI w) (nI x) (nI (M + sm (fun y => T w x y) i), nI i) = _
      rw [hT w x i _ hw hx (by omega), if_neg (g9 i hi), if_neg (gm i hi), sm, Nat.add_assoc]
    · show fL_solutions_b54 (pr, n) (nI E) q (nI w) (nI x) (nI (M + sm (fun y => T w x y) (Z 25 + 1)), nI (Z 25 + 1)) = _
      unfold fL_solutions_b54
      simp only
      by_cases c : (9 : Int32) < nI (Z 25 + 1)
      · rw [if_pos c]
      · rw [if_neg c, if_pos (show n_n (pr, n) (1 : Int32).toNatClampNeg < nI (Z 25 + 1) from gx)]
  have l2 : ∀ w M, w ≤ Z 25 → wh (fL_solutions_b36 (pr, n) (nI E) q (nI w)) FU (nI M, (0 : Int32)) = some (nI (M + sm (fun x => sm (fun y => T w x y) (Z 25 + 1)) (Z 25 + 1))) := by
    intro w M hw
    refine wh_for' (Z 25 + 1) (by omega) (fun i => (nI (M + sm (fun x => sm (fun y => T w x y) (Z 25 + 1)) i), nI i)) rfl (fun i hi => ?_) ?_
    · unfold fL_solutions_b36
      simp only
      rw [if_neg (g9 i hi), if_neg (show ¬ n_n (pr, n) (1 : Int32).toNatClampNeg < nI i from gm i hi), l3 w i _ hw (by omega), bi1_s, nI_1, Nat.add_assoc]
      rfl
    · unfold fL_solutions_b36
      simp only
      by_cases c : (9 : Int32) < nI (Z 25 + 1)
      · rw [if_pos c]
      · rw [if_neg c, if_pos (show n_n (pr, n) (1 : Int32).toNatClampNeg < nI (Z 25 + 1) from gx)]
  refine wh_for' (Z 25 + 1) (by omega) (fun i => (nI (sm (fun w => sm (fun x => sm (fun y => T w x y) (Z 25 + 1)) (Z 25 + 1)) i), nI i)) rfl (fun i hi => ?_) ?_
  · unfold fL_solutions_b18
    simp only
    rw [if_neg (g9 i hi), if_neg (show ¬ n_n (pr, n) (1 : Int32).toNatClampNeg < nI i from gm i hi), l2 i _ (by omega), bi1_s, nI_1]
    rfl
  · unfold fL_solutions_b18
    simp only
    by_cases c : (9 : Int32) < nI (Z 25 + 1)
    · rw [if_pos c]
    · rw [if_neg c, if_pos (show n_n (pr, n) (1 : Int32).toNatClampNeg < nI (Z 25 + 1) from gx)]
theorem ite_lift {a b c : Nat} {p : Prop} {_ : Decidable p} {y : Int32} : (if p then some (Sum.inl (nI a, y)) else some (Sum.inl (nI b, y)) : Option ((Int32 × Int32) ⊕ Int32)) = some (.inl (nI (if p then a else b), y)) := by
  split
  · rfl
  · rfl
theorem step54 (hP : PA pr Z) (hv : VZ Z) (hn : n 1 = nI (Z 25)) (hE : E < 16) {r w x y M : Nat} (hr : r < 10) (hw : w ≤ 9) (hx : x ≤ 9) (hy : y ≤ 9) : fL_solutions_b54 (pr, n) (nI E) (nI r) (nI w) (nI x) (nI M, nI y) = if (9 : Int32) < nI y then some (.inr (nI M)) else if n 1 < nI y then some (.inr (nI M)) else some (.inl (nI (M + TT E (Z 4) (Z 5) (Z 6) (Z 7) (Z 25) r w x y), nI (y + 1))) := by
  have h4 := hv.le9 (k := 4) (by omega)
  have h5 := hv.le9 (k := 5) (by omega)
  have h6 := hv.le9 (k := 6) (by omega)
  have h7 := hv.le9 (k := 7) (by omega)
  have h25 := hv.le9 (k := 25) (by omega)
  have m4 : Z 4 * w ≤ 9 * 9 := Nat.mul_le_mul h4 hw
  have m5 : Z 5 * x ≤ 9 * 9 := Nat.mul_le_mul h5 hx
  have m6 : Z 6 * y ≤ 9 * 9 := Nat.mul_le_mul h6 hy
  have p4 : n_pr (pr, n) (4 : Int32).toNatClampNeg = nI (Z 4) := hP 4 (by omega)
  have p5 : n_pr (pr, n) (5 : Int32).toNatClampNeg = nI (Z 5) := hP 5 (by omega)
  have p6 : n_pr (pr, n) (6 : Int32).toNatClampNeg = nI (Z 6) := hP 6 (by omega)
  have p7 : n_pr (pr, n) (7 : Int32).toNatClampNeg = nI (Z 7) := hP 7 (by omega)
  have p1 : n_n (pr, n) (1 : Int32).toNatClampNeg = n 1 := rfl
  obtain ⟨b1, b2, b4, b8⟩ := bitE E hE
  unfold fL_solutions_b54
  simp only
  rw [p1]
  by_cases c1 : (9 : Int32) < nI y
  · rw [if_pos c1, if_pos c1]
  rw [if_neg c1, if_neg c1]
  by_cases c2 : n 1 < nI y
  · rw [if_pos c2, if_pos c2]
  rw [if_neg c2, if_neg c2, p4, p5, p6, pk_mul, pk_mul, pk_mul, nI_add, nI_add, nI_1]
  unfold TT
  by_cases c3 : r < Z 4 * w + Z 5 * x + Z 6 * y
  · rw [if_pos (nI_lt c3 (by omega)), if_pos c3, Nat.add_zero M]
  rw [if_neg (nI_nlt (by omega) (by omega)), if_neg c3]
  -- the last variable
  have j208 : ∀ l, l < 1000 → fL_solutions_j208 (pr, n) (nI E) (nI r) (nI w) (nI x) (nI M) (nI y) (nI l) = some (.inl (nI (M + if l = 0 then 1 else 0), nI (y + 1))) := by
    intro l hl
    unfold fL_solutions_j208
    rw [nI_1, nI_1]
    by_cases z : l = 0
    · rw [if_pos ((v0_iff (by omega)).mpr z), if_pos z]
    · rw [if_neg (fun k => z ((v0_iff (by omega)).mp k)), if_neg z, Nat.add_zero M]
  have j168 : fL_solutions_j168 (pr, n) (nI E) (nI r) (nI w) (nI x) (nI M) (nI y) = some (.inl (nI (M + t3 (Z 7) (Z 25) E (r - Z 4 * w - Z 5 * x - Z 6 * y)), nI (y + 1))) := by
    unfold fL_solutions_j168
    rw [lq_e, p4, p5, p6, p7, p1, hn, pk_mul, pk_mul, pk_mul, pk_sub (by omega), pk_sub (by omega), pk_sub (by omega), j208 _ (by omega), nI_1, nI_1]
    have hlb : r - Z 4 * w - Z 5 * x - Z 6 * y < 1000 := by omega
    generalize r - Z 4 * w - Z 5 * x - Z 6 * y = l at hlb ⊢
    unfold t3
    by_cases z7 : Z 7 = 0
    · rw [if_pos ((v0_iff (by omega)).mpr z7), if_pos z7]
    · rw [if_neg (fun k => z7 ((v0_iff (by omega)).mp k)), if_neg z7, if_neg (fun k => z7 ((v0_iff (by omega)).mp k)), if_neg (fun k => z7 ((v0_iff (by omega)).mp k))]
      rw [pk_rem (by omega) (by omega) (by omega), pk_div (by omega) (by omega) (by omega)]
      have hd : l / Z 7 ≤ l := Nat.div_le_self _ _
      have hq : l % Z 7 ≤ l := Nat.mod_le _ _
      by_cases e8 : E / 8 % 2 = 0
      · rw [if_pos (b8.mpr e8), if_pos e8]
        by_cases r0 : l % Z 7 = 0
        · rw [if_pos ((v0_iff (by omega)).mpr r0), if_pos r0]
          by_cases d0 : l / Z 7 ≤ Z 25
          · rw [if_neg (nI_nlt d0 (by omega)), if_pos d0]
          · rw [if_pos (nI_lt (by omega) (by omega)), if_neg d0, Nat.add_zero M]
        · rw [if_neg (fun k => r0 ((v0_iff (by omega)).mp k)), if_neg r0, Nat.add_zero M]
      · rw [if_neg (fun k => e8 (b8.mp k)), if_neg e8]
  have j154 : fL_solutions_j154 (pr, n) (nI E) (nI r) (nI w) (nI x) (nI M) (nI y) = some (.inl (nI (M + if ¬ E / 4 % 2 = 0 ∧ 0 < y then 0 else t3 (Z 7) (Z 25) E (r - Z 4 * w - Z 5 * x - Z 6 * y)), nI (y + 1))) := by
    unfold fL_solutions_j154
    rw [j168, nI_1]
    by_cases e : E / 4 % 2 = 0
    · rw [if_pos (b4.mpr e), if_neg (show ¬ (¬ E / 4 % 2 = 0 ∧ 0 < y) from fun k => k.1 e)]
    · rw [if_neg (fun k => e (b4.mp k))]
      by_cases y0 : y = 0
      · rw [if_pos ((v0_le (by omega)).mpr y0), if_neg (show ¬ (¬ E / 4 % 2 = 0 ∧ 0 < y) from fun k => by omega)]
      · rw [if_neg (fun k => y0 ((v0_le (by omega)).mp k)), if_pos (show ¬ E / 4 % 2 = 0 ∧ 0 < y from ⟨e, by omega⟩), Nat.add_zero M]
  have j143 : fL_solutions_j143 (pr, n) (nI E) (nI r) (nI w) (nI x) (nI M) (nI y) = some (.inl (nI (M + if ¬ E / 2 % 2 = 0 ∧ 0 < x then 0 else if ¬ E / 4 % 2 = 0 ∧ 0 < y then 0 else t3 (Z 7) (Z 25) E (r - Z 4 * w - Z 5 * x - Z 6 * y)), nI (y + 1))) := by
    unfold fL_solutions_j143
    rw [j154, nI_1]
    by_cases e : E / 2 % 2 = 0
    · rw [if_pos (b2.mpr e), if_neg (show ¬ (¬ E / 2 % 2 = 0 ∧ 0 < x) from fun k => k.1 e)]
    · rw [if_neg (fun k => e (b2.mp k))]
      by_cases y0 : 0 < x
      · rw [if_pos ((v0_lt (by omega)).mpr y0), if_pos (show ¬ E / 2 % 2 = 0 ∧ 0 < x from ⟨e, y0⟩), Nat.add_zero M]
      · rw [if_neg (fun k => y0 ((v0_lt (by omega)).mp k)), if_neg (show ¬ (¬ E / 2 % 2 = 0 ∧ 0 < x) from fun k => y0 k.2)]
  have j132 : fL_solutions_j132 (pr, n) (nI E) (nI r) (nI w) (nI x) (nI M) (nI y) = some (.inl (nI (M + if ¬ E % 2 = 0 ∧ 0 < w then 0 else if ¬ E / 2 % 2 = 0 ∧ 0 < x then 0 else if ¬ E / 4 % 2 = 0 ∧ 0 < y then 0 else t3 (Z 7) (Z 25) E (r - Z 4 * w - Z 5 * x - Z 6 * y)), nI (y + 1))) := by
    unfold fL_solutions_j132
    rw [j143, nI_1]
    by_cases e : E % 2 = 0
    · rw [if_pos (b1.mpr e), if_neg (show ¬ (¬ E % 2 = 0 ∧ 0 < w) from fun k => k.1 e)]
    · rw [if_neg (fun k => e (b1.mp k))]
      by_cases y0 : 0 < w
      · rw [if_pos ((v0_lt (by omega)).mpr y0), if_pos (show ¬ E % 2 = 0 ∧ 0 < w from ⟨e, y0⟩), Nat.add_zero M]
      · rw [if_neg (fun k => y0 ((v0_lt (by omega)).mp k)), if_neg (show ¬ (¬ E % 2 = 0 ∧ 0 < w) from fun k => y0 k.2)]
  have j117 : fL_solutions_j117 (pr, n) (nI E) (nI r) (nI w) (nI x) (nI M) (nI y) = some (.inl (nI (M + if Z 6 = 0 ∧ 0 < y then 0 else if ¬ E % 2 = 0 ∧ 0 < w then 0 else if ¬ E / 2 % 2 = 0 ∧ 0 < x then 0 else if ¬ E / 4 % 2 = 0 ∧ 0 < y then 0 else t3 (Z 7) (Z 25) E (r - Z 4 * w - Z 5 * x - Z 6 * y)), nI (y + 1))) := by
    unfold fL_solutions_j117
    rw [j132, nI_1, p6]
    by_cases e : Z 6 = 0
    · rw [if_pos ((v0_iff (by omega)).mpr e)]
      by_cases y0 : y = 0
      · rw [if_pos ((v0_le (by omega)).mpr y0), if_neg (show ¬ (Z 6 = 0 ∧ 0 < y) from fun k => by omega)]
      · rw [if_neg (fun k => y0 ((v0_le (by omega)).mp k)), if_pos (show Z 6 = 0 ∧ 0 < y from ⟨e, by omega⟩), Nat.add_zero M]
    · rw [if_neg (fun k => e ((v0_iff (by omega)).mp k)), if_neg (show ¬ (Z 6 = 0 ∧ 0 < y) from fun k => e k.1)]
  have j106 : fL_solutions_j106 (pr, n) (nI E) (nI r) (nI w) (nI x) (nI M) (nI y) = some (.inl (nI (M + if Z 5 = 0 ∧ 0 < x then 0 else if Z 6 = 0 ∧ 0 < y then 0 else if ¬ E % 2 = 0 ∧ 0 < w then 0 else if ¬ E / 2 % 2 = 0 ∧ 0 < x then 0 else if ¬ E / 4 % 2 = 0 ∧ 0 < y then 0 else t3 (Z 7) (Z 25) E (r - Z 4 * w - Z 5 * x - Z 6 * y)), nI (y + 1))) := by
    unfold fL_solutions_j106
    rw [j117, nI_1, p5]
    by_cases e : Z 5 = 0
    · rw [if_pos ((v0_iff (by omega)).mpr e)]
      by_cases y0 : 0 < x
      · rw [if_pos ((v0_lt (by omega)).mpr y0), if_pos (show Z 5 = 0 ∧ 0 < x from ⟨e, y0⟩), Nat.add_zero M]
      · rw [if_neg (fun k => y0 ((v0_lt (by omega)).mp k)), if_neg (show ¬ (Z 5 = 0 ∧ 0 < x) from fun k => y0 k.2)]
    · rw [if_neg (fun k => e ((v0_iff (by omega)).mp k)), if_neg (show ¬ (Z 5 = 0 ∧ 0 < x) from fun k => e k.1)]
  rw [j106]
  by_cases e : Z 4 = 0
  · rw [if_pos ((v0_iff (by omega)).mpr e)]
    by_cases y0 : 0 < w
    · rw [if_pos ((v0_lt (by omega)).mpr y0), if_pos (show Z 4 = 0 ∧ 0 < w from ⟨e, y0⟩), Nat.add_zero M]
    · rw [if_neg (fun k => y0 ((v0_lt (by omega)).mp k)), if_neg (show ¬ (Z 4 = 0 ∧ 0 < w) from fun k => y0 k.2)]
  · rw [if_neg (fun k => e ((v0_iff (by omega)).mp k)), if_neg (show ¬ (Z 4 = 0 ∧ 0 < w) from fun k => e k.1)]
/-- a rest below zero: nothing is added -/
theorem step54n (hP : PA pr Z) (hv : VZ Z) (hq : q < 0) {w x y M : Nat} (hw : w ≤ 9) (hx : x ≤ 9) (hy : y ≤ 9) : fL_solutions_b54 (pr, n) (nI E) q (nI w) (nI x) (nI M, nI y) = if (9 : Int32) < nI y then some (.inr (nI M)) else if n 1 < nI y then some (.inr (nI M)) else some (.inl (nI (M + 0), nI (y + 1))) := by
  have h4 := hv.le9 (k := 4) (by omega)
  have h5 := hv.le9 (k := 5) (by omega)
  have h6 := hv.le9 (k := 6) (by omega)
  have m4 : Z 4 * w ≤ 9 * 9 := Nat.mul_le_mul h4 hw
  have m5 : Z 5 * x ≤ 9 * 9 := Nat.mul_le_mul h5 hx
  have m6 : Z 6 * y ≤ 9 * 9 := Nat.mul_le_mul h6 hy
  have p4 : n_pr (pr, n) (4 : Int32).toNatClampNeg = nI (Z 4) := hP 4 (by omega)
  have p5 : n_pr (pr, n) (5 : Int32).toNatClampNeg = nI (Z 5) := hP 5 (by omega)
  have p6 : n_pr (pr, n) (6 : Int32).toNatClampNeg = nI (Z 6) := hP 6 (by omega)
  have p1 : n_n (pr, n) (1 : Int32).toNatClampNeg = n 1 := rfl
  have hl : q < nI (Z 4 * w + Z 5 * x + Z 6 * y) := by
    rw [Int32.lt_iff_toInt_lt, nI_toInt (by omega)]
    rw [Int32.lt_iff_toInt_lt, show (0 : Int32).toInt = 0 from rfl] at hq
    omega
  unfold fL_solutions_b54
  simp only
  rw [p1, p4, p5, p6, pk_mul, pk_mul, pk_mul, nI_add, nI_add, nI_1, if_pos hl, Nat.add_zero M]
theorem sol_l (hP : PA pr Z) (hv : VZ Z) (hn : n 1 = nI (Z 25)) (hE : E < 16) {c : Nat} (hc : c < 4) : fL_solutions (pr, n) (nI c) (nI E) = some (nI (AE (xs Z c) E)) := by
  have h25 := hv.le9 (k := 25) (by omega)
  unfold fL_solutions
  rw [show (16 : Int32) + nI c = nI (16 + c) from nI_add 16 c, if_pos (ib_n (by omega) (by omega)), if_pos (ib_n (by omega) (by omega)), tn (by omega), tn (by omega), show n_pr (pr, n) (16 + c) = _ from hP _ (by omega), show n_pr (pr, n) c = _ from hP _ (by omega), lq_e]
  unfold xs
  show (bi1 (wh (fL_solutions_b18 (pr, n) (nI E) (rs Z c)) FU ((0 : Int32), (0 : Int32))) fun w94 => some (if 0 ≤ rs Z c then w94 else (0 : Int32))) = _
  rcases rs_9 hv hc with hq | ⟨r, hr, e⟩
  · rw [loops3 hn h25 (fun _ _ _ => 0) (fun w x y M hw hx hy => step54n hP hv hq (by omega) (by omega) (by omega)), bi1_s, if_neg (Int32.not_le.mpr hq), SL, if_pos hq, AE_nil]
    rfl
  · rw [e, loops3 hn h25 (fun w x y => TT E (Z 4) (Z 5) (Z 6) (Z 7) (Z 25) r w x y) (fun w x y M hw hx hy => step54 hP hv hn hE hr (by omega) (by omega) (by omega)), bi1_s, if_pos (nI_pos' (by omega)), SL, if_neg (nI_pos (by omega)), tn (by omega), SLE h25 hE]
end SO
