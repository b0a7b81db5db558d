/-! (of the class alone) -/
section PK
variable {st : CS} {Z : Nat → Nat}
theorem IC.ew {p : Nat} {l : List Nat} {s : CS} (h : IC st p l s) (hE : EW st Z) : EW s Z := by
  obtain ⟨R, S, X, rfl, _⟩ := h
  exact hE
theorem lev_c (hE : EW st Z) (hv : VZ Z) {p : Nat} (hp : p < 5) {a b : Nat} (ha : a < 10) (hb : b < 10) {r : Nat} (hr : r < 1000) (q38 q40 : Int32) {l : List Nat} {s : CS} (h : IC st p l s) (hB : (l ++ solc (Z 25) [Z 6, Z 7] r (16 * (16 * 0 + a) + b)).length < 100000) : ∃ s', wh (f0_solve_b109 (nI p) q38 (nI a) q40 (nI b) (nI r)) FU (s, (0 : Int32)) = some s' ∧ IC st p (l ++ solc (Z 25) [Z 6, Z 7] r (16 * (16 * 0 + a) + b)) s' := by
  refine loop_c (hv.le9 (by omega)) (hv.le9 (by omega)) hr (inner := fun s i => f0_solveLast s (nI p) (((nI a <<< ((12 : Int32) &&& 31)) ||| (nI b <<< ((8 : Int32) &&& 31))) ||| (nI i <<< ((4 : Int32) &&& 31))) (nI r - nI (Z 6 * i))) ?_ ?_ h hB
  · rintro s i hi ⟨l, hl⟩
    have hE' := hl.ew hE
    unfold f0_solve_b109
    simp only
    rw [show f0_top s 2 = _ from top_c hE' hv (f := 2) (by omega), bi1_s, show c_weight s (2 : Int32).toNatClampNeg = nI (Z 6) from hE'.1 2 (by omega), pk_mul, nI_1]
  · intro s i l hi hl hB
    have hu := up_le (w := Z 6) (m := Z 25) (r := r)
    have h9 := hv.le9 (k := 25) (by omega)
    have h1 : Z 6 * i ≤ r := up_mul hi
    rw [num_c a ha b hb i (by omega), pk_sub h1]
    exact last_c hE hv hp hl (by omega) (by omega) hB
theorem lev_b (hE : EW st Z) (hv : VZ Z) {p : Nat} (hp : p < 5) {a : Nat} (ha : a < 10) {r : Nat} (hr : r < 1000) (q26 : Int32) {l : List Nat} {s : CS} (h : IC st p l s) (hB : (l ++ solc (Z 25) [Z 5, Z 6, Z 7] r (16 * 0 + a)).length < 100000) : ∃ s', wh (f0_solve_b68 (nI p) q26 (nI a) (nI r)) FU (s, (0 : Int32)) = some s' ∧ IC st p (l ++ solc (Z 25) [Z 5, Z 6, Z 7] r (16 * 0 + a)) s' := by
  refine loop_c (hv.le9 (by omega)) (hv.le9 (by omega)) hr (inner := fun s i => wh (f0_solve_b109 (nI p) q26 (nI a) (nI r) (nI i) (nI r - nI (Z 5 * i))) FU (s, (0 : Int32))) ?_ ?_ h hB
  · rintro s i hi ⟨l, hl⟩
    have hE' := hl.ew hE
    unfold f0_solve_b68
    simp only
    rw [show f0_top s 1 = _ from top_c hE' hv (f := 1) (by omega), bi1_s, show c_weight s (1 : Int32).toNatClampNeg = nI (Z 5) from hE'.1 1 (by omega), pk_mul, nI_1]
  · intro s i l hi hl hB
    have hu := up_le (w := Z 5) (m := Z 25) (r := r)
    have h9 := hv.le9 (k := 25) (by omega)
    have h1 : Z 5 * i ≤ r := up_mul hi
    rw [pk_sub h1]
    exact lev_c hE hv hp ha (by omega) (by omega) q26 (nI r) hl hB
theorem lev_a (hE : EW st Z) (hv : VZ Z) {p : Nat} (hp : p < 5) {r : Nat} (hr : r < 1000) {l : List Nat} {s : CS} (h : IC st p l s) (hB : (l ++ solc (Z 25) [Z 4, Z 5, Z 6, Z 7] r 0).length < 100000) : ∃ s', wh (f0_solve_b32 (nI p) (nI r)) FU (s, (0 : Int32)) = some s' ∧ IC st p (l ++ solc (Z 25) [Z 4, Z 5, Z 6, Z 7] r 0) s' := by
  refine loop_c (hv.le9 (by omega)) (hv.le9 (by omega)) hr (inner := fun s i => wh (f0_solve_b68 (nI p) (nI r) (nI i) (nI r - nI (Z 4 * i))) FU (s, (0 : Int32))) ?_ ?_ h hB
  · rintro s i hi ⟨l, hl⟩
    have hE' := hl.ew hE
    unfold f0_solve_b32
    simp only
    rw [show f0_top s 0 = _ from top_c hE' hv (f := 0) (by omega), bi1_s, show c_weight s (0 : Int32).toNatClampNeg = nI (Z 4) from hE'.1 0 (by omega), pk_mul, nI_1]
  · intro s i l hi hl hB
    have hu := up_le (w := Z 4) (m := Z 25) (r := r)
    have h9 := hv.le9 (k := 25) (by omega)
    have h1 : Z 4 * i ≤ r := up_mul hi
    rw [pk_sub h1]
    exact lev_b hE hv hp (by omega) (by omega) (nI r) hl hB
/-- the solutions of a rest -/
def SL (Z : Nat → Nat) (q : Int32) : List Nat := if q < 0 then [] else solc (Z 25) [Z 4, Z 5, Z 6, Z 7] q.toNatClampNeg 0
theorem SL_len {Z : Nat → Nat} (hv : VZ Z) (q : Int32) : (SL Z q).length ≤ 10000 := by
  unfold SL
  by_cases h : q < 0
  · rw [if_pos h]
    exact Nat.zero_le _
  · rw [if_neg h]
    have := solc_len _ (hv.le9 (k := 25) (by omega)) [Z 4, Z 5, Z 6, Z 7] q.toNatClampNeg 0
    simp only [List.length_cons, List.length_nil, Nat.reduceAdd, Nat.reducePow] at this
    exact this
theorem zero9 {p : Nat} (hp : p < 5) (q : Int32) : ∃ s', wh (f0_solve_b9 (nI p) q) FU (c_size_s st (upd (c_size st) p 0), (0 : Int32)) = some s' ∧ IC st p [] s' := by
  have key : ∃ s', wh (f0_solve_b9 (nI p) q) FU (c_size_s st (upd (c_size st) p 0), (0 : Int32)) = some s' ∧ ∃ X, s' = ES st (c_rows st) (upd (c_size st) p 0) X ∧ (∀ j, j ≠ p → X j = c_exactly st j) ∧ ∀ t, t < 16 → X p t = 0 := by
    rw [ES_5]
    refine wh_inv 16 (by omega) (fun i z => ∃ X, z = (ES st (c_rows st) (upd (c_size st) p 0) X, nI i) ∧ (∀ j, j ≠ p → X j = c_exactly st j) ∧ ∀ t, t < i → X p t = 0) _ ⟨c_exactly st, rfl, fun _ _ => rfl, fun t ht => by omega⟩ ?_ ?_
    · rintro i _ hi ⟨X, rfl, h1, h2⟩
      refine Or.inl ⟨_, ?_, va_up X p (vp_updL (X p) i 0), rfl, fun j hj => (va_up_ne _ _ hj).trans (h1 j hj), fun t ht => ?_⟩
      · unfold f0_solve_b9
        simp only
        rw [if_neg (show ¬ (16 : Int32) ≤ nI i from lge 16 hi), if_pos (ib_n hp (by omega)), if_pos (ib_n (by omega) (by omega)), tn (by omega), tn (by omega), ES_4, nI_1]
        rfl
      · rw [va_up_self]
        by_cases e : t = i
        · rw [e, pk_uLs]
        · rw [pk_uLn e]
          exact h2 t (by omega)
    · rintro _ ⟨X, rfl, h1, h2⟩
      refine ⟨_, ?_, X, rfl, h1, h2⟩
      unfold f0_solve_b9
      exact if_pos (Int32.le_refl _)
  obtain ⟨s', k1, X, rfl, k2, k3⟩ := key
  refine ⟨_, k1, _, _, _, rfl, fun j hj => ⟨rfl, pk_un hj, k2 j hj⟩, pk_us, fun k e _ h => (by simp at h), fun t ht => ?_⟩
  rw [k3 t ht]
  rfl
theorem neg_a (hE : EW st Z) (hv : VZ Z) {p : Nat} {q : Int32} (hq : q < 0) {l : List Nat} {s : CS} (h : IC st p l s) : wh (f0_solve_b32 (nI p) q) FU (s, (0 : Int32)) = some s := by
  have hE' := h.ew hE
  have b : f0_solve_b32 (nI p) q (s, (0 : Int32)) = some (.inr s) := by
    unfold f0_solve_b32
    simp only
    have h3 : (if Z (4 + 0) = 0 then 0 else Z 25) < 10 := by
      have := hv.le9 (k := 25) (by omega)
      split <;> omega
    rw [show f0_top s 0 = _ from top_c hE' hv (f := 0) (by omega), bi1_s, if_neg (show ¬ nI _ < (0 : Int32) from nI_pos (by omega)), show c_weight s (0 : Int32).toNatClampNeg = nI (Z 4) from hE'.1 0 (by omega), show nI (Z 4) * (0 : Int32) = 0 from pk_mul (Z 4) 0, if_pos hq]
  show wh (f0_solve_b32 (nI p) q) (4999 + 1) (s, (0 : Int32)) = some s
  rw [wh, b]
/-- the sum over the sets within a set, bit by bit -/
def V (x : Nat → Nat) : Nat → Nat → Nat
  | 0, t => x t
  | f + 1, t => if t / 2 ^ f % 2 = 1 then V x f t + V x f (t - 2 ^ f) else V x f t
theorem bitc : ∀ f, f < 4 → ∀ t, t < 16 → (((nI t >>> (nI f &&& 31)) &&& (1 : Int32)) = (1 : Int32) ↔ t / 2 ^ f % 2 = 1) ∧ (t / 2 ^ f % 2 = 1 → nI t ^^^ ((1 : Int32) <<< (nI f &&& 31)) = nI (t - 2 ^ f) ∧ 2 ^ f ≤ t ∧ ¬ (t - 2 ^ f) / 2 ^ f % 2 = 1) := by decide +kernel
theorem ws_ws (s : CS) (a b : Nat → Nat → Int64) : c_within_s (c_within_s s a) b = c_within_s s b := rfl
theorem fill1 {p : Nat} (hp : p < 5) {x : Nat → Nat} (hx : ∀ t, t < 16 → c_exactly st p t = lN (x t)) : ∃ s', wh (f0_fillWithin_b2 (nI p)) FU (st, (0 : Int32)) = some s' ∧ ∃ A, s' = c_within_s st A ∧ (∀ j, j ≠ p → A j = c_within st j) ∧ ∀ t, t < 16 → A p t = lN (V x 0 t) := by
  refine wh_inv 16 (by omega) (fun i z => ∃ A, z = (c_within_s st A, nI i) ∧ (∀ j, j ≠ p → A j = c_within st j) ∧ ∀ t, t < i → A p t = lN (V x 0 t)) _ ⟨c_within st, rfl, fun _ _ => rfl, fun t ht => by omega⟩ ?_ ?_
  · rintro i _ hi ⟨A, rfl, h1, h2⟩
    refine Or.inl ⟨_, ?_, va_up A p (vp_updL (A p) i (lN (x i))), rfl, fun j hj => (va_up_ne _ _ hj).trans (h1 j hj), fun t ht => ?_⟩
    · unfold f0_fillWithin_b2
      simp only
      rw [if_neg (show ¬ (16 : Int32) ≤ nI i from lge 16 hi), if_pos (ib_n hp (by omega)), if_pos (ib_n hp (by omega)), if_pos (ib_n (by omega) (by omega)), if_pos (ib_n (by omega) (by omega)), tn (by omega), tn (by omega), ws_ws, nI_1]
      show some (Sum.inl (c_within_s st (va_up A p (vp_updL (A p) i (c_exactly st p i))), nI (i + 1))) = _
      rw [hx i hi]
    · rw [va_up_self]
      by_cases e : t = i
      · rw [e, pk_uLs]
        rfl
      · rw [pk_uLn e]
        exact h2 t (by omega)
  · rintro _ ⟨A, rfl, h1, h2⟩
    refine ⟨_, ?_, A, rfl, h1, h2⟩
    unfold f0_fillWithin_b2
    exact if_pos (Int32.le_refl _)
theorem fill2 {p f : Nat} (hp : p < 5) (hf : f < 4) {x : Nat → Nat} {A : Nat → Nat → Int64} (hA : ∀ t, t < 16 → A p t = lN (V x f t)) : ∃ s', wh (f0_fillWithin_b39 (nI p) (nI f)) FU (c_within_s st A, (0 : Int32)) = some s' ∧ ∃ A', s' = c_within_s st A' ∧ (∀ j, j ≠ p → A' j = A j) ∧ ∀ t, t < 16 → A' p t = lN (V x (f + 1) t) := by
  have key : ∃ s', wh (f0_fillWithin_b39 (nI p) (nI f)) FU (c_within_s st A, (0 : Int32)) = some s' ∧ ∃ A', s' = c_within_s st A' ∧ (∀ j, j ≠ p → A' j = A j) ∧ ∀ t, t < 16 → A' p t = lN (if t < 16 then V x (f + 1) t else V x f t) := by
    refine wh_inv 16 (by omega) (fun i z => ∃ A', z = (c_within_s st A', nI i) ∧ (∀ j, j ≠ p → A' j = A j) ∧ ∀ t, t < 16 → A' p t = lN (if t < i then V x (f + 1) t else V x f t)) _ ⟨A, rfl, fun _ _ => rfl, fun t ht => by rw [if_neg (by omega)]; exact hA t ht⟩ ?_ ?_
    · rintro i _ hi ⟨A', rfl, h1, h2⟩
      obtain ⟨c1, c2⟩ := bitc f hf i hi
      unfold f0_fillWithin_b39
      simp only
      rw [if_neg (show ¬ (16 : Int32) ≤ nI i from lge 16 hi)]
      by_cases q : i / 2 ^ f % 2 = 1
      · obtain ⟨c3, c4, c5⟩ := c2 q
        have hpos : 0 < 2 ^ f := Nat.pos_of_ne_zero (by simp)
        rw [if_pos (c1.mpr q), c3, if_pos (ib_n hp (by omega)), if_pos (ib_n (by omega) (by omega)), if_pos (ib_n hp (by omega)), if_pos (ib_n (by omega) (by omega)), if_pos (ib_n (by omega) (by omega)), tn (by omega), tn (by omega), tn (by omega), ws_ws, nI_1]
        refine Or.inl ⟨_, rfl, va_up A' p (vp_updL (A' p) i (A' p i + A' p (i - 2 ^ f))), rfl, fun j hj => (va_up_ne _ _ hj).trans (h1 j hj), fun t ht => ?_⟩
        rw [va_up_self]
        by_cases e : t = i
        · subst e
          rw [pk_uLs, h2 _ ht, h2 _ (by omega), if_neg (by omega), if_pos (by omega), if_pos (by omega), lN_add, show V x (f + 1) t = V x f t + V x f (t - 2 ^ f) from if_pos q, show V x (f + 1) (t - 2 ^ f) = V x f (t - 2 ^ f) from if_neg c5]
        · rw [pk_uLn e, h2 t ht]
          by_cases z : t < i
          · rw [if_pos z, if_pos (by omega)]
          · rw [if_neg z, if_neg (by omega)]
      · rw [if_neg (fun z => q (c1.mp z)), nI_1]
        refine Or.inl ⟨_, rfl, A', rfl, h1, fun t ht => ?_⟩
        rw [h2 t ht]
        by_cases e : t = i
        · subst e
          rw [if_neg (by omega), if_pos (by omega), V, if_neg q]
        · by_cases z : t < i
          · rw [if_pos z, if_pos (by omega)]
          · rw [if_neg z, if_neg (by omega)]
    · rintro _ ⟨A', rfl, h1, h2⟩
      refine ⟨_, ?_, A', rfl, h1, h2⟩
      unfold f0_fillWithin_b39
      exact if_pos (Int32.le_refl _)
  obtain ⟨s', k1, A', rfl, k2, k3⟩ := key
  exact ⟨_, k1, A', rfl, k2, fun t ht => by rw [k3 t ht, if_pos ht]⟩
theorem fill_c {p : Nat} (hp : p < 5) {x : Nat → Nat} (hx : ∀ t, t < 16 → c_exactly st p t = lN (x t)) : ∃ A, f0_fillWithin st (nI p) = some (c_within_s st A) ∧ (∀ j, j ≠ p → A j = c_within st j) ∧ ∀ t, t < 16 → A p t = lN (V x 4 t) := by
  obtain ⟨s', h1, A, rfl, h2, h3⟩ := fill1 hp hx
  have key : ∃ s', wh (f0_fillWithin_b32 (nI p)) FU (c_within_s st A, (0 : Int32)) = some s' ∧ ∃ A', s' = c_within_s st A' ∧ (∀ j, j ≠ p → A' j = c_within st j) ∧ ∀ t, t < 16 → A' p t = lN (V x 4 t) := by
    refine wh_inv 4 (by omega) (fun i z => ∃ A', z = (c_within_s st A', nI i) ∧ (∀ j, j ≠ p → A' j = c_within st j) ∧ ∀ t, t < 16 → A' p t = lN (V x i t)) _ ⟨A, rfl, h2, h3⟩ ?_ ?_
    · rintro i _ hi ⟨A', rfl, g1, g2⟩
      obtain ⟨s', k1, A2, rfl, k2, k3⟩ := fill2 (st := st) hp hi g2
      refine Or.inl ⟨_, ?_, A2, rfl, fun j hj => (k2 j hj).trans (g1 j hj), k3⟩
      unfold f0_fillWithin_b32
      simp only
      rw [if_neg (show ¬ (4 : Int32) ≤ nI i from lge 4 hi), k1, bi1_s, nI_1]
    · rintro _ ⟨A', rfl, g1, g2⟩
      refine ⟨_, ?_, A', rfl, g1, g2⟩
      unfold f0_fillWithin_b32
      exact if_pos (Int32.le_refl _)
  obtain ⟨s', k1, A', rfl, k2, k3⟩ := key
  refine ⟨A', ?_, k2, k3⟩
  unfold f0_fillWithin
  rw [h1, bi1_s, k1, bi1_s]
/-- the whole of solve -/
theorem solve_c (hE : EW st Z) (hv : VZ Z) {p : Nat} (hp : p < 5) {q : Int32} (hq : q < 0 ∨ ∃ r, r < 1000 ∧ q = nI r) : ∃ s A, f0_solve st (nI p) q = some (c_within_s s A) ∧ IC st p (SL Z q) s ∧ (∀ j, j ≠ p → A j = c_within st j) ∧ ∀ t, t < 16 → A p t = lN (V (cnt (SL Z q)) 4 t) := by
  obtain ⟨s0, z1, z2⟩ := zero9 (st := st) hp q
  have key : ∃ s, wh (f0_solve_b32 (nI p) q) FU (s0, (0 : Int32)) = some s ∧ IC st p (SL Z q) s := by
    rcases hq with hq | ⟨r, hr, rfl⟩
    · refine ⟨s0, neg_a hE hv hq z2, ?_⟩
      unfold SL
      rw [if_pos hq]
      exact z2
    · have hl := SL_len hv (nI r)
      have e : SL Z (nI r) = solc (Z 25) [Z 4, Z 5, Z 6, Z 7] r 0 := by
        unfold SL
        rw [if_neg (nI_pos (by omega)), tn (by omega)]
      rw [e] at hl ⊢
      exact lev_a hE hv hp hr z2 (by rw [List.nil_append]; omega)
  obtain ⟨s, k1, k2⟩ := key
  obtain ⟨R, S, X, rfl, h1, h2, h3, h4⟩ := id k2
  obtain ⟨A, f1, f2, f3⟩ := fill_c (st := ES st R S X) hp h4
  refine ⟨ES st R S X, A, ?_, k2, f2, f3⟩
  unfold f0_solve
  rw [if_pos (ib_n hp (by omega)), tn (by omega), z1, bi1_s, k1, bi1_s, f1, bi1_s]
end PK
