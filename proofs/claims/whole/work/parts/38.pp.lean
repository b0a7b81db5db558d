/-! The model's ways. -/
section PP
variable {ms : MS} {Z : Nat → Nat}
theorem and16 : ∀ a, a < 16 → ∀ b, b < 16 → nI a &&& nI b = nI (a &&& b) ∧ a &&& b < 16 := by decide +kernel
theorem or16b : ∀ a, a < 16 → ∀ b, b < 16 → nI a ||| nI b = nI (a ||| b) := by decide +kernel
/-- the way downward: 3, 2, 1, 0, -1 -/
def dn (i : Nat) : Int32 := if i < 4 then nI (3 - i) else -1
theorem dn_s : ∀ i, i < 4 → dn i + (-1) = dn (i + 1) ∧ ¬ dn i < 0 ∧ dn i = nI (3 - i) := by decide +kernel
theorem ways_in {x : Nat → Nat → Nat} {p n t : Nat} (hp : p < 4) (hn : p + n = 3) (ht : t < 16) {W : Nat → Int64} {y : Nat → Nat} (hB : ∀ u, u < 16 → m_bySupport ms (16 * p + u) = nI (x p u)) (hx : ∀ u, u < 16 → x p u < 2 ^ 31) (hW : ∀ u, u < 16 → W (16 * (p + 1) + u) = lN (Wk x y n u)) : wh (f5_layWays_b75 (WM ms W) (nI p) (nI t)) FU ((0 : Int64), (0 : Int32)) = some (lN (Wk x y (n + 1) t)) := by
  rw [Wk]
  refine wh_for' 16 (by omega) (fun i => (lN (sm (fun u => x (3 - n) u * Wk x y n (t ||| u)) i), nI i)) rfl (fun i hi => ?_) ?_
  · have ho := or_lt t ht i hi
    unfold f5_layWays_b75
    simp only
    rw [if_neg (show ¬ (16 : Int32) ≤ nI i from lge 16 hi), show (16 : Int32) * nI p + nI i = nI (16 * p + i) from emk 16 p i rfl, or16b t ht i hi, show (16 : Int32) * nI p + (16 : Int32) + nI (t ||| i) = nI (16 * (p + 1) + (t ||| i)) by rw [show (16 : Int32) * nI p + (16 : Int32) = nI (16 * p + 16) from emk 16 p 16 rfl, nI_add]; exact congrArg nI (by omega), if_pos (ib_n (by omega) (by omega)), if_pos (ib_n (by omega) (by omega)), tn (by omega), tn (by omega), lq_e, nI_1]
    show some (Sum.inl (lN _ + (m_bySupport ms (16 * p + i)).toInt64 * W (16 * (p + 1) + (t ||| i)), nI (i + 1))) = _
    rw [hB i hi, hW _ ho, nI_l (hx i hi), lN_mul, lN_add, sm, show 3 - n = p by omega]
  · unfold f5_layWays_b75
    exact if_pos (Int32.le_refl _)
theorem ways_lev {x : Nat → Nat → Nat} {p n : Nat} (hp : p < 4) (hn : p + n = 3) {W : Nat → Int64} {y : Nat → Nat} (hB : ∀ u, u < 16 → m_bySupport ms (16 * p + u) = nI (x p u)) (hx : ∀ u, u < 16 → x p u < 2 ^ 31) (hW : ∀ u, u < 16 → W (16 * (p + 1) + u) = lN (Wk x y n u)) : ∃ s', wh (f5_layWays_b63 (nI p)) FU (WM ms W, (0 : Int32)) = some s' ∧ ∃ W', s' = WM ms W' ∧ (∀ k, 16 * (p + 1) ≤ k → W' k = W k) ∧ ∀ t, t < 16 → W' (16 * p + t) = lN (Wk x y (n + 1) t) := by
  refine wh_inv 16 (by omega) (fun i z => ∃ W', z = (WM ms W', nI i) ∧ (∀ k, 16 * (p + 1) ≤ k → W' k = W k) ∧ ∀ t, t < i → W' (16 * p + t) = lN (Wk x y (n + 1) t)) _ ⟨W, rfl, fun _ _ => rfl, fun t ht => by omega⟩ ?_ ?_
  · rintro i _ hi ⟨W', rfl, h1, h2⟩
    refine Or.inl ⟨_, ?_, vp_updL W' (16 * p + i) (lN (Wk x y (n + 1) i)), rfl, fun k hk => (pk_uLn (by omega)).trans (h1 k hk), fun t ht => ?_⟩
    · unfold f5_layWays_b63
      simp only
      rw [if_neg (show ¬ (16 : Int32) ≤ nI i from lge 16 hi), ways_in hp hn hi hB hx (W := W') (y := y) (fun u hu => (h1 _ (by omega)).trans (hW u hu)), bi1_s, show (16 : Int32) * nI p + nI i = nI (16 * p + i) from emk 16 p i rfl, if_pos (ib_n (by omega) (by omega)), tn (by omega), WM_1, nI_1]
      rfl
    · by_cases e : t = i
      · rw [e, pk_uLs]
      · rw [pk_uLn (by omega)]
        exact h2 t (by omega)
  · rintro _ ⟨W', rfl, h1, h2⟩
    refine ⟨_, ?_, W', rfl, h1, h2⟩
    unfold f5_layWays_b63
    exact if_pos (Int32.le_refl _)
/-- what the ways must reach -/
def yM (P : Nat) : Nat → Nat := fun s => if s &&& P = P then 1 else 0
theorem ways_j {x : Nat → Nat → Nat} {P : Nat} (hP : P < 16) (hB : ∀ p, p < 4 → ∀ u, u < 16 → m_bySupport ms (16 * p + u) = nI (x p u)) (hx : ∀ p, p < 4 → ∀ u, u < 16 → x p u < 2 ^ 31) : ∃ W, f5_layWays_j19 ms (nI P) = some (WM ms W) ∧ ∀ n, n ≤ 4 → ∀ t, t < 16 → W (16 * (4 - n) + t) = lN (Wk x (yM P) n t) := by
  have k1 : ∃ s', wh (f5_layWays_b22 (nI P)) FU (ms, (0 : Int32)) = some s' ∧ ∃ W, s' = WM ms W ∧ ∀ t, t < 16 → W (64 + t) = lN (yM P t) := by
    rw [show ms = WM ms (m_waysOn ms) from rfl]
    refine wh_inv 16 (by omega) (fun i z => ∃ W, z = (WM ms W, nI i) ∧ ∀ t, t < i → W (64 + t) = lN (yM P t)) _ ⟨m_waysOn ms, rfl, fun t ht => by omega⟩ ?_ ?_
    · rintro i _ hi ⟨W, rfl, h2⟩
      obtain ⟨a1, a2⟩ := and16 i hi P hP
      refine Or.inl ⟨_, ?_, vp_updL W (64 + i) (lN (yM P i)), rfl, fun t ht => ?_⟩
      · unfold f5_layWays_b22
        simp only
        rw [if_neg (show ¬ (16 : Int32) ≤ nI i from lge 16 hi), show (64 : Int32) + nI i = nI (64 + i) from nI_add 64 i, if_pos (ib_n (by omega) (by omega)), tn (by omega), WM_1, nI_1, a1]
        have : (if nI (i &&& P) = nI P then (1 : Int64) else 0) = lN (yM P i) := by
          unfold yM
          by_cases q : i &&& P = P
          · rw [if_pos (by rw [q]), if_pos q]; rfl
          · rw [if_neg (fun z => q ((nI_eq (by omega) (by omega)).mp z)), if_neg q]; rfl
        rw [this]
        rfl
      · by_cases e : t = i
        · rw [e, pk_uLs]
        · rw [pk_uLn (by omega)]
          exact h2 t (by omega)
    · rintro _ ⟨W, rfl, h2⟩
      refine ⟨_, ?_, W, rfl, h2⟩
      unfold f5_layWays_b22
      exact if_pos (Int32.le_refl _)
  obtain ⟨s0, z1, W0, rfl, z2⟩ := k1
  have k2 : ∃ s', wh f5_layWays_b57 FU (WM ms W0, (3 : Int32)) = some s' ∧ ∃ W, s' = WM ms W ∧ ∀ n, n ≤ 4 → ∀ t, t < 16 → W (16 * (4 - n) + t) = lN (Wk x (yM P) n t) := by
    refine wh_inv 4 (by omega) (fun i z => ∃ W, z = (WM ms W, dn i) ∧ ∀ n, n ≤ i → ∀ t, t < 16 → W (16 * (4 - n) + t) = lN (Wk x (yM P) n t)) _ ⟨W0, rfl, fun n hn t ht => by rw [show n = 0 by omega]; exact z2 t ht⟩ ?_ ?_
    · rintro i _ hi ⟨W, rfl, h1⟩
      obtain ⟨d1, d2, d3⟩ := dn_s i hi
      obtain ⟨s', e1, W', rfl, e2, e3⟩ := ways_lev (ms := ms) (x := x) (p := 3 - i) (n := i) (W := W) (y := yM P) (by omega) (by omega) (hB _ (by omega)) (hx _ (by omega)) (fun u hu => by rw [show 16 * (3 - i + 1) + u = 16 * (4 - i) + u by omega]; exact h1 i (by omega) u hu)
      refine Or.inl ⟨_, ?_, W', rfl, fun n hn t ht => ?_⟩
      · unfold f5_layWays_b57
        simp only
        rw [if_neg d2, d1, d3, e1, bi1_s]
      · by_cases q : n = i + 1
        · subst q
          rw [show 16 * (4 - (i + 1)) + t = 16 * (3 - i) + t by omega]
          exact e3 t ht
        · rw [e2 _ (by omega)]
          exact h1 n (by omega) t ht
    · rintro _ ⟨W, rfl, h1⟩
      refine ⟨_, ?_, W, rfl, h1⟩
      unfold f5_layWays_b57
      exact if_pos (show dn 4 < 0 by decide +kernel)
  obtain ⟨s1, z3, W, rfl, z4⟩ := k2
  refine ⟨W, ?_, z4⟩
  unfold f5_layWays_j19
  rw [z1, bi1_s, z3, bi1_s]
/-- the pattern that the ways must reach -/
def PT (Z : Nat → Nat) : Nat := if Z 24 = 1 then 0 else US Z
theorem PT_lt (Z : Nat → Nat) : PT Z < 16 := by
  unfold PT
  split
  · omega
  · exact US_lt Z
theorem ways_m (hM : MZ ms Z) (hv : VZ Z) {x : Nat → Nat → Nat} (hB : ∀ p, p < 4 → ∀ u, u < 16 → m_bySupport ms (16 * p + u) = nI (x p u)) (hx : ∀ p, p < 4 → ∀ u, u < 16 → x p u < 2 ^ 31) : ∃ W, f5_layWays ms = some (WM ms W) ∧ ∀ n, n ≤ 4 → ∀ t, t < 16 → W (16 * (4 - n) + t) = lN (Wk x (yM (PT Z)) n t) := by
  have h9 := hv.le9 (k := 24) (by omega)
  obtain ⟨W, h1, h2⟩ := ways_j (PT_lt Z) hB hx
  refine ⟨W, ?_, h2⟩
  unfold f5_layWays
  rw [show m_z ms (24 : Int32).toNatClampNeg = nI (Z 24) from hM 24 (by omega)]
  by_cases q : Z 24 = 1
  · rw [q, if_pos (show nI 1 = (1 : Int32) from rfl), ← h1, PT, if_pos q]
    rfl
  · rw [if_neg (show ¬ nI (Z 24) = (1 : Int32) from fun z => q ((nI_eq (a := Z 24) (b := 1) (by omega) (by omega)).mp z)), mask_m hM hv, bi1_s, ← h1, PT, if_neg q]
end PP
