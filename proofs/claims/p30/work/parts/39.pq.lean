/-! (of the class alone) -/
section PQ
variable {st : CS} {Z : Nat → Nat}
def WC (st : CS) (W : Nat → Nat → Int64) : CS := (c_state st, c_draft st, c_snaps st, c_taken st, c_kept st, c_oldest st, c_held st, c_codes st, c_length st, c_weight st, c_used st, c_most st, c_canBeEmpty st, c_eprep st, c_rows st, c_size st, c_exactly st, c_within st, W, c_choice st, c_difference st, c_row st, c_numbers st, c_found st, c_lprep st, c_lways st)
theorem WC_1 (st : CS) (W W' : Nat → Nat → Int64) : c_eways_s (WC st W) W' = WC st W' := rfl
theorem cways_in {x : Nat → Nat → Nat} {p n t : Nat} (hp : p < 4) (hn : p + n = 3) (ht : t < 16) {W : Nat → Nat → Int64} {y : Nat → Nat} (hB : ∀ u, u < 16 → c_exactly st p u = lN (x p u)) (hW : ∀ u, u < 16 → W (p + 1) u = lN (Wk x y n u)) : f0_waysFrom (WC st W) (nI p) (nI t) = some (lN (Wk x y (n + 1) t)) := by
  have h1 : wh (f0_waysFrom_b5 (WC st W) (nI p) (nI t)) FU ((0 : Int64), (0 : Int32)) = some (lN (Wk x y (n + 1) t)) := by
    rw [Wk]
    refine wh_for' 16 (by omega) (fun i => (lN (sm (fun u => x (3 - n) u * Wk x y n (t ||| u)) i), nI i)) rfl (fun i hi => ?_) ?_
    · have ho := or_lt t ht i hi
      unfold f0_waysFrom_b5
      simp only
      rw [if_neg (show ¬ (16 : Int32) ≤ nI i from lge 16 hi), or16b t ht i hi, show nI p + (1 : Int32) = nI (p + 1) from nI_1 p, if_pos (ib_n (by omega) (by omega)), if_pos (ib_n (by omega) (by omega)), if_pos (ib_n (by omega) (by omega)), if_pos (ib_n (by omega) (by omega)), tn (by omega), tn (by omega), tn (by omega), tn (by omega), lq_e, nI_1]
      show some (Sum.inl (lN _ + c_exactly st p i * W (p + 1) (t ||| i), nI (i + 1))) = _
      rw [hB i hi, hW _ ho, lN_mul, lN_add, sm, show 3 - n = p by omega]
    · unfold f0_waysFrom_b5
      exact if_pos (Int32.le_refl _)
  unfold f0_waysFrom
  rw [h1, bi1_s]
theorem cways_lev {x : Nat → Nat → Nat} {p n : Nat} (hp : p < 4) (hn : p + n = 3) {W : Nat → Nat → Int64} {y : Nat → Nat} (hB : ∀ u, u < 16 → c_exactly st p u = lN (x p u)) (hW : ∀ u, u < 16 → W (p + 1) u = lN (Wk x y n u)) : ∃ s', wh (f0_fillWays_b50 (nI p)) FU (WC st W, (0 : Int32)) = some s' ∧ ∃ W', s' = WC st W' ∧ (∀ k, p + 1 ≤ k → W' k = W k) ∧ ∀ t, t < 16 → W' p t = lN (Wk x y (n + 1) t) := by
  refine wh_inv 16 (by omega) (fun i z => ∃ W', z = (WC st W', nI i) ∧ (∀ k, p + 1 ≤ k → W' k = W k) ∧ ∀ t, t < i → W' p t = lN (Wk x y (n + 1) t)) _ ⟨W, rfl, fun _ _ => rfl, fun t ht => by omega⟩ ?_ ?_
  · rintro i _ hi ⟨W', rfl, h1, h2⟩
    refine Or.inl ⟨_, ?_, va_up W' p (vp_updL (W' p) i (lN (Wk x y (n + 1) i))), rfl, fun k hk => (va_up_ne _ _ (by omega)).trans (h1 k hk), fun t ht => ?_⟩
    · unfold f0_fillWays_b50
      simp only
      rw [if_neg (show ¬ (16 : Int32) ≤ nI i from lge 16 hi), if_pos (ib_n (by omega) (by omega)), cways_in hp hn hi hB (W := W') (y := y) (fun u hu => by rw [h1 _ (by omega)]; exact hW u hu), bi1_s, if_pos (ib_n (by omega) (by omega)), tn (by omega), tn (by omega), WC_1, nI_1]
      rfl
    · rw [va_up_self]
      by_cases e : t = i
      · rw [e, pk_uLs]
      · rw [pk_uLn e]
        exact h2 t (by omega)
  · rintro _ ⟨W', rfl, h1, h2⟩
    refine ⟨_, ?_, W', rfl, h1, h2⟩
    unfold f0_fillWays_b50
    exact if_pos (Int32.le_refl _)
/-- what the class's ways must reach -/
def yC (Z : Nat → Nat) : Nat → Nat := fun s => if Z 24 = 1 then 1 else if s = US Z then 1 else 0
theorem cways {x : Nat → Nat → Nat} (hu : c_used st = nI (US Z)) (he : c_canBeEmpty st = if Z 24 = 1 then 1 else 0) (hB : ∀ p, p < 4 → ∀ u, u < 16 → c_exactly st p u = lN (x p u)) : ∃ W, f0_fillWays st = some (WC st W) ∧ ∀ n, n ≤ 4 → ∀ t, t < 16 → W (4 - n) t = lN (Wk x (yC Z) n t) := by
  have hU := US_lt Z
  have k1 : ∃ s', wh f0_fillWays_b2 FU (st, (0 : Int32)) = some s' ∧ ∃ W, s' = WC st W ∧ ∀ t, t < 16 → W 4 t = lN (yC Z t) := by
    rw [show wh f0_fillWays_b2 FU (st, (0 : Int32)) = wh f0_fillWays_b2 FU (WC st (c_eways st), (0 : Int32)) from rfl]
    refine wh_inv 16 (by omega) (fun i z => ∃ W, z = (WC st W, nI i) ∧ ∀ t, t < i → W 4 t = lN (yC Z t)) _ ⟨c_eways st, rfl, fun t ht => by omega⟩ ?_ ?_
    · rintro i _ hi ⟨W, rfl, h2⟩
      refine Or.inl ⟨_, ?_, va_up W 4 (vp_updL (W 4) i (lN (yC Z i))), rfl, fun t ht => ?_⟩
      · unfold f0_fillWays_b2
        simp only
        rw [if_neg (show ¬ (16 : Int32) ≤ nI i from lge 16 hi), if_pos (ib_n hi (by omega)), tn (by omega), WC_1, WC_1, nI_1, show c_canBeEmpty (WC st W) = _ from he, show c_used (WC st W) = _ from hu]
        unfold yC
        by_cases q : Z 24 = 1
        · rw [if_pos q, if_pos q, if_neg (show ¬ (1 : Int32) = 0 by decide +kernel), if_pos (ib_n hi (by omega))]
          rfl
        · rw [if_neg q, if_neg q, if_pos rfl]
          by_cases e : i = US Z
          · rw [if_pos e, if_pos (by rw [e])]
            rfl
          · rw [if_neg e, if_neg (fun z => e ((nI_eq (by omega) (by omega)).mp z))]
            rfl
      · rw [va_up_self]
        by_cases e : t = i
        · rw [e, pk_uLs]
        · rw [pk_uLn e]
          exact h2 t (by omega)
    · rintro _ ⟨W, rfl, h2⟩
      refine ⟨_, ?_, W, rfl, h2⟩
      unfold f0_fillWays_b2
      exact if_pos (Int32.le_refl _)
  obtain ⟨s0, z1, W0, rfl, z2⟩ := k1
  have k2 : ∃ s', wh f0_fillWays_b44 FU (WC st W0, (3 : Int32)) = some s' ∧ ∃ W, s' = WC st W ∧ ∀ n, n ≤ 4 → ∀ t, t < 16 → W (4 - n) t = lN (Wk x (yC Z) n t) := by
    refine wh_inv 4 (by omega) (fun i z => ∃ W, z = (WC st W, dn i) ∧ ∀ n, n ≤ i → ∀ t, t < 16 → W (4 - n) t = lN (Wk x (yC Z) n t)) _ ⟨W0, rfl, fun n hn t ht => by rw [show n = 0 by omega]; exact z2 t ht⟩ ?_ ?_
    · rintro i _ hi ⟨W, rfl, h1⟩
      obtain ⟨d1, d2, d3⟩ := dn_s i hi
      obtain ⟨s', e1, W', rfl, e2, e3⟩ := cways_lev (st := st) (x := x) (p := 3 - i) (n := i) (W := W) (y := yC Z) (by omega) (by omega) (hB _ (by omega)) (fun u hu => by rw [show 3 - i + 1 = 4 - i by omega]; exact h1 i (by omega) u hu)
      refine Or.inl ⟨_, ?_, W', rfl, fun n hn t ht => ?_⟩
      · unfold f0_fillWays_b44
        simp only
        rw [if_neg d2, d1, d3, e1, bi1_s]
      · by_cases q : n = i + 1
        · subst q
          rw [show 4 - (i + 1) = 3 - i by omega]
          exact e3 t ht
        · rw [e2 _ (by omega)]
          exact h1 n (by omega) t ht
    · rintro _ ⟨W, rfl, h1⟩
      refine ⟨_, ?_, W, rfl, h1⟩
      unfold f0_fillWays_b44
      exact if_pos (show dn 4 < 0 by decide +kernel)
  obtain ⟨s1, z3, W, rfl, z4⟩ := k2
  refine ⟨W, ?_, z4⟩
  unfold f0_fillWays
  rw [z1, bi1_s, z3, bi1_s]
end PQ
