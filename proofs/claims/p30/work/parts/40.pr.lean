/-! (of the class alone) -/
section PR
variable {st : CS} {Z : Nat → Nat}
def PF (s : CS) (Z : Nat → Nat) (p : Nat) : Prop := c_size s p = nI (SL Z (rs Z p)).length ∧ (∀ k e, k < 220 → (SL Z (rs Z p))[k]? = some e → c_rows s p k = nI e) ∧ (∀ t, t < 16 → c_exactly s p t = lN (cnt (SL Z (rs Z p)) t)) ∧ ∀ t, t < 16 → c_within s p t = lN (V (cnt (SL Z (rs Z p))) 4 t)
/-- how many solutions have a support -/
def xs (Z : Nat → Nat) (p : Nat) : Nat → Nat := cnt (SL Z (rs Z p))
def EPt (s : CS) (Z : Nat → Nat) : Prop := EW s Z ∧ c_used s = nI (US Z) ∧ (c_canBeEmpty s = if Z 24 = 1 then 1 else 0) ∧ (∀ p, p < 4 → PF s Z p) ∧ ∀ n, n ≤ 4 → ∀ t, t < 16 → c_eways s (4 - n) t = lN (Wk (xs Z) (yC Z) n t)
def EP (s : CS) (Z : Nat → Nat) : Prop := c_eprep s = 0 ∨ EPt s Z
theorem csame.t {a b c : CS} (h : csame a b) (g : csame b c) : csame a c := ⟨g.1.trans h.1, g.2.1.trans h.2.1, g.2.2.1.trans h.2.2.1, g.2.2.2.1.trans h.2.2.2.1, g.2.2.2.2.1.trans h.2.2.2.2.1, g.2.2.2.2.2.1.trans h.2.2.2.2.2.1, g.2.2.2.2.2.2.1.trans h.2.2.2.2.2.2.1, g.2.2.2.2.2.2.2.trans h.2.2.2.2.2.2.2⟩
theorem lsame.t {a b c : CS} (h : lsame a b) (g : lsame b c) : lsame a c := ⟨g.1.trans h.1, g.2.1.trans h.2.1, g.2.2.1.trans h.2.2.1, g.2.2.2.trans h.2.2.2⟩
theorem csame.r (a : CS) : csame a a := ⟨rfl, rfl, rfl, rfl, rfl, rfl, rfl, rfl⟩
theorem lsame.r (a : CS) : lsame a a := ⟨rfl, rfl, rfl, rfl⟩
def UW (st : CS) (W : Nat → Int32) (u : Int32) : CS := (c_state st, c_draft st, c_snaps st, c_taken st, c_kept st, c_oldest st, c_held st, c_codes st, c_length st, W, u, c_most st, c_canBeEmpty st, c_eprep st, c_rows st, c_size st, c_exactly st, c_within st, c_eways st, c_choice st, c_difference st, c_row st, c_numbers st, c_found st, c_lprep st, c_lways st)
theorem UW_1 (st : CS) (W W' : Nat → Int32) (u u' : Int32) : c_used_s (c_weight_s (UW st W u) W') u' = UW st W' u' := rfl
theorem UW_2 (st : CS) (u : Int32) : c_used_s st u = UW st (c_weight st) u := rfl
def BS (st : CS) (W : Nat → Int32) (u b m : Int32) : CS := (c_state st, c_draft st, c_snaps st, c_taken st, c_kept st, c_oldest st, c_held st, c_codes st, c_length st, W, u, m, b, c_eprep st, c_rows st, c_size st, c_exactly st, c_within st, c_eways st, c_choice st, c_difference st, c_row st, c_numbers st, c_found st, c_lprep st, c_lways st)
theorem BS_1 (st : CS) (W : Nat → Int32) (u b m : Int32) : c_most_s (c_canBeEmpty_s (UW st W u) b) m = BS st W u b m := rfl
theorem weights_c (h : CZ st Z) (hv : VZ Z) : ∃ W, wh f0_prepare_b15 FU (c_used_s st 0, (0 : Int32)) = some (UW st W (nI (US Z))) ∧ ∀ f, f < 4 → W f = nI (Z (4 + f)) := by
  have key : ∃ s, wh f0_prepare_b15 FU (c_used_s st 0, (0 : Int32)) = some s ∧ ∃ W, s = UW st W (nI (US Z)) ∧ ∀ f, f < 4 → W f = nI (Z (4 + f)) := by
    rw [UW_2]
    refine wh_inv 4 (by omega) (fun i z => ∃ W, z = (UW st W (nI (sm (fun f => if Z (4 + f) = 0 then 0 else 2 ^ f) i)), nI i) ∧ ∀ f, f < i → W f = nI (Z (4 + f))) _ ⟨c_weight st, rfl, fun f hf => by omega⟩ ?_ ?_
    · rintro i _ hi ⟨W, rfl, hW⟩
      have h2 := orbit i hi _ (sm_bit (fun f => Z (4 + f)) i) (decide (Z (4 + i) = 0))
      have hb := hv.w hi
      refine Or.inl ⟨_, ?_, upd W i (nI (Z (4 + i))), rfl, fun f hf => ?_⟩
      · unfold f0_prepare_b15
        simp only
        rw [if_neg (show ¬ (4 : Int32) ≤ nI i from lge 4 hi), show (4 : Int32) + nI i = nI (4 + i) from nI_add 4 i, if_pos (ib_n (by omega) (by omega)), if_pos (ib_n hi (by omega)), if_pos (ib_n hi (by omega)), tn (by omega), tn (by omega), UW_1, nI_1]
        show some (Sum.inl (UW st (upd W i (c_state st (4 + i))) (nI (sm (fun f => if Z (4 + f) = 0 then 0 else 2 ^ f) i) ||| (if upd W i (c_state st (4 + i)) i ≤ 0 then 0 else (1 : Int32) <<< (nI i &&& 31))), nI (i + 1))) = _
        rw [pk_us, h _ (by omega)]
        by_cases q : Z (4 + i) = 0
        · rw [q] at h2 ⊢
          rw [if_pos (show nI 0 ≤ (0 : Int32) from Int32.le_refl _)]
          simp only [decide_true, if_true] at h2
          rw [h2, sm, if_pos q]
        · rw [if_neg (nI_nle (by omega) (by omega))]
          simp only [q, decide_false, if_false, Bool.false_eq_true] at h2
          rw [h2, sm, if_neg q]
      · by_cases e : f = i
        · rw [e, pk_us]
        · rw [pk_un e]
          exact hW f (by omega)
    · rintro _ ⟨W, rfl, hW⟩
      refine ⟨_, ?_, W, rfl, hW⟩
      unfold f0_prepare_b15
      exact if_pos (Int32.le_refl _)
  obtain ⟨s, k1, W, rfl, k2⟩ := key
  exact ⟨W, k1, k2⟩
theorem PF.m {s s' : CS} {p : Nat} (h : PF s Z p) (e1 : c_size s' p = c_size s p) (e2 : c_rows s' p = c_rows s p) (e3 : c_exactly s' p = c_exactly s p) (e4 : c_within s' p = c_within s p) : PF s' Z p := by
  unfold PF
  rw [e1, e2, e3, e4]
  exact h
theorem solves_c {s0 : CS} (h : CZ s0 Z) (hv : VZ Z) (hE : EW s0 Z) : ∃ s, wh f0_prepare_b89 FU (s0, (0 : Int32)) = some s ∧ csame s0 s ∧ lsame s0 s ∧ EW s Z ∧ c_used s = c_used s0 ∧ c_canBeEmpty s = c_canBeEmpty s0 ∧ ∀ p, p < 4 → PF s Z p := by
  refine wh_inv 4 (by omega) (fun i z => ∃ s, z = (s, nI i) ∧ csame s0 s ∧ lsame s0 s ∧ EW s Z ∧ c_used s = c_used s0 ∧ c_canBeEmpty s = c_canBeEmpty s0 ∧ ∀ p, p < i → PF s Z p) _ ⟨s0, rfl, csame.r _, lsame.r _, hE, rfl, rfl, fun p hp => by omega⟩ ?_ ?_
  · rintro i _ hi ⟨s, rfl, g1, g2, g3, g4, g5, g6⟩
    have hC : CZ s Z := h.m g1.1
    have hq : rs Z i < 0 ∨ ∃ r, r < 1000 ∧ rs Z i = nI r := by
      rcases rs_9 hv hi with z | ⟨r, z, e⟩
      · exact Or.inl z
      · exact Or.inr ⟨r, by omega, e⟩
    obtain ⟨s2, A, k1, k2, k3, k4⟩ := solve_c g3 hv (p := i) (by omega) hq
    obtain ⟨R, S, X, rfl, m1, m2, m3, m4⟩ := k2
    refine Or.inl ⟨_, ?_, c_within_s (ES s R S X) A, rfl, g1.t ⟨rfl, rfl, rfl, rfl, rfl, rfl, rfl, rfl⟩, g2.t ⟨rfl, rfl, rfl, rfl⟩, g3, g4, g5, fun p hp => ?_⟩
    · unfold f0_prepare_b89
      simp only
      rw [if_neg (show ¬ (4 : Int32) ≤ nI i from lge 4 hi), show (16 : Int32) + nI i = nI (16 + i) from nI_add 16 i, show (0 : Int32) + nI i = nI (0 + i) from nI_add 0 i, if_pos (ib_n (by omega) (by omega)), if_pos (ib_n (by omega) (by omega)), tn (by omega), tn (by omega), hC _ (by omega), hC _ (by omega), Nat.zero_add]
      show (bi1 (f0_solve s (nI i) (rs Z i)) fun st28 => _) = _
      rw [k1, bi1_s, nI_1]
    · by_cases e : p = i
      · subst e
        exact ⟨m2, m3, m4, k4⟩
      · exact (g6 p (by omega)).m (m1 p e).2.1 (m1 p e).1 (m1 p e).2.2 (k3 p e)
  · rintro _ ⟨s, rfl, g⟩
    refine ⟨_, ?_, g⟩
    unfold f0_prepare_b89
    exact if_pos (Int32.le_refl _)
theorem prepare_c (h : CZ st Z) (hv : VZ Z) (hP : EP st Z) : ∃ s, f0_prepare st = some s ∧ csame st s ∧ lsame st s ∧ EPt s Z := by
  unfold f0_prepare
  by_cases q : c_eprep st = 0
  · rw [if_pos q]
    have h9 := hv.le9 (k := 24) (by omega)
    obtain ⟨W, a1, a2⟩ := weights_c h hv
    rw [a1, bi1_s, BS_1, show (if c_state (UW st W (nI (US Z))) (24 : Int32).toNatClampNeg = (1 : Int32) then (1 : Int32) else 0) = if Z 24 = 1 then 1 else 0 by
      rw [show c_state (UW st W (nI (US Z))) (24 : Int32).toNatClampNeg = nI (Z 24) from h 24 (by omega)]
      by_cases z : Z 24 = 1
      · rw [z]; rfl
      · rw [if_neg z, if_neg (show ¬ nI (Z 24) = (1 : Int32) from fun e => z ((nI_eq (a := Z 24) (b := 1) (by omega) (by omega)).mp e))]]
    rw [show c_state (UW st W (nI (US Z))) (25 : Int32).toNatClampNeg = nI (Z 25) from h 25 (by omega)]
    obtain ⟨s, b1, b2, b3, b4, b5, b6, b7⟩ := solves_c (s0 := BS st W (nI (US Z)) (if Z 24 = 1 then 1 else 0) (nI (Z 25))) h hv ⟨a2, rfl⟩
    obtain ⟨V, c1, c2⟩ := cways (st := s) (x := xs Z) b5 b6 (fun p hp => (b7 p hp).2.2.1)
    rw [b1, bi1_s, c1, bi1_s]
    refine ⟨_, rfl, (csame.t (b := BS st W (nI (US Z)) (if Z 24 = 1 then 1 else 0) (nI (Z 25))) ⟨rfl, rfl, rfl, rfl, rfl, rfl, rfl, rfl⟩ b2).t ⟨rfl, rfl, rfl, rfl, rfl, rfl, rfl, rfl⟩, (lsame.t (b := BS st W (nI (US Z)) (if Z 24 = 1 then 1 else 0) (nI (Z 25))) ⟨rfl, rfl, rfl, rfl⟩ b3).t ⟨rfl, rfl, rfl, rfl⟩, b4, b5, b6, fun p hp => (b7 p hp).m rfl rfl rfl rfl, c2⟩
  · rw [if_neg q]
    rcases hP with e | e
    · exact absurd e q
    · exact ⟨st, rfl, csame.r _, lsame.r _, e⟩
theorem EP_same {s s' : CS} (e : esame s s') (h : EP s Z) : EP s' Z := by
  obtain ⟨e1, e2, e3, e4, e5, e6, e7, e8, e9, e10⟩ := e
  unfold EP EPt EW PF at *
  rw [e1, e2, e3, e4, e5, e6, e7, e8, e9, e10]
  exact h
end PR
