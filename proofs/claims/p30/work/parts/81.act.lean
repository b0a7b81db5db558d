/-! The acts. -/
section AC
variable {st : PS} {Z : Nat → Nat} {Hs : List (Nat → Nat)}
theorem p_eta (st : PS) : st = (p_c st, p_pr st, p_n st, p_found st) := rfl
theorem cz_hi {p q k : Nat} (hp : p < 3) (hq : q < 3) (hk : 24 ≤ k) : cz Z p q 8 k = Z k := by
  unfold cz
  rw [if_neg (by omega), if_neg (by omega)]
theorem pz_hi {d : Nat → Nat} {p k : Nat} (hp : p < 3) (hk : 24 ≤ k) : pz Z p d 8 k = Z k := by
  unfold pz
  rw [if_neg (by omega)]
theorem act_const (hV : V2 Z) (hC : CZ (p_c st) Z) (hH : CH (p_c st) Hs) (hP : PA (p_pr st) Z) (hN : NA (p_n st) Z Hs) {p f v : Nat} (hp : p < 3) (hf : f < 4) (hv : v < 10) : ∃ st', (if (6 : Int32) ≤ ((p_n st) (2 : Int32).toNatClampNeg) then fL_act_j100 (p_pr_s st (upd (p_pr st) (8 * p + f) (nI v))) (nI p) (nI f) ((p_pr st) (8 * p + f)) else fL_act_j100 (p_n_s (p_pr_s st (upd (p_pr st) (8 * p + f) (nI v))) (upd (p_n st) (2 : Int32).toNatClampNeg (((p_n st) (2 : Int32).toNatClampNeg) + (1 : Int32)))) (nI p) (nI f) ((p_pr st) (8 * p + f))) = some (st', 1) ∧ RP st' := by
  obtain ⟨n', e, n0, n1, n2⟩ := bump (fun n' => fL_act_j100 (p_c st, upd (p_pr st) (8 * p + f) (nI v), n', p_found st) (nI p) (nI f) ((p_pr st) (8 * p + f))) Z hN.2.2 hH.2.1
  obtain ⟨K, o, n, e1, e2⟩ := constant_ok hC hH hp hf hv
  refine ⟨_, Eq.trans e ?_, RP_new (c := c_state_s (KS (p_c st) K o n) (upd (c_state (p_c st)) (8 * p + f) (nI v))) (pr := upd (p_pr st) (8 * p + f) (nI v)) (n := n') (fd := p_found st) (V2_u hV (k := 8 * p + f) (v := v) ?_) (uz_u hC _ v) (CH_cs e2) rfl rfl (PA_u hP _ v) ⟨n0.trans (hN.1.trans ?_), n1.trans (hN.2.1.trans ?_), n2⟩⟩
  · show fL_act_j100 (p_c st, upd (p_pr st) (8 * p + f) (nI v), n', p_found st) (nI p) (nI f) ((p_pr st) (8 * p + f)) = _
    unfold fL_act_j100
    rw [e8, if_pos (ib_n (by omega) (by omega)), tn (by omega)]
    show (bi2 (nx (f4_constant (p_c st) (nI p) (nI f) (upd (p_pr st) (8 * p + f) (nI v) (8 * p + f)))) fun st162 r163 => _) = _
    rw [pk_us, e1, nx_r, bi2_s, if_pos (hP _ (by omega)).symm]
    rfl
  · unfold b2
    rw [if_pos (by omega)]
    omega
  · unfold uz
    rw [if_neg (by omega)]
  · unfold uz
    rw [if_neg (by omega)]
theorem act_var (hV : V2 Z) (hC : CZ (p_c st) Z) (hH : CH (p_c st) Hs) (hP : PA (p_pr st) Z) (hN : NA (p_n st) Z Hs) {p f v : Nat} (hp : p < 2) (hf : f < 4) (hv : v < 3) : ∃ st', (if (6 : Int32) ≤ ((p_n st) (2 : Int32).toNatClampNeg) then fL_act_j211 (p_pr_s st (upd (p_pr st) (8 * p + 4 + f) (nI v))) (nI p) (nI f) ((p_pr st) (8 * p + 4 + f)) else fL_act_j211 (p_n_s (p_pr_s st (upd (p_pr st) (8 * p + 4 + f) (nI v))) (upd (p_n st) (2 : Int32).toNatClampNeg (((p_n st) (2 : Int32).toNatClampNeg) + (1 : Int32)))) (nI p) (nI f) ((p_pr st) (8 * p + 4 + f))) = some (st', 1) ∧ RP st' := by
  obtain ⟨n', e, n0, n1, n2⟩ := bump (fun n' => fL_act_j211 (p_c st, upd (p_pr st) (8 * p + 4 + f) (nI v), n', p_found st) (nI p) (nI f) ((p_pr st) (8 * p + 4 + f))) Z hN.2.2 hH.2.1
  obtain ⟨K, o, n, e1, e2⟩ := variable_ok hC hH hp hf (v := v) (by omega)
  refine ⟨_, Eq.trans e ?_, RP_new (c := c_state_s (KS (p_c st) K o n) (upd (c_state (p_c st)) (8 * p + 4 + f) (nI v))) (pr := upd (p_pr st) (8 * p + 4 + f) (nI v)) (n := n') (fd := p_found st) (V2_u hV (k := 8 * p + 4 + f) (v := v) ?_) (uz_u hC _ v) (CH_cs e2) rfl rfl (PA_u hP _ v) ⟨n0.trans (hN.1.trans ?_), n1.trans (hN.2.1.trans ?_), n2⟩⟩
  · show fL_act_j211 (p_c st, upd (p_pr st) (8 * p + 4 + f) (nI v), n', p_found st) (nI p) (nI f) ((p_pr st) (8 * p + 4 + f)) = _
    unfold fL_act_j211
    rw [show (8 : Int32) * nI p + (4 : Int32) + nI f = nI (8 * p + 4 + f) by rw [show (8 : Int32) * nI p + (4 : Int32) = nI (8 * p + 4) from e8 p 4, nI_add], if_pos (ib_n (by omega) (by omega)), tn (by omega)]
    show (bi2 (nx (f4_variable (p_c st) (nI p) (nI f) (upd (p_pr st) (8 * p + 4 + f) (nI v) (8 * p + 4 + f)))) fun st162 r163 => _) = _
    rw [pk_us, e1, nx_r, bi2_s, if_pos (hP _ (by omega)).symm]
    rfl
  · unfold b2
    rw [if_neg (by omega), if_pos (by omega)]
    omega
  · unfold uz
    rw [if_neg (by omega)]
  · unfold uz
    rw [if_neg (by omega)]
theorem act_set (hV : V2 Z) (hC : CZ (p_c st) Z) (hH : CH (p_c st) Hs) (hP : PA (p_pr st) Z) (hN : NA (p_n st) Z Hs) {k v : Nat} (hk : k < 2) (hv : v ≤ bd (24 + k)) : ∃ st', fL_act_j608 st (nI k) ((p_n st) k) (nI k) (nI v) = some (st', 1) ∧ RP st' := by
  have hnk : p_n st k = nI (Z (24 + k)) := by
    rcases (show k = 0 ∨ k = 1 by omega) with rfl | rfl
    · exact hN.1
    · exact hN.2.1
  have hu2 : upd (p_n st) k (nI v) 2 = nI Hs.length := (pk_un (by omega)).trans hN.2.2
  obtain ⟨n', e, n0, n1, n2⟩ := bump (fun n' => fL_act_j626 (p_c st, p_pr st, n', p_found st) (nI k) ((p_n st) k)) (n := upd (p_n st) k (nI v)) Z hu2 hH.2.1
  obtain ⟨K, o, n, e1, e2⟩ := set_ok hC hH hk hv
  have hb : bd (24 + k) = b2 (24 + k) := by
    rcases (show k = 0 ∨ k = 1 by omega) with rfl | rfl
    · rfl
    · rfl
  have hn'k : n' k = nI v := by
    rcases (show k = 0 ∨ k = 1 by omega) with rfl | rfl
    · exact n0.trans pk_us
    · exact n1.trans pk_us
  have hz : ∀ j, j < 2 → n' j = nI (uz Z (24 + k) v (24 + j)) := by
    intro j hj
    unfold uz
    by_cases q : j = k
    · subst q
      rw [if_pos rfl]
      exact hn'k
    · rw [if_neg (by omega)]
      rcases (show j = 0 ∨ j = 1 by omega) with rfl | rfl
      · exact n0.trans ((pk_un q).trans hN.1)
      · exact n1.trans ((pk_un q).trans hN.2.1)
  refine ⟨_, ?_, RP_new (c := c_state_s (KS (p_c st) K o n) (upd (c_state (p_c st)) (24 + k) (nI v))) (pr := p_pr st) (n := n') (fd := p_found st) (V2_u hV (k := 24 + k) (v := v) (by omega)) (uz_u hC _ v) (CH_cs e2) rfl rfl ?_ ⟨hz 0 (by omega), hz 1 (by omega), n2⟩⟩
  · unfold fL_act_j608
    rw [if_pos (ib_n (by omega) (by omega)), tn (by omega)]
    refine Eq.trans e ?_
    show fL_act_j626 (p_c st, p_pr st, n', p_found st) (nI k) ((p_n st) k) = _
    unfold fL_act_j626
    rw [if_pos (ib_n (by omega) (by omega)), tn (by omega)]
    show (bi2 (nx (f4_set (p_c st) (nI k) (n' k))) fun st27 r28 => _) = _
    rw [hn'k, e1, nx_r, bi2_s, if_pos hnk.symm]
    rfl
  · intro j hj
    unfold uz
    rw [if_neg (by omega)]
    exact hP j hj
theorem cancel_l {pr : Nat → Int32} {p q : Nat} (hp : p < 3) (hq : q < 3) (hv : VZ Z) (hP : PA pr Z) (c : CS) (n fd : Nat → Int32) : ∃ pr', wh (fL_act_b255 (nI p) (nI q)) FU ((c, pr, n, fd), (0 : Int32), (0 : Int32)) = some ((c, pr', n, fd), nI (sm (mn Z p q) 8)) ∧ PA pr' (cz Z p q 8) := by
  have key : ∃ r, wh (fL_act_b255 (nI p) (nI q)) FU ((c, pr, n, fd), (0 : Int32), (0 : Int32)) = some r ∧ ∃ pr', r = ((c, pr', n, fd), nI (sm (mn Z p q) 8)) ∧ PA pr' (cz Z p q 8) := by
    refine wh_inv 8 (by omega) (fun i z => ∃ pr', z = ((c, pr', n, fd), nI (sm (mn Z p q) i), nI i) ∧ PA pr' (cz Z p q i)) _ ⟨pr, rfl, fun k hk => by rw [cz_0]; exact hP k hk⟩ ?_ ?_
    · rintro i _ hi ⟨s, rfl, hs⟩
      have ep : s (8 * p + i) = nI (Z (8 * p + i)) := by rw [hs _ (by omega), cz_p hi]
      have eq : s (8 * q + i) = nI (Z (8 * q + i)) := by rw [hs _ (by omega), cz_q hi]
      have b1 := hv.le9 (k := 8 * p + i) (by omega)
      have b2 := hv.le9 (k := 8 * q + i) (by omega)
      refine Or.inl ⟨_, ?_, upd (upd s (8 * p + i) (nI (Z (8 * p + i) - mn Z p q i))) (8 * q + i) (nI (Z (8 * q + i) - mn Z p q i)), rfl, ?_⟩
      · have hj : fL_act_j308 (nI p) (nI q) (c, s, n, fd) (nI (sm (mn Z p q) i)) (nI i) (nI (mn Z p q i)) = some (Sum.inl ((c, upd (upd s (8 * p + i) (nI (Z (8 * p + i) - mn Z p q i))) (8 * q + i) (nI (Z (8 * q + i) - mn Z p q i)), n, fd), nI (sm (mn Z p q) (i + 1)), nI (i + 1))) := by
          unfold fL_act_j308
          rw [e8, e8, if_pos (ib_n (by omega) (by omega)), if_pos (ib_n (by omega) (by omega)), if_pos (ib_n (by omega) (by omega)), if_pos (ib_n (by omega) (by omega)), tn (by omega), tn (by omega), nI_add, nI_1]
          show (if nI p = nI q then some (Sum.inl ((c, upd s (8 * p + i) (s (8 * p + i) - nI (mn Z p q i)), n, fd), nI (sm (mn Z p q) i + mn Z p q i), nI (i + 1))) else some (Sum.inl ((c, upd (upd s (8 * p + i) (s (8 * p + i) - nI (mn Z p q i))) (8 * q + i) (upd s (8 * p + i) (s (8 * p + i) - nI (mn Z p q i)) (8 * q + i) - nI (mn Z p q i)), n, fd), nI (sm (mn Z p q) i + mn Z p q i), nI (i + 1)))) = _
          rw [ep, pk_sub (mn_l _ _ _ _)]
          by_cases z : p = q
          · subst z
            rw [if_pos rfl]
            have hu : upd s (8 * p + i) (nI (Z (8 * p + i) - mn Z p p i)) = upd (upd s (8 * p + i) (nI (Z (8 * p + i) - mn Z p p i))) (8 * p + i) (nI (Z (8 * p + i) - mn Z p p i)) := by
              funext j
              unfold upd
              split
              · rfl
              · rfl
            rw [← hu]
            rfl
          · rw [if_neg (fun e => z ((nI_eq (by omega) (by omega)).mp e)), pk_un (by omega), eq, pk_sub (mn_r _ _ _ _)]
            rfl
        unfold fL_act_b255
        simp only
        rw [if_neg (show ¬ (8 : Int32) ≤ nI i from lge 8 hi), e8, e8, if_pos (ib_n (by omega) (by omega)), if_pos (ib_n (by omega) (by omega)), if_pos (ib_n (by omega) (by omega)), if_pos (ib_n (by omega) (by omega)), tn (by omega), tn (by omega)]
        show (if s (8 * q + i) ≤ s (8 * p + i) then fL_act_j308 (nI p) (nI q) (c, s, n, fd) (nI (sm (mn Z p q) i)) (nI i) (s (8 * q + i)) else fL_act_j308 (nI p) (nI q) (c, s, n, fd) (nI (sm (mn Z p q) i)) (nI i) (s (8 * p + i))) = _
        rw [ep, eq]
        by_cases z : Z (8 * q + i) ≤ Z (8 * p + i)
        · rw [if_pos (nI_le z (by omega))]
          rw [show mn Z p q i = Z (8 * q + i) from Nat.min_eq_right z] at hj ⊢
          exact hj
        · rw [if_neg (nI_ge (by omega) (by omega))]
          rw [show mn Z p q i = Z (8 * p + i) from Nat.min_eq_left (by omega)] at hj ⊢
          exact hj
      · intro k hk
        rw [cz_s hi]
        unfold upd mn
        split
        · rfl
        · split
          · rfl
          · exact hs k hk
    · rintro _ ⟨s, rfl, hs⟩
      refine ⟨_, ?_, s, rfl, hs⟩
      unfold fL_act_b255
      exact if_pos (Int32.le_refl _)
  obtain ⟨r, h1, s, rfl, h3⟩ := key
  exact ⟨s, h1, h3⟩
theorem act_cancel (hV : V2 Z) (hC : CZ (p_c st) Z) (hH : CH (p_c st) Hs) (hP : PA (p_pr st) Z) (hN : NA (p_n st) Z Hs) {p q : Nat} (hp : p < 3) (hq : q < 3) : ∃ st', (bi1 (wh (fL_act_b255 (nI p) (nI q)) FU (st, (0 : Int32), (0 : Int32))) fun w125 => (if (6 : Int32) ≤ ((p_n w125.1) (2 : Int32).toNatClampNeg) then fL_act_j377 w125.1 (nI p) (nI q) w125.2 else fL_act_j377 (p_n_s w125.1 (upd (p_n w125.1) (2 : Int32).toNatClampNeg (((p_n w125.1) (2 : Int32).toNatClampNeg) + (1 : Int32)))) (nI p) (nI q) w125.2)) = some (st', 1) ∧ RP st' := by
  obtain ⟨pr', w1, w2⟩ := cancel_l hp hq hV.v hP (p_c st) (p_n st) (p_found st)
  obtain ⟨n', e, n0, n1, n2⟩ := bump (fun n' => fL_act_j377 (p_c st, pr', n', p_found st) (nI p) (nI q) (nI (sm (mn Z p q) 8))) Z hN.2.2 hH.2.1
  obtain ⟨K, o, n, s, e1, e2, e3⟩ := cancel_ok hC hV.v hH hp hq
  refine ⟨_, ?_, RP_new (c := c_state_s (KS (p_c st) K o n) s) (pr := pr') (n := n') (fd := p_found st) (Z := cz Z p q 8) (fun k hk => Nat.le_trans cz_le (hV k hk)) e3 (CH_cs e2) rfl rfl w2 ⟨n0.trans (hN.1.trans ?_), n1.trans (hN.2.1.trans ?_), n2⟩⟩
  · rw [show wh (fL_act_b255 (nI p) (nI q)) FU (st, (0 : Int32), (0 : Int32)) = _ from w1, bi1_s]
    refine Eq.trans e ?_
    show fL_act_j377 (p_c st, pr', n', p_found st) (nI p) (nI q) (nI (sm (mn Z p q) 8)) = _
    unfold fL_act_j377
    show (bi2 (nx (f4_cancel (p_c st) (nI p) (nI q))) fun st121 r122 => _) = _
    rw [e1, nx_r, bi2_s, if_pos rfl]
    rfl
  · exact congrArg nI (cz_hi hp hq (by omega)).symm
  · exact congrArg nI (cz_hi hp hq (by omega)).symm
theorem lim_l : ∀ p, p < 3 → ∀ i, i < 8 → (if (4 : Int32) ≤ nI i then (if nI p = (2 : Int32) then (0 : Int32) else (2 : Int32)) else (9 : Int32)) = nI (b2 (8 * p + i)) := by decide +kernel
theorem b2_9 (k : Nat) : b2 k ≤ 9 := by
  unfold b2
  repeat' split
  all_goals omega
theorem mul_l {p q : Nat} (hp : p < 3) (hq : q < 3) (hv : VZ Z) (hP : PA (p_pr st) Z) : ∃ r, wh (fL_act_b409 st (nI p) (nI q)) FU ((0 : Int32), (0 : Int32)) = some r ∧ (r = .inr () ∨ (r = .inl (nI (sm (ml Z p q) 8)) ∧ ∀ i, i < 8 → ml Z p q i ≤ b2 (8 * p + i))) := by
  refine wh_inv 8 (by omega) (fun i z => z = (nI (sm (ml Z p q) i), nI i) ∧ ∀ j, j < i → ml Z p q j ≤ b2 (8 * p + j)) _ ⟨rfl, fun j hj => by omega⟩ ?_ ?_
  · rintro i _ hi ⟨rfl, hI⟩
    have b1 := hv.le9 (k := 8 * p + i) (by omega)
    have b2' := hv.le9 (k := 8 * q + i) (by omega)
    have b := b2_9 (8 * p + i)
    unfold fL_act_b409
    simp only
    rw [if_neg (show ¬ (8 : Int32) ≤ nI i from lge 8 hi), e8, e8, if_pos (ib_n (by omega) (by omega)), if_pos (ib_n (by omega) (by omega)), if_pos (ib_n (by omega) (by omega)), if_pos (ib_n (by omega) (by omega)), tn (by omega), tn (by omega), hP _ (by omega), hP _ (by omega), nI_add, lim_l p hp i hi, lq_e, nI_1, nI_add]
    by_cases z : ml Z p q i ≤ b2 (8 * p + i)
    · rw [if_pos (nI_le (show Z (8 * p + i) + Z (8 * q + i) ≤ b2 (8 * p + i) from z) (by omega))]
      refine Or.inl ⟨_, rfl, rfl, fun j hj => ?_⟩
      rcases (show j < i ∨ j = i by omega) with y | rfl
      · exact hI j y
      · exact z
    · rw [if_neg (nI_ge (show b2 (8 * p + i) < Z (8 * p + i) + Z (8 * q + i) by unfold ml at z; omega) (by omega))]
      exact Or.inr ⟨_, rfl, Or.inl rfl⟩
  · rintro _ ⟨rfl, hI⟩
    refine ⟨_, ?_, Or.inr ⟨rfl, hI⟩⟩
    unfold fL_act_b409
    exact if_pos (Int32.le_refl _)
theorem mul_l2 {pr : Nat → Int32} {p q : Nat} (hp : p < 3) (hq : q < 3) (hP : PA pr Z) (c : CS) (n fd : Nat → Int32) : ∃ pr', wh (fL_act_b499 (nI p) (nI q) (nI (sm (ml Z p q) 8))) FU ((c, pr, n, fd), (0 : Int32)) = some (c, pr', n, fd) ∧ PA pr' (pz Z p (ml Z p q) 8) := by
  have key : ∃ r, wh (fL_act_b499 (nI p) (nI q) (nI (sm (ml Z p q) 8))) FU ((c, pr, n, fd), (0 : Int32)) = some r ∧ ∃ pr', r = (c, pr', n, fd) ∧ PA pr' (pz Z p (ml Z p q) 8) := by
    refine wh_inv 8 (by omega) (fun i z => ∃ pr', z = ((c, pr', n, fd), nI i) ∧ PA pr' (pz Z p (ml Z p q) i)) _ ⟨pr, rfl, fun k hk => by rw [pz_0]; exact hP k hk⟩ ?_ ?_
    · rintro i _ hi ⟨s, rfl, hs⟩
      refine Or.inl ⟨_, ?_, upd s (8 * p + i) (nI (ml Z p q i)), rfl, ?_⟩
      · unfold fL_act_b499
        simp only
        rw [if_neg (show ¬ (8 : Int32) ≤ nI i from lge 8 hi), e8, e8, if_pos (ib_n (by omega) (by omega)), if_pos (ib_n (by omega) (by omega)), if_pos (ib_n (by omega) (by omega)), tn (by omega), tn (by omega), nI_1]
        show some (Sum.inl ((c, upd s (8 * p + i) (s (8 * p + i) + s (8 * q + i)), n, fd), nI (i + 1))) = _
        rw [hs _ (by omega), hs _ (by omega), show pz Z p (ml Z p q) i (8 * p + i) = Z (8 * p + i) from if_neg (by omega), show pz Z p (ml Z p q) i (8 * q + i) = Z (8 * q + i) from if_neg (by omega), nI_add]
        rfl
      · intro k hk
        rw [pz_s]
        unfold upd
        split
        · rfl
        · exact hs k hk
    · rintro _ ⟨s, rfl, hs⟩
      refine ⟨_, ?_, s, rfl, hs⟩
      unfold fL_act_b499
      exact if_pos (Int32.le_refl _)
  obtain ⟨r, h1, s, rfl, h3⟩ := key
  exact ⟨s, h1, h3⟩
theorem act_mul (hR : RP st) (hV : V2 Z) (hC : CZ (p_c st) Z) (hH : CH (p_c st) Hs) (hP : PA (p_pr st) Z) (hN : NA (p_n st) Z Hs) {p q : Nat} (hp : p < 3) (hq : q < 3) : ∃ st', (bi1 (wh (fL_act_b409 st (nI p) (nI q)) FU ((0 : Int32), (0 : Int32))) fun w85 => Sum.elim (fun w86 => (bi1 (wh (fL_act_b499 (nI p) (nI q) w86) FU (st, (0 : Int32))) fun w83 => (if (6 : Int32) ≤ ((p_n w83) (2 : Int32).toNatClampNeg) then fL_act_j552 w83 (nI p) (nI q) w86 else fL_act_j552 (p_n_s w83 (upd (p_n w83) (2 : Int32).toNatClampNeg (((p_n w83) (2 : Int32).toNatClampNeg) + (1 : Int32)))) (nI p) (nI q) w86))) (fun w87 => some (st, (1 : Int32))) w85) = some (st', 1) ∧ RP st' := by
  obtain ⟨r, r1, r2⟩ := mul_l hp hq hV.v hP
  rw [r1, bi1_s]
  rcases r2 with rfl | ⟨rfl, hf⟩
  · exact ⟨st, rfl, hR⟩
  obtain ⟨pr', w1, w2⟩ := mul_l2 hp hq hP (p_c st) (p_n st) (p_found st)
  obtain ⟨n', e, n0, n1, n2⟩ := bump (fun n' => fL_act_j552 (p_c st, pr', n', p_found st) (nI p) (nI q) (nI (sm (ml Z p q) 8))) Z hN.2.2 hH.2.1
  obtain ⟨g, K, o, n, s, e1, e2, e3⟩ := multiply_ok hC hV.v hH hp hq (fun i hi => Nat.le_trans (hf i hi) (b2_bd _))
  refine ⟨_, ?_, RP_new (c := c_state_s (KS (c_draft_s (p_c st) g) K o n) s) (pr := pr') (n := n') (fd := p_found st) (Z := pz Z p (ml Z p q) 8) (fun k hk => ?_) e3 (CH_cs e2) rfl rfl w2 ⟨n0.trans (hN.1.trans ?_), n1.trans (hN.2.1.trans ?_), n2⟩⟩
  · rw [Sum.elim_inl, show wh (fL_act_b499 (nI p) (nI q) (nI (sm (ml Z p q) 8))) FU (st, (0 : Int32)) = _ from w1, bi1_s]
    refine Eq.trans e ?_
    show fL_act_j552 (p_c st, pr', n', p_found st) (nI p) (nI q) (nI (sm (ml Z p q) 8)) = _
    unfold fL_act_j552
    show (bi2 (nx (f4_multiply (p_c st) (nI p) (nI q))) fun st79 r80 => _) = _
    rw [e1, nx_r, bi2_s, if_pos rfl]
    rfl
  · unfold pz
    split
    · rename_i z
      have := hf (k - 8 * p) (by omega)
      rwa [show 8 * p + (k - 8 * p) = k by omega] at this
    · exact hV k hk
  · rw [pz_hi hp (by omega)]
  · rw [pz_hi hp (by omega)]
theorem act_ok : ∀ st, RP st → ∀ x y, ∃ st', fL_act st x y = some (st', 1) ∧ RP st' := by
  intro st hR x y
  obtain ⟨Z, Hs, hV, hC, hH, hE, hL, hP, hN⟩ := id hR
  obtain ⟨op, o1, o2⟩ := at_ok (x >>> ((20 : Int32) &&& 31)) (n := 12) (by omega) (by omega)
  obtain ⟨p, p1, p2⟩ := at_ok y (n := 3) (by omega) (by omega)
  obtain ⟨q, q1, q2⟩ := at_ok (y >>> ((2 : Int32) &&& 31)) (n := 3) (by omega) (by omega)
  obtain ⟨f, f1, f2⟩ := at_ok (y >>> ((4 : Int32) &&& 31)) (n := 4) (by omega) (by omega)
  unfold fL_act
  rw [show fL_at (x >>> ((20 : Int32) &&& 31)) (12 : Int32) = _ from o2, bi1_s, show fL_at y (3 : Int32) = _ from p2, bi1_s, show fL_at (y >>> ((2 : Int32) &&& 31)) (3 : Int32) = _ from q2, bi1_s, show fL_at (y >>> ((4 : Int32) &&& 31)) (4 : Int32) = _ from f2, bi1_s]
  rcases Nat.lt_or_ge op 4 with a | a
  · rw [if_neg (show ¬ (4 : Int32) ≤ nI op from lge 4 a), e8, if_pos (ib_n (by omega) (by omega)), tn (by omega)]
    obtain ⟨v, v1, v2⟩ : ∃ v, v < 10 ∧ fL_at (y >>> ((6 : Int32) &&& 31)) (if nI p = (2 : Int32) then (10 : Int32) else (4 : Int32)) = some (nI v) := by
      by_cases z : nI p = (2 : Int32)
      · rw [if_pos z]
        obtain ⟨v, v1, v2⟩ := at_ok (y >>> ((6 : Int32) &&& 31)) (n := 10) (by omega) (by omega)
        exact ⟨v, v1, v2⟩
      · rw [if_neg z]
        obtain ⟨v, v1, v2⟩ := at_ok (y >>> ((6 : Int32) &&& 31)) (n := 4) (by omega) (by omega)
        exact ⟨v, by omega, v2⟩
    rw [v2, bi1_s, if_pos (ib_n (by omega) (by omega))]
    exact act_const hV hC hH hP hN p1 f1 v1
  rw [if_pos (show (4 : Int32) ≤ nI op from nI_le (a := 4) a (by omega))]
  rcases Nat.lt_or_ge op 8 with b | b
  · rw [if_neg (show ¬ (8 : Int32) ≤ nI op from lge 8 b)]
    by_cases z : p = 2
    · subst z
      rw [if_pos (show nI 2 = (2 : Int32) from rfl), show (4 : Int32) + nI f = nI (4 + f) from nI_add 4 f, show f4_times (p_c st) (2 : Int32) (nI (4 + f)) = _ from times_ok hC (p := 2) (f := 4 + f) (by omega) (by omega), nx_r, bi2_s, show Z (8 * 2 + (4 + f)) = 0 by
        have := hV (8 * 2 + (4 + f)) (by omega)
        unfold b2 at this
        rw [if_neg (by omega), if_neg (by omega), if_neg (by omega), if_neg (by omega)] at this
        omega, if_pos (show nI 0 = (0 : Int32) from rfl)]
      exact ⟨st, rfl, hR⟩
    · rw [if_neg (show ¬ nI p = (2 : Int32) from fun e => z ((nI_eq (a := p) (b := 2) (by omega) (by omega)).mp e)), show (8 : Int32) * nI p + (4 : Int32) + nI f = nI (8 * p + 4 + f) by rw [show (8 : Int32) * nI p + (4 : Int32) = nI (8 * p + 4) from e8 p 4, nI_add], if_pos (ib_n (by omega) (by omega)), tn (by omega), lq_e]
      obtain ⟨v, v1, v2⟩ := at_ok (y >>> ((6 : Int32) &&& 31)) (n := 3) (by omega) (by omega)
      rw [show fL_at (y >>> ((6 : Int32) &&& 31)) (3 : Int32) = _ from v2, bi1_s, if_pos (ib_n (by omega) (by omega))]
      exact act_var hV hC hH hP hN (by omega) f1 v1
  rw [if_pos (show (8 : Int32) ≤ nI op from nI_le (a := 8) b (by omega))]
  by_cases c8 : op = 8
  · rw [if_pos (show nI op = (8 : Int32) by rw [c8]; rfl)]
    exact act_cancel hV hC hH hP hN p1 q1
  rw [if_neg (show ¬ nI op = (8 : Int32) from fun e => c8 ((nI_eq (a := op) (b := 8) (by omega) (by omega)).mp e))]
  by_cases c9 : op = 9
  · rw [if_pos (show nI op = (9 : Int32) by rw [c9]; rfl)]
    exact act_mul hR hV hC hH hP hN p1 q1
  rw [if_neg (show ¬ nI op = (9 : Int32) from fun e => c9 ((nI_eq (a := op) (b := 9) (by omega) (by omega)).mp e)), show nI op - (10 : Int32) = nI (op - 10) from sb 10 (by omega), if_pos (ib_n (by omega) (by omega)), tn (by omega)]
  by_cases k0 : op = 10
  · subst k0
    rw [if_pos (show nI (10 - 10) = (0 : Int32) from rfl)]
    obtain ⟨v, v1, v2⟩ := at_ok y (n := 2) (by omega) (by omega)
    rw [show fL_at y (2 : Int32) = _ from v2, bi1_s]
    exact act_set hV hC hH hP hN (k := 10 - 10) (by omega) (show v ≤ bd 24 by show v ≤ 1; omega)
  · have k1 : op = 11 := by omega
    subst k1
    rw [if_neg (show ¬ nI (11 - 10) = (0 : Int32) from nI_ne0 (by omega) (by omega))]
    obtain ⟨v, v1, v2⟩ := at_ok y (n := 10) (by omega) (by omega)
    rw [show fL_at y (10 : Int32) = _ from v2, bi1_s]
    exact act_set hV hC hH hP hN (k := 11 - 10) (by omega) (show v ≤ bd 25 by show v ≤ 9; omega)
end AC
