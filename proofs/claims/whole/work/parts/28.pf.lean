/-! The draft, multiply. -/
def csame (st st' : CS) : Prop := c_state st' = c_state st ∧ c_held st' = c_held st ∧ c_oldest st' = c_oldest st ∧ c_kept st' = c_kept st ∧ c_taken st' = c_taken st ∧ c_snaps st' = c_snaps st ∧ c_length st' = c_length st ∧ c_codes st' = c_codes st
section PF
variable {EP LP : CS → (Nat → Nat) → Prop} {st : CS} {ms : MS}
theorem CZ.m {st' : CS} {Z : Nat → Nat} (h : CZ st Z) (e : c_state st' = c_state st) : CZ st' Z := fun k hk => by rw [e]; exact h k hk
theorem Rel.c (hS : Snd EP LP) {st' : CS} (h : Rel EP LP st ms) (e : csame st st') (e1 : esame st st') (e2 : lsame st st') : Rel EP LP st' ms := by
  obtain ⟨Z, Hs, h1, h2, h3, h4, h5, h6, h7, h8, h9, h10⟩ := h
  exact ⟨Z, Hs, h1, h2.m e.1, h3, h4, h5.m e.2.1 e.2.2.1 e.2.2.2.1, h6, h7.m e.2.2.2.2.1 e.2.2.2.2.2.1 rfl rfl, h8.m e.2.2.2.2.2.2.1 e.2.2.2.2.2.2.2 rfl rfl, hS.2.2.1 st _ _ e1 h9, hS.2.2.2 st _ _ e2 h10⟩
theorem Rel.d (hS : Snd EP LP) (h : Rel EP LP st ms) (g : Nat → Int32) : Rel EP LP (c_draft_s st g) ms :=
  h.c hS ⟨rfl, rfl, rfl, rfl, rfl, rfl, rfl, rfl⟩ ⟨rfl, rfl, rfl, rfl, rfl, rfl, rfl, rfl, rfl, rfl⟩ ⟨rfl, rfl, rfl, rfl⟩
def fits (d : Nat → Nat) (p : Nat) : Prop := ∀ i, i < 8 → d i ≤ bd (8 * p + i)
theorem lim_c : ∀ p, p < 3 → ∀ i, i < 8 → (if (4 : Int32) ≤ nI i then (if nI p = (2 : Int32) then (0 : Int32) else (5 : Int32)) else (9 : Int32)) = nI (bd (8 * p + i)) := by decide +kernel
theorem lim_m : ∀ p, p < 3 → ∀ i, i < 8 → f5_limit (nI p) (nI i) = nI (bd (8 * p + i)) := by decide +kernel
theorem draftFits_c {d : Nat → Nat} {p : Nat} (hp : p < 3) (hd : ∀ i, i < 8 → c_draft st i = nI (d i)) (hb : ∀ i, i < 8 → d i < 10000) : (fits d p ∧ f4_draftFits st (nI p) = some 1) ∨ (¬ fits d p ∧ f4_draftFits st (nI p) = some 0) := by
  have key : ∃ r, wh (f4_draftFits_b13 st (if nI p = (2 : Int32) then (0 : Int32) else (5 : Int32))) FU (0 : Int32) = some r ∧ ((fits d p ∧ r = .inl ()) ∨ (¬ fits d p ∧ r = .inr ())) := by
    refine wh_inv 8 (by omega) (fun i z => z = nI i ∧ ∀ j, j < i → d j ≤ bd (8 * p + j)) _ ⟨rfl, fun j hj => by omega⟩ ?_ ?_
    · rintro i _ hi ⟨rfl, h⟩
      have hl := lim_c p hp i hi
      have b := bd9 (8 * p + i)
      unfold f4_draftFits_b13
      rw [if_neg (show ¬ (8 : Int32) ≤ nI i from lge 8 hi), if_pos (ib_n hi (by omega)), tn (by omega), hd i hi, hl]
      by_cases c : d i ≤ bd (8 * p + i)
      · rw [if_pos (nI_le c (by omega))]
        refine Or.inl ⟨_, rfl, nI_1 i, fun j hj => ?_⟩
        rcases (show j < i ∨ j = i by omega) with e | rfl
        · exact h j e
        · exact c
      · rw [if_neg (nI_ge (by omega) (hb i hi |> fun q => by omega))]
        exact Or.inr ⟨_, rfl, Or.inr ⟨fun f => c (f i hi), rfl⟩⟩
    · rintro _ ⟨rfl, h⟩
      unfold f4_draftFits_b13
      exact ⟨_, if_pos (Int32.le_refl _), Or.inl ⟨h, rfl⟩⟩
  obtain ⟨r, h1, ⟨h2, rfl⟩ | ⟨h2, rfl⟩⟩ := key
  · refine Or.inl ⟨h2, ?_⟩
    unfold f4_draftFits
    rw [h1, bi1_s]
    rfl
  · refine Or.inr ⟨h2, ?_⟩
    unfold f4_draftFits
    rw [h1, bi1_s]
    rfl
/-- the first i factors of a product are those of the draft -/
def pz (Z : Nat → Nat) (p : Nat) (d : Nat → Nat) (i : Nat) : Nat → Nat := fun k => if 8 * p ≤ k ∧ k < 8 * p + i then d (k - 8 * p) else Z k
theorem pz_0 {Z d : Nat → Nat} {p : Nat} (k : Nat) : pz Z p d 0 k = Z k := by
  unfold pz
  rw [if_neg (by omega)]
theorem pz_s {Z d : Nat → Nat} {p i k : Nat} : pz Z p d (i + 1) k = if k = 8 * p + i then d i else pz Z p d i k := by
  unfold pz
  by_cases e : k = 8 * p + i
  · subst e
    rw [if_pos (by omega), if_pos rfl, show 8 * p + i - 8 * p = i by omega]
  · rw [if_neg e]
    by_cases a : 8 * p ≤ k ∧ k < 8 * p + i
    · rw [if_pos a, if_pos (by omega)]
    · rw [if_neg a, if_neg (by omega)]
theorem pz_v {Z d : Nat → Nat} {p : Nat} (hZ : VZ Z) (hf : fits d p) : VZ (pz Z p d 8) := by
  intro k hk
  unfold pz
  split
  · rename_i e
    have := hf (k - 8 * p) (by omega)
    rwa [show 8 * p + (k - 8 * p) = k by omega] at this
  · exact hZ k hk
theorem upd_pz {s : Nat → Int32} {Z d : Nat → Nat} {p i : Nat} (h : ∀ k, k < 26 → s k = nI (pz Z p d i k)) {x : Int32} (hx : x = nI (d i)) : ∀ k, k < 26 → upd s (8 * p + i) x k = nI (pz Z p d (i + 1) k) := by
  intro k hk
  rw [pz_s]
  unfold upd
  split
  · exact hx
  · exact h k hk
theorem putDraft_no {d : Nat → Nat} {p : Nat} (hp : p < 3) (hd : ∀ i, i < 8 → c_draft st i = nI (d i)) (hb : ∀ i, i < 8 → d i < 10000) (hf : ¬ fits d p) : f4_putDraft st (nI p) = some (st, .inl 2) := by
  unfold f4_putDraft
  rcases draftFits_c hp hd hb with ⟨a, _⟩ | ⟨_, a⟩
  · exact absurd a hf
  · rw [a, bi1_s]
    rfl
theorem putDraft_ok {Z d : Nat → Nat} {Hs : List (Nat → Nat)} (h : CZ st Z) (hh : CH st Hs) {p : Nat} (hp : p < 3) (hd : ∀ i, i < 8 → c_draft st i = nI (d i)) (hb : ∀ i, i < 8 → d i < 10000) (hf : fits d p) : ∃ K o n s, f4_putDraft st (nI p) = some (c_state_s (KS st K o n) s, .inr (nI (fo (pz Z p d 8) p))) ∧ CH (KS st K o n) (psh Hs Z) ∧ ∀ k, k < 26 → s k = nI (pz Z p d 8 k) := by
  obtain ⟨K, o, n, e1, e2⟩ := keep_c h hh
  have key : ∃ r, wh (f4_putDraft_b25 (nI p)) FU (KS st K o n, (0 : Int32)) = some r ∧ ∃ s, r = c_state_s (KS st K o n) s ∧ ∀ k, k < 26 → s k = nI (pz Z p d 8 k) := by
    refine wh_inv 8 (by omega) (fun i z => ∃ s, z = (c_state_s (KS st K o n) s, nI i) ∧ ∀ k, k < 26 → s k = nI (pz Z p d i k)) _ ⟨c_state st, rfl, fun k hk => by rw [pz_0]; exact h k hk⟩ ?_ ?_
    · rintro i _ hi ⟨s, rfl, hs⟩
      refine Or.inl ⟨_, ?_, upd s (8 * p + i) (nI (d i)), rfl, upd_pz hs rfl⟩
      unfold f4_putDraft_b25
      simp only
      rw [if_neg (show ¬ (8 : Int32) ≤ nI i from lge 8 hi), if_pos (ib_n (by omega) (by omega)), e8', if_pos (ib_n (by omega) (by omega)), tn (by omega), tn (by omega), nI_1]
      show some (Sum.inl (c_state_s (c_state_s (KS st K o n) s) (upd s (8 * p + i) (c_draft st i)), nI (i + 1))) = _
      rw [hd i hi, cs_cs]
    · rintro _ ⟨s, rfl, hs⟩
      refine ⟨_, ?_, s, rfl, hs⟩
      unfold f4_putDraft_b25
      exact if_pos (Int32.le_refl _)
  obtain ⟨r, h1, s, rfl, h2⟩ := key
  refine ⟨K, o, n, s, ?_, e2, h2⟩
  unfold f4_putDraft
  rcases draftFits_c hp hd hb with ⟨_, a⟩ | ⟨a, _⟩
  · rw [a, bi1_s, if_neg (show ¬ (1 : Int32) = 0 by decide +kernel), e1, bi1_s, h1, bi1_s, fo_c (st := c_state_s (KS st K o n) s) h2 hp, bi1_s]
  · exact absurd hf a
/-- what multiply puts into the draft -/
def ml (Z : Nat → Nat) (p q i : Nat) : Nat := Z (8 * p + i) + Z (8 * q + i)
theorem multiply_c {Z : Nat → Nat} {p q : Nat} (hp : p < 3) (hq : q < 3) (h : CZ st Z) : ∃ g, wh (f4_multiply_b12 (nI p) (nI q)) FU (st, (0 : Int32)) = some (c_draft_s st g) ∧ ∀ i, i < 8 → g i = nI (ml Z p q i) := by
  have key : ∃ r, wh (f4_multiply_b12 (nI p) (nI q)) FU (st, (0 : Int32)) = some r ∧ ∃ g, r = c_draft_s st g ∧ ∀ i, i < 8 → g i = nI (ml Z p q i) := by
    refine wh_inv 8 (by omega) (fun i z => ∃ g, z = (c_draft_s st g, nI i) ∧ ∀ j, j < i → g j = nI (ml Z p q j)) _ ⟨c_draft st, rfl, fun j hj => by omega⟩ ?_ ?_
    · rintro i _ hi ⟨g, rfl, hg⟩
      refine Or.inl ⟨_, ?_, upd g i (nI (ml Z p q i)), rfl, ?_⟩
      · unfold f4_multiply_b12
        simp only
        rw [if_neg (show ¬ (8 : Int32) ≤ nI i from lge 8 hi), e8', e8', if_pos (ib_n (by omega) (by omega)), if_pos (ib_n (by omega) (by omega)), if_pos (ib_n (by omega) (by omega)), tn (by omega), tn (by omega), tn (by omega), nI_1]
        show some (Sum.inl (c_draft_s (c_draft_s st g) (upd g i (c_state st (8 * p + i) + c_state st (8 * q + i))), nI (i + 1))) = _
        rw [h _ (by omega), h _ (by omega), nI_add]
        rfl
      · intro j hj
        unfold upd
        split
        · rename_i e
          rw [e]
        · exact hg j (by omega)
    · rintro _ ⟨g, rfl, hg⟩
      refine ⟨_, ?_, g, rfl, hg⟩
      unfold f4_multiply_b12
      exact if_pos (Int32.le_refl _)
  obtain ⟨r, h1, g, rfl, h2⟩ := key
  exact ⟨g, h1, h2⟩
theorem canMultiply_m {Z : Nat → Nat} {p q : Nat} (hp : p < 3) (hq : q < 3) (hv : VZ Z) (h : MZ ms Z) : (fits (ml Z p q) p ∧ f5_canMultiply ms (nI p) (nI q) = some 1) ∨ (¬ fits (ml Z p q) p ∧ f5_canMultiply ms (nI p) (nI q) = some 0) := by
  have key : ∃ r, wh (f5_canMultiply_b5 ms (nI p) (nI q)) FU ((1 : Int32), (0 : Int32)) = some r ∧ ((fits (ml Z p q) p ∧ r = 1) ∨ (¬ fits (ml Z p q) p ∧ r = 0)) := by
    refine wh_inv 8 (by omega) (fun i z => (z = ((1 : Int32), nI i) ∧ ∀ j, j < i → ml Z p q j ≤ bd (8 * p + j)) ∨ (z = ((0 : Int32), nI i) ∧ ¬ fits (ml Z p q) p)) _ (Or.inl ⟨rfl, fun j hj => by omega⟩) ?_ ?_
    · rintro i z hi hI
      refine Or.inl ?_
      rcases hI with ⟨rfl, hI⟩ | ⟨rfl, hI⟩
      · have b1 := hv.le9 (k := 8 * p + i) (by omega)
        have b2 := hv.le9 (k := 8 * q + i) (by omega)
        have b := bd9 (8 * p + i)
        unfold f5_canMultiply_b5
        simp only
        rw [if_neg (show ¬ (8 : Int32) ≤ nI i from lge 8 hi), if_neg (show ¬ (1 : Int32) = 0 by decide +kernel), of_ok h (by omega), bi1_s, of_ok h (by omega), bi1_s, lq_e, lim_m p hp i hi, nI_add, nI_1]
        by_cases c : ml Z p q i ≤ bd (8 * p + i)
        · unfold ml at c
          rw [if_neg (nI_nlt c (by omega))]
          refine ⟨_, rfl, Or.inl ⟨rfl, fun j hj => ?_⟩⟩
          rcases (show j < i ∨ j = i by omega) with e | rfl
          · exact hI j e
          · exact c
        · rw [if_pos (nI_lt (show bd (8 * p + i) < Z (8 * p + i) + Z (8 * q + i) by unfold ml at c; omega) (by omega))]
          exact ⟨_, rfl, Or.inr ⟨rfl, fun f => c (f i hi)⟩⟩
      · unfold f5_canMultiply_b5
        simp only
        rw [if_neg (show ¬ (8 : Int32) ≤ nI i from lge 8 hi), if_pos True.intro, nI_1]
        exact ⟨_, rfl, Or.inr ⟨rfl, hI⟩⟩
    · rintro z (⟨rfl, hI⟩ | ⟨rfl, hI⟩)
      · unfold f5_canMultiply_b5
        exact ⟨_, if_pos (Int32.le_refl _), Or.inl ⟨hI, rfl⟩⟩
      · unfold f5_canMultiply_b5
        exact ⟨_, if_pos (Int32.le_refl _), Or.inr ⟨hI, rfl⟩⟩
  obtain ⟨r, h1, ⟨h2, rfl⟩ | ⟨h2, rfl⟩⟩ := key
  · refine Or.inl ⟨h2, ?_⟩
    unfold f5_canMultiply
    rw [h1, bi1_s]
    rfl
  · refine Or.inr ⟨h2, ?_⟩
    unfold f5_canMultiply
    rw [h1, bi1_s]
    rfl
theorem multiply_m {Z : Nat → Nat} {p q : Nat} (hp : p < 3) (hq : q < 3) (h : MZ ms Z) : ∃ s, wh (f5_multiply_b51 (nI p) (nI q)) FU (ms, (0 : Int32)) = some (m_z_s ms s) ∧ ∀ k, k < 26 → s k = nI (pz Z p (ml Z p q) 8 k) := by
  have key : ∃ r, wh (f5_multiply_b51 (nI p) (nI q)) FU (ms, (0 : Int32)) = some r ∧ ∃ s, r = m_z_s ms s ∧ ∀ k, k < 26 → s k = nI (pz Z p (ml Z p q) 8 k) := by
    refine wh_inv 8 (by omega) (fun i z => ∃ s, z = (m_z_s ms s, nI i) ∧ ∀ k, k < 26 → s k = nI (pz Z p (ml Z p q) i k)) _ ⟨m_z ms, rfl, fun k hk => by rw [pz_0]; exact h k hk⟩ ?_ ?_
    · rintro i _ hi ⟨s, rfl, hs⟩
      refine Or.inl ⟨_, ?_, upd s (8 * p + i) (nI (ml Z p q i)), rfl, upd_pz hs rfl⟩
      have hM : MZ (m_z_s ms s) (pz Z p (ml Z p q) i) := hs
      unfold f5_multiply_b51
      simp only
      rw [if_neg (show ¬ (8 : Int32) ≤ nI i from lge 8 hi), e8, if_pos (ib_n (by omega) (by omega)), of_ok hM (by omega), bi1_s, if_pos (ib_n (by omega) (by omega)), tn (by omega), nI_1]
      show some (Sum.inl (m_z_s (m_z_s ms s) (upd s (8 * p + i) (s (8 * p + i) + nI (pz Z p (ml Z p q) i (8 * q + i)))), nI (i + 1))) = _
      rw [hs _ (by omega), show pz Z p (ml Z p q) i (8 * p + i) = Z (8 * p + i) from if_neg (by omega), show pz Z p (ml Z p q) i (8 * q + i) = Z (8 * q + i) from if_neg (by omega), nI_add, zs_zs]
      rfl
    · rintro _ ⟨s, rfl, hs⟩
      refine ⟨_, ?_, s, rfl, hs⟩
      unfold f5_multiply_b51
      exact if_pos (Int32.le_refl _)
  obtain ⟨r, h1, s, rfl, h2⟩ := key
  exact ⟨s, h1, h2⟩
theorem s2 (hS : Snd EP LP) : St2 (Rel EP LP) := by
  intro st ms hR x0 x1
  rcases ar x0 3 (by omega) with ⟨p, hp, rfl⟩ | h0
  · rcases ar x1 3 (by omega) with ⟨q, hq, rfl⟩ | h1
    · obtain ⟨Z, Hs, a1, a2, a3, a4, a5, a6, a7, a8, a9, a10⟩ := id hR
      obtain ⟨g, g1, g2⟩ := multiply_c hp hq a2
      have hb : ∀ i, i < 8 → ml Z p q i < 10000 := fun i hi => by
        have b1 := a1.le9 (k := 8 * p + i) (by omega)
        have b2 := a1.le9 (k := 8 * q + i) (by omega)
        unfold ml
        omega
      have hc : f4_multiply st (nI p) (nI q) = bt2 (f4_putDraft (c_draft_s st g) (nI p)) fun st19 r20 => some (st19, .inr r20) := by
        unfold f4_multiply
        rw [show f4_needIndex (nI p) 3 = _ from ni_in 3 hp, bt0_r, show f4_needIndex (nI q) 3 = _ from ni_in 3 hq, bt0_r, g1, bi1_s]
      rcases canMultiply_m hp hq a1 a3 with ⟨hf, m1⟩ | ⟨hf, m1⟩
      · obtain ⟨K, o, n, s, e1, e2, e3⟩ := putDraft_ok (st := c_draft_s st g) (d := ml Z p q) (Z := Z) (Hs := Hs) a2 (a5.m rfl rfl rfl) hp g2 hb hf
        obtain ⟨f, n', e4, e5⟩ := save_m (ms := m_thrown_s ms 0) (Z := Z) (Hs := Hs) a3 (MH_ts a6) a5.2.1
        obtain ⟨s', e6, e7⟩ := multiply_m (ms := SV (m_thrown_s ms 0) f n') hp hq a3
        refine ⟨_, .inr (nI (fo (pz Z p (ml Z p q) 8) p)), _, nI (fo (pz Z p (ml Z p q) 8) p), 0, hc.trans (by rw [e1, bt2_r]), ?_, rfl, ?_, fun _ q => by cases q; rfl, ok_new hS (Z := pz Z p (ml Z p q) 8) (pz_v a1 hf) (st' := c_state_s (KS (c_draft_s st g) K o n) s) (ms' := m_z_s (SV (m_thrown_s ms 0) f n') s') e3 e7 (psh_all a4 a1) (CH_cs e2) (MH_zs e5) (a7.m rfl rfl rfl rfl) (a8.m rfl rfl rfl rfl) rfl rfl⟩
        · show f5_multiply _ _ _ = _
          unfold f5_multiply
          rw [isP_in hp, isP_in hq, m1]
          show f5_multiply_j33 ms (nI p) (nI q) 0 = _
          unfold f5_multiply_j33
          rw [if_pos (Int32.le_refl _), e4, bi1_s, e6, bi1_s, fo_m (ms := m_z_s (SV (m_thrown_s ms 0) f n') s') e7 hp, bi1_s]
        · rfl
      · refine ⟨c_draft_s st g, .inl 2, m_thrown_s ms 2, 0, 2, hc.trans (by rw [putDraft_no (st := c_draft_s st g) hp g2 hb hf, bt2_l]), ?_, rfl, rfl, fun _ q => (nomatch q), (hR.d hS g).t 2⟩
        show f5_multiply _ _ _ = _
        unfold f5_multiply
        rw [isP_in hp, isP_in hq, m1]
        rfl
    · refine ok_ref (e := 0) (v := 1) ?_ ?_ rfl hR
      · show f4_multiply _ _ _ = _
        unfold f4_multiply
        rw [show f4_needIndex (nI p) 3 = _ from ni_in 3 hp, bt0_r, show f4_needIndex x1 3 = _ from ni_out 3 h1, bt0_l]
      · show f5_multiply _ _ _ = _
        unfold f5_multiply
        rw [isP_in hp, isP_out h1]
        rfl
  · refine ok_ref (e := 0) (v := 1) ?_ ?_ rfl hR
    · show f4_multiply _ _ _ = _
      unfold f4_multiply
      rw [show f4_needIndex x0 3 = _ from ni_out 3 h0, bt0_l]
    · show f5_multiply _ _ _ = _
      unfold f5_multiply
      rw [isP_out h0]
      rfl
end PF
