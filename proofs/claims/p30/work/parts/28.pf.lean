/-! (of the class alone) -/
def csame (st st' : CS) : Prop := c_state st' = c_state st ∧ c_held st' = c_held st ∧ c_oldest st' = c_oldest st ∧ c_kept st' = c_kept st ∧ c_taken st' = c_taken st ∧ c_snaps st' = c_snaps st ∧ c_length st' = c_length st ∧ c_codes st' = c_codes st
section PF
variable {EP LP : CS → (Nat → Nat) → Prop} {st : CS}
theorem CZ.m {st' : CS} {Z : Nat → Nat} (h : CZ st Z) (e : c_state st' = c_state st) : CZ st' Z := fun k hk => by rw [e]; exact h k hk
def fits (d : Nat → Nat) (p : Nat) : Prop := ∀ i, i < 8 → d i ≤ bd (8 * p + i)
theorem lim_c : ∀ p, p < 3 → ∀ i, i < 8 → (if (4 : Int32) ≤ nI i then (if nI p = (2 : Int32) then (0 : Int32) else (5 : Int32)) else (9 : Int32)) = nI (bd (8 * p + i)) := by decide +kernel
theorem draftFits_c {d : Nat → Nat} {p : Nat} (hp : p < 3) (hd : ∀ i, i < 8 → c_draft st i = nI (d i)) (hb : ∀ i, i < 8 → d i < 10000) : (fits d p ∧ f4_draftFits st (nI p) = some 1) ∨ (¬ fits d p ∧ f4_draftFits st (nI p) = some 0) := by
  have key : ∃ r, wh (f4_draftFits_b13 st (if nI p = (2 : Int32) then (0 : Int32) else (5 : Int32))) FU (0 : Int32) = some r ∧ ((fits d p ∧ r = .inl ()) ∨ (¬ fits d p ∧ r = .inr ())) := by
    refine wh_inv 8 (by omega) (fun i z => z = nI i ∧ ∀ j, j < i → d j ≤ bd (8 * p + j)) _ ⟨rfl, fun j hj => by omega⟩ ?_ ?_
    · rintro i _ hi ⟨rfl, h⟩
      have hl := lim_c p hp i hi
      have b := bd9 (8 * p + i)
      unfold f4_draftFits_b13
      rw [if_neg (show ¬ (8 : Int32) ≤ nI i from lge 8 hi), if_pos (ib_n hi (by omega)), tn (by omega), hd i hi, hl]
      by_cases c : d i ≤ bd (8 * p + i)
      · rw [if_pos (nI_le c (by omega))]
        refine Or.inl ⟨_, rfl, nI_1 i, fun j hj => ?_⟩
        rcases (show j < i ∨ j = i by omega) with e | rfl
        · exact h j e
        · exact c
      · rw [if_neg (nI_ge (by omega) (hb i hi |> fun q => by omega))]
        exact Or.inr ⟨_, rfl, Or.inr ⟨fun f => c (f i hi), rfl⟩⟩
    · rintro _ ⟨rfl, h⟩
      unfold f4_draftFits_b13
      exact ⟨_, if_pos (Int32.le_refl _), Or.inl ⟨h, rfl⟩⟩
  obtain ⟨r, h1, ⟨h2, rfl⟩ | ⟨h2, rfl⟩⟩ := key
  · refine Or.inl ⟨h2, ?_⟩
    unfold f4_draftFits
    rw [h1, bi1_s]
    rfl
  · refine Or.inr ⟨h2, ?_⟩
    unfold f4_draftFits
    rw [h1, bi1_s]
    rfl
/-- the first i factors of a product are those of the draft -/
def pz (Z : Nat → Nat) (p : Nat) (d : Nat → Nat) (i : Nat) : Nat → Nat := fun k => if 8 * p ≤ k ∧ k < 8 * p + i then d (k - 8 * p) else Z k
theorem pz_0 {Z d : Nat → Nat} {p : Nat} (k : Nat) : pz Z p d 0 k = Z k := by
  unfold pz
  rw [if_neg (by omega)]
theorem pz_s {Z d : Nat → Nat} {p i k : Nat} : pz Z p d (i + 1) k = if k = 8 * p + i then d i else pz Z p d i k := by
  unfold pz
  by_cases e : k = 8 * p + i
  · subst e
    rw [if_pos (by omega), if_pos rfl, show 8 * p + i - 8 * p = i by omega]
  · rw [if_neg e]
    by_cases a : 8 * p ≤ k ∧ k < 8 * p + i
    · rw [if_pos a, if_pos (by omega)]
    · rw [if_neg a, if_neg (by omega)]
theorem pz_v {Z d : Nat → Nat} {p : Nat} (hZ : VZ Z) (hf : fits d p) : VZ (pz Z p d 8) := by
  intro k hk
  unfold pz
  split
  · rename_i e
    have := hf (k - 8 * p) (by omega)
    rwa [show 8 * p + (k - 8 * p) = k by omega] at this
  · exact hZ k hk
theorem upd_pz {s : Nat → Int32} {Z d : Nat → Nat} {p i : Nat} (h : ∀ k, k < 26 → s k = nI (pz Z p d i k)) {x : Int32} (hx : x = nI (d i)) : ∀ k, k < 26 → upd s (8 * p + i) x k = nI (pz Z p d (i + 1) k) := by
  intro k hk
  rw [pz_s]
  unfold upd
  split
  · exact hx
  · exact h k hk
theorem putDraft_ok {Z d : Nat → Nat} {Hs : List (Nat → Nat)} (h : CZ st Z) (hh : CH st Hs) {p : Nat} (hp : p < 3) (hd : ∀ i, i < 8 → c_draft st i = nI (d i)) (hb : ∀ i, i < 8 → d i < 10000) (hf : fits d p) : ∃ K o n s, f4_putDraft st (nI p) = some (c_state_s (KS st K o n) s, .inr (nI (fo (pz Z p d 8) p))) ∧ CH (KS st K o n) (psh Hs Z) ∧ ∀ k, k < 26 → s k = nI (pz Z p d 8 k) := by
  obtain ⟨K, o, n, e1, e2⟩ := keep_c h hh
  have key : ∃ r, wh (f4_putDraft_b25 (nI p)) FU (KS st K o n, (0 : Int32)) = some r ∧ ∃ s, r = c_state_s (KS st K o n) s ∧ ∀ k, k < 26 → s k = nI (pz Z p d 8 k) := by
    refine wh_inv 8 (by omega) (fun i z => ∃ s, z = (c_state_s (KS st K o n) s, nI i) ∧ ∀ k, k < 26 → s k = nI (pz Z p d i k)) _ ⟨c_state st, rfl, fun k hk => by rw [pz_0]; exact h k hk⟩ ?_ ?_
    · rintro i _ hi ⟨s, rfl, hs⟩
      refine Or.inl ⟨_, ?_, upd s (8 * p + i) (nI (d i)), rfl, upd_pz hs rfl⟩
      unfold f4_putDraft_b25
      simp only
      rw [if_neg (show ¬ (8 : Int32) ≤ nI i from lge 8 hi), if_pos (ib_n (by omega) (by omega)), e8', if_pos (ib_n (by omega) (by omega)), tn (by omega), tn (by omega), nI_1]
      show some (Sum.inl (c_state_s (c_state_s (KS st K o n) s) (upd s (8 * p + i) (c_draft st i)), nI (i + 1))) = _
      rw [hd i hi, cs_cs]
    · rintro _ ⟨s, rfl, hs⟩
      refine ⟨_, ?_, s, rfl, hs⟩
      unfold f4_putDraft_b25
      exact if_pos (Int32.le_refl _)
  obtain ⟨r, h1, s, rfl, h2⟩ := key
  refine ⟨K, o, n, s, ?_, e2, h2⟩
  unfold f4_putDraft
  rcases draftFits_c hp hd hb with ⟨_, a⟩ | ⟨a, _⟩
  · rw [a, bi1_s, if_neg (show ¬ (1 : Int32) = 0 by decide +kernel), e1, bi1_s, h1, bi1_s, fo_c (st := c_state_s (KS st K o n) s) h2 hp, bi1_s]
  · exact absurd hf a
/-- what multiply puts into the draft -/
def ml (Z : Nat → Nat) (p q i : Nat) : Nat := Z (8 * p + i) + Z (8 * q + i)
theorem multiply_c {Z : Nat → Nat} {p q : Nat} (hp : p < 3) (hq : q < 3) (h : CZ st Z) : ∃ g, wh (f4_multiply_b12 (nI p) (nI q)) FU (st, (0 : Int32)) = some (c_draft_s st g) ∧ ∀ i, i < 8 → g i = nI (ml Z p q i) := by
  have key : ∃ r, wh (f4_multiply_b12 (nI p) (nI q)) FU (st, (0 : Int32)) = some r ∧ ∃ g, r = c_draft_s st g ∧ ∀ i, i < 8 → g i = nI (ml Z p q i) := by
    refine wh_inv 8 (by omega) (fun i z => ∃ g, z = (c_draft_s st g, nI i) ∧ ∀ j, j < i → g j = nI (ml Z p q j)) _ ⟨c_draft st, rfl, fun j hj => by omega⟩ ?_ ?_
    · rintro i _ hi ⟨g, rfl, hg⟩
      refine Or.inl ⟨_, ?_, upd g i (nI (ml Z p q i)), rfl, ?_⟩
      · unfold f4_multiply_b12
        simp only
        rw [if_neg (show ¬ (8 : Int32) ≤ nI i from lge 8 hi), e8', e8', if_pos (ib_n (by omega) (by omega)), if_pos (ib_n (by omega) (by omega)), if_pos (ib_n (by omega) (by omega)), tn (by omega), tn (by omega), tn (by omega), nI_1]
        show some (Sum.inl (c_draft_s (c_draft_s st g) (upd g i (c_state st (8 * p + i) + c_state st (8 * q + i))), nI (i + 1))) = _
        rw [h _ (by omega), h _ (by omega), nI_add]
        rfl
      · intro j hj
        unfold upd
        split
        · rename_i e
          rw [e]
        · exact hg j (by omega)
    · rintro _ ⟨g, rfl, hg⟩
      refine ⟨_, ?_, g, rfl, hg⟩
      unfold f4_multiply_b12
      exact if_pos (Int32.le_refl _)
  obtain ⟨r, h1, g, rfl, h2⟩ := key
  exact ⟨g, h1, h2⟩
end PF
