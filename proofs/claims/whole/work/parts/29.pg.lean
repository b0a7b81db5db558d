/-! The buffer: append, clearBuffer, firstError, read. -/
def fa (a : Nat) : Nat := if 97 ≤ a ∧ a ≤ 100 then a - 97 else if 119 ≤ a ∧ a ≤ 122 then a - 115 else 8
def isT (a : Nat) : Bool := decide (50 ≤ a) && decide (a ≤ 57)
def nxt (s a : Nat) : Nat := if fa a < 8 then (if s = 1 then 4 else 2) else if a = 49 then (if s = 0 then 1 else 4) else if isT a = true then (if s = 2 then 3 else 4) else 4
theorem fa_c : ∀ a, a < 127 → f3_factorOf (nI a) = if fa a < 8 then nI (fa a) else -1 := by decide +kernel
theorem fa_m : ∀ a, a < 127 → f5_factorFor (nI a) = if fa a < 8 then nI (fa a) else -1 := by decide +kernel
theorem isT_c : ∀ a, a < 127 → f3_isTimes (nI a) = if isT a = true then 1 else 0 := by decide +kernel
theorem isT_m : ∀ a, a < 127 → f5_within (nI a) 50 57 = if isT a = true then 1 else 0 := by decide +kernel
theorem nxt_c : ∀ a, a < 127 → ∀ s, s < 4 → f3_next (nI s) (nI a) = nI (nxt s a) := by decide +kernel
theorem fa_T {a : Nat} (h : fa a < 8) : isT a = false := by
  unfold fa at h
  unfold isT
  split at h
  · simp; omega
  · split at h
    · simp; omega
    · omega
theorem fa_ne1 : ∀ f, f < 8 → ¬ nI f = (-1 : Int32) := by decide +kernel
theorem fa_le (a : Nat) : fa a ≤ 8 := by
  unfold fa
  repeat' split
  all_goals omega
theorem isT_le {a : Nat} (h : isT a = true) : 50 ≤ a ∧ a ≤ 57 := by
  unfold isT at h
  simp at h
  exact h
theorem nxt_lt (s a : Nat) : nxt s a < 5 := by
  unfold nxt
  repeat' split
  all_goals omega
def sc (tx : Nat → Nat) : Nat → Nat
  | 0 => 0
  | i + 1 => if sc tx i = 4 then 4 else nxt (sc tx i) (tx i)
theorem sc_lt (tx : Nat → Nat) : ∀ i, sc tx i < 5
  | 0 => by simp [sc]
  | i + 1 => by
    rw [sc]
    split
    · omega
    · exact nxt_lt _ _
theorem sc_s {tx : Nat → Nat} {i : Nat} (h : ¬ sc tx i = 4) : sc tx (i + 1) = nxt (sc tx i) (tx i) := by rw [sc, if_neg h]
theorem sc_4 {tx : Nat → Nat} {i : Nat} (h : sc tx i = 4) : ∀ j, i ≤ j → sc tx j = 4 := by
  intro j hj
  induction j with
  | zero => rw [show i = 0 by omega] at h; exact h
  | succ j ih =>
    by_cases e : i = j + 1
    · rw [← e]; exact h
    · rw [sc, if_pos (ih (by omega))]
def EPl (tx : Nat → Nat) (n e : Nat) : Prop := e ≤ n ∧ ¬ sc tx e = 4 ∧ (e < n → sc tx (e + 1) = 4)
theorem EPl_u {tx : Nat → Nat} {n e e' : Nat} (h : EPl tx n e) (h' : EPl tx n e') : e = e' := by
  rcases Nat.lt_or_ge e e' with q | q
  · exact absurd (sc_4 (h.2.2 (by have := h'.1; omega)) e' q) h'.2.1
  · rcases Nat.lt_or_ge e' e with r | r
    · exact absurd (sc_4 (h'.2.2 (by have := h.1; omega)) e r) h.2.1
    · omega
def rt (tx : Nat → Nat) : Nat → Nat → Nat
  | 0, _ => 0
  | i + 1, f => rt tx i f + if fa (tx i) = f then 1 else if 0 < i ∧ fa (tx (i - 1)) = f ∧ isT (tx i) = true then tx i - 49 else 0
theorem rt_le (tx : Nat → Nat) (f : Nat) : ∀ i, rt tx i f ≤ 8 * i
  | 0 => by simp [rt]
  | i + 1 => by
    have h := rt_le tx f i
    rw [rt]
    split
    · omega
    · split
      · rename_i q
        have := isT_le q.2.2
        omega
      · omega
/-- the buffer's text -/
def TC (st : CS) (n : Nat) (tx : Nat → Nat) : Prop := c_length st = nI n ∧ ∀ i, i < n → c_codes st i = nI (tx i)
def TM (ms : MS) (n : Nat) (tx : Nat → Nat) : Prop := m_length ms = nI n ∧ ∀ i, i < n → m_text ms i = nI (tx i)
theorem TX_of {st : CS} {ms : MS} (h : TX st ms) : ∃ n tx, n ≤ 60 ∧ (∀ i, i < n → 33 ≤ tx i ∧ tx i < 127) ∧ TC st n tx ∧ TM ms n tx := by
  obtain ⟨n, h1, h2, h3, h4⟩ := h
  have key : ∀ i, i < n → 33 ≤ (c_codes st i).toNatClampNeg ∧ (c_codes st i).toNatClampNeg < 127 ∧ c_codes st i = nI (c_codes st i).toNatClampNeg ∧ m_text ms i = nI (c_codes st i).toNatClampNeg := by
    intro i hi
    obtain ⟨a, b1, b2, b3, b4⟩ := h4 i hi
    rw [b3, tn (by omega)]
    exact ⟨b1, by omega, rfl, b4⟩
  exact ⟨n, fun i => (c_codes st i).toNatClampNeg, h1, fun i hi => ⟨(key i hi).1, (key i hi).2.1⟩, ⟨h2, fun i hi => (key i hi).2.2.1⟩, h3, fun i hi => (key i hi).2.2.2⟩
section PG
variable {EP LP : CS → (Nat → Nat) → Prop} {st : CS} {ms : MS}
theorem ch_in (x : Int32) : (x < 33 ∨ 126 < x) ∨ ∃ a, 33 ≤ a ∧ a ≤ 126 ∧ x = nI a := by
  rcases ar x 127 (by omega) with ⟨k, hk, rfl⟩ | h | h
  · rcases Nat.lt_or_ge k 33 with q | q
    · exact Or.inl (Or.inl (show nI k < nI 33 from nI_lt q (by omega)))
    · exact Or.inr ⟨k, q, by omega, rfl⟩
  · refine Or.inl (Or.inl ?_)
    rw [Int32.lt_iff_toInt_lt] at h ⊢
    rw [show (0 : Int32).toInt = 0 from rfl] at h
    rw [show (33 : Int32).toInt = 33 from rfl]
    omega
  · exact Or.inl (Or.inr (lt_succ_of (n := 126) (by omega) h))
theorem s6 (hS : Snd EP LP) : St6 (Rel EP LP) := by
  intro st ms hR x0
  rcases ch_in x0 with h | ⟨a, ha, hb, rfl⟩
  · refine ok_ref (e := 1) (v := 1) ?_ ?_ rfl hR
    · show f4_append _ _ = _
      unfold f4_append f4_needNumber
      rcases h with h | h
      · rw [if_pos h, bt0_l]
      · by_cases q : x0 < 33
        · rw [if_pos q, bt0_l]
        · rw [if_neg q, if_neg (Int32.not_le.mpr h), bt0_l]
    · show f5_append _ _ = _
      have : f5_within x0 33 126 = 0 := by
        unfold f5_within
        rcases h with h | h
        · rw [if_pos h]
        · by_cases q : x0 < 33
          · rw [if_pos q]
          · rw [if_neg q, if_pos h]
      unfold f5_append
      rw [this]
      rfl
  · obtain ⟨Z, Hs, a1, a2, a3, a4, a5, a6, a7, a8, a9, a10⟩ := id hR
    obtain ⟨n, t1, t2, t3, t4⟩ := a8
    have e1 : f4_needNumber (nI a) 33 126 = .inr () := by
      unfold f4_needNumber
      rw [if_neg (show ¬ nI a < (33 : Int32) from nI_nlt ha (by omega)), if_pos (show nI a ≤ (126 : Int32) from nI_le (b := 126) hb (by omega))]
    have e2 : f5_within (nI a) 33 126 = 1 := by
      unfold f5_within
      rw [if_neg (show ¬ nI a < (33 : Int32) from nI_nlt ha (by omega)), if_neg (show ¬ (126 : Int32) < nI a from nI_nlt (a := 126) hb (by omega))]
    by_cases q : n = 60
    · subst q
      refine ok_ref (e := 2) (v := 2) ?_ ?_ rfl hR
      · show f4_append _ _ = _
        unfold f4_append f3_isFull
        rw [e1, bt0_r, t2]
        rfl
      · show f5_append _ _ = _
        unfold f5_append
        rw [e2, t3]
        rfl
    · refine ⟨c_length_s (c_codes_s st (upd (c_codes st) n (nI a))) (nI (n + 1)), .inr (nI (n + 1)), m_length_s (m_text_s (m_thrown_s ms 0) (upd (m_text ms) n (nI a))) (nI (n + 1)), nI (n + 1), 0, ?_, ?_, rfl, rfl, fun _ q => by cases q; rfl, Z, Hs, a1, a2, a3, a4, a5.m rfl rfl rfl, a6.m rfl rfl, a7.m rfl rfl rfl rfl, ⟨n + 1, by omega, rfl, rfl, ?_⟩, hS.2.2.1 st _ _ ⟨rfl, rfl, rfl, rfl, rfl, rfl, rfl, rfl, rfl, rfl⟩ a9, hS.2.2.2 st _ _ ⟨rfl, rfl, rfl, rfl⟩ a10⟩
      · show f4_append _ _ = _
        unfold f4_append f3_isFull f3_put f3_size
        rw [e1, bt0_r, t2, if_pos (show nI n < (60 : Int32) from nI_lt (b := 60) (by omega) (by omega)), if_pos rfl, if_neg (show ¬ (60 : Int32) ≤ nI n from lge 60 (by omega)), if_pos (ib_n (by omega) (by omega)), bi1_s, tn (by omega), nI_1]
        rfl
      · show f5_append _ _ = _
        unfold f5_append
        rw [e2, t3, if_neg (show ¬ (1 : Int32) = 0 by decide +kernel), if_neg (show ¬ nI n = (60 : Int32) from fun e => q ((nI_eq (by omega) (by omega)).mp (show nI n = nI 60 from e)))]
        unfold f5_append_j30
        rw [if_pos (Int32.le_refl _), t3, if_pos (ib_n (by omega) (by omega)), tn (by omega), nI_1]
      · intro i hi
        by_cases c : i = n
        · subst c
          exact ⟨a, ha, hb, pk_us, pk_us⟩
        · obtain ⟨b, b1, b2, b3, b4⟩ := t4 i (by omega)
          exact ⟨b, b1, b2, (pk_un c).trans b3, (pk_un c).trans b4⟩
theorem s7 (hS : Snd EP LP) : St7 (Rel EP LP) := by
  intro st ms hR
  obtain ⟨Z, Hs, a1, a2, a3, a4, a5, a6, a7, a8, a9, a10⟩ := id hR
  obtain ⟨n, t1, t2, t3, t4⟩ := a8
  refine ⟨?_, Z, Hs, a1, a2, a3, a4, a5.m rfl rfl rfl, a6.m rfl rfl, a7.m rfl rfl rfl rfl, ⟨0, by omega, rfl, rfl, fun i hi => by omega⟩, hS.2.2.1 st _ _ ⟨rfl, rfl, rfl, rfl, rfl, rfl, rfl, rfl, rfl, rfl⟩ a9, hS.2.2.2 st _ _ ⟨rfl, rfl, rfl, rfl⟩ a10⟩
  show c_length st = m_length ms
  rw [t2, t3]
theorem codeAt_in {n : Nat} {tx : Nat → Nat} (h : TC st n tx) (hn : n ≤ 60) {i : Nat} (hi : i < n) : f3_codeAt st (nI i) = some (nI (tx i)) := by
  unfold f3_codeAt
  rw [if_neg (nI_pos (by omega)), h.1, if_neg (nI_ge hi (by omega)), if_pos (ib_n (by omega) (by omega)), tn (by omega), h.2 i hi]
theorem codeAt_out {n : Nat} {tx : Nat → Nat} (h : TC st n tx) {i : Nat} (hi : n ≤ i) (hi2 : i < 10000) : f3_codeAt st (nI i) = some (-1) := by
  unfold f3_codeAt
  rw [if_neg (nI_pos (by omega)), h.1, if_pos (nI_le hi (by omega))]
theorem errorPlace_c {n : Nat} {tx : Nat → Nat} (h : TC st n tx) (hn : n ≤ 60) (ht : ∀ i, i < n → 33 ≤ tx i ∧ tx i < 127) : ∃ e, EPl tx n e ∧ f3_errorPlace st = some (nI e) := by
  have key : ∃ r, wh (f3_errorPlace_b4 st) FU ((0 : Int32), (0 : Int32)) = some r ∧ ((EPl tx n n ∧ r = .inl ()) ∨ ∃ e, EPl tx n e ∧ r = .inr (nI e)) := by
    refine wh_inv n (by omega) (fun i z => z = (nI (sc tx i), nI i) ∧ ¬ sc tx i = 4) _ ⟨rfl, by simp [sc]⟩ ?_ ?_
    · rintro i _ hi ⟨rfl, hs⟩
      have hl := sc_lt tx i
      have hl2 := nxt_lt (sc tx i) (tx i)
      unfold f3_errorPlace_b4
      simp only
      rw [h.1, if_neg (nI_ge hi (by omega)), codeAt_in h hn hi, bi1_s, nxt_c _ (ht i hi).2 _ (by omega)]
      by_cases c : nxt (sc tx i) (tx i) = 4
      · rw [c, if_pos (show nI 4 = (4 : Int32) from rfl)]
        exact Or.inr ⟨_, rfl, Or.inr ⟨i, ⟨by omega, hs, fun _ => (sc_s hs).trans c⟩, rfl⟩⟩
      · rw [if_neg (show ¬ nI (nxt (sc tx i) (tx i)) = (4 : Int32) from fun e => c ((nI_eq (by omega) (by omega)).mp (show _ = nI 4 from e))), nI_1]
        refine Or.inl ⟨_, rfl, ?_, ?_⟩
        · rw [sc_s hs]
        · rw [sc_s hs]
          exact c
    · rintro _ ⟨rfl, hs⟩
      unfold f3_errorPlace_b4
      rw [h.1]
      exact ⟨_, if_pos (Int32.le_refl _), Or.inl ⟨⟨by omega, hs, fun q => by omega⟩, rfl⟩⟩
  obtain ⟨r, h1, ⟨h2, rfl⟩ | ⟨e, h2, rfl⟩⟩ := key
  · refine ⟨n, h2, ?_⟩
    unfold f3_errorPlace
    rw [h1, bi1_s]
    show some (c_length st) = _
    rw [h.1]
  · refine ⟨e, h2, ?_⟩
    unfold f3_errorPlace
    rw [h1, bi1_s]
    rfl
/-- the model, the text read -/
def MR (ms : MS) (g : Nat → Int32) (l : Int32) : MS := (m_z ms, m_states ms, m_history ms, m_snaps ms, m_taken ms, m_length ms, m_text ms, m_thrown ms, m_listed ms, m_many ms, m_bySupport ms, m_waysOn ms, m_values ms, m_leastOnes ms, m_leastMany ms, m_sumsOf ms, g, l, m_hash ms)
theorem MR_1 (ms : MS) (g : Nat → Int32) (l : Int32) : m_last_s (m_readTimes_s ms g) l = MR ms g l := rfl
theorem MR_2 (ms : MS) (g g' : Nat → Int32) (l l' : Int32) : m_last_s (m_readTimes_s (MR ms g l) g') l' = MR ms g' l' := rfl
theorem MR_3 (ms : MS) (g : Nat → Int32) (l l' : Int32) : m_last_s (MR ms g l) l' = MR ms g l' := rfl
theorem zero_m : ∃ g, wh f5_rightUpTo_b2 FU (ms, (0 : Int32)) = some (m_readTimes_s ms g) ∧ ∀ f, f < 8 → g f = 0 := by
  have key : ∃ r, wh f5_rightUpTo_b2 FU (ms, (0 : Int32)) = some r ∧ ∃ g, r = m_readTimes_s ms g ∧ ∀ f, f < 8 → g f = 0 := by
    refine wh_inv 8 (by omega) (fun i z => ∃ g, z = (m_readTimes_s ms g, nI i) ∧ ∀ f, f < i → g f = 0) _ ⟨m_readTimes ms, rfl, fun f hf => by omega⟩ ?_ ?_
    · rintro i _ hi ⟨g, rfl, hg⟩
      refine Or.inl ⟨_, ?_, upd g i 0, rfl, ?_⟩
      · unfold f5_rightUpTo_b2
        simp only
        rw [if_neg (show ¬ (8 : Int32) ≤ nI i from lge 8 hi), if_pos (ib_n (by omega) (by omega)), tn (by omega), nI_1]
        rfl
      · intro f hf
        unfold upd
        split
        · rfl
        · exact hg f (by omega)
    · rintro _ ⟨g, rfl, hg⟩
      refine ⟨_, ?_, g, rfl, hg⟩
      unfold f5_rightUpTo_b2
      exact if_pos (Int32.le_refl _)
  obtain ⟨r, h1, g, rfl, h2⟩ := key
  exact ⟨g, h1, h2⟩
def lst (tx : Nat → Nat) (i : Nat) : Int32 := if sc tx i = 2 then nI (fa (tx (i - 1))) else -1
theorem scan_m {n : Nat} {tx : Nat → Nat} (h : TM ms n tx) (hn : n ≤ 60) (ht : ∀ i, i < n → 33 ≤ tx i ∧ tx i < 127) (h1 : 0 < n → ¬ tx 0 = 49) {g0 : Nat → Int32} (hg0 : ∀ f, f < 8 → g0 f = 0) : ∃ g l e, wh f5_rightUpTo_b48 FU (MR ms g0 (-1), (0 : Int32)) = some (MR ms g l, nI e) ∧ EPl tx n e ∧ (e = n → ∀ f, f < 8 → g f = nI (rt tx n f)) := by
  have key : ∃ r, wh f5_rightUpTo_b48 FU (MR ms g0 (-1), (0 : Int32)) = some r ∧ ∃ g l e, r = (MR ms g l, nI e) ∧ EPl tx n e ∧ (e = n → ∀ f, f < 8 → g f = nI (rt tx n f)) := by
    refine wh_inv n (by omega) (fun i z => ∃ g, z = (MR ms g (lst tx i), nI i) ∧ ¬ sc tx i = 4 ∧ (i = 0 ∨ (sc tx i = 2 ∧ fa (tx (i - 1)) < 8) ∨ sc tx i = 3) ∧ ∀ f, f < 8 → g f = nI (rt tx i f)) _ ⟨g0, rfl, by simp [sc], Or.inl rfl, fun f hf => by rw [hg0 f hf]; rfl⟩ ?_ ?_
    · rintro i _ hi ⟨g, rfl, hs, hc, hg⟩
      have hR : rt tx i = rt tx i := rfl
      have e0 : (m_length (MR ms g (lst tx i)) : Int32) = nI n := h.1
      have hb : ¬ m_length (MR ms g (lst tx i)) ≤ nI i := by rw [e0]; exact nI_ge hi (by omega)
      have ha := (ht i hi).2
      have ht5 : f5_rightUpTo_b48 (MR ms g (lst tx i), nI i) = bi2 (f5_takes (MR ms g (lst tx i)) (nI (tx i))) fun st19 r20 => if r20 = 0 then some (.inr (st19, nI i)) else some (.inl (st19, nI (i + 1))) := by
        unfold f5_rightUpTo_b48
        simp only
        rw [if_neg hb, if_pos (ib_n (by omega) (by omega)), tn (by omega), show m_text (MR ms g (lst tx i)) i = nI (tx i) from h.2 i hi, nI_1]
      have h0 : i = 0 → sc tx i = 0 := fun e => by rw [e]; rfl
      by_cases c : fa (tx i) < 8
      · have h2 : sc tx (i + 1) = 2 := by
          rw [sc_s hs, nxt, if_pos c, if_neg]
          rcases hc with e | e | e
          · rw [h0 e]; omega
          · omega
          · omega
        refine Or.inl ⟨_, ?_, upd g (fa (tx i)) (nI (rt tx i (fa (tx i)) + 1)), rfl, by omega, Or.inr (Or.inl ⟨h2, by rw [Nat.add_sub_cancel]; exact c⟩), ?_⟩
        · rw [ht5]
          unfold f5_takes
          rw [fa_m _ ha, if_pos c, if_neg (fa_ne1 _ c), if_pos (ib_n c (by omega)), if_pos (ib_n c (by omega)), tn (by omega), bi2_s]
          show some (Sum.inl (m_last_s (m_readTimes_s (MR ms g (lst tx i)) (upd g (fa (tx i)) (g (fa (tx i)) + 1))) (nI (fa (tx i))), nI (i + 1))) = _
          rw [hg _ c, nI_1, show lst tx (i + 1) = nI (fa (tx i)) by rw [lst, if_pos h2, Nat.add_sub_cancel], MR_2]
        · intro f hf
          have : ¬ (0 < i ∧ fa (tx (i - 1)) = f ∧ isT (tx i) = true) := fun q => by rw [fa_T c] at q; exact absurd q.2.2 (by decide)
          unfold upd
          rw [rt]
          by_cases e : f = fa (tx i)
          · rw [if_pos e, if_pos e.symm, e]
          · rw [if_neg e, if_neg (fun q => e q.symm), if_neg this]
            exact hg f hf
      · have hx : f5_takes (MR ms g (lst tx i)) (nI (tx i)) = if sc tx i = 2 ∧ isT (tx i) = true then some (MR ms (upd g (fa (tx (i - 1))) (g (fa (tx (i - 1))) + nI (tx i - 49))) (-1), 1) else some (MR ms g (-1), 0) := by
          unfold f5_takes
          rw [fa_m _ ha, if_neg c, if_pos rfl, isT_m _ ha, lq_e]
          show (if (if lst tx i = -1 then (0 : Int32) else if (if isT (tx i) = true then (1 : Int32) else 0) = 0 then 0 else 1) = 0 then _ else _) = _
          by_cases q : sc tx i = 2
          · have q8 : fa (tx (i - 1)) < 8 := by
              rcases hc with e | e | e
              · rw [h0 e] at q; omega
              · exact e.2
              · omega
            have hl : lst tx i = nI (fa (tx (i - 1))) := by rw [lst, if_pos q]
            have hl2 : m_last (MR ms g (lst tx i)) = nI (fa (tx (i - 1))) := hl
            rw [hl2, hl, if_neg (fa_ne1 _ q8)]
            by_cases t : isT (tx i) = true
            · have := isT_le t
              rw [if_pos (⟨q, t⟩ : sc tx i = 2 ∧ isT (tx i) = true), if_pos t, if_neg (show ¬ (1 : Int32) = 0 by decide +kernel), if_neg (show ¬ (1 : Int32) = 0 by decide +kernel), if_pos (ib_n q8 (by omega)), if_pos (ib_n q8 (by omega)), if_pos (show zok 1 = true by decide +kernel), tn (by omega), show nI (tx i) - (49 : Int32) = nI (tx i - 49) from sb 49 (by omega), MR_2]
              rfl
            · rw [if_neg t, if_pos rfl, if_pos rfl, if_pos (show zok 0 = true by decide +kernel), if_neg (show ¬ (sc tx i = 2 ∧ isT (tx i) = true) from fun z => t z.2), MR_3]
          · have hl : lst tx i = -1 := by rw [lst, if_neg q]
            have hl2 : m_last (MR ms g (lst tx i)) = -1 := hl
            rw [hl2, hl, if_pos rfl, if_pos rfl, if_pos (show zok 0 = true by decide +kernel), if_neg (show ¬ (sc tx i = 2 ∧ isT (tx i) = true) from fun z => q z.1), MR_3]
        by_cases q : sc tx i = 2 ∧ isT (tx i) = true
        · have q8 : fa (tx (i - 1)) < 8 := by
            rcases hc with e | e | e
            · rw [h0 e] at q; omega
            · exact e.2
            · omega
          have hi0 : 0 < i := by
            rcases Nat.eq_zero_or_pos i with e | e
            · rw [h0 e] at q; omega
            · exact e
          have tt := isT_le q.2
          have h3 : sc tx (i + 1) = 3 := by
            rw [sc_s hs, nxt, if_neg c, if_neg (by omega), if_pos q.2, if_pos q.1]
          refine Or.inl ⟨_, ?_, upd g (fa (tx (i - 1))) (nI (rt tx i (fa (tx (i - 1))) + (tx i - 49))), rfl, by omega, Or.inr (Or.inr h3), ?_⟩
          · rw [ht5, hx, if_pos q, bi2_s, if_neg (show ¬ (1 : Int32) = 0 by decide +kernel), hg _ q8, nI_add, show lst tx (i + 1) = -1 by rw [lst, if_neg (by omega)]]
          · intro f hf
            unfold upd
            rw [rt]
            by_cases e : f = fa (tx (i - 1))
            · rw [if_pos e, if_neg (by omega), if_pos ⟨hi0, e.symm, q.2⟩, e]
            · rw [if_neg e, if_neg (by omega), if_neg (fun z => e z.2.1.symm)]
              exact hg f hf
        · refine Or.inr ⟨_, ?_, g, -1, i, rfl, ⟨by omega, hs, fun _ => ?_⟩, fun e => by omega⟩
          · rw [ht5, hx, if_neg q, bi2_s]
            exact if_pos rfl
          · rw [sc_s hs, nxt, if_neg c]
            by_cases e : tx i = 49
            · rw [if_pos e, if_neg]
              intro z
              rcases hc with f | f | f
              · subst f; exact h1 (by omega) e
              · omega
              · omega
            · rw [if_neg e]
              by_cases t : isT (tx i) = true
              · rw [if_pos t, if_neg (fun z => q ⟨z, t⟩)]
              · rw [if_neg t]
    · rintro _ ⟨g, rfl, hs, hc, hg⟩
      refine ⟨_, ?_, g, lst tx n, n, rfl, ⟨by omega, hs, fun q => by omega⟩, fun _ => hg⟩
      unfold f5_rightUpTo_b48
      exact if_pos (show m_length (MR ms g (lst tx n)) ≤ nI n by rw [show (m_length (MR ms g (lst tx n)) : Int32) = nI n from h.1]; exact Int32.le_refl _)
  obtain ⟨r, k1, g, l, e, rfl, k2, k3⟩ := key
  exact ⟨g, l, e, k1, k2, k3⟩
theorem right_m {n : Nat} {tx : Nat → Nat} (h : TM ms n tx) (hn : n ≤ 60) (ht : ∀ i, i < n → 33 ≤ tx i ∧ tx i < 127) : ∃ g l e, f5_rightUpTo ms = some (MR ms g l, nI e) ∧ EPl tx n e ∧ (e = n → ∀ f, f < 8 → g f = nI (rt tx n f)) := by
  obtain ⟨g0, z1, z2⟩ := zero_m (ms := ms)
  unfold f5_rightUpTo
  rw [z1, bi1_s]
  by_cases q : 0 < n ∧ tx 0 = 49
  · refine ⟨g0, -1, 1, ?_, ⟨by omega, ?_, fun e => ?_⟩, fun e => ?_⟩
    · rw [if_neg (show ¬ m_length (m_readTimes_s ms g0) ≤ 0 by rw [show m_length (m_readTimes_s ms g0) = nI n from h.1]; exact nI_nle q.1 (by omega)), if_pos (show m_text (m_readTimes_s ms g0) (0 : Int32).toNatClampNeg = 49 by rw [show m_text (m_readTimes_s ms g0) (0 : Int32).toNatClampNeg = nI (tx 0) from h.2 0 q.1, q.2]; rfl), MR_1]
      rfl
    · rw [sc_s (by simp [sc]), q.2]
      show ¬ nxt 0 49 = 4
      decide +kernel
    · have e1 : sc tx 1 = 1 := by
        rw [sc_s (by simp [sc]), q.2]
        show nxt 0 49 = 1
        decide +kernel
      rw [sc_s (by omega), e1, nxt]
      repeat' split
      all_goals omega
    · intro f hf
      rw [z2 f hf, ← e, rt, rt, q.2, if_neg (by show ¬ 8 = f; omega), if_neg (by omega)]
      rfl
  · obtain ⟨g, l, e, k1, k2⟩ := scan_m h hn ht (fun z e => q ⟨z, e⟩) z2
    refine ⟨g, l, e, ?_, k2⟩
    have hj : f5_rightUpTo_j46 (m_last_s (m_readTimes_s ms g0) (-1)) = some (MR ms g l, nI e) := by
      unfold f5_rightUpTo_j46
      rw [MR_1, k1, bi1_s]
    rcases Nat.eq_zero_or_pos n with e0 | e0
    · rw [if_pos (show m_length (m_readTimes_s ms g0) ≤ 0 by rw [show m_length (m_readTimes_s ms g0) = nI n from h.1, e0]; exact Int32.le_refl _)]
      exact hj
    · rw [if_neg (show ¬ m_length (m_readTimes_s ms g0) ≤ 0 by rw [show m_length (m_readTimes_s ms g0) = nI n from h.1]; exact nI_nle e0 (by omega)), if_neg (show ¬ m_text (m_readTimes_s ms g0) (0 : Int32).toNatClampNeg = 49 by rw [show m_text (m_readTimes_s ms g0) (0 : Int32).toNatClampNeg = nI (tx 0) from h.2 0 e0]; exact fun z => q ⟨e0, (nI_eq (by have := ht 0 e0; omega) (by omega)).mp (show nI (tx 0) = nI 49 from z)⟩)]
      exact hj
theorem s8 : St8 (Rel EP LP) := by
  intro st ms hR
  obtain ⟨Z, Hs, a1, a2, a3, a4, a5, a6, a7, a8, a9, a10⟩ := id hR
  obtain ⟨n, tx, hn, ht, tc, tm⟩ := TX_of a8
  obtain ⟨e, e1, e2⟩ := errorPlace_c tc hn ht
  obtain ⟨g, l, e', e3, e4, _⟩ := right_m (ms := m_thrown_s ms 0) tm hn ht
  refine ⟨nI e, MR (m_thrown_s ms 0) g l, nI e', ?_, ?_, by rw [EPl_u e1 e4], hR.m ⟨rfl, rfl, rfl, rfl, rfl, rfl, rfl⟩⟩
  · unfold f4_firstError
    rw [e2, bi1_s]
  · unfold f5_firstError
    rw [e3, bi2_s]
end PG
