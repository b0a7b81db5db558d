/-! Least solutions: the model's. -/
/-- a code of base ten -/
def cd (a b c d : Nat) : Nat := 1000 * a + 100 * b + 10 * c + d
def dc (e : Nat) : Nat := cd (d6 e 0) (d6 e 1) (d6 e 2) (d6 e 3)
section QO
variable {EP : CS → (Nat → Nat) → Prop} {st : CS} {ms : MS} {Z : Nat → Nat}
theorem digit_m {a b c d : Nat} (ha : a < 10) (hb : b < 10) (hc : c < 10) (hd : d < 10) {v : Nat} (hv : v < 4) : f5_digit (nI (cd a b c d)) (nI v) = nI (p4 a b c d v) := by
  have e : cd a b c d = 1000 * a + 100 * b + 10 * c + d := rfl
  generalize cd a b c d = x at *
  unfold f5_digit
  rcases (show v = 0 ∨ v = 1 ∨ v = 2 ∨ v = 3 by omega) with rfl | rfl | rfl | rfl
  · rw [if_pos (show nI 0 = (0 : Int32) from rfl), show nI x / (1000 : Int32) = _ from pk_div (d := 1000) (by omega) (by omega) (by omega)]
    exact congrArg nI (show x / 1000 = a by omega)
  · rw [if_neg (show ¬ nI 1 = (0 : Int32) by decide +kernel), if_pos (show nI 1 = (1 : Int32) from rfl), show nI x / (100 : Int32) = _ from pk_div (d := 100) (by omega) (by omega) (by omega)]
    exact (md 10 (by omega)).trans (congrArg nI (show x / 100 % 10 = b by omega))
  · rw [if_neg (show ¬ nI 2 = (0 : Int32) by decide +kernel), if_neg (show ¬ nI 2 = (1 : Int32) by decide +kernel), if_pos (show nI 2 = (2 : Int32) from rfl), show nI x / (10 : Int32) = _ from pk_div (d := 10) (by omega) (by omega) (by omega)]
    exact (md 10 (by omega)).trans (congrArg nI (show x / 10 % 10 = c by omega))
  · rw [if_neg (show ¬ nI 3 = (0 : Int32) by decide +kernel), if_neg (show ¬ nI 3 = (1 : Int32) by decide +kernel), if_neg (show ¬ nI 3 = (2 : Int32) by decide +kernel)]
    exact (md 10 (by omega)).trans (congrArg nI (show x % 10 = d by omega))
def fA (g : Nat → Int32) : Nat → Int32
  | 0 => 0
  | n + 1 => fA g n + g n
theorem fulfils_m (h : MZ ms Z) (hv : VZ Z) {a b c d : Nat} (ha : a < 7) (hb : b < 7) (hc : c < 7) (hd : d < 7) : (so4 (df Z 0) (df Z 1) (df Z 2) (df Z 3) a b c d ∧ f5_fulfils ms (nI (cd a b c d)) = some 1) ∨ (¬ so4 (df Z 0) (df Z 1) (df Z 2) (df Z 3) a b c d ∧ f5_fulfils ms (nI (cd a b c d)) = some 0) := by
  have h1 : wh (f5_fulfils_b4 ms (nI (cd a b c d))) FU ((0 : Int32), (0 : Int32)) = some (fA (fun v => dI Z v * nI (p4 a b c d v)) 4) := by
    refine wh_for' 4 (by omega) (fun i => (fA (fun v => dI Z v * nI (p4 a b c d v)) i, nI i)) rfl (fun i hi => ?_) ?_
    · unfold f5_fulfils_b4 f5_differenceOf
      simp only
      rw [if_neg (show ¬ (4 : Int32) ≤ nI i from lge 4 hi), show f5_variableOf ms 0 (nI i) = _ from vo_ok h (p := 0) (f := i) (by omega), bi1_s, show f5_variableOf ms 1 (nI i) = _ from vo_ok h (p := 1) (f := i) (by omega), bi1_s, bi1_s, digit_m (by omega) (by omega) (by omega) (by omega) hi, nI_1, show 8 * 0 + (4 + i) = 4 + i by omega, show 8 * 1 + (4 + i) = 12 + i by omega]
      rfl
    · unfold f5_fulfils_b4
      exact if_pos (Int32.le_refl _)
  have e : fA (fun v => dI Z v * nI (p4 a b c d v)) 4 = dI Z 0 * nI a + dI Z 1 * nI b + dI Z 2 * nI c + dI Z 3 * nI d := by
    show 0 + dI Z 0 * nI a + dI Z 1 * nI b + dI Z 2 * nI c + dI Z 3 * nI d = _
    rw [Int32.zero_add]
  have h2 := sum_z hv ha hb hc hd
  unfold f5_fulfils
  rw [h1, bi1_s, e]
  by_cases q : so4 (df Z 0) (df Z 1) (df Z 2) (df Z 3) a b c d
  · rw [if_pos (h2.mpr q)]
    exact Or.inl ⟨q, rfl⟩
  · rw [if_neg (fun z => q (h2.mp z))]
    exact Or.inr ⟨q, rfl⟩
/-- one vector lies above another -/
theorem above_m {a b c d a' b' c' d' : Nat} (ha : a < 10) (hb : b < 10) (hc : c < 10) (hd : d < 10) (ha' : a' < 10) (hb' : b' < 10) (hc' : c' < 10) (hd' : d' < 10) : ((∀ v, v < 4 → p4 a' b' c' d' v ≤ p4 a b c d v) ∧ f5_isAbove ms (nI (cd a b c d)) (nI (cd a' b' c' d')) = some 1) ∨ (¬ (∀ v, v < 4 → p4 a' b' c' d' v ≤ p4 a b c d v) ∧ f5_isAbove ms (nI (cd a b c d)) (nI (cd a' b' c' d')) = some 0) := by
  have key : ∃ r, wh (f5_isAbove_b5 ms (nI (cd a b c d)) (nI (cd a' b' c' d'))) FU ((1 : Int32), (0 : Int32)) = some r ∧ ((r = 1 ∧ ∀ v, v < 4 → p4 a' b' c' d' v ≤ p4 a b c d v) ∨ (r = 0 ∧ ¬ ∀ v, v < 4 → p4 a' b' c' d' v ≤ p4 a b c d v)) := by
    refine wh_inv 4 (by omega) (fun i z => ∃ x, z = (x, nI i) ∧ ((x = 1 ∧ ∀ v, v < i → p4 a' b' c' d' v ≤ p4 a b c d v) ∨ (x = 0 ∧ ¬ ∀ v, v < 4 → p4 a' b' c' d' v ≤ p4 a b c d v))) _ ⟨1, rfl, Or.inl ⟨rfl, fun v q => by omega⟩⟩ ?_ ?_
    · rintro i _ hi ⟨x, rfl, hN⟩
      have b1 := p4_lt ha hb hc hd i
      have b2 := p4_lt ha' hb' hc' hd' i
      refine Or.inl ?_
      unfold f5_isAbove_b5
      simp only
      rw [if_neg (show ¬ (4 : Int32) ≤ nI i from lge 4 hi), digit_m ha hb hc hd hi, digit_m ha' hb' hc' hd' hi, lq_e, nI_1]
      rcases hN with ⟨rfl, hN⟩ | ⟨rfl, hF⟩
      · rw [if_neg one_ne]
        by_cases q : p4 a' b' c' d' i ≤ p4 a b c d i
        · rw [if_neg (nI_nlt q (by omega))]
          refine ⟨_, rfl, 1, rfl, Or.inl ⟨rfl, fun v hv => ?_⟩⟩
          by_cases e : v = i
          · subst e
            exact q
          · exact hN v (by omega)
        · rw [if_pos (nI_lt (by omega) (by omega))]
          exact ⟨_, rfl, 0, rfl, Or.inr ⟨rfl, fun z => q (z i hi)⟩⟩
      · rw [if_pos rfl]
        exact ⟨_, rfl, 0, rfl, Or.inr ⟨rfl, hF⟩⟩
    · rintro _ ⟨x, rfl, hN⟩
      refine ⟨x, ?_, hN⟩
      unfold f5_isAbove_b5
      exact if_pos (Int32.le_refl _)
  obtain ⟨r, k1, k2⟩ := key
  unfold f5_isAbove
  rw [k1, bi1_s]
  rcases k2 with ⟨rfl, k3⟩ | ⟨rfl, k3⟩
  · exact Or.inl ⟨k3, rfl⟩
  · exact Or.inr ⟨k3, rfl⟩
/-- what the model has of least solutions -/
def LE4 (ms : MS) (on : Nat → Int32) (mn : Int32) : MS := (m_z ms, m_states ms, m_history ms, m_snaps ms, m_taken ms, m_length ms, m_text ms, m_thrown ms, m_listed ms, m_many ms, m_bySupport ms, m_waysOn ms, m_values ms, on, mn, m_sumsOf ms, m_readTimes ms, m_last ms, m_hash ms)
theorem LE4_s (ms : MS) (on on' : Nat → Int32) (mn mn' : Int32) : m_leastMany_s (m_leastOnes_s (LE4 ms on mn) on') mn' = LE4 ms on' mn' := rfl
def ML (mn : Int32) (on : Nat → Int32) (l : List Nat) : Prop := mn = nI l.length ∧ ∀ k e, l[k]? = some e → on k = nI (dc e)
theorem isLeast_m {l : List Nat} (h : ML (m_leastMany ms) (m_leastOnes ms) l) (hl : l.length ≤ 30) {n : Nat} (hn : n < 1296) : ((∀ y, y ∈ l → leb y n = false) ∧ f5_isLeast ms (nI (dc n)) = some 1) ∨ (¬ (∀ y, y ∈ l → leb y n = false) ∧ f5_isLeast ms (nI (dc n)) = some 0) := by
  have key : ∃ r, wh (f5_isLeast_b4 ms (nI (dc n))) FU ((1 : Int32), (0 : Int32)) = some r ∧ ((r = 1 ∧ ∀ y, y ∈ l → leb y n = false) ∨ (r = 0 ∧ ¬ ∀ y, y ∈ l → leb y n = false)) := by
    refine wh_inv l.length (by omega) (fun i z => ∃ x, z = (x, nI i) ∧ ((x = 1 ∧ ∀ k e, k < i → l[k]? = some e → leb e n = false) ∨ (x = 0 ∧ ¬ ∀ y, y ∈ l → leb y n = false))) _ ⟨1, rfl, Or.inl ⟨rfl, fun v e q => by omega⟩⟩ ?_ ?_
    · rintro i _ hi ⟨x, rfl, hN⟩
      have hk := getD_some hi
      refine Or.inl ?_
      unfold f5_isLeast_b4
      simp only
      rw [h.1, if_neg (nI_ge hi (by omega)), if_pos (ib_n (by omega) (by omega)), tn (by omega), h.2 i _ hk, nI_1]
      rcases hN with ⟨rfl, hN⟩ | ⟨rfl, hF⟩
      · rw [if_neg one_ne]
        have L : ∀ e : Nat, (∀ v, v < 4 → p4 (d6 e 0) (d6 e 1) (d6 e 2) (d6 e 3) v ≤ p4 (d6 n 0) (d6 n 1) (d6 n 2) (d6 n 3) v) ↔ leb e n = true := fun e => by
          rw [leb_iff]
          constructor
          · intro z
            exact ⟨z 0 (by omega), z 1 (by omega), z 2 (by omega), z 3 (by omega)⟩
          · rintro ⟨h0, h1, h2, h3⟩ v hv
            rcases (show v = 0 ∨ v = 1 ∨ v = 2 ∨ v = 3 by omega) with rfl | rfl | rfl | rfl
            · exact h0
            · exact h1
            · exact h2
            · exact h3
        have bb : ∀ e v, d6 e v < 10 := fun e v => by have := d6_lt e v; omega
        rcases above_m (ms := ms) (bb n 0) (bb n 1) (bb n 2) (bb n 3) (bb (l.getD i 0) 0) (bb (l.getD i 0) 1) (bb (l.getD i 0) 2) (bb (l.getD i 0) 3) with ⟨q, e1⟩ | ⟨q, e1⟩
        · rw [show f5_isAbove ms (nI (dc n)) (nI (dc (l.getD i 0))) = _ from e1, bi1_s, if_neg one_ne]
          refine ⟨_, rfl, 0, rfl, Or.inr ⟨rfl, fun z => ?_⟩⟩
          have := z _ (getD_mem hi)
          rw [(L _).mp q] at this
          cases this
        · rw [show f5_isAbove ms (nI (dc n)) (nI (dc (l.getD i 0))) = _ from e1, bi1_s, if_pos rfl]
          refine ⟨_, rfl, 1, rfl, Or.inl ⟨rfl, fun k e hk2 hk3 => ?_⟩⟩
          by_cases w : k = i
          · subst w
            rw [hk] at hk3
            cases hk3
            rw [L] at q
            simpa using q
          · exact hN k e (by omega) hk3
      · rw [if_pos rfl]
        exact ⟨_, rfl, 0, rfl, Or.inr ⟨rfl, hF⟩⟩
    · rintro _ ⟨x, rfl, hN⟩
      refine ⟨x, ?_, ?_⟩
      · unfold f5_isLeast_b4
        simp only
        rw [h.1, if_pos (Int32.le_refl _)]
      · rcases hN with ⟨h1, h2⟩ | h1
        · refine Or.inl ⟨h1, fun e he => ?_⟩
          obtain ⟨k, hk, e2⟩ := List.getElem_of_mem he
          exact h2 k e hk (by rw [List.getElem?_eq_getElem hk, e2])
        · exact Or.inr h1
  obtain ⟨r, k1, k2⟩ := key
  unfold f5_isLeast
  rw [k1, bi1_s]
  rcases k2 with ⟨rfl, k3⟩ | ⟨rfl, k3⟩
  · exact Or.inl ⟨k3, rfl⟩
  · exact Or.inr ⟨k3, rfl⟩
def JL (ms : MS) (Z : Nat → Nat) (n : Nat) (s : MS) : Prop := ∃ on mn, s = LE4 ms on mn ∧ ML mn on (lo (df Z) n)
theorem code_m {n : Nat} (hn : n < 1296) : (((((1000 : Int32) * (nI n / (216 : Int32))) + ((100 : Int32) * ((nI n / (36 : Int32)) - (nI n / (36 : Int32)) / (6 : Int32) * (6 : Int32)))) + ((10 : Int32) * ((nI n / (6 : Int32)) - (nI n / (6 : Int32)) / (6 : Int32) * (6 : Int32)))) + (nI n - nI n / (6 : Int32) * (6 : Int32))) = nI (dc n) := by
  rw [show nI n / (216 : Int32) = nI (n / 216) from pk_div (d := 216) (by omega) (by omega) (by omega), show nI n / (36 : Int32) = nI (n / 36) from pk_div (d := 36) (by omega) (by omega) (by omega), show nI n - nI n / (6 : Int32) * (6 : Int32) = nI (n % 6) from md 6 (by omega), show nI n / (6 : Int32) = nI (n / 6) from pk_div (d := 6) (by omega) (by omega) (by omega), show nI (n / 36) - nI (n / 36) / (6 : Int32) * (6 : Int32) = nI (n / 36 % 6) from md 6 (by omega), show nI (n / 6) - nI (n / 6) / (6 : Int32) * (6 : Int32) = nI (n / 6 % 6) from md 6 (by omega), show (1000 : Int32) * nI (n / 216) = nI (1000 * (n / 216)) from pk_mul 1000 _, show (100 : Int32) * nI (n / 36 % 6) = nI (100 * (n / 36 % 6)) from pk_mul 100 _, show (10 : Int32) * nI (n / 6 % 6) = nI (10 * (n / 6 % 6)) from pk_mul 10 _, nI_add, nI_add, nI_add]
  refine congrArg nI ?_
  unfold dc cd
  rw [d6_0, d6_1, d6_2, d6_3]
  omega
theorem layLeast_m (h : MZ ms Z) (hv : VZ Z) : ∃ on mn, f5_layLeast ms = some (LE4 ms on mn) ∧ ML mn on (LO Z) := by
  have key : ∃ s, wh f5_layLeast_b7 FU (m_leastMany_s ms 0, (1 : Int32)) = some s ∧ JL ms Z 1296 s := by
    refine wh_inv 1295 (by omega) (fun i z => ∃ s, z = (s, nI (i + 1)) ∧ JL ms Z (i + 1) s) _ ⟨_, rfl, m_leastOnes ms, 0, rfl, rfl, fun k e hk => by cases hk⟩ ?_ ?_
    · rintro i _ hi ⟨s, rfl, on, mn, rfl, hL⟩
      obtain ⟨n, hn⟩ : ∃ n, n = i + 1 := ⟨_, rfl⟩
      rw [← hn] at hL ⊢
      have hn2 : n < 1296 := by omega
      have h30 := LO_30 hv
      have hl1 := lo_len_mono (df Z) (show n ≤ 1296 by omega)
      have hl0 : (lo (df Z) n).length ≤ 30 := Nat.le_trans hl1 h30
      have hM : MZ (LE4 ms on mn) Z := h
      have hb : ∀ v, d6 n v < 7 := fun v => by have := d6_lt n v; omega
      have hso : sol (df Z) n = true ↔ so4 (df Z 0) (df Z 1) (df Z 2) (df Z 3) (d6 n 0) (d6 n 1) (d6 n 2) (d6 n 3) := by
        unfold sol
        exact decide_eq_true_iff
      refine Or.inl ?_
      unfold JL
      rw [lo_s]
      unfold f5_layLeast_b7
      simp only
      rw [if_neg (show ¬ (1296 : Int32) ≤ nI n from lge 1296 hn2), code_m hn2, lq_e, nI_1]
      rcases fulfils_m hM hv (hb 0) (hb 1) (hb 2) (hb 3) with ⟨q, e⟩ | ⟨q, e⟩
      · rw [show f5_fulfils (LE4 ms on mn) (nI (dc n)) = _ from e, bi1_s, if_neg one_ne]
        rcases isLeast_m (ms := LE4 ms on mn) hL hl0 hn2 with ⟨w, e2⟩ | ⟨w, e2⟩
        · have ht : tk (df Z) (lo (df Z) n) n = true := tk_iff.mpr ⟨by omega, hso.mpr q, w⟩
          have hmn : mn = nI (lo (df Z) n).length := hL.1
          rw [e2, bi1_s, if_neg one_ne, if_pos ht]
          refine ⟨(LE4 ms (upd on (lo (df Z) n).length (nI (dc n))) (nI ((lo (df Z) n).length + 1)), nI (n + 1)), ?_, _, rfl, _, _, rfl, ?_, ?_⟩
          · rw [show m_leastMany (LE4 ms on mn) = _ from hmn, if_pos (ib_n (by omega) (by omega)), tn (by omega), LE4_s, nI_1]
            rfl
          · rw [List.length_append]
            rfl
          · intro k e' hg
            rw [List.getElem?_append] at hg
            by_cases z : k < (lo (df Z) n).length
            · rw [if_pos z] at hg
              rw [pk_un (by omega)]
              exact hL.2 k e' hg
            · rw [if_neg z] at hg
              have : k = (lo (df Z) n).length := by
                rcases Nat.eq_zero_or_pos (k - (lo (df Z) n).length) with y | y
                · omega
                · rw [List.getElem?_eq_none (by simp; omega)] at hg; cases hg
              subst this
              simp at hg
              rw [pk_us, ← hg]
        · rw [e2, bi1_s, if_pos rfl, if_neg (show ¬ tk (df Z) (lo (df Z) n) n = true from fun z => w (tk_iff.mp z).2.2)]
          exact ⟨_, rfl, _, rfl, on, mn, rfl, hL⟩
      · rw [show f5_fulfils (LE4 ms on mn) (nI (dc n)) = _ from e, bi1_s, if_pos rfl, if_neg (show ¬ tk (df Z) (lo (df Z) n) n = true from fun z => q (hso.mp (tk_iff.mp z).2.1))]
        exact ⟨_, rfl, _, rfl, on, mn, rfl, hL⟩
    · rintro _ ⟨s, rfl, hs⟩
      refine ⟨s, ?_, hs⟩
      unfold f5_layLeast_b7
      exact if_pos (Int32.le_refl _)
  obtain ⟨s, k1, on, mn, rfl, k2⟩ := key
  refine ⟨on, mn, ?_, k2⟩
  unfold f5_layLeast
  rw [k1, bi1_s]
end QO
