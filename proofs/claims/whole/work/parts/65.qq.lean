/-! Sums of least solutions: how many ways; the model. -/
/-- one more solution may be used, as often as it goes -/
def S4 (e : Nat) (g : Nat → Nat → Nat → Nat → Nat) (a b c d : Nat) : Nat := g a b c d + if h : (d6 e 0 ≤ a ∧ d6 e 1 ≤ b ∧ d6 e 2 ≤ c ∧ d6 e 3 ≤ d) ∧ 0 < sd e then S4 e g (a - d6 e 0) (b - d6 e 1) (c - d6 e 2) (d - d6 e 3) else 0
termination_by a + b + c + d
decreasing_by
  have h1 := h.2
  unfold sd at h1
  omega
def le6 (e a b c d : Nat) : Prop := d6 e 0 ≤ a ∧ d6 e 1 ≤ b ∧ d6 e 2 ≤ c ∧ d6 e 3 ≤ d
theorem S4_yes {e : Nat} {g : Nat → Nat → Nat → Nat → Nat} {a b c d : Nat} (h : le6 e a b c d) (h0 : 0 < sd e) : S4 e g a b c d = g a b c d + S4 e g (a - d6 e 0) (b - d6 e 1) (c - d6 e 2) (d - d6 e 3) := by
  rw [S4, dif_pos ⟨h, h0⟩]
theorem S4_no {e : Nat} {g : Nat → Nat → Nat → Nat → Nat} {a b c d : Nat} (h : ¬ le6 e a b c d) : S4 e g a b c d = g a b c d := by
  rw [S4, dif_neg (fun z => h z.1), Nat.add_zero]
/-- how many ways the first i solutions of a list give a sum -/
def Fi (l : List Nat) : Nat → Nat → Nat → Nat → Nat → Nat
  | 0 => fun a b c d => if a = 0 ∧ b = 0 ∧ c = 0 ∧ d = 0 then 1 else 0
  | i + 1 => S4 (l.getD i 0) (Fi l i)
theorem so4_sub {x y z w e a b c d : Nat} (h : le6 e a b c d) (he : so4 x y z w (d6 e 0) (d6 e 1) (d6 e 2) (d6 e 3)) (hs : so4 x y z w (a - d6 e 0) (b - d6 e 1) (c - d6 e 2) (d - d6 e 3)) : so4 x y z w a b c d := by
  obtain ⟨h0, h1, h2, h3⟩ := h
  have k : ∀ m p q : Nat, q ≤ p → m * (p - q) + m * q = m * p := fun m p q hq => by rw [← Nat.mul_add, Nat.sub_add_cancel hq]
  have k0 := k x a _ h0
  have k1 := k y b _ h1
  have k2 := k z c _ h2
  have k3 := k w d _ h3
  rw [so4_iff] at *
  omega
theorem S4_zero {x y z w e : Nat} {g : Nat → Nat → Nat → Nat → Nat} (he : so4 x y z w (d6 e 0) (d6 e 1) (d6 e 2) (d6 e 3)) (hg : ∀ a b c d, ¬ so4 x y z w a b c d → g a b c d = 0) : ∀ N a b c d, a + b + c + d ≤ N → ¬ so4 x y z w a b c d → S4 e g a b c d = 0
  | N, a, b, c, d, hN, hn => by
    by_cases q : le6 e a b c d ∧ 0 < sd e
    · obtain ⟨q1, q2⟩ := q
      have h1 := q1
      unfold le6 at h1
      have h2 := q2
      unfold sd at h2
      match N, hN with
      | 0, hN => omega
      | N + 1, hN =>
        rw [S4_yes q1 q2, hg a b c d hn, S4_zero he hg N _ _ _ _ (by omega) (fun z => hn (so4_sub q1 he z))]
    · unfold le6 at q
      rw [S4, dif_neg q, hg a b c d hn]
theorem Fi_zero {D : Nat → Nat} {l : List Nat} (hl : ∀ e, e ∈ l → sol D e = true) : ∀ i, i ≤ l.length → ∀ a b c d, ¬ so4 (D 0) (D 1) (D 2) (D 3) a b c d → Fi l i a b c d = 0
  | 0, _, a, b, c, d, h => by
    show (if a = 0 ∧ b = 0 ∧ c = 0 ∧ d = 0 then 1 else 0) = 0
    rw [if_neg]
    rintro ⟨rfl, rfl, rfl, rfl⟩
    exact h (by rw [so4_iff]; omega)
  | i + 1, hi, a, b, c, d, h => by
    have he : so4 (D 0) (D 1) (D 2) (D 3) (d6 (l.getD i 0) 0) (d6 (l.getD i 0) 1) (d6 (l.getD i 0) 2) (d6 (l.getD i 0) 3) := by
      have h2 := hl _ (getD_mem (show i < l.length by omega))
      unfold sol at h2
      have h6 := decide_eq_true_iff.mp h2
      exact h6
    exact S4_zero he (fun a b c d hn => Fi_zero hl i (by omega) a b c d hn) _ a b c d (Nat.le_refl _) h
def pl7 (a b c d : Nat) : Nat := 343 * a + 49 * b + 7 * c + d
/-- the model's sums -/
def SM (ms : MS) (W : Nat → Int32) : MS := (m_z ms, m_states ms, m_history ms, m_snaps ms, m_taken ms, m_length ms, m_text ms, m_thrown ms, m_listed ms, m_many ms, m_bySupport ms, m_waysOn ms, m_values ms, m_leastOnes ms, m_leastMany ms, W, m_readTimes ms, m_last ms, m_hash ms)
theorem SM_s (ms : MS) (W W' : Nat → Int32) : m_sumsOf_s (SM ms W) W' = SM ms W' := rfl
theorem SM_0 (ms : MS) : ms = SM ms (m_sumsOf ms) := rfl
theorem SM_same (ms : MS) (W : Nat → Int32) : msame ms (SM ms W) := ⟨rfl, rfl, rfl, rfl, rfl, rfl, rfl⟩
theorem sd_pos {e : Nat} (he : e < 1296) (h : ¬ e = 0) : 0 < sd e := by
  have := d6_of he
  unfold sd
  omega
section QQ
variable {ms : MS} {Z : Nat → Nat}
theorem code7_m {a b c d : Nat} (ha : a < 7) (hb : b < 7) (hc : c < 7) (hd : d < 7) : (((((1000 : Int32) * (nI (pl7 a b c d) / (343 : Int32))) + ((100 : Int32) * ((nI (pl7 a b c d) / (49 : Int32)) - (nI (pl7 a b c d) / (49 : Int32)) / (7 : Int32) * (7 : Int32)))) + ((10 : Int32) * ((nI (pl7 a b c d) / (7 : Int32)) - (nI (pl7 a b c d) / (7 : Int32)) / (7 : Int32) * (7 : Int32)))) + (nI (pl7 a b c d) - nI (pl7 a b c d) / (7 : Int32) * (7 : Int32))) = nI (cd a b c d) := by
  have e : pl7 a b c d = 343 * a + 49 * b + 7 * c + d := rfl
  generalize pl7 a b c d = n at *
  rw [show nI n / (343 : Int32) = nI (n / 343) from pk_div (d := 343) (by omega) (by omega) (by omega), show nI n / (49 : Int32) = nI (n / 49) from pk_div (d := 49) (by omega) (by omega) (by omega), show nI n - nI n / (7 : Int32) * (7 : Int32) = nI (n % 7) from md 7 (by omega), show nI n / (7 : Int32) = nI (n / 7) from pk_div (d := 7) (by omega) (by omega) (by omega), show nI (n / 49) - nI (n / 49) / (7 : Int32) * (7 : Int32) = nI (n / 49 % 7) from md 7 (by omega), show nI (n / 7) - nI (n / 7) / (7 : Int32) * (7 : Int32) = nI (n / 7 % 7) from md 7 (by omega), show (1000 : Int32) * nI (n / 343) = nI (1000 * (n / 343)) from pk_mul 1000 _, show (100 : Int32) * nI (n / 49 % 7) = nI (100 * (n / 49 % 7)) from pk_mul 100 _, show (10 : Int32) * nI (n / 7 % 7) = nI (10 * (n / 7 % 7)) from pk_mul 10 _, nI_add, nI_add, nI_add]
  refine congrArg nI ?_
  unfold cd
  omega
theorem of7 {n : Nat} (hn : n < 2401) : ∃ a b c d, a < 7 ∧ b < 7 ∧ c < 7 ∧ d < 7 ∧ n = pl7 a b c d := ⟨n / 343, n / 49 % 7, n / 7 % 7, n % 7, by omega, by omega, by omega, by omega, by unfold pl7; omega⟩
theorem in7 {a b c d a' b' c' d' : Nat} (hb : b < 7) (hc : c < 7) (hd : d < 7) (hb' : b' < 7) (hc' : c' < 7) (hd' : d' < 7) (h : pl7 a b c d = pl7 a' b' c' d') : a = a' ∧ b = b' ∧ c = c' ∧ d = d' := by
  unfold pl7 at h
  omega
/-- the model's table holds the ways -/
def JS (W : Nat → Int32) (g : Nat → Nat → Nat → Nat → Nat) : Prop := ∀ a b c d, a < 7 → b < 7 → c < 7 → d < 7 → W (pl7 a b c d) = nI (g a b c d)
theorem add_m {W : Nat → Int32} {g : Nat → Nat → Nat → Nat → Nat} (hW : JS W g) {e : Nat} (he : e < 1296) (h0 : ¬ e = 0) (x y z w t : Int32) : ∃ W', wh (f5_sumsTo_b102 x y z w t (nI (dc e)) (nI (pl7 (d6 e 0) (d6 e 1) (d6 e 2) (d6 e 3)))) FU (SM ms W, nI (pl7 (d6 e 0) (d6 e 1) (d6 e 2) (d6 e 3))) = some (SM ms W') ∧ JS W' (S4 e g) := by
  have hp := sd_pos he h0
  have hp2 := hp
  unfold sd at hp2
  have b0 := d6_lt e 0
  have b1 := d6_lt e 1
  have b2 := d6_lt e 2
  have b3 := d6_lt e 3
  obtain ⟨y7, hy⟩ : ∃ y7, y7 = pl7 (d6 e 0) (d6 e 1) (d6 e 2) (d6 e 3) := ⟨_, rfl⟩
  have hy2 := hy
  unfold pl7 at hy2
  rw [← hy]
  have key : ∃ r, wh (f5_sumsTo_b102 x y z w t (nI (dc e)) (nI y7)) FU (SM ms W, nI y7) = some r ∧ ∃ W', r = SM ms W' ∧ JS W' (S4 e g) := by
    refine wh_inv (2401 - y7) (by omega) (fun i z => ∃ W', z = (SM ms W', nI (y7 + i)) ∧ ∀ a b c d, a < 7 → b < 7 → c < 7 → d < 7 → W' (pl7 a b c d) = nI (if pl7 a b c d < y7 + i then S4 e g a b c d else g a b c d)) _ ⟨W, rfl, fun a b c d ha hb hc hd => ?_⟩ ?_ ?_
    · rw [hW a b c d ha hb hc hd]
      by_cases q : pl7 a b c d < y7 + 0
      · rw [if_pos q, S4_no]
        rintro ⟨h1, h2, h3, h4⟩
        unfold pl7 at q
        omega
      · rw [if_neg q]
    · rintro i _ hi ⟨W', rfl, hI⟩
      obtain ⟨n, hn⟩ : ∃ n, n = y7 + i := ⟨_, rfl⟩
      have hn2 : n < 2401 := by omega
      rw [show y7 + (i + 1) = n + 1 by omega, ← hn]
      rw [← hn] at hI
      obtain ⟨a, b, c, d, ha, hb, hc, hd, en⟩ := of7 hn2
      have bb : ∀ v, d6 e v < 10 := fun v => by have := d6_lt e v; omega
      refine Or.inl ?_
      unfold f5_sumsTo_b102
      simp only
      rw [if_neg (show ¬ (2401 : Int32) ≤ nI n from lge 2401 hn2), en, code7_m ha hb hc hd, lq_e, ← en, if_pos (ib_n hn2 (by omega)), nI_1]
      have hl : (∀ v, v < 4 → p4 (d6 e 0) (d6 e 1) (d6 e 2) (d6 e 3) v ≤ p4 a b c d v) ↔ le6 e a b c d := by
        constructor
        · intro z
          exact ⟨z 0 (by omega), z 1 (by omega), z 2 (by omega), z 3 (by omega)⟩
        · rintro ⟨h0, h1, h2, h3⟩ v hv
          rcases (show v = 0 ∨ v = 1 ∨ v = 2 ∨ v = 3 by omega) with rfl | rfl | rfl | rfl
          · exact h0
          · exact h1
          · exact h2
          · exact h3
      have up : ∀ V : Nat, nI V = nI (S4 e g a b c d) → ∀ a' b' c' d', a' < 7 → b' < 7 → c' < 7 → d' < 7 → upd W' n (nI V) (pl7 a' b' c' d') = nI (if pl7 a' b' c' d' < n + 1 then S4 e g a' b' c' d' else g a' b' c' d') := by
        intro V hV a' b' c' d' ha' hb' hc' hd'
        by_cases q : pl7 a' b' c' d' = n
        · obtain ⟨r1, r2, r3, r4⟩ := in7 hb' hc' hd' hb hc hd (q.trans en)
          rw [q, pk_us, if_pos (by omega), hV, r1, r2, r3, r4]
        · rw [pk_un q, hI a' b' c' d' ha' hb' hc' hd']
          by_cases w : pl7 a' b' c' d' < n
          · rw [if_pos w, if_pos (by omega)]
          · rw [if_neg w, if_neg (by omega)]
      have hWn : W' n = nI (g a b c d) := by
        rw [en, hI a b c d ha hb hc hd, if_neg (by omega)]
      rcases above_m (ms := SM ms W') (a := a) (b := b) (c := c) (d := d) (by omega) (by omega) (by omega) (by omega) (bb 0) (bb 1) (bb 2) (bb 3) with ⟨q, e1⟩ | ⟨q, e1⟩
      · have q := hl.mp q
        have q2 := q
        unfold le6 at q2
        unfold pl7 at en
        have hsub : n - y7 = pl7 (a - d6 e 0) (b - d6 e 1) (c - d6 e 2) (d - d6 e 3) := by
          unfold pl7
          omega
        rw [show f5_isAbove (SM ms W') (nI (cd a b c d)) (nI (dc e)) = _ from e1, bi1_s, if_neg one_ne, pk_sub (show y7 ≤ n by omega), if_pos (ib_n (show n - y7 < 2401 by omega) (by omega)), if_pos (ib_n hn2 (by omega)), tn (by omega), tn (by omega)]
        refine ⟨(SM ms (upd W' n (nI (g a b c d + S4 e g (a - d6 e 0) (b - d6 e 1) (c - d6 e 2) (d - d6 e 3)))), nI (n + 1)), ?_, _, rfl, up _ (by rw [S4_yes q hp])⟩
        rw [SM_s]
        show some (Sum.inl (SM ms (upd W' n (W' n + W' (n - y7))), nI (n + 1))) = _
        rw [hWn, hsub, hI _ _ _ _ (by omega) (by omega) (by omega) (by omega), if_pos (by rw [← hsub]; omega), nI_add]
      · have q : ¬ le6 e a b c d := fun z => q (hl.mpr z)
        rw [show f5_isAbove (SM ms W') (nI (cd a b c d)) (nI (dc e)) = _ from e1, bi1_s, if_pos rfl, if_pos (ib_n hn2 (by omega)), tn (by omega)]
        refine ⟨(SM ms (upd W' n (nI (g a b c d))), nI (n + 1)), ?_, _, rfl, up _ (by rw [S4_no q])⟩
        rw [SM_s]
        show some (Sum.inl (SM ms (upd W' n (W' n + 0)), nI (n + 1))) = _
        rw [hWn, Int32.add_zero]
    · rintro _ ⟨W', rfl, hI⟩
      refine ⟨SM ms W', ?_, W', rfl, fun a b c d ha hb hc hd => ?_⟩
      · unfold f5_sumsTo_b102
        simp only
        rw [if_pos (show (2401 : Int32) ≤ nI (y7 + (2401 - y7)) from by rw [show y7 + (2401 - y7) = 2401 by omega]; exact Int32.le_refl _)]
      · rw [hI a b c d ha hb hc hd, if_pos]
        unfold pl7
        omega
  obtain ⟨r, k1, W', rfl, k2⟩ := key
  exact ⟨W', k1, k2⟩
theorem init_m (x y z w : Int32) : ∃ W, wh (f5_sumsTo_b7 x y z w) FU (ms, (0 : Int32)) = some (SM ms W) ∧ ∀ n, n < 2401 → W n = if n = 0 then 1 else 0 := by
  have key : ∃ r, wh (f5_sumsTo_b7 x y z w) FU (ms, (0 : Int32)) = some r ∧ ∃ W, r = SM ms W ∧ ∀ n, n < 2401 → W n = if n = 0 then 1 else 0 := by
    refine wh_inv 2401 (by omega) (fun i z => ∃ W, z = (SM ms W, nI i) ∧ ∀ n, n < i → W n = if n = 0 then 1 else 0) _ ⟨m_sumsOf ms, rfl, fun n q => by omega⟩ ?_ ?_
    · rintro i _ hi ⟨W, rfl, hI⟩
      refine Or.inl ⟨(SM ms (upd W i (if nI i = 0 then 1 else 0)), nI (i + 1)), ?_, _, rfl, fun n hn => ?_⟩
      · unfold f5_sumsTo_b7
        simp only
        rw [if_neg (show ¬ (2401 : Int32) ≤ nI i from lge 2401 hi), if_pos (ib_n hi (by omega)), tn (by omega), SM_s, nI_1]
        rfl
      · by_cases e : n = i
        · subst e
          rw [pk_us]
          by_cases q : n = 0
          · subst q
            rfl
          · rw [if_neg q, if_neg (nI_ne0 (by omega) (by omega))]
        · rw [pk_un e]
          exact hI n (by omega)
    · rintro _ ⟨W, rfl, hI⟩
      refine ⟨_, ?_, W, rfl, hI⟩
      unfold f5_sumsTo_b7
      exact if_pos (Int32.le_refl _)
  obtain ⟨r, k1, W, rfl, k2⟩ := key
  exact ⟨W, k1, k2⟩
/-- how many sums of least solutions a vector is -/
def ws (Z : Nat → Nat) : Nat → Nat → Nat → Nat → Nat := Fi (LO Z) (LO Z).length
theorem sumsTo_m (hM : MZ ms Z) (hv : VZ Z) {a b c d : Nat} (ha : a < 7) (hb : b < 7) (hc : c < 7) (hd : d < 7) : ∃ s, f5_sumsTo ms (nI a) (nI b) (nI c) (nI d) = some (s, nI (ws Z a b c d)) ∧ msame ms s ∧ m_thrown s = m_thrown ms ∧ m_hash s = m_hash ms := by
  have h30 := LO_30 hv
  obtain ⟨on, mn, k1, k2, k3⟩ := layLeast_m hM hv
  obtain ⟨W0, i1, i2⟩ := init_m (ms := LE4 ms on mn) (nI a) (nI b) (nI c) (nI d)
  have hp7 : ∀ a b c d, a < 7 → b < 7 → c < 7 → d < 7 → pl7 a b c d < 2401 := fun a b c d h1 h2 h3 h4 => by unfold pl7; omega
  have hJ0 : JS W0 (Fi (LO Z) 0) := fun a b c d h1 h2 h3 h4 => by
    rw [i2 _ (hp7 a b c d h1 h2 h3 h4)]
    show _ = nI (if a = 0 ∧ b = 0 ∧ c = 0 ∧ d = 0 then 1 else 0)
    by_cases q : pl7 a b c d = 0
    · rw [if_pos q, if_pos (by unfold pl7 at q; omega)]
      rfl
    · rw [if_neg q, if_neg (fun z => q (by unfold pl7; omega))]
      rfl
  have key : ∃ r, wh (f5_sumsTo_b41 (nI a) (nI b) (nI c) (nI d)) FU (SM (LE4 ms on mn) W0, (0 : Int32)) = some r ∧ ∃ W, r = SM (LE4 ms on mn) W ∧ JS W (ws Z) := by
    refine wh_inv (LO Z).length (by omega) (fun i z => ∃ W, z = (SM (LE4 ms on mn) W, nI i) ∧ JS W (Fi (LO Z) i)) _ ⟨W0, rfl, hJ0⟩ ?_ ?_
    · rintro i _ hi ⟨W, rfl, hJ⟩
      obtain ⟨m1, m2, m3⟩ := lo_mem (getD_mem hi)
      obtain ⟨W', a1, a2⟩ := add_m (ms := LE4 ms on mn) (e := (LO Z).getD i 0) hJ m1 m2 (nI a) (nI b) (nI c) (nI d) (nI i)
      refine Or.inl ⟨(SM (LE4 ms on mn) W', nI (i + 1)), ?_, W', rfl, a2⟩
      unfold f5_sumsTo_b41
      simp only
      rw [show m_leastMany (SM (LE4 ms on mn) W) = _ from k2, if_neg (nI_ge hi (by omega)), if_pos (ib_n (by omega) (by omega)), tn (by omega), show m_leastOnes (SM (LE4 ms on mn) W) i = _ from k3 i _ (getD_some hi), show f5_digit (nI (dc ((LO Z).getD i 0))) 0 = _ from dig_dc _ (v := 0) (by omega), show f5_digit (nI (dc ((LO Z).getD i 0))) 1 = _ from dig_dc _ (v := 1) (by omega), show f5_digit (nI (dc ((LO Z).getD i 0))) 2 = _ from dig_dc _ (v := 2) (by omega), show f5_digit (nI (dc ((LO Z).getD i 0))) 3 = _ from dig_dc _ (v := 3) (by omega), show (343 : Int32) * nI (d6 ((LO Z).getD i 0) 0) = nI (343 * d6 ((LO Z).getD i 0) 0) from pk_mul 343 _, show (49 : Int32) * nI (d6 ((LO Z).getD i 0) 1) = nI (49 * d6 ((LO Z).getD i 0) 1) from pk_mul 49 _, show (7 : Int32) * nI (d6 ((LO Z).getD i 0) 2) = nI (7 * d6 ((LO Z).getD i 0) 2) from pk_mul 7 _, nI_add, nI_add, nI_add, lq_e, show nI (343 * d6 ((LO Z).getD i 0) 0 + 49 * d6 ((LO Z).getD i 0) 1 + 7 * d6 ((LO Z).getD i 0) 2 + d6 ((LO Z).getD i 0) 3) = nI (pl7 (d6 ((LO Z).getD i 0) 0) (d6 ((LO Z).getD i 0) 1) (d6 ((LO Z).getD i 0) 2) (d6 ((LO Z).getD i 0) 3)) from rfl, a1, bi1_s, nI_1]
    · rintro _ ⟨W, rfl, hJ⟩
      refine ⟨_, ?_, W, rfl, hJ⟩
      unfold f5_sumsTo_b41
      simp only
      rw [show m_leastMany (SM (LE4 ms on mn) W) = _ from k2, if_pos (Int32.le_refl _)]
  obtain ⟨r, r1, W, rfl, r2⟩ := key
  refine ⟨SM (LE4 ms on mn) W, ?_, (LE4_same ms on mn).t (SM_same _ W), rfl, rfl⟩
  have hp := hp7 a b c d ha hb hc hd
  unfold f5_sumsTo
  rw [k1, bi1_s, i1, bi1_s, r1, bi1_s, show (343 : Int32) * nI a = nI (343 * a) from pk_mul 343 _, show (49 : Int32) * nI b = nI (49 * b) from pk_mul 49 _, show (7 : Int32) * nI c = nI (7 * c) from pk_mul 7 _, nI_add, nI_add, nI_add, show nI (343 * a + 49 * b + 7 * c + d) = nI (pl7 a b c d) from rfl, if_pos (ib_n hp (by omega)), tn (by omega), show m_sumsOf (SM (LE4 ms on mn) W) (pl7 a b c d) = _ from r2 a b c d ha hb hc hd]
end QQ
