/-! Least solutions whose differences are at most two have numbers below four; the places of base four among those of base six. -/
theorem mq_s01 {x y z w a b c d : Nat} (h : mq x y z w a b c d) : mq y x z w b a c d := by
  unfold mq so4 at *
  obtain ⟨h1, h2, h3⟩ := h
  refine ⟨by omega, by omega, fun a' b' c' d' g1 g2 g3 g4 g5 g6 => ?_⟩
  have := h3 b' a' c' d' (by omega) (by omega) g4 g3 g5 g6
  omega
theorem mq_s12 {x y z w a b c d : Nat} (h : mq x y z w a b c d) : mq x z y w a c b d := by
  unfold mq so4 at *
  obtain ⟨h1, h2, h3⟩ := h
  refine ⟨by omega, by omega, fun a' b' c' d' g1 g2 g3 g4 g5 g6 => ?_⟩
  have := h3 a' c' b' d' (by omega) (by omega) g3 g5 g4 g6
  omega
theorem mq_s23 {x y z w a b c d : Nat} (h : mq x y z w a b c d) : mq x y w z a b d c := by
  unfold mq so4 at *
  obtain ⟨h1, h2, h3⟩ := h
  refine ⟨by omega, by omega, fun a' b' c' d' g1 g2 g3 g4 g5 g6 => ?_⟩
  have := h3 a' b' d' c' (by omega) (by omega) g3 g4 g6 g5
  omega
/-- one variable beside a great one -/
theorem side {x y b : Nat} (hy : 3 ≤ y ∧ y ≤ 7) (P : ∀ p q, p ≤ 2 → q ≤ 2 → 0 < q → 0 < p → x * p + y * q = 5 * (p + q) → p + q < 4 → b < q) : (x = 6 → 5 * b ≤ y * b) ∧ (x = 7 → 5 * b ≤ y * b + 1) ∧ (x = 4 → y * b ≤ 5 * b) ∧ (x = 3 → y * b ≤ 5 * b + 1) := by
  rcases (show y = 3 ∨ y = 4 ∨ y = 5 ∨ y = 6 ∨ y = 7 by omega) with rfl | rfl | rfl | rfl | rfl
  · refine ⟨fun e => ?_, fun e => ?_, fun e => by omega, fun e => by omega⟩
    · have := P 2 1 (by omega) (by omega) (by omega) (by omega) (by rw [e]) (by omega)
      omega
    · have := P 1 1 (by omega) (by omega) (by omega) (by omega) (by rw [e]) (by omega)
      omega
  · refine ⟨fun e => ?_, fun e => ?_, fun e => by omega, fun e => by omega⟩
    · have := P 1 1 (by omega) (by omega) (by omega) (by omega) (by rw [e]) (by omega)
      omega
    · have := P 1 2 (by omega) (by omega) (by omega) (by omega) (by rw [e]) (by omega)
      omega
  · exact ⟨fun e => by omega, fun e => by omega, fun e => by omega, fun e => by omega⟩
  · refine ⟨fun e => by omega, fun e => by omega, fun e => ?_, fun e => ?_⟩
    · have := P 1 1 (by omega) (by omega) (by omega) (by omega) (by rw [e]) (by omega)
      omega
    · have := P 1 2 (by omega) (by omega) (by omega) (by omega) (by rw [e]) (by omega)
      omega
  · refine ⟨fun e => by omega, fun e => by omega, fun e => ?_, fun e => ?_⟩
    · have := P 2 1 (by omega) (by omega) (by omega) (by omega) (by rw [e]) (by omega)
      omega
    · have := P 1 1 (by omega) (by omega) (by omega) (by omega) (by rw [e]) (by omega)
      omega
theorem small1 {x y z w a b c d : Nat} (hx : 3 ≤ x ∧ x ≤ 7) (hy : 3 ≤ y ∧ y ≤ 7) (hz : 3 ≤ z ∧ z ≤ 7) (hw : 3 ≤ w ∧ w ≤ 7) (h : mq x y z w a b c d) : a < 4 := by
  rcases Nat.lt_or_ge a 4 with q | q
  · exact q
  exfalso
  unfold mq so4 at h
  obtain ⟨h1, h2, h3⟩ := h
  obtain ⟨y6, y7, y4, y3⟩ := side (x := x) (b := b) hy (fun p q e1 e2 e3 e4 e5 e6 => by
    rcases Nat.lt_or_ge b q with g | g
    · exact g
    · have := h3 p q 0 0 (by omega) (by omega) (by omega) (by omega) (by omega) (by omega)
      omega)
  obtain ⟨z6, z7, z4, z3⟩ := side (x := x) (b := c) hz (fun p q e1 e2 e3 e4 e5 e6 => by
    rcases Nat.lt_or_ge c q with g | g
    · exact g
    · have := h3 p 0 q 0 (by omega) (by omega) (by omega) (by omega) (by omega) (by omega)
      omega)
  obtain ⟨w6, w7, w4, w3⟩ := side (x := x) (b := d) hw (fun p q e1 e2 e3 e4 e5 e6 => by
    rcases Nat.lt_or_ge d q with g | g
    · exact g
    · have := h3 p 0 0 q (by omega) (by omega) (by omega) (by omega) (by omega) (by omega)
      omega)
  rcases (show x = 3 ∨ x = 4 ∨ x = 5 ∨ x = 6 ∨ x = 7 by omega) with e | e | e | e | e
  · have := y3 e
    have := z3 e
    have := w3 e
    subst e
    omega
  · have := y4 e
    have := z4 e
    have := w4 e
    subst e
    omega
  · have := h3 1 0 0 0 (by omega) (by rw [e]; omega) (by omega) (by omega) (by omega) (by omega)
    omega
  · have := y6 e
    have := z6 e
    have := w6 e
    subst e
    omega
  · have := y7 e
    have := z7 e
    have := w7 e
    subst e
    omega
theorem small {x y z w a b c d : Nat} (hx : 3 ≤ x ∧ x ≤ 7) (hy : 3 ≤ y ∧ y ≤ 7) (hz : 3 ≤ z ∧ z ≤ 7) (hw : 3 ≤ w ∧ w ≤ 7) (h : mq x y z w a b c d) : a < 4 ∧ b < 4 ∧ c < 4 ∧ d < 4 :=
  ⟨small1 hx hy hz hw h, small1 hy hx hz hw (mq_s01 h), small1 hz hx hy hw (mq_s01 (mq_s12 h)), small1 hw hx hy hz (mq_s01 (mq_s12 (mq_s23 h)))⟩
/-- the differences are at most two -/
def D2 (D : Nat → Nat) : Prop := ∀ v, v < 4 → 3 ≤ D v ∧ D v ≤ 7
/-- all digits are below four -/
def lt4 (n : Nat) : Prop := d6 n 0 < 4 ∧ d6 n 1 < 4 ∧ d6 n 2 < 4 ∧ d6 n 3 < 4
theorem tk_lt4 {D : Nat → Nat} (hD : D2 D) {n : Nat} (hn : n < 1296) (h : tk D (lo D n) n = true) : lt4 n := small (hD 0 (by omega)) (hD 1 (by omega)) (hD 2 (by omega)) (hD 3 (by omega)) (tk_mq hn h)
theorem lo_skip {D : Nat → Nat} (hD : D2 D) {a : Nat} : ∀ b, a ≤ b → b ≤ 1296 → (∀ n, a ≤ n → n < b → ¬ lt4 n) → lo D b = lo D a
  | 0, h1, _, _ => by rw [show a = 0 by omega]
  | b + 1, h1, h2, h3 => by
    by_cases e : a = b + 1
    · rw [e]
    · rw [lo_s, if_neg (fun z => h3 b (by omega) (by omega) (tk_lt4 hD (by omega) z))]
      exact lo_skip hD b (by omega) (by omega) (fun n g1 g2 => h3 n g1 (by omega))
theorem lo_tk {D : Nat → Nat} : ∀ {n e : Nat}, e ∈ lo D n → tk D (lo D e) e = true ∧ e < n
  | 0, e, h => by cases h
  | n + 1, e, h => by
    rw [lo_s] at h
    split at h
    · rename_i q
      rcases List.mem_append.mp h with h | h
      · have := lo_tk h
        exact ⟨this.1, by omega⟩
      · rw [List.mem_singleton.mp h]
        exact ⟨q, by omega⟩
    · have := lo_tk h
      exact ⟨this.1, by omega⟩
theorem lo_get {D : Nat → Nat} {n i e : Nat} (h : (lo D n)[i]? = some e) : ∀ m, n ≤ m → (lo D m)[i]? = some e
  | 0, hm => by rw [show (0 : Nat) = n by omega]; exact h
  | m + 1, hm => by
    by_cases q : n = m + 1
    · rw [← q]
      exact h
    · have ih := lo_get h m (by omega)
      rw [lo_s]
      split
      · rw [List.getElem?_append, if_pos]
        · exact ih
        · rcases Nat.lt_or_ge i (lo D m).length with z | z
          · exact z
          · rw [List.getElem?_eq_none z] at ih; cases ih
      · exact ih
theorem gm_app (l l' : List Nat) : ∀ i, i ≤ l.length → gm (l ++ l') i = gm l i
  | 0, _ => rfl
  | i + 1, h => by
    have e : (l ++ l').getD i 0 = l.getD i 0 := by
      rw [List.getD_eq_getElem?_getD, List.getD_eq_getElem?_getD, List.getElem?_append, if_pos (by omega)]
    rw [gm, gm, gm_app l l' i (by omega), e]
theorem gm_one (l : List Nat) (n : Nat) : gm (l ++ [n]) (l.length + 1) = if gm l l.length < sd n then sd n else gm l l.length := by
  have e : (l ++ [n]).getD l.length 0 = n := by
    rw [List.getD_eq_getElem?_getD, List.getElem?_append, if_neg (by omega)]
    simp
  rw [gm, gm_app l [n] l.length (Nat.le_refl _), e]
/-- the place of a number of four digits of base four -/
def cv (k : Nat) : Nat := 216 * (k / 64) + 36 * (k / 16 % 4) + 6 * (k / 4 % 4) + k % 4
def uc (e : Nat) : Nat := 64 * d6 e 0 + 16 * d6 e 1 + 4 * d6 e 2 + d6 e 3
theorem cv_d {k : Nat} (hk : k < 256) : d6 (cv k) 0 = k / 64 ∧ d6 (cv k) 1 = k / 16 % 4 ∧ d6 (cv k) 2 = k / 4 % 4 ∧ d6 (cv k) 3 = k % 4 := d6_at (by omega) (by omega) (by omega) (by omega)
theorem uc_cv {k : Nat} (hk : k < 256) : uc (cv k) = k := by
  obtain ⟨e0, e1, e2, e3⟩ := cv_d hk
  unfold uc
  rw [e0, e1, e2, e3]
  omega
theorem dig4 {a b c d : Nat} (ha : a < 4) (hb : b < 4) (hc : c < 4) (hd : d < 4) : (64 * a + 16 * b + 4 * c + d) / 64 = a ∧ (64 * a + 16 * b + 4 * c + d) / 16 % 4 = b ∧ (64 * a + 16 * b + 4 * c + d) / 4 % 4 = c ∧ (64 * a + 16 * b + 4 * c + d) % 4 = d := by
  refine ⟨by omega, ?_, ?_, by omega⟩
  · rw [show (64 * a + 16 * b + 4 * c + d) / 16 = 4 * a + b by omega]
    omega
  · rw [show (64 * a + 16 * b + 4 * c + d) / 4 = 16 * a + 4 * b + c by omega]
    omega
theorem of4 {k : Nat} (hk : k < 256) : ∃ a b c d, a < 4 ∧ b < 4 ∧ c < 4 ∧ d < 4 ∧ k = 64 * a + 16 * b + 4 * c + d ∧ cv k = 216 * a + 36 * b + 6 * c + d :=
  ⟨k / 64, k / 16 % 4, k / 4 % 4, k % 4, by omega, by omega, by omega, by omega, by omega, rfl⟩
theorem cv_uc {n : Nat} (hn : n < 1296) (h : lt4 n) : cv (uc n) = n ∧ uc n < 256 := by
  obtain ⟨h0, h1, h2, h3⟩ := h
  have e := d6_of hn
  obtain ⟨e0, e1, e2, e3⟩ := dig4 h0 h1 h2 h3
  refine ⟨?_, by unfold uc; omega⟩
  unfold cv uc
  rw [e0, e1, e2, e3]
  exact e.symm
theorem cv_lt {k : Nat} (hk : k < 256) : cv k < 1296 := by
  unfold cv
  omega
theorem cv_mono {j k : Nat} (h : j < k) (hk : k < 256) : cv j < cv k := by
  obtain ⟨a, b, c, d, a1, a2, a3, a4, a5, a6⟩ := of4 hk
  obtain ⟨a', b', c', d', b1, b2, b3, b4, b5, b6⟩ := of4 (k := j) (by omega)
  rw [a6, b6]
  omega
/-- between two of these places nothing is found -/
theorem cv_gap {k n : Nat} (hk : k < 255) (h1 : cv k + 1 ≤ n) (h2 : n < cv (k + 1)) : ¬ lt4 n := by
  intro h
  have hn := cv_lt (k := k + 1) (by omega)
  obtain ⟨e1, e2⟩ := cv_uc (n := n) (by omega) h
  rcases Nat.lt_or_ge k (uc n) with q | q
  · rcases Nat.lt_or_ge (k + 1) (uc n) with z | z
    · have := cv_mono z e2
      omega
    · rw [show uc n = k + 1 by omega] at e1
      omega
  · rcases Nat.lt_or_ge (uc n) k with z | z
    · have := cv_mono z (by omega)
      omega
    · rw [show uc n = k by omega] at e1
      omega
theorem cv_end {n : Nat} (h1 : cv 255 + 1 ≤ n) (h2 : n < 1296) : ¬ lt4 n := by
  intro h
  obtain ⟨e1, e2⟩ := cv_uc (n := n) (by omega) h
  rcases Nat.lt_or_ge (uc n) 255 with z | z
  · have := cv_mono z (by omega)
    omega
  · rw [show uc n = 255 by omega] at e1
    omega
/-- what is found before k -/
def LK (D : Nat → Nat) (k : Nat) : List Nat := if k < 256 then lo D (cv k) else lo D 1296
theorem LK_1 (D : Nat → Nat) : LK D 1 = [] := by
  unfold LK
  rw [if_pos (by omega)]
  show (if tk D [] 0 = true then [] ++ [0] else []) = []
  rw [if_neg (fun z => (tk_iff.mp z).1 rfl)]
theorem LK_s {D : Nat → Nat} (hD : D2 D) {k : Nat} (hk : k < 256) : LK D (k + 1) = if tk D (LK D k) (cv k) = true then LK D k ++ [cv k] else LK D k := by
  have e : LK D (k + 1) = lo D (cv k + 1) := by
    unfold LK
    by_cases q : k + 1 < 256
    · rw [if_pos q]
      have h9 := cv_mono (j := k) (k := k + 1) (by omega) q
      have h8 := cv_lt q
      exact lo_skip hD _ (by omega) (by omega) (fun n g1 g2 => cv_gap (by omega) g1 g2)
    · rw [if_neg q, show k = 255 by omega]
      have h8 := cv_lt (k := 255) (by omega)
      exact lo_skip hD _ (by omega) (by omega) (fun n g1 g2 => cv_end g1 g2)
  rw [e, lo_s, LK, if_pos hk]
theorem LK_mem {D : Nat → Nat} (hD : D2 D) {k e : Nat} (h : e ∈ LK D k) : lt4 e ∧ e < 1296 := by
  unfold LK at h
  split at h
  · rename_i q
    have h8 := cv_lt q
    obtain ⟨h1, h2⟩ := lo_tk h
    exact ⟨tk_lt4 hD (by omega) h1, by omega⟩
  · obtain ⟨h1, h2⟩ := lo_tk h
    exact ⟨tk_lt4 hD h2 h1, h2⟩
theorem LK_get {D : Nat → Nat} {k i e : Nat} (h : (LK D k)[i]? = some e) : (lo D 1296)[i]? = some e := by
  unfold LK at h
  split at h
  · rename_i q
    have h8 := cv_lt q
    exact lo_get h 1296 (by omega)
  · exact h
theorem LK_len {D : Nat → Nat} (k : Nat) : (LK D k).length ≤ (lo D 1296).length := by
  unfold LK
  split
  · rename_i q
    have h8 := cv_lt q
    exact lo_len_mono D (by omega)
  · exact Nat.le_refl _
theorem LK_e (D : Nat → Nat) : LK D 256 = lo D 1296 := by
  unfold LK
  rw [if_neg (by omega)]
