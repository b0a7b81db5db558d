/-! (of the class alone) -/
/-- a digit of base 6 -/
def d6 (n v : Nat) : Nat := n / 6 ^ (3 - v) % 6
theorem d6_lt (n v : Nat) : d6 n v < 6 := Nat.mod_lt _ (by omega)
def leb (y x : Nat) : Bool := decide (d6 y 0 ≤ d6 x 0 ∧ d6 y 1 ≤ d6 x 1 ∧ d6 y 2 ≤ d6 x 2 ∧ d6 y 3 ≤ d6 x 3)
def so4 (x y z w a b c d : Nat) : Prop := x * a + y * b + z * c + w * d = 5 * (a + b + c + d)
theorem so4_iff (x y z w a b c d : Nat) : so4 x y z w a b c d ↔ x * a + y * b + z * c + w * d = 5 * (a + b + c + d) := Iff.rfl
def sol (D : Nat → Nat) (x : Nat) : Bool := decide (D 0 * d6 x 0 + D 1 * d6 x 1 + D 2 * d6 x 2 + D 3 * d6 x 3 = 5 * (d6 x 0 + d6 x 1 + d6 x 2 + d6 x 3))
def tk (D : Nat → Nat) (l : List Nat) (n : Nat) : Bool := decide (¬ n = 0) && (sol D n && l.all fun y => !(leb y n))
/-- the least solutions below a place, in order -/
def lo (D : Nat → Nat) : Nat → List Nat
  | 0 => []
  | n + 1 => if tk D (lo D n) n = true then lo D n ++ [n] else lo D n
theorem leb_iff {y x : Nat} : leb y x = true ↔ d6 y 0 ≤ d6 x 0 ∧ d6 y 1 ≤ d6 x 1 ∧ d6 y 2 ≤ d6 x 2 ∧ d6 y 3 ≤ d6 x 3 := by
  unfold leb
  exact decide_eq_true_iff
theorem d6_0 (n : Nat) : d6 n 0 = n / 216 % 6 := by unfold d6; simp
theorem d6_1 (n : Nat) : d6 n 1 = n / 36 % 6 := by unfold d6; simp
theorem d6_2 (n : Nat) : d6 n 2 = n / 6 % 6 := by unfold d6; simp
theorem d6_3 (n : Nat) : d6 n 3 = n % 6 := by unfold d6; simp
theorem d6_at {a b c d : Nat} (ha : a < 6) (hb : b < 6) (hc : c < 6) (hd : d < 6) : d6 (216 * a + 36 * b + 6 * c + d) 0 = a ∧ d6 (216 * a + 36 * b + 6 * c + d) 1 = b ∧ d6 (216 * a + 36 * b + 6 * c + d) 2 = c ∧ d6 (216 * a + 36 * b + 6 * c + d) 3 = d := by
  rw [d6_0, d6_1, d6_2, d6_3]
  omega
theorem d6_of {n : Nat} (hn : n < 1296) : n = 216 * d6 n 0 + 36 * d6 n 1 + 6 * d6 n 2 + d6 n 3 := by
  rw [d6_0, d6_1, d6_2, d6_3]
  omega
theorem leb_t {x y z : Nat} (h : leb x y = true) (g : leb y z = true) : leb x z = true := by
  have h1 := leb_iff.mp h
  have h2 := leb_iff.mp g
  exact leb_iff.mpr ⟨by omega, by omega, by omega, by omega⟩
theorem leb_r (x : Nat) : leb x x = true := leb_iff.mpr ⟨by omega, by omega, by omega, by omega⟩
theorem tk_iff {D : Nat → Nat} {l : List Nat} {n : Nat} : tk D l n = true ↔ ¬ n = 0 ∧ sol D n = true ∧ ∀ y, y ∈ l → leb y n = false := by
  unfold tk
  rw [Bool.and_eq_true, Bool.and_eq_true, decide_eq_true_iff, List.all_eq_true]
  constructor
  · rintro ⟨h1, h2, h3⟩
    exact ⟨h1, h2, fun y hy => by simpa using h3 y hy⟩
  · rintro ⟨h1, h2, h3⟩
    exact ⟨h1, h2, fun y hy => by simp [h3 y hy]⟩
theorem lo_s (D : Nat → Nat) (n : Nat) : lo D (n + 1) = if tk D (lo D n) n = true then lo D n ++ [n] else lo D n := rfl
theorem lo_mem {D : Nat → Nat} : ∀ {n z : Nat}, z ∈ lo D n → z < n ∧ ¬ z = 0 ∧ sol D z = true
  | 0, z, h => by cases h
  | n + 1, z, h => by
    rw [lo_s] at h
    split at h
    · rename_i q
      rcases List.mem_append.mp h with h | h
      · have := lo_mem h
        exact ⟨by omega, this.2⟩
      · rw [List.mem_singleton.mp h]
        have := tk_iff.mp q
        exact ⟨by omega, this.1, this.2.1⟩
    · have := lo_mem h
      exact ⟨by omega, this.2⟩
theorem lo_cover {D : Nat → Nat} : ∀ {n y : Nat}, y < n → ¬ y = 0 → sol D y = true → ∃ z, z ∈ lo D n ∧ leb z y = true
  | 0, y, h, _, _ => absurd h (Nat.not_lt_zero _)
  | n + 1, y, h, h0, hs => by
    rw [lo_s]
    by_cases e : y = n
    · subst e
      by_cases q : tk D (lo D y) y = true
      · rw [if_pos q]
        exact ⟨y, List.mem_append.mpr (Or.inr (List.mem_singleton.mpr rfl)), leb_r y⟩
      · rw [if_neg q]
        by_cases w : ∀ z, z ∈ lo D y → leb z y = false
        · exact absurd (tk_iff.mpr ⟨h0, hs, w⟩) q
        · obtain ⟨z, hz⟩ := Classical.not_forall.mp w
          obtain ⟨h1, h2⟩ := Classical.not_imp.mp hz
          exact ⟨z, h1, by simpa using h2⟩
    · obtain ⟨z, h1, h2⟩ := lo_cover (n := n) (by omega) h0 hs
      refine ⟨z, ?_, h2⟩
      split
      · exact List.mem_append.mpr (Or.inl h1)
      · exact h1
/-- a solution that none lies below -/
def mq (x y z w a b c d : Nat) : Prop := 0 < a + b + c + d ∧ so4 x y z w a b c d ∧ ∀ a' b' c' d', 0 < a' + b' + c' + d' → so4 x y z w a' b' c' d' → a' ≤ a → b' ≤ b → c' ≤ c → d' ≤ d → a' + b' + c' + d' = a + b + c + d
noncomputable def mI (x y z w a b c d : Nat) : Nat := @ite Nat (mq x y z w a b c d) (Classical.propDecidable _) 1 0
theorem mI_1 {x y z w a b c d : Nat} (h : mq x y z w a b c d) : mI x y z w a b c d = 1 := if_pos h
theorem mI_le {x y z w a b c d v : Nat} (h : mq x y z w a b c d → 1 ≤ v) : mI x y z w a b c d ≤ v := by
  unfold mI
  split
  · rename_i q
    exact h q
  · exact Nat.zero_le _
theorem mI_eq {x y z w a b c d x' y' z' w' a' b' c' d' : Nat} (h : mq x y z w a b c d ↔ mq x' y' z' w' a' b' c' d') : mI x y z w a b c d = mI x' y' z' w' a' b' c' d' := by
  unfold mI
  by_cases q : mq x y z w a b c d
  · rw [if_pos q, if_pos (h.mp q)]
  · rw [if_neg q, if_neg (fun z => q (h.mpr z))]
theorem tk_mq {D : Nat → Nat} {n : Nat} (hn : n < 1296) (h : tk D (lo D n) n = true) : mq (D 0) (D 1) (D 2) (D 3) (d6 n 0) (d6 n 1) (d6 n 2) (d6 n 3) := by
  obtain ⟨h1, h2, h3⟩ := tk_iff.mp h
  have h4 := d6_of hn
  have h5 : so4 (D 0) (D 1) (D 2) (D 3) (d6 n 0) (d6 n 1) (d6 n 2) (d6 n 3) := by
    unfold sol at h2
    have h6 := decide_eq_true_iff.mp h2
    exact h6
  refine ⟨by omega, h5, fun a b c d g1 g2 g3 g4 g5 g6 => ?_⟩
  have b0 := d6_lt n 0
  have b1 := d6_lt n 1
  have b2 := d6_lt n 2
  have b3 := d6_lt n 3
  obtain ⟨e0, e1, e2, e3⟩ := d6_at (a := a) (b := b) (c := c) (d := d) (by omega) (by omega) (by omega) (by omega)
  obtain ⟨m, hm⟩ : ∃ m, m = 216 * a + 36 * b + 6 * c + d := ⟨_, rfl⟩
  rw [← hm] at e0 e1 e2 e3
  by_cases q : m = n
  · rw [← e0, ← e1, ← e2, ← e3, q]
  · exfalso
    have hs : sol D m = true := by
      unfold sol
      rw [e0, e1, e2, e3]
      exact decide_eq_true g2
    have hl : leb m n = true := leb_iff.mpr ⟨by omega, by omega, by omega, by omega⟩
    obtain ⟨z, z1, z2⟩ := lo_cover (D := D) (n := n) (y := m) (by omega) (by omega) hs
    have := h3 z z1
    rw [leb_t z2 hl] at this
    cases this
theorem lo_len {D : Nat → Nat} : ∀ n, n ≤ 1296 → (lo D n).length ≤ sm (fun m => mI (D 0) (D 1) (D 2) (D 3) (d6 m 0) (d6 m 1) (d6 m 2) (d6 m 3)) n
  | 0, _ => Nat.le_refl _
  | n + 1, h => by
    have ih := lo_len (D := D) n (by omega)
    rw [lo_s, sm]
    by_cases q : tk D (lo D n) n = true
    · rw [if_pos q, List.length_append, mI_1 (tk_mq (by omega) q)]
      exact Nat.add_le_add_right ih 1
    · rw [if_neg q]
      omega
theorem sm_mul (f : Nat → Nat) (n : Nat) : ∀ m, sm f (m * n) = sm (fun i => sm (fun j => f (n * i + j)) n) m
  | 0 => by rw [Nat.zero_mul]; rfl
  | m + 1 => by
    have h : ∀ k, sm f (m * n + k) = sm f (m * n) + sm (fun j => f (n * m + j)) k := by
      intro k
      induction k with
      | zero => rfl
      | succ k ih => rw [← Nat.add_assoc, sm, ih, sm, Nat.mul_comm n m, Nat.add_assoc]
    rw [Nat.succ_mul, h, sm_mul f n m, sm]
theorem sm_comm (f : Nat → Nat → Nat) (m : Nat) : ∀ n, sm (fun a => sm (fun b => f a b) m) n = sm (fun b => sm (fun a => f a b) n) m
  | 0 => (sm_zero m).symm
  | n + 1 => by
    rw [sm, sm_comm f m n, ← sm_add]
    rfl
noncomputable def mC (x y z w : Nat) : Nat := sm (fun a => sm (fun b => sm (fun c => sm (fun d => mI x y z w a b c d) 6) 6) 6) 6
theorem lo_mC (D : Nat → Nat) : (lo D 1296).length ≤ mC (D 0) (D 1) (D 2) (D 3) := by
  have h := lo_len (D := D) 1296 (Nat.le_refl _)
  rw [show (1296 : Nat) = 6 * 216 from rfl, sm_mul] at h
  refine Nat.le_trans h (Nat.le_of_eq ?_)
  unfold mC
  refine sm_congr (fun a ha => ?_)
  rw [show (216 : Nat) = 6 * 36 from rfl, sm_mul]
  refine sm_congr (fun b hb => ?_)
  rw [show (36 : Nat) = 6 * 6 from rfl, sm_mul]
  refine sm_congr (fun c hc => sm_congr (fun d hd => ?_))
  obtain ⟨e0, e1, e2, e3⟩ := d6_at ha hb hc hd
  rw [show 6 * 36 * a + (6 * 6 * b + (6 * c + d)) = 216 * a + 36 * b + 6 * c + d by omega, e0, e1, e2, e3]
theorem mC_01 (x y z w : Nat) : mC y x z w = mC x y z w := by
  unfold mC
  rw [sm_comm]
  refine sm_congr (fun a _ => sm_congr (fun b _ => sm_congr (fun c _ => sm_congr (fun d _ => mI_eq ?_))))
  unfold mq so4
  refine ⟨fun ⟨h1, h2, h3⟩ => ⟨by omega, by omega, fun a' b' c' d' g1 g2 g3 g4 g5 g6 => ?_⟩, fun ⟨h1, h2, h3⟩ => ⟨by omega, by omega, fun a' b' c' d' g1 g2 g3 g4 g5 g6 => ?_⟩⟩
  · have := h3 b' a' c' d' (by omega) (by omega) g4 g3 g5 g6
    omega
  · have := h3 b' a' c' d' (by omega) (by omega) g4 g3 g5 g6
    omega
theorem mC_12 (x y z w : Nat) : mC x z y w = mC x y z w := by
  unfold mC
  refine sm_congr (fun a _ => ?_)
  rw [sm_comm]
  refine sm_congr (fun b _ => sm_congr (fun c _ => sm_congr (fun d _ => mI_eq ?_)))
  unfold mq so4
  refine ⟨fun ⟨h1, h2, h3⟩ => ⟨by omega, by omega, fun a' b' c' d' g1 g2 g3 g4 g5 g6 => ?_⟩, fun ⟨h1, h2, h3⟩ => ⟨by omega, by omega, fun a' b' c' d' g1 g2 g3 g4 g5 g6 => ?_⟩⟩
  · have := h3 a' c' b' d' (by omega) (by omega) g3 g5 g4 g6
    omega
  · have := h3 a' c' b' d' (by omega) (by omega) g3 g5 g4 g6
    omega
theorem mC_23 (x y z w : Nat) : mC x y w z = mC x y z w := by
  unfold mC
  refine sm_congr (fun a _ => sm_congr (fun b _ => ?_))
  rw [sm_comm]
  refine sm_congr (fun c _ => sm_congr (fun d _ => mI_eq ?_))
  unfold mq so4
  refine ⟨fun ⟨h1, h2, h3⟩ => ⟨by omega, by omega, fun a' b' c' d' g1 g2 g3 g4 g5 g6 => ?_⟩, fun ⟨h1, h2, h3⟩ => ⟨by omega, by omega, fun a' b' c' d' g1 g2 g3 g4 g5 g6 => ?_⟩⟩
  · have := h3 a' b' d' c' (by omega) (by omega) g3 g4 g6 g5
    omega
  · have := h3 a' b' d' c' (by omega) (by omega) g3 g4 g6 g5
    omega
/-- a rule that keeps under swaps, and holds for four numbers in order, holds for all -/
theorem sort4 {P : Nat → Nat → Nat → Nat → Prop} (s01 : ∀ a b c d, P a b c d → P b a c d) (s12 : ∀ a b c d, P a b c d → P a c b d) (s23 : ∀ a b c d, P a b c d → P a b d c) (hs : ∀ a b c d, a ≤ b → b ≤ c → c ≤ d → P a b c d) : ∀ a b c d, P a b c d := by
  have A : ∀ a b c d, b ≤ c → c ≤ d → P a b c d := by
    intro a b c d h1 h2
    by_cases q : a ≤ b
    · exact hs a b c d q h1 h2
    · by_cases r : a ≤ c
      · exact s01 _ _ _ _ (hs b a c d (by omega) r h2)
      · by_cases t : a ≤ d
        · exact s01 _ _ _ _ (s12 _ _ _ _ (hs b c a d h1 (by omega) t))
        · exact s01 _ _ _ _ (s12 _ _ _ _ (s23 _ _ _ _ (hs b c d a h1 h2 (by omega))))
  have B : ∀ a b c d, c ≤ d → P a b c d := by
    intro a b c d h1
    by_cases q : b ≤ c
    · exact A a b c d q h1
    · by_cases r : b ≤ d
      · exact s12 _ _ _ _ (A a c b d (by omega) r)
      · exact s12 _ _ _ _ (s23 _ _ _ _ (A a c d b h1 (by omega)))
  intro a b c d
  by_cases q : c ≤ d
  · exact B a b c d q
  · exact s23 _ _ _ _ (B a b d c (by omega))
