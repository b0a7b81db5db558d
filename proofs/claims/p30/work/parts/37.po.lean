/-! (of the class alone) -/
/-- the variables of the pattern -/
def US (Z : Nat → Nat) : Nat := sm (fun f => if Z (4 + f) = 0 then 0 else 2 ^ f) 4
theorem US_lt (Z : Nat → Nat) : US Z < 16 := sm_bit (fun f => Z (4 + f)) 4
theorem solc_mem {m w r b e : Nat} {ws : List Nat} (h : e ∈ solc m (w :: ws) r b) : ∃ a, a ≤ m ∧ (w = 0 → a = 0) ∧ e ∈ solc m ws (r - w * a) (16 * b + a) := by
  rw [solc] at h
  obtain ⟨a, h1, h2⟩ := List.mem_flatMap.mp h
  have h3 : a < up w m r + 1 := List.mem_range.mp h1
  have h4 := up_le (w := w) (m := m) (r := r)
  refine ⟨a, by omega, fun e => ?_, h2⟩
  unfold up at h3
  rw [if_pos e] at h3
  omega
theorem solc_nil {m r b e : Nat} (h : e ∈ solc m [] r b) : e = b := by
  rw [solc] at h
  split at h
  · exact List.mem_singleton.mp h
  · cases h
theorem SL_mem {Z : Nat → Nat} (hv : VZ Z) {q : Int32} {e : Nat} (h : e ∈ SL Z q) : e < 65536 ∧ ∀ f, f < 4 → dg e f < 10 ∧ (Z (4 + f) = 0 → dg e f = 0) := by
  have h9 := hv.le9 (k := 25) (by omega)
  unfold SL at h
  split at h
  · cases h
  · obtain ⟨a, a1, a2, h⟩ := solc_mem h
    obtain ⟨b, b1, b2, h⟩ := solc_mem h
    obtain ⟨c, c1, c2, h⟩ := solc_mem h
    obtain ⟨d, d1, d2, h⟩ := solc_mem h
    have he := solc_nil h
    refine ⟨by omega, fun f hf => ?_⟩
    unfold dg
    rcases (show f = 0 ∨ f = 1 ∨ f = 2 ∨ f = 3 by omega) with rfl | rfl | rfl | rfl
    · rw [show e / 16 ^ (3 - 0) % 16 = a by simp; omega]
      exact ⟨by omega, a2⟩
    · rw [show e / 16 ^ (3 - 1) % 16 = b by simp; omega]
      exact ⟨by omega, b2⟩
    · rw [show e / 16 ^ (3 - 2) % 16 = c by simp; omega]
      exact ⟨by omega, c2⟩
    · rw [show e / 16 ^ (3 - 3) % 16 = d by simp; omega]
      exact ⟨by omega, d2⟩
theorem bits4 : ∀ a b c d a' b' c' d' : Bool, (a' = true → a = true) → (b' = true → b = true) → (c' = true → c = true) → (d' = true → d = true) → ((((0 + if a = true then 0 else 1) + if b = true then 0 else 2) + if c = true then 0 else 4) + if d = true then 0 else 8) &&& ((((0 + if a' = true then 0 else 1) + if b' = true then 0 else 2) + if c' = true then 0 else 4) + if d' = true then 0 else 8) = ((((0 + if a = true then 0 else 1) + if b = true then 0 else 2) + if c = true then 0 else 4) + if d = true then 0 else 8) := by decide +kernel
theorem sm4 (g : Nat → Nat) : sm (fun f => if g f = 0 then 0 else 2 ^ f) 4 = (((0 + if decide (g 0 = 0) = true then 0 else 1) + if decide (g 1 = 0) = true then 0 else 2) + if decide (g 2 = 0) = true then 0 else 4) + if decide (g 3 = 0) = true then 0 else 8 := by
  simp only [sm, decide_eq_true_eq, Nat.reducePow]
/-- a solution's support lies in the pattern -/
theorem mk_in {Z : Nat → Nat} (hv : VZ Z) {q : Int32} {e : Nat} (h : e ∈ SL Z q) : mk e &&& US Z = mk e := by
  obtain ⟨_, h1⟩ := SL_mem hv h
  rw [← mk_sm, US, sm4, sm4 (fun f => Z (4 + f))]
  refine bits4 _ _ _ _ _ _ _ _ ?_ ?_ ?_ ?_
  all_goals
    intro z
    rw [decide_eq_true_eq] at z ⊢
  · exact (h1 0 (by omega)).2 z
  · exact (h1 1 (by omega)).2 z
  · exact (h1 2 (by omega)).2 z
  · exact (h1 3 (by omega)).2 z
theorem cnt_out {U : Nat} {l : List Nat} (h : ∀ e, e ∈ l → mk e &&& U = mk e) {t : Nat} (ht : ¬ t &&& U = t) : cnt l t = 0 := by
  induction l with
  | nil => rfl
  | cons a l ih =>
    rw [cnt, if_neg, ih (fun e he => h e (List.mem_cons_of_mem _ he))]
    rintro rfl
    exact ht (h a (List.mem_cons_self ..))
theorem cnt_le (l : List Nat) (t : Nat) : cnt l t ≤ l.length := by
  induction l with
  | nil => exact Nat.le_refl _
  | cons a l ih =>
    rw [cnt, List.length_cons]
    split <;> omega
/-- in how many ways the places from 4 - n on reach what y asks -/
def Wk (x : Nat → Nat → Nat) (y : Nat → Nat) : Nat → Nat → Nat
  | 0, s => y s
  | n + 1, s => sm (fun t => x (3 - n) t * Wk x y n (s ||| t)) 16
theorem or_lt : ∀ a, a < 16 → ∀ b, b < 16 → a ||| b < 16 := by decide +kernel
theorem or_in : ∀ U, U < 16 → ∀ a, a < 16 → ∀ b, b < 16 → a &&& U = a → b &&& U = b → (a ||| b) &&& U = a ||| b := by decide +kernel
theorem Wk_eq {x : Nat → Nat → Nat} {y y' : Nat → Nat} {U : Nat} (hU : U < 16) (hx : ∀ p, p < 4 → ∀ t, t < 16 → ¬ t &&& U = t → x p t = 0) (hy : ∀ s, s < 16 → s &&& U = s → y s = y' s) : ∀ n, n ≤ 4 → ∀ s, s < 16 → s &&& U = s → Wk x y n s = Wk x y' n s
  | 0, _, s, h1, h2 => hy s h1 h2
  | n + 1, hn, s, h1, h2 => by
    rw [Wk, Wk]
    refine sm_congr (fun t ht => ?_)
    by_cases q : t &&& U = t
    · rw [Wk_eq hU hx hy n (by omega) (s ||| t) (or_lt s h1 t ht) (or_in U hU s h1 t ht h2 q)]
    · rw [hx (3 - n) (by omega) t ht q, Nat.zero_mul, Nat.zero_mul]
section PO
variable {Z : Nat → Nat}
end PO
