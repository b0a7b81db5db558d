/-! (of the class alone) -/
def sz (f : Nat → Int) : Nat → Int
  | 0 => 0
  | n + 1 => sz f n + f n
theorem sz_congr {f g : Nat → Int} : ∀ {n : Nat}, (∀ k, k < n → f k = g k) → sz f n = sz g n
  | 0, _ => rfl
  | n + 1, h => by rw [sz, sz, sz_congr (fun k hk => h k (by omega)), h n (by omega)]
theorem sz_add (f g : Nat → Int) : ∀ n, sz (fun k => f k + g k) n = sz f n + sz g n
  | 0 => rfl
  | n + 1 => by rw [sz, sz, sz, sz_add f g n]; omega
theorem sz_mul (c : Int) (f : Nat → Int) : ∀ n, sz (fun k => c * f k) n = c * sz f n
  | 0 => by simp [sz]
  | n + 1 => by rw [sz, sz, sz_mul c f n, Int.mul_add]
theorem sz_zero : ∀ n, sz (fun _ => 0) n = 0
  | 0 => rfl
  | n + 1 => by rw [sz, sz_zero n]; rfl
theorem sz_swap (f : Nat → Nat → Int) : ∀ n m, sz (fun i => sz (f i) m) n = sz (fun j => sz (fun i => f i j) n) m
  | 0, m => by
    show (0 : Int) = sz (fun j => 0) m
    rw [sz_zero]
  | n + 1, m => by
    rw [sz, sz_swap f n m, ← sz_add]
    rfl
theorem sm_sz (f : Nat → Nat) : ∀ n, ((sm f n : Nat) : Int) = sz (fun k => (f k : Int)) n
  | 0 => rfl
  | n + 1 => by rw [sm, sz, Int.natCast_add, sm_sz f n]
/-- the sign of a set -/
def sg (E : Nat) : Int := if (E % 2 + E / 2 % 2 + E / 4 % 2 + E / 8 % 2) % 2 = 0 then 1 else -1
theorem ie_base : ∀ P, P < 16 → ∀ s, s < 16 → sz (fun E => if E &&& P = E ∧ E &&& s = 0 then sg E else 0) 16 = if s &&& P = P then 1 else 0 := by decide +kernel
theorem ie_step : ∀ s, s < 16 → ∀ t, t < 16 → ∀ E, E < 16 → (E &&& (s ||| t) = 0 ↔ (E &&& s = 0 ∧ t &&& E = 0)) := by decide +kernel
/-- the product of the last n places' sums -/
def PE (x : Nat → Nat → Nat) (E : Nat) : Nat → Int
  | 0 => 1
  | n + 1 => (AE (x (3 - n)) E : Int) * PE x E n
theorem ie (x : Nat → Nat → Nat) {P : Nat} (hP : P < 16) : ∀ n s, s < 16 → ((Wk x (yM P) n s : Nat) : Int) = sz (fun E => if E &&& P = E ∧ E &&& s = 0 then sg E * PE x E n else 0) 16
  | 0, s, hs => by
    have h := ie_base P hP s hs
    have h2 : ((Wk x (yM P) 0 s : Nat) : Int) = if s &&& P = P then 1 else 0 := by
      show ((if s &&& P = P then 1 else 0 : Nat) : Int) = _
      split <;> rfl
    rw [h2, ← h]
    refine sz_congr (fun E _ => ?_)
    split
    · exact (Int.mul_one _).symm
    · rfl
  | n + 1, s, hs => by
    have h1 : ((Wk x (yM P) (n + 1) s : Nat) : Int) = sz (fun t => (x (3 - n) t : Int) * sz (fun E => if E &&& P = E ∧ E &&& (s ||| t) = 0 then sg E * PE x E n else 0) 16) 16 := by
      rw [Wk, sm_sz]
      refine sz_congr (fun t ht => ?_)
      rw [Int.natCast_mul, ie x hP n _ (or_lt s hs t ht)]
    rw [h1]
    have h2 : sz (fun t => (x (3 - n) t : Int) * sz (fun E => if E &&& P = E ∧ E &&& (s ||| t) = 0 then sg E * PE x E n else 0) 16) 16 = sz (fun t => sz (fun E => (x (3 - n) t : Int) * (if E &&& P = E ∧ E &&& (s ||| t) = 0 then sg E * PE x E n else 0)) 16) 16 :=
      sz_congr (fun t _ => (sz_mul _ _ _).symm)
    rw [h2, sz_swap]
    refine sz_congr (fun E hE => ?_)
    by_cases q : E &&& P = E ∧ E &&& s = 0
    · rw [if_pos q]
      have h3 : sz (fun t => (x (3 - n) t : Int) * (if E &&& P = E ∧ E &&& (s ||| t) = 0 then sg E * PE x E n else 0)) 16 = sz (fun t => (sg E * PE x E n) * ((if t &&& E = 0 then x (3 - n) t else 0 : Nat) : Int)) 16 := by
        refine sz_congr (fun t ht => ?_)
        have e := ie_step s hs t ht E hE
        by_cases z : t &&& E = 0
        · rw [if_pos ⟨q.1, e.mpr ⟨q.2, z⟩⟩, if_pos z, Int.mul_comm]
        · rw [if_neg (fun w => z (e.mp w.2).2), if_neg z]
          simp
      rw [h3, sz_mul, ← sm_sz, PE, Int.mul_assoc, Int.mul_comm (PE x E n)]
      rfl
    · rw [if_neg q]
      have h3 : sz (fun t => (x (3 - n) t : Int) * (if E &&& P = E ∧ E &&& (s ||| t) = 0 then sg E * PE x E n else 0)) 16 = sz (fun _ => 0) 16 := by
        refine sz_congr (fun t ht => ?_)
        have e := ie_step s hs t ht E hE
        rw [if_neg (fun w => q ⟨w.1, (e.mp w.2).1⟩)]
        simp
      rw [h3, sz_zero]
