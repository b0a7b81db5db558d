/-! The pure side: numbers, loops with a trajectory, the simplest pictures. -/
theorem tn {n : Nat} (h : n < 2 ^ 31) : (nI n).toNatClampNeg = n := nI_clamp h
theorem ib_n {n N : Nat} (h : n < N) (hN : N < 2 ^ 31) : ib (nI n) N = true := by
  have h1 : ¬ nI n < 0 := nI_pos (by omega)
  simp [ib, h1, nI_clamp (show n < 2 ^ 31 by omega), h]
theorem ib_nf {n N : Nat} (h : N ≤ n) (hn : n < 2 ^ 31) : ib (nI n) N = false := by
  simp [ib, nI_clamp hn]
  omega
theorem ib_neg {x : Int32} {N : Nat} (h : x < 0) : ib x N = false := by simp [ib, h]
theorem wh_for {σ ρ : Type} (b : σ → Option (σ ⊕ ρ)) (n : Nat) (hn : n < 4999) (f : Nat → σ) (r : ρ) (hs : ∀ i, i < n → b (f i) = some (.inl (f (i + 1)))) (he : b (f n) = some (.inr r)) : wh b FU (f 0) = some r := by
  have key : ∀ (k m : Nat), m + k = n → ∀ F, k < F → wh b F (f m) = some r := by
    intro k
    induction k with
    | zero =>
      intro m hm F hF
      obtain ⟨F', rfl⟩ : ∃ F', F = F' + 1 := ⟨F - 1, by omega⟩
      have : m = n := by omega
      subst this
      rw [wh, he]
    | succ k ih =>
      intro m hm F hF
      obtain ⟨F', rfl⟩ : ∃ F', F = F' + 1 := ⟨F - 1, by omega⟩
      rw [wh, hs m (by omega)]
      exact ih (m + 1) (by omega) F' (by omega)
  exact key n 0 (by omega) FU (by unfold FU; omega)
/-- the same, from a start that is the trajectory's -/
theorem wh_for' {σ ρ : Type} {b : σ → Option (σ ⊕ ρ)} {z : σ} (n : Nat) (hn : n < 4999) (f : Nat → σ) (hz : z = f 0) {r : ρ} (hs : ∀ i, i < n → b (f i) = some (.inl (f (i + 1)))) (he : b (f n) = some (.inr r)) : wh b FU z = some r := hz ▸ wh_for b n hn f r hs he
theorem bi1_s {α β : Type} (a : α) (f : α → Option β) : bi1 (some a) f = f a := rfl
theorem bi2_s {α β γ : Type} (a : α) (b : β) (f : α → β → Option γ) : bi2 (some (a, b)) f = f a b := rfl
theorem bt0_r {α β γ : Type} (s : α) (b : β) (f : β → Option (α × (Nat ⊕ γ))) : bt0 s (.inr b) f = f b := rfl
theorem bt0_l {α β γ : Type} (s : α) (e : Nat) (f : β → Option (α × (Nat ⊕ γ))) : bt0 s (.inl e) f = some (s, .inl e) := rfl
theorem bt2_r {α β γ : Type} (s : α) (b : β) (f : α → β → Option (α × (Nat ⊕ γ))) : bt2 (some (s, .inr b)) f = f s b := rfl
theorem bt2_l {α β γ : Type} (s : α) (e : Nat) (f : α → β → Option (α × (Nat ⊕ γ))) : bt2 (some (s, .inl e)) f = some (s, .inl e) := rfl
theorem nx_r {α β : Type} (s : α) (b : β) : nx (some (s, (.inr b : Nat ⊕ β))) = some (s, b) := rfl
theorem lq_e {α β : Type} (a : α) (f : α → β) : lq a f = f a := rfl
def sm (f : Nat → Nat) : Nat → Nat
  | 0 => 0
  | n + 1 => sm f n + f n
theorem sm_le {f : Nat → Nat} {c : Nat} : ∀ {n : Nat}, (∀ k, k < n → f k ≤ c) → sm f n ≤ n * c
  | 0, _ => by simp [sm]
  | n + 1, h => by
    have h1 := sm_le (n := n) (fun k hk => h k (by omega))
    have h2 := h n (by omega)
    rw [sm, Nat.succ_mul]
    omega
theorem sm_congr {f g : Nat → Nat} : ∀ {n : Nat}, (∀ k, k < n → f k = g k) → sm f n = sm g n
  | 0, _ => rfl
  | n + 1, h => by rw [sm, sm, sm_congr (fun k hk => h k (by omega)), h n (by omega)]
/-- an argument is one of the first n numbers, or none of them -/
theorem ar (x : Int32) (n : Nat) (hn : n < 2 ^ 31) : (∃ k, k < n ∧ x = nI k) ∨ (x < 0 ∨ nI n ≤ x) := by
  rcases pk_ix x hn with h | h | h
  · exact Or.inr (Or.inl h)
  · exact Or.inr (Or.inr h)
  · exact Or.inl h
theorem needIndex_in {k n : Nat} (h : k < n) (hn : n < 2 ^ 31) : f4_needIndex (nI k) (nI n) = .inr () := by
  unfold f4_needIndex
  rw [if_neg (nI_pos (by omega)), if_pos (nI_lt h hn)]
theorem needIndex_out {x : Int32} {n : Nat} (h : x < 0 ∨ nI n ≤ x) : f4_needIndex x (nI n) = .inl 0 := by
  unfold f4_needIndex
  rcases h with h | h
  · rw [if_pos h]
  · by_cases h0 : x < 0
    · rw [if_pos h0]
    · rw [if_neg h0, if_neg (Int32.not_lt.mpr h)]
theorem needNumber_in {k n : Nat} (h : k ≤ n) (hn : n < 2 ^ 31) : f4_needNumber (nI k) 0 (nI n) = .inr () := by
  unfold f4_needNumber
  rw [if_neg (nI_pos (by omega)), if_pos (nI_le h hn)]
theorem lt_succ_of {x : Int32} {n : Nat} (hn : n + 1 < 2 ^ 31) (h : nI (n + 1) ≤ x) : nI n < x := by
  rw [Int32.lt_iff_toInt_lt, nI_toInt (by omega)]
  rw [Int32.le_iff_toInt_le, nI_toInt (by omega)] at h
  omega
theorem needNumber_out {x : Int32} {n : Nat} (hn : n + 1 < 2 ^ 31) (h : x < 0 ∨ nI (n + 1) ≤ x) : f4_needNumber x 0 (nI n) = .inl 1 := by
  unfold f4_needNumber
  rcases h with h | h
  · rw [if_pos h]
  · by_cases h0 : x < 0
    · rw [if_pos h0]
    · rw [if_neg h0, if_neg (Int32.not_le.mpr (lt_succ_of hn h))]
theorem within_in {k n : Nat} (h : k ≤ n) (hn : n < 2 ^ 31) : f5_within (nI k) 0 (nI n) = 1 := by
  unfold f5_within
  rw [if_neg (nI_pos (by omega)), if_neg (nI_nlt h hn)]
theorem within_out {x : Int32} {n : Nat} (hn : n + 1 < 2 ^ 31) (h : x < 0 ∨ nI (n + 1) ≤ x) : f5_within x 0 (nI n) = 0 := by
  unfold f5_within
  rcases h with h | h
  · rw [if_pos h]
  · by_cases h0 : x < 0
    · rw [if_pos h0]
    · rw [if_neg h0, if_pos (lt_succ_of hn h)]
theorem e8 (p f : Nat) : (8 : Int32) * nI p + nI f = nI (8 * p + f) := by rw [show (8 : Int32) = nI 8 from rfl, pk_mul, nI_add]
theorem e8' (p f : Nat) : nI p * (8 : Int32) + nI f = nI (8 * p + f) := by rw [show (8 : Int32) = nI 8 from rfl, pk_mul, nI_add, Nat.mul_comm]
theorem ek (k f : Nat) {x : Int32} (h : x = nI k) : x + nI f = nI (k + f) := by rw [h, nI_add]
theorem emk (k p f : Nat) {x : Int32} (h : x = nI k) : x * nI p + nI f = nI (k * p + f) := by rw [h, pk_mul, nI_add]
theorem nle {a b : Nat} (h : a < b) (hb : b < 2 ^ 31) : ¬ nI b ≤ nI a := nI_ge h hb
-- the state: three products of eight numbers, two settings
def VP (Z : Nat → Nat) : Prop := (∀ p f, p < 3 → f < 4 → Z (8 * p + f) ≤ 9) ∧ (∀ p f, p < 2 → f < 4 → Z (8 * p + 4 + f) ≤ 5) ∧ ∀ f, f < 4 → Z (20 + f) = 0
def VZ (Z : Nat → Nat) : Prop := VP Z ∧ Z 24 ≤ 1 ∧ Z 25 ≤ 9
theorem VP.le9 {Z : Nat → Nat} (h : VP Z) {p f : Nat} (hp : p < 3) (hf : f < 8) : Z (8 * p + f) ≤ 9 := by
  rcases Nat.lt_or_ge f 4 with q | q
  · exact h.1 p f hp q
  · rcases Nat.lt_or_ge p 2 with q2 | q2
    · have := h.2.1 p (f - 4) q2 (by omega)
      rw [show 8 * p + 4 + (f - 4) = 8 * p + f by omega] at this
      omega
    · have := h.2.2 (f - 4) (by omega)
      rw [show 8 * p + f = 20 + (f - 4) by omega]
      omega
theorem VZ.le9 {Z : Nat → Nat} (h : VZ Z) {k : Nat} (hk : k < 26) : Z k ≤ 9 := by
  rcases Nat.lt_or_ge k 24 with q | q
  · have := h.1.le9 (p := k / 8) (f := k % 8) (by omega) (by omega)
    rw [show 8 * (k / 8) + k % 8 = k by omega] at this
    exact this
  · rcases (show k = 24 ∨ k = 25 by omega) with rfl | rfl
    · have := h.2.1; omega
    · exact h.2.2
def CZ (st : CS) (Z : Nat → Nat) : Prop := ∀ k, k < 26 → c_state st k = nI (Z k)
def MZ (ms : MS) (Z : Nat → Nat) : Prop := ∀ k, k < 26 → m_z ms k = nI (Z k)
/-- how many factors a product has -/
def fo (Z : Nat → Nat) (p : Nat) : Nat := sm (fun f => Z (8 * p + f)) 8
theorem of_ok {ms : MS} {Z : Nat → Nat} (h : MZ ms Z) {p f : Nat} (hk : 8 * p + f < 26) : f5_of ms (nI p) (nI f) = some (nI (Z (8 * p + f))) := by
  unfold f5_of
  rw [e8, if_pos (ib_n hk (by omega)), tn (by omega), h _ hk]
theorem vo_ok {ms : MS} {Z : Nat → Nat} (h : MZ ms Z) {p f : Nat} (hk : 8 * p + (4 + f) < 26) : f5_variableOf ms (nI p) (nI f) = some (nI (Z (8 * p + (4 + f)))) := by
  unfold f5_variableOf
  rw [ek (x := (4 : Int32)) 4 f rfl, of_ok h hk, bi1_s]
theorem fo_c {st : CS} {Z : Nat → Nat} (h : CZ st Z) {p : Nat} (hp : p < 3) : f4_factorsOf st (nI p) = some (nI (fo Z p)) := by
  unfold f4_factorsOf
  rw [wh_for' (z := ((0 : Int32), (0 : Int32))) 8 (by omega) (fun i => (nI (sm (fun f => Z (8 * p + f)) i), nI i)) rfl (r := nI (fo Z p)) (fun i hi => ?_) ?_, bi1_s]
  · unfold f4_factorsOf_b4
    simp only
    rw [if_neg (nle hi (by omega)), e8', if_pos (ib_n (by omega) (by omega)), lq_e, tn (by omega), h _ (by omega), nI_add, nI_1]
    rfl
  · unfold f4_factorsOf_b4
    rw [if_pos (Int32.le_refl _)]
    rfl
theorem fo_m {ms : MS} {Z : Nat → Nat} (h : MZ ms Z) {p : Nat} (hp : p < 3) : f5_factorsOf ms (nI p) = some (nI (fo Z p)) := by
  unfold f5_factorsOf
  rw [wh_for' (z := ((0 : Int32), (0 : Int32))) 8 (by omega) (fun i => (nI (sm (fun f => Z (8 * p + f)) i), nI i)) rfl (r := nI (fo Z p)) (fun i hi => ?_) ?_, bi1_s]
  · unfold f5_factorsOf_b4
    simp only
    rw [if_neg (nle hi (by omega)), of_ok h (by omega), bi1_s, nI_add, nI_1]
    rfl
  · unfold f5_factorsOf_b4
    rw [if_pos (Int32.le_refl _)]
    rfl
theorem foa_c {st : CS} {Z : Nat → Nat} (h : CZ st Z) : f4_factorsOfAll st = some (nI (fo Z 0 + fo Z 1 + fo Z 2)) := by
  unfold f4_factorsOfAll
  rw [show (0 : Int32) = nI 0 from rfl, show (1 : Int32) = nI 1 from rfl, show (2 : Int32) = nI 2 from rfl, fo_c h (by omega), bi1_s, fo_c h (by omega), bi1_s, fo_c h (by omega), bi1_s, nI_add, nI_add]
theorem foa_m {ms : MS} {Z : Nat → Nat} (h : MZ ms Z) : f5_allFactors ms = some (nI (fo Z 0 + fo Z 1 + fo Z 2)) := by
  unfold f5_allFactors
  rw [show (0 : Int32) = nI 0 from rfl, show (1 : Int32) = nI 1 from rfl, show (2 : Int32) = nI 2 from rfl, fo_m h (by omega), bi1_s, fo_m h (by omega), bi1_s, fo_m h (by omega), bi1_s, nI_add, nI_add]
/-- the history of the class: a ring of six rows -/
def CH (st : CS) (Hs : List (Nat → Nat)) : Prop := c_held st = nI Hs.length ∧ Hs.length ≤ 6 ∧ ∃ o, o < 6 ∧ c_oldest st = nI o ∧ ∀ j (hj : j < Hs.length), ∀ k, k < 26 → c_kept st ((o + j) % 6) k = nI (Hs[j] k)
def MH (ms : MS) (Hs : List (Nat → Nat)) : Prop := m_states ms = nI Hs.length ∧ ∀ j (hj : j < Hs.length), ∀ k, k < 26 → m_history ms (26 * j + k) = nI (Hs[j] k)
/-- a state is saved; of seven the oldest goes -/
def psh (Hs : List (Nat → Nat)) (Z : Nat → Nat) : List (Nat → Nat) := if Hs.length = 6 then Hs.tail ++ [Z] else Hs ++ [Z]
theorem psh_len {Hs : List (Nat → Nat)} {Z : Nat → Nat} (h : Hs.length ≤ 6) : (psh Hs Z).length ≤ 6 := by
  unfold psh
  by_cases q : Hs.length = 6
  · rw [if_pos q]; simp; omega
  · rw [if_neg q]; simp; omega
