/-! (of the class alone) -/
theorem tn {n : Nat} (h : n < 2 ^ 31) : (nI n).toNatClampNeg = n := nI_clamp h
theorem ib_n {n N : Nat} (h : n < N) (hN : N < 2 ^ 31) : ib (nI n) N = true := by
  have h1 : ¬ nI n < 0 := nI_pos (by omega)
  simp [ib, h1, nI_clamp (show n < 2 ^ 31 by omega), h]
theorem wh_for {σ ρ : Type} (b : σ → Option (σ ⊕ ρ)) (n : Nat) (hn : n < 4999) (f : Nat → σ) (r : ρ) (hs : ∀ i, i < n → b (f i) = some (.inl (f (i + 1)))) (he : b (f n) = some (.inr r)) : wh b FU (f 0) = some r := by
  have key : ∀ (k m : Nat), m + k = n → ∀ F, k < F → wh b F (f m) = some r := by
    intro k
    induction k with
    | zero =>
      intro m hm F hF
      obtain ⟨F', rfl⟩ : ∃ F', F = F' + 1 := ⟨F - 1, by omega⟩
      have : m = n := by omega
      subst this
      rw [wh, he]
    | succ k ih =>
      intro m hm F hF
      obtain ⟨F', rfl⟩ : ∃ F', F = F' + 1 := ⟨F - 1, by omega⟩
      rw [wh, hs m (by omega)]
      exact ih (m + 1) (by omega) F' (by omega)
  exact key n 0 (by omega) FU (by unfold FU; omega)
/-- the same, from a start that is the trajectory's -/
theorem wh_for' {σ ρ : Type} {b : σ → Option (σ ⊕ ρ)} {z : σ} (n : Nat) (hn : n < 4999) (f : Nat → σ) (hz : z = f 0) {r : ρ} (hs : ∀ i, i < n → b (f i) = some (.inl (f (i + 1)))) (he : b (f n) = some (.inr r)) : wh b FU z = some r := hz ▸ wh_for b n hn f r hs he
theorem bi1_s {α β : Type} (a : α) (f : α → Option β) : bi1 (some a) f = f a := rfl
theorem nx_r {α β : Type} (s : α) (b : β) : nx (some (s, (.inr b : Nat ⊕ β))) = some (s, b) := rfl
theorem lq_e {α β : Type} (a : α) (f : α → β) : lq a f = f a := rfl
def sm (f : Nat → Nat) : Nat → Nat
  | 0 => 0
  | n + 1 => sm f n + f n
theorem sm_le {f : Nat → Nat} {c : Nat} : ∀ {n : Nat}, (∀ k, k < n → f k ≤ c) → sm f n ≤ n * c
  | 0, _ => by simp [sm]
  | n + 1, h => by
    have h1 := sm_le (n := n) (fun k hk => h k (by omega))
    have h2 := h n (by omega)
    rw [sm, Nat.succ_mul]
    omega
theorem sm_congr {f g : Nat → Nat} : ∀ {n : Nat}, (∀ k, k < n → f k = g k) → sm f n = sm g n
  | 0, _ => rfl
  | n + 1, h => by rw [sm, sm, sm_congr (fun k hk => h k (by omega)), h n (by omega)]
/-- an argument is one of the first n numbers, or none of them -/
theorem ar (x : Int32) (n : Nat) (hn : n < 2 ^ 31) : (∃ k, k < n ∧ x = nI k) ∨ (x < 0 ∨ nI n ≤ x) := by
  rcases pk_ix x hn with h | h | h
  · exact Or.inr (Or.inl h)
  · exact Or.inr (Or.inr h)
  · exact Or.inl h
theorem needIndex_in {k n : Nat} (h : k < n) (hn : n < 2 ^ 31) : f4_needIndex (nI k) (nI n) = .inr () := by
  unfold f4_needIndex
  rw [if_neg (nI_pos (by omega)), if_pos (nI_lt h hn)]
theorem needNumber_in {k n : Nat} (h : k ≤ n) (hn : n < 2 ^ 31) : f4_needNumber (nI k) 0 (nI n) = .inr () := by
  unfold f4_needNumber
  rw [if_neg (nI_pos (by omega)), if_pos (nI_le h hn)]
theorem e8 (p f : Nat) : (8 : Int32) * nI p + nI f = nI (8 * p + f) := by rw [show (8 : Int32) = nI 8 from rfl, pk_mul, nI_add]
theorem e8' (p f : Nat) : nI p * (8 : Int32) + nI f = nI (8 * p + f) := by rw [show (8 : Int32) = nI 8 from rfl, pk_mul, nI_add, Nat.mul_comm]
theorem ek (k f : Nat) {x : Int32} (h : x = nI k) : x + nI f = nI (k + f) := by rw [h, nI_add]
theorem emk (k p f : Nat) {x : Int32} (h : x = nI k) : x * nI p + nI f = nI (k * p + f) := by rw [h, pk_mul, nI_add]
theorem lge (b : Nat) {a : Nat} (h : a < b) (hb : b < 2 ^ 31 := by omega) : ¬ nI b ≤ nI a := nI_ge h hb
theorem md (d : Nat) {a : Nat} (ha : a < 2 ^ 31) (h0 : 0 < d := by omega) (hd : d < 2 ^ 31 := by omega) : nI a - nI a / nI d * nI d = nI (a % d) := pk_rem ha h0 hd
theorem sb (b : Nat) {a : Nat} (h : b ≤ a) : nI a - nI b = nI (a - b) := pk_sub h
def bd (k : Nat) : Nat := if k % 8 < 4 ∧ k < 24 then 9 else if k < 16 then 5 else if k = 24 then 1 else if k = 25 then 9 else 0
theorem bd9 (k : Nat) : bd k ≤ 9 := by
  unfold bd
  repeat' split
  all_goals omega
def VP (Z : Nat → Nat) : Prop := ∀ k, k < 24 → Z k ≤ bd k
def VZ (Z : Nat → Nat) : Prop := ∀ k, k < 26 → Z k ≤ bd k
theorem VZ.le9 {Z : Nat → Nat} (h : VZ Z) {k : Nat} (hk : k < 26) : Z k ≤ 9 := Nat.le_trans (h k hk) (bd9 k)
theorem VZ.vp {Z : Nat → Nat} (h : VZ Z) : VP Z := fun k hk => h k (by omega)
def CZ (st : CS) (Z : Nat → Nat) : Prop := ∀ k, k < 26 → c_state st k = nI (Z k)
/-- how many factors a product has -/
def fo (Z : Nat → Nat) (p : Nat) : Nat := sm (fun f => Z (8 * p + f)) 8
theorem fo_c {st : CS} {Z : Nat → Nat} (h : CZ st Z) {p : Nat} (hp : p < 3) : f4_factorsOf st (nI p) = some (nI (fo Z p)) := by
  have h1 : wh (f4_factorsOf_b4 st (nI p)) FU ((0 : Int32), (0 : Int32)) = some (nI (fo Z p)) := by
    refine wh_for' 8 (by omega) (fun i => (nI (sm (fun f => Z (8 * p + f)) i), nI i)) rfl (fun i hi => ?_) ?_
    · unfold f4_factorsOf_b4
      simp only
      rw [if_neg (show ¬ (8 : Int32) ≤ nI i from lge 8 hi), e8', if_pos (ib_n (by omega) (by omega)), lq_e, tn (by omega), h _ (by omega), nI_add, nI_1]
      rfl
    · unfold f4_factorsOf_b4
      exact if_pos (Int32.le_refl _)
  unfold f4_factorsOf
  rw [h1, bi1_s]
/-- the history of the class: a ring of six rows -/
def CH (st : CS) (Hs : List (Nat → Nat)) : Prop := c_held st = nI Hs.length ∧ Hs.length ≤ 6 ∧ ∃ o, o < 6 ∧ c_oldest st = nI o ∧ ∀ j W, Hs[j]? = some W → ∀ k, k < 26 → c_kept st ((o + j) % 6) k = nI (W k)
/-- a state is saved; of seven the oldest goes -/
def psh (Hs : List (Nat → Nat)) (Z : Nat → Nat) : List (Nat → Nat) := if Hs.length = 6 then Hs.tail ++ [Z] else Hs ++ [Z]
theorem psh_len {Hs : List (Nat → Nat)} {Z : Nat → Nat} (h : Hs.length ≤ 6) : (psh Hs Z).length ≤ 6 := by
  unfold psh
  by_cases q : Hs.length = 6
  · rw [if_pos q]; simp; omega
  · rw [if_neg q]; simp; omega
theorem psh_6 {Hs : List (Nat → Nat)} {Z W : Nat → Nat} {j : Nat} (q : Hs.length = 6) (h : (psh Hs Z)[j]? = some W) : (j < 5 ∧ Hs[j + 1]? = some W) ∨ (j = 5 ∧ W = Z) := by
  unfold psh at h
  rw [if_pos q, List.getElem?_append] at h
  have hl : Hs.tail.length = 5 := by simp; omega
  by_cases hj : j < 5
  · rw [if_pos (by omega), List.getElem?_tail] at h
    exact Or.inl ⟨hj, h⟩
  · rw [if_neg (by omega), hl] at h
    have : j - 5 = 0 := by
      rcases Nat.eq_zero_or_pos (j - 5) with e | e
      · exact e
      · rw [List.getElem?_eq_none (by simp; omega)] at h; cases h
    rw [this] at h
    exact Or.inr ⟨by omega, by simpa using h.symm⟩
theorem psh_n {Hs : List (Nat → Nat)} {Z W : Nat → Nat} {j : Nat} (q : ¬ Hs.length = 6) (h : (psh Hs Z)[j]? = some W) : (j < Hs.length ∧ Hs[j]? = some W) ∨ (j = Hs.length ∧ W = Z) := by
  unfold psh at h
  rw [if_neg q, List.getElem?_append] at h
  by_cases hj : j < Hs.length
  · rw [if_pos hj] at h
    exact Or.inl ⟨hj, h⟩
  · rw [if_neg hj] at h
    have : j - Hs.length = 0 := by
      rcases Nat.eq_zero_or_pos (j - Hs.length) with e | e
      · exact e
      · rw [List.getElem?_eq_none (by simp; omega)] at h; cases h
    rw [this] at h
    exact Or.inr ⟨by omega, by simpa using h.symm⟩
theorem psh_all {P : (Nat → Nat) → Prop} {Hs : List (Nat → Nat)} {Z : Nat → Nat} (h : ∀ W, W ∈ Hs → P W) (hz : P Z) : ∀ W, W ∈ psh Hs Z → P W := by
  intro W hW
  unfold psh at hW
  split at hW
  · rcases List.mem_append.mp hW with q | q
    · exact h W (List.mem_of_mem_tail q)
    · rw [List.mem_singleton.mp q]; exact hz
  · rcases List.mem_append.mp hW with q | q
    · exact h W q
    · rw [List.mem_singleton.mp q]; exact hz
theorem wh_inv {σ ρ : Type} {b : σ → Option (σ ⊕ ρ)} {z : σ} (n : Nat) (hn : n < 4999) (I : Nat → σ → Prop) (X : ρ → Prop) (h0 : I 0 z) (hs : ∀ i z, i < n → I i z → (∃ z', b z = some (.inl z') ∧ I (i + 1) z') ∨ ∃ r, b z = some (.inr r) ∧ X r) (he : ∀ z, I n z → ∃ r, b z = some (.inr r) ∧ X r) : ∃ r, wh b FU z = some r ∧ X r := by
  have key : ∀ (k m : Nat), m + k = n → ∀ F, k < F → ∀ z, I m z → ∃ r, wh b F z = some r ∧ X r := by
    intro k
    induction k with
    | zero =>
      intro m hm F hF z hI
      obtain ⟨F', rfl⟩ : ∃ F', F = F' + 1 := ⟨F - 1, by omega⟩
      have : m = n := by omega
      subst this
      obtain ⟨r, h1, h2⟩ := he z hI
      exact ⟨r, by rw [wh, h1], h2⟩
    | succ k ih =>
      intro m hm F hF z hI
      obtain ⟨F', rfl⟩ : ∃ F', F = F' + 1 := ⟨F - 1, by omega⟩
      rcases hs m z (by omega) hI with ⟨z', h1, h2⟩ | ⟨r, h1, h2⟩
      · obtain ⟨r, h3, h4⟩ := ih (m + 1) (by omega) F' (by omega) z' h2
        exact ⟨r, by rw [wh, h1]; exact h3, h4⟩
      · exact ⟨r, by rw [wh, h1], h2⟩
  exact key n 0 (by omega) FU (by unfold FU; omega) z h0
/-- a state that was kept, with the caches forgotten -/
def KS (st : CS) (K : Nat → Nat → Int32) (o n : Int32) : CS := (c_state st, c_draft st, c_snaps st, c_taken st, K, o, n, c_codes st, c_length st, c_weight st, c_used st, c_most st, c_canBeEmpty st, 0, c_rows st, c_size st, c_exactly st, c_within st, c_eways st, c_choice st, c_difference st, c_row st, c_numbers st, c_found st, 0, c_lways st)
theorem KS_6 (st : CS) (K : Nat → Nat → Int32) (o : Int32) : f4_forgetTables (c_oldest_s (c_kept_s st K) o) = KS st K o (c_held st) := rfl
theorem KS_n (st : CS) (K : Nat → Nat → Int32) (n : Int32) : f4_forgetTables (c_held_s (c_kept_s st K) n) = KS st K (c_oldest st) n := rfl
theorem keep_c {st : CS} {Z : Nat → Nat} {Hs : List (Nat → Nat)} (h : CZ st Z) (hh : CH st Hs) : ∃ K o n, f4_keepState st = some (KS st K o n) ∧ CH (KS st K o n) (psh Hs Z) := by
  obtain ⟨h1, h2, o, ho, h3, h4⟩ := hh
  have hi : (c_oldest st + c_held st) - (c_oldest st + c_held st) / (6 : Int32) * (6 : Int32) = nI ((o + Hs.length) % 6) := by
    rw [h1, h3, nI_add]
    exact md 6 (by omega)
  unfold f4_keepState f1_keep
  rw [hi, if_pos (ib_n (by omega) (by omega)), tn (by omega)]
  by_cases q : Hs.length = 6
  · have q1 : (6 : Int32) ≤ c_held st := by rw [h1, q]; exact Int32.le_refl _
    have hj : (c_oldest st + (1 : Int32)) - (c_oldest st + (1 : Int32)) / (6 : Int32) * (6 : Int32) = nI ((o + 1) % 6) := by
      rw [h3, nI_1]
      exact md 6 (by omega)
    rw [if_pos q1, hj, bi1_s, KS_6]
    refine ⟨_, nI ((o + 1) % 6), c_held st, rfl, ?_, psh_len h2, (o + 1) % 6, by omega, rfl, ?_⟩
    · show c_held st = _
      rw [h1, q, psh, if_pos q]
      simp [q]
    · intro j W hW k hk
      show va_up (c_kept st) ((o + Hs.length) % 6) (va_cpy (c_state st) _ 0 0 26) (((o + 1) % 6 + j) % 6) k = _
      rcases psh_6 q hW with ⟨a1, a2⟩ | ⟨rfl, rfl⟩
      · rw [va_up_ne _ _ (by omega), show ((o + 1) % 6 + j) % 6 = (o + (j + 1)) % 6 by omega]
        exact h4 (j + 1) W a2 k hk
      · rw [show ((o + 1) % 6 + 5) % 6 = (o + Hs.length) % 6 by omega, va_up_self, pk_cpy_in (by omega) (by omega)]
        rw [show 0 + (k - 0) = k by omega]
        exact h k hk
  · have q1 : ¬ (6 : Int32) ≤ c_held st := by rw [h1]; exact lge 6 (by omega)
    rw [if_neg q1, bi1_s, KS_n]
    refine ⟨_, c_oldest st, _, rfl, ?_, psh_len h2, o, by omega, h3, ?_⟩
    · show c_held st + 1 = _
      rw [h1, nI_1, psh, if_neg q]
      simp
    · intro j W hW k hk
      show va_up (c_kept st) ((o + Hs.length) % 6) (va_cpy (c_state st) _ 0 0 26) ((o + j) % 6) k = _
      rcases psh_n q hW with ⟨a1, a2⟩ | ⟨rfl, rfl⟩
      · rw [va_up_ne _ _ (by omega)]
        exact h4 j W a2 k hk
      · rw [va_up_self, pk_cpy_in (by omega) (by omega)]
        rw [show 0 + (k - 0) = k by omega]
        exact h k hk
