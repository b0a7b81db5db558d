/-! The matcher of a number: where it is found. -/
theorem sm_add (f g : Nat → Nat) : ∀ n, sm (fun t => f t + g t) n = sm f n + sm g n
  | 0 => rfl
  | n + 1 => by
    rw [sm, sm, sm, sm_add f g n]
    omega
theorem sm_zero : ∀ n, sm (fun _ => 0) n = 0
  | 0 => rfl
  | n + 1 => by rw [sm, sm_zero n]
theorem sm_one (h : Nat → Nat) (k : Nat) : ∀ n, sm (fun t => if k = t then h t else 0) n = if k < n then h k else 0
  | 0 => rfl
  | n + 1 => by
    rw [sm, sm_one h k n]
    by_cases e : k = n
    · subst e
      rw [if_pos rfl, if_neg (by omega), if_pos (by omega), Nat.zero_add]
    · rw [if_neg e]
      by_cases q : k < n
      · rw [if_pos q, if_pos (by omega), Nat.add_zero]
      · rw [if_neg q, if_neg (by omega)]
/-- the sum over a list of what its supports give -/
def LSq (h : Nat → Nat) : List Nat → Nat
  | [] => 0
  | e :: l => h (mk e) + LSq h l
theorem LS_cnt (h : Nat → Nat) : ∀ l, LSq h l = sm (fun t => cnt l t * h t) 16
  | [] => by
    rw [LSq, ← sm_zero 16]
    exact sm_congr (fun t _ => (Nat.zero_mul _).symm)
  | e :: l => by
    have h1 : sm (fun t => cnt (e :: l) t * h t) 16 = sm (fun t => (if mk e = t then h t else 0) + cnt l t * h t) 16 := sm_congr (fun t _ => by
      rw [cnt, Nat.add_mul]
      by_cases q : mk e = t
      · rw [if_pos q, if_pos q, Nat.one_mul]
      · rw [if_neg q, if_neg q, Nat.zero_mul])
    rw [LSq, LS_cnt h l, h1, sm_add, sm_one, if_pos (mk_lt e)]
theorem LS_le {h : Nat → Nat} {B : Nat} (hB : ∀ t, t < 16 → h t ≤ B) : ∀ l, LSq h l ≤ l.length * B
  | [] => Nat.zero_le _
  | e :: l => by
    rw [LSq, List.length_cons, Nat.succ_mul]
    have h1 := hB _ (mk_lt e)
    have h2 := LS_le hB l
    omega
theorem LS_s (h : Nat → Nat) : ∀ (l : List Nat) (i : Nat), i < l.length → LSq h (l.take (i + 1)) = LSq h (l.take i) + h (mk (l.getD i 0))
  | [], i, q => absurd q (Nat.not_lt_zero _)
  | e :: l, 0, _ => by simp [LSq]
  | e :: l, i + 1, q => by
    have := LS_s h l i (by simpa using q)
    simp only [List.take_succ_cons, LSq, List.getD_cons_succ] at this ⊢
    omega
theorem LS_mono (h : Nat → Nat) : ∀ (l : List Nat) (i j : Nat), i ≤ j → LSq h (l.take i) ≤ LSq h (l.take j)
  | [], i, j, _ => by simp
  | e :: l, 0, j, _ => by simp [LSq]
  | e :: l, i + 1, 0, q => absurd q (by omega)
  | e :: l, i + 1, j + 1, q => by
    have := LS_mono h l i j (by omega)
    simp only [List.take_succ_cons, LSq]
    omega
/-- the place at which a number is reached -/
def pj (h : Nat → Nat) : List Nat → Nat → Nat
  | [], _ => 0
  | e :: l, k => if k < h (mk e) then 0 else pj h l (k - h (mk e)) + 1
theorem pj_ok (h : Nat → Nat) : ∀ (l : List Nat) (k : Nat), k < LSq h l → pj h l k < l.length ∧ LSq h (l.take (pj h l k)) ≤ k ∧ k < LSq h (l.take (pj h l k)) + h (mk (l.getD (pj h l k) 0))
  | [], k, q => absurd q (Nat.not_lt_zero _)
  | e :: l, k, q => by
    rw [LSq] at q
    rw [pj]
    by_cases z : k < h (mk e)
    · rw [if_pos z]
      simp [LSq]
      exact z
    · rw [if_neg z]
      have := pj_ok h l (k - h (mk e)) (by omega)
      simp only [List.take_succ_cons, LSq, List.getD_cons_succ, List.length_cons]
      omega
theorem getD_some {l : List Nat} {i : Nat} (h : i < l.length) : l[i]? = some (l.getD i 0) := by
  rw [List.getD_eq_getElem?_getD, List.getElem?_eq_getElem h]
  rfl
theorem getD_mem {l : List Nat} {i : Nat} (h : i < l.length) : l.getD i 0 ∈ l := List.mem_of_getElem? (getD_some h)
/-- what a support gives at place i, from the set s -/
def hW (Z : Nat → Nat) (i s : Nat) : Nat → Nat := fun t => Wk (xs Z) (yC Z) (3 - i) (s ||| t)
def jO (Z : Nat → Nat) (i : Nat) (q : Nat × Nat) : Nat := pj (hW Z i q.2) (SL Z (rs Z i)) q.1
def eO (Z : Nat → Nat) (i : Nat) (q : Nat × Nat) : Nat := (SL Z (rs Z i)).getD (jO Z i q) 0
def kN (Z : Nat → Nat) (i : Nat) (q : Nat × Nat) : Nat × Nat := (q.1 - LSq (hW Z i q.2) ((SL Z (rs Z i)).take (jO Z i q)), q.2 ||| mk (eO Z i q))
def kS (Z : Nat → Nat) (k : Nat) : Nat → Nat × Nat
  | 0 => (k, 0)
  | i + 1 => kN Z i (kS Z k i)
/-- the number is one of those from this set on -/
def gdS (Z : Nat → Nat) (i : Nat) (q : Nat × Nat) : Prop := q.1 < Wk (xs Z) (yC Z) (4 - i) q.2 ∧ q.2 < 16 ∧ q.2 &&& US Z = q.2
theorem Wk_LS {Z : Nat → Nat} {i : Nat} (hi : i < 4) (s : Nat) : Wk (xs Z) (yC Z) (4 - i) s = LSq (hW Z i s) (SL Z (rs Z i)) := by
  rw [show 4 - i = (3 - i) + 1 by omega, Wk, LS_cnt, show 3 - (3 - i) = i by omega]
  rfl
theorem Wk_220 {Z : Nat → Nat} (hv : VZ Z) : ∀ n, n ≤ 4 → ∀ s, s < 16 → Wk (xs Z) (yC Z) n s ≤ 220 ^ n
  | 0, _, s, _ => by
    rw [Wk]
    unfold yC
    repeat' split
    all_goals simp
  | n + 1, hn, s, hs => by
    have h1 := Wk_LS (Z := Z) (i := 3 - n) (by omega) s
    rw [show 4 - (3 - n) = n + 1 by omega] at h1
    rw [h1, Nat.pow_succ, Nat.mul_comm]
    refine Nat.le_trans (LS_le (B := 220 ^ n) (fun t ht => ?_) _) (Nat.mul_le_mul_right _ (SL_220 hv (by omega)))
    unfold hW
    rw [show 3 - (3 - n) = n by omega]
    exact Wk_220 hv n (by omega) _ (or_lt s hs t ht)
theorem Wk_big {Z : Nat → Nat} (hv : VZ Z) {n : Nat} (hn : n ≤ 4) {s : Nat} (hs : s < 16) : Wk (xs Z) (yC Z) n s < 2 ^ 32 := by
  have h1 := Wk_220 hv n hn s hs
  rcases (show n = 0 ∨ n = 1 ∨ n = 2 ∨ n = 3 ∨ n = 4 by omega) with rfl | rfl | rfl | rfl | rfl
  all_goals
    simp only [Nat.reducePow] at h1 ⊢
    omega
theorem or_us : ∀ U, U < 16 → ∀ s, s < 16 → ∀ t, t < 16 → s &&& U = s → t &&& U = t → (s ||| t) &&& U = s ||| t := by decide +kernel
/-- what is known of a step -/
theorem kN_ok {Z : Nat → Nat} (hv : VZ Z) {i : Nat} (hi : i < 4) {q : Nat × Nat} (g : gdS Z i q) : jO Z i q < (SL Z (rs Z i)).length ∧ eO Z i q ∈ SL Z (rs Z i) ∧ LSq (hW Z i q.2) ((SL Z (rs Z i)).take (jO Z i q)) ≤ q.1 ∧ q.1 < LSq (hW Z i q.2) ((SL Z (rs Z i)).take (jO Z i q)) + hW Z i q.2 (mk (eO Z i q)) ∧ gdS Z (i + 1) (kN Z i q) := by
  obtain ⟨g1, g2, g3⟩ := g
  rw [Wk_LS hi] at g1
  obtain ⟨a1, a2, a3⟩ := pj_ok _ _ _ g1
  have hm : eO Z i q ∈ SL Z (rs Z i) := getD_mem a1
  refine ⟨a1, hm, a2, a3, ?_, or_lt _ g2 _ (mk_lt _), or_us _ (US_lt Z) _ g2 _ (mk_lt _) g3 (mk_in hv hm)⟩
  show q.1 - LSq (hW Z i q.2) ((SL Z (rs Z i)).take (jO Z i q)) < Wk (xs Z) (yC Z) (4 - (i + 1)) (q.2 ||| mk (eO Z i q))
  have a4 : q.1 < LSq (hW Z i q.2) ((SL Z (rs Z i)).take (jO Z i q)) + Wk (xs Z) (yC Z) (3 - i) (q.2 ||| mk (eO Z i q)) := a3
  have a5 : LSq (hW Z i q.2) ((SL Z (rs Z i)).take (jO Z i q)) ≤ q.1 := a2
  rw [show 4 - (i + 1) = 3 - i by omega]
  omega
theorem kS_gd {Z : Nat → Nat} (hv : VZ Z) {k : Nat} (hk : k < Wk (xs Z) (yC Z) 4 0) : ∀ i, i ≤ 4 → gdS Z i (kS Z k i)
  | 0, _ => ⟨hk, by show (0 : Nat) < 16; omega, zero_in _ (US_lt Z)⟩
  | i + 1, hi => (kN_ok hv (by omega) (kS_gd hv hk i (by omega))).2.2.2.2
/-- before that place the number is not reached -/
theorem pj_before {Z : Nat → Nat} {i j : Nat} {q : Nat × Nat} (hj : j < jO Z i q) (hl : jO Z i q < (SL Z (rs Z i)).length) (h : LSq (hW Z i q.2) ((SL Z (rs Z i)).take (jO Z i q)) ≤ q.1) : LSq (hW Z i q.2) ((SL Z (rs Z i)).take (j + 1)) = LSq (hW Z i q.2) ((SL Z (rs Z i)).take j) + hW Z i q.2 (mk ((SL Z (rs Z i)).getD j 0)) ∧ LSq (hW Z i q.2) ((SL Z (rs Z i)).take (j + 1)) ≤ q.1 := ⟨LS_s _ _ _ (by omega), Nat.le_trans (LS_mono _ _ _ _ (by omega)) h⟩
