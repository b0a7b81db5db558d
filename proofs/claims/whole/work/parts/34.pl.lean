/-! The model lists the solutions. -/
def dec (e : Nat) : Nat := 1000 * (e / 4096 % 16) + 100 * (e / 256 % 16) + 10 * (e / 16 % 16) + e % 16
/-- the model's list -/
def LM (ms : MS) (L N B : Nat → Int32) : MS := (m_z ms, m_states ms, m_history ms, m_snaps ms, m_taken ms, m_length ms, m_text ms, m_thrown ms, L, N, B, m_waysOn ms, m_values ms, m_leastOnes ms, m_leastMany ms, m_sumsOf ms, m_readTimes ms, m_last ms, m_hash ms)
theorem LM_1 (ms : MS) (L L' N N' B B' : Nat → Int32) : m_bySupport_s (m_many_s (m_listed_s (LM ms L N B) L') N') B' = LM ms L' N' B' := rfl
theorem LM_2 (ms : MS) (N : Nat → Int32) : m_many_s ms N = LM ms (m_listed ms) N (m_bySupport ms) := rfl
theorem LM_3 (ms : MS) (L N B B' : Nat → Int32) : m_bySupport_s (LM ms L N B) B' = LM ms L N B' := rfl
def IM (ms : MS) (c : Nat) (l : List Nat) (s : MS) : Prop := ∃ L N B, s = LM ms L N B ∧ (∀ j, j ≠ c → N j = m_many ms j) ∧ (∀ k, k < 700 * c → L k = m_listed ms k) ∧ (∀ k, k < 16 * c ∨ 16 * c + 16 ≤ k → B k = m_bySupport ms k) ∧ N c = nI l.length ∧ (∀ k e, l[k]? = some e → L (700 * c + k) = nI (dec e)) ∧ ∀ t, t < 16 → B (16 * c + t) = nI (cnt l t)
section PL
variable {ms : MS} {Z : Nat → Nat}
theorem IM.mz {c : Nat} {l : List Nat} {s : MS} (h : IM ms c l s) (hM : MZ ms Z) : MZ s Z := by
  obtain ⟨L, N, B, rfl, _⟩ := h
  exact hM
theorem great_m {s : MS} (hM : MZ s Z) (hv : VZ Z) {f : Nat} (hf : f < 4) {r : Nat} (hr : r < 1000) : f5_greatest s (nI f) (nI r) = some (nI (up (Z (4 + f)) (Z 25) r)) := by
  have b1 := hv.le9 (k := 4 + f) (by omega)
  have b2 := hv.le9 (k := 25) (by omega)
  have hj : ∀ y, y < 1000 → f5_greatest_j18 s (nI y) = some (nI (min (Z 25) y)) := by
    intro y hy
    unfold f5_greatest_j18
    rw [show m_z s (25 : Int32).toNatClampNeg = nI (Z 25) from hM 25 (by omega)]
    by_cases q : y ≤ Z 25
    · rw [if_pos (nI_le q (by omega)), Nat.min_eq_right q]
    · rw [if_neg (nI_ge (by omega) (by omega)), Nat.min_eq_left (by omega)]
  unfold f5_greatest up
  rw [show f5_variableOf s 0 (nI f) = _ from vo_ok hM (p := 0) (f := f) (by omega), bi1_s, show 8 * 0 + (4 + f) = 4 + f by omega]
  by_cases q : Z (4 + f) = 0
  · rw [q, if_pos (show nI 0 = (0 : Int32) from rfl), if_pos rfl]
    exact (hj 0 (by omega)).trans (by rw [Nat.min_eq_right (Nat.zero_le _)])
  · rw [if_neg (nI_ne0 (by omega) (by omega)), if_neg (nI_ne0 (by omega) (by omega)), if_neg q, pk_div (by omega) (by omega) (by omega)]
    exact hj _ (Nat.lt_of_le_of_lt (Nat.div_le_self _ _) hr)
theorem bit_m {x k : Nat} (hx : x < 2 ^ 31) : (if nI x ≤ (0 : Int32) then (0 : Int32) else nI k) = nI (if x = 0 then 0 else k) := by
  by_cases q : x = 0
  · rw [q, if_pos (show nI 0 ≤ (0 : Int32) from Int32.le_refl _), if_pos rfl]
    rfl
  · rw [if_neg (nI_nle (by omega) hx), if_neg q]
theorem last_m {s : MS} (hM : MZ ms Z) (hv : VZ Z) {c : Nat} (hc : c < 4) {l : List Nat} (h : IM ms c l s) {a b d r : Nat} (ha : a < 10) (hb : b < 10) (hd : d < 10) (hr : r < 1000) (hl : (l ++ solc (Z 25) [Z 7] r (16 * (16 * (16 * 0 + a) + b) + d)).length < 701) : ∃ s', f5_listOne s (nI c) (nI a) (nI b) (nI d) (nI r) = some s' ∧ IM ms c (l ++ solc (Z 25) [Z 7] r (16 * (16 * (16 * 0 + a) + b) + d)) s' := by
  obtain ⟨L, N, B, rfl, h1, h2, h3, h4, h5, h6⟩ := id h
  have b1 := hv.le9 (k := 7) (by omega)
  have b2 := hv.le9 (k := 25) (by omega)
  have hM' : MZ (LM ms L N B) Z := hM
  have h21 : f5_listOne (LM ms L N B) (nI c) (nI a) (nI b) (nI d) (nI r) = f5_listOne_j22 (LM ms L N B) (nI c) (nI a) (nI b) (nI d) (nI r) (nI (Z 7)) (nI (if Z 7 = 0 then 0 else r / Z 7)) := by
    unfold f5_listOne
    rw [show f5_variableOf (LM ms L N B) 0 3 = _ from vo_ok hM' (p := 0) (f := 3) (by omega), bi1_s, show Z (8 * 0 + (4 + 3)) = Z 7 from rfl]
    by_cases q : Z 7 = 0
    · rw [q, if_pos (show nI 0 = (0 : Int32) from rfl), if_pos rfl]
      rfl
    · rw [if_neg (nI_ne0 (by omega) (by omega)), if_neg (nI_ne0 (by omega) (by omega)), pk_div (by omega) (by omega) (by omega), if_neg q]
  have hx : (if Z 7 = 0 then 0 else r / Z 7) < 1000 := by
    split
    · omega
    · exact Nat.lt_of_le_of_lt (Nat.div_le_self _ _) hr
  rw [h21]
  rw [solc_1] at hl ⊢
  generalize (if Z 7 = 0 then 0 else r / Z 7) = x at hx hl ⊢
  have hm : Z 7 * x < 10000 := Nat.lt_of_le_of_lt (Nat.mul_le_mul b1 (Nat.le_of_lt_succ (show x < 999 + 1 by omega))) (by omega)
  unfold f5_listOne_j22
  rw [pk_mul, Nat.mul_comm x, show m_z (LM ms L N B) (25 : Int32).toNatClampNeg = nI (Z 25) from hM 25 (by omega)]
  by_cases q2 : Z 7 * x = r
  · rw [if_pos (show nI (Z 7 * x) = nI r by rw [q2])]
    by_cases q : x ≤ Z 25
    · rw [if_pos (nI_le q (by omega))]
      rw [if_pos (show Z 7 * x = r ∧ x ≤ Z 25 from ⟨q2, q⟩)] at hl ⊢
      have hlen : l.length < 700 := by rw [List.length_append] at hl; simp at hl; omega
      obtain ⟨e, he⟩ : ∃ e, e = 16 * (16 * (16 * (16 * 0 + a) + b) + d) + x := ⟨_, rfl⟩
      have em : mk e = (if a = 0 then 0 else 1) + (if b = 0 then 0 else 2) + (if d = 0 then 0 else 4) + (if x = 0 then 0 else 8) := by
        unfold mk
        rw [show e / 4096 % 16 = a by omega, show e / 256 % 16 = b by omega, show e / 16 % 16 = d by omega, show e % 16 = x by omega]
      have ed : dec e = 1000 * a + 100 * b + 10 * d + x := by
        unfold dec
        rw [show e / 4096 % 16 = a by omega, show e / 256 % 16 = b by omega, show e / 16 % 16 = d by omega, show e % 16 = x by omega]
      have hmk := mk_lt e
      rw [lq_e, show (if nI a ≤ (0 : Int32) then (0 : Int32) else 1) = _ from bit_m (k := 1) (by omega), show (if nI b ≤ (0 : Int32) then (0 : Int32) else 2) = _ from bit_m (k := 2) (by omega), show (if nI d ≤ (0 : Int32) then (0 : Int32) else 4) = _ from bit_m (k := 4) (by omega), show (if nI x ≤ (0 : Int32) then (0 : Int32) else 8) = _ from bit_m (k := 8) (by omega), nI_add, nI_add, nI_add, ← em, show (1000 : Int32) * nI a = nI (1000 * a) from pk_mul 1000 a, show (100 : Int32) * nI b = nI (100 * b) from pk_mul 100 b, show (10 : Int32) * nI d = nI (10 * d) from pk_mul 10 d, nI_add, nI_add, nI_add, ← ed]
      have e1 : m_many (LM ms L N B) (nI c).toNatClampNeg = nI l.length := by rw [tn (by omega)]; exact h4
      have e2 : (700 : Int32) * nI c + nI l.length = nI (700 * c + l.length) := emk 700 c _ rfl
      have e3 : (16 : Int32) * nI c + nI (mk e) = nI (16 * c + mk e) := emk 16 c _ rfl
      rw [e1, e2, e3, if_pos (ib_n hc (by omega)), if_pos (ib_n (by omega) (by omega)), if_pos (ib_n hc (by omega)), if_pos (ib_n hc (by omega)), if_pos (ib_n (by omega) (by omega)), if_pos (ib_n (by omega) (by omega)), tn (by omega), tn (by omega), tn (by omega), LM_1, ← he]
      refine ⟨_, rfl, upd L (700 * c + l.length) (nI (dec e)), upd N c (nI l.length + 1), upd B (16 * c + mk e) (B (16 * c + mk e) + 1), rfl, fun j hj => (pk_un hj).trans (h1 j hj), fun k hk => (pk_un (by omega)).trans (h2 k hk), fun k hk => (pk_un (by omega)).trans (h3 k hk), ?_, ?_, ?_⟩
      · rw [pk_us, nI_1, List.length_append]
        rfl
      · intro k e' hg
        rw [List.getElem?_append] at hg
        by_cases z : k < l.length
        · rw [if_pos z] at hg
          rw [pk_un (by omega)]
          exact h5 k e' hg
        · rw [if_neg z] at hg
          have : k = l.length := by
            rcases Nat.eq_zero_or_pos (k - l.length) with y | y
            · omega
            · rw [List.getElem?_eq_none (by simp; omega)] at hg; cases hg
          subst this
          simp at hg
          rw [pk_us, hg]
      · intro t ht
        rw [cnt_app, cnt_one]
        by_cases z : mk e = t
        · subst z
          rw [pk_us, h6 _ ht, nI_1, if_pos rfl]
        · rw [pk_un (by omega), h6 _ ht, if_neg z, Nat.add_zero]
    · rw [if_neg (nI_ge (by omega) (by omega)), if_neg (fun z => q z.2), List.append_nil]
      exact ⟨_, rfl, h⟩
  · rw [if_neg (fun z => q2 ((nI_eq (by omega) (by omega)).mp z)), if_neg (fun z => q2 z.1), List.append_nil]
    exact ⟨_, rfl, h⟩
theorem loopM {c : Nat} {m w r : Nat} (hm : m ≤ 9) {b : MS × Int32 → Option ((MS × Int32) ⊕ MS)} {inner : MS → Nat → Option MS} {g : Nat → List Nat} {l : List Nat} {K : Nat}
    (hb : ∀ s i, i < 12 → (∃ l, IM ms c l s) → b (s, nI i) = if nI (up w m r) < nI i then some (.inr s) else bi1 (inner s i) fun s' => some (.inl (s', nI (i + 1))))
    (hin : ∀ s i l, i ≤ up w m r → IM ms c l s → (l ++ g i).length < K → ∃ s', inner s i = some s' ∧ IM ms c (l ++ g i) s') {s : MS} (h : IM ms c l s) (hK : (l ++ (List.range (up w m r + 1)).flatMap g).length < K) : ∃ s', wh b FU (s, (0 : Int32)) = some s' ∧ IM ms c (l ++ (List.range (up w m r + 1)).flatMap g) s' := by
  have hu := up_le (w := w) (m := m) (r := r)
  refine wh_inv (up w m r + 1) (by omega) (fun i z => ∃ s, z = (s, nI i) ∧ IM ms c (l ++ (List.range i).flatMap g) s) _ ⟨s, rfl, by simpa using h⟩ ?_ ?_
  · rintro i _ hi ⟨s, rfl, hs⟩
    have hL := fm_mono (g := g) (show i + 1 ≤ up w m r + 1 by omega)
    rw [fm_s] at hL
    obtain ⟨s', k1, k2⟩ := hin s i _ (by omega) hs (by rw [List.length_append] at hK hL ⊢; rw [List.length_append]; omega)
    rw [hb s i (by omega) ⟨_, hs⟩, if_neg (nI_nlt (by omega) (by omega)), k1, bi1_s]
    refine Or.inl ⟨_, rfl, s', rfl, ?_⟩
    rw [fm_s, ← List.append_assoc]
    exact k2
  · rintro _ ⟨s, rfl, hs⟩
    rw [hb s _ (by omega) ⟨_, hs⟩, if_pos (nI_lt (by omega) (by omega))]
    exact ⟨_, rfl, hs⟩
end PL
