/-! The model lists one equation, and all of them. -/
section PM
variable {ms : MS} {Z : Nat → Nat}
theorem lev_mc (hM : MZ ms Z) (hv : VZ Z) {c : Nat} (hc : c < 4) {a b : Nat} (ha : a < 10) (hb : b < 10) {r : Nat} (hr : r < 1000) (q40 q42 : Int32) {l : List Nat} {s : MS} (h : IM ms c l s) (hK : (l ++ solc (Z 25) [Z 6, Z 7] r (16 * (16 * 0 + a) + b)).length < 701) : ∃ s', wh (f5_list_b93 (nI c) q40 (nI a) q42 (nI b) (nI r)) FU (s, (0 : Int32)) = some s' ∧ IM ms c (l ++ solc (Z 25) [Z 6, Z 7] r (16 * (16 * 0 + a) + b)) s' := by
  refine loopM (hv.le9 (by omega)) (inner := fun s i => f5_listOne s (nI c) (nI a) (nI b) (nI i) (nI r - nI (Z 6 * i))) ?_ ?_ h hK
  · rintro s i hi ⟨l, hl⟩
    have hM' := hl.mz hM
    unfold f5_list_b93
    simp only
    rw [show f5_greatest s 2 (nI r) = _ from great_m hM' hv (f := 2) (by omega) hr, bi1_s, show f5_variableOf s 0 2 = _ from vo_ok hM' (p := 0) (f := 2) (by omega), bi1_s, pk_mul, nI_1, show i * Z (8 * 0 + (4 + 2)) = Z 6 * i from Nat.mul_comm _ _]
  · intro s i l hi hl hK
    have hu := up_le (w := Z 6) (m := Z 25) (r := r)
    have h9 := hv.le9 (k := 25) (by omega)
    have h1 : Z 6 * i ≤ r := up_mul hi
    show ∃ s', f5_listOne s (nI c) (nI a) (nI b) (nI i) (nI r - nI (Z 6 * i)) = some s' ∧ _
    rw [pk_sub h1]
    exact last_m hM hv hc hl ha hb (by omega) (by omega) hK
theorem lev_mb (hM : MZ ms Z) (hv : VZ Z) {c : Nat} (hc : c < 4) {a : Nat} (ha : a < 10) {r : Nat} (hr : r < 1000) (q27 : Int32) {l : List Nat} {s : MS} (h : IM ms c l s) (hK : (l ++ solc (Z 25) [Z 5, Z 6, Z 7] r (16 * 0 + a)).length < 701) : ∃ s', wh (f5_list_b64 (nI c) q27 (nI a) (nI r)) FU (s, (0 : Int32)) = some s' ∧ IM ms c (l ++ solc (Z 25) [Z 5, Z 6, Z 7] r (16 * 0 + a)) s' := by
  refine loopM (hv.le9 (by omega)) (inner := fun s i => wh (f5_list_b93 (nI c) q27 (nI a) (nI r) (nI i) (nI r - nI (Z 5 * i))) FU (s, (0 : Int32))) ?_ ?_ h hK
  · rintro s i hi ⟨l, hl⟩
    have hM' := hl.mz hM
    unfold f5_list_b64
    simp only
    rw [show f5_greatest s 1 (nI r) = _ from great_m hM' hv (f := 1) (by omega) hr, bi1_s, show f5_variableOf s 0 1 = _ from vo_ok hM' (p := 0) (f := 1) (by omega), bi1_s, pk_mul, nI_1, show i * Z (8 * 0 + (4 + 1)) = Z 5 * i from Nat.mul_comm _ _]
  · intro s i l hi hl hK
    have hu := up_le (w := Z 5) (m := Z 25) (r := r)
    have h9 := hv.le9 (k := 25) (by omega)
    have h1 : Z 5 * i ≤ r := up_mul hi
    show ∃ s', wh (f5_list_b93 (nI c) q27 (nI a) (nI r) (nI i) (nI r - nI (Z 5 * i))) FU (s, (0 : Int32)) = some s' ∧ _
    rw [pk_sub h1]
    exact lev_mc hM hv hc ha (by omega) (by omega) q27 (nI r) hl hK
theorem lev_ma (hM : MZ ms Z) (hv : VZ Z) {c : Nat} (hc : c < 4) {r : Nat} (hr : r < 1000) {l : List Nat} {s : MS} (h : IM ms c l s) (hK : (l ++ solc (Z 25) [Z 4, Z 5, Z 6, Z 7] r 0).length < 701) : ∃ s', wh (f5_list_b35 (nI c) (nI r)) FU (s, (0 : Int32)) = some s' ∧ IM ms c (l ++ solc (Z 25) [Z 4, Z 5, Z 6, Z 7] r 0) s' := by
  refine loopM (hv.le9 (by omega)) (inner := fun s i => wh (f5_list_b64 (nI c) (nI r) (nI i) (nI r - nI (Z 4 * i))) FU (s, (0 : Int32))) ?_ ?_ h hK
  · rintro s i hi ⟨l, hl⟩
    have hM' := hl.mz hM
    unfold f5_list_b35
    simp only
    rw [if_neg (nI_pos (by omega)), show f5_greatest s 0 (nI r) = _ from great_m hM' hv (f := 0) (by omega) hr, bi1_s, show f5_variableOf s 0 0 = _ from vo_ok hM' (p := 0) (f := 0) (by omega), bi1_s, pk_mul, nI_1, show i * Z (8 * 0 + (4 + 0)) = Z 4 * i from Nat.mul_comm _ _]
  · intro s i l hi hl hK
    have hu := up_le (w := Z 4) (m := Z 25) (r := r)
    have h9 := hv.le9 (k := 25) (by omega)
    have h1 : Z 4 * i ≤ r := up_mul hi
    show ∃ s', wh (f5_list_b64 (nI c) (nI r) (nI i) (nI r - nI (Z 4 * i))) FU (s, (0 : Int32)) = some s' ∧ _
    rw [pk_sub h1]
    exact lev_mb hM hv hc (by omega) (by omega) (nI r) hl hK
theorem zero9_m {c : Nat} (hc : c < 4) (q : Int32) : ∃ s', wh (f5_list_b9 (nI c) q) FU (m_many_s ms (upd (m_many ms) c 0), (0 : Int32)) = some s' ∧ IM ms c [] s' := by
  have key : ∃ s', wh (f5_list_b9 (nI c) q) FU (m_many_s ms (upd (m_many ms) c 0), (0 : Int32)) = some s' ∧ ∃ B, s' = LM ms (m_listed ms) (upd (m_many ms) c 0) B ∧ (∀ k, k < 16 * c ∨ 16 * c + 16 ≤ k → B k = m_bySupport ms k) ∧ ∀ t, t < 16 → B (16 * c + t) = 0 := by
    rw [LM_2]
    refine wh_inv 16 (by omega) (fun i z => ∃ B, z = (LM ms (m_listed ms) (upd (m_many ms) c 0) B, nI i) ∧ (∀ k, k < 16 * c ∨ 16 * c + 16 ≤ k → B k = m_bySupport ms k) ∧ ∀ t, t < i → B (16 * c + t) = 0) _ ⟨m_bySupport ms, rfl, fun _ _ => rfl, fun t ht => by omega⟩ ?_ ?_
    · rintro i _ hi ⟨B, rfl, h1, h2⟩
      refine Or.inl ⟨_, ?_, upd B (16 * c + i) 0, rfl, fun k hk => (pk_un (by omega)).trans (h1 k hk), fun t ht => ?_⟩
      · unfold f5_list_b9
        simp only
        rw [if_neg (show ¬ (16 : Int32) ≤ nI i from lge 16 hi), show (16 : Int32) * nI c + nI i = nI (16 * c + i) from emk 16 c i rfl, if_pos (ib_n (by omega) (by omega)), tn (by omega), LM_3, nI_1]
        rfl
      · by_cases e : t = i
        · rw [e, pk_us]
        · rw [pk_un (by omega)]
          exact h2 t (by omega)
    · rintro _ ⟨B, rfl, h1, h2⟩
      refine ⟨_, ?_, B, rfl, h1, h2⟩
      unfold f5_list_b9
      exact if_pos (Int32.le_refl _)
  obtain ⟨s', k1, B, rfl, k2, k3⟩ := key
  refine ⟨_, k1, _, _, _, rfl, fun j hj => pk_un hj, fun k hk => rfl, k2, pk_us, fun k e h => (by simp at h), fun t ht => ?_⟩
  rw [k3 t ht]
  rfl
theorem neg_ma {c : Nat} {q : Int32} (hq : q < 0) {s : MS} : wh (f5_list_b35 (nI c) q) FU (s, (0 : Int32)) = some s := by
  have b : f5_list_b35 (nI c) q (s, (0 : Int32)) = some (.inr s) := by
    unfold f5_list_b35
    exact if_pos hq
  show wh (f5_list_b35 (nI c) q) (4999 + 1) (s, (0 : Int32)) = some s
  rw [wh, b]
theorem list_m (hM : MZ ms Z) (hv : VZ Z) {c : Nat} (hc : c < 4) {q : Int32} (hq : q < 0 ∨ ∃ r, r < 1000 ∧ q = nI r) (hl : (SL Z q).length < 701) : ∃ s, f5_list ms (nI c) q = some s ∧ IM ms c (SL Z q) s := by
  obtain ⟨s0, z1, z2⟩ := zero9_m (ms := ms) hc q
  have key : ∃ s, wh (f5_list_b35 (nI c) q) FU (s0, (0 : Int32)) = some s ∧ IM ms c (SL Z q) s := by
    rcases hq with hq | ⟨r, hr, rfl⟩
    · refine ⟨s0, neg_ma hq, ?_⟩
      unfold SL
      rw [if_pos hq]
      exact z2
    · have e : SL Z (nI r) = solc (Z 25) [Z 4, Z 5, Z 6, Z 7] r 0 := by
        unfold SL
        rw [if_neg (nI_pos (by omega)), tn (by omega)]
      rw [e] at hl ⊢
      exact lev_ma hM hv hc hr z2 (by rw [List.nil_append]; exact hl)
  obtain ⟨s, k1, k2⟩ := key
  refine ⟨s, ?_, k2⟩
  unfold f5_list
  rw [if_pos (ib_n hc (by omega)), tn (by omega), z1, bi1_s, k1, bi1_s]
/-- all four lists are laid -/
def AM (ms : MS) (Q : Nat → List Nat) (n : Nat) (s : MS) : Prop := ∃ L N B, s = LM ms L N B ∧ ∀ c, c < n → N c = nI (Q c).length ∧ (∀ k e, (Q c)[k]? = some e → L (700 * c + k) = nI (dec e)) ∧ ∀ t, t < 16 → B (16 * c + t) = nI (cnt (Q c) t)
theorem LM_LM (ms : MS) (L L' N N' B B' : Nat → Int32) : LM (LM ms L N B) L' N' B' = LM ms L' N' B' := rfl
theorem AM_s {Q : Nat → List Nat} {n : Nat} {s s' : MS} (h : AM ms Q n s) (h' : IM s n (Q n) s') (hl : ∀ c, c < n → (Q c).length < 701) : AM ms Q (n + 1) s' := by
  obtain ⟨L, N, B, rfl, h1⟩ := h
  obtain ⟨L', N', B', rfl, g1, g2, g3, g4, g5, g6⟩ := h'
  refine ⟨L', N', B', LM_LM _ _ _ _ _ _ _, fun c hc => ?_⟩
  by_cases e : c = n
  · subst e
    exact ⟨g4, g5, g6⟩
  · obtain ⟨a1, a2, a3⟩ := h1 c (by omega)
    have := hl c (by omega)
    refine ⟨(g1 c e).trans a1, fun k e' hk => ?_, fun t ht => (g3 _ (by omega)).trans (a3 t ht)⟩
    have hk2 : k < (Q c).length := by
      rcases Nat.lt_or_ge k (Q c).length with z | z
      · exact z
      · rw [List.getElem?_eq_none z] at hk; cases hk
    exact (g2 _ (by omega)).trans (a2 k e' hk)
theorem AM.mz {Q : Nat → List Nat} {n : Nat} {s : MS} (h : AM ms Q n s) (hM : MZ ms Z) : MZ s Z := by
  obtain ⟨L, N, B, rfl, _⟩ := h
  exact hM
/-- the rests, one of them perhaps another -/
def rq (Z : Nat → Nat) (x d : Int32) (c : Nat) : Int32 := rs Z c + if nI c = x then d else 0
theorem listAll_m (hM : MZ ms Z) (hv : VZ Z) {x d : Int32} (hq : ∀ c, c < 4 → (rq Z x d c < 0 ∨ ∃ r, r < 1000 ∧ rq Z x d c = nI r) ∧ (SL Z (rq Z x d c)).length < 701) : ∃ s, f5_listAll ms x d = some s ∧ AM ms (fun c => SL Z (rq Z x d c)) 4 s := by
  have key : ∃ s, wh (f5_listAll_b2 x d) FU (ms, (0 : Int32)) = some s ∧ AM ms (fun c => SL Z (rq Z x d c)) 4 s := by
    refine wh_inv 4 (by omega) (fun i z => ∃ s, z = (s, nI i) ∧ AM ms (fun c => SL Z (rq Z x d c)) i s) _ ⟨ms, rfl, m_listed ms, m_many ms, m_bySupport ms, rfl, fun c hc => by omega⟩ ?_ ?_
    · rintro i _ hi ⟨s, rfl, hs⟩
      have hM' := hs.mz hM
      obtain ⟨s', k1, k2⟩ := list_m hM' hv hi (hq i hi).1 (hq i hi).2
      refine Or.inl ⟨_, ?_, s', rfl, AM_s hs k2 (fun c hc => (hq c (by omega)).2)⟩
      unfold f5_listAll_b2
      simp only
      rw [if_neg (show ¬ (4 : Int32) ≤ nI i from lge 4 hi), rs_m hM' hi, bi1_s]
      show (bi1 (f5_list s (nI i) (rq Z x d i)) fun st14 => _) = _
      rw [k1, bi1_s, nI_1]
    · rintro _ ⟨s, rfl, hs⟩
      refine ⟨_, ?_, hs⟩
      unfold f5_listAll_b2
      exact if_pos (Int32.le_refl _)
  obtain ⟨s, k1, k2⟩ := key
  refine ⟨s, ?_, k2⟩
  unfold f5_listAll
  rw [k1, bi1_s]
end PM
