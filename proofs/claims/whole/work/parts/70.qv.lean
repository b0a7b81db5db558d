/-! The digest: two loops at once; the calls that it makes. -/
theorem wh_two {σ τ ρ υ : Type} {b : σ → Option (σ ⊕ ρ)} {b' : τ → Option (τ ⊕ υ)} {z : σ} {z' : τ} (n : Nat) (hn : n < 4999) (I : Nat → σ → τ → Prop) (X : ρ → υ → Prop) (h0 : I 0 z z') (hs : ∀ i z z', i < n → I i z z' → (∃ y y', b z = some (.inl y) ∧ b' z' = some (.inl y') ∧ I (i + 1) y y') ∨ ∃ r r', b z = some (.inr r) ∧ b' z' = some (.inr r') ∧ X r r') (he : ∀ z z', I n z z' → ∃ r r', b z = some (.inr r) ∧ b' z' = some (.inr r') ∧ X r r') : ∃ r r', wh b FU z = some r ∧ wh b' FU z' = some r' ∧ X r r' := by
  have key : ∀ (k m : Nat), m + k = n → ∀ F, k < F → ∀ z z', I m z z' → ∃ r r', wh b F z = some r ∧ wh b' F z' = some r' ∧ X r r' := by
    intro k
    induction k with
    | zero =>
      intro m hm F hF z z' hI
      obtain ⟨F', rfl⟩ : ∃ F', F = F' + 1 := ⟨F - 1, by omega⟩
      have : m = n := by omega
      subst this
      obtain ⟨r, r', h1, h2, h3⟩ := he z z' hI
      exact ⟨r, r', by rw [wh, h1], by rw [wh, h2], h3⟩
    | succ k ih =>
      intro m hm F hF z z' hI
      obtain ⟨F', rfl⟩ : ∃ F', F = F' + 1 := ⟨F - 1, by omega⟩
      rcases hs m z z' (by omega) hI with ⟨y, y', h1, h2, h3⟩ | ⟨r, r', h1, h2, h3⟩
      · obtain ⟨r, r', h4, h5, h6⟩ := ih (m + 1) (by omega) F' (by omega) y y' h3
        exact ⟨r, r', by rw [wh, h1]; exact h4, by rw [wh, h2]; exact h5, h6⟩
      · exact ⟨r, r', by rw [wh, h1], by rw [wh, h2], h3⟩
  exact key n 0 (by omega) FU (by unfold FU; omega) z z' h0
/-- a mixture of the first n numbers -/
def hx (f : Nat → Int64) (h : Int64) : Nat → Int64
  | 0 => h
  | n + 1 => 31 * hx f h n + f n
theorem hx_add (f : Nat → Int64) (h : Int64) (m : Nat) : ∀ k, hx f h (m + k) = hx (fun j => f (m + j)) (hx f h m) k
  | 0 => rfl
  | k + 1 => by rw [← Nat.add_assoc, hx, hx_add f h m k, hx]
theorem hs_same (ms : MS) (v : Int64) : msame ms (m_hash_s ms v) := ⟨rfl, rfl, rfl, rfl, rfl, rfl, rfl⟩
theorem hs_hs (ms : MS) (u v : Int64) : m_hash_s (m_hash_s ms u) v = m_hash_s ms v := rfl
theorem hs_0 (ms : MS) : ms = m_hash_s ms (m_hash ms) := rfl
theorem mix_m (ms : MS) (x : Int64) : f5_mix ms x = m_hash_s ms (31 * m_hash ms + x) := rfl
theorem mix_hs (ms : MS) (h x : Int64) : f5_mix (m_hash_s ms h) x = m_hash_s ms (31 * h + x) := rfl
section QV
variable {LP : CS → (Nat → Nat) → Prop} {st : CS} {ms : MS} {Z : Nat → Nat}
theorem Rel.hx {EP LP : CS → (Nat → Nat) → Prop} (h : Rel EP LP st ms) (x : Int64) : Rel EP LP st (f5_mix ms x) := h.m (hs_same ms _)
theorem solutions_ok (hS : Snd EP LP) (hR : Rel EP LP st ms) {c : Nat} (hc : c < 4) : ∃ s ms' r, f4_solutions st (nI c) = some (s, .inr r) ∧ f5_solutionsOf ms (nI c) = some (ms', r) ∧ Rel EP LP s ms' ∧ m_hash ms' = m_hash ms := by
  obtain ⟨s, Z, p1, p2, p3, p4, p5, p6, p7, p8⟩ := hR.pr hS
  obtain ⟨s', k1, k2, k3, k4⟩ := solutionsOf_m p4 p2 hc
  refine ⟨s, s', _, ?_, k1, p8 s s' (csame.r s) (lsame.r s) p5 k2, k4⟩
  unfold f4_solutions f0_solutionsOf
  rw [show f4_needIndex (nI c) 4 = _ from ni_in 4 hc, bt0_r, p1, bi1_s, if_pos (ib_n (by omega) (by omega)), tn (by omega), (p5.2.2.2.1 c hc).1, bi1_s]
theorem ifMore_ok (hS : Snd EP LP) (hR : Rel EP LP st ms) {c : Nat} (hc : c < 4) : ∃ s ms' r, f4_ifMore st (nI c) 1 = some (s, .inr r) ∧ f5_moreThen ms (nI c) 1 = some (ms', r) ∧ Rel EP LP s ms' ∧ m_hash ms' = m_hash ms := by
  obtain ⟨s, Z, p1, p2, p3, p4, p5, p6, p7, p8⟩ := hR.pr hS
  obtain ⟨i1, i2⟩ := in19 10 (by omega)
  obtain ⟨s2, m1, m2, m3, m4⟩ := more_m p4 p2 (c := c) (k := 10) (by omega)
  obtain ⟨s3, c1, c2, c3, c4⟩ := more_c p2 p5 hc (k := 10) (by omega)
  refine ⟨s3, s2, lN (Wk (xr Z (nI c) (nI 10 - 9)) (yM (PT Z)) 4 0), ?_, m1, p8 s3 s2 c2 c3 c4 m2, m4⟩
  show f4_ifMore st (nI c) (nI 10 - 9) = _
  unfold f4_ifMore
  rw [show f4_needIndex (nI c) 4 = _ from ni_in 4 hc, bt0_r, i1, bt0_r, p1, bi1_s, rs_c p3 hc, bi1_s, c1, bi2_s]
theorem matchers_ok (hS : Snd EP LP) (hR : Rel EP LP st ms) {k : Nat} (hk : k < 2) : ∃ s ms' r, f4_matchers st (nI k) = some (s, .inr r) ∧ f5_matchersBy ms (nI k) = some (ms', r) ∧ Rel EP LP s ms' ∧ m_hash ms' = m_hash ms := by
  obtain ⟨s, Z, p1, p2, p3, p4, p5, p6, p7, p8⟩ := hR.pr hS
  have hm : ∃ s', f5_matchersBy ms (nI k) = some (s', lN (Wk (xs Z) (yM (PT Z)) 4 0)) ∧ msame ms s' ∧ m_hash s' = m_hash ms := by
    unfold f5_matchersBy
    rcases (show k = 0 ∨ k = 1 by omega) with rfl | rfl
    · obtain ⟨s', k1, k2, k3, k4⟩ := bySets_m p4 p2
      rw [if_pos (show nI 0 = (0 : Int32) from rfl), k1, bi2_s]
      exact ⟨s', rfl, k2, k4⟩
    · obtain ⟨s', k1, k2⟩ := now_m p4 p2
      obtain ⟨k3, k4, k5⟩ := k2.same
      rw [if_neg (show ¬ nI 1 = (0 : Int32) by decide +kernel), k1, bi2_s]
      exact ⟨s', rfl, k3, k5⟩
  obtain ⟨s', k1, k2, k3⟩ := hm
  refine ⟨s, s', _, ?_, k1, p8 s s' (csame.r s) (lsame.r s) p5 k2, k3⟩
  unfold f4_matchers
  rw [show f4_needNumber (nI k) 0 1 = _ from nn_in 1 (by omega), bt0_r, p1, bi1_s]
  rcases (show k = 0 ∨ k = 1 by omega) with rfl | rfl
  · rw [if_pos (show nI 0 = (0 : Int32) from rfl), bySets_c p2 p5, bi1_s]
  · rw [if_neg (show ¬ nI 1 = (0 : Int32) by decide +kernel), byConstants_c p2 p5, bi1_s]
theorem shortest_ok (hS : Snd EP LP) (hR : Rel EP LP st ms) {v : Nat} (hv4 : v < 4) : ∃ s ms' r, f4_shortest st (nI v) = some (s, .inr r) ∧ f5_shortestNow ms (nI v) = some (ms', r) ∧ Rel EP LP s ms' ∧ m_hash ms' = m_hash ms := by
  obtain ⟨s, Z, p1, p2, p3, p4, p5, p6, p7, p8⟩ := hR.pr hS
  have hC0 : CZ st Z := fun k hk => by rw [← p6.1]; exact p3 k hk
  obtain ⟨s', m1, m2, m3, m4⟩ := now_sht p4 p2 hv4
  have hh := has_c hC0 p2 (p := 0) (v := v) (by omega) hv4
  rw [show 8 * 0 + (4 + v) = 4 + v by omega] at hh
  by_cases q : Z (4 + v) = 0
  · refine ⟨st, s', sht Z v, ?_, m1, hR.m m2, m4⟩
    unfold f4_shortest
    rw [show f4_needIndex (nI v) 4 = _ from ni_in 4 hv4, bt0_r, show f4_hasVariable st 0 (nI v) = _ from hh, bi1_s, if_pos q, if_pos rfl, sht, if_pos q]
  · obtain ⟨s2, b1, b2, b3, b4⟩ := best_c p3 p2 p5 hv4
    refine ⟨s2, s', sht Z v, ?_, m1, p8 s2 s' b2 b3 b4 m2, m4⟩
    unfold f4_shortest
    rw [show f4_needIndex (nI v) 4 = _ from ni_in 4 hv4, bt0_r, show f4_hasVariable st 0 (nI v) = _ from hh, bi1_s, if_neg q, if_neg one_ne, p1, bi1_s, b1, bi1_s, sht, if_neg q]
end QV
