/-! A matcher is asked for; value. -/
theorem one_ne : ¬ (1 : Int32) = 0 := by decide +kernel
theorem msame_r (ms : MS) : msame ms ms := ⟨rfl, rfl, rfl, rfl, rfl, rfl, rfl⟩
section QG
variable {LP : CS → (Nat → Nat) → Prop} {st : CS} {ms : MS} {Z : Nat → Nat}
/-- a choice changes nothing else -/
theorem choice_same (s : CS) (C : Nat → Int32) : csame s (c_choice_s s C) ∧ lsame s (c_choice_s s C) := ⟨⟨rfl, rfl, rfl, rfl, rfl, rfl, rfl, rfl⟩, ⟨rfl, rfl, rfl, rfl⟩⟩
theorem need (hS : Snd EP LP) (h : Rel EP LP st ms) (x : Int32) :
    (∃ s Z k Hs, x = nI k ∧ k < 2 ^ 31 ∧ k < Wk (xs Z) (yC Z) 4 0 ∧ f4_needMatcher st x = some (s, .inr ()) ∧ CC Z k (c_choice s) 4 ∧ VZ Z ∧ CZ s Z ∧ MZ ms Z ∧ Rel EP LP s ms ∧ (∃ s', f5_isMatcher ms x = some (s', 1) ∧ msame ms s' ∧ m_thrown s' = m_thrown ms ∧ m_hash s' = m_hash ms) ∧ (∀ W, W ∈ Hs → VZ W) ∧ CH s Hs ∧ MH ms Hs ∧ SN s ms ∧ TX s ms)
    ∨ ∃ s s', f4_needMatcher st x = some (s, .inl 1) ∧ Rel EP LP s ms ∧ f5_isMatcher ms x = some (s', 0) ∧ msame ms s' ∧ m_thrown s' = m_thrown ms ∧ m_hash s' = m_hash ms := by
  obtain ⟨Z, Hs, h1, h2, h3, h4, h5, h6, h7, h8, h9, h10⟩ := h
  obtain ⟨s, e1, e2, e3, e4⟩ := prepare_c h2 h1 h9
  have hR : ∀ s', csame s s' → lsame s s' → EPt s' Z → Rel EP LP s' ms ∧ CH s' Hs ∧ SN s' ms ∧ TX s' ms ∧ CZ s' Z := by
    intro s' g1 g2 g3
    have g := e2.t g1
    have c1 := h5.m g.2.1 g.2.2.1 g.2.2.2.1
    have c2 := h7.m (ms' := ms) g.2.2.2.2.1 g.2.2.2.2.2.1 rfl rfl
    have c3 := h8.m (ms' := ms) g.2.2.2.2.2.2.1 g.2.2.2.2.2.2.2 rfl rfl
    exact ⟨⟨Z, Hs, h1, h2.m g.1, h3, h4, c1, h6, c2, c3, Or.inr g3, hS.2.2.2 st _ _ (e3.t g2) h10⟩, c1, c2, c3, h2.m g.1⟩
  by_cases hx : x < 0
  · refine Or.inr ⟨s, ms, ?_, (hR s (csame.r s) (lsame.r s) e4).1, isMatcher_no hx, msame_r ms, rfl, rfl⟩
    unfold f4_needMatcher
    rw [e1, bi1_s, choose_no h1 e4 (Or.inl hx), bi2_s]
    rfl
  · obtain ⟨k, hk, rfl⟩ := nI_of hx
    obtain ⟨s', m1, m2, m3, m4⟩ := isMatcher_m h3 h1 hk
    by_cases q : k < Wk (xs Z) (yC Z) 4 0
    · obtain ⟨C, c1, c2⟩ := choose_c h1 e4 q hk
      rw [if_pos q] at m1
      obtain ⟨r1, r2, r3, r4, r5⟩ := hR (c_choice_s s C) (choice_same s C).1 (choice_same s C).2 e4
      refine Or.inl ⟨c_choice_s s C, Z, k, Hs, rfl, hk, q, ?_, c2, h1, r5, h3, r1, ⟨s', m1, m2, m3, m4⟩, h4, r2, h6, r3, r4⟩
      unfold f4_needMatcher
      rw [e1, bi1_s, c1, bi2_s]
      rfl
    · rw [if_neg q] at m1
      refine Or.inr ⟨s, s', ?_, (hR s (csame.r s) (lsame.r s) e4).1, m1, m2, m3, m4⟩
      unfold f4_needMatcher
      rw [e1, bi1_s, choose_no h1 e4 (Or.inr ⟨k, hk, rfl, by omega⟩), bi2_s]
      rfl
theorem has_c (h : CZ st Z) (hv : VZ Z) {p v : Nat} (hp : p < 2) (hv4 : v < 4) : f4_hasVariable st (nI p) (nI v) = some (if Z (8 * p + (4 + v)) = 0 then 0 else 1) := by
  have h9 := hv.le9 (k := 8 * p + (4 + v)) (by omega)
  unfold f4_hasVariable
  rw [show nI p * (8 : Int32) + (4 : Int32) + nI v = nI (8 * p + (4 + v)) by
    rw [show nI p * (8 : Int32) + (4 : Int32) = nI (8 * p + 4) from e8' p 4, nI_add, Nat.add_assoc], if_pos (ib_n (by omega) (by omega)), tn (by omega), h _ (by omega)]
  by_cases q : Z (8 * p + (4 + v)) = 0
  · rw [q, if_pos (show nI 0 ≤ (0 : Int32) from Int32.le_refl _)]
    rfl
  · rw [if_neg (nI_nle (by omega) (by omega)), if_neg q]
/-- the code that is chosen -/
def eK (Z : Nat → Nat) (k p : Nat) : Nat := eO Z p (kS Z k p)
theorem eK_in (hv : VZ Z) {k : Nat} (hk : k < Wk (xs Z) (yC Z) 4 0) {p : Nat} (hp : p < 4) : eK Z k p ∈ SL Z (rs Z p) := (kN_ok hv hp (kS_gd hv hk p (by omega))).2.1
theorem chosen_c (hv : VZ Z) {k : Nat} (hk : k < Wk (xs Z) (yC Z) 4 0) (hC : CC Z k (c_choice st) 4) {c v : Nat} (hc : c < 4) (hv4 : v < 4) : f0_chosen st (nI v) (nI c) = some (nI (dg (eK Z k c) v)) := by
  unfold f0_chosen
  rw [if_pos (ib_n hc (by omega)), tn (by omega), show c_choice st c = nI (eK Z k c) from hC c hc, numIn (SL_31 hv (eK_in hv hk hc)) v hv4]
/-- the value of a variable at a constant -/
def vl (Z : Nat → Nat) (k v c : Nat) : Int32 := if Z (4 + v) = 0 then -1 else nI (dg (eK Z k c) v)
theorem value_c (h : CZ st Z) (hv : VZ Z) {k : Nat} (hk : k < Wk (xs Z) (yC Z) 4 0) (hC : CC Z k (c_choice st) 4) {c v : Nat} (hc : c < 4) (hv4 : v < 4) : f4_valueOf st (nI v) (nI c) = some (vl Z k v c) := by
  unfold f4_valueOf vl
  rw [show f4_hasVariable st 0 (nI v) = _ from has_c h hv (p := 0) (by omega) hv4, bi1_s, show 8 * 0 + (4 + v) = 4 + v by omega]
  by_cases q : Z (4 + v) = 0
  · rw [if_pos q, if_pos q, if_pos rfl]
  · rw [if_neg q, if_neg q, if_neg (show ¬ (1 : Int32) = 0 by decide +kernel), chosen_c hv hk hC hc hv4, bi1_s]
theorem value_m (h : MZ ms Z) (hv : VZ Z) {k : Nat} (hC : CV Z k (m_values ms) 4) {c v : Nat} (hc : c < 4) (hv4 : v < 4) : f5_valueOf ms (nI v) (nI c) = some (vl Z k v c) := by
  have h9 := hv.le9 (k := 4 + v) (by omega)
  unfold f5_valueOf vl
  rw [show f5_variableOf ms 0 (nI v) = _ from vo_ok h (p := 0) (f := v) (by omega), bi1_s, show 8 * 0 + (4 + v) = 4 + v by omega]
  by_cases q : Z (4 + v) = 0
  · rw [q, if_pos (show nI 0 = (0 : Int32) from rfl), if_pos rfl]
  · rw [if_neg (nI_ne0 (by omega) (by omega)), if_neg q, show (4 : Int32) * nI v + nI c = nI (4 * v + c) from emk 4 v c rfl, if_pos (ib_n (by omega) (by omega)), tn (by omega), hC c hc v hv4]
    rfl
theorem s17 (hS : Snd EP LP) : St17 (Rel EP LP) := by
  intro st ms hR x0 x1 x2
  rcases ar x1 4 (by omega) with ⟨v, hv4, rfl⟩ | h1
  · rcases ar x2 4 (by omega) with ⟨c, hc, rfl⟩ | h2
    · rcases need hS hR x0 with ⟨s, Z, k, Hs, rfl, hk2, hk, n1, n2, n3, n4, n5, n6, ⟨s', n7, n8, n9, n10⟩, _⟩ | ⟨s, s', n1, n2, n3, n4, n5, _⟩
      · obtain ⟨s2, l1, l2, l3, l4, l5⟩ := layMatcher_m (ms := m_thrown_s s' 0) (Z := Z) (n5.m n8.1) n3 hk hk2
        have hM2 : MZ s2 Z := (n5.m n8.1).m l2.1
        refine ⟨s, .inr (vl Z k v c), s2, vl Z k v c, 0, ?_, ?_, rfl, l3, fun _ q => by cases q; rfl, n6.m ((n8.t (msame_t s' 0)).t l2)⟩
        · show f4_value _ _ _ _ = _
          unfold f4_value
          rw [show f4_needIndex (nI v) 4 = _ from ni_in 4 hv4, bt0_r, show f4_needIndex (nI c) 4 = _ from ni_in 4 hc, bt0_r, n1, bt2_r, value_c n4 n3 hk n2 hc hv4, bi1_s]
        · show f5_value _ _ _ _ = _
          unfold f5_value
          rw [isV_in hv4, if_neg one_ne, isC_in hc, if_neg one_ne, n7, bi2_s, if_neg one_ne]
          unfold f5_value_j32
          rw [if_pos (Int32.le_refl _), l1, bi1_s, value_m hM2 n3 l5 hc hv4, bi1_s]
      · refine ⟨s, .inl 1, m_thrown_s s' 2, 0, 2, ?_, ?_, rfl, rfl, fun _ q => (nomatch q), n2.m (n4.t (msame_t s' 2))⟩
        · show f4_value _ _ _ _ = _
          unfold f4_value
          rw [show f4_needIndex (nI v) 4 = _ from ni_in 4 hv4, bt0_r, show f4_needIndex (nI c) 4 = _ from ni_in 4 hc, bt0_r, n1, bt2_l]
        · show f5_value _ _ _ _ = _
          unfold f5_value
          rw [isV_in hv4, if_neg one_ne, isC_in hc, if_neg one_ne, n3, bi2_s, if_pos rfl]
          rfl
    · refine ok_ref (e := 0) (v := 1) ?_ ?_ rfl hR
      · show f4_value _ _ _ _ = _
        unfold f4_value
        rw [show f4_needIndex (nI v) 4 = _ from ni_in 4 hv4, bt0_r, show f4_needIndex x2 4 = _ from ni_out 4 h2, bt0_l]
      · show f5_value _ _ _ _ = _
        unfold f5_value
        rw [isV_in hv4, isC_out h2]
        rfl
  · refine ok_ref (e := 0) (v := 1) ?_ ?_ rfl hR
    · show f4_value _ _ _ _ = _
      unfold f4_value
      rw [show f4_needIndex x1 4 = _ from ni_out 4 h1, bt0_l]
    · show f5_value _ _ _ _ = _
      unfold f5_value
      rw [isV_out h1]
      rfl
end QG
