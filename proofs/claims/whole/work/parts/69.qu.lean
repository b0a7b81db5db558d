/-! openShare. -/
section QU
variable {EP LP : CS → (Nat → Nat) → Prop} {st : CS} {ms : MS} {Z : Nat → Nat}
/-- a rest is below zero, or a difference -/
theorem rz (hv : VZ Z) {c : Nat} (hc : c < 4) : (Z c ≤ Z (16 + c) ∧ rs Z c = nI (Z (16 + c) - Z c) ∧ 0 ≤ rs Z c) ∨ (rs Z c < 0) := by
  have b1 := hv.le9 (k := 16 + c) (by omega)
  have b2 := hv.le9 (k := c) (by omega)
  unfold rs
  rcases Nat.lt_or_ge (Z (16 + c)) (Z c) with q | q
  · exact Or.inr (pk_sneg (by omega) q)
  · refine Or.inl ⟨q, pk_sub q, ?_⟩
    rw [pk_sub q]
    exact nI_pos' (by omega)
theorem fA_nI (g : Nat → Nat) : ∀ n, fA (fun c => nI (g c)) n = nI (sm g n)
  | 0 => rfl
  | n + 1 => by rw [fA, fA_nI g n, nI_add, sm]
theorem fA_congr {f g : Nat → Int32} : ∀ {n : Nat}, (∀ k, k < n → f k = g k) → fA f n = fA g n
  | 0, _ => rfl
  | n + 1, h => by rw [fA, fA, fA_congr (fun k hk => h k (by omega)), h n (by omega)]
theorem ng_0 (h : ng Z ≤ 0) : ∀ c, c < 4 → 0 ≤ rs Z c := by
  have e : ng Z = nI (sm (fun c => if 0 ≤ rs Z c then 0 else 1) 4) := by
    unfold ng
    rw [← fA_nI]
    refine fA_congr (fun c _ => ?_)
    split <;> rfl
  have hb : sm (fun c => if 0 ≤ rs Z c then 0 else 1) 4 ≤ 4 * 1 := sm_le (fun c _ => by split <;> omega)
  rw [e] at h
  intro c hc
  by_cases q : 0 ≤ rs Z c
  · exact q
  · exfalso
    refine nI_nle (n := sm (fun c => if 0 ≤ rs Z c then 0 else 1) 4) ?_ (by omega) h
    have : ∀ n, c < n → 0 < sm (fun c => if 0 ≤ rs Z c then 0 else 1) n := by
      intro n
      induction n with
      | zero => intro z; omega
      | succ n ih =>
        intro z
        rw [sm]
        by_cases w : c = n
        · subst w
          rw [if_neg q]
          omega
        · have := ih (by omega)
          omega
    exact this 4 hc
theorem fo_2 (hv : VZ Z) : fo Z 2 = sm (fun c => Z (16 + c)) 4 ∧ fo Z 2 < 37 := by
  have z : ∀ f, f < 4 → Z (20 + f) = 0 := fun f hf => by
    have := hv (20 + f) (by omega)
    unfold bd at this
    rw [if_neg (by omega), if_neg (by omega), if_neg (by omega), if_neg (by omega)] at this
    omega
  have z0 : Z 20 = 0 := z 0 (by omega)
  have z1 : Z 21 = 0 := z 1 (by omega)
  have z2 : Z 22 = 0 := z 2 (by omega)
  have z3 : Z 23 = 0 := z 3 (by omega)
  have b0 := hv.le9 (k := 16) (by omega)
  have b1 := hv.le9 (k := 17) (by omega)
  have b2 := hv.le9 (k := 18) (by omega)
  have b3 := hv.le9 (k := 19) (by omega)
  have e1 : fo Z 2 = 0 + Z 16 + Z 17 + Z 18 + Z 19 + Z 20 + Z 21 + Z 22 + Z 23 := rfl
  have e2 : sm (fun c => Z (16 + c)) 4 = 0 + Z 16 + Z 17 + Z 18 + Z 19 := rfl
  omega
theorem rests_t (hv : VZ Z) (h : ∀ c, c < 4 → 0 ≤ rs Z c) : ∃ t, t ≤ fo Z 2 ∧ fA (rs Z) 4 = nI t := by
  have hz : ∀ c, c < 4 → Z c ≤ Z (16 + c) ∧ rs Z c = nI (Z (16 + c) - Z c) := fun c hc => by
    rcases rz hv hc with ⟨q1, q2, _⟩ | q
    · exact ⟨q1, q2⟩
    · exact absurd q (Int32.not_lt.mpr (h c hc))
  refine ⟨sm (fun c => Z (16 + c) - Z c) 4, ?_, ?_⟩
  · rw [(fo_2 hv).1]
    exact sm_mono (Nat.le_refl _) (fun c _ => Nat.sub_le _ _)
  · rw [← fA_nI]
    exact fA_congr (fun c hc => (hz c hc).2)
/-- the open share -/
def sv (Z : Nat → Nat) : UInt64 := if fo Z 2 = 0 then FP.dconst0 else if ng Z ≤ 0 then FP.ddiv (FP.i2d (fA (rs Z) 4)) (FP.i2d (nI (fo Z 2))) else FP.dconst0
theorem sv_shr (hv : VZ Z) (h1 : ¬ fo Z 2 = 0) (h2 : ng Z ≤ 0) : ∃ t, t ≤ fo Z 2 ∧ FP.ddiv (FP.i2d (fA (rs Z) 4)) (FP.i2d (nI (fo Z 2))) = shr t (fo Z 2) := by
  obtain ⟨t, t1, t2⟩ := rests_t hv (ng_0 h2)
  exact ⟨t, t1, by rw [t2]; rfl⟩
theorem sv_ok (hv : VZ Z) : Op.cmpValue (FP.dcmp (sv Z) (sv Z)) CmpOp.l = 0 ∧ f4_bitsOfShare (sv Z) = some (sv Z).toInt64 := by
  unfold sv
  by_cases q : fo Z 2 = 0
  · rw [if_pos q]
    exact ⟨zero_cmp, zero_bits⟩
  · rw [if_neg q]
    by_cases w : ng Z ≤ 0
    · obtain ⟨t, t1, t2⟩ := sv_shr hv q w
      have := (fo_2 hv).2
      rw [if_pos w, t2]
      exact ⟨shr_cmp _ this (by omega) t t1, shr_bits _ this (by omega) t t1⟩
    · rw [if_neg w]
      exact ⟨zero_cmp, zero_bits⟩
theorem share_c (h : CZ st Z) (hv : VZ Z) : f4_openShare st = some (sv Z) := by
  have hn := (fo_2 hv).2
  unfold f4_openShare sv
  rw [show f4_factorsOf st 2 = _ from fo_c h (p := 2) (by omega), bi1_s]
  by_cases q : fo Z 2 = 0
  · rw [q, if_pos (show nI 0 = (0 : Int32) from rfl), if_pos rfl]
  · rw [if_neg (nI_ne0 (by omega) (by omega)), if_neg q, below_c h, bi1_s]
    by_cases w : ng Z ≤ 0
    · obtain ⟨t, t1, t2⟩ := sv_shr hv q w
      have h1 : wh (f4_openShare_b23 st (nI (fo Z 2))) FU ((0 : Int32), (0 : Int32)) = some (fA (rs Z) 4) := by
        refine wh_for' 4 (by omega) (fun i => (fA (rs Z) i, nI i)) rfl (fun i hi => ?_) ?_
        · unfold f4_openShare_b23
          simp only
          rw [if_neg (show ¬ (4 : Int32) ≤ nI i from lge 4 hi), rs_c h hi, bi1_s, nI_1]
          rfl
        · unfold f4_openShare_b23
          exact if_pos (Int32.le_refl _)
      rw [if_pos w, if_pos w, h1, bi1_s, t2, if_pos (shr_nn _ hn (by omega) t t1)]
    · rw [if_neg w, if_neg w]
theorem share_m (h : MZ ms Z) (hv : VZ Z) : f5_share ms = some (sv Z) := by
  have hn := (fo_2 hv).2
  unfold f5_share sv
  rw [show f5_restOf ms 0 = _ from rs_m h (c := 0) (by omega), bi1_s, show f5_restOf ms 1 = _ from rs_m h (c := 1) (by omega), bi1_s, show f5_restOf ms 2 = _ from rs_m h (c := 2) (by omega), bi1_s, show f5_restOf ms 3 = _ from rs_m h (c := 3) (by omega), bi1_s, show f5_factorsOf ms 2 = _ from fo_m h (p := 2) (by omega), bi1_s]
  by_cases q : fo Z 2 = 0
  · rw [q, if_pos (show nI 0 = (0 : Int32) from rfl), if_pos rfl]
  · rw [if_neg (nI_ne0 (by omega) (by omega)), if_neg q, below_m h, bi1_s]
    by_cases w : ng Z ≤ 0
    · obtain ⟨t, t1, t2⟩ := sv_shr hv q w
      have e : rs Z 0 + rs Z 1 + rs Z 2 + rs Z 3 = fA (rs Z) 4 := by
        show _ = 0 + rs Z 0 + rs Z 1 + rs Z 2 + rs Z 3
        rw [Int32.zero_add]
      rw [if_pos w, if_pos w, bi1_s, e, t2, if_pos (shr_nn _ hn (by omega) t t1)]
    · rw [if_neg w, if_neg w]
theorem s25 : St25 (Rel EP LP) := by
  intro st ms hR
  obtain ⟨Z, Hs, h1, h2, h3, _⟩ := id hR
  refine ⟨sv Z, m_thrown_s ms 0, sv Z, share_c h2 h1, ?_, (sv_ok h1).1, hR.t 0⟩
  unfold f5_openShare
  rw [share_m (ms := m_thrown_s ms 0) h3 h1, bi1_s]
end QU
