/-! (of the class alone) -/
def cA (x y : Nat) : Nat := Nat.div (Nat.sub y 5) (Nat.gcd (Nat.sub 5 x) (Nat.sub y 5))
def cB (x y : Nat) : Nat := Nat.div (Nat.sub 5 x) (Nat.gcd (Nat.sub 5 x) (Nat.sub y 5))
def pq (x y a b s : Nat) : Bool := Nat.ble 5 x || (Nat.ble y 5 || (!(Nat.ble (cA x y) a) || (!(Nat.ble (cB x y) b) || Nat.beq s (Nat.add (cA x y) (cB x y)))))
def un (x a s : Nat) : Bool := !(Nat.beq x 5) || (Nat.beq a 0 || Nat.beq s 1)
def gs (a b c d : Nat) : Nat := Nat.add (Nat.add (Nat.add a b) c) d
def gq (x y z w a b c d : Nat) : Bool := Nat.beq (Nat.add (Nat.add (Nat.add (Nat.mul x a) (Nat.mul y b)) (Nat.mul z c)) (Nat.mul w d)) (Nat.mul 5 (gs a b c d)) && (!(Nat.beq (gs a b c d) 0) && (un x a (gs a b c d) && (un y b (gs a b c d) && (un z c (gs a b c d) && (un w d (gs a b c d) && (pq x y a b (gs a b c d) && (pq x z a c (gs a b c d) && (pq x w a d (gs a b c d) && (pq y z b c (gs a b c d) && (pq y w b d (gs a b c d) && pq z w c d (gs a b c d)))))))))))
def Bq (x y z w : Nat) : Nat := sm (fun a => sm (fun b => sm (fun c => sm (fun d => (gq x y z w a b c d).toNat) 6) 6) 6) 6
def chk2 (x y : Nat) : Bool := (List.range 11).all fun z => (List.range 11).all fun w => !(Nat.ble y z) || (!(Nat.ble z w) || Nat.ble (Bq x y z w) 30)
theorem cir : ∀ x, x < 5 → ∀ y, y < 11 → 5 < y → x * cA x y + y * cB x y = 5 * (cA x y + cB x y) ∧ 0 < cA x y := by decide +kernel
theorem pq_ok {x y a b s : Nat} (h : x < 5 → 5 < y → cA x y ≤ a → cB x y ≤ b → s = cA x y + cB x y) : pq x y a b s = true := by
  unfold pq
  by_cases q1 : 5 ≤ x
  · rw [Nat.ble_eq.mpr q1]; rfl
  · by_cases q2 : y ≤ 5
    · rw [Nat.ble_eq.mpr q2, Bool.or_comm]; rfl
    · by_cases q3 : cA x y ≤ a
      · by_cases q4 : cB x y ≤ b
        · have e : Nat.beq s (Nat.add (cA x y) (cB x y)) = true := Nat.beq_eq.mpr (h (by omega) (by omega) q3 q4)
          rw [e]
          simp
        · have e : Nat.ble (cB x y) b = false := by rw [← Bool.not_eq_true, Nat.ble_eq]; exact q4
          rw [e]
          simp
      · have e : Nat.ble (cA x y) a = false := by rw [← Bool.not_eq_true, Nat.ble_eq]; exact q3
        rw [e]
        simp
theorem un_ok {x a s : Nat} (h : x = 5 → 0 < a → s = 1) : un x a s = true := by
  unfold un
  by_cases q1 : x = 5
  · by_cases q2 : a = 0
    · rw [Nat.beq_eq.mpr q2]
      simp
    · have e : Nat.beq s 1 = true := Nat.beq_eq.mpr (h q1 (by omega))
      rw [e]
      simp
  · have e : Nat.beq x 5 = false := by rw [← Bool.not_eq_true, Nat.beq_eq]; exact q1
    rw [e]
    rfl
theorem mq_gq {x y z w a b c d : Nat} (hx : x < 11) (hy : y < 11) (hz : z < 11) (hw : w < 11) (h : mq x y z w a b c d) : gq x y z w a b c d = true := by
  obtain ⟨h1, h2, h3⟩ := h
  have hs : gs a b c d = a + b + c + d := rfl
  unfold so4 at h2 h3
  unfold gq
  rw [Bool.and_eq_true, Bool.and_eq_true, Bool.and_eq_true, Bool.and_eq_true, Bool.and_eq_true, Bool.and_eq_true, Bool.and_eq_true, Bool.and_eq_true, Bool.and_eq_true, Bool.and_eq_true, Bool.and_eq_true, hs]
  refine ⟨Nat.beq_eq.mpr h2, ?_, ?_, ?_, ?_, ?_, ?_, ?_, ?_, ?_, ?_, ?_⟩
  · have e : Nat.beq (a + b + c + d) 0 = false := by rw [← Bool.not_eq_true, Nat.beq_eq]; omega
    rw [e]
    rfl
  · exact un_ok (fun q g => by
      have := h3 1 0 0 0 (by omega) (by omega) (by omega) (by omega) (by omega) (by omega)
      omega)
  · exact un_ok (fun q g => by
      have := h3 0 1 0 0 (by omega) (by omega) (by omega) (by omega) (by omega) (by omega)
      omega)
  · exact un_ok (fun q g => by
      have := h3 0 0 1 0 (by omega) (by omega) (by omega) (by omega) (by omega) (by omega)
      omega)
  · exact un_ok (fun q g => by
      have := h3 0 0 0 1 (by omega) (by omega) (by omega) (by omega) (by omega) (by omega)
      omega)
  · exact pq_ok (fun q1 q2 q3 q4 => by
      obtain ⟨c1, c2⟩ := cir x q1 y hy q2
      have := h3 (cA x y) (cB x y) 0 0 (by omega) (by omega) (by omega) (by omega) (by omega) (by omega)
      omega)
  · exact pq_ok (fun q1 q2 q3 q4 => by
      obtain ⟨c1, c2⟩ := cir x q1 z hz q2
      have := h3 (cA x z) 0 (cB x z) 0 (by omega) (by omega) (by omega) (by omega) (by omega) (by omega)
      omega)
  · exact pq_ok (fun q1 q2 q3 q4 => by
      obtain ⟨c1, c2⟩ := cir x q1 w hw q2
      have := h3 (cA x w) 0 0 (cB x w) (by omega) (by omega) (by omega) (by omega) (by omega) (by omega)
      omega)
  · exact pq_ok (fun q1 q2 q3 q4 => by
      obtain ⟨c1, c2⟩ := cir y q1 z hz q2
      have := h3 0 (cA y z) (cB y z) 0 (by omega) (by omega) (by omega) (by omega) (by omega) (by omega)
      omega)
  · exact pq_ok (fun q1 q2 q3 q4 => by
      obtain ⟨c1, c2⟩ := cir y q1 w hw q2
      have := h3 0 (cA y w) 0 (cB y w) (by omega) (by omega) (by omega) (by omega) (by omega) (by omega)
      omega)
  · exact pq_ok (fun q1 q2 q3 q4 => by
      obtain ⟨c1, c2⟩ := cir z q1 w hw q2
      have := h3 0 0 (cA z w) (cB z w) (by omega) (by omega) (by omega) (by omega) (by omega) (by omega)
      omega)
theorem mC_Bq {x y z w : Nat} (hx : x < 11) (hy : y < 11) (hz : z < 11) (hw : w < 11) : mC x y z w ≤ Bq x y z w := by
  unfold mC Bq
  refine sm_mono (Nat.le_refl _) (fun a _ => sm_mono (Nat.le_refl _) (fun b _ => sm_mono (Nat.le_refl _) (fun c _ => sm_mono (Nat.le_refl _) (fun d _ => mI_le (fun h => ?_)))))
  rw [mq_gq hx hy hz hw h]
  exact Nat.le_refl _
theorem chk2_ok {x y z w : Nat} (h : chk2 x y = true) (hz : z < 11) (hw : w < 11) (h1 : y ≤ z) (h2 : z ≤ w) : Bq x y z w ≤ 30 := by
  unfold chk2 at h
  have e1 := List.all_eq_true.mp (List.all_eq_true.mp h z (List.mem_range.mpr hz)) w (List.mem_range.mpr hw)
  rw [Nat.ble_eq.mpr h1, Nat.ble_eq.mpr h2] at e1
  exact Nat.ble_eq.mp (by simpa using e1)
theorem k2_0_0 : chk2 0 0 = true := by decide +kernel
theorem k2_0_1 : chk2 0 1 = true := by decide +kernel
theorem k2_0_2 : chk2 0 2 = true := by decide +kernel
theorem k2_0_3 : chk2 0 3 = true := by decide +kernel
theorem k2_0_4 : chk2 0 4 = true := by decide +kernel
theorem k2_0_5 : chk2 0 5 = true := by decide +kernel
theorem k2_0_6 : chk2 0 6 = true := by decide +kernel
theorem k2_0_7 : chk2 0 7 = true := by decide +kernel
theorem k2_0_8 : chk2 0 8 = true := by decide +kernel
theorem k2_0_9 : chk2 0 9 = true := by decide +kernel
theorem k2_0_10 : chk2 0 10 = true := by decide +kernel
theorem k2_1_1 : chk2 1 1 = true := by decide +kernel
theorem k2_1_2 : chk2 1 2 = true := by decide +kernel
theorem k2_1_3 : chk2 1 3 = true := by decide +kernel
theorem k2_1_4 : chk2 1 4 = true := by decide +kernel
theorem k2_1_5 : chk2 1 5 = true := by decide +kernel
theorem k2_1_6 : chk2 1 6 = true := by decide +kernel
theorem k2_1_7 : chk2 1 7 = true := by decide +kernel
theorem k2_1_8 : chk2 1 8 = true := by decide +kernel
theorem k2_1_9 : chk2 1 9 = true := by decide +kernel
theorem k2_1_10 : chk2 1 10 = true := by decide +kernel
theorem k2_2_2 : chk2 2 2 = true := by decide +kernel
theorem k2_2_3 : chk2 2 3 = true := by decide +kernel
theorem k2_2_4 : chk2 2 4 = true := by decide +kernel
theorem k2_2_5 : chk2 2 5 = true := by decide +kernel
theorem k2_2_6 : chk2 2 6 = true := by decide +kernel
theorem k2_2_7 : chk2 2 7 = true := by decide +kernel
theorem k2_2_8 : chk2 2 8 = true := by decide +kernel
theorem k2_2_9 : chk2 2 9 = true := by decide +kernel
theorem k2_2_10 : chk2 2 10 = true := by decide +kernel
theorem k2_3_3 : chk2 3 3 = true := by decide +kernel
theorem k2_3_4 : chk2 3 4 = true := by decide +kernel
theorem k2_3_5 : chk2 3 5 = true := by decide +kernel
theorem k2_3_6 : chk2 3 6 = true := by decide +kernel
theorem k2_3_7 : chk2 3 7 = true := by decide +kernel
theorem k2_3_8 : chk2 3 8 = true := by decide +kernel
theorem k2_3_9 : chk2 3 9 = true := by decide +kernel
theorem k2_3_10 : chk2 3 10 = true := by decide +kernel
theorem k2_4_4 : chk2 4 4 = true := by decide +kernel
theorem k2_4_5 : chk2 4 5 = true := by decide +kernel
theorem k2_4_6 : chk2 4 6 = true := by decide +kernel
theorem k2_4_7 : chk2 4 7 = true := by decide +kernel
theorem k2_4_8 : chk2 4 8 = true := by decide +kernel
theorem k2_4_9 : chk2 4 9 = true := by decide +kernel
theorem k2_4_10 : chk2 4 10 = true := by decide +kernel
theorem k2_5_5 : chk2 5 5 = true := by decide +kernel
theorem k2_5_6 : chk2 5 6 = true := by decide +kernel
theorem k2_5_7 : chk2 5 7 = true := by decide +kernel
theorem k2_5_8 : chk2 5 8 = true := by decide +kernel
theorem k2_5_9 : chk2 5 9 = true := by decide +kernel
theorem k2_5_10 : chk2 5 10 = true := by decide +kernel
theorem k2_6_6 : chk2 6 6 = true := by decide +kernel
theorem k2_6_7 : chk2 6 7 = true := by decide +kernel
theorem k2_6_8 : chk2 6 8 = true := by decide +kernel
theorem k2_6_9 : chk2 6 9 = true := by decide +kernel
theorem k2_6_10 : chk2 6 10 = true := by decide +kernel
theorem k2_7_7 : chk2 7 7 = true := by decide +kernel
theorem k2_7_8 : chk2 7 8 = true := by decide +kernel
theorem k2_7_9 : chk2 7 9 = true := by decide +kernel
theorem k2_7_10 : chk2 7 10 = true := by decide +kernel
theorem k2_8_8 : chk2 8 8 = true := by decide +kernel
theorem k2_8_9 : chk2 8 9 = true := by decide +kernel
theorem k2_8_10 : chk2 8 10 = true := by decide +kernel
theorem k2_9_9 : chk2 9 9 = true := by decide +kernel
theorem k2_9_10 : chk2 9 10 = true := by decide +kernel
theorem k2_10_10 : chk2 10 10 = true := by decide +kernel
theorem chk2_all {x y : Nat} (hy : y < 11) (h : x ≤ y) : chk2 x y = true := by
  rcases (show x = 0 ∨ x = 1 ∨ x = 2 ∨ x = 3 ∨ x = 4 ∨ x = 5 ∨ x = 6 ∨ x = 7 ∨ x = 8 ∨ x = 9 ∨ x = 10 by omega) with rfl | rfl | rfl | rfl | rfl | rfl | rfl | rfl | rfl | rfl | rfl
  · rcases (show y = 0 ∨ y = 1 ∨ y = 2 ∨ y = 3 ∨ y = 4 ∨ y = 5 ∨ y = 6 ∨ y = 7 ∨ y = 8 ∨ y = 9 ∨ y = 10 by omega) with rfl | rfl | rfl | rfl | rfl | rfl | rfl | rfl | rfl | rfl | rfl
    · exact k2_0_0
    · exact k2_0_1
    · exact k2_0_2
    · exact k2_0_3
    · exact k2_0_4
    · exact k2_0_5
    · exact k2_0_6
    · exact k2_0_7
    · exact k2_0_8
    · exact k2_0_9
    · exact k2_0_10
  · rcases (show y = 1 ∨ y = 2 ∨ y = 3 ∨ y = 4 ∨ y = 5 ∨ y = 6 ∨ y = 7 ∨ y = 8 ∨ y = 9 ∨ y = 10 by omega) with rfl | rfl | rfl | rfl | rfl | rfl | rfl | rfl | rfl | rfl
    · exact k2_1_1
    · exact k2_1_2
    · exact k2_1_3
    · exact k2_1_4
    · exact k2_1_5
    · exact k2_1_6
    · exact k2_1_7
    · exact k2_1_8
    · exact k2_1_9
    · exact k2_1_10
  · rcases (show y = 2 ∨ y = 3 ∨ y = 4 ∨ y = 5 ∨ y = 6 ∨ y = 7 ∨ y = 8 ∨ y = 9 ∨ y = 10 by omega) with rfl | rfl | rfl | rfl | rfl | rfl | rfl | rfl | rfl
    · exact k2_2_2
    · exact k2_2_3
    · exact k2_2_4
    · exact k2_2_5
    · exact k2_2_6
    · exact k2_2_7
    · exact k2_2_8
    · exact k2_2_9
    · exact k2_2_10
  · rcases (show y = 3 ∨ y = 4 ∨ y = 5 ∨ y = 6 ∨ y = 7 ∨ y = 8 ∨ y = 9 ∨ y = 10 by omega) with rfl | rfl | rfl | rfl | rfl | rfl | rfl | rfl
    · exact k2_3_3
    · exact k2_3_4
    · exact k2_3_5
    · exact k2_3_6
    · exact k2_3_7
    · exact k2_3_8
    · exact k2_3_9
    · exact k2_3_10
  · rcases (show y = 4 ∨ y = 5 ∨ y = 6 ∨ y = 7 ∨ y = 8 ∨ y = 9 ∨ y = 10 by omega) with rfl | rfl | rfl | rfl | rfl | rfl | rfl
    · exact k2_4_4
    · exact k2_4_5
    · exact k2_4_6
    · exact k2_4_7
    · exact k2_4_8
    · exact k2_4_9
    · exact k2_4_10
  · rcases (show y = 5 ∨ y = 6 ∨ y = 7 ∨ y = 8 ∨ y = 9 ∨ y = 10 by omega) with rfl | rfl | rfl | rfl | rfl | rfl
    · exact k2_5_5
    · exact k2_5_6
    · exact k2_5_7
    · exact k2_5_8
    · exact k2_5_9
    · exact k2_5_10
  · rcases (show y = 6 ∨ y = 7 ∨ y = 8 ∨ y = 9 ∨ y = 10 by omega) with rfl | rfl | rfl | rfl | rfl
    · exact k2_6_6
    · exact k2_6_7
    · exact k2_6_8
    · exact k2_6_9
    · exact k2_6_10
  · rcases (show y = 7 ∨ y = 8 ∨ y = 9 ∨ y = 10 by omega) with rfl | rfl | rfl | rfl
    · exact k2_7_7
    · exact k2_7_8
    · exact k2_7_9
    · exact k2_7_10
  · rcases (show y = 8 ∨ y = 9 ∨ y = 10 by omega) with rfl | rfl | rfl
    · exact k2_8_8
    · exact k2_8_9
    · exact k2_8_10
  · rcases (show y = 9 ∨ y = 10 by omega) with rfl | rfl
    · exact k2_9_9
    · exact k2_9_10
  · rw [show y = 10 by omega]
    exact k2_10_10
theorem mC_30 (x y z w : Nat) : x < 11 → y < 11 → z < 11 → w < 11 → mC x y z w ≤ 30 := by
  refine sort4 (P := fun x y z w => x < 11 → y < 11 → z < 11 → w < 11 → mC x y z w ≤ 30) (fun a b c d h g1 g2 g3 g4 => ?_) (fun a b c d h g1 g2 g3 g4 => ?_) (fun a b c d h g1 g2 g3 g4 => ?_) (fun a b c d h1 h2 h3 g1 g2 g3 g4 => ?_) x y z w
  · rw [mC_01]
    exact h g2 g1 g3 g4
  · rw [mC_12]
    exact h g1 g3 g2 g4
  · rw [mC_23]
    exact h g1 g2 g4 g3
  · exact Nat.le_trans (mC_Bq g1 g2 g3 g4) (chk2_ok (chk2_all g2 h1) g3 g4 h2 h3)
theorem lo_30 {D : Nat → Nat} (h : ∀ v, v < 4 → D v < 11) : (lo D 1296).length ≤ 30 := Nat.le_trans (lo_mC D) (mC_30 _ _ _ _ (h 0 (by omega)) (h 1 (by omega)) (h 2 (by omega)) (h 3 (by omega)))
theorem lo_len_mono (D : Nat → Nat) {n m : Nat} (h : n ≤ m) : (lo D n).length ≤ (lo D m).length := by
  induction m with
  | zero => rw [show n = 0 by omega]; exact Nat.le_refl _
  | succ m ih =>
    by_cases e : n = m + 1
    · rw [e]; exact Nat.le_refl _
    · have := ih (by omega)
      rw [lo_s]
      split
      · rw [List.length_append]
        omega
      · exact this
