/-! Sums of least solutions: the class, on the box below the row. -/
def ps (p q r : Nat) (a b c d : Nat) : Nat := ((a * (p + 1) + b) * (q + 1) + c) * (r + 1) + d
theorem ps_bd {n0 p q r a b c d : Nat} (h0 : n0 < 7) (h1 : p < 7) (h2 : q < 7) (h3 : r < 7) (ha : a ≤ n0) (hb : b ≤ p) (hc : c ≤ q) (hd : d ≤ r) : ps p q r a b c d < 2401 := by
  have e1 : a * (p + 1) ≤ 6 * 7 := Nat.mul_le_mul (by omega) (by omega)
  have e2 : (a * (p + 1) + b) * (q + 1) ≤ 48 * 7 := Nat.mul_le_mul (by omega) (by omega)
  have e3 : ((a * (p + 1) + b) * (q + 1) + c) * (r + 1) ≤ 342 * 7 := Nat.mul_le_mul (by omega) (by omega)
  unfold ps
  omega
theorem mix_in {M x y r t : Nat} (hr : r < M) (ht : t < M) (h : x * M + r = y * M + t) : x = y ∧ r = t := by
  have key : x = y := by
    rcases Nat.lt_trichotomy x y with q | q | q
    · have : (x + 1) * M ≤ y * M := Nat.mul_le_mul_right M q
      rw [Nat.add_mul, Nat.one_mul] at this
      omega
    · exact q
    · have : (y + 1) * M ≤ x * M := Nat.mul_le_mul_right M q
      rw [Nat.add_mul, Nat.one_mul] at this
      omega
  subst key
  exact ⟨rfl, by omega⟩
theorem ps_in {p q r a b c d a' b' c' d' : Nat} (hb : b ≤ p) (hc : c ≤ q) (hd : d ≤ r) (hb' : b' ≤ p) (hc' : c' ≤ q) (hd' : d' ≤ r) (h : ps p q r a b c d = ps p q r a' b' c' d') : a = a' ∧ b = b' ∧ c = c' ∧ d = d' := by
  unfold ps at h
  obtain ⟨h1, h2⟩ := mix_in (M := r + 1) (by omega) (by omega) h
  obtain ⟨h3, h4⟩ := mix_in (M := q + 1) (by omega) (by omega) h1
  obtain ⟨h5, h6⟩ := mix_in (M := p + 1) (by omega) (by omega) h3
  exact ⟨h5, h6, h4, h2⟩
theorem ps_sub {p q r a b c d x y z w : Nat} (ha : x ≤ a) (hb : y ≤ b) (hc : z ≤ c) (hd : w ≤ d) : ps p q r (a - x) (b - y) (c - z) (d - w) + ps p q r x y z w = ps p q r a b c d := by
  unfold ps
  have e1 : (a - x) * (p + 1) + x * (p + 1) = a * (p + 1) := by rw [← Nat.add_mul, Nat.sub_add_cancel ha]
  have e2 : ((a - x) * (p + 1) + (b - y)) * (q + 1) + (x * (p + 1) + y) * (q + 1) = (a * (p + 1) + b) * (q + 1) := by
    rw [← Nat.add_mul]
    congr 1
    omega
  have e3 : (((a - x) * (p + 1) + (b - y)) * (q + 1) + (c - z)) * (r + 1) + ((x * (p + 1) + y) * (q + 1) + z) * (r + 1) = ((a * (p + 1) + b) * (q + 1) + c) * (r + 1) := by
    rw [← Nat.add_mul]
    congr 1
    omega
  omega
section QR
variable {st : CS} {ms : MS} {Z : Nat → Nat}
theorem lw_lw (s : CS) (W W' : Nat → Int32) : c_lways_s (c_lways_s s W) W' = c_lways_s s W' := rfl
/-- the row is laid -/
def RW (s : CS) (n0 n1 n2 n3 : Nat) : Prop := ∀ v, v < 4 → c_row s v = nI (p4 n0 n1 n2 n3 v)
theorem place_c {n0 n1 n2 n3 : Nat} (h : RW st n0 n1 n2 n3) (a b c d : Nat) : f2_placeOf st (nI a) (nI b) (nI c) (nI d) = some (nI (ps n1 n2 n3 a b c d)) := by
  unfold f2_placeOf ps
  rw [show c_row st (1 : Int32).toNatClampNeg = nI n1 from h 1 (by omega), show c_row st (2 : Int32).toNatClampNeg = nI n2 from h 2 (by omega), show c_row st (3 : Int32).toNatClampNeg = nI n3 from h 3 (by omega), nI_1, nI_1, nI_1, pk_mul, nI_add, pk_mul, nI_add, pk_mul, nI_add]
/-- the class's table on the box, up to a place -/
def IB (n0 n1 n2 n3 e : Nat) (g : Nat → Nat → Nat → Nat → Nat) (W : Nat → Int32) (cur : Nat) : Prop := ∀ a b c d, a ≤ n0 → b ≤ n1 → c ≤ n2 → d ≤ n3 → W (ps n1 n2 n3 a b c d) = nI (if pl7 a b c d < cur then S4 e g a b c d else g a b c d)
theorem IB_mv {n0 n1 n2 n3 e cur cur' : Nat} {g : Nat → Nat → Nat → Nat → Nat} {W : Nat → Int32} (h : IB n0 n1 n2 n3 e g W cur) (hc : cur ≤ cur') (hn : ∀ a b c d, a ≤ n0 → b ≤ n1 → c ≤ n2 → d ≤ n3 → cur ≤ pl7 a b c d → pl7 a b c d < cur' → ¬ le6 e a b c d) : IB n0 n1 n2 n3 e g W cur' := by
  intro a b c d ha hb hc2 hd
  rw [h a b c d ha hb hc2 hd]
  by_cases q : pl7 a b c d < cur
  · rw [if_pos q, if_pos (by omega)]
  · by_cases w : pl7 a b c d < cur'
    · rw [if_neg q, if_pos w, S4_no (hn a b c d ha hb hc2 hd (by omega) w)]
    · rw [if_neg q, if_neg w]
theorem addWays_c {s : CS} {n0 n1 n2 n3 e : Nat} (h0 : n0 < 7) (h1 : n1 < 7) (h2 : n2 < 7) (h3 : n3 < 7) {g : Nat → Nat → Nat → Nat → Nat} {W : Nat → Int32} {a b c d : Nat} (ha : a ≤ n0) (hb : b ≤ n1) (hc : c ≤ n2) (hd : d ≤ n3) (hl : le6 e a b c d) (hp : 0 < sd e) (hI : IB n0 n1 n2 n3 e g W (pl7 a b c d)) : ∃ W', f2_addWays (c_lways_s s W) (nI (ps n1 n2 n3 a b c d)) (nI (ps n1 n2 n3 (d6 e 0) (d6 e 1) (d6 e 2) (d6 e 3))) = some (c_lways_s s W') ∧ IB n0 n1 n2 n3 e g W' (pl7 a b c d + 1) := by
  have hb2 := ps_bd h0 h1 h2 h3 ha hb hc hd
  obtain ⟨l0, l1, l2, l3⟩ := id hl
  have hs := ps_sub (p := n1) (q := n2) (r := n3) l0 l1 l2 l3
  have hp2 := hp
  unfold sd at hp2
  obtain ⟨P, hP⟩ : ∃ P, P = ps n1 n2 n3 a b c d := ⟨_, rfl⟩
  obtain ⟨Q, hQ⟩ : ∃ Q, Q = ps n1 n2 n3 (d6 e 0) (d6 e 1) (d6 e 2) (d6 e 3) := ⟨_, rfl⟩
  rw [← hP] at hb2 hs
  rw [← hQ] at hs
  refine ⟨upd W P (nI (S4 e g a b c d)), ?_, fun a' b' c' d' ha' hb' hc' hd' => ?_⟩
  · rw [← hP, ← hQ]
    unfold f2_addWays
    rw [if_neg (nI_pos (by omega)), if_neg (nI_nlt (by omega) (by omega)), if_neg (show ¬ (2401 : Int32) ≤ nI P from lge 2401 hb2), pk_sub (show Q ≤ P by omega), if_pos (ib_n hb2 (by omega)), if_pos (ib_n (show P - Q < 2401 by omega) (by omega)), if_pos (ib_n hb2 (by omega)), tn (by omega), tn (by omega), lw_lw]
    show some (c_lways_s s (upd W P (W P + W (P - Q)))) = _
    rw [show P - Q = ps n1 n2 n3 (a - d6 e 0) (b - d6 e 1) (c - d6 e 2) (d - d6 e 3) by omega, hI _ _ _ _ (by omega) (by omega) (by omega) (by omega), if_pos (by unfold pl7; omega), hP, hI a b c d ha hb hc hd, if_neg (by omega), nI_add, S4_yes hl hp]
  · by_cases q : ps n1 n2 n3 a' b' c' d' = P
    · obtain ⟨r0, r1, r2, r3⟩ := ps_in hb' hc' hd' hb hc hd (q.trans hP)
      rw [q, pk_us, r0, r1, r2, r3, if_pos (by omega)]
    · rw [pk_un q, hI a' b' c' d' ha' hb' hc' hd']
      by_cases w : pl7 a' b' c' d' < pl7 a b c d
      · rw [if_pos w, if_pos (by omega)]
      · rw [if_neg w, if_neg]
        intro z
        have : pl7 a' b' c' d' = pl7 a b c d := by omega
        obtain ⟨r0, r1, r2, r3⟩ := in7 (by omega) (by omega) (by omega) (by omega) (by omega) (by omega) this
        exact q (by rw [r0, r1, r2, r3, hP])
/-- a loop from one number to the row's -/
theorem box_c {s : CS} {b : CS × Int32 → Option ((CS × Int32) ⊕ CS)} {x n : Nat} (hx : x ≤ n) (hn : n < 7) {I : Nat → (Nat → Int32) → Prop} (hb : ∀ W i, x ≤ i → i ≤ n → I i W → ∃ W', b (c_lways_s s W, nI i) = some (.inl (c_lways_s s W', nI (i + 1))) ∧ I (i + 1) W') (he : ∀ W, b (c_lways_s s W, nI (n + 1)) = some (.inr (c_lways_s s W))) {W : Nat → Int32} (h : I x W) : ∃ W', wh b FU (c_lways_s s W, nI x) = some (c_lways_s s W') ∧ I (n + 1) W' := by
  have key : ∃ r, wh b FU (c_lways_s s W, nI x) = some r ∧ ∃ W', r = c_lways_s s W' ∧ I (n + 1) W' := by
    refine wh_inv (n + 1 - x) (by omega) (fun i z => ∃ W', z = (c_lways_s s W', nI (x + i)) ∧ I (x + i) W') _ ⟨W, rfl, h⟩ ?_ ?_
    · rintro i _ hi ⟨W', rfl, h'⟩
      obtain ⟨W2, k1, k2⟩ := hb W' (x + i) (by omega) (by omega) h'
      exact Or.inl ⟨_, k1, W2, rfl, k2⟩
    · rintro _ ⟨W', rfl, h'⟩
      rw [show x + (n + 1 - x) = n + 1 by omega] at h' ⊢
      exact ⟨_, he W', W', rfl, h'⟩
  obtain ⟨r, k1, W', rfl, k2⟩ := key
  exact ⟨W', k1, k2⟩
theorem addSums_c {s : CS} {n0 n1 n2 n3 e : Nat} (hR : RW s n0 n1 n2 n3) (h0 : n0 < 7) (h1 : n1 < 7) (h2 : n2 < 7) (h3 : n3 < 7) (hl : le6 e n0 n1 n2 n3) (hp : 0 < sd e) {g : Nat → Nat → Nat → Nat → Nat} {W : Nat → Int32} (hW : ∀ a b c d, a ≤ n0 → b ≤ n1 → c ≤ n2 → d ≤ n3 → W (ps n1 n2 n3 a b c d) = nI (g a b c d)) : ∃ W', f2_addSums (c_lways_s s W) (nI (d6 e 0)) (nI (d6 e 1)) (nI (d6 e 2)) (nI (d6 e 3)) = some (c_lways_s s W') ∧ ∀ a b c d, a ≤ n0 → b ≤ n1 → c ≤ n2 → d ≤ n3 → W' (ps n1 n2 n3 a b c d) = nI (S4 e g a b c d) := by
  obtain ⟨l0, l1, l2, l3⟩ := id hl
  obtain ⟨Q, hQ⟩ : ∃ Q, Q = nI (ps n1 n2 n3 (d6 e 0) (d6 e 1) (d6 e 2) (d6 e 3)) := ⟨_, rfl⟩
  have r0 : ∀ W : Nat → Int32, c_row (c_lways_s s W) (0 : Int32).toNatClampNeg = nI n0 := fun _ => hR 0 (by omega)
  have r1 : ∀ W : Nat → Int32, c_row (c_lways_s s W) (1 : Int32).toNatClampNeg = nI n1 := fun _ => hR 1 (by omega)
  have r2 : ∀ W : Nat → Int32, c_row (c_lways_s s W) (2 : Int32).toNatClampNeg = nI n2 := fun _ => hR 2 (by omega)
  have r3 : ∀ W : Nat → Int32, c_row (c_lways_s s W) (3 : Int32).toNatClampNeg = nI n3 := fun _ => hR 3 (by omega)
  have hW0 : IB n0 n1 n2 n3 e g W 0 := fun a b c d ha hb hc hd => by
    rw [hW a b c d ha hb hc hd, if_neg (by omega)]
  have k0 : ∃ W', wh (f2_addSums_b14 (nI (d6 e 1)) (nI (d6 e 2)) (nI (d6 e 3)) Q) FU (c_lways_s s W, nI (d6 e 0)) = some (c_lways_s s W') ∧ IB n0 n1 n2 n3 e g W' (pl7 (n0 + 1) 0 0 0) := by
    refine box_c (I := fun a W => IB n0 n1 n2 n3 e g W (pl7 a 0 0 0)) l0 h0 (fun W a ha ha2 hI => ?_) (fun W => ?_) (IB_mv hW0 (Nat.zero_le _) (fun a b c d ha hb hc hd _ q2 => fun ⟨z0, z1, z2, z3⟩ => by unfold pl7 at q2; omega))
    · have k1 : ∃ W', wh (f2_addSums_b28 (nI (d6 e 1)) (nI (d6 e 2)) (nI (d6 e 3)) Q (nI a)) FU (c_lways_s s W, nI (d6 e 1)) = some (c_lways_s s W') ∧ IB n0 n1 n2 n3 e g W' (pl7 a (n1 + 1) 0 0) := by
        refine box_c (I := fun b W => IB n0 n1 n2 n3 e g W (pl7 a b 0 0)) l1 h1 (fun W b hb hb2 hI => ?_) (fun W => ?_) (IB_mv hI (by unfold pl7; omega) (fun a' b' c' d' ha' hb' hc' hd' q1 q2 => fun ⟨z0, z1, z2, z3⟩ => by unfold pl7 at q1 q2; omega))
        · have k2 : ∃ W', wh (f2_addSums_b42 (nI (d6 e 1)) (nI (d6 e 2)) (nI (d6 e 3)) Q (nI a) (nI b)) FU (c_lways_s s W, nI (d6 e 2)) = some (c_lways_s s W') ∧ IB n0 n1 n2 n3 e g W' (pl7 a b (n2 + 1) 0) := by
            refine box_c (I := fun c W => IB n0 n1 n2 n3 e g W (pl7 a b c 0)) l2 h2 (fun W c hc hc2 hI => ?_) (fun W => ?_) (IB_mv hI (by unfold pl7; omega) (fun a' b' c' d' ha' hb' hc' hd' q1 q2 => fun ⟨z0, z1, z2, z3⟩ => by unfold pl7 at q1 q2; omega))
            · have k3 : ∃ W', wh (f2_addSums_b57 (nI (d6 e 1)) (nI (d6 e 2)) (nI (d6 e 3)) Q (nI a) (nI b) (nI c)) FU (c_lways_s s W, nI (d6 e 3)) = some (c_lways_s s W') ∧ IB n0 n1 n2 n3 e g W' (pl7 a b c (n3 + 1)) := by
                refine box_c (I := fun d W => IB n0 n1 n2 n3 e g W (pl7 a b c d)) l3 h3 (fun W d hd hd2 hI => ?_) (fun W => ?_) (IB_mv hI (by unfold pl7; omega) (fun a' b' c' d' ha' hb' hc' hd' q1 q2 => fun ⟨z0, z1, z2, z3⟩ => by unfold pl7 at q1 q2; omega))
                · obtain ⟨W', w1, w2⟩ := addWays_c (s := s) h0 h1 h2 h3 ha2 hb2 hc2 hd2 ⟨ha, hb, hc, hd⟩ hp hI
                  refine ⟨W', ?_, w2⟩
                  unfold f2_addSums_b57
                  simp only
                  rw [r3, if_neg (nI_nlt hd2 (by omega)), place_c (st := c_lways_s s W) hR, bi1_s, hQ, w1, bi1_s, nI_1]
                · unfold f2_addSums_b57
                  simp only
                  rw [r3, if_pos (nI_lt (by omega) (by omega))]
              obtain ⟨W', w1, w2⟩ := k3
              refine ⟨W', ?_, IB_mv w2 (by unfold pl7; omega) (fun a' b' c' d' ha' hb' hc' hd' q1 q2 => fun ⟨z0, z1, z2, z3⟩ => by unfold pl7 at q1 q2; omega)⟩
              unfold f2_addSums_b42
              simp only
              rw [r2, if_neg (nI_nlt hc2 (by omega)), w1, bi1_s, nI_1]
            · unfold f2_addSums_b42
              simp only
              rw [r2, if_pos (nI_lt (by omega) (by omega))]
          obtain ⟨W', w1, w2⟩ := k2
          refine ⟨W', ?_, IB_mv w2 (by unfold pl7; omega) (fun a' b' c' d' ha' hb' hc' hd' q1 q2 => fun ⟨z0, z1, z2, z3⟩ => by unfold pl7 at q1 q2; omega)⟩
          unfold f2_addSums_b28
          simp only
          rw [r1, if_neg (nI_nlt hb2 (by omega)), w1, bi1_s, nI_1]
        · unfold f2_addSums_b28
          simp only
          rw [r1, if_pos (nI_lt (by omega) (by omega))]
      obtain ⟨W', w1, w2⟩ := k1
      refine ⟨W', ?_, IB_mv w2 (by unfold pl7; omega) (fun a' b' c' d' ha' hb' hc' hd' q1 q2 => fun ⟨z0, z1, z2, z3⟩ => by unfold pl7 at q1 q2; omega)⟩
      unfold f2_addSums_b14
      simp only
      rw [r0, if_neg (nI_nlt ha2 (by omega)), w1, bi1_s, nI_1]
    · unfold f2_addSums_b14
      simp only
      rw [r0, if_pos (nI_lt (by omega) (by omega))]
  obtain ⟨W', w1, w2⟩ := k0
  refine ⟨W', ?_, fun a b c d ha hb hc hd => ?_⟩
  · unfold f2_addSums
    rw [place_c (st := c_lways_s s W) hR, bi1_s, ← hQ, w1, bi1_s]
  · rw [w2 a b c d ha hb hc hd, if_pos]
    unfold pl7
    omega
theorem init_c {s : CS} {X : Nat} (hX : X ≤ 2401) : ∃ W, wh (f2_waysToSum_b44 (nI X)) FU (s, (0 : Int32)) = some (c_lways_s s W) ∧ ∀ n, n < X → W n = if n = 0 then 1 else 0 := by
  have key : ∃ r, wh (f2_waysToSum_b44 (nI X)) FU (s, (0 : Int32)) = some r ∧ ∃ W, r = c_lways_s s W ∧ ∀ n, n < X → W n = if n = 0 then 1 else 0 := by
    refine wh_inv X (by omega) (fun i z => ∃ W, z = (c_lways_s s W, nI i) ∧ ∀ n, n < i → W n = if n = 0 then 1 else 0) _ ⟨c_lways s, rfl, fun n q => by omega⟩ ?_ ?_
    · rintro i _ hi ⟨W, rfl, hI⟩
      refine Or.inl ⟨(c_lways_s s (upd W i (if nI i = 0 then 1 else 0)), nI (i + 1)), ?_, _, rfl, fun n hn => ?_⟩
      · unfold f2_waysToSum_b44
        simp only
        rw [if_neg (nI_ge hi (by omega)), if_neg (show ¬ (2401 : Int32) ≤ nI i from lge 2401 (by omega)), if_pos (ib_n (by omega) (by omega)), tn (by omega), lw_lw, nI_1]
        rfl
      · by_cases e : n = i
        · subst e
          rw [pk_us]
          by_cases q : n = 0
          · subst q
            rfl
          · rw [if_neg q, if_neg (nI_ne0 (by omega) (by omega))]
        · rw [pk_un e]
          exact hI n (by omega)
    · rintro _ ⟨W, rfl, hI⟩
      refine ⟨_, ?_, W, rfl, hI⟩
      unfold f2_waysToSum_b44
      exact if_pos (Int32.le_refl _)
  obtain ⟨r, k1, W, rfl, k2⟩ := key
  exact ⟨W, k1, k2⟩
end QR
