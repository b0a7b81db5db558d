/-! The law finds the least solutions. -/
def FD (fd : Nat → Int32) (l : List Nat) : Prop := ∀ i e, l[i]? = some e → fd i = nI (uc e)
def LI (Z : Nat → Nat) (Hs : List (Nat → Nat)) (pa n : Nat → Int32) (ps : PS) : Prop := KK Z Hs (p_c ps) ∧ p_pr ps = pa ∧ p_n ps = n
theorem uc_dig {e : Nat} (h : lt4 e) : uc e / 64 = d6 e 0 ∧ uc e / 16 % 4 = d6 e 1 ∧ uc e / 4 % 4 = d6 e 2 ∧ uc e % 4 = d6 e 3 ∧ uc e < 256 := by
  obtain ⟨h0, h1, h2, h3⟩ := h
  obtain ⟨e0, e1, e2, e3⟩ := dig4 h0 h1 h2 h3
  exact ⟨e0, e1, e2, e3, by unfold uc; omega⟩
section LE
variable {Z : Nat → Nat} {Hs : List (Nat → Nat)} {pa n : Nat → Int32}
theorem df_D2 (hV : V2 Z) : D2 (df Z) := fun v hv => by
  have h1 := hV (4 + v) (by omega)
  have h2 := hV (12 + v) (by omega)
  unfold b2 at h1 h2
  rw [if_neg (by omega), if_pos (by omega)] at h1 h2
  unfold df
  omega
theorem la_at {m e v : Nat} (h : (LO Z)[m]? = some e) : la Z m v = nI (d6 e v) := by
  have hm : m < (LO Z).length := by
    rcases Nat.lt_or_ge m (LO Z).length with z | z
    · exact z
    · rw [List.getElem?_eq_none z] at h; cases h
  unfold la
  rw [if_pos hm, List.getD_eq_getElem?_getD, h]
  rfl
theorem la_no {m v : Nat} (h : (LO Z).length ≤ m) : la Z m v = -1 := by
  unfold la
  rw [if_neg (by omega)]
theorem leb_cv {e k : Nat} (hk : k < 256) : leb e (cv k) = true ↔ d6 e 0 ≤ k / 64 ∧ d6 e 1 ≤ k / 16 % 4 ∧ d6 e 2 ≤ k / 4 % 4 ∧ d6 e 3 ≤ k % 4 := by
  obtain ⟨e0, e1, e2, e3⟩ := cv_d hk
  rw [leb_iff, e0, e1, e2, e3]
theorem scan_l {ps : PS} {l : List Nat} (hl : l.length ≤ 30) (h4 : ∀ e, e ∈ l → lt4 e) (hF : FD (p_found ps) l) {k : Nat} (hk : k < 256) (q15 q16 : Int32) : ∃ r, wh (fL_least_b112 ps (nI l.length) q15 q16 (nI (k / 64)) (nI (k / 16 % 4)) (nI (k / 4 % 4)) (nI (k % 4))) FU ((1 : Int32), (0 : Int32)) = some r ∧ ((r = 1 ∧ ∀ e, e ∈ l → leb e (cv k) = false) ∨ (r = 0 ∧ ¬ ∀ e, e ∈ l → leb e (cv k) = false)) := by
  refine wh_inv l.length (by omega) (fun i z => (z = ((1 : Int32), nI i) ∧ ∀ j e, j < i → l[j]? = some e → leb e (cv k) = false) ∨ (∃ i' : Int32, z = ((0 : Int32), i') ∧ ¬ ∀ e, e ∈ l → leb e (cv k) = false)) _ (Or.inl ⟨rfl, fun j e q => by omega⟩) ?_ ?_
  · rintro i z hi (⟨rfl, hN⟩ | ⟨i', rfl, hN⟩)
    · have hg := getD_some hi
      have hm := getD_mem hi
      have hfd : p_found ps i = nI (uc (l.getD i 0)) := hF i _ hg
      have hlt := h4 _ hm
      obtain ⟨u0, u1, u2, u3, u4⟩ := uc_dig hlt
      obtain ⟨t0, t1, t2, t3⟩ := hlt
      have hle := leb_cv (e := l.getD i 0) hk
      have hs : leb (l.getD i 0) (cv k) = false → ∀ j e, j < i + 1 → l[j]? = some e → leb e (cv k) = false := by
        intro h0 j e hj he
        by_cases z : j = i
        · subst z
          rw [hg] at he
          cases he
          exact h0
        · exact hN j e (by omega) he
      have hf : ¬ (d6 (l.getD i 0) 0 ≤ k / 64 ∧ d6 (l.getD i 0) 1 ≤ k / 16 % 4 ∧ d6 (l.getD i 0) 2 ≤ k / 4 % 4 ∧ d6 (l.getD i 0) 3 ≤ k % 4) → leb (l.getD i 0) (cv k) = false := by
        intro h0
        rw [← Bool.not_eq_true, hle]
        exact h0
      refine Or.inl ?_
      unfold fL_least_b112
      simp only
      rw [if_neg (nI_ge hi (by omega)), if_neg one_ne, if_pos (ib_n (by omega) (by omega)), if_pos (ib_n (by omega) (by omega)), if_pos (ib_n (by omega) (by omega)), if_pos (ib_n (by omega) (by omega)), tn (by omega), hfd, show nI (uc (l.getD i 0)) - nI (uc (l.getD i 0)) / (4 : Int32) * (4 : Int32) = nI (uc (l.getD i 0) % 4) from md 4 (by omega), show nI (uc (l.getD i 0)) / (64 : Int32) = nI (uc (l.getD i 0) / 64) from pk_div (d := 64) (by omega) (by omega) (by omega), show nI (uc (l.getD i 0)) / (16 : Int32) = nI (uc (l.getD i 0) / 16) from pk_div (d := 16) (by omega) (by omega) (by omega), show nI (uc (l.getD i 0)) / (4 : Int32) = nI (uc (l.getD i 0) / 4) from pk_div (d := 4) (by omega) (by omega) (by omega), show nI (uc (l.getD i 0) / 16) - nI (uc (l.getD i 0) / 16) / (4 : Int32) * (4 : Int32) = nI (uc (l.getD i 0) / 16 % 4) from md 4 (by omega), show nI (uc (l.getD i 0) / 4) - nI (uc (l.getD i 0) / 4) / (4 : Int32) * (4 : Int32) = nI (uc (l.getD i 0) / 4 % 4) from md 4 (by omega), u0, u1, u2, u3, nI_1]
      by_cases c0 : d6 (l.getD i 0) 0 ≤ k / 64
      · rw [if_neg (nI_nlt c0 (by omega))]
        by_cases c1 : d6 (l.getD i 0) 1 ≤ k / 16 % 4
        · rw [if_neg (nI_nlt c1 (by omega))]
          by_cases c2 : d6 (l.getD i 0) 2 ≤ k / 4 % 4
          · rw [if_neg (nI_nlt c2 (by omega))]
            by_cases c3 : d6 (l.getD i 0) 3 ≤ k % 4
            · rw [if_neg (nI_nlt c3 (by omega))]
              refine ⟨_, rfl, Or.inr ⟨_, rfl, fun z => ?_⟩⟩
              have h9 := z _ hm
              rw [hle.mpr ⟨c0, c1, c2, c3⟩] at h9
              cases h9
            · rw [if_pos (nI_lt (by omega) (by omega))]
              exact ⟨_, rfl, Or.inl ⟨rfl, hs (hf (fun z => c3 z.2.2.2))⟩⟩
          · rw [if_pos (nI_lt (by omega) (by omega))]
            exact ⟨_, rfl, Or.inl ⟨rfl, hs (hf (fun z => c2 z.2.2.1))⟩⟩
        · rw [if_pos (nI_lt (by omega) (by omega))]
          exact ⟨_, rfl, Or.inl ⟨rfl, hs (hf (fun z => c1 z.2.1))⟩⟩
      · rw [if_pos (nI_lt (by omega) (by omega))]
        exact ⟨_, rfl, Or.inl ⟨rfl, hs (hf (fun z => c0 z.1))⟩⟩
    · refine Or.inr ⟨0, ?_, Or.inr ⟨rfl, hN⟩⟩
      unfold fL_least_b112
      simp only
      by_cases c : nI l.length ≤ i'
      · rw [if_pos c]
      · rw [if_neg c, if_pos True.intro]
  · rintro z (⟨rfl, hN⟩ | ⟨i', rfl, hN⟩)
    · refine ⟨1, ?_, Or.inl ⟨rfl, fun e he => ?_⟩⟩
      · unfold fL_least_b112
        exact if_pos (Int32.le_refl _)
      · obtain ⟨j, hj, e2⟩ := List.getElem_of_mem he
        exact hN j e hj (by rw [List.getElem?_eq_getElem hj, e2])
    · refine ⟨0, ?_, Or.inr ⟨rfl, hN⟩⟩
      unfold fL_least_b112
      simp only
      by_cases c : nI l.length ≤ i'
      · rw [if_pos c]
      · rw [if_neg c, if_pos True.intro]
theorem step_l (hV : V2 Z) (hP : PA pa Z) {ps : PS} (hI : LI Z Hs pa n ps) {k : Nat} (hk0 : 0 < k) (hk : k < 256) (hF : FD (p_found ps) (LK (df Z) k)) : ∃ ps', fL_least_b13 (ps, nI (LK (df Z) k).length, nI (gm (LK (df Z) k) (LK (df Z) k).length), nI k) = some (.inl (ps', nI (LK (df Z) (k + 1)).length, nI (gm (LK (df Z) (k + 1)) (LK (df Z) (k + 1)).length), nI (k + 1))) ∧ LI Z Hs pa n ps' ∧ FD (p_found ps') (LK (df Z) (k + 1)) := by
  have hv := hV.v
  have hD := df_D2 hV
  have hS := LK_s hD hk
  obtain ⟨d0, d1, d2, d3⟩ := cv_d hk
  have h30 : (LK (df Z) k).length ≤ 30 := Nat.le_trans (LK_len k) (LO_30 hv)
  have hp : ∀ j, j < 24 → p_pr ps j = nI (Z j) := fun j hj => by rw [hI.2.1]; exact hP j hj
  have p4 : p_pr ps (4 : Int32).toNatClampNeg = nI (Z 4) := hp 4 (by omega)
  have p5 : p_pr ps (5 : Int32).toNatClampNeg = nI (Z 5) := hp 5 (by omega)
  have p6 : p_pr ps (6 : Int32).toNatClampNeg = nI (Z 6) := hp 6 (by omega)
  have p7 : p_pr ps (7 : Int32).toNatClampNeg = nI (Z 7) := hp 7 (by omega)
  have p12 : p_pr ps (12 : Int32).toNatClampNeg = nI (Z 12) := hp 12 (by omega)
  have p13 : p_pr ps (13 : Int32).toNatClampNeg = nI (Z 13) := hp 13 (by omega)
  have p14 : p_pr ps (14 : Int32).toNatClampNeg = nI (Z 14) := hp 14 (by omega)
  have p15 : p_pr ps (15 : Int32).toNatClampNeg = nI (Z 15) := hp 15 (by omega)
  have hz : (nI (Z 4) - nI (Z 12)) * nI (k / 64) + (nI (Z 5) - nI (Z 13)) * nI (k / 16 % 4) + (nI (Z 6) - nI (Z 14)) * nI (k / 4 % 4) + (nI (Z 7) - nI (Z 15)) * nI (k % 4) = 0 ↔ so4 (df Z 0) (df Z 1) (df Z 2) (df Z 3) (k / 64) (k / 16 % 4) (k / 4 % 4) (k % 4) := sum_z hv (by omega) (by omega) (by omega) (by omega)
  have hso : sol (df Z) (cv k) = true ↔ so4 (df Z 0) (df Z 1) (df Z 2) (df Z 3) (k / 64) (k / 16 % 4) (k / 4 % 4) (k % 4) := by
    unfold sol
    rw [d0, d1, d2, d3]
    exact decide_eq_true_iff
  have hc0 : ¬ cv k = 0 := by
    have := cv_mono (j := 0) hk0 hk
    omega
  unfold fL_least_b13
  simp only
  rw [if_neg (show ¬ (256 : Int32) ≤ nI k from lge 256 hk), show nI k - nI k / (4 : Int32) * (4 : Int32) = nI (k % 4) from md 4 (by omega), show nI k / (64 : Int32) = nI (k / 64) from pk_div (d := 64) (by omega) (by omega) (by omega), show nI k / (16 : Int32) = nI (k / 16) from pk_div (d := 16) (by omega) (by omega) (by omega), show nI k / (4 : Int32) = nI (k / 4) from pk_div (d := 4) (by omega) (by omega) (by omega), show nI (k / 16) - nI (k / 16) / (4 : Int32) * (4 : Int32) = nI (k / 16 % 4) from md 4 (by omega), show nI (k / 4) - nI (k / 4) / (4 : Int32) * (4 : Int32) = nI (k / 4 % 4) from md 4 (by omega), lq_e, lq_e, p4, p5, p6, p7, p12, p13, p14, p15, nI_1]
  by_cases so : so4 (df Z 0) (df Z 1) (df Z 2) (df Z 3) (k / 64) (k / 16 % 4) (k / 4 % 4) (k % 4)
  · rw [if_pos (hz.mpr so)]
    obtain ⟨r, r1, r2⟩ := scan_l (ps := ps) h30 (fun e he => (LK_mem hD he).1) hF hk (nI (gm (LK (df Z) k) (LK (df Z) k).length)) (nI k)
    rw [r1, bi1_s]
    rcases r2 with ⟨rfl, r2⟩ | ⟨rfl, r2⟩
    · have ht : tk (df Z) (LK (df Z) k) (cv k) = true := tk_iff.mpr ⟨hc0, hso.mpr so, r2⟩
      rw [if_pos ht] at hS
      have hlen : (LK (df Z) (k + 1)).length = (LK (df Z) k).length + 1 := by
        rw [hS, List.length_append]
        rfl
      have h31 : (LK (df Z) (k + 1)).length ≤ 30 := Nat.le_trans (LK_len (k + 1)) (LO_30 hv)
      have hat : (LO Z)[(LK (df Z) k).length]? = some (cv k) := by
        refine LK_get (k := k + 1) ?_
        rw [hS, List.getElem?_append, if_neg (by omega)]
        simp
      obtain ⟨s1, a1, b1⟩ := least_ok hI.1 (k := (LK (df Z) k).length) (v := 0) (by omega) (by omega)
      obtain ⟨s2, a2, b2⟩ := least_ok b1 (k := (LK (df Z) k).length) (v := 1) (by omega) (by omega)
      obtain ⟨s3, a3, b3⟩ := least_ok b2 (k := (LK (df Z) k).length) (v := 2) (by omega) (by omega)
      obtain ⟨s4, a4, b4⟩ := least_ok b3 (k := (LK (df Z) k).length) (v := 3) (by omega) (by omega)
      rw [la_at hat, d0] at a1
      rw [la_at hat, d1] at a2
      rw [la_at hat, d2] at a3
      rw [la_at hat, d3] at a4
      have hgm : gm (LK (df Z) (k + 1)) (LK (df Z) (k + 1)).length = if gm (LK (df Z) k) (LK (df Z) k).length < sd (cv k) then sd (cv k) else gm (LK (df Z) k) (LK (df Z) k).length := by
        rw [hlen, hS, gm_one]
      have hsd : sd (cv k) = k / 64 + k / 16 % 4 + k / 4 % 4 + k % 4 := by
        unfold sd
        rw [d0, d1, d2, d3]
      have hg30 := gm_lt (LK (df Z) k) (LK (df Z) k).length
      have hFD : FD (upd (p_found ps) (LK (df Z) k).length (nI k)) (LK (df Z) (k + 1)) := by
        intro i e he
        rw [hS, List.getElem?_append] at he
        unfold upd
        by_cases z : i < (LK (df Z) k).length
        · rw [if_pos z] at he
          rw [if_neg (by omega)]
          exact hF i e he
        · rw [if_neg z] at he
          have : i = (LK (df Z) k).length := by
            rcases Nat.eq_zero_or_pos (i - (LK (df Z) k).length) with y | y
            · omega
            · rw [List.getElem?_eq_none (by simp; omega)] at he; cases he
          subst this
          simp at he
          rw [if_pos rfl, ← he, uc_cv hk]
      rw [if_neg one_ne, if_neg (show ¬ nI (LK (df Z) k).length = (64 : Int32) from fun z => absurd ((nI_eq (a := (LK (df Z) k).length) (b := 64) (by omega) (by omega)).mp z) (by omega)), if_pos (ib_n (by omega) (by omega)), tn (by omega), show f4_least (p_c ps) (nI (LK (df Z) k).length) (0 : Int32) = _ from a1, nx_r, bi2_s, if_pos rfl, show f4_least s1 (nI (LK (df Z) k).length) (1 : Int32) = _ from a2, nx_r, bi2_s, if_pos rfl, show f4_least s2 (nI (LK (df Z) k).length) (2 : Int32) = _ from a3, nx_r, bi2_s, if_pos rfl, show f4_least s3 (nI (LK (df Z) k).length) (3 : Int32) = _ from a4, nx_r, bi2_s, if_pos rfl, nI_add, nI_add, nI_add, nI_1, lq_e, hgm, hlen, hsd]
      by_cases c : k / 64 + k / 16 % 4 + k / 4 % 4 + k % 4 ≤ gm (LK (df Z) k) (LK (df Z) k).length
      · rw [if_pos (nI_le c (by omega)), if_neg (by omega)]
        exact ⟨_, rfl, ⟨b4, hI.2.1, hI.2.2⟩, hFD⟩
      · rw [if_neg (nI_ge (by omega) (by omega)), if_pos (by omega)]
        exact ⟨_, rfl, ⟨b4, hI.2.1, hI.2.2⟩, hFD⟩
    · rw [if_neg (fun z => r2 (tk_iff.mp z).2.2)] at hS
      rw [if_pos rfl, hS]
      exact ⟨ps, rfl, hI, hF⟩
  · rw [if_neg (fun z => so (hso.mp (tk_iff.mp z).2.1))] at hS
    rw [if_neg (fun z => so (hz.mp z)), hS]
    exact ⟨ps, rfl, hI, hF⟩
theorem least_l (hV : V2 Z) (hP : PA pa Z) {ps : PS} (hI : LI Z Hs pa n ps) : ∃ ps', fL_least ps = some (ps', 1) ∧ LI Z Hs pa n ps' := by
  have hv := hV.v
  have key : ∃ r, wh fL_least_b13 FU (p_found_s ps (fun _ => 0), (0 : Int32), (0 : Int32), (1 : Int32)) = some r ∧ ∃ ps', r = .inl (ps', nI (LO Z).length, nI (gm (LO Z) (LO Z).length)) ∧ LI Z Hs pa n ps' := by
    refine wh_inv 255 (by omega) (fun i z => ∃ ps', z = (ps', nI (LK (df Z) (i + 1)).length, nI (gm (LK (df Z) (i + 1)) (LK (df Z) (i + 1)).length), nI (i + 1)) ∧ LI Z Hs pa n ps' ∧ FD (p_found ps') (LK (df Z) (i + 1))) _ ⟨p_found_s ps (fun _ => 0), ?_, hI, ?_⟩ ?_ ?_
    · rw [show LK (df Z) (0 + 1) = [] from LK_1 (df Z)]
      rfl
    · rw [show LK (df Z) (0 + 1) = [] from LK_1 (df Z)]
      intro i e h
      simp at h
    · rintro i _ hi ⟨ps', rfl, g1, g2⟩
      obtain ⟨ps2, e1, e2, e3⟩ := step_l hV hP g1 (k := i + 1) (by omega) (by omega) g2
      exact Or.inl ⟨_, e1, ps2, rfl, e2, e3⟩
    · rintro _ ⟨ps', rfl, g1, g2⟩
      refine ⟨.inl (ps', nI (LO Z).length, nI (gm (LO Z) (LO Z).length)), ?_, ps', rfl, g1⟩
      unfold fL_least_b13
      simp only
      rw [if_pos (show (256 : Int32) ≤ nI (255 + 1) from Int32.le_refl _), show LK (df Z) (255 + 1) = LO Z from LK_e (df Z)]
  obtain ⟨r, r1, ps', rfl, g⟩ := key
  have h30 := LO_30 hv
  obtain ⟨s1, a1, b1⟩ := least_ok g.1 (k := (LO Z).length) (v := 0) (by omega) (by omega)
  obtain ⟨s2, a2, b2⟩ := count4_ok b1
  obtain ⟨s3, a3, b3⟩ := count5_ok b2
  rw [la_no (Nat.le_refl _)] at a1
  refine ⟨p_c_s (p_c_s (p_c_s ps' s1) s2) s3, ?_, b3, g.2.1, g.2.2⟩
  unfold fL_least
  rw [r1, bi1_s, Sum.elim_inl]
  simp only
  rw [show f4_least (p_c ps') (nI (LO Z).length) (0 : Int32) = _ from a1, nx_r, bi2_s, if_pos rfl, a2, nx_r, bi2_s, if_pos rfl, a3, nx_r, bi2_s, if_pos rfl]
end LE
