/-! (of the class alone) -/
section QN
variable {EP : CS → (Nat → Nat) → Prop} {st : CS} {Z : Nat → Nat}
/-- the class's least solutions are laid -/
def LPt (s : CS) (Z : Nat → Nat) : Prop := (∀ v, v < 4 → c_difference s v = dI Z v) ∧ LL (c_found s) (c_numbers s) (LO Z)
def LQ (s : CS) (Z : Nat → Nat) : Prop := c_lprep s = 0 ∨ LPt s Z
theorem esame.t {a b c : CS} (h : esame a b) (g : esame b c) : esame a c := ⟨g.1.trans h.1, g.2.1.trans h.2.1, g.2.2.1.trans h.2.2.1, g.2.2.2.1.trans h.2.2.2.1, g.2.2.2.2.1.trans h.2.2.2.2.1, g.2.2.2.2.2.1.trans h.2.2.2.2.2.1, g.2.2.2.2.2.2.1.trans h.2.2.2.2.2.2.1, g.2.2.2.2.2.2.2.1.trans h.2.2.2.2.2.2.2.1, g.2.2.2.2.2.2.2.2.1.trans h.2.2.2.2.2.2.2.2.1, g.2.2.2.2.2.2.2.2.2.trans h.2.2.2.2.2.2.2.2.2⟩
theorem esame.r (a : CS) : esame a a := ⟨rfl, rfl, rfl, rfl, rfl, rfl, rfl, rfl, rfl, rfl⟩
theorem lv_c {b : CS × Int32 → Option ((CS × Int32) ⊕ CS)} {g : Nat → Nat} (hb : ∀ s i, i < 6 → IL st Z (g i) s → ∃ s', b (s, nI i) = some (.inl (s', nI (i + 1))) ∧ IL st Z (g (i + 1)) s') (he : ∀ s, b (s, nI 6) = some (.inr s)) {s : CS} (h : IL st Z (g 0) s) : ∃ s', wh b FU (s, (0 : Int32)) = some s' ∧ IL st Z (g 6) s' := by
  refine wh_inv 6 (by omega) (fun i z => ∃ s, z = (s, nI i) ∧ IL st Z (g i) s) _ ⟨s, rfl, h⟩ ?_ ?_
  · rintro i _ hi ⟨s, rfl, hs⟩
    obtain ⟨s', k1, k2⟩ := hb s i hi hs
    exact Or.inl ⟨_, k1, s', rfl, k2⟩
  · rintro _ ⟨s, rfl, hs⟩
    exact ⟨s, he s, hs⟩
theorem nlt5 {i : Nat} (hi : i < 6) : ¬ (5 : Int32) < nI i := show ¬ nI 5 < nI i from nI_nlt (by omega) (by omega)
theorem lt56 : (5 : Int32) < nI 6 := by decide +kernel
theorem lay_c (hd4 : ∀ v, v < 4 → c_difference st v = dI Z v) (hv : VZ Z) {s : CS} (h : IL st Z 0 s) : ∃ s', wh f2_prepare_b50 FU (s, (0 : Int32)) = some s' ∧ IL st Z 1296 s' := by
  refine lv_c (g := fun a => 216 * a) (fun s a ha hs => ?_) (fun s => by unfold f2_prepare_b50; exact if_pos lt56) h
  have k1 : ∃ s', wh (f2_prepare_b57 (nI a)) FU (s, (0 : Int32)) = some s' ∧ IL st Z (216 * a + 36 * 6) s' := by
    refine lv_c (g := fun b => 216 * a + 36 * b) (fun s b hb hs => ?_) (fun s => by unfold f2_prepare_b57; exact if_pos lt56) hs
    have k2 : ∃ s', wh (f2_prepare_b65 (nI a) (nI b)) FU (s, (0 : Int32)) = some s' ∧ IL st Z (216 * a + 36 * b + 6 * 6) s' := by
      refine lv_c (g := fun c => 216 * a + 36 * b + 6 * c) (fun s c hc hs => ?_) (fun s => by unfold f2_prepare_b65; exact if_pos lt56) hs
      have k3 : ∃ s', wh (f2_prepare_b74 (nI a) (nI b) (nI c)) FU (s, (0 : Int32)) = some s' ∧ IL st Z (216 * a + 36 * b + 6 * c + 6) s' := by
        refine lv_c (g := fun d => 216 * a + 36 * b + 6 * c + d) (fun s d hd hs => ?_) (fun s => by unfold f2_prepare_b74; exact if_pos lt56) hs
        obtain ⟨s', e1, e2⟩ := look_c hd4 hv ha hb hc hd hs
        refine ⟨s', ?_, e2⟩
        unfold f2_prepare_b74
        simp only
        rw [if_neg (nlt5 hd), e1, bi1_s, nI_1]
      obtain ⟨s', e1, e2⟩ := k3
      refine ⟨s', ?_, e2⟩
      unfold f2_prepare_b65
      simp only
      rw [if_neg (nlt5 hc), e1, bi1_s, nI_1]
    obtain ⟨s', e1, e2⟩ := k2
    refine ⟨s', ?_, e2⟩
    unfold f2_prepare_b57
    simp only
    rw [if_neg (nlt5 hb), e1, bi1_s, nI_1]
  obtain ⟨s', e1, e2⟩ := k1
  refine ⟨s', ?_, e2⟩
  unfold f2_prepare_b50
  simp only
  rw [if_neg (nlt5 ha), e1, bi1_s, nI_1]
theorem diff_c (h : CZ st Z) : ∃ dd, wh f2_prepare_b10 FU (st, (0 : Int32)) = some (c_difference_s st dd) ∧ ∀ v, v < 4 → dd v = dI Z v := by
  have key : ∃ s, wh f2_prepare_b10 FU (st, (0 : Int32)) = some s ∧ ∃ dd, s = c_difference_s st dd ∧ ∀ v, v < 4 → dd v = dI Z v := by
    refine wh_inv 4 (by omega) (fun i z => ∃ dd, z = (c_difference_s st dd, nI i) ∧ ∀ v, v < i → dd v = dI Z v) _ ⟨c_difference st, rfl, fun v q => by omega⟩ ?_ ?_
    · rintro i _ hi ⟨dd, rfl, hd⟩
      refine Or.inl ⟨(c_difference_s st (upd dd i (dI Z i)), nI (i + 1)), ?_, _, rfl, fun v hv => ?_⟩
      · unfold f2_prepare_b10
        simp only
        rw [if_neg (show ¬ (4 : Int32) ≤ nI i from lge 4 hi), show (4 : Int32) + nI i = nI (4 + i) from nI_add 4 i, show (0 : Int32) + nI (4 + i) = nI (4 + i) from Int32.zero_add _, show (8 : Int32) + nI (4 + i) = nI (12 + i) by rw [show (8 : Int32) + nI (4 + i) = nI (8 + (4 + i)) from nI_add 8 (4 + i)]; exact congrArg nI (by omega), if_pos (ib_n (by omega) (by omega)), if_pos (ib_n (by omega) (by omega)), if_pos (ib_n hi (by omega)), tn (by omega), tn (by omega), tn (by omega), show c_state (c_difference_s st dd) (4 + i) = _ from h (4 + i) (by omega), show c_state (c_difference_s st dd) (12 + i) = _ from h (12 + i) (by omega), nI_1]
        rfl
      · by_cases e : v = i
        · rw [e, pk_us]
        · rw [pk_un e]
          exact hd v (by omega)
    · rintro _ ⟨dd, rfl, hd⟩
      refine ⟨_, ?_, dd, rfl, hd⟩
      unfold f2_prepare_b10
      exact if_pos (Int32.le_refl _)
  obtain ⟨s, k1, dd, rfl, k2⟩ := key
  exact ⟨dd, k1, k2⟩
theorem LR_z (st : CS) : c_found_s st 0 = LR st (c_row st) (c_numbers st) 0 := rfl
theorem LR_0 (st : CS) (Z : Nat → Nat) : IL st Z 0 (c_found_s st 0) := ⟨_, _, _, LR_z st, rfl, fun k e hk => by cases hk⟩
theorem dd_same (st : CS) (dd : Nat → Int32) : csame st (c_difference_s st dd) ∧ esame st (c_difference_s st dd) := ⟨⟨rfl, rfl, rfl, rfl, rfl, rfl, rfl, rfl⟩, ⟨rfl, rfl, rfl, rfl, rfl, rfl, rfl, rfl, rfl, rfl⟩⟩
theorem LR_same (st : CS) (r nm : Nat → Int32) (fd : Int32) : csame st (LR st r nm fd) ∧ esame st (LR st r nm fd) := ⟨⟨rfl, rfl, rfl, rfl, rfl, rfl, rfl, rfl⟩, ⟨rfl, rfl, rfl, rfl, rfl, rfl, rfl, rfl, rfl, rfl⟩⟩
theorem lp_same (st : CS) (v : Int32) : csame st (c_lprep_s st v) ∧ esame st (c_lprep_s st v) := ⟨⟨rfl, rfl, rfl, rfl, rfl, rfl, rfl, rfl⟩, ⟨rfl, rfl, rfl, rfl, rfl, rfl, rfl, rfl, rfl, rfl⟩⟩
theorem LR_t {st : CS} {r nm : Nat → Int32} {fd : Int32} (h1 : ∀ v, v < 4 → c_difference st v = dI Z v) (h2 : LL fd nm (LO Z)) : LPt (LR st r nm fd) Z := ⟨h1, h2⟩
theorem lp_t {s : CS} {v : Int32} (h : LPt s Z) : LPt (c_lprep_s s v) Z := h
theorem prepL_c (h : CZ st Z) (hv : VZ Z) (hP : LQ st Z) : ∃ s, f2_prepare st = some s ∧ csame st s ∧ esame st s ∧ LPt s Z := by
  unfold f2_prepare
  by_cases q : c_lprep st = 0
  · rw [if_pos q]
    obtain ⟨dd, a1, a2⟩ := diff_c h
    obtain ⟨s, b1, r, nm, fd, rfl, b2⟩ := lay_c (st := c_difference_s st dd) (Z := Z) a2 hv (LR_0 (c_difference_s st dd) Z)
    rw [a1, bi1_s, b1, bi1_s]
    exact ⟨_, rfl, ((dd_same st dd).1.t (LR_same _ r nm fd).1).t (lp_same _ 1).1, ((dd_same st dd).2.t (LR_same _ r nm fd).2).t (lp_same _ 1).2, lp_t (LR_t a2 b2)⟩
  · rw [if_neg q]
    rcases hP with e | e
    · exact absurd e q
    · exact ⟨st, rfl, csame.r _, esame.r _, e⟩
end QN
