/-! read. -/
section PH
variable {EP LP : CS → (Nat → Nat) → Prop} {st : CS} {ms : MS}
theorem zero_c : ∃ g, wh f3_tell_b2 FU (st, (0 : Int32)) = some (c_draft_s st g) ∧ ∀ f, f < 8 → g f = nI 0 := by
  have key : ∃ r, wh f3_tell_b2 FU (st, (0 : Int32)) = some r ∧ ∃ g, r = c_draft_s st g ∧ ∀ f, f < 8 → g f = nI 0 := by
    refine wh_inv 8 (by omega) (fun i z => ∃ g, z = (c_draft_s st g, nI i) ∧ ∀ f, f < i → g f = nI 0) _ ⟨c_draft st, rfl, fun f hf => by omega⟩ ?_ ?_
    · rintro i _ hi ⟨g, rfl, hg⟩
      refine Or.inl ⟨_, ?_, upd g i 0, rfl, ?_⟩
      · unfold f3_tell_b2
        simp only
        rw [if_neg (show ¬ (8 : Int32) ≤ nI i from lge 8 hi), if_pos (ib_n (by omega) (by omega)), tn (by omega), nI_1]
        rfl
      · intro f hf
        unfold upd
        split
        · rfl
        · exact hg f (by omega)
    · rintro _ ⟨g, rfl, hg⟩
      refine ⟨_, ?_, g, rfl, hg⟩
      unfold f3_tell_b2
      exact if_pos (Int32.le_refl _)
  obtain ⟨r, h1, g, rfl, h2⟩ := key
  exact ⟨g, h1, h2⟩
/-- what the class has told ahead of the model -/
def ex (tx : Nat → Nat) (n i f : Nat) : Nat := if 0 < i ∧ i < n ∧ fa (tx (i - 1)) = f ∧ isT (tx i) = true then tx i - 49 else 0
theorem ds_ds (st : CS) (a b : Nat → Int32) : c_draft_s (c_draft_s st a) b = c_draft_s st b := rfl
theorem tell_c {n : Nat} {tx : Nat → Nat} (h : TC st n tx) (hn : n ≤ 60) (ht : ∀ i, i < n → 33 ≤ tx i ∧ tx i < 127) : ∃ g, f3_tell st = some (c_draft_s st g) ∧ ∀ f, f < 8 → g f = nI (rt tx n f) := by
  obtain ⟨g0, z1, z2⟩ := zero_c (st := st)
  have key : ∃ r, wh f3_tell_b20 FU (c_draft_s st g0, (0 : Int32)) = some r ∧ ∃ g, r = c_draft_s st g ∧ ∀ f, f < 8 → g f = nI (rt tx n f) := by
    refine wh_inv n (by omega) (fun i z => ∃ g, z = (c_draft_s st g, nI i) ∧ ∀ f, f < 8 → g f = nI (rt tx i f + ex tx n i f)) _ ⟨g0, rfl, fun f hf => by rw [z2 f hf]; unfold ex; rw [if_neg (by omega)]; rfl⟩ ?_ ?_
    · rintro i _ hi ⟨g, rfl, hg⟩
      have hT : TC (c_draft_s st g) n tx := h
      have ha := (ht i hi).2
      by_cases c : fa (tx i) < 8
      · have nt : ¬ isT (tx i) = true := by rw [fa_T c]; decide
        have hr : ∃ r, f3_codeAt (c_draft_s st g) (nI (i + 1)) = some r ∧ (if f3_isTimes r = 0 then (1 : Int32) else r - 48) = nI (1 + ex tx n (i + 1) (fa (tx i))) := by
          unfold ex
          rw [Nat.add_sub_cancel]
          by_cases d : i + 1 < n
          · refine ⟨_, codeAt_in hT hn d, ?_⟩
            rw [isT_c _ (ht (i + 1) d).2]
            by_cases t : isT (tx (i + 1)) = true
            · have := isT_le t
              rw [if_pos t, if_neg (show ¬ (1 : Int32) = 0 by decide +kernel), if_pos ⟨by omega, d, rfl, t⟩]
              exact (sb 48 (by omega)).trans (by rw [show tx (i + 1) - 48 = 1 + (tx (i + 1) - 49) by omega])
            · rw [if_neg t, if_pos rfl, if_neg (fun z => t z.2.2.2)]
              rfl
          · refine ⟨_, codeAt_out hT (by omega) (by omega), ?_⟩
            rw [if_neg (show ¬ (0 < i + 1 ∧ i + 1 < n ∧ fa (tx i) = fa (tx i) ∧ isT (tx (i + 1)) = true) from fun z => d z.2.1)]
            decide +kernel
        obtain ⟨r, r1, r2⟩ := hr
        refine Or.inl ⟨_, ?_, upd g (fa (tx i)) (nI (rt tx i (fa (tx i)) + 1 + ex tx n (i + 1) (fa (tx i)))), rfl, ?_⟩
        · unfold f3_tell_b20
          simp only
          rw [if_neg (show ¬ c_length (c_draft_s st g) ≤ nI i by rw [show c_length (c_draft_s st g) = nI n from h.1]; exact nI_ge hi (by omega)), codeAt_in hT hn hi, bi1_s, fa_c _ ha, if_pos c, if_neg (fa_ne1 _ c), nI_1, r1, bi1_s, r2, if_pos (ib_n c (by omega)), if_pos (ib_n c (by omega)), tn (by omega), ds_ds]
          show some (Sum.inl (c_draft_s st (upd g (fa (tx i)) (g (fa (tx i)) + nI (1 + ex tx n (i + 1) (fa (tx i))))), nI (i + 1))) = _
          rw [hg _ c, nI_add, show ex tx n i (fa (tx i)) = 0 from if_neg (fun z => nt z.2.2.2), Nat.add_zero, Nat.add_assoc]
        · intro f hf
          unfold upd
          rw [rt]
          by_cases e : f = fa (tx i)
          · rw [if_pos e, if_pos e.symm, e]
          · rw [if_neg e, if_neg (fun z => e z.symm), if_neg (fun z => nt z.2.2), hg f hf]
            unfold ex
            rw [if_neg (fun z => nt z.2.2.2), if_neg (fun z => e (by rw [Nat.add_sub_cancel] at z; exact z.2.2.1.symm))]
      · refine Or.inl ⟨_, ?_, g, rfl, ?_⟩
        · unfold f3_tell_b20
          simp only
          rw [if_neg (show ¬ c_length (c_draft_s st g) ≤ nI i by rw [show c_length (c_draft_s st g) = nI n from h.1]; exact nI_ge hi (by omega)), codeAt_in hT hn hi, bi1_s, fa_c _ ha, if_neg c, if_pos rfl, nI_1]
        · intro f hf
          rw [hg f hf, rt, if_neg (show ¬ fa (tx i) = f by omega)]
          unfold ex
          rw [if_neg (show ¬ (0 < i + 1 ∧ i + 1 < n ∧ fa (tx (i + 1 - 1)) = f ∧ isT (tx (i + 1)) = true) from fun z => by rw [Nat.add_sub_cancel] at z; omega), Nat.add_zero]
          by_cases e : 0 < i ∧ fa (tx (i - 1)) = f ∧ isT (tx i) = true
          · rw [if_pos e, if_pos ⟨e.1, hi, e.2⟩]
          · rw [if_neg e, if_neg (fun z => e ⟨z.1, z.2.2⟩)]
    · rintro _ ⟨g, rfl, hg⟩
      refine ⟨_, ?_, g, rfl, fun f hf => ?_⟩
      · unfold f3_tell_b20
        exact if_pos (show c_length (c_draft_s st g) ≤ nI n by rw [show c_length (c_draft_s st g) = nI n from h.1]; exact Int32.le_refl _)
      · rw [hg f hf]
        unfold ex
        rw [if_neg (by omega), Nat.add_zero]
  obtain ⟨r, k1, g, rfl, k2⟩ := key
  refine ⟨g, ?_, k2⟩
  unfold f3_tell
  rw [z1, bi1_s, k1, bi1_s]
theorem areWithin_m {d : Nat → Nat} {p : Nat} (hp : p < 3) (hd : ∀ i, i < 8 → m_readTimes ms i = nI (d i)) (hb : ∀ i, i < 8 → d i < 10000) : (fits d p ∧ f5_areWithin ms (nI p) = some 1) ∨ (¬ fits d p ∧ f5_areWithin ms (nI p) = some 0) := by
  have key : ∃ r, wh (f5_areWithin_b4 ms (nI p)) FU ((1 : Int32), (0 : Int32)) = some r ∧ ((fits d p ∧ r = 1) ∨ (¬ fits d p ∧ r = 0)) := by
    refine wh_inv 8 (by omega) (fun i z => (z = ((1 : Int32), nI i) ∧ ∀ j, j < i → d j ≤ bd (8 * p + j)) ∨ (z = ((0 : Int32), nI i) ∧ ¬ fits d p)) _ (Or.inl ⟨rfl, fun j hj => by omega⟩) ?_ ?_
    · rintro i z hi hI
      refine Or.inl ?_
      rcases hI with ⟨rfl, hI⟩ | ⟨rfl, hI⟩
      · have b1 := hb i hi
        have b := bd9 (8 * p + i)
        unfold f5_areWithin_b4
        simp only
        rw [if_neg (show ¬ (8 : Int32) ≤ nI i from lge 8 hi), if_neg (show ¬ (1 : Int32) = 0 by decide +kernel), if_pos (ib_n (by omega) (by omega)), lq_e, lim_m p hp i hi, tn (by omega), hd i hi, nI_1]
        by_cases c : d i ≤ bd (8 * p + i)
        · rw [if_neg (nI_nlt c (by omega))]
          refine ⟨_, rfl, Or.inl ⟨rfl, fun j hj => ?_⟩⟩
          rcases (show j < i ∨ j = i by omega) with e | rfl
          · exact hI j e
          · exact c
        · rw [if_pos (nI_lt (show bd (8 * p + i) < d i by omega) (by omega))]
          exact ⟨_, rfl, Or.inr ⟨rfl, fun f => c (f i hi)⟩⟩
      · unfold f5_areWithin_b4
        simp only
        rw [if_neg (show ¬ (8 : Int32) ≤ nI i from lge 8 hi), if_pos True.intro, nI_1]
        exact ⟨_, rfl, Or.inr ⟨rfl, hI⟩⟩
    · rintro z (⟨rfl, hI⟩ | ⟨rfl, hI⟩)
      · unfold f5_areWithin_b4
        exact ⟨_, if_pos (Int32.le_refl _), Or.inl ⟨hI, rfl⟩⟩
      · unfold f5_areWithin_b4
        exact ⟨_, if_pos (Int32.le_refl _), Or.inr ⟨hI, rfl⟩⟩
  obtain ⟨r, h1, ⟨h2, rfl⟩ | ⟨h2, rfl⟩⟩ := key
  · refine Or.inl ⟨h2, ?_⟩
    unfold f5_areWithin
    rw [h1, bi1_s]
    rfl
  · refine Or.inr ⟨h2, ?_⟩
    unfold f5_areWithin
    rw [h1, bi1_s]
    rfl
theorem readPut_m {Z d : Nat → Nat} {p : Nat} (hp : p < 3) (h : MZ ms Z) (hd : ∀ i, i < 8 → m_readTimes ms i = nI (d i)) : ∃ s, wh (f5_read_b80 (nI p)) FU (ms, (0 : Int32)) = some (m_z_s ms s) ∧ ∀ k, k < 26 → s k = nI (pz Z p d 8 k) := by
  have key : ∃ r, wh (f5_read_b80 (nI p)) FU (ms, (0 : Int32)) = some r ∧ ∃ s, r = m_z_s ms s ∧ ∀ k, k < 26 → s k = nI (pz Z p d 8 k) := by
    refine wh_inv 8 (by omega) (fun i z => ∃ s, z = (m_z_s ms s, nI i) ∧ ∀ k, k < 26 → s k = nI (pz Z p d i k)) _ ⟨m_z ms, rfl, fun k hk => by rw [pz_0]; exact h k hk⟩ ?_ ?_
    · rintro i _ hi ⟨s, rfl, hs⟩
      refine Or.inl ⟨_, ?_, upd s (8 * p + i) (nI (d i)), rfl, upd_pz hs rfl⟩
      unfold f5_read_b80
      simp only
      rw [if_neg (show ¬ (8 : Int32) ≤ nI i from lge 8 hi), if_pos (ib_n (by omega) (by omega)), e8, if_pos (ib_n (by omega) (by omega)), tn (by omega), tn (by omega), nI_1, zs_zs]
      show some (Sum.inl (m_z_s ms (upd s (8 * p + i) (m_readTimes ms i)), nI (i + 1))) = _
      rw [hd i hi]
    · rintro _ ⟨s, rfl, hs⟩
      refine ⟨_, ?_, s, rfl, hs⟩
      unfold f5_read_b80
      exact if_pos (Int32.le_refl _)
  obtain ⟨r, h1, s, rfl, h2⟩ := key
  exact ⟨s, h1, h2⟩
theorem read_m {n : Nat} {tx : Nat → Nat} (h : TM ms n tx) (hn : n ≤ 60) {x : Int32} {g : Nat → Int32} {l : Int32} {e : Nat} (he : EPl tx n e) (h1 : f5_rightUpTo ms = some (MR ms g l, nI e)) : f5_read ms x = f5_read_j23 (MR ms g l) x (if e = n ∧ 0 < n then 1 else 0) := by
  have hl := he.1
  unfold f5_read
  rw [h1, bi2_s, show m_length (MR ms g l) = nI n from h.1]
  by_cases q : e = n
  · rw [q, if_pos rfl]
    rcases Nat.eq_zero_or_pos n with e0 | e0
    · rw [e0]; rfl
    · rw [if_neg (nI_nle e0 (by omega)), if_pos ⟨rfl, e0⟩]
  · rw [if_neg (fun z => q ((nI_eq (by omega) (by omega)).mp z)), if_neg (fun z => q z.1)]
theorem isProduct_c {n e : Nat} {tx : Nat → Nat} (h : TC st n tx) (hn : n ≤ 60) (he : EPl tx n e) (h1 : f3_errorPlace st = some (nI e)) : f3_isProduct st = some (if e = n ∧ 0 < n then 1 else 0) := by
  have hl := he.1
  unfold f3_isProduct
  rw [h1, h.1]
  rcases Nat.eq_zero_or_pos n with e0 | e0
  · rw [e0, if_pos (show nI 0 ≤ (0 : Int32) from Int32.le_refl _), if_neg (by omega)]
  · rw [if_neg (nI_nle e0 (by omega)), bi1_s]
    by_cases q : e = n
    · rw [q, if_pos rfl, if_pos ⟨rfl, e0⟩]
    · rw [if_neg (fun z => q ((nI_eq (by omega) (by omega)).mp z)), if_neg (fun z => q z.1)]
theorem tl_MR (ms : MS) (g : Nat → Int32) (l v : Int32) : m_thrown_s (MR ms g l) v = MR (m_thrown_s ms v) g l := rfl
theorem s9 (hS : Snd EP LP) : St9 (Rel EP LP) := by
  intro st ms hR x0
  obtain ⟨Z, Hs, a1, a2, a3, a4, a5, a6, a7, a8, a9, a10⟩ := id hR
  obtain ⟨n, tx, hn, ht, tc, tm⟩ := TX_of a8
  obtain ⟨e, c1, c2⟩ := errorPlace_c tc hn ht
  obtain ⟨g, l, e', m1, m2, m3⟩ := right_m tm hn ht
  obtain rfl := EPl_u c1 m2
  have cp := isProduct_c tc hn c1 c2
  have mp := read_m (x := x0) tm hn m2 m1
  have hRR : ∀ v, Rel EP LP st (m_thrown_s (MR ms g l) v) := fun v => hR.m ⟨rfl, rfl, rfl, rfl, rfl, rfl, rfl⟩
  rcases ar x0 3 (by omega) with ⟨p, hp, rfl⟩ | h0
  · by_cases q : e = n ∧ 0 < n
    · rw [if_pos q] at cp mp
      obtain ⟨gc, t1, t2⟩ := tell_c tc hn ht
      have m4 := m3 q.1
      have hb : ∀ i, i < 8 → rt tx n i < 10000 := fun i _ => by have := rt_le tx i n; omega
      have hc : f4_read st (nI p) = bt2 (f4_putDraft (c_draft_s st gc) (nI p)) fun st9 r10 => some (f3_empty st9, .inr r10) := by
        unfold f4_read
        rw [show f4_needIndex (nI p) 3 = _ from ni_in 3 hp, bt0_r, cp, bi1_s, if_neg (show ¬ (1 : Int32) = 0 by decide +kernel), t1, bi1_s]
      rcases areWithin_m (ms := MR ms g l) hp m4 hb with ⟨hf, w1⟩ | ⟨hf, w1⟩
      · obtain ⟨K, o, n1, s, k1, k2, k3⟩ := putDraft_ok (st := c_draft_s st gc) (d := rt tx n) (Z := Z) (Hs := Hs) a2 (a5.m rfl rfl rfl) hp t2 hb hf
        obtain ⟨f, n', v1, v2⟩ := save_m (ms := m_thrown_s (MR ms g l) 0) (Z := Z) (Hs := Hs) a3 (a6.m rfl rfl) a5.2.1
        obtain ⟨s', p1, p2⟩ := readPut_m (ms := m_length_s (SV (m_thrown_s (MR ms g l) 0) f n') 0) (Z := Z) (d := rt tx n) hp a3 m4
        refine ⟨f3_empty (c_state_s (KS (c_draft_s st gc) K o n1) s), .inr (nI (fo (pz Z p (rt tx n) 8) p)), m_z_s (m_length_s (SV (m_thrown_s (MR ms g l) 0) f n') 0) s', nI (fo (pz Z p (rt tx n) 8) p), 0, hc.trans (by rw [k1, bt2_r]), ?_, rfl, rfl, fun _ q => by cases q; rfl, ok_new hS (Z := pz Z p (rt tx n) 8) (pz_v a1 hf) k3 p2 (psh_all a4 a1) (k2.m rfl rfl rfl) (v2.m rfl rfl) (a7.m rfl rfl rfl rfl) ⟨0, by omega, rfl, rfl, fun i hi => by omega⟩ rfl rfl⟩
        show f5_read ms (nI p) = _
        rw [mp]
        unfold f5_read_j23
        rw [isP_in hp, if_neg (show ¬ (1 : Int32) = 0 by decide +kernel), if_neg (show ¬ (1 : Int32) = 0 by decide +kernel), w1, bi1_s, if_neg (show ¬ (1 : Int32) = 0 by decide +kernel)]
        unfold f5_read_j57
        rw [if_pos (Int32.le_refl _), v1, bi1_s, p1, bi1_s, fo_m (ms := m_z_s (m_length_s (SV (m_thrown_s (MR ms g l) 0) f n') 0) s') p2 hp, bi1_s]
      · refine ⟨c_draft_s st gc, .inl 2, m_thrown_s (MR ms g l) 3, 0, 3, hc.trans (by rw [putDraft_no (st := c_draft_s st gc) hp t2 hb hf, bt2_l]), ?_, rfl, rfl, fun _ q => (nomatch q), (hRR 3).d hS gc⟩
        show f5_read ms (nI p) = _
        rw [mp]
        unfold f5_read_j23
        rw [isP_in hp, if_neg (show ¬ (1 : Int32) = 0 by decide +kernel), if_neg (show ¬ (1 : Int32) = 0 by decide +kernel), w1, bi1_s]
        rfl
    · rw [if_neg q] at cp mp
      refine ⟨st, .inl 1, m_thrown_s (MR ms g l) 2, 0, 2, ?_, ?_, rfl, rfl, fun _ q => (nomatch q), hRR 2⟩
      · show f4_read st (nI p) = _
        unfold f4_read
        rw [show f4_needIndex (nI p) 3 = _ from ni_in 3 hp, bt0_r, cp, bi1_s]
        rfl
      · show f5_read ms (nI p) = _
        rw [mp]
        unfold f5_read_j23
        rw [isP_in hp]
        rfl
  · refine ⟨st, .inl 0, m_thrown_s (MR ms g l) 1, 0, 1, ?_, ?_, rfl, rfl, fun _ q => (nomatch q), hRR 1⟩
    · show f4_read st x0 = _
      unfold f4_read
      rw [show f4_needIndex x0 3 = _ from ni_out 3 h0, bt0_l]
    · show f5_read ms x0 = _
      rw [mp]
      unfold f5_read_j23
      rw [isP_out h0]
      rfl
end PH
