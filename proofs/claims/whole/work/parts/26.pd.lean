/-! undo, take, restore. -/
section PD
variable {EP LP : CS → (Nat → Nat) → Prop} {st : CS} {ms : MS}
theorem lge0 {n : Nat} (h : 0 < n) (hn : n < 2 ^ 31) : ¬ nI n ≤ 0 := nI_nle h hn
theorem dl_get {Hs : List (Nat → Nat)} {j : Nat} {W : Nat → Nat} (h : Hs.dropLast[j]? = some W) : Hs[j]? = some W ∧ j < Hs.length - 1 := by
  rw [List.getElem?_dropLast] at h
  split at h
  · rename_i q
    exact ⟨h, q⟩
  · cases h
theorem s12 (hS : Snd EP LP) : St12 (Rel EP LP) := by
  intro st ms hR
  obtain ⟨Z, Hs, a1, a2, a3, a4, a5, a6, a7, a8, a9, a10⟩ := id hR
  by_cases q : Hs.length = 0
  · refine ok_ref (e := 2) (v := 1) ?_ ?_ rfl hR
    · show f4_undo _ = _
      unfold f4_undo f1_size
      rw [a5.1, q]
      rfl
    · show f5_undo _ = _
      unfold f5_undo
      rw [a6.1, q]
      rfl
  · obtain ⟨k, hk⟩ : ∃ k, Hs.length = k + 1 := ⟨Hs.length - 1, by omega⟩
    obtain ⟨W, hW⟩ : ∃ W, Hs[k]? = some W := ⟨_, List.getElem?_eq_getElem (by omega)⟩
    obtain ⟨b1, b2, o, b3, b4, b5⟩ := a5
    have c1 : ¬ c_held st ≤ 0 := by rw [b1]; exact lge0 (by omega) (by omega)
    have c0 : ¬ c_held st = 0 := by rw [b1]; exact nI_ne0 (by omega) (by omega)
    have c2 : c_held st - 1 = nI k := by rw [b1, hk]; exact nI_pred k
    have c3 : (c_oldest st + (c_held st - 1)) - (c_oldest st + (c_held st - 1)) / (6 : Int32) * (6 : Int32) = nI ((o + k) % 6) := by
      rw [c2, b4, nI_add]
      exact md 6 (by omega)
    have d1 : ¬ m_states ms ≤ 0 := by rw [a6.1]; exact lge0 (by omega) (by omega)
    have hl : wh f5_undo_b37 FU (m_states_s (m_thrown_s ms 0) (nI k), (0 : Int32)) = some (m_z_s (m_states_s (m_thrown_s ms 0) (nI k)) (fun j => if j < 26 then m_history ms (26 * k + j) else m_z ms j)) := by
      refine wh_for' 26 (by omega) (fun i => (m_z_s (m_states_s (m_thrown_s ms 0) (nI k)) (fun j => if j < i then m_history ms (26 * k + j) else m_z ms j), nI i)) rfl (fun i hi => ?_) ?_
      · unfold f5_undo_b37
        simp only
        rw [if_neg (show ¬ (26 : Int32) ≤ nI i from lge 26 hi)]
        show (if ib ((26 : Int32) * nI k + nI i) 156 = true then _ else _) = _
        rw [show (26 : Int32) * nI k + nI i = nI (26 * k + i) from emk 26 k i rfl, if_pos (ib_n (by omega) (by omega)), if_pos (ib_n hi (by omega)), nI_1]
        show some (Sum.inl (m_z_s (m_states_s (m_thrown_s ms 0) (nI k)) (upd (fun j => if j < i then m_history ms (26 * k + j) else m_z ms j) (nI i).toNatClampNeg (m_history ms ((26 : Int32) * nI k + nI i).toNatClampNeg)), nI (i + 1))) = _
        rw [show (26 : Int32) * nI k + nI i = nI (26 * k + i) from emk 26 k i rfl, tn (by omega), tn (by omega)]
        congr 4
        funext j
        unfold upd
        simp only
        split
        · rename_i e
          subst e
          rw [if_pos (by omega)]
        · by_cases q : j < i
          · rw [if_pos q, if_pos (by omega)]
          · rw [if_neg q, if_neg (by omega)]
      · unfold f5_undo_b37
        exact if_pos (Int32.le_refl _)
    refine ⟨f4_forgetTables (c_state_s (c_held_s st (nI k)) (va_cpy (c_kept st ((o + k) % 6)) (c_state st) 0 0 26)), .inr (nI k), m_z_s (m_states_s (m_thrown_s ms 0) (nI k)) (fun j => if j < 26 then m_history ms (26 * k + j) else m_z ms j), nI k, 0, ?_, ?_, rfl, rfl, fun _ q => by cases q; rfl, ?_⟩
    · show f4_undo _ = _
      unfold f4_undo f1_giveBack f1_size
      rw [if_neg c0, if_neg c1, c3, if_pos (ib_n (by omega) (by omega)), tn (by omega), c2, bi1_s]
      rfl
    · show f5_undo _ = _
      unfold f5_undo
      rw [if_neg d1]
      show (bi1 (wh f5_undo_b37 FU (m_states_s (m_thrown_s ms 0) (m_states ms - 1), (0 : Int32))) fun w15 => _) = _
      rw [a6.1, hk, show nI (k + 1) - 1 = nI k from nI_pred k, hl, bi1_s]
      rfl
    · have hWm : W ∈ Hs := List.mem_of_getElem? hW
      refine ok_new hS (Z := W) (Hs := Hs.dropLast) (a4 W hWm) ?_ ?_ (fun V hV => a4 V (List.dropLast_subset _ hV)) ⟨?_, ?_, o, b3, b4, ?_⟩ ⟨?_, ?_⟩ (a7.m rfl rfl rfl rfl) (a8.m rfl rfl rfl rfl) rfl rfl
      · intro j hj
        show va_cpy (c_kept st ((o + k) % 6)) (c_state st) 0 0 26 j = _
        rw [pk_cpy_in (by omega) (by omega), show 0 + (j - 0) = j by omega]
        exact b5 k W hW j hj
      · intro j hj
        show (if j < 26 then m_history ms (26 * k + j) else m_z ms j) = _
        rw [if_pos hj]
        exact a6.2 k W hW j hj
      · show nI k = _
        rw [List.length_dropLast, hk]
        rfl
      · rw [List.length_dropLast]
        omega
      · intro j V hV
        exact b5 j V (dl_get hV).1
      · show nI k = _
        rw [List.length_dropLast, hk]
        rfl
      · intro j V hV
        exact a6.2 j V (dl_get hV).1
/-- the first twenty-four numbers are another's -/
def mx (Y Z : Nat → Nat) : Nat → Nat := fun k => if k < 24 then Y k else Z k
theorem mx_v {Y Z : Nat → Nat} (hY : VP Y) (hZ : VZ Z) : VZ (mx Y Z) := by
  intro k hk
  unfold mx
  split
  · rename_i q
    exact hY k q
  · exact hZ k hk
theorem s10 (hS : Snd EP LP) : St10 (Rel EP LP) := by
  intro st ms hR x0
  rcases ar x0 2 (by omega) with ⟨s, hs, rfl⟩ | h0
  · obtain ⟨Z, Hs, a1, a2, a3, a4, a5, a6, a7, a8, a9, a10⟩ := id hR
    have hl : wh (f5_take_b34 (nI s)) FU (m_taken_s (m_thrown_s ms 0) (upd (m_taken ms) s 1), (0 : Int32)) = some (m_snaps_s (m_taken_s (m_thrown_s ms 0) (upd (m_taken ms) s 1)) (fun j => if 24 * s ≤ j ∧ j < 24 * s + 24 then m_z ms (j - 24 * s) else m_snaps ms j)) := by
      refine wh_for' 24 (by omega) (fun i => (m_snaps_s (m_taken_s (m_thrown_s ms 0) (upd (m_taken ms) s 1)) (fun j => if 24 * s ≤ j ∧ j < 24 * s + i then m_z ms (j - 24 * s) else m_snaps ms j), nI i)) ?_ (fun i hi => ?_) ?_
      · show _ = (m_snaps_s (m_taken_s (m_thrown_s ms 0) (upd (m_taken ms) s 1)) _, nI 0)
        have e : (fun j => if 24 * s ≤ j ∧ j < 24 * s + 0 then m_z ms (j - 24 * s) else m_snaps ms j) = m_snaps ms := by
          funext j
          exact if_neg (by omega)
        rw [e]
        rfl
      · unfold f5_take_b34
        simp only
        rw [if_neg (show ¬ (24 : Int32) ≤ nI i from lge 24 hi), if_pos (ib_n (by omega) (by omega)), show (24 : Int32) * nI s + nI i = nI (24 * s + i) from emk 24 s i rfl, if_pos (ib_n (by omega) (by omega)), nI_1]
        show some (Sum.inl (m_snaps_s (m_taken_s (m_thrown_s ms 0) (upd (m_taken ms) s 1)) (upd (fun j => if 24 * s ≤ j ∧ j < 24 * s + i then m_z ms (j - 24 * s) else m_snaps ms j) (nI (24 * s + i)).toNatClampNeg (m_z ms (nI i).toNatClampNeg)), nI (i + 1))) = _
        rw [tn (by omega), tn (by omega)]
        congr 4
        funext j
        unfold upd
        simp only
        split
        · rename_i e
          subst e
          rw [if_pos (by omega), show 24 * s + i - 24 * s = i by omega]
        · by_cases q : 24 * s ≤ j ∧ j < 24 * s + i
          · rw [if_pos q, if_pos (by omega)]
          · rw [if_neg q, if_neg (by omega)]
      · unfold f5_take_b34
        exact if_pos (Int32.le_refl _)
    refine ⟨c_taken_s (c_snaps_s st (va_up (c_snaps st) s (va_cpy (c_state st) (c_snaps st s) 0 0 24))) (upd (c_taken st) s 1), .inr (nI (fo Z 0 + fo Z 1 + fo Z 2)), m_snaps_s (m_taken_s (m_thrown_s ms 0) (upd (m_taken ms) s 1)) (fun j => if 24 * s ≤ j ∧ j < 24 * s + 24 then m_z ms (j - 24 * s) else m_snaps ms j), nI (fo Z 0 + fo Z 1 + fo Z 2), 0, ?_, ?_, rfl, rfl, fun _ q => by cases q; rfl, Z, Hs, a1, a2, a3, a4, a5.m rfl rfl rfl, a6.m rfl rfl, ?_, a8.m rfl rfl rfl rfl, hS.2.2.1 st _ _ ⟨rfl, rfl, rfl, rfl, rfl, rfl, rfl, rfl, rfl, rfl⟩ a9, hS.2.2.2 st _ _ ⟨rfl, rfl, rfl, rfl⟩ a10⟩
    · show f4_take _ _ = _
      unfold f4_take
      rw [show f4_needIndex (nI s) 2 = _ from ni_in 2 hs, bt0_r, if_pos (ib_n hs (by omega)), if_pos (ib_n hs (by omega)), tn (by omega), show vp_nar .boolean (1 : Int32) = 1 by decide +kernel]
      show (bi1 (f4_factorsOfAll (c_taken_s (c_snaps_s st (va_up (c_snaps st) s (va_cpy (c_state st) (c_snaps st s) 0 0 24))) (upd (c_taken st) s 1))) fun r6 => some (c_taken_s (c_snaps_s st (va_up (c_snaps st) s (va_cpy (c_state st) (c_snaps st s) 0 0 24))) (upd (c_taken st) s 1), Sum.inr r6)) = _
      rw [foa_c (Z := Z) (st := c_taken_s (c_snaps_s st (va_up (c_snaps st) s (va_cpy (c_state st) (c_snaps st s) 0 0 24))) (upd (c_taken st) s 1)) a2, bi1_s]
    · show f5_take _ _ = _
      unfold f5_take
      rw [isS_in hs]
      show (if ib (nI s) 2 = true then (bi1 (wh (f5_take_b34 (nI s)) FU (m_taken_s (m_thrown_s ms 0) (upd (m_taken ms) (nI s).toNatClampNeg 1), (0 : Int32))) fun w19 => _) else none) = _
      rw [if_pos (ib_n hs (by omega)), tn (by omega), hl, bi1_s, foa_m (Z := Z) (ms := m_snaps_s (m_taken_s (m_thrown_s ms 0) (upd (m_taken ms) s 1)) _) a3, bi1_s]
    · intro t ht
      by_cases e : t = s
      · subst e
        refine Or.inr ⟨Z, a1.vp, pk_us, pk_us, fun k hk => ⟨?_, ?_⟩⟩
        · show va_up (c_snaps st) t (va_cpy (c_state st) (c_snaps st t) 0 0 24) t k = _
          rw [va_up_self, pk_cpy_in (by omega) (by omega), show 0 + (k - 0) = k by omega]
          exact a2 k (by omega)
        · show (if 24 * t ≤ 24 * t + k ∧ 24 * t + k < 24 * t + 24 then m_z ms (24 * t + k - 24 * t) else _) = _
          rw [if_pos (by omega), show 24 * t + k - 24 * t = k by omega]
          exact a3 k (by omega)
      · rcases a7 t ht with ⟨f1, f2⟩ | ⟨Y, f1, f2, f3, f4⟩
        · exact Or.inl ⟨(pk_un e).trans f1, (pk_un e).trans f2⟩
        · refine Or.inr ⟨Y, f1, (pk_un e).trans f2, (pk_un e).trans f3, fun k hk => ⟨?_, ?_⟩⟩
          · show va_up (c_snaps st) s _ t k = _
            rw [va_up_ne _ _ e]
            exact (f4 k hk).1
          · show (if 24 * s ≤ 24 * t + k ∧ 24 * t + k < 24 * s + 24 then _ else m_snaps ms (24 * t + k)) = _
            rw [if_neg (by omega)]
            exact (f4 k hk).2
  · refine ok_ref (e := 0) (v := 1) ?_ ?_ rfl hR
    · show f4_take _ _ = _
      unfold f4_take
      rw [show f4_needIndex x0 2 = _ from ni_out 2 h0, bt0_l]
    · show f5_take _ _ = _
      unfold f5_take
      rw [isS_out h0]
      rfl
theorem s11 (hS : Snd EP LP) : St11 (Rel EP LP) := by
  intro st ms hR x0
  rcases ar x0 2 (by omega) with ⟨s, hs, rfl⟩ | h0
  · obtain ⟨Z, Hs, a1, a2, a3, a4, a5, a6, a7, a8, a9, a10⟩ := id hR
    rcases a7 s hs with ⟨f1, f2⟩ | ⟨Y, f1, f2, f3, f4⟩
    · refine ok_ref (e := 2) (v := 2) ?_ ?_ rfl hR
      · show f4_restore _ _ = _
        unfold f4_restore
        rw [show f4_needIndex (nI s) 2 = _ from ni_in 2 hs, bt0_r, if_pos (ib_n hs (by omega)), tn (by omega), f1]
        rfl
      · show f5_restore _ _ = _
        unfold f5_restore
        rw [isS_in hs]
        show (if ib (nI s) 2 = true then f5_restore_j42 (m_thrown_s (m_thrown_s ms 0) (if m_taken ms (nI s).toNatClampNeg = 1 then 0 else 2)) (nI s) else none) = _
        rw [if_pos (ib_n hs (by omega)), tn (by omega), f2]
        rfl
    · obtain ⟨K, o, n, e1, e2⟩ := keep_c a2 a5
      obtain ⟨f, n', e3, e4⟩ := save_m (ms := m_thrown_s ms 0) (Z := Z) (Hs := Hs) a3 (MH_ts a6) a5.2.1
      have hl : wh (f5_restore_b57 (nI s)) FU (SV (m_thrown_s ms 0) f n', (0 : Int32)) = some (m_z_s (SV (m_thrown_s ms 0) f n') (fun j => if j < 24 then m_snaps ms (24 * s + j) else m_z ms j)) := by
        refine wh_for' 24 (by omega) (fun i => (m_z_s (SV (m_thrown_s ms 0) f n') (fun j => if j < i then m_snaps ms (24 * s + j) else m_z ms j), nI i)) rfl (fun i hi => ?_) ?_
        · unfold f5_restore_b57
          simp only
          rw [if_neg (show ¬ (24 : Int32) ≤ nI i from lge 24 hi), show (24 : Int32) * nI s + nI i = nI (24 * s + i) from emk 24 s i rfl, if_pos (ib_n (by omega) (by omega)), if_pos (ib_n (by omega) (by omega)), nI_1]
          show some (Sum.inl (m_z_s (SV (m_thrown_s ms 0) f n') (upd (fun j => if j < i then m_snaps ms (24 * s + j) else m_z ms j) (nI i).toNatClampNeg (m_snaps ms (nI (24 * s + i)).toNatClampNeg)), nI (i + 1))) = _
          rw [tn (by omega), tn (by omega)]
          congr 4
          funext j
          unfold upd
          simp only
          split
          · rename_i e
            subst e
            rw [if_pos (by omega)]
          · by_cases q : j < i
            · rw [if_pos q, if_pos (by omega)]
            · rw [if_neg q, if_neg (by omega)]
        · unfold f5_restore_b57
          exact if_pos (Int32.le_refl _)
      have hC : CZ (c_state_s (KS st K o n) (va_cpy (c_snaps st s) (c_state st) 0 0 24)) (mx Y Z) := by
        intro k hk
        show va_cpy (c_snaps st s) (c_state st) 0 0 24 k = _
        unfold mx
        by_cases q : k < 24
        · rw [pk_cpy_in (by omega) (by omega), if_pos q, show 0 + (k - 0) = k by omega]
          exact (f4 k q).1
        · rw [pk_cpy_out (by omega), if_neg q]
          exact a2 k hk
      have hM : MZ (m_z_s (SV (m_thrown_s ms 0) f n') (fun j => if j < 24 then m_snaps ms (24 * s + j) else m_z ms j)) (mx Y Z) := by
        intro k hk
        show (if k < 24 then m_snaps ms (24 * s + k) else m_z ms k) = _
        unfold mx
        by_cases q : k < 24
        · rw [if_pos q, if_pos q]
          exact (f4 k q).2
        · rw [if_neg q, if_neg q]
          exact a3 k hk
      refine ⟨_, .inr (nI (fo (mx Y Z) 0 + fo (mx Y Z) 1 + fo (mx Y Z) 2)), _, nI (fo (mx Y Z) 0 + fo (mx Y Z) 1 + fo (mx Y Z) 2), 0, ?_, ?_, rfl, ?_, fun _ q => by cases q; rfl, ok_new hS (mx_v f1 a1) hC hM (psh_all a4 a1) (CH_cs e2) (MH_zs e4) (a7.m rfl rfl rfl rfl) (a8.m rfl rfl rfl rfl) rfl rfl⟩
      · show f4_restore _ _ = _
        unfold f4_restore
        rw [show f4_needIndex (nI s) 2 = _ from ni_in 2 hs, bt0_r, if_pos (ib_n hs (by omega)), tn (by omega), f2, if_neg (show ¬ (1 : Int32) = 0 by decide +kernel), e1, bi1_s, if_pos (ib_n hs (by omega))]
        show (bi1 (f4_factorsOfAll (c_state_s (KS st K o n) (va_cpy (c_snaps st s) (c_state st) 0 0 24))) fun r9 => some (c_state_s (KS st K o n) (va_cpy (c_snaps st s) (c_state st) 0 0 24), Sum.inr r9)) = _
        rw [foa_c hC, bi1_s]
      · show f5_restore _ _ = _
        unfold f5_restore
        rw [isS_in hs]
        show (if ib (nI s) 2 = true then f5_restore_j42 (m_thrown_s (m_thrown_s ms 0) (if m_taken ms (nI s).toNatClampNeg = 1 then 0 else 2)) (nI s) else none) = _
        rw [if_pos (ib_n hs (by omega)), tn (by omega), f3]
        show f5_restore_j42 (m_thrown_s ms 0) (nI s) = _
        unfold f5_restore_j42
        rw [if_pos (show m_thrown (m_thrown_s ms 0) ≤ 0 from Int32.le_refl _), e3, bi1_s, hl, bi1_s, foa_m hM, bi1_s]
      · rfl
  · refine ok_ref (e := 0) (v := 1) ?_ ?_ rfl hR
    · show f4_restore _ _ = _
      unfold f4_restore
      rw [show f4_needIndex x0 2 = _ from ni_out 2 h0, bt0_l]
    · show f5_restore _ _ = _
      unfold f5_restore
      rw [isS_out h0]
      rfl
end PD
