set_option maxHeartbeats 4000000 in
set_option maxRecDepth 100000 in
theorem c4_needIndex {l : Launch} {D : va_G} {g : Nat → ClassId} {x90 : Int32} {x91 : Int32} {u' : Unit} (h : f4_needIndex x90 x91 = .inr u') : ct l yX4_needIndex cX4_needIndex 2 none (rmk 0 0) D g [] [] [.int x90, .int x91] none := by
  refine ct_of ⟨rfl, rfl⟩ (by decide) (Nat.le_of_ble_eq_true rfl) ?_
  intro p e s m args below meth c ls Q A H0 H locs E I hl K
  have E : en p m c cX4_needIndex 2 s args RX4 D g := E
  have hx := E.1.1
  have hb := E.1.2.1
  have hl : lv_has ls 2 [(0, .int x90), (1, .int x91)] := hl
  have K : ∀ (pc : Nat) (ls : Array Slot) (H : Heap) (locs : List Loc), wk D [] A H0 H locs → decode cX4_needIndex pc = .ok (.return_, 1) → W p l e (rmk 0 0) s m args below meth c H locs 0 0 Q (F0 m pc ls []) := fun pc ls H locs I hd => K pc ls H locs I hd
  have h : ((if x90 < 0 then .inl 0 else (if x90 < x91 then .inr () else .inl 0)) : Nat ⊕ Unit) = .inr u' := h
  refine lv_iload_n hx hb dX4_needIndex_0 rfl (lv_at hl 0 rfl) ?_
  refine lv_if_lt (tgt := 9) hx hb dX4_needIndex_1 (by decide) (fun hc1 => ?_) (fun hc1 => ?_)
  · have h := ifp hc1 h
    cases h
  · have h := ifn hc1 h
    refine lv_iload_n hx hb dX4_needIndex_4 rfl (lv_at hl 0 rfl) ?_
    refine lv_iload_n hx hb dX4_needIndex_5 rfl (lv_at hl 1 rfl) ?_
    refine lv_icmp_lt (tgt := 20) hx hb dX4_needIndex_6 (by decide) (fun hc2 => ?_) (fun hc2 => ?_)
    · have h := ifp hc2 h
      cases h
      exact K _ _ _ _ I dX4_needIndex_20
    · have h := ifn hc2 h
      cases h
set_option maxHeartbeats 4000000 in
set_option maxRecDepth 100000 in
theorem c4_needNumber {l : Launch} {D : va_G} {g : Nat → ClassId} {x90 : Int32} {x91 : Int32} {x92 : Int32} {u' : Unit} (h : f4_needNumber x90 x91 x92 = .inr u') : ct l yX4_needNumber cX4_needNumber 3 none (rmk 0 0) D g [] [] [.int x90, .int x91, .int x92] none := by
  refine ct_of ⟨rfl, rfl⟩ (by decide) (Nat.le_of_ble_eq_true rfl) ?_
  intro p e s m args below meth c ls Q A H0 H locs E I hl K
  have E : en p m c cX4_needNumber 3 s args RX4 D g := E
  have hx := E.1.1
  have hb := E.1.2.1
  have hl : lv_has ls 3 [(0, .int x90), (1, .int x91), (2, .int x92)] := hl
  have K : ∀ (pc : Nat) (ls : Array Slot) (H : Heap) (locs : List Loc), wk D [] A H0 H locs → decode cX4_needNumber pc = .ok (.return_, 1) → W p l e (rmk 0 0) s m args below meth c H locs 0 0 Q (F0 m pc ls []) := fun pc ls H locs I hd => K pc ls H locs I hd
  have h : ((if x90 < x91 then .inl 1 else (if x90 ≤ x92 then .inr () else .inl 1)) : Nat ⊕ Unit) = .inr u' := h
  refine lv_iload_n hx hb dX4_needNumber_0 rfl (lv_at hl 0 rfl) ?_
  refine lv_iload_n hx hb dX4_needNumber_1 rfl (lv_at hl 1 rfl) ?_
  refine lv_icmp_lt (tgt := 10) hx hb dX4_needNumber_2 (by decide) (fun hc1 => ?_) (fun hc1 => ?_)
  · have h := ifp hc1 h
    cases h
  · have h := ifn hc1 h
    refine lv_iload_n hx hb dX4_needNumber_5 rfl (lv_at hl 0 rfl) ?_
    refine lv_iload_n hx hb dX4_needNumber_6 rfl (lv_at hl 2 rfl) ?_
    refine lv_icmp_le (tgt := 21) hx hb dX4_needNumber_7 (by decide) (fun hc2 => ?_) (fun hc2 => ?_)
    · have h := ifp hc2 h
      cases h
      exact K _ _ _ _ I dX4_needNumber_21
    · have h := ifn hc2 h
      cases h
set_option maxHeartbeats 4000000 in
set_option maxRecDepth 100000 in
theorem c1_keep {l : Launch} {D : va_G} {g : Nat → ClassId} {a : Nat → Nat} {st : CS} {o : CS} (h : f1_keep st = some o) : ct l yX1_keep cX1_keep 2 none (rmk 1 38) D g (cW g a st) (cW g a o) [.ref (a 5), .ref (a 1)] none := by
  refine ct_of ⟨rfl, rfl⟩ (by decide) (Nat.le_of_ble_eq_true rfl) ?_
  intro p e s m args below meth c ls Q A H0 H locs E I hl K
  have E : en p m c cX1_keep 2 s args RX1 D g := E
  have hx := E.1.1
  have hb := E.1.2.1
  have hl : lv_has ls 2 [(0, .ref (a 5)), (1, .ref (a 1))] := hl
  have K : ∀ (pc : Nat) (ls : Array Slot) (H : Heap) (locs : List Loc), wk D (cW g a o) A H0 H locs → decode cX1_keep pc = .ok (.return_, 1) → W p l e (rmk 1 38) s m args below meth c H locs 0 0 Q (F0 m pc ls []) := fun pc ls H locs I hd => K pc ls H locs I hd
  have h : ((if ib (((c_oldest st) + (c_held st)) - ((c_oldest st) + (c_held st)) / (6 : Int32) * (6 : Int32)) 6 = true then (if (6 : Int32) ≤ (c_held st) then some (c_oldest_s (c_kept_s st (va_up (c_kept st) (((c_oldest st) + (c_held st)) - ((c_oldest st) + (c_held st)) / (6 : Int32) * (6 : Int32)).toNatClampNeg (va_cpy (c_state st) ((c_kept st) (((c_oldest st) + (c_held st)) - ((c_oldest st) + (c_held st)) / (6 : Int32) * (6 : Int32)).toNatClampNeg) (0 : Int32).toNatClampNeg (0 : Int32).toNatClampNeg (26 : Int32).toNatClampNeg))) (((c_oldest st) + (1 : Int32)) - ((c_oldest st) + (1 : Int32)) / (6 : Int32) * (6 : Int32))) else some (c_held_s (c_kept_s st (va_up (c_kept st) (((c_oldest st) + (c_held st)) - ((c_oldest st) + (c_held st)) / (6 : Int32) * (6 : Int32)).toNatClampNeg (va_cpy (c_state st) ((c_kept st) (((c_oldest st) + (c_held st)) - ((c_oldest st) + (c_held st)) / (6 : Int32) * (6 : Int32)).toNatClampNeg) (0 : Int32).toNatClampNeg (0 : Int32).toNatClampNeg (26 : Int32).toNatClampNeg))) ((c_held st) + (1 : Int32)))) else none) : Option CS) = some o := h
  refine lv_aload_n hx hb dX1_keep_0 rfl (lv_at hl 1 rfl) ?_
  refine lv_iconst (v := (0 : Int32)) hx hb dX1_keep_1 (by decide) ?_
  refine lv_aload_n hx hb dX1_keep_2 rfl (lv_at hl 0 rfl) ?_
  refine g1_13 E I dX1_keep_3 ?_
  refine lv_aload_n hx hb dX1_keep_6 rfl (lv_at hl 0 rfl) ?_
  refine g1_20 E I (v := (c_oldest st)) rfl dX1_keep_7 ?_
  refine lv_aload_n hx hb dX1_keep_10 rfl (lv_at hl 0 rfl) ?_
  refine g1_16 E I (v := (c_held st)) rfl dX1_keep_11 ?_
  refine lv_iadd hx hb dX1_keep_14 ?_
  refine lv_bipush (v := (6 : Int32)) hx hb dX1_keep_15 (by decide) ?_
  refine lv_irem hx hb dX1_keep_17 (by decide) ?_
  obtain ⟨hc1, h⟩ := gd h
  refine c_al11 E I hc1 dX1_keep_18 ?_
  refine lv_iconst (v := (0 : Int32)) hx hb dX1_keep_19 (by decide) ?_
  refine lv_bipush (v := (26 : Int32)) hx hb dX1_keep_20 (by decide) ?_
  refine r_copy (ws' := (cW g a (c_kept_s st (va_up (c_kept st) (((c_oldest st) + (c_held st)) - ((c_oldest st) + (c_held st)) / (6 : Int32) * (6 : Int32)).toNatClampNeg (va_cpy (c_state st) ((c_kept st) (((c_oldest st) + (c_held st)) - ((c_oldest st) + (c_held st)) / (6 : Int32) * (6 : Int32)).toNatClampNeg) (0 : Int32).toNatClampNeg (0 : Int32).toNatClampNeg (26 : Int32).toNatClampNeg))))) (f := (c_state st)) (h := ((c_kept st) (((c_oldest st) + (c_held st)) - ((c_oldest st) + (c_held st)) / (6 : Int32) * (6 : Int32)).toNatClampNeg)) (rest := []) E I 1 (24 + (((c_oldest st) + (c_held st)) - ((c_oldest st) + (c_held st)) / (6 : Int32) * (6 : Int32)).toNatClampNeg) hl.1 ka1_23 aw_nat aw_stat aw_ini rfl (c_at11 (ib_lt hc1)) (by decide) (c_sa11 (ib_lt hc1)) (Nat.le_of_ble_eq_true rfl) (Nat.le_of_ble_eq_true rfl) dX1_keep_22 (fun H locs I => ?_)
  refine lv_aload_n hx hb dX1_keep_25 rfl (lv_at hl 0 rfl) ?_
  refine g1_16 E I (v := (c_held st)) rfl dX1_keep_26 ?_
  refine lv_bipush (v := (6 : Int32)) hx hb dX1_keep_29 (by decide) ?_
  refine lv_icmp_ge (tgt := 47) hx hb dX1_keep_31 (by decide) (fun hc2 => ?_) (fun hc2 => ?_)
  · have h := ifp hc2 h
    refine lv_aload_n hx hb dX1_keep_47 rfl (lv_at hl 0 rfl) ?_
    refine lv_aload_n hx hb dX1_keep_48 rfl (lv_at hl 0 rfl) ?_
    refine g1_20 E I (v := (c_oldest st)) rfl dX1_keep_49 ?_
    refine lv_iconst (v := (1 : Int32)) hx hb dX1_keep_52 (by decide) ?_
    refine lv_iadd hx hb dX1_keep_53 ?_
    refine lv_bipush (v := (6 : Int32)) hx hb dX1_keep_54 (by decide) ?_
    refine lv_irem hx hb dX1_keep_56 (by decide) ?_
    refine p1_20 E I dX1_keep_57 (fun H locs I => ?_)
    cases h
    exact K _ _ _ _ I dX1_keep_60
  · have h := ifn hc2 h
    refine lv_aload_n hx hb dX1_keep_34 rfl (lv_at hl 0 rfl) ?_
    refine lv_dup hx hb dX1_keep_35 rfl ?_
    refine g1_16 E I (v := (c_held st)) rfl dX1_keep_36 ?_
    refine lv_iconst (v := (1 : Int32)) hx hb dX1_keep_39 (by decide) ?_
    refine lv_iadd hx hb dX1_keep_40 ?_
    refine p1_16 E I dX1_keep_41 (fun H locs I => ?_)
    refine lv_goto (tgt := 60) hx hb dX1_keep_44 (by decide) ?_
    cases h
    exact K _ _ _ _ I dX1_keep_60
set_option maxHeartbeats 4000000 in
set_option maxRecDepth 100000 in
theorem c0_forget {l : Launch} {D : va_G} {g : Nat → ClassId} {a : Nat → Nat} {st : CS} {o : CS} (h : f0_forget st = o) : ct l yX0_forget cX0_forget 1 none (rmk 0 0) D g (cW g a st) (cW g a o) [.ref (a 7)] none := by
  refine ct_of ⟨rfl, rfl⟩ (by decide) (Nat.le_of_ble_eq_true rfl) ?_
  intro p e s m args below meth c ls Q A H0 H locs E I hl K
  have E : en p m c cX0_forget 1 s args RX0 D g := E
  have hx := E.1.1
  have hb := E.1.2.1
  have hl : lv_has ls 1 [(0, .ref (a 7))] := hl
  have K : ∀ (pc : Nat) (ls : Array Slot) (H : Heap) (locs : List Loc), wk D (cW g a o) A H0 H locs → decode cX0_forget pc = .ok (.return_, 1) → W p l e (rmk 0 0) s m args below meth c H locs 0 0 Q (F0 m pc ls []) := fun pc ls H locs I hd => K pc ls H locs I hd
  have h : ((c_eprep_s st (0 : Int32)) : CS) = o := h
  refine lv_aload_n hx hb dX0_forget_0 rfl (lv_at hl 0 rfl) ?_
  refine lv_iconst (v := (0 : Int32)) hx hb dX0_forget_1 (by decide) ?_
  refine p0_37 E I rfl dX0_forget_2 (fun H locs I => ?_)
  cases h
  exact K _ _ _ _ I dX0_forget_5
set_option maxHeartbeats 4000000 in
set_option maxRecDepth 100000 in
theorem c2_forget {l : Launch} {D : va_G} {g : Nat → ClassId} {a : Nat → Nat} {st : CS} {o : CS} (h : f2_forget st = o) : ct l yX2_forget cX2_forget 1 none (rmk 0 0) D g (cW g a st) (cW g a o) [.ref (a 8)] none := by
  refine ct_of ⟨rfl, rfl⟩ (by decide) (Nat.le_of_ble_eq_true rfl) ?_
  intro p e s m args below meth c ls Q A H0 H locs E I hl K
  have E : en p m c cX2_forget 1 s args RX2 D g := E
  have hx := E.1.1
  have hb := E.1.2.1
  have hl : lv_has ls 1 [(0, .ref (a 8))] := hl
  have K : ∀ (pc : Nat) (ls : Array Slot) (H : Heap) (locs : List Loc), wk D (cW g a o) A H0 H locs → decode cX2_forget pc = .ok (.return_, 1) → W p l e (rmk 0 0) s m args below meth c H locs 0 0 Q (F0 m pc ls []) := fun pc ls H locs I hd => K pc ls H locs I hd
  have h : ((c_lprep_s st (0 : Int32)) : CS) = o := h
  refine lv_aload_n hx hb dX2_forget_0 rfl (lv_at hl 0 rfl) ?_
  refine lv_iconst (v := (0 : Int32)) hx hb dX2_forget_1 (by decide) ?_
  refine p2_24 E I rfl dX2_forget_2 (fun H locs I => ?_)
  cases h
  exact K _ _ _ _ I dX2_forget_5
set_option maxHeartbeats 4000000 in
set_option maxRecDepth 100000 in
theorem c4_forgetTables {l : Launch} {D : va_G} {g : Nat → ClassId} {a : Nat → Nat} {st : CS} {o : CS} (h : f4_forgetTables st = o) : ct l yX4_forgetTables cX4_forgetTables 1 none (rmk 1 20) D g (cW g a st) (cW g a o) [.ref (a 0)] none := by
  refine ct_of ⟨rfl, rfl⟩ (by decide) (Nat.le_of_ble_eq_true rfl) ?_
  intro p e s m args below meth c ls Q A H0 H locs E I hl K
  have E : en p m c cX4_forgetTables 1 s args RX4 D g := E
  have hx := E.1.1
  have hb := E.1.2.1
  have hl : lv_has ls 1 [(0, .ref (a 0))] := hl
  have K : ∀ (pc : Nat) (ls : Array Slot) (H : Heap) (locs : List Loc), wk D (cW g a o) A H0 H locs → decode cX4_forgetTables pc = .ok (.return_, 1) → W p l e (rmk 1 20) s m args below meth c H locs 0 0 Q (F0 m pc ls []) := fun pc ls H locs I hd => K pc ls H locs I hd
  have h : ((f2_forget (f0_forget st)) : CS) = o := h
  refine lv_aload_n hx hb dX4_forgetTables_0 rfl (lv_at hl 0 rfl) ?_
  refine g4_42 E I dX4_forgetTables_1 ?_
  refine r_callV0 (As := []) (rest := []) (ws' := (cW g a (f0_forget st))) (q0 := 7) E I hl.1 k4_267 (c0_forget rfl) cW_k rfl rfl rfl rfl (Nat.le_of_ble_eq_true rfl) ⟨Nat.le_of_ble_eq_true rfl, Nat.le_of_ble_eq_true rfl⟩ ⟨Nat.zero_le _, Nat.zero_le _⟩ dX4_forgetTables_4 (fun H locs I => ?_)
  refine lv_aload_n hx hb dX4_forgetTables_7 rfl (lv_at hl 0 rfl) ?_
  refine g4_49 E I dX4_forgetTables_8 ?_
  refine r_callV0 (As := []) (rest := []) (ws' := (cW g a (f2_forget (f0_forget st)))) (q0 := 8) E I hl.1 k4_270 (c2_forget rfl) cW_k rfl rfl rfl rfl (Nat.le_of_ble_eq_true rfl) ⟨Nat.le_of_ble_eq_true rfl, Nat.le_of_ble_eq_true rfl⟩ ⟨Nat.zero_le _, Nat.zero_le _⟩ dX4_forgetTables_11 (fun H locs I => ?_)
  cases h
  exact K _ _ _ _ I dX4_forgetTables_14
set_option maxHeartbeats 4000000 in
set_option maxRecDepth 100000 in
theorem c4_keepState {l : Launch} {D : va_G} {g : Nat → ClassId} {a : Nat → Nat} {st : CS} {o : CS} (h : f4_keepState st = some o) : ct l yX4_keepState cX4_keepState 1 none (rmk 2 59) D g (cW g a st) (cW g a o) [.ref (a 0)] none := by
  refine ct_of ⟨rfl, rfl⟩ (by decide) (Nat.le_of_ble_eq_true rfl) ?_
  intro p e s m args below meth c ls Q A H0 H locs E I hl K
  have E : en p m c cX4_keepState 1 s args RX4 D g := E
  have hx := E.1.1
  have hb := E.1.2.1
  have hl : lv_has ls 1 [(0, .ref (a 0))] := hl
  have K : ∀ (pc : Nat) (ls : Array Slot) (H : Heap) (locs : List Loc), wk D (cW g a o) A H0 H locs → decode cX4_keepState pc = .ok (.return_, 1) → W p l e (rmk 2 59) s m args below meth c H locs 0 0 Q (F0 m pc ls []) := fun pc ls H locs I hd => K pc ls H locs I hd
  have h : ((bi1 (f1_keep st) fun st2 => some (f4_forgetTables st2)) : Option CS) = some o := h
  refine lv_aload_n hx hb dX4_keepState_0 rfl (lv_at hl 0 rfl) ?_
  refine g4_28 E I dX4_keepState_1 ?_
  refine lv_aload_n hx hb dX4_keepState_4 rfl (lv_at hl 0 rfl) ?_
  refine g4_9 E I dX4_keepState_5 ?_
  obtain ⟨st2, hc1, h⟩ := bx1 h
  refine r_callV0 (As := [.ref (a 1)]) (rest := []) (ws' := (cW g a st2)) (q0 := 5) E I hl.1 k4_271 (c1_keep hc1) cW_k rfl rfl rfl rfl (Nat.le_of_ble_eq_true rfl) ⟨Nat.le_of_ble_eq_true rfl, Nat.le_of_ble_eq_true rfl⟩ ⟨Nat.zero_le _, Nat.zero_le _⟩ dX4_keepState_8 (fun H locs I => ?_)
  refine lv_aload_n hx hb dX4_keepState_11 rfl (lv_at hl 0 rfl) ?_
  refine r_callV0 (As := []) (rest := []) (ws' := (cW g a (f4_forgetTables st2))) (q0 := 0) E I hl.1 k4_142 (c4_forgetTables rfl) cW_k rfl rfl rfl rfl (Nat.le_of_ble_eq_true rfl) ⟨Nat.le_of_ble_eq_true rfl, Nat.le_of_ble_eq_true rfl⟩ ⟨Nat.zero_le _, Nat.zero_le _⟩ dX4_keepState_12 (fun H locs I => ?_)
  cases h
  exact K _ _ _ _ I dX4_keepState_15
set_option maxHeartbeats 4000000 in
set_option maxRecDepth 100000 in
theorem c4_change {l : Launch} {D : va_G} {g : Nat → ClassId} {a : Nat → Nat} {st : CS} {x91 : Int32} {x92 : Int32} {o : CS × Int32} (h : f4_change st x91 x92 = some o) : ct l yX4_change cX4_change 4 (some .int) (rmk 3 79) D g (cW g a st) (cW g a o.1) [.ref (a 0), .int x91, .int x92] (some (.int o.2)) := by
  refine ct_of ⟨rfl, rfl⟩ (by decide) (Nat.le_of_ble_eq_true rfl) ?_
  intro p e s m args below meth c ls Q A H0 H locs E I hl K
  have E : en p m c cX4_change 4 s args RX4 D g := E
  have hx := E.1.1
  have hb := E.1.2.1
  have hl : lv_has ls 4 [(0, .ref (a 0)), (1, .int x91), (2, .int x92)] := hl
  have K : ∀ (pc : Nat) (ls : Array Slot) (H : Heap) (locs : List Loc), wk D (cW g a o.1) A H0 H locs → decode cX4_change pc = .ok (.ireturn, 1) → W p l e (rmk 3 79) s m args below meth c H locs 0 0 Q (F0 m pc ls [.int o.2]) := fun pc ls H locs I hd => K pc ls H locs I hd
  have h : ((bi1 (f4_keepState st) fun st2 => (if ib x91 26 = true then (if ib x91 26 = true then some ((c_state_s st2 (upd (c_state st2) x91.toNatClampNeg x92)), ((c_state st2) x91.toNatClampNeg)) else none) else none)) : Option (CS × Int32)) = some o := h
  refine lv_aload_n hx hb dX4_change_0 rfl (lv_at hl 0 rfl) ?_
  obtain ⟨st2, hc1, h⟩ := bx1 h
  refine r_callV0 (As := []) (rest := []) (ws' := (cW g a st2)) (q0 := 0) E I hl.1 k4_87 (c4_keepState hc1) cW_k rfl rfl rfl rfl (Nat.le_of_ble_eq_true rfl) ⟨Nat.le_of_ble_eq_true rfl, Nat.le_of_ble_eq_true rfl⟩ ⟨Nat.zero_le _, Nat.zero_le _⟩ dX4_change_1 (fun H locs I => ?_)
  refine lv_aload_n hx hb dX4_change_4 rfl (lv_at hl 0 rfl) ?_
  refine g4_9 E I dX4_change_5 ?_
  refine lv_iload_n hx hb dX4_change_8 rfl (lv_at hl 1 rfl) ?_
  obtain ⟨hc3, h⟩ := gd h
  refine c_ld1 E I (f := (c_state st2)) rfl hc3 dX4_change_9 ?_
  refine lv_istore_n (lv' := [(3, .int ((c_state st2) x91.toNatClampNeg)), (0, .ref (a 0)), (1, .int x91), (2, .int x92)]) hx hb dX4_change_10 rfl hl (by decide) rfl (fun ls hl => ?_)
  refine lv_aload_n hx hb dX4_change_11 rfl (lv_at hl 1 rfl) ?_
  refine g4_9 E I dX4_change_12 ?_
  refine lv_iload_n hx hb dX4_change_15 rfl (lv_at hl 2 rfl) ?_
  refine lv_iload_n hx hb dX4_change_16 rfl (lv_at hl 3 rfl) ?_
  obtain ⟨hc4, h⟩ := gd h
  refine c_st1 E I (f := (c_state st2)) rfl hc4 dX4_change_17 (fun H locs I => ?_)
  refine lv_iload_n hx hb dX4_change_18 rfl (lv_at hl 0 rfl) ?_
  cases h
  exact K _ _ _ _ I dX4_change_19
set_option maxHeartbeats 4000000 in
set_option maxRecDepth 100000 in
theorem c4_constant {l : Launch} {D : va_G} {g : Nat → ClassId} {a : Nat → Nat} {st : CS} {x91 : Int32} {x92 : Int32} {x93 : Int32} {st' : CS} {r' : Int32} (h : f4_constant st x91 x92 x93 = some (st', .inr r')) : ct l yX4_constant cX4_constant 4 (some .int) (rmk 4 102) D g (cW g a st) (cW g a st') [.ref (a 0), .int x91, .int x92, .int x93] (some (.int r')) := by
  refine ct_of ⟨rfl, rfl⟩ (by decide) (Nat.le_of_ble_eq_true rfl) ?_
  intro p e s m args below meth c ls Q A H0 H locs E I hl K
  have E : en p m c cX4_constant 4 s args RX4 D g := E
  have hx := E.1.1
  have hb := E.1.2.1
  have hl : lv_has ls 4 [(0, .ref (a 0)), (1, .int x91), (2, .int x92), (3, .int x93)] := hl
  have K : ∀ (pc : Nat) (ls : Array Slot) (H : Heap) (locs : List Loc), wk D (cW g a st') A H0 H locs → decode cX4_constant pc = .ok (.ireturn, 1) → W p l e (rmk 4 102) s m args below meth c H locs 0 0 Q (F0 m pc ls [.int r']) := fun pc ls H locs I hd => K pc ls H locs I hd
  have h : ((bt0 st (f4_needIndex x91 (3 : Int32)) fun (u2 : Unit) => (bt0 st (f4_needIndex x92 (4 : Int32)) fun (u4 : Unit) => (bt0 st (f4_needNumber x93 (0 : Int32) (9 : Int32)) fun (u6 : Unit) => (bi2 (f4_change st ((x91 * (8 : Int32)) + x92) x93) fun st8 r9 => some (st8, .inr r9))))) : Option (CS × (Nat ⊕ Int32))) = some (st', .inr r') := h
  refine lv_iload_n hx hb dX4_constant_0 rfl (lv_at hl 1 rfl) ?_
  refine lv_iconst (v := (3 : Int32)) hx hb dX4_constant_1 (by decide) ?_
  obtain ⟨u2, hc1, h⟩ := bt0n h
  refine r_callS0 (As := [.int x91, .int (3 : Int32)]) (rest := []) E I hl.1 k4_53 (c4_needIndex hc1) rfl rfl (Nat.le_of_ble_eq_true rfl) ⟨Nat.le_of_ble_eq_true rfl, Nat.le_of_ble_eq_true rfl⟩ ⟨Nat.zero_le _, Nat.zero_le _⟩ dX4_constant_2 (fun H locs I => ?_)
  refine lv_iload_n hx hb dX4_constant_5 rfl (lv_at hl 2 rfl) ?_
  refine lv_iconst (v := (4 : Int32)) hx hb dX4_constant_6 (by decide) ?_
  obtain ⟨u4, hc3, h⟩ := bt0n h
  refine r_callS0 (As := [.int x92, .int (4 : Int32)]) (rest := []) E I hl.1 k4_53 (c4_needIndex hc3) rfl rfl (Nat.le_of_ble_eq_true rfl) ⟨Nat.le_of_ble_eq_true rfl, Nat.le_of_ble_eq_true rfl⟩ ⟨Nat.zero_le _, Nat.zero_le _⟩ dX4_constant_7 (fun H locs I => ?_)
  refine lv_iload_n hx hb dX4_constant_10 rfl (lv_at hl 3 rfl) ?_
  refine lv_iconst (v := (0 : Int32)) hx hb dX4_constant_11 (by decide) ?_
  refine lv_bipush (v := (9 : Int32)) hx hb dX4_constant_12 (by decide) ?_
  obtain ⟨u6, hc5, h⟩ := bt0n h
  refine r_callS0 (As := [.int x93, .int (0 : Int32), .int (9 : Int32)]) (rest := []) E I hl.1 k4_57 (c4_needNumber hc5) rfl rfl (Nat.le_of_ble_eq_true rfl) ⟨Nat.le_of_ble_eq_true rfl, Nat.le_of_ble_eq_true rfl⟩ ⟨Nat.zero_le _, Nat.zero_le _⟩ dX4_constant_14 (fun H locs I => ?_)
  refine lv_aload_n hx hb dX4_constant_17 rfl (lv_at hl 0 rfl) ?_
  refine lv_iload_n hx hb dX4_constant_18 rfl (lv_at hl 1 rfl) ?_
  refine lv_bipush (v := (8 : Int32)) hx hb dX4_constant_19 (by decide) ?_
  refine lv_imul hx hb dX4_constant_21 ?_
  refine lv_iload_n hx hb dX4_constant_22 rfl (lv_at hl 2 rfl) ?_
  refine lv_iadd hx hb dX4_constant_23 ?_
  refine lv_iload_n hx hb dX4_constant_24 rfl (lv_at hl 3 rfl) ?_
  obtain ⟨st8, r9, hc7, h⟩ := bx2 h
  refine r_callV1 (As := [.int ((x91 * (8 : Int32)) + x92), .int x93]) (rest := []) (ws' := (cW g a st8)) (q0 := 0) E I hl.1 k4_61 (c4_change hc7) cW_k rfl rfl rfl rfl (Nat.le_of_ble_eq_true rfl) ⟨Nat.le_of_ble_eq_true rfl, Nat.le_of_ble_eq_true rfl⟩ ⟨Nat.zero_le _, Nat.zero_le _⟩ dX4_constant_25 (fun H locs I => ?_)
  cases h
  exact K _ _ _ _ I dX4_constant_28
set_option maxHeartbeats 4000000 in
set_option maxRecDepth 100000 in
theorem c4_variable {l : Launch} {D : va_G} {g : Nat → ClassId} {a : Nat → Nat} {st : CS} {x91 : Int32} {x92 : Int32} {x93 : Int32} {st' : CS} {r' : Int32} (h : f4_variable st x91 x92 x93 = some (st', .inr r')) : ct l yX4_variable cX4_variable 4 (some .int) (rmk 4 102) D g (cW g a st) (cW g a st') [.ref (a 0), .int x91, .int x92, .int x93] (some (.int r')) := by
  refine ct_of ⟨rfl, rfl⟩ (by decide) (Nat.le_of_ble_eq_true rfl) ?_
  intro p e s m args below meth c ls Q A H0 H locs E I hl K
  have E : en p m c cX4_variable 4 s args RX4 D g := E
  have hx := E.1.1
  have hb := E.1.2.1
  have hl : lv_has ls 4 [(0, .ref (a 0)), (1, .int x91), (2, .int x92), (3, .int x93)] := hl
  have K : ∀ (pc : Nat) (ls : Array Slot) (H : Heap) (locs : List Loc), wk D (cW g a st') A H0 H locs → decode cX4_variable pc = .ok (.ireturn, 1) → W p l e (rmk 4 102) s m args below meth c H locs 0 0 Q (F0 m pc ls [.int r']) := fun pc ls H locs I hd => K pc ls H locs I hd
  have h : ((bt0 st (f4_needIndex x91 (2 : Int32)) fun (u2 : Unit) => (bt0 st (f4_needIndex x92 (4 : Int32)) fun (u4 : Unit) => (bt0 st (f4_needNumber x93 (0 : Int32) (5 : Int32)) fun (u6 : Unit) => (bi2 (f4_change st (((x91 * (8 : Int32)) + (4 : Int32)) + x92) x93) fun st8 r9 => some (st8, .inr r9))))) : Option (CS × (Nat ⊕ Int32))) = some (st', .inr r') := h
  refine lv_iload_n hx hb dX4_variable_0 rfl (lv_at hl 1 rfl) ?_
  refine lv_iconst (v := (2 : Int32)) hx hb dX4_variable_1 (by decide) ?_
  obtain ⟨u2, hc1, h⟩ := bt0n h
  refine r_callS0 (As := [.int x91, .int (2 : Int32)]) (rest := []) E I hl.1 k4_53 (c4_needIndex hc1) rfl rfl (Nat.le_of_ble_eq_true rfl) ⟨Nat.le_of_ble_eq_true rfl, Nat.le_of_ble_eq_true rfl⟩ ⟨Nat.zero_le _, Nat.zero_le _⟩ dX4_variable_2 (fun H locs I => ?_)
  refine lv_iload_n hx hb dX4_variable_5 rfl (lv_at hl 2 rfl) ?_
  refine lv_iconst (v := (4 : Int32)) hx hb dX4_variable_6 (by decide) ?_
  obtain ⟨u4, hc3, h⟩ := bt0n h
  refine r_callS0 (As := [.int x92, .int (4 : Int32)]) (rest := []) E I hl.1 k4_53 (c4_needIndex hc3) rfl rfl (Nat.le_of_ble_eq_true rfl) ⟨Nat.le_of_ble_eq_true rfl, Nat.le_of_ble_eq_true rfl⟩ ⟨Nat.zero_le _, Nat.zero_le _⟩ dX4_variable_7 (fun H locs I => ?_)
  refine lv_iload_n hx hb dX4_variable_10 rfl (lv_at hl 3 rfl) ?_
  refine lv_iconst (v := (0 : Int32)) hx hb dX4_variable_11 (by decide) ?_
  refine lv_iconst (v := (5 : Int32)) hx hb dX4_variable_12 (by decide) ?_
  obtain ⟨u6, hc5, h⟩ := bt0n h
  refine r_callS0 (As := [.int x93, .int (0 : Int32), .int (5 : Int32)]) (rest := []) E I hl.1 k4_57 (c4_needNumber hc5) rfl rfl (Nat.le_of_ble_eq_true rfl) ⟨Nat.le_of_ble_eq_true rfl, Nat.le_of_ble_eq_true rfl⟩ ⟨Nat.zero_le _, Nat.zero_le _⟩ dX4_variable_13 (fun H locs I => ?_)
  refine lv_aload_n hx hb dX4_variable_16 rfl (lv_at hl 0 rfl) ?_
  refine lv_iload_n hx hb dX4_variable_17 rfl (lv_at hl 1 rfl) ?_
  refine lv_bipush (v := (8 : Int32)) hx hb dX4_variable_18 (by decide) ?_
  refine lv_imul hx hb dX4_variable_20 ?_
  refine lv_iconst (v := (4 : Int32)) hx hb dX4_variable_21 (by decide) ?_
  refine lv_iadd hx hb dX4_variable_22 ?_
  refine lv_iload_n hx hb dX4_variable_23 rfl (lv_at hl 2 rfl) ?_
  refine lv_iadd hx hb dX4_variable_24 ?_
  refine lv_iload_n hx hb dX4_variable_25 rfl (lv_at hl 3 rfl) ?_
  obtain ⟨st8, r9, hc7, h⟩ := bx2 h
  refine r_callV1 (As := [.int (((x91 * (8 : Int32)) + (4 : Int32)) + x92), .int x93]) (rest := []) (ws' := (cW g a st8)) (q0 := 0) E I hl.1 k4_61 (c4_change hc7) cW_k rfl rfl rfl rfl (Nat.le_of_ble_eq_true rfl) ⟨Nat.le_of_ble_eq_true rfl, Nat.le_of_ble_eq_true rfl⟩ ⟨Nat.zero_le _, Nat.zero_le _⟩ dX4_variable_26 (fun H locs I => ?_)
  cases h
  exact K _ _ _ _ I dX4_variable_29
set_option maxHeartbeats 4000000 in
set_option maxRecDepth 100000 in
theorem c4_draftFits {l : Launch} {D : va_G} {g : Nat → ClassId} {a : Nat → Nat} {st : CS} {x91 : Int32} {o : Int32} (h : f4_draftFits st x91 = some o) : ct l yX4_draftFits cX4_draftFits 4 (some .boolean) (rmk 0 0) D g (cW g a st) (cW g a st) [.ref (a 0), .int x91] (some (.int o)) := by
  refine ct_of ⟨rfl, rfl⟩ (by decide) (Nat.le_of_ble_eq_true rfl) ?_
  intro p e s m args below meth c ls Q A H0 H locs E I hl K
  have E : en p m c cX4_draftFits 4 s args RX4 D g := E
  have hx := E.1.1
  have hb := E.1.2.1
  have hl : lv_has ls 4 [(0, .ref (a 0)), (1, .int x91)] := hl
  have K : ∀ (pc : Nat) (ls : Array Slot) (H : Heap) (locs : List Loc), wk D (cW g a st) A H0 H locs → decode cX4_draftFits pc = .ok (.ireturn, 1) → zok o = true → W p l e (rmk 0 0) s m args below meth c H locs 0 0 Q (F0 m pc ls [.int o]) := fun pc ls H locs I hd hz => K pc ls H locs I ⟨hd, hz⟩
  have h : ((bi1 (wh (f4_draftFits_b13 st (if x91 = (2 : Int32) then (0 : Int32) else (5 : Int32))) FU (0 : Int32)) fun w19 => Sum.elim (fun w20 => some (1 : Int32)) (fun w21 => some (0 : Int32)) w19) : Option Int32) = some o := h
  refine lv_iload_n hx hb dX4_draftFits_0 rfl (lv_at hl 1 rfl) ?_
  refine lv_iconst (v := (2 : Int32)) hx hb dX4_draftFits_1 (by decide) ?_
  have J2 : ∀ (v1 : Int32) (H : Heap) (locs : List Loc), v1 = (if x91 = (2 : Int32) then (0 : Int32) else (5 : Int32)) → wk D (cW g a st) A H0 H locs → W p l e (rmk 0 0) s m args below meth c H locs 0 0 Q (F0 m 10 ls [.int v1]) := by
    intro v1 H locs hv3 I
    subst hv3
    refine lv_istore_n (lv' := [(2, .int (if x91 = (2 : Int32) then (0 : Int32) else (5 : Int32))), (0, .ref (a 0)), (1, .int x91)]) hx hb dX4_draftFits_10 rfl hl (by decide) rfl (fun ls hl => ?_)
    refine lv_iconst (v := (0 : Int32)) hx hb dX4_draftFits_11 (by decide) ?_
    refine lv_istore_n (lv' := [(3, .int (0 : Int32)), (2, .int (if x91 = (2 : Int32) then (0 : Int32) else (5 : Int32))), (0, .ref (a 0)), (1, .int x91)]) hx hb dX4_draftFits_12 rfl hl (by decide) rfl (fun ls hl => ?_)
    obtain ⟨z16, hw17, h⟩ := bx1 h
    refine wh_W (P := fun (z : Int32) => ∀ (H : Heap) (locs : List Loc) (ls : Array Slot), wk D (cW g a st) A H0 H locs → lv_has ls 4 [(0, .ref (a 0)), (2, .int (if x91 = (2 : Int32) then (0 : Int32) else (5 : Int32))), (3, .int z)] → W p l e (rmk 0 0) s m args below meth c H locs 0 0 Q (F0 m 13 ls [])) (X := Sum.elim (fun (z : Unit) => ∀ (H : Heap) (locs : List Loc) (ls : Array Slot), wk D (cW g a st) A H0 H locs → lv_has ls 4 [] → W p l e (rmk 0 0) s m args below meth c H locs 0 0 Q (F0 m 47 ls [])) (fun (z : Unit) => ∀ (H : Heap) (locs : List Loc) (ls : Array Slot), wk D (cW g a st) A H0 H locs → lv_has ls 4 [] → W p l e (rmk 0 0) s m args below meth c H locs 0 0 Q (F0 m 39 ls []))) ?_ FU _ _ hw17 ?_ _ _ _ I (lv_sub hl [2, 1, 0] rfl)
    · intro x6 o7 h hk8 H locs ls I hl
      have h : ((if (8 : Int32) ≤ x6 then some (.inr (.inl ())) else (if ib x6 8 = true then (if ((c_draft st) x6.toNatClampNeg) ≤ (if (4 : Int32) ≤ x6 then (if x91 = (2 : Int32) then (0 : Int32) else (5 : Int32)) else (9 : Int32)) then some (.inl (x6 + 1)) else some (.inr (.inr ()))) else none)) : Option ((Int32) ⊕ ((Unit) ⊕ (Unit)))) = some o7 := h
      have I : wk D (cW g a st) A H0 H locs := I
      have hl : lv_has ls 4 [(0, .ref (a 0)), (2, .int (if x91 = (2 : Int32) then (0 : Int32) else (5 : Int32))), (3, .int x6)] := hl
      refine lv_iload_n hx hb dX4_draftFits_13 rfl (lv_at hl 2 rfl) ?_
      refine lv_bipush (v := (8 : Int32)) hx hb dX4_draftFits_14 (by decide) ?_
      refine lv_icmp_ge (tgt := 47) hx hb dX4_draftFits_16 (by decide) (fun hc9 => ?_) (fun hc9 => ?_)
      · have h := ifp hc9 h
        cases h
        exact hk8 _ _ _ I (lv_sub hl [] rfl)
      · have h := ifn hc9 h
        refine lv_aload_n hx hb dX4_draftFits_19 rfl (lv_at hl 0 rfl) ?_
        refine g4_13 E I dX4_draftFits_20 ?_
        refine lv_iload_n hx hb dX4_draftFits_23 rfl (lv_at hl 2 rfl) ?_
        obtain ⟨hc10, h⟩ := gd h
        refine c_ld2 E I (f := (c_draft st)) rfl hc10 dX4_draftFits_24 ?_
        refine lv_iload_n hx hb dX4_draftFits_25 rfl (lv_at hl 2 rfl) ?_
        refine lv_iconst (v := (4 : Int32)) hx hb dX4_draftFits_26 (by decide) ?_
        have J12 : ∀ (v11 : Int32) (H : Heap) (locs : List Loc), v11 = (if (4 : Int32) ≤ x6 then (if x91 = (2 : Int32) then (0 : Int32) else (5 : Int32)) else (9 : Int32)) → wk D (cW g a st) A H0 H locs → W p l e (rmk 0 0) s m args below meth c H locs 0 0 Q (F0 m 36 ls [.int v11, .int ((c_draft st) x6.toNatClampNeg)]) := by
          intro v11 H locs hv13 I
          subst hv13
          refine lv_icmp_le (tgt := 41) hx hb dX4_draftFits_36 (by decide) (fun hc14 => ?_) (fun hc14 => ?_)
          · have h := ifp hc14 h
            refine lv_iinc (v := (x6 + 1)) (lv' := [(3, .int (x6 + 1)), (0, .ref (a 0)), (2, .int (if x91 = (2 : Int32) then (0 : Int32) else (5 : Int32)))]) hx hb dX4_draftFits_41 hl (k := 2) rfl rfl (by decide) rfl (fun ls hl => ?_)
            refine lv_goto (tgt := 13) hx hb dX4_draftFits_44 (by decide) ?_
            cases h
            exact hk8 _ _ _ I (lv_sub hl [1, 2, 0] rfl)
          · have h := ifn hc14 h
            cases h
            exact hk8 _ _ _ I (lv_sub hl [] rfl)
        refine lv_icmp_ge (tgt := 35) hx hb dX4_draftFits_27 (by decide) (fun hc15 => ?_) (fun hc15 => ?_)
        · refine lv_iload_n hx hb dX4_draftFits_35 rfl (lv_at hl 1 rfl) ?_
          exact J12 _ _ _ (by rw [if_pos hc15]) I
        · refine lv_bipush (v := (9 : Int32)) hx hb dX4_draftFits_30 (by decide) ?_
          refine lv_goto (tgt := 36) hx hb dX4_draftFits_32 (by decide) ?_
          exact J12 _ _ _ (by rw [if_neg hc15]) I
    · rcases z16 with z18 | z18
      · intro H locs ls I hl
        have h : (some (1 : Int32) : Option Int32) = some o := h
        have I : wk D (cW g a st) A H0 H locs := I
        have hl : lv_has ls 4 [] := hl
        refine lv_iconst (v := (1 : Int32)) hx hb dX4_draftFits_47 (by decide) ?_
        cases h
        exact K _ _ _ _ I dX4_draftFits_48 rfl
      · intro H locs ls I hl
        have h : (some (0 : Int32) : Option Int32) = some o := h
        have I : wk D (cW g a st) A H0 H locs := I
        have hl : lv_has ls 4 [] := hl
        refine lv_iconst (v := (0 : Int32)) hx hb dX4_draftFits_39 (by decide) ?_
        cases h
        exact K _ _ _ _ I dX4_draftFits_40 rfl
  refine lv_icmp_ne (tgt := 9) hx hb dX4_draftFits_2 (by decide) (fun hc22 => ?_) (fun hc22 => ?_)
  · refine lv_iconst (v := (5 : Int32)) hx hb dX4_draftFits_9 (by decide) ?_
    exact J2 _ _ _ (by rw [if_neg hc22]) I
  · refine lv_iconst (v := (0 : Int32)) hx hb dX4_draftFits_5 (by decide) ?_
    refine lv_goto (tgt := 10) hx hb dX4_draftFits_6 (by decide) ?_
    exact J2 _ _ _ (by rw [if_pos hc22]) I
set_option maxHeartbeats 4000000 in
set_option maxRecDepth 100000 in
theorem c4_factorsOf {l : Launch} {D : va_G} {g : Nat → ClassId} {a : Nat → Nat} {st : CS} {x91 : Int32} {o : Int32} (h : f4_factorsOf st x91 = some o) : ct l yX4_factorsOf cX4_factorsOf 4 (some .int) (rmk 0 0) D g (cW g a st) (cW g a st) [.ref (a 0), .int x91] (some (.int o)) := by
  refine ct_of ⟨rfl, rfl⟩ (by decide) (Nat.le_of_ble_eq_true rfl) ?_
  intro p e s m args below meth c ls Q A H0 H locs E I hl K
  have E : en p m c cX4_factorsOf 4 s args RX4 D g := E
  have hx := E.1.1
  have hb := E.1.2.1
  have hl : lv_has ls 4 [(0, .ref (a 0)), (1, .int x91)] := hl
  have K : ∀ (pc : Nat) (ls : Array Slot) (H : Heap) (locs : List Loc), wk D (cW g a st) A H0 H locs → decode cX4_factorsOf pc = .ok (.ireturn, 1) → W p l e (rmk 0 0) s m args below meth c H locs 0 0 Q (F0 m pc ls [.int o]) := fun pc ls H locs I hd => K pc ls H locs I hd
  have h : ((bi1 (wh (f4_factorsOf_b4 st x91) FU ((0 : Int32), (0 : Int32))) fun w14 => some w14) : Option Int32) = some o := h
  refine lv_iconst (v := (0 : Int32)) hx hb dX4_factorsOf_0 (by decide) ?_
  refine lv_istore_n (lv' := [(2, .int (0 : Int32)), (0, .ref (a 0)), (1, .int x91)]) hx hb dX4_factorsOf_1 rfl hl (by decide) rfl (fun ls hl => ?_)
  refine lv_iconst (v := (0 : Int32)) hx hb dX4_factorsOf_2 (by decide) ?_
  refine lv_istore_n (lv' := [(3, .int (0 : Int32)), (2, .int (0 : Int32)), (0, .ref (a 0)), (1, .int x91)]) hx hb dX4_factorsOf_3 rfl hl (by decide) rfl (fun ls hl => ?_)
  obtain ⟨z11, hw12, h⟩ := bx1 h
  refine wh_W (P := fun (z : Int32 × Int32) => ∀ (H : Heap) (locs : List Loc) (ls : Array Slot), wk D (cW g a st) A H0 H locs → lv_has ls 4 [(0, .ref (a 0)), (1, .int x91), (2, .int z.1), (3, .int z.2)] → W p l e (rmk 0 0) s m args below meth c H locs 0 0 Q (F0 m 4 ls [])) (X := fun (z : Int32) => ∀ (H : Heap) (locs : List Loc) (ls : Array Slot), wk D (cW g a st) A H0 H locs → lv_has ls 4 [(2, .int z)] → W p l e (rmk 0 0) s m args below meth c H locs 0 0 Q (F0 m 30 ls [])) ?_ FU _ _ hw12 ?_ _ _ _ I (lv_sub hl [2, 3, 1, 0] rfl)
  · intro z o5 h hk6 H locs ls I hl
    obtain ⟨x3, x4⟩ := z
    have h : ((if (8 : Int32) ≤ x4 then some (.inr x3) else (if ib ((x91 * (8 : Int32)) + x4) 26 = true then (lq (x3 + ((c_state st) ((x91 * (8 : Int32)) + x4).toNatClampNeg)) fun x9 => some (.inl (x9, (x4 + 1)))) else none)) : Option ((Int32 × Int32) ⊕ (Int32))) = some o5 := h
    have I : wk D (cW g a st) A H0 H locs := I
    have hl : lv_has ls 4 [(0, .ref (a 0)), (1, .int x91), (2, .int x3), (3, .int x4)] := hl
    refine lv_iload_n hx hb dX4_factorsOf_4 rfl (lv_at hl 3 rfl) ?_
    refine lv_bipush (v := (8 : Int32)) hx hb dX4_factorsOf_5 (by decide) ?_
    refine lv_icmp_ge (tgt := 30) hx hb dX4_factorsOf_7 (by decide) (fun hc7 => ?_) (fun hc7 => ?_)
    · have h := ifp hc7 h
      cases h
      exact hk6 _ _ _ I (lv_sub hl [2] rfl)
    · have h := ifn hc7 h
      refine lv_iload_n hx hb dX4_factorsOf_10 rfl (lv_at hl 2 rfl) ?_
      refine lv_aload_n hx hb dX4_factorsOf_11 rfl (lv_at hl 0 rfl) ?_
      refine g4_9 E I dX4_factorsOf_12 ?_
      refine lv_iload_n hx hb dX4_factorsOf_15 rfl (lv_at hl 1 rfl) ?_
      refine lv_bipush (v := (8 : Int32)) hx hb dX4_factorsOf_16 (by decide) ?_
      refine lv_imul hx hb dX4_factorsOf_18 ?_
      refine lv_iload_n hx hb dX4_factorsOf_19 rfl (lv_at hl 3 rfl) ?_
      refine lv_iadd hx hb dX4_factorsOf_20 ?_
      obtain ⟨hc8, h⟩ := gd h
      refine c_ld1 E I (f := (c_state st)) rfl hc8 dX4_factorsOf_21 ?_
      refine lv_iadd hx hb dX4_factorsOf_22 ?_
      obtain ⟨x9, hx10, h⟩ := lqx h
      refine lv_istore_n (x := (x3 + ((c_state st) ((x91 * (8 : Int32)) + x4).toNatClampNeg))) (lv' := [(2, .int x9), (0, .ref (a 0)), (1, .int x91), (3, .int x4)]) hx hb dX4_factorsOf_23 rfl hl (by decide) (by subst hx10; rfl) (fun ls hl => ?_)
      refine lv_iinc (v := (x4 + 1)) (lv' := [(3, .int (x4 + 1)), (2, .int x9), (0, .ref (a 0)), (1, .int x91)]) hx hb dX4_factorsOf_24 hl (k := 3) rfl rfl (by decide) rfl (fun ls hl => ?_)
      refine lv_goto (tgt := 4) hx hb dX4_factorsOf_27 (by decide) ?_
      cases h
      exact hk6 _ _ _ I (lv_sub hl [2, 3, 1, 0] rfl)
  · obtain ⟨x13, rfl⟩ : ∃ y, y = z11 := ⟨_, rfl⟩
    intro H locs ls I hl
    have h : (some x13 : Option Int32) = some o := h
    have I : wk D (cW g a st) A H0 H locs := I
    have hl : lv_has ls 4 [(2, .int x13)] := hl
    refine lv_iload_n hx hb dX4_factorsOf_30 rfl (lv_at hl 0 rfl) ?_
    cases h
    exact K _ _ _ _ I dX4_factorsOf_31
set_option maxHeartbeats 4000000 in
set_option maxRecDepth 100000 in
theorem c4_putDraft {l : Launch} {D : va_G} {g : Nat → ClassId} {a : Nat → Nat} {st : CS} {x91 : Int32} {st' : CS} {r' : Int32} (h : f4_putDraft st x91 = some (st', .inr r')) : ct l yX4_putDraft cX4_putDraft 3 (some .int) (rmk 3 79) D g (cW g a st) (cW g a st') [.ref (a 0), .int x91] (some (.int r')) := by
  refine ct_of ⟨rfl, rfl⟩ (by decide) (Nat.le_of_ble_eq_true rfl) ?_
  intro p e s m args below meth c ls Q A H0 H locs E I hl K
  have E : en p m c cX4_putDraft 3 s args RX4 D g := E
  have hx := E.1.1
  have hb := E.1.2.1
  have hl : lv_has ls 3 [(0, .ref (a 0)), (1, .int x91)] := hl
  have K : ∀ (pc : Nat) (ls : Array Slot) (H : Heap) (locs : List Loc), wk D (cW g a st') A H0 H locs → decode cX4_putDraft pc = .ok (.ireturn, 1) → W p l e (rmk 3 79) s m args below meth c H locs 0 0 Q (F0 m pc ls [.int r']) := fun pc ls H locs I hd => K pc ls H locs I hd
  have h : ((bi1 (f4_draftFits st x91) fun r2 => (if r2 = 0 then some (st, .inl 2) else (bi1 (f4_keepState st) fun st5 => (bi1 (wh (f4_putDraft_b25 x91) FU (st5, (0 : Int32))) fun w19 => (bi1 (f4_factorsOf w19 x91) fun r18 => some (w19, .inr r18)))))) : Option (CS × (Nat ⊕ Int32))) = some (st', .inr r') := h
  refine lv_aload_n hx hb dX4_putDraft_0 rfl (lv_at hl 0 rfl) ?_
  refine lv_iload_n hx hb dX4_putDraft_1 rfl (lv_at hl 1 rfl) ?_
  obtain ⟨r2, hc1, h⟩ := bx1 h
  refine r_callV1 (As := [.int x91]) (rest := []) (ws' := (cW g a st)) (q0 := 0) E I hl.1 k4_274 (c4_draftFits hc1) cW_k rfl rfl rfl rfl (Nat.le_of_ble_eq_true rfl) ⟨Nat.le_of_ble_eq_true rfl, Nat.le_of_ble_eq_true rfl⟩ ⟨Nat.zero_le _, Nat.zero_le _⟩ dX4_putDraft_2 (fun H locs I => ?_)
  refine lv_if_ne (tgt := 19) hx hb dX4_putDraft_5 (by decide) (fun hc3 => ?_) (fun hc3 => ?_)
  · have h := ifn hc3 h
    refine lv_aload_n hx hb dX4_putDraft_19 rfl (lv_at hl 0 rfl) ?_
    obtain ⟨st5, hc4, h⟩ := bx1 h
    refine r_callV0 (As := []) (rest := []) (ws' := (cW g a st5)) (q0 := 0) E I hl.1 k4_87 (c4_keepState hc4) cW_k rfl rfl rfl rfl (Nat.le_of_ble_eq_true rfl) ⟨Nat.le_of_ble_eq_true rfl, Nat.le_of_ble_eq_true rfl⟩ ⟨Nat.zero_le _, Nat.zero_le _⟩ dX4_putDraft_20 (fun H locs I => ?_)
    refine lv_iconst (v := (0 : Int32)) hx hb dX4_putDraft_23 (by decide) ?_
    refine lv_istore_n (lv' := [(2, .int (0 : Int32)), (0, .ref (a 0)), (1, .int x91)]) hx hb dX4_putDraft_24 rfl hl (by decide) rfl (fun ls hl => ?_)
    obtain ⟨z14, hw15, h⟩ := bx1 h
    refine wh_W (P := fun (z : CS × Int32) => ∀ (H : Heap) (locs : List Loc) (ls : Array Slot), wk D (cW g a z.1) A H0 H locs → lv_has ls 3 [(0, .ref (a 0)), (1, .int x91), (2, .int z.2)] → W p l e (rmk 3 79) s m args below meth c H locs 0 0 Q (F0 m 25 ls [])) (X := fun (z : CS) => ∀ (H : Heap) (locs : List Loc) (ls : Array Slot), wk D (cW g a z) A H0 H locs → lv_has ls 3 [(0, .ref (a 0)), (1, .int x91)] → W p l e (rmk 3 79) s m args below meth c H locs 0 0 Q (F0 m 54 ls [])) ?_ FU _ _ hw15 ?_ _ _ _ I (lv_sub hl [1, 2, 0] rfl)
    · intro z o9 h hk10 H locs ls I hl
      obtain ⟨st6, x8⟩ := z
      have h : ((if (8 : Int32) ≤ x8 then some (.inr st6) else (if ib x8 8 = true then (if ib ((x91 * (8 : Int32)) + x8) 26 = true then some (.inl ((c_state_s st6 (upd (c_state st6) ((x91 * (8 : Int32)) + x8).toNatClampNeg ((c_draft st6) x8.toNatClampNeg))), (x8 + 1))) else none) else none)) : Option ((CS × Int32) ⊕ (CS))) = some o9 := h
      have I : wk D (cW g a st6) A H0 H locs := I
      have hl : lv_has ls 3 [(0, .ref (a 0)), (1, .int x91), (2, .int x8)] := hl
      refine lv_iload_n hx hb dX4_putDraft_25 rfl (lv_at hl 2 rfl) ?_
      refine lv_bipush (v := (8 : Int32)) hx hb dX4_putDraft_26 (by decide) ?_
      refine lv_icmp_ge (tgt := 54) hx hb dX4_putDraft_28 (by decide) (fun hc11 => ?_) (fun hc11 => ?_)
      · have h := ifp hc11 h
        cases h
        exact hk10 _ _ _ I (lv_sub hl [0, 1] rfl)
      · have h := ifn hc11 h
        refine lv_aload_n hx hb dX4_putDraft_31 rfl (lv_at hl 0 rfl) ?_
        refine g4_9 E I dX4_putDraft_32 ?_
        refine lv_iload_n hx hb dX4_putDraft_35 rfl (lv_at hl 1 rfl) ?_
        refine lv_bipush (v := (8 : Int32)) hx hb dX4_putDraft_36 (by decide) ?_
        refine lv_imul hx hb dX4_putDraft_38 ?_
        refine lv_iload_n hx hb dX4_putDraft_39 rfl (lv_at hl 2 rfl) ?_
        refine lv_iadd hx hb dX4_putDraft_40 ?_
        refine lv_aload_n hx hb dX4_putDraft_41 rfl (lv_at hl 0 rfl) ?_
        refine g4_13 E I dX4_putDraft_42 ?_
        refine lv_iload_n hx hb dX4_putDraft_45 rfl (lv_at hl 2 rfl) ?_
        obtain ⟨hc12, h⟩ := gd h
        refine c_ld2 E I (f := (c_draft st6)) rfl hc12 dX4_putDraft_46 ?_
        obtain ⟨hc13, h⟩ := gd h
        refine c_st1 E I (f := (c_state st6)) rfl hc13 dX4_putDraft_47 (fun H locs I => ?_)
        refine lv_iinc (v := (x8 + 1)) (lv' := [(2, .int (x8 + 1)), (0, .ref (a 0)), (1, .int x91)]) hx hb dX4_putDraft_48 hl (k := 2) rfl rfl (by decide) rfl (fun ls hl => ?_)
        refine lv_goto (tgt := 25) hx hb dX4_putDraft_51 (by decide) ?_
        cases h
        exact hk10 _ _ _ I (lv_sub hl [1, 2, 0] rfl)
    · obtain ⟨st16, rfl⟩ : ∃ y, y = z14 := ⟨_, rfl⟩
      intro H locs ls I hl
      have h : ((bi1 (f4_factorsOf st16 x91) fun r18 => some (st16, .inr r18)) : Option (CS × (Nat ⊕ Int32))) = some (st', .inr r') := h
      have I : wk D (cW g a st16) A H0 H locs := I
      have hl : lv_has ls 3 [(0, .ref (a 0)), (1, .int x91)] := hl
      refine lv_aload_n hx hb dX4_putDraft_54 rfl (lv_at hl 0 rfl) ?_
      refine lv_iload_n hx hb dX4_putDraft_55 rfl (lv_at hl 1 rfl) ?_
      obtain ⟨r18, hc17, h⟩ := bx1 h
      refine r_callV1 (As := [.int x91]) (rest := []) (ws' := (cW g a st16)) (q0 := 0) E I hl.1 k4_174 (c4_factorsOf hc17) cW_k rfl rfl rfl rfl (Nat.le_of_ble_eq_true rfl) ⟨Nat.le_of_ble_eq_true rfl, Nat.le_of_ble_eq_true rfl⟩ ⟨Nat.zero_le _, Nat.zero_le _⟩ dX4_putDraft_56 (fun H locs I => ?_)
      cases h
      exact K _ _ _ _ I dX4_putDraft_59
  · have h := ifp hc3 h
    cases h
set_option maxHeartbeats 4000000 in
set_option maxRecDepth 100000 in
theorem c4_multiply {l : Launch} {D : va_G} {g : Nat → ClassId} {a : Nat → Nat} {st : CS} {x91 : Int32} {x92 : Int32} {st' : CS} {r' : Int32} (h : f4_multiply st x91 x92 = some (st', .inr r')) : ct l yX4_multiply cX4_multiply 4 (some .int) (rmk 4 101) D g (cW g a st) (cW g a st') [.ref (a 0), .int x91, .int x92] (some (.int r')) := by
  refine ct_of ⟨rfl, rfl⟩ (by decide) (Nat.le_of_ble_eq_true rfl) ?_
  intro p e s m args below meth c ls Q A H0 H locs E I hl K
  have E : en p m c cX4_multiply 4 s args RX4 D g := E
  have hx := E.1.1
  have hb := E.1.2.1
  have hl : lv_has ls 4 [(0, .ref (a 0)), (1, .int x91), (2, .int x92)] := hl
  have K : ∀ (pc : Nat) (ls : Array Slot) (H : Heap) (locs : List Loc), wk D (cW g a st') A H0 H locs → decode cX4_multiply pc = .ok (.ireturn, 1) → W p l e (rmk 4 101) s m args below meth c H locs 0 0 Q (F0 m pc ls [.int r']) := fun pc ls H locs I hd => K pc ls H locs I hd
  have h : ((bt0 st (f4_needIndex x91 (3 : Int32)) fun (u2 : Unit) => (bt0 st (f4_needIndex x92 (3 : Int32)) fun (u4 : Unit) => (bi1 (wh (f4_multiply_b12 x91 x92) FU (st, (0 : Int32))) fun w21 => (bt2 (f4_putDraft w21 x91) fun st19 r20 => some (st19, .inr r20))))) : Option (CS × (Nat ⊕ Int32))) = some (st', .inr r') := h
  refine lv_iload_n hx hb dX4_multiply_0 rfl (lv_at hl 1 rfl) ?_
  refine lv_iconst (v := (3 : Int32)) hx hb dX4_multiply_1 (by decide) ?_
  obtain ⟨u2, hc1, h⟩ := bt0n h
  refine r_callS0 (As := [.int x91, .int (3 : Int32)]) (rest := []) E I hl.1 k4_53 (c4_needIndex hc1) rfl rfl (Nat.le_of_ble_eq_true rfl) ⟨Nat.le_of_ble_eq_true rfl, Nat.le_of_ble_eq_true rfl⟩ ⟨Nat.zero_le _, Nat.zero_le _⟩ dX4_multiply_2 (fun H locs I => ?_)
  refine lv_iload_n hx hb dX4_multiply_5 rfl (lv_at hl 2 rfl) ?_
  refine lv_iconst (v := (3 : Int32)) hx hb dX4_multiply_6 (by decide) ?_
  obtain ⟨u4, hc3, h⟩ := bt0n h
  refine r_callS0 (As := [.int x92, .int (3 : Int32)]) (rest := []) E I hl.1 k4_53 (c4_needIndex hc3) rfl rfl (Nat.le_of_ble_eq_true rfl) ⟨Nat.le_of_ble_eq_true rfl, Nat.le_of_ble_eq_true rfl⟩ ⟨Nat.zero_le _, Nat.zero_le _⟩ dX4_multiply_7 (fun H locs I => ?_)
  refine lv_iconst (v := (0 : Int32)) hx hb dX4_multiply_10 (by decide) ?_
  refine lv_istore_n (lv' := [(3, .int (0 : Int32)), (0, .ref (a 0)), (1, .int x91), (2, .int x92)]) hx hb dX4_multiply_11 rfl hl (by decide) rfl (fun ls hl => ?_)
  obtain ⟨z15, hw16, h⟩ := bx1 h
  refine wh_W (P := fun (z : CS × Int32) => ∀ (H : Heap) (locs : List Loc) (ls : Array Slot), wk D (cW g a z.1) A H0 H locs → lv_has ls 4 [(0, .ref (a 0)), (1, .int x91), (2, .int x92), (3, .int z.2)] → W p l e (rmk 4 101) s m args below meth c H locs 0 0 Q (F0 m 12 ls [])) (X := fun (z : CS) => ∀ (H : Heap) (locs : List Loc) (ls : Array Slot), wk D (cW g a z) A H0 H locs → lv_has ls 4 [(0, .ref (a 0)), (1, .int x91)] → W p l e (rmk 4 101) s m args below meth c H locs 0 0 Q (F0 m 53 ls [])) ?_ FU _ _ hw16 ?_ _ _ _ I (lv_sub hl [1, 2, 3, 0] rfl)
  · intro z o9 h hk10 H locs ls I hl
    obtain ⟨st5, x8⟩ := z
    have h : ((if (8 : Int32) ≤ x8 then some (.inr st5) else (if ib ((x91 * (8 : Int32)) + x8) 26 = true then (if ib ((x92 * (8 : Int32)) + x8) 26 = true then (if ib x8 8 = true then some (.inl ((c_draft_s st5 (upd (c_draft st5) x8.toNatClampNeg (((c_state st5) ((x91 * (8 : Int32)) + x8).toNatClampNeg) + ((c_state st5) ((x92 * (8 : Int32)) + x8).toNatClampNeg)))), (x8 + 1))) else none) else none) else none)) : Option ((CS × Int32) ⊕ (CS))) = some o9 := h
    have I : wk D (cW g a st5) A H0 H locs := I
    have hl : lv_has ls 4 [(0, .ref (a 0)), (1, .int x91), (2, .int x92), (3, .int x8)] := hl
    refine lv_iload_n hx hb dX4_multiply_12 rfl (lv_at hl 3 rfl) ?_
    refine lv_bipush (v := (8 : Int32)) hx hb dX4_multiply_13 (by decide) ?_
    refine lv_icmp_ge (tgt := 53) hx hb dX4_multiply_15 (by decide) (fun hc11 => ?_) (fun hc11 => ?_)
    · have h := ifp hc11 h
      cases h
      exact hk10 _ _ _ I (lv_sub hl [0, 1] rfl)
    · have h := ifn hc11 h
      refine lv_aload_n hx hb dX4_multiply_18 rfl (lv_at hl 0 rfl) ?_
      refine g4_13 E I dX4_multiply_19 ?_
      refine lv_iload_n hx hb dX4_multiply_22 rfl (lv_at hl 3 rfl) ?_
      refine lv_aload_n hx hb dX4_multiply_23 rfl (lv_at hl 0 rfl) ?_
      refine g4_9 E I dX4_multiply_24 ?_
      refine lv_iload_n hx hb dX4_multiply_27 rfl (lv_at hl 1 rfl) ?_
      refine lv_bipush (v := (8 : Int32)) hx hb dX4_multiply_28 (by decide) ?_
      refine lv_imul hx hb dX4_multiply_30 ?_
      refine lv_iload_n hx hb dX4_multiply_31 rfl (lv_at hl 3 rfl) ?_
      refine lv_iadd hx hb dX4_multiply_32 ?_
      obtain ⟨hc12, h⟩ := gd h
      refine c_ld1 E I (f := (c_state st5)) rfl hc12 dX4_multiply_33 ?_
      refine lv_aload_n hx hb dX4_multiply_34 rfl (lv_at hl 0 rfl) ?_
      refine g4_9 E I dX4_multiply_35 ?_
      refine lv_iload_n hx hb dX4_multiply_38 rfl (lv_at hl 2 rfl) ?_
      refine lv_bipush (v := (8 : Int32)) hx hb dX4_multiply_39 (by decide) ?_
      refine lv_imul hx hb dX4_multiply_41 ?_
      refine lv_iload_n hx hb dX4_multiply_42 rfl (lv_at hl 3 rfl) ?_
      refine lv_iadd hx hb dX4_multiply_43 ?_
      obtain ⟨hc13, h⟩ := gd h
      refine c_ld1 E I (f := (c_state st5)) rfl hc13 dX4_multiply_44 ?_
      refine lv_iadd hx hb dX4_multiply_45 ?_
      obtain ⟨hc14, h⟩ := gd h
      refine c_st2 E I (f := (c_draft st5)) rfl hc14 dX4_multiply_46 (fun H locs I => ?_)
      refine lv_iinc (v := (x8 + 1)) (lv' := [(3, .int (x8 + 1)), (0, .ref (a 0)), (1, .int x91), (2, .int x92)]) hx hb dX4_multiply_47 hl (k := 3) rfl rfl (by decide) rfl (fun ls hl => ?_)
      refine lv_goto (tgt := 12) hx hb dX4_multiply_50 (by decide) ?_
      cases h
      exact hk10 _ _ _ I (lv_sub hl [1, 2, 3, 0] rfl)
  · obtain ⟨st17, rfl⟩ : ∃ y, y = z15 := ⟨_, rfl⟩
    intro H locs ls I hl
    have h : ((bt2 (f4_putDraft st17 x91) fun st19 r20 => some (st19, .inr r20)) : Option (CS × (Nat ⊕ Int32))) = some (st', .inr r') := h
    have I : wk D (cW g a st17) A H0 H locs := I
    have hl : lv_has ls 4 [(0, .ref (a 0)), (1, .int x91)] := hl
    refine lv_aload_n hx hb dX4_multiply_53 rfl (lv_at hl 0 rfl) ?_
    refine lv_iload_n hx hb dX4_multiply_54 rfl (lv_at hl 1 rfl) ?_
    obtain ⟨st19, r20, hc18, h⟩ := bt2n h
    refine r_callV1 (As := [.int x91]) (rest := []) (ws' := (cW g a st19)) (q0 := 0) E I hl.1 k4_65 (c4_putDraft hc18) cW_k rfl rfl rfl rfl (Nat.le_of_ble_eq_true rfl) ⟨Nat.le_of_ble_eq_true rfl, Nat.le_of_ble_eq_true rfl⟩ ⟨Nat.zero_le _, Nat.zero_le _⟩ dX4_multiply_55 (fun H locs I => ?_)
    cases h
    exact K _ _ _ _ I dX4_multiply_58
set_option maxHeartbeats 4000000 in
set_option maxRecDepth 100000 in
theorem c4_cancel {l : Launch} {D : va_G} {g : Nat → ClassId} {a : Nat → Nat} {st : CS} {x91 : Int32} {x92 : Int32} {st' : CS} {r' : Int32} (h : f4_cancel st x91 x92 = some (st', .inr r')) : ct l yX4_cancel cX4_cancel 8 (some .int) (rmk 3 79) D g (cW g a st) (cW g a st') [.ref (a 0), .int x91, .int x92] (some (.int r')) := by
  refine ct_of ⟨rfl, rfl⟩ (by decide) (Nat.le_of_ble_eq_true rfl) ?_
  intro p e s m args below meth c ls Q A H0 H locs E I hl K
  have E : en p m c cX4_cancel 8 s args RX4 D g := E
  have hx := E.1.1
  have hb := E.1.2.1
  have hl : lv_has ls 8 [(0, .ref (a 0)), (1, .int x91), (2, .int x92)] := hl
  have K : ∀ (pc : Nat) (ls : Array Slot) (H : Heap) (locs : List Loc), wk D (cW g a st') A H0 H locs → decode cX4_cancel pc = .ok (.ireturn, 1) → W p l e (rmk 3 79) s m args below meth c H locs 0 0 Q (F0 m pc ls [.int r']) := fun pc ls H locs I hd => K pc ls H locs I hd
  have h : ((bt0 st (f4_needIndex x91 (3 : Int32)) fun (u2 : Unit) => (bt0 st (f4_needIndex x92 (3 : Int32)) fun (u4 : Unit) => (bi1 (f4_keepState st) fun st6 => (bi1 (wh (f4_cancel_b19 x91 x92) FU (st6, (0 : Int32), (0 : Int32))) fun w25 => some (w25.1, .inr w25.2))))) : Option (CS × (Nat ⊕ Int32))) = some (st', .inr r') := h
  refine lv_iload_n hx hb dX4_cancel_0 rfl (lv_at hl 1 rfl) ?_
  refine lv_iconst (v := (3 : Int32)) hx hb dX4_cancel_1 (by decide) ?_
  obtain ⟨u2, hc1, h⟩ := bt0n h
  refine r_callS0 (As := [.int x91, .int (3 : Int32)]) (rest := []) E I hl.1 k4_53 (c4_needIndex hc1) rfl rfl (Nat.le_of_ble_eq_true rfl) ⟨Nat.le_of_ble_eq_true rfl, Nat.le_of_ble_eq_true rfl⟩ ⟨Nat.zero_le _, Nat.zero_le _⟩ dX4_cancel_2 (fun H locs I => ?_)
  refine lv_iload_n hx hb dX4_cancel_5 rfl (lv_at hl 2 rfl) ?_
  refine lv_iconst (v := (3 : Int32)) hx hb dX4_cancel_6 (by decide) ?_
  obtain ⟨u4, hc3, h⟩ := bt0n h
  refine r_callS0 (As := [.int x92, .int (3 : Int32)]) (rest := []) E I hl.1 k4_53 (c4_needIndex hc3) rfl rfl (Nat.le_of_ble_eq_true rfl) ⟨Nat.le_of_ble_eq_true rfl, Nat.le_of_ble_eq_true rfl⟩ ⟨Nat.zero_le _, Nat.zero_le _⟩ dX4_cancel_7 (fun H locs I => ?_)
  refine lv_aload_n hx hb dX4_cancel_10 rfl (lv_at hl 0 rfl) ?_
  obtain ⟨st6, hc5, h⟩ := bx1 h
  refine r_callV0 (As := []) (rest := []) (ws' := (cW g a st6)) (q0 := 0) E I hl.1 k4_87 (c4_keepState hc5) cW_k rfl rfl rfl rfl (Nat.le_of_ble_eq_true rfl) ⟨Nat.le_of_ble_eq_true rfl, Nat.le_of_ble_eq_true rfl⟩ ⟨Nat.zero_le _, Nat.zero_le _⟩ dX4_cancel_11 (fun H locs I => ?_)
  refine lv_iconst (v := (0 : Int32)) hx hb dX4_cancel_14 (by decide) ?_
  refine lv_istore_n (lv' := [(3, .int (0 : Int32)), (0, .ref (a 0)), (1, .int x91), (2, .int x92)]) hx hb dX4_cancel_15 rfl hl (by decide) rfl (fun ls hl => ?_)
  refine lv_iconst (v := (0 : Int32)) hx hb dX4_cancel_16 (by decide) ?_
  refine lv_istore (lv' := [(4, .int (0 : Int32)), (3, .int (0 : Int32)), (0, .ref (a 0)), (1, .int x91), (2, .int x92)]) hx hb dX4_cancel_17 hl (by decide) rfl (fun ls hl => ?_)
  obtain ⟨z21, hw22, h⟩ := bx1 h
  refine wh_W (P := fun (z : CS × Int32 × Int32) => ∀ (H : Heap) (locs : List Loc) (ls : Array Slot), wk D (cW g a z.1) A H0 H locs → lv_has ls 8 [(0, .ref (a 0)), (1, .int x91), (2, .int x92), (3, .int z.2.1), (4, .int z.2.2)] → W p l e (rmk 3 79) s m args below meth c H locs 0 0 Q (F0 m 19 ls [])) (X := fun (z : CS × Int32) => ∀ (H : Heap) (locs : List Loc) (ls : Array Slot), wk D (cW g a z.1) A H0 H locs → lv_has ls 8 [(3, .int z.2)] → W p l e (rmk 3 79) s m args below meth c H locs 0 0 Q (F0 m 108 ls [])) ?_ FU _ _ hw22 ?_ _ _ _ I (lv_sub hl [2, 3, 4, 1, 0] rfl)
  · intro z o12 h hk13 H locs ls I hl
    obtain ⟨st7, x10, x11⟩ := z
    have h : ((if (8 : Int32) ≤ x11 then some (.inr (st7, x10)) else (if ib ((x91 * (8 : Int32)) + x11) 26 = true then (if ib ((x92 * (8 : Int32)) + x11) 26 = true then (lq (if ((c_state st7) ((x92 * (8 : Int32)) + x11).toNatClampNeg) < ((c_state st7) ((x91 * (8 : Int32)) + x11).toNatClampNeg) then ((c_state st7) ((x92 * (8 : Int32)) + x11).toNatClampNeg) else ((c_state st7) ((x91 * (8 : Int32)) + x11).toNatClampNeg)) fun x17 => (if ib ((x91 * (8 : Int32)) + x11) 26 = true then (if ib ((x92 * (8 : Int32)) + x11) 26 = true then some (.inl ((c_state_s (c_state_s st7 (upd (c_state st7) ((x91 * (8 : Int32)) + x11).toNatClampNeg (((c_state st7) ((x91 * (8 : Int32)) + x11).toNatClampNeg) - x17))) (upd (upd (c_state st7) ((x91 * (8 : Int32)) + x11).toNatClampNeg (((c_state st7) ((x91 * (8 : Int32)) + x11).toNatClampNeg) - x17)) ((x92 * (8 : Int32)) + x11).toNatClampNeg (((c_state st7) ((x92 * (8 : Int32)) + x11).toNatClampNeg) - x17))), (x10 + x17), (x11 + 1))) else none) else none)) else none) else none)) : Option ((CS × Int32 × Int32) ⊕ (CS × Int32))) = some o12 := h
    have I : wk D (cW g a st7) A H0 H locs := I
    have hl : lv_has ls 8 [(0, .ref (a 0)), (1, .int x91), (2, .int x92), (3, .int x10), (4, .int x11)] := hl
    refine lv_iload hx hb dX4_cancel_19 (lv_at hl 4 rfl) ?_
    refine lv_bipush (v := (8 : Int32)) hx hb dX4_cancel_21 (by decide) ?_
    refine lv_icmp_ge (tgt := 108) hx hb dX4_cancel_23 (by decide) (fun hc14 => ?_) (fun hc14 => ?_)
    · have h := ifp hc14 h
      cases h
      exact hk13 _ _ _ I (lv_sub hl [3] rfl)
    · have h := ifn hc14 h
      refine lv_aload_n hx hb dX4_cancel_26 rfl (lv_at hl 0 rfl) ?_
      refine g4_9 E I dX4_cancel_27 ?_
      refine lv_iload_n hx hb dX4_cancel_30 rfl (lv_at hl 1 rfl) ?_
      refine lv_bipush (v := (8 : Int32)) hx hb dX4_cancel_31 (by decide) ?_
      refine lv_imul hx hb dX4_cancel_33 ?_
      refine lv_iload hx hb dX4_cancel_34 (lv_at hl 4 rfl) ?_
      refine lv_iadd hx hb dX4_cancel_36 ?_
      obtain ⟨hc15, h⟩ := gd h
      refine c_ld1 E I (f := (c_state st7)) rfl hc15 dX4_cancel_37 ?_
      refine lv_istore (lv' := [(5, .int ((c_state st7) ((x91 * (8 : Int32)) + x11).toNatClampNeg)), (0, .ref (a 0)), (1, .int x91), (2, .int x92), (3, .int x10), (4, .int x11)]) hx hb dX4_cancel_38 hl (by decide) rfl (fun ls hl => ?_)
      refine lv_aload_n hx hb dX4_cancel_40 rfl (lv_at hl 1 rfl) ?_
      refine g4_9 E I dX4_cancel_41 ?_
      refine lv_iload_n hx hb dX4_cancel_44 rfl (lv_at hl 3 rfl) ?_
      refine lv_bipush (v := (8 : Int32)) hx hb dX4_cancel_45 (by decide) ?_
      refine lv_imul hx hb dX4_cancel_47 ?_
      refine lv_iload hx hb dX4_cancel_48 (lv_at hl 5 rfl) ?_
      refine lv_iadd hx hb dX4_cancel_50 ?_
      obtain ⟨hc16, h⟩ := gd h
      refine c_ld1 E I (f := (c_state st7)) rfl hc16 dX4_cancel_51 ?_
      refine lv_istore (lv' := [(6, .int ((c_state st7) ((x92 * (8 : Int32)) + x11).toNatClampNeg)), (5, .int ((c_state st7) ((x91 * (8 : Int32)) + x11).toNatClampNeg)), (0, .ref (a 0)), (1, .int x91), (2, .int x92), (3, .int x10), (4, .int x11)]) hx hb dX4_cancel_52 hl (by decide) rfl (fun ls hl => ?_)
      refine lv_iload hx hb dX4_cancel_54 (lv_at hl 1 rfl) ?_
      refine lv_iload hx hb dX4_cancel_56 (lv_at hl 0 rfl) ?_
      refine r_mmin E hl.1 kx4_90 (Nat.le_of_ble_eq_true rfl) (Nat.le_of_ble_eq_true rfl) dX4_cancel_58 ?_
      obtain ⟨x17, hx18, h⟩ := lqx h
      refine lv_istore (x := (if ((c_state st7) ((x92 * (8 : Int32)) + x11).toNatClampNeg) < ((c_state st7) ((x91 * (8 : Int32)) + x11).toNatClampNeg) then ((c_state st7) ((x92 * (8 : Int32)) + x11).toNatClampNeg) else ((c_state st7) ((x91 * (8 : Int32)) + x11).toNatClampNeg))) (lv' := [(7, .int x17), (6, .int ((c_state st7) ((x92 * (8 : Int32)) + x11).toNatClampNeg)), (5, .int ((c_state st7) ((x91 * (8 : Int32)) + x11).toNatClampNeg)), (0, .ref (a 0)), (1, .int x91), (2, .int x92), (3, .int x10), (4, .int x11)]) hx hb dX4_cancel_61 hl (by decide) (by subst hx18; rfl) (fun ls hl => ?_)
      refine lv_aload_n hx hb dX4_cancel_63 rfl (lv_at hl 3 rfl) ?_
      refine g4_9 E I dX4_cancel_64 ?_
      refine lv_iload_n hx hb dX4_cancel_67 rfl (lv_at hl 4 rfl) ?_
      refine lv_bipush (v := (8 : Int32)) hx hb dX4_cancel_68 (by decide) ?_
      refine lv_imul hx hb dX4_cancel_70 ?_
      refine lv_iload hx hb dX4_cancel_71 (lv_at hl 7 rfl) ?_
      refine lv_iadd hx hb dX4_cancel_73 ?_
      refine lv_iload hx hb dX4_cancel_74 (lv_at hl 2 rfl) ?_
      refine lv_iload hx hb dX4_cancel_76 (lv_at hl 0 rfl) ?_
      refine lv_isub hx hb dX4_cancel_78 ?_
      obtain ⟨hc19, h⟩ := gd h
      refine c_st1 E I (f := (c_state st7)) rfl hc19 dX4_cancel_79 (fun H locs I => ?_)
      refine lv_aload_n hx hb dX4_cancel_80 rfl (lv_at hl 3 rfl) ?_
      refine g4_9 E I dX4_cancel_81 ?_
      refine lv_iload_n hx hb dX4_cancel_84 rfl (lv_at hl 5 rfl) ?_
      refine lv_bipush (v := (8 : Int32)) hx hb dX4_cancel_85 (by decide) ?_
      refine lv_imul hx hb dX4_cancel_87 ?_
      refine lv_iload hx hb dX4_cancel_88 (lv_at hl 7 rfl) ?_
      refine lv_iadd hx hb dX4_cancel_90 ?_
      refine lv_iload hx hb dX4_cancel_91 (lv_at hl 1 rfl) ?_
      refine lv_iload hx hb dX4_cancel_93 (lv_at hl 0 rfl) ?_
      refine lv_isub hx hb dX4_cancel_95 ?_
      obtain ⟨hc20, h⟩ := gd h
      refine c_st1 E I (f := (upd (c_state st7) ((x91 * (8 : Int32)) + x11).toNatClampNeg (((c_state st7) ((x91 * (8 : Int32)) + x11).toNatClampNeg) - x17))) rfl hc20 dX4_cancel_96 (fun H locs I => ?_)
      refine lv_iload_n hx hb dX4_cancel_97 rfl (lv_at hl 6 rfl) ?_
      refine lv_iload hx hb dX4_cancel_98 (lv_at hl 0 rfl) ?_
      refine lv_iadd hx hb dX4_cancel_100 ?_
      refine lv_istore_n (lv' := [(3, .int (x10 + x17)), (7, .int x17), (6, .int ((c_state st7) ((x92 * (8 : Int32)) + x11).toNatClampNeg)), (5, .int ((c_state st7) ((x91 * (8 : Int32)) + x11).toNatClampNeg)), (0, .ref (a 0)), (1, .int x91), (2, .int x92), (4, .int x11)]) hx hb dX4_cancel_101 rfl hl (by decide) rfl (fun ls hl => ?_)
      refine lv_iinc (v := (x11 + 1)) (lv' := [(4, .int (x11 + 1)), (3, .int (x10 + x17)), (7, .int x17), (6, .int ((c_state st7) ((x92 * (8 : Int32)) + x11).toNatClampNeg)), (5, .int ((c_state st7) ((x91 * (8 : Int32)) + x11).toNatClampNeg)), (0, .ref (a 0)), (1, .int x91), (2, .int x92)]) hx hb dX4_cancel_102 hl (k := 7) rfl rfl (by decide) rfl (fun ls hl => ?_)
      refine lv_goto (tgt := 19) hx hb dX4_cancel_105 (by decide) ?_
      cases h
      exact hk13 _ _ _ I (lv_sub hl [5, 6, 7, 1, 0] rfl)
  · obtain ⟨st23, x24⟩ := z21
    intro H locs ls I hl
    have h : (some (st23, .inr x24) : Option (CS × (Nat ⊕ Int32))) = some (st', .inr r') := h
    have I : wk D (cW g a st23) A H0 H locs := I
    have hl : lv_has ls 8 [(3, .int x24)] := hl
    refine lv_iload_n hx hb dX4_cancel_108 rfl (lv_at hl 0 rfl) ?_
    cases h
    exact K _ _ _ _ I dX4_cancel_109
set_option maxHeartbeats 4000000 in
set_option maxRecDepth 100000 in
theorem c4_set {l : Launch} {D : va_G} {g : Nat → ClassId} {a : Nat → Nat} {st : CS} {x91 : Int32} {x92 : Int32} {st' : CS} {r' : Int32} (h : f4_set st x91 x92 = some (st', .inr r')) : ct l yX4_set cX4_set 3 (some .int) (rmk 4 102) D g (cW g a st) (cW g a st') [.ref (a 0), .int x91, .int x92] (some (.int r')) := by
  refine ct_of ⟨rfl, rfl⟩ (by decide) (Nat.le_of_ble_eq_true rfl) ?_
  intro p e s m args below meth c ls Q A H0 H locs E I hl K
  have E : en p m c cX4_set 3 s args RX4 D g := E
  have hx := E.1.1
  have hb := E.1.2.1
  have hl : lv_has ls 3 [(0, .ref (a 0)), (1, .int x91), (2, .int x92)] := hl
  have K : ∀ (pc : Nat) (ls : Array Slot) (H : Heap) (locs : List Loc), wk D (cW g a st') A H0 H locs → decode cX4_set pc = .ok (.ireturn, 1) → W p l e (rmk 4 102) s m args below meth c H locs 0 0 Q (F0 m pc ls [.int r']) := fun pc ls H locs I hd => K pc ls H locs I hd
  have h : ((bt0 st (f4_needIndex x91 (2 : Int32)) fun (u2 : Unit) => (bt0 st (f4_needNumber x92 (0 : Int32) (if x91 = 0 then (1 : Int32) else (9 : Int32))) fun (u7 : Unit) => (bi2 (f4_change st ((24 : Int32) + x91) x92) fun st9 r10 => some (st9, .inr r10)))) : Option (CS × (Nat ⊕ Int32))) = some (st', .inr r') := h
  refine lv_iload_n hx hb dX4_set_0 rfl (lv_at hl 1 rfl) ?_
  refine lv_iconst (v := (2 : Int32)) hx hb dX4_set_1 (by decide) ?_
  obtain ⟨u2, hc1, h⟩ := bt0n h
  refine r_callS0 (As := [.int x91, .int (2 : Int32)]) (rest := []) E I hl.1 k4_53 (c4_needIndex hc1) rfl rfl (Nat.le_of_ble_eq_true rfl) ⟨Nat.le_of_ble_eq_true rfl, Nat.le_of_ble_eq_true rfl⟩ ⟨Nat.zero_le _, Nat.zero_le _⟩ dX4_set_2 (fun H locs I => ?_)
  refine lv_iload_n hx hb dX4_set_5 rfl (lv_at hl 2 rfl) ?_
  refine lv_iconst (v := (0 : Int32)) hx hb dX4_set_6 (by decide) ?_
  refine lv_iload_n hx hb dX4_set_7 rfl (lv_at hl 1 rfl) ?_
  have J4 : ∀ (v3 : Int32) (H : Heap) (locs : List Loc), v3 = (if x91 = 0 then (1 : Int32) else (9 : Int32)) → wk D (cW g a st) A H0 H locs → W p l e (rmk 4 102) s m args below meth c H locs 0 0 Q (F0 m 17 ls [.int v3, .int (0 : Int32), .int x92]) := by
    intro v3 H locs hv5 I
    subst hv5
    obtain ⟨u7, hc6, h⟩ := bt0n h
    refine r_callS0 (As := [.int x92, .int (0 : Int32), .int (if x91 = 0 then (1 : Int32) else (9 : Int32))]) (rest := []) E I hl.1 k4_57 (c4_needNumber hc6) rfl rfl (Nat.le_of_ble_eq_true rfl) ⟨Nat.le_of_ble_eq_true rfl, Nat.le_of_ble_eq_true rfl⟩ ⟨Nat.zero_le _, Nat.zero_le _⟩ dX4_set_17 (fun H locs I => ?_)
    refine lv_aload_n hx hb dX4_set_20 rfl (lv_at hl 0 rfl) ?_
    refine lv_bipush (v := (24 : Int32)) hx hb dX4_set_21 (by decide) ?_
    refine lv_iload_n hx hb dX4_set_23 rfl (lv_at hl 1 rfl) ?_
    refine lv_iadd hx hb dX4_set_24 ?_
    refine lv_iload_n hx hb dX4_set_25 rfl (lv_at hl 2 rfl) ?_
    obtain ⟨st9, r10, hc8, h⟩ := bx2 h
    refine r_callV1 (As := [.int ((24 : Int32) + x91), .int x92]) (rest := []) (ws' := (cW g a st9)) (q0 := 0) E I hl.1 k4_61 (c4_change hc8) cW_k rfl rfl rfl rfl (Nat.le_of_ble_eq_true rfl) ⟨Nat.le_of_ble_eq_true rfl, Nat.le_of_ble_eq_true rfl⟩ ⟨Nat.zero_le _, Nat.zero_le _⟩ dX4_set_26 (fun H locs I => ?_)
    cases h
    exact K _ _ _ _ I dX4_set_29
  refine lv_if_ne (tgt := 15) hx hb dX4_set_8 (by decide) (fun hc11 => ?_) (fun hc11 => ?_)
  · refine lv_bipush (v := (9 : Int32)) hx hb dX4_set_15 (by decide) ?_
    exact J4 _ _ _ (by rw [if_neg hc11]) I
  · refine lv_iconst (v := (1 : Int32)) hx hb dX4_set_11 (by decide) ?_
    refine lv_goto (tgt := 17) hx hb dX4_set_12 (by decide) ?_
    exact J4 _ _ _ (by rw [if_pos hc11]) I
set_option maxHeartbeats 4000000 in
set_option maxRecDepth 100000 in
theorem c4_times {l : Launch} {D : va_G} {g : Nat → ClassId} {a : Nat → Nat} {st : CS} {x91 : Int32} {x92 : Int32} {st' : CS} {r' : Int32} (h : f4_times st x91 x92 = some (st', .inr r')) : ct l yX4_times cX4_times 3 (some .int) (rmk 1 21) D g (cW g a st) (cW g a st') [.ref (a 0), .int x91, .int x92] (some (.int r')) := by
  refine ct_of ⟨rfl, rfl⟩ (by decide) (Nat.le_of_ble_eq_true rfl) ?_
  intro p e s m args below meth c ls Q A H0 H locs E I hl K
  have E : en p m c cX4_times 3 s args RX4 D g := E
  have hx := E.1.1
  have hb := E.1.2.1
  have hl : lv_has ls 3 [(0, .ref (a 0)), (1, .int x91), (2, .int x92)] := hl
  have K : ∀ (pc : Nat) (ls : Array Slot) (H : Heap) (locs : List Loc), wk D (cW g a st') A H0 H locs → decode cX4_times pc = .ok (.ireturn, 1) → W p l e (rmk 1 21) s m args below meth c H locs 0 0 Q (F0 m pc ls [.int r']) := fun pc ls H locs I hd => K pc ls H locs I hd
  have h : ((bt0 st (f4_needIndex x91 (3 : Int32)) fun (u2 : Unit) => (bt0 st (f4_needIndex x92 (8 : Int32)) fun (u4 : Unit) => (if ib ((x91 * (8 : Int32)) + x92) 26 = true then some (st, .inr ((c_state st) ((x91 * (8 : Int32)) + x92).toNatClampNeg)) else none))) : Option (CS × (Nat ⊕ Int32))) = some (st', .inr r') := h
  refine lv_iload_n hx hb dX4_times_0 rfl (lv_at hl 1 rfl) ?_
  refine lv_iconst (v := (3 : Int32)) hx hb dX4_times_1 (by decide) ?_
  obtain ⟨u2, hc1, h⟩ := bt0n h
  refine r_callS0 (As := [.int x91, .int (3 : Int32)]) (rest := []) E I hl.1 k4_53 (c4_needIndex hc1) rfl rfl (Nat.le_of_ble_eq_true rfl) ⟨Nat.le_of_ble_eq_true rfl, Nat.le_of_ble_eq_true rfl⟩ ⟨Nat.zero_le _, Nat.zero_le _⟩ dX4_times_2 (fun H locs I => ?_)
  refine lv_iload_n hx hb dX4_times_5 rfl (lv_at hl 2 rfl) ?_
  refine lv_bipush (v := (8 : Int32)) hx hb dX4_times_6 (by decide) ?_
  obtain ⟨u4, hc3, h⟩ := bt0n h
  refine r_callS0 (As := [.int x92, .int (8 : Int32)]) (rest := []) E I hl.1 k4_53 (c4_needIndex hc3) rfl rfl (Nat.le_of_ble_eq_true rfl) ⟨Nat.le_of_ble_eq_true rfl, Nat.le_of_ble_eq_true rfl⟩ ⟨Nat.zero_le _, Nat.zero_le _⟩ dX4_times_8 (fun H locs I => ?_)
  refine lv_aload_n hx hb dX4_times_11 rfl (lv_at hl 0 rfl) ?_
  refine g4_9 E I dX4_times_12 ?_
  refine lv_iload_n hx hb dX4_times_15 rfl (lv_at hl 1 rfl) ?_
  refine lv_bipush (v := (8 : Int32)) hx hb dX4_times_16 (by decide) ?_
  refine lv_imul hx hb dX4_times_18 ?_
  refine lv_iload_n hx hb dX4_times_19 rfl (lv_at hl 2 rfl) ?_
  refine lv_iadd hx hb dX4_times_20 ?_
  obtain ⟨hc5, h⟩ := gd h
  refine c_ld1 E I (f := (c_state st)) rfl hc5 dX4_times_21 ?_
  cases h
  exact K _ _ _ _ I dX4_times_22
set_option maxHeartbeats 4000000 in
set_option maxRecDepth 100000 in
theorem c4_restOf {l : Launch} {D : va_G} {g : Nat → ClassId} {a : Nat → Nat} {st : CS} {x91 : Int32} {o : Int32} (h : f4_restOf st x91 = some o) : ct l yX4_restOf cX4_restOf 2 (some .int) (rmk 0 0) D g (cW g a st) (cW g a st) [.ref (a 0), .int x91] (some (.int o)) := by
  refine ct_of ⟨rfl, rfl⟩ (by decide) (Nat.le_of_ble_eq_true rfl) ?_
  intro p e s m args below meth c ls Q A H0 H locs E I hl K
  have E : en p m c cX4_restOf 2 s args RX4 D g := E
  have hx := E.1.1
  have hb := E.1.2.1
  have hl : lv_has ls 2 [(0, .ref (a 0)), (1, .int x91)] := hl
  have K : ∀ (pc : Nat) (ls : Array Slot) (H : Heap) (locs : List Loc), wk D (cW g a st) A H0 H locs → decode cX4_restOf pc = .ok (.ireturn, 1) → W p l e (rmk 0 0) s m args below meth c H locs 0 0 Q (F0 m pc ls [.int o]) := fun pc ls H locs I hd => K pc ls H locs I hd
  have h : ((if ib ((16 : Int32) + x91) 26 = true then (if ib ((0 : Int32) + x91) 26 = true then some (((c_state st) ((16 : Int32) + x91).toNatClampNeg) - ((c_state st) ((0 : Int32) + x91).toNatClampNeg)) else none) else none) : Option Int32) = some o := h
  refine lv_aload_n hx hb dX4_restOf_0 rfl (lv_at hl 0 rfl) ?_
  refine g4_9 E I dX4_restOf_1 ?_
  refine lv_bipush (v := (16 : Int32)) hx hb dX4_restOf_4 (by decide) ?_
  refine lv_iload_n hx hb dX4_restOf_6 rfl (lv_at hl 1 rfl) ?_
  refine lv_iadd hx hb dX4_restOf_7 ?_
  obtain ⟨hc1, h⟩ := gd h
  refine c_ld1 E I (f := (c_state st)) rfl hc1 dX4_restOf_8 ?_
  refine lv_aload_n hx hb dX4_restOf_9 rfl (lv_at hl 0 rfl) ?_
  refine g4_9 E I dX4_restOf_10 ?_
  refine lv_iconst (v := (0 : Int32)) hx hb dX4_restOf_13 (by decide) ?_
  refine lv_iload_n hx hb dX4_restOf_14 rfl (lv_at hl 1 rfl) ?_
  refine lv_iadd hx hb dX4_restOf_15 ?_
  obtain ⟨hc2, h⟩ := gd h
  refine c_ld1 E I (f := (c_state st)) rfl hc2 dX4_restOf_16 ?_
  refine lv_isub hx hb dX4_restOf_17 ?_
  cases h
  exact K _ _ _ _ I dX4_restOf_18
set_option maxHeartbeats 4000000 in
set_option maxRecDepth 100000 in
theorem c4_rest {l : Launch} {D : va_G} {g : Nat → ClassId} {a : Nat → Nat} {st : CS} {x91 : Int32} {st' : CS} {r' : Int32} (h : f4_rest st x91 = some (st', .inr r')) : ct l yX4_rest cX4_rest 2 (some .int) (rmk 1 21) D g (cW g a st) (cW g a st') [.ref (a 0), .int x91] (some (.int r')) := by
  refine ct_of ⟨rfl, rfl⟩ (by decide) (Nat.le_of_ble_eq_true rfl) ?_
  intro p e s m args below meth c ls Q A H0 H locs E I hl K
  have E : en p m c cX4_rest 2 s args RX4 D g := E
  have hx := E.1.1
  have hb := E.1.2.1
  have hl : lv_has ls 2 [(0, .ref (a 0)), (1, .int x91)] := hl
  have K : ∀ (pc : Nat) (ls : Array Slot) (H : Heap) (locs : List Loc), wk D (cW g a st') A H0 H locs → decode cX4_rest pc = .ok (.ireturn, 1) → W p l e (rmk 1 21) s m args below meth c H locs 0 0 Q (F0 m pc ls [.int r']) := fun pc ls H locs I hd => K pc ls H locs I hd
  have h : ((bt0 st (f4_needIndex x91 (4 : Int32)) fun (u2 : Unit) => (bi1 (f4_restOf st x91) fun r4 => some (st, .inr r4))) : Option (CS × (Nat ⊕ Int32))) = some (st', .inr r') := h
  refine lv_iload_n hx hb dX4_rest_0 rfl (lv_at hl 1 rfl) ?_
  refine lv_iconst (v := (4 : Int32)) hx hb dX4_rest_1 (by decide) ?_
  obtain ⟨u2, hc1, h⟩ := bt0n h
  refine r_callS0 (As := [.int x91, .int (4 : Int32)]) (rest := []) E I hl.1 k4_53 (c4_needIndex hc1) rfl rfl (Nat.le_of_ble_eq_true rfl) ⟨Nat.le_of_ble_eq_true rfl, Nat.le_of_ble_eq_true rfl⟩ ⟨Nat.zero_le _, Nat.zero_le _⟩ dX4_rest_2 (fun H locs I => ?_)
  refine lv_aload_n hx hb dX4_rest_5 rfl (lv_at hl 0 rfl) ?_
  refine lv_iload_n hx hb dX4_rest_6 rfl (lv_at hl 1 rfl) ?_
  obtain ⟨r4, hc3, h⟩ := bx1 h
  refine r_callV1 (As := [.int x91]) (rest := []) (ws' := (cW g a st)) (q0 := 0) E I hl.1 k4_145 (c4_restOf hc3) cW_k rfl rfl rfl rfl (Nat.le_of_ble_eq_true rfl) ⟨Nat.le_of_ble_eq_true rfl, Nat.le_of_ble_eq_true rfl⟩ ⟨Nat.zero_le _, Nat.zero_le _⟩ dX4_rest_7 (fun H locs I => ?_)
  cases h
  exact K _ _ _ _ I dX4_rest_10
set_option maxHeartbeats 4000000 in
set_option maxRecDepth 100000 in
theorem c0_top {l : Launch} {D : va_G} {g : Nat → ClassId} {a : Nat → Nat} {st : CS} {x91 : Int32} {o : Int32} (h : f0_top st x91 = some o) : ct l yX0_top cX0_top 2 (some .int) (rmk 0 0) D g (cW g a st) (cW g a st) [.ref (a 7), .int x91] (some (.int o)) := by
  refine ct_of ⟨rfl, rfl⟩ (by decide) (Nat.le_of_ble_eq_true rfl) ?_
  intro p e s m args below meth c ls Q A H0 H locs E I hl K
  have E : en p m c cX0_top 2 s args RX0 D g := E
  have hx := E.1.1
  have hb := E.1.2.1
  have hl : lv_has ls 2 [(0, .ref (a 7)), (1, .int x91)] := hl
  have K : ∀ (pc : Nat) (ls : Array Slot) (H : Heap) (locs : List Loc), wk D (cW g a st) A H0 H locs → decode cX0_top pc = .ok (.ireturn, 1) → W p l e (rmk 0 0) s m args below meth c H locs 0 0 Q (F0 m pc ls [.int o]) := fun pc ls H locs I hd => K pc ls H locs I hd
  have h : ((if ib x91 4 = true then (if ((c_weight st) x91.toNatClampNeg) ≤ 0 then some (0 : Int32) else some (c_most st)) else none) : Option Int32) = some o := h
  refine lv_aload_n hx hb dX0_top_0 rfl (lv_at hl 0 rfl) ?_
  refine g0_9 E I dX0_top_1 ?_
  refine lv_iload_n hx hb dX0_top_4 rfl (lv_at hl 1 rfl) ?_
  obtain ⟨hc1, h⟩ := gd h
  refine c_ld13 E I (f := (c_weight st)) rfl hc1 dX0_top_5 ?_
  refine lv_if_le (tgt := 16) hx hb dX0_top_6 (by decide) (fun hc2 => ?_) (fun hc2 => ?_)
  · have h := ifp hc2 h
    refine lv_iconst (v := (0 : Int32)) hx hb dX0_top_16 (by decide) ?_
    cases h
    exact K _ _ _ _ I dX0_top_17
  · have h := ifn hc2 h
    refine lv_aload_n hx hb dX0_top_9 rfl (lv_at hl 0 rfl) ?_
    refine g0_48 E I (v := (c_most st)) rfl dX0_top_10 ?_
    refine lv_goto (tgt := 17) hx hb dX0_top_13 (by decide) ?_
    cases h
    exact K _ _ _ _ I dX0_top_17
set_option maxHeartbeats 4000000 in
set_option maxRecDepth 100000 in
theorem c0_numberIn {l : Launch} {D : va_G} {g : Nat → ClassId} {x90 : Int32} {x91 : Int32} {o : Int32} (h : f0_numberIn x90 x91 = o) : ct l yX0_numberIn cX0_numberIn 2 (some .int) (rmk 0 0) D g [] [] [.int x90, .int x91] (some (.int o)) := by
  refine ct_of ⟨rfl, rfl⟩ (by decide) (Nat.le_of_ble_eq_true rfl) ?_
  intro p e s m args below meth c ls Q A H0 H locs E I hl K
  have E : en p m c cX0_numberIn 2 s args RX0 D g := E
  have hx := E.1.1
  have hb := E.1.2.1
  have hl : lv_has ls 2 [(0, .int x90), (1, .int x91)] := hl
  have K : ∀ (pc : Nat) (ls : Array Slot) (H : Heap) (locs : List Loc), wk D [] A H0 H locs → decode cX0_numberIn pc = .ok (.ireturn, 1) → W p l e (rmk 0 0) s m args below meth c H locs 0 0 Q (F0 m pc ls [.int o]) := fun pc ls H locs I hd => K pc ls H locs I hd
  have h : (((x90 >>> (((4 : Int32) * ((3 : Int32) - x91)) &&& 31)) &&& (15 : Int32)) : Int32) = o := h
  refine lv_iload_n hx hb dX0_numberIn_0 rfl (lv_at hl 0 rfl) ?_
  refine lv_iconst (v := (4 : Int32)) hx hb dX0_numberIn_1 (by decide) ?_
  refine lv_iconst (v := (3 : Int32)) hx hb dX0_numberIn_2 (by decide) ?_
  refine lv_iload_n hx hb dX0_numberIn_3 rfl (lv_at hl 1 rfl) ?_
  refine lv_isub hx hb dX0_numberIn_4 ?_
  refine lv_imul hx hb dX0_numberIn_5 ?_
  refine lv_ishr hx hb dX0_numberIn_6 ?_
  refine lv_bipush (v := (15 : Int32)) hx hb dX0_numberIn_7 (by decide) ?_
  refine lv_iand hx hb dX0_numberIn_9 ?_
  cases h
  exact K _ _ _ _ I dX0_numberIn_10
set_option maxHeartbeats 4000000 in
set_option maxRecDepth 100000 in
theorem c0_setOf {l : Launch} {D : va_G} {g : Nat → ClassId} {x90 : Int32} {o : Int32} (h : f0_setOf x90 = some o) : ct l yX0_setOf cX0_setOf 3 (some .int) (rmk 1 21) D g [] [] [.int x90] (some (.int o)) := by
  refine ct_of ⟨rfl, rfl⟩ (by decide) (Nat.le_of_ble_eq_true rfl) ?_
  intro p e s m args below meth c ls Q A H0 H locs E I hl K
  have E : en p m c cX0_setOf 3 s args RX0 D g := E
  have hx := E.1.1
  have hb := E.1.2.1
  have hl : lv_has ls 3 [(0, .int x90)] := hl
  have K : ∀ (pc : Nat) (ls : Array Slot) (H : Heap) (locs : List Loc), wk D [] A H0 H locs → decode cX0_setOf pc = .ok (.ireturn, 1) → W p l e (rmk 1 21) s m args below meth c H locs 0 0 Q (F0 m pc ls [.int o]) := fun pc ls H locs I hd => K pc ls H locs I hd
  have h : ((bi1 (wh (f0_setOf_b4 x90) FU ((0 : Int32), (0 : Int32))) fun w16 => some w16) : Option Int32) = some o := h
  refine lv_iconst (v := (0 : Int32)) hx hb dX0_setOf_0 (by decide) ?_
  refine lv_istore_n (lv' := [(1, .int (0 : Int32)), (0, .int x90)]) hx hb dX0_setOf_1 rfl hl (by decide) rfl (fun ls hl => ?_)
  refine lv_iconst (v := (0 : Int32)) hx hb dX0_setOf_2 (by decide) ?_
  refine lv_istore_n (lv' := [(2, .int (0 : Int32)), (1, .int (0 : Int32)), (0, .int x90)]) hx hb dX0_setOf_3 rfl hl (by decide) rfl (fun ls hl => ?_)
  obtain ⟨z13, hw14, h⟩ := bx1 h
  refine wh_W (P := fun (z : Int32 × Int32) => ∀ (H : Heap) (locs : List Loc) (ls : Array Slot), wk D [] A H0 H locs → lv_has ls 3 [(0, .int x90), (1, .int z.1), (2, .int z.2)] → W p l e (rmk 1 21) s m args below meth c H locs 0 0 Q (F0 m 4 ls [])) (X := fun (z : Int32) => ∀ (H : Heap) (locs : List Loc) (ls : Array Slot), wk D [] A H0 H locs → lv_has ls 3 [(1, .int z)] → W p l e (rmk 1 21) s m args below meth c H locs 0 0 Q (F0 m 33 ls [])) ?_ FU _ _ hw14 ?_ _ _ _ I (lv_sub hl [2, 1, 0] rfl)
  · intro z o4 h hk5 H locs ls I hl
    obtain ⟨x2, x3⟩ := z
    have h : ((if (4 : Int32) ≤ x3 then some (.inr x2) else (lq (x2 ||| (if (f0_numberIn x90 x3) ≤ 0 then (0 : Int32) else ((1 : Int32) <<< (x3 &&& 31)))) fun x10 => some (.inl (x10, (x3 + 1))))) : Option ((Int32 × Int32) ⊕ (Int32))) = some o4 := h
    have I : wk D [] A H0 H locs := I
    have hl : lv_has ls 3 [(0, .int x90), (1, .int x2), (2, .int x3)] := hl
    refine lv_iload_n hx hb dX0_setOf_4 rfl (lv_at hl 2 rfl) ?_
    refine lv_iconst (v := (4 : Int32)) hx hb dX0_setOf_5 (by decide) ?_
    refine lv_icmp_ge (tgt := 33) hx hb dX0_setOf_6 (by decide) (fun hc6 => ?_) (fun hc6 => ?_)
    · have h := ifp hc6 h
      cases h
      exact hk5 _ _ _ I (lv_sub hl [1] rfl)
    · have h := ifn hc6 h
      refine lv_iload_n hx hb dX0_setOf_9 rfl (lv_at hl 1 rfl) ?_
      refine lv_iload_n hx hb dX0_setOf_10 rfl (lv_at hl 0 rfl) ?_
      refine lv_iload_n hx hb dX0_setOf_11 rfl (lv_at hl 2 rfl) ?_
      refine r_callS1 (As := [.int x90, .int x3]) (rest := [.int x2]) E I hl.1 k0_66 (c0_numberIn rfl) rfl rfl (Nat.le_of_ble_eq_true rfl) ⟨Nat.le_of_ble_eq_true rfl, Nat.le_of_ble_eq_true rfl⟩ ⟨Nat.zero_le _, Nat.zero_le _⟩ dX0_setOf_12 (fun H locs I => ?_)
      have J8 : ∀ (v7 : Int32) (H : Heap) (locs : List Loc), v7 = (if (f0_numberIn x90 x3) ≤ 0 then (0 : Int32) else ((1 : Int32) <<< (x3 &&& 31))) → wk D [] A H0 H locs → W p l e (rmk 1 21) s m args below meth c H locs 0 0 Q (F0 m 25 ls [.int v7, .int x2]) := by
        intro v7 H locs hv9 I
        subst hv9
        refine lv_ior hx hb dX0_setOf_25 ?_
        obtain ⟨x10, hx11, h⟩ := lqx h
        refine lv_istore_n (x := (x2 ||| (if (f0_numberIn x90 x3) ≤ 0 then (0 : Int32) else ((1 : Int32) <<< (x3 &&& 31))))) (lv' := [(1, .int x10), (0, .int x90), (2, .int x3)]) hx hb dX0_setOf_26 rfl hl (by decide) (by subst hx11; rfl) (fun ls hl => ?_)
        refine lv_iinc (v := (x3 + 1)) (lv' := [(2, .int (x3 + 1)), (1, .int x10), (0, .int x90)]) hx hb dX0_setOf_27 hl (k := 2) rfl rfl (by decide) rfl (fun ls hl => ?_)
        refine lv_goto (tgt := 4) hx hb dX0_setOf_30 (by decide) ?_
        cases h
        exact hk5 _ _ _ I (lv_sub hl [2, 1, 0] rfl)
      refine lv_if_le (tgt := 24) hx hb dX0_setOf_15 (by decide) (fun hc12 => ?_) (fun hc12 => ?_)
      · refine lv_iconst (v := (0 : Int32)) hx hb dX0_setOf_24 (by decide) ?_
        exact J8 _ _ _ (by rw [if_pos hc12]) I
      · refine lv_iconst (v := (1 : Int32)) hx hb dX0_setOf_18 (by decide) ?_
        refine lv_iload_n hx hb dX0_setOf_19 rfl (lv_at hl 2 rfl) ?_
        refine lv_ishl hx hb dX0_setOf_20 ?_
        refine lv_goto (tgt := 25) hx hb dX0_setOf_21 (by decide) ?_
        exact J8 _ _ _ (by rw [if_neg hc12]) I
  · obtain ⟨x15, rfl⟩ : ∃ y, y = z13 := ⟨_, rfl⟩
    intro H locs ls I hl
    have h : (some x15 : Option Int32) = some o := h
    have I : wk D [] A H0 H locs := I
    have hl : lv_has ls 3 [(1, .int x15)] := hl
    refine lv_iload_n hx hb dX0_setOf_33 rfl (lv_at hl 0 rfl) ?_
    cases h
    exact K _ _ _ _ I dX0_setOf_34
set_option maxHeartbeats 4000000 in
set_option maxRecDepth 100000 in
theorem c0_solveLast {l : Launch} {D : va_G} {g : Nat → ClassId} {a : Nat → Nat} {st : CS} {x91 : Int32} {x92 : Int32} {x93 : Int32} {o : CS} (h : f0_solveLast st x91 x92 x93 = some o) : ct l yX0_solveLast cX0_solveLast 6 none (rmk 2 43) D g (cW g a st) (cW g a o) [.ref (a 7), .int x91, .int x92, .int x93] none := by
  refine ct_of ⟨rfl, rfl⟩ (by decide) (Nat.le_of_ble_eq_true rfl) ?_
  intro p e s m args below meth c ls Q A H0 H locs E I hl K
  have E : en p m c cX0_solveLast 6 s args RX0 D g := E
  have hx := E.1.1
  have hb := E.1.2.1
  have hl : lv_has ls 6 [(0, .ref (a 7)), (1, .int x91), (2, .int x92), (3, .int x93)] := hl
  have K : ∀ (pc : Nat) (ls : Array Slot) (H : Heap) (locs : List Loc), wk D (cW g a o) A H0 H locs → decode cX0_solveLast pc = .ok (.return_, 1) → W p l e (rmk 2 43) s m args below meth c H locs 0 0 Q (F0 m pc ls []) := fun pc ls H locs I hd => K pc ls H locs I hd
  have h : ((if ((c_weight st) (3 : Int32).toNatClampNeg) ≤ 0 then f0_solveLast_j21 st x91 x92 x93 (0 : Int32) else (if ((c_weight st) (3 : Int32).toNatClampNeg) = 0 then none else f0_solveLast_j21 st x91 x92 x93 (x93 / ((c_weight st) (3 : Int32).toNatClampNeg)))) : Option CS) = some o := h
  refine lv_aload_n hx hb dX0_solveLast_0 rfl (lv_at hl 0 rfl) ?_
  refine g0_9 E I dX0_solveLast_1 ?_
  refine lv_iconst (v := (3 : Int32)) hx hb dX0_solveLast_4 (by decide) ?_
  refine c_ld13 E I (f := (c_weight st)) rfl (by decide) dX0_solveLast_5 ?_
  have J1 : ∀ (st2 : CS) (x3 : Int32) (x4 : Int32) (x5 : Int32) (y6 : Int32), f0_solveLast_j21 st2 x3 x4 x5 y6 = some o → ∀ (H : Heap) (locs : List Loc) (ls : Array Slot), wk D (cW g a st2) A H0 H locs → lv_has ls 6 [(0, .ref (a 7)), (1, .int x3), (2, .int x4), (3, .int x5)] → W p l e (rmk 2 43) s m args below meth c H locs 0 0 Q (F0 m 21 ls [.int y6]) := by
    intro st2 x3 x4 x5 y6 h H locs ls I hl
    have h : ((if (c_most st2) < y6 then some st2 else (if (((c_weight st2) (3 : Int32).toNatClampNeg) * y6) = x5 then (if ib x3 5 = true then (if (220 : Int32) ≤ ((c_size st2) x3.toNatClampNeg) then f0_solveLast_j79 st2 x3 (x4 ||| y6) else (if ib x3 5 = true then (if ib x3 5 = true then (if ib ((c_size st2) x3.toNatClampNeg) 220 = true then f0_solveLast_j79 (c_rows_s st2 (va_up (c_rows st2) x3.toNatClampNeg (upd ((c_rows st2) x3.toNatClampNeg) ((c_size st2) x3.toNatClampNeg).toNatClampNeg (x4 ||| y6)))) x3 (x4 ||| y6) else none) else none) else none)) else none) else some st2)) : Option CS) = some o := h
    refine lv_istore (lv' := [(4, .int y6), (0, .ref (a 7)), (1, .int x3), (2, .int x4), (3, .int x5)]) hx hb dX0_solveLast_21 hl (by decide) rfl (fun ls hl => ?_)
    refine lv_iload hx hb dX0_solveLast_23 (lv_at hl 0 rfl) ?_
    refine lv_aload_n hx hb dX0_solveLast_25 rfl (lv_at hl 1 rfl) ?_
    refine g0_48 E I (v := (c_most st2)) rfl dX0_solveLast_26 ?_
    refine lv_icmp_gt (tgt := 45) hx hb dX0_solveLast_29 (by decide) (fun hc7 => ?_) (fun hc7 => ?_)
    · have h := ifp hc7 h
      cases h
      exact K _ _ _ _ I dX0_solveLast_45
    · have h := ifn hc7 h
      refine lv_aload_n hx hb dX0_solveLast_32 rfl (lv_at hl 1 rfl) ?_
      refine g0_9 E I dX0_solveLast_33 ?_
      refine lv_iconst (v := (3 : Int32)) hx hb dX0_solveLast_36 (by decide) ?_
      refine c_ld13 E I (f := (c_weight st2)) rfl (by decide) dX0_solveLast_37 ?_
      refine lv_iload hx hb dX0_solveLast_38 (lv_at hl 0 rfl) ?_
      refine lv_imul hx hb dX0_solveLast_40 ?_
      refine lv_iload_n hx hb dX0_solveLast_41 rfl (lv_at hl 4 rfl) ?_
      refine lv_icmp_eq (tgt := 46) hx hb dX0_solveLast_42 (by decide) (fun hc8 => ?_) (fun hc8 => ?_)
      · have h := ifp hc8 h
        refine lv_iload_n hx hb dX0_solveLast_46 rfl (lv_at hl 3 rfl) ?_
        refine lv_iload hx hb dX0_solveLast_47 (lv_at hl 0 rfl) ?_
        refine lv_ior hx hb dX0_solveLast_49 ?_
        refine lv_istore (lv' := [(5, .int (x4 ||| y6)), (4, .int y6), (0, .ref (a 7)), (1, .int x3), (2, .int x4), (3, .int x5)]) hx hb dX0_solveLast_50 hl (by decide) rfl (fun ls hl => ?_)
        refine lv_aload_n hx hb dX0_solveLast_52 rfl (lv_at hl 2 rfl) ?_
        refine g0_20 E I dX0_solveLast_53 ?_
        refine lv_iload_n hx hb dX0_solveLast_56 rfl (lv_at hl 3 rfl) ?_
        obtain ⟨hc9, h⟩ := gd h
        refine c_ld15 E I (f := (c_size st2)) rfl hc9 dX0_solveLast_57 ?_
        refine lv_sipush (v := (220 : Int32)) hx hb dX0_solveLast_58 (by decide) ?_
        have J10 : ∀ (st11 : CS) (x12 : Int32) (x13 : Int32), f0_solveLast_j79 st11 x12 x13 = some o → ∀ (H : Heap) (locs : List Loc) (ls : Array Slot), wk D (cW g a st11) A H0 H locs → lv_has ls 6 [(0, .ref (a 7)), (1, .int x12), (5, .int x13)] → W p l e (rmk 2 43) s m args below meth c H locs 0 0 Q (F0 m 79 ls []) := by
          intro st11 x12 x13 h H locs ls I hl
          have h : ((if ib x12 5 = true then (if ib x12 5 = true then (if ib x12 5 = true then (bi1 (f0_setOf x13) fun r18 => (if ib r18 16 = true then (if ib r18 16 = true then some (c_exactly_s (c_size_s st11 (upd (c_size st11) x12.toNatClampNeg (((c_size st11) x12.toNatClampNeg) + (1 : Int32)))) (va_up (c_exactly st11) x12.toNatClampNeg (vp_updL ((c_exactly st11) x12.toNatClampNeg) r18.toNatClampNeg (((c_exactly st11) x12.toNatClampNeg r18.toNatClampNeg) + (1 : Int64))))) else none) else none)) else none) else none) else none) : Option CS) = some o := h
          refine lv_aload_n hx hb dX0_solveLast_79 rfl (lv_at hl 0 rfl) ?_
          refine g0_20 E I dX0_solveLast_80 ?_
          refine lv_iload_n hx hb dX0_solveLast_83 rfl (lv_at hl 1 rfl) ?_
          refine lv_dup2_11 hx hb dX0_solveLast_84 rfl rfl ?_
          obtain ⟨hc14, h⟩ := gd h
          refine c_ld15 E I (f := (c_size st11)) rfl hc14 dX0_solveLast_85 ?_
          refine lv_iconst (v := (1 : Int32)) hx hb dX0_solveLast_86 (by decide) ?_
          refine lv_iadd hx hb dX0_solveLast_87 ?_
          obtain ⟨hc15, h⟩ := gd h
          refine c_st15 E I (f := (c_size st11)) rfl hc15 dX0_solveLast_88 (fun H locs I => ?_)
          refine lv_aload_n hx hb dX0_solveLast_89 rfl (lv_at hl 0 rfl) ?_
          refine g0_25 E I dX0_solveLast_90 ?_
          refine lv_iload_n hx hb dX0_solveLast_93 rfl (lv_at hl 1 rfl) ?_
          obtain ⟨hc16, h⟩ := gd h
          refine c_al16 E I hc16 dX0_solveLast_94 ?_
          refine lv_iload hx hb dX0_solveLast_95 (lv_at hl 2 rfl) ?_
          obtain ⟨r18, hc17, h⟩ := bx1 h
          refine r_callS1 (As := [.int x13]) (rest := [.ref (a (35 + x12.toNatClampNeg))]) E I hl.1 k0_62 (c0_setOf hc17) rfl rfl (Nat.le_of_ble_eq_true rfl) ⟨Nat.le_of_ble_eq_true rfl, Nat.le_of_ble_eq_true rfl⟩ ⟨Nat.zero_le _, Nat.zero_le _⟩ dX0_solveLast_97 (fun H locs I => ?_)
          refine lv_dup2_11 hx hb dX0_solveLast_100 rfl rfl ?_
          obtain ⟨hc19, h⟩ := gd h
          refine c_ld16 E I (f := (c_exactly st11)) rfl (ib_lt hc16) hc19 dX0_solveLast_101 ?_
          refine lv_lconst (v := (1 : Int64)) hx hb dX0_solveLast_102 (by decide) ?_
          refine lv_ladd hx hb dX0_solveLast_103 ?_
          obtain ⟨hc20, h⟩ := gd h
          refine c_st16 E I (f := (c_exactly st11)) rfl (ib_lt hc16) hc20 dX0_solveLast_104 (fun H locs I => ?_)
          cases h
          exact K _ _ _ _ I dX0_solveLast_105
        refine lv_icmp_ge (tgt := 79) hx hb dX0_solveLast_61 (by decide) (fun hc21 => ?_) (fun hc21 => ?_)
        · have h := ifp hc21 h
          exact J10 _ _ _ h _ _ _ I (lv_sub hl [2, 3, 0] rfl)
        · have h := ifn hc21 h
          refine lv_aload_n hx hb dX0_solveLast_64 rfl (lv_at hl 2 rfl) ?_
          refine g0_17 E I dX0_solveLast_65 ?_
          refine lv_iload_n hx hb dX0_solveLast_68 rfl (lv_at hl 3 rfl) ?_
          obtain ⟨hc22, h⟩ := gd h
          refine c_al14 E I hc22 dX0_solveLast_69 ?_
          refine lv_aload_n hx hb dX0_solveLast_70 rfl (lv_at hl 2 rfl) ?_
          refine g0_20 E I dX0_solveLast_71 ?_
          refine lv_iload_n hx hb dX0_solveLast_74 rfl (lv_at hl 3 rfl) ?_
          obtain ⟨hc23, h⟩ := gd h
          refine c_ld15 E I (f := (c_size st2)) rfl hc23 dX0_solveLast_75 ?_
          refine lv_iload hx hb dX0_solveLast_76 (lv_at hl 0 rfl) ?_
          obtain ⟨hc24, h⟩ := gd h
          refine c_st14 E I (f := (c_rows st2)) rfl (ib_lt hc22) hc24 dX0_solveLast_78 (fun H locs I => ?_)
          exact J10 _ _ _ h _ _ _ I (lv_sub hl [2, 3, 0] rfl)
      · have h := ifn hc8 h
        cases h
        exact K _ _ _ _ I dX0_solveLast_45
  refine lv_if_le (tgt := 20) hx hb dX0_solveLast_6 (by decide) (fun hc25 => ?_) (fun hc25 => ?_)
  · have h := ifp hc25 h
    refine lv_iconst (v := (0 : Int32)) hx hb dX0_solveLast_20 (by decide) ?_
    exact J1 _ _ _ _ _ h _ _ _ I (lv_sub hl [0, 1, 2, 3] rfl)
  · have h := ifn hc25 h
    refine lv_iload_n hx hb dX0_solveLast_9 rfl (lv_at hl 3 rfl) ?_
    refine lv_aload_n hx hb dX0_solveLast_10 rfl (lv_at hl 0 rfl) ?_
    refine g0_9 E I dX0_solveLast_11 ?_
    refine lv_iconst (v := (3 : Int32)) hx hb dX0_solveLast_14 (by decide) ?_
    refine c_ld13 E I (f := (c_weight st)) rfl (by decide) dX0_solveLast_15 ?_
    obtain ⟨hz26, h⟩ := gz h
    refine lv_idiv hx hb dX0_solveLast_16 hz26 ?_
    refine lv_goto (tgt := 21) hx hb dX0_solveLast_17 (by decide) ?_
    exact J1 _ _ _ _ _ h _ _ _ I (lv_sub hl [0, 1, 2, 3] rfl)
set_option maxHeartbeats 4000000 in
set_option maxRecDepth 100000 in
theorem c0_fillWithin {l : Launch} {D : va_G} {g : Nat → ClassId} {a : Nat → Nat} {st : CS} {x91 : Int32} {o : CS} (h : f0_fillWithin st x91 = some o) : ct l yX0_fillWithin cX0_fillWithin 4 none (rmk 0 0) D g (cW g a st) (cW g a o) [.ref (a 7), .int x91] none := by
  refine ct_of ⟨rfl, rfl⟩ (by decide) (Nat.le_of_ble_eq_true rfl) ?_
  intro p e s m args below meth c ls Q A H0 H locs E I hl K
  have E : en p m c cX0_fillWithin 4 s args RX0 D g := E
  have hx := E.1.1
  have hb := E.1.2.1
  have hl : lv_has ls 4 [(0, .ref (a 7)), (1, .int x91)] := hl
  have K : ∀ (pc : Nat) (ls : Array Slot) (H : Heap) (locs : List Loc), wk D (cW g a o) A H0 H locs → decode cX0_fillWithin pc = .ok (.return_, 1) → W p l e (rmk 0 0) s m args below meth c H locs 0 0 Q (F0 m pc ls []) := fun pc ls H locs I hd => K pc ls H locs I hd
  have h : ((bi1 (wh (f0_fillWithin_b2 x91) FU (st, (0 : Int32))) fun w41 => (bi1 (wh (f0_fillWithin_b32 x91) FU (w41, (0 : Int32))) fun w40 => some w40)) : Option CS) = some o := h
  refine lv_iconst (v := (0 : Int32)) hx hb dX0_fillWithin_0 (by decide) ?_
  refine lv_istore_n (lv' := [(2, .int (0 : Int32)), (0, .ref (a 7)), (1, .int x91)]) hx hb dX0_fillWithin_1 rfl hl (by decide) rfl (fun ls hl => ?_)
  obtain ⟨z11, hw12, h⟩ := bx1 h
  refine wh_W (P := fun (z : CS × Int32) => ∀ (H : Heap) (locs : List Loc) (ls : Array Slot), wk D (cW g a z.1) A H0 H locs → lv_has ls 4 [(0, .ref (a 7)), (1, .int x91), (2, .int z.2)] → W p l e (rmk 0 0) s m args below meth c H locs 0 0 Q (F0 m 2 ls [])) (X := fun (z : CS) => ∀ (H : Heap) (locs : List Loc) (ls : Array Slot), wk D (cW g a z) A H0 H locs → lv_has ls 4 [(0, .ref (a 7)), (1, .int x91)] → W p l e (rmk 0 0) s m args below meth c H locs 0 0 Q (F0 m 30 ls [])) ?_ FU _ _ hw12 ?_ _ _ _ I (lv_sub hl [1, 2, 0] rfl)
  · intro z o4 h hk5 H locs ls I hl
    obtain ⟨st1, x3⟩ := z
    have h : ((if (16 : Int32) ≤ x3 then some (.inr st1) else (if ib x91 5 = true then (if ib x91 5 = true then (if ib x3 16 = true then (if ib x3 16 = true then some (.inl ((c_within_s st1 (va_up (c_within st1) x91.toNatClampNeg (vp_updL ((c_within st1) x91.toNatClampNeg) x3.toNatClampNeg ((c_exactly st1) x91.toNatClampNeg x3.toNatClampNeg)))), (x3 + 1))) else none) else none) else none) else none)) : Option ((CS × Int32) ⊕ (CS))) = some o4 := h
    have I : wk D (cW g a st1) A H0 H locs := I
    have hl : lv_has ls 4 [(0, .ref (a 7)), (1, .int x91), (2, .int x3)] := hl
    refine lv_iload_n hx hb dX0_fillWithin_2 rfl (lv_at hl 2 rfl) ?_
    refine lv_bipush (v := (16 : Int32)) hx hb dX0_fillWithin_3 (by decide) ?_
    refine lv_icmp_ge (tgt := 30) hx hb dX0_fillWithin_5 (by decide) (fun hc6 => ?_) (fun hc6 => ?_)
    · have h := ifp hc6 h
      cases h
      exact hk5 _ _ _ I (lv_sub hl [0, 1] rfl)
    · have h := ifn hc6 h
      refine lv_aload_n hx hb dX0_fillWithin_8 rfl (lv_at hl 0 rfl) ?_
      refine g0_28 E I dX0_fillWithin_9 ?_
      refine lv_iload_n hx hb dX0_fillWithin_12 rfl (lv_at hl 1 rfl) ?_
      obtain ⟨hc7, h⟩ := gd h
      refine c_al17 E I hc7 dX0_fillWithin_13 ?_
      refine lv_iload_n hx hb dX0_fillWithin_14 rfl (lv_at hl 2 rfl) ?_
      refine lv_aload_n hx hb dX0_fillWithin_15 rfl (lv_at hl 0 rfl) ?_
      refine g0_25 E I dX0_fillWithin_16 ?_
      refine lv_iload_n hx hb dX0_fillWithin_19 rfl (lv_at hl 1 rfl) ?_
      obtain ⟨hc8, h⟩ := gd h
      refine c_al16 E I hc8 dX0_fillWithin_20 ?_
      refine lv_iload_n hx hb dX0_fillWithin_21 rfl (lv_at hl 2 rfl) ?_
      obtain ⟨hc9, h⟩ := gd h
      refine c_ld16 E I (f := (c_exactly st1)) rfl (ib_lt hc8) hc9 dX0_fillWithin_22 ?_
      obtain ⟨hc10, h⟩ := gd h
      refine c_st17 E I (f := (c_within st1)) rfl (ib_lt hc7) hc10 dX0_fillWithin_23 (fun H locs I => ?_)
      refine lv_iinc (v := (x3 + 1)) (lv' := [(2, .int (x3 + 1)), (0, .ref (a 7)), (1, .int x91)]) hx hb dX0_fillWithin_24 hl (k := 2) rfl rfl (by decide) rfl (fun ls hl => ?_)
      refine lv_goto (tgt := 2) hx hb dX0_fillWithin_27 (by decide) ?_
      cases h
      exact hk5 _ _ _ I (lv_sub hl [1, 2, 0] rfl)
  · obtain ⟨st13, rfl⟩ : ∃ y, y = z11 := ⟨_, rfl⟩
    intro H locs ls I hl
    have h : ((bi1 (wh (f0_fillWithin_b32 x91) FU (st13, (0 : Int32))) fun w40 => some w40) : Option CS) = some o := h
    have I : wk D (cW g a st13) A H0 H locs := I
    have hl : lv_has ls 4 [(0, .ref (a 7)), (1, .int x91)] := hl
    refine lv_iconst (v := (0 : Int32)) hx hb dX0_fillWithin_30 (by decide) ?_
    refine lv_istore_n (lv' := [(2, .int (0 : Int32)), (0, .ref (a 7)), (1, .int x91)]) hx hb dX0_fillWithin_31 rfl hl (by decide) rfl (fun ls hl => ?_)
    obtain ⟨z37, hw38, h⟩ := bx1 h
    refine wh_W (P := fun (z : CS × Int32) => ∀ (H : Heap) (locs : List Loc) (ls : Array Slot), wk D (cW g a z.1) A H0 H locs → lv_has ls 4 [(0, .ref (a 7)), (1, .int x91), (2, .int z.2)] → W p l e (rmk 0 0) s m args below meth c H locs 0 0 Q (F0 m 32 ls [])) (X := fun (z : CS) => ∀ (H : Heap) (locs : List Loc) (ls : Array Slot), wk D (cW g a z) A H0 H locs → lv_has ls 4 [] → W p l e (rmk 0 0) s m args below meth c H locs 0 0 Q (F0 m 89 ls [])) ?_ FU _ _ hw38 ?_ _ _ _ I (lv_sub hl [1, 2, 0] rfl)
    · intro z o17 h hk18 H locs ls I hl
      obtain ⟨st14, x16⟩ := z
      have h : ((if (4 : Int32) ≤ x16 then some (.inr st14) else (bi1 (wh (f0_fillWithin_b39 x91 x16) FU (st14, (0 : Int32))) fun w36 => some (.inl (w36, (x16 + 1))))) : Option ((CS × Int32) ⊕ (CS))) = some o17 := h
      have I : wk D (cW g a st14) A H0 H locs := I
      have hl : lv_has ls 4 [(0, .ref (a 7)), (1, .int x91), (2, .int x16)] := hl
      refine lv_iload_n hx hb dX0_fillWithin_32 rfl (lv_at hl 2 rfl) ?_
      refine lv_iconst (v := (4 : Int32)) hx hb dX0_fillWithin_33 (by decide) ?_
      refine lv_icmp_ge (tgt := 89) hx hb dX0_fillWithin_34 (by decide) (fun hc19 => ?_) (fun hc19 => ?_)
      · have h := ifp hc19 h
        cases h
        exact hk18 _ _ _ I (lv_sub hl [] rfl)
      · have h := ifn hc19 h
        refine lv_iconst (v := (0 : Int32)) hx hb dX0_fillWithin_37 (by decide) ?_
        refine lv_istore_n (lv' := [(3, .int (0 : Int32)), (0, .ref (a 7)), (1, .int x91), (2, .int x16)]) hx hb dX0_fillWithin_38 rfl hl (by decide) rfl (fun ls hl => ?_)
        obtain ⟨z33, hw34, h⟩ := bx1 h
        refine wh_W (P := fun (z : CS × Int32) => ∀ (H : Heap) (locs : List Loc) (ls : Array Slot), wk D (cW g a z.1) A H0 H locs → lv_has ls 4 [(0, .ref (a 7)), (1, .int x91), (2, .int x16), (3, .int z.2)] → W p l e (rmk 0 0) s m args below meth c H locs 0 0 Q (F0 m 39 ls [])) (X := fun (z : CS) => ∀ (H : Heap) (locs : List Loc) (ls : Array Slot), wk D (cW g a z) A H0 H locs → lv_has ls 4 [(0, .ref (a 7)), (1, .int x91), (2, .int x16)] → W p l e (rmk 0 0) s m args below meth c H locs 0 0 Q (F0 m 83 ls [])) ?_ FU _ _ hw34 ?_ _ _ _ I (lv_sub hl [1, 2, 3, 0] rfl)
        · intro z o24 h hk25 H locs ls I hl
          obtain ⟨st20, x23⟩ := z
          have h : ((if (16 : Int32) ≤ x23 then some (.inr st20) else (if ((x23 >>> (x16 &&& 31)) &&& (1 : Int32)) = (1 : Int32) then (if ib x91 5 = true then (if ib x23 16 = true then (if ib x91 5 = true then (if ib (x23 ^^^ ((1 : Int32) <<< (x16 &&& 31))) 16 = true then (if ib x23 16 = true then some (.inl ((c_within_s st20 (va_up (c_within st20) x91.toNatClampNeg (vp_updL ((c_within st20) x91.toNatClampNeg) x23.toNatClampNeg (((c_within st20) x91.toNatClampNeg x23.toNatClampNeg) + ((c_within st20) x91.toNatClampNeg (x23 ^^^ ((1 : Int32) <<< (x16 &&& 31))).toNatClampNeg))))), (x23 + 1))) else none) else none) else none) else none) else none) else some (.inl (st20, (x23 + 1))))) : Option ((CS × Int32) ⊕ (CS))) = some o24 := h
          have I : wk D (cW g a st20) A H0 H locs := I
          have hl : lv_has ls 4 [(0, .ref (a 7)), (1, .int x91), (2, .int x16), (3, .int x23)] := hl
          refine lv_iload_n hx hb dX0_fillWithin_39 rfl (lv_at hl 3 rfl) ?_
          refine lv_bipush (v := (16 : Int32)) hx hb dX0_fillWithin_40 (by decide) ?_
          refine lv_icmp_ge (tgt := 83) hx hb dX0_fillWithin_42 (by decide) (fun hc26 => ?_) (fun hc26 => ?_)
          · have h := ifp hc26 h
            cases h
            exact hk25 _ _ _ I (lv_sub hl [0, 1, 2] rfl)
          · have h := ifn hc26 h
            refine lv_iload_n hx hb dX0_fillWithin_45 rfl (lv_at hl 3 rfl) ?_
            refine lv_iload_n hx hb dX0_fillWithin_46 rfl (lv_at hl 2 rfl) ?_
            refine lv_ishr hx hb dX0_fillWithin_47 ?_
            refine lv_iconst (v := (1 : Int32)) hx hb dX0_fillWithin_48 (by decide) ?_
            refine lv_iand hx hb dX0_fillWithin_49 ?_
            refine lv_iconst (v := (1 : Int32)) hx hb dX0_fillWithin_50 (by decide) ?_
            refine lv_icmp_ne (tgt := 77) hx hb dX0_fillWithin_51 (by decide) (fun hc27 => ?_) (fun hc27 => ?_)
            · have h := ifn hc27 h
              refine lv_iinc (v := (x23 + 1)) (lv' := [(3, .int (x23 + 1)), (0, .ref (a 7)), (1, .int x91), (2, .int x16)]) hx hb dX0_fillWithin_77 hl (k := 3) rfl rfl (by decide) rfl (fun ls hl => ?_)
              refine lv_goto (tgt := 39) hx hb dX0_fillWithin_80 (by decide) ?_
              cases h
              exact hk25 _ _ _ I (lv_sub hl [1, 2, 3, 0] rfl)
            · have h := ifp hc27 h
              refine lv_aload_n hx hb dX0_fillWithin_54 rfl (lv_at hl 0 rfl) ?_
              refine g0_28 E I dX0_fillWithin_55 ?_
              refine lv_iload_n hx hb dX0_fillWithin_58 rfl (lv_at hl 1 rfl) ?_
              obtain ⟨hc28, h⟩ := gd h
              refine c_al17 E I hc28 dX0_fillWithin_59 ?_
              refine lv_iload_n hx hb dX0_fillWithin_60 rfl (lv_at hl 3 rfl) ?_
              refine lv_dup2_11 hx hb dX0_fillWithin_61 rfl rfl ?_
              obtain ⟨hc29, h⟩ := gd h
              refine c_ld17 E I (f := (c_within st20)) rfl (ib_lt hc28) hc29 dX0_fillWithin_62 ?_
              refine lv_aload_n hx hb dX0_fillWithin_63 rfl (lv_at hl 0 rfl) ?_
              refine g0_28 E I dX0_fillWithin_64 ?_
              refine lv_iload_n hx hb dX0_fillWithin_67 rfl (lv_at hl 1 rfl) ?_
              obtain ⟨hc30, h⟩ := gd h
              refine c_al17 E I hc30 dX0_fillWithin_68 ?_
              refine lv_iload_n hx hb dX0_fillWithin_69 rfl (lv_at hl 3 rfl) ?_
              refine lv_iconst (v := (1 : Int32)) hx hb dX0_fillWithin_70 (by decide) ?_
              refine lv_iload_n hx hb dX0_fillWithin_71 rfl (lv_at hl 2 rfl) ?_
              refine lv_ishl hx hb dX0_fillWithin_72 ?_
              refine lv_ixor hx hb dX0_fillWithin_73 ?_
              obtain ⟨hc31, h⟩ := gd h
              refine c_ld17 E I (f := (c_within st20)) rfl (ib_lt hc30) hc31 dX0_fillWithin_74 ?_
              refine lv_ladd hx hb dX0_fillWithin_75 ?_
              obtain ⟨hc32, h⟩ := gd h
              refine c_st17 E I (f := (c_within st20)) rfl (ib_lt hc28) hc32 dX0_fillWithin_76 (fun H locs I => ?_)
              refine lv_iinc (v := (x23 + 1)) (lv' := [(3, .int (x23 + 1)), (0, .ref (a 7)), (1, .int x91), (2, .int x16)]) hx hb dX0_fillWithin_77 hl (k := 3) rfl rfl (by decide) rfl (fun ls hl => ?_)
              refine lv_goto (tgt := 39) hx hb dX0_fillWithin_80 (by decide) ?_
              cases h
              exact hk25 _ _ _ I (lv_sub hl [1, 2, 3, 0] rfl)
        · obtain ⟨st35, rfl⟩ : ∃ y, y = z33 := ⟨_, rfl⟩
          intro H locs ls I hl
          have h : (some (.inl (st35, (x16 + 1))) : Option ((CS × Int32) ⊕ (CS))) = some o17 := h
          have I : wk D (cW g a st35) A H0 H locs := I
          have hl : lv_has ls 4 [(0, .ref (a 7)), (1, .int x91), (2, .int x16)] := hl
          refine lv_iinc (v := (x16 + 1)) (lv' := [(2, .int (x16 + 1)), (0, .ref (a 7)), (1, .int x91)]) hx hb dX0_fillWithin_83 hl (k := 2) rfl rfl (by decide) rfl (fun ls hl => ?_)
          refine lv_goto (tgt := 32) hx hb dX0_fillWithin_86 (by decide) ?_
          cases h
          exact hk18 _ _ _ I (lv_sub hl [1, 2, 0] rfl)
    · obtain ⟨st39, rfl⟩ : ∃ y, y = z37 := ⟨_, rfl⟩
      intro H locs ls I hl
      have h : (some st39 : Option CS) = some o := h
      have I : wk D (cW g a st39) A H0 H locs := I
      have hl : lv_has ls 4 [] := hl
      cases h
      exact K _ _ _ _ I dX0_fillWithin_89
set_option maxHeartbeats 4000000 in
set_option maxRecDepth 100000 in
theorem c0_solve {l : Launch} {D : va_G} {g : Nat → ClassId} {a : Nat → Nat} {st : CS} {x91 : Int32} {x92 : Int32} {o : CS} (h : f0_solve st x91 x92 = some o) : ct l yX0_solve cX0_solve 8 none (rmk 3 68) D g (cW g a st) (cW g a o) [.ref (a 7), .int x91, .int x92] none := by
  refine ct_of ⟨rfl, rfl⟩ (by decide) (Nat.le_of_ble_eq_true rfl) ?_
  intro p e s m args below meth c ls Q A H0 H locs E I hl K
  have E : en p m c cX0_solve 8 s args RX0 D g := E
  have hx := E.1.1
  have hb := E.1.2.1
  have hl : lv_has ls 8 [(0, .ref (a 7)), (1, .int x91), (2, .int x92)] := hl
  have K : ∀ (pc : Nat) (ls : Array Slot) (H : Heap) (locs : List Loc), wk D (cW g a o) A H0 H locs → decode cX0_solve pc = .ok (.return_, 1) → W p l e (rmk 3 68) s m args below meth c H locs 0 0 Q (F0 m pc ls []) := fun pc ls H locs I hd => K pc ls H locs I hd
  have h : ((if ib x91 5 = true then (bi1 (wh (f0_solve_b9 x91 x92) FU ((c_size_s st (upd (c_size st) x91.toNatClampNeg (0 : Int32))), (0 : Int32))) fun w66 => (bi1 (wh (f0_solve_b32 x91 x92) FU (w66, (0 : Int32))) fun w65 => (bi1 (f0_fillWithin w65 x91) fun st64 => some st64))) else none) : Option CS) = some o := h
  refine lv_aload_n hx hb dX0_solve_0 rfl (lv_at hl 0 rfl) ?_
  refine g0_20 E I dX0_solve_1 ?_
  refine lv_iload_n hx hb dX0_solve_4 rfl (lv_at hl 1 rfl) ?_
  refine lv_iconst (v := (0 : Int32)) hx hb dX0_solve_5 (by decide) ?_
  obtain ⟨hc1, h⟩ := gd h
  refine c_st15 E I (f := (c_size st)) rfl hc1 dX0_solve_6 (fun H locs I => ?_)
  refine lv_iconst (v := (0 : Int32)) hx hb dX0_solve_7 (by decide) ?_
  refine lv_istore_n (lv' := [(3, .int (0 : Int32)), (0, .ref (a 7)), (1, .int x91), (2, .int x92)]) hx hb dX0_solve_8 rfl hl (by decide) rfl (fun ls hl => ?_)
  obtain ⟨z11, hw12, h⟩ := bx1 h
  refine wh_W (P := fun (z : CS × Int32) => ∀ (H : Heap) (locs : List Loc) (ls : Array Slot), wk D (cW g a z.1) A H0 H locs → lv_has ls 8 [(0, .ref (a 7)), (1, .int x91), (2, .int x92), (3, .int z.2)] → W p l e (rmk 3 68) s m args below meth c H locs 0 0 Q (F0 m 9 ls [])) (X := fun (z : CS) => ∀ (H : Heap) (locs : List Loc) (ls : Array Slot), wk D (cW g a z) A H0 H locs → lv_has ls 8 [(0, .ref (a 7)), (1, .int x91), (2, .int x92)] → W p l e (rmk 3 68) s m args below meth c H locs 0 0 Q (F0 m 30 ls [])) ?_ FU _ _ hw12 ?_ _ _ _ I (lv_sub hl [1, 2, 3, 0] rfl)
  · intro z o6 h hk7 H locs ls I hl
    obtain ⟨st2, x5⟩ := z
    have h : ((if (16 : Int32) ≤ x5 then some (.inr st2) else (if ib x91 5 = true then (if ib x5 16 = true then some (.inl ((c_exactly_s st2 (va_up (c_exactly st2) x91.toNatClampNeg (vp_updL ((c_exactly st2) x91.toNatClampNeg) x5.toNatClampNeg (0 : Int64)))), (x5 + 1))) else none) else none)) : Option ((CS × Int32) ⊕ (CS))) = some o6 := h
    have I : wk D (cW g a st2) A H0 H locs := I
    have hl : lv_has ls 8 [(0, .ref (a 7)), (1, .int x91), (2, .int x92), (3, .int x5)] := hl
    refine lv_iload_n hx hb dX0_solve_9 rfl (lv_at hl 3 rfl) ?_
    refine lv_bipush (v := (16 : Int32)) hx hb dX0_solve_10 (by decide) ?_
    refine lv_icmp_ge (tgt := 30) hx hb dX0_solve_12 (by decide) (fun hc8 => ?_) (fun hc8 => ?_)
    · have h := ifp hc8 h
      cases h
      exact hk7 _ _ _ I (lv_sub hl [0, 1, 2] rfl)
    · have h := ifn hc8 h
      refine lv_aload_n hx hb dX0_solve_15 rfl (lv_at hl 0 rfl) ?_
      refine g0_25 E I dX0_solve_16 ?_
      refine lv_iload_n hx hb dX0_solve_19 rfl (lv_at hl 1 rfl) ?_
      obtain ⟨hc9, h⟩ := gd h
      refine c_al16 E I hc9 dX0_solve_20 ?_
      refine lv_iload_n hx hb dX0_solve_21 rfl (lv_at hl 3 rfl) ?_
      refine lv_lconst (v := (0 : Int64)) hx hb dX0_solve_22 (by decide) ?_
      obtain ⟨hc10, h⟩ := gd h
      refine c_st16 E I (f := (c_exactly st2)) rfl (ib_lt hc9) hc10 dX0_solve_23 (fun H locs I => ?_)
      refine lv_iinc (v := (x5 + 1)) (lv' := [(3, .int (x5 + 1)), (0, .ref (a 7)), (1, .int x91), (2, .int x92)]) hx hb dX0_solve_24 hl (k := 3) rfl rfl (by decide) rfl (fun ls hl => ?_)
      refine lv_goto (tgt := 9) hx hb dX0_solve_27 (by decide) ?_
      cases h
      exact hk7 _ _ _ I (lv_sub hl [1, 2, 3, 0] rfl)
  · obtain ⟨st13, rfl⟩ : ∃ y, y = z11 := ⟨_, rfl⟩
    intro H locs ls I hl
    have h : ((bi1 (wh (f0_solve_b32 x91 x92) FU (st13, (0 : Int32))) fun w65 => (bi1 (f0_fillWithin w65 x91) fun st64 => some st64)) : Option CS) = some o := h
    have I : wk D (cW g a st13) A H0 H locs := I
    have hl : lv_has ls 8 [(0, .ref (a 7)), (1, .int x91), (2, .int x92)] := hl
    refine lv_iconst (v := (0 : Int32)) hx hb dX0_solve_30 (by decide) ?_
    refine lv_istore_n (lv' := [(3, .int (0 : Int32)), (0, .ref (a 7)), (1, .int x91), (2, .int x92)]) hx hb dX0_solve_31 rfl hl (by decide) rfl (fun ls hl => ?_)
    obtain ⟨z60, hw61, h⟩ := bx1 h
    refine wh_W (P := fun (z : CS × Int32) => ∀ (H : Heap) (locs : List Loc) (ls : Array Slot), wk D (cW g a z.1) A H0 H locs → lv_has ls 8 [(0, .ref (a 7)), (1, .int x91), (2, .int x92), (3, .int z.2)] → W p l e (rmk 3 68) s m args below meth c H locs 0 0 Q (F0 m 32 ls [])) (X := fun (z : CS) => ∀ (H : Heap) (locs : List Loc) (ls : Array Slot), wk D (cW g a z) A H0 H locs → lv_has ls 8 [(0, .ref (a 7)), (1, .int x91)] → W p l e (rmk 3 68) s m args below meth c H locs 0 0 Q (F0 m 183 ls [])) ?_ FU _ _ hw61 ?_ _ _ _ I (lv_sub hl [1, 2, 3, 0] rfl)
    · intro z o18 h hk19 H locs ls I hl
      obtain ⟨st14, x17⟩ := z
      have h : ((bi1 (f0_top st14 (0 : Int32)) fun r21 => (if r21 < x17 then some (.inr st14) else (if x92 < (((c_weight st14) (0 : Int32).toNatClampNeg) * x17) then some (.inr st14) else (bi1 (wh (f0_solve_b68 x91 x92 x17 (x92 - (((c_weight st14) (0 : Int32).toNatClampNeg) * x17))) FU (st14, (0 : Int32))) fun w59 => some (.inl (w59, (x17 + 1))))))) : Option ((CS × Int32) ⊕ (CS))) = some o18 := h
      have I : wk D (cW g a st14) A H0 H locs := I
      have hl : lv_has ls 8 [(0, .ref (a 7)), (1, .int x91), (2, .int x92), (3, .int x17)] := hl
      refine lv_iload_n hx hb dX0_solve_32 rfl (lv_at hl 3 rfl) ?_
      refine lv_aload_n hx hb dX0_solve_33 rfl (lv_at hl 0 rfl) ?_
      refine lv_iconst (v := (0 : Int32)) hx hb dX0_solve_34 (by decide) ?_
      obtain ⟨r21, hc20, h⟩ := bx1 h
      refine r_callV1 (As := [.int (0 : Int32)]) (rest := [.int x17]) (ws' := (cW g a st14)) (q0 := 7) E I hl.1 k0_70 (c0_top hc20) cW_k rfl rfl rfl rfl (Nat.le_of_ble_eq_true rfl) ⟨Nat.le_of_ble_eq_true rfl, Nat.le_of_ble_eq_true rfl⟩ ⟨Nat.zero_le _, Nat.zero_le _⟩ dX0_solve_35 (fun H locs I => ?_)
      refine lv_icmp_gt (tgt := 183) hx hb dX0_solve_38 (by decide) (fun hc22 => ?_) (fun hc22 => ?_)
      · have h := ifp hc22 h
        cases h
        exact hk19 _ _ _ I (lv_sub hl [0, 1] rfl)
      · have h := ifn hc22 h
        refine lv_aload_n hx hb dX0_solve_41 rfl (lv_at hl 0 rfl) ?_
        refine g0_9 E I dX0_solve_42 ?_
        refine lv_iconst (v := (0 : Int32)) hx hb dX0_solve_45 (by decide) ?_
        refine c_ld13 E I (f := (c_weight st14)) rfl (by decide) dX0_solve_46 ?_
        refine lv_iload_n hx hb dX0_solve_47 rfl (lv_at hl 3 rfl) ?_
        refine lv_imul hx hb dX0_solve_48 ?_
        refine lv_iload_n hx hb dX0_solve_49 rfl (lv_at hl 2 rfl) ?_
        refine lv_icmp_gt (tgt := 183) hx hb dX0_solve_50 (by decide) (fun hc23 => ?_) (fun hc23 => ?_)
        · have h := ifp hc23 h
          cases h
          exact hk19 _ _ _ I (lv_sub hl [0, 1] rfl)
        · have h := ifn hc23 h
          refine lv_iload_n hx hb dX0_solve_53 rfl (lv_at hl 2 rfl) ?_
          refine lv_aload_n hx hb dX0_solve_54 rfl (lv_at hl 0 rfl) ?_
          refine g0_9 E I dX0_solve_55 ?_
          refine lv_iconst (v := (0 : Int32)) hx hb dX0_solve_58 (by decide) ?_
          refine c_ld13 E I (f := (c_weight st14)) rfl (by decide) dX0_solve_59 ?_
          refine lv_iload_n hx hb dX0_solve_60 rfl (lv_at hl 3 rfl) ?_
          refine lv_imul hx hb dX0_solve_61 ?_
          refine lv_isub hx hb dX0_solve_62 ?_
          refine lv_istore (lv' := [(4, .int (x92 - (((c_weight st14) (0 : Int32).toNatClampNeg) * x17))), (0, .ref (a 7)), (1, .int x91), (2, .int x92), (3, .int x17)]) hx hb dX0_solve_63 hl (by decide) rfl (fun ls hl => ?_)
          refine lv_iconst (v := (0 : Int32)) hx hb dX0_solve_65 (by decide) ?_
          refine lv_istore (lv' := [(5, .int (0 : Int32)), (4, .int (x92 - (((c_weight st14) (0 : Int32).toNatClampNeg) * x17))), (0, .ref (a 7)), (1, .int x91), (2, .int x92), (3, .int x17)]) hx hb dX0_solve_66 hl (by decide) rfl (fun ls hl => ?_)
          obtain ⟨z56, hw57, h⟩ := bx1 h
          refine wh_W (P := fun (z : CS × Int32) => ∀ (H : Heap) (locs : List Loc) (ls : Array Slot), wk D (cW g a z.1) A H0 H locs → lv_has ls 8 [(0, .ref (a 7)), (1, .int x91), (2, .int x92), (3, .int x17), (4, .int (x92 - (((c_weight st14) (0 : Int32).toNatClampNeg) * x17))), (5, .int z.2)] → W p l e (rmk 3 68) s m args below meth c H locs 0 0 Q (F0 m 68 ls [])) (X := fun (z : CS) => ∀ (H : Heap) (locs : List Loc) (ls : Array Slot), wk D (cW g a z) A H0 H locs → lv_has ls 8 [(0, .ref (a 7)), (1, .int x91), (2, .int x92), (3, .int x17)] → W p l e (rmk 3 68) s m args below meth c H locs 0 0 Q (F0 m 177 ls [])) ?_ FU _ _ hw57 ?_ _ _ _ I (lv_sub hl [2, 3, 4, 5, 1, 0] rfl)
          · intro z o30 h hk31 H locs ls I hl
            obtain ⟨st24, x29⟩ := z
            have h : ((bi1 (f0_top st24 (1 : Int32)) fun r33 => (if r33 < x29 then some (.inr st24) else (if (x92 - (((c_weight st14) (0 : Int32).toNatClampNeg) * x17)) < (((c_weight st24) (1 : Int32).toNatClampNeg) * x29) then some (.inr st24) else (bi1 (wh (f0_solve_b109 x91 x92 x17 (x92 - (((c_weight st14) (0 : Int32).toNatClampNeg) * x17)) x29 ((x92 - (((c_weight st14) (0 : Int32).toNatClampNeg) * x17)) - (((c_weight st24) (1 : Int32).toNatClampNeg) * x29))) FU (st24, (0 : Int32))) fun w55 => some (.inl (w55, (x29 + 1))))))) : Option ((CS × Int32) ⊕ (CS))) = some o30 := h
            have I : wk D (cW g a st24) A H0 H locs := I
            have hl : lv_has ls 8 [(0, .ref (a 7)), (1, .int x91), (2, .int x92), (3, .int x17), (4, .int (x92 - (((c_weight st14) (0 : Int32).toNatClampNeg) * x17))), (5, .int x29)] := hl
            refine lv_iload hx hb dX0_solve_68 (lv_at hl 5 rfl) ?_
            refine lv_aload_n hx hb dX0_solve_70 rfl (lv_at hl 0 rfl) ?_
            refine lv_iconst (v := (1 : Int32)) hx hb dX0_solve_71 (by decide) ?_
            obtain ⟨r33, hc32, h⟩ := bx1 h
            refine r_callV1 (As := [.int (1 : Int32)]) (rest := [.int x29]) (ws' := (cW g a st24)) (q0 := 7) E I hl.1 k0_70 (c0_top hc32) cW_k rfl rfl rfl rfl (Nat.le_of_ble_eq_true rfl) ⟨Nat.le_of_ble_eq_true rfl, Nat.le_of_ble_eq_true rfl⟩ ⟨Nat.zero_le _, Nat.zero_le _⟩ dX0_solve_72 (fun H locs I => ?_)
            refine lv_icmp_gt (tgt := 177) hx hb dX0_solve_75 (by decide) (fun hc34 => ?_) (fun hc34 => ?_)
            · have h := ifp hc34 h
              cases h
              exact hk31 _ _ _ I (lv_sub hl [0, 1, 2, 3] rfl)
            · have h := ifn hc34 h
              refine lv_aload_n hx hb dX0_solve_78 rfl (lv_at hl 0 rfl) ?_
              refine g0_9 E I dX0_solve_79 ?_
              refine lv_iconst (v := (1 : Int32)) hx hb dX0_solve_82 (by decide) ?_
              refine c_ld13 E I (f := (c_weight st24)) rfl (by decide) dX0_solve_83 ?_
              refine lv_iload hx hb dX0_solve_84 (lv_at hl 5 rfl) ?_
              refine lv_imul hx hb dX0_solve_86 ?_
              refine lv_iload hx hb dX0_solve_87 (lv_at hl 4 rfl) ?_
              refine lv_icmp_gt (tgt := 177) hx hb dX0_solve_89 (by decide) (fun hc35 => ?_) (fun hc35 => ?_)
              · have h := ifp hc35 h
                cases h
                exact hk31 _ _ _ I (lv_sub hl [0, 1, 2, 3] rfl)
              · have h := ifn hc35 h
                refine lv_iload hx hb dX0_solve_92 (lv_at hl 4 rfl) ?_
                refine lv_aload_n hx hb dX0_solve_94 rfl (lv_at hl 0 rfl) ?_
                refine g0_9 E I dX0_solve_95 ?_
                refine lv_iconst (v := (1 : Int32)) hx hb dX0_solve_98 (by decide) ?_
                refine c_ld13 E I (f := (c_weight st24)) rfl (by decide) dX0_solve_99 ?_
                refine lv_iload hx hb dX0_solve_100 (lv_at hl 5 rfl) ?_
                refine lv_imul hx hb dX0_solve_102 ?_
                refine lv_isub hx hb dX0_solve_103 ?_
                refine lv_istore (lv' := [(6, .int ((x92 - (((c_weight st14) (0 : Int32).toNatClampNeg) * x17)) - (((c_weight st24) (1 : Int32).toNatClampNeg) * x29))), (0, .ref (a 7)), (1, .int x91), (2, .int x92), (3, .int x17), (4, .int (x92 - (((c_weight st14) (0 : Int32).toNatClampNeg) * x17))), (5, .int x29)]) hx hb dX0_solve_104 hl (by decide) rfl (fun ls hl => ?_)
                refine lv_iconst (v := (0 : Int32)) hx hb dX0_solve_106 (by decide) ?_
                refine lv_istore (lv' := [(7, .int (0 : Int32)), (6, .int ((x92 - (((c_weight st14) (0 : Int32).toNatClampNeg) * x17)) - (((c_weight st24) (1 : Int32).toNatClampNeg) * x29))), (0, .ref (a 7)), (1, .int x91), (2, .int x92), (3, .int x17), (4, .int (x92 - (((c_weight st14) (0 : Int32).toNatClampNeg) * x17))), (5, .int x29)]) hx hb dX0_solve_107 hl (by decide) rfl (fun ls hl => ?_)
                obtain ⟨z52, hw53, h⟩ := bx1 h
                refine wh_W (P := fun (z : CS × Int32) => ∀ (H : Heap) (locs : List Loc) (ls : Array Slot), wk D (cW g a z.1) A H0 H locs → lv_has ls 8 [(0, .ref (a 7)), (1, .int x91), (2, .int x92), (3, .int x17), (4, .int (x92 - (((c_weight st14) (0 : Int32).toNatClampNeg) * x17))), (5, .int x29), (6, .int ((x92 - (((c_weight st14) (0 : Int32).toNatClampNeg) * x17)) - (((c_weight st24) (1 : Int32).toNatClampNeg) * x29))), (7, .int z.2)] → W p l e (rmk 3 68) s m args below meth c H locs 0 0 Q (F0 m 109 ls [])) (X := fun (z : CS) => ∀ (H : Heap) (locs : List Loc) (ls : Array Slot), wk D (cW g a z) A H0 H locs → lv_has ls 8 [(0, .ref (a 7)), (1, .int x91), (2, .int x92), (3, .int x17), (4, .int (x92 - (((c_weight st14) (0 : Int32).toNatClampNeg) * x17))), (5, .int x29)] → W p l e (rmk 3 68) s m args below meth c H locs 0 0 Q (F0 m 171 ls [])) ?_ FU _ _ hw53 ?_ _ _ _ I (lv_sub hl [2, 3, 4, 5, 6, 7, 1, 0] rfl)
                · intro z o44 h hk45 H locs ls I hl
                  obtain ⟨st36, x43⟩ := z
                  have h : ((bi1 (f0_top st36 (2 : Int32)) fun r47 => (if r47 < x43 then some (.inr st36) else (if ((x92 - (((c_weight st14) (0 : Int32).toNatClampNeg) * x17)) - (((c_weight st24) (1 : Int32).toNatClampNeg) * x29)) < (((c_weight st36) (2 : Int32).toNatClampNeg) * x43) then some (.inr st36) else (bi1 (f0_solveLast st36 x91 (((x17 <<< ((12 : Int32) &&& 31)) ||| (x29 <<< ((8 : Int32) &&& 31))) ||| (x43 <<< ((4 : Int32) &&& 31))) (((x92 - (((c_weight st14) (0 : Int32).toNatClampNeg) * x17)) - (((c_weight st24) (1 : Int32).toNatClampNeg) * x29)) - (((c_weight st36) (2 : Int32).toNatClampNeg) * x43))) fun st51 => some (.inl (st51, (x43 + 1))))))) : Option ((CS × Int32) ⊕ (CS))) = some o44 := h
                  have I : wk D (cW g a st36) A H0 H locs := I
                  have hl : lv_has ls 8 [(0, .ref (a 7)), (1, .int x91), (2, .int x92), (3, .int x17), (4, .int (x92 - (((c_weight st14) (0 : Int32).toNatClampNeg) * x17))), (5, .int x29), (6, .int ((x92 - (((c_weight st14) (0 : Int32).toNatClampNeg) * x17)) - (((c_weight st24) (1 : Int32).toNatClampNeg) * x29))), (7, .int x43)] := hl
                  refine lv_iload hx hb dX0_solve_109 (lv_at hl 7 rfl) ?_
                  refine lv_aload_n hx hb dX0_solve_111 rfl (lv_at hl 0 rfl) ?_
                  refine lv_iconst (v := (2 : Int32)) hx hb dX0_solve_112 (by decide) ?_
                  obtain ⟨r47, hc46, h⟩ := bx1 h
                  refine r_callV1 (As := [.int (2 : Int32)]) (rest := [.int x43]) (ws' := (cW g a st36)) (q0 := 7) E I hl.1 k0_70 (c0_top hc46) cW_k rfl rfl rfl rfl (Nat.le_of_ble_eq_true rfl) ⟨Nat.le_of_ble_eq_true rfl, Nat.le_of_ble_eq_true rfl⟩ ⟨Nat.zero_le _, Nat.zero_le _⟩ dX0_solve_113 (fun H locs I => ?_)
                  refine lv_icmp_gt (tgt := 171) hx hb dX0_solve_116 (by decide) (fun hc48 => ?_) (fun hc48 => ?_)
                  · have h := ifp hc48 h
                    cases h
                    exact hk45 _ _ _ I (lv_sub hl [0, 1, 2, 3, 4, 5] rfl)
                  · have h := ifn hc48 h
                    refine lv_aload_n hx hb dX0_solve_119 rfl (lv_at hl 0 rfl) ?_
                    refine g0_9 E I dX0_solve_120 ?_
                    refine lv_iconst (v := (2 : Int32)) hx hb dX0_solve_123 (by decide) ?_
                    refine c_ld13 E I (f := (c_weight st36)) rfl (by decide) dX0_solve_124 ?_
                    refine lv_iload hx hb dX0_solve_125 (lv_at hl 7 rfl) ?_
                    refine lv_imul hx hb dX0_solve_127 ?_
                    refine lv_iload hx hb dX0_solve_128 (lv_at hl 6 rfl) ?_
                    refine lv_icmp_gt (tgt := 171) hx hb dX0_solve_130 (by decide) (fun hc49 => ?_) (fun hc49 => ?_)
                    · have h := ifp hc49 h
                      cases h
                      exact hk45 _ _ _ I (lv_sub hl [0, 1, 2, 3, 4, 5] rfl)
                    · have h := ifn hc49 h
                      refine lv_aload_n hx hb dX0_solve_133 rfl (lv_at hl 0 rfl) ?_
                      refine lv_iload_n hx hb dX0_solve_134 rfl (lv_at hl 1 rfl) ?_
                      refine lv_iload_n hx hb dX0_solve_135 rfl (lv_at hl 3 rfl) ?_
                      refine lv_bipush (v := (12 : Int32)) hx hb dX0_solve_136 (by decide) ?_
                      refine lv_ishl hx hb dX0_solve_138 ?_
                      refine lv_iload hx hb dX0_solve_139 (lv_at hl 5 rfl) ?_
                      refine lv_bipush (v := (8 : Int32)) hx hb dX0_solve_141 (by decide) ?_
                      refine lv_ishl hx hb dX0_solve_143 ?_
                      refine lv_ior hx hb dX0_solve_144 ?_
                      refine lv_iload hx hb dX0_solve_145 (lv_at hl 7 rfl) ?_
                      refine lv_iconst (v := (4 : Int32)) hx hb dX0_solve_147 (by decide) ?_
                      refine lv_ishl hx hb dX0_solve_148 ?_
                      refine lv_ior hx hb dX0_solve_149 ?_
                      refine lv_iload hx hb dX0_solve_150 (lv_at hl 6 rfl) ?_
                      refine lv_aload_n hx hb dX0_solve_152 rfl (lv_at hl 0 rfl) ?_
                      refine g0_9 E I dX0_solve_153 ?_
                      refine lv_iconst (v := (2 : Int32)) hx hb dX0_solve_156 (by decide) ?_
                      refine c_ld13 E I (f := (c_weight st36)) rfl (by decide) dX0_solve_157 ?_
                      refine lv_iload hx hb dX0_solve_158 (lv_at hl 7 rfl) ?_
                      refine lv_imul hx hb dX0_solve_160 ?_
                      refine lv_isub hx hb dX0_solve_161 ?_
                      obtain ⟨st51, hc50, h⟩ := bx1 h
                      refine r_callV0 (As := [.int x91, .int (((x17 <<< ((12 : Int32) &&& 31)) ||| (x29 <<< ((8 : Int32) &&& 31))) ||| (x43 <<< ((4 : Int32) &&& 31))), .int (((x92 - (((c_weight st14) (0 : Int32).toNatClampNeg) * x17)) - (((c_weight st24) (1 : Int32).toNatClampNeg) * x29)) - (((c_weight st36) (2 : Int32).toNatClampNeg) * x43))]) (rest := []) (ws' := (cW g a st51)) (q0 := 7) E I hl.1 k0_73 (c0_solveLast hc50) cW_k rfl rfl rfl rfl (Nat.le_of_ble_eq_true rfl) ⟨Nat.le_of_ble_eq_true rfl, Nat.le_of_ble_eq_true rfl⟩ ⟨Nat.zero_le _, Nat.zero_le _⟩ dX0_solve_162 (fun H locs I => ?_)
                      refine lv_iinc (v := (x43 + 1)) (lv' := [(7, .int (x43 + 1)), (0, .ref (a 7)), (1, .int x91), (2, .int x92), (3, .int x17), (4, .int (x92 - (((c_weight st14) (0 : Int32).toNatClampNeg) * x17))), (5, .int x29), (6, .int ((x92 - (((c_weight st14) (0 : Int32).toNatClampNeg) * x17)) - (((c_weight st24) (1 : Int32).toNatClampNeg) * x29)))]) hx hb dX0_solve_165 hl (k := 7) rfl rfl (by decide) rfl (fun ls hl => ?_)
                      refine lv_goto (tgt := 109) hx hb dX0_solve_168 (by decide) ?_
                      cases h
                      exact hk45 _ _ _ I (lv_sub hl [1, 2, 3, 4, 5, 6, 7, 0] rfl)
                · obtain ⟨st54, rfl⟩ : ∃ y, y = z52 := ⟨_, rfl⟩
                  intro H locs ls I hl
                  have h : (some (.inl (st54, (x29 + 1))) : Option ((CS × Int32) ⊕ (CS))) = some o30 := h
                  have I : wk D (cW g a st54) A H0 H locs := I
                  have hl : lv_has ls 8 [(0, .ref (a 7)), (1, .int x91), (2, .int x92), (3, .int x17), (4, .int (x92 - (((c_weight st14) (0 : Int32).toNatClampNeg) * x17))), (5, .int x29)] := hl
                  refine lv_iinc (v := (x29 + 1)) (lv' := [(5, .int (x29 + 1)), (0, .ref (a 7)), (1, .int x91), (2, .int x92), (3, .int x17), (4, .int (x92 - (((c_weight st14) (0 : Int32).toNatClampNeg) * x17)))]) hx hb dX0_solve_171 hl (k := 5) rfl rfl (by decide) rfl (fun ls hl => ?_)
                  refine lv_goto (tgt := 68) hx hb dX0_solve_174 (by decide) ?_
                  cases h
                  exact hk31 _ _ _ I (lv_sub hl [1, 2, 3, 4, 5, 0] rfl)
          · obtain ⟨st58, rfl⟩ : ∃ y, y = z56 := ⟨_, rfl⟩
            intro H locs ls I hl
            have h : (some (.inl (st58, (x17 + 1))) : Option ((CS × Int32) ⊕ (CS))) = some o18 := h
            have I : wk D (cW g a st58) A H0 H locs := I
            have hl : lv_has ls 8 [(0, .ref (a 7)), (1, .int x91), (2, .int x92), (3, .int x17)] := hl
            refine lv_iinc (v := (x17 + 1)) (lv' := [(3, .int (x17 + 1)), (0, .ref (a 7)), (1, .int x91), (2, .int x92)]) hx hb dX0_solve_177 hl (k := 3) rfl rfl (by decide) rfl (fun ls hl => ?_)
            refine lv_goto (tgt := 32) hx hb dX0_solve_180 (by decide) ?_
            cases h
            exact hk19 _ _ _ I (lv_sub hl [1, 2, 3, 0] rfl)
    · obtain ⟨st62, rfl⟩ : ∃ y, y = z60 := ⟨_, rfl⟩
      intro H locs ls I hl
      have h : ((bi1 (f0_fillWithin st62 x91) fun st64 => some st64) : Option CS) = some o := h
      have I : wk D (cW g a st62) A H0 H locs := I
      have hl : lv_has ls 8 [(0, .ref (a 7)), (1, .int x91)] := hl
      refine lv_aload_n hx hb dX0_solve_183 rfl (lv_at hl 0 rfl) ?_
      refine lv_iload_n hx hb dX0_solve_184 rfl (lv_at hl 1 rfl) ?_
      obtain ⟨st64, hc63, h⟩ := bx1 h
      refine r_callV0 (As := [.int x91]) (rest := []) (ws' := (cW g a st64)) (q0 := 7) E I hl.1 k0_77 (c0_fillWithin hc63) cW_k rfl rfl rfl rfl (Nat.le_of_ble_eq_true rfl) ⟨Nat.le_of_ble_eq_true rfl, Nat.le_of_ble_eq_true rfl⟩ ⟨Nat.zero_le _, Nat.zero_le _⟩ dX0_solve_185 (fun H locs I => ?_)
      cases h
      exact K _ _ _ _ I dX0_solve_188
set_option maxHeartbeats 4000000 in
set_option maxRecDepth 100000 in
theorem c0_waysFrom {l : Launch} {D : va_G} {g : Nat → ClassId} {a : Nat → Nat} {st : CS} {x91 : Int32} {x92 : Int32} {o : Int64} (h : f0_waysFrom st x91 x92 = some o) : ct l yX0_waysFrom cX0_waysFrom 6 (some .long) (rmk 0 0) D g (cW g a st) (cW g a st) [.ref (a 7), .int x91, .int x92] (some (.long o)) := by
  refine ct_of ⟨rfl, rfl⟩ (by decide) (Nat.le_of_ble_eq_true rfl) ?_
  intro p e s m args below meth c ls Q A H0 H locs E I hl K
  have E : en p m c cX0_waysFrom 6 s args RX0 D g := E
  have hx := E.1.1
  have hb := E.1.2.1
  have hl : lv_has ls 6 [(0, .ref (a 7)), (1, .int x91), (2, .int x92)] := hl
  have K : ∀ (pc : Nat) (ls : Array Slot) (H : Heap) (locs : List Loc), wk D (cW g a st) A H0 H locs → decode cX0_waysFrom pc = .ok (.lreturn, 1) → W p l e (rmk 0 0) s m args below meth c H locs 0 0 Q (F0 m pc ls [.long o]) := fun pc ls H locs I hd => K pc ls H locs I hd
  have h : ((bi1 (wh (f0_waysFrom_b5 st x91 x92) FU ((0 : Int64), (0 : Int32))) fun w18 => some w18) : Option Int64) = some o := h
  refine lv_lconst (v := (0 : Int64)) hx hb dX0_waysFrom_0 (by decide) ?_
  refine lv_lstore_n (lv' := [(3, .long (0 : Int64)), (0, .ref (a 7)), (1, .int x91), (2, .int x92)]) hx hb dX0_waysFrom_1 rfl hl (by decide) rfl (fun ls hl => ?_)
  refine lv_iconst (v := (0 : Int32)) hx hb dX0_waysFrom_2 (by decide) ?_
  refine lv_istore (lv' := [(5, .int (0 : Int32)), (3, .long (0 : Int64)), (0, .ref (a 7)), (1, .int x91), (2, .int x92)]) hx hb dX0_waysFrom_3 hl (by decide) rfl (fun ls hl => ?_)
  obtain ⟨z15, hw16, h⟩ := bx1 h
  refine wh_W (P := fun (z : Int64 × Int32) => ∀ (H : Heap) (locs : List Loc) (ls : Array Slot), wk D (cW g a st) A H0 H locs → lv_has ls 6 [(0, .ref (a 7)), (1, .int x91), (2, .int x92), (3, .long z.1), (5, .int z.2)] → W p l e (rmk 0 0) s m args below meth c H locs 0 0 Q (F0 m 5 ls [])) (X := fun (z : Int64) => ∀ (H : Heap) (locs : List Loc) (ls : Array Slot), wk D (cW g a st) A H0 H locs → lv_has ls 6 [(3, .long z)] → W p l e (rmk 0 0) s m args below meth c H locs 0 0 Q (F0 m 44 ls [])) ?_ FU _ _ hw16 ?_ _ _ _ I (lv_sub hl [2, 3, 4, 1, 0] rfl)
  · intro z o6 h hk7 H locs ls I hl
    obtain ⟨x4, x5⟩ := z
    have h : ((if (16 : Int32) ≤ x5 then some (.inr x4) else (if ib x91 5 = true then (if ib x5 16 = true then (if ib (x91 + (1 : Int32)) 5 = true then (if ib (x92 ||| x5) 16 = true then (lq (x4 + (((c_exactly st) x91.toNatClampNeg x5.toNatClampNeg) * ((c_eways st) (x91 + (1 : Int32)).toNatClampNeg (x92 ||| x5).toNatClampNeg))) fun x13 => some (.inl (x13, (x5 + 1)))) else none) else none) else none) else none)) : Option ((Int64 × Int32) ⊕ (Int64))) = some o6 := h
    have I : wk D (cW g a st) A H0 H locs := I
    have hl : lv_has ls 6 [(0, .ref (a 7)), (1, .int x91), (2, .int x92), (3, .long x4), (5, .int x5)] := hl
    refine lv_iload hx hb dX0_waysFrom_5 (lv_at hl 4 rfl) ?_
    refine lv_bipush (v := (16 : Int32)) hx hb dX0_waysFrom_7 (by decide) ?_
    refine lv_icmp_ge (tgt := 44) hx hb dX0_waysFrom_9 (by decide) (fun hc8 => ?_) (fun hc8 => ?_)
    · have h := ifp hc8 h
      cases h
      exact hk7 _ _ _ I (lv_sub hl [3] rfl)
    · have h := ifn hc8 h
      refine lv_lload_n hx hb dX0_waysFrom_12 rfl (lv_at hl 3 rfl) ?_
      refine lv_aload_n hx hb dX0_waysFrom_13 rfl (lv_at hl 0 rfl) ?_
      refine g0_25 E I dX0_waysFrom_14 ?_
      refine lv_iload_n hx hb dX0_waysFrom_17 rfl (lv_at hl 1 rfl) ?_
      obtain ⟨hc9, h⟩ := gd h
      refine c_al16 E I hc9 dX0_waysFrom_18 ?_
      refine lv_iload hx hb dX0_waysFrom_19 (lv_at hl 4 rfl) ?_
      obtain ⟨hc10, h⟩ := gd h
      refine c_ld16 E I (f := (c_exactly st)) rfl (ib_lt hc9) hc10 dX0_waysFrom_21 ?_
      refine lv_aload_n hx hb dX0_waysFrom_22 rfl (lv_at hl 0 rfl) ?_
      refine g0_31 E I dX0_waysFrom_23 ?_
      refine lv_iload_n hx hb dX0_waysFrom_26 rfl (lv_at hl 1 rfl) ?_
      refine lv_iconst (v := (1 : Int32)) hx hb dX0_waysFrom_27 (by decide) ?_
      refine lv_iadd hx hb dX0_waysFrom_28 ?_
      obtain ⟨hc11, h⟩ := gd h
      refine c_al18 E I hc11 dX0_waysFrom_29 ?_
      refine lv_iload_n hx hb dX0_waysFrom_30 rfl (lv_at hl 2 rfl) ?_
      refine lv_iload hx hb dX0_waysFrom_31 (lv_at hl 4 rfl) ?_
      refine lv_ior hx hb dX0_waysFrom_33 ?_
      obtain ⟨hc12, h⟩ := gd h
      refine c_ld18 E I (f := (c_eways st)) rfl (ib_lt hc11) hc12 dX0_waysFrom_34 ?_
      refine lv_lmul hx hb dX0_waysFrom_35 ?_
      refine lv_ladd hx hb dX0_waysFrom_36 ?_
      obtain ⟨x13, hx14, h⟩ := lqx h
      refine lv_lstore_n (x := (x4 + (((c_exactly st) x91.toNatClampNeg x5.toNatClampNeg) * ((c_eways st) (x91 + (1 : Int32)).toNatClampNeg (x92 ||| x5).toNatClampNeg)))) (lv' := [(3, .long x13), (0, .ref (a 7)), (1, .int x91), (2, .int x92), (5, .int x5)]) hx hb dX0_waysFrom_37 rfl hl (by decide) (by subst hx14; rfl) (fun ls hl => ?_)
      refine lv_iinc (v := (x5 + 1)) (lv' := [(5, .int (x5 + 1)), (3, .long x13), (0, .ref (a 7)), (1, .int x91), (2, .int x92)]) hx hb dX0_waysFrom_38 hl (k := 4) rfl rfl (by decide) rfl (fun ls hl => ?_)
      refine lv_goto (tgt := 5) hx hb dX0_waysFrom_41 (by decide) ?_
      cases h
      exact hk7 _ _ _ I (lv_sub hl [2, 3, 4, 1, 0] rfl)
  · obtain ⟨x17, rfl⟩ : ∃ y, y = z15 := ⟨_, rfl⟩
    intro H locs ls I hl
    have h : (some x17 : Option Int64) = some o := h
    have I : wk D (cW g a st) A H0 H locs := I
    have hl : lv_has ls 6 [(3, .long x17)] := hl
    refine lv_lload_n hx hb dX0_waysFrom_44 rfl (lv_at hl 0 rfl) ?_
    cases h
    exact K _ _ _ _ I dX0_waysFrom_45
set_option maxHeartbeats 4000000 in
set_option maxRecDepth 100000 in
theorem c0_fillWays {l : Launch} {D : va_G} {g : Nat → ClassId} {a : Nat → Nat} {st : CS} {o : CS} (h : f0_fillWays st = some o) : ct l yX0_fillWays cX0_fillWays 3 none (rmk 1 25) D g (cW g a st) (cW g a o) [.ref (a 7)] none := by
  refine ct_of ⟨rfl, rfl⟩ (by decide) (Nat.le_of_ble_eq_true rfl) ?_
  intro p e s m args below meth c ls Q A H0 H locs E I hl K
  have E : en p m c cX0_fillWays 3 s args RX0 D g := E
  have hx := E.1.1
  have hb := E.1.2.1
  have hl : lv_has ls 3 [(0, .ref (a 7))] := hl
  have K : ∀ (pc : Nat) (ls : Array Slot) (H : Heap) (locs : List Loc), wk D (cW g a o) A H0 H locs → decode cX0_fillWays pc = .ok (.return_, 1) → W p l e (rmk 1 25) s m args below meth c H locs 0 0 Q (F0 m pc ls []) := fun pc ls H locs I hd => K pc ls H locs I hd
  have h : ((bi1 (wh (f0_fillWays_b2) FU (st, (0 : Int32))) fun w39 => (bi1 (wh (f0_fillWays_b44) FU (w39, (3 : Int32))) fun w38 => some w38)) : Option CS) = some o := h
  refine lv_iconst (v := (0 : Int32)) hx hb dX0_fillWays_0 (by decide) ?_
  refine lv_istore_n (lv' := [(1, .int (0 : Int32)), (0, .ref (a 7))]) hx hb dX0_fillWays_1 rfl hl (by decide) rfl (fun ls hl => ?_)
  obtain ⟨z13, hw14, h⟩ := bx1 h
  refine wh_W (P := fun (z : CS × Int32) => ∀ (H : Heap) (locs : List Loc) (ls : Array Slot), wk D (cW g a z.1) A H0 H locs → lv_has ls 3 [(0, .ref (a 7)), (1, .int z.2)] → W p l e (rmk 1 25) s m args below meth c H locs 0 0 Q (F0 m 2 ls [])) (X := fun (z : CS) => ∀ (H : Heap) (locs : List Loc) (ls : Array Slot), wk D (cW g a z) A H0 H locs → lv_has ls 3 [(0, .ref (a 7))] → W p l e (rmk 1 25) s m args below meth c H locs 0 0 Q (F0 m 42 ls [])) ?_ FU _ _ hw14 ?_ _ _ _ I (lv_sub hl [1, 0] rfl)
  · intro z o3 h hk4 H locs ls I hl
    obtain ⟨st1, x2⟩ := z
    have h : ((if (16 : Int32) ≤ x2 then some (.inr st1) else (if (c_canBeEmpty st1) = 0 then (if ib x2 16 = true then some (.inl ((c_eways_s st1 (va_up (c_eways st1) (4 : Int32).toNatClampNeg (vp_updL ((c_eways st1) (4 : Int32).toNatClampNeg) x2.toNatClampNeg (if x2 = (c_used st1) then (1 : Int64) else (0 : Int64))))), (x2 + 1))) else none) else (if ib x2 16 = true then some (.inl ((c_eways_s st1 (va_up (c_eways st1) (4 : Int32).toNatClampNeg (vp_updL ((c_eways st1) (4 : Int32).toNatClampNeg) x2.toNatClampNeg (1 : Int64)))), (x2 + 1))) else none))) : Option ((CS × Int32) ⊕ (CS))) = some o3 := h
    have I : wk D (cW g a st1) A H0 H locs := I
    have hl : lv_has ls 3 [(0, .ref (a 7)), (1, .int x2)] := hl
    refine lv_iload_n hx hb dX0_fillWays_2 rfl (lv_at hl 1 rfl) ?_
    refine lv_bipush (v := (16 : Int32)) hx hb dX0_fillWays_3 (by decide) ?_
    refine lv_icmp_ge (tgt := 42) hx hb dX0_fillWays_5 (by decide) (fun hc5 => ?_) (fun hc5 => ?_)
    · have h := ifp hc5 h
      cases h
      exact hk4 _ _ _ I (lv_sub hl [0] rfl)
    · have h := ifn hc5 h
      refine lv_aload_n hx hb dX0_fillWays_8 rfl (lv_at hl 0 rfl) ?_
      refine g0_31 E I dX0_fillWays_9 ?_
      refine lv_iconst (v := (4 : Int32)) hx hb dX0_fillWays_12 (by decide) ?_
      refine c_al18 E I (by decide) dX0_fillWays_13 ?_
      refine lv_iload_n hx hb dX0_fillWays_14 rfl (lv_at hl 1 rfl) ?_
      refine lv_aload_n hx hb dX0_fillWays_15 rfl (lv_at hl 0 rfl) ?_
      refine g0_45 E I (v := (c_canBeEmpty st1)) rfl dX0_fillWays_16 ?_
      refine lv_if_ne (tgt := 30) hx hb dX0_fillWays_19 (by decide) (fun hc6 => ?_) (fun hc6 => ?_)
      · have h := ifn hc6 h
        refine lv_lconst (v := (1 : Int64)) hx hb dX0_fillWays_30 (by decide) ?_
        refine lv_goto (tgt := 35) hx hb dX0_fillWays_31 (by decide) ?_
        obtain ⟨hc7, h⟩ := gd h
        refine c_st18 E I (f := (c_eways st1)) rfl (ib_lt (show ib (4 : Int32) 5 = true by decide)) hc7 dX0_fillWays_35 (fun H locs I => ?_)
        refine lv_iinc (v := (x2 + 1)) (lv' := [(1, .int (x2 + 1)), (0, .ref (a 7))]) hx hb dX0_fillWays_36 hl (k := 1) rfl rfl (by decide) rfl (fun ls hl => ?_)
        refine lv_goto (tgt := 2) hx hb dX0_fillWays_39 (by decide) ?_
        cases h
        exact hk4 _ _ _ I (lv_sub hl [1, 0] rfl)
      · have h := ifp hc6 h
        refine lv_iload_n hx hb dX0_fillWays_22 rfl (lv_at hl 1 rfl) ?_
        refine lv_aload_n hx hb dX0_fillWays_23 rfl (lv_at hl 0 rfl) ?_
        refine g0_41 E I (v := (c_used st1)) rfl dX0_fillWays_24 ?_
        have J9 : ∀ (v8 : Int64) (H : Heap) (locs : List Loc), v8 = (if x2 = (c_used st1) then (1 : Int64) else (0 : Int64)) → wk D (cW g a st1) A H0 H locs → W p l e (rmk 1 25) s m args below meth c H locs 0 0 Q (F0 m 35 ls [.long v8, .int x2, .ref (a (45 + (4 : Int32).toNatClampNeg))]) := by
          intro v8 H locs hv10 I
          subst hv10
          obtain ⟨hc11, h⟩ := gd h
          refine c_st18 E I (f := (c_eways st1)) rfl (ib_lt (show ib (4 : Int32) 5 = true by decide)) hc11 dX0_fillWays_35 (fun H locs I => ?_)
          refine lv_iinc (v := (x2 + 1)) (lv' := [(1, .int (x2 + 1)), (0, .ref (a 7))]) hx hb dX0_fillWays_36 hl (k := 1) rfl rfl (by decide) rfl (fun ls hl => ?_)
          refine lv_goto (tgt := 2) hx hb dX0_fillWays_39 (by decide) ?_
          cases h
          exact hk4 _ _ _ I (lv_sub hl [1, 0] rfl)
        refine lv_icmp_ne (tgt := 34) hx hb dX0_fillWays_27 (by decide) (fun hc12 => ?_) (fun hc12 => ?_)
        · refine lv_lconst (v := (0 : Int64)) hx hb dX0_fillWays_34 (by decide) ?_
          exact J9 _ _ _ (by rw [if_neg hc12]) I
        · refine lv_lconst (v := (1 : Int64)) hx hb dX0_fillWays_30 (by decide) ?_
          refine lv_goto (tgt := 35) hx hb dX0_fillWays_31 (by decide) ?_
          exact J9 _ _ _ (by rw [if_pos hc12]) I
  · obtain ⟨st15, rfl⟩ : ∃ y, y = z13 := ⟨_, rfl⟩
    intro H locs ls I hl
    have h : ((bi1 (wh (f0_fillWays_b44) FU (st15, (3 : Int32))) fun w38 => some w38) : Option CS) = some o := h
    have I : wk D (cW g a st15) A H0 H locs := I
    have hl : lv_has ls 3 [(0, .ref (a 7))] := hl
    refine lv_iconst (v := (3 : Int32)) hx hb dX0_fillWays_42 (by decide) ?_
    refine lv_istore_n (lv' := [(1, .int (3 : Int32)), (0, .ref (a 7))]) hx hb dX0_fillWays_43 rfl hl (by decide) rfl (fun ls hl => ?_)
    obtain ⟨z35, hw36, h⟩ := bx1 h
    refine wh_W (P := fun (z : CS × Int32) => ∀ (H : Heap) (locs : List Loc) (ls : Array Slot), wk D (cW g a z.1) A H0 H locs → lv_has ls 3 [(0, .ref (a 7)), (1, .int z.2)] → W p l e (rmk 1 25) s m args below meth c H locs 0 0 Q (F0 m 44 ls [])) (X := fun (z : CS) => ∀ (H : Heap) (locs : List Loc) (ls : Array Slot), wk D (cW g a z) A H0 H locs → lv_has ls 3 [] → W p l e (rmk 1 25) s m args below meth c H locs 0 0 Q (F0 m 82 ls [])) ?_ FU _ _ hw36 ?_ _ _ _ I (lv_sub hl [1, 0] rfl)
    · intro z o18 h hk19 H locs ls I hl
      obtain ⟨st16, x17⟩ := z
      have h : ((if x17 < 0 then some (.inr st16) else (bi1 (wh (f0_fillWays_b50 x17) FU (st16, (0 : Int32))) fun w34 => some (.inl (w34, (x17 + (-1)))))) : Option ((CS × Int32) ⊕ (CS))) = some o18 := h
      have I : wk D (cW g a st16) A H0 H locs := I
      have hl : lv_has ls 3 [(0, .ref (a 7)), (1, .int x17)] := hl
      refine lv_iload_n hx hb dX0_fillWays_44 rfl (lv_at hl 1 rfl) ?_
      refine lv_if_lt (tgt := 82) hx hb dX0_fillWays_45 (by decide) (fun hc20 => ?_) (fun hc20 => ?_)
      · have h := ifp hc20 h
        cases h
        exact hk19 _ _ _ I (lv_sub hl [] rfl)
      · have h := ifn hc20 h
        refine lv_iconst (v := (0 : Int32)) hx hb dX0_fillWays_48 (by decide) ?_
        refine lv_istore_n (lv' := [(2, .int (0 : Int32)), (0, .ref (a 7)), (1, .int x17)]) hx hb dX0_fillWays_49 rfl hl (by decide) rfl (fun ls hl => ?_)
        obtain ⟨z31, hw32, h⟩ := bx1 h
        refine wh_W (P := fun (z : CS × Int32) => ∀ (H : Heap) (locs : List Loc) (ls : Array Slot), wk D (cW g a z.1) A H0 H locs → lv_has ls 3 [(0, .ref (a 7)), (1, .int x17), (2, .int z.2)] → W p l e (rmk 1 25) s m args below meth c H locs 0 0 Q (F0 m 50 ls [])) (X := fun (z : CS) => ∀ (H : Heap) (locs : List Loc) (ls : Array Slot), wk D (cW g a z) A H0 H locs → lv_has ls 3 [(0, .ref (a 7)), (1, .int x17)] → W p l e (rmk 1 25) s m args below meth c H locs 0 0 Q (F0 m 76 ls [])) ?_ FU _ _ hw32 ?_ _ _ _ I (lv_sub hl [1, 2, 0] rfl)
        · intro z o24 h hk25 H locs ls I hl
          obtain ⟨st21, x23⟩ := z
          have h : ((if (16 : Int32) ≤ x23 then some (.inr st21) else (if ib x17 5 = true then (bi1 (f0_waysFrom st21 x17 x23) fun r29 => (if ib x23 16 = true then some (.inl ((c_eways_s st21 (va_up (c_eways st21) x17.toNatClampNeg (vp_updL ((c_eways st21) x17.toNatClampNeg) x23.toNatClampNeg r29))), (x23 + 1))) else none)) else none)) : Option ((CS × Int32) ⊕ (CS))) = some o24 := h
          have I : wk D (cW g a st21) A H0 H locs := I
          have hl : lv_has ls 3 [(0, .ref (a 7)), (1, .int x17), (2, .int x23)] := hl
          refine lv_iload_n hx hb dX0_fillWays_50 rfl (lv_at hl 2 rfl) ?_
          refine lv_bipush (v := (16 : Int32)) hx hb dX0_fillWays_51 (by decide) ?_
          refine lv_icmp_ge (tgt := 76) hx hb dX0_fillWays_53 (by decide) (fun hc26 => ?_) (fun hc26 => ?_)
          · have h := ifp hc26 h
            cases h
            exact hk25 _ _ _ I (lv_sub hl [0, 1] rfl)
          · have h := ifn hc26 h
            refine lv_aload_n hx hb dX0_fillWays_56 rfl (lv_at hl 0 rfl) ?_
            refine g0_31 E I dX0_fillWays_57 ?_
            refine lv_iload_n hx hb dX0_fillWays_60 rfl (lv_at hl 1 rfl) ?_
            obtain ⟨hc27, h⟩ := gd h
            refine c_al18 E I hc27 dX0_fillWays_61 ?_
            refine lv_iload_n hx hb dX0_fillWays_62 rfl (lv_at hl 2 rfl) ?_
            refine lv_aload_n hx hb dX0_fillWays_63 rfl (lv_at hl 0 rfl) ?_
            refine lv_iload_n hx hb dX0_fillWays_64 rfl (lv_at hl 1 rfl) ?_
            refine lv_iload_n hx hb dX0_fillWays_65 rfl (lv_at hl 2 rfl) ?_
            obtain ⟨r29, hc28, h⟩ := bx1 h
            refine r_callV1 (As := [.int x17, .int x23]) (rest := [.int x23, .ref (a (45 + x17.toNatClampNeg))]) (ws' := (cW g a st21)) (q0 := 7) E I hl.1 k0_81 (c0_waysFrom hc28) cW_k rfl rfl rfl rfl (Nat.le_of_ble_eq_true rfl) ⟨Nat.le_of_ble_eq_true rfl, Nat.le_of_ble_eq_true rfl⟩ ⟨Nat.zero_le _, Nat.zero_le _⟩ dX0_fillWays_66 (fun H locs I => ?_)
            obtain ⟨hc30, h⟩ := gd h
            refine c_st18 E I (f := (c_eways st21)) rfl (ib_lt hc27) hc30 dX0_fillWays_69 (fun H locs I => ?_)
            refine lv_iinc (v := (x23 + 1)) (lv' := [(2, .int (x23 + 1)), (0, .ref (a 7)), (1, .int x17)]) hx hb dX0_fillWays_70 hl (k := 2) rfl rfl (by decide) rfl (fun ls hl => ?_)
            refine lv_goto (tgt := 50) hx hb dX0_fillWays_73 (by decide) ?_
            cases h
            exact hk25 _ _ _ I (lv_sub hl [1, 2, 0] rfl)
        · obtain ⟨st33, rfl⟩ : ∃ y, y = z31 := ⟨_, rfl⟩
          intro H locs ls I hl
          have h : (some (.inl (st33, (x17 + (-1)))) : Option ((CS × Int32) ⊕ (CS))) = some o18 := h
          have I : wk D (cW g a st33) A H0 H locs := I
          have hl : lv_has ls 3 [(0, .ref (a 7)), (1, .int x17)] := hl
          refine lv_iinc (v := (x17 + (-1))) (lv' := [(1, .int (x17 + (-1))), (0, .ref (a 7))]) hx hb dX0_fillWays_76 hl (k := 1) rfl rfl (by decide) rfl (fun ls hl => ?_)
          refine lv_goto (tgt := 44) hx hb dX0_fillWays_79 (by decide) ?_
          cases h
          exact hk19 _ _ _ I (lv_sub hl [1, 0] rfl)
    · obtain ⟨st37, rfl⟩ : ∃ y, y = z35 := ⟨_, rfl⟩
      intro H locs ls I hl
      have h : (some st37 : Option CS) = some o := h
      have I : wk D (cW g a st37) A H0 H locs := I
      have hl : lv_has ls 3 [] := hl
      cases h
      exact K _ _ _ _ I dX0_fillWays_82
set_option maxHeartbeats 4000000 in
set_option maxRecDepth 100000 in
theorem c0_prepare {l : Launch} {D : va_G} {g : Nat → ClassId} {a : Nat → Nat} {st : CS} {o : CS} (h : f0_prepare st = some o) : ct l yX0_prepare cX0_prepare 3 none (rmk 4 95) D g (cW g a st) (cW g a o) [.ref (a 7), .ref (a 1)] none := by
  refine ct_of ⟨rfl, rfl⟩ (by decide) (Nat.le_of_ble_eq_true rfl) ?_
  intro p e s m args below meth c ls Q A H0 H locs E I hl K
  have E : en p m c cX0_prepare 3 s args RX0 D g := E
  have hx := E.1.1
  have hb := E.1.2.1
  have hl : lv_has ls 3 [(0, .ref (a 7)), (1, .ref (a 1))] := hl
  have K : ∀ (pc : Nat) (ls : Array Slot) (H : Heap) (locs : List Loc), wk D (cW g a o) A H0 H locs → decode cX0_prepare pc = .ok (.return_, 1) → W p l e (rmk 4 95) s m args below meth c H locs 0 0 Q (F0 m pc ls []) := fun pc ls H locs I hd => K pc ls H locs I hd
  have h : ((if (c_eprep st) = 0 then (bi1 (wh (f0_prepare_b15) FU ((c_used_s st (0 : Int32)), (0 : Int32))) fun w36 => (bi1 (wh (f0_prepare_b89) FU ((c_most_s (c_canBeEmpty_s w36 (if ((c_state w36) (24 : Int32).toNatClampNeg) = (1 : Int32) then (1 : Int32) else (0 : Int32))) ((c_state w36) (25 : Int32).toNatClampNeg)), (0 : Int32))) fun w34 => (bi1 (f0_fillWays w34) fun st33 => some (c_eprep_s st33 (1 : Int32))))) else some st) : Option CS) = some o := h
  refine lv_aload_n hx hb dX0_prepare_0 rfl (lv_at hl 0 rfl) ?_
  refine g0_37 E I (v := (c_eprep st)) rfl dX0_prepare_1 ?_
  refine lv_if_eq (tgt := 8) hx hb dX0_prepare_4 (by decide) (fun hc1 => ?_) (fun hc1 => ?_)
  · have h := ifp hc1 h
    refine lv_aload_n hx hb dX0_prepare_8 rfl (lv_at hl 0 rfl) ?_
    refine lv_iconst (v := (0 : Int32)) hx hb dX0_prepare_9 (by decide) ?_
    refine p0_41 E I dX0_prepare_10 (fun H locs I => ?_)
    refine lv_iconst (v := (0 : Int32)) hx hb dX0_prepare_13 (by decide) ?_
    refine lv_istore_n (lv' := [(2, .int (0 : Int32)), (0, .ref (a 7)), (1, .ref (a 1))]) hx hb dX0_prepare_14 rfl hl (by decide) rfl (fun ls hl => ?_)
    obtain ⟨z14, hw15, h⟩ := bx1 h
    refine wh_W (P := fun (z : CS × Int32) => ∀ (H : Heap) (locs : List Loc) (ls : Array Slot), wk D (cW g a z.1) A H0 H locs → lv_has ls 3 [(0, .ref (a 7)), (1, .ref (a 1)), (2, .int z.2)] → W p l e (rmk 4 95) s m args below meth c H locs 0 0 Q (F0 m 15 ls [])) (X := fun (z : CS) => ∀ (H : Heap) (locs : List Loc) (ls : Array Slot), wk D (cW g a z) A H0 H locs → lv_has ls 3 [(0, .ref (a 7)), (1, .ref (a 1))] → W p l e (rmk 4 95) s m args below meth c H locs 0 0 Q (F0 m 62 ls [])) ?_ FU _ _ hw15 ?_ _ _ _ I (lv_sub hl [1, 2, 0] rfl)
    · intro z o4 h hk5 H locs ls I hl
      obtain ⟨st2, x3⟩ := z
      have h : ((if (4 : Int32) ≤ x3 then some (.inr st2) else (if ib ((4 : Int32) + x3) 26 = true then (if ib x3 4 = true then (if ib x3 4 = true then some (.inl ((c_used_s (c_weight_s st2 (upd (c_weight st2) x3.toNatClampNeg ((c_state st2) ((4 : Int32) + x3).toNatClampNeg))) ((c_used st2) ||| (if ((upd (c_weight st2) x3.toNatClampNeg ((c_state st2) ((4 : Int32) + x3).toNatClampNeg)) x3.toNatClampNeg) ≤ 0 then (0 : Int32) else ((1 : Int32) <<< (x3 &&& 31))))), (x3 + 1))) else none) else none) else none)) : Option ((CS × Int32) ⊕ (CS))) = some o4 := h
      have I : wk D (cW g a st2) A H0 H locs := I
      have hl : lv_has ls 3 [(0, .ref (a 7)), (1, .ref (a 1)), (2, .int x3)] := hl
      refine lv_iload_n hx hb dX0_prepare_15 rfl (lv_at hl 2 rfl) ?_
      refine lv_iconst (v := (4 : Int32)) hx hb dX0_prepare_16 (by decide) ?_
      refine lv_icmp_ge (tgt := 62) hx hb dX0_prepare_17 (by decide) (fun hc6 => ?_) (fun hc6 => ?_)
      · have h := ifp hc6 h
        cases h
        exact hk5 _ _ _ I (lv_sub hl [0, 1] rfl)
      · have h := ifn hc6 h
        refine lv_aload_n hx hb dX0_prepare_20 rfl (lv_at hl 0 rfl) ?_
        refine g0_9 E I dX0_prepare_21 ?_
        refine lv_iload_n hx hb dX0_prepare_24 rfl (lv_at hl 2 rfl) ?_
        refine lv_aload_n hx hb dX0_prepare_25 rfl (lv_at hl 1 rfl) ?_
        refine lv_iconst (v := (4 : Int32)) hx hb dX0_prepare_26 (by decide) ?_
        refine lv_iload_n hx hb dX0_prepare_27 rfl (lv_at hl 2 rfl) ?_
        refine lv_iadd hx hb dX0_prepare_28 ?_
        obtain ⟨hc7, h⟩ := gd h
        refine c_ld1 E I (f := (c_state st2)) rfl hc7 dX0_prepare_29 ?_
        obtain ⟨hc8, h⟩ := gd h
        refine c_st13 E I (f := (c_weight st2)) rfl hc8 dX0_prepare_30 (fun H locs I => ?_)
        refine lv_aload_n hx hb dX0_prepare_31 rfl (lv_at hl 0 rfl) ?_
        refine lv_dup hx hb dX0_prepare_32 rfl ?_
        refine g0_41 E I (v := (c_used st2)) rfl dX0_prepare_33 ?_
        refine lv_aload_n hx hb dX0_prepare_36 rfl (lv_at hl 0 rfl) ?_
        refine g0_9 E I dX0_prepare_37 ?_
        refine lv_iload_n hx hb dX0_prepare_40 rfl (lv_at hl 2 rfl) ?_
        obtain ⟨hc9, h⟩ := gd h
        refine c_ld13 E I (f := (upd (c_weight st2) x3.toNatClampNeg ((c_state st2) ((4 : Int32) + x3).toNatClampNeg))) rfl hc9 dX0_prepare_41 ?_
        have J11 : ∀ (v10 : Int32) (H : Heap) (locs : List Loc), v10 = (if ((upd (c_weight st2) x3.toNatClampNeg ((c_state st2) ((4 : Int32) + x3).toNatClampNeg)) x3.toNatClampNeg) ≤ 0 then (0 : Int32) else ((1 : Int32) <<< (x3 &&& 31))) → wk D (cW g a (c_weight_s st2 (upd (c_weight st2) x3.toNatClampNeg ((c_state st2) ((4 : Int32) + x3).toNatClampNeg)))) A H0 H locs → W p l e (rmk 4 95) s m args below meth c H locs 0 0 Q (F0 m 52 ls [.int v10, .int (c_used st2), .ref (a 7)]) := by
          intro v10 H locs hv12 I
          subst hv12
          refine lv_ior hx hb dX0_prepare_52 ?_
          refine p0_41 E I dX0_prepare_53 (fun H locs I => ?_)
          refine lv_iinc (v := (x3 + 1)) (lv' := [(2, .int (x3 + 1)), (0, .ref (a 7)), (1, .ref (a 1))]) hx hb dX0_prepare_56 hl (k := 2) rfl rfl (by decide) rfl (fun ls hl => ?_)
          refine lv_goto (tgt := 15) hx hb dX0_prepare_59 (by decide) ?_
          cases h
          exact hk5 _ _ _ I (lv_sub hl [1, 2, 0] rfl)
        refine lv_if_le (tgt := 51) hx hb dX0_prepare_42 (by decide) (fun hc13 => ?_) (fun hc13 => ?_)
        · refine lv_iconst (v := (0 : Int32)) hx hb dX0_prepare_51 (by decide) ?_
          exact J11 _ _ _ (by rw [if_pos hc13]) I
        · refine lv_iconst (v := (1 : Int32)) hx hb dX0_prepare_45 (by decide) ?_
          refine lv_iload_n hx hb dX0_prepare_46 rfl (lv_at hl 2 rfl) ?_
          refine lv_ishl hx hb dX0_prepare_47 ?_
          refine lv_goto (tgt := 52) hx hb dX0_prepare_48 (by decide) ?_
          exact J11 _ _ _ (by rw [if_neg hc13]) I
    · obtain ⟨st16, rfl⟩ : ∃ y, y = z14 := ⟨_, rfl⟩
      intro H locs ls I hl
      have h : ((bi1 (wh (f0_prepare_b89) FU ((c_most_s (c_canBeEmpty_s st16 (if ((c_state st16) (24 : Int32).toNatClampNeg) = (1 : Int32) then (1 : Int32) else (0 : Int32))) ((c_state st16) (25 : Int32).toNatClampNeg)), (0 : Int32))) fun w34 => (bi1 (f0_fillWays w34) fun st33 => some (c_eprep_s st33 (1 : Int32)))) : Option CS) = some o := h
      have I : wk D (cW g a st16) A H0 H locs := I
      have hl : lv_has ls 3 [(0, .ref (a 7)), (1, .ref (a 1))] := hl
      refine lv_aload_n hx hb dX0_prepare_62 rfl (lv_at hl 0 rfl) ?_
      refine lv_aload_n hx hb dX0_prepare_63 rfl (lv_at hl 1 rfl) ?_
      refine lv_bipush (v := (24 : Int32)) hx hb dX0_prepare_64 (by decide) ?_
      refine c_ld1 E I (f := (c_state st16)) rfl (by decide) dX0_prepare_66 ?_
      refine lv_iconst (v := (1 : Int32)) hx hb dX0_prepare_67 (by decide) ?_
      have J18 : ∀ (v17 : Int32) (H : Heap) (locs : List Loc), v17 = (if ((c_state st16) (24 : Int32).toNatClampNeg) = (1 : Int32) then (1 : Int32) else (0 : Int32)) → wk D (cW g a st16) A H0 H locs → W p l e (rmk 4 95) s m args below meth c H locs 0 0 Q (F0 m 76 ls [.int v17, .ref (a 7)]) := by
        intro v17 H locs hv19 I
        subst hv19
        refine p0_45 E I (by repeat' split <;> rfl) dX0_prepare_76 (fun H locs I => ?_)
        refine lv_aload_n hx hb dX0_prepare_79 rfl (lv_at hl 0 rfl) ?_
        refine lv_aload_n hx hb dX0_prepare_80 rfl (lv_at hl 1 rfl) ?_
        refine lv_bipush (v := (25 : Int32)) hx hb dX0_prepare_81 (by decide) ?_
        refine c_ld1 E I (f := (c_state st16)) rfl (by decide) dX0_prepare_83 ?_
        refine p0_48 E I dX0_prepare_84 (fun H locs I => ?_)
        refine lv_iconst (v := (0 : Int32)) hx hb dX0_prepare_87 (by decide) ?_
        refine lv_istore_n (lv' := [(2, .int (0 : Int32)), (0, .ref (a 7)), (1, .ref (a 1))]) hx hb dX0_prepare_88 rfl hl (by decide) rfl (fun ls hl => ?_)
        obtain ⟨z29, hw30, h⟩ := bx1 h
        refine wh_W (P := fun (z : CS × Int32) => ∀ (H : Heap) (locs : List Loc) (ls : Array Slot), wk D (cW g a z.1) A H0 H locs → lv_has ls 3 [(0, .ref (a 7)), (1, .ref (a 1)), (2, .int z.2)] → W p l e (rmk 4 95) s m args below meth c H locs 0 0 Q (F0 m 89 ls [])) (X := fun (z : CS) => ∀ (H : Heap) (locs : List Loc) (ls : Array Slot), wk D (cW g a z) A H0 H locs → lv_has ls 3 [(0, .ref (a 7))] → W p l e (rmk 4 95) s m args below meth c H locs 0 0 Q (F0 m 117 ls [])) ?_ FU _ _ hw30 ?_ _ _ _ I (lv_sub hl [1, 2, 0] rfl)
        · intro z o22 h hk23 H locs ls I hl
          obtain ⟨st20, x21⟩ := z
          have h : ((if (4 : Int32) ≤ x21 then some (.inr st20) else (if ib ((16 : Int32) + x21) 26 = true then (if ib ((0 : Int32) + x21) 26 = true then (bi1 (f0_solve st20 x21 (((c_state st20) ((16 : Int32) + x21).toNatClampNeg) - ((c_state st20) ((0 : Int32) + x21).toNatClampNeg))) fun st28 => some (.inl (st28, (x21 + 1)))) else none) else none)) : Option ((CS × Int32) ⊕ (CS))) = some o22 := h
          have I : wk D (cW g a st20) A H0 H locs := I
          have hl : lv_has ls 3 [(0, .ref (a 7)), (1, .ref (a 1)), (2, .int x21)] := hl
          refine lv_iload_n hx hb dX0_prepare_89 rfl (lv_at hl 2 rfl) ?_
          refine lv_iconst (v := (4 : Int32)) hx hb dX0_prepare_90 (by decide) ?_
          refine lv_icmp_ge (tgt := 117) hx hb dX0_prepare_91 (by decide) (fun hc24 => ?_) (fun hc24 => ?_)
          · have h := ifp hc24 h
            cases h
            exact hk23 _ _ _ I (lv_sub hl [0] rfl)
          · have h := ifn hc24 h
            refine lv_aload_n hx hb dX0_prepare_94 rfl (lv_at hl 0 rfl) ?_
            refine lv_iload_n hx hb dX0_prepare_95 rfl (lv_at hl 2 rfl) ?_
            refine lv_aload_n hx hb dX0_prepare_96 rfl (lv_at hl 1 rfl) ?_
            refine lv_bipush (v := (16 : Int32)) hx hb dX0_prepare_97 (by decide) ?_
            refine lv_iload_n hx hb dX0_prepare_99 rfl (lv_at hl 2 rfl) ?_
            refine lv_iadd hx hb dX0_prepare_100 ?_
            obtain ⟨hc25, h⟩ := gd h
            refine c_ld1 E I (f := (c_state st20)) rfl hc25 dX0_prepare_101 ?_
            refine lv_aload_n hx hb dX0_prepare_102 rfl (lv_at hl 1 rfl) ?_
            refine lv_iconst (v := (0 : Int32)) hx hb dX0_prepare_103 (by decide) ?_
            refine lv_iload_n hx hb dX0_prepare_104 rfl (lv_at hl 2 rfl) ?_
            refine lv_iadd hx hb dX0_prepare_105 ?_
            obtain ⟨hc26, h⟩ := gd h
            refine c_ld1 E I (f := (c_state st20)) rfl hc26 dX0_prepare_106 ?_
            refine lv_isub hx hb dX0_prepare_107 ?_
            obtain ⟨st28, hc27, h⟩ := bx1 h
            refine r_callV0 (As := [.int x21, .int (((c_state st20) ((16 : Int32) + x21).toNatClampNeg) - ((c_state st20) ((0 : Int32) + x21).toNatClampNeg))]) (rest := []) (ws' := (cW g a st28)) (q0 := 7) E I hl.1 k0_51 (c0_solve hc27) cW_k rfl rfl rfl rfl (Nat.le_of_ble_eq_true rfl) ⟨Nat.le_of_ble_eq_true rfl, Nat.le_of_ble_eq_true rfl⟩ ⟨Nat.zero_le _, Nat.zero_le _⟩ dX0_prepare_108 (fun H locs I => ?_)
            refine lv_iinc (v := (x21 + 1)) (lv' := [(2, .int (x21 + 1)), (0, .ref (a 7)), (1, .ref (a 1))]) hx hb dX0_prepare_111 hl (k := 2) rfl rfl (by decide) rfl (fun ls hl => ?_)
            refine lv_goto (tgt := 89) hx hb dX0_prepare_114 (by decide) ?_
            cases h
            exact hk23 _ _ _ I (lv_sub hl [1, 2, 0] rfl)
        · obtain ⟨st31, rfl⟩ : ∃ y, y = z29 := ⟨_, rfl⟩
          intro H locs ls I hl
          have h : ((bi1 (f0_fillWays st31) fun st33 => some (c_eprep_s st33 (1 : Int32))) : Option CS) = some o := h
          have I : wk D (cW g a st31) A H0 H locs := I
          have hl : lv_has ls 3 [(0, .ref (a 7))] := hl
          refine lv_aload_n hx hb dX0_prepare_117 rfl (lv_at hl 0 rfl) ?_
          obtain ⟨st33, hc32, h⟩ := bx1 h
          refine r_callV0 (As := []) (rest := []) (ws' := (cW g a st33)) (q0 := 7) E I hl.1 k0_55 (c0_fillWays hc32) cW_k rfl rfl rfl rfl (Nat.le_of_ble_eq_true rfl) ⟨Nat.le_of_ble_eq_true rfl, Nat.le_of_ble_eq_true rfl⟩ ⟨Nat.zero_le _, Nat.zero_le _⟩ dX0_prepare_118 (fun H locs I => ?_)
          refine lv_aload_n hx hb dX0_prepare_121 rfl (lv_at hl 0 rfl) ?_
          refine lv_iconst (v := (1 : Int32)) hx hb dX0_prepare_122 (by decide) ?_
          refine p0_37 E I rfl dX0_prepare_123 (fun H locs I => ?_)
          cases h
          exact K _ _ _ _ I dX0_prepare_126
      refine lv_icmp_ne (tgt := 75) hx hb dX0_prepare_68 (by decide) (fun hc35 => ?_) (fun hc35 => ?_)
      · refine lv_iconst (v := (0 : Int32)) hx hb dX0_prepare_75 (by decide) ?_
        exact J18 _ _ _ (by rw [if_neg hc35]) I
      · refine lv_iconst (v := (1 : Int32)) hx hb dX0_prepare_71 (by decide) ?_
        refine lv_goto (tgt := 76) hx hb dX0_prepare_72 (by decide) ?_
        exact J18 _ _ _ (by rw [if_pos hc35]) I
  · have h := ifn hc1 h
    cases h
    exact K _ _ _ _ I dX0_prepare_7
set_option maxHeartbeats 4000000 in
set_option maxRecDepth 100000 in
theorem c0_solutionsOf {l : Launch} {D : va_G} {g : Nat → ClassId} {a : Nat → Nat} {st : CS} {x91 : Int32} {o : Int32} (h : f0_solutionsOf st x91 = some o) : ct l yX0_solutionsOf cX0_solutionsOf 2 (some .int) (rmk 0 0) D g (cW g a st) (cW g a st) [.ref (a 7), .int x91] (some (.int o)) := by
  refine ct_of ⟨rfl, rfl⟩ (by decide) (Nat.le_of_ble_eq_true rfl) ?_
  intro p e s m args below meth c ls Q A H0 H locs E I hl K
  have E : en p m c cX0_solutionsOf 2 s args RX0 D g := E
  have hx := E.1.1
  have hb := E.1.2.1
  have hl : lv_has ls 2 [(0, .ref (a 7)), (1, .int x91)] := hl
  have K : ∀ (pc : Nat) (ls : Array Slot) (H : Heap) (locs : List Loc), wk D (cW g a st) A H0 H locs → decode cX0_solutionsOf pc = .ok (.ireturn, 1) → W p l e (rmk 0 0) s m args below meth c H locs 0 0 Q (F0 m pc ls [.int o]) := fun pc ls H locs I hd => K pc ls H locs I hd
  have h : ((if ib x91 5 = true then some ((c_size st) x91.toNatClampNeg) else none) : Option Int32) = some o := h
  refine lv_aload_n hx hb dX0_solutionsOf_0 rfl (lv_at hl 0 rfl) ?_
  refine g0_20 E I dX0_solutionsOf_1 ?_
  refine lv_iload_n hx hb dX0_solutionsOf_4 rfl (lv_at hl 1 rfl) ?_
  obtain ⟨hc1, h⟩ := gd h
  refine c_ld15 E I (f := (c_size st)) rfl hc1 dX0_solutionsOf_5 ?_
  cases h
  exact K _ _ _ _ I dX0_solutionsOf_6
set_option maxHeartbeats 4000000 in
set_option maxRecDepth 100000 in
theorem c4_solutions {l : Launch} {D : va_G} {g : Nat → ClassId} {a : Nat → Nat} {st : CS} {x91 : Int32} {st' : CS} {r' : Int32} (h : f4_solutions st x91 = some (st', .inr r')) : ct l yX4_solutions cX4_solutions 2 (some .int) (rmk 5 117) D g (cW g a st) (cW g a st') [.ref (a 0), .int x91] (some (.int r')) := by
  refine ct_of ⟨rfl, rfl⟩ (by decide) (Nat.le_of_ble_eq_true rfl) ?_
  intro p e s m args below meth c ls Q A H0 H locs E I hl K
  have E : en p m c cX4_solutions 2 s args RX4 D g := E
  have hx := E.1.1
  have hb := E.1.2.1
  have hl : lv_has ls 2 [(0, .ref (a 0)), (1, .int x91)] := hl
  have K : ∀ (pc : Nat) (ls : Array Slot) (H : Heap) (locs : List Loc), wk D (cW g a st') A H0 H locs → decode cX4_solutions pc = .ok (.ireturn, 1) → W p l e (rmk 5 117) s m args below meth c H locs 0 0 Q (F0 m pc ls [.int r']) := fun pc ls H locs I hd => K pc ls H locs I hd
  have h : ((bt0 st (f4_needIndex x91 (4 : Int32)) fun (u2 : Unit) => (bi1 (f0_prepare st) fun st4 => (bi1 (f0_solutionsOf st4 x91) fun r6 => some (st4, .inr r6)))) : Option (CS × (Nat ⊕ Int32))) = some (st', .inr r') := h
  refine lv_iload_n hx hb dX4_solutions_0 rfl (lv_at hl 1 rfl) ?_
  refine lv_iconst (v := (4 : Int32)) hx hb dX4_solutions_1 (by decide) ?_
  obtain ⟨u2, hc1, h⟩ := bt0n h
  refine r_callS0 (As := [.int x91, .int (4 : Int32)]) (rest := []) E I hl.1 k4_53 (c4_needIndex hc1) rfl rfl (Nat.le_of_ble_eq_true rfl) ⟨Nat.le_of_ble_eq_true rfl, Nat.le_of_ble_eq_true rfl⟩ ⟨Nat.zero_le _, Nat.zero_le _⟩ dX4_solutions_2 (fun H locs I => ?_)
  refine lv_aload_n hx hb dX4_solutions_5 rfl (lv_at hl 0 rfl) ?_
  refine g4_42 E I dX4_solutions_6 ?_
  refine lv_aload_n hx hb dX4_solutions_9 rfl (lv_at hl 0 rfl) ?_
  refine g4_9 E I dX4_solutions_10 ?_
  obtain ⟨st4, hc3, h⟩ := bx1 h
  refine r_callV0 (As := [.ref (a 1)]) (rest := []) (ws' := (cW g a st4)) (q0 := 7) E I hl.1 k4_148 (c0_prepare hc3) cW_k rfl rfl rfl rfl (Nat.le_of_ble_eq_true rfl) ⟨Nat.le_of_ble_eq_true rfl, Nat.le_of_ble_eq_true rfl⟩ ⟨Nat.zero_le _, Nat.zero_le _⟩ dX4_solutions_13 (fun H locs I => ?_)
  refine lv_aload_n hx hb dX4_solutions_16 rfl (lv_at hl 0 rfl) ?_
  refine g4_42 E I dX4_solutions_17 ?_
  refine lv_iload_n hx hb dX4_solutions_20 rfl (lv_at hl 1 rfl) ?_
  obtain ⟨r6, hc5, h⟩ := bx1 h
  refine r_callV1 (As := [.int x91]) (rest := []) (ws' := (cW g a st4)) (q0 := 7) E I hl.1 k4_151 (c0_solutionsOf hc5) cW_k rfl rfl rfl rfl (Nat.le_of_ble_eq_true rfl) ⟨Nat.le_of_ble_eq_true rfl, Nat.le_of_ble_eq_true rfl⟩ ⟨Nat.zero_le _, Nat.zero_le _⟩ dX4_solutions_21 (fun H locs I => ?_)
  cases h
  exact K _ _ _ _ I dX4_solutions_24
set_option maxHeartbeats 4000000 in
set_option maxRecDepth 100000 in
theorem cJ_bitCount {l : Launch} {D : va_G} {g : Nat → ClassId} {x90 : Int32} {o : Int32} (h : fJ_bitCount x90 = o) : ct l yJ6_bitCount_0f7a4 cJ6_bitCount_0f7a4 1 (some .int) (rmk 0 0) D g [] [] [.int x90] (some (.int o)) := by
  refine ct_of ⟨rfl, rfl⟩ (by decide) (Nat.le_of_ble_eq_true rfl) ?_
  intro p e s m args below meth c ls Q A H0 H locs E I hl K
  have E : en p m c cJ6_bitCount_0f7a4 1 s args RJ6 D g := E
  have hx := E.1.1
  have hb := E.1.2.1
  have hl : lv_has ls 1 [(0, .int x90)] := hl
  have K : ∀ (pc : Nat) (ls : Array Slot) (H : Heap) (locs : List Loc), wk D [] A H0 H locs → decode cJ6_bitCount_0f7a4 pc = .ok (.ireturn, 1) → W p l e (rmk 0 0) s m args below meth c H locs 0 0 Q (F0 m pc ls [.int o]) := fun pc ls H locs I hd => K pc ls H locs I hd
  have h : ((lq (x90 - (((x90).toUInt32 >>> (((1 : Int32)).toUInt32 &&& Int32.toUInt32 31)).toInt32 &&& (1431655765 : Int32))) fun x1 => (lq ((x1 &&& (858993459 : Int32)) + (((x1).toUInt32 >>> (((2 : Int32)).toUInt32 &&& Int32.toUInt32 31)).toInt32 &&& (858993459 : Int32))) fun x3 => (lq ((x3 + ((x3).toUInt32 >>> (((4 : Int32)).toUInt32 &&& Int32.toUInt32 31)).toInt32) &&& (252645135 : Int32)) fun x5 => (lq (x5 + ((x5).toUInt32 >>> (((8 : Int32)).toUInt32 &&& Int32.toUInt32 31)).toInt32) fun x7 => (lq (x7 + ((x7).toUInt32 >>> (((16 : Int32)).toUInt32 &&& Int32.toUInt32 31)).toInt32) fun x9 => (x9 &&& (63 : Int32))))))) : Int32) = o := h
  refine lv_iload_n hx hb dJ6_bitCount_0f7a4_0 rfl (lv_at hl 0 rfl) ?_
  refine lv_iload_n hx hb dJ6_bitCount_0f7a4_1 rfl (lv_at hl 0 rfl) ?_
  refine lv_iconst (v := (1 : Int32)) hx hb dJ6_bitCount_0f7a4_2 (by decide) ?_
  refine lv_iushr (v := ((x90).toUInt32 >>> (((1 : Int32)).toUInt32 &&& Int32.toUInt32 31)).toInt32) hx hb dJ6_bitCount_0f7a4_3 rfl ?_
  refine lv_ldcw (v := (1431655765 : Int32)) hx hb E.1.2.2.2.1 (E.1.2.2.2.2 _ kcJ_265) dJ6_bitCount_0f7a4_4 ?_
  refine lv_iand hx hb dJ6_bitCount_0f7a4_7 ?_
  refine lv_isub hx hb dJ6_bitCount_0f7a4_8 ?_
  obtain ⟨x1, hx2, h⟩ := lqx h
  refine lv_istore_n (x := (x90 - (((x90).toUInt32 >>> (((1 : Int32)).toUInt32 &&& Int32.toUInt32 31)).toInt32 &&& (1431655765 : Int32)))) (lv' := [(0, .int x1)]) hx hb dJ6_bitCount_0f7a4_9 rfl hl (by decide) (by subst hx2; rfl) (fun ls hl => ?_)
  refine lv_iload_n hx hb dJ6_bitCount_0f7a4_10 rfl (lv_at hl 0 rfl) ?_
  refine lv_ldcw (v := (858993459 : Int32)) hx hb E.1.2.2.2.1 (E.1.2.2.2.2 _ kcJ_266) dJ6_bitCount_0f7a4_11 ?_
  refine lv_iand hx hb dJ6_bitCount_0f7a4_14 ?_
  refine lv_iload_n hx hb dJ6_bitCount_0f7a4_15 rfl (lv_at hl 0 rfl) ?_
  refine lv_iconst (v := (2 : Int32)) hx hb dJ6_bitCount_0f7a4_16 (by decide) ?_
  refine lv_iushr (v := ((x1).toUInt32 >>> (((2 : Int32)).toUInt32 &&& Int32.toUInt32 31)).toInt32) hx hb dJ6_bitCount_0f7a4_17 rfl ?_
  refine lv_ldcw (v := (858993459 : Int32)) hx hb E.1.2.2.2.1 (E.1.2.2.2.2 _ kcJ_266) dJ6_bitCount_0f7a4_18 ?_
  refine lv_iand hx hb dJ6_bitCount_0f7a4_21 ?_
  refine lv_iadd hx hb dJ6_bitCount_0f7a4_22 ?_
  obtain ⟨x3, hx4, h⟩ := lqx h
  refine lv_istore_n (x := ((x1 &&& (858993459 : Int32)) + (((x1).toUInt32 >>> (((2 : Int32)).toUInt32 &&& Int32.toUInt32 31)).toInt32 &&& (858993459 : Int32)))) (lv' := [(0, .int x3)]) hx hb dJ6_bitCount_0f7a4_23 rfl hl (by decide) (by subst hx4; rfl) (fun ls hl => ?_)
  refine lv_iload_n hx hb dJ6_bitCount_0f7a4_24 rfl (lv_at hl 0 rfl) ?_
  refine lv_iload_n hx hb dJ6_bitCount_0f7a4_25 rfl (lv_at hl 0 rfl) ?_
  refine lv_iconst (v := (4 : Int32)) hx hb dJ6_bitCount_0f7a4_26 (by decide) ?_
  refine lv_iushr (v := ((x3).toUInt32 >>> (((4 : Int32)).toUInt32 &&& Int32.toUInt32 31)).toInt32) hx hb dJ6_bitCount_0f7a4_27 rfl ?_
  refine lv_iadd hx hb dJ6_bitCount_0f7a4_28 ?_
  refine lv_ldcw (v := (252645135 : Int32)) hx hb E.1.2.2.2.1 (E.1.2.2.2.2 _ kcJ_267) dJ6_bitCount_0f7a4_29 ?_
  refine lv_iand hx hb dJ6_bitCount_0f7a4_32 ?_
  obtain ⟨x5, hx6, h⟩ := lqx h
  refine lv_istore_n (x := ((x3 + ((x3).toUInt32 >>> (((4 : Int32)).toUInt32 &&& Int32.toUInt32 31)).toInt32) &&& (252645135 : Int32))) (lv' := [(0, .int x5)]) hx hb dJ6_bitCount_0f7a4_33 rfl hl (by decide) (by subst hx6; rfl) (fun ls hl => ?_)
  refine lv_iload_n hx hb dJ6_bitCount_0f7a4_34 rfl (lv_at hl 0 rfl) ?_
  refine lv_iload_n hx hb dJ6_bitCount_0f7a4_35 rfl (lv_at hl 0 rfl) ?_
  refine lv_bipush (v := (8 : Int32)) hx hb dJ6_bitCount_0f7a4_36 (by decide) ?_
  refine lv_iushr (v := ((x5).toUInt32 >>> (((8 : Int32)).toUInt32 &&& Int32.toUInt32 31)).toInt32) hx hb dJ6_bitCount_0f7a4_38 rfl ?_
  refine lv_iadd hx hb dJ6_bitCount_0f7a4_39 ?_
  obtain ⟨x7, hx8, h⟩ := lqx h
  refine lv_istore_n (x := (x5 + ((x5).toUInt32 >>> (((8 : Int32)).toUInt32 &&& Int32.toUInt32 31)).toInt32)) (lv' := [(0, .int x7)]) hx hb dJ6_bitCount_0f7a4_40 rfl hl (by decide) (by subst hx8; rfl) (fun ls hl => ?_)
  refine lv_iload_n hx hb dJ6_bitCount_0f7a4_41 rfl (lv_at hl 0 rfl) ?_
  refine lv_iload_n hx hb dJ6_bitCount_0f7a4_42 rfl (lv_at hl 0 rfl) ?_
  refine lv_bipush (v := (16 : Int32)) hx hb dJ6_bitCount_0f7a4_43 (by decide) ?_
  refine lv_iushr (v := ((x7).toUInt32 >>> (((16 : Int32)).toUInt32 &&& Int32.toUInt32 31)).toInt32) hx hb dJ6_bitCount_0f7a4_45 rfl ?_
  refine lv_iadd hx hb dJ6_bitCount_0f7a4_46 ?_
  obtain ⟨x9, hx10, h⟩ := lqx h
  refine lv_istore_n (x := (x7 + ((x7).toUInt32 >>> (((16 : Int32)).toUInt32 &&& Int32.toUInt32 31)).toInt32)) (lv' := [(0, .int x9)]) hx hb dJ6_bitCount_0f7a4_47 rfl hl (by decide) (by subst hx10; rfl) (fun ls hl => ?_)
  refine lv_iload_n hx hb dJ6_bitCount_0f7a4_48 rfl (lv_at hl 0 rfl) ?_
  refine lv_bipush (v := (63 : Int32)) hx hb dJ6_bitCount_0f7a4_49 (by decide) ?_
  refine lv_iand hx hb dJ6_bitCount_0f7a4_51 ?_
  cases h
  exact K _ _ _ _ I dJ6_bitCount_0f7a4_52
set_option maxHeartbeats 4000000 in
set_option maxRecDepth 100000 in
theorem c0_bySetsWith {l : Launch} {D : va_G} {g : Nat → ClassId} {a : Nat → Nat} {st : CS} {x91 : Int32} {x92 : Int32} {o : Int64} (h : f0_bySetsWith st x91 x92 = some o) : ct l yX0_bySetsWith cX0_bySetsWith 10 (some .long) (rmk 1 20) D g (cW g a st) (cW g a st) [.ref (a 7), .int x91, .int x92] (some (.long o)) := by
  refine ct_of ⟨rfl, rfl⟩ (by decide) (Nat.le_of_ble_eq_true rfl) ?_
  intro p e s m args below meth c ls Q A H0 H locs E I hl K
  have E : en p m c cX0_bySetsWith 10 s args RX0 D g := E
  have hx := E.1.1
  have hb := E.1.2.1
  have hl : lv_has ls 10 [(0, .ref (a 7)), (1, .int x91), (2, .int x92)] := hl
  have K : ∀ (pc : Nat) (ls : Array Slot) (H : Heap) (locs : List Loc), wk D (cW g a st) A H0 H locs → decode cX0_bySetsWith pc = .ok (.lreturn, 1) → W p l e (rmk 1 20) s m args below meth c H locs 0 0 Q (F0 m pc ls [.long o]) := fun pc ls H locs I hd => K pc ls H locs I hd
  have h : ((bi1 (wh (f0_bySetsWith_b5 st x91 x92) FU ((0 : Int64), (0 : Int32))) fun w43 => some w43) : Option Int64) = some o := h
  refine lv_lconst (v := (0 : Int64)) hx hb dX0_bySetsWith_0 (by decide) ?_
  refine lv_lstore_n (lv' := [(3, .long (0 : Int64)), (0, .ref (a 7)), (1, .int x91), (2, .int x92)]) hx hb dX0_bySetsWith_1 rfl hl (by decide) rfl (fun ls hl => ?_)
  refine lv_iconst (v := (0 : Int32)) hx hb dX0_bySetsWith_2 (by decide) ?_
  refine lv_istore (lv' := [(5, .int (0 : Int32)), (3, .long (0 : Int64)), (0, .ref (a 7)), (1, .int x91), (2, .int x92)]) hx hb dX0_bySetsWith_3 hl (by decide) rfl (fun ls hl => ?_)
  obtain ⟨z40, hw41, h⟩ := bx1 h
  refine wh_W (P := fun (z : Int64 × Int32) => ∀ (H : Heap) (locs : List Loc) (ls : Array Slot), wk D (cW g a st) A H0 H locs → lv_has ls 10 [(0, .ref (a 7)), (1, .int x91), (2, .int x92), (3, .long z.1), (5, .int z.2)] → W p l e (rmk 1 20) s m args below meth c H locs 0 0 Q (F0 m 5 ls [])) (X := fun (z : Int64) => ∀ (H : Heap) (locs : List Loc) (ls : Array Slot), wk D (cW g a st) A H0 H locs → lv_has ls 10 [(3, .long z)] → W p l e (rmk 1 20) s m args below meth c H locs 0 0 Q (F0 m 133 ls [])) ?_ FU _ _ hw41 ?_ _ _ _ I (lv_sub hl [2, 3, 4, 1, 0] rfl)
  · intro z o6 h hk7 H locs ls I hl
    obtain ⟨x4, x5⟩ := z
    have h : ((if (16 : Int32) ≤ x5 then some (.inr x4) else (if (c_canBeEmpty st) = 0 then (if (x5 &&& (c_used st)) = x5 then f0_bySetsWith_j49 st x91 x92 x4 x5 (1 : Int32) else f0_bySetsWith_j49 st x91 x92 x4 x5 (0 : Int32)) else (if x5 = 0 then f0_bySetsWith_j49 st x91 x92 x4 x5 (1 : Int32) else f0_bySetsWith_j49 st x91 x92 x4 x5 (0 : Int32)))) : Option ((Int64 × Int32) ⊕ (Int64))) = some o6 := h
    have I : wk D (cW g a st) A H0 H locs := I
    have hl : lv_has ls 10 [(0, .ref (a 7)), (1, .int x91), (2, .int x92), (3, .long x4), (5, .int x5)] := hl
    refine lv_iload hx hb dX0_bySetsWith_5 (lv_at hl 4 rfl) ?_
    refine lv_bipush (v := (16 : Int32)) hx hb dX0_bySetsWith_7 (by decide) ?_
    refine lv_icmp_ge (tgt := 133) hx hb dX0_bySetsWith_9 (by decide) (fun hc8 => ?_) (fun hc8 => ?_)
    · have h := ifp hc8 h
      cases h
      exact hk7 _ _ _ I (lv_sub hl [3] rfl)
    · have h := ifn hc8 h
      refine lv_aload_n hx hb dX0_bySetsWith_12 rfl (lv_at hl 0 rfl) ?_
      refine g0_45 E I (v := (c_canBeEmpty st)) rfl dX0_bySetsWith_13 ?_
      have J9 : ∀ (x10 : Int64) (x11 : Int32) (y12 : Int32), f0_bySetsWith_j49 st x91 x92 x10 x11 y12 = some o6 → ∀ (H : Heap) (locs : List Loc) (ls : Array Slot), wk D (cW g a st) A H0 H locs → lv_has ls 10 [(0, .ref (a 7)), (1, .int x91), (2, .int x92), (3, .long x10), (5, .int x11)] → W p l e (rmk 1 20) s m args below meth c H locs 0 0 Q (F0 m 49 ls [.int y12]) := by
        intro x10 x11 y12 h H locs ls I hl
        have h : ((if y12 = 0 then some (.inl (x10, (x11 + 1))) else (bi1 (wh (f0_bySetsWith_b62 st x91 x92 x10 x11) FU ((1 : Int64), (0 : Int32))) fun w36 => (if ((fJ_bitCount x11) - (fJ_bitCount x11) / (2 : Int32) * (2 : Int32)) = 0 then some (.inl ((x10 + w36), (x11 + 1))) else some (.inl ((x10 + (-w36)), (x11 + 1)))))) : Option ((Int64 × Int32) ⊕ (Int64))) = some o6 := h
        refine lv_istore (lv' := [(6, .int y12), (0, .ref (a 7)), (1, .int x91), (2, .int x92), (3, .long x10), (5, .int x11)]) hx hb dX0_bySetsWith_49 hl (by decide) rfl (fun ls hl => ?_)
        refine lv_iload hx hb dX0_bySetsWith_51 (lv_at hl 0 rfl) ?_
        refine lv_if_eq (tgt := 127) hx hb dX0_bySetsWith_53 (by decide) (fun hc13 => ?_) (fun hc13 => ?_)
        · have h := ifp hc13 h
          refine lv_iinc (v := (x11 + 1)) (lv' := [(5, .int (x11 + 1)), (6, .int y12), (0, .ref (a 7)), (1, .int x91), (2, .int x92), (3, .long x10)]) hx hb dX0_bySetsWith_127 hl (k := 5) rfl rfl (by decide) rfl (fun ls hl => ?_)
          refine lv_goto (tgt := 5) hx hb dX0_bySetsWith_130 (by decide) ?_
          cases h
          exact hk7 _ _ _ I (lv_sub hl [2, 3, 4, 5, 0] rfl)
        · have h := ifn hc13 h
          refine lv_lconst (v := (1 : Int64)) hx hb dX0_bySetsWith_56 (by decide) ?_
          refine lv_lstore (lv' := [(7, .long (1 : Int64)), (6, .int y12), (0, .ref (a 7)), (1, .int x91), (2, .int x92), (3, .long x10), (5, .int x11)]) hx hb dX0_bySetsWith_57 hl (by decide) rfl (fun ls hl => ?_)
          refine lv_iconst (v := (0 : Int32)) hx hb dX0_bySetsWith_59 (by decide) ?_
          refine lv_istore (lv' := [(9, .int (0 : Int32)), (7, .long (1 : Int64)), (6, .int y12), (0, .ref (a 7)), (1, .int x91), (2, .int x92), (3, .long x10), (5, .int x11)]) hx hb dX0_bySetsWith_60 hl (by decide) rfl (fun ls hl => ?_)
          obtain ⟨z32, hw33, h⟩ := bx1 h
          refine wh_W (P := fun (z : Int64 × Int32) => ∀ (H : Heap) (locs : List Loc) (ls : Array Slot), wk D (cW g a st) A H0 H locs → lv_has ls 10 [(0, .ref (a 7)), (1, .int x91), (2, .int x92), (3, .long x10), (5, .int x11), (7, .long z.1), (9, .int z.2)] → W p l e (rmk 1 20) s m args below meth c H locs 0 0 Q (F0 m 62 ls [])) (X := fun (z : Int64) => ∀ (H : Heap) (locs : List Loc) (ls : Array Slot), wk D (cW g a st) A H0 H locs → lv_has ls 10 [(0, .ref (a 7)), (1, .int x91), (2, .int x92), (3, .long x10), (5, .int x11), (7, .long z)] → W p l e (rmk 1 20) s m args below meth c H locs 0 0 Q (F0 m 106 ls [])) ?_ FU _ _ hw33 ?_ _ _ _ I (lv_sub hl [3, 4, 5, 6, 7, 1, 0] rfl)
          · intro z o21 h hk22 H locs ls I hl
            obtain ⟨x19, x20⟩ := z
            have h : ((if (4 : Int32) ≤ x20 then some (.inr x19) else (if ib (if x20 = x91 then x92 else x20) 5 = true then (if ib ((c_used st) &&& (x11 ^^^ (-1 : Int32))) 16 = true then (lq (x19 * ((c_within st) (if x20 = x91 then x92 else x20).toNatClampNeg ((c_used st) &&& (x11 ^^^ (-1 : Int32))).toNatClampNeg)) fun x29 => some (.inl (x29, (x20 + 1)))) else none) else none)) : Option ((Int64 × Int32) ⊕ (Int64))) = some o21 := h
            have I : wk D (cW g a st) A H0 H locs := I
            have hl : lv_has ls 10 [(0, .ref (a 7)), (1, .int x91), (2, .int x92), (3, .long x10), (5, .int x11), (7, .long x19), (9, .int x20)] := hl
            refine lv_iload hx hb dX0_bySetsWith_62 (lv_at hl 6 rfl) ?_
            refine lv_iconst (v := (4 : Int32)) hx hb dX0_bySetsWith_64 (by decide) ?_
            refine lv_icmp_ge (tgt := 106) hx hb dX0_bySetsWith_65 (by decide) (fun hc23 => ?_) (fun hc23 => ?_)
            · have h := ifp hc23 h
              cases h
              exact hk22 _ _ _ I (lv_sub hl [0, 1, 2, 3, 4, 5] rfl)
            · have h := ifn hc23 h
              refine lv_lload hx hb dX0_bySetsWith_68 (lv_at hl 5 rfl) ?_
              refine lv_aload_n hx hb dX0_bySetsWith_70 rfl (lv_at hl 0 rfl) ?_
              refine g0_28 E I dX0_bySetsWith_71 ?_
              refine lv_iload hx hb dX0_bySetsWith_74 (lv_at hl 6 rfl) ?_
              refine lv_iload_n hx hb dX0_bySetsWith_76 rfl (lv_at hl 1 rfl) ?_
              have J25 : ∀ (v24 : Int32) (H : Heap) (locs : List Loc), v24 = (if x20 = x91 then x92 else x20) → wk D (cW g a st) A H0 H locs → W p l e (rmk 1 20) s m args below meth c H locs 0 0 Q (F0 m 86 ls [.int v24, .ref (a 17), .long x19]) := by
                intro v24 H locs hv26 I
                subst hv26
                obtain ⟨hc27, h⟩ := gd h
                refine c_al17 E I hc27 dX0_bySetsWith_86 ?_
                refine lv_aload_n hx hb dX0_bySetsWith_87 rfl (lv_at hl 0 rfl) ?_
                refine g0_41 E I (v := (c_used st)) rfl dX0_bySetsWith_88 ?_
                refine lv_iload hx hb dX0_bySetsWith_91 (lv_at hl 4 rfl) ?_
                refine lv_iconst (v := (-1 : Int32)) hx hb dX0_bySetsWith_93 (by decide) ?_
                refine lv_ixor hx hb dX0_bySetsWith_94 ?_
                refine lv_iand hx hb dX0_bySetsWith_95 ?_
                obtain ⟨hc28, h⟩ := gd h
                refine c_ld17 E I (f := (c_within st)) rfl (ib_lt hc27) hc28 dX0_bySetsWith_96 ?_
                refine lv_lmul hx hb dX0_bySetsWith_97 ?_
                obtain ⟨x29, hx30, h⟩ := lqx h
                refine lv_lstore (x := (x19 * ((c_within st) (if x20 = x91 then x92 else x20).toNatClampNeg ((c_used st) &&& (x11 ^^^ (-1 : Int32))).toNatClampNeg))) (lv' := [(7, .long x29), (0, .ref (a 7)), (1, .int x91), (2, .int x92), (3, .long x10), (5, .int x11), (9, .int x20)]) hx hb dX0_bySetsWith_98 hl (by decide) (by subst hx30; rfl) (fun ls hl => ?_)
                refine lv_iinc (v := (x20 + 1)) (lv' := [(9, .int (x20 + 1)), (7, .long x29), (0, .ref (a 7)), (1, .int x91), (2, .int x92), (3, .long x10), (5, .int x11)]) hx hb dX0_bySetsWith_100 hl (k := 6) rfl rfl (by decide) rfl (fun ls hl => ?_)
                refine lv_goto (tgt := 62) hx hb dX0_bySetsWith_103 (by decide) ?_
                cases h
                exact hk22 _ _ _ I (lv_sub hl [2, 3, 4, 5, 6, 1, 0] rfl)
              refine lv_icmp_ne (tgt := 84) hx hb dX0_bySetsWith_77 (by decide) (fun hc31 => ?_) (fun hc31 => ?_)
              · refine lv_iload hx hb dX0_bySetsWith_84 (lv_at hl 6 rfl) ?_
                exact J25 _ _ _ (by rw [if_neg hc31]) I
              · refine lv_iload_n hx hb dX0_bySetsWith_80 rfl (lv_at hl 2 rfl) ?_
                refine lv_goto (tgt := 86) hx hb dX0_bySetsWith_81 (by decide) ?_
                exact J25 _ _ _ (by rw [if_pos hc31]) I
          · obtain ⟨x34, rfl⟩ : ∃ y, y = z32 := ⟨_, rfl⟩
            intro H locs ls I hl
            have h : ((if ((fJ_bitCount x11) - (fJ_bitCount x11) / (2 : Int32) * (2 : Int32)) = 0 then some (.inl ((x10 + x34), (x11 + 1))) else some (.inl ((x10 + (-x34)), (x11 + 1)))) : Option ((Int64 × Int32) ⊕ (Int64))) = some o6 := h
            have I : wk D (cW g a st) A H0 H locs := I
            have hl : lv_has ls 10 [(0, .ref (a 7)), (1, .int x91), (2, .int x92), (3, .long x10), (5, .int x11), (7, .long x34)] := hl
            refine lv_lload_n hx hb dX0_bySetsWith_106 rfl (lv_at hl 3 rfl) ?_
            refine lv_iload hx hb dX0_bySetsWith_107 (lv_at hl 4 rfl) ?_
            refine r_callS1 (As := [.int x11]) (rest := [.long x10]) E I hl.1 k0_84 (cJ_bitCount rfl) rfl rfl (Nat.le_of_ble_eq_true rfl) ⟨Nat.le_of_ble_eq_true rfl, Nat.le_of_ble_eq_true rfl⟩ ⟨Nat.zero_le _, Nat.zero_le _⟩ dX0_bySetsWith_109 (fun H locs I => ?_)
            refine lv_iconst (v := (2 : Int32)) hx hb dX0_bySetsWith_112 (by decide) ?_
            refine lv_irem hx hb dX0_bySetsWith_113 (by decide) ?_
            refine lv_if_ne (tgt := 122) hx hb dX0_bySetsWith_114 (by decide) (fun hc35 => ?_) (fun hc35 => ?_)
            · have h := ifn hc35 h
              refine lv_lload hx hb dX0_bySetsWith_122 (lv_at hl 5 rfl) ?_
              refine lv_lneg hx hb dX0_bySetsWith_124 ?_
              refine lv_ladd hx hb dX0_bySetsWith_125 ?_
              refine lv_lstore_n (lv' := [(3, .long (x10 + (-x34))), (0, .ref (a 7)), (1, .int x91), (2, .int x92), (5, .int x11), (7, .long x34)]) hx hb dX0_bySetsWith_126 rfl hl (by decide) rfl (fun ls hl => ?_)
              refine lv_iinc (v := (x11 + 1)) (lv' := [(5, .int (x11 + 1)), (3, .long (x10 + (-x34))), (0, .ref (a 7)), (1, .int x91), (2, .int x92), (7, .long x34)]) hx hb dX0_bySetsWith_127 hl (k := 4) rfl rfl (by decide) rfl (fun ls hl => ?_)
              refine lv_goto (tgt := 5) hx hb dX0_bySetsWith_130 (by decide) ?_
              cases h
              exact hk7 _ _ _ I (lv_sub hl [2, 3, 4, 1, 0] rfl)
            · have h := ifp hc35 h
              refine lv_lload hx hb dX0_bySetsWith_117 (lv_at hl 5 rfl) ?_
              refine lv_goto (tgt := 125) hx hb dX0_bySetsWith_119 (by decide) ?_
              refine lv_ladd hx hb dX0_bySetsWith_125 ?_
              refine lv_lstore_n (lv' := [(3, .long (x10 + x34)), (0, .ref (a 7)), (1, .int x91), (2, .int x92), (5, .int x11), (7, .long x34)]) hx hb dX0_bySetsWith_126 rfl hl (by decide) rfl (fun ls hl => ?_)
              refine lv_iinc (v := (x11 + 1)) (lv' := [(5, .int (x11 + 1)), (3, .long (x10 + x34)), (0, .ref (a 7)), (1, .int x91), (2, .int x92), (7, .long x34)]) hx hb dX0_bySetsWith_127 hl (k := 4) rfl rfl (by decide) rfl (fun ls hl => ?_)
              refine lv_goto (tgt := 5) hx hb dX0_bySetsWith_130 (by decide) ?_
              cases h
              exact hk7 _ _ _ I (lv_sub hl [2, 3, 4, 1, 0] rfl)
      refine lv_if_eq (tgt := 32) hx hb dX0_bySetsWith_16 (by decide) (fun hc37 => ?_) (fun hc37 => ?_)
      · have h := ifp hc37 h
        refine lv_iload hx hb dX0_bySetsWith_32 (lv_at hl 4 rfl) ?_
        refine lv_aload_n hx hb dX0_bySetsWith_34 rfl (lv_at hl 0 rfl) ?_
        refine g0_41 E I (v := (c_used st)) rfl dX0_bySetsWith_35 ?_
        refine lv_iand hx hb dX0_bySetsWith_38 ?_
        refine lv_iload hx hb dX0_bySetsWith_39 (lv_at hl 4 rfl) ?_
        refine lv_icmp_ne (tgt := 48) hx hb dX0_bySetsWith_41 (by decide) (fun hc38 => ?_) (fun hc38 => ?_)
        · have h := ifn hc38 h
          refine lv_iconst (v := (0 : Int32)) hx hb dX0_bySetsWith_48 (by decide) ?_
          exact J9 _ _ _ h _ _ _ I (lv_sub hl [0, 1, 2, 3, 4] rfl)
        · have h := ifp hc38 h
          refine lv_iconst (v := (1 : Int32)) hx hb dX0_bySetsWith_44 (by decide) ?_
          refine lv_goto (tgt := 49) hx hb dX0_bySetsWith_45 (by decide) ?_
          exact J9 _ _ _ h _ _ _ I (lv_sub hl [0, 1, 2, 3, 4] rfl)
      · have h := ifn hc37 h
        refine lv_iload hx hb dX0_bySetsWith_19 (lv_at hl 4 rfl) ?_
        refine lv_if_ne (tgt := 28) hx hb dX0_bySetsWith_21 (by decide) (fun hc39 => ?_) (fun hc39 => ?_)
        · have h := ifn hc39 h
          refine lv_iconst (v := (0 : Int32)) hx hb dX0_bySetsWith_28 (by decide) ?_
          refine lv_goto (tgt := 49) hx hb dX0_bySetsWith_29 (by decide) ?_
          exact J9 _ _ _ h _ _ _ I (lv_sub hl [0, 1, 2, 3, 4] rfl)
        · have h := ifp hc39 h
          refine lv_iconst (v := (1 : Int32)) hx hb dX0_bySetsWith_24 (by decide) ?_
          refine lv_goto (tgt := 49) hx hb dX0_bySetsWith_25 (by decide) ?_
          exact J9 _ _ _ h _ _ _ I (lv_sub hl [0, 1, 2, 3, 4] rfl)
  · obtain ⟨x42, rfl⟩ : ∃ y, y = z40 := ⟨_, rfl⟩
    intro H locs ls I hl
    have h : (some x42 : Option Int64) = some o := h
    have I : wk D (cW g a st) A H0 H locs := I
    have hl : lv_has ls 10 [(3, .long x42)] := hl
    refine lv_lload_n hx hb dX0_bySetsWith_133 rfl (lv_at hl 0 rfl) ?_
    cases h
    exact K _ _ _ _ I dX0_bySetsWith_134
set_option maxHeartbeats 4000000 in
set_option maxRecDepth 100000 in
theorem c0_bySets {l : Launch} {D : va_G} {g : Nat → ClassId} {a : Nat → Nat} {st : CS} {o : Int64} (h : f0_bySets st = some o) : ct l yX0_bySets cX0_bySets 1 (some .long) (rmk 2 49) D g (cW g a st) (cW g a st) [.ref (a 7)] (some (.long o)) := by
  refine ct_of ⟨rfl, rfl⟩ (by decide) (Nat.le_of_ble_eq_true rfl) ?_
  intro p e s m args below meth c ls Q A H0 H locs E I hl K
  have E : en p m c cX0_bySets 1 s args RX0 D g := E
  have hx := E.1.1
  have hb := E.1.2.1
  have hl : lv_has ls 1 [(0, .ref (a 7))] := hl
  have K : ∀ (pc : Nat) (ls : Array Slot) (H : Heap) (locs : List Loc), wk D (cW g a st) A H0 H locs → decode cX0_bySets pc = .ok (.lreturn, 1) → W p l e (rmk 2 49) s m args below meth c H locs 0 0 Q (F0 m pc ls [.long o]) := fun pc ls H locs I hd => K pc ls H locs I hd
  have h : ((bi1 (f0_bySetsWith st (4 : Int32) (4 : Int32)) fun r2 => some r2) : Option Int64) = some o := h
  refine lv_aload_n hx hb dX0_bySets_0 rfl (lv_at hl 0 rfl) ?_
  refine lv_iconst (v := (4 : Int32)) hx hb dX0_bySets_1 (by decide) ?_
  refine lv_iconst (v := (4 : Int32)) hx hb dX0_bySets_2 (by decide) ?_
  obtain ⟨r2, hc1, h⟩ := bx1 h
  refine r_callV1 (As := [.int (4 : Int32), .int (4 : Int32)]) (rest := []) (ws' := (cW g a st)) (q0 := 7) E I hl.1 k0_58 (c0_bySetsWith hc1) cW_k rfl rfl rfl rfl (Nat.le_of_ble_eq_true rfl) ⟨Nat.le_of_ble_eq_true rfl, Nat.le_of_ble_eq_true rfl⟩ ⟨Nat.zero_le _, Nat.zero_le _⟩ dX0_bySets_3 (fun H locs I => ?_)
  cases h
  exact K _ _ _ _ I dX0_bySets_6
set_option maxHeartbeats 4000000 in
set_option maxRecDepth 100000 in
theorem c0_byConstants {l : Launch} {D : va_G} {g : Nat → ClassId} {a : Nat → Nat} {st : CS} {o : Int64} (h : f0_byConstants st = some o) : ct l yX0_byConstants cX0_byConstants 1 (some .long) (rmk 0 0) D g (cW g a st) (cW g a st) [.ref (a 7)] (some (.long o)) := by
  refine ct_of ⟨rfl, rfl⟩ (by decide) (Nat.le_of_ble_eq_true rfl) ?_
  intro p e s m args below meth c ls Q A H0 H locs E I hl K
  have E : en p m c cX0_byConstants 1 s args RX0 D g := E
  have hx := E.1.1
  have hb := E.1.2.1
  have hl : lv_has ls 1 [(0, .ref (a 7))] := hl
  have K : ∀ (pc : Nat) (ls : Array Slot) (H : Heap) (locs : List Loc), wk D (cW g a st) A H0 H locs → decode cX0_byConstants pc = .ok (.lreturn, 1) → W p l e (rmk 0 0) s m args below meth c H locs 0 0 Q (F0 m pc ls [.long o]) := fun pc ls H locs I hd => K pc ls H locs I hd
  have h : (some ((c_eways st) (0 : Int32).toNatClampNeg (0 : Int32).toNatClampNeg) : Option Int64) = some o := h
  refine lv_aload_n hx hb dX0_byConstants_0 rfl (lv_at hl 0 rfl) ?_
  refine g0_31 E I dX0_byConstants_1 ?_
  refine lv_iconst (v := (0 : Int32)) hx hb dX0_byConstants_4 (by decide) ?_
  refine c_al18 E I (by decide) dX0_byConstants_5 ?_
  refine lv_iconst (v := (0 : Int32)) hx hb dX0_byConstants_6 (by decide) ?_
  refine c_ld18 E I (f := (c_eways st)) rfl (ib_lt (show ib (0 : Int32) 5 = true by decide)) (by decide) dX0_byConstants_7 ?_
  cases h
  exact K _ _ _ _ I dX0_byConstants_8
set_option maxHeartbeats 4000000 in
set_option maxRecDepth 100000 in
theorem c4_matchers {l : Launch} {D : va_G} {g : Nat → ClassId} {a : Nat → Nat} {st : CS} {x91 : Int32} {st' : CS} {r' : Int64} (h : f4_matchers st x91 = some (st', .inr r')) : ct l yX4_matchers cX4_matchers 2 (some .long) (rmk 5 117) D g (cW g a st) (cW g a st') [.ref (a 0), .int x91] (some (.long r')) := by
  refine ct_of ⟨rfl, rfl⟩ (by decide) (Nat.le_of_ble_eq_true rfl) ?_
  intro p e s m args below meth c ls Q A H0 H locs E I hl K
  have E : en p m c cX4_matchers 2 s args RX4 D g := E
  have hx := E.1.1
  have hb := E.1.2.1
  have hl : lv_has ls 2 [(0, .ref (a 0)), (1, .int x91)] := hl
  have K : ∀ (pc : Nat) (ls : Array Slot) (H : Heap) (locs : List Loc), wk D (cW g a st') A H0 H locs → decode cX4_matchers pc = .ok (.lreturn, 1) → W p l e (rmk 5 117) s m args below meth c H locs 0 0 Q (F0 m pc ls [.long r']) := fun pc ls H locs I hd => K pc ls H locs I hd
  have h : ((bt0 st (f4_needNumber x91 (0 : Int32) (1 : Int32)) fun (u2 : Unit) => (bi1 (f0_prepare st) fun st4 => (if x91 = 0 then (bi1 (f0_bySets st4) fun r9 => some (st4, .inr r9)) else (bi1 (f0_byConstants st4) fun r7 => some (st4, .inr r7))))) : Option (CS × (Nat ⊕ Int64))) = some (st', .inr r') := h
  refine lv_iload_n hx hb dX4_matchers_0 rfl (lv_at hl 1 rfl) ?_
  refine lv_iconst (v := (0 : Int32)) hx hb dX4_matchers_1 (by decide) ?_
  refine lv_iconst (v := (1 : Int32)) hx hb dX4_matchers_2 (by decide) ?_
  obtain ⟨u2, hc1, h⟩ := bt0n h
  refine r_callS0 (As := [.int x91, .int (0 : Int32), .int (1 : Int32)]) (rest := []) E I hl.1 k4_57 (c4_needNumber hc1) rfl rfl (Nat.le_of_ble_eq_true rfl) ⟨Nat.le_of_ble_eq_true rfl, Nat.le_of_ble_eq_true rfl⟩ ⟨Nat.zero_le _, Nat.zero_le _⟩ dX4_matchers_3 (fun H locs I => ?_)
  refine lv_aload_n hx hb dX4_matchers_6 rfl (lv_at hl 0 rfl) ?_
  refine g4_42 E I dX4_matchers_7 ?_
  refine lv_aload_n hx hb dX4_matchers_10 rfl (lv_at hl 0 rfl) ?_
  refine g4_9 E I dX4_matchers_11 ?_
  obtain ⟨st4, hc3, h⟩ := bx1 h
  refine r_callV0 (As := [.ref (a 1)]) (rest := []) (ws' := (cW g a st4)) (q0 := 7) E I hl.1 k4_148 (c0_prepare hc3) cW_k rfl rfl rfl rfl (Nat.le_of_ble_eq_true rfl) ⟨Nat.le_of_ble_eq_true rfl, Nat.le_of_ble_eq_true rfl⟩ ⟨Nat.zero_le _, Nat.zero_le _⟩ dX4_matchers_14 (fun H locs I => ?_)
  refine lv_iload_n hx hb dX4_matchers_17 rfl (lv_at hl 1 rfl) ?_
  refine lv_if_ne (tgt := 31) hx hb dX4_matchers_18 (by decide) (fun hc5 => ?_) (fun hc5 => ?_)
  · have h := ifn hc5 h
    refine lv_aload_n hx hb dX4_matchers_31 rfl (lv_at hl 0 rfl) ?_
    refine g4_42 E I dX4_matchers_32 ?_
    obtain ⟨r7, hc6, h⟩ := bx1 h
    refine r_callV1 (As := []) (rest := []) (ws' := (cW g a st4)) (q0 := 7) E I hl.1 k4_158 (c0_byConstants hc6) cW_k rfl rfl rfl rfl (Nat.le_of_ble_eq_true rfl) ⟨Nat.le_of_ble_eq_true rfl, Nat.le_of_ble_eq_true rfl⟩ ⟨Nat.zero_le _, Nat.zero_le _⟩ dX4_matchers_35 (fun H locs I => ?_)
    cases h
    exact K _ _ _ _ I dX4_matchers_38
  · have h := ifp hc5 h
    refine lv_aload_n hx hb dX4_matchers_21 rfl (lv_at hl 0 rfl) ?_
    refine g4_42 E I dX4_matchers_22 ?_
    obtain ⟨r9, hc8, h⟩ := bx1 h
    refine r_callV1 (As := []) (rest := []) (ws' := (cW g a st4)) (q0 := 7) E I hl.1 k4_154 (c0_bySets hc8) cW_k rfl rfl rfl rfl (Nat.le_of_ble_eq_true rfl) ⟨Nat.le_of_ble_eq_true rfl, Nat.le_of_ble_eq_true rfl⟩ ⟨Nat.zero_le _, Nat.zero_le _⟩ dX4_matchers_25 (fun H locs I => ?_)
    refine lv_goto (tgt := 38) hx hb dX4_matchers_28 (by decide) ?_
    cases h
    exact K _ _ _ _ I dX4_matchers_38
set_option maxHeartbeats 4000000 in
set_option maxRecDepth 100000 in
theorem c2_solves {l : Launch} {D : va_G} {g : Nat → ClassId} {a : Nat → Nat} {st : CS} {x91 : Int32} {x92 : Int32} {x93 : Int32} {x94 : Int32} {o : Int32} (h : f2_solves st x91 x92 x93 x94 = some o) : ct l yX2_solves cX2_solves 5 (some .boolean) (rmk 0 0) D g (cW g a st) (cW g a st) [.ref (a 8), .int x91, .int x92, .int x93, .int x94] (some (.int o)) := by
  refine ct_of ⟨rfl, rfl⟩ (by decide) (Nat.le_of_ble_eq_true rfl) ?_
  intro p e s m args below meth c ls Q A H0 H locs E I hl K
  have E : en p m c cX2_solves 5 s args RX2 D g := E
  have hx := E.1.1
  have hb := E.1.2.1
  have hl : lv_has ls 5 [(0, .ref (a 8)), (1, .int x91), (2, .int x92), (3, .int x93), (4, .int x94)] := hl
  have K : ∀ (pc : Nat) (ls : Array Slot) (H : Heap) (locs : List Loc), wk D (cW g a st) A H0 H locs → decode cX2_solves pc = .ok (.ireturn, 1) → zok o = true → W p l e (rmk 0 0) s m args below meth c H locs 0 0 Q (F0 m pc ls [.int o]) := fun pc ls H locs I hd hz => K pc ls H locs I ⟨hd, hz⟩
  have h : ((if ((((((c_difference st) (0 : Int32).toNatClampNeg) * x91) + (((c_difference st) (1 : Int32).toNatClampNeg) * x92)) + (((c_difference st) (2 : Int32).toNatClampNeg) * x93)) + (((c_difference st) (3 : Int32).toNatClampNeg) * x94)) = 0 then some (1 : Int32) else some (0 : Int32)) : Option Int32) = some o := h
  refine lv_aload_n hx hb dX2_solves_0 rfl (lv_at hl 0 rfl) ?_
  refine g2_9 E I dX2_solves_1 ?_
  refine lv_iconst (v := (0 : Int32)) hx hb dX2_solves_4 (by decide) ?_
  refine c_ld20 E I (f := (c_difference st)) rfl (by decide) dX2_solves_5 ?_
  refine lv_iload_n hx hb dX2_solves_6 rfl (lv_at hl 1 rfl) ?_
  refine lv_imul hx hb dX2_solves_7 ?_
  refine lv_aload_n hx hb dX2_solves_8 rfl (lv_at hl 0 rfl) ?_
  refine g2_9 E I dX2_solves_9 ?_
  refine lv_iconst (v := (1 : Int32)) hx hb dX2_solves_12 (by decide) ?_
  refine c_ld20 E I (f := (c_difference st)) rfl (by decide) dX2_solves_13 ?_
  refine lv_iload_n hx hb dX2_solves_14 rfl (lv_at hl 2 rfl) ?_
  refine lv_imul hx hb dX2_solves_15 ?_
  refine lv_iadd hx hb dX2_solves_16 ?_
  refine lv_aload_n hx hb dX2_solves_17 rfl (lv_at hl 0 rfl) ?_
  refine g2_9 E I dX2_solves_18 ?_
  refine lv_iconst (v := (2 : Int32)) hx hb dX2_solves_21 (by decide) ?_
  refine c_ld20 E I (f := (c_difference st)) rfl (by decide) dX2_solves_22 ?_
  refine lv_iload_n hx hb dX2_solves_23 rfl (lv_at hl 3 rfl) ?_
  refine lv_imul hx hb dX2_solves_24 ?_
  refine lv_iadd hx hb dX2_solves_25 ?_
  refine lv_aload_n hx hb dX2_solves_26 rfl (lv_at hl 0 rfl) ?_
  refine g2_9 E I dX2_solves_27 ?_
  refine lv_iconst (v := (3 : Int32)) hx hb dX2_solves_30 (by decide) ?_
  refine c_ld20 E I (f := (c_difference st)) rfl (by decide) dX2_solves_31 ?_
  refine lv_iload hx hb dX2_solves_32 (lv_at hl 4 rfl) ?_
  refine lv_imul hx hb dX2_solves_34 ?_
  refine lv_iadd hx hb dX2_solves_35 ?_
  refine lv_if_ne (tgt := 43) hx hb dX2_solves_36 (by decide) (fun hc1 => ?_) (fun hc1 => ?_)
  · have h := ifn hc1 h
    refine lv_iconst (v := (0 : Int32)) hx hb dX2_solves_43 (by decide) ?_
    cases h
    exact K _ _ _ _ I dX2_solves_44 rfl
  · have h := ifp hc1 h
    refine lv_iconst (v := (1 : Int32)) hx hb dX2_solves_39 (by decide) ?_
    refine lv_goto (tgt := 44) hx hb dX2_solves_40 (by decide) ?_
    cases h
    exact K _ _ _ _ I dX2_solves_44 rfl
set_option maxHeartbeats 4000000 in
set_option maxRecDepth 100000 in
theorem c2_setRow {l : Launch} {D : va_G} {g : Nat → ClassId} {a : Nat → Nat} {st : CS} {x91 : Int32} {x92 : Int32} {x93 : Int32} {x94 : Int32} {o : CS} (h : f2_setRow st x91 x92 x93 x94 = some o) : ct l yX2_setRow cX2_setRow 5 none (rmk 0 0) D g (cW g a st) (cW g a o) [.ref (a 8), .int x91, .int x92, .int x93, .int x94] none := by
  refine ct_of ⟨rfl, rfl⟩ (by decide) (Nat.le_of_ble_eq_true rfl) ?_
  intro p e s m args below meth c ls Q A H0 H locs E I hl K
  have E : en p m c cX2_setRow 5 s args RX2 D g := E
  have hx := E.1.1
  have hb := E.1.2.1
  have hl : lv_has ls 5 [(0, .ref (a 8)), (1, .int x91), (2, .int x92), (3, .int x93), (4, .int x94)] := hl
  have K : ∀ (pc : Nat) (ls : Array Slot) (H : Heap) (locs : List Loc), wk D (cW g a o) A H0 H locs → decode cX2_setRow pc = .ok (.return_, 1) → W p l e (rmk 0 0) s m args below meth c H locs 0 0 Q (F0 m pc ls []) := fun pc ls H locs I hd => K pc ls H locs I hd
  have h : (some (c_row_s (c_row_s (c_row_s (c_row_s st (upd (c_row st) (0 : Int32).toNatClampNeg x91)) (upd (upd (c_row st) (0 : Int32).toNatClampNeg x91) (1 : Int32).toNatClampNeg x92)) (upd (upd (upd (c_row st) (0 : Int32).toNatClampNeg x91) (1 : Int32).toNatClampNeg x92) (2 : Int32).toNatClampNeg x93)) (upd (upd (upd (upd (c_row st) (0 : Int32).toNatClampNeg x91) (1 : Int32).toNatClampNeg x92) (2 : Int32).toNatClampNeg x93) (3 : Int32).toNatClampNeg x94)) : Option CS) = some o := h
  refine lv_aload_n hx hb dX2_setRow_0 rfl (lv_at hl 0 rfl) ?_
  refine g2_15 E I dX2_setRow_1 ?_
  refine lv_iconst (v := (0 : Int32)) hx hb dX2_setRow_4 (by decide) ?_
  refine lv_iload_n hx hb dX2_setRow_5 rfl (lv_at hl 1 rfl) ?_
  refine c_st21 E I (f := (c_row st)) rfl (by decide) dX2_setRow_6 (fun H locs I => ?_)
  refine lv_aload_n hx hb dX2_setRow_7 rfl (lv_at hl 0 rfl) ?_
  refine g2_15 E I dX2_setRow_8 ?_
  refine lv_iconst (v := (1 : Int32)) hx hb dX2_setRow_11 (by decide) ?_
  refine lv_iload_n hx hb dX2_setRow_12 rfl (lv_at hl 2 rfl) ?_
  refine c_st21 E I (f := (upd (c_row st) (0 : Int32).toNatClampNeg x91)) rfl (by decide) dX2_setRow_13 (fun H locs I => ?_)
  refine lv_aload_n hx hb dX2_setRow_14 rfl (lv_at hl 0 rfl) ?_
  refine g2_15 E I dX2_setRow_15 ?_
  refine lv_iconst (v := (2 : Int32)) hx hb dX2_setRow_18 (by decide) ?_
  refine lv_iload_n hx hb dX2_setRow_19 rfl (lv_at hl 3 rfl) ?_
  refine c_st21 E I (f := (upd (upd (c_row st) (0 : Int32).toNatClampNeg x91) (1 : Int32).toNatClampNeg x92)) rfl (by decide) dX2_setRow_20 (fun H locs I => ?_)
  refine lv_aload_n hx hb dX2_setRow_21 rfl (lv_at hl 0 rfl) ?_
  refine g2_15 E I dX2_setRow_22 ?_
  refine lv_iconst (v := (3 : Int32)) hx hb dX2_setRow_25 (by decide) ?_
  refine lv_iload hx hb dX2_setRow_26 (lv_at hl 4 rfl) ?_
  refine c_st21 E I (f := (upd (upd (upd (c_row st) (0 : Int32).toNatClampNeg x91) (1 : Int32).toNatClampNeg x92) (2 : Int32).toNatClampNeg x93)) rfl (by decide) dX2_setRow_28 (fun H locs I => ?_)
  cases h
  exact K _ _ _ _ I dX2_setRow_29
set_option maxHeartbeats 4000000 in
set_option maxRecDepth 100000 in
theorem c2_number {l : Launch} {D : va_G} {g : Nat → ClassId} {a : Nat → Nat} {st : CS} {x91 : Int32} {x92 : Int32} {o : Int32} (h : f2_number st x91 x92 = some o) : ct l yX2_number cX2_number 3 (some .int) (rmk 0 0) D g (cW g a st) (cW g a st) [.ref (a 8), .int x91, .int x92] (some (.int o)) := by
  refine ct_of ⟨rfl, rfl⟩ (by decide) (Nat.le_of_ble_eq_true rfl) ?_
  intro p e s m args below meth c ls Q A H0 H locs E I hl K
  have E : en p m c cX2_number 3 s args RX2 D g := E
  have hx := E.1.1
  have hb := E.1.2.1
  have hl : lv_has ls 3 [(0, .ref (a 8)), (1, .int x91), (2, .int x92)] := hl
  have K : ∀ (pc : Nat) (ls : Array Slot) (H : Heap) (locs : List Loc), wk D (cW g a st) A H0 H locs → decode cX2_number pc = .ok (.ireturn, 1) → W p l e (rmk 0 0) s m args below meth c H locs 0 0 Q (F0 m pc ls [.int o]) := fun pc ls H locs I hd => K pc ls H locs I hd
  have h : ((if x91 < 0 then some (-1 : Int32) else (if (c_found st) ≤ x91 then some (-1 : Int32) else (if ib ((x91 * (4 : Int32)) + x92) 120 = true then some ((c_numbers st) ((x91 * (4 : Int32)) + x92).toNatClampNeg) else none))) : Option Int32) = some o := h
  refine lv_iload_n hx hb dX2_number_0 rfl (lv_at hl 1 rfl) ?_
  refine lv_if_lt (tgt := 25) hx hb dX2_number_1 (by decide) (fun hc1 => ?_) (fun hc1 => ?_)
  · have h := ifp hc1 h
    refine lv_iconst (v := (-1 : Int32)) hx hb dX2_number_25 (by decide) ?_
    cases h
    exact K _ _ _ _ I dX2_number_26
  · have h := ifn hc1 h
    refine lv_iload_n hx hb dX2_number_4 rfl (lv_at hl 1 rfl) ?_
    refine lv_aload_n hx hb dX2_number_5 rfl (lv_at hl 0 rfl) ?_
    refine g2_28 E I (v := (c_found st)) rfl dX2_number_6 ?_
    refine lv_icmp_ge (tgt := 25) hx hb dX2_number_9 (by decide) (fun hc2 => ?_) (fun hc2 => ?_)
    · have h := ifp hc2 h
      refine lv_iconst (v := (-1 : Int32)) hx hb dX2_number_25 (by decide) ?_
      cases h
      exact K _ _ _ _ I dX2_number_26
    · have h := ifn hc2 h
      refine lv_aload_n hx hb dX2_number_12 rfl (lv_at hl 0 rfl) ?_
      refine g2_18 E I dX2_number_13 ?_
      refine lv_iload_n hx hb dX2_number_16 rfl (lv_at hl 1 rfl) ?_
      refine lv_iconst (v := (4 : Int32)) hx hb dX2_number_17 (by decide) ?_
      refine lv_imul hx hb dX2_number_18 ?_
      refine lv_iload_n hx hb dX2_number_19 rfl (lv_at hl 2 rfl) ?_
      refine lv_iadd hx hb dX2_number_20 ?_
      obtain ⟨hc3, h⟩ := gd h
      refine c_ld22 E I (f := (c_numbers st)) rfl hc3 dX2_number_21 ?_
      refine lv_goto (tgt := 26) hx hb dX2_number_22 (by decide) ?_
      cases h
      exact K _ _ _ _ I dX2_number_26
set_option maxHeartbeats 4000000 in
set_option maxRecDepth 100000 in
theorem c2_isAtMostRow {l : Launch} {D : va_G} {g : Nat → ClassId} {a : Nat → Nat} {st : CS} {x91 : Int32} {o : Int32} (h : f2_isAtMostRow st x91 = some o) : ct l yX2_isAtMostRow cX2_isAtMostRow 3 (some .boolean) (rmk 1 22) D g (cW g a st) (cW g a st) [.ref (a 8), .int x91] (some (.int o)) := by
  refine ct_of ⟨rfl, rfl⟩ (by decide) (Nat.le_of_ble_eq_true rfl) ?_
  intro p e s m args below meth c ls Q A H0 H locs E I hl K
  have E : en p m c cX2_isAtMostRow 3 s args RX2 D g := E
  have hx := E.1.1
  have hb := E.1.2.1
  have hl : lv_has ls 3 [(0, .ref (a 8)), (1, .int x91)] := hl
  have K : ∀ (pc : Nat) (ls : Array Slot) (H : Heap) (locs : List Loc), wk D (cW g a st) A H0 H locs → decode cX2_isAtMostRow pc = .ok (.ireturn, 1) → zok o = true → W p l e (rmk 1 22) s m args below meth c H locs 0 0 Q (F0 m pc ls [.int o]) := fun pc ls H locs I hd hz => K pc ls H locs I ⟨hd, hz⟩
  have h : ((bi1 (wh (f2_isAtMostRow_b2 st x91) FU (0 : Int32)) fun w14 => Sum.elim (fun w15 => some (1 : Int32)) (fun w16 => some (0 : Int32)) w14) : Option Int32) = some o := h
  refine lv_iconst (v := (0 : Int32)) hx hb dX2_isAtMostRow_0 (by decide) ?_
  refine lv_istore_n (lv' := [(2, .int (0 : Int32)), (0, .ref (a 8)), (1, .int x91)]) hx hb dX2_isAtMostRow_1 rfl hl (by decide) rfl (fun ls hl => ?_)
  obtain ⟨z11, hw12, h⟩ := bx1 h
  refine wh_W (P := fun (z : Int32) => ∀ (H : Heap) (locs : List Loc) (ls : Array Slot), wk D (cW g a st) A H0 H locs → lv_has ls 3 [(0, .ref (a 8)), (1, .int x91), (2, .int z)] → W p l e (rmk 1 22) s m args below meth c H locs 0 0 Q (F0 m 2 ls [])) (X := Sum.elim (fun (z : Unit) => ∀ (H : Heap) (locs : List Loc) (ls : Array Slot), wk D (cW g a st) A H0 H locs → lv_has ls 3 [] → W p l e (rmk 1 22) s m args below meth c H locs 0 0 Q (F0 m 30 ls [])) (fun (z : Unit) => ∀ (H : Heap) (locs : List Loc) (ls : Array Slot), wk D (cW g a st) A H0 H locs → lv_has ls 3 [] → W p l e (rmk 1 22) s m args below meth c H locs 0 0 Q (F0 m 22 ls []))) ?_ FU _ _ hw12 ?_ _ _ _ I (lv_sub hl [1, 2, 0] rfl)
  · intro x3 o4 h hk5 H locs ls I hl
    have h : ((if (4 : Int32) ≤ x3 then some (.inr (.inl ())) else (bi1 (f2_number st x91 x3) fun r8 => (if ib x3 4 = true then (if r8 ≤ ((c_row st) x3.toNatClampNeg) then some (.inl (x3 + 1)) else some (.inr (.inr ()))) else none))) : Option ((Int32) ⊕ ((Unit) ⊕ (Unit)))) = some o4 := h
    have I : wk D (cW g a st) A H0 H locs := I
    have hl : lv_has ls 3 [(0, .ref (a 8)), (1, .int x91), (2, .int x3)] := hl
    refine lv_iload_n hx hb dX2_isAtMostRow_2 rfl (lv_at hl 2 rfl) ?_
    refine lv_iconst (v := (4 : Int32)) hx hb dX2_isAtMostRow_3 (by decide) ?_
    refine lv_icmp_ge (tgt := 30) hx hb dX2_isAtMostRow_4 (by decide) (fun hc6 => ?_) (fun hc6 => ?_)
    · have h := ifp hc6 h
      cases h
      exact hk5 _ _ _ I (lv_sub hl [] rfl)
    · have h := ifn hc6 h
      refine lv_aload_n hx hb dX2_isAtMostRow_7 rfl (lv_at hl 0 rfl) ?_
      refine lv_iload_n hx hb dX2_isAtMostRow_8 rfl (lv_at hl 1 rfl) ?_
      refine lv_iload_n hx hb dX2_isAtMostRow_9 rfl (lv_at hl 2 rfl) ?_
      obtain ⟨r8, hc7, h⟩ := bx1 h
      refine r_callV1 (As := [.int x91, .int x3]) (rest := []) (ws' := (cW g a st)) (q0 := 8) E I hl.1 k2_36 (c2_number hc7) cW_k rfl rfl rfl rfl (Nat.le_of_ble_eq_true rfl) ⟨Nat.le_of_ble_eq_true rfl, Nat.le_of_ble_eq_true rfl⟩ ⟨Nat.zero_le _, Nat.zero_le _⟩ dX2_isAtMostRow_10 (fun H locs I => ?_)
      refine lv_aload_n hx hb dX2_isAtMostRow_13 rfl (lv_at hl 0 rfl) ?_
      refine g2_15 E I dX2_isAtMostRow_14 ?_
      refine lv_iload_n hx hb dX2_isAtMostRow_17 rfl (lv_at hl 2 rfl) ?_
      obtain ⟨hc9, h⟩ := gd h
      refine c_ld21 E I (f := (c_row st)) rfl hc9 dX2_isAtMostRow_18 ?_
      refine lv_icmp_le (tgt := 24) hx hb dX2_isAtMostRow_19 (by decide) (fun hc10 => ?_) (fun hc10 => ?_)
      · have h := ifp hc10 h
        refine lv_iinc (v := (x3 + 1)) (lv' := [(2, .int (x3 + 1)), (0, .ref (a 8)), (1, .int x91)]) hx hb dX2_isAtMostRow_24 hl (k := 2) rfl rfl (by decide) rfl (fun ls hl => ?_)
        refine lv_goto (tgt := 2) hx hb dX2_isAtMostRow_27 (by decide) ?_
        cases h
        exact hk5 _ _ _ I (lv_sub hl [1, 2, 0] rfl)
      · have h := ifn hc10 h
        cases h
        exact hk5 _ _ _ I (lv_sub hl [] rfl)
  · rcases z11 with z13 | z13
    · intro H locs ls I hl
      have h : (some (1 : Int32) : Option Int32) = some o := h
      have I : wk D (cW g a st) A H0 H locs := I
      have hl : lv_has ls 3 [] := hl
      refine lv_iconst (v := (1 : Int32)) hx hb dX2_isAtMostRow_30 (by decide) ?_
      cases h
      exact K _ _ _ _ I dX2_isAtMostRow_31 rfl
    · intro H locs ls I hl
      have h : (some (0 : Int32) : Option Int32) = some o := h
      have I : wk D (cW g a st) A H0 H locs := I
      have hl : lv_has ls 3 [] := hl
      refine lv_iconst (v := (0 : Int32)) hx hb dX2_isAtMostRow_22 (by decide) ?_
      cases h
      exact K _ _ _ _ I dX2_isAtMostRow_23 rfl
set_option maxHeartbeats 4000000 in
set_option maxRecDepth 100000 in
theorem c2_look {l : Launch} {D : va_G} {g : Nat → ClassId} {a : Nat → Nat} {st : CS} {x91 : Int32} {x92 : Int32} {x93 : Int32} {x94 : Int32} {o : CS} (h : f2_look st x91 x92 x93 x94 = some o) : ct l yX2_look cX2_look 6 none (rmk 2 44) D g (cW g a st) (cW g a o) [.ref (a 8), .int x91, .int x92, .int x93, .int x94] none := by
  refine ct_of ⟨rfl, rfl⟩ (by decide) (Nat.le_of_ble_eq_true rfl) ?_
  intro p e s m args below meth c ls Q A H0 H locs E I hl K
  have E : en p m c cX2_look 6 s args RX2 D g := E
  have hx := E.1.1
  have hb := E.1.2.1
  have hl : lv_has ls 6 [(0, .ref (a 8)), (1, .int x91), (2, .int x92), (3, .int x93), (4, .int x94)] := hl
  have K : ∀ (pc : Nat) (ls : Array Slot) (H : Heap) (locs : List Loc), wk D (cW g a o) A H0 H locs → decode cX2_look pc = .ok (.return_, 1) → W p l e (rmk 2 44) s m args below meth c H locs 0 0 Q (F0 m pc ls []) := fun pc ls H locs I hd => K pc ls H locs I hd
  have h : ((bi1 (f2_solves st x91 x92 x93 x94) fun r2 => (if r2 = 0 then some st else (if (((x91 + x92) + x93) + x94) = 0 then some st else (bi1 (f2_setRow st x91 x92 x93 x94) fun st6 => (bi1 (wh (f2_look_b36 st6) FU (0 : Int32)) fun w20 => Sum.elim (fun w21 => (if (30 : Int32) ≤ (c_found st6) then some st6 else (if cg (0 : Int32) ((c_found st6) * (4 : Int32)) (4 : Int32) 4 120 = true then some (c_found_s (c_numbers_s st6 (va_cpy (c_row st6) (c_numbers st6) (0 : Int32).toNatClampNeg ((c_found st6) * (4 : Int32)).toNatClampNeg (4 : Int32).toNatClampNeg)) ((c_found st6) + (1 : Int32))) else none))) (fun w22 => some st6) w20))))) : Option CS) = some o := h
  refine lv_aload_n hx hb dX2_look_0 rfl (lv_at hl 0 rfl) ?_
  refine lv_iload_n hx hb dX2_look_1 rfl (lv_at hl 1 rfl) ?_
  refine lv_iload_n hx hb dX2_look_2 rfl (lv_at hl 2 rfl) ?_
  refine lv_iload_n hx hb dX2_look_3 rfl (lv_at hl 3 rfl) ?_
  refine lv_iload hx hb dX2_look_4 (lv_at hl 4 rfl) ?_
  obtain ⟨r2, hc1, h⟩ := bx1 h
  refine r_callV1 (As := [.int x91, .int x92, .int x93, .int x94]) (rest := []) (ws' := (cW g a st)) (q0 := 8) E I hl.1 k2_45 (c2_solves hc1) cW_k rfl rfl rfl rfl (Nat.le_of_ble_eq_true rfl) ⟨Nat.le_of_ble_eq_true rfl, Nat.le_of_ble_eq_true rfl⟩ ⟨Nat.zero_le _, Nat.zero_le _⟩ dX2_look_6 (fun H locs I => ?_)
  refine lv_if_eq (tgt := 23) hx hb dX2_look_9 (by decide) (fun hc3 => ?_) (fun hc3 => ?_)
  · have h := ifp hc3 h
    cases h
    exact K _ _ _ _ I dX2_look_23
  · have h := ifn hc3 h
    refine lv_iload_n hx hb dX2_look_12 rfl (lv_at hl 1 rfl) ?_
    refine lv_iload_n hx hb dX2_look_13 rfl (lv_at hl 2 rfl) ?_
    refine lv_iadd hx hb dX2_look_14 ?_
    refine lv_iload_n hx hb dX2_look_15 rfl (lv_at hl 3 rfl) ?_
    refine lv_iadd hx hb dX2_look_16 ?_
    refine lv_iload hx hb dX2_look_17 (lv_at hl 4 rfl) ?_
    refine lv_iadd hx hb dX2_look_19 ?_
    refine lv_if_ne (tgt := 24) hx hb dX2_look_20 (by decide) (fun hc4 => ?_) (fun hc4 => ?_)
    · have h := ifn hc4 h
      refine lv_aload_n hx hb dX2_look_24 rfl (lv_at hl 0 rfl) ?_
      refine lv_iload_n hx hb dX2_look_25 rfl (lv_at hl 1 rfl) ?_
      refine lv_iload_n hx hb dX2_look_26 rfl (lv_at hl 2 rfl) ?_
      refine lv_iload_n hx hb dX2_look_27 rfl (lv_at hl 3 rfl) ?_
      refine lv_iload hx hb dX2_look_28 (lv_at hl 4 rfl) ?_
      obtain ⟨st6, hc5, h⟩ := bx1 h
      refine r_callV0 (As := [.int x91, .int x92, .int x93, .int x94]) (rest := []) (ws' := (cW g a st6)) (q0 := 8) E I hl.1 k2_49 (c2_setRow hc5) cW_k rfl rfl rfl rfl (Nat.le_of_ble_eq_true rfl) ⟨Nat.le_of_ble_eq_true rfl, Nat.le_of_ble_eq_true rfl⟩ ⟨Nat.zero_le _, Nat.zero_le _⟩ dX2_look_30 (fun H locs I => ?_)
      refine lv_iconst (v := (0 : Int32)) hx hb dX2_look_33 (by decide) ?_
      refine lv_istore (lv' := [(5, .int (0 : Int32)), (0, .ref (a 8)), (1, .int x91), (2, .int x92), (3, .int x93), (4, .int x94)]) hx hb dX2_look_34 hl (by decide) rfl (fun ls hl => ?_)
      obtain ⟨z15, hw16, h⟩ := bx1 h
      refine wh_W (P := fun (z : Int32) => ∀ (H : Heap) (locs : List Loc) (ls : Array Slot), wk D (cW g a st6) A H0 H locs → lv_has ls 6 [(0, .ref (a 8)), (5, .int z)] → W p l e (rmk 2 44) s m args below meth c H locs 0 0 Q (F0 m 36 ls [])) (X := Sum.elim (fun (z : Unit) => ∀ (H : Heap) (locs : List Loc) (ls : Array Slot), wk D (cW g a st6) A H0 H locs → lv_has ls 6 [(0, .ref (a 8))] → W p l e (rmk 2 44) s m args below meth c H locs 0 0 Q (F0 m 61 ls [])) (fun (z : Unit) => ∀ (H : Heap) (locs : List Loc) (ls : Array Slot), wk D (cW g a st6) A H0 H locs → lv_has ls 6 [] → W p l e (rmk 2 44) s m args below meth c H locs 0 0 Q (F0 m 54 ls []))) ?_ FU _ _ hw16 ?_ _ _ _ I (lv_sub hl [1, 0] rfl)
      · intro x8 o9 h hk10 H locs ls I hl
        have h : ((if (c_found st6) ≤ x8 then some (.inr (.inl ())) else (bi1 (f2_isAtMostRow st6 x8) fun r13 => (if r13 = 0 then some (.inl (x8 + 1)) else some (.inr (.inr ()))))) : Option ((Int32) ⊕ ((Unit) ⊕ (Unit)))) = some o9 := h
        have I : wk D (cW g a st6) A H0 H locs := I
        have hl : lv_has ls 6 [(0, .ref (a 8)), (5, .int x8)] := hl
        refine lv_iload hx hb dX2_look_36 (lv_at hl 1 rfl) ?_
        refine lv_aload_n hx hb dX2_look_38 rfl (lv_at hl 0 rfl) ?_
        refine g2_28 E I (v := (c_found st6)) rfl dX2_look_39 ?_
        refine lv_icmp_ge (tgt := 61) hx hb dX2_look_42 (by decide) (fun hc11 => ?_) (fun hc11 => ?_)
        · have h := ifp hc11 h
          cases h
          exact hk10 _ _ _ I (lv_sub hl [0] rfl)
        · have h := ifn hc11 h
          refine lv_aload_n hx hb dX2_look_45 rfl (lv_at hl 0 rfl) ?_
          refine lv_iload hx hb dX2_look_46 (lv_at hl 1 rfl) ?_
          obtain ⟨r13, hc12, h⟩ := bx1 h
          refine r_callV1 (As := [.int x8]) (rest := []) (ws' := (cW g a st6)) (q0 := 8) E I hl.1 k2_52 (c2_isAtMostRow hc12) cW_k rfl rfl rfl rfl (Nat.le_of_ble_eq_true rfl) ⟨Nat.le_of_ble_eq_true rfl, Nat.le_of_ble_eq_true rfl⟩ ⟨Nat.zero_le _, Nat.zero_le _⟩ dX2_look_48 (fun H locs I => ?_)
          refine lv_if_eq (tgt := 55) hx hb dX2_look_51 (by decide) (fun hc14 => ?_) (fun hc14 => ?_)
          · have h := ifp hc14 h
            refine lv_iinc (v := (x8 + 1)) (lv' := [(5, .int (x8 + 1)), (0, .ref (a 8))]) hx hb dX2_look_55 hl (k := 1) rfl rfl (by decide) rfl (fun ls hl => ?_)
            refine lv_goto (tgt := 36) hx hb dX2_look_58 (by decide) ?_
            cases h
            exact hk10 _ _ _ I (lv_sub hl [1, 0] rfl)
          · have h := ifn hc14 h
            cases h
            exact hk10 _ _ _ I (lv_sub hl [] rfl)
      · rcases z15 with z19 | z19
        · intro H locs ls I hl
          have h : ((if (30 : Int32) ≤ (c_found st6) then some st6 else (if cg (0 : Int32) ((c_found st6) * (4 : Int32)) (4 : Int32) 4 120 = true then some (c_found_s (c_numbers_s st6 (va_cpy (c_row st6) (c_numbers st6) (0 : Int32).toNatClampNeg ((c_found st6) * (4 : Int32)).toNatClampNeg (4 : Int32).toNatClampNeg)) ((c_found st6) + (1 : Int32))) else none)) : Option CS) = some o := h
          have I : wk D (cW g a st6) A H0 H locs := I
          have hl : lv_has ls 6 [(0, .ref (a 8))] := hl
          refine lv_aload_n hx hb dX2_look_61 rfl (lv_at hl 0 rfl) ?_
          refine g2_28 E I (v := (c_found st6)) rfl dX2_look_62 ?_
          refine lv_bipush (v := (30 : Int32)) hx hb dX2_look_65 (by decide) ?_
          refine lv_icmp_ge (tgt := 99) hx hb dX2_look_67 (by decide) (fun hc17 => ?_) (fun hc17 => ?_)
          · have h := ifp hc17 h
            cases h
            exact K _ _ _ _ I dX2_look_99
          · have h := ifn hc17 h
            refine lv_aload_n hx hb dX2_look_70 rfl (lv_at hl 0 rfl) ?_
            refine g2_15 E I dX2_look_71 ?_
            refine lv_iconst (v := (0 : Int32)) hx hb dX2_look_74 (by decide) ?_
            refine lv_aload_n hx hb dX2_look_75 rfl (lv_at hl 0 rfl) ?_
            refine g2_18 E I dX2_look_76 ?_
            refine lv_aload_n hx hb dX2_look_79 rfl (lv_at hl 0 rfl) ?_
            refine g2_28 E I (v := (c_found st6)) rfl dX2_look_80 ?_
            refine lv_iconst (v := (4 : Int32)) hx hb dX2_look_83 (by decide) ?_
            refine lv_imul hx hb dX2_look_84 ?_
            refine lv_iconst (v := (4 : Int32)) hx hb dX2_look_85 (by decide) ?_
            obtain ⟨hc18, h⟩ := gd h
            refine r_copy (ws' := (cW g a (c_numbers_s st6 (va_cpy (c_row st6) (c_numbers st6) (0 : Int32).toNatClampNeg ((c_found st6) * (4 : Int32)).toNatClampNeg (4 : Int32).toNatClampNeg)))) (f := (c_row st6)) (h := (c_numbers st6)) (rest := []) E I 21 22 hl.1 ka2_59 aw_nat aw_stat aw_ini rfl rfl hc18 rfl (Nat.le_of_ble_eq_true rfl) (Nat.le_of_ble_eq_true rfl) dX2_look_86 (fun H locs I => ?_)
            refine lv_aload_n hx hb dX2_look_89 rfl (lv_at hl 0 rfl) ?_
            refine lv_dup hx hb dX2_look_90 rfl ?_
            refine g2_28 E I (v := (c_found st6)) rfl dX2_look_91 ?_
            refine lv_iconst (v := (1 : Int32)) hx hb dX2_look_94 (by decide) ?_
            refine lv_iadd hx hb dX2_look_95 ?_
            refine p2_28 E I dX2_look_96 (fun H locs I => ?_)
            cases h
            exact K _ _ _ _ I dX2_look_99
        · intro H locs ls I hl
          have h : (some st6 : Option CS) = some o := h
          have I : wk D (cW g a st6) A H0 H locs := I
          have hl : lv_has ls 6 [] := hl
          cases h
          exact K _ _ _ _ I dX2_look_54
    · have h := ifp hc4 h
      cases h
      exact K _ _ _ _ I dX2_look_23
set_option maxHeartbeats 4000000 in
set_option maxRecDepth 100000 in
theorem c2_prepare {l : Launch} {D : va_G} {g : Nat → ClassId} {a : Nat → Nat} {st : CS} {o : CS} (h : f2_prepare st = some o) : ct l yX2_prepare cX2_prepare 6 none (rmk 3 69) D g (cW g a st) (cW g a o) [.ref (a 8), .ref (a 1)] none := by
  refine ct_of ⟨rfl, rfl⟩ (by decide) (Nat.le_of_ble_eq_true rfl) ?_
  intro p e s m args below meth c ls Q A H0 H locs E I hl K
  have E : en p m c cX2_prepare 6 s args RX2 D g := E
  have hx := E.1.1
  have hb := E.1.2.1
  have hl : lv_has ls 6 [(0, .ref (a 8)), (1, .ref (a 1))] := hl
  have K : ∀ (pc : Nat) (ls : Array Slot) (H : Heap) (locs : List Loc), wk D (cW g a o) A H0 H locs → decode cX2_prepare pc = .ok (.return_, 1) → W p l e (rmk 3 69) s m args below meth c H locs 0 0 Q (F0 m pc ls []) := fun pc ls H locs I hd => K pc ls H locs I hd
  have h : ((if (c_lprep st) = 0 then (bi1 (wh (f2_prepare_b10) FU (st, (0 : Int32))) fun w57 => (bi1 (wh (f2_prepare_b50) FU ((c_found_s w57 (0 : Int32)), (0 : Int32))) fun w56 => some (c_lprep_s w56 (1 : Int32)))) else some st) : Option CS) = some o := h
  refine lv_aload_n hx hb dX2_prepare_0 rfl (lv_at hl 0 rfl) ?_
  refine g2_24 E I (v := (c_lprep st)) rfl dX2_prepare_1 ?_
  refine lv_if_eq (tgt := 8) hx hb dX2_prepare_4 (by decide) (fun hc1 => ?_) (fun hc1 => ?_)
  · have h := ifp hc1 h
    refine lv_iconst (v := (0 : Int32)) hx hb dX2_prepare_8 (by decide) ?_
    refine lv_istore_n (lv' := [(2, .int (0 : Int32)), (0, .ref (a 8)), (1, .ref (a 1))]) hx hb dX2_prepare_9 rfl hl (by decide) rfl (fun ls hl => ?_)
    obtain ⟨z10, hw11, h⟩ := bx1 h
    refine wh_W (P := fun (z : CS × Int32) => ∀ (H : Heap) (locs : List Loc) (ls : Array Slot), wk D (cW g a z.1) A H0 H locs → lv_has ls 6 [(0, .ref (a 8)), (1, .ref (a 1)), (2, .int z.2)] → W p l e (rmk 3 69) s m args below meth c H locs 0 0 Q (F0 m 10 ls [])) (X := fun (z : CS) => ∀ (H : Heap) (locs : List Loc) (ls : Array Slot), wk D (cW g a z) A H0 H locs → lv_has ls 6 [(0, .ref (a 8))] → W p l e (rmk 3 69) s m args below meth c H locs 0 0 Q (F0 m 43 ls [])) ?_ FU _ _ hw11 ?_ _ _ _ I (lv_sub hl [1, 2, 0] rfl)
    · intro z o4 h hk5 H locs ls I hl
      obtain ⟨st2, x3⟩ := z
      have h : ((if (4 : Int32) ≤ x3 then some (.inr st2) else (if ib ((0 : Int32) + ((4 : Int32) + x3)) 26 = true then (if ib ((8 : Int32) + ((4 : Int32) + x3)) 26 = true then (if ib x3 4 = true then some (.inl ((c_difference_s st2 (upd (c_difference st2) x3.toNatClampNeg (((c_state st2) ((0 : Int32) + ((4 : Int32) + x3)).toNatClampNeg) - ((c_state st2) ((8 : Int32) + ((4 : Int32) + x3)).toNatClampNeg)))), (x3 + 1))) else none) else none) else none)) : Option ((CS × Int32) ⊕ (CS))) = some o4 := h
      have I : wk D (cW g a st2) A H0 H locs := I
      have hl : lv_has ls 6 [(0, .ref (a 8)), (1, .ref (a 1)), (2, .int x3)] := hl
      refine lv_iload_n hx hb dX2_prepare_10 rfl (lv_at hl 2 rfl) ?_
      refine lv_iconst (v := (4 : Int32)) hx hb dX2_prepare_11 (by decide) ?_
      refine lv_icmp_ge (tgt := 43) hx hb dX2_prepare_12 (by decide) (fun hc6 => ?_) (fun hc6 => ?_)
      · have h := ifp hc6 h
        cases h
        exact hk5 _ _ _ I (lv_sub hl [0] rfl)
      · have h := ifn hc6 h
        refine lv_iconst (v := (4 : Int32)) hx hb dX2_prepare_15 (by decide) ?_
        refine lv_iload_n hx hb dX2_prepare_16 rfl (lv_at hl 2 rfl) ?_
        refine lv_iadd hx hb dX2_prepare_17 ?_
        refine lv_istore_n (lv' := [(3, .int ((4 : Int32) + x3)), (0, .ref (a 8)), (1, .ref (a 1)), (2, .int x3)]) hx hb dX2_prepare_18 rfl hl (by decide) rfl (fun ls hl => ?_)
        refine lv_aload_n hx hb dX2_prepare_19 rfl (lv_at hl 1 rfl) ?_
        refine g2_9 E I dX2_prepare_20 ?_
        refine lv_iload_n hx hb dX2_prepare_23 rfl (lv_at hl 3 rfl) ?_
        refine lv_aload_n hx hb dX2_prepare_24 rfl (lv_at hl 2 rfl) ?_
        refine lv_iconst (v := (0 : Int32)) hx hb dX2_prepare_25 (by decide) ?_
        refine lv_iload_n hx hb dX2_prepare_26 rfl (lv_at hl 0 rfl) ?_
        refine lv_iadd hx hb dX2_prepare_27 ?_
        obtain ⟨hc7, h⟩ := gd h
        refine c_ld1 E I (f := (c_state st2)) rfl hc7 dX2_prepare_28 ?_
        refine lv_aload_n hx hb dX2_prepare_29 rfl (lv_at hl 2 rfl) ?_
        refine lv_bipush (v := (8 : Int32)) hx hb dX2_prepare_30 (by decide) ?_
        refine lv_iload_n hx hb dX2_prepare_32 rfl (lv_at hl 0 rfl) ?_
        refine lv_iadd hx hb dX2_prepare_33 ?_
        obtain ⟨hc8, h⟩ := gd h
        refine c_ld1 E I (f := (c_state st2)) rfl hc8 dX2_prepare_34 ?_
        refine lv_isub hx hb dX2_prepare_35 ?_
        obtain ⟨hc9, h⟩ := gd h
        refine c_st20 E I (f := (c_difference st2)) rfl hc9 dX2_prepare_36 (fun H locs I => ?_)
        refine lv_iinc (v := (x3 + 1)) (lv' := [(2, .int (x3 + 1)), (3, .int ((4 : Int32) + x3)), (0, .ref (a 8)), (1, .ref (a 1))]) hx hb dX2_prepare_37 hl (k := 3) rfl rfl (by decide) rfl (fun ls hl => ?_)
        refine lv_goto (tgt := 10) hx hb dX2_prepare_40 (by decide) ?_
        cases h
        exact hk5 _ _ _ I (lv_sub hl [2, 3, 0] rfl)
    · obtain ⟨st12, rfl⟩ : ∃ y, y = z10 := ⟨_, rfl⟩
      intro H locs ls I hl
      have h : ((bi1 (wh (f2_prepare_b50) FU ((c_found_s st12 (0 : Int32)), (0 : Int32))) fun w56 => some (c_lprep_s w56 (1 : Int32))) : Option CS) = some o := h
      have I : wk D (cW g a st12) A H0 H locs := I
      have hl : lv_has ls 6 [(0, .ref (a 8))] := hl
      refine lv_aload_n hx hb dX2_prepare_43 rfl (lv_at hl 0 rfl) ?_
      refine lv_iconst (v := (0 : Int32)) hx hb dX2_prepare_44 (by decide) ?_
      refine p2_28 E I dX2_prepare_45 (fun H locs I => ?_)
      refine lv_iconst (v := (0 : Int32)) hx hb dX2_prepare_48 (by decide) ?_
      refine lv_istore_n (lv' := [(2, .int (0 : Int32)), (0, .ref (a 8))]) hx hb dX2_prepare_49 rfl hl (by decide) rfl (fun ls hl => ?_)
      obtain ⟨z53, hw54, h⟩ := bx1 h
      refine wh_W (P := fun (z : CS × Int32) => ∀ (H : Heap) (locs : List Loc) (ls : Array Slot), wk D (cW g a z.1) A H0 H locs → lv_has ls 6 [(0, .ref (a 8)), (2, .int z.2)] → W p l e (rmk 3 69) s m args below meth c H locs 0 0 Q (F0 m 50 ls [])) (X := fun (z : CS) => ∀ (H : Heap) (locs : List Loc) (ls : Array Slot), wk D (cW g a z) A H0 H locs → lv_has ls 6 [(0, .ref (a 8))] → W p l e (rmk 3 69) s m args below meth c H locs 0 0 Q (F0 m 114 ls [])) ?_ FU _ _ hw54 ?_ _ _ _ I (lv_sub hl [1, 0] rfl)
      · intro z o15 h hk16 H locs ls I hl
        obtain ⟨st13, x14⟩ := z
        have h : ((if (5 : Int32) < x14 then some (.inr st13) else (bi1 (wh (f2_prepare_b57 x14) FU (st13, (0 : Int32))) fun w52 => some (.inl (w52, (x14 + 1))))) : Option ((CS × Int32) ⊕ (CS))) = some o15 := h
        have I : wk D (cW g a st13) A H0 H locs := I
        have hl : lv_has ls 6 [(0, .ref (a 8)), (2, .int x14)] := hl
        refine lv_iload_n hx hb dX2_prepare_50 rfl (lv_at hl 1 rfl) ?_
        refine lv_iconst (v := (5 : Int32)) hx hb dX2_prepare_51 (by decide) ?_
        refine lv_icmp_gt (tgt := 114) hx hb dX2_prepare_52 (by decide) (fun hc17 => ?_) (fun hc17 => ?_)
        · have h := ifp hc17 h
          cases h
          exact hk16 _ _ _ I (lv_sub hl [0] rfl)
        · have h := ifn hc17 h
          refine lv_iconst (v := (0 : Int32)) hx hb dX2_prepare_55 (by decide) ?_
          refine lv_istore_n (lv' := [(3, .int (0 : Int32)), (0, .ref (a 8)), (2, .int x14)]) hx hb dX2_prepare_56 rfl hl (by decide) rfl (fun ls hl => ?_)
          obtain ⟨z49, hw50, h⟩ := bx1 h
          refine wh_W (P := fun (z : CS × Int32) => ∀ (H : Heap) (locs : List Loc) (ls : Array Slot), wk D (cW g a z.1) A H0 H locs → lv_has ls 6 [(0, .ref (a 8)), (2, .int x14), (3, .int z.2)] → W p l e (rmk 3 69) s m args below meth c H locs 0 0 Q (F0 m 57 ls [])) (X := fun (z : CS) => ∀ (H : Heap) (locs : List Loc) (ls : Array Slot), wk D (cW g a z) A H0 H locs → lv_has ls 6 [(0, .ref (a 8)), (2, .int x14)] → W p l e (rmk 3 69) s m args below meth c H locs 0 0 Q (F0 m 108 ls [])) ?_ FU _ _ hw50 ?_ _ _ _ I (lv_sub hl [1, 2, 0] rfl)
          · intro z o21 h hk22 H locs ls I hl
            obtain ⟨st18, x20⟩ := z
            have h : ((if (5 : Int32) < x20 then some (.inr st18) else (bi1 (wh (f2_prepare_b65 x14 x20) FU (st18, (0 : Int32))) fun w48 => some (.inl (w48, (x20 + 1))))) : Option ((CS × Int32) ⊕ (CS))) = some o21 := h
            have I : wk D (cW g a st18) A H0 H locs := I
            have hl : lv_has ls 6 [(0, .ref (a 8)), (2, .int x14), (3, .int x20)] := hl
            refine lv_iload_n hx hb dX2_prepare_57 rfl (lv_at hl 2 rfl) ?_
            refine lv_iconst (v := (5 : Int32)) hx hb dX2_prepare_58 (by decide) ?_
            refine lv_icmp_gt (tgt := 108) hx hb dX2_prepare_59 (by decide) (fun hc23 => ?_) (fun hc23 => ?_)
            · have h := ifp hc23 h
              cases h
              exact hk22 _ _ _ I (lv_sub hl [0, 1] rfl)
            · have h := ifn hc23 h
              refine lv_iconst (v := (0 : Int32)) hx hb dX2_prepare_62 (by decide) ?_
              refine lv_istore (lv' := [(4, .int (0 : Int32)), (0, .ref (a 8)), (2, .int x14), (3, .int x20)]) hx hb dX2_prepare_63 hl (by decide) rfl (fun ls hl => ?_)
              obtain ⟨z45, hw46, h⟩ := bx1 h
              refine wh_W (P := fun (z : CS × Int32) => ∀ (H : Heap) (locs : List Loc) (ls : Array Slot), wk D (cW g a z.1) A H0 H locs → lv_has ls 6 [(0, .ref (a 8)), (2, .int x14), (3, .int x20), (4, .int z.2)] → W p l e (rmk 3 69) s m args below meth c H locs 0 0 Q (F0 m 65 ls [])) (X := fun (z : CS) => ∀ (H : Heap) (locs : List Loc) (ls : Array Slot), wk D (cW g a z) A H0 H locs → lv_has ls 6 [(0, .ref (a 8)), (2, .int x14), (3, .int x20)] → W p l e (rmk 3 69) s m args below meth c H locs 0 0 Q (F0 m 102 ls [])) ?_ FU _ _ hw46 ?_ _ _ _ I (lv_sub hl [1, 2, 3, 0] rfl)
              · intro z o28 h hk29 H locs ls I hl
                obtain ⟨st24, x27⟩ := z
                have h : ((if (5 : Int32) < x27 then some (.inr st24) else (bi1 (wh (f2_prepare_b74 x14 x20 x27) FU (st24, (0 : Int32))) fun w44 => some (.inl (w44, (x27 + 1))))) : Option ((CS × Int32) ⊕ (CS))) = some o28 := h
                have I : wk D (cW g a st24) A H0 H locs := I
                have hl : lv_has ls 6 [(0, .ref (a 8)), (2, .int x14), (3, .int x20), (4, .int x27)] := hl
                refine lv_iload hx hb dX2_prepare_65 (lv_at hl 3 rfl) ?_
                refine lv_iconst (v := (5 : Int32)) hx hb dX2_prepare_67 (by decide) ?_
                refine lv_icmp_gt (tgt := 102) hx hb dX2_prepare_68 (by decide) (fun hc30 => ?_) (fun hc30 => ?_)
                · have h := ifp hc30 h
                  cases h
                  exact hk29 _ _ _ I (lv_sub hl [0, 1, 2] rfl)
                · have h := ifn hc30 h
                  refine lv_iconst (v := (0 : Int32)) hx hb dX2_prepare_71 (by decide) ?_
                  refine lv_istore (lv' := [(5, .int (0 : Int32)), (0, .ref (a 8)), (2, .int x14), (3, .int x20), (4, .int x27)]) hx hb dX2_prepare_72 hl (by decide) rfl (fun ls hl => ?_)
                  obtain ⟨z41, hw42, h⟩ := bx1 h
                  refine wh_W (P := fun (z : CS × Int32) => ∀ (H : Heap) (locs : List Loc) (ls : Array Slot), wk D (cW g a z.1) A H0 H locs → lv_has ls 6 [(0, .ref (a 8)), (2, .int x14), (3, .int x20), (4, .int x27), (5, .int z.2)] → W p l e (rmk 3 69) s m args below meth c H locs 0 0 Q (F0 m 74 ls [])) (X := fun (z : CS) => ∀ (H : Heap) (locs : List Loc) (ls : Array Slot), wk D (cW g a z) A H0 H locs → lv_has ls 6 [(0, .ref (a 8)), (2, .int x14), (3, .int x20), (4, .int x27)] → W p l e (rmk 3 69) s m args below meth c H locs 0 0 Q (F0 m 96 ls [])) ?_ FU _ _ hw42 ?_ _ _ _ I (lv_sub hl [1, 2, 3, 4, 0] rfl)
                  · intro z o36 h hk37 H locs ls I hl
                    obtain ⟨st31, x35⟩ := z
                    have h : ((if (5 : Int32) < x35 then some (.inr st31) else (bi1 (f2_look st31 x14 x20 x27 x35) fun st40 => some (.inl (st40, (x35 + 1))))) : Option ((CS × Int32) ⊕ (CS))) = some o36 := h
                    have I : wk D (cW g a st31) A H0 H locs := I
                    have hl : lv_has ls 6 [(0, .ref (a 8)), (2, .int x14), (3, .int x20), (4, .int x27), (5, .int x35)] := hl
                    refine lv_iload hx hb dX2_prepare_74 (lv_at hl 4 rfl) ?_
                    refine lv_iconst (v := (5 : Int32)) hx hb dX2_prepare_76 (by decide) ?_
                    refine lv_icmp_gt (tgt := 96) hx hb dX2_prepare_77 (by decide) (fun hc38 => ?_) (fun hc38 => ?_)
                    · have h := ifp hc38 h
                      cases h
                      exact hk37 _ _ _ I (lv_sub hl [0, 1, 2, 3] rfl)
                    · have h := ifn hc38 h
                      refine lv_aload_n hx hb dX2_prepare_80 rfl (lv_at hl 0 rfl) ?_
                      refine lv_iload_n hx hb dX2_prepare_81 rfl (lv_at hl 1 rfl) ?_
                      refine lv_iload_n hx hb dX2_prepare_82 rfl (lv_at hl 2 rfl) ?_
                      refine lv_iload hx hb dX2_prepare_83 (lv_at hl 3 rfl) ?_
                      refine lv_iload hx hb dX2_prepare_85 (lv_at hl 4 rfl) ?_
                      obtain ⟨st40, hc39, h⟩ := bx1 h
                      refine r_callV0 (As := [.int x14, .int x20, .int x27, .int x35]) (rest := []) (ws' := (cW g a st40)) (q0 := 8) E I hl.1 k2_32 (c2_look hc39) cW_k rfl rfl rfl rfl (Nat.le_of_ble_eq_true rfl) ⟨Nat.le_of_ble_eq_true rfl, Nat.le_of_ble_eq_true rfl⟩ ⟨Nat.zero_le _, Nat.zero_le _⟩ dX2_prepare_87 (fun H locs I => ?_)
                      refine lv_iinc (v := (x35 + 1)) (lv' := [(5, .int (x35 + 1)), (0, .ref (a 8)), (2, .int x14), (3, .int x20), (4, .int x27)]) hx hb dX2_prepare_90 hl (k := 4) rfl rfl (by decide) rfl (fun ls hl => ?_)
                      refine lv_goto (tgt := 74) hx hb dX2_prepare_93 (by decide) ?_
                      cases h
                      exact hk37 _ _ _ I (lv_sub hl [1, 2, 3, 4, 0] rfl)
                  · obtain ⟨st43, rfl⟩ : ∃ y, y = z41 := ⟨_, rfl⟩
                    intro H locs ls I hl
                    have h : (some (.inl (st43, (x27 + 1))) : Option ((CS × Int32) ⊕ (CS))) = some o28 := h
                    have I : wk D (cW g a st43) A H0 H locs := I
                    have hl : lv_has ls 6 [(0, .ref (a 8)), (2, .int x14), (3, .int x20), (4, .int x27)] := hl
                    refine lv_iinc (v := (x27 + 1)) (lv' := [(4, .int (x27 + 1)), (0, .ref (a 8)), (2, .int x14), (3, .int x20)]) hx hb dX2_prepare_96 hl (k := 3) rfl rfl (by decide) rfl (fun ls hl => ?_)
                    refine lv_goto (tgt := 65) hx hb dX2_prepare_99 (by decide) ?_
                    cases h
                    exact hk29 _ _ _ I (lv_sub hl [1, 2, 3, 0] rfl)
              · obtain ⟨st47, rfl⟩ : ∃ y, y = z45 := ⟨_, rfl⟩
                intro H locs ls I hl
                have h : (some (.inl (st47, (x20 + 1))) : Option ((CS × Int32) ⊕ (CS))) = some o21 := h
                have I : wk D (cW g a st47) A H0 H locs := I
                have hl : lv_has ls 6 [(0, .ref (a 8)), (2, .int x14), (3, .int x20)] := hl
                refine lv_iinc (v := (x20 + 1)) (lv' := [(3, .int (x20 + 1)), (0, .ref (a 8)), (2, .int x14)]) hx hb dX2_prepare_102 hl (k := 2) rfl rfl (by decide) rfl (fun ls hl => ?_)
                refine lv_goto (tgt := 57) hx hb dX2_prepare_105 (by decide) ?_
                cases h
                exact hk22 _ _ _ I (lv_sub hl [1, 2, 0] rfl)
          · obtain ⟨st51, rfl⟩ : ∃ y, y = z49 := ⟨_, rfl⟩
            intro H locs ls I hl
            have h : (some (.inl (st51, (x14 + 1))) : Option ((CS × Int32) ⊕ (CS))) = some o15 := h
            have I : wk D (cW g a st51) A H0 H locs := I
            have hl : lv_has ls 6 [(0, .ref (a 8)), (2, .int x14)] := hl
            refine lv_iinc (v := (x14 + 1)) (lv' := [(2, .int (x14 + 1)), (0, .ref (a 8))]) hx hb dX2_prepare_108 hl (k := 1) rfl rfl (by decide) rfl (fun ls hl => ?_)
            refine lv_goto (tgt := 50) hx hb dX2_prepare_111 (by decide) ?_
            cases h
            exact hk16 _ _ _ I (lv_sub hl [1, 0] rfl)
      · obtain ⟨st55, rfl⟩ : ∃ y, y = z53 := ⟨_, rfl⟩
        intro H locs ls I hl
        have h : (some (c_lprep_s st55 (1 : Int32)) : Option CS) = some o := h
        have I : wk D (cW g a st55) A H0 H locs := I
        have hl : lv_has ls 6 [(0, .ref (a 8))] := hl
        refine lv_aload_n hx hb dX2_prepare_114 rfl (lv_at hl 0 rfl) ?_
        refine lv_iconst (v := (1 : Int32)) hx hb dX2_prepare_115 (by decide) ?_
        refine p2_24 E I rfl dX2_prepare_116 (fun H locs I => ?_)
        cases h
        exact K _ _ _ _ I dX2_prepare_119
  · have h := ifn hc1 h
    cases h
    exact K _ _ _ _ I dX2_prepare_7
set_option maxHeartbeats 4000000 in
set_option maxRecDepth 100000 in
theorem c4_least {l : Launch} {D : va_G} {g : Nat → ClassId} {a : Nat → Nat} {st : CS} {x91 : Int32} {x92 : Int32} {st' : CS} {r' : Int32} (h : f4_least st x91 x92 = some (st', .inr r')) : ct l yX4_least cX4_least 3 (some .int) (rmk 4 94) D g (cW g a st) (cW g a st') [.ref (a 0), .int x91, .int x92] (some (.int r')) := by
  refine ct_of ⟨rfl, rfl⟩ (by decide) (Nat.le_of_ble_eq_true rfl) ?_
  intro p e s m args below meth c ls Q A H0 H locs E I hl K
  have E : en p m c cX4_least 3 s args RX4 D g := E
  have hx := E.1.1
  have hb := E.1.2.1
  have hl : lv_has ls 3 [(0, .ref (a 0)), (1, .int x91), (2, .int x92)] := hl
  have K : ∀ (pc : Nat) (ls : Array Slot) (H : Heap) (locs : List Loc), wk D (cW g a st') A H0 H locs → decode cX4_least pc = .ok (.ireturn, 1) → W p l e (rmk 4 94) s m args below meth c H locs 0 0 Q (F0 m pc ls [.int r']) := fun pc ls H locs I hd => K pc ls H locs I hd
  have h : ((bt0 st (f4_needIndex x92 (4 : Int32)) fun (u2 : Unit) => (if 0 ≤ x91 then (bi1 (f2_prepare st) fun st5 => (bi1 (f2_number st5 x91 x92) fun r7 => some (st5, .inr r7))) else some (st, .inl 1))) : Option (CS × (Nat ⊕ Int32))) = some (st', .inr r') := h
  refine lv_iload_n hx hb dX4_least_0 rfl (lv_at hl 2 rfl) ?_
  refine lv_iconst (v := (4 : Int32)) hx hb dX4_least_1 (by decide) ?_
  obtain ⟨u2, hc1, h⟩ := bt0n h
  refine r_callS0 (As := [.int x92, .int (4 : Int32)]) (rest := []) E I hl.1 k4_53 (c4_needIndex hc1) rfl rfl (Nat.le_of_ble_eq_true rfl) ⟨Nat.le_of_ble_eq_true rfl, Nat.le_of_ble_eq_true rfl⟩ ⟨Nat.zero_le _, Nat.zero_le _⟩ dX4_least_2 (fun H locs I => ?_)
  refine lv_iload_n hx hb dX4_least_5 rfl (lv_at hl 1 rfl) ?_
  refine lv_if_ge (tgt := 19) hx hb dX4_least_6 (by decide) (fun hc3 => ?_) (fun hc3 => ?_)
  · have h := ifp hc3 h
    refine lv_aload_n hx hb dX4_least_19 rfl (lv_at hl 0 rfl) ?_
    refine g4_49 E I dX4_least_20 ?_
    refine lv_aload_n hx hb dX4_least_23 rfl (lv_at hl 0 rfl) ?_
    refine g4_9 E I dX4_least_24 ?_
    obtain ⟨st5, hc4, h⟩ := bx1 h
    refine r_callV0 (As := [.ref (a 1)]) (rest := []) (ws' := (cW g a st5)) (q0 := 8) E I hl.1 k4_166 (c2_prepare hc4) cW_k rfl rfl rfl rfl (Nat.le_of_ble_eq_true rfl) ⟨Nat.le_of_ble_eq_true rfl, Nat.le_of_ble_eq_true rfl⟩ ⟨Nat.zero_le _, Nat.zero_le _⟩ dX4_least_27 (fun H locs I => ?_)
    refine lv_aload_n hx hb dX4_least_30 rfl (lv_at hl 0 rfl) ?_
    refine g4_49 E I dX4_least_31 ?_
    refine lv_iload_n hx hb dX4_least_34 rfl (lv_at hl 1 rfl) ?_
    refine lv_iload_n hx hb dX4_least_35 rfl (lv_at hl 2 rfl) ?_
    obtain ⟨r7, hc6, h⟩ := bx1 h
    refine r_callV1 (As := [.int x91, .int x92]) (rest := []) (ws' := (cW g a st5)) (q0 := 8) E I hl.1 k4_167 (c2_number hc6) cW_k rfl rfl rfl rfl (Nat.le_of_ble_eq_true rfl) ⟨Nat.le_of_ble_eq_true rfl, Nat.le_of_ble_eq_true rfl⟩ ⟨Nat.zero_le _, Nat.zero_le _⟩ dX4_least_36 (fun H locs I => ?_)
    cases h
    exact K _ _ _ _ I dX4_least_39
  · have h := ifn hc3 h
    cases h
set_option maxHeartbeats 4000000 in
set_option maxRecDepth 100000 in
theorem c4_hasVariable {l : Launch} {D : va_G} {g : Nat → ClassId} {a : Nat → Nat} {st : CS} {x91 : Int32} {x92 : Int32} {o : Int32} (h : f4_hasVariable st x91 x92 = some o) : ct l yX4_hasVariable cX4_hasVariable 3 (some .boolean) (rmk 0 0) D g (cW g a st) (cW g a st) [.ref (a 0), .int x91, .int x92] (some (.int o)) := by
  refine ct_of ⟨rfl, rfl⟩ (by decide) (Nat.le_of_ble_eq_true rfl) ?_
  intro p e s m args below meth c ls Q A H0 H locs E I hl K
  have E : en p m c cX4_hasVariable 3 s args RX4 D g := E
  have hx := E.1.1
  have hb := E.1.2.1
  have hl : lv_has ls 3 [(0, .ref (a 0)), (1, .int x91), (2, .int x92)] := hl
  have K : ∀ (pc : Nat) (ls : Array Slot) (H : Heap) (locs : List Loc), wk D (cW g a st) A H0 H locs → decode cX4_hasVariable pc = .ok (.ireturn, 1) → zok o = true → W p l e (rmk 0 0) s m args below meth c H locs 0 0 Q (F0 m pc ls [.int o]) := fun pc ls H locs I hd hz => K pc ls H locs I ⟨hd, hz⟩
  have h : ((if ib (((x91 * (8 : Int32)) + (4 : Int32)) + x92) 26 = true then (if ((c_state st) (((x91 * (8 : Int32)) + (4 : Int32)) + x92).toNatClampNeg) ≤ 0 then some (0 : Int32) else some (1 : Int32)) else none) : Option Int32) = some o := h
  refine lv_aload_n hx hb dX4_hasVariable_0 rfl (lv_at hl 0 rfl) ?_
  refine g4_9 E I dX4_hasVariable_1 ?_
  refine lv_iload_n hx hb dX4_hasVariable_4 rfl (lv_at hl 1 rfl) ?_
  refine lv_bipush (v := (8 : Int32)) hx hb dX4_hasVariable_5 (by decide) ?_
  refine lv_imul hx hb dX4_hasVariable_7 ?_
  refine lv_iconst (v := (4 : Int32)) hx hb dX4_hasVariable_8 (by decide) ?_
  refine lv_iadd hx hb dX4_hasVariable_9 ?_
  refine lv_iload_n hx hb dX4_hasVariable_10 rfl (lv_at hl 2 rfl) ?_
  refine lv_iadd hx hb dX4_hasVariable_11 ?_
  obtain ⟨hc1, h⟩ := gd h
  refine c_ld1 E I (f := (c_state st)) rfl hc1 dX4_hasVariable_12 ?_
  refine lv_if_le (tgt := 20) hx hb dX4_hasVariable_13 (by decide) (fun hc2 => ?_) (fun hc2 => ?_)
  · have h := ifp hc2 h
    refine lv_iconst (v := (0 : Int32)) hx hb dX4_hasVariable_20 (by decide) ?_
    cases h
    exact K _ _ _ _ I dX4_hasVariable_21 rfl
  · have h := ifn hc2 h
    refine lv_iconst (v := (1 : Int32)) hx hb dX4_hasVariable_16 (by decide) ?_
    refine lv_goto (tgt := 21) hx hb dX4_hasVariable_17 (by decide) ?_
    cases h
    exact K _ _ _ _ I dX4_hasVariable_21 rfl
set_option maxHeartbeats 4000000 in
set_option maxRecDepth 100000 in
theorem c4_unlikeVariables {l : Launch} {D : va_G} {g : Nat → ClassId} {a : Nat → Nat} {st : CS} {o : Int32} (h : f4_unlikeVariables st = some o) : ct l yX4_unlikeVariables cX4_unlikeVariables 3 (some .int) (rmk 1 22) D g (cW g a st) (cW g a st) [.ref (a 0)] (some (.int o)) := by
  refine ct_of ⟨rfl, rfl⟩ (by decide) (Nat.le_of_ble_eq_true rfl) ?_
  intro p e s m args below meth c ls Q A H0 H locs E I hl K
  have E : en p m c cX4_unlikeVariables 3 s args RX4 D g := E
  have hx := E.1.1
  have hb := E.1.2.1
  have hl : lv_has ls 3 [(0, .ref (a 0))] := hl
  have K : ∀ (pc : Nat) (ls : Array Slot) (H : Heap) (locs : List Loc), wk D (cW g a st) A H0 H locs → decode cX4_unlikeVariables pc = .ok (.ireturn, 1) → W p l e (rmk 1 22) s m args below meth c H locs 0 0 Q (F0 m pc ls [.int o]) := fun pc ls H locs I hd => K pc ls H locs I hd
  have h : ((bi1 (wh (f4_unlikeVariables_b4 st) FU ((0 : Int32), (0 : Int32))) fun w16 => some w16) : Option Int32) = some o := h
  refine lv_iconst (v := (0 : Int32)) hx hb dX4_unlikeVariables_0 (by decide) ?_
  refine lv_istore_n (lv' := [(1, .int (0 : Int32)), (0, .ref (a 0))]) hx hb dX4_unlikeVariables_1 rfl hl (by decide) rfl (fun ls hl => ?_)
  refine lv_iconst (v := (0 : Int32)) hx hb dX4_unlikeVariables_2 (by decide) ?_
  refine lv_istore_n (lv' := [(2, .int (0 : Int32)), (1, .int (0 : Int32)), (0, .ref (a 0))]) hx hb dX4_unlikeVariables_3 rfl hl (by decide) rfl (fun ls hl => ?_)
  obtain ⟨z13, hw14, h⟩ := bx1 h
  refine wh_W (P := fun (z : Int32 × Int32) => ∀ (H : Heap) (locs : List Loc) (ls : Array Slot), wk D (cW g a st) A H0 H locs → lv_has ls 3 [(0, .ref (a 0)), (1, .int z.1), (2, .int z.2)] → W p l e (rmk 1 22) s m args below meth c H locs 0 0 Q (F0 m 4 ls [])) (X := fun (z : Int32) => ∀ (H : Heap) (locs : List Loc) (ls : Array Slot), wk D (cW g a st) A H0 H locs → lv_has ls 3 [(1, .int z)] → W p l e (rmk 1 22) s m args below meth c H locs 0 0 Q (F0 m 32 ls [])) ?_ FU _ _ hw14 ?_ _ _ _ I (lv_sub hl [2, 1, 0] rfl)
  · intro z o4 h hk5 H locs ls I hl
    obtain ⟨x2, x3⟩ := z
    have h : ((if (4 : Int32) ≤ x3 then some (.inr x2) else (bi1 (f4_hasVariable st (0 : Int32) x3) fun r8 => some (.inl ((x2 + (if r8 = 0 then (0 : Int32) else (1 : Int32))), (x3 + 1))))) : Option ((Int32 × Int32) ⊕ (Int32))) = some o4 := h
    have I : wk D (cW g a st) A H0 H locs := I
    have hl : lv_has ls 3 [(0, .ref (a 0)), (1, .int x2), (2, .int x3)] := hl
    refine lv_iload_n hx hb dX4_unlikeVariables_4 rfl (lv_at hl 2 rfl) ?_
    refine lv_iconst (v := (4 : Int32)) hx hb dX4_unlikeVariables_5 (by decide) ?_
    refine lv_icmp_ge (tgt := 32) hx hb dX4_unlikeVariables_6 (by decide) (fun hc6 => ?_) (fun hc6 => ?_)
    · have h := ifp hc6 h
      cases h
      exact hk5 _ _ _ I (lv_sub hl [1] rfl)
    · have h := ifn hc6 h
      refine lv_iload_n hx hb dX4_unlikeVariables_9 rfl (lv_at hl 1 rfl) ?_
      refine lv_aload_n hx hb dX4_unlikeVariables_10 rfl (lv_at hl 0 rfl) ?_
      refine lv_iconst (v := (0 : Int32)) hx hb dX4_unlikeVariables_11 (by decide) ?_
      refine lv_iload_n hx hb dX4_unlikeVariables_12 rfl (lv_at hl 2 rfl) ?_
      obtain ⟨r8, hc7, h⟩ := bx1 h
      refine r_callV1 (As := [.int (0 : Int32), .int x3]) (rest := [.int x2]) (ws' := (cW g a st)) (q0 := 0) E I hl.1 k4_197 (c4_hasVariable hc7) cW_k rfl rfl rfl rfl (Nat.le_of_ble_eq_true rfl) ⟨Nat.le_of_ble_eq_true rfl, Nat.le_of_ble_eq_true rfl⟩ ⟨Nat.zero_le _, Nat.zero_le _⟩ dX4_unlikeVariables_13 (fun H locs I => ?_)
      have J10 : ∀ (v9 : Int32) (H : Heap) (locs : List Loc), v9 = (if r8 = 0 then (0 : Int32) else (1 : Int32)) → wk D (cW g a st) A H0 H locs → W p l e (rmk 1 22) s m args below meth c H locs 0 0 Q (F0 m 24 ls [.int v9, .int x2]) := by
        intro v9 H locs hv11 I
        subst hv11
        refine lv_iadd hx hb dX4_unlikeVariables_24 ?_
        refine lv_istore_n (lv' := [(1, .int (x2 + (if r8 = 0 then (0 : Int32) else (1 : Int32)))), (0, .ref (a 0)), (2, .int x3)]) hx hb dX4_unlikeVariables_25 rfl hl (by decide) rfl (fun ls hl => ?_)
        refine lv_iinc (v := (x3 + 1)) (lv' := [(2, .int (x3 + 1)), (1, .int (x2 + (if r8 = 0 then (0 : Int32) else (1 : Int32)))), (0, .ref (a 0))]) hx hb dX4_unlikeVariables_26 hl (k := 2) rfl rfl (by decide) rfl (fun ls hl => ?_)
        refine lv_goto (tgt := 4) hx hb dX4_unlikeVariables_29 (by decide) ?_
        cases h
        exact hk5 _ _ _ I (lv_sub hl [2, 1, 0] rfl)
      refine lv_if_eq (tgt := 23) hx hb dX4_unlikeVariables_16 (by decide) (fun hc12 => ?_) (fun hc12 => ?_)
      · refine lv_iconst (v := (0 : Int32)) hx hb dX4_unlikeVariables_23 (by decide) ?_
        exact J10 _ _ _ (by rw [if_pos hc12]) I
      · refine lv_iconst (v := (1 : Int32)) hx hb dX4_unlikeVariables_19 (by decide) ?_
        refine lv_goto (tgt := 24) hx hb dX4_unlikeVariables_20 (by decide) ?_
        exact J10 _ _ _ (by rw [if_neg hc12]) I
  · obtain ⟨x15, rfl⟩ : ∃ y, y = z13 := ⟨_, rfl⟩
    intro H locs ls I hl
    have h : (some x15 : Option Int32) = some o := h
    have I : wk D (cW g a st) A H0 H locs := I
    have hl : lv_has ls 3 [(1, .int x15)] := hl
    refine lv_iload_n hx hb dX4_unlikeVariables_32 rfl (lv_at hl 0 rfl) ?_
    cases h
    exact K _ _ _ _ I dX4_unlikeVariables_33
set_option maxHeartbeats 4000000 in
set_option maxRecDepth 100000 in
theorem c2_size {l : Launch} {D : va_G} {g : Nat → ClassId} {a : Nat → Nat} {st : CS} {o : Int32} (h : f2_size st = o) : ct l yX2_size cX2_size 1 (some .int) (rmk 0 0) D g (cW g a st) (cW g a st) [.ref (a 8)] (some (.int o)) := by
  refine ct_of ⟨rfl, rfl⟩ (by decide) (Nat.le_of_ble_eq_true rfl) ?_
  intro p e s m args below meth c ls Q A H0 H locs E I hl K
  have E : en p m c cX2_size 1 s args RX2 D g := E
  have hx := E.1.1
  have hb := E.1.2.1
  have hl : lv_has ls 1 [(0, .ref (a 8))] := hl
  have K : ∀ (pc : Nat) (ls : Array Slot) (H : Heap) (locs : List Loc), wk D (cW g a st) A H0 H locs → decode cX2_size pc = .ok (.ireturn, 1) → W p l e (rmk 0 0) s m args below meth c H locs 0 0 Q (F0 m pc ls [.int o]) := fun pc ls H locs I hd => K pc ls H locs I hd
  have h : ((c_found st) : Int32) = o := h
  refine lv_aload_n hx hb dX2_size_0 rfl (lv_at hl 0 rfl) ?_
  refine g2_28 E I (v := (c_found st)) rfl dX2_size_1 ?_
  cases h
  exact K _ _ _ _ I dX2_size_4
set_option maxHeartbeats 4000000 in
set_option maxRecDepth 100000 in
theorem c2_greatestSum {l : Launch} {D : va_G} {g : Nat → ClassId} {a : Nat → Nat} {st : CS} {o : Int32} (h : f2_greatestSum st = some o) : ct l yX2_greatestSum cX2_greatestSum 4 (some .int) (rmk 1 22) D g (cW g a st) (cW g a st) [.ref (a 8)] (some (.int o)) := by
  refine ct_of ⟨rfl, rfl⟩ (by decide) (Nat.le_of_ble_eq_true rfl) ?_
  intro p e s m args below meth c ls Q A H0 H locs E I hl K
  have E : en p m c cX2_greatestSum 4 s args RX2 D g := E
  have hx := E.1.1
  have hb := E.1.2.1
  have hl : lv_has ls 4 [(0, .ref (a 8))] := hl
  have K : ∀ (pc : Nat) (ls : Array Slot) (H : Heap) (locs : List Loc), wk D (cW g a st) A H0 H locs → decode cX2_greatestSum pc = .ok (.ireturn, 1) → W p l e (rmk 1 22) s m args below meth c H locs 0 0 Q (F0 m pc ls [.int o]) := fun pc ls H locs I hd => K pc ls H locs I hd
  have h : ((bi1 (wh (f2_greatestSum_b4 st) FU ((0 : Int32), (0 : Int32))) fun w20 => some w20) : Option Int32) = some o := h
  refine lv_iconst (v := (0 : Int32)) hx hb dX2_greatestSum_0 (by decide) ?_
  refine lv_istore_n (lv' := [(1, .int (0 : Int32)), (0, .ref (a 8))]) hx hb dX2_greatestSum_1 rfl hl (by decide) rfl (fun ls hl => ?_)
  refine lv_iconst (v := (0 : Int32)) hx hb dX2_greatestSum_2 (by decide) ?_
  refine lv_istore_n (lv' := [(2, .int (0 : Int32)), (1, .int (0 : Int32)), (0, .ref (a 8))]) hx hb dX2_greatestSum_3 rfl hl (by decide) rfl (fun ls hl => ?_)
  obtain ⟨z17, hw18, h⟩ := bx1 h
  refine wh_W (P := fun (z : Int32 × Int32) => ∀ (H : Heap) (locs : List Loc) (ls : Array Slot), wk D (cW g a st) A H0 H locs → lv_has ls 4 [(0, .ref (a 8)), (1, .int z.1), (2, .int z.2)] → W p l e (rmk 1 22) s m args below meth c H locs 0 0 Q (F0 m 4 ls [])) (X := fun (z : Int32) => ∀ (H : Heap) (locs : List Loc) (ls : Array Slot), wk D (cW g a st) A H0 H locs → lv_has ls 4 [(1, .int z)] → W p l e (rmk 1 22) s m args below meth c H locs 0 0 Q (F0 m 52 ls [])) ?_ FU _ _ hw18 ?_ _ _ _ I (lv_sub hl [2, 1, 0] rfl)
  · intro z o4 h hk5 H locs ls I hl
    obtain ⟨x2, x3⟩ := z
    have h : ((if (c_found st) ≤ x3 then some (.inr x2) else (bi1 (f2_number st x3 (0 : Int32)) fun r8 => (bi1 (f2_number st x3 (1 : Int32)) fun r10 => (bi1 (f2_number st x3 (2 : Int32)) fun r12 => (bi1 (f2_number st x3 (3 : Int32)) fun r14 => (lq (if x2 < (((r8 + r10) + r12) + r14) then (((r8 + r10) + r12) + r14) else x2) fun x15 => some (.inl (x15, (x3 + 1))))))))) : Option ((Int32 × Int32) ⊕ (Int32))) = some o4 := h
    have I : wk D (cW g a st) A H0 H locs := I
    have hl : lv_has ls 4 [(0, .ref (a 8)), (1, .int x2), (2, .int x3)] := hl
    refine lv_iload_n hx hb dX2_greatestSum_4 rfl (lv_at hl 2 rfl) ?_
    refine lv_aload_n hx hb dX2_greatestSum_5 rfl (lv_at hl 0 rfl) ?_
    refine g2_28 E I (v := (c_found st)) rfl dX2_greatestSum_6 ?_
    refine lv_icmp_ge (tgt := 52) hx hb dX2_greatestSum_9 (by decide) (fun hc6 => ?_) (fun hc6 => ?_)
    · have h := ifp hc6 h
      cases h
      exact hk5 _ _ _ I (lv_sub hl [1] rfl)
    · have h := ifn hc6 h
      refine lv_aload_n hx hb dX2_greatestSum_12 rfl (lv_at hl 0 rfl) ?_
      refine lv_iload_n hx hb dX2_greatestSum_13 rfl (lv_at hl 2 rfl) ?_
      refine lv_iconst (v := (0 : Int32)) hx hb dX2_greatestSum_14 (by decide) ?_
      obtain ⟨r8, hc7, h⟩ := bx1 h
      refine r_callV1 (As := [.int x3, .int (0 : Int32)]) (rest := []) (ws' := (cW g a st)) (q0 := 8) E I hl.1 k2_36 (c2_number hc7) cW_k rfl rfl rfl rfl (Nat.le_of_ble_eq_true rfl) ⟨Nat.le_of_ble_eq_true rfl, Nat.le_of_ble_eq_true rfl⟩ ⟨Nat.zero_le _, Nat.zero_le _⟩ dX2_greatestSum_15 (fun H locs I => ?_)
      refine lv_aload_n hx hb dX2_greatestSum_18 rfl (lv_at hl 0 rfl) ?_
      refine lv_iload_n hx hb dX2_greatestSum_19 rfl (lv_at hl 2 rfl) ?_
      refine lv_iconst (v := (1 : Int32)) hx hb dX2_greatestSum_20 (by decide) ?_
      obtain ⟨r10, hc9, h⟩ := bx1 h
      refine r_callV1 (As := [.int x3, .int (1 : Int32)]) (rest := [.int r8]) (ws' := (cW g a st)) (q0 := 8) E I hl.1 k2_36 (c2_number hc9) cW_k rfl rfl rfl rfl (Nat.le_of_ble_eq_true rfl) ⟨Nat.le_of_ble_eq_true rfl, Nat.le_of_ble_eq_true rfl⟩ ⟨Nat.zero_le _, Nat.zero_le _⟩ dX2_greatestSum_21 (fun H locs I => ?_)
      refine lv_iadd hx hb dX2_greatestSum_24 ?_
      refine lv_aload_n hx hb dX2_greatestSum_25 rfl (lv_at hl 0 rfl) ?_
      refine lv_iload_n hx hb dX2_greatestSum_26 rfl (lv_at hl 2 rfl) ?_
      refine lv_iconst (v := (2 : Int32)) hx hb dX2_greatestSum_27 (by decide) ?_
      obtain ⟨r12, hc11, h⟩ := bx1 h
      refine r_callV1 (As := [.int x3, .int (2 : Int32)]) (rest := [.int (r8 + r10)]) (ws' := (cW g a st)) (q0 := 8) E I hl.1 k2_36 (c2_number hc11) cW_k rfl rfl rfl rfl (Nat.le_of_ble_eq_true rfl) ⟨Nat.le_of_ble_eq_true rfl, Nat.le_of_ble_eq_true rfl⟩ ⟨Nat.zero_le _, Nat.zero_le _⟩ dX2_greatestSum_28 (fun H locs I => ?_)
      refine lv_iadd hx hb dX2_greatestSum_31 ?_
      refine lv_aload_n hx hb dX2_greatestSum_32 rfl (lv_at hl 0 rfl) ?_
      refine lv_iload_n hx hb dX2_greatestSum_33 rfl (lv_at hl 2 rfl) ?_
      refine lv_iconst (v := (3 : Int32)) hx hb dX2_greatestSum_34 (by decide) ?_
      obtain ⟨r14, hc13, h⟩ := bx1 h
      refine r_callV1 (As := [.int x3, .int (3 : Int32)]) (rest := [.int ((r8 + r10) + r12)]) (ws' := (cW g a st)) (q0 := 8) E I hl.1 k2_36 (c2_number hc13) cW_k rfl rfl rfl rfl (Nat.le_of_ble_eq_true rfl) ⟨Nat.le_of_ble_eq_true rfl, Nat.le_of_ble_eq_true rfl⟩ ⟨Nat.zero_le _, Nat.zero_le _⟩ dX2_greatestSum_35 (fun H locs I => ?_)
      refine lv_iadd hx hb dX2_greatestSum_38 ?_
      refine lv_istore_n (lv' := [(3, .int (((r8 + r10) + r12) + r14)), (0, .ref (a 8)), (1, .int x2), (2, .int x3)]) hx hb dX2_greatestSum_39 rfl hl (by decide) rfl (fun ls hl => ?_)
      refine lv_iload_n hx hb dX2_greatestSum_40 rfl (lv_at hl 2 rfl) ?_
      refine lv_iload_n hx hb dX2_greatestSum_41 rfl (lv_at hl 0 rfl) ?_
      refine r_mmax E hl.1 kx2_40 (Nat.le_of_ble_eq_true rfl) (Nat.le_of_ble_eq_true rfl) dX2_greatestSum_42 ?_
      obtain ⟨x15, hx16, h⟩ := lqx h
      refine lv_istore_n (x := (if x2 < (((r8 + r10) + r12) + r14) then (((r8 + r10) + r12) + r14) else x2)) (lv' := [(1, .int x15), (3, .int (((r8 + r10) + r12) + r14)), (0, .ref (a 8)), (2, .int x3)]) hx hb dX2_greatestSum_45 rfl hl (by decide) (by subst hx16; rfl) (fun ls hl => ?_)
      refine lv_iinc (v := (x3 + 1)) (lv' := [(2, .int (x3 + 1)), (1, .int x15), (3, .int (((r8 + r10) + r12) + r14)), (0, .ref (a 8))]) hx hb dX2_greatestSum_46 hl (k := 3) rfl rfl (by decide) rfl (fun ls hl => ?_)
      refine lv_goto (tgt := 4) hx hb dX2_greatestSum_49 (by decide) ?_
      cases h
      exact hk5 _ _ _ I (lv_sub hl [3, 1, 0] rfl)
  · obtain ⟨x19, rfl⟩ : ∃ y, y = z17 := ⟨_, rfl⟩
    intro H locs ls I hl
    have h : (some x19 : Option Int32) = some o := h
    have I : wk D (cW g a st) A H0 H locs := I
    have hl : lv_has ls 4 [(1, .int x19)] := hl
    refine lv_iload_n hx hb dX2_greatestSum_52 rfl (lv_at hl 0 rfl) ?_
    cases h
    exact K _ _ _ _ I dX2_greatestSum_53
set_option maxHeartbeats 4000000 in
set_option maxRecDepth 100000 in
theorem c4_restsBelowZero {l : Launch} {D : va_G} {g : Nat → ClassId} {a : Nat → Nat} {st : CS} {o : Int32} (h : f4_restsBelowZero st = some o) : ct l yX4_restsBelowZero cX4_restsBelowZero 3 (some .int) (rmk 1 21) D g (cW g a st) (cW g a st) [.ref (a 0)] (some (.int o)) := by
  refine ct_of ⟨rfl, rfl⟩ (by decide) (Nat.le_of_ble_eq_true rfl) ?_
  intro p e s m args below meth c ls Q A H0 H locs E I hl K
  have E : en p m c cX4_restsBelowZero 3 s args RX4 D g := E
  have hx := E.1.1
  have hb := E.1.2.1
  have hl : lv_has ls 3 [(0, .ref (a 0))] := hl
  have K : ∀ (pc : Nat) (ls : Array Slot) (H : Heap) (locs : List Loc), wk D (cW g a st) A H0 H locs → decode cX4_restsBelowZero pc = .ok (.ireturn, 1) → W p l e (rmk 1 21) s m args below meth c H locs 0 0 Q (F0 m pc ls [.int o]) := fun pc ls H locs I hd => K pc ls H locs I hd
  have h : ((bi1 (wh (f4_restsBelowZero_b4 st) FU ((0 : Int32), (0 : Int32))) fun w16 => some w16) : Option Int32) = some o := h
  refine lv_iconst (v := (0 : Int32)) hx hb dX4_restsBelowZero_0 (by decide) ?_
  refine lv_istore_n (lv' := [(1, .int (0 : Int32)), (0, .ref (a 0))]) hx hb dX4_restsBelowZero_1 rfl hl (by decide) rfl (fun ls hl => ?_)
  refine lv_iconst (v := (0 : Int32)) hx hb dX4_restsBelowZero_2 (by decide) ?_
  refine lv_istore_n (lv' := [(2, .int (0 : Int32)), (1, .int (0 : Int32)), (0, .ref (a 0))]) hx hb dX4_restsBelowZero_3 rfl hl (by decide) rfl (fun ls hl => ?_)
  obtain ⟨z13, hw14, h⟩ := bx1 h
  refine wh_W (P := fun (z : Int32 × Int32) => ∀ (H : Heap) (locs : List Loc) (ls : Array Slot), wk D (cW g a st) A H0 H locs → lv_has ls 3 [(0, .ref (a 0)), (1, .int z.1), (2, .int z.2)] → W p l e (rmk 1 21) s m args below meth c H locs 0 0 Q (F0 m 4 ls [])) (X := fun (z : Int32) => ∀ (H : Heap) (locs : List Loc) (ls : Array Slot), wk D (cW g a st) A H0 H locs → lv_has ls 3 [(1, .int z)] → W p l e (rmk 1 21) s m args below meth c H locs 0 0 Q (F0 m 31 ls [])) ?_ FU _ _ hw14 ?_ _ _ _ I (lv_sub hl [2, 1, 0] rfl)
  · intro z o4 h hk5 H locs ls I hl
    obtain ⟨x2, x3⟩ := z
    have h : ((if (4 : Int32) ≤ x3 then some (.inr x2) else (bi1 (f4_restOf st x3) fun r8 => some (.inl ((x2 + (if 0 ≤ r8 then (0 : Int32) else (1 : Int32))), (x3 + 1))))) : Option ((Int32 × Int32) ⊕ (Int32))) = some o4 := h
    have I : wk D (cW g a st) A H0 H locs := I
    have hl : lv_has ls 3 [(0, .ref (a 0)), (1, .int x2), (2, .int x3)] := hl
    refine lv_iload_n hx hb dX4_restsBelowZero_4 rfl (lv_at hl 2 rfl) ?_
    refine lv_iconst (v := (4 : Int32)) hx hb dX4_restsBelowZero_5 (by decide) ?_
    refine lv_icmp_ge (tgt := 31) hx hb dX4_restsBelowZero_6 (by decide) (fun hc6 => ?_) (fun hc6 => ?_)
    · have h := ifp hc6 h
      cases h
      exact hk5 _ _ _ I (lv_sub hl [1] rfl)
    · have h := ifn hc6 h
      refine lv_iload_n hx hb dX4_restsBelowZero_9 rfl (lv_at hl 1 rfl) ?_
      refine lv_aload_n hx hb dX4_restsBelowZero_10 rfl (lv_at hl 0 rfl) ?_
      refine lv_iload_n hx hb dX4_restsBelowZero_11 rfl (lv_at hl 2 rfl) ?_
      obtain ⟨r8, hc7, h⟩ := bx1 h
      refine r_callV1 (As := [.int x3]) (rest := [.int x2]) (ws' := (cW g a st)) (q0 := 0) E I hl.1 k4_145 (c4_restOf hc7) cW_k rfl rfl rfl rfl (Nat.le_of_ble_eq_true rfl) ⟨Nat.le_of_ble_eq_true rfl, Nat.le_of_ble_eq_true rfl⟩ ⟨Nat.zero_le _, Nat.zero_le _⟩ dX4_restsBelowZero_12 (fun H locs I => ?_)
      have J10 : ∀ (v9 : Int32) (H : Heap) (locs : List Loc), v9 = (if 0 ≤ r8 then (0 : Int32) else (1 : Int32)) → wk D (cW g a st) A H0 H locs → W p l e (rmk 1 21) s m args below meth c H locs 0 0 Q (F0 m 23 ls [.int v9, .int x2]) := by
        intro v9 H locs hv11 I
        subst hv11
        refine lv_iadd hx hb dX4_restsBelowZero_23 ?_
        refine lv_istore_n (lv' := [(1, .int (x2 + (if 0 ≤ r8 then (0 : Int32) else (1 : Int32)))), (0, .ref (a 0)), (2, .int x3)]) hx hb dX4_restsBelowZero_24 rfl hl (by decide) rfl (fun ls hl => ?_)
        refine lv_iinc (v := (x3 + 1)) (lv' := [(2, .int (x3 + 1)), (1, .int (x2 + (if 0 ≤ r8 then (0 : Int32) else (1 : Int32)))), (0, .ref (a 0))]) hx hb dX4_restsBelowZero_25 hl (k := 2) rfl rfl (by decide) rfl (fun ls hl => ?_)
        refine lv_goto (tgt := 4) hx hb dX4_restsBelowZero_28 (by decide) ?_
        cases h
        exact hk5 _ _ _ I (lv_sub hl [2, 1, 0] rfl)
      refine lv_if_ge (tgt := 22) hx hb dX4_restsBelowZero_15 (by decide) (fun hc12 => ?_) (fun hc12 => ?_)
      · refine lv_iconst (v := (0 : Int32)) hx hb dX4_restsBelowZero_22 (by decide) ?_
        exact J10 _ _ _ (by rw [if_pos hc12]) I
      · refine lv_iconst (v := (1 : Int32)) hx hb dX4_restsBelowZero_18 (by decide) ?_
        refine lv_goto (tgt := 23) hx hb dX4_restsBelowZero_19 (by decide) ?_
        exact J10 _ _ _ (by rw [if_neg hc12]) I
  · obtain ⟨x15, rfl⟩ : ∃ y, y = z13 := ⟨_, rfl⟩
    intro H locs ls I hl
    have h : (some x15 : Option Int32) = some o := h
    have I : wk D (cW g a st) A H0 H locs := I
    have hl : lv_has ls 3 [(1, .int x15)] := hl
    refine lv_iload_n hx hb dX4_restsBelowZero_31 rfl (lv_at hl 0 rfl) ?_
    cases h
    exact K _ _ _ _ I dX4_restsBelowZero_32
set_option maxHeartbeats 4000000 in
set_option maxRecDepth 100000 in
theorem c4_patternsAreSame {l : Launch} {D : va_G} {g : Nat → ClassId} {a : Nat → Nat} {st : CS} {o : Int32} (h : f4_patternsAreSame st = some o) : ct l yX4_patternsAreSame cX4_patternsAreSame 2 (some .boolean) (rmk 0 0) D g (cW g a st) (cW g a st) [.ref (a 0)] (some (.int o)) := by
  refine ct_of ⟨rfl, rfl⟩ (by decide) (Nat.le_of_ble_eq_true rfl) ?_
  intro p e s m args below meth c ls Q A H0 H locs E I hl K
  have E : en p m c cX4_patternsAreSame 2 s args RX4 D g := E
  have hx := E.1.1
  have hb := E.1.2.1
  have hl : lv_has ls 2 [(0, .ref (a 0))] := hl
  have K : ∀ (pc : Nat) (ls : Array Slot) (H : Heap) (locs : List Loc), wk D (cW g a st) A H0 H locs → decode cX4_patternsAreSame pc = .ok (.ireturn, 1) → zok o = true → W p l e (rmk 0 0) s m args below meth c H locs 0 0 Q (F0 m pc ls [.int o]) := fun pc ls H locs I hd hz => K pc ls H locs I ⟨hd, hz⟩
  have h : ((bi1 (wh (f4_patternsAreSame_b2 st) FU (0 : Int32)) fun w12 => Sum.elim (fun w13 => some (1 : Int32)) (fun w14 => some (0 : Int32)) w12) : Option Int32) = some o := h
  refine lv_iconst (v := (0 : Int32)) hx hb dX4_patternsAreSame_0 (by decide) ?_
  refine lv_istore_n (lv' := [(1, .int (0 : Int32)), (0, .ref (a 0))]) hx hb dX4_patternsAreSame_1 rfl hl (by decide) rfl (fun ls hl => ?_)
  obtain ⟨z9, hw10, h⟩ := bx1 h
  refine wh_W (P := fun (z : Int32) => ∀ (H : Heap) (locs : List Loc) (ls : Array Slot), wk D (cW g a st) A H0 H locs → lv_has ls 2 [(0, .ref (a 0)), (1, .int z)] → W p l e (rmk 0 0) s m args below meth c H locs 0 0 Q (F0 m 2 ls [])) (X := Sum.elim (fun (z : Unit) => ∀ (H : Heap) (locs : List Loc) (ls : Array Slot), wk D (cW g a st) A H0 H locs → lv_has ls 2 [] → W p l e (rmk 0 0) s m args below meth c H locs 0 0 Q (F0 m 36 ls [])) (fun (z : Unit) => ∀ (H : Heap) (locs : List Loc) (ls : Array Slot), wk D (cW g a st) A H0 H locs → lv_has ls 2 [] → W p l e (rmk 0 0) s m args below meth c H locs 0 0 Q (F0 m 28 ls []))) ?_ FU _ _ hw10 ?_ _ _ _ I (lv_sub hl [1, 0] rfl)
  · intro x2 o3 h hk4 H locs ls I hl
    have h : ((if (8 : Int32) ≤ x2 then some (.inr (.inl ())) else (if ib ((0 : Int32) + x2) 26 = true then (if ib ((8 : Int32) + x2) 26 = true then (if ((c_state st) ((0 : Int32) + x2).toNatClampNeg) = ((c_state st) ((8 : Int32) + x2).toNatClampNeg) then some (.inl (x2 + 1)) else some (.inr (.inr ()))) else none) else none)) : Option ((Int32) ⊕ ((Unit) ⊕ (Unit)))) = some o3 := h
    have I : wk D (cW g a st) A H0 H locs := I
    have hl : lv_has ls 2 [(0, .ref (a 0)), (1, .int x2)] := hl
    refine lv_iload_n hx hb dX4_patternsAreSame_2 rfl (lv_at hl 1 rfl) ?_
    refine lv_bipush (v := (8 : Int32)) hx hb dX4_patternsAreSame_3 (by decide) ?_
    refine lv_icmp_ge (tgt := 36) hx hb dX4_patternsAreSame_5 (by decide) (fun hc5 => ?_) (fun hc5 => ?_)
    · have h := ifp hc5 h
      cases h
      exact hk4 _ _ _ I (lv_sub hl [] rfl)
    · have h := ifn hc5 h
      refine lv_aload_n hx hb dX4_patternsAreSame_8 rfl (lv_at hl 0 rfl) ?_
      refine g4_9 E I dX4_patternsAreSame_9 ?_
      refine lv_iconst (v := (0 : Int32)) hx hb dX4_patternsAreSame_12 (by decide) ?_
      refine lv_iload_n hx hb dX4_patternsAreSame_13 rfl (lv_at hl 1 rfl) ?_
      refine lv_iadd hx hb dX4_patternsAreSame_14 ?_
      obtain ⟨hc6, h⟩ := gd h
      refine c_ld1 E I (f := (c_state st)) rfl hc6 dX4_patternsAreSame_15 ?_
      refine lv_aload_n hx hb dX4_patternsAreSame_16 rfl (lv_at hl 0 rfl) ?_
      refine g4_9 E I dX4_patternsAreSame_17 ?_
      refine lv_bipush (v := (8 : Int32)) hx hb dX4_patternsAreSame_20 (by decide) ?_
      refine lv_iload_n hx hb dX4_patternsAreSame_22 rfl (lv_at hl 1 rfl) ?_
      refine lv_iadd hx hb dX4_patternsAreSame_23 ?_
      obtain ⟨hc7, h⟩ := gd h
      refine c_ld1 E I (f := (c_state st)) rfl hc7 dX4_patternsAreSame_24 ?_
      refine lv_icmp_eq (tgt := 30) hx hb dX4_patternsAreSame_25 (by decide) (fun hc8 => ?_) (fun hc8 => ?_)
      · have h := ifp hc8 h
        refine lv_iinc (v := (x2 + 1)) (lv' := [(1, .int (x2 + 1)), (0, .ref (a 0))]) hx hb dX4_patternsAreSame_30 hl (k := 1) rfl rfl (by decide) rfl (fun ls hl => ?_)
        refine lv_goto (tgt := 2) hx hb dX4_patternsAreSame_33 (by decide) ?_
        cases h
        exact hk4 _ _ _ I (lv_sub hl [1, 0] rfl)
      · have h := ifn hc8 h
        cases h
        exact hk4 _ _ _ I (lv_sub hl [] rfl)
  · rcases z9 with z11 | z11
    · intro H locs ls I hl
      have h : (some (1 : Int32) : Option Int32) = some o := h
      have I : wk D (cW g a st) A H0 H locs := I
      have hl : lv_has ls 2 [] := hl
      refine lv_iconst (v := (1 : Int32)) hx hb dX4_patternsAreSame_36 (by decide) ?_
      cases h
      exact K _ _ _ _ I dX4_patternsAreSame_37 rfl
    · intro H locs ls I hl
      have h : (some (0 : Int32) : Option Int32) = some o := h
      have I : wk D (cW g a st) A H0 H locs := I
      have hl : lv_has ls 2 [] := hl
      refine lv_iconst (v := (0 : Int32)) hx hb dX4_patternsAreSame_28 (by decide) ?_
      cases h
      exact K _ _ _ _ I dX4_patternsAreSame_29 rfl
set_option maxHeartbeats 4000000 in
set_option maxRecDepth 100000 in
theorem c4_commonFactors {l : Launch} {D : va_G} {g : Nat → ClassId} {a : Nat → Nat} {st : CS} {o : Int32} (h : f4_commonFactors st = some o) : ct l yX4_commonFactors cX4_commonFactors 4 (some .int) (rmk 1 21) D g (cW g a st) (cW g a st) [.ref (a 0)] (some (.int o)) := by
  refine ct_of ⟨rfl, rfl⟩ (by decide) (Nat.le_of_ble_eq_true rfl) ?_
  intro p e s m args below meth c ls Q A H0 H locs E I hl K
  have E : en p m c cX4_commonFactors 4 s args RX4 D g := E
  have hx := E.1.1
  have hb := E.1.2.1
  have hl : lv_has ls 4 [(0, .ref (a 0))] := hl
  have K : ∀ (pc : Nat) (ls : Array Slot) (H : Heap) (locs : List Loc), wk D (cW g a st) A H0 H locs → decode cX4_commonFactors pc = .ok (.ireturn, 1) → W p l e (rmk 1 21) s m args below meth c H locs 0 0 Q (F0 m pc ls [.int o]) := fun pc ls H locs I hd => K pc ls H locs I hd
  have h : ((bi1 (wh (f4_commonFactors_b4 st) FU ((0 : Int32), (0 : Int32))) fun w17 => some w17) : Option Int32) = some o := h
  refine lv_iconst (v := (0 : Int32)) hx hb dX4_commonFactors_0 (by decide) ?_
  refine lv_istore_n (lv' := [(1, .int (0 : Int32)), (0, .ref (a 0))]) hx hb dX4_commonFactors_1 rfl hl (by decide) rfl (fun ls hl => ?_)
  refine lv_iconst (v := (0 : Int32)) hx hb dX4_commonFactors_2 (by decide) ?_
  refine lv_istore_n (lv' := [(2, .int (0 : Int32)), (1, .int (0 : Int32)), (0, .ref (a 0))]) hx hb dX4_commonFactors_3 rfl hl (by decide) rfl (fun ls hl => ?_)
  obtain ⟨z14, hw15, h⟩ := bx1 h
  refine wh_W (P := fun (z : Int32 × Int32) => ∀ (H : Heap) (locs : List Loc) (ls : Array Slot), wk D (cW g a st) A H0 H locs → lv_has ls 4 [(0, .ref (a 0)), (1, .int z.1), (2, .int z.2)] → W p l e (rmk 1 21) s m args below meth c H locs 0 0 Q (F0 m 4 ls [])) (X := fun (z : Int32) => ∀ (H : Heap) (locs : List Loc) (ls : Array Slot), wk D (cW g a st) A H0 H locs → lv_has ls 4 [(1, .int z)] → W p l e (rmk 1 21) s m args below meth c H locs 0 0 Q (F0 m 53 ls [])) ?_ FU _ _ hw15 ?_ _ _ _ I (lv_sub hl [2, 1, 0] rfl)
  · intro z o4 h hk5 H locs ls I hl
    obtain ⟨x2, x3⟩ := z
    have h : ((if (8 : Int32) ≤ x3 then some (.inr x2) else (if ib ((0 : Int32) + x3) 26 = true then (if ib ((8 : Int32) + x3) 26 = true then (lq (if ((c_state st) ((8 : Int32) + x3).toNatClampNeg) < ((c_state st) ((0 : Int32) + x3).toNatClampNeg) then ((c_state st) ((8 : Int32) + x3).toNatClampNeg) else ((c_state st) ((0 : Int32) + x3).toNatClampNeg)) fun x9 => (if ib ((16 : Int32) + x3) 26 = true then (lq (x2 + (if ((c_state st) ((16 : Int32) + x3).toNatClampNeg) < x9 then ((c_state st) ((16 : Int32) + x3).toNatClampNeg) else x9)) fun x12 => some (.inl (x12, (x3 + 1)))) else none)) else none) else none)) : Option ((Int32 × Int32) ⊕ (Int32))) = some o4 := h
    have I : wk D (cW g a st) A H0 H locs := I
    have hl : lv_has ls 4 [(0, .ref (a 0)), (1, .int x2), (2, .int x3)] := hl
    refine lv_iload_n hx hb dX4_commonFactors_4 rfl (lv_at hl 2 rfl) ?_
    refine lv_bipush (v := (8 : Int32)) hx hb dX4_commonFactors_5 (by decide) ?_
    refine lv_icmp_ge (tgt := 53) hx hb dX4_commonFactors_7 (by decide) (fun hc6 => ?_) (fun hc6 => ?_)
    · have h := ifp hc6 h
      cases h
      exact hk5 _ _ _ I (lv_sub hl [1] rfl)
    · have h := ifn hc6 h
      refine lv_aload_n hx hb dX4_commonFactors_10 rfl (lv_at hl 0 rfl) ?_
      refine g4_9 E I dX4_commonFactors_11 ?_
      refine lv_iconst (v := (0 : Int32)) hx hb dX4_commonFactors_14 (by decide) ?_
      refine lv_iload_n hx hb dX4_commonFactors_15 rfl (lv_at hl 2 rfl) ?_
      refine lv_iadd hx hb dX4_commonFactors_16 ?_
      obtain ⟨hc7, h⟩ := gd h
      refine c_ld1 E I (f := (c_state st)) rfl hc7 dX4_commonFactors_17 ?_
      refine lv_aload_n hx hb dX4_commonFactors_18 rfl (lv_at hl 0 rfl) ?_
      refine g4_9 E I dX4_commonFactors_19 ?_
      refine lv_bipush (v := (8 : Int32)) hx hb dX4_commonFactors_22 (by decide) ?_
      refine lv_iload_n hx hb dX4_commonFactors_24 rfl (lv_at hl 2 rfl) ?_
      refine lv_iadd hx hb dX4_commonFactors_25 ?_
      obtain ⟨hc8, h⟩ := gd h
      refine c_ld1 E I (f := (c_state st)) rfl hc8 dX4_commonFactors_26 ?_
      refine r_mmin E hl.1 kx4_90 (Nat.le_of_ble_eq_true rfl) (Nat.le_of_ble_eq_true rfl) dX4_commonFactors_27 ?_
      obtain ⟨x9, hx10, h⟩ := lqx h
      refine lv_istore_n (x := (if ((c_state st) ((8 : Int32) + x3).toNatClampNeg) < ((c_state st) ((0 : Int32) + x3).toNatClampNeg) then ((c_state st) ((8 : Int32) + x3).toNatClampNeg) else ((c_state st) ((0 : Int32) + x3).toNatClampNeg))) (lv' := [(3, .int x9), (0, .ref (a 0)), (1, .int x2), (2, .int x3)]) hx hb dX4_commonFactors_30 rfl hl (by decide) (by subst hx10; rfl) (fun ls hl => ?_)
      refine lv_iload_n hx hb dX4_commonFactors_31 rfl (lv_at hl 2 rfl) ?_
      refine lv_iload_n hx hb dX4_commonFactors_32 rfl (lv_at hl 0 rfl) ?_
      refine lv_aload_n hx hb dX4_commonFactors_33 rfl (lv_at hl 1 rfl) ?_
      refine g4_9 E I dX4_commonFactors_34 ?_
      refine lv_bipush (v := (16 : Int32)) hx hb dX4_commonFactors_37 (by decide) ?_
      refine lv_iload_n hx hb dX4_commonFactors_39 rfl (lv_at hl 3 rfl) ?_
      refine lv_iadd hx hb dX4_commonFactors_40 ?_
      obtain ⟨hc11, h⟩ := gd h
      refine c_ld1 E I (f := (c_state st)) rfl hc11 dX4_commonFactors_41 ?_
      refine r_mmin E hl.1 kx4_90 (Nat.le_of_ble_eq_true rfl) (Nat.le_of_ble_eq_true rfl) dX4_commonFactors_42 ?_
      refine lv_iadd hx hb dX4_commonFactors_45 ?_
      obtain ⟨x12, hx13, h⟩ := lqx h
      refine lv_istore_n (x := (x2 + (if ((c_state st) ((16 : Int32) + x3).toNatClampNeg) < x9 then ((c_state st) ((16 : Int32) + x3).toNatClampNeg) else x9))) (lv' := [(1, .int x12), (3, .int x9), (0, .ref (a 0)), (2, .int x3)]) hx hb dX4_commonFactors_46 rfl hl (by decide) (by subst hx13; rfl) (fun ls hl => ?_)
      refine lv_iinc (v := (x3 + 1)) (lv' := [(2, .int (x3 + 1)), (1, .int x12), (3, .int x9), (0, .ref (a 0))]) hx hb dX4_commonFactors_47 hl (k := 3) rfl rfl (by decide) rfl (fun ls hl => ?_)
      refine lv_goto (tgt := 4) hx hb dX4_commonFactors_50 (by decide) ?_
      cases h
      exact hk5 _ _ _ I (lv_sub hl [3, 1, 0] rfl)
  · obtain ⟨x16, rfl⟩ : ∃ y, y = z14 := ⟨_, rfl⟩
    intro H locs ls I hl
    have h : (some x16 : Option Int32) = some o := h
    have I : wk D (cW g a st) A H0 H locs := I
    have hl : lv_has ls 4 [(1, .int x16)] := hl
    refine lv_iload_n hx hb dX4_commonFactors_53 rfl (lv_at hl 0 rfl) ?_
    cases h
    exact K _ _ _ _ I dX4_commonFactors_54
set_option maxHeartbeats 4000000 in
set_option maxRecDepth 100000 in
theorem c1_size {l : Launch} {D : va_G} {g : Nat → ClassId} {a : Nat → Nat} {st : CS} {o : Int32} (h : f1_size st = o) : ct l yX1_size cX1_size 1 (some .int) (rmk 0 0) D g (cW g a st) (cW g a st) [.ref (a 5)] (some (.int o)) := by
  refine ct_of ⟨rfl, rfl⟩ (by decide) (Nat.le_of_ble_eq_true rfl) ?_
  intro p e s m args below meth c ls Q A H0 H locs E I hl K
  have E : en p m c cX1_size 1 s args RX1 D g := E
  have hx := E.1.1
  have hb := E.1.2.1
  have hl : lv_has ls 1 [(0, .ref (a 5))] := hl
  have K : ∀ (pc : Nat) (ls : Array Slot) (H : Heap) (locs : List Loc), wk D (cW g a st) A H0 H locs → decode cX1_size pc = .ok (.ireturn, 1) → W p l e (rmk 0 0) s m args below meth c H locs 0 0 Q (F0 m pc ls [.int o]) := fun pc ls H locs I hd => K pc ls H locs I hd
  have h : ((c_held st) : Int32) = o := h
  refine lv_aload_n hx hb dX1_size_0 rfl (lv_at hl 0 rfl) ?_
  refine g1_16 E I (v := (c_held st)) rfl dX1_size_1 ?_
  cases h
  exact K _ _ _ _ I dX1_size_4
set_option maxHeartbeats 4000000 in
set_option maxRecDepth 100000 in
theorem c4_count {l : Launch} {D : va_G} {g : Nat → ClassId} {a : Nat → Nat} {st : CS} {x91 : Int32} {st' : CS} {r' : Int32} (h : f4_count st x91 = some (st', .inr r')) : ct l yX4_count cX4_count 2 (some .int) (rmk 4 94) D g (cW g a st) (cW g a st') [.ref (a 0), .int x91] (some (.int r')) := by
  refine ct_of ⟨rfl, rfl⟩ (by decide) (Nat.le_of_ble_eq_true rfl) ?_
  intro p e s m args below meth c ls Q A H0 H locs E I hl K
  have E : en p m c cX4_count 2 s args RX4 D g := E
  have hx := E.1.1
  have hb := E.1.2.1
  have hl : lv_has ls 2 [(0, .ref (a 0)), (1, .int x91)] := hl
  have K : ∀ (pc : Nat) (ls : Array Slot) (H : Heap) (locs : List Loc), wk D (cW g a st') A H0 H locs → decode cX4_count pc = .ok (.ireturn, 1) → W p l e (rmk 4 94) s m args below meth c H locs 0 0 Q (F0 m pc ls [.int r']) := fun pc ls H locs I hd => K pc ls H locs I hd
  have h : ((bt0 st (f4_needNumber x91 (0 : Int32) (10 : Int32)) fun (u2 : Unit) => (bi1 (f2_prepare st) fun st4 => (if x91 = 0 then (bi1 (f4_factorsOf st4 x91) fun r7 => some (st4, .inr r7)) else (if x91 = 1 then (bi1 (f4_factorsOf st4 x91) fun r10 => some (st4, .inr r10)) else (if x91 = 2 then (bi1 (f4_factorsOf st4 x91) fun r13 => some (st4, .inr r13)) else (if x91 = 3 then (bi1 (f4_unlikeVariables st4) fun r16 => some (st4, .inr r16)) else (if x91 = 4 then some (st4, .inr (f2_size st4)) else (if x91 = 5 then (bi1 (f2_greatestSum st4) fun r20 => some (st4, .inr r20)) else (if x91 = 6 then (bi1 (f4_restsBelowZero st4) fun r23 => some (st4, .inr r23)) else (if x91 = 7 then (bi1 (f4_patternsAreSame st4) fun r26 => some (st4, .inr (if r26 = 0 then (0 : Int32) else (1 : Int32)))) else (if x91 = 8 then (bi1 (f4_commonFactors st4) fun r33 => some (st4, .inr r33)) else (if x91 = 9 then some (st4, .inr ((if ((c_taken st4) (0 : Int32).toNatClampNeg) = 0 then (0 : Int32) else (1 : Int32)) + (if ((c_taken st4) (1 : Int32).toNatClampNeg) = 0 then (0 : Int32) else (1 : Int32)))) else some (st4, .inr (f1_size st4)))))))))))))) : Option (CS × (Nat ⊕ Int32))) = some (st', .inr r') := h
  refine lv_iload_n hx hb dX4_count_0 rfl (lv_at hl 1 rfl) ?_
  refine lv_iconst (v := (0 : Int32)) hx hb dX4_count_1 (by decide) ?_
  refine lv_bipush (v := (10 : Int32)) hx hb dX4_count_2 (by decide) ?_
  obtain ⟨u2, hc1, h⟩ := bt0n h
  refine r_callS0 (As := [.int x91, .int (0 : Int32), .int (10 : Int32)]) (rest := []) E I hl.1 k4_57 (c4_needNumber hc1) rfl rfl (Nat.le_of_ble_eq_true rfl) ⟨Nat.le_of_ble_eq_true rfl, Nat.le_of_ble_eq_true rfl⟩ ⟨Nat.zero_le _, Nat.zero_le _⟩ dX4_count_4 (fun H locs I => ?_)
  refine lv_aload_n hx hb dX4_count_7 rfl (lv_at hl 0 rfl) ?_
  refine g4_49 E I dX4_count_8 ?_
  refine lv_aload_n hx hb dX4_count_11 rfl (lv_at hl 0 rfl) ?_
  refine g4_9 E I dX4_count_12 ?_
  obtain ⟨st4, hc3, h⟩ := bx1 h
  refine r_callV0 (As := [.ref (a 1)]) (rest := []) (ws' := (cW g a st4)) (q0 := 8) E I hl.1 k4_166 (c2_prepare hc3) cW_k rfl rfl rfl rfl (Nat.le_of_ble_eq_true rfl) ⟨Nat.le_of_ble_eq_true rfl, Nat.le_of_ble_eq_true rfl⟩ ⟨Nat.zero_le _, Nat.zero_le _⟩ dX4_count_15 (fun H locs I => ?_)
  refine lv_iload_n hx hb dX4_count_18 rfl (lv_at hl 1 rfl) ?_
  by_cases hk5 : x91 = 0
  · have h := ifp hk5 h
    refine lv_tableIn (tgt := 72) hx hb dX4_count_19 (by rw [hk5]; decide) (by rw [hk5]; decide) (by rw [hk5]; rfl) (by decide) ?_
    refine lv_aload_n hx hb dX4_count_72 rfl (lv_at hl 0 rfl) ?_
    refine lv_iload_n hx hb dX4_count_73 rfl (lv_at hl 1 rfl) ?_
    obtain ⟨r7, hc6, h⟩ := bx1 h
    refine r_callV1 (As := [.int x91]) (rest := []) (ws' := (cW g a st4)) (q0 := 0) E I hl.1 k4_174 (c4_factorsOf hc6) cW_k rfl rfl rfl rfl (Nat.le_of_ble_eq_true rfl) ⟨Nat.le_of_ble_eq_true rfl, Nat.le_of_ble_eq_true rfl⟩ ⟨Nat.zero_le _, Nat.zero_le _⟩ dX4_count_74 (fun H locs I => ?_)
    cases h
    exact K _ _ _ _ I dX4_count_77
  · have h := ifn hk5 h
    by_cases hk8 : x91 = 1
    · have h := ifp hk8 h
      refine lv_tableIn (tgt := 72) hx hb dX4_count_19 (by rw [hk8]; decide) (by rw [hk8]; decide) (by rw [hk8]; rfl) (by decide) ?_
      refine lv_aload_n hx hb dX4_count_72 rfl (lv_at hl 0 rfl) ?_
      refine lv_iload_n hx hb dX4_count_73 rfl (lv_at hl 1 rfl) ?_
      obtain ⟨r10, hc9, h⟩ := bx1 h
      refine r_callV1 (As := [.int x91]) (rest := []) (ws' := (cW g a st4)) (q0 := 0) E I hl.1 k4_174 (c4_factorsOf hc9) cW_k rfl rfl rfl rfl (Nat.le_of_ble_eq_true rfl) ⟨Nat.le_of_ble_eq_true rfl, Nat.le_of_ble_eq_true rfl⟩ ⟨Nat.zero_le _, Nat.zero_le _⟩ dX4_count_74 (fun H locs I => ?_)
      cases h
      exact K _ _ _ _ I dX4_count_77
    · have h := ifn hk8 h
      by_cases hk11 : x91 = 2
      · have h := ifp hk11 h
        refine lv_tableIn (tgt := 72) hx hb dX4_count_19 (by rw [hk11]; decide) (by rw [hk11]; decide) (by rw [hk11]; rfl) (by decide) ?_
        refine lv_aload_n hx hb dX4_count_72 rfl (lv_at hl 0 rfl) ?_
        refine lv_iload_n hx hb dX4_count_73 rfl (lv_at hl 1 rfl) ?_
        obtain ⟨r13, hc12, h⟩ := bx1 h
        refine r_callV1 (As := [.int x91]) (rest := []) (ws' := (cW g a st4)) (q0 := 0) E I hl.1 k4_174 (c4_factorsOf hc12) cW_k rfl rfl rfl rfl (Nat.le_of_ble_eq_true rfl) ⟨Nat.le_of_ble_eq_true rfl, Nat.le_of_ble_eq_true rfl⟩ ⟨Nat.zero_le _, Nat.zero_le _⟩ dX4_count_74 (fun H locs I => ?_)
        cases h
        exact K _ _ _ _ I dX4_count_77
      · have h := ifn hk11 h
        by_cases hk14 : x91 = 3
        · have h := ifp hk14 h
          refine lv_tableIn (tgt := 78) hx hb dX4_count_19 (by rw [hk14]; decide) (by rw [hk14]; decide) (by rw [hk14]; rfl) (by decide) ?_
          refine lv_aload_n hx hb dX4_count_78 rfl (lv_at hl 0 rfl) ?_
          obtain ⟨r16, hc15, h⟩ := bx1 h
          refine r_callV1 (As := []) (rest := []) (ws' := (cW g a st4)) (q0 := 0) E I hl.1 k4_177 (c4_unlikeVariables hc15) cW_k rfl rfl rfl rfl (Nat.le_of_ble_eq_true rfl) ⟨Nat.le_of_ble_eq_true rfl, Nat.le_of_ble_eq_true rfl⟩ ⟨Nat.zero_le _, Nat.zero_le _⟩ dX4_count_79 (fun H locs I => ?_)
          cases h
          exact K _ _ _ _ I dX4_count_82
        · have h := ifn hk14 h
          by_cases hk17 : x91 = 4
          · have h := ifp hk17 h
            refine lv_tableIn (tgt := 83) hx hb dX4_count_19 (by rw [hk17]; decide) (by rw [hk17]; decide) (by rw [hk17]; rfl) (by decide) ?_
            refine lv_aload_n hx hb dX4_count_83 rfl (lv_at hl 0 rfl) ?_
            refine g4_49 E I dX4_count_84 ?_
            refine r_callV1 (As := []) (rest := []) (ws' := (cW g a st4)) (q0 := 8) E I hl.1 k4_180 (c2_size rfl) cW_k rfl rfl rfl rfl (Nat.le_of_ble_eq_true rfl) ⟨Nat.le_of_ble_eq_true rfl, Nat.le_of_ble_eq_true rfl⟩ ⟨Nat.zero_le _, Nat.zero_le _⟩ dX4_count_87 (fun H locs I => ?_)
            cases h
            exact K _ _ _ _ I dX4_count_90
          · have h := ifn hk17 h
            by_cases hk18 : x91 = 5
            · have h := ifp hk18 h
              refine lv_tableIn (tgt := 91) hx hb dX4_count_19 (by rw [hk18]; decide) (by rw [hk18]; decide) (by rw [hk18]; rfl) (by decide) ?_
              refine lv_aload_n hx hb dX4_count_91 rfl (lv_at hl 0 rfl) ?_
              refine g4_49 E I dX4_count_92 ?_
              obtain ⟨r20, hc19, h⟩ := bx1 h
              refine r_callV1 (As := []) (rest := []) (ws' := (cW g a st4)) (q0 := 8) E I hl.1 k4_181 (c2_greatestSum hc19) cW_k rfl rfl rfl rfl (Nat.le_of_ble_eq_true rfl) ⟨Nat.le_of_ble_eq_true rfl, Nat.le_of_ble_eq_true rfl⟩ ⟨Nat.zero_le _, Nat.zero_le _⟩ dX4_count_95 (fun H locs I => ?_)
              cases h
              exact K _ _ _ _ I dX4_count_98
            · have h := ifn hk18 h
              by_cases hk21 : x91 = 6
              · have h := ifp hk21 h
                refine lv_tableIn (tgt := 99) hx hb dX4_count_19 (by rw [hk21]; decide) (by rw [hk21]; decide) (by rw [hk21]; rfl) (by decide) ?_
                refine lv_aload_n hx hb dX4_count_99 rfl (lv_at hl 0 rfl) ?_
                obtain ⟨r23, hc22, h⟩ := bx1 h
                refine r_callV1 (As := []) (rest := []) (ws' := (cW g a st4)) (q0 := 0) E I hl.1 k4_184 (c4_restsBelowZero hc22) cW_k rfl rfl rfl rfl (Nat.le_of_ble_eq_true rfl) ⟨Nat.le_of_ble_eq_true rfl, Nat.le_of_ble_eq_true rfl⟩ ⟨Nat.zero_le _, Nat.zero_le _⟩ dX4_count_100 (fun H locs I => ?_)
                cases h
                exact K _ _ _ _ I dX4_count_103
              · have h := ifn hk21 h
                by_cases hk24 : x91 = 7
                · have h := ifp hk24 h
                  refine lv_tableIn (tgt := 104) hx hb dX4_count_19 (by rw [hk24]; decide) (by rw [hk24]; decide) (by rw [hk24]; rfl) (by decide) ?_
                  refine lv_aload_n hx hb dX4_count_104 rfl (lv_at hl 0 rfl) ?_
                  obtain ⟨r26, hc25, h⟩ := bx1 h
                  refine r_callV1 (As := []) (rest := []) (ws' := (cW g a st4)) (q0 := 0) E I hl.1 k4_187 (c4_patternsAreSame hc25) cW_k rfl rfl rfl rfl (Nat.le_of_ble_eq_true rfl) ⟨Nat.le_of_ble_eq_true rfl, Nat.le_of_ble_eq_true rfl⟩ ⟨Nat.zero_le _, Nat.zero_le _⟩ dX4_count_105 (fun H locs I => ?_)
                  have J28 : ∀ (v27 : Int32) (H : Heap) (locs : List Loc), v27 = (if r26 = 0 then (0 : Int32) else (1 : Int32)) → wk D (cW g a st4) A H0 H locs → W p l e (rmk 4 94) s m args below meth c H locs 0 0 Q (F0 m 116 ls [.int v27]) := by
                    intro v27 H locs hv29 I
                    subst hv29
                    cases h
                    exact K _ _ _ _ I dX4_count_116
                  refine lv_if_eq (tgt := 115) hx hb dX4_count_108 (by decide) (fun hc30 => ?_) (fun hc30 => ?_)
                  · refine lv_iconst (v := (0 : Int32)) hx hb dX4_count_115 (by decide) ?_
                    exact J28 _ _ _ (by rw [if_pos hc30]) I
                  · refine lv_iconst (v := (1 : Int32)) hx hb dX4_count_111 (by decide) ?_
                    refine lv_goto (tgt := 116) hx hb dX4_count_112 (by decide) ?_
                    exact J28 _ _ _ (by rw [if_neg hc30]) I
                · have h := ifn hk24 h
                  by_cases hk31 : x91 = 8
                  · have h := ifp hk31 h
                    refine lv_tableIn (tgt := 117) hx hb dX4_count_19 (by rw [hk31]; decide) (by rw [hk31]; decide) (by rw [hk31]; rfl) (by decide) ?_
                    refine lv_aload_n hx hb dX4_count_117 rfl (lv_at hl 0 rfl) ?_
                    obtain ⟨r33, hc32, h⟩ := bx1 h
                    refine r_callV1 (As := []) (rest := []) (ws' := (cW g a st4)) (q0 := 0) E I hl.1 k4_190 (c4_commonFactors hc32) cW_k rfl rfl rfl rfl (Nat.le_of_ble_eq_true rfl) ⟨Nat.le_of_ble_eq_true rfl, Nat.le_of_ble_eq_true rfl⟩ ⟨Nat.zero_le _, Nat.zero_le _⟩ dX4_count_118 (fun H locs I => ?_)
                    cases h
                    exact K _ _ _ _ I dX4_count_121
                  · have h := ifn hk31 h
                    by_cases hk34 : x91 = 9
                    · have h := ifp hk34 h
                      refine lv_tableIn (tgt := 122) hx hb dX4_count_19 (by rw [hk34]; decide) (by rw [hk34]; decide) (by rw [hk34]; rfl) (by decide) ?_
                      refine lv_aload_n hx hb dX4_count_122 rfl (lv_at hl 0 rfl) ?_
                      refine g4_21 E I dX4_count_123 ?_
                      refine lv_iconst (v := (0 : Int32)) hx hb dX4_count_126 (by decide) ?_
                      refine c_ld4 E I (f := (c_taken st4)) rfl (by decide) dX4_count_127 ?_
                      have J36 : ∀ (v35 : Int32) (H : Heap) (locs : List Loc), v35 = (if ((c_taken st4) (0 : Int32).toNatClampNeg) = 0 then (0 : Int32) else (1 : Int32)) → wk D (cW g a st4) A H0 H locs → W p l e (rmk 4 94) s m args below meth c H locs 0 0 Q (F0 m 136 ls [.int v35]) := by
                        intro v35 H locs hv37 I
                        subst hv37
                        refine lv_aload_n hx hb dX4_count_136 rfl (lv_at hl 0 rfl) ?_
                        refine g4_21 E I dX4_count_137 ?_
                        refine lv_iconst (v := (1 : Int32)) hx hb dX4_count_140 (by decide) ?_
                        refine c_ld4 E I (f := (c_taken st4)) rfl (by decide) dX4_count_141 ?_
                        have J39 : ∀ (v38 : Int32) (H : Heap) (locs : List Loc), v38 = (if ((c_taken st4) (1 : Int32).toNatClampNeg) = 0 then (0 : Int32) else (1 : Int32)) → wk D (cW g a st4) A H0 H locs → W p l e (rmk 4 94) s m args below meth c H locs 0 0 Q (F0 m 150 ls [.int v38, .int (if ((c_taken st4) (0 : Int32).toNatClampNeg) = 0 then (0 : Int32) else (1 : Int32))]) := by
                          intro v38 H locs hv40 I
                          subst hv40
                          refine lv_iadd hx hb dX4_count_150 ?_
                          cases h
                          exact K _ _ _ _ I dX4_count_151
                        refine lv_if_eq (tgt := 149) hx hb dX4_count_142 (by decide) (fun hc41 => ?_) (fun hc41 => ?_)
                        · refine lv_iconst (v := (0 : Int32)) hx hb dX4_count_149 (by decide) ?_
                          exact J39 _ _ _ (by rw [if_pos hc41]) I
                        · refine lv_iconst (v := (1 : Int32)) hx hb dX4_count_145 (by decide) ?_
                          refine lv_goto (tgt := 150) hx hb dX4_count_146 (by decide) ?_
                          exact J39 _ _ _ (by rw [if_neg hc41]) I
                      refine lv_if_eq (tgt := 135) hx hb dX4_count_128 (by decide) (fun hc42 => ?_) (fun hc42 => ?_)
                      · refine lv_iconst (v := (0 : Int32)) hx hb dX4_count_135 (by decide) ?_
                        exact J36 _ _ _ (by rw [if_pos hc42]) I
                      · refine lv_iconst (v := (1 : Int32)) hx hb dX4_count_131 (by decide) ?_
                        refine lv_goto (tgt := 136) hx hb dX4_count_132 (by decide) ?_
                        exact J36 _ _ _ (by rw [if_neg hc42]) I
                    · have h := ifn hk34 h
                      refine lv_tableOut (tgt := 152) hx hb dX4_count_19 (sw_out9 (fun k hk => by rcases (show k = 0 ∨ k = 1 ∨ k = 2 ∨ k = 3 ∨ k = 4 ∨ k = 5 ∨ k = 6 ∨ k = 7 ∨ k = 8 ∨ k = 9 by omega) with rfl | rfl | rfl | rfl | rfl | rfl | rfl | rfl | rfl | rfl <;> assumption)) (by decide) ?_
                      refine lv_aload_n hx hb dX4_count_152 rfl (lv_at hl 0 rfl) ?_
                      refine g4_28 E I dX4_count_153 ?_
                      refine r_callV1 (As := []) (rest := []) (ws' := (cW g a st4)) (q0 := 5) E I hl.1 k4_136 (c1_size rfl) cW_k rfl rfl rfl rfl (Nat.le_of_ble_eq_true rfl) ⟨Nat.le_of_ble_eq_true rfl, Nat.le_of_ble_eq_true rfl⟩ ⟨Nat.zero_le _, Nat.zero_le _⟩ dX4_count_156 (fun H locs I => ?_)
                      cases h
                      exact K _ _ _ _ I dX4_count_159
