set_option maxHeartbeats 4000000 in
set_option maxRecDepth 100000 in
theorem cJ_bitCount {l : Launch} {D : va_G} {g : Nat → ClassId} {x90 : Int32} {o : Int32} (h : fJ_bitCount x90 = o) : ct l yJ6_bitCount_0f7a4 cJ6_bitCount_0f7a4 1 (some .int) (rmk 0 0) D g [] [] [.int x90] (some (.int o)) := by
  refine ct_of ⟨rfl, rfl⟩ (by decide) (Nat.le_of_ble_eq_true rfl) ?_
  intro p e s m args below meth c ls Q A H0 H locs E I hl K
  have E : en p m c cJ6_bitCount_0f7a4 1 s args RJ6 D g := E
  have hx := E.1.1
  have hb := E.1.2.1
  have hl : lv_has ls 1 [(0, .int x90)] := hl
  have K : ∀ (pc : Nat) (ls : Array Slot) (H : Heap) (locs : List Loc), wk D [] A H0 H locs → decode cJ6_bitCount_0f7a4 pc = .ok (.ireturn, 1) → W p l e (rmk 0 0) s m args below meth c H locs 0 0 Q (F0 m pc ls [.int o]) := fun pc ls H locs I hd => K pc ls H locs I hd
  have h : ((lq (x90 - (((x90).toUInt32 >>> (((1 : Int32)).toUInt32 &&& Int32.toUInt32 31)).toInt32 &&& (1431655765 : Int32))) fun x1 => (lq ((x1 &&& (858993459 : Int32)) + (((x1).toUInt32 >>> (((2 : Int32)).toUInt32 &&& Int32.toUInt32 31)).toInt32 &&& (858993459 : Int32))) fun x3 => (lq ((x3 + ((x3).toUInt32 >>> (((4 : Int32)).toUInt32 &&& Int32.toUInt32 31)).toInt32) &&& (252645135 : Int32)) fun x5 => (lq (x5 + ((x5).toUInt32 >>> (((8 : Int32)).toUInt32 &&& Int32.toUInt32 31)).toInt32) fun x7 => (lq (x7 + ((x7).toUInt32 >>> (((16 : Int32)).toUInt32 &&& Int32.toUInt32 31)).toInt32) fun x9 => (x9 &&& (63 : Int32))))))) : Int32) = o := h
  refine lv_iload_n hx hb dJ6_bitCount_0f7a4_0 rfl (lv_at hl 0 rfl) ?_
  refine lv_iload_n hx hb dJ6_bitCount_0f7a4_1 rfl (lv_at hl 0 rfl) ?_
  refine lv_iconst (v := (1 : Int32)) hx hb dJ6_bitCount_0f7a4_2 (by decide) ?_
  refine lv_iushr (v := ((x90).toUInt32 >>> (((1 : Int32)).toUInt32 &&& Int32.toUInt32 31)).toInt32) hx hb dJ6_bitCount_0f7a4_3 rfl ?_
  refine lv_ldcw (v := (1431655765 : Int32)) hx hb E.1.2.2.2.1 (E.1.2.2.2.2 _ kcJ_265) dJ6_bitCount_0f7a4_4 ?_
  refine lv_iand hx hb dJ6_bitCount_0f7a4_7 ?_
  refine lv_isub hx hb dJ6_bitCount_0f7a4_8 ?_
  obtain ⟨x1, hx2, h⟩ := lqx h
  refine lv_istore_n (x := (x90 - (((x90).toUInt32 >>> (((1 : Int32)).toUInt32 &&& Int32.toUInt32 31)).toInt32 &&& (1431655765 : Int32)))) (lv' := [(0, .int x1)]) hx hb dJ6_bitCount_0f7a4_9 rfl hl (by decide) (by subst hx2; rfl) (fun ls hl => ?_)
  refine lv_iload_n hx hb dJ6_bitCount_0f7a4_10 rfl (lv_at hl 0 rfl) ?_
  refine lv_ldcw (v := (858993459 : Int32)) hx hb E.1.2.2.2.1 (E.1.2.2.2.2 _ kcJ_266) dJ6_bitCount_0f7a4_11 ?_
  refine lv_iand hx hb dJ6_bitCount_0f7a4_14 ?_
  refine lv_iload_n hx hb dJ6_bitCount_0f7a4_15 rfl (lv_at hl 0 rfl) ?_
  refine lv_iconst (v := (2 : Int32)) hx hb dJ6_bitCount_0f7a4_16 (by decide) ?_
  refine lv_iushr (v := ((x1).toUInt32 >>> (((2 : Int32)).toUInt32 &&& Int32.toUInt32 31)).toInt32) hx hb dJ6_bitCount_0f7a4_17 rfl ?_
  refine lv_ldcw (v := (858993459 : Int32)) hx hb E.1.2.2.2.1 (E.1.2.2.2.2 _ kcJ_266) dJ6_bitCount_0f7a4_18 ?_
  refine lv_iand hx hb dJ6_bitCount_0f7a4_21 ?_
  refine lv_iadd hx hb dJ6_bitCount_0f7a4_22 ?_
  obtain ⟨x3, hx4, h⟩ := lqx h
  refine lv_istore_n (x := ((x1 &&& (858993459 : Int32)) + (((x1).toUInt32 >>> (((2 : Int32)).toUInt32 &&& Int32.toUInt32 31)).toInt32 &&& (858993459 : Int32)))) (lv' := [(0, .int x3)]) hx hb dJ6_bitCount_0f7a4_23 rfl hl (by decide) (by subst hx4; rfl) (fun ls hl => ?_)
  refine lv_iload_n hx hb dJ6_bitCount_0f7a4_24 rfl (lv_at hl 0 rfl) ?_
  refine lv_iload_n hx hb dJ6_bitCount_0f7a4_25 rfl (lv_at hl 0 rfl) ?_
  refine lv_iconst (v := (4 : Int32)) hx hb dJ6_bitCount_0f7a4_26 (by decide) ?_
  refine lv_iushr (v := ((x3).toUInt32 >>> (((4 : Int32)).toUInt32 &&& Int32.toUInt32 31)).toInt32) hx hb dJ6_bitCount_0f7a4_27 rfl ?_
  refine lv_iadd hx hb dJ6_bitCount_0f7a4_28 ?_
  refine lv_ldcw (v := (252645135 : Int32)) hx hb E.1.2.2.2.1 (E.1.2.2.2.2 _ kcJ_267) dJ6_bitCount_0f7a4_29 ?_
  refine lv_iand hx hb dJ6_bitCount_0f7a4_32 ?_
  obtain ⟨x5, hx6, h⟩ := lqx h
  refine lv_istore_n (x := ((x3 + ((x3).toUInt32 >>> (((4 : Int32)).toUInt32 &&& Int32.toUInt32 31)).toInt32) &&& (252645135 : Int32))) (lv' := [(0, .int x5)]) hx hb dJ6_bitCount_0f7a4_33 rfl hl (by decide) (by subst hx6; rfl) (fun ls hl => ?_)
  refine lv_iload_n hx hb dJ6_bitCount_0f7a4_34 rfl (lv_at hl 0 rfl) ?_
  refine lv_iload_n hx hb dJ6_bitCount_0f7a4_35 rfl (lv_at hl 0 rfl) ?_
  refine lv_bipush (v := (8 : Int32)) hx hb dJ6_bitCount_0f7a4_36 (by decide) ?_
  refine lv_iushr (v := ((x5).toUInt32 >>> (((8 : Int32)).toUInt32 &&& Int32.toUInt32 31)).toInt32) hx hb dJ6_bitCount_0f7a4_38 rfl ?_
  refine lv_iadd hx hb dJ6_bitCount_0f7a4_39 ?_
  obtain ⟨x7, hx8, h⟩ := lqx h
  refine lv_istore_n (x := (x5 + ((x5).toUInt32 >>> (((8 : Int32)).toUInt32 &&& Int32.toUInt32 31)).toInt32)) (lv' := [(0, .int x7)]) hx hb dJ6_bitCount_0f7a4_40 rfl hl (by decide) (by subst hx8; rfl) (fun ls hl => ?_)
  refine lv_iload_n hx hb dJ6_bitCount_0f7a4_41 rfl (lv_at hl 0 rfl) ?_
  refine lv_iload_n hx hb dJ6_bitCount_0f7a4_42 rfl (lv_at hl 0 rfl) ?_
  refine lv_bipush (v := (16 : Int32)) hx hb dJ6_bitCount_0f7a4_43 (by decide) ?_
  refine lv_iushr (v := ((x7).toUInt32 >>> (((16 : Int32)).toUInt32 &&& Int32.toUInt32 31)).toInt32) hx hb dJ6_bitCount_0f7a4_45 rfl ?_
  refine lv_iadd hx hb dJ6_bitCount_0f7a4_46 ?_
  obtain ⟨x9, hx10, h⟩ := lqx h
  refine lv_istore_n (x := (x7 + ((x7).toUInt32 >>> (((16 : Int32)).toUInt32 &&& Int32.toUInt32 31)).toInt32)) (lv' := [(0, .int x9)]) hx hb dJ6_bitCount_0f7a4_47 rfl hl (by decide) (by subst hx10; rfl) (fun ls hl => ?_)
  refine lv_iload_n hx hb dJ6_bitCount_0f7a4_48 rfl (lv_at hl 0 rfl) ?_
  refine lv_bipush (v := (63 : Int32)) hx hb dJ6_bitCount_0f7a4_49 (by decide) ?_
  refine lv_iand hx hb dJ6_bitCount_0f7a4_51 ?_
  cases h
  exact K _ _ _ _ I dJ6_bitCount_0f7a4_52
set_option maxHeartbeats 4000000 in
set_option maxRecDepth 100000 in
theorem cJ_isNaN {l : Launch} {D : va_G} {g : Nat → ClassId} {x90 : UInt64} {o : Int32} (h : fJ_isNaN x90 = some o) : ct l yJxe99ae_isNaN_b9ae7 cJxe99ae_isNaN_b9ae7 2 (some .boolean) (rmk 0 0) D g [] [] [.double x90] (some (.int o)) := by
  refine ct_of ⟨rfl, rfl⟩ (by decide) (Nat.le_of_ble_eq_true rfl) ?_
  intro p e s m args below meth c ls Q A H0 H locs E I hl K
  have E : en p m c cJxe99ae_isNaN_b9ae7 2 s args RJxe99ae D g := E
  have hx := E.1.1
  have hb := E.1.2.1
  have hl : lv_has ls 2 [(0, .double x90)] := hl
  have K : ∀ (pc : Nat) (ls : Array Slot) (H : Heap) (locs : List Loc), wk D [] A H0 H locs → decode cJxe99ae_isNaN_b9ae7 pc = .ok (.ireturn, 1) → zok o = true → W p l e (rmk 0 0) s m args below meth c H locs 0 0 Q (F0 m pc ls [.int o]) := fun pc ls H locs I hd hz => K pc ls H locs I ⟨hd, hz⟩
  have h : ((if (Op.cmpValue (FP.dcmp x90 x90) CmpOp.l) = 0 then some (0 : Int32) else some (1 : Int32)) : Option Int32) = some o := h
  refine lv_dload_n hx hb dJxe99ae_isNaN_b9ae7_0 rfl (lv_at hl 0 rfl) ?_
  refine lv_dload_n hx hb dJxe99ae_isNaN_b9ae7_1 rfl (lv_at hl 0 rfl) ?_
  refine lv_dcmp hx hb dJxe99ae_isNaN_b9ae7_2 ?_
  refine lv_if_eq (tgt := 10) hx hb dJxe99ae_isNaN_b9ae7_3 (by decide) (fun hc1 => ?_) (fun hc1 => ?_)
  · have h := ifp hc1 h
    refine lv_iconst (v := (0 : Int32)) hx hb dJxe99ae_isNaN_b9ae7_10 (by decide) ?_
    cases h
    exact K _ _ _ _ I dJxe99ae_isNaN_b9ae7_11 rfl
  · have h := ifn hc1 h
    refine lv_iconst (v := (1 : Int32)) hx hb dJxe99ae_isNaN_b9ae7_6 (by decide) ?_
    refine lv_goto (tgt := 11) hx hb dJxe99ae_isNaN_b9ae7_7 (by decide) ?_
    cases h
    exact K _ _ _ _ I dJxe99ae_isNaN_b9ae7_11 rfl
set_option maxHeartbeats 4000000 in
set_option maxRecDepth 100000 in
theorem cJ_doubleToLongBits {l : Launch} {D : va_G} {g : Nat → ClassId} {x90 : UInt64} {o : Int64} (h : fJ_doubleToLongBits x90 = some o) : ct l yJxe99ae_doubleToLongBits_ccdee cJxe99ae_doubleToLongBits_ccdee 2 (some .long) (rmk 1 23) D g [] [] [.double x90] (some (.long o)) := by
  refine ct_of ⟨rfl, rfl⟩ (by decide) (Nat.le_of_ble_eq_true rfl) ?_
  intro p e s m args below meth c ls Q A H0 H locs E I hl K
  have E : en p m c cJxe99ae_doubleToLongBits_ccdee 2 s args RJxe99ae D g := E
  have hx := E.1.1
  have hb := E.1.2.1
  have hl : lv_has ls 2 [(0, .double x90)] := hl
  have K : ∀ (pc : Nat) (ls : Array Slot) (H : Heap) (locs : List Loc), wk D [] A H0 H locs → decode cJxe99ae_doubleToLongBits_ccdee pc = .ok (.lreturn, 1) → W p l e (rmk 1 23) s m args below meth c H locs 0 0 Q (F0 m pc ls [.long o]) := fun pc ls H locs I hd => K pc ls H locs I hd
  have h : ((bi1 (fJ_isNaN x90) fun r2 => (if r2 = 0 then some x90.toInt64 else some (9221120237041090560 : Int64))) : Option Int64) = some o := h
  refine lv_dload_n hx hb dJxe99ae_doubleToLongBits_ccdee_0 rfl (lv_at hl 0 rfl) ?_
  obtain ⟨r2, hc1, h⟩ := bx1 h
  refine r_callS1 (As := [.double x90]) (rest := []) E I hl.1 kJ_122 (cJ_isNaN hc1) rfl rfl (Nat.le_of_ble_eq_true rfl) ⟨Nat.le_of_ble_eq_true rfl, Nat.le_of_ble_eq_true rfl⟩ ⟨Nat.zero_le _, Nat.zero_le _⟩ dJxe99ae_doubleToLongBits_ccdee_1 (fun H locs I => ?_)
  refine lv_if_ne (tgt := 12) hx hb dJxe99ae_doubleToLongBits_ccdee_4 (by decide) (fun hc3 => ?_) (fun hc3 => ?_)
  · have h := ifn hc3 h
    refine lv_ldc2 (v := (9221120237041090560 : Int64)) hx hb E.1.2.2.2.1 (E.1.2.2.2.2 _ kcJ_137) dJxe99ae_doubleToLongBits_ccdee_12 ?_
    cases h
    exact K _ _ _ _ I dJxe99ae_doubleToLongBits_ccdee_15
  · have h := ifp hc3 h
    refine lv_dload_n hx hb dJxe99ae_doubleToLongBits_ccdee_7 rfl (lv_at hl 0 rfl) ?_
    refine r_raw E hl.1 krJ_134 rw_nat rw_stat rw_ini (Nat.le_of_ble_eq_true rfl) (Nat.le_of_ble_eq_true rfl) dJxe99ae_doubleToLongBits_ccdee_8 ?_
    cases h
    exact K _ _ _ _ I dJxe99ae_doubleToLongBits_ccdee_11
set_option maxHeartbeats 4000000 in
set_option maxRecDepth 100000 in
theorem c5_thrown {l : Launch} {D : va_G} {g : Nat → ClassId} {a : Nat → Nat} {st : MS} {o : Int32} (h : f5_thrown st = o) : ct l yX5_thrown cX5_thrown 1 (some .int) (rmk 0 0) D g (mW g a st) (mW g a st) [.ref (a 0)] (some (.int o)) := by
  refine ct_of ⟨rfl, rfl⟩ (by decide) (Nat.le_of_ble_eq_true rfl) ?_
  intro p e s m args below meth c ls Q A H0 H locs E I hl K
  have E : en p m c cX5_thrown 1 s args RX5 D g := E
  have hx := E.1.1
  have hb := E.1.2.1
  have hl : lv_has ls 1 [(0, .ref (a 0))] := hl
  have K : ∀ (pc : Nat) (ls : Array Slot) (H : Heap) (locs : List Loc), wk D (mW g a st) A H0 H locs → decode cX5_thrown pc = .ok (.ireturn, 1) → W p l e (rmk 0 0) s m args below meth c H locs 0 0 Q (F0 m pc ls [.int o]) := fun pc ls H locs I hd => K pc ls H locs I hd
  have h : ((m_thrown st) : Int32) = o := h
  refine lv_aload_n hx hb dX5_thrown_0 rfl (lv_at hl 0 rfl) ?_
  refine g5_50 E I (v := (m_thrown st)) rfl dX5_thrown_1 ?_
  cases h
  exact K _ _ _ _ I dX5_thrown_4
set_option maxHeartbeats 4000000 in
set_option maxRecDepth 100000 in
theorem c5_within {l : Launch} {D : va_G} {g : Nat → ClassId} {x90 : Int32} {x91 : Int32} {x92 : Int32} {o : Int32} (h : f5_within x90 x91 x92 = o) : ct l yX5_within cX5_within 3 (some .boolean) (rmk 0 0) D g [] [] [.int x90, .int x91, .int x92] (some (.int o)) := by
  refine ct_of ⟨rfl, rfl⟩ (by decide) (Nat.le_of_ble_eq_true rfl) ?_
  intro p e s m args below meth c ls Q A H0 H locs E I hl K
  have E : en p m c cX5_within 3 s args RX5 D g := E
  have hx := E.1.1
  have hb := E.1.2.1
  have hl : lv_has ls 3 [(0, .int x90), (1, .int x91), (2, .int x92)] := hl
  have K : ∀ (pc : Nat) (ls : Array Slot) (H : Heap) (locs : List Loc), wk D [] A H0 H locs → decode cX5_within pc = .ok (.ireturn, 1) → zok o = true → W p l e (rmk 0 0) s m args below meth c H locs 0 0 Q (F0 m pc ls [.int o]) := fun pc ls H locs I hd hz => K pc ls H locs I ⟨hd, hz⟩
  have h : ((if x90 < x91 then (0 : Int32) else (if x92 < x90 then (0 : Int32) else (1 : Int32))) : Int32) = o := h
  refine lv_iload_n hx hb dX5_within_0 rfl (lv_at hl 0 rfl) ?_
  refine lv_iload_n hx hb dX5_within_1 rfl (lv_at hl 1 rfl) ?_
  refine lv_icmp_lt (tgt := 14) hx hb dX5_within_2 (by decide) (fun hc1 => ?_) (fun hc1 => ?_)
  · have h := ifp hc1 h
    refine lv_iconst (v := (0 : Int32)) hx hb dX5_within_14 (by decide) ?_
    cases h
    exact K _ _ _ _ I dX5_within_15 rfl
  · have h := ifn hc1 h
    refine lv_iload_n hx hb dX5_within_5 rfl (lv_at hl 0 rfl) ?_
    refine lv_iload_n hx hb dX5_within_6 rfl (lv_at hl 2 rfl) ?_
    refine lv_icmp_gt (tgt := 14) hx hb dX5_within_7 (by decide) (fun hc2 => ?_) (fun hc2 => ?_)
    · have h := ifp hc2 h
      refine lv_iconst (v := (0 : Int32)) hx hb dX5_within_14 (by decide) ?_
      cases h
      exact K _ _ _ _ I dX5_within_15 rfl
    · have h := ifn hc2 h
      refine lv_iconst (v := (1 : Int32)) hx hb dX5_within_10 (by decide) ?_
      refine lv_goto (tgt := 15) hx hb dX5_within_11 (by decide) ?_
      cases h
      exact K _ _ _ _ I dX5_within_15 rfl
set_option maxHeartbeats 4000000 in
set_option maxRecDepth 100000 in
theorem c5_save {l : Launch} {D : va_G} {g : Nat → ClassId} {a : Nat → Nat} {st : MS} {o : MS} (h : f5_save st = some o) : ct l yX5_save cX5_save 2 none (rmk 0 0) D g (mW g a st) (mW g a o) [.ref (a 0)] none := by
  refine ct_of ⟨rfl, rfl⟩ (by decide) (Nat.le_of_ble_eq_true rfl) ?_
  intro p e s m args below meth c ls Q A H0 H locs E I hl K
  have E : en p m c cX5_save 2 s args RX5 D g := E
  have hx := E.1.1
  have hb := E.1.2.1
  have hl : lv_has ls 2 [(0, .ref (a 0))] := hl
  have K : ∀ (pc : Nat) (ls : Array Slot) (H : Heap) (locs : List Loc), wk D (mW g a o) A H0 H locs → decode cX5_save pc = .ok (.return_, 1) → W p l e (rmk 0 0) s m args below meth c H locs 0 0 Q (F0 m pc ls []) := fun pc ls H locs I hd => K pc ls H locs I hd
  have h : ((if (m_states st) = (6 : Int32) then (bi1 (wh (f5_save_b12) FU (st, (26 : Int32))) fun w25 => f5_save_j50 (m_states_s w25 ((m_states w25) - (1 : Int32)))) else f5_save_j50 st) : Option MS) = some o := h
  refine lv_aload_n hx hb dX5_save_0 rfl (lv_at hl 0 rfl) ?_
  refine g5_54 E I (v := (m_states st)) rfl dX5_save_1 ?_
  refine lv_bipush (v := (6 : Int32)) hx hb dX5_save_4 (by decide) ?_
  have J1 : ∀ (st2 : MS), f5_save_j50 st2 = some o → ∀ (H : Heap) (locs : List Loc) (ls : Array Slot), wk D (mW g a st2) A H0 H locs → lv_has ls 2 [(0, .ref (a 0))] → W p l e (rmk 0 0) s m args below meth c H locs 0 0 Q (F0 m 50 ls []) := by
    intro st2 h H locs ls I hl
    have h : ((bi1 (wh (f5_save_b52) FU (st2, (0 : Int32))) fun w13 => some (m_states_s w13 ((m_states w13) + (1 : Int32)))) : Option MS) = some o := h
    refine lv_iconst (v := (0 : Int32)) hx hb dX5_save_50 (by decide) ?_
    refine lv_istore_n (lv' := [(1, .int (0 : Int32)), (0, .ref (a 0))]) hx hb dX5_save_51 rfl hl (by decide) rfl (fun ls hl => ?_)
    obtain ⟨z10, hw11, h⟩ := bx1 h
    refine wh_W (P := fun (z : MS × Int32) => ∀ (H : Heap) (locs : List Loc) (ls : Array Slot), wk D (mW g a z.1) A H0 H locs → lv_has ls 2 [(0, .ref (a 0)), (1, .int z.2)] → W p l e (rmk 0 0) s m args below meth c H locs 0 0 Q (F0 m 52 ls [])) (X := fun (z : MS) => ∀ (H : Heap) (locs : List Loc) (ls : Array Slot), wk D (mW g a z) A H0 H locs → lv_has ls 2 [(0, .ref (a 0))] → W p l e (rmk 0 0) s m args below meth c H locs 0 0 Q (F0 m 84 ls [])) ?_ FU _ _ hw11 ?_ _ _ _ I (lv_sub hl [1, 0] rfl)
    · intro z o5 h hk6 H locs ls I hl
      obtain ⟨st3, x4⟩ := z
      have h : ((if (26 : Int32) ≤ x4 then some (.inr st3) else (if ib x4 26 = true then (if ib (((26 : Int32) * (m_states st3)) + x4) 156 = true then some (.inl ((m_history_s st3 (upd (m_history st3) (((26 : Int32) * (m_states st3)) + x4).toNatClampNeg ((m_z st3) x4.toNatClampNeg))), (x4 + 1))) else none) else none)) : Option ((MS × Int32) ⊕ (MS))) = some o5 := h
      have I : wk D (mW g a st3) A H0 H locs := I
      have hl : lv_has ls 2 [(0, .ref (a 0)), (1, .int x4)] := hl
      refine lv_iload_n hx hb dX5_save_52 rfl (lv_at hl 1 rfl) ?_
      refine lv_bipush (v := (26 : Int32)) hx hb dX5_save_53 (by decide) ?_
      refine lv_icmp_ge (tgt := 84) hx hb dX5_save_55 (by decide) (fun hc7 => ?_) (fun hc7 => ?_)
      · have h := ifp hc7 h
        cases h
        exact hk6 _ _ _ I (lv_sub hl [0] rfl)
      · have h := ifn hc7 h
        refine lv_aload_n hx hb dX5_save_58 rfl (lv_at hl 0 rfl) ?_
        refine g5_13 E I dX5_save_59 ?_
        refine lv_bipush (v := (26 : Int32)) hx hb dX5_save_62 (by decide) ?_
        refine lv_aload_n hx hb dX5_save_64 rfl (lv_at hl 0 rfl) ?_
        refine g5_54 E I (v := (m_states st3)) rfl dX5_save_65 ?_
        refine lv_imul hx hb dX5_save_68 ?_
        refine lv_iload_n hx hb dX5_save_69 rfl (lv_at hl 1 rfl) ?_
        refine lv_iadd hx hb dX5_save_70 ?_
        refine lv_aload_n hx hb dX5_save_71 rfl (lv_at hl 0 rfl) ?_
        refine g5_7 E I dX5_save_72 ?_
        refine lv_iload_n hx hb dX5_save_75 rfl (lv_at hl 1 rfl) ?_
        obtain ⟨hc8, h⟩ := gd h
        refine m_ld1 E I (f := (m_z st3)) rfl hc8 dX5_save_76 ?_
        obtain ⟨hc9, h⟩ := gd h
        refine m_st2 E I (f := (m_history st3)) rfl hc9 dX5_save_77 (fun H locs I => ?_)
        refine lv_iinc (v := (x4 + 1)) (lv' := [(1, .int (x4 + 1)), (0, .ref (a 0))]) hx hb dX5_save_78 hl (k := 1) rfl rfl (by decide) rfl (fun ls hl => ?_)
        refine lv_goto (tgt := 52) hx hb dX5_save_81 (by decide) ?_
        cases h
        exact hk6 _ _ _ I (lv_sub hl [1, 0] rfl)
    · obtain ⟨st12, rfl⟩ : ∃ y, y = z10 := ⟨_, rfl⟩
      intro H locs ls I hl
      have h : (some (m_states_s st12 ((m_states st12) + (1 : Int32))) : Option MS) = some o := h
      have I : wk D (mW g a st12) A H0 H locs := I
      have hl : lv_has ls 2 [(0, .ref (a 0))] := hl
      refine lv_aload_n hx hb dX5_save_84 rfl (lv_at hl 0 rfl) ?_
      refine lv_dup hx hb dX5_save_85 rfl ?_
      refine g5_54 E I (v := (m_states st12)) rfl dX5_save_86 ?_
      refine lv_iconst (v := (1 : Int32)) hx hb dX5_save_89 (by decide) ?_
      refine lv_iadd hx hb dX5_save_90 ?_
      refine p5_54 E I dX5_save_91 (fun H locs I => ?_)
      cases h
      exact K _ _ _ _ I dX5_save_94
  refine lv_icmp_ne (tgt := 50) hx hb dX5_save_6 (by decide) (fun hc14 => ?_) (fun hc14 => ?_)
  · have h := ifn hc14 h
    exact J1 _ h _ _ _ I (lv_sub hl [0] rfl)
  · have h := ifp hc14 h
    refine lv_bipush (v := (26 : Int32)) hx hb dX5_save_9 (by decide) ?_
    refine lv_istore_n (lv' := [(1, .int (26 : Int32)), (0, .ref (a 0))]) hx hb dX5_save_11 rfl hl (by decide) rfl (fun ls hl => ?_)
    obtain ⟨z22, hw23, h⟩ := bx1 h
    refine wh_W (P := fun (z : MS × Int32) => ∀ (H : Heap) (locs : List Loc) (ls : Array Slot), wk D (mW g a z.1) A H0 H locs → lv_has ls 2 [(0, .ref (a 0)), (1, .int z.2)] → W p l e (rmk 0 0) s m args below meth c H locs 0 0 Q (F0 m 12 ls [])) (X := fun (z : MS) => ∀ (H : Heap) (locs : List Loc) (ls : Array Slot), wk D (mW g a z) A H0 H locs → lv_has ls 2 [(0, .ref (a 0))] → W p l e (rmk 0 0) s m args below meth c H locs 0 0 Q (F0 m 40 ls [])) ?_ FU _ _ hw23 ?_ _ _ _ I (lv_sub hl [1, 0] rfl)
    · intro z o17 h hk18 H locs ls I hl
      obtain ⟨st15, x16⟩ := z
      have h : ((if (156 : Int32) ≤ x16 then some (.inr st15) else (if ib x16 156 = true then (if ib (x16 - (26 : Int32)) 156 = true then some (.inl ((m_history_s st15 (upd (m_history st15) (x16 - (26 : Int32)).toNatClampNeg ((m_history st15) x16.toNatClampNeg))), (x16 + 1))) else none) else none)) : Option ((MS × Int32) ⊕ (MS))) = some o17 := h
      have I : wk D (mW g a st15) A H0 H locs := I
      have hl : lv_has ls 2 [(0, .ref (a 0)), (1, .int x16)] := hl
      refine lv_iload_n hx hb dX5_save_12 rfl (lv_at hl 1 rfl) ?_
      refine lv_sipush (v := (156 : Int32)) hx hb dX5_save_13 (by decide) ?_
      refine lv_icmp_ge (tgt := 40) hx hb dX5_save_16 (by decide) (fun hc19 => ?_) (fun hc19 => ?_)
      · have h := ifp hc19 h
        cases h
        exact hk18 _ _ _ I (lv_sub hl [0] rfl)
      · have h := ifn hc19 h
        refine lv_aload_n hx hb dX5_save_19 rfl (lv_at hl 0 rfl) ?_
        refine g5_13 E I dX5_save_20 ?_
        refine lv_iload_n hx hb dX5_save_23 rfl (lv_at hl 1 rfl) ?_
        refine lv_bipush (v := (26 : Int32)) hx hb dX5_save_24 (by decide) ?_
        refine lv_isub hx hb dX5_save_26 ?_
        refine lv_aload_n hx hb dX5_save_27 rfl (lv_at hl 0 rfl) ?_
        refine g5_13 E I dX5_save_28 ?_
        refine lv_iload_n hx hb dX5_save_31 rfl (lv_at hl 1 rfl) ?_
        obtain ⟨hc20, h⟩ := gd h
        refine m_ld2 E I (f := (m_history st15)) rfl hc20 dX5_save_32 ?_
        obtain ⟨hc21, h⟩ := gd h
        refine m_st2 E I (f := (m_history st15)) rfl hc21 dX5_save_33 (fun H locs I => ?_)
        refine lv_iinc (v := (x16 + 1)) (lv' := [(1, .int (x16 + 1)), (0, .ref (a 0))]) hx hb dX5_save_34 hl (k := 1) rfl rfl (by decide) rfl (fun ls hl => ?_)
        refine lv_goto (tgt := 12) hx hb dX5_save_37 (by decide) ?_
        cases h
        exact hk18 _ _ _ I (lv_sub hl [1, 0] rfl)
    · obtain ⟨st24, rfl⟩ : ∃ y, y = z22 := ⟨_, rfl⟩
      intro H locs ls I hl
      have h : (f5_save_j50 (m_states_s st24 ((m_states st24) - (1 : Int32))) : Option MS) = some o := h
      have I : wk D (mW g a st24) A H0 H locs := I
      have hl : lv_has ls 2 [(0, .ref (a 0))] := hl
      refine lv_aload_n hx hb dX5_save_40 rfl (lv_at hl 0 rfl) ?_
      refine lv_dup hx hb dX5_save_41 rfl ?_
      refine g5_54 E I (v := (m_states st24)) rfl dX5_save_42 ?_
      refine lv_iconst (v := (1 : Int32)) hx hb dX5_save_45 (by decide) ?_
      refine lv_isub hx hb dX5_save_46 ?_
      refine p5_54 E I dX5_save_47 (fun H locs I => ?_)
      exact J1 _ h _ _ _ I (lv_sub hl [0] rfl)
set_option maxHeartbeats 4000000 in
set_option maxRecDepth 100000 in
theorem c5_of {l : Launch} {D : va_G} {g : Nat → ClassId} {a : Nat → Nat} {st : MS} {x91 : Int32} {x92 : Int32} {o : Int32} (h : f5_of st x91 x92 = some o) : ct l yX5_of cX5_of 3 (some .int) (rmk 0 0) D g (mW g a st) (mW g a st) [.ref (a 0), .int x91, .int x92] (some (.int o)) := by
  refine ct_of ⟨rfl, rfl⟩ (by decide) (Nat.le_of_ble_eq_true rfl) ?_
  intro p e s m args below meth c ls Q A H0 H locs E I hl K
  have E : en p m c cX5_of 3 s args RX5 D g := E
  have hx := E.1.1
  have hb := E.1.2.1
  have hl : lv_has ls 3 [(0, .ref (a 0)), (1, .int x91), (2, .int x92)] := hl
  have K : ∀ (pc : Nat) (ls : Array Slot) (H : Heap) (locs : List Loc), wk D (mW g a st) A H0 H locs → decode cX5_of pc = .ok (.ireturn, 1) → W p l e (rmk 0 0) s m args below meth c H locs 0 0 Q (F0 m pc ls [.int o]) := fun pc ls H locs I hd => K pc ls H locs I hd
  have h : ((if ib (((8 : Int32) * x91) + x92) 26 = true then some ((m_z st) (((8 : Int32) * x91) + x92).toNatClampNeg) else none) : Option Int32) = some o := h
  refine lv_aload_n hx hb dX5_of_0 rfl (lv_at hl 0 rfl) ?_
  refine g5_7 E I dX5_of_1 ?_
  refine lv_bipush (v := (8 : Int32)) hx hb dX5_of_4 (by decide) ?_
  refine lv_iload_n hx hb dX5_of_6 rfl (lv_at hl 1 rfl) ?_
  refine lv_imul hx hb dX5_of_7 ?_
  refine lv_iload_n hx hb dX5_of_8 rfl (lv_at hl 2 rfl) ?_
  refine lv_iadd hx hb dX5_of_9 ?_
  obtain ⟨hc1, h⟩ := gd h
  refine m_ld1 E I (f := (m_z st)) rfl hc1 dX5_of_10 ?_
  cases h
  exact K _ _ _ _ I dX5_of_11
set_option maxHeartbeats 4000000 in
set_option maxRecDepth 100000 in
theorem c5_variableOf {l : Launch} {D : va_G} {g : Nat → ClassId} {a : Nat → Nat} {st : MS} {x91 : Int32} {x92 : Int32} {o : Int32} (h : f5_variableOf st x91 x92 = some o) : ct l yX5_variableOf cX5_variableOf 3 (some .int) (rmk 1 22) D g (mW g a st) (mW g a st) [.ref (a 0), .int x91, .int x92] (some (.int o)) := by
  refine ct_of ⟨rfl, rfl⟩ (by decide) (Nat.le_of_ble_eq_true rfl) ?_
  intro p e s m args below meth c ls Q A H0 H locs E I hl K
  have E : en p m c cX5_variableOf 3 s args RX5 D g := E
  have hx := E.1.1
  have hb := E.1.2.1
  have hl : lv_has ls 3 [(0, .ref (a 0)), (1, .int x91), (2, .int x92)] := hl
  have K : ∀ (pc : Nat) (ls : Array Slot) (H : Heap) (locs : List Loc), wk D (mW g a st) A H0 H locs → decode cX5_variableOf pc = .ok (.ireturn, 1) → W p l e (rmk 1 22) s m args below meth c H locs 0 0 Q (F0 m pc ls [.int o]) := fun pc ls H locs I hd => K pc ls H locs I hd
  have h : ((bi1 (f5_of st x91 ((4 : Int32) + x92)) fun r2 => some r2) : Option Int32) = some o := h
  refine lv_aload_n hx hb dX5_variableOf_0 rfl (lv_at hl 0 rfl) ?_
  refine lv_iload_n hx hb dX5_variableOf_1 rfl (lv_at hl 1 rfl) ?_
  refine lv_iconst (v := (4 : Int32)) hx hb dX5_variableOf_2 (by decide) ?_
  refine lv_iload_n hx hb dX5_variableOf_3 rfl (lv_at hl 2 rfl) ?_
  refine lv_iadd hx hb dX5_variableOf_4 ?_
  obtain ⟨r2, hc1, h⟩ := bx1 h
  refine r_callV1 (As := [.int x91, .int ((4 : Int32) + x92)]) (rest := []) (ws' := (mW g a st)) (q0 := 0) E I hl.1 k5_57 (c5_of hc1) mW_k rfl rfl rfl rfl (Nat.le_of_ble_eq_true rfl) ⟨Nat.le_of_ble_eq_true rfl, Nat.le_of_ble_eq_true rfl⟩ ⟨Nat.zero_le _, Nat.zero_le _⟩ dX5_variableOf_5 (fun H locs I => ?_)
  cases h
  exact K _ _ _ _ I dX5_variableOf_8
set_option maxHeartbeats 4000000 in
set_option maxRecDepth 100000 in
theorem c5_isProduct {l : Launch} {D : va_G} {g : Nat → ClassId} {x90 : Int32} {o : Int32} (h : f5_isProduct x90 = o) : ct l yX5_isProduct cX5_isProduct 1 (some .boolean) (rmk 1 22) D g [] [] [.int x90] (some (.int o)) := by
  refine ct_of ⟨rfl, rfl⟩ (by decide) (Nat.le_of_ble_eq_true rfl) ?_
  intro p e s m args below meth c ls Q A H0 H locs E I hl K
  have E : en p m c cX5_isProduct 1 s args RX5 D g := E
  have hx := E.1.1
  have hb := E.1.2.1
  have hl : lv_has ls 1 [(0, .int x90)] := hl
  have K : ∀ (pc : Nat) (ls : Array Slot) (H : Heap) (locs : List Loc), wk D [] A H0 H locs → decode cX5_isProduct pc = .ok (.ireturn, 1) → zok o = true → W p l e (rmk 1 22) s m args below meth c H locs 0 0 Q (F0 m pc ls [.int o]) := fun pc ls H locs I hd hz => K pc ls H locs I ⟨hd, hz⟩
  have h : ((f5_within x90 (0 : Int32) (2 : Int32)) : Int32) = o := h
  refine lv_iload_n hx hb dX5_isProduct_0 rfl (lv_at hl 0 rfl) ?_
  refine lv_iconst (v := (0 : Int32)) hx hb dX5_isProduct_1 (by decide) ?_
  refine lv_iconst (v := (2 : Int32)) hx hb dX5_isProduct_2 (by decide) ?_
  refine r_callS1 (As := [.int x90, .int (0 : Int32), .int (2 : Int32)]) (rest := []) E I hl.1 k5_61 (c5_within rfl) rfl rfl (Nat.le_of_ble_eq_true rfl) ⟨Nat.le_of_ble_eq_true rfl, Nat.le_of_ble_eq_true rfl⟩ ⟨Nat.zero_le _, Nat.zero_le _⟩ dX5_isProduct_3 (fun H locs I => ?_)
  cases h
  exact K _ _ _ _ I dX5_isProduct_6 (z5_within _ _ _)
set_option maxHeartbeats 4000000 in
set_option maxRecDepth 100000 in
theorem c5_isConstant {l : Launch} {D : va_G} {g : Nat → ClassId} {x90 : Int32} {o : Int32} (h : f5_isConstant x90 = o) : ct l yX5_isConstant cX5_isConstant 1 (some .boolean) (rmk 1 22) D g [] [] [.int x90] (some (.int o)) := by
  refine ct_of ⟨rfl, rfl⟩ (by decide) (Nat.le_of_ble_eq_true rfl) ?_
  intro p e s m args below meth c ls Q A H0 H locs E I hl K
  have E : en p m c cX5_isConstant 1 s args RX5 D g := E
  have hx := E.1.1
  have hb := E.1.2.1
  have hl : lv_has ls 1 [(0, .int x90)] := hl
  have K : ∀ (pc : Nat) (ls : Array Slot) (H : Heap) (locs : List Loc), wk D [] A H0 H locs → decode cX5_isConstant pc = .ok (.ireturn, 1) → zok o = true → W p l e (rmk 1 22) s m args below meth c H locs 0 0 Q (F0 m pc ls [.int o]) := fun pc ls H locs I hd hz => K pc ls H locs I ⟨hd, hz⟩
  have h : ((f5_within x90 (0 : Int32) (3 : Int32)) : Int32) = o := h
  refine lv_iload_n hx hb dX5_isConstant_0 rfl (lv_at hl 0 rfl) ?_
  refine lv_iconst (v := (0 : Int32)) hx hb dX5_isConstant_1 (by decide) ?_
  refine lv_iconst (v := (3 : Int32)) hx hb dX5_isConstant_2 (by decide) ?_
  refine r_callS1 (As := [.int x90, .int (0 : Int32), .int (3 : Int32)]) (rest := []) E I hl.1 k5_61 (c5_within rfl) rfl rfl (Nat.le_of_ble_eq_true rfl) ⟨Nat.le_of_ble_eq_true rfl, Nat.le_of_ble_eq_true rfl⟩ ⟨Nat.zero_le _, Nat.zero_le _⟩ dX5_isConstant_3 (fun H locs I => ?_)
  cases h
  exact K _ _ _ _ I dX5_isConstant_6 (z5_within _ _ _)
set_option maxHeartbeats 4000000 in
set_option maxRecDepth 100000 in
theorem c5_isVariable {l : Launch} {D : va_G} {g : Nat → ClassId} {x90 : Int32} {o : Int32} (h : f5_isVariable x90 = o) : ct l yX5_isVariable cX5_isVariable 1 (some .boolean) (rmk 1 22) D g [] [] [.int x90] (some (.int o)) := by
  refine ct_of ⟨rfl, rfl⟩ (by decide) (Nat.le_of_ble_eq_true rfl) ?_
  intro p e s m args below meth c ls Q A H0 H locs E I hl K
  have E : en p m c cX5_isVariable 1 s args RX5 D g := E
  have hx := E.1.1
  have hb := E.1.2.1
  have hl : lv_has ls 1 [(0, .int x90)] := hl
  have K : ∀ (pc : Nat) (ls : Array Slot) (H : Heap) (locs : List Loc), wk D [] A H0 H locs → decode cX5_isVariable pc = .ok (.ireturn, 1) → zok o = true → W p l e (rmk 1 22) s m args below meth c H locs 0 0 Q (F0 m pc ls [.int o]) := fun pc ls H locs I hd hz => K pc ls H locs I ⟨hd, hz⟩
  have h : ((f5_within x90 (0 : Int32) (3 : Int32)) : Int32) = o := h
  refine lv_iload_n hx hb dX5_isVariable_0 rfl (lv_at hl 0 rfl) ?_
  refine lv_iconst (v := (0 : Int32)) hx hb dX5_isVariable_1 (by decide) ?_
  refine lv_iconst (v := (3 : Int32)) hx hb dX5_isVariable_2 (by decide) ?_
  refine r_callS1 (As := [.int x90, .int (0 : Int32), .int (3 : Int32)]) (rest := []) E I hl.1 k5_61 (c5_within rfl) rfl rfl (Nat.le_of_ble_eq_true rfl) ⟨Nat.le_of_ble_eq_true rfl, Nat.le_of_ble_eq_true rfl⟩ ⟨Nat.zero_le _, Nat.zero_le _⟩ dX5_isVariable_3 (fun H locs I => ?_)
  cases h
  exact K _ _ _ _ I dX5_isVariable_6 (z5_within _ _ _)
set_option maxHeartbeats 4000000 in
set_option maxRecDepth 100000 in
theorem c5_factorsOf {l : Launch} {D : va_G} {g : Nat → ClassId} {a : Nat → Nat} {st : MS} {x91 : Int32} {o : Int32} (h : f5_factorsOf st x91 = some o) : ct l yX5_factorsOf cX5_factorsOf 4 (some .int) (rmk 1 22) D g (mW g a st) (mW g a st) [.ref (a 0), .int x91] (some (.int o)) := by
  refine ct_of ⟨rfl, rfl⟩ (by decide) (Nat.le_of_ble_eq_true rfl) ?_
  intro p e s m args below meth c ls Q A H0 H locs E I hl K
  have E : en p m c cX5_factorsOf 4 s args RX5 D g := E
  have hx := E.1.1
  have hb := E.1.2.1
  have hl : lv_has ls 4 [(0, .ref (a 0)), (1, .int x91)] := hl
  have K : ∀ (pc : Nat) (ls : Array Slot) (H : Heap) (locs : List Loc), wk D (mW g a st) A H0 H locs → decode cX5_factorsOf pc = .ok (.ireturn, 1) → W p l e (rmk 1 22) s m args below meth c H locs 0 0 Q (F0 m pc ls [.int o]) := fun pc ls H locs I hd => K pc ls H locs I hd
  have h : ((bi1 (wh (f5_factorsOf_b4 st x91) FU ((0 : Int32), (0 : Int32))) fun w13 => some w13) : Option Int32) = some o := h
  refine lv_iconst (v := (0 : Int32)) hx hb dX5_factorsOf_0 (by decide) ?_
  refine lv_istore_n (lv' := [(2, .int (0 : Int32)), (0, .ref (a 0)), (1, .int x91)]) hx hb dX5_factorsOf_1 rfl hl (by decide) rfl (fun ls hl => ?_)
  refine lv_iconst (v := (0 : Int32)) hx hb dX5_factorsOf_2 (by decide) ?_
  refine lv_istore_n (lv' := [(3, .int (0 : Int32)), (2, .int (0 : Int32)), (0, .ref (a 0)), (1, .int x91)]) hx hb dX5_factorsOf_3 rfl hl (by decide) rfl (fun ls hl => ?_)
  obtain ⟨z10, hw11, h⟩ := bx1 h
  refine wh_W (P := fun (z : Int32 × Int32) => ∀ (H : Heap) (locs : List Loc) (ls : Array Slot), wk D (mW g a st) A H0 H locs → lv_has ls 4 [(0, .ref (a 0)), (1, .int x91), (2, .int z.1), (3, .int z.2)] → W p l e (rmk 1 22) s m args below meth c H locs 0 0 Q (F0 m 4 ls [])) (X := fun (z : Int32) => ∀ (H : Heap) (locs : List Loc) (ls : Array Slot), wk D (mW g a st) A H0 H locs → lv_has ls 4 [(2, .int z)] → W p l e (rmk 1 22) s m args below meth c H locs 0 0 Q (F0 m 25 ls [])) ?_ FU _ _ hw11 ?_ _ _ _ I (lv_sub hl [2, 3, 1, 0] rfl)
  · intro z o5 h hk6 H locs ls I hl
    obtain ⟨x3, x4⟩ := z
    have h : ((if (8 : Int32) ≤ x4 then some (.inr x3) else (bi1 (f5_of st x91 x4) fun r9 => some (.inl ((x3 + r9), (x4 + 1))))) : Option ((Int32 × Int32) ⊕ (Int32))) = some o5 := h
    have I : wk D (mW g a st) A H0 H locs := I
    have hl : lv_has ls 4 [(0, .ref (a 0)), (1, .int x91), (2, .int x3), (3, .int x4)] := hl
    refine lv_iload_n hx hb dX5_factorsOf_4 rfl (lv_at hl 3 rfl) ?_
    refine lv_bipush (v := (8 : Int32)) hx hb dX5_factorsOf_5 (by decide) ?_
    refine lv_icmp_ge (tgt := 25) hx hb dX5_factorsOf_7 (by decide) (fun hc7 => ?_) (fun hc7 => ?_)
    · have h := ifp hc7 h
      cases h
      exact hk6 _ _ _ I (lv_sub hl [2] rfl)
    · have h := ifn hc7 h
      refine lv_iload_n hx hb dX5_factorsOf_10 rfl (lv_at hl 2 rfl) ?_
      refine lv_aload_n hx hb dX5_factorsOf_11 rfl (lv_at hl 0 rfl) ?_
      refine lv_iload_n hx hb dX5_factorsOf_12 rfl (lv_at hl 1 rfl) ?_
      refine lv_iload_n hx hb dX5_factorsOf_13 rfl (lv_at hl 3 rfl) ?_
      obtain ⟨r9, hc8, h⟩ := bx1 h
      refine r_callV1 (As := [.int x91, .int x4]) (rest := [.int x3]) (ws' := (mW g a st)) (q0 := 0) E I hl.1 k5_57 (c5_of hc8) mW_k rfl rfl rfl rfl (Nat.le_of_ble_eq_true rfl) ⟨Nat.le_of_ble_eq_true rfl, Nat.le_of_ble_eq_true rfl⟩ ⟨Nat.zero_le _, Nat.zero_le _⟩ dX5_factorsOf_14 (fun H locs I => ?_)
      refine lv_iadd hx hb dX5_factorsOf_17 ?_
      refine lv_istore_n (lv' := [(2, .int (x3 + r9)), (0, .ref (a 0)), (1, .int x91), (3, .int x4)]) hx hb dX5_factorsOf_18 rfl hl (by decide) rfl (fun ls hl => ?_)
      refine lv_iinc (v := (x4 + 1)) (lv' := [(3, .int (x4 + 1)), (2, .int (x3 + r9)), (0, .ref (a 0)), (1, .int x91)]) hx hb dX5_factorsOf_19 hl (k := 3) rfl rfl (by decide) rfl (fun ls hl => ?_)
      refine lv_goto (tgt := 4) hx hb dX5_factorsOf_22 (by decide) ?_
      cases h
      exact hk6 _ _ _ I (lv_sub hl [2, 3, 1, 0] rfl)
  · obtain ⟨x12, rfl⟩ : ∃ y, y = z10 := ⟨_, rfl⟩
    intro H locs ls I hl
    have h : (some x12 : Option Int32) = some o := h
    have I : wk D (mW g a st) A H0 H locs := I
    have hl : lv_has ls 4 [(2, .int x12)] := hl
    refine lv_iload_n hx hb dX5_factorsOf_25 rfl (lv_at hl 0 rfl) ?_
    cases h
    exact K _ _ _ _ I dX5_factorsOf_26
set_option maxHeartbeats 4000000 in
set_option maxRecDepth 100000 in
theorem c5_restOf {l : Launch} {D : va_G} {g : Nat → ClassId} {a : Nat → Nat} {st : MS} {x91 : Int32} {o : Int32} (h : f5_restOf st x91 = some o) : ct l yX5_restOf cX5_restOf 2 (some .int) (rmk 1 22) D g (mW g a st) (mW g a st) [.ref (a 0), .int x91] (some (.int o)) := by
  refine ct_of ⟨rfl, rfl⟩ (by decide) (Nat.le_of_ble_eq_true rfl) ?_
  intro p e s m args below meth c ls Q A H0 H locs E I hl K
  have E : en p m c cX5_restOf 2 s args RX5 D g := E
  have hx := E.1.1
  have hb := E.1.2.1
  have hl : lv_has ls 2 [(0, .ref (a 0)), (1, .int x91)] := hl
  have K : ∀ (pc : Nat) (ls : Array Slot) (H : Heap) (locs : List Loc), wk D (mW g a st) A H0 H locs → decode cX5_restOf pc = .ok (.ireturn, 1) → W p l e (rmk 1 22) s m args below meth c H locs 0 0 Q (F0 m pc ls [.int o]) := fun pc ls H locs I hd => K pc ls H locs I hd
  have h : ((bi1 (f5_of st (2 : Int32) x91) fun r2 => (bi1 (f5_of st (0 : Int32) x91) fun r4 => some (r2 - r4))) : Option Int32) = some o := h
  refine lv_aload_n hx hb dX5_restOf_0 rfl (lv_at hl 0 rfl) ?_
  refine lv_iconst (v := (2 : Int32)) hx hb dX5_restOf_1 (by decide) ?_
  refine lv_iload_n hx hb dX5_restOf_2 rfl (lv_at hl 1 rfl) ?_
  obtain ⟨r2, hc1, h⟩ := bx1 h
  refine r_callV1 (As := [.int (2 : Int32), .int x91]) (rest := []) (ws' := (mW g a st)) (q0 := 0) E I hl.1 k5_57 (c5_of hc1) mW_k rfl rfl rfl rfl (Nat.le_of_ble_eq_true rfl) ⟨Nat.le_of_ble_eq_true rfl, Nat.le_of_ble_eq_true rfl⟩ ⟨Nat.zero_le _, Nat.zero_le _⟩ dX5_restOf_3 (fun H locs I => ?_)
  refine lv_aload_n hx hb dX5_restOf_6 rfl (lv_at hl 0 rfl) ?_
  refine lv_iconst (v := (0 : Int32)) hx hb dX5_restOf_7 (by decide) ?_
  refine lv_iload_n hx hb dX5_restOf_8 rfl (lv_at hl 1 rfl) ?_
  obtain ⟨r4, hc3, h⟩ := bx1 h
  refine r_callV1 (As := [.int (0 : Int32), .int x91]) (rest := [.int r2]) (ws' := (mW g a st)) (q0 := 0) E I hl.1 k5_57 (c5_of hc3) mW_k rfl rfl rfl rfl (Nat.le_of_ble_eq_true rfl) ⟨Nat.le_of_ble_eq_true rfl, Nat.le_of_ble_eq_true rfl⟩ ⟨Nat.zero_le _, Nat.zero_le _⟩ dX5_restOf_9 (fun H locs I => ?_)
  refine lv_isub hx hb dX5_restOf_12 ?_
  cases h
  exact K _ _ _ _ I dX5_restOf_13
set_option maxHeartbeats 4000000 in
set_option maxRecDepth 100000 in
theorem c5_greatest {l : Launch} {D : va_G} {g : Nat → ClassId} {a : Nat → Nat} {st : MS} {x91 : Int32} {x92 : Int32} {o : Int32} (h : f5_greatest st x91 x92 = some o) : ct l yX5_greatest cX5_greatest 5 (some .int) (rmk 2 44) D g (mW g a st) (mW g a st) [.ref (a 0), .int x91, .int x92] (some (.int o)) := by
  refine ct_of ⟨rfl, rfl⟩ (by decide) (Nat.le_of_ble_eq_true rfl) ?_
  intro p e s m args below meth c ls Q A H0 H locs E I hl K
  have E : en p m c cX5_greatest 5 s args RX5 D g := E
  have hx := E.1.1
  have hb := E.1.2.1
  have hl : lv_has ls 5 [(0, .ref (a 0)), (1, .int x91), (2, .int x92)] := hl
  have K : ∀ (pc : Nat) (ls : Array Slot) (H : Heap) (locs : List Loc), wk D (mW g a st) A H0 H locs → decode cX5_greatest pc = .ok (.ireturn, 1) → W p l e (rmk 2 44) s m args below meth c H locs 0 0 Q (F0 m pc ls [.int o]) := fun pc ls H locs I hd => K pc ls H locs I hd
  have h : ((bi1 (f5_variableOf st (0 : Int32) x91) fun r2 => (if r2 = 0 then f5_greatest_j18 st (0 : Int32) else (if r2 = 0 then none else f5_greatest_j18 st (x92 / r2)))) : Option Int32) = some o := h
  refine lv_aload_n hx hb dX5_greatest_0 rfl (lv_at hl 0 rfl) ?_
  refine lv_iconst (v := (0 : Int32)) hx hb dX5_greatest_1 (by decide) ?_
  refine lv_iload_n hx hb dX5_greatest_2 rfl (lv_at hl 1 rfl) ?_
  obtain ⟨r2, hc1, h⟩ := bx1 h
  refine r_callV1 (As := [.int (0 : Int32), .int x91]) (rest := []) (ws' := (mW g a st)) (q0 := 0) E I hl.1 k5_65 (c5_variableOf hc1) mW_k rfl rfl rfl rfl (Nat.le_of_ble_eq_true rfl) ⟨Nat.le_of_ble_eq_true rfl, Nat.le_of_ble_eq_true rfl⟩ ⟨Nat.zero_le _, Nat.zero_le _⟩ dX5_greatest_3 (fun H locs I => ?_)
  refine lv_istore_n (lv' := [(3, .int r2), (0, .ref (a 0)), (1, .int x91), (2, .int x92)]) hx hb dX5_greatest_6 rfl hl (by decide) rfl (fun ls hl => ?_)
  refine lv_iload_n hx hb dX5_greatest_7 rfl (lv_at hl 0 rfl) ?_
  have J3 : ∀ (y4 : Int32), f5_greatest_j18 st y4 = some o → ∀ (H : Heap) (locs : List Loc) (ls : Array Slot), wk D (mW g a st) A H0 H locs → lv_has ls 5 [(0, .ref (a 0))] → W p l e (rmk 2 44) s m args below meth c H locs 0 0 Q (F0 m 18 ls [.int y4]) := by
    intro y4 h H locs ls I hl
    have h : ((if y4 ≤ ((m_z st) (25 : Int32).toNatClampNeg) then some y4 else some ((m_z st) (25 : Int32).toNatClampNeg)) : Option Int32) = some o := h
    refine lv_istore (lv' := [(4, .int y4), (0, .ref (a 0))]) hx hb dX5_greatest_18 hl (by decide) rfl (fun ls hl => ?_)
    refine lv_iload hx hb dX5_greatest_20 (lv_at hl 0 rfl) ?_
    refine lv_aload_n hx hb dX5_greatest_22 rfl (lv_at hl 1 rfl) ?_
    refine g5_7 E I dX5_greatest_23 ?_
    refine lv_bipush (v := (25 : Int32)) hx hb dX5_greatest_26 (by decide) ?_
    refine m_ld1 E I (f := (m_z st)) rfl (by decide) dX5_greatest_28 ?_
    refine lv_icmp_le (tgt := 42) hx hb dX5_greatest_29 (by decide) (fun hc5 => ?_) (fun hc5 => ?_)
    · have h := ifp hc5 h
      refine lv_iload hx hb dX5_greatest_42 (lv_at hl 0 rfl) ?_
      cases h
      exact K _ _ _ _ I dX5_greatest_44
    · have h := ifn hc5 h
      refine lv_aload_n hx hb dX5_greatest_32 rfl (lv_at hl 1 rfl) ?_
      refine g5_7 E I dX5_greatest_33 ?_
      refine lv_bipush (v := (25 : Int32)) hx hb dX5_greatest_36 (by decide) ?_
      refine m_ld1 E I (f := (m_z st)) rfl (by decide) dX5_greatest_38 ?_
      refine lv_goto (tgt := 44) hx hb dX5_greatest_39 (by decide) ?_
      cases h
      exact K _ _ _ _ I dX5_greatest_44
  refine lv_if_ne (tgt := 15) hx hb dX5_greatest_8 (by decide) (fun hc6 => ?_) (fun hc6 => ?_)
  · have h := ifn hc6 h
    refine lv_iload_n hx hb dX5_greatest_15 rfl (lv_at hl 3 rfl) ?_
    refine lv_iload_n hx hb dX5_greatest_16 rfl (lv_at hl 0 rfl) ?_
    obtain ⟨hz7, h⟩ := gz h
    refine lv_idiv hx hb dX5_greatest_17 hz7 ?_
    exact J3 _ h _ _ _ I (lv_sub hl [1] rfl)
  · have h := ifp hc6 h
    refine lv_iconst (v := (0 : Int32)) hx hb dX5_greatest_11 (by decide) ?_
    refine lv_goto (tgt := 18) hx hb dX5_greatest_12 (by decide) ?_
    exact J3 _ h _ _ _ I (lv_sub hl [1] rfl)
set_option maxHeartbeats 4000000 in
set_option maxRecDepth 100000 in
theorem c5_listOne {l : Launch} {D : va_G} {g : Nat → ClassId} {a : Nat → Nat} {st : MS} {x91 : Int32} {x92 : Int32} {x93 : Int32} {x94 : Int32} {x95 : Int32} {o : MS} (h : f5_listOne st x91 x92 x93 x94 x95 = some o) : ct l yX5_listOne cX5_listOne 9 none (rmk 2 44) D g (mW g a st) (mW g a o) [.ref (a 0), .int x91, .int x92, .int x93, .int x94, .int x95] none := by
  refine ct_of ⟨rfl, rfl⟩ (by decide) (Nat.le_of_ble_eq_true rfl) ?_
  intro p e s m args below meth c ls Q A H0 H locs E I hl K
  have E : en p m c cX5_listOne 9 s args RX5 D g := E
  have hx := E.1.1
  have hb := E.1.2.1
  have hl : lv_has ls 9 [(0, .ref (a 0)), (1, .int x91), (2, .int x92), (3, .int x93), (4, .int x94), (5, .int x95)] := hl
  have K : ∀ (pc : Nat) (ls : Array Slot) (H : Heap) (locs : List Loc), wk D (mW g a o) A H0 H locs → decode cX5_listOne pc = .ok (.return_, 1) → W p l e (rmk 2 44) s m args below meth c H locs 0 0 Q (F0 m pc ls []) := fun pc ls H locs I hd => K pc ls H locs I hd
  have h : ((bi1 (f5_variableOf st (0 : Int32) (3 : Int32)) fun r2 => (if r2 = 0 then f5_listOne_j22 st x91 x92 x93 x94 x95 r2 (0 : Int32) else (if r2 = 0 then none else f5_listOne_j22 st x91 x92 x93 x94 x95 r2 (x95 / r2)))) : Option MS) = some o := h
  refine lv_aload_n hx hb dX5_listOne_0 rfl (lv_at hl 0 rfl) ?_
  refine lv_iconst (v := (0 : Int32)) hx hb dX5_listOne_1 (by decide) ?_
  refine lv_iconst (v := (3 : Int32)) hx hb dX5_listOne_2 (by decide) ?_
  obtain ⟨r2, hc1, h⟩ := bx1 h
  refine r_callV1 (As := [.int (0 : Int32), .int (3 : Int32)]) (rest := []) (ws' := (mW g a st)) (q0 := 0) E I hl.1 k5_65 (c5_variableOf hc1) mW_k rfl rfl rfl rfl (Nat.le_of_ble_eq_true rfl) ⟨Nat.le_of_ble_eq_true rfl, Nat.le_of_ble_eq_true rfl⟩ ⟨Nat.zero_le _, Nat.zero_le _⟩ dX5_listOne_3 (fun H locs I => ?_)
  refine lv_istore (lv' := [(6, .int r2), (0, .ref (a 0)), (1, .int x91), (2, .int x92), (3, .int x93), (4, .int x94), (5, .int x95)]) hx hb dX5_listOne_6 hl (by decide) rfl (fun ls hl => ?_)
  refine lv_iload hx hb dX5_listOne_8 (lv_at hl 0 rfl) ?_
  have J3 : ∀ (st4 : MS) (x5 : Int32) (x6 : Int32) (x7 : Int32) (x8 : Int32) (x9 : Int32) (x10 : Int32) (y11 : Int32), f5_listOne_j22 st4 x5 x6 x7 x8 x9 x10 y11 = some o → ∀ (H : Heap) (locs : List Loc) (ls : Array Slot), wk D (mW g a st4) A H0 H locs → lv_has ls 9 [(0, .ref (a 0)), (1, .int x5), (2, .int x6), (3, .int x7), (4, .int x8), (5, .int x9), (6, .int x10)] → W p l e (rmk 2 44) s m args below meth c H locs 0 0 Q (F0 m 22 ls [.int y11]) := by
    intro st4 x5 x6 x7 x8 x9 x10 y11 h H locs ls I hl
    have h : ((if (y11 * x10) = x9 then (if y11 ≤ ((m_z st4) (25 : Int32).toNatClampNeg) then (lq ((((if x6 ≤ 0 then (0 : Int32) else (1 : Int32)) + (if x7 ≤ 0 then (0 : Int32) else (2 : Int32))) + (if x8 ≤ 0 then (0 : Int32) else (4 : Int32))) + (if y11 ≤ 0 then (0 : Int32) else (8 : Int32))) fun x26 => (if ib x5 4 = true then (if ib (((700 : Int32) * x5) + ((m_many st4) x5.toNatClampNeg)) 2800 = true then (if ib x5 4 = true then (if ib x5 4 = true then (if ib (((16 : Int32) * x5) + x26) 64 = true then (if ib (((16 : Int32) * x5) + x26) 64 = true then some (m_bySupport_s (m_many_s (m_listed_s st4 (upd (m_listed st4) (((700 : Int32) * x5) + ((m_many st4) x5.toNatClampNeg)).toNatClampNeg (((((1000 : Int32) * x6) + ((100 : Int32) * x7)) + ((10 : Int32) * x8)) + y11))) (upd (m_many st4) x5.toNatClampNeg (((m_many st4) x5.toNatClampNeg) + (1 : Int32)))) (upd (m_bySupport st4) (((16 : Int32) * x5) + x26).toNatClampNeg (((m_bySupport st4) (((16 : Int32) * x5) + x26).toNatClampNeg) + (1 : Int32)))) else none) else none) else none) else none) else none) else none)) else some st4) else some st4) : Option MS) = some o := h
    refine lv_istore (lv' := [(7, .int y11), (0, .ref (a 0)), (1, .int x5), (2, .int x6), (3, .int x7), (4, .int x8), (5, .int x9), (6, .int x10)]) hx hb dX5_listOne_22 hl (by decide) rfl (fun ls hl => ?_)
    refine lv_iload hx hb dX5_listOne_24 (lv_at hl 0 rfl) ?_
    refine lv_iload hx hb dX5_listOne_26 (lv_at hl 7 rfl) ?_
    refine lv_imul hx hb dX5_listOne_28 ?_
    refine lv_iload hx hb dX5_listOne_29 (lv_at hl 6 rfl) ?_
    refine lv_icmp_ne (tgt := 46) hx hb dX5_listOne_31 (by decide) (fun hc12 => ?_) (fun hc12 => ?_)
    · have h := ifn hc12 h
      cases h
      exact K _ _ _ _ I dX5_listOne_46
    · have h := ifp hc12 h
      refine lv_iload hx hb dX5_listOne_34 (lv_at hl 0 rfl) ?_
      refine lv_aload_n hx hb dX5_listOne_36 rfl (lv_at hl 1 rfl) ?_
      refine g5_7 E I dX5_listOne_37 ?_
      refine lv_bipush (v := (25 : Int32)) hx hb dX5_listOne_40 (by decide) ?_
      refine m_ld1 E I (f := (m_z st4)) rfl (by decide) dX5_listOne_42 ?_
      refine lv_icmp_le (tgt := 47) hx hb dX5_listOne_43 (by decide) (fun hc13 => ?_) (fun hc13 => ?_)
      · have h := ifp hc13 h
        refine lv_iload_n hx hb dX5_listOne_47 rfl (lv_at hl 3 rfl) ?_
        have J15 : ∀ (v14 : Int32) (H : Heap) (locs : List Loc), v14 = (if x6 ≤ 0 then (0 : Int32) else (1 : Int32)) → wk D (mW g a st4) A H0 H locs → W p l e (rmk 2 44) s m args below meth c H locs 0 0 Q (F0 m 56 ls [.int v14]) := by
          intro v14 H locs hv16 I
          subst hv16
          refine lv_iload_n hx hb dX5_listOne_56 rfl (lv_at hl 4 rfl) ?_
          have J18 : ∀ (v17 : Int32) (H : Heap) (locs : List Loc), v17 = (if x7 ≤ 0 then (0 : Int32) else (2 : Int32)) → wk D (mW g a st4) A H0 H locs → W p l e (rmk 2 44) s m args below meth c H locs 0 0 Q (F0 m 65 ls [.int v17, .int (if x6 ≤ 0 then (0 : Int32) else (1 : Int32))]) := by
            intro v17 H locs hv19 I
            subst hv19
            refine lv_iadd hx hb dX5_listOne_65 ?_
            refine lv_iload hx hb dX5_listOne_66 (lv_at hl 5 rfl) ?_
            have J21 : ∀ (v20 : Int32) (H : Heap) (locs : List Loc), v20 = (if x8 ≤ 0 then (0 : Int32) else (4 : Int32)) → wk D (mW g a st4) A H0 H locs → W p l e (rmk 2 44) s m args below meth c H locs 0 0 Q (F0 m 76 ls [.int v20, .int ((if x6 ≤ 0 then (0 : Int32) else (1 : Int32)) + (if x7 ≤ 0 then (0 : Int32) else (2 : Int32)))]) := by
              intro v20 H locs hv22 I
              subst hv22
              refine lv_iadd hx hb dX5_listOne_76 ?_
              refine lv_iload hx hb dX5_listOne_77 (lv_at hl 0 rfl) ?_
              have J24 : ∀ (v23 : Int32) (H : Heap) (locs : List Loc), v23 = (if y11 ≤ 0 then (0 : Int32) else (8 : Int32)) → wk D (mW g a st4) A H0 H locs → W p l e (rmk 2 44) s m args below meth c H locs 0 0 Q (F0 m 88 ls [.int v23, .int (((if x6 ≤ 0 then (0 : Int32) else (1 : Int32)) + (if x7 ≤ 0 then (0 : Int32) else (2 : Int32))) + (if x8 ≤ 0 then (0 : Int32) else (4 : Int32)))]) := by
                intro v23 H locs hv25 I
                subst hv25
                refine lv_iadd hx hb dX5_listOne_88 ?_
                obtain ⟨x26, hx27, h⟩ := lqx h
                refine lv_istore (x := ((((if x6 ≤ 0 then (0 : Int32) else (1 : Int32)) + (if x7 ≤ 0 then (0 : Int32) else (2 : Int32))) + (if x8 ≤ 0 then (0 : Int32) else (4 : Int32))) + (if y11 ≤ 0 then (0 : Int32) else (8 : Int32)))) (lv' := [(8, .int x26), (7, .int y11), (0, .ref (a 0)), (1, .int x5), (2, .int x6), (3, .int x7), (4, .int x8), (5, .int x9), (6, .int x10)]) hx hb dX5_listOne_89 hl (by decide) (by subst hx27; rfl) (fun ls hl => ?_)
                refine lv_aload_n hx hb dX5_listOne_91 rfl (lv_at hl 2 rfl) ?_
                refine g5_25 E I dX5_listOne_92 ?_
                refine lv_sipush (v := (700 : Int32)) hx hb dX5_listOne_95 (by decide) ?_
                refine lv_iload_n hx hb dX5_listOne_98 rfl (lv_at hl 3 rfl) ?_
                refine lv_imul hx hb dX5_listOne_99 ?_
                refine lv_aload_n hx hb dX5_listOne_100 rfl (lv_at hl 2 rfl) ?_
                refine g5_28 E I dX5_listOne_101 ?_
                refine lv_iload_n hx hb dX5_listOne_104 rfl (lv_at hl 3 rfl) ?_
                obtain ⟨hc28, h⟩ := gd h
                refine m_ld7 E I (f := (m_many st4)) rfl hc28 dX5_listOne_105 ?_
                refine lv_iadd hx hb dX5_listOne_106 ?_
                refine lv_sipush (v := (1000 : Int32)) hx hb dX5_listOne_107 (by decide) ?_
                refine lv_iload_n hx hb dX5_listOne_110 rfl (lv_at hl 4 rfl) ?_
                refine lv_imul hx hb dX5_listOne_111 ?_
                refine lv_bipush (v := (100 : Int32)) hx hb dX5_listOne_112 (by decide) ?_
                refine lv_iload_n hx hb dX5_listOne_114 rfl (lv_at hl 5 rfl) ?_
                refine lv_imul hx hb dX5_listOne_115 ?_
                refine lv_iadd hx hb dX5_listOne_116 ?_
                refine lv_bipush (v := (10 : Int32)) hx hb dX5_listOne_117 (by decide) ?_
                refine lv_iload hx hb dX5_listOne_119 (lv_at hl 6 rfl) ?_
                refine lv_imul hx hb dX5_listOne_121 ?_
                refine lv_iadd hx hb dX5_listOne_122 ?_
                refine lv_iload hx hb dX5_listOne_123 (lv_at hl 1 rfl) ?_
                refine lv_iadd hx hb dX5_listOne_125 ?_
                obtain ⟨hc29, h⟩ := gd h
                refine m_st6 E I (f := (m_listed st4)) rfl hc29 dX5_listOne_126 (fun H locs I => ?_)
                refine lv_aload_n hx hb dX5_listOne_127 rfl (lv_at hl 2 rfl) ?_
                refine g5_28 E I dX5_listOne_128 ?_
                refine lv_iload_n hx hb dX5_listOne_131 rfl (lv_at hl 3 rfl) ?_
                refine lv_dup2_11 hx hb dX5_listOne_132 rfl rfl ?_
                obtain ⟨hc30, h⟩ := gd h
                refine m_ld7 E I (f := (m_many st4)) rfl hc30 dX5_listOne_133 ?_
                refine lv_iconst (v := (1 : Int32)) hx hb dX5_listOne_134 (by decide) ?_
                refine lv_iadd hx hb dX5_listOne_135 ?_
                obtain ⟨hc31, h⟩ := gd h
                refine m_st7 E I (f := (m_many st4)) rfl hc31 dX5_listOne_136 (fun H locs I => ?_)
                refine lv_aload_n hx hb dX5_listOne_137 rfl (lv_at hl 2 rfl) ?_
                refine g5_31 E I dX5_listOne_138 ?_
                refine lv_bipush (v := (16 : Int32)) hx hb dX5_listOne_141 (by decide) ?_
                refine lv_iload_n hx hb dX5_listOne_143 rfl (lv_at hl 3 rfl) ?_
                refine lv_imul hx hb dX5_listOne_144 ?_
                refine lv_iload hx hb dX5_listOne_145 (lv_at hl 0 rfl) ?_
                refine lv_iadd hx hb dX5_listOne_147 ?_
                refine lv_dup2_11 hx hb dX5_listOne_148 rfl rfl ?_
                obtain ⟨hc32, h⟩ := gd h
                refine m_ld8 E I (f := (m_bySupport st4)) rfl hc32 dX5_listOne_149 ?_
                refine lv_iconst (v := (1 : Int32)) hx hb dX5_listOne_150 (by decide) ?_
                refine lv_iadd hx hb dX5_listOne_151 ?_
                obtain ⟨hc33, h⟩ := gd h
                refine m_st8 E I (f := (m_bySupport st4)) rfl hc33 dX5_listOne_152 (fun H locs I => ?_)
                cases h
                exact K _ _ _ _ I dX5_listOne_153
              refine lv_if_le (tgt := 87) hx hb dX5_listOne_79 (by decide) (fun hc34 => ?_) (fun hc34 => ?_)
              · refine lv_iconst (v := (0 : Int32)) hx hb dX5_listOne_87 (by decide) ?_
                exact J24 _ _ _ (by rw [if_pos hc34]) I
              · refine lv_bipush (v := (8 : Int32)) hx hb dX5_listOne_82 (by decide) ?_
                refine lv_goto (tgt := 88) hx hb dX5_listOne_84 (by decide) ?_
                exact J24 _ _ _ (by rw [if_neg hc34]) I
            refine lv_if_le (tgt := 75) hx hb dX5_listOne_68 (by decide) (fun hc35 => ?_) (fun hc35 => ?_)
            · refine lv_iconst (v := (0 : Int32)) hx hb dX5_listOne_75 (by decide) ?_
              exact J21 _ _ _ (by rw [if_pos hc35]) I
            · refine lv_iconst (v := (4 : Int32)) hx hb dX5_listOne_71 (by decide) ?_
              refine lv_goto (tgt := 76) hx hb dX5_listOne_72 (by decide) ?_
              exact J21 _ _ _ (by rw [if_neg hc35]) I
          refine lv_if_le (tgt := 64) hx hb dX5_listOne_57 (by decide) (fun hc36 => ?_) (fun hc36 => ?_)
          · refine lv_iconst (v := (0 : Int32)) hx hb dX5_listOne_64 (by decide) ?_
            exact J18 _ _ _ (by rw [if_pos hc36]) I
          · refine lv_iconst (v := (2 : Int32)) hx hb dX5_listOne_60 (by decide) ?_
            refine lv_goto (tgt := 65) hx hb dX5_listOne_61 (by decide) ?_
            exact J18 _ _ _ (by rw [if_neg hc36]) I
        refine lv_if_le (tgt := 55) hx hb dX5_listOne_48 (by decide) (fun hc37 => ?_) (fun hc37 => ?_)
        · refine lv_iconst (v := (0 : Int32)) hx hb dX5_listOne_55 (by decide) ?_
          exact J15 _ _ _ (by rw [if_pos hc37]) I
        · refine lv_iconst (v := (1 : Int32)) hx hb dX5_listOne_51 (by decide) ?_
          refine lv_goto (tgt := 56) hx hb dX5_listOne_52 (by decide) ?_
          exact J15 _ _ _ (by rw [if_neg hc37]) I
      · have h := ifn hc13 h
        cases h
        exact K _ _ _ _ I dX5_listOne_46
  refine lv_if_ne (tgt := 17) hx hb dX5_listOne_10 (by decide) (fun hc38 => ?_) (fun hc38 => ?_)
  · have h := ifn hc38 h
    refine lv_iload hx hb dX5_listOne_17 (lv_at hl 6 rfl) ?_
    refine lv_iload hx hb dX5_listOne_19 (lv_at hl 0 rfl) ?_
    obtain ⟨hz39, h⟩ := gz h
    refine lv_idiv hx hb dX5_listOne_21 hz39 ?_
    exact J3 _ _ _ _ _ _ _ _ h _ _ _ I (lv_sub hl [1, 2, 3, 4, 5, 6, 0] rfl)
  · have h := ifp hc38 h
    refine lv_iconst (v := (0 : Int32)) hx hb dX5_listOne_13 (by decide) ?_
    refine lv_goto (tgt := 22) hx hb dX5_listOne_14 (by decide) ?_
    exact J3 _ _ _ _ _ _ _ _ h _ _ _ I (lv_sub hl [1, 2, 3, 4, 5, 6, 0] rfl)
set_option maxHeartbeats 4000000 in
set_option maxRecDepth 100000 in
theorem c5_list {l : Launch} {D : va_G} {g : Nat → ClassId} {a : Nat → Nat} {st : MS} {x91 : Int32} {x92 : Int32} {o : MS} (h : f5_list st x91 x92 = some o) : ct l yX5_list cX5_list 8 none (rmk 3 72) D g (mW g a st) (mW g a o) [.ref (a 0), .int x91, .int x92] none := by
  refine ct_of ⟨rfl, rfl⟩ (by decide) (Nat.le_of_ble_eq_true rfl) ?_
  intro p e s m args below meth c ls Q A H0 H locs E I hl K
  have E : en p m c cX5_list 8 s args RX5 D g := E
  have hx := E.1.1
  have hb := E.1.2.1
  have hl : lv_has ls 8 [(0, .ref (a 0)), (1, .int x91), (2, .int x92)] := hl
  have K : ∀ (pc : Nat) (ls : Array Slot) (H : Heap) (locs : List Loc), wk D (mW g a o) A H0 H locs → decode cX5_list pc = .ok (.return_, 1) → W p l e (rmk 3 72) s m args below meth c H locs 0 0 Q (F0 m pc ls []) := fun pc ls H locs I hd => K pc ls H locs I hd
  have h : ((if ib x91 4 = true then (bi1 (wh (f5_list_b9 x91 x92) FU ((m_many_s st (upd (m_many st) x91.toNatClampNeg (0 : Int32))), (0 : Int32))) fun w67 => (bi1 (wh (f5_list_b35 x91 x92) FU (w67, (0 : Int32))) fun w66 => some w66)) else none) : Option MS) = some o := h
  refine lv_aload_n hx hb dX5_list_0 rfl (lv_at hl 0 rfl) ?_
  refine g5_28 E I dX5_list_1 ?_
  refine lv_iload_n hx hb dX5_list_4 rfl (lv_at hl 1 rfl) ?_
  refine lv_iconst (v := (0 : Int32)) hx hb dX5_list_5 (by decide) ?_
  obtain ⟨hc1, h⟩ := gd h
  refine m_st7 E I (f := (m_many st)) rfl hc1 dX5_list_6 (fun H locs I => ?_)
  refine lv_iconst (v := (0 : Int32)) hx hb dX5_list_7 (by decide) ?_
  refine lv_istore_n (lv' := [(3, .int (0 : Int32)), (0, .ref (a 0)), (1, .int x91), (2, .int x92)]) hx hb dX5_list_8 rfl hl (by decide) rfl (fun ls hl => ?_)
  obtain ⟨z10, hw11, h⟩ := bx1 h
  refine wh_W (P := fun (z : MS × Int32) => ∀ (H : Heap) (locs : List Loc) (ls : Array Slot), wk D (mW g a z.1) A H0 H locs → lv_has ls 8 [(0, .ref (a 0)), (1, .int x91), (2, .int x92), (3, .int z.2)] → W p l e (rmk 3 72) s m args below meth c H locs 0 0 Q (F0 m 9 ls [])) (X := fun (z : MS) => ∀ (H : Heap) (locs : List Loc) (ls : Array Slot), wk D (mW g a z) A H0 H locs → lv_has ls 8 [(0, .ref (a 0)), (1, .int x91), (2, .int x92)] → W p l e (rmk 3 72) s m args below meth c H locs 0 0 Q (F0 m 33 ls [])) ?_ FU _ _ hw11 ?_ _ _ _ I (lv_sub hl [1, 2, 3, 0] rfl)
  · intro z o6 h hk7 H locs ls I hl
    obtain ⟨st2, x5⟩ := z
    have h : ((if (16 : Int32) ≤ x5 then some (.inr st2) else (if ib (((16 : Int32) * x91) + x5) 64 = true then some (.inl ((m_bySupport_s st2 (upd (m_bySupport st2) (((16 : Int32) * x91) + x5).toNatClampNeg (0 : Int32))), (x5 + 1))) else none)) : Option ((MS × Int32) ⊕ (MS))) = some o6 := h
    have I : wk D (mW g a st2) A H0 H locs := I
    have hl : lv_has ls 8 [(0, .ref (a 0)), (1, .int x91), (2, .int x92), (3, .int x5)] := hl
    refine lv_iload_n hx hb dX5_list_9 rfl (lv_at hl 3 rfl) ?_
    refine lv_bipush (v := (16 : Int32)) hx hb dX5_list_10 (by decide) ?_
    refine lv_icmp_ge (tgt := 33) hx hb dX5_list_12 (by decide) (fun hc8 => ?_) (fun hc8 => ?_)
    · have h := ifp hc8 h
      cases h
      exact hk7 _ _ _ I (lv_sub hl [0, 1, 2] rfl)
    · have h := ifn hc8 h
      refine lv_aload_n hx hb dX5_list_15 rfl (lv_at hl 0 rfl) ?_
      refine g5_31 E I dX5_list_16 ?_
      refine lv_bipush (v := (16 : Int32)) hx hb dX5_list_19 (by decide) ?_
      refine lv_iload_n hx hb dX5_list_21 rfl (lv_at hl 1 rfl) ?_
      refine lv_imul hx hb dX5_list_22 ?_
      refine lv_iload_n hx hb dX5_list_23 rfl (lv_at hl 3 rfl) ?_
      refine lv_iadd hx hb dX5_list_24 ?_
      refine lv_iconst (v := (0 : Int32)) hx hb dX5_list_25 (by decide) ?_
      obtain ⟨hc9, h⟩ := gd h
      refine m_st8 E I (f := (m_bySupport st2)) rfl hc9 dX5_list_26 (fun H locs I => ?_)
      refine lv_iinc (v := (x5 + 1)) (lv' := [(3, .int (x5 + 1)), (0, .ref (a 0)), (1, .int x91), (2, .int x92)]) hx hb dX5_list_27 hl (k := 3) rfl rfl (by decide) rfl (fun ls hl => ?_)
      refine lv_goto (tgt := 9) hx hb dX5_list_30 (by decide) ?_
      cases h
      exact hk7 _ _ _ I (lv_sub hl [1, 2, 3, 0] rfl)
  · obtain ⟨st12, rfl⟩ : ∃ y, y = z10 := ⟨_, rfl⟩
    intro H locs ls I hl
    have h : ((bi1 (wh (f5_list_b35 x91 x92) FU (st12, (0 : Int32))) fun w66 => some w66) : Option MS) = some o := h
    have I : wk D (mW g a st12) A H0 H locs := I
    have hl : lv_has ls 8 [(0, .ref (a 0)), (1, .int x91), (2, .int x92)] := hl
    refine lv_iconst (v := (0 : Int32)) hx hb dX5_list_33 (by decide) ?_
    refine lv_istore_n (lv' := [(3, .int (0 : Int32)), (0, .ref (a 0)), (1, .int x91), (2, .int x92)]) hx hb dX5_list_34 rfl hl (by decide) rfl (fun ls hl => ?_)
    obtain ⟨z63, hw64, h⟩ := bx1 h
    refine wh_W (P := fun (z : MS × Int32) => ∀ (H : Heap) (locs : List Loc) (ls : Array Slot), wk D (mW g a z.1) A H0 H locs → lv_has ls 8 [(0, .ref (a 0)), (1, .int x91), (2, .int x92), (3, .int z.2)] → W p l e (rmk 3 72) s m args below meth c H locs 0 0 Q (F0 m 35 ls [])) (X := fun (z : MS) => ∀ (H : Heap) (locs : List Loc) (ls : Array Slot), wk D (mW g a z) A H0 H locs → lv_has ls 8 [] → W p l e (rmk 3 72) s m args below meth c H locs 0 0 Q (F0 m 145 ls [])) ?_ FU _ _ hw64 ?_ _ _ _ I (lv_sub hl [1, 2, 3, 0] rfl)
    · intro z o17 h hk18 H locs ls I hl
      obtain ⟨st13, x16⟩ := z
      have h : ((if x92 < 0 then some (.inr st13) else (bi1 (f5_greatest st13 (0 : Int32) x92) fun r21 => (if r21 < x16 then some (.inr st13) else (bi1 (f5_variableOf st13 (0 : Int32) (0 : Int32)) fun r24 => (bi1 (wh (f5_list_b64 x91 x92 x16 (x92 - (x16 * r24))) FU (st13, (0 : Int32))) fun w62 => some (.inl (w62, (x16 + 1)))))))) : Option ((MS × Int32) ⊕ (MS))) = some o17 := h
      have I : wk D (mW g a st13) A H0 H locs := I
      have hl : lv_has ls 8 [(0, .ref (a 0)), (1, .int x91), (2, .int x92), (3, .int x16)] := hl
      refine lv_iload_n hx hb dX5_list_35 rfl (lv_at hl 2 rfl) ?_
      refine lv_if_lt (tgt := 145) hx hb dX5_list_36 (by decide) (fun hc19 => ?_) (fun hc19 => ?_)
      · have h := ifp hc19 h
        cases h
        exact hk18 _ _ _ I (lv_sub hl [] rfl)
      · have h := ifn hc19 h
        refine lv_iload_n hx hb dX5_list_39 rfl (lv_at hl 3 rfl) ?_
        refine lv_aload_n hx hb dX5_list_40 rfl (lv_at hl 0 rfl) ?_
        refine lv_iconst (v := (0 : Int32)) hx hb dX5_list_41 (by decide) ?_
        refine lv_iload_n hx hb dX5_list_42 rfl (lv_at hl 2 rfl) ?_
        obtain ⟨r21, hc20, h⟩ := bx1 h
        refine r_callV1 (As := [.int (0 : Int32), .int x92]) (rest := [.int x16]) (ws' := (mW g a st13)) (q0 := 0) E I hl.1 k5_68 (c5_greatest hc20) mW_k rfl rfl rfl rfl (Nat.le_of_ble_eq_true rfl) ⟨Nat.le_of_ble_eq_true rfl, Nat.le_of_ble_eq_true rfl⟩ ⟨Nat.zero_le _, Nat.zero_le _⟩ dX5_list_43 (fun H locs I => ?_)
        refine lv_icmp_gt (tgt := 145) hx hb dX5_list_46 (by decide) (fun hc22 => ?_) (fun hc22 => ?_)
        · have h := ifp hc22 h
          cases h
          exact hk18 _ _ _ I (lv_sub hl [] rfl)
        · have h := ifn hc22 h
          refine lv_iload_n hx hb dX5_list_49 rfl (lv_at hl 2 rfl) ?_
          refine lv_iload_n hx hb dX5_list_50 rfl (lv_at hl 3 rfl) ?_
          refine lv_aload_n hx hb dX5_list_51 rfl (lv_at hl 0 rfl) ?_
          refine lv_iconst (v := (0 : Int32)) hx hb dX5_list_52 (by decide) ?_
          refine lv_iconst (v := (0 : Int32)) hx hb dX5_list_53 (by decide) ?_
          obtain ⟨r24, hc23, h⟩ := bx1 h
          refine r_callV1 (As := [.int (0 : Int32), .int (0 : Int32)]) (rest := [.int x16, .int x92]) (ws' := (mW g a st13)) (q0 := 0) E I hl.1 k5_65 (c5_variableOf hc23) mW_k rfl rfl rfl rfl (Nat.le_of_ble_eq_true rfl) ⟨Nat.le_of_ble_eq_true rfl, Nat.le_of_ble_eq_true rfl⟩ ⟨Nat.zero_le _, Nat.zero_le _⟩ dX5_list_54 (fun H locs I => ?_)
          refine lv_imul hx hb dX5_list_57 ?_
          refine lv_isub hx hb dX5_list_58 ?_
          refine lv_istore (lv' := [(4, .int (x92 - (x16 * r24))), (0, .ref (a 0)), (1, .int x91), (2, .int x92), (3, .int x16)]) hx hb dX5_list_59 hl (by decide) rfl (fun ls hl => ?_)
          refine lv_iconst (v := (0 : Int32)) hx hb dX5_list_61 (by decide) ?_
          refine lv_istore (lv' := [(5, .int (0 : Int32)), (4, .int (x92 - (x16 * r24))), (0, .ref (a 0)), (1, .int x91), (2, .int x92), (3, .int x16)]) hx hb dX5_list_62 hl (by decide) rfl (fun ls hl => ?_)
          obtain ⟨z59, hw60, h⟩ := bx1 h
          refine wh_W (P := fun (z : MS × Int32) => ∀ (H : Heap) (locs : List Loc) (ls : Array Slot), wk D (mW g a z.1) A H0 H locs → lv_has ls 8 [(0, .ref (a 0)), (1, .int x91), (2, .int x92), (3, .int x16), (4, .int (x92 - (x16 * r24))), (5, .int z.2)] → W p l e (rmk 3 72) s m args below meth c H locs 0 0 Q (F0 m 64 ls [])) (X := fun (z : MS) => ∀ (H : Heap) (locs : List Loc) (ls : Array Slot), wk D (mW g a z) A H0 H locs → lv_has ls 8 [(0, .ref (a 0)), (1, .int x91), (2, .int x92), (3, .int x16)] → W p l e (rmk 3 72) s m args below meth c H locs 0 0 Q (F0 m 139 ls [])) ?_ FU _ _ hw60 ?_ _ _ _ I (lv_sub hl [2, 3, 4, 5, 1, 0] rfl)
          · intro z o31 h hk32 H locs ls I hl
            obtain ⟨st25, x30⟩ := z
            have h : ((bi1 (f5_greatest st25 (1 : Int32) (x92 - (x16 * r24))) fun r34 => (if r34 < x30 then some (.inr st25) else (bi1 (f5_variableOf st25 (0 : Int32) (1 : Int32)) fun r37 => (bi1 (wh (f5_list_b93 x91 x92 x16 (x92 - (x16 * r24)) x30 ((x92 - (x16 * r24)) - (x30 * r37))) FU (st25, (0 : Int32))) fun w58 => some (.inl (w58, (x30 + 1))))))) : Option ((MS × Int32) ⊕ (MS))) = some o31 := h
            have I : wk D (mW g a st25) A H0 H locs := I
            have hl : lv_has ls 8 [(0, .ref (a 0)), (1, .int x91), (2, .int x92), (3, .int x16), (4, .int (x92 - (x16 * r24))), (5, .int x30)] := hl
            refine lv_iload hx hb dX5_list_64 (lv_at hl 5 rfl) ?_
            refine lv_aload_n hx hb dX5_list_66 rfl (lv_at hl 0 rfl) ?_
            refine lv_iconst (v := (1 : Int32)) hx hb dX5_list_67 (by decide) ?_
            refine lv_iload hx hb dX5_list_68 (lv_at hl 4 rfl) ?_
            obtain ⟨r34, hc33, h⟩ := bx1 h
            refine r_callV1 (As := [.int (1 : Int32), .int (x92 - (x16 * r24))]) (rest := [.int x30]) (ws' := (mW g a st25)) (q0 := 0) E I hl.1 k5_68 (c5_greatest hc33) mW_k rfl rfl rfl rfl (Nat.le_of_ble_eq_true rfl) ⟨Nat.le_of_ble_eq_true rfl, Nat.le_of_ble_eq_true rfl⟩ ⟨Nat.zero_le _, Nat.zero_le _⟩ dX5_list_70 (fun H locs I => ?_)
            refine lv_icmp_gt (tgt := 139) hx hb dX5_list_73 (by decide) (fun hc35 => ?_) (fun hc35 => ?_)
            · have h := ifp hc35 h
              cases h
              exact hk32 _ _ _ I (lv_sub hl [0, 1, 2, 3] rfl)
            · have h := ifn hc35 h
              refine lv_iload hx hb dX5_list_76 (lv_at hl 4 rfl) ?_
              refine lv_iload hx hb dX5_list_78 (lv_at hl 5 rfl) ?_
              refine lv_aload_n hx hb dX5_list_80 rfl (lv_at hl 0 rfl) ?_
              refine lv_iconst (v := (0 : Int32)) hx hb dX5_list_81 (by decide) ?_
              refine lv_iconst (v := (1 : Int32)) hx hb dX5_list_82 (by decide) ?_
              obtain ⟨r37, hc36, h⟩ := bx1 h
              refine r_callV1 (As := [.int (0 : Int32), .int (1 : Int32)]) (rest := [.int x30, .int (x92 - (x16 * r24))]) (ws' := (mW g a st25)) (q0 := 0) E I hl.1 k5_65 (c5_variableOf hc36) mW_k rfl rfl rfl rfl (Nat.le_of_ble_eq_true rfl) ⟨Nat.le_of_ble_eq_true rfl, Nat.le_of_ble_eq_true rfl⟩ ⟨Nat.zero_le _, Nat.zero_le _⟩ dX5_list_83 (fun H locs I => ?_)
              refine lv_imul hx hb dX5_list_86 ?_
              refine lv_isub hx hb dX5_list_87 ?_
              refine lv_istore (lv' := [(6, .int ((x92 - (x16 * r24)) - (x30 * r37))), (0, .ref (a 0)), (1, .int x91), (2, .int x92), (3, .int x16), (4, .int (x92 - (x16 * r24))), (5, .int x30)]) hx hb dX5_list_88 hl (by decide) rfl (fun ls hl => ?_)
              refine lv_iconst (v := (0 : Int32)) hx hb dX5_list_90 (by decide) ?_
              refine lv_istore (lv' := [(7, .int (0 : Int32)), (6, .int ((x92 - (x16 * r24)) - (x30 * r37))), (0, .ref (a 0)), (1, .int x91), (2, .int x92), (3, .int x16), (4, .int (x92 - (x16 * r24))), (5, .int x30)]) hx hb dX5_list_91 hl (by decide) rfl (fun ls hl => ?_)
              obtain ⟨z55, hw56, h⟩ := bx1 h
              refine wh_W (P := fun (z : MS × Int32) => ∀ (H : Heap) (locs : List Loc) (ls : Array Slot), wk D (mW g a z.1) A H0 H locs → lv_has ls 8 [(0, .ref (a 0)), (1, .int x91), (2, .int x92), (3, .int x16), (4, .int (x92 - (x16 * r24))), (5, .int x30), (6, .int ((x92 - (x16 * r24)) - (x30 * r37))), (7, .int z.2)] → W p l e (rmk 3 72) s m args below meth c H locs 0 0 Q (F0 m 93 ls [])) (X := fun (z : MS) => ∀ (H : Heap) (locs : List Loc) (ls : Array Slot), wk D (mW g a z) A H0 H locs → lv_has ls 8 [(0, .ref (a 0)), (1, .int x91), (2, .int x92), (3, .int x16), (4, .int (x92 - (x16 * r24))), (5, .int x30)] → W p l e (rmk 3 72) s m args below meth c H locs 0 0 Q (F0 m 133 ls [])) ?_ FU _ _ hw56 ?_ _ _ _ I (lv_sub hl [2, 3, 4, 5, 6, 7, 1, 0] rfl)
              · intro z o46 h hk47 H locs ls I hl
                obtain ⟨st38, x45⟩ := z
                have h : ((bi1 (f5_greatest st38 (2 : Int32) ((x92 - (x16 * r24)) - (x30 * r37))) fun r49 => (if r49 < x45 then some (.inr st38) else (bi1 (f5_variableOf st38 (0 : Int32) (2 : Int32)) fun r52 => (bi1 (f5_listOne st38 x91 x16 x30 x45 (((x92 - (x16 * r24)) - (x30 * r37)) - (x45 * r52))) fun st54 => some (.inl (st54, (x45 + 1))))))) : Option ((MS × Int32) ⊕ (MS))) = some o46 := h
                have I : wk D (mW g a st38) A H0 H locs := I
                have hl : lv_has ls 8 [(0, .ref (a 0)), (1, .int x91), (2, .int x92), (3, .int x16), (4, .int (x92 - (x16 * r24))), (5, .int x30), (6, .int ((x92 - (x16 * r24)) - (x30 * r37))), (7, .int x45)] := hl
                refine lv_iload hx hb dX5_list_93 (lv_at hl 7 rfl) ?_
                refine lv_aload_n hx hb dX5_list_95 rfl (lv_at hl 0 rfl) ?_
                refine lv_iconst (v := (2 : Int32)) hx hb dX5_list_96 (by decide) ?_
                refine lv_iload hx hb dX5_list_97 (lv_at hl 6 rfl) ?_
                obtain ⟨r49, hc48, h⟩ := bx1 h
                refine r_callV1 (As := [.int (2 : Int32), .int ((x92 - (x16 * r24)) - (x30 * r37))]) (rest := [.int x45]) (ws' := (mW g a st38)) (q0 := 0) E I hl.1 k5_68 (c5_greatest hc48) mW_k rfl rfl rfl rfl (Nat.le_of_ble_eq_true rfl) ⟨Nat.le_of_ble_eq_true rfl, Nat.le_of_ble_eq_true rfl⟩ ⟨Nat.zero_le _, Nat.zero_le _⟩ dX5_list_99 (fun H locs I => ?_)
                refine lv_icmp_gt (tgt := 133) hx hb dX5_list_102 (by decide) (fun hc50 => ?_) (fun hc50 => ?_)
                · have h := ifp hc50 h
                  cases h
                  exact hk47 _ _ _ I (lv_sub hl [0, 1, 2, 3, 4, 5] rfl)
                · have h := ifn hc50 h
                  refine lv_aload_n hx hb dX5_list_105 rfl (lv_at hl 0 rfl) ?_
                  refine lv_iload_n hx hb dX5_list_106 rfl (lv_at hl 1 rfl) ?_
                  refine lv_iload_n hx hb dX5_list_107 rfl (lv_at hl 3 rfl) ?_
                  refine lv_iload hx hb dX5_list_108 (lv_at hl 5 rfl) ?_
                  refine lv_iload hx hb dX5_list_110 (lv_at hl 7 rfl) ?_
                  refine lv_iload hx hb dX5_list_112 (lv_at hl 6 rfl) ?_
                  refine lv_iload hx hb dX5_list_114 (lv_at hl 7 rfl) ?_
                  refine lv_aload_n hx hb dX5_list_116 rfl (lv_at hl 0 rfl) ?_
                  refine lv_iconst (v := (0 : Int32)) hx hb dX5_list_117 (by decide) ?_
                  refine lv_iconst (v := (2 : Int32)) hx hb dX5_list_118 (by decide) ?_
                  obtain ⟨r52, hc51, h⟩ := bx1 h
                  refine r_callV1 (As := [.int (0 : Int32), .int (2 : Int32)]) (rest := [.int x45, .int ((x92 - (x16 * r24)) - (x30 * r37)), .int x45, .int x30, .int x16, .int x91, .ref (a 0)]) (ws' := (mW g a st38)) (q0 := 0) E I hl.1 k5_65 (c5_variableOf hc51) mW_k rfl rfl rfl rfl (Nat.le_of_ble_eq_true rfl) ⟨Nat.le_of_ble_eq_true rfl, Nat.le_of_ble_eq_true rfl⟩ ⟨Nat.zero_le _, Nat.zero_le _⟩ dX5_list_119 (fun H locs I => ?_)
                  refine lv_imul hx hb dX5_list_122 ?_
                  refine lv_isub hx hb dX5_list_123 ?_
                  obtain ⟨st54, hc53, h⟩ := bx1 h
                  refine r_callV0 (As := [.int x91, .int x16, .int x30, .int x45, .int (((x92 - (x16 * r24)) - (x30 * r37)) - (x45 * r52))]) (rest := []) (ws' := (mW g a st54)) (q0 := 0) E I hl.1 k5_71 (c5_listOne hc53) mW_k rfl rfl rfl rfl (Nat.le_of_ble_eq_true rfl) ⟨Nat.le_of_ble_eq_true rfl, Nat.le_of_ble_eq_true rfl⟩ ⟨Nat.zero_le _, Nat.zero_le _⟩ dX5_list_124 (fun H locs I => ?_)
                  refine lv_iinc (v := (x45 + 1)) (lv' := [(7, .int (x45 + 1)), (0, .ref (a 0)), (1, .int x91), (2, .int x92), (3, .int x16), (4, .int (x92 - (x16 * r24))), (5, .int x30), (6, .int ((x92 - (x16 * r24)) - (x30 * r37)))]) hx hb dX5_list_127 hl (k := 7) rfl rfl (by decide) rfl (fun ls hl => ?_)
                  refine lv_goto (tgt := 93) hx hb dX5_list_130 (by decide) ?_
                  cases h
                  exact hk47 _ _ _ I (lv_sub hl [1, 2, 3, 4, 5, 6, 7, 0] rfl)
              · obtain ⟨st57, rfl⟩ : ∃ y, y = z55 := ⟨_, rfl⟩
                intro H locs ls I hl
                have h : (some (.inl (st57, (x30 + 1))) : Option ((MS × Int32) ⊕ (MS))) = some o31 := h
                have I : wk D (mW g a st57) A H0 H locs := I
                have hl : lv_has ls 8 [(0, .ref (a 0)), (1, .int x91), (2, .int x92), (3, .int x16), (4, .int (x92 - (x16 * r24))), (5, .int x30)] := hl
                refine lv_iinc (v := (x30 + 1)) (lv' := [(5, .int (x30 + 1)), (0, .ref (a 0)), (1, .int x91), (2, .int x92), (3, .int x16), (4, .int (x92 - (x16 * r24)))]) hx hb dX5_list_133 hl (k := 5) rfl rfl (by decide) rfl (fun ls hl => ?_)
                refine lv_goto (tgt := 64) hx hb dX5_list_136 (by decide) ?_
                cases h
                exact hk32 _ _ _ I (lv_sub hl [1, 2, 3, 4, 5, 0] rfl)
          · obtain ⟨st61, rfl⟩ : ∃ y, y = z59 := ⟨_, rfl⟩
            intro H locs ls I hl
            have h : (some (.inl (st61, (x16 + 1))) : Option ((MS × Int32) ⊕ (MS))) = some o17 := h
            have I : wk D (mW g a st61) A H0 H locs := I
            have hl : lv_has ls 8 [(0, .ref (a 0)), (1, .int x91), (2, .int x92), (3, .int x16)] := hl
            refine lv_iinc (v := (x16 + 1)) (lv' := [(3, .int (x16 + 1)), (0, .ref (a 0)), (1, .int x91), (2, .int x92)]) hx hb dX5_list_139 hl (k := 3) rfl rfl (by decide) rfl (fun ls hl => ?_)
            refine lv_goto (tgt := 35) hx hb dX5_list_142 (by decide) ?_
            cases h
            exact hk18 _ _ _ I (lv_sub hl [1, 2, 3, 0] rfl)
    · obtain ⟨st65, rfl⟩ : ∃ y, y = z63 := ⟨_, rfl⟩
      intro H locs ls I hl
      have h : (some st65 : Option MS) = some o := h
      have I : wk D (mW g a st65) A H0 H locs := I
      have hl : lv_has ls 8 [] := hl
      cases h
      exact K _ _ _ _ I dX5_list_145
set_option maxHeartbeats 4000000 in
set_option maxRecDepth 100000 in
theorem c5_listAll {l : Launch} {D : va_G} {g : Nat → ClassId} {a : Nat → Nat} {st : MS} {x91 : Int32} {x92 : Int32} {o : MS} (h : f5_listAll st x91 x92 = some o) : ct l yX5_listAll cX5_listAll 4 none (rmk 4 99) D g (mW g a st) (mW g a o) [.ref (a 0), .int x91, .int x92] none := by
  refine ct_of ⟨rfl, rfl⟩ (by decide) (Nat.le_of_ble_eq_true rfl) ?_
  intro p e s m args below meth c ls Q A H0 H locs E I hl K
  have E : en p m c cX5_listAll 4 s args RX5 D g := E
  have hx := E.1.1
  have hb := E.1.2.1
  have hl : lv_has ls 4 [(0, .ref (a 0)), (1, .int x91), (2, .int x92)] := hl
  have K : ∀ (pc : Nat) (ls : Array Slot) (H : Heap) (locs : List Loc), wk D (mW g a o) A H0 H locs → decode cX5_listAll pc = .ok (.return_, 1) → W p l e (rmk 4 99) s m args below meth c H locs 0 0 Q (F0 m pc ls []) := fun pc ls H locs I hd => K pc ls H locs I hd
  have h : ((bi1 (wh (f5_listAll_b2 x91 x92) FU (st, (0 : Int32))) fun w19 => some w19) : Option MS) = some o := h
  refine lv_iconst (v := (0 : Int32)) hx hb dX5_listAll_0 (by decide) ?_
  refine lv_istore_n (lv' := [(3, .int (0 : Int32)), (0, .ref (a 0)), (1, .int x91), (2, .int x92)]) hx hb dX5_listAll_1 rfl hl (by decide) rfl (fun ls hl => ?_)
  obtain ⟨z16, hw17, h⟩ := bx1 h
  refine wh_W (P := fun (z : MS × Int32) => ∀ (H : Heap) (locs : List Loc) (ls : Array Slot), wk D (mW g a z.1) A H0 H locs → lv_has ls 4 [(0, .ref (a 0)), (1, .int x91), (2, .int x92), (3, .int z.2)] → W p l e (rmk 4 99) s m args below meth c H locs 0 0 Q (F0 m 2 ls [])) (X := fun (z : MS) => ∀ (H : Heap) (locs : List Loc) (ls : Array Slot), wk D (mW g a z) A H0 H locs → lv_has ls 4 [] → W p l e (rmk 4 99) s m args below meth c H locs 0 0 Q (F0 m 34 ls [])) ?_ FU _ _ hw17 ?_ _ _ _ I (lv_sub hl [1, 2, 3, 0] rfl)
  · intro z o5 h hk6 H locs ls I hl
    obtain ⟨st1, x4⟩ := z
    have h : ((if (4 : Int32) ≤ x4 then some (.inr st1) else (bi1 (f5_restOf st1 x4) fun r9 => (bi1 (f5_list st1 x4 (r9 + (if x4 = x91 then x92 else (0 : Int32)))) fun st14 => some (.inl (st14, (x4 + 1)))))) : Option ((MS × Int32) ⊕ (MS))) = some o5 := h
    have I : wk D (mW g a st1) A H0 H locs := I
    have hl : lv_has ls 4 [(0, .ref (a 0)), (1, .int x91), (2, .int x92), (3, .int x4)] := hl
    refine lv_iload_n hx hb dX5_listAll_2 rfl (lv_at hl 3 rfl) ?_
    refine lv_iconst (v := (4 : Int32)) hx hb dX5_listAll_3 (by decide) ?_
    refine lv_icmp_ge (tgt := 34) hx hb dX5_listAll_4 (by decide) (fun hc7 => ?_) (fun hc7 => ?_)
    · have h := ifp hc7 h
      cases h
      exact hk6 _ _ _ I (lv_sub hl [] rfl)
    · have h := ifn hc7 h
      refine lv_aload_n hx hb dX5_listAll_7 rfl (lv_at hl 0 rfl) ?_
      refine lv_iload_n hx hb dX5_listAll_8 rfl (lv_at hl 3 rfl) ?_
      refine lv_aload_n hx hb dX5_listAll_9 rfl (lv_at hl 0 rfl) ?_
      refine lv_iload_n hx hb dX5_listAll_10 rfl (lv_at hl 3 rfl) ?_
      obtain ⟨r9, hc8, h⟩ := bx1 h
      refine r_callV1 (As := [.int x4]) (rest := [.int x4, .ref (a 0)]) (ws' := (mW g a st1)) (q0 := 0) E I hl.1 k5_75 (c5_restOf hc8) mW_k rfl rfl rfl rfl (Nat.le_of_ble_eq_true rfl) ⟨Nat.le_of_ble_eq_true rfl, Nat.le_of_ble_eq_true rfl⟩ ⟨Nat.zero_le _, Nat.zero_le _⟩ dX5_listAll_11 (fun H locs I => ?_)
      refine lv_iload_n hx hb dX5_listAll_14 rfl (lv_at hl 3 rfl) ?_
      refine lv_iload_n hx hb dX5_listAll_15 rfl (lv_at hl 1 rfl) ?_
      have J11 : ∀ (v10 : Int32) (H : Heap) (locs : List Loc), v10 = (if x4 = x91 then x92 else (0 : Int32)) → wk D (mW g a st1) A H0 H locs → W p l e (rmk 4 99) s m args below meth c H locs 0 0 Q (F0 m 24 ls [.int v10, .int r9, .int x4, .ref (a 0)]) := by
        intro v10 H locs hv12 I
        subst hv12
        refine lv_iadd hx hb dX5_listAll_24 ?_
        obtain ⟨st14, hc13, h⟩ := bx1 h
        refine r_callV0 (As := [.int x4, .int (r9 + (if x4 = x91 then x92 else (0 : Int32)))]) (rest := []) (ws' := (mW g a st14)) (q0 := 0) E I hl.1 k5_79 (c5_list hc13) mW_k rfl rfl rfl rfl (Nat.le_of_ble_eq_true rfl) ⟨Nat.le_of_ble_eq_true rfl, Nat.le_of_ble_eq_true rfl⟩ ⟨Nat.zero_le _, Nat.zero_le _⟩ dX5_listAll_25 (fun H locs I => ?_)
        refine lv_iinc (v := (x4 + 1)) (lv' := [(3, .int (x4 + 1)), (0, .ref (a 0)), (1, .int x91), (2, .int x92)]) hx hb dX5_listAll_28 hl (k := 3) rfl rfl (by decide) rfl (fun ls hl => ?_)
        refine lv_goto (tgt := 2) hx hb dX5_listAll_31 (by decide) ?_
        cases h
        exact hk6 _ _ _ I (lv_sub hl [1, 2, 3, 0] rfl)
      refine lv_icmp_ne (tgt := 23) hx hb dX5_listAll_16 (by decide) (fun hc15 => ?_) (fun hc15 => ?_)
      · refine lv_iconst (v := (0 : Int32)) hx hb dX5_listAll_23 (by decide) ?_
        exact J11 _ _ _ (by rw [if_neg hc15]) I
      · refine lv_iload_n hx hb dX5_listAll_19 rfl (lv_at hl 2 rfl) ?_
        refine lv_goto (tgt := 24) hx hb dX5_listAll_20 (by decide) ?_
        exact J11 _ _ _ (by rw [if_pos hc15]) I
  · obtain ⟨st18, rfl⟩ : ∃ y, y = z16 := ⟨_, rfl⟩
    intro H locs ls I hl
    have h : (some st18 : Option MS) = some o := h
    have I : wk D (mW g a st18) A H0 H locs := I
    have hl : lv_has ls 4 [] := hl
    cases h
    exact K _ _ _ _ I dX5_listAll_34
set_option maxHeartbeats 4000000 in
set_option maxRecDepth 100000 in
theorem c5_patternMask {l : Launch} {D : va_G} {g : Nat → ClassId} {a : Nat → Nat} {st : MS} {o : Int32} (h : f5_patternMask st = some o) : ct l yX5_patternMask cX5_patternMask 3 (some .int) (rmk 2 44) D g (mW g a st) (mW g a st) [.ref (a 0)] (some (.int o)) := by
  refine ct_of ⟨rfl, rfl⟩ (by decide) (Nat.le_of_ble_eq_true rfl) ?_
  intro p e s m args below meth c ls Q A H0 H locs E I hl K
  have E : en p m c cX5_patternMask 3 s args RX5 D g := E
  have hx := E.1.1
  have hb := E.1.2.1
  have hl : lv_has ls 3 [(0, .ref (a 0))] := hl
  have K : ∀ (pc : Nat) (ls : Array Slot) (H : Heap) (locs : List Loc), wk D (mW g a st) A H0 H locs → decode cX5_patternMask pc = .ok (.ireturn, 1) → W p l e (rmk 2 44) s m args below meth c H locs 0 0 Q (F0 m pc ls [.int o]) := fun pc ls H locs I hd => K pc ls H locs I hd
  have h : ((bi1 (wh (f5_patternMask_b4 st) FU ((0 : Int32), (0 : Int32))) fun w18 => some w18) : Option Int32) = some o := h
  refine lv_iconst (v := (0 : Int32)) hx hb dX5_patternMask_0 (by decide) ?_
  refine lv_istore_n (lv' := [(1, .int (0 : Int32)), (0, .ref (a 0))]) hx hb dX5_patternMask_1 rfl hl (by decide) rfl (fun ls hl => ?_)
  refine lv_iconst (v := (0 : Int32)) hx hb dX5_patternMask_2 (by decide) ?_
  refine lv_istore_n (lv' := [(2, .int (0 : Int32)), (1, .int (0 : Int32)), (0, .ref (a 0))]) hx hb dX5_patternMask_3 rfl hl (by decide) rfl (fun ls hl => ?_)
  obtain ⟨z15, hw16, h⟩ := bx1 h
  refine wh_W (P := fun (z : Int32 × Int32) => ∀ (H : Heap) (locs : List Loc) (ls : Array Slot), wk D (mW g a st) A H0 H locs → lv_has ls 3 [(0, .ref (a 0)), (1, .int z.1), (2, .int z.2)] → W p l e (rmk 2 44) s m args below meth c H locs 0 0 Q (F0 m 4 ls [])) (X := fun (z : Int32) => ∀ (H : Heap) (locs : List Loc) (ls : Array Slot), wk D (mW g a st) A H0 H locs → lv_has ls 3 [(1, .int z)] → W p l e (rmk 2 44) s m args below meth c H locs 0 0 Q (F0 m 34 ls [])) ?_ FU _ _ hw16 ?_ _ _ _ I (lv_sub hl [2, 1, 0] rfl)
  · intro z o4 h hk5 H locs ls I hl
    obtain ⟨x2, x3⟩ := z
    have h : ((if (4 : Int32) ≤ x3 then some (.inr x2) else (bi1 (f5_variableOf st (0 : Int32) x3) fun r8 => (lq (x2 ||| (if r8 ≤ 0 then (0 : Int32) else ((1 : Int32) <<< (x3 &&& 31)))) fun x12 => some (.inl (x12, (x3 + 1)))))) : Option ((Int32 × Int32) ⊕ (Int32))) = some o4 := h
    have I : wk D (mW g a st) A H0 H locs := I
    have hl : lv_has ls 3 [(0, .ref (a 0)), (1, .int x2), (2, .int x3)] := hl
    refine lv_iload_n hx hb dX5_patternMask_4 rfl (lv_at hl 2 rfl) ?_
    refine lv_iconst (v := (4 : Int32)) hx hb dX5_patternMask_5 (by decide) ?_
    refine lv_icmp_ge (tgt := 34) hx hb dX5_patternMask_6 (by decide) (fun hc6 => ?_) (fun hc6 => ?_)
    · have h := ifp hc6 h
      cases h
      exact hk5 _ _ _ I (lv_sub hl [1] rfl)
    · have h := ifn hc6 h
      refine lv_iload_n hx hb dX5_patternMask_9 rfl (lv_at hl 1 rfl) ?_
      refine lv_aload_n hx hb dX5_patternMask_10 rfl (lv_at hl 0 rfl) ?_
      refine lv_iconst (v := (0 : Int32)) hx hb dX5_patternMask_11 (by decide) ?_
      refine lv_iload_n hx hb dX5_patternMask_12 rfl (lv_at hl 2 rfl) ?_
      obtain ⟨r8, hc7, h⟩ := bx1 h
      refine r_callV1 (As := [.int (0 : Int32), .int x3]) (rest := [.int x2]) (ws' := (mW g a st)) (q0 := 0) E I hl.1 k5_65 (c5_variableOf hc7) mW_k rfl rfl rfl rfl (Nat.le_of_ble_eq_true rfl) ⟨Nat.le_of_ble_eq_true rfl, Nat.le_of_ble_eq_true rfl⟩ ⟨Nat.zero_le _, Nat.zero_le _⟩ dX5_patternMask_13 (fun H locs I => ?_)
      have J10 : ∀ (v9 : Int32) (H : Heap) (locs : List Loc), v9 = (if r8 ≤ 0 then (0 : Int32) else ((1 : Int32) <<< (x3 &&& 31))) → wk D (mW g a st) A H0 H locs → W p l e (rmk 2 44) s m args below meth c H locs 0 0 Q (F0 m 26 ls [.int v9, .int x2]) := by
        intro v9 H locs hv11 I
        subst hv11
        refine lv_ior hx hb dX5_patternMask_26 ?_
        obtain ⟨x12, hx13, h⟩ := lqx h
        refine lv_istore_n (x := (x2 ||| (if r8 ≤ 0 then (0 : Int32) else ((1 : Int32) <<< (x3 &&& 31))))) (lv' := [(1, .int x12), (0, .ref (a 0)), (2, .int x3)]) hx hb dX5_patternMask_27 rfl hl (by decide) (by subst hx13; rfl) (fun ls hl => ?_)
        refine lv_iinc (v := (x3 + 1)) (lv' := [(2, .int (x3 + 1)), (1, .int x12), (0, .ref (a 0))]) hx hb dX5_patternMask_28 hl (k := 2) rfl rfl (by decide) rfl (fun ls hl => ?_)
        refine lv_goto (tgt := 4) hx hb dX5_patternMask_31 (by decide) ?_
        cases h
        exact hk5 _ _ _ I (lv_sub hl [2, 1, 0] rfl)
      refine lv_if_le (tgt := 25) hx hb dX5_patternMask_16 (by decide) (fun hc14 => ?_) (fun hc14 => ?_)
      · refine lv_iconst (v := (0 : Int32)) hx hb dX5_patternMask_25 (by decide) ?_
        exact J10 _ _ _ (by rw [if_pos hc14]) I
      · refine lv_iconst (v := (1 : Int32)) hx hb dX5_patternMask_19 (by decide) ?_
        refine lv_iload_n hx hb dX5_patternMask_20 rfl (lv_at hl 2 rfl) ?_
        refine lv_ishl hx hb dX5_patternMask_21 ?_
        refine lv_goto (tgt := 26) hx hb dX5_patternMask_22 (by decide) ?_
        exact J10 _ _ _ (by rw [if_neg hc14]) I
  · obtain ⟨x17, rfl⟩ : ∃ y, y = z15 := ⟨_, rfl⟩
    intro H locs ls I hl
    have h : (some x17 : Option Int32) = some o := h
    have I : wk D (mW g a st) A H0 H locs := I
    have hl : lv_has ls 3 [(1, .int x17)] := hl
    refine lv_iload_n hx hb dX5_patternMask_34 rfl (lv_at hl 0 rfl) ?_
    cases h
    exact K _ _ _ _ I dX5_patternMask_35
set_option maxHeartbeats 4000000 in
set_option maxRecDepth 100000 in
theorem c5_layWays {l : Launch} {D : va_G} {g : Nat → ClassId} {a : Nat → Nat} {st : MS} {o : MS} (h : f5_layWays st = some o) : ct l yX5_layWays cX5_layWays 7 none (rmk 3 66) D g (mW g a st) (mW g a o) [.ref (a 0)] none := by
  refine ct_of ⟨rfl, rfl⟩ (by decide) (Nat.le_of_ble_eq_true rfl) ?_
  intro p e s m args below meth c ls Q A H0 H locs E I hl K
  have E : en p m c cX5_layWays 7 s args RX5 D g := E
  have hx := E.1.1
  have hb := E.1.2.1
  have hl : lv_has ls 7 [(0, .ref (a 0))] := hl
  have K : ∀ (pc : Nat) (ls : Array Slot) (H : Heap) (locs : List Loc), wk D (mW g a o) A H0 H locs → decode cX5_layWays pc = .ok (.return_, 1) → W p l e (rmk 3 66) s m args below meth c H locs 0 0 Q (F0 m pc ls []) := fun pc ls H locs I hd => K pc ls H locs I hd
  have h : ((if ((m_z st) (24 : Int32).toNatClampNeg) = (1 : Int32) then f5_layWays_j19 st (0 : Int32) else (bi1 (f5_patternMask st) fun r57 => f5_layWays_j19 st r57)) : Option MS) = some o := h
  refine lv_aload_n hx hb dX5_layWays_0 rfl (lv_at hl 0 rfl) ?_
  refine g5_7 E I dX5_layWays_1 ?_
  refine lv_bipush (v := (24 : Int32)) hx hb dX5_layWays_4 (by decide) ?_
  refine m_ld1 E I (f := (m_z st)) rfl (by decide) dX5_layWays_6 ?_
  refine lv_iconst (v := (1 : Int32)) hx hb dX5_layWays_7 (by decide) ?_
  have J1 : ∀ (st2 : MS) (y3 : Int32), f5_layWays_j19 st2 y3 = some o → ∀ (H : Heap) (locs : List Loc) (ls : Array Slot), wk D (mW g a st2) A H0 H locs → lv_has ls 7 [(0, .ref (a 0))] → W p l e (rmk 3 66) s m args below meth c H locs 0 0 Q (F0 m 19 ls [.int y3]) := by
    intro st2 y3 h H locs ls I hl
    have h : ((bi1 (wh (f5_layWays_b22 y3) FU (st2, (0 : Int32))) fun w54 => (bi1 (wh (f5_layWays_b57) FU (w54, (3 : Int32))) fun w53 => some w53)) : Option MS) = some o := h
    refine lv_istore_n (lv' := [(1, .int y3), (0, .ref (a 0))]) hx hb dX5_layWays_19 rfl hl (by decide) rfl (fun ls hl => ?_)
    refine lv_iconst (v := (0 : Int32)) hx hb dX5_layWays_20 (by decide) ?_
    refine lv_istore_n (lv' := [(2, .int (0 : Int32)), (1, .int y3), (0, .ref (a 0))]) hx hb dX5_layWays_21 rfl hl (by decide) rfl (fun ls hl => ?_)
    obtain ⟨z15, hw16, h⟩ := bx1 h
    refine wh_W (P := fun (z : MS × Int32) => ∀ (H : Heap) (locs : List Loc) (ls : Array Slot), wk D (mW g a z.1) A H0 H locs → lv_has ls 7 [(0, .ref (a 0)), (1, .int y3), (2, .int z.2)] → W p l e (rmk 3 66) s m args below meth c H locs 0 0 Q (F0 m 22 ls [])) (X := fun (z : MS) => ∀ (H : Heap) (locs : List Loc) (ls : Array Slot), wk D (mW g a z) A H0 H locs → lv_has ls 7 [(0, .ref (a 0))] → W p l e (rmk 3 66) s m args below meth c H locs 0 0 Q (F0 m 55 ls [])) ?_ FU _ _ hw16 ?_ _ _ _ I (lv_sub hl [2, 1, 0] rfl)
    · intro z o7 h hk8 H locs ls I hl
      obtain ⟨st4, x6⟩ := z
      have h : ((if (16 : Int32) ≤ x6 then some (.inr st4) else (if ib ((64 : Int32) + x6) 80 = true then some (.inl ((m_waysOn_s st4 (vp_updL (m_waysOn st4) ((64 : Int32) + x6).toNatClampNeg (if (x6 &&& y3) = y3 then (1 : Int64) else (0 : Int64)))), (x6 + 1))) else none)) : Option ((MS × Int32) ⊕ (MS))) = some o7 := h
      have I : wk D (mW g a st4) A H0 H locs := I
      have hl : lv_has ls 7 [(0, .ref (a 0)), (1, .int y3), (2, .int x6)] := hl
      refine lv_iload_n hx hb dX5_layWays_22 rfl (lv_at hl 2 rfl) ?_
      refine lv_bipush (v := (16 : Int32)) hx hb dX5_layWays_23 (by decide) ?_
      refine lv_icmp_ge (tgt := 55) hx hb dX5_layWays_25 (by decide) (fun hc9 => ?_) (fun hc9 => ?_)
      · have h := ifp hc9 h
        cases h
        exact hk8 _ _ _ I (lv_sub hl [0] rfl)
      · have h := ifn hc9 h
        refine lv_aload_n hx hb dX5_layWays_28 rfl (lv_at hl 0 rfl) ?_
        refine g5_34 E I dX5_layWays_29 ?_
        refine lv_bipush (v := (64 : Int32)) hx hb dX5_layWays_32 (by decide) ?_
        refine lv_iload_n hx hb dX5_layWays_34 rfl (lv_at hl 2 rfl) ?_
        refine lv_iadd hx hb dX5_layWays_35 ?_
        refine lv_iload_n hx hb dX5_layWays_36 rfl (lv_at hl 2 rfl) ?_
        refine lv_iload_n hx hb dX5_layWays_37 rfl (lv_at hl 1 rfl) ?_
        refine lv_iand hx hb dX5_layWays_38 ?_
        refine lv_iload_n hx hb dX5_layWays_39 rfl (lv_at hl 1 rfl) ?_
        have J11 : ∀ (v10 : Int64) (H : Heap) (locs : List Loc), v10 = (if (x6 &&& y3) = y3 then (1 : Int64) else (0 : Int64)) → wk D (mW g a st4) A H0 H locs → W p l e (rmk 3 66) s m args below meth c H locs 0 0 Q (F0 m 48 ls [.long v10, .int ((64 : Int32) + x6), .ref (a 9)]) := by
          intro v10 H locs hv12 I
          subst hv12
          obtain ⟨hc13, h⟩ := gd h
          refine m_st9 E I (f := (m_waysOn st4)) rfl hc13 dX5_layWays_48 (fun H locs I => ?_)
          refine lv_iinc (v := (x6 + 1)) (lv' := [(2, .int (x6 + 1)), (0, .ref (a 0)), (1, .int y3)]) hx hb dX5_layWays_49 hl (k := 2) rfl rfl (by decide) rfl (fun ls hl => ?_)
          refine lv_goto (tgt := 22) hx hb dX5_layWays_52 (by decide) ?_
          cases h
          exact hk8 _ _ _ I (lv_sub hl [1, 2, 0] rfl)
        refine lv_icmp_ne (tgt := 47) hx hb dX5_layWays_40 (by decide) (fun hc14 => ?_) (fun hc14 => ?_)
        · refine lv_lconst (v := (0 : Int64)) hx hb dX5_layWays_47 (by decide) ?_
          exact J11 _ _ _ (by rw [if_neg hc14]) I
        · refine lv_lconst (v := (1 : Int64)) hx hb dX5_layWays_43 (by decide) ?_
          refine lv_goto (tgt := 48) hx hb dX5_layWays_44 (by decide) ?_
          exact J11 _ _ _ (by rw [if_pos hc14]) I
    · obtain ⟨st17, rfl⟩ : ∃ y, y = z15 := ⟨_, rfl⟩
      intro H locs ls I hl
      have h : ((bi1 (wh (f5_layWays_b57) FU (st17, (3 : Int32))) fun w53 => some w53) : Option MS) = some o := h
      have I : wk D (mW g a st17) A H0 H locs := I
      have hl : lv_has ls 7 [(0, .ref (a 0))] := hl
      refine lv_iconst (v := (3 : Int32)) hx hb dX5_layWays_55 (by decide) ?_
      refine lv_istore_n (lv' := [(2, .int (3 : Int32)), (0, .ref (a 0))]) hx hb dX5_layWays_56 rfl hl (by decide) rfl (fun ls hl => ?_)
      obtain ⟨z50, hw51, h⟩ := bx1 h
      refine wh_W (P := fun (z : MS × Int32) => ∀ (H : Heap) (locs : List Loc) (ls : Array Slot), wk D (mW g a z.1) A H0 H locs → lv_has ls 7 [(0, .ref (a 0)), (2, .int z.2)] → W p l e (rmk 3 66) s m args below meth c H locs 0 0 Q (F0 m 57 ls [])) (X := fun (z : MS) => ∀ (H : Heap) (locs : List Loc) (ls : Array Slot), wk D (mW g a z) A H0 H locs → lv_has ls 7 [] → W p l e (rmk 3 66) s m args below meth c H locs 0 0 Q (F0 m 149 ls [])) ?_ FU _ _ hw51 ?_ _ _ _ I (lv_sub hl [1, 0] rfl)
      · intro z o20 h hk21 H locs ls I hl
        obtain ⟨st18, x19⟩ := z
        have h : ((if x19 < 0 then some (.inr st18) else (bi1 (wh (f5_layWays_b63 x19) FU (st18, (0 : Int32))) fun w49 => some (.inl (w49, (x19 + (-1)))))) : Option ((MS × Int32) ⊕ (MS))) = some o20 := h
        have I : wk D (mW g a st18) A H0 H locs := I
        have hl : lv_has ls 7 [(0, .ref (a 0)), (2, .int x19)] := hl
        refine lv_iload_n hx hb dX5_layWays_57 rfl (lv_at hl 1 rfl) ?_
        refine lv_if_lt (tgt := 149) hx hb dX5_layWays_58 (by decide) (fun hc22 => ?_) (fun hc22 => ?_)
        · have h := ifp hc22 h
          cases h
          exact hk21 _ _ _ I (lv_sub hl [] rfl)
        · have h := ifn hc22 h
          refine lv_iconst (v := (0 : Int32)) hx hb dX5_layWays_61 (by decide) ?_
          refine lv_istore_n (lv' := [(3, .int (0 : Int32)), (0, .ref (a 0)), (2, .int x19)]) hx hb dX5_layWays_62 rfl hl (by decide) rfl (fun ls hl => ?_)
          obtain ⟨z46, hw47, h⟩ := bx1 h
          refine wh_W (P := fun (z : MS × Int32) => ∀ (H : Heap) (locs : List Loc) (ls : Array Slot), wk D (mW g a z.1) A H0 H locs → lv_has ls 7 [(0, .ref (a 0)), (2, .int x19), (3, .int z.2)] → W p l e (rmk 3 66) s m args below meth c H locs 0 0 Q (F0 m 63 ls [])) (X := fun (z : MS) => ∀ (H : Heap) (locs : List Loc) (ls : Array Slot), wk D (mW g a z) A H0 H locs → lv_has ls 7 [(0, .ref (a 0)), (2, .int x19)] → W p l e (rmk 3 66) s m args below meth c H locs 0 0 Q (F0 m 143 ls [])) ?_ FU _ _ hw47 ?_ _ _ _ I (lv_sub hl [1, 2, 0] rfl)
          · intro z o26 h hk27 H locs ls I hl
            obtain ⟨st23, x25⟩ := z
            have h : ((if (16 : Int32) ≤ x25 then some (.inr st23) else (bi1 (wh (f5_layWays_b75 st23 x19 x25) FU ((0 : Int64), (0 : Int32))) fun w45 => (if ib (((16 : Int32) * x19) + x25) 80 = true then some (.inl ((m_waysOn_s st23 (vp_updL (m_waysOn st23) (((16 : Int32) * x19) + x25).toNatClampNeg w45)), (x25 + 1))) else none))) : Option ((MS × Int32) ⊕ (MS))) = some o26 := h
            have I : wk D (mW g a st23) A H0 H locs := I
            have hl : lv_has ls 7 [(0, .ref (a 0)), (2, .int x19), (3, .int x25)] := hl
            refine lv_iload_n hx hb dX5_layWays_63 rfl (lv_at hl 2 rfl) ?_
            refine lv_bipush (v := (16 : Int32)) hx hb dX5_layWays_64 (by decide) ?_
            refine lv_icmp_ge (tgt := 143) hx hb dX5_layWays_66 (by decide) (fun hc28 => ?_) (fun hc28 => ?_)
            · have h := ifp hc28 h
              cases h
              exact hk27 _ _ _ I (lv_sub hl [0, 1] rfl)
            · have h := ifn hc28 h
              refine lv_lconst (v := (0 : Int64)) hx hb dX5_layWays_69 (by decide) ?_
              refine lv_lstore (lv' := [(4, .long (0 : Int64)), (0, .ref (a 0)), (2, .int x19), (3, .int x25)]) hx hb dX5_layWays_70 hl (by decide) rfl (fun ls hl => ?_)
              refine lv_iconst (v := (0 : Int32)) hx hb dX5_layWays_72 (by decide) ?_
              refine lv_istore (lv' := [(6, .int (0 : Int32)), (4, .long (0 : Int64)), (0, .ref (a 0)), (2, .int x19), (3, .int x25)]) hx hb dX5_layWays_73 hl (by decide) rfl (fun ls hl => ?_)
              obtain ⟨z41, hw42, h⟩ := bx1 h
              refine wh_W (P := fun (z : Int64 × Int32) => ∀ (H : Heap) (locs : List Loc) (ls : Array Slot), wk D (mW g a st23) A H0 H locs → lv_has ls 7 [(0, .ref (a 0)), (2, .int x19), (3, .int x25), (4, .long z.1), (6, .int z.2)] → W p l e (rmk 3 66) s m args below meth c H locs 0 0 Q (F0 m 75 ls [])) (X := fun (z : Int64) => ∀ (H : Heap) (locs : List Loc) (ls : Array Slot), wk D (mW g a st23) A H0 H locs → lv_has ls 7 [(0, .ref (a 0)), (2, .int x19), (3, .int x25), (4, .long z)] → W p l e (rmk 3 66) s m args below meth c H locs 0 0 Q (F0 m 124 ls [])) ?_ FU _ _ hw42 ?_ _ _ _ I (lv_sub hl [2, 3, 4, 1, 0] rfl)
              · intro z o34 h hk35 H locs ls I hl
                obtain ⟨x32, x33⟩ := z
                have h : ((if (16 : Int32) ≤ x33 then some (.inr x32) else (if ib (((16 : Int32) * x19) + x33) 64 = true then (if ib ((((16 : Int32) * x19) + (16 : Int32)) + (x25 ||| x33)) 80 = true then (lq (x32 + (((m_bySupport st23) (((16 : Int32) * x19) + x33).toNatClampNeg).toInt64 * ((m_waysOn st23) ((((16 : Int32) * x19) + (16 : Int32)) + (x25 ||| x33)).toNatClampNeg))) fun x39 => some (.inl (x39, (x33 + 1)))) else none) else none)) : Option ((Int64 × Int32) ⊕ (Int64))) = some o34 := h
                have I : wk D (mW g a st23) A H0 H locs := I
                have hl : lv_has ls 7 [(0, .ref (a 0)), (2, .int x19), (3, .int x25), (4, .long x32), (6, .int x33)] := hl
                refine lv_iload hx hb dX5_layWays_75 (lv_at hl 4 rfl) ?_
                refine lv_bipush (v := (16 : Int32)) hx hb dX5_layWays_77 (by decide) ?_
                refine lv_icmp_ge (tgt := 124) hx hb dX5_layWays_79 (by decide) (fun hc36 => ?_) (fun hc36 => ?_)
                · have h := ifp hc36 h
                  cases h
                  exact hk35 _ _ _ I (lv_sub hl [0, 1, 2, 3] rfl)
                · have h := ifn hc36 h
                  refine lv_lload hx hb dX5_layWays_82 (lv_at hl 3 rfl) ?_
                  refine lv_aload_n hx hb dX5_layWays_84 rfl (lv_at hl 0 rfl) ?_
                  refine g5_31 E I dX5_layWays_85 ?_
                  refine lv_bipush (v := (16 : Int32)) hx hb dX5_layWays_88 (by decide) ?_
                  refine lv_iload_n hx hb dX5_layWays_90 rfl (lv_at hl 1 rfl) ?_
                  refine lv_imul hx hb dX5_layWays_91 ?_
                  refine lv_iload hx hb dX5_layWays_92 (lv_at hl 4 rfl) ?_
                  refine lv_iadd hx hb dX5_layWays_94 ?_
                  obtain ⟨hc37, h⟩ := gd h
                  refine m_ld8 E I (f := (m_bySupport st23)) rfl hc37 dX5_layWays_95 ?_
                  refine lv_i2l (v := ((m_bySupport st23) (((16 : Int32) * x19) + x33).toNatClampNeg).toInt64) hx hb dX5_layWays_96 rfl ?_
                  refine lv_aload_n hx hb dX5_layWays_97 rfl (lv_at hl 0 rfl) ?_
                  refine g5_34 E I dX5_layWays_98 ?_
                  refine lv_bipush (v := (16 : Int32)) hx hb dX5_layWays_101 (by decide) ?_
                  refine lv_iload_n hx hb dX5_layWays_103 rfl (lv_at hl 1 rfl) ?_
                  refine lv_imul hx hb dX5_layWays_104 ?_
                  refine lv_bipush (v := (16 : Int32)) hx hb dX5_layWays_105 (by decide) ?_
                  refine lv_iadd hx hb dX5_layWays_107 ?_
                  refine lv_iload_n hx hb dX5_layWays_108 rfl (lv_at hl 2 rfl) ?_
                  refine lv_iload hx hb dX5_layWays_109 (lv_at hl 4 rfl) ?_
                  refine lv_ior hx hb dX5_layWays_111 ?_
                  refine lv_iadd hx hb dX5_layWays_112 ?_
                  obtain ⟨hc38, h⟩ := gd h
                  refine m_ld9 E I (f := (m_waysOn st23)) rfl hc38 dX5_layWays_113 ?_
                  refine lv_lmul hx hb dX5_layWays_114 ?_
                  refine lv_ladd hx hb dX5_layWays_115 ?_
                  obtain ⟨x39, hx40, h⟩ := lqx h
                  refine lv_lstore (x := (x32 + (((m_bySupport st23) (((16 : Int32) * x19) + x33).toNatClampNeg).toInt64 * ((m_waysOn st23) ((((16 : Int32) * x19) + (16 : Int32)) + (x25 ||| x33)).toNatClampNeg)))) (lv' := [(4, .long x39), (0, .ref (a 0)), (2, .int x19), (3, .int x25), (6, .int x33)]) hx hb dX5_layWays_116 hl (by decide) (by subst hx40; rfl) (fun ls hl => ?_)
                  refine lv_iinc (v := (x33 + 1)) (lv' := [(6, .int (x33 + 1)), (4, .long x39), (0, .ref (a 0)), (2, .int x19), (3, .int x25)]) hx hb dX5_layWays_118 hl (k := 4) rfl rfl (by decide) rfl (fun ls hl => ?_)
                  refine lv_goto (tgt := 75) hx hb dX5_layWays_121 (by decide) ?_
                  cases h
                  exact hk35 _ _ _ I (lv_sub hl [2, 3, 4, 1, 0] rfl)
              · obtain ⟨x43, rfl⟩ : ∃ y, y = z41 := ⟨_, rfl⟩
                intro H locs ls I hl
                have h : ((if ib (((16 : Int32) * x19) + x25) 80 = true then some (.inl ((m_waysOn_s st23 (vp_updL (m_waysOn st23) (((16 : Int32) * x19) + x25).toNatClampNeg x43)), (x25 + 1))) else none) : Option ((MS × Int32) ⊕ (MS))) = some o26 := h
                have I : wk D (mW g a st23) A H0 H locs := I
                have hl : lv_has ls 7 [(0, .ref (a 0)), (2, .int x19), (3, .int x25), (4, .long x43)] := hl
                refine lv_aload_n hx hb dX5_layWays_124 rfl (lv_at hl 0 rfl) ?_
                refine g5_34 E I dX5_layWays_125 ?_
                refine lv_bipush (v := (16 : Int32)) hx hb dX5_layWays_128 (by decide) ?_
                refine lv_iload_n hx hb dX5_layWays_130 rfl (lv_at hl 1 rfl) ?_
                refine lv_imul hx hb dX5_layWays_131 ?_
                refine lv_iload_n hx hb dX5_layWays_132 rfl (lv_at hl 2 rfl) ?_
                refine lv_iadd hx hb dX5_layWays_133 ?_
                refine lv_lload hx hb dX5_layWays_134 (lv_at hl 3 rfl) ?_
                obtain ⟨hc44, h⟩ := gd h
                refine m_st9 E I (f := (m_waysOn st23)) rfl hc44 dX5_layWays_136 (fun H locs I => ?_)
                refine lv_iinc (v := (x25 + 1)) (lv' := [(3, .int (x25 + 1)), (0, .ref (a 0)), (2, .int x19), (4, .long x43)]) hx hb dX5_layWays_137 hl (k := 2) rfl rfl (by decide) rfl (fun ls hl => ?_)
                refine lv_goto (tgt := 63) hx hb dX5_layWays_140 (by decide) ?_
                cases h
                exact hk27 _ _ _ I (lv_sub hl [1, 2, 0] rfl)
          · obtain ⟨st48, rfl⟩ : ∃ y, y = z46 := ⟨_, rfl⟩
            intro H locs ls I hl
            have h : (some (.inl (st48, (x19 + (-1)))) : Option ((MS × Int32) ⊕ (MS))) = some o20 := h
            have I : wk D (mW g a st48) A H0 H locs := I
            have hl : lv_has ls 7 [(0, .ref (a 0)), (2, .int x19)] := hl
            refine lv_iinc (v := (x19 + (-1))) (lv' := [(2, .int (x19 + (-1))), (0, .ref (a 0))]) hx hb dX5_layWays_143 hl (k := 1) rfl rfl (by decide) rfl (fun ls hl => ?_)
            refine lv_goto (tgt := 57) hx hb dX5_layWays_146 (by decide) ?_
            cases h
            exact hk21 _ _ _ I (lv_sub hl [1, 0] rfl)
      · obtain ⟨st52, rfl⟩ : ∃ y, y = z50 := ⟨_, rfl⟩
        intro H locs ls I hl
        have h : (some st52 : Option MS) = some o := h
        have I : wk D (mW g a st52) A H0 H locs := I
        have hl : lv_has ls 7 [] := hl
        cases h
        exact K _ _ _ _ I dX5_layWays_149
  refine lv_icmp_ne (tgt := 15) hx hb dX5_layWays_8 (by decide) (fun hc55 => ?_) (fun hc55 => ?_)
  · have h := ifn hc55 h
    refine lv_aload_n hx hb dX5_layWays_15 rfl (lv_at hl 0 rfl) ?_
    obtain ⟨r57, hc56, h⟩ := bx1 h
    refine r_callV1 (As := []) (rest := []) (ws' := (mW g a st)) (q0 := 0) E I hl.1 k5_83 (c5_patternMask hc56) mW_k rfl rfl rfl rfl (Nat.le_of_ble_eq_true rfl) ⟨Nat.le_of_ble_eq_true rfl, Nat.le_of_ble_eq_true rfl⟩ ⟨Nat.zero_le _, Nat.zero_le _⟩ dX5_layWays_16 (fun H locs I => ?_)
    exact J1 _ _ h _ _ _ I (lv_sub hl [0] rfl)
  · have h := ifp hc55 h
    refine lv_iconst (v := (0 : Int32)) hx hb dX5_layWays_11 (by decide) ?_
    refine lv_goto (tgt := 19) hx hb dX5_layWays_12 (by decide) ?_
    exact J1 _ _ h _ _ _ I (lv_sub hl [0] rfl)
set_option maxHeartbeats 4000000 in
set_option maxRecDepth 100000 in
theorem c5_matchersNow {l : Launch} {D : va_G} {g : Nat → ClassId} {a : Nat → Nat} {st : MS} {o : MS × Int64} (h : f5_matchersNow st = some o) : ct l yX5_matchersNow cX5_matchersNow 1 (some .long) (rmk 5 122) D g (mW g a st) (mW g a o.1) [.ref (a 0)] (some (.long o.2)) := by
  refine ct_of ⟨rfl, rfl⟩ (by decide) (Nat.le_of_ble_eq_true rfl) ?_
  intro p e s m args below meth c ls Q A H0 H locs E I hl K
  have E : en p m c cX5_matchersNow 1 s args RX5 D g := E
  have hx := E.1.1
  have hb := E.1.2.1
  have hl : lv_has ls 1 [(0, .ref (a 0))] := hl
  have K : ∀ (pc : Nat) (ls : Array Slot) (H : Heap) (locs : List Loc), wk D (mW g a o.1) A H0 H locs → decode cX5_matchersNow pc = .ok (.lreturn, 1) → W p l e (rmk 5 122) s m args below meth c H locs 0 0 Q (F0 m pc ls [.long o.2]) := fun pc ls H locs I hd => K pc ls H locs I hd
  have h : ((bi1 (f5_listAll st (-1 : Int32) (0 : Int32)) fun st2 => (bi1 (f5_layWays st2) fun st4 => some (st4, ((m_waysOn st4) (0 : Int32).toNatClampNeg)))) : Option (MS × Int64)) = some o := h
  refine lv_aload_n hx hb dX5_matchersNow_0 rfl (lv_at hl 0 rfl) ?_
  refine lv_iconst (v := (-1 : Int32)) hx hb dX5_matchersNow_1 (by decide) ?_
  refine lv_iconst (v := (0 : Int32)) hx hb dX5_matchersNow_2 (by decide) ?_
  obtain ⟨st2, hc1, h⟩ := bx1 h
  refine r_callV0 (As := [.int (-1 : Int32), .int (0 : Int32)]) (rest := []) (ws' := (mW g a st2)) (q0 := 0) E I hl.1 k5_87 (c5_listAll hc1) mW_k rfl rfl rfl rfl (Nat.le_of_ble_eq_true rfl) ⟨Nat.le_of_ble_eq_true rfl, Nat.le_of_ble_eq_true rfl⟩ ⟨Nat.zero_le _, Nat.zero_le _⟩ dX5_matchersNow_3 (fun H locs I => ?_)
  refine lv_aload_n hx hb dX5_matchersNow_6 rfl (lv_at hl 0 rfl) ?_
  obtain ⟨st4, hc3, h⟩ := bx1 h
  refine r_callV0 (As := []) (rest := []) (ws' := (mW g a st4)) (q0 := 0) E I hl.1 k5_90 (c5_layWays hc3) mW_k rfl rfl rfl rfl (Nat.le_of_ble_eq_true rfl) ⟨Nat.le_of_ble_eq_true rfl, Nat.le_of_ble_eq_true rfl⟩ ⟨Nat.zero_le _, Nat.zero_le _⟩ dX5_matchersNow_7 (fun H locs I => ?_)
  refine lv_aload_n hx hb dX5_matchersNow_10 rfl (lv_at hl 0 rfl) ?_
  refine g5_34 E I dX5_matchersNow_11 ?_
  refine lv_iconst (v := (0 : Int32)) hx hb dX5_matchersNow_14 (by decide) ?_
  refine m_ld9 E I (f := (m_waysOn st4)) rfl (by decide) dX5_matchersNow_15 ?_
  cases h
  exact K _ _ _ _ I dX5_matchersNow_16
set_option maxHeartbeats 4000000 in
set_option maxRecDepth 100000 in
theorem c5_withEmpty {l : Launch} {D : va_G} {g : Nat → ClassId} {a : Nat → Nat} {st : MS} {x91 : Int32} {o : Int64} (h : f5_withEmpty st x91 = some o) : ct l yX5_withEmpty cX5_withEmpty 7 (some .long) (rmk 0 0) D g (mW g a st) (mW g a st) [.ref (a 0), .int x91] (some (.long o)) := by
  refine ct_of ⟨rfl, rfl⟩ (by decide) (Nat.le_of_ble_eq_true rfl) ?_
  intro p e s m args below meth c ls Q A H0 H locs E I hl K
  have E : en p m c cX5_withEmpty 7 s args RX5 D g := E
  have hx := E.1.1
  have hb := E.1.2.1
  have hl : lv_has ls 7 [(0, .ref (a 0)), (1, .int x91)] := hl
  have K : ∀ (pc : Nat) (ls : Array Slot) (H : Heap) (locs : List Loc), wk D (mW g a st) A H0 H locs → decode cX5_withEmpty pc = .ok (.lreturn, 1) → W p l e (rmk 0 0) s m args below meth c H locs 0 0 Q (F0 m pc ls [.long o]) := fun pc ls H locs I hd => K pc ls H locs I hd
  have h : ((bi1 (wh (f5_withEmpty_b5 st x91) FU ((1 : Int64), (0 : Int32))) fun w28 => some w28) : Option Int64) = some o := h
  refine lv_lconst (v := (1 : Int64)) hx hb dX5_withEmpty_0 (by decide) ?_
  refine lv_lstore_n (lv' := [(2, .long (1 : Int64)), (0, .ref (a 0)), (1, .int x91)]) hx hb dX5_withEmpty_1 rfl hl (by decide) rfl (fun ls hl => ?_)
  refine lv_iconst (v := (0 : Int32)) hx hb dX5_withEmpty_2 (by decide) ?_
  refine lv_istore (lv' := [(4, .int (0 : Int32)), (2, .long (1 : Int64)), (0, .ref (a 0)), (1, .int x91)]) hx hb dX5_withEmpty_3 hl (by decide) rfl (fun ls hl => ?_)
  obtain ⟨z25, hw26, h⟩ := bx1 h
  refine wh_W (P := fun (z : Int64 × Int32) => ∀ (H : Heap) (locs : List Loc) (ls : Array Slot), wk D (mW g a st) A H0 H locs → lv_has ls 7 [(0, .ref (a 0)), (1, .int x91), (2, .long z.1), (4, .int z.2)] → W p l e (rmk 0 0) s m args below meth c H locs 0 0 Q (F0 m 5 ls [])) (X := fun (z : Int64) => ∀ (H : Heap) (locs : List Loc) (ls : Array Slot), wk D (mW g a st) A H0 H locs → lv_has ls 7 [(2, .long z)] → W p l e (rmk 0 0) s m args below meth c H locs 0 0 Q (F0 m 71 ls [])) ?_ FU _ _ hw26 ?_ _ _ _ I (lv_sub hl [2, 3, 1, 0] rfl)
  · intro z o5 h hk6 H locs ls I hl
    obtain ⟨x3, x4⟩ := z
    have h : ((if (4 : Int32) ≤ x4 then some (.inr x3) else (bi1 (wh (f5_withEmpty_b17 st x91 x3 x4) FU ((0 : Int32), (0 : Int32))) fun w24 => some (.inl ((x3 * w24.toInt64), (x4 + 1))))) : Option ((Int64 × Int32) ⊕ (Int64))) = some o5 := h
    have I : wk D (mW g a st) A H0 H locs := I
    have hl : lv_has ls 7 [(0, .ref (a 0)), (1, .int x91), (2, .long x3), (4, .int x4)] := hl
    refine lv_iload hx hb dX5_withEmpty_5 (lv_at hl 3 rfl) ?_
    refine lv_iconst (v := (4 : Int32)) hx hb dX5_withEmpty_7 (by decide) ?_
    refine lv_icmp_ge (tgt := 71) hx hb dX5_withEmpty_8 (by decide) (fun hc7 => ?_) (fun hc7 => ?_)
    · have h := ifp hc7 h
      cases h
      exact hk6 _ _ _ I (lv_sub hl [2] rfl)
    · have h := ifn hc7 h
      refine lv_iconst (v := (0 : Int32)) hx hb dX5_withEmpty_11 (by decide) ?_
      refine lv_istore (lv' := [(5, .int (0 : Int32)), (0, .ref (a 0)), (1, .int x91), (2, .long x3), (4, .int x4)]) hx hb dX5_withEmpty_12 hl (by decide) rfl (fun ls hl => ?_)
      refine lv_iconst (v := (0 : Int32)) hx hb dX5_withEmpty_14 (by decide) ?_
      refine lv_istore (lv' := [(6, .int (0 : Int32)), (5, .int (0 : Int32)), (0, .ref (a 0)), (1, .int x91), (2, .long x3), (4, .int x4)]) hx hb dX5_withEmpty_15 hl (by decide) rfl (fun ls hl => ?_)
      obtain ⟨z21, hw22, h⟩ := bx1 h
      refine wh_W (P := fun (z : Int32 × Int32) => ∀ (H : Heap) (locs : List Loc) (ls : Array Slot), wk D (mW g a st) A H0 H locs → lv_has ls 7 [(0, .ref (a 0)), (1, .int x91), (2, .long x3), (4, .int x4), (5, .int z.1), (6, .int z.2)] → W p l e (rmk 0 0) s m args below meth c H locs 0 0 Q (F0 m 17 ls [])) (X := fun (z : Int32) => ∀ (H : Heap) (locs : List Loc) (ls : Array Slot), wk D (mW g a st) A H0 H locs → lv_has ls 7 [(0, .ref (a 0)), (1, .int x91), (2, .long x3), (4, .int x4), (5, .int z)] → W p l e (rmk 0 0) s m args below meth c H locs 0 0 Q (F0 m 59 ls [])) ?_ FU _ _ hw22 ?_ _ _ _ I (lv_sub hl [2, 3, 4, 5, 1, 0] rfl)
      · intro z o14 h hk15 H locs ls I hl
        obtain ⟨x12, x13⟩ := z
        have h : ((if (16 : Int32) ≤ x13 then some (.inr x12) else (if (x13 &&& x91) = 0 then (if ib (((16 : Int32) * x4) + x13) 64 = true then (lq (x12 + ((m_bySupport st) (((16 : Int32) * x4) + x13).toNatClampNeg)) fun x19 => some (.inl (x19, (x13 + 1)))) else none) else some (.inl ((x12 + (0 : Int32)), (x13 + 1))))) : Option ((Int32 × Int32) ⊕ (Int32))) = some o14 := h
        have I : wk D (mW g a st) A H0 H locs := I
        have hl : lv_has ls 7 [(0, .ref (a 0)), (1, .int x91), (2, .long x3), (4, .int x4), (5, .int x12), (6, .int x13)] := hl
        refine lv_iload hx hb dX5_withEmpty_17 (lv_at hl 5 rfl) ?_
        refine lv_bipush (v := (16 : Int32)) hx hb dX5_withEmpty_19 (by decide) ?_
        refine lv_icmp_ge (tgt := 59) hx hb dX5_withEmpty_21 (by decide) (fun hc16 => ?_) (fun hc16 => ?_)
        · have h := ifp hc16 h
          cases h
          exact hk15 _ _ _ I (lv_sub hl [0, 1, 2, 3, 4] rfl)
        · have h := ifn hc16 h
          refine lv_iload hx hb dX5_withEmpty_24 (lv_at hl 4 rfl) ?_
          refine lv_iload hx hb dX5_withEmpty_26 (lv_at hl 5 rfl) ?_
          refine lv_iload_n hx hb dX5_withEmpty_28 rfl (lv_at hl 1 rfl) ?_
          refine lv_iand hx hb dX5_withEmpty_29 ?_
          refine lv_if_ne (tgt := 49) hx hb dX5_withEmpty_30 (by decide) (fun hc17 => ?_) (fun hc17 => ?_)
          · have h := ifn hc17 h
            refine lv_iconst (v := (0 : Int32)) hx hb dX5_withEmpty_49 (by decide) ?_
            refine lv_iadd hx hb dX5_withEmpty_50 ?_
            refine lv_istore (lv' := [(5, .int (x12 + (0 : Int32))), (0, .ref (a 0)), (1, .int x91), (2, .long x3), (4, .int x4), (6, .int x13)]) hx hb dX5_withEmpty_51 hl (by decide) rfl (fun ls hl => ?_)
            refine lv_iinc (v := (x13 + 1)) (lv' := [(6, .int (x13 + 1)), (5, .int (x12 + (0 : Int32))), (0, .ref (a 0)), (1, .int x91), (2, .long x3), (4, .int x4)]) hx hb dX5_withEmpty_53 hl (k := 5) rfl rfl (by decide) rfl (fun ls hl => ?_)
            refine lv_goto (tgt := 17) hx hb dX5_withEmpty_56 (by decide) ?_
            cases h
            exact hk15 _ _ _ I (lv_sub hl [2, 3, 4, 5, 1, 0] rfl)
          · have h := ifp hc17 h
            refine lv_aload_n hx hb dX5_withEmpty_33 rfl (lv_at hl 0 rfl) ?_
            refine g5_31 E I dX5_withEmpty_34 ?_
            refine lv_bipush (v := (16 : Int32)) hx hb dX5_withEmpty_37 (by decide) ?_
            refine lv_iload hx hb dX5_withEmpty_39 (lv_at hl 3 rfl) ?_
            refine lv_imul hx hb dX5_withEmpty_41 ?_
            refine lv_iload hx hb dX5_withEmpty_42 (lv_at hl 5 rfl) ?_
            refine lv_iadd hx hb dX5_withEmpty_44 ?_
            obtain ⟨hc18, h⟩ := gd h
            refine m_ld8 E I (f := (m_bySupport st)) rfl hc18 dX5_withEmpty_45 ?_
            refine lv_goto (tgt := 50) hx hb dX5_withEmpty_46 (by decide) ?_
            refine lv_iadd hx hb dX5_withEmpty_50 ?_
            obtain ⟨x19, hx20, h⟩ := lqx h
            refine lv_istore (x := (x12 + ((m_bySupport st) (((16 : Int32) * x4) + x13).toNatClampNeg))) (lv' := [(5, .int x19), (0, .ref (a 0)), (1, .int x91), (2, .long x3), (4, .int x4), (6, .int x13)]) hx hb dX5_withEmpty_51 hl (by decide) (by subst hx20; rfl) (fun ls hl => ?_)
            refine lv_iinc (v := (x13 + 1)) (lv' := [(6, .int (x13 + 1)), (5, .int x19), (0, .ref (a 0)), (1, .int x91), (2, .long x3), (4, .int x4)]) hx hb dX5_withEmpty_53 hl (k := 5) rfl rfl (by decide) rfl (fun ls hl => ?_)
            refine lv_goto (tgt := 17) hx hb dX5_withEmpty_56 (by decide) ?_
            cases h
            exact hk15 _ _ _ I (lv_sub hl [2, 3, 4, 5, 1, 0] rfl)
      · obtain ⟨x23, rfl⟩ : ∃ y, y = z21 := ⟨_, rfl⟩
        intro H locs ls I hl
        have h : (some (.inl ((x3 * x23.toInt64), (x4 + 1))) : Option ((Int64 × Int32) ⊕ (Int64))) = some o5 := h
        have I : wk D (mW g a st) A H0 H locs := I
        have hl : lv_has ls 7 [(0, .ref (a 0)), (1, .int x91), (2, .long x3), (4, .int x4), (5, .int x23)] := hl
        refine lv_lload_n hx hb dX5_withEmpty_59 rfl (lv_at hl 2 rfl) ?_
        refine lv_iload hx hb dX5_withEmpty_60 (lv_at hl 4 rfl) ?_
        refine lv_i2l (v := x23.toInt64) hx hb dX5_withEmpty_62 rfl ?_
        refine lv_lmul hx hb dX5_withEmpty_63 ?_
        refine lv_lstore_n (lv' := [(2, .long (x3 * x23.toInt64)), (0, .ref (a 0)), (1, .int x91), (4, .int x4), (5, .int x23)]) hx hb dX5_withEmpty_64 rfl hl (by decide) rfl (fun ls hl => ?_)
        refine lv_iinc (v := (x4 + 1)) (lv' := [(4, .int (x4 + 1)), (2, .long (x3 * x23.toInt64)), (0, .ref (a 0)), (1, .int x91), (5, .int x23)]) hx hb dX5_withEmpty_65 hl (k := 3) rfl rfl (by decide) rfl (fun ls hl => ?_)
        refine lv_goto (tgt := 5) hx hb dX5_withEmpty_68 (by decide) ?_
        cases h
        exact hk6 _ _ _ I (lv_sub hl [2, 3, 1, 0] rfl)
  · obtain ⟨x27, rfl⟩ : ∃ y, y = z25 := ⟨_, rfl⟩
    intro H locs ls I hl
    have h : (some x27 : Option Int64) = some o := h
    have I : wk D (mW g a st) A H0 H locs := I
    have hl : lv_has ls 7 [(2, .long x27)] := hl
    refine lv_lload_n hx hb dX5_withEmpty_71 rfl (lv_at hl 0 rfl) ?_
    cases h
    exact K _ _ _ _ I dX5_withEmpty_72
set_option maxHeartbeats 4000000 in
set_option maxRecDepth 100000 in
theorem c5_ones {l : Launch} {D : va_G} {g : Nat → ClassId} {x90 : Int32} {o : Int32} (h : f5_ones x90 = o) : ct l yX5_ones cX5_ones 1 (some .int) (rmk 0 0) D g [] [] [.int x90] (some (.int o)) := by
  refine ct_of ⟨rfl, rfl⟩ (by decide) (Nat.le_of_ble_eq_true rfl) ?_
  intro p e s m args below meth c ls Q A H0 H locs E I hl K
  have E : en p m c cX5_ones 1 s args RX5 D g := E
  have hx := E.1.1
  have hb := E.1.2.1
  have hl : lv_has ls 1 [(0, .int x90)] := hl
  have K : ∀ (pc : Nat) (ls : Array Slot) (H : Heap) (locs : List Loc), wk D [] A H0 H locs → decode cX5_ones pc = .ok (.ireturn, 1) → W p l e (rmk 0 0) s m args below meth c H locs 0 0 Q (F0 m pc ls [.int o]) := fun pc ls H locs I hd => K pc ls H locs I hd
  have h : (((((x90 &&& (1 : Int32)) + ((x90 >>> ((1 : Int32) &&& 31)) &&& (1 : Int32))) + ((x90 >>> ((2 : Int32) &&& 31)) &&& (1 : Int32))) + ((x90 >>> ((3 : Int32) &&& 31)) &&& (1 : Int32))) : Int32) = o := h
  refine lv_iload_n hx hb dX5_ones_0 rfl (lv_at hl 0 rfl) ?_
  refine lv_iconst (v := (1 : Int32)) hx hb dX5_ones_1 (by decide) ?_
  refine lv_iand hx hb dX5_ones_2 ?_
  refine lv_iload_n hx hb dX5_ones_3 rfl (lv_at hl 0 rfl) ?_
  refine lv_iconst (v := (1 : Int32)) hx hb dX5_ones_4 (by decide) ?_
  refine lv_ishr hx hb dX5_ones_5 ?_
  refine lv_iconst (v := (1 : Int32)) hx hb dX5_ones_6 (by decide) ?_
  refine lv_iand hx hb dX5_ones_7 ?_
  refine lv_iadd hx hb dX5_ones_8 ?_
  refine lv_iload_n hx hb dX5_ones_9 rfl (lv_at hl 0 rfl) ?_
  refine lv_iconst (v := (2 : Int32)) hx hb dX5_ones_10 (by decide) ?_
  refine lv_ishr hx hb dX5_ones_11 ?_
  refine lv_iconst (v := (1 : Int32)) hx hb dX5_ones_12 (by decide) ?_
  refine lv_iand hx hb dX5_ones_13 ?_
  refine lv_iadd hx hb dX5_ones_14 ?_
  refine lv_iload_n hx hb dX5_ones_15 rfl (lv_at hl 0 rfl) ?_
  refine lv_iconst (v := (3 : Int32)) hx hb dX5_ones_16 (by decide) ?_
  refine lv_ishr hx hb dX5_ones_17 ?_
  refine lv_iconst (v := (1 : Int32)) hx hb dX5_ones_18 (by decide) ?_
  refine lv_iand hx hb dX5_ones_19 ?_
  refine lv_iadd hx hb dX5_ones_20 ?_
  cases h
  exact K _ _ _ _ I dX5_ones_21
set_option maxHeartbeats 4000000 in
set_option maxRecDepth 100000 in
theorem c5_matchersBySets {l : Launch} {D : va_G} {g : Nat → ClassId} {a : Nat → Nat} {st : MS} {o : MS × Int64} (h : f5_matchersBySets st = some o) : ct l yX5_matchersBySets cX5_matchersBySets 4 (some .long) (rmk 5 122) D g (mW g a st) (mW g a o.1) [.ref (a 0)] (some (.long o.2)) := by
  refine ct_of ⟨rfl, rfl⟩ (by decide) (Nat.le_of_ble_eq_true rfl) ?_
  intro p e s m args below meth c ls Q A H0 H locs E I hl K
  have E : en p m c cX5_matchersBySets 4 s args RX5 D g := E
  have hx := E.1.1
  have hb := E.1.2.1
  have hl : lv_has ls 4 [(0, .ref (a 0))] := hl
  have K : ∀ (pc : Nat) (ls : Array Slot) (H : Heap) (locs : List Loc), wk D (mW g a o.1) A H0 H locs → decode cX5_matchersBySets pc = .ok (.lreturn, 1) → W p l e (rmk 5 122) s m args below meth c H locs 0 0 Q (F0 m pc ls [.long o.2]) := fun pc ls H locs I hd => K pc ls H locs I hd
  have h : ((bi1 (f5_listAll st (-1 : Int32) (0 : Int32)) fun st2 => (if ((m_z st2) (24 : Int32).toNatClampNeg) = (1 : Int32) then (bi1 (f5_withEmpty st2 (0 : Int32)) fun r23 => some (st2, r23)) else (bi1 (wh (f5_matchersBySets_b27 st2) FU ((0 : Int64), (0 : Int32))) fun w21 => some (st2, w21)))) : Option (MS × Int64)) = some o := h
  refine lv_aload_n hx hb dX5_matchersBySets_0 rfl (lv_at hl 0 rfl) ?_
  refine lv_iconst (v := (-1 : Int32)) hx hb dX5_matchersBySets_1 (by decide) ?_
  refine lv_iconst (v := (0 : Int32)) hx hb dX5_matchersBySets_2 (by decide) ?_
  obtain ⟨st2, hc1, h⟩ := bx1 h
  refine r_callV0 (As := [.int (-1 : Int32), .int (0 : Int32)]) (rest := []) (ws' := (mW g a st2)) (q0 := 0) E I hl.1 k5_87 (c5_listAll hc1) mW_k rfl rfl rfl rfl (Nat.le_of_ble_eq_true rfl) ⟨Nat.le_of_ble_eq_true rfl, Nat.le_of_ble_eq_true rfl⟩ ⟨Nat.zero_le _, Nat.zero_le _⟩ dX5_matchersBySets_3 (fun H locs I => ?_)
  refine lv_aload_n hx hb dX5_matchersBySets_6 rfl (lv_at hl 0 rfl) ?_
  refine g5_7 E I dX5_matchersBySets_7 ?_
  refine lv_bipush (v := (24 : Int32)) hx hb dX5_matchersBySets_10 (by decide) ?_
  refine m_ld1 E I (f := (m_z st2)) rfl (by decide) dX5_matchersBySets_12 ?_
  refine lv_iconst (v := (1 : Int32)) hx hb dX5_matchersBySets_13 (by decide) ?_
  refine lv_icmp_ne (tgt := 23) hx hb dX5_matchersBySets_14 (by decide) (fun hc3 => ?_) (fun hc3 => ?_)
  · have h := ifn hc3 h
    refine lv_lconst (v := (0 : Int64)) hx hb dX5_matchersBySets_23 (by decide) ?_
    refine lv_lstore_n (lv' := [(1, .long (0 : Int64)), (0, .ref (a 0))]) hx hb dX5_matchersBySets_24 rfl hl (by decide) rfl (fun ls hl => ?_)
    refine lv_iconst (v := (0 : Int32)) hx hb dX5_matchersBySets_25 (by decide) ?_
    refine lv_istore_n (lv' := [(3, .int (0 : Int32)), (1, .long (0 : Int64)), (0, .ref (a 0))]) hx hb dX5_matchersBySets_26 rfl hl (by decide) rfl (fun ls hl => ?_)
    obtain ⟨z18, hw19, h⟩ := bx1 h
    refine wh_W (P := fun (z : Int64 × Int32) => ∀ (H : Heap) (locs : List Loc) (ls : Array Slot), wk D (mW g a st2) A H0 H locs → lv_has ls 4 [(0, .ref (a 0)), (1, .long z.1), (3, .int z.2)] → W p l e (rmk 5 122) s m args below meth c H locs 0 0 Q (F0 m 27 ls [])) (X := fun (z : Int64) => ∀ (H : Heap) (locs : List Loc) (ls : Array Slot), wk D (mW g a st2) A H0 H locs → lv_has ls 4 [(1, .long z)] → W p l e (rmk 5 122) s m args below meth c H locs 0 0 Q (F0 m 76 ls [])) ?_ FU _ _ hw19 ?_ _ _ _ I (lv_sub hl [2, 1, 0] rfl)
    · intro z o7 h hk8 H locs ls I hl
      obtain ⟨x5, x6⟩ := z
      have h : ((if (16 : Int32) ≤ x6 then some (.inr x5) else (bi1 (f5_patternMask st2) fun r11 => (if (x6 &&& (r11 ^^^ (-1 : Int32))) = 0 then (if ((f5_ones x6) - (f5_ones x6) / (2 : Int32) * (2 : Int32)) = 0 then (bi1 (f5_withEmpty st2 x6) fun r17 => some (.inl ((x5 + r17), (x6 + 1)))) else (bi1 (f5_withEmpty st2 x6) fun r15 => some (.inl ((x5 + (-r15)), (x6 + 1))))) else some (.inl (x5, (x6 + 1)))))) : Option ((Int64 × Int32) ⊕ (Int64))) = some o7 := h
      have I : wk D (mW g a st2) A H0 H locs := I
      have hl : lv_has ls 4 [(0, .ref (a 0)), (1, .long x5), (3, .int x6)] := hl
      refine lv_iload_n hx hb dX5_matchersBySets_27 rfl (lv_at hl 2 rfl) ?_
      refine lv_bipush (v := (16 : Int32)) hx hb dX5_matchersBySets_28 (by decide) ?_
      refine lv_icmp_ge (tgt := 76) hx hb dX5_matchersBySets_30 (by decide) (fun hc9 => ?_) (fun hc9 => ?_)
      · have h := ifp hc9 h
        cases h
        exact hk8 _ _ _ I (lv_sub hl [1] rfl)
      · have h := ifn hc9 h
        refine lv_iload_n hx hb dX5_matchersBySets_33 rfl (lv_at hl 2 rfl) ?_
        refine lv_aload_n hx hb dX5_matchersBySets_34 rfl (lv_at hl 0 rfl) ?_
        obtain ⟨r11, hc10, h⟩ := bx1 h
        refine r_callV1 (As := []) (rest := [.int x6]) (ws' := (mW g a st2)) (q0 := 0) E I hl.1 k5_83 (c5_patternMask hc10) mW_k rfl rfl rfl rfl (Nat.le_of_ble_eq_true rfl) ⟨Nat.le_of_ble_eq_true rfl, Nat.le_of_ble_eq_true rfl⟩ ⟨Nat.zero_le _, Nat.zero_le _⟩ dX5_matchersBySets_35 (fun H locs I => ?_)
        refine lv_iconst (v := (-1 : Int32)) hx hb dX5_matchersBySets_38 (by decide) ?_
        refine lv_ixor hx hb dX5_matchersBySets_39 ?_
        refine lv_iand hx hb dX5_matchersBySets_40 ?_
        refine lv_if_ne (tgt := 70) hx hb dX5_matchersBySets_41 (by decide) (fun hc12 => ?_) (fun hc12 => ?_)
        · have h := ifn hc12 h
          refine lv_iinc (v := (x6 + 1)) (lv' := [(3, .int (x6 + 1)), (0, .ref (a 0)), (1, .long x5)]) hx hb dX5_matchersBySets_70 hl (k := 2) rfl rfl (by decide) rfl (fun ls hl => ?_)
          refine lv_goto (tgt := 27) hx hb dX5_matchersBySets_73 (by decide) ?_
          cases h
          exact hk8 _ _ _ I (lv_sub hl [1, 2, 0] rfl)
        · have h := ifp hc12 h
          refine lv_lload_n hx hb dX5_matchersBySets_44 rfl (lv_at hl 1 rfl) ?_
          refine lv_iload_n hx hb dX5_matchersBySets_45 rfl (lv_at hl 2 rfl) ?_
          refine r_callS1 (As := [.int x6]) (rest := [.long x5]) E I hl.1 k5_97 (c5_ones rfl) rfl rfl (Nat.le_of_ble_eq_true rfl) ⟨Nat.le_of_ble_eq_true rfl, Nat.le_of_ble_eq_true rfl⟩ ⟨Nat.zero_le _, Nat.zero_le _⟩ dX5_matchersBySets_46 (fun H locs I => ?_)
          refine lv_iconst (v := (2 : Int32)) hx hb dX5_matchersBySets_49 (by decide) ?_
          refine lv_irem hx hb dX5_matchersBySets_50 (by decide) ?_
          refine lv_if_ne (tgt := 62) hx hb dX5_matchersBySets_51 (by decide) (fun hc13 => ?_) (fun hc13 => ?_)
          · have h := ifn hc13 h
            refine lv_aload_n hx hb dX5_matchersBySets_62 rfl (lv_at hl 0 rfl) ?_
            refine lv_iload_n hx hb dX5_matchersBySets_63 rfl (lv_at hl 2 rfl) ?_
            obtain ⟨r15, hc14, h⟩ := bx1 h
            refine r_callV1 (As := [.int x6]) (rest := [.long x5]) (ws' := (mW g a st2)) (q0 := 0) E I hl.1 k5_93 (c5_withEmpty hc14) mW_k rfl rfl rfl rfl (Nat.le_of_ble_eq_true rfl) ⟨Nat.le_of_ble_eq_true rfl, Nat.le_of_ble_eq_true rfl⟩ ⟨Nat.zero_le _, Nat.zero_le _⟩ dX5_matchersBySets_64 (fun H locs I => ?_)
            refine lv_lneg hx hb dX5_matchersBySets_67 ?_
            refine lv_ladd hx hb dX5_matchersBySets_68 ?_
            refine lv_lstore_n (lv' := [(1, .long (x5 + (-r15))), (0, .ref (a 0)), (3, .int x6)]) hx hb dX5_matchersBySets_69 rfl hl (by decide) rfl (fun ls hl => ?_)
            refine lv_iinc (v := (x6 + 1)) (lv' := [(3, .int (x6 + 1)), (1, .long (x5 + (-r15))), (0, .ref (a 0))]) hx hb dX5_matchersBySets_70 hl (k := 2) rfl rfl (by decide) rfl (fun ls hl => ?_)
            refine lv_goto (tgt := 27) hx hb dX5_matchersBySets_73 (by decide) ?_
            cases h
            exact hk8 _ _ _ I (lv_sub hl [2, 1, 0] rfl)
          · have h := ifp hc13 h
            refine lv_aload_n hx hb dX5_matchersBySets_54 rfl (lv_at hl 0 rfl) ?_
            refine lv_iload_n hx hb dX5_matchersBySets_55 rfl (lv_at hl 2 rfl) ?_
            obtain ⟨r17, hc16, h⟩ := bx1 h
            refine r_callV1 (As := [.int x6]) (rest := [.long x5]) (ws' := (mW g a st2)) (q0 := 0) E I hl.1 k5_93 (c5_withEmpty hc16) mW_k rfl rfl rfl rfl (Nat.le_of_ble_eq_true rfl) ⟨Nat.le_of_ble_eq_true rfl, Nat.le_of_ble_eq_true rfl⟩ ⟨Nat.zero_le _, Nat.zero_le _⟩ dX5_matchersBySets_56 (fun H locs I => ?_)
            refine lv_goto (tgt := 68) hx hb dX5_matchersBySets_59 (by decide) ?_
            refine lv_ladd hx hb dX5_matchersBySets_68 ?_
            refine lv_lstore_n (lv' := [(1, .long (x5 + r17)), (0, .ref (a 0)), (3, .int x6)]) hx hb dX5_matchersBySets_69 rfl hl (by decide) rfl (fun ls hl => ?_)
            refine lv_iinc (v := (x6 + 1)) (lv' := [(3, .int (x6 + 1)), (1, .long (x5 + r17)), (0, .ref (a 0))]) hx hb dX5_matchersBySets_70 hl (k := 2) rfl rfl (by decide) rfl (fun ls hl => ?_)
            refine lv_goto (tgt := 27) hx hb dX5_matchersBySets_73 (by decide) ?_
            cases h
            exact hk8 _ _ _ I (lv_sub hl [2, 1, 0] rfl)
    · obtain ⟨x20, rfl⟩ : ∃ y, y = z18 := ⟨_, rfl⟩
      intro H locs ls I hl
      have h : (some (st2, x20) : Option (MS × Int64)) = some o := h
      have I : wk D (mW g a st2) A H0 H locs := I
      have hl : lv_has ls 4 [(1, .long x20)] := hl
      refine lv_lload_n hx hb dX5_matchersBySets_76 rfl (lv_at hl 0 rfl) ?_
      cases h
      exact K _ _ _ _ I dX5_matchersBySets_77
  · have h := ifp hc3 h
    refine lv_aload_n hx hb dX5_matchersBySets_17 rfl (lv_at hl 0 rfl) ?_
    refine lv_iconst (v := (0 : Int32)) hx hb dX5_matchersBySets_18 (by decide) ?_
    obtain ⟨r23, hc22, h⟩ := bx1 h
    refine r_callV1 (As := [.int (0 : Int32)]) (rest := []) (ws' := (mW g a st2)) (q0 := 0) E I hl.1 k5_93 (c5_withEmpty hc22) mW_k rfl rfl rfl rfl (Nat.le_of_ble_eq_true rfl) ⟨Nat.le_of_ble_eq_true rfl, Nat.le_of_ble_eq_true rfl⟩ ⟨Nat.zero_le _, Nat.zero_le _⟩ dX5_matchersBySets_19 (fun H locs I => ?_)
    cases h
    exact K _ _ _ _ I dX5_matchersBySets_22
set_option maxHeartbeats 4000000 in
set_option maxRecDepth 100000 in
theorem c5_isMatcher {l : Launch} {D : va_G} {g : Nat → ClassId} {a : Nat → Nat} {st : MS} {x91 : Int32} {o : MS × Int32} (h : f5_isMatcher st x91 = some o) : ct l yX5_isMatcher cX5_isMatcher 2 (some .boolean) (rmk 6 142) D g (mW g a st) (mW g a o.1) [.ref (a 0), .int x91] (some (.int o.2)) := by
  refine ct_of ⟨rfl, rfl⟩ (by decide) (Nat.le_of_ble_eq_true rfl) ?_
  intro p e s m args below meth c ls Q A H0 H locs E I hl K
  have E : en p m c cX5_isMatcher 2 s args RX5 D g := E
  have hx := E.1.1
  have hb := E.1.2.1
  have hl : lv_has ls 2 [(0, .ref (a 0)), (1, .int x91)] := hl
  have K : ∀ (pc : Nat) (ls : Array Slot) (H : Heap) (locs : List Loc), wk D (mW g a o.1) A H0 H locs → decode cX5_isMatcher pc = .ok (.ireturn, 1) → zok o.2 = true → W p l e (rmk 6 142) s m args below meth c H locs 0 0 Q (F0 m pc ls [.int o.2]) := fun pc ls H locs I hd hz => K pc ls H locs I ⟨hd, hz⟩
  have h : ((if x91 < 0 then some (st, (0 : Int32)) else (bi2 (f5_matchersNow st) fun st3 r4 => (if 0 ≤ (lg_cmp x91.toInt64 r4) then some (st3, (0 : Int32)) else some (st3, (1 : Int32))))) : Option (MS × Int32)) = some o := h
  refine lv_iload_n hx hb dX5_isMatcher_0 rfl (lv_at hl 1 rfl) ?_
  refine lv_if_lt (tgt := 18) hx hb dX5_isMatcher_1 (by decide) (fun hc1 => ?_) (fun hc1 => ?_)
  · have h := ifp hc1 h
    refine lv_iconst (v := (0 : Int32)) hx hb dX5_isMatcher_18 (by decide) ?_
    cases h
    exact K _ _ _ _ I dX5_isMatcher_19 rfl
  · have h := ifn hc1 h
    refine lv_iload_n hx hb dX5_isMatcher_4 rfl (lv_at hl 1 rfl) ?_
    refine lv_i2l (v := x91.toInt64) hx hb dX5_isMatcher_5 rfl ?_
    refine lv_aload_n hx hb dX5_isMatcher_6 rfl (lv_at hl 0 rfl) ?_
    obtain ⟨st3, r4, hc2, h⟩ := bx2 h
    refine r_callV1 (As := []) (rest := [.long x91.toInt64]) (ws' := (mW g a st3)) (q0 := 0) E I hl.1 k5_100 (c5_matchersNow hc2) mW_k rfl rfl rfl rfl (Nat.le_of_ble_eq_true rfl) ⟨Nat.le_of_ble_eq_true rfl, Nat.le_of_ble_eq_true rfl⟩ ⟨Nat.zero_le _, Nat.zero_le _⟩ dX5_isMatcher_7 (fun H locs I => ?_)
    refine W.lcmp hx hb dX5_isMatcher_10 ?_
    refine lv_if_ge (tgt := 18) hx hb dX5_isMatcher_11 (by decide) (fun hc5 => ?_) (fun hc5 => ?_)
    · have h := ifp hc5 h
      refine lv_iconst (v := (0 : Int32)) hx hb dX5_isMatcher_18 (by decide) ?_
      cases h
      exact K _ _ _ _ I dX5_isMatcher_19 rfl
    · have h := ifn hc5 h
      refine lv_iconst (v := (1 : Int32)) hx hb dX5_isMatcher_14 (by decide) ?_
      refine lv_goto (tgt := 19) hx hb dX5_isMatcher_15 (by decide) ?_
      cases h
      exact K _ _ _ _ I dX5_isMatcher_19 rfl
set_option maxHeartbeats 4000000 in
set_option maxRecDepth 100000 in
theorem c5_supportOf {l : Launch} {D : va_G} {g : Nat → ClassId} {x90 : Int32} {o : Int32} (h : f5_supportOf x90 = o) : ct l yX5_supportOf cX5_supportOf 1 (some .int) (rmk 0 0) D g [] [] [.int x90] (some (.int o)) := by
  refine ct_of ⟨rfl, rfl⟩ (by decide) (Nat.le_of_ble_eq_true rfl) ?_
  intro p e s m args below meth c ls Q A H0 H locs E I hl K
  have E : en p m c cX5_supportOf 1 s args RX5 D g := E
  have hx := E.1.1
  have hb := E.1.2.1
  have hl : lv_has ls 1 [(0, .int x90)] := hl
  have K : ∀ (pc : Nat) (ls : Array Slot) (H : Heap) (locs : List Loc), wk D [] A H0 H locs → decode cX5_supportOf pc = .ok (.ireturn, 1) → W p l e (rmk 0 0) s m args below meth c H locs 0 0 Q (F0 m pc ls [.int o]) := fun pc ls H locs I hd => K pc ls H locs I hd
  have h : (((((if (x90 / (1000 : Int32)) ≤ 0 then (0 : Int32) else (1 : Int32)) + (if ((x90 / (100 : Int32)) - (x90 / (100 : Int32)) / (10 : Int32) * (10 : Int32)) ≤ 0 then (0 : Int32) else (2 : Int32))) + (if ((x90 / (10 : Int32)) - (x90 / (10 : Int32)) / (10 : Int32) * (10 : Int32)) ≤ 0 then (0 : Int32) else (4 : Int32))) + (if (x90 - x90 / (10 : Int32) * (10 : Int32)) ≤ 0 then (0 : Int32) else (8 : Int32))) : Int32) = o := h
  refine lv_iload_n hx hb dX5_supportOf_0 rfl (lv_at hl 0 rfl) ?_
  refine lv_sipush (v := (1000 : Int32)) hx hb dX5_supportOf_1 (by decide) ?_
  refine lv_idiv hx hb dX5_supportOf_4 (by decide) ?_
  have J2 : ∀ (v1 : Int32) (H : Heap) (locs : List Loc), v1 = (if (x90 / (1000 : Int32)) ≤ 0 then (0 : Int32) else (1 : Int32)) → wk D [] A H0 H locs → W p l e (rmk 0 0) s m args below meth c H locs 0 0 Q (F0 m 13 ls [.int v1]) := by
    intro v1 H locs hv3 I
    subst hv3
    refine lv_iload_n hx hb dX5_supportOf_13 rfl (lv_at hl 0 rfl) ?_
    refine lv_bipush (v := (100 : Int32)) hx hb dX5_supportOf_14 (by decide) ?_
    refine lv_idiv hx hb dX5_supportOf_16 (by decide) ?_
    refine lv_bipush (v := (10 : Int32)) hx hb dX5_supportOf_17 (by decide) ?_
    refine lv_irem hx hb dX5_supportOf_19 (by decide) ?_
    have J5 : ∀ (v4 : Int32) (H : Heap) (locs : List Loc), v4 = (if ((x90 / (100 : Int32)) - (x90 / (100 : Int32)) / (10 : Int32) * (10 : Int32)) ≤ 0 then (0 : Int32) else (2 : Int32)) → wk D [] A H0 H locs → W p l e (rmk 0 0) s m args below meth c H locs 0 0 Q (F0 m 28 ls [.int v4, .int (if (x90 / (1000 : Int32)) ≤ 0 then (0 : Int32) else (1 : Int32))]) := by
      intro v4 H locs hv6 I
      subst hv6
      refine lv_iadd hx hb dX5_supportOf_28 ?_
      refine lv_iload_n hx hb dX5_supportOf_29 rfl (lv_at hl 0 rfl) ?_
      refine lv_bipush (v := (10 : Int32)) hx hb dX5_supportOf_30 (by decide) ?_
      refine lv_idiv hx hb dX5_supportOf_32 (by decide) ?_
      refine lv_bipush (v := (10 : Int32)) hx hb dX5_supportOf_33 (by decide) ?_
      refine lv_irem hx hb dX5_supportOf_35 (by decide) ?_
      have J8 : ∀ (v7 : Int32) (H : Heap) (locs : List Loc), v7 = (if ((x90 / (10 : Int32)) - (x90 / (10 : Int32)) / (10 : Int32) * (10 : Int32)) ≤ 0 then (0 : Int32) else (4 : Int32)) → wk D [] A H0 H locs → W p l e (rmk 0 0) s m args below meth c H locs 0 0 Q (F0 m 44 ls [.int v7, .int ((if (x90 / (1000 : Int32)) ≤ 0 then (0 : Int32) else (1 : Int32)) + (if ((x90 / (100 : Int32)) - (x90 / (100 : Int32)) / (10 : Int32) * (10 : Int32)) ≤ 0 then (0 : Int32) else (2 : Int32)))]) := by
        intro v7 H locs hv9 I
        subst hv9
        refine lv_iadd hx hb dX5_supportOf_44 ?_
        refine lv_iload_n hx hb dX5_supportOf_45 rfl (lv_at hl 0 rfl) ?_
        refine lv_bipush (v := (10 : Int32)) hx hb dX5_supportOf_46 (by decide) ?_
        refine lv_irem hx hb dX5_supportOf_48 (by decide) ?_
        have J11 : ∀ (v10 : Int32) (H : Heap) (locs : List Loc), v10 = (if (x90 - x90 / (10 : Int32) * (10 : Int32)) ≤ 0 then (0 : Int32) else (8 : Int32)) → wk D [] A H0 H locs → W p l e (rmk 0 0) s m args below meth c H locs 0 0 Q (F0 m 58 ls [.int v10, .int (((if (x90 / (1000 : Int32)) ≤ 0 then (0 : Int32) else (1 : Int32)) + (if ((x90 / (100 : Int32)) - (x90 / (100 : Int32)) / (10 : Int32) * (10 : Int32)) ≤ 0 then (0 : Int32) else (2 : Int32))) + (if ((x90 / (10 : Int32)) - (x90 / (10 : Int32)) / (10 : Int32) * (10 : Int32)) ≤ 0 then (0 : Int32) else (4 : Int32)))]) := by
          intro v10 H locs hv12 I
          subst hv12
          refine lv_iadd hx hb dX5_supportOf_58 ?_
          cases h
          exact K _ _ _ _ I dX5_supportOf_59
        refine lv_if_le (tgt := 57) hx hb dX5_supportOf_49 (by decide) (fun hc13 => ?_) (fun hc13 => ?_)
        · refine lv_iconst (v := (0 : Int32)) hx hb dX5_supportOf_57 (by decide) ?_
          exact J11 _ _ _ (by rw [if_pos hc13]) I
        · refine lv_bipush (v := (8 : Int32)) hx hb dX5_supportOf_52 (by decide) ?_
          refine lv_goto (tgt := 58) hx hb dX5_supportOf_54 (by decide) ?_
          exact J11 _ _ _ (by rw [if_neg hc13]) I
      refine lv_if_le (tgt := 43) hx hb dX5_supportOf_36 (by decide) (fun hc14 => ?_) (fun hc14 => ?_)
      · refine lv_iconst (v := (0 : Int32)) hx hb dX5_supportOf_43 (by decide) ?_
        exact J8 _ _ _ (by rw [if_pos hc14]) I
      · refine lv_iconst (v := (4 : Int32)) hx hb dX5_supportOf_39 (by decide) ?_
        refine lv_goto (tgt := 44) hx hb dX5_supportOf_40 (by decide) ?_
        exact J8 _ _ _ (by rw [if_neg hc14]) I
    refine lv_if_le (tgt := 27) hx hb dX5_supportOf_20 (by decide) (fun hc15 => ?_) (fun hc15 => ?_)
    · refine lv_iconst (v := (0 : Int32)) hx hb dX5_supportOf_27 (by decide) ?_
      exact J5 _ _ _ (by rw [if_pos hc15]) I
    · refine lv_iconst (v := (2 : Int32)) hx hb dX5_supportOf_23 (by decide) ?_
      refine lv_goto (tgt := 28) hx hb dX5_supportOf_24 (by decide) ?_
      exact J5 _ _ _ (by rw [if_neg hc15]) I
  refine lv_if_le (tgt := 12) hx hb dX5_supportOf_5 (by decide) (fun hc16 => ?_) (fun hc16 => ?_)
  · refine lv_iconst (v := (0 : Int32)) hx hb dX5_supportOf_12 (by decide) ?_
    exact J2 _ _ _ (by rw [if_pos hc16]) I
  · refine lv_iconst (v := (1 : Int32)) hx hb dX5_supportOf_8 (by decide) ?_
    refine lv_goto (tgt := 13) hx hb dX5_supportOf_9 (by decide) ?_
    exact J2 _ _ _ (by rw [if_neg hc16]) I
set_option maxHeartbeats 4000000 in
set_option maxRecDepth 100000 in
theorem c5_layMatcher {l : Launch} {D : va_G} {g : Nat → ClassId} {a : Nat → Nat} {st : MS} {x91 : Int32} {o : MS} (h : f5_layMatcher st x91 = some o) : ct l yX5_layMatcher cX5_layMatcher 9 none (rmk 5 122) D g (mW g a st) (mW g a o) [.ref (a 0), .int x91] none := by
  refine ct_of ⟨rfl, rfl⟩ (by decide) (Nat.le_of_ble_eq_true rfl) ?_
  intro p e s m args below meth c ls Q A H0 H locs E I hl K
  have E : en p m c cX5_layMatcher 9 s args RX5 D g := E
  have hx := E.1.1
  have hb := E.1.2.1
  have hl : lv_has ls 9 [(0, .ref (a 0)), (1, .int x91)] := hl
  have K : ∀ (pc : Nat) (ls : Array Slot) (H : Heap) (locs : List Loc), wk D (mW g a o) A H0 H locs → decode cX5_layMatcher pc = .ok (.return_, 1) → W p l e (rmk 5 122) s m args below meth c H locs 0 0 Q (F0 m pc ls []) := fun pc ls H locs I hd => K pc ls H locs I hd
  have h : ((bi1 (f5_listAll st (-1 : Int32) (0 : Int32)) fun st2 => (bi1 (f5_layWays st2) fun st4 => (bi1 (wh (f5_layMatcher_b19) FU (st4, x91.toInt64, (0 : Int32), (0 : Int32))) fun w46 => some w46))) : Option MS) = some o := h
  refine lv_aload_n hx hb dX5_layMatcher_0 rfl (lv_at hl 0 rfl) ?_
  refine lv_iconst (v := (-1 : Int32)) hx hb dX5_layMatcher_1 (by decide) ?_
  refine lv_iconst (v := (0 : Int32)) hx hb dX5_layMatcher_2 (by decide) ?_
  obtain ⟨st2, hc1, h⟩ := bx1 h
  refine r_callV0 (As := [.int (-1 : Int32), .int (0 : Int32)]) (rest := []) (ws' := (mW g a st2)) (q0 := 0) E I hl.1 k5_87 (c5_listAll hc1) mW_k rfl rfl rfl rfl (Nat.le_of_ble_eq_true rfl) ⟨Nat.le_of_ble_eq_true rfl, Nat.le_of_ble_eq_true rfl⟩ ⟨Nat.zero_le _, Nat.zero_le _⟩ dX5_layMatcher_3 (fun H locs I => ?_)
  refine lv_aload_n hx hb dX5_layMatcher_6 rfl (lv_at hl 0 rfl) ?_
  obtain ⟨st4, hc3, h⟩ := bx1 h
  refine r_callV0 (As := []) (rest := []) (ws' := (mW g a st4)) (q0 := 0) E I hl.1 k5_90 (c5_layWays hc3) mW_k rfl rfl rfl rfl (Nat.le_of_ble_eq_true rfl) ⟨Nat.le_of_ble_eq_true rfl, Nat.le_of_ble_eq_true rfl⟩ ⟨Nat.zero_le _, Nat.zero_le _⟩ dX5_layMatcher_7 (fun H locs I => ?_)
  refine lv_iload_n hx hb dX5_layMatcher_10 rfl (lv_at hl 1 rfl) ?_
  refine lv_i2l (v := x91.toInt64) hx hb dX5_layMatcher_11 rfl ?_
  refine lv_lstore_n (lv' := [(2, .long x91.toInt64), (0, .ref (a 0)), (1, .int x91)]) hx hb dX5_layMatcher_12 rfl hl (by decide) rfl (fun ls hl => ?_)
  refine lv_iconst (v := (0 : Int32)) hx hb dX5_layMatcher_13 (by decide) ?_
  refine lv_istore (lv' := [(4, .int (0 : Int32)), (2, .long x91.toInt64), (0, .ref (a 0)), (1, .int x91)]) hx hb dX5_layMatcher_14 hl (by decide) rfl (fun ls hl => ?_)
  refine lv_iconst (v := (0 : Int32)) hx hb dX5_layMatcher_16 (by decide) ?_
  refine lv_istore (lv' := [(5, .int (0 : Int32)), (4, .int (0 : Int32)), (2, .long x91.toInt64), (0, .ref (a 0)), (1, .int x91)]) hx hb dX5_layMatcher_17 hl (by decide) rfl (fun ls hl => ?_)
  obtain ⟨z43, hw44, h⟩ := bx1 h
  refine wh_W (P := fun (z : MS × Int64 × Int32 × Int32) => ∀ (H : Heap) (locs : List Loc) (ls : Array Slot), wk D (mW g a z.1) A H0 H locs → lv_has ls 9 [(0, .ref (a 0)), (2, .long z.2.1), (4, .int z.2.2.1), (5, .int z.2.2.2)] → W p l e (rmk 5 122) s m args below meth c H locs 0 0 Q (F0 m 19 ls [])) (X := fun (z : MS) => ∀ (H : Heap) (locs : List Loc) (ls : Array Slot), wk D (mW g a z) A H0 H locs → lv_has ls 9 [] → W p l e (rmk 5 122) s m args below meth c H locs 0 0 Q (F0 m 213 ls [])) ?_ FU _ _ hw44 ?_ _ _ _ I (lv_sub hl [3, 2, 1, 0] rfl)
  · intro z o9 h hk10 H locs ls I hl
    obtain ⟨st5, x6, x7, x8⟩ := z
    have h : ((if (4 : Int32) ≤ x8 then some (.inr st5) else (if ib ((700 : Int32) * x8) 2800 = true then (if ib ((((16 : Int32) * x8) + (16 : Int32)) + (x7 ||| (f5_supportOf ((m_listed st5) ((700 : Int32) * x8).toNatClampNeg)))) 80 = true then (lq ((m_waysOn st5) ((((16 : Int32) * x8) + (16 : Int32)) + (x7 ||| (f5_supportOf ((m_listed st5) ((700 : Int32) * x8).toNatClampNeg)))).toNatClampNeg) fun x14 => (bi1 (wh (f5_layMatcher_b62 st5 x7 x8) FU (x6, ((700 : Int32) * x8), x14)) fun w42 => (if ib w42.2 2800 = true then (if ib w42.2 2800 = true then (if ib x8 16 = true then (if ib w42.2 2800 = true then (if ib ((4 : Int32) + x8) 16 = true then (if ib w42.2 2800 = true then (if ib ((8 : Int32) + x8) 16 = true then (if ib w42.2 2800 = true then (if ib ((12 : Int32) + x8) 16 = true then some (.inl ((m_values_s (m_values_s (m_values_s (m_values_s st5 (upd (m_values st5) x8.toNatClampNeg (((m_listed st5) w42.2.toNatClampNeg) / (1000 : Int32)))) (upd (upd (m_values st5) x8.toNatClampNeg (((m_listed st5) w42.2.toNatClampNeg) / (1000 : Int32))) ((4 : Int32) + x8).toNatClampNeg ((((m_listed st5) w42.2.toNatClampNeg) / (100 : Int32)) - (((m_listed st5) w42.2.toNatClampNeg) / (100 : Int32)) / (10 : Int32) * (10 : Int32)))) (upd (upd (upd (m_values st5) x8.toNatClampNeg (((m_listed st5) w42.2.toNatClampNeg) / (1000 : Int32))) ((4 : Int32) + x8).toNatClampNeg ((((m_listed st5) w42.2.toNatClampNeg) / (100 : Int32)) - (((m_listed st5) w42.2.toNatClampNeg) / (100 : Int32)) / (10 : Int32) * (10 : Int32))) ((8 : Int32) + x8).toNatClampNeg ((((m_listed st5) w42.2.toNatClampNeg) / (10 : Int32)) - (((m_listed st5) w42.2.toNatClampNeg) / (10 : Int32)) / (10 : Int32) * (10 : Int32)))) (upd (upd (upd (upd (m_values st5) x8.toNatClampNeg (((m_listed st5) w42.2.toNatClampNeg) / (1000 : Int32))) ((4 : Int32) + x8).toNatClampNeg ((((m_listed st5) w42.2.toNatClampNeg) / (100 : Int32)) - (((m_listed st5) w42.2.toNatClampNeg) / (100 : Int32)) / (10 : Int32) * (10 : Int32))) ((8 : Int32) + x8).toNatClampNeg ((((m_listed st5) w42.2.toNatClampNeg) / (10 : Int32)) - (((m_listed st5) w42.2.toNatClampNeg) / (10 : Int32)) / (10 : Int32) * (10 : Int32))) ((12 : Int32) + x8).toNatClampNeg (((m_listed st5) w42.2.toNatClampNeg) - ((m_listed st5) w42.2.toNatClampNeg) / (10 : Int32) * (10 : Int32)))), w42.1, (x7 ||| (f5_supportOf ((m_listed st5) w42.2.toNatClampNeg))), (x8 + 1))) else none) else none) else none) else none) else none) else none) else none) else none) else none))) else none) else none)) : Option ((MS × Int64 × Int32 × Int32) ⊕ (MS))) = some o9 := h
    have I : wk D (mW g a st5) A H0 H locs := I
    have hl : lv_has ls 9 [(0, .ref (a 0)), (2, .long x6), (4, .int x7), (5, .int x8)] := hl
    refine lv_iload hx hb dX5_layMatcher_19 (lv_at hl 3 rfl) ?_
    refine lv_iconst (v := (4 : Int32)) hx hb dX5_layMatcher_21 (by decide) ?_
    refine lv_icmp_ge (tgt := 213) hx hb dX5_layMatcher_22 (by decide) (fun hc11 => ?_) (fun hc11 => ?_)
    · have h := ifp hc11 h
      cases h
      exact hk10 _ _ _ I (lv_sub hl [] rfl)
    · have h := ifn hc11 h
      refine lv_sipush (v := (700 : Int32)) hx hb dX5_layMatcher_25 (by decide) ?_
      refine lv_iload hx hb dX5_layMatcher_28 (lv_at hl 3 rfl) ?_
      refine lv_imul hx hb dX5_layMatcher_30 ?_
      refine lv_istore (lv' := [(6, .int ((700 : Int32) * x8)), (0, .ref (a 0)), (2, .long x6), (4, .int x7), (5, .int x8)]) hx hb dX5_layMatcher_31 hl (by decide) rfl (fun ls hl => ?_)
      refine lv_aload_n hx hb dX5_layMatcher_33 rfl (lv_at hl 1 rfl) ?_
      refine g5_34 E I dX5_layMatcher_34 ?_
      refine lv_bipush (v := (16 : Int32)) hx hb dX5_layMatcher_37 (by decide) ?_
      refine lv_iload hx hb dX5_layMatcher_39 (lv_at hl 4 rfl) ?_
      refine lv_imul hx hb dX5_layMatcher_41 ?_
      refine lv_bipush (v := (16 : Int32)) hx hb dX5_layMatcher_42 (by decide) ?_
      refine lv_iadd hx hb dX5_layMatcher_44 ?_
      refine lv_iload hx hb dX5_layMatcher_45 (lv_at hl 3 rfl) ?_
      refine lv_aload_n hx hb dX5_layMatcher_47 rfl (lv_at hl 1 rfl) ?_
      refine g5_25 E I dX5_layMatcher_48 ?_
      refine lv_iload hx hb dX5_layMatcher_51 (lv_at hl 0 rfl) ?_
      obtain ⟨hc12, h⟩ := gd h
      refine m_ld6 E I (f := (m_listed st5)) rfl hc12 dX5_layMatcher_53 ?_
      refine r_callS1 (As := [.int ((m_listed st5) ((700 : Int32) * x8).toNatClampNeg)]) (rest := [.int x7, .int (((16 : Int32) * x8) + (16 : Int32)), .ref (a 9)]) E I hl.1 k5_104 (c5_supportOf rfl) rfl rfl (Nat.le_of_ble_eq_true rfl) ⟨Nat.le_of_ble_eq_true rfl, Nat.le_of_ble_eq_true rfl⟩ ⟨Nat.zero_le _, Nat.zero_le _⟩ dX5_layMatcher_54 (fun H locs I => ?_)
      refine lv_ior hx hb dX5_layMatcher_57 ?_
      refine lv_iadd hx hb dX5_layMatcher_58 ?_
      obtain ⟨hc13, h⟩ := gd h
      refine m_ld9 E I (f := (m_waysOn st5)) rfl hc13 dX5_layMatcher_59 ?_
      obtain ⟨x14, hx15, h⟩ := lqx h
      refine lv_lstore (x := ((m_waysOn st5) ((((16 : Int32) * x8) + (16 : Int32)) + (x7 ||| (f5_supportOf ((m_listed st5) ((700 : Int32) * x8).toNatClampNeg)))).toNatClampNeg)) (lv' := [(7, .long x14), (6, .int ((700 : Int32) * x8)), (0, .ref (a 0)), (2, .long x6), (4, .int x7), (5, .int x8)]) hx hb dX5_layMatcher_60 hl (by decide) (by subst hx15; rfl) (fun ls hl => ?_)
      obtain ⟨z29, hw30, h⟩ := bx1 h
      refine wh_W (P := fun (z : Int64 × Int32 × Int64) => ∀ (H : Heap) (locs : List Loc) (ls : Array Slot), wk D (mW g a st5) A H0 H locs → lv_has ls 9 [(0, .ref (a 0)), (2, .long z.1), (4, .int x7), (5, .int x8), (6, .int z.2.1), (7, .long z.2.2)] → W p l e (rmk 5 122) s m args below meth c H locs 0 0 Q (F0 m 62 ls [])) (X := fun (z : Int64 × Int32) => ∀ (H : Heap) (locs : List Loc) (ls : Array Slot), wk D (mW g a st5) A H0 H locs → lv_has ls 9 [(0, .ref (a 0)), (2, .long z.1), (4, .int x7), (5, .int x8), (6, .int z.2)] → W p l e (rmk 5 122) s m args below meth c H locs 0 0 Q (F0 m 109 ls [])) ?_ FU _ _ hw30 ?_ _ _ _ I (lv_sub hl [2, 3, 4, 5, 1, 0] rfl)
      · intro z o22 h hk23 H locs ls I hl
        obtain ⟨x17, x20, x21⟩ := z
        have h : ((if (lg_cmp x17 x21) < 0 then some (.inr (x17, x20)) else (if ib (x20 + 1) 2800 = true then (if ib ((((16 : Int32) * x8) + (16 : Int32)) + (x7 ||| (f5_supportOf ((m_listed st5) (x20 + 1).toNatClampNeg)))) 80 = true then (lq ((m_waysOn st5) ((((16 : Int32) * x8) + (16 : Int32)) + (x7 ||| (f5_supportOf ((m_listed st5) (x20 + 1).toNatClampNeg)))).toNatClampNeg) fun x27 => some (.inl ((x17 - x21), (x20 + 1), x27))) else none) else none)) : Option ((Int64 × Int32 × Int64) ⊕ (Int64 × Int32))) = some o22 := h
        have I : wk D (mW g a st5) A H0 H locs := I
        have hl : lv_has ls 9 [(0, .ref (a 0)), (2, .long x17), (4, .int x7), (5, .int x8), (6, .int x20), (7, .long x21)] := hl
        refine lv_lload_n hx hb dX5_layMatcher_62 rfl (lv_at hl 1 rfl) ?_
        refine lv_lload hx hb dX5_layMatcher_63 (lv_at hl 5 rfl) ?_
        refine W.lcmp hx hb dX5_layMatcher_65 ?_
        refine lv_if_lt (tgt := 109) hx hb dX5_layMatcher_66 (by decide) (fun hc24 => ?_) (fun hc24 => ?_)
        · have h := ifp hc24 h
          cases h
          exact hk23 _ _ _ I (lv_sub hl [0, 1, 2, 3, 4] rfl)
        · have h := ifn hc24 h
          refine lv_lload_n hx hb dX5_layMatcher_69 rfl (lv_at hl 1 rfl) ?_
          refine lv_lload hx hb dX5_layMatcher_70 (lv_at hl 5 rfl) ?_
          refine lv_lsub hx hb dX5_layMatcher_72 ?_
          refine lv_lstore_n (lv' := [(2, .long (x17 - x21)), (0, .ref (a 0)), (4, .int x7), (5, .int x8), (6, .int x20), (7, .long x21)]) hx hb dX5_layMatcher_73 rfl hl (by decide) rfl (fun ls hl => ?_)
          refine lv_iinc (v := (x20 + 1)) (lv' := [(6, .int (x20 + 1)), (2, .long (x17 - x21)), (0, .ref (a 0)), (4, .int x7), (5, .int x8), (7, .long x21)]) hx hb dX5_layMatcher_74 hl (k := 4) rfl rfl (by decide) rfl (fun ls hl => ?_)
          refine lv_aload_n hx hb dX5_layMatcher_77 rfl (lv_at hl 2 rfl) ?_
          refine g5_34 E I dX5_layMatcher_78 ?_
          refine lv_bipush (v := (16 : Int32)) hx hb dX5_layMatcher_81 (by decide) ?_
          refine lv_iload hx hb dX5_layMatcher_83 (lv_at hl 4 rfl) ?_
          refine lv_imul hx hb dX5_layMatcher_85 ?_
          refine lv_bipush (v := (16 : Int32)) hx hb dX5_layMatcher_86 (by decide) ?_
          refine lv_iadd hx hb dX5_layMatcher_88 ?_
          refine lv_iload hx hb dX5_layMatcher_89 (lv_at hl 3 rfl) ?_
          refine lv_aload_n hx hb dX5_layMatcher_91 rfl (lv_at hl 2 rfl) ?_
          refine g5_25 E I dX5_layMatcher_92 ?_
          refine lv_iload hx hb dX5_layMatcher_95 (lv_at hl 0 rfl) ?_
          obtain ⟨hc25, h⟩ := gd h
          refine m_ld6 E I (f := (m_listed st5)) rfl hc25 dX5_layMatcher_97 ?_
          refine r_callS1 (As := [.int ((m_listed st5) (x20 + 1).toNatClampNeg)]) (rest := [.int x7, .int (((16 : Int32) * x8) + (16 : Int32)), .ref (a 9)]) E I hl.1 k5_104 (c5_supportOf rfl) rfl rfl (Nat.le_of_ble_eq_true rfl) ⟨Nat.le_of_ble_eq_true rfl, Nat.le_of_ble_eq_true rfl⟩ ⟨Nat.zero_le _, Nat.zero_le _⟩ dX5_layMatcher_98 (fun H locs I => ?_)
          refine lv_ior hx hb dX5_layMatcher_101 ?_
          refine lv_iadd hx hb dX5_layMatcher_102 ?_
          obtain ⟨hc26, h⟩ := gd h
          refine m_ld9 E I (f := (m_waysOn st5)) rfl hc26 dX5_layMatcher_103 ?_
          obtain ⟨x27, hx28, h⟩ := lqx h
          refine lv_lstore (x := ((m_waysOn st5) ((((16 : Int32) * x8) + (16 : Int32)) + (x7 ||| (f5_supportOf ((m_listed st5) (x20 + 1).toNatClampNeg)))).toNatClampNeg)) (lv' := [(7, .long x27), (6, .int (x20 + 1)), (2, .long (x17 - x21)), (0, .ref (a 0)), (4, .int x7), (5, .int x8)]) hx hb dX5_layMatcher_104 hl (by decide) (by subst hx28; rfl) (fun ls hl => ?_)
          refine lv_goto (tgt := 62) hx hb dX5_layMatcher_106 (by decide) ?_
          cases h
          exact hk23 _ _ _ I (lv_sub hl [3, 2, 4, 5, 1, 0] rfl)
      · obtain ⟨x31, x32⟩ := z29
        intro H locs ls I hl
        have h : ((if ib x32 2800 = true then (if ib x32 2800 = true then (if ib x8 16 = true then (if ib x32 2800 = true then (if ib ((4 : Int32) + x8) 16 = true then (if ib x32 2800 = true then (if ib ((8 : Int32) + x8) 16 = true then (if ib x32 2800 = true then (if ib ((12 : Int32) + x8) 16 = true then some (.inl ((m_values_s (m_values_s (m_values_s (m_values_s st5 (upd (m_values st5) x8.toNatClampNeg (((m_listed st5) x32.toNatClampNeg) / (1000 : Int32)))) (upd (upd (m_values st5) x8.toNatClampNeg (((m_listed st5) x32.toNatClampNeg) / (1000 : Int32))) ((4 : Int32) + x8).toNatClampNeg ((((m_listed st5) x32.toNatClampNeg) / (100 : Int32)) - (((m_listed st5) x32.toNatClampNeg) / (100 : Int32)) / (10 : Int32) * (10 : Int32)))) (upd (upd (upd (m_values st5) x8.toNatClampNeg (((m_listed st5) x32.toNatClampNeg) / (1000 : Int32))) ((4 : Int32) + x8).toNatClampNeg ((((m_listed st5) x32.toNatClampNeg) / (100 : Int32)) - (((m_listed st5) x32.toNatClampNeg) / (100 : Int32)) / (10 : Int32) * (10 : Int32))) ((8 : Int32) + x8).toNatClampNeg ((((m_listed st5) x32.toNatClampNeg) / (10 : Int32)) - (((m_listed st5) x32.toNatClampNeg) / (10 : Int32)) / (10 : Int32) * (10 : Int32)))) (upd (upd (upd (upd (m_values st5) x8.toNatClampNeg (((m_listed st5) x32.toNatClampNeg) / (1000 : Int32))) ((4 : Int32) + x8).toNatClampNeg ((((m_listed st5) x32.toNatClampNeg) / (100 : Int32)) - (((m_listed st5) x32.toNatClampNeg) / (100 : Int32)) / (10 : Int32) * (10 : Int32))) ((8 : Int32) + x8).toNatClampNeg ((((m_listed st5) x32.toNatClampNeg) / (10 : Int32)) - (((m_listed st5) x32.toNatClampNeg) / (10 : Int32)) / (10 : Int32) * (10 : Int32))) ((12 : Int32) + x8).toNatClampNeg (((m_listed st5) x32.toNatClampNeg) - ((m_listed st5) x32.toNatClampNeg) / (10 : Int32) * (10 : Int32)))), x31, (x7 ||| (f5_supportOf ((m_listed st5) x32.toNatClampNeg))), (x8 + 1))) else none) else none) else none) else none) else none) else none) else none) else none) else none) : Option ((MS × Int64 × Int32 × Int32) ⊕ (MS))) = some o9 := h
        have I : wk D (mW g a st5) A H0 H locs := I
        have hl : lv_has ls 9 [(0, .ref (a 0)), (2, .long x31), (4, .int x7), (5, .int x8), (6, .int x32)] := hl
        refine lv_iload hx hb dX5_layMatcher_109 (lv_at hl 2 rfl) ?_
        refine lv_aload_n hx hb dX5_layMatcher_111 rfl (lv_at hl 0 rfl) ?_
        refine g5_25 E I dX5_layMatcher_112 ?_
        refine lv_iload hx hb dX5_layMatcher_115 (lv_at hl 4 rfl) ?_
        obtain ⟨hc33, h⟩ := gd h
        refine m_ld6 E I (f := (m_listed st5)) rfl hc33 dX5_layMatcher_117 ?_
        refine r_callS1 (As := [.int ((m_listed st5) x32.toNatClampNeg)]) (rest := [.int x7]) E I hl.1 k5_104 (c5_supportOf rfl) rfl rfl (Nat.le_of_ble_eq_true rfl) ⟨Nat.le_of_ble_eq_true rfl, Nat.le_of_ble_eq_true rfl⟩ ⟨Nat.zero_le _, Nat.zero_le _⟩ dX5_layMatcher_118 (fun H locs I => ?_)
        refine lv_ior hx hb dX5_layMatcher_121 ?_
        refine lv_istore (lv' := [(4, .int (x7 ||| (f5_supportOf ((m_listed st5) x32.toNatClampNeg)))), (0, .ref (a 0)), (2, .long x31), (5, .int x8), (6, .int x32)]) hx hb dX5_layMatcher_122 hl (by decide) rfl (fun ls hl => ?_)
        refine lv_aload_n hx hb dX5_layMatcher_124 rfl (lv_at hl 1 rfl) ?_
        refine g5_38 E I dX5_layMatcher_125 ?_
        refine lv_iload hx hb dX5_layMatcher_128 (lv_at hl 3 rfl) ?_
        refine lv_aload_n hx hb dX5_layMatcher_130 rfl (lv_at hl 1 rfl) ?_
        refine g5_25 E I dX5_layMatcher_131 ?_
        refine lv_iload hx hb dX5_layMatcher_134 (lv_at hl 4 rfl) ?_
        obtain ⟨hc34, h⟩ := gd h
        refine m_ld6 E I (f := (m_listed st5)) rfl hc34 dX5_layMatcher_136 ?_
        refine lv_sipush (v := (1000 : Int32)) hx hb dX5_layMatcher_137 (by decide) ?_
        refine lv_idiv hx hb dX5_layMatcher_140 (by decide) ?_
        obtain ⟨hc35, h⟩ := gd h
        refine m_st10 E I (f := (m_values st5)) rfl hc35 dX5_layMatcher_141 (fun H locs I => ?_)
        refine lv_aload_n hx hb dX5_layMatcher_142 rfl (lv_at hl 1 rfl) ?_
        refine g5_38 E I dX5_layMatcher_143 ?_
        refine lv_iconst (v := (4 : Int32)) hx hb dX5_layMatcher_146 (by decide) ?_
        refine lv_iload hx hb dX5_layMatcher_147 (lv_at hl 3 rfl) ?_
        refine lv_iadd hx hb dX5_layMatcher_149 ?_
        refine lv_aload_n hx hb dX5_layMatcher_150 rfl (lv_at hl 1 rfl) ?_
        refine g5_25 E I dX5_layMatcher_151 ?_
        refine lv_iload hx hb dX5_layMatcher_154 (lv_at hl 4 rfl) ?_
        obtain ⟨hc36, h⟩ := gd h
        refine m_ld6 E I (f := (m_listed st5)) rfl hc36 dX5_layMatcher_156 ?_
        refine lv_bipush (v := (100 : Int32)) hx hb dX5_layMatcher_157 (by decide) ?_
        refine lv_idiv hx hb dX5_layMatcher_159 (by decide) ?_
        refine lv_bipush (v := (10 : Int32)) hx hb dX5_layMatcher_160 (by decide) ?_
        refine lv_irem hx hb dX5_layMatcher_162 (by decide) ?_
        obtain ⟨hc37, h⟩ := gd h
        refine m_st10 E I (f := (upd (m_values st5) x8.toNatClampNeg (((m_listed st5) x32.toNatClampNeg) / (1000 : Int32)))) rfl hc37 dX5_layMatcher_163 (fun H locs I => ?_)
        refine lv_aload_n hx hb dX5_layMatcher_164 rfl (lv_at hl 1 rfl) ?_
        refine g5_38 E I dX5_layMatcher_165 ?_
        refine lv_bipush (v := (8 : Int32)) hx hb dX5_layMatcher_168 (by decide) ?_
        refine lv_iload hx hb dX5_layMatcher_170 (lv_at hl 3 rfl) ?_
        refine lv_iadd hx hb dX5_layMatcher_172 ?_
        refine lv_aload_n hx hb dX5_layMatcher_173 rfl (lv_at hl 1 rfl) ?_
        refine g5_25 E I dX5_layMatcher_174 ?_
        refine lv_iload hx hb dX5_layMatcher_177 (lv_at hl 4 rfl) ?_
        obtain ⟨hc38, h⟩ := gd h
        refine m_ld6 E I (f := (m_listed st5)) rfl hc38 dX5_layMatcher_179 ?_
        refine lv_bipush (v := (10 : Int32)) hx hb dX5_layMatcher_180 (by decide) ?_
        refine lv_idiv hx hb dX5_layMatcher_182 (by decide) ?_
        refine lv_bipush (v := (10 : Int32)) hx hb dX5_layMatcher_183 (by decide) ?_
        refine lv_irem hx hb dX5_layMatcher_185 (by decide) ?_
        obtain ⟨hc39, h⟩ := gd h
        refine m_st10 E I (f := (upd (upd (m_values st5) x8.toNatClampNeg (((m_listed st5) x32.toNatClampNeg) / (1000 : Int32))) ((4 : Int32) + x8).toNatClampNeg ((((m_listed st5) x32.toNatClampNeg) / (100 : Int32)) - (((m_listed st5) x32.toNatClampNeg) / (100 : Int32)) / (10 : Int32) * (10 : Int32)))) rfl hc39 dX5_layMatcher_186 (fun H locs I => ?_)
        refine lv_aload_n hx hb dX5_layMatcher_187 rfl (lv_at hl 1 rfl) ?_
        refine g5_38 E I dX5_layMatcher_188 ?_
        refine lv_bipush (v := (12 : Int32)) hx hb dX5_layMatcher_191 (by decide) ?_
        refine lv_iload hx hb dX5_layMatcher_193 (lv_at hl 3 rfl) ?_
        refine lv_iadd hx hb dX5_layMatcher_195 ?_
        refine lv_aload_n hx hb dX5_layMatcher_196 rfl (lv_at hl 1 rfl) ?_
        refine g5_25 E I dX5_layMatcher_197 ?_
        refine lv_iload hx hb dX5_layMatcher_200 (lv_at hl 4 rfl) ?_
        obtain ⟨hc40, h⟩ := gd h
        refine m_ld6 E I (f := (m_listed st5)) rfl hc40 dX5_layMatcher_202 ?_
        refine lv_bipush (v := (10 : Int32)) hx hb dX5_layMatcher_203 (by decide) ?_
        refine lv_irem hx hb dX5_layMatcher_205 (by decide) ?_
        obtain ⟨hc41, h⟩ := gd h
        refine m_st10 E I (f := (upd (upd (upd (m_values st5) x8.toNatClampNeg (((m_listed st5) x32.toNatClampNeg) / (1000 : Int32))) ((4 : Int32) + x8).toNatClampNeg ((((m_listed st5) x32.toNatClampNeg) / (100 : Int32)) - (((m_listed st5) x32.toNatClampNeg) / (100 : Int32)) / (10 : Int32) * (10 : Int32))) ((8 : Int32) + x8).toNatClampNeg ((((m_listed st5) x32.toNatClampNeg) / (10 : Int32)) - (((m_listed st5) x32.toNatClampNeg) / (10 : Int32)) / (10 : Int32) * (10 : Int32)))) rfl hc41 dX5_layMatcher_206 (fun H locs I => ?_)
        refine lv_iinc (v := (x8 + 1)) (lv' := [(5, .int (x8 + 1)), (4, .int (x7 ||| (f5_supportOf ((m_listed st5) x32.toNatClampNeg)))), (0, .ref (a 0)), (2, .long x31), (6, .int x32)]) hx hb dX5_layMatcher_207 hl (k := 3) rfl rfl (by decide) rfl (fun ls hl => ?_)
        refine lv_goto (tgt := 19) hx hb dX5_layMatcher_210 (by decide) ?_
        cases h
        exact hk10 _ _ _ I (lv_sub hl [2, 3, 1, 0] rfl)
  · obtain ⟨st45, rfl⟩ : ∃ y, y = z43 := ⟨_, rfl⟩
    intro H locs ls I hl
    have h : (some st45 : Option MS) = some o := h
    have I : wk D (mW g a st45) A H0 H locs := I
    have hl : lv_has ls 9 [] := hl
    cases h
    exact K _ _ _ _ I dX5_layMatcher_213
set_option maxHeartbeats 4000000 in
set_option maxRecDepth 100000 in
theorem c5_valueOf {l : Launch} {D : va_G} {g : Nat → ClassId} {a : Nat → Nat} {st : MS} {x91 : Int32} {x92 : Int32} {o : Int32} (h : f5_valueOf st x91 x92 = some o) : ct l yX5_valueOf cX5_valueOf 3 (some .int) (rmk 2 44) D g (mW g a st) (mW g a st) [.ref (a 0), .int x91, .int x92] (some (.int o)) := by
  refine ct_of ⟨rfl, rfl⟩ (by decide) (Nat.le_of_ble_eq_true rfl) ?_
  intro p e s m args below meth c ls Q A H0 H locs E I hl K
  have E : en p m c cX5_valueOf 3 s args RX5 D g := E
  have hx := E.1.1
  have hb := E.1.2.1
  have hl : lv_has ls 3 [(0, .ref (a 0)), (1, .int x91), (2, .int x92)] := hl
  have K : ∀ (pc : Nat) (ls : Array Slot) (H : Heap) (locs : List Loc), wk D (mW g a st) A H0 H locs → decode cX5_valueOf pc = .ok (.ireturn, 1) → W p l e (rmk 2 44) s m args below meth c H locs 0 0 Q (F0 m pc ls [.int o]) := fun pc ls H locs I hd => K pc ls H locs I hd
  have h : ((bi1 (f5_variableOf st (0 : Int32) x91) fun r2 => (if r2 = 0 then some (-1 : Int32) else (if ib (((4 : Int32) * x91) + x92) 16 = true then some ((m_values st) (((4 : Int32) * x91) + x92).toNatClampNeg) else none))) : Option Int32) = some o := h
  refine lv_aload_n hx hb dX5_valueOf_0 rfl (lv_at hl 0 rfl) ?_
  refine lv_iconst (v := (0 : Int32)) hx hb dX5_valueOf_1 (by decide) ?_
  refine lv_iload_n hx hb dX5_valueOf_2 rfl (lv_at hl 1 rfl) ?_
  obtain ⟨r2, hc1, h⟩ := bx1 h
  refine r_callV1 (As := [.int (0 : Int32), .int x91]) (rest := []) (ws' := (mW g a st)) (q0 := 0) E I hl.1 k5_65 (c5_variableOf hc1) mW_k rfl rfl rfl rfl (Nat.le_of_ble_eq_true rfl) ⟨Nat.le_of_ble_eq_true rfl, Nat.le_of_ble_eq_true rfl⟩ ⟨Nat.zero_le _, Nat.zero_le _⟩ dX5_valueOf_3 (fun H locs I => ?_)
  refine lv_if_ne (tgt := 13) hx hb dX5_valueOf_6 (by decide) (fun hc3 => ?_) (fun hc3 => ?_)
  · have h := ifn hc3 h
    refine lv_aload_n hx hb dX5_valueOf_13 rfl (lv_at hl 0 rfl) ?_
    refine g5_38 E I dX5_valueOf_14 ?_
    refine lv_iconst (v := (4 : Int32)) hx hb dX5_valueOf_17 (by decide) ?_
    refine lv_iload_n hx hb dX5_valueOf_18 rfl (lv_at hl 1 rfl) ?_
    refine lv_imul hx hb dX5_valueOf_19 ?_
    refine lv_iload_n hx hb dX5_valueOf_20 rfl (lv_at hl 2 rfl) ?_
    refine lv_iadd hx hb dX5_valueOf_21 ?_
    obtain ⟨hc4, h⟩ := gd h
    refine m_ld10 E I (f := (m_values st)) rfl hc4 dX5_valueOf_22 ?_
    cases h
    exact K _ _ _ _ I dX5_valueOf_23
  · have h := ifp hc3 h
    refine lv_iconst (v := (-1 : Int32)) hx hb dX5_valueOf_9 (by decide) ?_
    refine lv_goto (tgt := 23) hx hb dX5_valueOf_10 (by decide) ?_
    cases h
    exact K _ _ _ _ I dX5_valueOf_23
set_option maxHeartbeats 4000000 in
set_option maxRecDepth 100000 in
theorem c5_isStrange {l : Launch} {D : va_G} {g : Nat → ClassId} {a : Nat → Nat} {st : MS} {o : Int32} (h : f5_isStrange st = some o) : ct l yX5_isStrange cX5_isStrange 3 (some .boolean) (rmk 2 44) D g (mW g a st) (mW g a st) [.ref (a 0)] (some (.int o)) := by
  refine ct_of ⟨rfl, rfl⟩ (by decide) (Nat.le_of_ble_eq_true rfl) ?_
  intro p e s m args below meth c ls Q A H0 H locs E I hl K
  have E : en p m c cX5_isStrange 3 s args RX5 D g := E
  have hx := E.1.1
  have hb := E.1.2.1
  have hl : lv_has ls 3 [(0, .ref (a 0))] := hl
  have K : ∀ (pc : Nat) (ls : Array Slot) (H : Heap) (locs : List Loc), wk D (mW g a st) A H0 H locs → decode cX5_isStrange pc = .ok (.ireturn, 1) → zok o = true → W p l e (rmk 2 44) s m args below meth c H locs 0 0 Q (F0 m pc ls [.int o]) := fun pc ls H locs I hd hz => K pc ls H locs I ⟨hd, hz⟩
  have h : ((bi1 (wh (f5_isStrange_b4 st) FU ((0 : Int32), (0 : Int32))) fun w21 => (if zok w21 = true then some w21 else none)) : Option Int32) = some o := h
  refine lv_iconst (v := (0 : Int32)) hx hb dX5_isStrange_0 (by decide) ?_
  refine lv_istore_n (lv' := [(1, .int (0 : Int32)), (0, .ref (a 0))]) hx hb dX5_isStrange_1 rfl hl (by decide) rfl (fun ls hl => ?_)
  refine lv_iconst (v := (0 : Int32)) hx hb dX5_isStrange_2 (by decide) ?_
  refine lv_istore_n (lv' := [(2, .int (0 : Int32)), (1, .int (0 : Int32)), (0, .ref (a 0))]) hx hb dX5_isStrange_3 rfl hl (by decide) rfl (fun ls hl => ?_)
  obtain ⟨z17, hw18, h⟩ := bx1 h
  refine wh_W (P := fun (z : Int32 × Int32) => ∀ (H : Heap) (locs : List Loc) (ls : Array Slot), wk D (mW g a st) A H0 H locs → lv_has ls 3 [(0, .ref (a 0)), (1, .int z.1), (2, .int z.2)] → W p l e (rmk 2 44) s m args below meth c H locs 0 0 Q (F0 m 4 ls [])) (X := fun (z : Int32) => ∀ (H : Heap) (locs : List Loc) (ls : Array Slot), wk D (mW g a st) A H0 H locs → lv_has ls 3 [(1, .int z)] → W p l e (rmk 2 44) s m args below meth c H locs 0 0 Q (F0 m 43 ls [])) ?_ FU _ _ hw18 ?_ _ _ _ I (lv_sub hl [2, 1, 0] rfl)
  · intro z o4 h hk5 H locs ls I hl
    obtain ⟨x2, x3⟩ := z
    have h : ((if (4 : Int32) ≤ x3 then some (.inr x2) else (if x2 = 0 then (bi1 (f5_variableOf st (1 : Int32) x3) fun r9 => (if r9 ≤ 0 then some (.inl ((0 : Int32), (x3 + 1))) else (bi1 (f5_variableOf st (0 : Int32) x3) fun r12 => some (.inl ((if r12 = 0 then (1 : Int32) else (0 : Int32)), (x3 + 1)))))) else some (.inl ((1 : Int32), (x3 + 1))))) : Option ((Int32 × Int32) ⊕ (Int32))) = some o4 := h
    have I : wk D (mW g a st) A H0 H locs := I
    have hl : lv_has ls 3 [(0, .ref (a 0)), (1, .int x2), (2, .int x3)] := hl
    refine lv_iload_n hx hb dX5_isStrange_4 rfl (lv_at hl 2 rfl) ?_
    refine lv_iconst (v := (4 : Int32)) hx hb dX5_isStrange_5 (by decide) ?_
    refine lv_icmp_ge (tgt := 43) hx hb dX5_isStrange_6 (by decide) (fun hc6 => ?_) (fun hc6 => ?_)
    · have h := ifp hc6 h
      cases h
      exact hk5 _ _ _ I (lv_sub hl [1] rfl)
    · have h := ifn hc6 h
      refine lv_iload_n hx hb dX5_isStrange_9 rfl (lv_at hl 1 rfl) ?_
      refine lv_if_ne (tgt := 31) hx hb dX5_isStrange_10 (by decide) (fun hc7 => ?_) (fun hc7 => ?_)
      · have h := ifn hc7 h
        refine lv_iconst (v := (1 : Int32)) hx hb dX5_isStrange_31 (by decide) ?_
        refine lv_goto (tgt := 36) hx hb dX5_isStrange_32 (by decide) ?_
        refine lv_istore_n (lv' := [(1, .int (1 : Int32)), (0, .ref (a 0)), (2, .int x3)]) hx hb dX5_isStrange_36 rfl hl (by decide) rfl (fun ls hl => ?_)
        refine lv_iinc (v := (x3 + 1)) (lv' := [(2, .int (x3 + 1)), (1, .int (1 : Int32)), (0, .ref (a 0))]) hx hb dX5_isStrange_37 hl (k := 2) rfl rfl (by decide) rfl (fun ls hl => ?_)
        refine lv_goto (tgt := 4) hx hb dX5_isStrange_40 (by decide) ?_
        cases h
        exact hk5 _ _ _ I (lv_sub hl [2, 1, 0] rfl)
      · have h := ifp hc7 h
        refine lv_aload_n hx hb dX5_isStrange_13 rfl (lv_at hl 0 rfl) ?_
        refine lv_iconst (v := (1 : Int32)) hx hb dX5_isStrange_14 (by decide) ?_
        refine lv_iload_n hx hb dX5_isStrange_15 rfl (lv_at hl 2 rfl) ?_
        obtain ⟨r9, hc8, h⟩ := bx1 h
        refine r_callV1 (As := [.int (1 : Int32), .int x3]) (rest := []) (ws' := (mW g a st)) (q0 := 0) E I hl.1 k5_65 (c5_variableOf hc8) mW_k rfl rfl rfl rfl (Nat.le_of_ble_eq_true rfl) ⟨Nat.le_of_ble_eq_true rfl, Nat.le_of_ble_eq_true rfl⟩ ⟨Nat.zero_le _, Nat.zero_le _⟩ dX5_isStrange_16 (fun H locs I => ?_)
        refine lv_if_le (tgt := 35) hx hb dX5_isStrange_19 (by decide) (fun hc10 => ?_) (fun hc10 => ?_)
        · have h := ifp hc10 h
          refine lv_iconst (v := (0 : Int32)) hx hb dX5_isStrange_35 (by decide) ?_
          refine lv_istore_n (lv' := [(1, .int (0 : Int32)), (0, .ref (a 0)), (2, .int x3)]) hx hb dX5_isStrange_36 rfl hl (by decide) rfl (fun ls hl => ?_)
          refine lv_iinc (v := (x3 + 1)) (lv' := [(2, .int (x3 + 1)), (1, .int (0 : Int32)), (0, .ref (a 0))]) hx hb dX5_isStrange_37 hl (k := 2) rfl rfl (by decide) rfl (fun ls hl => ?_)
          refine lv_goto (tgt := 4) hx hb dX5_isStrange_40 (by decide) ?_
          cases h
          exact hk5 _ _ _ I (lv_sub hl [2, 1, 0] rfl)
        · have h := ifn hc10 h
          refine lv_aload_n hx hb dX5_isStrange_22 rfl (lv_at hl 0 rfl) ?_
          refine lv_iconst (v := (0 : Int32)) hx hb dX5_isStrange_23 (by decide) ?_
          refine lv_iload_n hx hb dX5_isStrange_24 rfl (lv_at hl 2 rfl) ?_
          obtain ⟨r12, hc11, h⟩ := bx1 h
          refine r_callV1 (As := [.int (0 : Int32), .int x3]) (rest := []) (ws' := (mW g a st)) (q0 := 0) E I hl.1 k5_65 (c5_variableOf hc11) mW_k rfl rfl rfl rfl (Nat.le_of_ble_eq_true rfl) ⟨Nat.le_of_ble_eq_true rfl, Nat.le_of_ble_eq_true rfl⟩ ⟨Nat.zero_le _, Nat.zero_le _⟩ dX5_isStrange_25 (fun H locs I => ?_)
          have J14 : ∀ (v13 : Int32) (H : Heap) (locs : List Loc), v13 = (if r12 = 0 then (1 : Int32) else (0 : Int32)) → wk D (mW g a st) A H0 H locs → W p l e (rmk 2 44) s m args below meth c H locs 0 0 Q (F0 m 36 ls [.int v13]) := by
            intro v13 H locs hv15 I
            subst hv15
            refine lv_istore_n (lv' := [(1, .int (if r12 = 0 then (1 : Int32) else (0 : Int32))), (0, .ref (a 0)), (2, .int x3)]) hx hb dX5_isStrange_36 rfl hl (by decide) rfl (fun ls hl => ?_)
            refine lv_iinc (v := (x3 + 1)) (lv' := [(2, .int (x3 + 1)), (1, .int (if r12 = 0 then (1 : Int32) else (0 : Int32))), (0, .ref (a 0))]) hx hb dX5_isStrange_37 hl (k := 2) rfl rfl (by decide) rfl (fun ls hl => ?_)
            refine lv_goto (tgt := 4) hx hb dX5_isStrange_40 (by decide) ?_
            cases h
            exact hk5 _ _ _ I (lv_sub hl [2, 1, 0] rfl)
          refine lv_if_ne (tgt := 35) hx hb dX5_isStrange_28 (by decide) (fun hc16 => ?_) (fun hc16 => ?_)
          · refine lv_iconst (v := (0 : Int32)) hx hb dX5_isStrange_35 (by decide) ?_
            exact J14 _ _ _ (by rw [if_neg hc16]) I
          · refine lv_iconst (v := (1 : Int32)) hx hb dX5_isStrange_31 (by decide) ?_
            refine lv_goto (tgt := 36) hx hb dX5_isStrange_32 (by decide) ?_
            exact J14 _ _ _ (by rw [if_pos hc16]) I
  · obtain ⟨x19, rfl⟩ : ∃ y, y = z17 := ⟨_, rfl⟩
    intro H locs ls I hl
    have h : ((if zok x19 = true then some x19 else none) : Option Int32) = some o := h
    have I : wk D (mW g a st) A H0 H locs := I
    have hl : lv_has ls 3 [(1, .int x19)] := hl
    refine lv_iload_n hx hb dX5_isStrange_43 rfl (lv_at hl 0 rfl) ?_
    obtain ⟨hc20, h⟩ := gd h
    cases h
    exact K _ _ _ _ I dX5_isStrange_44 hc20
set_option maxHeartbeats 4000000 in
set_option maxRecDepth 100000 in
theorem c5_rewritten {l : Launch} {D : va_G} {g : Nat → ClassId} {a : Nat → Nat} {st : MS} {x91 : Int32} {o : Int32} (h : f5_rewritten st x91 = some o) : ct l yX5_rewritten cX5_rewritten 4 (some .int) (rmk 2 44) D g (mW g a st) (mW g a st) [.ref (a 0), .int x91] (some (.int o)) := by
  refine ct_of ⟨rfl, rfl⟩ (by decide) (Nat.le_of_ble_eq_true rfl) ?_
  intro p e s m args below meth c ls Q A H0 H locs E I hl K
  have E : en p m c cX5_rewritten 4 s args RX5 D g := E
  have hx := E.1.1
  have hb := E.1.2.1
  have hl : lv_has ls 4 [(0, .ref (a 0)), (1, .int x91)] := hl
  have K : ∀ (pc : Nat) (ls : Array Slot) (H : Heap) (locs : List Loc), wk D (mW g a st) A H0 H locs → decode cX5_rewritten pc = .ok (.ireturn, 1) → W p l e (rmk 2 44) s m args below meth c H locs 0 0 Q (F0 m pc ls [.int o]) := fun pc ls H locs I hd => K pc ls H locs I hd
  have h : ((bi1 (f5_of st (1 : Int32) x91) fun r2 => (bi1 (wh (f5_rewritten_b9 st x91) FU (r2, (0 : Int32))) fun w18 => some w18)) : Option Int32) = some o := h
  refine lv_aload_n hx hb dX5_rewritten_0 rfl (lv_at hl 0 rfl) ?_
  refine lv_iconst (v := (1 : Int32)) hx hb dX5_rewritten_1 (by decide) ?_
  refine lv_iload_n hx hb dX5_rewritten_2 rfl (lv_at hl 1 rfl) ?_
  obtain ⟨r2, hc1, h⟩ := bx1 h
  refine r_callV1 (As := [.int (1 : Int32), .int x91]) (rest := []) (ws' := (mW g a st)) (q0 := 0) E I hl.1 k5_57 (c5_of hc1) mW_k rfl rfl rfl rfl (Nat.le_of_ble_eq_true rfl) ⟨Nat.le_of_ble_eq_true rfl, Nat.le_of_ble_eq_true rfl⟩ ⟨Nat.zero_le _, Nat.zero_le _⟩ dX5_rewritten_3 (fun H locs I => ?_)
  refine lv_istore_n (lv' := [(2, .int r2), (0, .ref (a 0)), (1, .int x91)]) hx hb dX5_rewritten_6 rfl hl (by decide) rfl (fun ls hl => ?_)
  refine lv_iconst (v := (0 : Int32)) hx hb dX5_rewritten_7 (by decide) ?_
  refine lv_istore_n (lv' := [(3, .int (0 : Int32)), (2, .int r2), (0, .ref (a 0)), (1, .int x91)]) hx hb dX5_rewritten_8 rfl hl (by decide) rfl (fun ls hl => ?_)
  obtain ⟨z15, hw16, h⟩ := bx1 h
  refine wh_W (P := fun (z : Int32 × Int32) => ∀ (H : Heap) (locs : List Loc) (ls : Array Slot), wk D (mW g a st) A H0 H locs → lv_has ls 4 [(0, .ref (a 0)), (1, .int x91), (2, .int z.1), (3, .int z.2)] → W p l e (rmk 2 44) s m args below meth c H locs 0 0 Q (F0 m 9 ls [])) (X := fun (z : Int32) => ∀ (H : Heap) (locs : List Loc) (ls : Array Slot), wk D (mW g a st) A H0 H locs → lv_has ls 4 [(2, .int z)] → W p l e (rmk 2 44) s m args below meth c H locs 0 0 Q (F0 m 40 ls [])) ?_ FU _ _ hw16 ?_ _ _ _ I (lv_sub hl [2, 3, 1, 0] rfl)
  · intro z o7 h hk8 H locs ls I hl
    obtain ⟨x5, x6⟩ := z
    have h : ((if (4 : Int32) ≤ x6 then some (.inr x5) else (bi1 (f5_variableOf st (1 : Int32) x6) fun r11 => (if ib (((4 : Int32) * x6) + x91) 16 = true then (lq (x5 + (r11 * ((m_values st) (((4 : Int32) * x6) + x91).toNatClampNeg))) fun x13 => some (.inl (x13, (x6 + 1)))) else none))) : Option ((Int32 × Int32) ⊕ (Int32))) = some o7 := h
    have I : wk D (mW g a st) A H0 H locs := I
    have hl : lv_has ls 4 [(0, .ref (a 0)), (1, .int x91), (2, .int x5), (3, .int x6)] := hl
    refine lv_iload_n hx hb dX5_rewritten_9 rfl (lv_at hl 3 rfl) ?_
    refine lv_iconst (v := (4 : Int32)) hx hb dX5_rewritten_10 (by decide) ?_
    refine lv_icmp_ge (tgt := 40) hx hb dX5_rewritten_11 (by decide) (fun hc9 => ?_) (fun hc9 => ?_)
    · have h := ifp hc9 h
      cases h
      exact hk8 _ _ _ I (lv_sub hl [2] rfl)
    · have h := ifn hc9 h
      refine lv_iload_n hx hb dX5_rewritten_14 rfl (lv_at hl 2 rfl) ?_
      refine lv_aload_n hx hb dX5_rewritten_15 rfl (lv_at hl 0 rfl) ?_
      refine lv_iconst (v := (1 : Int32)) hx hb dX5_rewritten_16 (by decide) ?_
      refine lv_iload_n hx hb dX5_rewritten_17 rfl (lv_at hl 3 rfl) ?_
      obtain ⟨r11, hc10, h⟩ := bx1 h
      refine r_callV1 (As := [.int (1 : Int32), .int x6]) (rest := [.int x5]) (ws' := (mW g a st)) (q0 := 0) E I hl.1 k5_65 (c5_variableOf hc10) mW_k rfl rfl rfl rfl (Nat.le_of_ble_eq_true rfl) ⟨Nat.le_of_ble_eq_true rfl, Nat.le_of_ble_eq_true rfl⟩ ⟨Nat.zero_le _, Nat.zero_le _⟩ dX5_rewritten_18 (fun H locs I => ?_)
      refine lv_aload_n hx hb dX5_rewritten_21 rfl (lv_at hl 0 rfl) ?_
      refine g5_38 E I dX5_rewritten_22 ?_
      refine lv_iconst (v := (4 : Int32)) hx hb dX5_rewritten_25 (by decide) ?_
      refine lv_iload_n hx hb dX5_rewritten_26 rfl (lv_at hl 3 rfl) ?_
      refine lv_imul hx hb dX5_rewritten_27 ?_
      refine lv_iload_n hx hb dX5_rewritten_28 rfl (lv_at hl 1 rfl) ?_
      refine lv_iadd hx hb dX5_rewritten_29 ?_
      obtain ⟨hc12, h⟩ := gd h
      refine m_ld10 E I (f := (m_values st)) rfl hc12 dX5_rewritten_30 ?_
      refine lv_imul hx hb dX5_rewritten_31 ?_
      refine lv_iadd hx hb dX5_rewritten_32 ?_
      obtain ⟨x13, hx14, h⟩ := lqx h
      refine lv_istore_n (x := (x5 + (r11 * ((m_values st) (((4 : Int32) * x6) + x91).toNatClampNeg)))) (lv' := [(2, .int x13), (0, .ref (a 0)), (1, .int x91), (3, .int x6)]) hx hb dX5_rewritten_33 rfl hl (by decide) (by subst hx14; rfl) (fun ls hl => ?_)
      refine lv_iinc (v := (x6 + 1)) (lv' := [(3, .int (x6 + 1)), (2, .int x13), (0, .ref (a 0)), (1, .int x91)]) hx hb dX5_rewritten_34 hl (k := 3) rfl rfl (by decide) rfl (fun ls hl => ?_)
      refine lv_goto (tgt := 9) hx hb dX5_rewritten_37 (by decide) ?_
      cases h
      exact hk8 _ _ _ I (lv_sub hl [2, 3, 1, 0] rfl)
  · obtain ⟨x17, rfl⟩ : ∃ y, y = z15 := ⟨_, rfl⟩
    intro H locs ls I hl
    have h : (some x17 : Option Int32) = some o := h
    have I : wk D (mW g a st) A H0 H locs := I
    have hl : lv_has ls 4 [(2, .int x17)] := hl
    refine lv_iload_n hx hb dX5_rewritten_40 rfl (lv_at hl 0 rfl) ?_
    cases h
    exact K _ _ _ _ I dX5_rewritten_41
set_option maxHeartbeats 4000000 in
set_option maxRecDepth 100000 in
theorem c5_isTooMuch {l : Launch} {D : va_G} {g : Nat → ClassId} {a : Nat → Nat} {st : MS} {o : Int32} (h : f5_isTooMuch st = some o) : ct l yX5_isTooMuch cX5_isTooMuch 3 (some .boolean) (rmk 3 67) D g (mW g a st) (mW g a st) [.ref (a 0)] (some (.int o)) := by
  refine ct_of ⟨rfl, rfl⟩ (by decide) (Nat.le_of_ble_eq_true rfl) ?_
  intro p e s m args below meth c ls Q A H0 H locs E I hl K
  have E : en p m c cX5_isTooMuch 3 s args RX5 D g := E
  have hx := E.1.1
  have hb := E.1.2.1
  have hl : lv_has ls 3 [(0, .ref (a 0))] := hl
  have K : ∀ (pc : Nat) (ls : Array Slot) (H : Heap) (locs : List Loc), wk D (mW g a st) A H0 H locs → decode cX5_isTooMuch pc = .ok (.ireturn, 1) → zok o = true → W p l e (rmk 3 67) s m args below meth c H locs 0 0 Q (F0 m pc ls [.int o]) := fun pc ls H locs I hd hz => K pc ls H locs I ⟨hd, hz⟩
  have h : ((bi1 (wh (f5_isTooMuch_b4 st) FU ((0 : Int32), (0 : Int32))) fun w18 => (if zok w18 = true then some w18 else none)) : Option Int32) = some o := h
  refine lv_iconst (v := (0 : Int32)) hx hb dX5_isTooMuch_0 (by decide) ?_
  refine lv_istore_n (lv' := [(1, .int (0 : Int32)), (0, .ref (a 0))]) hx hb dX5_isTooMuch_1 rfl hl (by decide) rfl (fun ls hl => ?_)
  refine lv_iconst (v := (0 : Int32)) hx hb dX5_isTooMuch_2 (by decide) ?_
  refine lv_istore_n (lv' := [(2, .int (0 : Int32)), (1, .int (0 : Int32)), (0, .ref (a 0))]) hx hb dX5_isTooMuch_3 rfl hl (by decide) rfl (fun ls hl => ?_)
  obtain ⟨z14, hw15, h⟩ := bx1 h
  refine wh_W (P := fun (z : Int32 × Int32) => ∀ (H : Heap) (locs : List Loc) (ls : Array Slot), wk D (mW g a st) A H0 H locs → lv_has ls 3 [(0, .ref (a 0)), (1, .int z.1), (2, .int z.2)] → W p l e (rmk 3 67) s m args below meth c H locs 0 0 Q (F0 m 4 ls [])) (X := fun (z : Int32) => ∀ (H : Heap) (locs : List Loc) (ls : Array Slot), wk D (mW g a st) A H0 H locs → lv_has ls 3 [(1, .int z)] → W p l e (rmk 3 67) s m args below meth c H locs 0 0 Q (F0 m 35 ls [])) ?_ FU _ _ hw15 ?_ _ _ _ I (lv_sub hl [2, 1, 0] rfl)
  · intro z o4 h hk5 H locs ls I hl
    obtain ⟨x2, x3⟩ := z
    have h : ((if (4 : Int32) ≤ x3 then some (.inr x2) else (if x2 = 0 then (bi1 (f5_rewritten st x3) fun r9 => some (.inl ((if r9 ≤ (9 : Int32) then (0 : Int32) else (1 : Int32)), (x3 + 1)))) else some (.inl ((1 : Int32), (x3 + 1))))) : Option ((Int32 × Int32) ⊕ (Int32))) = some o4 := h
    have I : wk D (mW g a st) A H0 H locs := I
    have hl : lv_has ls 3 [(0, .ref (a 0)), (1, .int x2), (2, .int x3)] := hl
    refine lv_iload_n hx hb dX5_isTooMuch_4 rfl (lv_at hl 2 rfl) ?_
    refine lv_iconst (v := (4 : Int32)) hx hb dX5_isTooMuch_5 (by decide) ?_
    refine lv_icmp_ge (tgt := 35) hx hb dX5_isTooMuch_6 (by decide) (fun hc6 => ?_) (fun hc6 => ?_)
    · have h := ifp hc6 h
      cases h
      exact hk5 _ _ _ I (lv_sub hl [1] rfl)
    · have h := ifn hc6 h
      refine lv_iload_n hx hb dX5_isTooMuch_9 rfl (lv_at hl 1 rfl) ?_
      refine lv_if_ne (tgt := 23) hx hb dX5_isTooMuch_10 (by decide) (fun hc7 => ?_) (fun hc7 => ?_)
      · have h := ifn hc7 h
        refine lv_iconst (v := (1 : Int32)) hx hb dX5_isTooMuch_23 (by decide) ?_
        refine lv_goto (tgt := 28) hx hb dX5_isTooMuch_24 (by decide) ?_
        refine lv_istore_n (lv' := [(1, .int (1 : Int32)), (0, .ref (a 0)), (2, .int x3)]) hx hb dX5_isTooMuch_28 rfl hl (by decide) rfl (fun ls hl => ?_)
        refine lv_iinc (v := (x3 + 1)) (lv' := [(2, .int (x3 + 1)), (1, .int (1 : Int32)), (0, .ref (a 0))]) hx hb dX5_isTooMuch_29 hl (k := 2) rfl rfl (by decide) rfl (fun ls hl => ?_)
        refine lv_goto (tgt := 4) hx hb dX5_isTooMuch_32 (by decide) ?_
        cases h
        exact hk5 _ _ _ I (lv_sub hl [2, 1, 0] rfl)
      · have h := ifp hc7 h
        refine lv_aload_n hx hb dX5_isTooMuch_13 rfl (lv_at hl 0 rfl) ?_
        refine lv_iload_n hx hb dX5_isTooMuch_14 rfl (lv_at hl 2 rfl) ?_
        obtain ⟨r9, hc8, h⟩ := bx1 h
        refine r_callV1 (As := [.int x3]) (rest := []) (ws' := (mW g a st)) (q0 := 0) E I hl.1 k5_107 (c5_rewritten hc8) mW_k rfl rfl rfl rfl (Nat.le_of_ble_eq_true rfl) ⟨Nat.le_of_ble_eq_true rfl, Nat.le_of_ble_eq_true rfl⟩ ⟨Nat.zero_le _, Nat.zero_le _⟩ dX5_isTooMuch_15 (fun H locs I => ?_)
        refine lv_bipush (v := (9 : Int32)) hx hb dX5_isTooMuch_18 (by decide) ?_
        have J11 : ∀ (v10 : Int32) (H : Heap) (locs : List Loc), v10 = (if r9 ≤ (9 : Int32) then (0 : Int32) else (1 : Int32)) → wk D (mW g a st) A H0 H locs → W p l e (rmk 3 67) s m args below meth c H locs 0 0 Q (F0 m 28 ls [.int v10]) := by
          intro v10 H locs hv12 I
          subst hv12
          refine lv_istore_n (lv' := [(1, .int (if r9 ≤ (9 : Int32) then (0 : Int32) else (1 : Int32))), (0, .ref (a 0)), (2, .int x3)]) hx hb dX5_isTooMuch_28 rfl hl (by decide) rfl (fun ls hl => ?_)
          refine lv_iinc (v := (x3 + 1)) (lv' := [(2, .int (x3 + 1)), (1, .int (if r9 ≤ (9 : Int32) then (0 : Int32) else (1 : Int32))), (0, .ref (a 0))]) hx hb dX5_isTooMuch_29 hl (k := 2) rfl rfl (by decide) rfl (fun ls hl => ?_)
          refine lv_goto (tgt := 4) hx hb dX5_isTooMuch_32 (by decide) ?_
          cases h
          exact hk5 _ _ _ I (lv_sub hl [2, 1, 0] rfl)
        refine lv_icmp_le (tgt := 27) hx hb dX5_isTooMuch_20 (by decide) (fun hc13 => ?_) (fun hc13 => ?_)
        · refine lv_iconst (v := (0 : Int32)) hx hb dX5_isTooMuch_27 (by decide) ?_
          exact J11 _ _ _ (by rw [if_pos hc13]) I
        · refine lv_iconst (v := (1 : Int32)) hx hb dX5_isTooMuch_23 (by decide) ?_
          refine lv_goto (tgt := 28) hx hb dX5_isTooMuch_24 (by decide) ?_
          exact J11 _ _ _ (by rw [if_neg hc13]) I
  · obtain ⟨x16, rfl⟩ : ∃ y, y = z14 := ⟨_, rfl⟩
    intro H locs ls I hl
    have h : ((if zok x16 = true then some x16 else none) : Option Int32) = some o := h
    have I : wk D (mW g a st) A H0 H locs := I
    have hl : lv_has ls 3 [(1, .int x16)] := hl
    refine lv_iload_n hx hb dX5_isTooMuch_35 rfl (lv_at hl 0 rfl) ?_
    obtain ⟨hc17, h⟩ := gd h
    cases h
    exact K _ _ _ _ I dX5_isTooMuch_36 hc17
set_option maxHeartbeats 4000000 in
set_option maxRecDepth 100000 in
theorem c5_digit {l : Launch} {D : va_G} {g : Nat → ClassId} {x90 : Int32} {x91 : Int32} {o : Int32} (h : f5_digit x90 x91 = o) : ct l yX5_digit cX5_digit 2 (some .int) (rmk 0 0) D g [] [] [.int x90, .int x91] (some (.int o)) := by
  refine ct_of ⟨rfl, rfl⟩ (by decide) (Nat.le_of_ble_eq_true rfl) ?_
  intro p e s m args below meth c ls Q A H0 H locs E I hl K
  have E : en p m c cX5_digit 2 s args RX5 D g := E
  have hx := E.1.1
  have hb := E.1.2.1
  have hl : lv_has ls 2 [(0, .int x90), (1, .int x91)] := hl
  have K : ∀ (pc : Nat) (ls : Array Slot) (H : Heap) (locs : List Loc), wk D [] A H0 H locs → decode cX5_digit pc = .ok (.ireturn, 1) → W p l e (rmk 0 0) s m args below meth c H locs 0 0 Q (F0 m pc ls [.int o]) := fun pc ls H locs I hd => K pc ls H locs I hd
  have h : ((if x91 = 0 then (x90 / (1000 : Int32)) else (if x91 = (1 : Int32) then ((x90 / (100 : Int32)) - (x90 / (100 : Int32)) / (10 : Int32) * (10 : Int32)) else (if x91 = (2 : Int32) then ((x90 / (10 : Int32)) - (x90 / (10 : Int32)) / (10 : Int32) * (10 : Int32)) else (x90 - x90 / (10 : Int32) * (10 : Int32))))) : Int32) = o := h
  refine lv_iload_n hx hb dX5_digit_0 rfl (lv_at hl 1 rfl) ?_
  have J2 : ∀ (v1 : Int32) (H : Heap) (locs : List Loc), v1 = (if x91 = 0 then (x90 / (1000 : Int32)) else (if x91 = (1 : Int32) then ((x90 / (100 : Int32)) - (x90 / (100 : Int32)) / (10 : Int32) * (10 : Int32)) else (if x91 = (2 : Int32) then ((x90 / (10 : Int32)) - (x90 / (10 : Int32)) / (10 : Int32) * (10 : Int32)) else (x90 - x90 / (10 : Int32) * (10 : Int32))))) → wk D [] A H0 H locs → W p l e (rmk 0 0) s m args below meth c H locs 0 0 Q (F0 m 46 ls [.int v1]) := by
    intro v1 H locs hv3 I
    subst hv3
    cases h
    exact K _ _ _ _ I dX5_digit_46
  refine lv_if_ne (tgt := 12) hx hb dX5_digit_1 (by decide) (fun hc4 => ?_) (fun hc4 => ?_)
  · refine lv_iload_n hx hb dX5_digit_12 rfl (lv_at hl 1 rfl) ?_
    refine lv_iconst (v := (1 : Int32)) hx hb dX5_digit_13 (by decide) ?_
    refine lv_icmp_ne (tgt := 27) hx hb dX5_digit_14 (by decide) (fun hc5 => ?_) (fun hc5 => ?_)
    · refine lv_iload_n hx hb dX5_digit_27 rfl (lv_at hl 1 rfl) ?_
      refine lv_iconst (v := (2 : Int32)) hx hb dX5_digit_28 (by decide) ?_
      refine lv_icmp_ne (tgt := 42) hx hb dX5_digit_29 (by decide) (fun hc6 => ?_) (fun hc6 => ?_)
      · refine lv_iload_n hx hb dX5_digit_42 rfl (lv_at hl 0 rfl) ?_
        refine lv_bipush (v := (10 : Int32)) hx hb dX5_digit_43 (by decide) ?_
        refine lv_irem hx hb dX5_digit_45 (by decide) ?_
        exact J2 _ _ _ (by rw [if_neg hc4, if_neg hc5, if_neg hc6]) I
      · refine lv_iload_n hx hb dX5_digit_32 rfl (lv_at hl 0 rfl) ?_
        refine lv_bipush (v := (10 : Int32)) hx hb dX5_digit_33 (by decide) ?_
        refine lv_idiv hx hb dX5_digit_35 (by decide) ?_
        refine lv_bipush (v := (10 : Int32)) hx hb dX5_digit_36 (by decide) ?_
        refine lv_irem hx hb dX5_digit_38 (by decide) ?_
        refine lv_goto (tgt := 46) hx hb dX5_digit_39 (by decide) ?_
        exact J2 _ _ _ (by rw [if_neg hc4, if_neg hc5, if_pos hc6]) I
    · refine lv_iload_n hx hb dX5_digit_17 rfl (lv_at hl 0 rfl) ?_
      refine lv_bipush (v := (100 : Int32)) hx hb dX5_digit_18 (by decide) ?_
      refine lv_idiv hx hb dX5_digit_20 (by decide) ?_
      refine lv_bipush (v := (10 : Int32)) hx hb dX5_digit_21 (by decide) ?_
      refine lv_irem hx hb dX5_digit_23 (by decide) ?_
      refine lv_goto (tgt := 46) hx hb dX5_digit_24 (by decide) ?_
      exact J2 _ _ _ (by rw [if_neg hc4, if_pos hc5]) I
  · refine lv_iload_n hx hb dX5_digit_4 rfl (lv_at hl 0 rfl) ?_
    refine lv_sipush (v := (1000 : Int32)) hx hb dX5_digit_5 (by decide) ?_
    refine lv_idiv hx hb dX5_digit_8 (by decide) ?_
    refine lv_goto (tgt := 46) hx hb dX5_digit_9 (by decide) ?_
    exact J2 _ _ _ (by rw [if_pos hc4]) I
set_option maxHeartbeats 4000000 in
set_option maxRecDepth 100000 in
theorem c5_differenceOf {l : Launch} {D : va_G} {g : Nat → ClassId} {a : Nat → Nat} {st : MS} {x91 : Int32} {o : Int32} (h : f5_differenceOf st x91 = some o) : ct l yX5_differenceOf cX5_differenceOf 2 (some .int) (rmk 2 44) D g (mW g a st) (mW g a st) [.ref (a 0), .int x91] (some (.int o)) := by
  refine ct_of ⟨rfl, rfl⟩ (by decide) (Nat.le_of_ble_eq_true rfl) ?_
  intro p e s m args below meth c ls Q A H0 H locs E I hl K
  have E : en p m c cX5_differenceOf 2 s args RX5 D g := E
  have hx := E.1.1
  have hb := E.1.2.1
  have hl : lv_has ls 2 [(0, .ref (a 0)), (1, .int x91)] := hl
  have K : ∀ (pc : Nat) (ls : Array Slot) (H : Heap) (locs : List Loc), wk D (mW g a st) A H0 H locs → decode cX5_differenceOf pc = .ok (.ireturn, 1) → W p l e (rmk 2 44) s m args below meth c H locs 0 0 Q (F0 m pc ls [.int o]) := fun pc ls H locs I hd => K pc ls H locs I hd
  have h : ((bi1 (f5_variableOf st (0 : Int32) x91) fun r2 => (bi1 (f5_variableOf st (1 : Int32) x91) fun r4 => some (r2 - r4))) : Option Int32) = some o := h
  refine lv_aload_n hx hb dX5_differenceOf_0 rfl (lv_at hl 0 rfl) ?_
  refine lv_iconst (v := (0 : Int32)) hx hb dX5_differenceOf_1 (by decide) ?_
  refine lv_iload_n hx hb dX5_differenceOf_2 rfl (lv_at hl 1 rfl) ?_
  obtain ⟨r2, hc1, h⟩ := bx1 h
  refine r_callV1 (As := [.int (0 : Int32), .int x91]) (rest := []) (ws' := (mW g a st)) (q0 := 0) E I hl.1 k5_65 (c5_variableOf hc1) mW_k rfl rfl rfl rfl (Nat.le_of_ble_eq_true rfl) ⟨Nat.le_of_ble_eq_true rfl, Nat.le_of_ble_eq_true rfl⟩ ⟨Nat.zero_le _, Nat.zero_le _⟩ dX5_differenceOf_3 (fun H locs I => ?_)
  refine lv_aload_n hx hb dX5_differenceOf_6 rfl (lv_at hl 0 rfl) ?_
  refine lv_iconst (v := (1 : Int32)) hx hb dX5_differenceOf_7 (by decide) ?_
  refine lv_iload_n hx hb dX5_differenceOf_8 rfl (lv_at hl 1 rfl) ?_
  obtain ⟨r4, hc3, h⟩ := bx1 h
  refine r_callV1 (As := [.int (1 : Int32), .int x91]) (rest := [.int r2]) (ws' := (mW g a st)) (q0 := 0) E I hl.1 k5_65 (c5_variableOf hc3) mW_k rfl rfl rfl rfl (Nat.le_of_ble_eq_true rfl) ⟨Nat.le_of_ble_eq_true rfl, Nat.le_of_ble_eq_true rfl⟩ ⟨Nat.zero_le _, Nat.zero_le _⟩ dX5_differenceOf_9 (fun H locs I => ?_)
  refine lv_isub hx hb dX5_differenceOf_12 ?_
  cases h
  exact K _ _ _ _ I dX5_differenceOf_13
set_option maxHeartbeats 4000000 in
set_option maxRecDepth 100000 in
theorem c5_fulfils {l : Launch} {D : va_G} {g : Nat → ClassId} {a : Nat → Nat} {st : MS} {x91 : Int32} {o : Int32} (h : f5_fulfils st x91 = some o) : ct l yX5_fulfils cX5_fulfils 4 (some .boolean) (rmk 3 65) D g (mW g a st) (mW g a st) [.ref (a 0), .int x91] (some (.int o)) := by
  refine ct_of ⟨rfl, rfl⟩ (by decide) (Nat.le_of_ble_eq_true rfl) ?_
  intro p e s m args below meth c ls Q A H0 H locs E I hl K
  have E : en p m c cX5_fulfils 4 s args RX5 D g := E
  have hx := E.1.1
  have hb := E.1.2.1
  have hl : lv_has ls 4 [(0, .ref (a 0)), (1, .int x91)] := hl
  have K : ∀ (pc : Nat) (ls : Array Slot) (H : Heap) (locs : List Loc), wk D (mW g a st) A H0 H locs → decode cX5_fulfils pc = .ok (.ireturn, 1) → zok o = true → W p l e (rmk 3 65) s m args below meth c H locs 0 0 Q (F0 m pc ls [.int o]) := fun pc ls H locs I hd hz => K pc ls H locs I ⟨hd, hz⟩
  have h : ((bi1 (wh (f5_fulfils_b4 st x91) FU ((0 : Int32), (0 : Int32))) fun w14 => (if w14 = 0 then some (1 : Int32) else some (0 : Int32))) : Option Int32) = some o := h
  refine lv_iconst (v := (0 : Int32)) hx hb dX5_fulfils_0 (by decide) ?_
  refine lv_istore_n (lv' := [(2, .int (0 : Int32)), (0, .ref (a 0)), (1, .int x91)]) hx hb dX5_fulfils_1 rfl hl (by decide) rfl (fun ls hl => ?_)
  refine lv_iconst (v := (0 : Int32)) hx hb dX5_fulfils_2 (by decide) ?_
  refine lv_istore_n (lv' := [(3, .int (0 : Int32)), (2, .int (0 : Int32)), (0, .ref (a 0)), (1, .int x91)]) hx hb dX5_fulfils_3 rfl hl (by decide) rfl (fun ls hl => ?_)
  obtain ⟨z10, hw11, h⟩ := bx1 h
  refine wh_W (P := fun (z : Int32 × Int32) => ∀ (H : Heap) (locs : List Loc) (ls : Array Slot), wk D (mW g a st) A H0 H locs → lv_has ls 4 [(0, .ref (a 0)), (1, .int x91), (2, .int z.1), (3, .int z.2)] → W p l e (rmk 3 65) s m args below meth c H locs 0 0 Q (F0 m 4 ls [])) (X := fun (z : Int32) => ∀ (H : Heap) (locs : List Loc) (ls : Array Slot), wk D (mW g a st) A H0 H locs → lv_has ls 4 [(2, .int z)] → W p l e (rmk 3 65) s m args below meth c H locs 0 0 Q (F0 m 29 ls [])) ?_ FU _ _ hw11 ?_ _ _ _ I (lv_sub hl [2, 3, 1, 0] rfl)
  · intro z o5 h hk6 H locs ls I hl
    obtain ⟨x3, x4⟩ := z
    have h : ((if (4 : Int32) ≤ x4 then some (.inr x3) else (bi1 (f5_differenceOf st x4) fun r9 => some (.inl ((x3 + (r9 * (f5_digit x91 x4))), (x4 + 1))))) : Option ((Int32 × Int32) ⊕ (Int32))) = some o5 := h
    have I : wk D (mW g a st) A H0 H locs := I
    have hl : lv_has ls 4 [(0, .ref (a 0)), (1, .int x91), (2, .int x3), (3, .int x4)] := hl
    refine lv_iload_n hx hb dX5_fulfils_4 rfl (lv_at hl 3 rfl) ?_
    refine lv_iconst (v := (4 : Int32)) hx hb dX5_fulfils_5 (by decide) ?_
    refine lv_icmp_ge (tgt := 29) hx hb dX5_fulfils_6 (by decide) (fun hc7 => ?_) (fun hc7 => ?_)
    · have h := ifp hc7 h
      cases h
      exact hk6 _ _ _ I (lv_sub hl [2] rfl)
    · have h := ifn hc7 h
      refine lv_iload_n hx hb dX5_fulfils_9 rfl (lv_at hl 2 rfl) ?_
      refine lv_aload_n hx hb dX5_fulfils_10 rfl (lv_at hl 0 rfl) ?_
      refine lv_iload_n hx hb dX5_fulfils_11 rfl (lv_at hl 3 rfl) ?_
      obtain ⟨r9, hc8, h⟩ := bx1 h
      refine r_callV1 (As := [.int x4]) (rest := [.int x3]) (ws' := (mW g a st)) (q0 := 0) E I hl.1 k5_110 (c5_differenceOf hc8) mW_k rfl rfl rfl rfl (Nat.le_of_ble_eq_true rfl) ⟨Nat.le_of_ble_eq_true rfl, Nat.le_of_ble_eq_true rfl⟩ ⟨Nat.zero_le _, Nat.zero_le _⟩ dX5_fulfils_12 (fun H locs I => ?_)
      refine lv_iload_n hx hb dX5_fulfils_15 rfl (lv_at hl 1 rfl) ?_
      refine lv_iload_n hx hb dX5_fulfils_16 rfl (lv_at hl 3 rfl) ?_
      refine r_callS1 (As := [.int x91, .int x4]) (rest := [.int r9, .int x3]) E I hl.1 k5_113 (c5_digit rfl) rfl rfl (Nat.le_of_ble_eq_true rfl) ⟨Nat.le_of_ble_eq_true rfl, Nat.le_of_ble_eq_true rfl⟩ ⟨Nat.zero_le _, Nat.zero_le _⟩ dX5_fulfils_17 (fun H locs I => ?_)
      refine lv_imul hx hb dX5_fulfils_20 ?_
      refine lv_iadd hx hb dX5_fulfils_21 ?_
      refine lv_istore_n (lv' := [(2, .int (x3 + (r9 * (f5_digit x91 x4)))), (0, .ref (a 0)), (1, .int x91), (3, .int x4)]) hx hb dX5_fulfils_22 rfl hl (by decide) rfl (fun ls hl => ?_)
      refine lv_iinc (v := (x4 + 1)) (lv' := [(3, .int (x4 + 1)), (2, .int (x3 + (r9 * (f5_digit x91 x4)))), (0, .ref (a 0)), (1, .int x91)]) hx hb dX5_fulfils_23 hl (k := 3) rfl rfl (by decide) rfl (fun ls hl => ?_)
      refine lv_goto (tgt := 4) hx hb dX5_fulfils_26 (by decide) ?_
      cases h
      exact hk6 _ _ _ I (lv_sub hl [2, 3, 1, 0] rfl)
  · obtain ⟨x12, rfl⟩ : ∃ y, y = z10 := ⟨_, rfl⟩
    intro H locs ls I hl
    have h : ((if x12 = 0 then some (1 : Int32) else some (0 : Int32)) : Option Int32) = some o := h
    have I : wk D (mW g a st) A H0 H locs := I
    have hl : lv_has ls 4 [(2, .int x12)] := hl
    refine lv_iload_n hx hb dX5_fulfils_29 rfl (lv_at hl 0 rfl) ?_
    refine lv_if_ne (tgt := 37) hx hb dX5_fulfils_30 (by decide) (fun hc13 => ?_) (fun hc13 => ?_)
    · have h := ifn hc13 h
      refine lv_iconst (v := (0 : Int32)) hx hb dX5_fulfils_37 (by decide) ?_
      cases h
      exact K _ _ _ _ I dX5_fulfils_38 rfl
    · have h := ifp hc13 h
      refine lv_iconst (v := (1 : Int32)) hx hb dX5_fulfils_33 (by decide) ?_
      refine lv_goto (tgt := 38) hx hb dX5_fulfils_34 (by decide) ?_
      cases h
      exact K _ _ _ _ I dX5_fulfils_38 rfl
set_option maxHeartbeats 4000000 in
set_option maxRecDepth 100000 in
theorem c5_isAbove {l : Launch} {D : va_G} {g : Nat → ClassId} {a : Nat → Nat} {st : MS} {x91 : Int32} {x92 : Int32} {o : Int32} (h : f5_isAbove st x91 x92 = some o) : ct l yX5_isAbove cX5_isAbove 5 (some .boolean) (rmk 1 21) D g (mW g a st) (mW g a st) [.ref (a 0), .int x91, .int x92] (some (.int o)) := by
  refine ct_of ⟨rfl, rfl⟩ (by decide) (Nat.le_of_ble_eq_true rfl) ?_
  intro p e s m args below meth c ls Q A H0 H locs E I hl K
  have E : en p m c cX5_isAbove 5 s args RX5 D g := E
  have hx := E.1.1
  have hb := E.1.2.1
  have hl : lv_has ls 5 [(0, .ref (a 0)), (1, .int x91), (2, .int x92)] := hl
  have K : ∀ (pc : Nat) (ls : Array Slot) (H : Heap) (locs : List Loc), wk D (mW g a st) A H0 H locs → decode cX5_isAbove pc = .ok (.ireturn, 1) → zok o = true → W p l e (rmk 1 21) s m args below meth c H locs 0 0 Q (F0 m pc ls [.int o]) := fun pc ls H locs I hd hz => K pc ls H locs I ⟨hd, hz⟩
  have h : ((bi1 (wh (f5_isAbove_b5 st x91 x92) FU ((1 : Int32), (0 : Int32))) fun w20 => (if zok w20 = true then some w20 else none)) : Option Int32) = some o := h
  refine lv_iconst (v := (1 : Int32)) hx hb dX5_isAbove_0 (by decide) ?_
  refine lv_istore_n (lv' := [(3, .int (1 : Int32)), (0, .ref (a 0)), (1, .int x91), (2, .int x92)]) hx hb dX5_isAbove_1 rfl hl (by decide) rfl (fun ls hl => ?_)
  refine lv_iconst (v := (0 : Int32)) hx hb dX5_isAbove_2 (by decide) ?_
  refine lv_istore (lv' := [(4, .int (0 : Int32)), (3, .int (1 : Int32)), (0, .ref (a 0)), (1, .int x91), (2, .int x92)]) hx hb dX5_isAbove_3 hl (by decide) rfl (fun ls hl => ?_)
  obtain ⟨z16, hw17, h⟩ := bx1 h
  refine wh_W (P := fun (z : Int32 × Int32) => ∀ (H : Heap) (locs : List Loc) (ls : Array Slot), wk D (mW g a st) A H0 H locs → lv_has ls 5 [(1, .int x91), (2, .int x92), (3, .int z.1), (4, .int z.2)] → W p l e (rmk 1 21) s m args below meth c H locs 0 0 Q (F0 m 5 ls [])) (X := fun (z : Int32) => ∀ (H : Heap) (locs : List Loc) (ls : Array Slot), wk D (mW g a st) A H0 H locs → lv_has ls 5 [(3, .int z)] → W p l e (rmk 1 21) s m args below meth c H locs 0 0 Q (F0 m 42 ls [])) ?_ FU _ _ hw17 ?_ _ _ _ I (lv_sub hl [3, 4, 1, 0] rfl)
  · intro z o6 h hk7 H locs ls I hl
    obtain ⟨x4, x5⟩ := z
    have h : ((if (4 : Int32) ≤ x5 then some (.inr x4) else (lq (if x4 = 0 then (0 : Int32) else (if (f5_digit x91 x5) < (f5_digit x92 x5) then (0 : Int32) else (1 : Int32))) fun x12 => some (.inl (x12, (x5 + 1))))) : Option ((Int32 × Int32) ⊕ (Int32))) = some o6 := h
    have I : wk D (mW g a st) A H0 H locs := I
    have hl : lv_has ls 5 [(1, .int x91), (2, .int x92), (3, .int x4), (4, .int x5)] := hl
    refine lv_iload hx hb dX5_isAbove_5 (lv_at hl 3 rfl) ?_
    refine lv_iconst (v := (4 : Int32)) hx hb dX5_isAbove_7 (by decide) ?_
    refine lv_icmp_ge (tgt := 42) hx hb dX5_isAbove_8 (by decide) (fun hc8 => ?_) (fun hc8 => ?_)
    · have h := ifp hc8 h
      cases h
      exact hk7 _ _ _ I (lv_sub hl [2] rfl)
    · have h := ifn hc8 h
      refine lv_iload_n hx hb dX5_isAbove_11 rfl (lv_at hl 2 rfl) ?_
      have J10 : ∀ (v9 : Int32) (H : Heap) (locs : List Loc), v9 = (if x4 = 0 then (0 : Int32) else (if (f5_digit x91 x5) < (f5_digit x92 x5) then (0 : Int32) else (1 : Int32))) → wk D (mW g a st) A H0 H locs → W p l e (rmk 1 21) s m args below meth c H locs 0 0 Q (F0 m 35 ls [.int v9]) := by
        intro v9 H locs hv11 I
        subst hv11
        obtain ⟨x12, hx13, h⟩ := lqx h
        refine lv_istore_n (x := (if x4 = 0 then (0 : Int32) else (if (f5_digit x91 x5) < (f5_digit x92 x5) then (0 : Int32) else (1 : Int32)))) (lv' := [(3, .int x12), (1, .int x91), (2, .int x92), (4, .int x5)]) hx hb dX5_isAbove_35 rfl hl (by decide) (by subst hx13; rfl) (fun ls hl => ?_)
        refine lv_iinc (v := (x5 + 1)) (lv' := [(4, .int (x5 + 1)), (3, .int x12), (1, .int x91), (2, .int x92)]) hx hb dX5_isAbove_36 hl (k := 3) rfl rfl (by decide) rfl (fun ls hl => ?_)
        refine lv_goto (tgt := 5) hx hb dX5_isAbove_39 (by decide) ?_
        cases h
        exact hk7 _ _ _ I (lv_sub hl [2, 3, 1, 0] rfl)
      refine lv_if_eq (tgt := 34) hx hb dX5_isAbove_12 (by decide) (fun hc14 => ?_) (fun hc14 => ?_)
      · refine lv_iconst (v := (0 : Int32)) hx hb dX5_isAbove_34 (by decide) ?_
        exact J10 _ _ _ (by rw [if_pos hc14]) I
      · refine lv_iload_n hx hb dX5_isAbove_15 rfl (lv_at hl 0 rfl) ?_
        refine lv_iload hx hb dX5_isAbove_16 (lv_at hl 3 rfl) ?_
        refine r_callS1 (As := [.int x91, .int x5]) (rest := []) E I hl.1 k5_113 (c5_digit rfl) rfl rfl (Nat.le_of_ble_eq_true rfl) ⟨Nat.le_of_ble_eq_true rfl, Nat.le_of_ble_eq_true rfl⟩ ⟨Nat.zero_le _, Nat.zero_le _⟩ dX5_isAbove_18 (fun H locs I => ?_)
        refine lv_iload_n hx hb dX5_isAbove_21 rfl (lv_at hl 1 rfl) ?_
        refine lv_iload hx hb dX5_isAbove_22 (lv_at hl 3 rfl) ?_
        refine r_callS1 (As := [.int x92, .int x5]) (rest := [.int (f5_digit x91 x5)]) E I hl.1 k5_113 (c5_digit rfl) rfl rfl (Nat.le_of_ble_eq_true rfl) ⟨Nat.le_of_ble_eq_true rfl, Nat.le_of_ble_eq_true rfl⟩ ⟨Nat.zero_le _, Nat.zero_le _⟩ dX5_isAbove_24 (fun H locs I => ?_)
        refine lv_icmp_lt (tgt := 34) hx hb dX5_isAbove_27 (by decide) (fun hc15 => ?_) (fun hc15 => ?_)
        · refine lv_iconst (v := (0 : Int32)) hx hb dX5_isAbove_34 (by decide) ?_
          exact J10 _ _ _ (by rw [if_neg hc14, if_pos hc15]) I
        · refine lv_iconst (v := (1 : Int32)) hx hb dX5_isAbove_30 (by decide) ?_
          refine lv_goto (tgt := 35) hx hb dX5_isAbove_31 (by decide) ?_
          exact J10 _ _ _ (by rw [if_neg hc14, if_neg hc15]) I
  · obtain ⟨x18, rfl⟩ : ∃ y, y = z16 := ⟨_, rfl⟩
    intro H locs ls I hl
    have h : ((if zok x18 = true then some x18 else none) : Option Int32) = some o := h
    have I : wk D (mW g a st) A H0 H locs := I
    have hl : lv_has ls 5 [(3, .int x18)] := hl
    refine lv_iload_n hx hb dX5_isAbove_42 rfl (lv_at hl 0 rfl) ?_
    obtain ⟨hc19, h⟩ := gd h
    cases h
    exact K _ _ _ _ I dX5_isAbove_43 hc19
set_option maxHeartbeats 4000000 in
set_option maxRecDepth 100000 in
theorem c5_isLeast {l : Launch} {D : va_G} {g : Nat → ClassId} {a : Nat → Nat} {st : MS} {x91 : Int32} {o : Int32} (h : f5_isLeast st x91 = some o) : ct l yX5_isLeast cX5_isLeast 4 (some .boolean) (rmk 2 45) D g (mW g a st) (mW g a st) [.ref (a 0), .int x91] (some (.int o)) := by
  refine ct_of ⟨rfl, rfl⟩ (by decide) (Nat.le_of_ble_eq_true rfl) ?_
  intro p e s m args below meth c ls Q A H0 H locs E I hl K
  have E : en p m c cX5_isLeast 4 s args RX5 D g := E
  have hx := E.1.1
  have hb := E.1.2.1
  have hl : lv_has ls 4 [(0, .ref (a 0)), (1, .int x91)] := hl
  have K : ∀ (pc : Nat) (ls : Array Slot) (H : Heap) (locs : List Loc), wk D (mW g a st) A H0 H locs → decode cX5_isLeast pc = .ok (.ireturn, 1) → zok o = true → W p l e (rmk 2 45) s m args below meth c H locs 0 0 Q (F0 m pc ls [.int o]) := fun pc ls H locs I hd hz => K pc ls H locs I ⟨hd, hz⟩
  have h : ((bi1 (wh (f5_isLeast_b4 st x91) FU ((1 : Int32), (0 : Int32))) fun w20 => (if zok w20 = true then some w20 else none)) : Option Int32) = some o := h
  refine lv_iconst (v := (1 : Int32)) hx hb dX5_isLeast_0 (by decide) ?_
  refine lv_istore_n (lv' := [(2, .int (1 : Int32)), (0, .ref (a 0)), (1, .int x91)]) hx hb dX5_isLeast_1 rfl hl (by decide) rfl (fun ls hl => ?_)
  refine lv_iconst (v := (0 : Int32)) hx hb dX5_isLeast_2 (by decide) ?_
  refine lv_istore_n (lv' := [(3, .int (0 : Int32)), (2, .int (1 : Int32)), (0, .ref (a 0)), (1, .int x91)]) hx hb dX5_isLeast_3 rfl hl (by decide) rfl (fun ls hl => ?_)
  obtain ⟨z16, hw17, h⟩ := bx1 h
  refine wh_W (P := fun (z : Int32 × Int32) => ∀ (H : Heap) (locs : List Loc) (ls : Array Slot), wk D (mW g a st) A H0 H locs → lv_has ls 4 [(0, .ref (a 0)), (1, .int x91), (2, .int z.1), (3, .int z.2)] → W p l e (rmk 2 45) s m args below meth c H locs 0 0 Q (F0 m 4 ls [])) (X := fun (z : Int32) => ∀ (H : Heap) (locs : List Loc) (ls : Array Slot), wk D (mW g a st) A H0 H locs → lv_has ls 4 [(2, .int z)] → W p l e (rmk 2 45) s m args below meth c H locs 0 0 Q (F0 m 42 ls [])) ?_ FU _ _ hw17 ?_ _ _ _ I (lv_sub hl [2, 3, 1, 0] rfl)
  · intro z o5 h hk6 H locs ls I hl
    obtain ⟨x3, x4⟩ := z
    have h : ((if (m_leastMany st) ≤ x4 then some (.inr x3) else (if x3 = 0 then some (.inl ((0 : Int32), (x4 + 1))) else (if ib x4 400 = true then (bi1 (f5_isAbove st x91 ((m_leastOnes st) x4.toNatClampNeg)) fun r11 => some (.inl ((if r11 = 0 then (1 : Int32) else (0 : Int32)), (x4 + 1)))) else none))) : Option ((Int32 × Int32) ⊕ (Int32))) = some o5 := h
    have I : wk D (mW g a st) A H0 H locs := I
    have hl : lv_has ls 4 [(0, .ref (a 0)), (1, .int x91), (2, .int x3), (3, .int x4)] := hl
    refine lv_iload_n hx hb dX5_isLeast_4 rfl (lv_at hl 3 rfl) ?_
    refine lv_aload_n hx hb dX5_isLeast_5 rfl (lv_at hl 0 rfl) ?_
    refine g5_116 E I (v := (m_leastMany st)) rfl dX5_isLeast_6 ?_
    refine lv_icmp_ge (tgt := 42) hx hb dX5_isLeast_9 (by decide) (fun hc7 => ?_) (fun hc7 => ?_)
    · have h := ifp hc7 h
      cases h
      exact hk6 _ _ _ I (lv_sub hl [2] rfl)
    · have h := ifn hc7 h
      refine lv_iload_n hx hb dX5_isLeast_12 rfl (lv_at hl 2 rfl) ?_
      refine lv_if_eq (tgt := 34) hx hb dX5_isLeast_13 (by decide) (fun hc8 => ?_) (fun hc8 => ?_)
      · have h := ifp hc8 h
        refine lv_iconst (v := (0 : Int32)) hx hb dX5_isLeast_34 (by decide) ?_
        refine lv_istore_n (lv' := [(2, .int (0 : Int32)), (0, .ref (a 0)), (1, .int x91), (3, .int x4)]) hx hb dX5_isLeast_35 rfl hl (by decide) rfl (fun ls hl => ?_)
        refine lv_iinc (v := (x4 + 1)) (lv' := [(3, .int (x4 + 1)), (2, .int (0 : Int32)), (0, .ref (a 0)), (1, .int x91)]) hx hb dX5_isLeast_36 hl (k := 3) rfl rfl (by decide) rfl (fun ls hl => ?_)
        refine lv_goto (tgt := 4) hx hb dX5_isLeast_39 (by decide) ?_
        cases h
        exact hk6 _ _ _ I (lv_sub hl [2, 3, 1, 0] rfl)
      · have h := ifn hc8 h
        refine lv_aload_n hx hb dX5_isLeast_16 rfl (lv_at hl 0 rfl) ?_
        refine lv_iload_n hx hb dX5_isLeast_17 rfl (lv_at hl 1 rfl) ?_
        refine lv_aload_n hx hb dX5_isLeast_18 rfl (lv_at hl 0 rfl) ?_
        refine g5_41 E I dX5_isLeast_19 ?_
        refine lv_iload_n hx hb dX5_isLeast_22 rfl (lv_at hl 3 rfl) ?_
        obtain ⟨hc9, h⟩ := gd h
        refine m_ld11 E I (f := (m_leastOnes st)) rfl hc9 dX5_isLeast_23 ?_
        obtain ⟨r11, hc10, h⟩ := bx1 h
        refine r_callV1 (As := [.int x91, .int ((m_leastOnes st) x4.toNatClampNeg)]) (rest := []) (ws' := (mW g a st)) (q0 := 0) E I hl.1 k5_119 (c5_isAbove hc10) mW_k rfl rfl rfl rfl (Nat.le_of_ble_eq_true rfl) ⟨Nat.le_of_ble_eq_true rfl, Nat.le_of_ble_eq_true rfl⟩ ⟨Nat.zero_le _, Nat.zero_le _⟩ dX5_isLeast_24 (fun H locs I => ?_)
        have J13 : ∀ (v12 : Int32) (H : Heap) (locs : List Loc), v12 = (if r11 = 0 then (1 : Int32) else (0 : Int32)) → wk D (mW g a st) A H0 H locs → W p l e (rmk 2 45) s m args below meth c H locs 0 0 Q (F0 m 35 ls [.int v12]) := by
          intro v12 H locs hv14 I
          subst hv14
          refine lv_istore_n (lv' := [(2, .int (if r11 = 0 then (1 : Int32) else (0 : Int32))), (0, .ref (a 0)), (1, .int x91), (3, .int x4)]) hx hb dX5_isLeast_35 rfl hl (by decide) rfl (fun ls hl => ?_)
          refine lv_iinc (v := (x4 + 1)) (lv' := [(3, .int (x4 + 1)), (2, .int (if r11 = 0 then (1 : Int32) else (0 : Int32))), (0, .ref (a 0)), (1, .int x91)]) hx hb dX5_isLeast_36 hl (k := 3) rfl rfl (by decide) rfl (fun ls hl => ?_)
          refine lv_goto (tgt := 4) hx hb dX5_isLeast_39 (by decide) ?_
          cases h
          exact hk6 _ _ _ I (lv_sub hl [2, 3, 1, 0] rfl)
        refine lv_if_ne (tgt := 34) hx hb dX5_isLeast_27 (by decide) (fun hc15 => ?_) (fun hc15 => ?_)
        · refine lv_iconst (v := (0 : Int32)) hx hb dX5_isLeast_34 (by decide) ?_
          exact J13 _ _ _ (by rw [if_neg hc15]) I
        · refine lv_iconst (v := (1 : Int32)) hx hb dX5_isLeast_30 (by decide) ?_
          refine lv_goto (tgt := 35) hx hb dX5_isLeast_31 (by decide) ?_
          exact J13 _ _ _ (by rw [if_pos hc15]) I
  · obtain ⟨x18, rfl⟩ : ∃ y, y = z16 := ⟨_, rfl⟩
    intro H locs ls I hl
    have h : ((if zok x18 = true then some x18 else none) : Option Int32) = some o := h
    have I : wk D (mW g a st) A H0 H locs := I
    have hl : lv_has ls 4 [(2, .int x18)] := hl
    refine lv_iload_n hx hb dX5_isLeast_42 rfl (lv_at hl 0 rfl) ?_
    obtain ⟨hc19, h⟩ := gd h
    cases h
    exact K _ _ _ _ I dX5_isLeast_43 hc19
set_option maxHeartbeats 4000000 in
set_option maxRecDepth 100000 in
theorem c5_layLeast {l : Launch} {D : va_G} {g : Nat → ClassId} {a : Nat → Nat} {st : MS} {o : MS} (h : f5_layLeast st = some o) : ct l yX5_layLeast cX5_layLeast 3 none (rmk 4 88) D g (mW g a st) (mW g a o) [.ref (a 0)] none := by
  refine ct_of ⟨rfl, rfl⟩ (by decide) (Nat.le_of_ble_eq_true rfl) ?_
  intro p e s m args below meth c ls Q A H0 H locs E I hl K
  have E : en p m c cX5_layLeast 3 s args RX5 D g := E
  have hx := E.1.1
  have hb := E.1.2.1
  have hl : lv_has ls 3 [(0, .ref (a 0))] := hl
  have K : ∀ (pc : Nat) (ls : Array Slot) (H : Heap) (locs : List Loc), wk D (mW g a o) A H0 H locs → decode cX5_layLeast pc = .ok (.return_, 1) → W p l e (rmk 4 88) s m args below meth c H locs 0 0 Q (F0 m pc ls []) := fun pc ls H locs I hd => K pc ls H locs I hd
  have h : ((bi1 (wh (f5_layLeast_b7) FU ((m_leastMany_s st (0 : Int32)), (1 : Int32))) fun w18 => some w18) : Option MS) = some o := h
  refine lv_aload_n hx hb dX5_layLeast_0 rfl (lv_at hl 0 rfl) ?_
  refine lv_iconst (v := (0 : Int32)) hx hb dX5_layLeast_1 (by decide) ?_
  refine p5_116 E I dX5_layLeast_2 (fun H locs I => ?_)
  refine lv_iconst (v := (1 : Int32)) hx hb dX5_layLeast_5 (by decide) ?_
  refine lv_istore_n (lv' := [(1, .int (1 : Int32)), (0, .ref (a 0))]) hx hb dX5_layLeast_6 rfl hl (by decide) rfl (fun ls hl => ?_)
  obtain ⟨z15, hw16, h⟩ := bx1 h
  refine wh_W (P := fun (z : MS × Int32) => ∀ (H : Heap) (locs : List Loc) (ls : Array Slot), wk D (mW g a z.1) A H0 H locs → lv_has ls 3 [(0, .ref (a 0)), (1, .int z.2)] → W p l e (rmk 4 88) s m args below meth c H locs 0 0 Q (F0 m 7 ls [])) (X := fun (z : MS) => ∀ (H : Heap) (locs : List Loc) (ls : Array Slot), wk D (mW g a z) A H0 H locs → lv_has ls 3 [] → W p l e (rmk 4 88) s m args below meth c H locs 0 0 Q (F0 m 93 ls [])) ?_ FU _ _ hw16 ?_ _ _ _ I (lv_sub hl [1, 0] rfl)
  · intro z o3 h hk4 H locs ls I hl
    obtain ⟨st1, x2⟩ := z
    have h : ((if (1296 : Int32) ≤ x2 then some (.inr st1) else (lq (((((1000 : Int32) * (x2 / (216 : Int32))) + ((100 : Int32) * ((x2 / (36 : Int32)) - (x2 / (36 : Int32)) / (6 : Int32) * (6 : Int32)))) + ((10 : Int32) * ((x2 / (6 : Int32)) - (x2 / (6 : Int32)) / (6 : Int32) * (6 : Int32)))) + (x2 - x2 / (6 : Int32) * (6 : Int32))) fun x6 => (bi1 (f5_fulfils st1 x6) fun r9 => (if r9 = 0 then some (.inl (st1, (x2 + 1))) else (bi1 (f5_isLeast st1 x6) fun r12 => (if r12 = 0 then some (.inl (st1, (x2 + 1))) else (if ib (m_leastMany st1) 400 = true then some (.inl ((m_leastMany_s (m_leastOnes_s st1 (upd (m_leastOnes st1) (m_leastMany st1).toNatClampNeg x6)) ((m_leastMany st1) + (1 : Int32))), (x2 + 1))) else none))))))) : Option ((MS × Int32) ⊕ (MS))) = some o3 := h
    have I : wk D (mW g a st1) A H0 H locs := I
    have hl : lv_has ls 3 [(0, .ref (a 0)), (1, .int x2)] := hl
    refine lv_iload_n hx hb dX5_layLeast_7 rfl (lv_at hl 1 rfl) ?_
    refine lv_sipush (v := (1296 : Int32)) hx hb dX5_layLeast_8 (by decide) ?_
    refine lv_icmp_ge (tgt := 93) hx hb dX5_layLeast_11 (by decide) (fun hc5 => ?_) (fun hc5 => ?_)
    · have h := ifp hc5 h
      cases h
      exact hk4 _ _ _ I (lv_sub hl [] rfl)
    · have h := ifn hc5 h
      refine lv_sipush (v := (1000 : Int32)) hx hb dX5_layLeast_14 (by decide) ?_
      refine lv_iload_n hx hb dX5_layLeast_17 rfl (lv_at hl 1 rfl) ?_
      refine lv_sipush (v := (216 : Int32)) hx hb dX5_layLeast_18 (by decide) ?_
      refine lv_idiv hx hb dX5_layLeast_21 (by decide) ?_
      refine lv_imul hx hb dX5_layLeast_22 ?_
      refine lv_bipush (v := (100 : Int32)) hx hb dX5_layLeast_23 (by decide) ?_
      refine lv_iload_n hx hb dX5_layLeast_25 rfl (lv_at hl 1 rfl) ?_
      refine lv_bipush (v := (36 : Int32)) hx hb dX5_layLeast_26 (by decide) ?_
      refine lv_idiv hx hb dX5_layLeast_28 (by decide) ?_
      refine lv_bipush (v := (6 : Int32)) hx hb dX5_layLeast_29 (by decide) ?_
      refine lv_irem hx hb dX5_layLeast_31 (by decide) ?_
      refine lv_imul hx hb dX5_layLeast_32 ?_
      refine lv_iadd hx hb dX5_layLeast_33 ?_
      refine lv_bipush (v := (10 : Int32)) hx hb dX5_layLeast_34 (by decide) ?_
      refine lv_iload_n hx hb dX5_layLeast_36 rfl (lv_at hl 1 rfl) ?_
      refine lv_bipush (v := (6 : Int32)) hx hb dX5_layLeast_37 (by decide) ?_
      refine lv_idiv hx hb dX5_layLeast_39 (by decide) ?_
      refine lv_bipush (v := (6 : Int32)) hx hb dX5_layLeast_40 (by decide) ?_
      refine lv_irem hx hb dX5_layLeast_42 (by decide) ?_
      refine lv_imul hx hb dX5_layLeast_43 ?_
      refine lv_iadd hx hb dX5_layLeast_44 ?_
      refine lv_iload_n hx hb dX5_layLeast_45 rfl (lv_at hl 1 rfl) ?_
      refine lv_bipush (v := (6 : Int32)) hx hb dX5_layLeast_46 (by decide) ?_
      refine lv_irem hx hb dX5_layLeast_48 (by decide) ?_
      refine lv_iadd hx hb dX5_layLeast_49 ?_
      obtain ⟨x6, hx7, h⟩ := lqx h
      refine lv_istore_n (x := (((((1000 : Int32) * (x2 / (216 : Int32))) + ((100 : Int32) * ((x2 / (36 : Int32)) - (x2 / (36 : Int32)) / (6 : Int32) * (6 : Int32)))) + ((10 : Int32) * ((x2 / (6 : Int32)) - (x2 / (6 : Int32)) / (6 : Int32) * (6 : Int32)))) + (x2 - x2 / (6 : Int32) * (6 : Int32)))) (lv' := [(2, .int x6), (0, .ref (a 0)), (1, .int x2)]) hx hb dX5_layLeast_50 rfl hl (by decide) (by subst hx7; rfl) (fun ls hl => ?_)
      refine lv_aload_n hx hb dX5_layLeast_51 rfl (lv_at hl 1 rfl) ?_
      refine lv_iload_n hx hb dX5_layLeast_52 rfl (lv_at hl 0 rfl) ?_
      obtain ⟨r9, hc8, h⟩ := bx1 h
      refine r_callV1 (As := [.int x6]) (rest := []) (ws' := (mW g a st1)) (q0 := 0) E I hl.1 k5_123 (c5_fulfils hc8) mW_k rfl rfl rfl rfl (Nat.le_of_ble_eq_true rfl) ⟨Nat.le_of_ble_eq_true rfl, Nat.le_of_ble_eq_true rfl⟩ ⟨Nat.zero_le _, Nat.zero_le _⟩ dX5_layLeast_53 (fun H locs I => ?_)
      refine lv_if_eq (tgt := 87) hx hb dX5_layLeast_56 (by decide) (fun hc10 => ?_) (fun hc10 => ?_)
      · have h := ifp hc10 h
        refine lv_iinc (v := (x2 + 1)) (lv' := [(1, .int (x2 + 1)), (2, .int x6), (0, .ref (a 0))]) hx hb dX5_layLeast_87 hl (k := 2) rfl rfl (by decide) rfl (fun ls hl => ?_)
        refine lv_goto (tgt := 7) hx hb dX5_layLeast_90 (by decide) ?_
        cases h
        exact hk4 _ _ _ I (lv_sub hl [2, 0] rfl)
      · have h := ifn hc10 h
        refine lv_aload_n hx hb dX5_layLeast_59 rfl (lv_at hl 1 rfl) ?_
        refine lv_iload_n hx hb dX5_layLeast_60 rfl (lv_at hl 0 rfl) ?_
        obtain ⟨r12, hc11, h⟩ := bx1 h
        refine r_callV1 (As := [.int x6]) (rest := []) (ws' := (mW g a st1)) (q0 := 0) E I hl.1 k5_127 (c5_isLeast hc11) mW_k rfl rfl rfl rfl (Nat.le_of_ble_eq_true rfl) ⟨Nat.le_of_ble_eq_true rfl, Nat.le_of_ble_eq_true rfl⟩ ⟨Nat.zero_le _, Nat.zero_le _⟩ dX5_layLeast_61 (fun H locs I => ?_)
        refine lv_if_eq (tgt := 87) hx hb dX5_layLeast_64 (by decide) (fun hc13 => ?_) (fun hc13 => ?_)
        · have h := ifp hc13 h
          refine lv_iinc (v := (x2 + 1)) (lv' := [(1, .int (x2 + 1)), (2, .int x6), (0, .ref (a 0))]) hx hb dX5_layLeast_87 hl (k := 2) rfl rfl (by decide) rfl (fun ls hl => ?_)
          refine lv_goto (tgt := 7) hx hb dX5_layLeast_90 (by decide) ?_
          cases h
          exact hk4 _ _ _ I (lv_sub hl [2, 0] rfl)
        · have h := ifn hc13 h
          refine lv_aload_n hx hb dX5_layLeast_67 rfl (lv_at hl 1 rfl) ?_
          refine g5_41 E I dX5_layLeast_68 ?_
          refine lv_aload_n hx hb dX5_layLeast_71 rfl (lv_at hl 1 rfl) ?_
          refine g5_116 E I (v := (m_leastMany st1)) rfl dX5_layLeast_72 ?_
          refine lv_iload_n hx hb dX5_layLeast_75 rfl (lv_at hl 0 rfl) ?_
          obtain ⟨hc14, h⟩ := gd h
          refine m_st11 E I (f := (m_leastOnes st1)) rfl hc14 dX5_layLeast_76 (fun H locs I => ?_)
          refine lv_aload_n hx hb dX5_layLeast_77 rfl (lv_at hl 1 rfl) ?_
          refine lv_dup hx hb dX5_layLeast_78 rfl ?_
          refine g5_116 E I (v := (m_leastMany st1)) rfl dX5_layLeast_79 ?_
          refine lv_iconst (v := (1 : Int32)) hx hb dX5_layLeast_82 (by decide) ?_
          refine lv_iadd hx hb dX5_layLeast_83 ?_
          refine p5_116 E I dX5_layLeast_84 (fun H locs I => ?_)
          refine lv_iinc (v := (x2 + 1)) (lv' := [(1, .int (x2 + 1)), (2, .int x6), (0, .ref (a 0))]) hx hb dX5_layLeast_87 hl (k := 2) rfl rfl (by decide) rfl (fun ls hl => ?_)
          refine lv_goto (tgt := 7) hx hb dX5_layLeast_90 (by decide) ?_
          cases h
          exact hk4 _ _ _ I (lv_sub hl [2, 0] rfl)
  · obtain ⟨st17, rfl⟩ : ∃ y, y = z15 := ⟨_, rfl⟩
    intro H locs ls I hl
    have h : (some st17 : Option MS) = some o := h
    have I : wk D (mW g a st17) A H0 H locs := I
    have hl : lv_has ls 3 [] := hl
    cases h
    exact K _ _ _ _ I dX5_layLeast_93
set_option maxHeartbeats 4000000 in
set_option maxRecDepth 100000 in
theorem c5_sumsTo {l : Launch} {D : va_G} {g : Nat → ClassId} {a : Nat → Nat} {st : MS} {x91 : Int32} {x92 : Int32} {x93 : Int32} {x94 : Int32} {o : MS × Int32} (h : f5_sumsTo st x91 x92 x93 x94 = some o) : ct l yX5_sumsTo cX5_sumsTo 10 (some .int) (rmk 5 110) D g (mW g a st) (mW g a o.1) [.ref (a 0), .int x91, .int x92, .int x93, .int x94] (some (.int o.2)) := by
  refine ct_of ⟨rfl, rfl⟩ (by decide) (Nat.le_of_ble_eq_true rfl) ?_
  intro p e s m args below meth c ls Q A H0 H locs E I hl K
  have E : en p m c cX5_sumsTo 10 s args RX5 D g := E
  have hx := E.1.1
  have hb := E.1.2.1
  have hl : lv_has ls 10 [(0, .ref (a 0)), (1, .int x91), (2, .int x92), (3, .int x93), (4, .int x94)] := hl
  have K : ∀ (pc : Nat) (ls : Array Slot) (H : Heap) (locs : List Loc), wk D (mW g a o.1) A H0 H locs → decode cX5_sumsTo pc = .ok (.ireturn, 1) → W p l e (rmk 5 110) s m args below meth c H locs 0 0 Q (F0 m pc ls [.int o.2]) := fun pc ls H locs I hd => K pc ls H locs I hd
  have h : ((bi1 (f5_layLeast st) fun st2 => (bi1 (wh (f5_sumsTo_b7 x91 x92 x93 x94) FU (st2, (0 : Int32))) fun w62 => (bi1 (wh (f5_sumsTo_b41 x91 x92 x93 x94) FU (w62, (0 : Int32))) fun w61 => (if ib (((((343 : Int32) * x91) + ((49 : Int32) * x92)) + ((7 : Int32) * x93)) + x94) 2401 = true then some (w61, ((m_sumsOf w61) (((((343 : Int32) * x91) + ((49 : Int32) * x92)) + ((7 : Int32) * x93)) + x94).toNatClampNeg)) else none)))) : Option (MS × Int32)) = some o := h
  refine lv_aload_n hx hb dX5_sumsTo_0 rfl (lv_at hl 0 rfl) ?_
  obtain ⟨st2, hc1, h⟩ := bx1 h
  refine r_callV0 (As := []) (rest := []) (ws' := (mW g a st2)) (q0 := 0) E I hl.1 k5_130 (c5_layLeast hc1) mW_k rfl rfl rfl rfl (Nat.le_of_ble_eq_true rfl) ⟨Nat.le_of_ble_eq_true rfl, Nat.le_of_ble_eq_true rfl⟩ ⟨Nat.zero_le _, Nat.zero_le _⟩ dX5_sumsTo_1 (fun H locs I => ?_)
  refine lv_iconst (v := (0 : Int32)) hx hb dX5_sumsTo_4 (by decide) ?_
  refine lv_istore (lv' := [(5, .int (0 : Int32)), (0, .ref (a 0)), (1, .int x91), (2, .int x92), (3, .int x93), (4, .int x94)]) hx hb dX5_sumsTo_5 hl (by decide) rfl (fun ls hl => ?_)
  obtain ⟨z17, hw18, h⟩ := bx1 h
  refine wh_W (P := fun (z : MS × Int32) => ∀ (H : Heap) (locs : List Loc) (ls : Array Slot), wk D (mW g a z.1) A H0 H locs → lv_has ls 10 [(0, .ref (a 0)), (1, .int x91), (2, .int x92), (3, .int x93), (4, .int x94), (5, .int z.2)] → W p l e (rmk 5 110) s m args below meth c H locs 0 0 Q (F0 m 7 ls [])) (X := fun (z : MS) => ∀ (H : Heap) (locs : List Loc) (ls : Array Slot), wk D (mW g a z) A H0 H locs → lv_has ls 10 [(0, .ref (a 0)), (1, .int x91), (2, .int x92), (3, .int x93), (4, .int x94)] → W p l e (rmk 5 110) s m args below meth c H locs 0 0 Q (F0 m 38 ls [])) ?_ FU _ _ hw18 ?_ _ _ _ I (lv_sub hl [1, 2, 3, 4, 5, 0] rfl)
  · intro z o9 h hk10 H locs ls I hl
    obtain ⟨st3, x8⟩ := z
    have h : ((if (2401 : Int32) ≤ x8 then some (.inr st3) else (if ib x8 2401 = true then some (.inl ((m_sumsOf_s st3 (upd (m_sumsOf st3) x8.toNatClampNeg (if x8 = 0 then (1 : Int32) else (0 : Int32)))), (x8 + 1))) else none)) : Option ((MS × Int32) ⊕ (MS))) = some o9 := h
    have I : wk D (mW g a st3) A H0 H locs := I
    have hl : lv_has ls 10 [(0, .ref (a 0)), (1, .int x91), (2, .int x92), (3, .int x93), (4, .int x94), (5, .int x8)] := hl
    refine lv_iload hx hb dX5_sumsTo_7 (lv_at hl 5 rfl) ?_
    refine lv_sipush (v := (2401 : Int32)) hx hb dX5_sumsTo_9 (by decide) ?_
    refine lv_icmp_ge (tgt := 38) hx hb dX5_sumsTo_12 (by decide) (fun hc11 => ?_) (fun hc11 => ?_)
    · have h := ifp hc11 h
      cases h
      exact hk10 _ _ _ I (lv_sub hl [0, 1, 2, 3, 4] rfl)
    · have h := ifn hc11 h
      refine lv_aload_n hx hb dX5_sumsTo_15 rfl (lv_at hl 0 rfl) ?_
      refine g5_44 E I dX5_sumsTo_16 ?_
      refine lv_iload hx hb dX5_sumsTo_19 (lv_at hl 5 rfl) ?_
      refine lv_iload hx hb dX5_sumsTo_21 (lv_at hl 5 rfl) ?_
      have J13 : ∀ (v12 : Int32) (H : Heap) (locs : List Loc), v12 = (if x8 = 0 then (1 : Int32) else (0 : Int32)) → wk D (mW g a st3) A H0 H locs → W p l e (rmk 5 110) s m args below meth c H locs 0 0 Q (F0 m 31 ls [.int v12, .int x8, .ref (a 12)]) := by
        intro v12 H locs hv14 I
        subst hv14
        obtain ⟨hc15, h⟩ := gd h
        refine m_st12 E I (f := (m_sumsOf st3)) rfl hc15 dX5_sumsTo_31 (fun H locs I => ?_)
        refine lv_iinc (v := (x8 + 1)) (lv' := [(5, .int (x8 + 1)), (0, .ref (a 0)), (1, .int x91), (2, .int x92), (3, .int x93), (4, .int x94)]) hx hb dX5_sumsTo_32 hl (k := 5) rfl rfl (by decide) rfl (fun ls hl => ?_)
        refine lv_goto (tgt := 7) hx hb dX5_sumsTo_35 (by decide) ?_
        cases h
        exact hk10 _ _ _ I (lv_sub hl [1, 2, 3, 4, 5, 0] rfl)
      refine lv_if_ne (tgt := 30) hx hb dX5_sumsTo_23 (by decide) (fun hc16 => ?_) (fun hc16 => ?_)
      · refine lv_iconst (v := (0 : Int32)) hx hb dX5_sumsTo_30 (by decide) ?_
        exact J13 _ _ _ (by rw [if_neg hc16]) I
      · refine lv_iconst (v := (1 : Int32)) hx hb dX5_sumsTo_26 (by decide) ?_
        refine lv_goto (tgt := 31) hx hb dX5_sumsTo_27 (by decide) ?_
        exact J13 _ _ _ (by rw [if_pos hc16]) I
  · obtain ⟨st19, rfl⟩ : ∃ y, y = z17 := ⟨_, rfl⟩
    intro H locs ls I hl
    have h : ((bi1 (wh (f5_sumsTo_b41 x91 x92 x93 x94) FU (st19, (0 : Int32))) fun w61 => (if ib (((((343 : Int32) * x91) + ((49 : Int32) * x92)) + ((7 : Int32) * x93)) + x94) 2401 = true then some (w61, ((m_sumsOf w61) (((((343 : Int32) * x91) + ((49 : Int32) * x92)) + ((7 : Int32) * x93)) + x94).toNatClampNeg)) else none)) : Option (MS × Int32)) = some o := h
    have I : wk D (mW g a st19) A H0 H locs := I
    have hl : lv_has ls 10 [(0, .ref (a 0)), (1, .int x91), (2, .int x92), (3, .int x93), (4, .int x94)] := hl
    refine lv_iconst (v := (0 : Int32)) hx hb dX5_sumsTo_38 (by decide) ?_
    refine lv_istore (lv' := [(5, .int (0 : Int32)), (0, .ref (a 0)), (1, .int x91), (2, .int x92), (3, .int x93), (4, .int x94)]) hx hb dX5_sumsTo_39 hl (by decide) rfl (fun ls hl => ?_)
    obtain ⟨z57, hw58, h⟩ := bx1 h
    refine wh_W (P := fun (z : MS × Int32) => ∀ (H : Heap) (locs : List Loc) (ls : Array Slot), wk D (mW g a z.1) A H0 H locs → lv_has ls 10 [(0, .ref (a 0)), (1, .int x91), (2, .int x92), (3, .int x93), (4, .int x94), (5, .int z.2)] → W p l e (rmk 5 110) s m args below meth c H locs 0 0 Q (F0 m 41 ls [])) (X := fun (z : MS) => ∀ (H : Heap) (locs : List Loc) (ls : Array Slot), wk D (mW g a z) A H0 H locs → lv_has ls 10 [(0, .ref (a 0)), (1, .int x91), (2, .int x92), (3, .int x93), (4, .int x94)] → W p l e (rmk 5 110) s m args below meth c H locs 0 0 Q (F0 m 199 ls [])) ?_ FU _ _ hw58 ?_ _ _ _ I (lv_sub hl [1, 2, 3, 4, 5, 0] rfl)
    · intro z o26 h hk27 H locs ls I hl
      obtain ⟨st20, x25⟩ := z
      have h : ((if (m_leastMany st20) ≤ x25 then some (.inr st20) else (if ib x25 400 = true then (lq (((((343 : Int32) * (f5_digit ((m_leastOnes st20) x25.toNatClampNeg) (0 : Int32))) + ((49 : Int32) * (f5_digit ((m_leastOnes st20) x25.toNatClampNeg) (1 : Int32)))) + ((7 : Int32) * (f5_digit ((m_leastOnes st20) x25.toNatClampNeg) (2 : Int32)))) + (f5_digit ((m_leastOnes st20) x25.toNatClampNeg) (3 : Int32))) fun x30 => (bi1 (wh (f5_sumsTo_b102 x91 x92 x93 x94 x25 ((m_leastOnes st20) x25.toNatClampNeg) x30) FU (st20, x30)) fun w56 => some (.inl (w56, (x25 + 1))))) else none)) : Option ((MS × Int32) ⊕ (MS))) = some o26 := h
      have I : wk D (mW g a st20) A H0 H locs := I
      have hl : lv_has ls 10 [(0, .ref (a 0)), (1, .int x91), (2, .int x92), (3, .int x93), (4, .int x94), (5, .int x25)] := hl
      refine lv_iload hx hb dX5_sumsTo_41 (lv_at hl 5 rfl) ?_
      refine lv_aload_n hx hb dX5_sumsTo_43 rfl (lv_at hl 0 rfl) ?_
      refine g5_116 E I (v := (m_leastMany st20)) rfl dX5_sumsTo_44 ?_
      refine lv_icmp_ge (tgt := 199) hx hb dX5_sumsTo_47 (by decide) (fun hc28 => ?_) (fun hc28 => ?_)
      · have h := ifp hc28 h
        cases h
        exact hk27 _ _ _ I (lv_sub hl [0, 1, 2, 3, 4] rfl)
      · have h := ifn hc28 h
        refine lv_aload_n hx hb dX5_sumsTo_50 rfl (lv_at hl 0 rfl) ?_
        refine g5_41 E I dX5_sumsTo_51 ?_
        refine lv_iload hx hb dX5_sumsTo_54 (lv_at hl 5 rfl) ?_
        obtain ⟨hc29, h⟩ := gd h
        refine m_ld11 E I (f := (m_leastOnes st20)) rfl hc29 dX5_sumsTo_56 ?_
        refine lv_istore (lv' := [(6, .int ((m_leastOnes st20) x25.toNatClampNeg)), (0, .ref (a 0)), (1, .int x91), (2, .int x92), (3, .int x93), (4, .int x94), (5, .int x25)]) hx hb dX5_sumsTo_57 hl (by decide) rfl (fun ls hl => ?_)
        refine lv_sipush (v := (343 : Int32)) hx hb dX5_sumsTo_59 (by decide) ?_
        refine lv_iload hx hb dX5_sumsTo_62 (lv_at hl 0 rfl) ?_
        refine lv_iconst (v := (0 : Int32)) hx hb dX5_sumsTo_64 (by decide) ?_
        refine r_callS1 (As := [.int ((m_leastOnes st20) x25.toNatClampNeg), .int (0 : Int32)]) (rest := [.int (343 : Int32)]) E I hl.1 k5_113 (c5_digit rfl) rfl rfl (Nat.le_of_ble_eq_true rfl) ⟨Nat.le_of_ble_eq_true rfl, Nat.le_of_ble_eq_true rfl⟩ ⟨Nat.zero_le _, Nat.zero_le _⟩ dX5_sumsTo_65 (fun H locs I => ?_)
        refine lv_imul hx hb dX5_sumsTo_68 ?_
        refine lv_bipush (v := (49 : Int32)) hx hb dX5_sumsTo_69 (by decide) ?_
        refine lv_iload hx hb dX5_sumsTo_71 (lv_at hl 0 rfl) ?_
        refine lv_iconst (v := (1 : Int32)) hx hb dX5_sumsTo_73 (by decide) ?_
        refine r_callS1 (As := [.int ((m_leastOnes st20) x25.toNatClampNeg), .int (1 : Int32)]) (rest := [.int (49 : Int32), .int ((343 : Int32) * (f5_digit ((m_leastOnes st20) x25.toNatClampNeg) (0 : Int32)))]) E I hl.1 k5_113 (c5_digit rfl) rfl rfl (Nat.le_of_ble_eq_true rfl) ⟨Nat.le_of_ble_eq_true rfl, Nat.le_of_ble_eq_true rfl⟩ ⟨Nat.zero_le _, Nat.zero_le _⟩ dX5_sumsTo_74 (fun H locs I => ?_)
        refine lv_imul hx hb dX5_sumsTo_77 ?_
        refine lv_iadd hx hb dX5_sumsTo_78 ?_
        refine lv_bipush (v := (7 : Int32)) hx hb dX5_sumsTo_79 (by decide) ?_
        refine lv_iload hx hb dX5_sumsTo_81 (lv_at hl 0 rfl) ?_
        refine lv_iconst (v := (2 : Int32)) hx hb dX5_sumsTo_83 (by decide) ?_
        refine r_callS1 (As := [.int ((m_leastOnes st20) x25.toNatClampNeg), .int (2 : Int32)]) (rest := [.int (7 : Int32), .int (((343 : Int32) * (f5_digit ((m_leastOnes st20) x25.toNatClampNeg) (0 : Int32))) + ((49 : Int32) * (f5_digit ((m_leastOnes st20) x25.toNatClampNeg) (1 : Int32))))]) E I hl.1 k5_113 (c5_digit rfl) rfl rfl (Nat.le_of_ble_eq_true rfl) ⟨Nat.le_of_ble_eq_true rfl, Nat.le_of_ble_eq_true rfl⟩ ⟨Nat.zero_le _, Nat.zero_le _⟩ dX5_sumsTo_84 (fun H locs I => ?_)
        refine lv_imul hx hb dX5_sumsTo_87 ?_
        refine lv_iadd hx hb dX5_sumsTo_88 ?_
        refine lv_iload hx hb dX5_sumsTo_89 (lv_at hl 0 rfl) ?_
        refine lv_iconst (v := (3 : Int32)) hx hb dX5_sumsTo_91 (by decide) ?_
        refine r_callS1 (As := [.int ((m_leastOnes st20) x25.toNatClampNeg), .int (3 : Int32)]) (rest := [.int ((((343 : Int32) * (f5_digit ((m_leastOnes st20) x25.toNatClampNeg) (0 : Int32))) + ((49 : Int32) * (f5_digit ((m_leastOnes st20) x25.toNatClampNeg) (1 : Int32)))) + ((7 : Int32) * (f5_digit ((m_leastOnes st20) x25.toNatClampNeg) (2 : Int32))))]) E I hl.1 k5_113 (c5_digit rfl) rfl rfl (Nat.le_of_ble_eq_true rfl) ⟨Nat.le_of_ble_eq_true rfl, Nat.le_of_ble_eq_true rfl⟩ ⟨Nat.zero_le _, Nat.zero_le _⟩ dX5_sumsTo_92 (fun H locs I => ?_)
        refine lv_iadd hx hb dX5_sumsTo_95 ?_
        obtain ⟨x30, hx31, h⟩ := lqx h
        refine lv_istore (x := (((((343 : Int32) * (f5_digit ((m_leastOnes st20) x25.toNatClampNeg) (0 : Int32))) + ((49 : Int32) * (f5_digit ((m_leastOnes st20) x25.toNatClampNeg) (1 : Int32)))) + ((7 : Int32) * (f5_digit ((m_leastOnes st20) x25.toNatClampNeg) (2 : Int32)))) + (f5_digit ((m_leastOnes st20) x25.toNatClampNeg) (3 : Int32)))) (lv' := [(7, .int x30), (6, .int ((m_leastOnes st20) x25.toNatClampNeg)), (0, .ref (a 0)), (1, .int x91), (2, .int x92), (3, .int x93), (4, .int x94), (5, .int x25)]) hx hb dX5_sumsTo_96 hl (by decide) (by subst hx31; rfl) (fun ls hl => ?_)
        refine lv_iload hx hb dX5_sumsTo_98 (lv_at hl 0 rfl) ?_
        refine lv_istore (lv' := [(8, .int x30), (7, .int x30), (6, .int ((m_leastOnes st20) x25.toNatClampNeg)), (0, .ref (a 0)), (1, .int x91), (2, .int x92), (3, .int x93), (4, .int x94), (5, .int x25)]) hx hb dX5_sumsTo_100 hl (by decide) rfl (fun ls hl => ?_)
        obtain ⟨z53, hw54, h⟩ := bx1 h
        refine wh_W (P := fun (z : MS × Int32) => ∀ (H : Heap) (locs : List Loc) (ls : Array Slot), wk D (mW g a z.1) A H0 H locs → lv_has ls 10 [(0, .ref (a 0)), (1, .int x91), (2, .int x92), (3, .int x93), (4, .int x94), (5, .int x25), (6, .int ((m_leastOnes st20) x25.toNatClampNeg)), (7, .int x30), (8, .int z.2)] → W p l e (rmk 5 110) s m args below meth c H locs 0 0 Q (F0 m 102 ls [])) (X := fun (z : MS) => ∀ (H : Heap) (locs : List Loc) (ls : Array Slot), wk D (mW g a z) A H0 H locs → lv_has ls 10 [(0, .ref (a 0)), (1, .int x91), (2, .int x92), (3, .int x93), (4, .int x94), (5, .int x25)] → W p l e (rmk 5 110) s m args below meth c H locs 0 0 Q (F0 m 193 ls [])) ?_ FU _ _ hw54 ?_ _ _ _ I (lv_sub hl [3, 4, 5, 6, 7, 8, 2, 1, 0] rfl)
        · intro z o41 h hk42 H locs ls I hl
          obtain ⟨st32, x40⟩ := z
          have h : ((if (2401 : Int32) ≤ x40 then some (.inr st32) else (lq (((((1000 : Int32) * (x40 / (343 : Int32))) + ((100 : Int32) * ((x40 / (49 : Int32)) - (x40 / (49 : Int32)) / (7 : Int32) * (7 : Int32)))) + ((10 : Int32) * ((x40 / (7 : Int32)) - (x40 / (7 : Int32)) / (7 : Int32) * (7 : Int32)))) + (x40 - x40 / (7 : Int32) * (7 : Int32))) fun x44 => (if ib x40 2401 = true then (bi1 (f5_isAbove st32 x44 ((m_leastOnes st20) x25.toNatClampNeg)) fun r48 => (if r48 = 0 then (if ib x40 2401 = true then some (.inl ((m_sumsOf_s st32 (upd (m_sumsOf st32) x40.toNatClampNeg (((m_sumsOf st32) x40.toNatClampNeg) + (0 : Int32)))), (x40 + 1))) else none) else (if ib (x40 - x30) 2401 = true then (if ib x40 2401 = true then some (.inl ((m_sumsOf_s st32 (upd (m_sumsOf st32) x40.toNatClampNeg (((m_sumsOf st32) x40.toNatClampNeg) + ((m_sumsOf st32) (x40 - x30).toNatClampNeg)))), (x40 + 1))) else none) else none))) else none))) : Option ((MS × Int32) ⊕ (MS))) = some o41 := h
          have I : wk D (mW g a st32) A H0 H locs := I
          have hl : lv_has ls 10 [(0, .ref (a 0)), (1, .int x91), (2, .int x92), (3, .int x93), (4, .int x94), (5, .int x25), (6, .int ((m_leastOnes st20) x25.toNatClampNeg)), (7, .int x30), (8, .int x40)] := hl
          refine lv_iload hx hb dX5_sumsTo_102 (lv_at hl 8 rfl) ?_
          refine lv_sipush (v := (2401 : Int32)) hx hb dX5_sumsTo_104 (by decide) ?_
          refine lv_icmp_ge (tgt := 193) hx hb dX5_sumsTo_107 (by decide) (fun hc43 => ?_) (fun hc43 => ?_)
          · have h := ifp hc43 h
            cases h
            exact hk42 _ _ _ I (lv_sub hl [0, 1, 2, 3, 4, 5] rfl)
          · have h := ifn hc43 h
            refine lv_sipush (v := (1000 : Int32)) hx hb dX5_sumsTo_110 (by decide) ?_
            refine lv_iload hx hb dX5_sumsTo_113 (lv_at hl 8 rfl) ?_
            refine lv_sipush (v := (343 : Int32)) hx hb dX5_sumsTo_115 (by decide) ?_
            refine lv_idiv hx hb dX5_sumsTo_118 (by decide) ?_
            refine lv_imul hx hb dX5_sumsTo_119 ?_
            refine lv_bipush (v := (100 : Int32)) hx hb dX5_sumsTo_120 (by decide) ?_
            refine lv_iload hx hb dX5_sumsTo_122 (lv_at hl 8 rfl) ?_
            refine lv_bipush (v := (49 : Int32)) hx hb dX5_sumsTo_124 (by decide) ?_
            refine lv_idiv hx hb dX5_sumsTo_126 (by decide) ?_
            refine lv_bipush (v := (7 : Int32)) hx hb dX5_sumsTo_127 (by decide) ?_
            refine lv_irem hx hb dX5_sumsTo_129 (by decide) ?_
            refine lv_imul hx hb dX5_sumsTo_130 ?_
            refine lv_iadd hx hb dX5_sumsTo_131 ?_
            refine lv_bipush (v := (10 : Int32)) hx hb dX5_sumsTo_132 (by decide) ?_
            refine lv_iload hx hb dX5_sumsTo_134 (lv_at hl 8 rfl) ?_
            refine lv_bipush (v := (7 : Int32)) hx hb dX5_sumsTo_136 (by decide) ?_
            refine lv_idiv hx hb dX5_sumsTo_138 (by decide) ?_
            refine lv_bipush (v := (7 : Int32)) hx hb dX5_sumsTo_139 (by decide) ?_
            refine lv_irem hx hb dX5_sumsTo_141 (by decide) ?_
            refine lv_imul hx hb dX5_sumsTo_142 ?_
            refine lv_iadd hx hb dX5_sumsTo_143 ?_
            refine lv_iload hx hb dX5_sumsTo_144 (lv_at hl 8 rfl) ?_
            refine lv_bipush (v := (7 : Int32)) hx hb dX5_sumsTo_146 (by decide) ?_
            refine lv_irem hx hb dX5_sumsTo_148 (by decide) ?_
            refine lv_iadd hx hb dX5_sumsTo_149 ?_
            obtain ⟨x44, hx45, h⟩ := lqx h
            refine lv_istore (x := (((((1000 : Int32) * (x40 / (343 : Int32))) + ((100 : Int32) * ((x40 / (49 : Int32)) - (x40 / (49 : Int32)) / (7 : Int32) * (7 : Int32)))) + ((10 : Int32) * ((x40 / (7 : Int32)) - (x40 / (7 : Int32)) / (7 : Int32) * (7 : Int32)))) + (x40 - x40 / (7 : Int32) * (7 : Int32)))) (lv' := [(9, .int x44), (0, .ref (a 0)), (1, .int x91), (2, .int x92), (3, .int x93), (4, .int x94), (5, .int x25), (6, .int ((m_leastOnes st20) x25.toNatClampNeg)), (7, .int x30), (8, .int x40)]) hx hb dX5_sumsTo_150 hl (by decide) (by subst hx45; rfl) (fun ls hl => ?_)
            refine lv_aload_n hx hb dX5_sumsTo_152 rfl (lv_at hl 1 rfl) ?_
            refine g5_44 E I dX5_sumsTo_153 ?_
            refine lv_iload hx hb dX5_sumsTo_156 (lv_at hl 9 rfl) ?_
            refine lv_dup2_11 hx hb dX5_sumsTo_158 rfl rfl ?_
            obtain ⟨hc46, h⟩ := gd h
            refine m_ld12 E I (f := (m_sumsOf st32)) rfl hc46 dX5_sumsTo_159 ?_
            refine lv_aload_n hx hb dX5_sumsTo_160 rfl (lv_at hl 1 rfl) ?_
            refine lv_iload hx hb dX5_sumsTo_161 (lv_at hl 0 rfl) ?_
            refine lv_iload hx hb dX5_sumsTo_163 (lv_at hl 7 rfl) ?_
            obtain ⟨r48, hc47, h⟩ := bx1 h
            refine r_callV1 (As := [.int x44, .int ((m_leastOnes st20) x25.toNatClampNeg)]) (rest := [.int ((m_sumsOf st32) x40.toNatClampNeg), .int x40, .ref (a 12)]) (ws' := (mW g a st32)) (q0 := 0) E I hl.1 k5_119 (c5_isAbove hc47) mW_k rfl rfl rfl rfl (Nat.le_of_ble_eq_true rfl) ⟨Nat.le_of_ble_eq_true rfl, Nat.le_of_ble_eq_true rfl⟩ ⟨Nat.zero_le _, Nat.zero_le _⟩ dX5_sumsTo_165 (fun H locs I => ?_)
            refine lv_if_eq (tgt := 184) hx hb dX5_sumsTo_168 (by decide) (fun hc49 => ?_) (fun hc49 => ?_)
            · have h := ifp hc49 h
              refine lv_iconst (v := (0 : Int32)) hx hb dX5_sumsTo_184 (by decide) ?_
              refine lv_iadd hx hb dX5_sumsTo_185 ?_
              obtain ⟨hc50, h⟩ := gd h
              refine m_st12 E I (f := (m_sumsOf st32)) rfl hc50 dX5_sumsTo_186 (fun H locs I => ?_)
              refine lv_iinc (v := (x40 + 1)) (lv' := [(8, .int (x40 + 1)), (9, .int x44), (0, .ref (a 0)), (1, .int x91), (2, .int x92), (3, .int x93), (4, .int x94), (5, .int x25), (6, .int ((m_leastOnes st20) x25.toNatClampNeg)), (7, .int x30)]) hx hb dX5_sumsTo_187 hl (k := 9) rfl rfl (by decide) rfl (fun ls hl => ?_)
              refine lv_goto (tgt := 102) hx hb dX5_sumsTo_190 (by decide) ?_
              cases h
              exact hk42 _ _ _ I (lv_sub hl [2, 3, 4, 5, 6, 7, 8, 9, 0] rfl)
            · have h := ifn hc49 h
              refine lv_aload_n hx hb dX5_sumsTo_171 rfl (lv_at hl 1 rfl) ?_
              refine g5_44 E I dX5_sumsTo_172 ?_
              refine lv_iload hx hb dX5_sumsTo_175 (lv_at hl 9 rfl) ?_
              refine lv_iload hx hb dX5_sumsTo_177 (lv_at hl 8 rfl) ?_
              refine lv_isub hx hb dX5_sumsTo_179 ?_
              obtain ⟨hc51, h⟩ := gd h
              refine m_ld12 E I (f := (m_sumsOf st32)) rfl hc51 dX5_sumsTo_180 ?_
              refine lv_goto (tgt := 185) hx hb dX5_sumsTo_181 (by decide) ?_
              refine lv_iadd hx hb dX5_sumsTo_185 ?_
              obtain ⟨hc52, h⟩ := gd h
              refine m_st12 E I (f := (m_sumsOf st32)) rfl hc52 dX5_sumsTo_186 (fun H locs I => ?_)
              refine lv_iinc (v := (x40 + 1)) (lv' := [(8, .int (x40 + 1)), (9, .int x44), (0, .ref (a 0)), (1, .int x91), (2, .int x92), (3, .int x93), (4, .int x94), (5, .int x25), (6, .int ((m_leastOnes st20) x25.toNatClampNeg)), (7, .int x30)]) hx hb dX5_sumsTo_187 hl (k := 9) rfl rfl (by decide) rfl (fun ls hl => ?_)
              refine lv_goto (tgt := 102) hx hb dX5_sumsTo_190 (by decide) ?_
              cases h
              exact hk42 _ _ _ I (lv_sub hl [2, 3, 4, 5, 6, 7, 8, 9, 0] rfl)
        · obtain ⟨st55, rfl⟩ : ∃ y, y = z53 := ⟨_, rfl⟩
          intro H locs ls I hl
          have h : (some (.inl (st55, (x25 + 1))) : Option ((MS × Int32) ⊕ (MS))) = some o26 := h
          have I : wk D (mW g a st55) A H0 H locs := I
          have hl : lv_has ls 10 [(0, .ref (a 0)), (1, .int x91), (2, .int x92), (3, .int x93), (4, .int x94), (5, .int x25)] := hl
          refine lv_iinc (v := (x25 + 1)) (lv' := [(5, .int (x25 + 1)), (0, .ref (a 0)), (1, .int x91), (2, .int x92), (3, .int x93), (4, .int x94)]) hx hb dX5_sumsTo_193 hl (k := 5) rfl rfl (by decide) rfl (fun ls hl => ?_)
          refine lv_goto (tgt := 41) hx hb dX5_sumsTo_196 (by decide) ?_
          cases h
          exact hk27 _ _ _ I (lv_sub hl [1, 2, 3, 4, 5, 0] rfl)
    · obtain ⟨st59, rfl⟩ : ∃ y, y = z57 := ⟨_, rfl⟩
      intro H locs ls I hl
      have h : ((if ib (((((343 : Int32) * x91) + ((49 : Int32) * x92)) + ((7 : Int32) * x93)) + x94) 2401 = true then some (st59, ((m_sumsOf st59) (((((343 : Int32) * x91) + ((49 : Int32) * x92)) + ((7 : Int32) * x93)) + x94).toNatClampNeg)) else none) : Option (MS × Int32)) = some o := h
      have I : wk D (mW g a st59) A H0 H locs := I
      have hl : lv_has ls 10 [(0, .ref (a 0)), (1, .int x91), (2, .int x92), (3, .int x93), (4, .int x94)] := hl
      refine lv_aload_n hx hb dX5_sumsTo_199 rfl (lv_at hl 0 rfl) ?_
      refine g5_44 E I dX5_sumsTo_200 ?_
      refine lv_sipush (v := (343 : Int32)) hx hb dX5_sumsTo_203 (by decide) ?_
      refine lv_iload_n hx hb dX5_sumsTo_206 rfl (lv_at hl 1 rfl) ?_
      refine lv_imul hx hb dX5_sumsTo_207 ?_
      refine lv_bipush (v := (49 : Int32)) hx hb dX5_sumsTo_208 (by decide) ?_
      refine lv_iload_n hx hb dX5_sumsTo_210 rfl (lv_at hl 2 rfl) ?_
      refine lv_imul hx hb dX5_sumsTo_211 ?_
      refine lv_iadd hx hb dX5_sumsTo_212 ?_
      refine lv_bipush (v := (7 : Int32)) hx hb dX5_sumsTo_213 (by decide) ?_
      refine lv_iload_n hx hb dX5_sumsTo_215 rfl (lv_at hl 3 rfl) ?_
      refine lv_imul hx hb dX5_sumsTo_216 ?_
      refine lv_iadd hx hb dX5_sumsTo_217 ?_
      refine lv_iload hx hb dX5_sumsTo_218 (lv_at hl 4 rfl) ?_
      refine lv_iadd hx hb dX5_sumsTo_220 ?_
      obtain ⟨hc60, h⟩ := gd h
      refine m_ld12 E I (f := (m_sumsOf st59)) rfl hc60 dX5_sumsTo_221 ?_
      cases h
      exact K _ _ _ _ I dX5_sumsTo_222
set_option maxHeartbeats 4000000 in
set_option maxRecDepth 100000 in
theorem c5_greatestLeast {l : Launch} {D : va_G} {g : Nat → ClassId} {a : Nat → Nat} {st : MS} {o : MS × Int32} (h : f5_greatestLeast st = some o) : ct l yX5_greatestLeast cX5_greatestLeast 4 (some .int) (rmk 5 110) D g (mW g a st) (mW g a o.1) [.ref (a 0)] (some (.int o.2)) := by
  refine ct_of ⟨rfl, rfl⟩ (by decide) (Nat.le_of_ble_eq_true rfl) ?_
  intro p e s m args below meth c ls Q A H0 H locs E I hl K
  have E : en p m c cX5_greatestLeast 4 s args RX5 D g := E
  have hx := E.1.1
  have hb := E.1.2.1
  have hl : lv_has ls 4 [(0, .ref (a 0))] := hl
  have K : ∀ (pc : Nat) (ls : Array Slot) (H : Heap) (locs : List Loc), wk D (mW g a o.1) A H0 H locs → decode cX5_greatestLeast pc = .ok (.ireturn, 1) → W p l e (rmk 5 110) s m args below meth c H locs 0 0 Q (F0 m pc ls [.int o.2]) := fun pc ls H locs I hd => K pc ls H locs I hd
  have h : ((bi1 (f5_layLeast st) fun st2 => (bi1 (wh (f5_greatestLeast_b8 st2) FU ((0 : Int32), (0 : Int32))) fun w22 => some (st2, w22))) : Option (MS × Int32)) = some o := h
  refine lv_aload_n hx hb dX5_greatestLeast_0 rfl (lv_at hl 0 rfl) ?_
  obtain ⟨st2, hc1, h⟩ := bx1 h
  refine r_callV0 (As := []) (rest := []) (ws' := (mW g a st2)) (q0 := 0) E I hl.1 k5_130 (c5_layLeast hc1) mW_k rfl rfl rfl rfl (Nat.le_of_ble_eq_true rfl) ⟨Nat.le_of_ble_eq_true rfl, Nat.le_of_ble_eq_true rfl⟩ ⟨Nat.zero_le _, Nat.zero_le _⟩ dX5_greatestLeast_1 (fun H locs I => ?_)
  refine lv_iconst (v := (0 : Int32)) hx hb dX5_greatestLeast_4 (by decide) ?_
  refine lv_istore_n (lv' := [(1, .int (0 : Int32)), (0, .ref (a 0))]) hx hb dX5_greatestLeast_5 rfl hl (by decide) rfl (fun ls hl => ?_)
  refine lv_iconst (v := (0 : Int32)) hx hb dX5_greatestLeast_6 (by decide) ?_
  refine lv_istore_n (lv' := [(2, .int (0 : Int32)), (1, .int (0 : Int32)), (0, .ref (a 0))]) hx hb dX5_greatestLeast_7 rfl hl (by decide) rfl (fun ls hl => ?_)
  obtain ⟨z19, hw20, h⟩ := bx1 h
  refine wh_W (P := fun (z : Int32 × Int32) => ∀ (H : Heap) (locs : List Loc) (ls : Array Slot), wk D (mW g a st2) A H0 H locs → lv_has ls 4 [(0, .ref (a 0)), (1, .int z.1), (2, .int z.2)] → W p l e (rmk 5 110) s m args below meth c H locs 0 0 Q (F0 m 8 ls [])) (X := fun (z : Int32) => ∀ (H : Heap) (locs : List Loc) (ls : Array Slot), wk D (mW g a st2) A H0 H locs → lv_has ls 4 [(1, .int z)] → W p l e (rmk 5 110) s m args below meth c H locs 0 0 Q (F0 m 77 ls [])) ?_ FU _ _ hw20 ?_ _ _ _ I (lv_sub hl [2, 1, 0] rfl)
  · intro z o6 h hk7 H locs ls I hl
    obtain ⟨x4, x5⟩ := z
    have h : ((if (m_leastMany st2) ≤ x5 then some (.inr x4) else (if ib x5 400 = true then (if ib x5 400 = true then (if ib x5 400 = true then (if ib x5 400 = true then (lq ((((f5_digit ((m_leastOnes st2) x5.toNatClampNeg) (0 : Int32)) + (f5_digit ((m_leastOnes st2) x5.toNatClampNeg) (1 : Int32))) + (f5_digit ((m_leastOnes st2) x5.toNatClampNeg) (2 : Int32))) + (f5_digit ((m_leastOnes st2) x5.toNatClampNeg) (3 : Int32))) fun x13 => some (.inl ((if x13 ≤ x4 then x4 else x13), (x5 + 1)))) else none) else none) else none) else none)) : Option ((Int32 × Int32) ⊕ (Int32))) = some o6 := h
    have I : wk D (mW g a st2) A H0 H locs := I
    have hl : lv_has ls 4 [(0, .ref (a 0)), (1, .int x4), (2, .int x5)] := hl
    refine lv_iload_n hx hb dX5_greatestLeast_8 rfl (lv_at hl 2 rfl) ?_
    refine lv_aload_n hx hb dX5_greatestLeast_9 rfl (lv_at hl 0 rfl) ?_
    refine g5_116 E I (v := (m_leastMany st2)) rfl dX5_greatestLeast_10 ?_
    refine lv_icmp_ge (tgt := 77) hx hb dX5_greatestLeast_13 (by decide) (fun hc8 => ?_) (fun hc8 => ?_)
    · have h := ifp hc8 h
      cases h
      exact hk7 _ _ _ I (lv_sub hl [1] rfl)
    · have h := ifn hc8 h
      refine lv_aload_n hx hb dX5_greatestLeast_16 rfl (lv_at hl 0 rfl) ?_
      refine g5_41 E I dX5_greatestLeast_17 ?_
      refine lv_iload_n hx hb dX5_greatestLeast_20 rfl (lv_at hl 2 rfl) ?_
      obtain ⟨hc9, h⟩ := gd h
      refine m_ld11 E I (f := (m_leastOnes st2)) rfl hc9 dX5_greatestLeast_21 ?_
      refine lv_iconst (v := (0 : Int32)) hx hb dX5_greatestLeast_22 (by decide) ?_
      refine r_callS1 (As := [.int ((m_leastOnes st2) x5.toNatClampNeg), .int (0 : Int32)]) (rest := []) E I hl.1 k5_113 (c5_digit rfl) rfl rfl (Nat.le_of_ble_eq_true rfl) ⟨Nat.le_of_ble_eq_true rfl, Nat.le_of_ble_eq_true rfl⟩ ⟨Nat.zero_le _, Nat.zero_le _⟩ dX5_greatestLeast_23 (fun H locs I => ?_)
      refine lv_aload_n hx hb dX5_greatestLeast_26 rfl (lv_at hl 0 rfl) ?_
      refine g5_41 E I dX5_greatestLeast_27 ?_
      refine lv_iload_n hx hb dX5_greatestLeast_30 rfl (lv_at hl 2 rfl) ?_
      obtain ⟨hc10, h⟩ := gd h
      refine m_ld11 E I (f := (m_leastOnes st2)) rfl hc10 dX5_greatestLeast_31 ?_
      refine lv_iconst (v := (1 : Int32)) hx hb dX5_greatestLeast_32 (by decide) ?_
      refine r_callS1 (As := [.int ((m_leastOnes st2) x5.toNatClampNeg), .int (1 : Int32)]) (rest := [.int (f5_digit ((m_leastOnes st2) x5.toNatClampNeg) (0 : Int32))]) E I hl.1 k5_113 (c5_digit rfl) rfl rfl (Nat.le_of_ble_eq_true rfl) ⟨Nat.le_of_ble_eq_true rfl, Nat.le_of_ble_eq_true rfl⟩ ⟨Nat.zero_le _, Nat.zero_le _⟩ dX5_greatestLeast_33 (fun H locs I => ?_)
      refine lv_iadd hx hb dX5_greatestLeast_36 ?_
      refine lv_aload_n hx hb dX5_greatestLeast_37 rfl (lv_at hl 0 rfl) ?_
      refine g5_41 E I dX5_greatestLeast_38 ?_
      refine lv_iload_n hx hb dX5_greatestLeast_41 rfl (lv_at hl 2 rfl) ?_
      obtain ⟨hc11, h⟩ := gd h
      refine m_ld11 E I (f := (m_leastOnes st2)) rfl hc11 dX5_greatestLeast_42 ?_
      refine lv_iconst (v := (2 : Int32)) hx hb dX5_greatestLeast_43 (by decide) ?_
      refine r_callS1 (As := [.int ((m_leastOnes st2) x5.toNatClampNeg), .int (2 : Int32)]) (rest := [.int ((f5_digit ((m_leastOnes st2) x5.toNatClampNeg) (0 : Int32)) + (f5_digit ((m_leastOnes st2) x5.toNatClampNeg) (1 : Int32)))]) E I hl.1 k5_113 (c5_digit rfl) rfl rfl (Nat.le_of_ble_eq_true rfl) ⟨Nat.le_of_ble_eq_true rfl, Nat.le_of_ble_eq_true rfl⟩ ⟨Nat.zero_le _, Nat.zero_le _⟩ dX5_greatestLeast_44 (fun H locs I => ?_)
      refine lv_iadd hx hb dX5_greatestLeast_47 ?_
      refine lv_aload_n hx hb dX5_greatestLeast_48 rfl (lv_at hl 0 rfl) ?_
      refine g5_41 E I dX5_greatestLeast_49 ?_
      refine lv_iload_n hx hb dX5_greatestLeast_52 rfl (lv_at hl 2 rfl) ?_
      obtain ⟨hc12, h⟩ := gd h
      refine m_ld11 E I (f := (m_leastOnes st2)) rfl hc12 dX5_greatestLeast_53 ?_
      refine lv_iconst (v := (3 : Int32)) hx hb dX5_greatestLeast_54 (by decide) ?_
      refine r_callS1 (As := [.int ((m_leastOnes st2) x5.toNatClampNeg), .int (3 : Int32)]) (rest := [.int (((f5_digit ((m_leastOnes st2) x5.toNatClampNeg) (0 : Int32)) + (f5_digit ((m_leastOnes st2) x5.toNatClampNeg) (1 : Int32))) + (f5_digit ((m_leastOnes st2) x5.toNatClampNeg) (2 : Int32)))]) E I hl.1 k5_113 (c5_digit rfl) rfl rfl (Nat.le_of_ble_eq_true rfl) ⟨Nat.le_of_ble_eq_true rfl, Nat.le_of_ble_eq_true rfl⟩ ⟨Nat.zero_le _, Nat.zero_le _⟩ dX5_greatestLeast_55 (fun H locs I => ?_)
      refine lv_iadd hx hb dX5_greatestLeast_58 ?_
      obtain ⟨x13, hx14, h⟩ := lqx h
      refine lv_istore_n (x := ((((f5_digit ((m_leastOnes st2) x5.toNatClampNeg) (0 : Int32)) + (f5_digit ((m_leastOnes st2) x5.toNatClampNeg) (1 : Int32))) + (f5_digit ((m_leastOnes st2) x5.toNatClampNeg) (2 : Int32))) + (f5_digit ((m_leastOnes st2) x5.toNatClampNeg) (3 : Int32)))) (lv' := [(3, .int x13), (0, .ref (a 0)), (1, .int x4), (2, .int x5)]) hx hb dX5_greatestLeast_59 rfl hl (by decide) (by subst hx14; rfl) (fun ls hl => ?_)
      refine lv_iload_n hx hb dX5_greatestLeast_60 rfl (lv_at hl 0 rfl) ?_
      refine lv_iload_n hx hb dX5_greatestLeast_61 rfl (lv_at hl 2 rfl) ?_
      have J16 : ∀ (v15 : Int32) (H : Heap) (locs : List Loc), v15 = (if x13 ≤ x4 then x4 else x13) → wk D (mW g a st2) A H0 H locs → W p l e (rmk 5 110) s m args below meth c H locs 0 0 Q (F0 m 70 ls [.int v15]) := by
        intro v15 H locs hv17 I
        subst hv17
        refine lv_istore_n (lv' := [(1, .int (if x13 ≤ x4 then x4 else x13)), (3, .int x13), (0, .ref (a 0)), (2, .int x5)]) hx hb dX5_greatestLeast_70 rfl hl (by decide) rfl (fun ls hl => ?_)
        refine lv_iinc (v := (x5 + 1)) (lv' := [(2, .int (x5 + 1)), (1, .int (if x13 ≤ x4 then x4 else x13)), (3, .int x13), (0, .ref (a 0))]) hx hb dX5_greatestLeast_71 hl (k := 3) rfl rfl (by decide) rfl (fun ls hl => ?_)
        refine lv_goto (tgt := 8) hx hb dX5_greatestLeast_74 (by decide) ?_
        cases h
        exact hk7 _ _ _ I (lv_sub hl [3, 1, 0] rfl)
      refine lv_icmp_le (tgt := 69) hx hb dX5_greatestLeast_62 (by decide) (fun hc18 => ?_) (fun hc18 => ?_)
      · refine lv_iload_n hx hb dX5_greatestLeast_69 rfl (lv_at hl 2 rfl) ?_
        exact J16 _ _ _ (by rw [if_pos hc18]) I
      · refine lv_iload_n hx hb dX5_greatestLeast_65 rfl (lv_at hl 0 rfl) ?_
        refine lv_goto (tgt := 70) hx hb dX5_greatestLeast_66 (by decide) ?_
        exact J16 _ _ _ (by rw [if_neg hc18]) I
  · obtain ⟨x21, rfl⟩ : ∃ y, y = z19 := ⟨_, rfl⟩
    intro H locs ls I hl
    have h : (some (st2, x21) : Option (MS × Int32)) = some o := h
    have I : wk D (mW g a st2) A H0 H locs := I
    have hl : lv_has ls 4 [(1, .int x21)] := hl
    refine lv_iload_n hx hb dX5_greatestLeast_77 rfl (lv_at hl 0 rfl) ?_
    cases h
    exact K _ _ _ _ I dX5_greatestLeast_78
set_option maxHeartbeats 4000000 in
set_option maxRecDepth 100000 in
theorem c5_constant {l : Launch} {D : va_G} {g : Nat → ClassId} {a : Nat → Nat} {st : MS} {x91 : Int32} {x92 : Int32} {x93 : Int32} {o : MS × Int32} (h : f5_constant st x91 x92 x93 = some o) : ct l yX5_constant cX5_constant 5 (some .int) (rmk 2 42) D g (mW g a st) (mW g a o.1) [.ref (a 0), .int x91, .int x92, .int x93] (some (.int o.2)) := by
  refine ct_of ⟨rfl, rfl⟩ (by decide) (Nat.le_of_ble_eq_true rfl) ?_
  intro p e s m args below meth c ls Q A H0 H locs E I hl K
  have E : en p m c cX5_constant 5 s args RX5 D g := E
  have hx := E.1.1
  have hb := E.1.2.1
  have hl : lv_has ls 5 [(0, .ref (a 0)), (1, .int x91), (2, .int x92), (3, .int x93)] := hl
  have K : ∀ (pc : Nat) (ls : Array Slot) (H : Heap) (locs : List Loc), wk D (mW g a o.1) A H0 H locs → decode cX5_constant pc = .ok (.ireturn, 1) → W p l e (rmk 2 42) s m args below meth c H locs 0 0 Q (F0 m pc ls [.int o.2]) := fun pc ls H locs I hd => K pc ls H locs I hd
  have h : ((if (if (f5_isProduct x91) = 0 then (1 : Int32) else (if (f5_isConstant x92) = 0 then (1 : Int32) else (if (f5_within x93 (0 : Int32) (9 : Int32)) = 0 then (2 : Int32) else (0 : Int32)))) ≤ 0 then (bi1 (f5_save (m_thrown_s st (if (f5_isProduct x91) = 0 then (1 : Int32) else (if (f5_isConstant x92) = 0 then (1 : Int32) else (if (f5_within x93 (0 : Int32) (9 : Int32)) = 0 then (2 : Int32) else (0 : Int32)))))) fun st6 => (bi1 (f5_of st6 x91 x92) fun r8 => (if ib (((8 : Int32) * x91) + x92) 26 = true then some ((m_z_s st6 (upd (m_z st6) (((8 : Int32) * x91) + x92).toNatClampNeg x93)), r8) else none))) else some ((m_thrown_s st (if (f5_isProduct x91) = 0 then (1 : Int32) else (if (f5_isConstant x92) = 0 then (1 : Int32) else (if (f5_within x93 (0 : Int32) (9 : Int32)) = 0 then (2 : Int32) else (0 : Int32))))), (0 : Int32))) : Option (MS × Int32)) = some o := h
  refine lv_aload_n hx hb dX5_constant_0 rfl (lv_at hl 0 rfl) ?_
  refine lv_iload_n hx hb dX5_constant_1 rfl (lv_at hl 1 rfl) ?_
  refine r_callS1 (As := [.int x91]) (rest := [.ref (a 0)]) E I hl.1 k5_133 (c5_isProduct rfl) rfl rfl (Nat.le_of_ble_eq_true rfl) ⟨Nat.le_of_ble_eq_true rfl, Nat.le_of_ble_eq_true rfl⟩ ⟨Nat.zero_le _, Nat.zero_le _⟩ dX5_constant_2 (fun H locs I => ?_)
  have J2 : ∀ (v1 : Int32) (H : Heap) (locs : List Loc), v1 = (if (f5_isProduct x91) = 0 then (1 : Int32) else (if (f5_isConstant x92) = 0 then (1 : Int32) else (if (f5_within x93 (0 : Int32) (9 : Int32)) = 0 then (2 : Int32) else (0 : Int32)))) → wk D (mW g a st) A H0 H locs → W p l e (rmk 2 42) s m args below meth c H locs 0 0 Q (F0 m 34 ls [.int v1, .ref (a 0)]) := by
    intro v1 H locs hv3 I
    subst hv3
    refine p5_50 E I dX5_constant_34 (fun H locs I => ?_)
    refine lv_aload_n hx hb dX5_constant_37 rfl (lv_at hl 0 rfl) ?_
    refine g5_50 E I (v := (if (f5_isProduct x91) = 0 then (1 : Int32) else (if (f5_isConstant x92) = 0 then (1 : Int32) else (if (f5_within x93 (0 : Int32) (9 : Int32)) = 0 then (2 : Int32) else (0 : Int32))))) rfl dX5_constant_38 ?_
    refine lv_if_le (tgt := 46) hx hb dX5_constant_41 (by decide) (fun hc4 => ?_) (fun hc4 => ?_)
    · have h := ifp hc4 h
      refine lv_aload_n hx hb dX5_constant_46 rfl (lv_at hl 0 rfl) ?_
      obtain ⟨st6, hc5, h⟩ := bx1 h
      refine r_callV0 (As := []) (rest := []) (ws' := (mW g a st6)) (q0 := 0) E I hl.1 k5_139 (c5_save hc5) mW_k rfl rfl rfl rfl (Nat.le_of_ble_eq_true rfl) ⟨Nat.le_of_ble_eq_true rfl, Nat.le_of_ble_eq_true rfl⟩ ⟨Nat.zero_le _, Nat.zero_le _⟩ dX5_constant_47 (fun H locs I => ?_)
      refine lv_aload_n hx hb dX5_constant_50 rfl (lv_at hl 0 rfl) ?_
      refine lv_iload_n hx hb dX5_constant_51 rfl (lv_at hl 1 rfl) ?_
      refine lv_iload_n hx hb dX5_constant_52 rfl (lv_at hl 2 rfl) ?_
      obtain ⟨r8, hc7, h⟩ := bx1 h
      refine r_callV1 (As := [.int x91, .int x92]) (rest := []) (ws' := (mW g a st6)) (q0 := 0) E I hl.1 k5_57 (c5_of hc7) mW_k rfl rfl rfl rfl (Nat.le_of_ble_eq_true rfl) ⟨Nat.le_of_ble_eq_true rfl, Nat.le_of_ble_eq_true rfl⟩ ⟨Nat.zero_le _, Nat.zero_le _⟩ dX5_constant_53 (fun H locs I => ?_)
      refine lv_istore (lv' := [(4, .int r8), (0, .ref (a 0)), (1, .int x91), (2, .int x92), (3, .int x93)]) hx hb dX5_constant_56 hl (by decide) rfl (fun ls hl => ?_)
      refine lv_aload_n hx hb dX5_constant_58 rfl (lv_at hl 1 rfl) ?_
      refine g5_7 E I dX5_constant_59 ?_
      refine lv_bipush (v := (8 : Int32)) hx hb dX5_constant_62 (by decide) ?_
      refine lv_iload_n hx hb dX5_constant_64 rfl (lv_at hl 2 rfl) ?_
      refine lv_imul hx hb dX5_constant_65 ?_
      refine lv_iload_n hx hb dX5_constant_66 rfl (lv_at hl 3 rfl) ?_
      refine lv_iadd hx hb dX5_constant_67 ?_
      refine lv_iload_n hx hb dX5_constant_68 rfl (lv_at hl 4 rfl) ?_
      obtain ⟨hc9, h⟩ := gd h
      refine m_st1 E I (f := (m_z st6)) rfl hc9 dX5_constant_69 (fun H locs I => ?_)
      refine lv_iload hx hb dX5_constant_70 (lv_at hl 0 rfl) ?_
      cases h
      exact K _ _ _ _ I dX5_constant_72
    · have h := ifn hc4 h
      refine lv_iconst (v := (0 : Int32)) hx hb dX5_constant_44 (by decide) ?_
      cases h
      exact K _ _ _ _ I dX5_constant_45
  refine lv_if_eq (tgt := 15) hx hb dX5_constant_5 (by decide) (fun hc10 => ?_) (fun hc10 => ?_)
  · refine lv_iconst (v := (1 : Int32)) hx hb dX5_constant_15 (by decide) ?_
    refine lv_goto (tgt := 34) hx hb dX5_constant_16 (by decide) ?_
    exact J2 _ _ _ (by rw [if_pos hc10]) I
  · refine lv_iload_n hx hb dX5_constant_8 rfl (lv_at hl 2 rfl) ?_
    refine r_callS1 (As := [.int x92]) (rest := [.ref (a 0)]) E I hl.1 k5_136 (c5_isConstant rfl) rfl rfl (Nat.le_of_ble_eq_true rfl) ⟨Nat.le_of_ble_eq_true rfl, Nat.le_of_ble_eq_true rfl⟩ ⟨Nat.zero_le _, Nat.zero_le _⟩ dX5_constant_9 (fun H locs I => ?_)
    refine lv_if_ne (tgt := 19) hx hb dX5_constant_12 (by decide) (fun hc11 => ?_) (fun hc11 => ?_)
    · refine lv_iload_n hx hb dX5_constant_19 rfl (lv_at hl 3 rfl) ?_
      refine lv_iconst (v := (0 : Int32)) hx hb dX5_constant_20 (by decide) ?_
      refine lv_bipush (v := (9 : Int32)) hx hb dX5_constant_21 (by decide) ?_
      refine r_callS1 (As := [.int x93, .int (0 : Int32), .int (9 : Int32)]) (rest := [.ref (a 0)]) E I hl.1 k5_61 (c5_within rfl) rfl rfl (Nat.le_of_ble_eq_true rfl) ⟨Nat.le_of_ble_eq_true rfl, Nat.le_of_ble_eq_true rfl⟩ ⟨Nat.zero_le _, Nat.zero_le _⟩ dX5_constant_23 (fun H locs I => ?_)
      refine lv_if_eq (tgt := 33) hx hb dX5_constant_26 (by decide) (fun hc12 => ?_) (fun hc12 => ?_)
      · refine lv_iconst (v := (2 : Int32)) hx hb dX5_constant_33 (by decide) ?_
        exact J2 _ _ _ (by rw [if_neg hc10, if_neg hc11, if_pos hc12]) I
      · refine lv_iconst (v := (0 : Int32)) hx hb dX5_constant_29 (by decide) ?_
        refine lv_goto (tgt := 34) hx hb dX5_constant_30 (by decide) ?_
        exact J2 _ _ _ (by rw [if_neg hc10, if_neg hc11, if_neg hc12]) I
    · refine lv_iconst (v := (1 : Int32)) hx hb dX5_constant_15 (by decide) ?_
      refine lv_goto (tgt := 34) hx hb dX5_constant_16 (by decide) ?_
      exact J2 _ _ _ (by rw [if_neg hc10, if_pos hc11]) I
set_option maxHeartbeats 4000000 in
set_option maxRecDepth 100000 in
theorem c5_variable {l : Launch} {D : va_G} {g : Nat → ClassId} {a : Nat → Nat} {st : MS} {x91 : Int32} {x92 : Int32} {x93 : Int32} {o : MS × Int32} (h : f5_variable st x91 x92 x93 = some o) : ct l yX5_variable cX5_variable 5 (some .int) (rmk 2 44) D g (mW g a st) (mW g a o.1) [.ref (a 0), .int x91, .int x92, .int x93] (some (.int o.2)) := by
  refine ct_of ⟨rfl, rfl⟩ (by decide) (Nat.le_of_ble_eq_true rfl) ?_
  intro p e s m args below meth c ls Q A H0 H locs E I hl K
  have E : en p m c cX5_variable 5 s args RX5 D g := E
  have hx := E.1.1
  have hb := E.1.2.1
  have hl : lv_has ls 5 [(0, .ref (a 0)), (1, .int x91), (2, .int x92), (3, .int x93)] := hl
  have K : ∀ (pc : Nat) (ls : Array Slot) (H : Heap) (locs : List Loc), wk D (mW g a o.1) A H0 H locs → decode cX5_variable pc = .ok (.ireturn, 1) → W p l e (rmk 2 44) s m args below meth c H locs 0 0 Q (F0 m pc ls [.int o.2]) := fun pc ls H locs I hd => K pc ls H locs I hd
  have h : ((if (if (f5_within x91 (0 : Int32) (1 : Int32)) = 0 then (1 : Int32) else (if (f5_isVariable x92) = 0 then (1 : Int32) else (if (f5_within x93 (0 : Int32) (5 : Int32)) = 0 then (2 : Int32) else (0 : Int32)))) ≤ 0 then (bi1 (f5_save (m_thrown_s st (if (f5_within x91 (0 : Int32) (1 : Int32)) = 0 then (1 : Int32) else (if (f5_isVariable x92) = 0 then (1 : Int32) else (if (f5_within x93 (0 : Int32) (5 : Int32)) = 0 then (2 : Int32) else (0 : Int32)))))) fun st6 => (bi1 (f5_variableOf st6 x91 x92) fun r8 => (if ib ((((8 : Int32) * x91) + (4 : Int32)) + x92) 26 = true then some ((m_z_s st6 (upd (m_z st6) ((((8 : Int32) * x91) + (4 : Int32)) + x92).toNatClampNeg x93)), r8) else none))) else some ((m_thrown_s st (if (f5_within x91 (0 : Int32) (1 : Int32)) = 0 then (1 : Int32) else (if (f5_isVariable x92) = 0 then (1 : Int32) else (if (f5_within x93 (0 : Int32) (5 : Int32)) = 0 then (2 : Int32) else (0 : Int32))))), (0 : Int32))) : Option (MS × Int32)) = some o := h
  refine lv_aload_n hx hb dX5_variable_0 rfl (lv_at hl 0 rfl) ?_
  refine lv_iload_n hx hb dX5_variable_1 rfl (lv_at hl 1 rfl) ?_
  refine lv_iconst (v := (0 : Int32)) hx hb dX5_variable_2 (by decide) ?_
  refine lv_iconst (v := (1 : Int32)) hx hb dX5_variable_3 (by decide) ?_
  refine r_callS1 (As := [.int x91, .int (0 : Int32), .int (1 : Int32)]) (rest := [.ref (a 0)]) E I hl.1 k5_61 (c5_within rfl) rfl rfl (Nat.le_of_ble_eq_true rfl) ⟨Nat.le_of_ble_eq_true rfl, Nat.le_of_ble_eq_true rfl⟩ ⟨Nat.zero_le _, Nat.zero_le _⟩ dX5_variable_4 (fun H locs I => ?_)
  have J2 : ∀ (v1 : Int32) (H : Heap) (locs : List Loc), v1 = (if (f5_within x91 (0 : Int32) (1 : Int32)) = 0 then (1 : Int32) else (if (f5_isVariable x92) = 0 then (1 : Int32) else (if (f5_within x93 (0 : Int32) (5 : Int32)) = 0 then (2 : Int32) else (0 : Int32)))) → wk D (mW g a st) A H0 H locs → W p l e (rmk 2 44) s m args below meth c H locs 0 0 Q (F0 m 35 ls [.int v1, .ref (a 0)]) := by
    intro v1 H locs hv3 I
    subst hv3
    refine p5_50 E I dX5_variable_35 (fun H locs I => ?_)
    refine lv_aload_n hx hb dX5_variable_38 rfl (lv_at hl 0 rfl) ?_
    refine g5_50 E I (v := (if (f5_within x91 (0 : Int32) (1 : Int32)) = 0 then (1 : Int32) else (if (f5_isVariable x92) = 0 then (1 : Int32) else (if (f5_within x93 (0 : Int32) (5 : Int32)) = 0 then (2 : Int32) else (0 : Int32))))) rfl dX5_variable_39 ?_
    refine lv_if_le (tgt := 47) hx hb dX5_variable_42 (by decide) (fun hc4 => ?_) (fun hc4 => ?_)
    · have h := ifp hc4 h
      refine lv_aload_n hx hb dX5_variable_47 rfl (lv_at hl 0 rfl) ?_
      obtain ⟨st6, hc5, h⟩ := bx1 h
      refine r_callV0 (As := []) (rest := []) (ws' := (mW g a st6)) (q0 := 0) E I hl.1 k5_139 (c5_save hc5) mW_k rfl rfl rfl rfl (Nat.le_of_ble_eq_true rfl) ⟨Nat.le_of_ble_eq_true rfl, Nat.le_of_ble_eq_true rfl⟩ ⟨Nat.zero_le _, Nat.zero_le _⟩ dX5_variable_48 (fun H locs I => ?_)
      refine lv_aload_n hx hb dX5_variable_51 rfl (lv_at hl 0 rfl) ?_
      refine lv_iload_n hx hb dX5_variable_52 rfl (lv_at hl 1 rfl) ?_
      refine lv_iload_n hx hb dX5_variable_53 rfl (lv_at hl 2 rfl) ?_
      obtain ⟨r8, hc7, h⟩ := bx1 h
      refine r_callV1 (As := [.int x91, .int x92]) (rest := []) (ws' := (mW g a st6)) (q0 := 0) E I hl.1 k5_65 (c5_variableOf hc7) mW_k rfl rfl rfl rfl (Nat.le_of_ble_eq_true rfl) ⟨Nat.le_of_ble_eq_true rfl, Nat.le_of_ble_eq_true rfl⟩ ⟨Nat.zero_le _, Nat.zero_le _⟩ dX5_variable_54 (fun H locs I => ?_)
      refine lv_istore (lv' := [(4, .int r8), (0, .ref (a 0)), (1, .int x91), (2, .int x92), (3, .int x93)]) hx hb dX5_variable_57 hl (by decide) rfl (fun ls hl => ?_)
      refine lv_aload_n hx hb dX5_variable_59 rfl (lv_at hl 1 rfl) ?_
      refine g5_7 E I dX5_variable_60 ?_
      refine lv_bipush (v := (8 : Int32)) hx hb dX5_variable_63 (by decide) ?_
      refine lv_iload_n hx hb dX5_variable_65 rfl (lv_at hl 2 rfl) ?_
      refine lv_imul hx hb dX5_variable_66 ?_
      refine lv_iconst (v := (4 : Int32)) hx hb dX5_variable_67 (by decide) ?_
      refine lv_iadd hx hb dX5_variable_68 ?_
      refine lv_iload_n hx hb dX5_variable_69 rfl (lv_at hl 3 rfl) ?_
      refine lv_iadd hx hb dX5_variable_70 ?_
      refine lv_iload_n hx hb dX5_variable_71 rfl (lv_at hl 4 rfl) ?_
      obtain ⟨hc9, h⟩ := gd h
      refine m_st1 E I (f := (m_z st6)) rfl hc9 dX5_variable_72 (fun H locs I => ?_)
      refine lv_iload hx hb dX5_variable_73 (lv_at hl 0 rfl) ?_
      cases h
      exact K _ _ _ _ I dX5_variable_75
    · have h := ifn hc4 h
      refine lv_iconst (v := (0 : Int32)) hx hb dX5_variable_45 (by decide) ?_
      cases h
      exact K _ _ _ _ I dX5_variable_46
  refine lv_if_eq (tgt := 17) hx hb dX5_variable_7 (by decide) (fun hc10 => ?_) (fun hc10 => ?_)
  · refine lv_iconst (v := (1 : Int32)) hx hb dX5_variable_17 (by decide) ?_
    refine lv_goto (tgt := 35) hx hb dX5_variable_18 (by decide) ?_
    exact J2 _ _ _ (by rw [if_pos hc10]) I
  · refine lv_iload_n hx hb dX5_variable_10 rfl (lv_at hl 2 rfl) ?_
    refine r_callS1 (As := [.int x92]) (rest := [.ref (a 0)]) E I hl.1 k5_142 (c5_isVariable rfl) rfl rfl (Nat.le_of_ble_eq_true rfl) ⟨Nat.le_of_ble_eq_true rfl, Nat.le_of_ble_eq_true rfl⟩ ⟨Nat.zero_le _, Nat.zero_le _⟩ dX5_variable_11 (fun H locs I => ?_)
    refine lv_if_ne (tgt := 21) hx hb dX5_variable_14 (by decide) (fun hc11 => ?_) (fun hc11 => ?_)
    · refine lv_iload_n hx hb dX5_variable_21 rfl (lv_at hl 3 rfl) ?_
      refine lv_iconst (v := (0 : Int32)) hx hb dX5_variable_22 (by decide) ?_
      refine lv_iconst (v := (5 : Int32)) hx hb dX5_variable_23 (by decide) ?_
      refine r_callS1 (As := [.int x93, .int (0 : Int32), .int (5 : Int32)]) (rest := [.ref (a 0)]) E I hl.1 k5_61 (c5_within rfl) rfl rfl (Nat.le_of_ble_eq_true rfl) ⟨Nat.le_of_ble_eq_true rfl, Nat.le_of_ble_eq_true rfl⟩ ⟨Nat.zero_le _, Nat.zero_le _⟩ dX5_variable_24 (fun H locs I => ?_)
      refine lv_if_eq (tgt := 34) hx hb dX5_variable_27 (by decide) (fun hc12 => ?_) (fun hc12 => ?_)
      · refine lv_iconst (v := (2 : Int32)) hx hb dX5_variable_34 (by decide) ?_
        exact J2 _ _ _ (by rw [if_neg hc10, if_neg hc11, if_pos hc12]) I
      · refine lv_iconst (v := (0 : Int32)) hx hb dX5_variable_30 (by decide) ?_
        refine lv_goto (tgt := 35) hx hb dX5_variable_31 (by decide) ?_
        exact J2 _ _ _ (by rw [if_neg hc10, if_neg hc11, if_neg hc12]) I
    · refine lv_iconst (v := (1 : Int32)) hx hb dX5_variable_17 (by decide) ?_
      refine lv_goto (tgt := 35) hx hb dX5_variable_18 (by decide) ?_
      exact J2 _ _ _ (by rw [if_neg hc10, if_pos hc11]) I
set_option maxHeartbeats 4000000 in
set_option maxRecDepth 100000 in
theorem c5_limit {l : Launch} {D : va_G} {g : Nat → ClassId} {x90 : Int32} {x91 : Int32} {o : Int32} (h : f5_limit x90 x91 = o) : ct l yX5_limit cX5_limit 2 (some .int) (rmk 0 0) D g [] [] [.int x90, .int x91] (some (.int o)) := by
  refine ct_of ⟨rfl, rfl⟩ (by decide) (Nat.le_of_ble_eq_true rfl) ?_
  intro p e s m args below meth c ls Q A H0 H locs E I hl K
  have E : en p m c cX5_limit 2 s args RX5 D g := E
  have hx := E.1.1
  have hb := E.1.2.1
  have hl : lv_has ls 2 [(0, .int x90), (1, .int x91)] := hl
  have K : ∀ (pc : Nat) (ls : Array Slot) (H : Heap) (locs : List Loc), wk D [] A H0 H locs → decode cX5_limit pc = .ok (.ireturn, 1) → W p l e (rmk 0 0) s m args below meth c H locs 0 0 Q (F0 m pc ls [.int o]) := fun pc ls H locs I hd => K pc ls H locs I hd
  have h : ((if (4 : Int32) ≤ x91 then (if x90 = (2 : Int32) then (0 : Int32) else (5 : Int32)) else (9 : Int32)) : Int32) = o := h
  refine lv_iload_n hx hb dX5_limit_0 rfl (lv_at hl 1 rfl) ?_
  refine lv_iconst (v := (4 : Int32)) hx hb dX5_limit_1 (by decide) ?_
  have J2 : ∀ (v1 : Int32) (H : Heap) (locs : List Loc), v1 = (if (4 : Int32) ≤ x91 then (if x90 = (2 : Int32) then (0 : Int32) else (5 : Int32)) else (9 : Int32)) → wk D [] A H0 H locs → W p l e (rmk 0 0) s m args below meth c H locs 0 0 Q (F0 m 20 ls [.int v1]) := by
    intro v1 H locs hv3 I
    subst hv3
    cases h
    exact K _ _ _ _ I dX5_limit_20
  refine lv_icmp_ge (tgt := 10) hx hb dX5_limit_2 (by decide) (fun hc4 => ?_) (fun hc4 => ?_)
  · refine lv_iload_n hx hb dX5_limit_10 rfl (lv_at hl 0 rfl) ?_
    refine lv_iconst (v := (2 : Int32)) hx hb dX5_limit_11 (by decide) ?_
    refine lv_icmp_ne (tgt := 19) hx hb dX5_limit_12 (by decide) (fun hc5 => ?_) (fun hc5 => ?_)
    · refine lv_iconst (v := (5 : Int32)) hx hb dX5_limit_19 (by decide) ?_
      exact J2 _ _ _ (by rw [if_pos hc4, if_neg hc5]) I
    · refine lv_iconst (v := (0 : Int32)) hx hb dX5_limit_15 (by decide) ?_
      refine lv_goto (tgt := 20) hx hb dX5_limit_16 (by decide) ?_
      exact J2 _ _ _ (by rw [if_pos hc4, if_pos hc5]) I
  · refine lv_bipush (v := (9 : Int32)) hx hb dX5_limit_5 (by decide) ?_
    refine lv_goto (tgt := 20) hx hb dX5_limit_7 (by decide) ?_
    exact J2 _ _ _ (by rw [if_neg hc4]) I
set_option maxHeartbeats 4000000 in
set_option maxRecDepth 100000 in
theorem c5_canMultiply {l : Launch} {D : va_G} {g : Nat → ClassId} {a : Nat → Nat} {st : MS} {x91 : Int32} {x92 : Int32} {o : Int32} (h : f5_canMultiply st x91 x92 = some o) : ct l yX5_canMultiply cX5_canMultiply 5 (some .boolean) (rmk 1 22) D g (mW g a st) (mW g a st) [.ref (a 0), .int x91, .int x92] (some (.int o)) := by
  refine ct_of ⟨rfl, rfl⟩ (by decide) (Nat.le_of_ble_eq_true rfl) ?_
  intro p e s m args below meth c ls Q A H0 H locs E I hl K
  have E : en p m c cX5_canMultiply 5 s args RX5 D g := E
  have hx := E.1.1
  have hb := E.1.2.1
  have hl : lv_has ls 5 [(0, .ref (a 0)), (1, .int x91), (2, .int x92)] := hl
  have K : ∀ (pc : Nat) (ls : Array Slot) (H : Heap) (locs : List Loc), wk D (mW g a st) A H0 H locs → decode cX5_canMultiply pc = .ok (.ireturn, 1) → zok o = true → W p l e (rmk 1 22) s m args below meth c H locs 0 0 Q (F0 m pc ls [.int o]) := fun pc ls H locs I hd hz => K pc ls H locs I ⟨hd, hz⟩
  have h : ((bi1 (wh (f5_canMultiply_b5 st x91 x92) FU ((1 : Int32), (0 : Int32))) fun w24 => (if zok w24 = true then some w24 else none)) : Option Int32) = some o := h
  refine lv_iconst (v := (1 : Int32)) hx hb dX5_canMultiply_0 (by decide) ?_
  refine lv_istore_n (lv' := [(3, .int (1 : Int32)), (0, .ref (a 0)), (1, .int x91), (2, .int x92)]) hx hb dX5_canMultiply_1 rfl hl (by decide) rfl (fun ls hl => ?_)
  refine lv_iconst (v := (0 : Int32)) hx hb dX5_canMultiply_2 (by decide) ?_
  refine lv_istore (lv' := [(4, .int (0 : Int32)), (3, .int (1 : Int32)), (0, .ref (a 0)), (1, .int x91), (2, .int x92)]) hx hb dX5_canMultiply_3 hl (by decide) rfl (fun ls hl => ?_)
  obtain ⟨z20, hw21, h⟩ := bx1 h
  refine wh_W (P := fun (z : Int32 × Int32) => ∀ (H : Heap) (locs : List Loc) (ls : Array Slot), wk D (mW g a st) A H0 H locs → lv_has ls 5 [(0, .ref (a 0)), (1, .int x91), (2, .int x92), (3, .int z.1), (4, .int z.2)] → W p l e (rmk 1 22) s m args below meth c H locs 0 0 Q (F0 m 5 ls [])) (X := fun (z : Int32) => ∀ (H : Heap) (locs : List Loc) (ls : Array Slot), wk D (mW g a st) A H0 H locs → lv_has ls 5 [(3, .int z)] → W p l e (rmk 1 22) s m args below meth c H locs 0 0 Q (F0 m 52 ls [])) ?_ FU _ _ hw21 ?_ _ _ _ I (lv_sub hl [2, 3, 4, 1, 0] rfl)
  · intro z o6 h hk7 H locs ls I hl
    obtain ⟨x4, x5⟩ := z
    have h : ((if (8 : Int32) ≤ x5 then some (.inr x4) else (if x4 = 0 then some (.inl ((0 : Int32), (x5 + 1))) else (bi1 (f5_of st x91 x5) fun r11 => (bi1 (f5_of st x92 x5) fun r13 => (lq (if (f5_limit x91 x5) < (r11 + r13) then (0 : Int32) else (1 : Int32)) fun x17 => some (.inl (x17, (x5 + 1)))))))) : Option ((Int32 × Int32) ⊕ (Int32))) = some o6 := h
    have I : wk D (mW g a st) A H0 H locs := I
    have hl : lv_has ls 5 [(0, .ref (a 0)), (1, .int x91), (2, .int x92), (3, .int x4), (4, .int x5)] := hl
    refine lv_iload hx hb dX5_canMultiply_5 (lv_at hl 4 rfl) ?_
    refine lv_bipush (v := (8 : Int32)) hx hb dX5_canMultiply_7 (by decide) ?_
    refine lv_icmp_ge (tgt := 52) hx hb dX5_canMultiply_9 (by decide) (fun hc8 => ?_) (fun hc8 => ?_)
    · have h := ifp hc8 h
      cases h
      exact hk7 _ _ _ I (lv_sub hl [3] rfl)
    · have h := ifn hc8 h
      refine lv_iload_n hx hb dX5_canMultiply_12 rfl (lv_at hl 3 rfl) ?_
      refine lv_if_eq (tgt := 44) hx hb dX5_canMultiply_13 (by decide) (fun hc9 => ?_) (fun hc9 => ?_)
      · have h := ifp hc9 h
        refine lv_iconst (v := (0 : Int32)) hx hb dX5_canMultiply_44 (by decide) ?_
        refine lv_istore_n (lv' := [(3, .int (0 : Int32)), (0, .ref (a 0)), (1, .int x91), (2, .int x92), (4, .int x5)]) hx hb dX5_canMultiply_45 rfl hl (by decide) rfl (fun ls hl => ?_)
        refine lv_iinc (v := (x5 + 1)) (lv' := [(4, .int (x5 + 1)), (3, .int (0 : Int32)), (0, .ref (a 0)), (1, .int x91), (2, .int x92)]) hx hb dX5_canMultiply_46 hl (k := 4) rfl rfl (by decide) rfl (fun ls hl => ?_)
        refine lv_goto (tgt := 5) hx hb dX5_canMultiply_49 (by decide) ?_
        cases h
        exact hk7 _ _ _ I (lv_sub hl [2, 3, 4, 1, 0] rfl)
      · have h := ifn hc9 h
        refine lv_aload_n hx hb dX5_canMultiply_16 rfl (lv_at hl 0 rfl) ?_
        refine lv_iload_n hx hb dX5_canMultiply_17 rfl (lv_at hl 1 rfl) ?_
        refine lv_iload hx hb dX5_canMultiply_18 (lv_at hl 4 rfl) ?_
        obtain ⟨r11, hc10, h⟩ := bx1 h
        refine r_callV1 (As := [.int x91, .int x5]) (rest := []) (ws' := (mW g a st)) (q0 := 0) E I hl.1 k5_57 (c5_of hc10) mW_k rfl rfl rfl rfl (Nat.le_of_ble_eq_true rfl) ⟨Nat.le_of_ble_eq_true rfl, Nat.le_of_ble_eq_true rfl⟩ ⟨Nat.zero_le _, Nat.zero_le _⟩ dX5_canMultiply_20 (fun H locs I => ?_)
        refine lv_aload_n hx hb dX5_canMultiply_23 rfl (lv_at hl 0 rfl) ?_
        refine lv_iload_n hx hb dX5_canMultiply_24 rfl (lv_at hl 2 rfl) ?_
        refine lv_iload hx hb dX5_canMultiply_25 (lv_at hl 4 rfl) ?_
        obtain ⟨r13, hc12, h⟩ := bx1 h
        refine r_callV1 (As := [.int x92, .int x5]) (rest := [.int r11]) (ws' := (mW g a st)) (q0 := 0) E I hl.1 k5_57 (c5_of hc12) mW_k rfl rfl rfl rfl (Nat.le_of_ble_eq_true rfl) ⟨Nat.le_of_ble_eq_true rfl, Nat.le_of_ble_eq_true rfl⟩ ⟨Nat.zero_le _, Nat.zero_le _⟩ dX5_canMultiply_27 (fun H locs I => ?_)
        refine lv_iadd hx hb dX5_canMultiply_30 ?_
        refine lv_iload_n hx hb dX5_canMultiply_31 rfl (lv_at hl 1 rfl) ?_
        refine lv_iload hx hb dX5_canMultiply_32 (lv_at hl 4 rfl) ?_
        refine r_callS1 (As := [.int x91, .int x5]) (rest := [.int (r11 + r13)]) E I hl.1 k5_145 (c5_limit rfl) rfl rfl (Nat.le_of_ble_eq_true rfl) ⟨Nat.le_of_ble_eq_true rfl, Nat.le_of_ble_eq_true rfl⟩ ⟨Nat.zero_le _, Nat.zero_le _⟩ dX5_canMultiply_34 (fun H locs I => ?_)
        have J15 : ∀ (v14 : Int32) (H : Heap) (locs : List Loc), v14 = (if (f5_limit x91 x5) < (r11 + r13) then (0 : Int32) else (1 : Int32)) → wk D (mW g a st) A H0 H locs → W p l e (rmk 1 22) s m args below meth c H locs 0 0 Q (F0 m 45 ls [.int v14]) := by
          intro v14 H locs hv16 I
          subst hv16
          obtain ⟨x17, hx18, h⟩ := lqx h
          refine lv_istore_n (x := (if (f5_limit x91 x5) < (r11 + r13) then (0 : Int32) else (1 : Int32))) (lv' := [(3, .int x17), (0, .ref (a 0)), (1, .int x91), (2, .int x92), (4, .int x5)]) hx hb dX5_canMultiply_45 rfl hl (by decide) (by subst hx18; rfl) (fun ls hl => ?_)
          refine lv_iinc (v := (x5 + 1)) (lv' := [(4, .int (x5 + 1)), (3, .int x17), (0, .ref (a 0)), (1, .int x91), (2, .int x92)]) hx hb dX5_canMultiply_46 hl (k := 4) rfl rfl (by decide) rfl (fun ls hl => ?_)
          refine lv_goto (tgt := 5) hx hb dX5_canMultiply_49 (by decide) ?_
          cases h
          exact hk7 _ _ _ I (lv_sub hl [2, 3, 4, 1, 0] rfl)
        refine lv_icmp_gt (tgt := 44) hx hb dX5_canMultiply_37 (by decide) (fun hc19 => ?_) (fun hc19 => ?_)
        · refine lv_iconst (v := (0 : Int32)) hx hb dX5_canMultiply_44 (by decide) ?_
          exact J15 _ _ _ (by rw [if_pos hc19]) I
        · refine lv_iconst (v := (1 : Int32)) hx hb dX5_canMultiply_40 (by decide) ?_
          refine lv_goto (tgt := 45) hx hb dX5_canMultiply_41 (by decide) ?_
          exact J15 _ _ _ (by rw [if_neg hc19]) I
  · obtain ⟨x22, rfl⟩ : ∃ y, y = z20 := ⟨_, rfl⟩
    intro H locs ls I hl
    have h : ((if zok x22 = true then some x22 else none) : Option Int32) = some o := h
    have I : wk D (mW g a st) A H0 H locs := I
    have hl : lv_has ls 5 [(3, .int x22)] := hl
    refine lv_iload_n hx hb dX5_canMultiply_52 rfl (lv_at hl 0 rfl) ?_
    obtain ⟨hc23, h⟩ := gd h
    cases h
    exact K _ _ _ _ I dX5_canMultiply_53 hc23
set_option maxHeartbeats 4000000 in
set_option maxRecDepth 100000 in
theorem c5_multiply {l : Launch} {D : va_G} {g : Nat → ClassId} {a : Nat → Nat} {st : MS} {x91 : Int32} {x92 : Int32} {o : MS × Int32} (h : f5_multiply st x91 x92 = some o) : ct l yX5_multiply cX5_multiply 4 (some .int) (rmk 2 46) D g (mW g a st) (mW g a o.1) [.ref (a 0), .int x91, .int x92] (some (.int o.2)) := by
  refine ct_of ⟨rfl, rfl⟩ (by decide) (Nat.le_of_ble_eq_true rfl) ?_
  intro p e s m args below meth c ls Q A H0 H locs E I hl K
  have E : en p m c cX5_multiply 4 s args RX5 D g := E
  have hx := E.1.1
  have hb := E.1.2.1
  have hl : lv_has ls 4 [(0, .ref (a 0)), (1, .int x91), (2, .int x92)] := hl
  have K : ∀ (pc : Nat) (ls : Array Slot) (H : Heap) (locs : List Loc), wk D (mW g a o.1) A H0 H locs → decode cX5_multiply pc = .ok (.ireturn, 1) → W p l e (rmk 2 46) s m args below meth c H locs 0 0 Q (F0 m pc ls [.int o.2]) := fun pc ls H locs I hd => K pc ls H locs I hd
  have h : ((if (f5_isProduct x91) = 0 then f5_multiply_j33 st x91 x92 (1 : Int32) else (if (f5_isProduct x92) = 0 then f5_multiply_j33 st x91 x92 (1 : Int32) else (bi1 (f5_canMultiply st x91 x92) fun r29 => (if r29 = 0 then f5_multiply_j33 st x91 x92 (2 : Int32) else f5_multiply_j33 st x91 x92 (0 : Int32))))) : Option (MS × Int32)) = some o := h
  refine lv_aload_n hx hb dX5_multiply_0 rfl (lv_at hl 0 rfl) ?_
  refine lv_iload_n hx hb dX5_multiply_1 rfl (lv_at hl 1 rfl) ?_
  refine r_callS1 (As := [.int x91]) (rest := [.ref (a 0)]) E I hl.1 k5_133 (c5_isProduct rfl) rfl rfl (Nat.le_of_ble_eq_true rfl) ⟨Nat.le_of_ble_eq_true rfl, Nat.le_of_ble_eq_true rfl⟩ ⟨Nat.zero_le _, Nat.zero_le _⟩ dX5_multiply_2 (fun H locs I => ?_)
  have J1 : ∀ (st2 : MS) (x3 : Int32) (x4 : Int32) (y5 : Int32), f5_multiply_j33 st2 x3 x4 y5 = some o → ∀ (H : Heap) (locs : List Loc) (ls : Array Slot), wk D (mW g a st2) A H0 H locs → lv_has ls 4 [(0, .ref (a 0)), (1, .int x3), (2, .int x4)] → W p l e (rmk 2 46) s m args below meth c H locs 0 0 Q (F0 m 33 ls [.int y5, .ref (a 0)]) := by
    intro st2 x3 x4 y5 h H locs ls I hl
    have h : ((if y5 ≤ 0 then (bi1 (f5_save (m_thrown_s st2 y5)) fun st8 => (bi1 (wh (f5_multiply_b51 x3 x4) FU (st8, (0 : Int32))) fun w25 => (bi1 (f5_factorsOf w25 x3) fun r24 => some (w25, r24)))) else some ((m_thrown_s st2 y5), (0 : Int32))) : Option (MS × Int32)) = some o := h
    refine p5_50 E I dX5_multiply_33 (fun H locs I => ?_)
    refine lv_aload_n hx hb dX5_multiply_36 rfl (lv_at hl 0 rfl) ?_
    refine g5_50 E I (v := y5) rfl dX5_multiply_37 ?_
    refine lv_if_le (tgt := 45) hx hb dX5_multiply_40 (by decide) (fun hc6 => ?_) (fun hc6 => ?_)
    · have h := ifp hc6 h
      refine lv_aload_n hx hb dX5_multiply_45 rfl (lv_at hl 0 rfl) ?_
      obtain ⟨st8, hc7, h⟩ := bx1 h
      refine r_callV0 (As := []) (rest := []) (ws' := (mW g a st8)) (q0 := 0) E I hl.1 k5_139 (c5_save hc7) mW_k rfl rfl rfl rfl (Nat.le_of_ble_eq_true rfl) ⟨Nat.le_of_ble_eq_true rfl, Nat.le_of_ble_eq_true rfl⟩ ⟨Nat.zero_le _, Nat.zero_le _⟩ dX5_multiply_46 (fun H locs I => ?_)
      refine lv_iconst (v := (0 : Int32)) hx hb dX5_multiply_49 (by decide) ?_
      refine lv_istore_n (lv' := [(3, .int (0 : Int32)), (0, .ref (a 0)), (1, .int x3), (2, .int x4)]) hx hb dX5_multiply_50 rfl hl (by decide) rfl (fun ls hl => ?_)
      obtain ⟨z20, hw21, h⟩ := bx1 h
      refine wh_W (P := fun (z : MS × Int32) => ∀ (H : Heap) (locs : List Loc) (ls : Array Slot), wk D (mW g a z.1) A H0 H locs → lv_has ls 4 [(0, .ref (a 0)), (1, .int x3), (2, .int x4), (3, .int z.2)] → W p l e (rmk 2 46) s m args below meth c H locs 0 0 Q (F0 m 51 ls [])) (X := fun (z : MS) => ∀ (H : Heap) (locs : List Loc) (ls : Array Slot), wk D (mW g a z) A H0 H locs → lv_has ls 4 [(0, .ref (a 0)), (1, .int x3)] → W p l e (rmk 2 46) s m args below meth c H locs 0 0 Q (F0 m 83 ls [])) ?_ FU _ _ hw21 ?_ _ _ _ I (lv_sub hl [1, 2, 3, 0] rfl)
      · intro z o13 h hk14 H locs ls I hl
        obtain ⟨st9, x12⟩ := z
        have h : ((if (8 : Int32) ≤ x12 then some (.inr st9) else (if ib (((8 : Int32) * x3) + x12) 26 = true then (bi1 (f5_of st9 x4 x12) fun r18 => (if ib (((8 : Int32) * x3) + x12) 26 = true then some (.inl ((m_z_s st9 (upd (m_z st9) (((8 : Int32) * x3) + x12).toNatClampNeg (((m_z st9) (((8 : Int32) * x3) + x12).toNatClampNeg) + r18))), (x12 + 1))) else none)) else none)) : Option ((MS × Int32) ⊕ (MS))) = some o13 := h
        have I : wk D (mW g a st9) A H0 H locs := I
        have hl : lv_has ls 4 [(0, .ref (a 0)), (1, .int x3), (2, .int x4), (3, .int x12)] := hl
        refine lv_iload_n hx hb dX5_multiply_51 rfl (lv_at hl 3 rfl) ?_
        refine lv_bipush (v := (8 : Int32)) hx hb dX5_multiply_52 (by decide) ?_
        refine lv_icmp_ge (tgt := 83) hx hb dX5_multiply_54 (by decide) (fun hc15 => ?_) (fun hc15 => ?_)
        · have h := ifp hc15 h
          cases h
          exact hk14 _ _ _ I (lv_sub hl [0, 1] rfl)
        · have h := ifn hc15 h
          refine lv_aload_n hx hb dX5_multiply_57 rfl (lv_at hl 0 rfl) ?_
          refine g5_7 E I dX5_multiply_58 ?_
          refine lv_bipush (v := (8 : Int32)) hx hb dX5_multiply_61 (by decide) ?_
          refine lv_iload_n hx hb dX5_multiply_63 rfl (lv_at hl 1 rfl) ?_
          refine lv_imul hx hb dX5_multiply_64 ?_
          refine lv_iload_n hx hb dX5_multiply_65 rfl (lv_at hl 3 rfl) ?_
          refine lv_iadd hx hb dX5_multiply_66 ?_
          refine lv_dup2_11 hx hb dX5_multiply_67 rfl rfl ?_
          obtain ⟨hc16, h⟩ := gd h
          refine m_ld1 E I (f := (m_z st9)) rfl hc16 dX5_multiply_68 ?_
          refine lv_aload_n hx hb dX5_multiply_69 rfl (lv_at hl 0 rfl) ?_
          refine lv_iload_n hx hb dX5_multiply_70 rfl (lv_at hl 2 rfl) ?_
          refine lv_iload_n hx hb dX5_multiply_71 rfl (lv_at hl 3 rfl) ?_
          obtain ⟨r18, hc17, h⟩ := bx1 h
          refine r_callV1 (As := [.int x4, .int x12]) (rest := [.int ((m_z st9) (((8 : Int32) * x3) + x12).toNatClampNeg), .int (((8 : Int32) * x3) + x12), .ref (a 1)]) (ws' := (mW g a st9)) (q0 := 0) E I hl.1 k5_57 (c5_of hc17) mW_k rfl rfl rfl rfl (Nat.le_of_ble_eq_true rfl) ⟨Nat.le_of_ble_eq_true rfl, Nat.le_of_ble_eq_true rfl⟩ ⟨Nat.zero_le _, Nat.zero_le _⟩ dX5_multiply_72 (fun H locs I => ?_)
          refine lv_iadd hx hb dX5_multiply_75 ?_
          obtain ⟨hc19, h⟩ := gd h
          refine m_st1 E I (f := (m_z st9)) rfl hc19 dX5_multiply_76 (fun H locs I => ?_)
          refine lv_iinc (v := (x12 + 1)) (lv' := [(3, .int (x12 + 1)), (0, .ref (a 0)), (1, .int x3), (2, .int x4)]) hx hb dX5_multiply_77 hl (k := 3) rfl rfl (by decide) rfl (fun ls hl => ?_)
          refine lv_goto (tgt := 51) hx hb dX5_multiply_80 (by decide) ?_
          cases h
          exact hk14 _ _ _ I (lv_sub hl [1, 2, 3, 0] rfl)
      · obtain ⟨st22, rfl⟩ : ∃ y, y = z20 := ⟨_, rfl⟩
        intro H locs ls I hl
        have h : ((bi1 (f5_factorsOf st22 x3) fun r24 => some (st22, r24)) : Option (MS × Int32)) = some o := h
        have I : wk D (mW g a st22) A H0 H locs := I
        have hl : lv_has ls 4 [(0, .ref (a 0)), (1, .int x3)] := hl
        refine lv_aload_n hx hb dX5_multiply_83 rfl (lv_at hl 0 rfl) ?_
        refine lv_iload_n hx hb dX5_multiply_84 rfl (lv_at hl 1 rfl) ?_
        obtain ⟨r24, hc23, h⟩ := bx1 h
        refine r_callV1 (As := [.int x3]) (rest := []) (ws' := (mW g a st22)) (q0 := 0) E I hl.1 k5_151 (c5_factorsOf hc23) mW_k rfl rfl rfl rfl (Nat.le_of_ble_eq_true rfl) ⟨Nat.le_of_ble_eq_true rfl, Nat.le_of_ble_eq_true rfl⟩ ⟨Nat.zero_le _, Nat.zero_le _⟩ dX5_multiply_85 (fun H locs I => ?_)
        cases h
        exact K _ _ _ _ I dX5_multiply_88
    · have h := ifn hc6 h
      refine lv_iconst (v := (0 : Int32)) hx hb dX5_multiply_43 (by decide) ?_
      cases h
      exact K _ _ _ _ I dX5_multiply_44
  refine lv_if_eq (tgt := 15) hx hb dX5_multiply_5 (by decide) (fun hc26 => ?_) (fun hc26 => ?_)
  · have h := ifp hc26 h
    refine lv_iconst (v := (1 : Int32)) hx hb dX5_multiply_15 (by decide) ?_
    refine lv_goto (tgt := 33) hx hb dX5_multiply_16 (by decide) ?_
    exact J1 _ _ _ _ h _ _ _ I (lv_sub hl [0, 1, 2] rfl)
  · have h := ifn hc26 h
    refine lv_iload_n hx hb dX5_multiply_8 rfl (lv_at hl 2 rfl) ?_
    refine r_callS1 (As := [.int x92]) (rest := [.ref (a 0)]) E I hl.1 k5_133 (c5_isProduct rfl) rfl rfl (Nat.le_of_ble_eq_true rfl) ⟨Nat.le_of_ble_eq_true rfl, Nat.le_of_ble_eq_true rfl⟩ ⟨Nat.zero_le _, Nat.zero_le _⟩ dX5_multiply_9 (fun H locs I => ?_)
    refine lv_if_ne (tgt := 19) hx hb dX5_multiply_12 (by decide) (fun hc27 => ?_) (fun hc27 => ?_)
    · have h := ifn hc27 h
      refine lv_aload_n hx hb dX5_multiply_19 rfl (lv_at hl 0 rfl) ?_
      refine lv_iload_n hx hb dX5_multiply_20 rfl (lv_at hl 1 rfl) ?_
      refine lv_iload_n hx hb dX5_multiply_21 rfl (lv_at hl 2 rfl) ?_
      obtain ⟨r29, hc28, h⟩ := bx1 h
      refine r_callV1 (As := [.int x91, .int x92]) (rest := [.ref (a 0)]) (ws' := (mW g a st)) (q0 := 0) E I hl.1 k5_148 (c5_canMultiply hc28) mW_k rfl rfl rfl rfl (Nat.le_of_ble_eq_true rfl) ⟨Nat.le_of_ble_eq_true rfl, Nat.le_of_ble_eq_true rfl⟩ ⟨Nat.zero_le _, Nat.zero_le _⟩ dX5_multiply_22 (fun H locs I => ?_)
      refine lv_if_eq (tgt := 32) hx hb dX5_multiply_25 (by decide) (fun hc30 => ?_) (fun hc30 => ?_)
      · have h := ifp hc30 h
        refine lv_iconst (v := (2 : Int32)) hx hb dX5_multiply_32 (by decide) ?_
        exact J1 _ _ _ _ h _ _ _ I (lv_sub hl [0, 1, 2] rfl)
      · have h := ifn hc30 h
        refine lv_iconst (v := (0 : Int32)) hx hb dX5_multiply_28 (by decide) ?_
        refine lv_goto (tgt := 33) hx hb dX5_multiply_29 (by decide) ?_
        exact J1 _ _ _ _ h _ _ _ I (lv_sub hl [0, 1, 2] rfl)
    · have h := ifp hc27 h
      refine lv_iconst (v := (1 : Int32)) hx hb dX5_multiply_15 (by decide) ?_
      refine lv_goto (tgt := 33) hx hb dX5_multiply_16 (by decide) ?_
      exact J1 _ _ _ _ h _ _ _ I (lv_sub hl [0, 1, 2] rfl)
set_option maxHeartbeats 4000000 in
set_option maxRecDepth 100000 in
theorem c5_rewrite {l : Launch} {D : va_G} {g : Nat → ClassId} {a : Nat → Nat} {st : MS} {x91 : Int32} {o : MS × Int32} (h : f5_rewrite st x91 = some o) : ct l yX5_rewrite cX5_rewrite 3 (some .int) (rmk 7 163) D g (mW g a st) (mW g a o.1) [.ref (a 0), .int x91] (some (.int o.2)) := by
  refine ct_of ⟨rfl, rfl⟩ (by decide) (Nat.le_of_ble_eq_true rfl) ?_
  intro p e s m args below meth c ls Q A H0 H locs E I hl K
  have E : en p m c cX5_rewrite 3 s args RX5 D g := E
  have hx := E.1.1
  have hb := E.1.2.1
  have hl : lv_has ls 3 [(0, .ref (a 0)), (1, .int x91)] := hl
  have K : ∀ (pc : Nat) (ls : Array Slot) (H : Heap) (locs : List Loc), wk D (mW g a o.1) A H0 H locs → decode cX5_rewrite pc = .ok (.ireturn, 1) → W p l e (rmk 7 163) s m args below meth c H locs 0 0 Q (F0 m pc ls [.int o.2]) := fun pc ls H locs I hd => K pc ls H locs I hd
  have h : ((bi2 (f5_isMatcher st x91) fun st2 r3 => (if (if r3 = 0 then (1 : Int32) else (0 : Int32)) = 0 then (bi1 (f5_layMatcher (m_thrown_s st2 (if r3 = 0 then (1 : Int32) else (0 : Int32))) x91) fun st28 => (bi1 (f5_isStrange st28) fun r30 => (if r30 = 0 then (bi1 (f5_isTooMuch st28) fun r33 => f5_rewrite_j52 (m_thrown_s st28 (if r33 = 0 then (0 : Int32) else (2 : Int32)))) else f5_rewrite_j52 (m_thrown_s st28 (2 : Int32))))) else f5_rewrite_j52 (m_thrown_s st2 (if r3 = 0 then (1 : Int32) else (0 : Int32))))) : Option (MS × Int32)) = some o := h
  refine lv_aload_n hx hb dX5_rewrite_0 rfl (lv_at hl 0 rfl) ?_
  refine lv_aload_n hx hb dX5_rewrite_1 rfl (lv_at hl 0 rfl) ?_
  refine lv_iload_n hx hb dX5_rewrite_2 rfl (lv_at hl 1 rfl) ?_
  obtain ⟨st2, r3, hc1, h⟩ := bx2 h
  refine r_callV1 (As := [.int x91]) (rest := [.ref (a 0)]) (ws' := (mW g a st2)) (q0 := 0) E I hl.1 k5_154 (c5_isMatcher hc1) mW_k rfl rfl rfl rfl (Nat.le_of_ble_eq_true rfl) ⟨Nat.le_of_ble_eq_true rfl, Nat.le_of_ble_eq_true rfl⟩ ⟨Nat.zero_le _, Nat.zero_le _⟩ dX5_rewrite_3 (fun H locs I => ?_)
  have J5 : ∀ (v4 : Int32) (H : Heap) (locs : List Loc), v4 = (if r3 = 0 then (1 : Int32) else (0 : Int32)) → wk D (mW g a st2) A H0 H locs → W p l e (rmk 7 163) s m args below meth c H locs 0 0 Q (F0 m 14 ls [.int v4, .ref (a 0)]) := by
    intro v4 H locs hv6 I
    subst hv6
    refine p5_50 E I dX5_rewrite_14 (fun H locs I => ?_)
    refine lv_aload_n hx hb dX5_rewrite_17 rfl (lv_at hl 0 rfl) ?_
    refine g5_50 E I (v := (if r3 = 0 then (1 : Int32) else (0 : Int32))) rfl dX5_rewrite_18 ?_
    have J7 : ∀ (st8 : MS), f5_rewrite_j52 st8 = some o → ∀ (H : Heap) (locs : List Loc) (ls : Array Slot), wk D (mW g a st8) A H0 H locs → lv_has ls 3 [(0, .ref (a 0))] → W p l e (rmk 7 163) s m args below meth c H locs 0 0 Q (F0 m 52 ls []) := by
      intro st8 h H locs ls I hl
      have h : ((if (m_thrown st8) ≤ 0 then (bi1 (f5_save st8) fun st11 => (bi1 (wh (f5_rewrite_b67) FU (st11, (0 : Int32))) fun w25 => (bi1 (f5_factorsOf w25 (2 : Int32)) fun r24 => some (w25, r24)))) else some (st8, (0 : Int32))) : Option (MS × Int32)) = some o := h
      refine lv_aload_n hx hb dX5_rewrite_52 rfl (lv_at hl 0 rfl) ?_
      refine g5_50 E I (v := (m_thrown st8)) rfl dX5_rewrite_53 ?_
      refine lv_if_le (tgt := 61) hx hb dX5_rewrite_56 (by decide) (fun hc9 => ?_) (fun hc9 => ?_)
      · have h := ifp hc9 h
        refine lv_aload_n hx hb dX5_rewrite_61 rfl (lv_at hl 0 rfl) ?_
        obtain ⟨st11, hc10, h⟩ := bx1 h
        refine r_callV0 (As := []) (rest := []) (ws' := (mW g a st11)) (q0 := 0) E I hl.1 k5_139 (c5_save hc10) mW_k rfl rfl rfl rfl (Nat.le_of_ble_eq_true rfl) ⟨Nat.le_of_ble_eq_true rfl, Nat.le_of_ble_eq_true rfl⟩ ⟨Nat.zero_le _, Nat.zero_le _⟩ dX5_rewrite_62 (fun H locs I => ?_)
        refine lv_iconst (v := (0 : Int32)) hx hb dX5_rewrite_65 (by decide) ?_
        refine lv_istore_n (lv' := [(2, .int (0 : Int32)), (0, .ref (a 0))]) hx hb dX5_rewrite_66 rfl hl (by decide) rfl (fun ls hl => ?_)
        obtain ⟨z20, hw21, h⟩ := bx1 h
        refine wh_W (P := fun (z : MS × Int32) => ∀ (H : Heap) (locs : List Loc) (ls : Array Slot), wk D (mW g a z.1) A H0 H locs → lv_has ls 3 [(0, .ref (a 0)), (2, .int z.2)] → W p l e (rmk 7 163) s m args below meth c H locs 0 0 Q (F0 m 67 ls [])) (X := fun (z : MS) => ∀ (H : Heap) (locs : List Loc) (ls : Array Slot), wk D (mW g a z) A H0 H locs → lv_has ls 3 [(0, .ref (a 0))] → W p l e (rmk 7 163) s m args below meth c H locs 0 0 Q (F0 m 92 ls [])) ?_ FU _ _ hw21 ?_ _ _ _ I (lv_sub hl [1, 0] rfl)
        · intro z o14 h hk15 H locs ls I hl
          obtain ⟨st12, x13⟩ := z
          have h : ((if (4 : Int32) ≤ x13 then some (.inr st12) else (bi1 (f5_rewritten st12 x13) fun r18 => (if ib ((16 : Int32) + x13) 26 = true then some (.inl ((m_z_s st12 (upd (m_z st12) ((16 : Int32) + x13).toNatClampNeg r18)), (x13 + 1))) else none))) : Option ((MS × Int32) ⊕ (MS))) = some o14 := h
          have I : wk D (mW g a st12) A H0 H locs := I
          have hl : lv_has ls 3 [(0, .ref (a 0)), (2, .int x13)] := hl
          refine lv_iload_n hx hb dX5_rewrite_67 rfl (lv_at hl 1 rfl) ?_
          refine lv_iconst (v := (4 : Int32)) hx hb dX5_rewrite_68 (by decide) ?_
          refine lv_icmp_ge (tgt := 92) hx hb dX5_rewrite_69 (by decide) (fun hc16 => ?_) (fun hc16 => ?_)
          · have h := ifp hc16 h
            cases h
            exact hk15 _ _ _ I (lv_sub hl [0] rfl)
          · have h := ifn hc16 h
            refine lv_aload_n hx hb dX5_rewrite_72 rfl (lv_at hl 0 rfl) ?_
            refine g5_7 E I dX5_rewrite_73 ?_
            refine lv_bipush (v := (16 : Int32)) hx hb dX5_rewrite_76 (by decide) ?_
            refine lv_iload_n hx hb dX5_rewrite_78 rfl (lv_at hl 1 rfl) ?_
            refine lv_iadd hx hb dX5_rewrite_79 ?_
            refine lv_aload_n hx hb dX5_rewrite_80 rfl (lv_at hl 0 rfl) ?_
            refine lv_iload_n hx hb dX5_rewrite_81 rfl (lv_at hl 1 rfl) ?_
            obtain ⟨r18, hc17, h⟩ := bx1 h
            refine r_callV1 (As := [.int x13]) (rest := [.int ((16 : Int32) + x13), .ref (a 1)]) (ws' := (mW g a st12)) (q0 := 0) E I hl.1 k5_107 (c5_rewritten hc17) mW_k rfl rfl rfl rfl (Nat.le_of_ble_eq_true rfl) ⟨Nat.le_of_ble_eq_true rfl, Nat.le_of_ble_eq_true rfl⟩ ⟨Nat.zero_le _, Nat.zero_le _⟩ dX5_rewrite_82 (fun H locs I => ?_)
            obtain ⟨hc19, h⟩ := gd h
            refine m_st1 E I (f := (m_z st12)) rfl hc19 dX5_rewrite_85 (fun H locs I => ?_)
            refine lv_iinc (v := (x13 + 1)) (lv' := [(2, .int (x13 + 1)), (0, .ref (a 0))]) hx hb dX5_rewrite_86 hl (k := 1) rfl rfl (by decide) rfl (fun ls hl => ?_)
            refine lv_goto (tgt := 67) hx hb dX5_rewrite_89 (by decide) ?_
            cases h
            exact hk15 _ _ _ I (lv_sub hl [1, 0] rfl)
        · obtain ⟨st22, rfl⟩ : ∃ y, y = z20 := ⟨_, rfl⟩
          intro H locs ls I hl
          have h : ((bi1 (f5_factorsOf st22 (2 : Int32)) fun r24 => some (st22, r24)) : Option (MS × Int32)) = some o := h
          have I : wk D (mW g a st22) A H0 H locs := I
          have hl : lv_has ls 3 [(0, .ref (a 0))] := hl
          refine lv_aload_n hx hb dX5_rewrite_92 rfl (lv_at hl 0 rfl) ?_
          refine lv_iconst (v := (2 : Int32)) hx hb dX5_rewrite_93 (by decide) ?_
          obtain ⟨r24, hc23, h⟩ := bx1 h
          refine r_callV1 (As := [.int (2 : Int32)]) (rest := []) (ws' := (mW g a st22)) (q0 := 0) E I hl.1 k5_151 (c5_factorsOf hc23) mW_k rfl rfl rfl rfl (Nat.le_of_ble_eq_true rfl) ⟨Nat.le_of_ble_eq_true rfl, Nat.le_of_ble_eq_true rfl⟩ ⟨Nat.zero_le _, Nat.zero_le _⟩ dX5_rewrite_94 (fun H locs I => ?_)
          cases h
          exact K _ _ _ _ I dX5_rewrite_97
      · have h := ifn hc9 h
        refine lv_iconst (v := (0 : Int32)) hx hb dX5_rewrite_59 (by decide) ?_
        cases h
        exact K _ _ _ _ I dX5_rewrite_60
    refine lv_if_ne (tgt := 52) hx hb dX5_rewrite_21 (by decide) (fun hc26 => ?_) (fun hc26 => ?_)
    · have h := ifn hc26 h
      exact J7 _ h _ _ _ I (lv_sub hl [0] rfl)
    · have h := ifp hc26 h
      refine lv_aload_n hx hb dX5_rewrite_24 rfl (lv_at hl 0 rfl) ?_
      refine lv_iload_n hx hb dX5_rewrite_25 rfl (lv_at hl 1 rfl) ?_
      obtain ⟨st28, hc27, h⟩ := bx1 h
      refine r_callV0 (As := [.int x91]) (rest := []) (ws' := (mW g a st28)) (q0 := 0) E I hl.1 k5_157 (c5_layMatcher hc27) mW_k rfl rfl rfl rfl (Nat.le_of_ble_eq_true rfl) ⟨Nat.le_of_ble_eq_true rfl, Nat.le_of_ble_eq_true rfl⟩ ⟨Nat.zero_le _, Nat.zero_le _⟩ dX5_rewrite_26 (fun H locs I => ?_)
      refine lv_aload_n hx hb dX5_rewrite_29 rfl (lv_at hl 0 rfl) ?_
      refine lv_aload_n hx hb dX5_rewrite_30 rfl (lv_at hl 0 rfl) ?_
      obtain ⟨r30, hc29, h⟩ := bx1 h
      refine r_callV1 (As := []) (rest := [.ref (a 0)]) (ws' := (mW g a st28)) (q0 := 0) E I hl.1 k5_161 (c5_isStrange hc29) mW_k rfl rfl rfl rfl (Nat.le_of_ble_eq_true rfl) ⟨Nat.le_of_ble_eq_true rfl, Nat.le_of_ble_eq_true rfl⟩ ⟨Nat.zero_le _, Nat.zero_le _⟩ dX5_rewrite_31 (fun H locs I => ?_)
      refine lv_if_ne (tgt := 44) hx hb dX5_rewrite_34 (by decide) (fun hc31 => ?_) (fun hc31 => ?_)
      · have h := ifn hc31 h
        refine lv_iconst (v := (2 : Int32)) hx hb dX5_rewrite_44 (by decide) ?_
        refine lv_goto (tgt := 49) hx hb dX5_rewrite_45 (by decide) ?_
        refine p5_50 E I dX5_rewrite_49 (fun H locs I => ?_)
        exact J7 _ h _ _ _ I (lv_sub hl [0] rfl)
      · have h := ifp hc31 h
        refine lv_aload_n hx hb dX5_rewrite_37 rfl (lv_at hl 0 rfl) ?_
        obtain ⟨r33, hc32, h⟩ := bx1 h
        refine r_callV1 (As := []) (rest := [.ref (a 0)]) (ws' := (mW g a st28)) (q0 := 0) E I hl.1 k5_165 (c5_isTooMuch hc32) mW_k rfl rfl rfl rfl (Nat.le_of_ble_eq_true rfl) ⟨Nat.le_of_ble_eq_true rfl, Nat.le_of_ble_eq_true rfl⟩ ⟨Nat.zero_le _, Nat.zero_le _⟩ dX5_rewrite_38 (fun H locs I => ?_)
        have J35 : ∀ (v34 : Int32) (H : Heap) (locs : List Loc), v34 = (if r33 = 0 then (0 : Int32) else (2 : Int32)) → wk D (mW g a st28) A H0 H locs → W p l e (rmk 7 163) s m args below meth c H locs 0 0 Q (F0 m 49 ls [.int v34, .ref (a 0)]) := by
          intro v34 H locs hv36 I
          subst hv36
          refine p5_50 E I dX5_rewrite_49 (fun H locs I => ?_)
          exact J7 _ h _ _ _ I (lv_sub hl [0] rfl)
        refine lv_if_eq (tgt := 48) hx hb dX5_rewrite_41 (by decide) (fun hc37 => ?_) (fun hc37 => ?_)
        · refine lv_iconst (v := (0 : Int32)) hx hb dX5_rewrite_48 (by decide) ?_
          exact J35 _ _ _ (by rw [if_pos hc37]) I
        · refine lv_iconst (v := (2 : Int32)) hx hb dX5_rewrite_44 (by decide) ?_
          refine lv_goto (tgt := 49) hx hb dX5_rewrite_45 (by decide) ?_
          exact J35 _ _ _ (by rw [if_neg hc37]) I
  refine lv_if_eq (tgt := 13) hx hb dX5_rewrite_6 (by decide) (fun hc38 => ?_) (fun hc38 => ?_)
  · refine lv_iconst (v := (1 : Int32)) hx hb dX5_rewrite_13 (by decide) ?_
    exact J5 _ _ _ (by rw [if_pos hc38]) I
  · refine lv_iconst (v := (0 : Int32)) hx hb dX5_rewrite_9 (by decide) ?_
    refine lv_goto (tgt := 14) hx hb dX5_rewrite_10 (by decide) ?_
    exact J5 _ _ _ (by rw [if_neg hc38]) I
set_option maxHeartbeats 4000000 in
set_option maxRecDepth 100000 in
theorem c5_cancel {l : Launch} {D : va_G} {g : Nat → ClassId} {a : Nat → Nat} {st : MS} {x91 : Int32} {x92 : Int32} {o : MS × Int32} (h : f5_cancel st x91 x92 = some o) : ct l yX5_cancel cX5_cancel 6 (some .int) (rmk 2 42) D g (mW g a st) (mW g a o.1) [.ref (a 0), .int x91, .int x92] (some (.int o.2)) := by
  refine ct_of ⟨rfl, rfl⟩ (by decide) (Nat.le_of_ble_eq_true rfl) ?_
  intro p e s m args below meth c ls Q A H0 H locs E I hl K
  have E : en p m c cX5_cancel 6 s args RX5 D g := E
  have hx := E.1.1
  have hb := E.1.2.1
  have hl : lv_has ls 6 [(0, .ref (a 0)), (1, .int x91), (2, .int x92)] := hl
  have K : ∀ (pc : Nat) (ls : Array Slot) (H : Heap) (locs : List Loc), wk D (mW g a o.1) A H0 H locs → decode cX5_cancel pc = .ok (.ireturn, 1) → W p l e (rmk 2 42) s m args below meth c H locs 0 0 Q (F0 m pc ls [.int o.2]) := fun pc ls H locs I hd => K pc ls H locs I hd
  have h : ((if (if (f5_isProduct x91) = 0 then (1 : Int32) else (if (f5_isProduct x92) = 0 then (1 : Int32) else (0 : Int32))) ≤ 0 then (bi1 (f5_save (m_thrown_s st (if (f5_isProduct x91) = 0 then (1 : Int32) else (if (f5_isProduct x92) = 0 then (1 : Int32) else (0 : Int32))))) fun st6 => (bi1 (wh (f5_cancel_b41 x91 x92) FU (st6, (0 : Int32), (0 : Int32))) fun w41 => some (w41.1, w41.2))) else some ((m_thrown_s st (if (f5_isProduct x91) = 0 then (1 : Int32) else (if (f5_isProduct x92) = 0 then (1 : Int32) else (0 : Int32)))), (0 : Int32))) : Option (MS × Int32)) = some o := h
  refine lv_aload_n hx hb dX5_cancel_0 rfl (lv_at hl 0 rfl) ?_
  refine lv_iload_n hx hb dX5_cancel_1 rfl (lv_at hl 1 rfl) ?_
  refine r_callS1 (As := [.int x91]) (rest := [.ref (a 0)]) E I hl.1 k5_133 (c5_isProduct rfl) rfl rfl (Nat.le_of_ble_eq_true rfl) ⟨Nat.le_of_ble_eq_true rfl, Nat.le_of_ble_eq_true rfl⟩ ⟨Nat.zero_le _, Nat.zero_le _⟩ dX5_cancel_2 (fun H locs I => ?_)
  have J2 : ∀ (v1 : Int32) (H : Heap) (locs : List Loc), v1 = (if (f5_isProduct x91) = 0 then (1 : Int32) else (if (f5_isProduct x92) = 0 then (1 : Int32) else (0 : Int32))) → wk D (mW g a st) A H0 H locs → W p l e (rmk 2 42) s m args below meth c H locs 0 0 Q (F0 m 20 ls [.int v1, .ref (a 0)]) := by
    intro v1 H locs hv3 I
    subst hv3
    refine p5_50 E I dX5_cancel_20 (fun H locs I => ?_)
    refine lv_aload_n hx hb dX5_cancel_23 rfl (lv_at hl 0 rfl) ?_
    refine g5_50 E I (v := (if (f5_isProduct x91) = 0 then (1 : Int32) else (if (f5_isProduct x92) = 0 then (1 : Int32) else (0 : Int32)))) rfl dX5_cancel_24 ?_
    refine lv_if_le (tgt := 32) hx hb dX5_cancel_27 (by decide) (fun hc4 => ?_) (fun hc4 => ?_)
    · have h := ifp hc4 h
      refine lv_aload_n hx hb dX5_cancel_32 rfl (lv_at hl 0 rfl) ?_
      obtain ⟨st6, hc5, h⟩ := bx1 h
      refine r_callV0 (As := []) (rest := []) (ws' := (mW g a st6)) (q0 := 0) E I hl.1 k5_139 (c5_save hc5) mW_k rfl rfl rfl rfl (Nat.le_of_ble_eq_true rfl) ⟨Nat.le_of_ble_eq_true rfl, Nat.le_of_ble_eq_true rfl⟩ ⟨Nat.zero_le _, Nat.zero_le _⟩ dX5_cancel_33 (fun H locs I => ?_)
      refine lv_iconst (v := (0 : Int32)) hx hb dX5_cancel_36 (by decide) ?_
      refine lv_istore_n (lv' := [(3, .int (0 : Int32)), (0, .ref (a 0)), (1, .int x91), (2, .int x92)]) hx hb dX5_cancel_37 rfl hl (by decide) rfl (fun ls hl => ?_)
      refine lv_iconst (v := (0 : Int32)) hx hb dX5_cancel_38 (by decide) ?_
      refine lv_istore (lv' := [(4, .int (0 : Int32)), (3, .int (0 : Int32)), (0, .ref (a 0)), (1, .int x91), (2, .int x92)]) hx hb dX5_cancel_39 hl (by decide) rfl (fun ls hl => ?_)
      obtain ⟨z37, hw38, h⟩ := bx1 h
      refine wh_W (P := fun (z : MS × Int32 × Int32) => ∀ (H : Heap) (locs : List Loc) (ls : Array Slot), wk D (mW g a z.1) A H0 H locs → lv_has ls 6 [(0, .ref (a 0)), (1, .int x91), (2, .int x92), (3, .int z.2.1), (4, .int z.2.2)] → W p l e (rmk 2 42) s m args below meth c H locs 0 0 Q (F0 m 41 ls [])) (X := fun (z : MS × Int32) => ∀ (H : Heap) (locs : List Loc) (ls : Array Slot), wk D (mW g a z.1) A H0 H locs → lv_has ls 6 [(3, .int z.2)] → W p l e (rmk 2 42) s m args below meth c H locs 0 0 Q (F0 m 138 ls [])) ?_ FU _ _ hw38 ?_ _ _ _ I (lv_sub hl [2, 3, 4, 1, 0] rfl)
      · intro z o12 h hk13 H locs ls I hl
        obtain ⟨st7, x10, x11⟩ := z
        have h : ((if (8 : Int32) ≤ x11 then some (.inr (st7, x10)) else (bi1 (f5_of st7 x91 x11) fun r16 => (bi1 (f5_of st7 x92 x11) fun r18 => (if r18 ≤ r16 then (bi1 (f5_of st7 x92 x11) fun r34 => f5_cancel_j82 x91 x92 st7 x10 x11 r34) else (bi1 (f5_of st7 x91 x11) fun r36 => f5_cancel_j82 x91 x92 st7 x10 x11 r36))))) : Option ((MS × Int32 × Int32) ⊕ (MS × Int32))) = some o12 := h
        have I : wk D (mW g a st7) A H0 H locs := I
        have hl : lv_has ls 6 [(0, .ref (a 0)), (1, .int x91), (2, .int x92), (3, .int x10), (4, .int x11)] := hl
        refine lv_iload hx hb dX5_cancel_41 (lv_at hl 4 rfl) ?_
        refine lv_bipush (v := (8 : Int32)) hx hb dX5_cancel_43 (by decide) ?_
        refine lv_icmp_ge (tgt := 138) hx hb dX5_cancel_45 (by decide) (fun hc14 => ?_) (fun hc14 => ?_)
        · have h := ifp hc14 h
          cases h
          exact hk13 _ _ _ I (lv_sub hl [3] rfl)
        · have h := ifn hc14 h
          refine lv_aload_n hx hb dX5_cancel_48 rfl (lv_at hl 0 rfl) ?_
          refine lv_iload_n hx hb dX5_cancel_49 rfl (lv_at hl 1 rfl) ?_
          refine lv_iload hx hb dX5_cancel_50 (lv_at hl 4 rfl) ?_
          obtain ⟨r16, hc15, h⟩ := bx1 h
          refine r_callV1 (As := [.int x91, .int x11]) (rest := []) (ws' := (mW g a st7)) (q0 := 0) E I hl.1 k5_57 (c5_of hc15) mW_k rfl rfl rfl rfl (Nat.le_of_ble_eq_true rfl) ⟨Nat.le_of_ble_eq_true rfl, Nat.le_of_ble_eq_true rfl⟩ ⟨Nat.zero_le _, Nat.zero_le _⟩ dX5_cancel_52 (fun H locs I => ?_)
          refine lv_aload_n hx hb dX5_cancel_55 rfl (lv_at hl 0 rfl) ?_
          refine lv_iload_n hx hb dX5_cancel_56 rfl (lv_at hl 2 rfl) ?_
          refine lv_iload hx hb dX5_cancel_57 (lv_at hl 4 rfl) ?_
          obtain ⟨r18, hc17, h⟩ := bx1 h
          refine r_callV1 (As := [.int x92, .int x11]) (rest := [.int r16]) (ws' := (mW g a st7)) (q0 := 0) E I hl.1 k5_57 (c5_of hc17) mW_k rfl rfl rfl rfl (Nat.le_of_ble_eq_true rfl) ⟨Nat.le_of_ble_eq_true rfl, Nat.le_of_ble_eq_true rfl⟩ ⟨Nat.zero_le _, Nat.zero_le _⟩ dX5_cancel_59 (fun H locs I => ?_)
          have J19 : ∀ (st20 : MS) (x21 : Int32) (x22 : Int32) (y23 : Int32), f5_cancel_j82 x91 x92 st20 x21 x22 y23 = some o12 → ∀ (H : Heap) (locs : List Loc) (ls : Array Slot), wk D (mW g a st20) A H0 H locs → lv_has ls 6 [(0, .ref (a 0)), (1, .int x91), (2, .int x92), (3, .int x21), (4, .int x22)] → W p l e (rmk 2 42) s m args below meth c H locs 0 0 Q (F0 m 82 ls [.int y23]) := by
            intro st20 x21 x22 y23 h H locs ls I hl
            have h : ((if ib (((8 : Int32) * x91) + x22) 26 = true then (if ib (((8 : Int32) * x91) + x22) 26 = true then (if ib (((8 : Int32) * x92) + x22) 26 = true then (if ib (((8 : Int32) * x92) + x22) 26 = true then some (.inl ((m_z_s (m_z_s st20 (upd (m_z st20) (((8 : Int32) * x91) + x22).toNatClampNeg (((m_z st20) (((8 : Int32) * x91) + x22).toNatClampNeg) - y23))) (upd (upd (m_z st20) (((8 : Int32) * x91) + x22).toNatClampNeg (((m_z st20) (((8 : Int32) * x91) + x22).toNatClampNeg) - y23)) (((8 : Int32) * x92) + x22).toNatClampNeg (((upd (m_z st20) (((8 : Int32) * x91) + x22).toNatClampNeg (((m_z st20) (((8 : Int32) * x91) + x22).toNatClampNeg) - y23)) (((8 : Int32) * x92) + x22).toNatClampNeg) - (if x91 = x92 then (0 : Int32) else y23)))), (x21 + y23), (x22 + 1))) else none) else none) else none) else none) : Option ((MS × Int32 × Int32) ⊕ (MS × Int32))) = some o12 := h
            refine lv_istore (lv' := [(5, .int y23), (0, .ref (a 0)), (1, .int x91), (2, .int x92), (3, .int x21), (4, .int x22)]) hx hb dX5_cancel_82 hl (by decide) rfl (fun ls hl => ?_)
            refine lv_aload_n hx hb dX5_cancel_84 rfl (lv_at hl 1 rfl) ?_
            refine g5_7 E I dX5_cancel_85 ?_
            refine lv_bipush (v := (8 : Int32)) hx hb dX5_cancel_88 (by decide) ?_
            refine lv_iload_n hx hb dX5_cancel_90 rfl (lv_at hl 2 rfl) ?_
            refine lv_imul hx hb dX5_cancel_91 ?_
            refine lv_iload hx hb dX5_cancel_92 (lv_at hl 5 rfl) ?_
            refine lv_iadd hx hb dX5_cancel_94 ?_
            refine lv_dup2_11 hx hb dX5_cancel_95 rfl rfl ?_
            obtain ⟨hc24, h⟩ := gd h
            refine m_ld1 E I (f := (m_z st20)) rfl hc24 dX5_cancel_96 ?_
            refine lv_iload hx hb dX5_cancel_97 (lv_at hl 0 rfl) ?_
            refine lv_isub hx hb dX5_cancel_99 ?_
            obtain ⟨hc25, h⟩ := gd h
            refine m_st1 E I (f := (m_z st20)) rfl hc25 dX5_cancel_100 (fun H locs I => ?_)
            refine lv_aload_n hx hb dX5_cancel_101 rfl (lv_at hl 1 rfl) ?_
            refine g5_7 E I dX5_cancel_102 ?_
            refine lv_bipush (v := (8 : Int32)) hx hb dX5_cancel_105 (by decide) ?_
            refine lv_iload_n hx hb dX5_cancel_107 rfl (lv_at hl 3 rfl) ?_
            refine lv_imul hx hb dX5_cancel_108 ?_
            refine lv_iload hx hb dX5_cancel_109 (lv_at hl 5 rfl) ?_
            refine lv_iadd hx hb dX5_cancel_111 ?_
            refine lv_dup2_11 hx hb dX5_cancel_112 rfl rfl ?_
            obtain ⟨hc26, h⟩ := gd h
            refine m_ld1 E I (f := (upd (m_z st20) (((8 : Int32) * x91) + x22).toNatClampNeg (((m_z st20) (((8 : Int32) * x91) + x22).toNatClampNeg) - y23))) rfl hc26 dX5_cancel_113 ?_
            refine lv_iload_n hx hb dX5_cancel_114 rfl (lv_at hl 2 rfl) ?_
            refine lv_iload_n hx hb dX5_cancel_115 rfl (lv_at hl 3 rfl) ?_
            have J28 : ∀ (v27 : Int32) (H : Heap) (locs : List Loc), v27 = (if x91 = x92 then (0 : Int32) else y23) → wk D (mW g a (m_z_s st20 (upd (m_z st20) (((8 : Int32) * x91) + x22).toNatClampNeg (((m_z st20) (((8 : Int32) * x91) + x22).toNatClampNeg) - y23)))) A H0 H locs → W p l e (rmk 2 42) s m args below meth c H locs 0 0 Q (F0 m 125 ls [.int v27, .int ((upd (m_z st20) (((8 : Int32) * x91) + x22).toNatClampNeg (((m_z st20) (((8 : Int32) * x91) + x22).toNatClampNeg) - y23)) (((8 : Int32) * x92) + x22).toNatClampNeg), .int (((8 : Int32) * x92) + x22), .ref (a 1)]) := by
              intro v27 H locs hv29 I
              subst hv29
              refine lv_isub hx hb dX5_cancel_125 ?_
              obtain ⟨hc30, h⟩ := gd h
              refine m_st1 E I (f := (upd (m_z st20) (((8 : Int32) * x91) + x22).toNatClampNeg (((m_z st20) (((8 : Int32) * x91) + x22).toNatClampNeg) - y23))) rfl hc30 dX5_cancel_126 (fun H locs I => ?_)
              refine lv_iload_n hx hb dX5_cancel_127 rfl (lv_at hl 4 rfl) ?_
              refine lv_iload hx hb dX5_cancel_128 (lv_at hl 0 rfl) ?_
              refine lv_iadd hx hb dX5_cancel_130 ?_
              refine lv_istore_n (lv' := [(3, .int (x21 + y23)), (5, .int y23), (0, .ref (a 0)), (1, .int x91), (2, .int x92), (4, .int x22)]) hx hb dX5_cancel_131 rfl hl (by decide) rfl (fun ls hl => ?_)
              refine lv_iinc (v := (x22 + 1)) (lv' := [(4, .int (x22 + 1)), (3, .int (x21 + y23)), (5, .int y23), (0, .ref (a 0)), (1, .int x91), (2, .int x92)]) hx hb dX5_cancel_132 hl (k := 5) rfl rfl (by decide) rfl (fun ls hl => ?_)
              refine lv_goto (tgt := 41) hx hb dX5_cancel_135 (by decide) ?_
              cases h
              exact hk13 _ _ _ I (lv_sub hl [3, 4, 5, 1, 0] rfl)
            refine lv_icmp_ne (tgt := 123) hx hb dX5_cancel_116 (by decide) (fun hc31 => ?_) (fun hc31 => ?_)
            · refine lv_iload hx hb dX5_cancel_123 (lv_at hl 0 rfl) ?_
              exact J28 _ _ _ (by rw [if_neg hc31]) I
            · refine lv_iconst (v := (0 : Int32)) hx hb dX5_cancel_119 (by decide) ?_
              refine lv_goto (tgt := 125) hx hb dX5_cancel_120 (by decide) ?_
              exact J28 _ _ _ (by rw [if_pos hc31]) I
          refine lv_icmp_ge (tgt := 75) hx hb dX5_cancel_62 (by decide) (fun hc32 => ?_) (fun hc32 => ?_)
          · have h := ifp hc32 h
            refine lv_aload_n hx hb dX5_cancel_75 rfl (lv_at hl 0 rfl) ?_
            refine lv_iload_n hx hb dX5_cancel_76 rfl (lv_at hl 2 rfl) ?_
            refine lv_iload hx hb dX5_cancel_77 (lv_at hl 4 rfl) ?_
            obtain ⟨r34, hc33, h⟩ := bx1 h
            refine r_callV1 (As := [.int x92, .int x11]) (rest := []) (ws' := (mW g a st7)) (q0 := 0) E I hl.1 k5_57 (c5_of hc33) mW_k rfl rfl rfl rfl (Nat.le_of_ble_eq_true rfl) ⟨Nat.le_of_ble_eq_true rfl, Nat.le_of_ble_eq_true rfl⟩ ⟨Nat.zero_le _, Nat.zero_le _⟩ dX5_cancel_79 (fun H locs I => ?_)
            exact J19 _ _ _ _ h _ _ _ I (lv_sub hl [0, 1, 2, 3, 4] rfl)
          · have h := ifn hc32 h
            refine lv_aload_n hx hb dX5_cancel_65 rfl (lv_at hl 0 rfl) ?_
            refine lv_iload_n hx hb dX5_cancel_66 rfl (lv_at hl 1 rfl) ?_
            refine lv_iload hx hb dX5_cancel_67 (lv_at hl 4 rfl) ?_
            obtain ⟨r36, hc35, h⟩ := bx1 h
            refine r_callV1 (As := [.int x91, .int x11]) (rest := []) (ws' := (mW g a st7)) (q0 := 0) E I hl.1 k5_57 (c5_of hc35) mW_k rfl rfl rfl rfl (Nat.le_of_ble_eq_true rfl) ⟨Nat.le_of_ble_eq_true rfl, Nat.le_of_ble_eq_true rfl⟩ ⟨Nat.zero_le _, Nat.zero_le _⟩ dX5_cancel_69 (fun H locs I => ?_)
            refine lv_goto (tgt := 82) hx hb dX5_cancel_72 (by decide) ?_
            exact J19 _ _ _ _ h _ _ _ I (lv_sub hl [0, 1, 2, 3, 4] rfl)
      · obtain ⟨st39, x40⟩ := z37
        intro H locs ls I hl
        have h : (some (st39, x40) : Option (MS × Int32)) = some o := h
        have I : wk D (mW g a st39) A H0 H locs := I
        have hl : lv_has ls 6 [(3, .int x40)] := hl
        refine lv_iload_n hx hb dX5_cancel_138 rfl (lv_at hl 0 rfl) ?_
        cases h
        exact K _ _ _ _ I dX5_cancel_139
    · have h := ifn hc4 h
      refine lv_iconst (v := (0 : Int32)) hx hb dX5_cancel_30 (by decide) ?_
      cases h
      exact K _ _ _ _ I dX5_cancel_31
  refine lv_if_eq (tgt := 19) hx hb dX5_cancel_5 (by decide) (fun hc42 => ?_) (fun hc42 => ?_)
  · refine lv_iconst (v := (1 : Int32)) hx hb dX5_cancel_19 (by decide) ?_
    exact J2 _ _ _ (by rw [if_pos hc42]) I
  · refine lv_iload_n hx hb dX5_cancel_8 rfl (lv_at hl 2 rfl) ?_
    refine r_callS1 (As := [.int x92]) (rest := [.ref (a 0)]) E I hl.1 k5_133 (c5_isProduct rfl) rfl rfl (Nat.le_of_ble_eq_true rfl) ⟨Nat.le_of_ble_eq_true rfl, Nat.le_of_ble_eq_true rfl⟩ ⟨Nat.zero_le _, Nat.zero_le _⟩ dX5_cancel_9 (fun H locs I => ?_)
    refine lv_if_eq (tgt := 19) hx hb dX5_cancel_12 (by decide) (fun hc43 => ?_) (fun hc43 => ?_)
    · refine lv_iconst (v := (1 : Int32)) hx hb dX5_cancel_19 (by decide) ?_
      exact J2 _ _ _ (by rw [if_neg hc42, if_pos hc43]) I
    · refine lv_iconst (v := (0 : Int32)) hx hb dX5_cancel_15 (by decide) ?_
      refine lv_goto (tgt := 20) hx hb dX5_cancel_16 (by decide) ?_
      exact J2 _ _ _ (by rw [if_neg hc42, if_neg hc43]) I
set_option maxHeartbeats 4000000 in
set_option maxRecDepth 100000 in
theorem c5_set {l : Launch} {D : va_G} {g : Nat → ClassId} {a : Nat → Nat} {st : MS} {x91 : Int32} {x92 : Int32} {o : MS × Int32} (h : f5_set st x91 x92 = some o) : ct l yX5_set cX5_set 4 (some .int) (rmk 1 22) D g (mW g a st) (mW g a o.1) [.ref (a 0), .int x91, .int x92] (some (.int o.2)) := by
  refine ct_of ⟨rfl, rfl⟩ (by decide) (Nat.le_of_ble_eq_true rfl) ?_
  intro p e s m args below meth c ls Q A H0 H locs E I hl K
  have E : en p m c cX5_set 4 s args RX5 D g := E
  have hx := E.1.1
  have hb := E.1.2.1
  have hl : lv_has ls 4 [(0, .ref (a 0)), (1, .int x91), (2, .int x92)] := hl
  have K : ∀ (pc : Nat) (ls : Array Slot) (H : Heap) (locs : List Loc), wk D (mW g a o.1) A H0 H locs → decode cX5_set pc = .ok (.ireturn, 1) → W p l e (rmk 1 22) s m args below meth c H locs 0 0 Q (F0 m pc ls [.int o.2]) := fun pc ls H locs I hd => K pc ls H locs I hd
  have h : ((if (if (f5_within x91 (0 : Int32) (1 : Int32)) = 0 then (1 : Int32) else (if x91 = 0 then (if (f5_within x92 (0 : Int32) (1 : Int32)) = 0 then (2 : Int32) else (0 : Int32)) else (if (f5_within x92 (0 : Int32) (9 : Int32)) = 0 then (2 : Int32) else (0 : Int32)))) ≤ 0 then (bi1 (f5_save (m_thrown_s st (if (f5_within x91 (0 : Int32) (1 : Int32)) = 0 then (1 : Int32) else (if x91 = 0 then (if (f5_within x92 (0 : Int32) (1 : Int32)) = 0 then (2 : Int32) else (0 : Int32)) else (if (f5_within x92 (0 : Int32) (9 : Int32)) = 0 then (2 : Int32) else (0 : Int32)))))) fun st6 => (if ib ((24 : Int32) + x91) 26 = true then (if ib ((24 : Int32) + x91) 26 = true then some ((m_z_s st6 (upd (m_z st6) ((24 : Int32) + x91).toNatClampNeg x92)), ((m_z st6) ((24 : Int32) + x91).toNatClampNeg)) else none) else none)) else some ((m_thrown_s st (if (f5_within x91 (0 : Int32) (1 : Int32)) = 0 then (1 : Int32) else (if x91 = 0 then (if (f5_within x92 (0 : Int32) (1 : Int32)) = 0 then (2 : Int32) else (0 : Int32)) else (if (f5_within x92 (0 : Int32) (9 : Int32)) = 0 then (2 : Int32) else (0 : Int32))))), (0 : Int32))) : Option (MS × Int32)) = some o := h
  refine lv_aload_n hx hb dX5_set_0 rfl (lv_at hl 0 rfl) ?_
  refine lv_iload_n hx hb dX5_set_1 rfl (lv_at hl 1 rfl) ?_
  refine lv_iconst (v := (0 : Int32)) hx hb dX5_set_2 (by decide) ?_
  refine lv_iconst (v := (1 : Int32)) hx hb dX5_set_3 (by decide) ?_
  refine r_callS1 (As := [.int x91, .int (0 : Int32), .int (1 : Int32)]) (rest := [.ref (a 0)]) E I hl.1 k5_61 (c5_within rfl) rfl rfl (Nat.le_of_ble_eq_true rfl) ⟨Nat.le_of_ble_eq_true rfl, Nat.le_of_ble_eq_true rfl⟩ ⟨Nat.zero_le _, Nat.zero_le _⟩ dX5_set_4 (fun H locs I => ?_)
  have J2 : ∀ (v1 : Int32) (H : Heap) (locs : List Loc), v1 = (if (f5_within x91 (0 : Int32) (1 : Int32)) = 0 then (1 : Int32) else (if x91 = 0 then (if (f5_within x92 (0 : Int32) (1 : Int32)) = 0 then (2 : Int32) else (0 : Int32)) else (if (f5_within x92 (0 : Int32) (9 : Int32)) = 0 then (2 : Int32) else (0 : Int32)))) → wk D (mW g a st) A H0 H locs → W p l e (rmk 1 22) s m args below meth c H locs 0 0 Q (F0 m 37 ls [.int v1, .ref (a 0)]) := by
    intro v1 H locs hv3 I
    subst hv3
    refine p5_50 E I dX5_set_37 (fun H locs I => ?_)
    refine lv_aload_n hx hb dX5_set_40 rfl (lv_at hl 0 rfl) ?_
    refine g5_50 E I (v := (if (f5_within x91 (0 : Int32) (1 : Int32)) = 0 then (1 : Int32) else (if x91 = 0 then (if (f5_within x92 (0 : Int32) (1 : Int32)) = 0 then (2 : Int32) else (0 : Int32)) else (if (f5_within x92 (0 : Int32) (9 : Int32)) = 0 then (2 : Int32) else (0 : Int32))))) rfl dX5_set_41 ?_
    refine lv_if_le (tgt := 49) hx hb dX5_set_44 (by decide) (fun hc4 => ?_) (fun hc4 => ?_)
    · have h := ifp hc4 h
      refine lv_aload_n hx hb dX5_set_49 rfl (lv_at hl 0 rfl) ?_
      obtain ⟨st6, hc5, h⟩ := bx1 h
      refine r_callV0 (As := []) (rest := []) (ws' := (mW g a st6)) (q0 := 0) E I hl.1 k5_139 (c5_save hc5) mW_k rfl rfl rfl rfl (Nat.le_of_ble_eq_true rfl) ⟨Nat.le_of_ble_eq_true rfl, Nat.le_of_ble_eq_true rfl⟩ ⟨Nat.zero_le _, Nat.zero_le _⟩ dX5_set_50 (fun H locs I => ?_)
      refine lv_aload_n hx hb dX5_set_53 rfl (lv_at hl 0 rfl) ?_
      refine g5_7 E I dX5_set_54 ?_
      refine lv_bipush (v := (24 : Int32)) hx hb dX5_set_57 (by decide) ?_
      refine lv_iload_n hx hb dX5_set_59 rfl (lv_at hl 1 rfl) ?_
      refine lv_iadd hx hb dX5_set_60 ?_
      obtain ⟨hc7, h⟩ := gd h
      refine m_ld1 E I (f := (m_z st6)) rfl hc7 dX5_set_61 ?_
      refine lv_istore_n (lv' := [(3, .int ((m_z st6) ((24 : Int32) + x91).toNatClampNeg)), (0, .ref (a 0)), (1, .int x91), (2, .int x92)]) hx hb dX5_set_62 rfl hl (by decide) rfl (fun ls hl => ?_)
      refine lv_aload_n hx hb dX5_set_63 rfl (lv_at hl 1 rfl) ?_
      refine g5_7 E I dX5_set_64 ?_
      refine lv_bipush (v := (24 : Int32)) hx hb dX5_set_67 (by decide) ?_
      refine lv_iload_n hx hb dX5_set_69 rfl (lv_at hl 2 rfl) ?_
      refine lv_iadd hx hb dX5_set_70 ?_
      refine lv_iload_n hx hb dX5_set_71 rfl (lv_at hl 3 rfl) ?_
      obtain ⟨hc8, h⟩ := gd h
      refine m_st1 E I (f := (m_z st6)) rfl hc8 dX5_set_72 (fun H locs I => ?_)
      refine lv_iload_n hx hb dX5_set_73 rfl (lv_at hl 0 rfl) ?_
      cases h
      exact K _ _ _ _ I dX5_set_74
    · have h := ifn hc4 h
      refine lv_iconst (v := (0 : Int32)) hx hb dX5_set_47 (by decide) ?_
      cases h
      exact K _ _ _ _ I dX5_set_48
  refine lv_if_ne (tgt := 14) hx hb dX5_set_7 (by decide) (fun hc9 => ?_) (fun hc9 => ?_)
  · refine lv_iload_n hx hb dX5_set_14 rfl (lv_at hl 2 rfl) ?_
    refine lv_iconst (v := (0 : Int32)) hx hb dX5_set_15 (by decide) ?_
    refine lv_iload_n hx hb dX5_set_16 rfl (lv_at hl 1 rfl) ?_
    refine lv_if_ne (tgt := 24) hx hb dX5_set_17 (by decide) (fun hc10 => ?_) (fun hc10 => ?_)
    · refine lv_bipush (v := (9 : Int32)) hx hb dX5_set_24 (by decide) ?_
      refine r_callS1 (As := [.int x92, .int (0 : Int32), .int (9 : Int32)]) (rest := [.ref (a 0)]) E I hl.1 k5_61 (c5_within rfl) rfl rfl (Nat.le_of_ble_eq_true rfl) ⟨Nat.le_of_ble_eq_true rfl, Nat.le_of_ble_eq_true rfl⟩ ⟨Nat.zero_le _, Nat.zero_le _⟩ dX5_set_26 (fun H locs I => ?_)
      refine lv_if_eq (tgt := 36) hx hb dX5_set_29 (by decide) (fun hc11 => ?_) (fun hc11 => ?_)
      · refine lv_iconst (v := (2 : Int32)) hx hb dX5_set_36 (by decide) ?_
        exact J2 _ _ _ (by rw [if_neg hc9, if_neg hc10, if_pos hc11]) I
      · refine lv_iconst (v := (0 : Int32)) hx hb dX5_set_32 (by decide) ?_
        refine lv_goto (tgt := 37) hx hb dX5_set_33 (by decide) ?_
        exact J2 _ _ _ (by rw [if_neg hc9, if_neg hc10, if_neg hc11]) I
    · refine lv_iconst (v := (1 : Int32)) hx hb dX5_set_20 (by decide) ?_
      refine lv_goto (tgt := 26) hx hb dX5_set_21 (by decide) ?_
      refine r_callS1 (As := [.int x92, .int (0 : Int32), .int (1 : Int32)]) (rest := [.ref (a 0)]) E I hl.1 k5_61 (c5_within rfl) rfl rfl (Nat.le_of_ble_eq_true rfl) ⟨Nat.le_of_ble_eq_true rfl, Nat.le_of_ble_eq_true rfl⟩ ⟨Nat.zero_le _, Nat.zero_le _⟩ dX5_set_26 (fun H locs I => ?_)
      refine lv_if_eq (tgt := 36) hx hb dX5_set_29 (by decide) (fun hc12 => ?_) (fun hc12 => ?_)
      · refine lv_iconst (v := (2 : Int32)) hx hb dX5_set_36 (by decide) ?_
        exact J2 _ _ _ (by rw [if_neg hc9, if_pos hc10, if_pos hc12]) I
      · refine lv_iconst (v := (0 : Int32)) hx hb dX5_set_32 (by decide) ?_
        refine lv_goto (tgt := 37) hx hb dX5_set_33 (by decide) ?_
        exact J2 _ _ _ (by rw [if_neg hc9, if_pos hc10, if_neg hc12]) I
  · refine lv_iconst (v := (1 : Int32)) hx hb dX5_set_10 (by decide) ?_
    refine lv_goto (tgt := 37) hx hb dX5_set_11 (by decide) ?_
    exact J2 _ _ _ (by rw [if_pos hc9]) I
set_option maxHeartbeats 4000000 in
set_option maxRecDepth 100000 in
theorem c5_append {l : Launch} {D : va_G} {g : Nat → ClassId} {a : Nat → Nat} {st : MS} {x91 : Int32} {o : MS × Int32} (h : f5_append st x91 = some o) : ct l yX5_append cX5_append 2 (some .int) (rmk 1 22) D g (mW g a st) (mW g a o.1) [.ref (a 0), .int x91] (some (.int o.2)) := by
  refine ct_of ⟨rfl, rfl⟩ (by decide) (Nat.le_of_ble_eq_true rfl) ?_
  intro p e s m args below meth c ls Q A H0 H locs E I hl K
  have E : en p m c cX5_append 2 s args RX5 D g := E
  have hx := E.1.1
  have hb := E.1.2.1
  have hl : lv_has ls 2 [(0, .ref (a 0)), (1, .int x91)] := hl
  have K : ∀ (pc : Nat) (ls : Array Slot) (H : Heap) (locs : List Loc), wk D (mW g a o.1) A H0 H locs → decode cX5_append pc = .ok (.ireturn, 1) → W p l e (rmk 1 22) s m args below meth c H locs 0 0 Q (F0 m pc ls [.int o.2]) := fun pc ls H locs I hd => K pc ls H locs I hd
  have h : ((if (f5_within x91 (33 : Int32) (126 : Int32)) = 0 then f5_append_j30 st x91 (1 : Int32) else (if (m_length st) = (60 : Int32) then f5_append_j30 st x91 (2 : Int32) else f5_append_j30 st x91 (0 : Int32))) : Option (MS × Int32)) = some o := h
  refine lv_aload_n hx hb dX5_append_0 rfl (lv_at hl 0 rfl) ?_
  refine lv_iload_n hx hb dX5_append_1 rfl (lv_at hl 1 rfl) ?_
  refine lv_bipush (v := (33 : Int32)) hx hb dX5_append_2 (by decide) ?_
  refine lv_bipush (v := (126 : Int32)) hx hb dX5_append_4 (by decide) ?_
  refine r_callS1 (As := [.int x91, .int (33 : Int32), .int (126 : Int32)]) (rest := [.ref (a 0)]) E I hl.1 k5_61 (c5_within rfl) rfl rfl (Nat.le_of_ble_eq_true rfl) ⟨Nat.le_of_ble_eq_true rfl, Nat.le_of_ble_eq_true rfl⟩ ⟨Nat.zero_le _, Nat.zero_le _⟩ dX5_append_6 (fun H locs I => ?_)
  have J1 : ∀ (st2 : MS) (x3 : Int32) (y4 : Int32), f5_append_j30 st2 x3 y4 = some o → ∀ (H : Heap) (locs : List Loc) (ls : Array Slot), wk D (mW g a st2) A H0 H locs → lv_has ls 2 [(0, .ref (a 0)), (1, .int x3)] → W p l e (rmk 1 22) s m args below meth c H locs 0 0 Q (F0 m 30 ls [.int y4, .ref (a 0)]) := by
    intro st2 x3 y4 h H locs ls I hl
    have h : ((if y4 ≤ 0 then (if ib (m_length st2) 60 = true then some ((m_length_s (m_text_s (m_thrown_s st2 y4) (upd (m_text st2) (m_length st2).toNatClampNeg x3)) ((m_length st2) + (1 : Int32))), ((m_length st2) + (1 : Int32))) else none) else some ((m_thrown_s st2 y4), (0 : Int32))) : Option (MS × Int32)) = some o := h
    refine p5_50 E I dX5_append_30 (fun H locs I => ?_)
    refine lv_aload_n hx hb dX5_append_33 rfl (lv_at hl 0 rfl) ?_
    refine g5_50 E I (v := y4) rfl dX5_append_34 ?_
    refine lv_if_le (tgt := 42) hx hb dX5_append_37 (by decide) (fun hc5 => ?_) (fun hc5 => ?_)
    · have h := ifp hc5 h
      refine lv_aload_n hx hb dX5_append_42 rfl (lv_at hl 0 rfl) ?_
      refine g5_22 E I dX5_append_43 ?_
      refine lv_aload_n hx hb dX5_append_46 rfl (lv_at hl 0 rfl) ?_
      refine g5_168 E I (v := (m_length st2)) rfl dX5_append_47 ?_
      refine lv_iload_n hx hb dX5_append_50 rfl (lv_at hl 1 rfl) ?_
      obtain ⟨hc6, h⟩ := gd h
      refine m_st5 E I (f := (m_text st2)) rfl hc6 dX5_append_51 (fun H locs I => ?_)
      refine lv_aload_n hx hb dX5_append_52 rfl (lv_at hl 0 rfl) ?_
      refine lv_dup hx hb dX5_append_53 rfl ?_
      refine g5_168 E I (v := (m_length st2)) rfl dX5_append_54 ?_
      refine lv_iconst (v := (1 : Int32)) hx hb dX5_append_57 (by decide) ?_
      refine lv_iadd hx hb dX5_append_58 ?_
      refine p5_168 E I dX5_append_59 (fun H locs I => ?_)
      refine lv_aload_n hx hb dX5_append_62 rfl (lv_at hl 0 rfl) ?_
      refine g5_168 E I (v := ((m_length st2) + (1 : Int32))) rfl dX5_append_63 ?_
      cases h
      exact K _ _ _ _ I dX5_append_66
    · have h := ifn hc5 h
      refine lv_iconst (v := (0 : Int32)) hx hb dX5_append_40 (by decide) ?_
      cases h
      exact K _ _ _ _ I dX5_append_41
  refine lv_if_ne (tgt := 16) hx hb dX5_append_9 (by decide) (fun hc7 => ?_) (fun hc7 => ?_)
  · have h := ifn hc7 h
    refine lv_aload_n hx hb dX5_append_16 rfl (lv_at hl 0 rfl) ?_
    refine g5_168 E I (v := (m_length st)) rfl dX5_append_17 ?_
    refine lv_bipush (v := (60 : Int32)) hx hb dX5_append_20 (by decide) ?_
    refine lv_icmp_ne (tgt := 29) hx hb dX5_append_22 (by decide) (fun hc8 => ?_) (fun hc8 => ?_)
    · have h := ifn hc8 h
      refine lv_iconst (v := (0 : Int32)) hx hb dX5_append_29 (by decide) ?_
      exact J1 _ _ _ h _ _ _ I (lv_sub hl [0, 1] rfl)
    · have h := ifp hc8 h
      refine lv_iconst (v := (2 : Int32)) hx hb dX5_append_25 (by decide) ?_
      refine lv_goto (tgt := 30) hx hb dX5_append_26 (by decide) ?_
      exact J1 _ _ _ h _ _ _ I (lv_sub hl [0, 1] rfl)
  · have h := ifp hc7 h
    refine lv_iconst (v := (1 : Int32)) hx hb dX5_append_12 (by decide) ?_
    refine lv_goto (tgt := 30) hx hb dX5_append_13 (by decide) ?_
    exact J1 _ _ _ h _ _ _ I (lv_sub hl [0, 1] rfl)
set_option maxHeartbeats 4000000 in
set_option maxRecDepth 100000 in
theorem c5_clearBuffer {l : Launch} {D : va_G} {g : Nat → ClassId} {a : Nat → Nat} {st : MS} {o : MS × Int32} (h : f5_clearBuffer st = o) : ct l yX5_clearBuffer cX5_clearBuffer 2 (some .int) (rmk 0 0) D g (mW g a st) (mW g a o.1) [.ref (a 0)] (some (.int o.2)) := by
  refine ct_of ⟨rfl, rfl⟩ (by decide) (Nat.le_of_ble_eq_true rfl) ?_
  intro p e s m args below meth c ls Q A H0 H locs E I hl K
  have E : en p m c cX5_clearBuffer 2 s args RX5 D g := E
  have hx := E.1.1
  have hb := E.1.2.1
  have hl : lv_has ls 2 [(0, .ref (a 0))] := hl
  have K : ∀ (pc : Nat) (ls : Array Slot) (H : Heap) (locs : List Loc), wk D (mW g a o.1) A H0 H locs → decode cX5_clearBuffer pc = .ok (.ireturn, 1) → W p l e (rmk 0 0) s m args below meth c H locs 0 0 Q (F0 m pc ls [.int o.2]) := fun pc ls H locs I hd => K pc ls H locs I hd
  have h : (((m_length_s (m_thrown_s st (0 : Int32)) (0 : Int32)), (m_length st)) : (MS × Int32)) = o := h
  refine lv_aload_n hx hb dX5_clearBuffer_0 rfl (lv_at hl 0 rfl) ?_
  refine lv_iconst (v := (0 : Int32)) hx hb dX5_clearBuffer_1 (by decide) ?_
  refine p5_50 E I dX5_clearBuffer_2 (fun H locs I => ?_)
  refine lv_aload_n hx hb dX5_clearBuffer_5 rfl (lv_at hl 0 rfl) ?_
  refine g5_168 E I (v := (m_length st)) rfl dX5_clearBuffer_6 ?_
  refine lv_istore_n (lv' := [(1, .int (m_length st)), (0, .ref (a 0))]) hx hb dX5_clearBuffer_9 rfl hl (by decide) rfl (fun ls hl => ?_)
  refine lv_aload_n hx hb dX5_clearBuffer_10 rfl (lv_at hl 1 rfl) ?_
  refine lv_iconst (v := (0 : Int32)) hx hb dX5_clearBuffer_11 (by decide) ?_
  refine p5_168 E I dX5_clearBuffer_12 (fun H locs I => ?_)
  refine lv_iload_n hx hb dX5_clearBuffer_15 rfl (lv_at hl 0 rfl) ?_
  cases h
  exact K _ _ _ _ I dX5_clearBuffer_16
set_option maxHeartbeats 4000000 in
set_option maxRecDepth 100000 in
theorem c5_factorFor {l : Launch} {D : va_G} {g : Nat → ClassId} {x90 : Int32} {o : Int32} (h : f5_factorFor x90 = o) : ct l yX5_factorFor cX5_factorFor 1 (some .int) (rmk 1 22) D g [] [] [.int x90] (some (.int o)) := by
  refine ct_of ⟨rfl, rfl⟩ (by decide) (Nat.le_of_ble_eq_true rfl) ?_
  intro p e s m args below meth c ls Q A H0 H locs E I hl K
  have E : en p m c cX5_factorFor 1 s args RX5 D g := E
  have hx := E.1.1
  have hb := E.1.2.1
  have hl : lv_has ls 1 [(0, .int x90)] := hl
  have K : ∀ (pc : Nat) (ls : Array Slot) (H : Heap) (locs : List Loc), wk D [] A H0 H locs → decode cX5_factorFor pc = .ok (.ireturn, 1) → W p l e (rmk 1 22) s m args below meth c H locs 0 0 Q (F0 m pc ls [.int o]) := fun pc ls H locs I hd => K pc ls H locs I hd
  have h : ((if (f5_within x90 (97 : Int32) (100 : Int32)) = 0 then (if (f5_within x90 (119 : Int32) (122 : Int32)) = 0 then (-1 : Int32) else ((x90 - (119 : Int32)) + (4 : Int32))) else (x90 - (97 : Int32))) : Int32) = o := h
  refine lv_iload_n hx hb dX5_factorFor_0 rfl (lv_at hl 0 rfl) ?_
  refine lv_bipush (v := (97 : Int32)) hx hb dX5_factorFor_1 (by decide) ?_
  refine lv_bipush (v := (100 : Int32)) hx hb dX5_factorFor_3 (by decide) ?_
  refine r_callS1 (As := [.int x90, .int (97 : Int32), .int (100 : Int32)]) (rest := []) E I hl.1 k5_61 (c5_within rfl) rfl rfl (Nat.le_of_ble_eq_true rfl) ⟨Nat.le_of_ble_eq_true rfl, Nat.le_of_ble_eq_true rfl⟩ ⟨Nat.zero_le _, Nat.zero_le _⟩ dX5_factorFor_5 (fun H locs I => ?_)
  have J2 : ∀ (v1 : Int32) (H : Heap) (locs : List Loc), v1 = (if (f5_within x90 (97 : Int32) (100 : Int32)) = 0 then (if (f5_within x90 (119 : Int32) (122 : Int32)) = 0 then (-1 : Int32) else ((x90 - (119 : Int32)) + (4 : Int32))) else (x90 - (97 : Int32))) → wk D [] A H0 H locs → W p l e (rmk 1 22) s m args below meth c H locs 0 0 Q (F0 m 39 ls [.int v1]) := by
    intro v1 H locs hv3 I
    subst hv3
    cases h
    exact K _ _ _ _ I dX5_factorFor_39
  refine lv_if_eq (tgt := 18) hx hb dX5_factorFor_8 (by decide) (fun hc4 => ?_) (fun hc4 => ?_)
  · refine lv_iload_n hx hb dX5_factorFor_18 rfl (lv_at hl 0 rfl) ?_
    refine lv_bipush (v := (119 : Int32)) hx hb dX5_factorFor_19 (by decide) ?_
    refine lv_bipush (v := (122 : Int32)) hx hb dX5_factorFor_21 (by decide) ?_
    refine r_callS1 (As := [.int x90, .int (119 : Int32), .int (122 : Int32)]) (rest := []) E I hl.1 k5_61 (c5_within rfl) rfl rfl (Nat.le_of_ble_eq_true rfl) ⟨Nat.le_of_ble_eq_true rfl, Nat.le_of_ble_eq_true rfl⟩ ⟨Nat.zero_le _, Nat.zero_le _⟩ dX5_factorFor_23 (fun H locs I => ?_)
    refine lv_if_eq (tgt := 38) hx hb dX5_factorFor_26 (by decide) (fun hc5 => ?_) (fun hc5 => ?_)
    · refine lv_iconst (v := (-1 : Int32)) hx hb dX5_factorFor_38 (by decide) ?_
      exact J2 _ _ _ (by rw [if_pos hc4, if_pos hc5]) I
    · refine lv_iload_n hx hb dX5_factorFor_29 rfl (lv_at hl 0 rfl) ?_
      refine lv_bipush (v := (119 : Int32)) hx hb dX5_factorFor_30 (by decide) ?_
      refine lv_isub hx hb dX5_factorFor_32 ?_
      refine lv_iconst (v := (4 : Int32)) hx hb dX5_factorFor_33 (by decide) ?_
      refine lv_iadd hx hb dX5_factorFor_34 ?_
      refine lv_goto (tgt := 39) hx hb dX5_factorFor_35 (by decide) ?_
      exact J2 _ _ _ (by rw [if_pos hc4, if_neg hc5]) I
  · refine lv_iload_n hx hb dX5_factorFor_11 rfl (lv_at hl 0 rfl) ?_
    refine lv_bipush (v := (97 : Int32)) hx hb dX5_factorFor_12 (by decide) ?_
    refine lv_isub hx hb dX5_factorFor_14 ?_
    refine lv_goto (tgt := 39) hx hb dX5_factorFor_15 (by decide) ?_
    exact J2 _ _ _ (by rw [if_neg hc4]) I
set_option maxHeartbeats 4000000 in
set_option maxRecDepth 100000 in
theorem c5_takes {l : Launch} {D : va_G} {g : Nat → ClassId} {a : Nat → Nat} {st : MS} {x91 : Int32} {o : MS × Int32} (h : f5_takes st x91 = some o) : ct l yX5_takes cX5_takes 4 (some .boolean) (rmk 2 42) D g (mW g a st) (mW g a o.1) [.ref (a 0), .int x91] (some (.int o.2)) := by
  refine ct_of ⟨rfl, rfl⟩ (by decide) (Nat.le_of_ble_eq_true rfl) ?_
  intro p e s m args below meth c ls Q A H0 H locs E I hl K
  have E : en p m c cX5_takes 4 s args RX5 D g := E
  have hx := E.1.1
  have hb := E.1.2.1
  have hl : lv_has ls 4 [(0, .ref (a 0)), (1, .int x91)] := hl
  have K : ∀ (pc : Nat) (ls : Array Slot) (H : Heap) (locs : List Loc), wk D (mW g a o.1) A H0 H locs → decode cX5_takes pc = .ok (.ireturn, 1) → zok o.2 = true → W p l e (rmk 2 42) s m args below meth c H locs 0 0 Q (F0 m pc ls [.int o.2]) := fun pc ls H locs I hd hz => K pc ls H locs I ⟨hd, hz⟩
  have h : ((if (f5_factorFor x91) = (-1 : Int32) then (lq (if (m_last st) = (-1 : Int32) then (0 : Int32) else (if (f5_within x91 (50 : Int32) (57 : Int32)) = 0 then (0 : Int32) else (1 : Int32))) fun x5 => (if x5 = 0 then (if zok x5 = true then some ((m_last_s st (-1 : Int32)), x5) else none) else (if ib (m_last st) 8 = true then (if ib (m_last st) 8 = true then (if zok x5 = true then some ((m_last_s (m_readTimes_s st (upd (m_readTimes st) (m_last st).toNatClampNeg (((m_readTimes st) (m_last st).toNatClampNeg) + (x91 - (49 : Int32))))) (-1 : Int32)), x5) else none) else none) else none))) else (if ib (f5_factorFor x91) 8 = true then (if ib (f5_factorFor x91) 8 = true then some ((m_last_s (m_readTimes_s st (upd (m_readTimes st) (f5_factorFor x91).toNatClampNeg (((m_readTimes st) (f5_factorFor x91).toNatClampNeg) + (1 : Int32)))) (f5_factorFor x91)), (1 : Int32)) else none) else none)) : Option (MS × Int32)) = some o := h
  refine lv_iload_n hx hb dX5_takes_0 rfl (lv_at hl 1 rfl) ?_
  refine r_callS1 (As := [.int x91]) (rest := []) E I hl.1 k5_171 (c5_factorFor rfl) rfl rfl (Nat.le_of_ble_eq_true rfl) ⟨Nat.le_of_ble_eq_true rfl, Nat.le_of_ble_eq_true rfl⟩ ⟨Nat.zero_le _, Nat.zero_le _⟩ dX5_takes_1 (fun H locs I => ?_)
  refine lv_istore_n (lv' := [(2, .int (f5_factorFor x91)), (0, .ref (a 0)), (1, .int x91)]) hx hb dX5_takes_4 rfl hl (by decide) rfl (fun ls hl => ?_)
  refine lv_iload_n hx hb dX5_takes_5 rfl (lv_at hl 0 rfl) ?_
  refine lv_iconst (v := (-1 : Int32)) hx hb dX5_takes_6 (by decide) ?_
  refine lv_icmp_eq (tgt := 27) hx hb dX5_takes_7 (by decide) (fun hc1 => ?_) (fun hc1 => ?_)
  · have h := ifp hc1 h
    refine lv_aload_n hx hb dX5_takes_27 rfl (lv_at hl 1 rfl) ?_
    refine g5_174 E I (v := (m_last st)) rfl dX5_takes_28 ?_
    refine lv_iconst (v := (-1 : Int32)) hx hb dX5_takes_31 (by decide) ?_
    have J3 : ∀ (v2 : Int32) (H : Heap) (locs : List Loc), v2 = (if (m_last st) = (-1 : Int32) then (0 : Int32) else (if (f5_within x91 (50 : Int32) (57 : Int32)) = 0 then (0 : Int32) else (1 : Int32))) → wk D (mW g a st) A H0 H locs → W p l e (rmk 2 42) s m args below meth c H locs 0 0 Q (F0 m 51 ls [.int v2]) := by
      intro v2 H locs hv4 I
      subst hv4
      obtain ⟨x5, hx6, h⟩ := lqx h
      refine lv_istore_n (x := (if (m_last st) = (-1 : Int32) then (0 : Int32) else (if (f5_within x91 (50 : Int32) (57 : Int32)) = 0 then (0 : Int32) else (1 : Int32)))) (lv' := [(3, .int x5), (2, .int (f5_factorFor x91)), (0, .ref (a 0)), (1, .int x91)]) hx hb dX5_takes_51 rfl hl (by decide) (by subst hx6; rfl) (fun ls hl => ?_)
      refine lv_iload_n hx hb dX5_takes_52 rfl (lv_at hl 0 rfl) ?_
      refine lv_if_eq (tgt := 72) hx hb dX5_takes_53 (by decide) (fun hc7 => ?_) (fun hc7 => ?_)
      · have h := ifp hc7 h
        refine lv_aload_n hx hb dX5_takes_72 rfl (lv_at hl 2 rfl) ?_
        refine lv_iconst (v := (-1 : Int32)) hx hb dX5_takes_73 (by decide) ?_
        refine p5_174 E I dX5_takes_74 (fun H locs I => ?_)
        refine lv_iload_n hx hb dX5_takes_77 rfl (lv_at hl 0 rfl) ?_
        obtain ⟨hc8, h⟩ := gd h
        cases h
        exact K _ _ _ _ I dX5_takes_78 hc8
      · have h := ifn hc7 h
        refine lv_aload_n hx hb dX5_takes_56 rfl (lv_at hl 2 rfl) ?_
        refine g5_47 E I dX5_takes_57 ?_
        refine lv_aload_n hx hb dX5_takes_60 rfl (lv_at hl 2 rfl) ?_
        refine g5_174 E I (v := (m_last st)) rfl dX5_takes_61 ?_
        refine lv_dup2_11 hx hb dX5_takes_64 rfl rfl ?_
        obtain ⟨hc9, h⟩ := gd h
        refine m_ld13 E I (f := (m_readTimes st)) rfl hc9 dX5_takes_65 ?_
        refine lv_iload_n hx hb dX5_takes_66 rfl (lv_at hl 3 rfl) ?_
        refine lv_bipush (v := (49 : Int32)) hx hb dX5_takes_67 (by decide) ?_
        refine lv_isub hx hb dX5_takes_69 ?_
        refine lv_iadd hx hb dX5_takes_70 ?_
        obtain ⟨hc10, h⟩ := gd h
        refine m_st13 E I (f := (m_readTimes st)) rfl hc10 dX5_takes_71 (fun H locs I => ?_)
        refine lv_aload_n hx hb dX5_takes_72 rfl (lv_at hl 2 rfl) ?_
        refine lv_iconst (v := (-1 : Int32)) hx hb dX5_takes_73 (by decide) ?_
        refine p5_174 E I dX5_takes_74 (fun H locs I => ?_)
        refine lv_iload_n hx hb dX5_takes_77 rfl (lv_at hl 0 rfl) ?_
        obtain ⟨hc11, h⟩ := gd h
        cases h
        exact K _ _ _ _ I dX5_takes_78 hc11
    refine lv_icmp_eq (tgt := 50) hx hb dX5_takes_32 (by decide) (fun hc12 => ?_) (fun hc12 => ?_)
    · refine lv_iconst (v := (0 : Int32)) hx hb dX5_takes_50 (by decide) ?_
      exact J3 _ _ _ (by rw [if_pos hc12]) I
    · refine lv_iload_n hx hb dX5_takes_35 rfl (lv_at hl 2 rfl) ?_
      refine lv_bipush (v := (50 : Int32)) hx hb dX5_takes_36 (by decide) ?_
      refine lv_bipush (v := (57 : Int32)) hx hb dX5_takes_38 (by decide) ?_
      refine r_callS1 (As := [.int x91, .int (50 : Int32), .int (57 : Int32)]) (rest := []) E I hl.1 k5_61 (c5_within rfl) rfl rfl (Nat.le_of_ble_eq_true rfl) ⟨Nat.le_of_ble_eq_true rfl, Nat.le_of_ble_eq_true rfl⟩ ⟨Nat.zero_le _, Nat.zero_le _⟩ dX5_takes_40 (fun H locs I => ?_)
      refine lv_if_eq (tgt := 50) hx hb dX5_takes_43 (by decide) (fun hc13 => ?_) (fun hc13 => ?_)
      · refine lv_iconst (v := (0 : Int32)) hx hb dX5_takes_50 (by decide) ?_
        exact J3 _ _ _ (by rw [if_neg hc12, if_pos hc13]) I
      · refine lv_iconst (v := (1 : Int32)) hx hb dX5_takes_46 (by decide) ?_
        refine lv_goto (tgt := 51) hx hb dX5_takes_47 (by decide) ?_
        exact J3 _ _ _ (by rw [if_neg hc12, if_neg hc13]) I
  · have h := ifn hc1 h
    refine lv_aload_n hx hb dX5_takes_10 rfl (lv_at hl 1 rfl) ?_
    refine g5_47 E I dX5_takes_11 ?_
    refine lv_iload_n hx hb dX5_takes_14 rfl (lv_at hl 0 rfl) ?_
    refine lv_dup2_11 hx hb dX5_takes_15 rfl rfl ?_
    obtain ⟨hc14, h⟩ := gd h
    refine m_ld13 E I (f := (m_readTimes st)) rfl hc14 dX5_takes_16 ?_
    refine lv_iconst (v := (1 : Int32)) hx hb dX5_takes_17 (by decide) ?_
    refine lv_iadd hx hb dX5_takes_18 ?_
    obtain ⟨hc15, h⟩ := gd h
    refine m_st13 E I (f := (m_readTimes st)) rfl hc15 dX5_takes_19 (fun H locs I => ?_)
    refine lv_aload_n hx hb dX5_takes_20 rfl (lv_at hl 1 rfl) ?_
    refine lv_iload_n hx hb dX5_takes_21 rfl (lv_at hl 0 rfl) ?_
    refine p5_174 E I dX5_takes_22 (fun H locs I => ?_)
    refine lv_iconst (v := (1 : Int32)) hx hb dX5_takes_25 (by decide) ?_
    cases h
    exact K _ _ _ _ I dX5_takes_26 rfl
set_option maxHeartbeats 4000000 in
set_option maxRecDepth 100000 in
theorem c5_rightUpTo {l : Launch} {D : va_G} {g : Nat → ClassId} {a : Nat → Nat} {st : MS} {o : MS × Int32} (h : f5_rightUpTo st = some o) : ct l yX5_rightUpTo cX5_rightUpTo 2 (some .int) (rmk 3 65) D g (mW g a st) (mW g a o.1) [.ref (a 0)] (some (.int o.2)) := by
  refine ct_of ⟨rfl, rfl⟩ (by decide) (Nat.le_of_ble_eq_true rfl) ?_
  intro p e s m args below meth c ls Q A H0 H locs E I hl K
  have E : en p m c cX5_rightUpTo 2 s args RX5 D g := E
  have hx := E.1.1
  have hb := E.1.2.1
  have hl : lv_has ls 2 [(0, .ref (a 0))] := hl
  have K : ∀ (pc : Nat) (ls : Array Slot) (H : Heap) (locs : List Loc), wk D (mW g a o.1) A H0 H locs → decode cX5_rightUpTo pc = .ok (.ireturn, 1) → W p l e (rmk 3 65) s m args below meth c H locs 0 0 Q (F0 m pc ls [.int o.2]) := fun pc ls H locs I hd => K pc ls H locs I hd
  have h : ((bi1 (wh (f5_rightUpTo_b2) FU (st, (0 : Int32))) fun w29 => (if (m_length w29) ≤ 0 then f5_rightUpTo_j46 (m_last_s w29 (-1 : Int32)) else (if ((m_text w29) (0 : Int32).toNatClampNeg) = (49 : Int32) then some ((m_last_s w29 (-1 : Int32)), (1 : Int32)) else f5_rightUpTo_j46 (m_last_s w29 (-1 : Int32))))) : Option (MS × Int32)) = some o := h
  refine lv_iconst (v := (0 : Int32)) hx hb dX5_rightUpTo_0 (by decide) ?_
  refine lv_istore_n (lv' := [(1, .int (0 : Int32)), (0, .ref (a 0))]) hx hb dX5_rightUpTo_1 rfl hl (by decide) rfl (fun ls hl => ?_)
  obtain ⟨z7, hw8, h⟩ := bx1 h
  refine wh_W (P := fun (z : MS × Int32) => ∀ (H : Heap) (locs : List Loc) (ls : Array Slot), wk D (mW g a z.1) A H0 H locs → lv_has ls 2 [(0, .ref (a 0)), (1, .int z.2)] → W p l e (rmk 3 65) s m args below meth c H locs 0 0 Q (F0 m 2 ls [])) (X := fun (z : MS) => ∀ (H : Heap) (locs : List Loc) (ls : Array Slot), wk D (mW g a z) A H0 H locs → lv_has ls 2 [(0, .ref (a 0))] → W p l e (rmk 3 65) s m args below meth c H locs 0 0 Q (F0 m 21 ls [])) ?_ FU _ _ hw8 ?_ _ _ _ I (lv_sub hl [1, 0] rfl)
  · intro z o3 h hk4 H locs ls I hl
    obtain ⟨st1, x2⟩ := z
    have h : ((if (8 : Int32) ≤ x2 then some (.inr st1) else (if ib x2 8 = true then some (.inl ((m_readTimes_s st1 (upd (m_readTimes st1) x2.toNatClampNeg (0 : Int32))), (x2 + 1))) else none)) : Option ((MS × Int32) ⊕ (MS))) = some o3 := h
    have I : wk D (mW g a st1) A H0 H locs := I
    have hl : lv_has ls 2 [(0, .ref (a 0)), (1, .int x2)] := hl
    refine lv_iload_n hx hb dX5_rightUpTo_2 rfl (lv_at hl 1 rfl) ?_
    refine lv_bipush (v := (8 : Int32)) hx hb dX5_rightUpTo_3 (by decide) ?_
    refine lv_icmp_ge (tgt := 21) hx hb dX5_rightUpTo_5 (by decide) (fun hc5 => ?_) (fun hc5 => ?_)
    · have h := ifp hc5 h
      cases h
      exact hk4 _ _ _ I (lv_sub hl [0] rfl)
    · have h := ifn hc5 h
      refine lv_aload_n hx hb dX5_rightUpTo_8 rfl (lv_at hl 0 rfl) ?_
      refine g5_47 E I dX5_rightUpTo_9 ?_
      refine lv_iload_n hx hb dX5_rightUpTo_12 rfl (lv_at hl 1 rfl) ?_
      refine lv_iconst (v := (0 : Int32)) hx hb dX5_rightUpTo_13 (by decide) ?_
      obtain ⟨hc6, h⟩ := gd h
      refine m_st13 E I (f := (m_readTimes st1)) rfl hc6 dX5_rightUpTo_14 (fun H locs I => ?_)
      refine lv_iinc (v := (x2 + 1)) (lv' := [(1, .int (x2 + 1)), (0, .ref (a 0))]) hx hb dX5_rightUpTo_15 hl (k := 1) rfl rfl (by decide) rfl (fun ls hl => ?_)
      refine lv_goto (tgt := 2) hx hb dX5_rightUpTo_18 (by decide) ?_
      cases h
      exact hk4 _ _ _ I (lv_sub hl [1, 0] rfl)
  · obtain ⟨st9, rfl⟩ : ∃ y, y = z7 := ⟨_, rfl⟩
    intro H locs ls I hl
    have h : ((if (m_length st9) ≤ 0 then f5_rightUpTo_j46 (m_last_s st9 (-1 : Int32)) else (if ((m_text st9) (0 : Int32).toNatClampNeg) = (49 : Int32) then some ((m_last_s st9 (-1 : Int32)), (1 : Int32)) else f5_rightUpTo_j46 (m_last_s st9 (-1 : Int32)))) : Option (MS × Int32)) = some o := h
    have I : wk D (mW g a st9) A H0 H locs := I
    have hl : lv_has ls 2 [(0, .ref (a 0))] := hl
    refine lv_aload_n hx hb dX5_rightUpTo_21 rfl (lv_at hl 0 rfl) ?_
    refine lv_iconst (v := (-1 : Int32)) hx hb dX5_rightUpTo_22 (by decide) ?_
    refine p5_174 E I dX5_rightUpTo_23 (fun H locs I => ?_)
    refine lv_aload_n hx hb dX5_rightUpTo_26 rfl (lv_at hl 0 rfl) ?_
    refine g5_168 E I (v := (m_length st9)) rfl dX5_rightUpTo_27 ?_
    have J10 : ∀ (st11 : MS), f5_rightUpTo_j46 st11 = some o → ∀ (H : Heap) (locs : List Loc) (ls : Array Slot), wk D (mW g a st11) A H0 H locs → lv_has ls 2 [(0, .ref (a 0))] → W p l e (rmk 3 65) s m args below meth c H locs 0 0 Q (F0 m 46 ls []) := by
      intro st11 h H locs ls I hl
      have h : ((bi1 (wh (f5_rightUpTo_b48) FU (st11, (0 : Int32))) fun w26 => some (w26.1, w26.2)) : Option (MS × Int32)) = some o := h
      refine lv_iconst (v := (0 : Int32)) hx hb dX5_rightUpTo_46 (by decide) ?_
      refine lv_istore_n (lv' := [(1, .int (0 : Int32)), (0, .ref (a 0))]) hx hb dX5_rightUpTo_47 rfl hl (by decide) rfl (fun ls hl => ?_)
      obtain ⟨z22, hw23, h⟩ := bx1 h
      refine wh_W (P := fun (z : MS × Int32) => ∀ (H : Heap) (locs : List Loc) (ls : Array Slot), wk D (mW g a z.1) A H0 H locs → lv_has ls 2 [(0, .ref (a 0)), (1, .int z.2)] → W p l e (rmk 3 65) s m args below meth c H locs 0 0 Q (F0 m 48 ls [])) (X := fun (z : MS × Int32) => ∀ (H : Heap) (locs : List Loc) (ls : Array Slot), wk D (mW g a z.1) A H0 H locs → lv_has ls 2 [(1, .int z.2)] → W p l e (rmk 3 65) s m args below meth c H locs 0 0 Q (F0 m 75 ls [])) ?_ FU _ _ hw23 ?_ _ _ _ I (lv_sub hl [1, 0] rfl)
      · intro z o14 h hk15 H locs ls I hl
        obtain ⟨st12, x13⟩ := z
        have h : ((if (m_length st12) ≤ x13 then some (.inr (st12, x13)) else (if ib x13 60 = true then (bi2 (f5_takes st12 ((m_text st12) x13.toNatClampNeg)) fun st19 r20 => (if r20 = 0 then some (.inr (st19, x13)) else some (.inl (st19, (x13 + 1))))) else none)) : Option ((MS × Int32) ⊕ (MS × Int32))) = some o14 := h
        have I : wk D (mW g a st12) A H0 H locs := I
        have hl : lv_has ls 2 [(0, .ref (a 0)), (1, .int x13)] := hl
        refine lv_iload_n hx hb dX5_rightUpTo_48 rfl (lv_at hl 1 rfl) ?_
        refine lv_aload_n hx hb dX5_rightUpTo_49 rfl (lv_at hl 0 rfl) ?_
        refine g5_168 E I (v := (m_length st12)) rfl dX5_rightUpTo_50 ?_
        refine lv_icmp_ge (tgt := 75) hx hb dX5_rightUpTo_53 (by decide) (fun hc16 => ?_) (fun hc16 => ?_)
        · have h := ifp hc16 h
          cases h
          exact hk15 _ _ _ I (lv_sub hl [1] rfl)
        · have h := ifn hc16 h
          refine lv_aload_n hx hb dX5_rightUpTo_56 rfl (lv_at hl 0 rfl) ?_
          refine lv_aload_n hx hb dX5_rightUpTo_57 rfl (lv_at hl 0 rfl) ?_
          refine g5_22 E I dX5_rightUpTo_58 ?_
          refine lv_iload_n hx hb dX5_rightUpTo_61 rfl (lv_at hl 1 rfl) ?_
          obtain ⟨hc17, h⟩ := gd h
          refine m_ld5 E I (f := (m_text st12)) rfl hc17 dX5_rightUpTo_62 ?_
          obtain ⟨st19, r20, hc18, h⟩ := bx2 h
          refine r_callV1 (As := [.int ((m_text st12) x13.toNatClampNeg)]) (rest := []) (ws' := (mW g a st19)) (q0 := 0) E I hl.1 k5_177 (c5_takes hc18) mW_k rfl rfl rfl rfl (Nat.le_of_ble_eq_true rfl) ⟨Nat.le_of_ble_eq_true rfl, Nat.le_of_ble_eq_true rfl⟩ ⟨Nat.zero_le _, Nat.zero_le _⟩ dX5_rightUpTo_63 (fun H locs I => ?_)
          refine lv_if_eq (tgt := 75) hx hb dX5_rightUpTo_66 (by decide) (fun hc21 => ?_) (fun hc21 => ?_)
          · have h := ifp hc21 h
            cases h
            exact hk15 _ _ _ I (lv_sub hl [1] rfl)
          · have h := ifn hc21 h
            refine lv_iinc (v := (x13 + 1)) (lv' := [(1, .int (x13 + 1)), (0, .ref (a 0))]) hx hb dX5_rightUpTo_69 hl (k := 1) rfl rfl (by decide) rfl (fun ls hl => ?_)
            refine lv_goto (tgt := 48) hx hb dX5_rightUpTo_72 (by decide) ?_
            cases h
            exact hk15 _ _ _ I (lv_sub hl [1, 0] rfl)
      · obtain ⟨st24, x25⟩ := z22
        intro H locs ls I hl
        have h : (some (st24, x25) : Option (MS × Int32)) = some o := h
        have I : wk D (mW g a st24) A H0 H locs := I
        have hl : lv_has ls 2 [(1, .int x25)] := hl
        refine lv_iload_n hx hb dX5_rightUpTo_75 rfl (lv_at hl 0 rfl) ?_
        cases h
        exact K _ _ _ _ I dX5_rightUpTo_76
    refine lv_if_le (tgt := 46) hx hb dX5_rightUpTo_30 (by decide) (fun hc27 => ?_) (fun hc27 => ?_)
    · have h := ifp hc27 h
      exact J10 _ h _ _ _ I (lv_sub hl [0] rfl)
    · have h := ifn hc27 h
      refine lv_aload_n hx hb dX5_rightUpTo_33 rfl (lv_at hl 0 rfl) ?_
      refine g5_22 E I dX5_rightUpTo_34 ?_
      refine lv_iconst (v := (0 : Int32)) hx hb dX5_rightUpTo_37 (by decide) ?_
      refine m_ld5 E I (f := (m_text st9)) rfl (by decide) dX5_rightUpTo_38 ?_
      refine lv_bipush (v := (49 : Int32)) hx hb dX5_rightUpTo_39 (by decide) ?_
      refine lv_icmp_ne (tgt := 46) hx hb dX5_rightUpTo_41 (by decide) (fun hc28 => ?_) (fun hc28 => ?_)
      · have h := ifn hc28 h
        exact J10 _ h _ _ _ I (lv_sub hl [0] rfl)
      · have h := ifp hc28 h
        refine lv_iconst (v := (1 : Int32)) hx hb dX5_rightUpTo_44 (by decide) ?_
        cases h
        exact K _ _ _ _ I dX5_rightUpTo_45
set_option maxHeartbeats 4000000 in
set_option maxRecDepth 100000 in
theorem c5_firstError {l : Launch} {D : va_G} {g : Nat → ClassId} {a : Nat → Nat} {st : MS} {o : MS × Int32} (h : f5_firstError st = some o) : ct l yX5_firstError cX5_firstError 1 (some .int) (rmk 4 86) D g (mW g a st) (mW g a o.1) [.ref (a 0)] (some (.int o.2)) := by
  refine ct_of ⟨rfl, rfl⟩ (by decide) (Nat.le_of_ble_eq_true rfl) ?_
  intro p e s m args below meth c ls Q A H0 H locs E I hl K
  have E : en p m c cX5_firstError 1 s args RX5 D g := E
  have hx := E.1.1
  have hb := E.1.2.1
  have hl : lv_has ls 1 [(0, .ref (a 0))] := hl
  have K : ∀ (pc : Nat) (ls : Array Slot) (H : Heap) (locs : List Loc), wk D (mW g a o.1) A H0 H locs → decode cX5_firstError pc = .ok (.ireturn, 1) → W p l e (rmk 4 86) s m args below meth c H locs 0 0 Q (F0 m pc ls [.int o.2]) := fun pc ls H locs I hd => K pc ls H locs I hd
  have h : ((bi2 (f5_rightUpTo (m_thrown_s st (0 : Int32))) fun st2 r3 => some (st2, r3)) : Option (MS × Int32)) = some o := h
  refine lv_aload_n hx hb dX5_firstError_0 rfl (lv_at hl 0 rfl) ?_
  refine lv_iconst (v := (0 : Int32)) hx hb dX5_firstError_1 (by decide) ?_
  refine p5_50 E I dX5_firstError_2 (fun H locs I => ?_)
  refine lv_aload_n hx hb dX5_firstError_5 rfl (lv_at hl 0 rfl) ?_
  obtain ⟨st2, r3, hc1, h⟩ := bx2 h
  refine r_callV1 (As := []) (rest := []) (ws' := (mW g a st2)) (q0 := 0) E I hl.1 k5_180 (c5_rightUpTo hc1) mW_k rfl rfl rfl rfl (Nat.le_of_ble_eq_true rfl) ⟨Nat.le_of_ble_eq_true rfl, Nat.le_of_ble_eq_true rfl⟩ ⟨Nat.zero_le _, Nat.zero_le _⟩ dX5_firstError_6 (fun H locs I => ?_)
  cases h
  exact K _ _ _ _ I dX5_firstError_9
set_option maxHeartbeats 4000000 in
set_option maxRecDepth 100000 in
theorem c5_areWithin {l : Launch} {D : va_G} {g : Nat → ClassId} {a : Nat → Nat} {st : MS} {x91 : Int32} {o : Int32} (h : f5_areWithin st x91 = some o) : ct l yX5_areWithin cX5_areWithin 4 (some .boolean) (rmk 1 21) D g (mW g a st) (mW g a st) [.ref (a 0), .int x91] (some (.int o)) := by
  refine ct_of ⟨rfl, rfl⟩ (by decide) (Nat.le_of_ble_eq_true rfl) ?_
  intro p e s m args below meth c ls Q A H0 H locs E I hl K
  have E : en p m c cX5_areWithin 4 s args RX5 D g := E
  have hx := E.1.1
  have hb := E.1.2.1
  have hl : lv_has ls 4 [(0, .ref (a 0)), (1, .int x91)] := hl
  have K : ∀ (pc : Nat) (ls : Array Slot) (H : Heap) (locs : List Loc), wk D (mW g a st) A H0 H locs → decode cX5_areWithin pc = .ok (.ireturn, 1) → zok o = true → W p l e (rmk 1 21) s m args below meth c H locs 0 0 Q (F0 m pc ls [.int o]) := fun pc ls H locs I hd hz => K pc ls H locs I ⟨hd, hz⟩
  have h : ((bi1 (wh (f5_areWithin_b4 st x91) FU ((1 : Int32), (0 : Int32))) fun w20 => (if zok w20 = true then some w20 else none)) : Option Int32) = some o := h
  refine lv_iconst (v := (1 : Int32)) hx hb dX5_areWithin_0 (by decide) ?_
  refine lv_istore_n (lv' := [(2, .int (1 : Int32)), (0, .ref (a 0)), (1, .int x91)]) hx hb dX5_areWithin_1 rfl hl (by decide) rfl (fun ls hl => ?_)
  refine lv_iconst (v := (0 : Int32)) hx hb dX5_areWithin_2 (by decide) ?_
  refine lv_istore_n (lv' := [(3, .int (0 : Int32)), (2, .int (1 : Int32)), (0, .ref (a 0)), (1, .int x91)]) hx hb dX5_areWithin_3 rfl hl (by decide) rfl (fun ls hl => ?_)
  obtain ⟨z16, hw17, h⟩ := bx1 h
  refine wh_W (P := fun (z : Int32 × Int32) => ∀ (H : Heap) (locs : List Loc) (ls : Array Slot), wk D (mW g a st) A H0 H locs → lv_has ls 4 [(0, .ref (a 0)), (1, .int x91), (2, .int z.1), (3, .int z.2)] → W p l e (rmk 1 21) s m args below meth c H locs 0 0 Q (F0 m 4 ls [])) (X := fun (z : Int32) => ∀ (H : Heap) (locs : List Loc) (ls : Array Slot), wk D (mW g a st) A H0 H locs → lv_has ls 4 [(2, .int z)] → W p l e (rmk 1 21) s m args below meth c H locs 0 0 Q (F0 m 40 ls [])) ?_ FU _ _ hw17 ?_ _ _ _ I (lv_sub hl [2, 3, 1, 0] rfl)
  · intro z o5 h hk6 H locs ls I hl
    obtain ⟨x3, x4⟩ := z
    have h : ((if (8 : Int32) ≤ x4 then some (.inr x3) else (if x3 = 0 then some (.inl ((0 : Int32), (x4 + 1))) else (if ib x4 8 = true then (lq (if (f5_limit x91 x4) < ((m_readTimes st) x4.toNatClampNeg) then (0 : Int32) else (1 : Int32)) fun x13 => some (.inl (x13, (x4 + 1)))) else none))) : Option ((Int32 × Int32) ⊕ (Int32))) = some o5 := h
    have I : wk D (mW g a st) A H0 H locs := I
    have hl : lv_has ls 4 [(0, .ref (a 0)), (1, .int x91), (2, .int x3), (3, .int x4)] := hl
    refine lv_iload_n hx hb dX5_areWithin_4 rfl (lv_at hl 3 rfl) ?_
    refine lv_bipush (v := (8 : Int32)) hx hb dX5_areWithin_5 (by decide) ?_
    refine lv_icmp_ge (tgt := 40) hx hb dX5_areWithin_7 (by decide) (fun hc7 => ?_) (fun hc7 => ?_)
    · have h := ifp hc7 h
      cases h
      exact hk6 _ _ _ I (lv_sub hl [2] rfl)
    · have h := ifn hc7 h
      refine lv_iload_n hx hb dX5_areWithin_10 rfl (lv_at hl 2 rfl) ?_
      refine lv_if_eq (tgt := 32) hx hb dX5_areWithin_11 (by decide) (fun hc8 => ?_) (fun hc8 => ?_)
      · have h := ifp hc8 h
        refine lv_iconst (v := (0 : Int32)) hx hb dX5_areWithin_32 (by decide) ?_
        refine lv_istore_n (lv' := [(2, .int (0 : Int32)), (0, .ref (a 0)), (1, .int x91), (3, .int x4)]) hx hb dX5_areWithin_33 rfl hl (by decide) rfl (fun ls hl => ?_)
        refine lv_iinc (v := (x4 + 1)) (lv' := [(3, .int (x4 + 1)), (2, .int (0 : Int32)), (0, .ref (a 0)), (1, .int x91)]) hx hb dX5_areWithin_34 hl (k := 3) rfl rfl (by decide) rfl (fun ls hl => ?_)
        refine lv_goto (tgt := 4) hx hb dX5_areWithin_37 (by decide) ?_
        cases h
        exact hk6 _ _ _ I (lv_sub hl [2, 3, 1, 0] rfl)
      · have h := ifn hc8 h
        refine lv_aload_n hx hb dX5_areWithin_14 rfl (lv_at hl 0 rfl) ?_
        refine g5_47 E I dX5_areWithin_15 ?_
        refine lv_iload_n hx hb dX5_areWithin_18 rfl (lv_at hl 3 rfl) ?_
        obtain ⟨hc9, h⟩ := gd h
        refine m_ld13 E I (f := (m_readTimes st)) rfl hc9 dX5_areWithin_19 ?_
        refine lv_iload_n hx hb dX5_areWithin_20 rfl (lv_at hl 1 rfl) ?_
        refine lv_iload_n hx hb dX5_areWithin_21 rfl (lv_at hl 3 rfl) ?_
        refine r_callS1 (As := [.int x91, .int x4]) (rest := [.int ((m_readTimes st) x4.toNatClampNeg)]) E I hl.1 k5_145 (c5_limit rfl) rfl rfl (Nat.le_of_ble_eq_true rfl) ⟨Nat.le_of_ble_eq_true rfl, Nat.le_of_ble_eq_true rfl⟩ ⟨Nat.zero_le _, Nat.zero_le _⟩ dX5_areWithin_22 (fun H locs I => ?_)
        have J11 : ∀ (v10 : Int32) (H : Heap) (locs : List Loc), v10 = (if (f5_limit x91 x4) < ((m_readTimes st) x4.toNatClampNeg) then (0 : Int32) else (1 : Int32)) → wk D (mW g a st) A H0 H locs → W p l e (rmk 1 21) s m args below meth c H locs 0 0 Q (F0 m 33 ls [.int v10]) := by
          intro v10 H locs hv12 I
          subst hv12
          obtain ⟨x13, hx14, h⟩ := lqx h
          refine lv_istore_n (x := (if (f5_limit x91 x4) < ((m_readTimes st) x4.toNatClampNeg) then (0 : Int32) else (1 : Int32))) (lv' := [(2, .int x13), (0, .ref (a 0)), (1, .int x91), (3, .int x4)]) hx hb dX5_areWithin_33 rfl hl (by decide) (by subst hx14; rfl) (fun ls hl => ?_)
          refine lv_iinc (v := (x4 + 1)) (lv' := [(3, .int (x4 + 1)), (2, .int x13), (0, .ref (a 0)), (1, .int x91)]) hx hb dX5_areWithin_34 hl (k := 3) rfl rfl (by decide) rfl (fun ls hl => ?_)
          refine lv_goto (tgt := 4) hx hb dX5_areWithin_37 (by decide) ?_
          cases h
          exact hk6 _ _ _ I (lv_sub hl [2, 3, 1, 0] rfl)
        refine lv_icmp_gt (tgt := 32) hx hb dX5_areWithin_25 (by decide) (fun hc15 => ?_) (fun hc15 => ?_)
        · refine lv_iconst (v := (0 : Int32)) hx hb dX5_areWithin_32 (by decide) ?_
          exact J11 _ _ _ (by rw [if_pos hc15]) I
        · refine lv_iconst (v := (1 : Int32)) hx hb dX5_areWithin_28 (by decide) ?_
          refine lv_goto (tgt := 33) hx hb dX5_areWithin_29 (by decide) ?_
          exact J11 _ _ _ (by rw [if_neg hc15]) I
  · obtain ⟨x18, rfl⟩ : ∃ y, y = z16 := ⟨_, rfl⟩
    intro H locs ls I hl
    have h : ((if zok x18 = true then some x18 else none) : Option Int32) = some o := h
    have I : wk D (mW g a st) A H0 H locs := I
    have hl : lv_has ls 4 [(2, .int x18)] := hl
    refine lv_iload_n hx hb dX5_areWithin_40 rfl (lv_at hl 0 rfl) ?_
    obtain ⟨hc19, h⟩ := gd h
    cases h
    exact K _ _ _ _ I dX5_areWithin_41 hc19
set_option maxHeartbeats 4000000 in
set_option maxRecDepth 100000 in
theorem c5_read {l : Launch} {D : va_G} {g : Nat → ClassId} {a : Nat → Nat} {st : MS} {x91 : Int32} {o : MS × Int32} (h : f5_read st x91 = some o) : ct l yX5_read cX5_read 4 (some .int) (rmk 4 86) D g (mW g a st) (mW g a o.1) [.ref (a 0), .int x91] (some (.int o.2)) := by
  refine ct_of ⟨rfl, rfl⟩ (by decide) (Nat.le_of_ble_eq_true rfl) ?_
  intro p e s m args below meth c ls Q A H0 H locs E I hl K
  have E : en p m c cX5_read 4 s args RX5 D g := E
  have hx := E.1.1
  have hb := E.1.2.1
  have hl : lv_has ls 4 [(0, .ref (a 0)), (1, .int x91)] := hl
  have K : ∀ (pc : Nat) (ls : Array Slot) (H : Heap) (locs : List Loc), wk D (mW g a o.1) A H0 H locs → decode cX5_read pc = .ok (.ireturn, 1) → W p l e (rmk 4 86) s m args below meth c H locs 0 0 Q (F0 m pc ls [.int o.2]) := fun pc ls H locs I hd => K pc ls H locs I hd
  have h : ((bi2 (f5_rightUpTo st) fun st2 r3 => (if r3 = (m_length st2) then (if (m_length st2) ≤ 0 then f5_read_j23 st2 x91 (0 : Int32) else f5_read_j23 st2 x91 (1 : Int32)) else f5_read_j23 st2 x91 (0 : Int32))) : Option (MS × Int32)) = some o := h
  refine lv_aload_n hx hb dX5_read_0 rfl (lv_at hl 0 rfl) ?_
  obtain ⟨st2, r3, hc1, h⟩ := bx2 h
  refine r_callV1 (As := []) (rest := []) (ws' := (mW g a st2)) (q0 := 0) E I hl.1 k5_180 (c5_rightUpTo hc1) mW_k rfl rfl rfl rfl (Nat.le_of_ble_eq_true rfl) ⟨Nat.le_of_ble_eq_true rfl, Nat.le_of_ble_eq_true rfl⟩ ⟨Nat.zero_le _, Nat.zero_le _⟩ dX5_read_1 (fun H locs I => ?_)
  refine lv_aload_n hx hb dX5_read_4 rfl (lv_at hl 0 rfl) ?_
  refine g5_168 E I (v := (m_length st2)) rfl dX5_read_5 ?_
  have J4 : ∀ (st5 : MS) (x6 : Int32) (y7 : Int32), f5_read_j23 st5 x6 y7 = some o → ∀ (H : Heap) (locs : List Loc) (ls : Array Slot), wk D (mW g a st5) A H0 H locs → lv_has ls 4 [(0, .ref (a 0)), (1, .int x6)] → W p l e (rmk 4 86) s m args below meth c H locs 0 0 Q (F0 m 23 ls [.int y7]) := by
    intro st5 x6 y7 h H locs ls I hl
    have h : ((if (f5_isProduct x6) = 0 then f5_read_j57 st5 x6 (1 : Int32) else (if y7 = 0 then f5_read_j57 st5 x6 (2 : Int32) else (bi1 (f5_areWithin st5 x6) fun r32 => (if r32 = 0 then f5_read_j57 st5 x6 (3 : Int32) else f5_read_j57 st5 x6 (0 : Int32))))) : Option (MS × Int32)) = some o := h
    refine lv_istore_n (lv' := [(2, .int y7), (0, .ref (a 0)), (1, .int x6)]) hx hb dX5_read_23 rfl hl (by decide) rfl (fun ls hl => ?_)
    refine lv_aload_n hx hb dX5_read_24 rfl (lv_at hl 1 rfl) ?_
    refine lv_iload_n hx hb dX5_read_25 rfl (lv_at hl 2 rfl) ?_
    refine r_callS1 (As := [.int x6]) (rest := [.ref (a 0)]) E I hl.1 k5_133 (c5_isProduct rfl) rfl rfl (Nat.le_of_ble_eq_true rfl) ⟨Nat.le_of_ble_eq_true rfl, Nat.le_of_ble_eq_true rfl⟩ ⟨Nat.zero_le _, Nat.zero_le _⟩ dX5_read_26 (fun H locs I => ?_)
    have J8 : ∀ (st9 : MS) (x10 : Int32) (y11 : Int32), f5_read_j57 st9 x10 y11 = some o → ∀ (H : Heap) (locs : List Loc) (ls : Array Slot), wk D (mW g a st9) A H0 H locs → lv_has ls 4 [(0, .ref (a 0)), (1, .int x10)] → W p l e (rmk 4 86) s m args below meth c H locs 0 0 Q (F0 m 57 ls [.int y11, .ref (a 0)]) := by
      intro st9 x10 y11 h H locs ls I hl
      have h : ((if y11 ≤ 0 then (bi1 (f5_save (m_thrown_s st9 y11)) fun st14 => (bi1 (wh (f5_read_b80 x10) FU ((m_length_s st14 (0 : Int32)), (0 : Int32))) fun w28 => (bi1 (f5_factorsOf w28 x10) fun r27 => some (w28, r27)))) else some ((m_thrown_s st9 y11), (0 : Int32))) : Option (MS × Int32)) = some o := h
      refine p5_50 E I dX5_read_57 (fun H locs I => ?_)
      refine lv_aload_n hx hb dX5_read_60 rfl (lv_at hl 0 rfl) ?_
      refine g5_50 E I (v := y11) rfl dX5_read_61 ?_
      refine lv_if_le (tgt := 69) hx hb dX5_read_64 (by decide) (fun hc12 => ?_) (fun hc12 => ?_)
      · have h := ifp hc12 h
        refine lv_aload_n hx hb dX5_read_69 rfl (lv_at hl 0 rfl) ?_
        obtain ⟨st14, hc13, h⟩ := bx1 h
        refine r_callV0 (As := []) (rest := []) (ws' := (mW g a st14)) (q0 := 0) E I hl.1 k5_139 (c5_save hc13) mW_k rfl rfl rfl rfl (Nat.le_of_ble_eq_true rfl) ⟨Nat.le_of_ble_eq_true rfl, Nat.le_of_ble_eq_true rfl⟩ ⟨Nat.zero_le _, Nat.zero_le _⟩ dX5_read_70 (fun H locs I => ?_)
        refine lv_aload_n hx hb dX5_read_73 rfl (lv_at hl 0 rfl) ?_
        refine lv_iconst (v := (0 : Int32)) hx hb dX5_read_74 (by decide) ?_
        refine p5_168 E I dX5_read_75 (fun H locs I => ?_)
        refine lv_iconst (v := (0 : Int32)) hx hb dX5_read_78 (by decide) ?_
        refine lv_istore_n (lv' := [(3, .int (0 : Int32)), (0, .ref (a 0)), (1, .int x10)]) hx hb dX5_read_79 rfl hl (by decide) rfl (fun ls hl => ?_)
        obtain ⟨z23, hw24, h⟩ := bx1 h
        refine wh_W (P := fun (z : MS × Int32) => ∀ (H : Heap) (locs : List Loc) (ls : Array Slot), wk D (mW g a z.1) A H0 H locs → lv_has ls 4 [(0, .ref (a 0)), (1, .int x10), (3, .int z.2)] → W p l e (rmk 4 86) s m args below meth c H locs 0 0 Q (F0 m 80 ls [])) (X := fun (z : MS) => ∀ (H : Heap) (locs : List Loc) (ls : Array Slot), wk D (mW g a z) A H0 H locs → lv_has ls 4 [(0, .ref (a 0)), (1, .int x10)] → W p l e (rmk 4 86) s m args below meth c H locs 0 0 Q (F0 m 109 ls [])) ?_ FU _ _ hw24 ?_ _ _ _ I (lv_sub hl [1, 2, 0] rfl)
        · intro z o18 h hk19 H locs ls I hl
          obtain ⟨st15, x17⟩ := z
          have h : ((if (8 : Int32) ≤ x17 then some (.inr st15) else (if ib x17 8 = true then (if ib (((8 : Int32) * x10) + x17) 26 = true then some (.inl ((m_z_s st15 (upd (m_z st15) (((8 : Int32) * x10) + x17).toNatClampNeg ((m_readTimes st15) x17.toNatClampNeg))), (x17 + 1))) else none) else none)) : Option ((MS × Int32) ⊕ (MS))) = some o18 := h
          have I : wk D (mW g a st15) A H0 H locs := I
          have hl : lv_has ls 4 [(0, .ref (a 0)), (1, .int x10), (3, .int x17)] := hl
          refine lv_iload_n hx hb dX5_read_80 rfl (lv_at hl 2 rfl) ?_
          refine lv_bipush (v := (8 : Int32)) hx hb dX5_read_81 (by decide) ?_
          refine lv_icmp_ge (tgt := 109) hx hb dX5_read_83 (by decide) (fun hc20 => ?_) (fun hc20 => ?_)
          · have h := ifp hc20 h
            cases h
            exact hk19 _ _ _ I (lv_sub hl [0, 1] rfl)
          · have h := ifn hc20 h
            refine lv_aload_n hx hb dX5_read_86 rfl (lv_at hl 0 rfl) ?_
            refine g5_7 E I dX5_read_87 ?_
            refine lv_bipush (v := (8 : Int32)) hx hb dX5_read_90 (by decide) ?_
            refine lv_iload_n hx hb dX5_read_92 rfl (lv_at hl 1 rfl) ?_
            refine lv_imul hx hb dX5_read_93 ?_
            refine lv_iload_n hx hb dX5_read_94 rfl (lv_at hl 2 rfl) ?_
            refine lv_iadd hx hb dX5_read_95 ?_
            refine lv_aload_n hx hb dX5_read_96 rfl (lv_at hl 0 rfl) ?_
            refine g5_47 E I dX5_read_97 ?_
            refine lv_iload_n hx hb dX5_read_100 rfl (lv_at hl 2 rfl) ?_
            obtain ⟨hc21, h⟩ := gd h
            refine m_ld13 E I (f := (m_readTimes st15)) rfl hc21 dX5_read_101 ?_
            obtain ⟨hc22, h⟩ := gd h
            refine m_st1 E I (f := (m_z st15)) rfl hc22 dX5_read_102 (fun H locs I => ?_)
            refine lv_iinc (v := (x17 + 1)) (lv' := [(3, .int (x17 + 1)), (0, .ref (a 0)), (1, .int x10)]) hx hb dX5_read_103 hl (k := 2) rfl rfl (by decide) rfl (fun ls hl => ?_)
            refine lv_goto (tgt := 80) hx hb dX5_read_106 (by decide) ?_
            cases h
            exact hk19 _ _ _ I (lv_sub hl [1, 2, 0] rfl)
        · obtain ⟨st25, rfl⟩ : ∃ y, y = z23 := ⟨_, rfl⟩
          intro H locs ls I hl
          have h : ((bi1 (f5_factorsOf st25 x10) fun r27 => some (st25, r27)) : Option (MS × Int32)) = some o := h
          have I : wk D (mW g a st25) A H0 H locs := I
          have hl : lv_has ls 4 [(0, .ref (a 0)), (1, .int x10)] := hl
          refine lv_aload_n hx hb dX5_read_109 rfl (lv_at hl 0 rfl) ?_
          refine lv_iload_n hx hb dX5_read_110 rfl (lv_at hl 1 rfl) ?_
          obtain ⟨r27, hc26, h⟩ := bx1 h
          refine r_callV1 (As := [.int x10]) (rest := []) (ws' := (mW g a st25)) (q0 := 0) E I hl.1 k5_151 (c5_factorsOf hc26) mW_k rfl rfl rfl rfl (Nat.le_of_ble_eq_true rfl) ⟨Nat.le_of_ble_eq_true rfl, Nat.le_of_ble_eq_true rfl⟩ ⟨Nat.zero_le _, Nat.zero_le _⟩ dX5_read_111 (fun H locs I => ?_)
          cases h
          exact K _ _ _ _ I dX5_read_114
      · have h := ifn hc12 h
        refine lv_iconst (v := (0 : Int32)) hx hb dX5_read_67 (by decide) ?_
        cases h
        exact K _ _ _ _ I dX5_read_68
    refine lv_if_ne (tgt := 36) hx hb dX5_read_29 (by decide) (fun hc29 => ?_) (fun hc29 => ?_)
    · have h := ifn hc29 h
      refine lv_iload_n hx hb dX5_read_36 rfl (lv_at hl 0 rfl) ?_
      refine lv_if_ne (tgt := 44) hx hb dX5_read_37 (by decide) (fun hc30 => ?_) (fun hc30 => ?_)
      · have h := ifn hc30 h
        refine lv_aload_n hx hb dX5_read_44 rfl (lv_at hl 1 rfl) ?_
        refine lv_iload_n hx hb dX5_read_45 rfl (lv_at hl 2 rfl) ?_
        obtain ⟨r32, hc31, h⟩ := bx1 h
        refine r_callV1 (As := [.int x6]) (rest := [.ref (a 0)]) (ws' := (mW g a st5)) (q0 := 0) E I hl.1 k5_183 (c5_areWithin hc31) mW_k rfl rfl rfl rfl (Nat.le_of_ble_eq_true rfl) ⟨Nat.le_of_ble_eq_true rfl, Nat.le_of_ble_eq_true rfl⟩ ⟨Nat.zero_le _, Nat.zero_le _⟩ dX5_read_46 (fun H locs I => ?_)
        refine lv_if_eq (tgt := 56) hx hb dX5_read_49 (by decide) (fun hc33 => ?_) (fun hc33 => ?_)
        · have h := ifp hc33 h
          refine lv_iconst (v := (3 : Int32)) hx hb dX5_read_56 (by decide) ?_
          exact J8 _ _ _ h _ _ _ I (lv_sub hl [1, 2] rfl)
        · have h := ifn hc33 h
          refine lv_iconst (v := (0 : Int32)) hx hb dX5_read_52 (by decide) ?_
          refine lv_goto (tgt := 57) hx hb dX5_read_53 (by decide) ?_
          exact J8 _ _ _ h _ _ _ I (lv_sub hl [1, 2] rfl)
      · have h := ifp hc30 h
        refine lv_iconst (v := (2 : Int32)) hx hb dX5_read_40 (by decide) ?_
        refine lv_goto (tgt := 57) hx hb dX5_read_41 (by decide) ?_
        exact J8 _ _ _ h _ _ _ I (lv_sub hl [1, 2] rfl)
    · have h := ifp hc29 h
      refine lv_iconst (v := (1 : Int32)) hx hb dX5_read_32 (by decide) ?_
      refine lv_goto (tgt := 57) hx hb dX5_read_33 (by decide) ?_
      exact J8 _ _ _ h _ _ _ I (lv_sub hl [1, 2] rfl)
  refine lv_icmp_ne (tgt := 22) hx hb dX5_read_8 (by decide) (fun hc34 => ?_) (fun hc34 => ?_)
  · have h := ifn hc34 h
    refine lv_iconst (v := (0 : Int32)) hx hb dX5_read_22 (by decide) ?_
    exact J4 _ _ _ h _ _ _ I (lv_sub hl [0, 1] rfl)
  · have h := ifp hc34 h
    refine lv_aload_n hx hb dX5_read_11 rfl (lv_at hl 0 rfl) ?_
    refine g5_168 E I (v := (m_length st2)) rfl dX5_read_12 ?_
    refine lv_if_le (tgt := 22) hx hb dX5_read_15 (by decide) (fun hc35 => ?_) (fun hc35 => ?_)
    · have h := ifp hc35 h
      refine lv_iconst (v := (0 : Int32)) hx hb dX5_read_22 (by decide) ?_
      exact J4 _ _ _ h _ _ _ I (lv_sub hl [0, 1] rfl)
    · have h := ifn hc35 h
      refine lv_iconst (v := (1 : Int32)) hx hb dX5_read_18 (by decide) ?_
      refine lv_goto (tgt := 23) hx hb dX5_read_19 (by decide) ?_
      exact J4 _ _ _ h _ _ _ I (lv_sub hl [0, 1] rfl)
set_option maxHeartbeats 4000000 in
set_option maxRecDepth 100000 in
theorem c5_isSnapshot {l : Launch} {D : va_G} {g : Nat → ClassId} {x90 : Int32} {o : Int32} (h : f5_isSnapshot x90 = o) : ct l yX5_isSnapshot cX5_isSnapshot 1 (some .boolean) (rmk 1 22) D g [] [] [.int x90] (some (.int o)) := by
  refine ct_of ⟨rfl, rfl⟩ (by decide) (Nat.le_of_ble_eq_true rfl) ?_
  intro p e s m args below meth c ls Q A H0 H locs E I hl K
  have E : en p m c cX5_isSnapshot 1 s args RX5 D g := E
  have hx := E.1.1
  have hb := E.1.2.1
  have hl : lv_has ls 1 [(0, .int x90)] := hl
  have K : ∀ (pc : Nat) (ls : Array Slot) (H : Heap) (locs : List Loc), wk D [] A H0 H locs → decode cX5_isSnapshot pc = .ok (.ireturn, 1) → zok o = true → W p l e (rmk 1 22) s m args below meth c H locs 0 0 Q (F0 m pc ls [.int o]) := fun pc ls H locs I hd hz => K pc ls H locs I ⟨hd, hz⟩
  have h : ((f5_within x90 (0 : Int32) (1 : Int32)) : Int32) = o := h
  refine lv_iload_n hx hb dX5_isSnapshot_0 rfl (lv_at hl 0 rfl) ?_
  refine lv_iconst (v := (0 : Int32)) hx hb dX5_isSnapshot_1 (by decide) ?_
  refine lv_iconst (v := (1 : Int32)) hx hb dX5_isSnapshot_2 (by decide) ?_
  refine r_callS1 (As := [.int x90, .int (0 : Int32), .int (1 : Int32)]) (rest := []) E I hl.1 k5_61 (c5_within rfl) rfl rfl (Nat.le_of_ble_eq_true rfl) ⟨Nat.le_of_ble_eq_true rfl, Nat.le_of_ble_eq_true rfl⟩ ⟨Nat.zero_le _, Nat.zero_le _⟩ dX5_isSnapshot_3 (fun H locs I => ?_)
  cases h
  exact K _ _ _ _ I dX5_isSnapshot_6 (z5_within _ _ _)
set_option maxHeartbeats 4000000 in
set_option maxRecDepth 100000 in
theorem c5_allFactors {l : Launch} {D : va_G} {g : Nat → ClassId} {a : Nat → Nat} {st : MS} {o : Int32} (h : f5_allFactors st = some o) : ct l yX5_allFactors cX5_allFactors 1 (some .int) (rmk 2 45) D g (mW g a st) (mW g a st) [.ref (a 0)] (some (.int o)) := by
  refine ct_of ⟨rfl, rfl⟩ (by decide) (Nat.le_of_ble_eq_true rfl) ?_
  intro p e s m args below meth c ls Q A H0 H locs E I hl K
  have E : en p m c cX5_allFactors 1 s args RX5 D g := E
  have hx := E.1.1
  have hb := E.1.2.1
  have hl : lv_has ls 1 [(0, .ref (a 0))] := hl
  have K : ∀ (pc : Nat) (ls : Array Slot) (H : Heap) (locs : List Loc), wk D (mW g a st) A H0 H locs → decode cX5_allFactors pc = .ok (.ireturn, 1) → W p l e (rmk 2 45) s m args below meth c H locs 0 0 Q (F0 m pc ls [.int o]) := fun pc ls H locs I hd => K pc ls H locs I hd
  have h : ((bi1 (f5_factorsOf st (0 : Int32)) fun r2 => (bi1 (f5_factorsOf st (1 : Int32)) fun r4 => (bi1 (f5_factorsOf st (2 : Int32)) fun r6 => some ((r2 + r4) + r6)))) : Option Int32) = some o := h
  refine lv_aload_n hx hb dX5_allFactors_0 rfl (lv_at hl 0 rfl) ?_
  refine lv_iconst (v := (0 : Int32)) hx hb dX5_allFactors_1 (by decide) ?_
  obtain ⟨r2, hc1, h⟩ := bx1 h
  refine r_callV1 (As := [.int (0 : Int32)]) (rest := []) (ws' := (mW g a st)) (q0 := 0) E I hl.1 k5_151 (c5_factorsOf hc1) mW_k rfl rfl rfl rfl (Nat.le_of_ble_eq_true rfl) ⟨Nat.le_of_ble_eq_true rfl, Nat.le_of_ble_eq_true rfl⟩ ⟨Nat.zero_le _, Nat.zero_le _⟩ dX5_allFactors_2 (fun H locs I => ?_)
  refine lv_aload_n hx hb dX5_allFactors_5 rfl (lv_at hl 0 rfl) ?_
  refine lv_iconst (v := (1 : Int32)) hx hb dX5_allFactors_6 (by decide) ?_
  obtain ⟨r4, hc3, h⟩ := bx1 h
  refine r_callV1 (As := [.int (1 : Int32)]) (rest := [.int r2]) (ws' := (mW g a st)) (q0 := 0) E I hl.1 k5_151 (c5_factorsOf hc3) mW_k rfl rfl rfl rfl (Nat.le_of_ble_eq_true rfl) ⟨Nat.le_of_ble_eq_true rfl, Nat.le_of_ble_eq_true rfl⟩ ⟨Nat.zero_le _, Nat.zero_le _⟩ dX5_allFactors_7 (fun H locs I => ?_)
  refine lv_iadd hx hb dX5_allFactors_10 ?_
  refine lv_aload_n hx hb dX5_allFactors_11 rfl (lv_at hl 0 rfl) ?_
  refine lv_iconst (v := (2 : Int32)) hx hb dX5_allFactors_12 (by decide) ?_
  obtain ⟨r6, hc5, h⟩ := bx1 h
  refine r_callV1 (As := [.int (2 : Int32)]) (rest := [.int (r2 + r4)]) (ws' := (mW g a st)) (q0 := 0) E I hl.1 k5_151 (c5_factorsOf hc5) mW_k rfl rfl rfl rfl (Nat.le_of_ble_eq_true rfl) ⟨Nat.le_of_ble_eq_true rfl, Nat.le_of_ble_eq_true rfl⟩ ⟨Nat.zero_le _, Nat.zero_le _⟩ dX5_allFactors_13 (fun H locs I => ?_)
  refine lv_iadd hx hb dX5_allFactors_16 ?_
  cases h
  exact K _ _ _ _ I dX5_allFactors_17
set_option maxHeartbeats 4000000 in
set_option maxRecDepth 100000 in
theorem c5_take {l : Launch} {D : va_G} {g : Nat → ClassId} {a : Nat → Nat} {st : MS} {x91 : Int32} {o : MS × Int32} (h : f5_take st x91 = some o) : ct l yX5_take cX5_take 3 (some .int) (rmk 3 65) D g (mW g a st) (mW g a o.1) [.ref (a 0), .int x91] (some (.int o.2)) := by
  refine ct_of ⟨rfl, rfl⟩ (by decide) (Nat.le_of_ble_eq_true rfl) ?_
  intro p e s m args below meth c ls Q A H0 H locs E I hl K
  have E : en p m c cX5_take 3 s args RX5 D g := E
  have hx := E.1.1
  have hb := E.1.2.1
  have hl : lv_has ls 3 [(0, .ref (a 0)), (1, .int x91)] := hl
  have K : ∀ (pc : Nat) (ls : Array Slot) (H : Heap) (locs : List Loc), wk D (mW g a o.1) A H0 H locs → decode cX5_take pc = .ok (.ireturn, 1) → W p l e (rmk 3 65) s m args below meth c H locs 0 0 Q (F0 m pc ls [.int o.2]) := fun pc ls H locs I hd => K pc ls H locs I hd
  have h : ((if (if (f5_isSnapshot x91) = 0 then (1 : Int32) else (0 : Int32)) ≤ 0 then (if ib x91 2 = true then (bi1 (wh (f5_take_b34 x91) FU ((m_taken_s (m_thrown_s st (if (f5_isSnapshot x91) = 0 then (1 : Int32) else (0 : Int32))) (upd (m_taken st) x91.toNatClampNeg (1 : Int32))), (0 : Int32))) fun w19 => (bi1 (f5_allFactors w19) fun r18 => some (w19, r18))) else none) else some ((m_thrown_s st (if (f5_isSnapshot x91) = 0 then (1 : Int32) else (0 : Int32))), (0 : Int32))) : Option (MS × Int32)) = some o := h
  refine lv_aload_n hx hb dX5_take_0 rfl (lv_at hl 0 rfl) ?_
  refine lv_iload_n hx hb dX5_take_1 rfl (lv_at hl 1 rfl) ?_
  refine r_callS1 (As := [.int x91]) (rest := [.ref (a 0)]) E I hl.1 k5_186 (c5_isSnapshot rfl) rfl rfl (Nat.le_of_ble_eq_true rfl) ⟨Nat.le_of_ble_eq_true rfl, Nat.le_of_ble_eq_true rfl⟩ ⟨Nat.zero_le _, Nat.zero_le _⟩ dX5_take_2 (fun H locs I => ?_)
  have J2 : ∀ (v1 : Int32) (H : Heap) (locs : List Loc), v1 = (if (f5_isSnapshot x91) = 0 then (1 : Int32) else (0 : Int32)) → wk D (mW g a st) A H0 H locs → W p l e (rmk 3 65) s m args below meth c H locs 0 0 Q (F0 m 13 ls [.int v1, .ref (a 0)]) := by
    intro v1 H locs hv3 I
    subst hv3
    refine p5_50 E I dX5_take_13 (fun H locs I => ?_)
    refine lv_aload_n hx hb dX5_take_16 rfl (lv_at hl 0 rfl) ?_
    refine g5_50 E I (v := (if (f5_isSnapshot x91) = 0 then (1 : Int32) else (0 : Int32))) rfl dX5_take_17 ?_
    refine lv_if_le (tgt := 25) hx hb dX5_take_20 (by decide) (fun hc4 => ?_) (fun hc4 => ?_)
    · have h := ifp hc4 h
      refine lv_aload_n hx hb dX5_take_25 rfl (lv_at hl 0 rfl) ?_
      refine g5_19 E I dX5_take_26 ?_
      refine lv_iload_n hx hb dX5_take_29 rfl (lv_at hl 1 rfl) ?_
      refine lv_iconst (v := (1 : Int32)) hx hb dX5_take_30 (by decide) ?_
      obtain ⟨hc5, h⟩ := gd h
      refine m_st4 E I (f := (m_taken st)) rfl hc5 dX5_take_31 (fun H locs I => ?_)
      refine lv_iconst (v := (0 : Int32)) hx hb dX5_take_32 (by decide) ?_
      refine lv_istore_n (lv' := [(2, .int (0 : Int32)), (0, .ref (a 0)), (1, .int x91)]) hx hb dX5_take_33 rfl hl (by decide) rfl (fun ls hl => ?_)
      obtain ⟨z14, hw15, h⟩ := bx1 h
      refine wh_W (P := fun (z : MS × Int32) => ∀ (H : Heap) (locs : List Loc) (ls : Array Slot), wk D (mW g a z.1) A H0 H locs → lv_has ls 3 [(0, .ref (a 0)), (1, .int x91), (2, .int z.2)] → W p l e (rmk 3 65) s m args below meth c H locs 0 0 Q (F0 m 34 ls [])) (X := fun (z : MS) => ∀ (H : Heap) (locs : List Loc) (ls : Array Slot), wk D (mW g a z) A H0 H locs → lv_has ls 3 [(0, .ref (a 0))] → W p l e (rmk 3 65) s m args below meth c H locs 0 0 Q (F0 m 63 ls [])) ?_ FU _ _ hw15 ?_ _ _ _ I (lv_sub hl [1, 2, 0] rfl)
      · intro z o9 h hk10 H locs ls I hl
        obtain ⟨st6, x8⟩ := z
        have h : ((if (24 : Int32) ≤ x8 then some (.inr st6) else (if ib x8 26 = true then (if ib (((24 : Int32) * x91) + x8) 48 = true then some (.inl ((m_snaps_s st6 (upd (m_snaps st6) (((24 : Int32) * x91) + x8).toNatClampNeg ((m_z st6) x8.toNatClampNeg))), (x8 + 1))) else none) else none)) : Option ((MS × Int32) ⊕ (MS))) = some o9 := h
        have I : wk D (mW g a st6) A H0 H locs := I
        have hl : lv_has ls 3 [(0, .ref (a 0)), (1, .int x91), (2, .int x8)] := hl
        refine lv_iload_n hx hb dX5_take_34 rfl (lv_at hl 2 rfl) ?_
        refine lv_bipush (v := (24 : Int32)) hx hb dX5_take_35 (by decide) ?_
        refine lv_icmp_ge (tgt := 63) hx hb dX5_take_37 (by decide) (fun hc11 => ?_) (fun hc11 => ?_)
        · have h := ifp hc11 h
          cases h
          exact hk10 _ _ _ I (lv_sub hl [0] rfl)
        · have h := ifn hc11 h
          refine lv_aload_n hx hb dX5_take_40 rfl (lv_at hl 0 rfl) ?_
          refine g5_16 E I dX5_take_41 ?_
          refine lv_bipush (v := (24 : Int32)) hx hb dX5_take_44 (by decide) ?_
          refine lv_iload_n hx hb dX5_take_46 rfl (lv_at hl 1 rfl) ?_
          refine lv_imul hx hb dX5_take_47 ?_
          refine lv_iload_n hx hb dX5_take_48 rfl (lv_at hl 2 rfl) ?_
          refine lv_iadd hx hb dX5_take_49 ?_
          refine lv_aload_n hx hb dX5_take_50 rfl (lv_at hl 0 rfl) ?_
          refine g5_7 E I dX5_take_51 ?_
          refine lv_iload_n hx hb dX5_take_54 rfl (lv_at hl 2 rfl) ?_
          obtain ⟨hc12, h⟩ := gd h
          refine m_ld1 E I (f := (m_z st6)) rfl hc12 dX5_take_55 ?_
          obtain ⟨hc13, h⟩ := gd h
          refine m_st3 E I (f := (m_snaps st6)) rfl hc13 dX5_take_56 (fun H locs I => ?_)
          refine lv_iinc (v := (x8 + 1)) (lv' := [(2, .int (x8 + 1)), (0, .ref (a 0)), (1, .int x91)]) hx hb dX5_take_57 hl (k := 2) rfl rfl (by decide) rfl (fun ls hl => ?_)
          refine lv_goto (tgt := 34) hx hb dX5_take_60 (by decide) ?_
          cases h
          exact hk10 _ _ _ I (lv_sub hl [1, 2, 0] rfl)
      · obtain ⟨st16, rfl⟩ : ∃ y, y = z14 := ⟨_, rfl⟩
        intro H locs ls I hl
        have h : ((bi1 (f5_allFactors st16) fun r18 => some (st16, r18)) : Option (MS × Int32)) = some o := h
        have I : wk D (mW g a st16) A H0 H locs := I
        have hl : lv_has ls 3 [(0, .ref (a 0))] := hl
        refine lv_aload_n hx hb dX5_take_63 rfl (lv_at hl 0 rfl) ?_
        obtain ⟨r18, hc17, h⟩ := bx1 h
        refine r_callV1 (As := []) (rest := []) (ws' := (mW g a st16)) (q0 := 0) E I hl.1 k5_189 (c5_allFactors hc17) mW_k rfl rfl rfl rfl (Nat.le_of_ble_eq_true rfl) ⟨Nat.le_of_ble_eq_true rfl, Nat.le_of_ble_eq_true rfl⟩ ⟨Nat.zero_le _, Nat.zero_le _⟩ dX5_take_64 (fun H locs I => ?_)
        cases h
        exact K _ _ _ _ I dX5_take_67
    · have h := ifn hc4 h
      refine lv_iconst (v := (0 : Int32)) hx hb dX5_take_23 (by decide) ?_
      cases h
      exact K _ _ _ _ I dX5_take_24
  refine lv_if_eq (tgt := 12) hx hb dX5_take_5 (by decide) (fun hc20 => ?_) (fun hc20 => ?_)
  · refine lv_iconst (v := (1 : Int32)) hx hb dX5_take_12 (by decide) ?_
    exact J2 _ _ _ (by rw [if_pos hc20]) I
  · refine lv_iconst (v := (0 : Int32)) hx hb dX5_take_8 (by decide) ?_
    refine lv_goto (tgt := 13) hx hb dX5_take_9 (by decide) ?_
    exact J2 _ _ _ (by rw [if_neg hc20]) I
set_option maxHeartbeats 4000000 in
set_option maxRecDepth 100000 in
theorem c5_restore {l : Launch} {D : va_G} {g : Nat → ClassId} {a : Nat → Nat} {st : MS} {x91 : Int32} {o : MS × Int32} (h : f5_restore st x91 = some o) : ct l yX5_restore cX5_restore 3 (some .int) (rmk 3 65) D g (mW g a st) (mW g a o.1) [.ref (a 0), .int x91] (some (.int o.2)) := by
  refine ct_of ⟨rfl, rfl⟩ (by decide) (Nat.le_of_ble_eq_true rfl) ?_
  intro p e s m args below meth c ls Q A H0 H locs E I hl K
  have E : en p m c cX5_restore 3 s args RX5 D g := E
  have hx := E.1.1
  have hb := E.1.2.1
  have hl : lv_has ls 3 [(0, .ref (a 0)), (1, .int x91)] := hl
  have K : ∀ (pc : Nat) (ls : Array Slot) (H : Heap) (locs : List Loc), wk D (mW g a o.1) A H0 H locs → decode cX5_restore pc = .ok (.ireturn, 1) → W p l e (rmk 3 65) s m args below meth c H locs 0 0 Q (F0 m pc ls [.int o.2]) := fun pc ls H locs I hd => K pc ls H locs I hd
  have h : ((if (if (f5_isSnapshot x91) = 0 then (1 : Int32) else (0 : Int32)) = 0 then (if ib x91 2 = true then f5_restore_j42 (m_thrown_s (m_thrown_s st (if (f5_isSnapshot x91) = 0 then (1 : Int32) else (0 : Int32))) (if ((m_taken st) x91.toNatClampNeg) = (1 : Int32) then (0 : Int32) else (2 : Int32))) x91 else none) else f5_restore_j42 (m_thrown_s st (if (f5_isSnapshot x91) = 0 then (1 : Int32) else (0 : Int32))) x91) : Option (MS × Int32)) = some o := h
  refine lv_aload_n hx hb dX5_restore_0 rfl (lv_at hl 0 rfl) ?_
  refine lv_iload_n hx hb dX5_restore_1 rfl (lv_at hl 1 rfl) ?_
  refine r_callS1 (As := [.int x91]) (rest := [.ref (a 0)]) E I hl.1 k5_186 (c5_isSnapshot rfl) rfl rfl (Nat.le_of_ble_eq_true rfl) ⟨Nat.le_of_ble_eq_true rfl, Nat.le_of_ble_eq_true rfl⟩ ⟨Nat.zero_le _, Nat.zero_le _⟩ dX5_restore_2 (fun H locs I => ?_)
  have J2 : ∀ (v1 : Int32) (H : Heap) (locs : List Loc), v1 = (if (f5_isSnapshot x91) = 0 then (1 : Int32) else (0 : Int32)) → wk D (mW g a st) A H0 H locs → W p l e (rmk 3 65) s m args below meth c H locs 0 0 Q (F0 m 13 ls [.int v1, .ref (a 0)]) := by
    intro v1 H locs hv3 I
    subst hv3
    refine p5_50 E I dX5_restore_13 (fun H locs I => ?_)
    refine lv_aload_n hx hb dX5_restore_16 rfl (lv_at hl 0 rfl) ?_
    refine g5_50 E I (v := (if (f5_isSnapshot x91) = 0 then (1 : Int32) else (0 : Int32))) rfl dX5_restore_17 ?_
    have J4 : ∀ (st5 : MS) (x6 : Int32), f5_restore_j42 st5 x6 = some o → ∀ (H : Heap) (locs : List Loc) (ls : Array Slot), wk D (mW g a st5) A H0 H locs → lv_has ls 3 [(0, .ref (a 0)), (1, .int x6)] → W p l e (rmk 3 65) s m args below meth c H locs 0 0 Q (F0 m 42 ls []) := by
      intro st5 x6 h H locs ls I hl
      have h : ((if (m_thrown st5) ≤ 0 then (bi1 (f5_save st5) fun st9 => (bi1 (wh (f5_restore_b57 x6) FU (st9, (0 : Int32))) fun w23 => (bi1 (f5_allFactors w23) fun r22 => some (w23, r22)))) else some (st5, (0 : Int32))) : Option (MS × Int32)) = some o := h
      refine lv_aload_n hx hb dX5_restore_42 rfl (lv_at hl 0 rfl) ?_
      refine g5_50 E I (v := (m_thrown st5)) rfl dX5_restore_43 ?_
      refine lv_if_le (tgt := 51) hx hb dX5_restore_46 (by decide) (fun hc7 => ?_) (fun hc7 => ?_)
      · have h := ifp hc7 h
        refine lv_aload_n hx hb dX5_restore_51 rfl (lv_at hl 0 rfl) ?_
        obtain ⟨st9, hc8, h⟩ := bx1 h
        refine r_callV0 (As := []) (rest := []) (ws' := (mW g a st9)) (q0 := 0) E I hl.1 k5_139 (c5_save hc8) mW_k rfl rfl rfl rfl (Nat.le_of_ble_eq_true rfl) ⟨Nat.le_of_ble_eq_true rfl, Nat.le_of_ble_eq_true rfl⟩ ⟨Nat.zero_le _, Nat.zero_le _⟩ dX5_restore_52 (fun H locs I => ?_)
        refine lv_iconst (v := (0 : Int32)) hx hb dX5_restore_55 (by decide) ?_
        refine lv_istore_n (lv' := [(2, .int (0 : Int32)), (0, .ref (a 0)), (1, .int x6)]) hx hb dX5_restore_56 rfl hl (by decide) rfl (fun ls hl => ?_)
        obtain ⟨z18, hw19, h⟩ := bx1 h
        refine wh_W (P := fun (z : MS × Int32) => ∀ (H : Heap) (locs : List Loc) (ls : Array Slot), wk D (mW g a z.1) A H0 H locs → lv_has ls 3 [(0, .ref (a 0)), (1, .int x6), (2, .int z.2)] → W p l e (rmk 3 65) s m args below meth c H locs 0 0 Q (F0 m 57 ls [])) (X := fun (z : MS) => ∀ (H : Heap) (locs : List Loc) (ls : Array Slot), wk D (mW g a z) A H0 H locs → lv_has ls 3 [(0, .ref (a 0))] → W p l e (rmk 3 65) s m args below meth c H locs 0 0 Q (F0 m 86 ls [])) ?_ FU _ _ hw19 ?_ _ _ _ I (lv_sub hl [1, 2, 0] rfl)
        · intro z o13 h hk14 H locs ls I hl
          obtain ⟨st10, x12⟩ := z
          have h : ((if (24 : Int32) ≤ x12 then some (.inr st10) else (if ib (((24 : Int32) * x6) + x12) 48 = true then (if ib x12 26 = true then some (.inl ((m_z_s st10 (upd (m_z st10) x12.toNatClampNeg ((m_snaps st10) (((24 : Int32) * x6) + x12).toNatClampNeg))), (x12 + 1))) else none) else none)) : Option ((MS × Int32) ⊕ (MS))) = some o13 := h
          have I : wk D (mW g a st10) A H0 H locs := I
          have hl : lv_has ls 3 [(0, .ref (a 0)), (1, .int x6), (2, .int x12)] := hl
          refine lv_iload_n hx hb dX5_restore_57 rfl (lv_at hl 2 rfl) ?_
          refine lv_bipush (v := (24 : Int32)) hx hb dX5_restore_58 (by decide) ?_
          refine lv_icmp_ge (tgt := 86) hx hb dX5_restore_60 (by decide) (fun hc15 => ?_) (fun hc15 => ?_)
          · have h := ifp hc15 h
            cases h
            exact hk14 _ _ _ I (lv_sub hl [0] rfl)
          · have h := ifn hc15 h
            refine lv_aload_n hx hb dX5_restore_63 rfl (lv_at hl 0 rfl) ?_
            refine g5_7 E I dX5_restore_64 ?_
            refine lv_iload_n hx hb dX5_restore_67 rfl (lv_at hl 2 rfl) ?_
            refine lv_aload_n hx hb dX5_restore_68 rfl (lv_at hl 0 rfl) ?_
            refine g5_16 E I dX5_restore_69 ?_
            refine lv_bipush (v := (24 : Int32)) hx hb dX5_restore_72 (by decide) ?_
            refine lv_iload_n hx hb dX5_restore_74 rfl (lv_at hl 1 rfl) ?_
            refine lv_imul hx hb dX5_restore_75 ?_
            refine lv_iload_n hx hb dX5_restore_76 rfl (lv_at hl 2 rfl) ?_
            refine lv_iadd hx hb dX5_restore_77 ?_
            obtain ⟨hc16, h⟩ := gd h
            refine m_ld3 E I (f := (m_snaps st10)) rfl hc16 dX5_restore_78 ?_
            obtain ⟨hc17, h⟩ := gd h
            refine m_st1 E I (f := (m_z st10)) rfl hc17 dX5_restore_79 (fun H locs I => ?_)
            refine lv_iinc (v := (x12 + 1)) (lv' := [(2, .int (x12 + 1)), (0, .ref (a 0)), (1, .int x6)]) hx hb dX5_restore_80 hl (k := 2) rfl rfl (by decide) rfl (fun ls hl => ?_)
            refine lv_goto (tgt := 57) hx hb dX5_restore_83 (by decide) ?_
            cases h
            exact hk14 _ _ _ I (lv_sub hl [1, 2, 0] rfl)
        · obtain ⟨st20, rfl⟩ : ∃ y, y = z18 := ⟨_, rfl⟩
          intro H locs ls I hl
          have h : ((bi1 (f5_allFactors st20) fun r22 => some (st20, r22)) : Option (MS × Int32)) = some o := h
          have I : wk D (mW g a st20) A H0 H locs := I
          have hl : lv_has ls 3 [(0, .ref (a 0))] := hl
          refine lv_aload_n hx hb dX5_restore_86 rfl (lv_at hl 0 rfl) ?_
          obtain ⟨r22, hc21, h⟩ := bx1 h
          refine r_callV1 (As := []) (rest := []) (ws' := (mW g a st20)) (q0 := 0) E I hl.1 k5_189 (c5_allFactors hc21) mW_k rfl rfl rfl rfl (Nat.le_of_ble_eq_true rfl) ⟨Nat.le_of_ble_eq_true rfl, Nat.le_of_ble_eq_true rfl⟩ ⟨Nat.zero_le _, Nat.zero_le _⟩ dX5_restore_87 (fun H locs I => ?_)
          cases h
          exact K _ _ _ _ I dX5_restore_90
      · have h := ifn hc7 h
        refine lv_iconst (v := (0 : Int32)) hx hb dX5_restore_49 (by decide) ?_
        cases h
        exact K _ _ _ _ I dX5_restore_50
    refine lv_if_ne (tgt := 42) hx hb dX5_restore_20 (by decide) (fun hc24 => ?_) (fun hc24 => ?_)
    · have h := ifn hc24 h
      exact J4 _ _ h _ _ _ I (lv_sub hl [0, 1] rfl)
    · have h := ifp hc24 h
      refine lv_aload_n hx hb dX5_restore_23 rfl (lv_at hl 0 rfl) ?_
      refine lv_aload_n hx hb dX5_restore_24 rfl (lv_at hl 0 rfl) ?_
      refine g5_19 E I dX5_restore_25 ?_
      refine lv_iload_n hx hb dX5_restore_28 rfl (lv_at hl 1 rfl) ?_
      obtain ⟨hc25, h⟩ := gd h
      refine m_ld4 E I (f := (m_taken st)) rfl hc25 dX5_restore_29 ?_
      refine lv_iconst (v := (1 : Int32)) hx hb dX5_restore_30 (by decide) ?_
      have J27 : ∀ (v26 : Int32) (H : Heap) (locs : List Loc), v26 = (if ((m_taken st) x91.toNatClampNeg) = (1 : Int32) then (0 : Int32) else (2 : Int32)) → wk D (mW g a (m_thrown_s st (if (f5_isSnapshot x91) = 0 then (1 : Int32) else (0 : Int32)))) A H0 H locs → W p l e (rmk 3 65) s m args below meth c H locs 0 0 Q (F0 m 39 ls [.int v26, .ref (a 0)]) := by
        intro v26 H locs hv28 I
        subst hv28
        refine p5_50 E I dX5_restore_39 (fun H locs I => ?_)
        exact J4 _ _ h _ _ _ I (lv_sub hl [0, 1] rfl)
      refine lv_icmp_ne (tgt := 38) hx hb dX5_restore_31 (by decide) (fun hc29 => ?_) (fun hc29 => ?_)
      · refine lv_iconst (v := (2 : Int32)) hx hb dX5_restore_38 (by decide) ?_
        exact J27 _ _ _ (by rw [if_neg hc29]) I
      · refine lv_iconst (v := (0 : Int32)) hx hb dX5_restore_34 (by decide) ?_
        refine lv_goto (tgt := 39) hx hb dX5_restore_35 (by decide) ?_
        exact J27 _ _ _ (by rw [if_pos hc29]) I
  refine lv_if_eq (tgt := 12) hx hb dX5_restore_5 (by decide) (fun hc30 => ?_) (fun hc30 => ?_)
  · refine lv_iconst (v := (1 : Int32)) hx hb dX5_restore_12 (by decide) ?_
    exact J2 _ _ _ (by rw [if_pos hc30]) I
  · refine lv_iconst (v := (0 : Int32)) hx hb dX5_restore_8 (by decide) ?_
    refine lv_goto (tgt := 13) hx hb dX5_restore_9 (by decide) ?_
    exact J2 _ _ _ (by rw [if_neg hc30]) I
set_option maxHeartbeats 4000000 in
set_option maxRecDepth 100000 in
theorem c5_undo {l : Launch} {D : va_G} {g : Nat → ClassId} {a : Nat → Nat} {st : MS} {o : MS × Int32} (h : f5_undo st = some o) : ct l yX5_undo cX5_undo 2 (some .int) (rmk 0 0) D g (mW g a st) (mW g a o.1) [.ref (a 0)] (some (.int o.2)) := by
  refine ct_of ⟨rfl, rfl⟩ (by decide) (Nat.le_of_ble_eq_true rfl) ?_
  intro p e s m args below meth c ls Q A H0 H locs E I hl K
  have E : en p m c cX5_undo 2 s args RX5 D g := E
  have hx := E.1.1
  have hb := E.1.2.1
  have hl : lv_has ls 2 [(0, .ref (a 0))] := hl
  have K : ∀ (pc : Nat) (ls : Array Slot) (H : Heap) (locs : List Loc), wk D (mW g a o.1) A H0 H locs → decode cX5_undo pc = .ok (.ireturn, 1) → W p l e (rmk 0 0) s m args below meth c H locs 0 0 Q (F0 m pc ls [.int o.2]) := fun pc ls H locs I hd => K pc ls H locs I hd
  have h : ((if (if (m_states st) ≤ 0 then (1 : Int32) else (0 : Int32)) ≤ 0 then (bi1 (wh (f5_undo_b37) FU ((m_states_s (m_thrown_s st (if (m_states st) ≤ 0 then (1 : Int32) else (0 : Int32))) ((m_states st) - (1 : Int32))), (0 : Int32))) fun w15 => some (w15, (m_states w15))) else some ((m_thrown_s st (if (m_states st) ≤ 0 then (1 : Int32) else (0 : Int32))), (0 : Int32))) : Option (MS × Int32)) = some o := h
  refine lv_aload_n hx hb dX5_undo_0 rfl (lv_at hl 0 rfl) ?_
  refine lv_aload_n hx hb dX5_undo_1 rfl (lv_at hl 0 rfl) ?_
  refine g5_54 E I (v := (m_states st)) rfl dX5_undo_2 ?_
  have J2 : ∀ (v1 : Int32) (H : Heap) (locs : List Loc), v1 = (if (m_states st) ≤ 0 then (1 : Int32) else (0 : Int32)) → wk D (mW g a st) A H0 H locs → W p l e (rmk 0 0) s m args below meth c H locs 0 0 Q (F0 m 13 ls [.int v1, .ref (a 0)]) := by
    intro v1 H locs hv3 I
    subst hv3
    refine p5_50 E I dX5_undo_13 (fun H locs I => ?_)
    refine lv_aload_n hx hb dX5_undo_16 rfl (lv_at hl 0 rfl) ?_
    refine g5_50 E I (v := (if (m_states st) ≤ 0 then (1 : Int32) else (0 : Int32))) rfl dX5_undo_17 ?_
    refine lv_if_le (tgt := 25) hx hb dX5_undo_20 (by decide) (fun hc4 => ?_) (fun hc4 => ?_)
    · have h := ifp hc4 h
      refine lv_aload_n hx hb dX5_undo_25 rfl (lv_at hl 0 rfl) ?_
      refine lv_dup hx hb dX5_undo_26 rfl ?_
      refine g5_54 E I (v := (m_states st)) rfl dX5_undo_27 ?_
      refine lv_iconst (v := (1 : Int32)) hx hb dX5_undo_30 (by decide) ?_
      refine lv_isub hx hb dX5_undo_31 ?_
      refine p5_54 E I dX5_undo_32 (fun H locs I => ?_)
      refine lv_iconst (v := (0 : Int32)) hx hb dX5_undo_35 (by decide) ?_
      refine lv_istore_n (lv' := [(1, .int (0 : Int32)), (0, .ref (a 0))]) hx hb dX5_undo_36 rfl hl (by decide) rfl (fun ls hl => ?_)
      obtain ⟨z12, hw13, h⟩ := bx1 h
      refine wh_W (P := fun (z : MS × Int32) => ∀ (H : Heap) (locs : List Loc) (ls : Array Slot), wk D (mW g a z.1) A H0 H locs → lv_has ls 2 [(0, .ref (a 0)), (1, .int z.2)] → W p l e (rmk 0 0) s m args below meth c H locs 0 0 Q (F0 m 37 ls [])) (X := fun (z : MS) => ∀ (H : Heap) (locs : List Loc) (ls : Array Slot), wk D (mW g a z) A H0 H locs → lv_has ls 2 [(0, .ref (a 0))] → W p l e (rmk 0 0) s m args below meth c H locs 0 0 Q (F0 m 69 ls [])) ?_ FU _ _ hw13 ?_ _ _ _ I (lv_sub hl [1, 0] rfl)
      · intro z o7 h hk8 H locs ls I hl
        obtain ⟨st5, x6⟩ := z
        have h : ((if (26 : Int32) ≤ x6 then some (.inr st5) else (if ib (((26 : Int32) * (m_states st5)) + x6) 156 = true then (if ib x6 26 = true then some (.inl ((m_z_s st5 (upd (m_z st5) x6.toNatClampNeg ((m_history st5) (((26 : Int32) * (m_states st5)) + x6).toNatClampNeg))), (x6 + 1))) else none) else none)) : Option ((MS × Int32) ⊕ (MS))) = some o7 := h
        have I : wk D (mW g a st5) A H0 H locs := I
        have hl : lv_has ls 2 [(0, .ref (a 0)), (1, .int x6)] := hl
        refine lv_iload_n hx hb dX5_undo_37 rfl (lv_at hl 1 rfl) ?_
        refine lv_bipush (v := (26 : Int32)) hx hb dX5_undo_38 (by decide) ?_
        refine lv_icmp_ge (tgt := 69) hx hb dX5_undo_40 (by decide) (fun hc9 => ?_) (fun hc9 => ?_)
        · have h := ifp hc9 h
          cases h
          exact hk8 _ _ _ I (lv_sub hl [0] rfl)
        · have h := ifn hc9 h
          refine lv_aload_n hx hb dX5_undo_43 rfl (lv_at hl 0 rfl) ?_
          refine g5_7 E I dX5_undo_44 ?_
          refine lv_iload_n hx hb dX5_undo_47 rfl (lv_at hl 1 rfl) ?_
          refine lv_aload_n hx hb dX5_undo_48 rfl (lv_at hl 0 rfl) ?_
          refine g5_13 E I dX5_undo_49 ?_
          refine lv_bipush (v := (26 : Int32)) hx hb dX5_undo_52 (by decide) ?_
          refine lv_aload_n hx hb dX5_undo_54 rfl (lv_at hl 0 rfl) ?_
          refine g5_54 E I (v := (m_states st5)) rfl dX5_undo_55 ?_
          refine lv_imul hx hb dX5_undo_58 ?_
          refine lv_iload_n hx hb dX5_undo_59 rfl (lv_at hl 1 rfl) ?_
          refine lv_iadd hx hb dX5_undo_60 ?_
          obtain ⟨hc10, h⟩ := gd h
          refine m_ld2 E I (f := (m_history st5)) rfl hc10 dX5_undo_61 ?_
          obtain ⟨hc11, h⟩ := gd h
          refine m_st1 E I (f := (m_z st5)) rfl hc11 dX5_undo_62 (fun H locs I => ?_)
          refine lv_iinc (v := (x6 + 1)) (lv' := [(1, .int (x6 + 1)), (0, .ref (a 0))]) hx hb dX5_undo_63 hl (k := 1) rfl rfl (by decide) rfl (fun ls hl => ?_)
          refine lv_goto (tgt := 37) hx hb dX5_undo_66 (by decide) ?_
          cases h
          exact hk8 _ _ _ I (lv_sub hl [1, 0] rfl)
      · obtain ⟨st14, rfl⟩ : ∃ y, y = z12 := ⟨_, rfl⟩
        intro H locs ls I hl
        have h : (some (st14, (m_states st14)) : Option (MS × Int32)) = some o := h
        have I : wk D (mW g a st14) A H0 H locs := I
        have hl : lv_has ls 2 [(0, .ref (a 0))] := hl
        refine lv_aload_n hx hb dX5_undo_69 rfl (lv_at hl 0 rfl) ?_
        refine g5_54 E I (v := (m_states st14)) rfl dX5_undo_70 ?_
        cases h
        exact K _ _ _ _ I dX5_undo_73
    · have h := ifn hc4 h
      refine lv_iconst (v := (0 : Int32)) hx hb dX5_undo_23 (by decide) ?_
      cases h
      exact K _ _ _ _ I dX5_undo_24
  refine lv_if_le (tgt := 12) hx hb dX5_undo_5 (by decide) (fun hc16 => ?_) (fun hc16 => ?_)
  · refine lv_iconst (v := (1 : Int32)) hx hb dX5_undo_12 (by decide) ?_
    exact J2 _ _ _ (by rw [if_pos hc16]) I
  · refine lv_iconst (v := (0 : Int32)) hx hb dX5_undo_8 (by decide) ?_
    refine lv_goto (tgt := 13) hx hb dX5_undo_9 (by decide) ?_
    exact J2 _ _ _ (by rw [if_neg hc16]) I
set_option maxHeartbeats 4000000 in
set_option maxRecDepth 100000 in
theorem c5_times {l : Launch} {D : va_G} {g : Nat → ClassId} {a : Nat → Nat} {st : MS} {x91 : Int32} {x92 : Int32} {o : MS × Int32} (h : f5_times st x91 x92 = some o) : ct l yX5_times cX5_times 3 (some .int) (rmk 2 42) D g (mW g a st) (mW g a o.1) [.ref (a 0), .int x91, .int x92] (some (.int o.2)) := by
  refine ct_of ⟨rfl, rfl⟩ (by decide) (Nat.le_of_ble_eq_true rfl) ?_
  intro p e s m args below meth c ls Q A H0 H locs E I hl K
  have E : en p m c cX5_times 3 s args RX5 D g := E
  have hx := E.1.1
  have hb := E.1.2.1
  have hl : lv_has ls 3 [(0, .ref (a 0)), (1, .int x91), (2, .int x92)] := hl
  have K : ∀ (pc : Nat) (ls : Array Slot) (H : Heap) (locs : List Loc), wk D (mW g a o.1) A H0 H locs → decode cX5_times pc = .ok (.ireturn, 1) → W p l e (rmk 2 42) s m args below meth c H locs 0 0 Q (F0 m pc ls [.int o.2]) := fun pc ls H locs I hd => K pc ls H locs I hd
  have h : ((if (if (f5_isProduct x91) = 0 then (1 : Int32) else (if (f5_within x92 (0 : Int32) (7 : Int32)) = 0 then (1 : Int32) else (0 : Int32))) ≤ 0 then (bi1 (f5_of (m_thrown_s st (if (f5_isProduct x91) = 0 then (1 : Int32) else (if (f5_within x92 (0 : Int32) (7 : Int32)) = 0 then (1 : Int32) else (0 : Int32)))) x91 x92) fun r6 => some ((m_thrown_s st (if (f5_isProduct x91) = 0 then (1 : Int32) else (if (f5_within x92 (0 : Int32) (7 : Int32)) = 0 then (1 : Int32) else (0 : Int32)))), r6)) else some ((m_thrown_s st (if (f5_isProduct x91) = 0 then (1 : Int32) else (if (f5_within x92 (0 : Int32) (7 : Int32)) = 0 then (1 : Int32) else (0 : Int32)))), (0 : Int32))) : Option (MS × Int32)) = some o := h
  refine lv_aload_n hx hb dX5_times_0 rfl (lv_at hl 0 rfl) ?_
  refine lv_iload_n hx hb dX5_times_1 rfl (lv_at hl 1 rfl) ?_
  refine r_callS1 (As := [.int x91]) (rest := [.ref (a 0)]) E I hl.1 k5_133 (c5_isProduct rfl) rfl rfl (Nat.le_of_ble_eq_true rfl) ⟨Nat.le_of_ble_eq_true rfl, Nat.le_of_ble_eq_true rfl⟩ ⟨Nat.zero_le _, Nat.zero_le _⟩ dX5_times_2 (fun H locs I => ?_)
  have J2 : ∀ (v1 : Int32) (H : Heap) (locs : List Loc), v1 = (if (f5_isProduct x91) = 0 then (1 : Int32) else (if (f5_within x92 (0 : Int32) (7 : Int32)) = 0 then (1 : Int32) else (0 : Int32))) → wk D (mW g a st) A H0 H locs → W p l e (rmk 2 42) s m args below meth c H locs 0 0 Q (F0 m 23 ls [.int v1, .ref (a 0)]) := by
    intro v1 H locs hv3 I
    subst hv3
    refine p5_50 E I dX5_times_23 (fun H locs I => ?_)
    refine lv_aload_n hx hb dX5_times_26 rfl (lv_at hl 0 rfl) ?_
    refine g5_50 E I (v := (if (f5_isProduct x91) = 0 then (1 : Int32) else (if (f5_within x92 (0 : Int32) (7 : Int32)) = 0 then (1 : Int32) else (0 : Int32)))) rfl dX5_times_27 ?_
    refine lv_if_le (tgt := 37) hx hb dX5_times_30 (by decide) (fun hc4 => ?_) (fun hc4 => ?_)
    · have h := ifp hc4 h
      refine lv_aload_n hx hb dX5_times_37 rfl (lv_at hl 0 rfl) ?_
      refine lv_iload_n hx hb dX5_times_38 rfl (lv_at hl 1 rfl) ?_
      refine lv_iload_n hx hb dX5_times_39 rfl (lv_at hl 2 rfl) ?_
      obtain ⟨r6, hc5, h⟩ := bx1 h
      refine r_callV1 (As := [.int x91, .int x92]) (rest := []) (ws' := (mW g a (m_thrown_s st (if (f5_isProduct x91) = 0 then (1 : Int32) else (if (f5_within x92 (0 : Int32) (7 : Int32)) = 0 then (1 : Int32) else (0 : Int32)))))) (q0 := 0) E I hl.1 k5_57 (c5_of hc5) mW_k rfl rfl rfl rfl (Nat.le_of_ble_eq_true rfl) ⟨Nat.le_of_ble_eq_true rfl, Nat.le_of_ble_eq_true rfl⟩ ⟨Nat.zero_le _, Nat.zero_le _⟩ dX5_times_40 (fun H locs I => ?_)
      cases h
      exact K _ _ _ _ I dX5_times_43
    · have h := ifn hc4 h
      refine lv_iconst (v := (0 : Int32)) hx hb dX5_times_33 (by decide) ?_
      refine lv_goto (tgt := 43) hx hb dX5_times_34 (by decide) ?_
      cases h
      exact K _ _ _ _ I dX5_times_43
  refine lv_if_eq (tgt := 22) hx hb dX5_times_5 (by decide) (fun hc7 => ?_) (fun hc7 => ?_)
  · refine lv_iconst (v := (1 : Int32)) hx hb dX5_times_22 (by decide) ?_
    exact J2 _ _ _ (by rw [if_pos hc7]) I
  · refine lv_iload_n hx hb dX5_times_8 rfl (lv_at hl 2 rfl) ?_
    refine lv_iconst (v := (0 : Int32)) hx hb dX5_times_9 (by decide) ?_
    refine lv_bipush (v := (7 : Int32)) hx hb dX5_times_10 (by decide) ?_
    refine r_callS1 (As := [.int x92, .int (0 : Int32), .int (7 : Int32)]) (rest := [.ref (a 0)]) E I hl.1 k5_61 (c5_within rfl) rfl rfl (Nat.le_of_ble_eq_true rfl) ⟨Nat.le_of_ble_eq_true rfl, Nat.le_of_ble_eq_true rfl⟩ ⟨Nat.zero_le _, Nat.zero_le _⟩ dX5_times_12 (fun H locs I => ?_)
    refine lv_if_eq (tgt := 22) hx hb dX5_times_15 (by decide) (fun hc8 => ?_) (fun hc8 => ?_)
    · refine lv_iconst (v := (1 : Int32)) hx hb dX5_times_22 (by decide) ?_
      exact J2 _ _ _ (by rw [if_neg hc7, if_pos hc8]) I
    · refine lv_iconst (v := (0 : Int32)) hx hb dX5_times_18 (by decide) ?_
      refine lv_goto (tgt := 23) hx hb dX5_times_19 (by decide) ?_
      exact J2 _ _ _ (by rw [if_neg hc7, if_neg hc8]) I
set_option maxHeartbeats 4000000 in
set_option maxRecDepth 100000 in
theorem c5_rest {l : Launch} {D : va_G} {g : Nat → ClassId} {a : Nat → Nat} {st : MS} {x91 : Int32} {o : MS × Int32} (h : f5_rest st x91 = some o) : ct l yX5_rest cX5_rest 2 (some .int) (rmk 2 43) D g (mW g a st) (mW g a o.1) [.ref (a 0), .int x91] (some (.int o.2)) := by
  refine ct_of ⟨rfl, rfl⟩ (by decide) (Nat.le_of_ble_eq_true rfl) ?_
  intro p e s m args below meth c ls Q A H0 H locs E I hl K
  have E : en p m c cX5_rest 2 s args RX5 D g := E
  have hx := E.1.1
  have hb := E.1.2.1
  have hl : lv_has ls 2 [(0, .ref (a 0)), (1, .int x91)] := hl
  have K : ∀ (pc : Nat) (ls : Array Slot) (H : Heap) (locs : List Loc), wk D (mW g a o.1) A H0 H locs → decode cX5_rest pc = .ok (.ireturn, 1) → W p l e (rmk 2 43) s m args below meth c H locs 0 0 Q (F0 m pc ls [.int o.2]) := fun pc ls H locs I hd => K pc ls H locs I hd
  have h : ((if (if (f5_isConstant x91) = 0 then (1 : Int32) else (0 : Int32)) ≤ 0 then (bi1 (f5_restOf (m_thrown_s st (if (f5_isConstant x91) = 0 then (1 : Int32) else (0 : Int32))) x91) fun r6 => some ((m_thrown_s st (if (f5_isConstant x91) = 0 then (1 : Int32) else (0 : Int32))), r6)) else some ((m_thrown_s st (if (f5_isConstant x91) = 0 then (1 : Int32) else (0 : Int32))), (0 : Int32))) : Option (MS × Int32)) = some o := h
  refine lv_aload_n hx hb dX5_rest_0 rfl (lv_at hl 0 rfl) ?_
  refine lv_iload_n hx hb dX5_rest_1 rfl (lv_at hl 1 rfl) ?_
  refine r_callS1 (As := [.int x91]) (rest := [.ref (a 0)]) E I hl.1 k5_136 (c5_isConstant rfl) rfl rfl (Nat.le_of_ble_eq_true rfl) ⟨Nat.le_of_ble_eq_true rfl, Nat.le_of_ble_eq_true rfl⟩ ⟨Nat.zero_le _, Nat.zero_le _⟩ dX5_rest_2 (fun H locs I => ?_)
  have J2 : ∀ (v1 : Int32) (H : Heap) (locs : List Loc), v1 = (if (f5_isConstant x91) = 0 then (1 : Int32) else (0 : Int32)) → wk D (mW g a st) A H0 H locs → W p l e (rmk 2 43) s m args below meth c H locs 0 0 Q (F0 m 13 ls [.int v1, .ref (a 0)]) := by
    intro v1 H locs hv3 I
    subst hv3
    refine p5_50 E I dX5_rest_13 (fun H locs I => ?_)
    refine lv_aload_n hx hb dX5_rest_16 rfl (lv_at hl 0 rfl) ?_
    refine g5_50 E I (v := (if (f5_isConstant x91) = 0 then (1 : Int32) else (0 : Int32))) rfl dX5_rest_17 ?_
    refine lv_if_le (tgt := 27) hx hb dX5_rest_20 (by decide) (fun hc4 => ?_) (fun hc4 => ?_)
    · have h := ifp hc4 h
      refine lv_aload_n hx hb dX5_rest_27 rfl (lv_at hl 0 rfl) ?_
      refine lv_iload_n hx hb dX5_rest_28 rfl (lv_at hl 1 rfl) ?_
      obtain ⟨r6, hc5, h⟩ := bx1 h
      refine r_callV1 (As := [.int x91]) (rest := []) (ws' := (mW g a (m_thrown_s st (if (f5_isConstant x91) = 0 then (1 : Int32) else (0 : Int32))))) (q0 := 0) E I hl.1 k5_75 (c5_restOf hc5) mW_k rfl rfl rfl rfl (Nat.le_of_ble_eq_true rfl) ⟨Nat.le_of_ble_eq_true rfl, Nat.le_of_ble_eq_true rfl⟩ ⟨Nat.zero_le _, Nat.zero_le _⟩ dX5_rest_29 (fun H locs I => ?_)
      cases h
      exact K _ _ _ _ I dX5_rest_32
    · have h := ifn hc4 h
      refine lv_iconst (v := (0 : Int32)) hx hb dX5_rest_23 (by decide) ?_
      refine lv_goto (tgt := 32) hx hb dX5_rest_24 (by decide) ?_
      cases h
      exact K _ _ _ _ I dX5_rest_32
  refine lv_if_eq (tgt := 12) hx hb dX5_rest_5 (by decide) (fun hc7 => ?_) (fun hc7 => ?_)
  · refine lv_iconst (v := (1 : Int32)) hx hb dX5_rest_12 (by decide) ?_
    exact J2 _ _ _ (by rw [if_pos hc7]) I
  · refine lv_iconst (v := (0 : Int32)) hx hb dX5_rest_8 (by decide) ?_
    refine lv_goto (tgt := 13) hx hb dX5_rest_9 (by decide) ?_
    exact J2 _ _ _ (by rw [if_neg hc7]) I
set_option maxHeartbeats 4000000 in
set_option maxRecDepth 100000 in
theorem c5_solutionsOf {l : Launch} {D : va_G} {g : Nat → ClassId} {a : Nat → Nat} {st : MS} {x91 : Int32} {o : MS × Int32} (h : f5_solutionsOf st x91 = some o) : ct l yX5_solutionsOf cX5_solutionsOf 2 (some .int) (rmk 4 99) D g (mW g a st) (mW g a o.1) [.ref (a 0), .int x91] (some (.int o.2)) := by
  refine ct_of ⟨rfl, rfl⟩ (by decide) (Nat.le_of_ble_eq_true rfl) ?_
  intro p e s m args below meth c ls Q A H0 H locs E I hl K
  have E : en p m c cX5_solutionsOf 2 s args RX5 D g := E
  have hx := E.1.1
  have hb := E.1.2.1
  have hl : lv_has ls 2 [(0, .ref (a 0)), (1, .int x91)] := hl
  have K : ∀ (pc : Nat) (ls : Array Slot) (H : Heap) (locs : List Loc), wk D (mW g a o.1) A H0 H locs → decode cX5_solutionsOf pc = .ok (.ireturn, 1) → W p l e (rmk 4 99) s m args below meth c H locs 0 0 Q (F0 m pc ls [.int o.2]) := fun pc ls H locs I hd => K pc ls H locs I hd
  have h : ((bi1 (f5_restOf st x91) fun r2 => (bi1 (f5_list st x91 r2) fun st4 => (if ib x91 4 = true then some (st4, ((m_many st4) x91.toNatClampNeg)) else none))) : Option (MS × Int32)) = some o := h
  refine lv_aload_n hx hb dX5_solutionsOf_0 rfl (lv_at hl 0 rfl) ?_
  refine lv_iload_n hx hb dX5_solutionsOf_1 rfl (lv_at hl 1 rfl) ?_
  refine lv_aload_n hx hb dX5_solutionsOf_2 rfl (lv_at hl 0 rfl) ?_
  refine lv_iload_n hx hb dX5_solutionsOf_3 rfl (lv_at hl 1 rfl) ?_
  obtain ⟨r2, hc1, h⟩ := bx1 h
  refine r_callV1 (As := [.int x91]) (rest := [.int x91, .ref (a 0)]) (ws' := (mW g a st)) (q0 := 0) E I hl.1 k5_75 (c5_restOf hc1) mW_k rfl rfl rfl rfl (Nat.le_of_ble_eq_true rfl) ⟨Nat.le_of_ble_eq_true rfl, Nat.le_of_ble_eq_true rfl⟩ ⟨Nat.zero_le _, Nat.zero_le _⟩ dX5_solutionsOf_4 (fun H locs I => ?_)
  obtain ⟨st4, hc3, h⟩ := bx1 h
  refine r_callV0 (As := [.int x91, .int r2]) (rest := []) (ws' := (mW g a st4)) (q0 := 0) E I hl.1 k5_79 (c5_list hc3) mW_k rfl rfl rfl rfl (Nat.le_of_ble_eq_true rfl) ⟨Nat.le_of_ble_eq_true rfl, Nat.le_of_ble_eq_true rfl⟩ ⟨Nat.zero_le _, Nat.zero_le _⟩ dX5_solutionsOf_7 (fun H locs I => ?_)
  refine lv_aload_n hx hb dX5_solutionsOf_10 rfl (lv_at hl 0 rfl) ?_
  refine g5_28 E I dX5_solutionsOf_11 ?_
  refine lv_iload_n hx hb dX5_solutionsOf_14 rfl (lv_at hl 1 rfl) ?_
  obtain ⟨hc5, h⟩ := gd h
  refine m_ld7 E I (f := (m_many st4)) rfl hc5 dX5_solutionsOf_15 ?_
  cases h
  exact K _ _ _ _ I dX5_solutionsOf_16
set_option maxHeartbeats 4000000 in
set_option maxRecDepth 100000 in
theorem c5_solutions {l : Launch} {D : va_G} {g : Nat → ClassId} {a : Nat → Nat} {st : MS} {x91 : Int32} {o : MS × Int32} (h : f5_solutions st x91 = some o) : ct l yX5_solutions cX5_solutions 2 (some .int) (rmk 5 120) D g (mW g a st) (mW g a o.1) [.ref (a 0), .int x91] (some (.int o.2)) := by
  refine ct_of ⟨rfl, rfl⟩ (by decide) (Nat.le_of_ble_eq_true rfl) ?_
  intro p e s m args below meth c ls Q A H0 H locs E I hl K
  have E : en p m c cX5_solutions 2 s args RX5 D g := E
  have hx := E.1.1
  have hb := E.1.2.1
  have hl : lv_has ls 2 [(0, .ref (a 0)), (1, .int x91)] := hl
  have K : ∀ (pc : Nat) (ls : Array Slot) (H : Heap) (locs : List Loc), wk D (mW g a o.1) A H0 H locs → decode cX5_solutions pc = .ok (.ireturn, 1) → W p l e (rmk 5 120) s m args below meth c H locs 0 0 Q (F0 m pc ls [.int o.2]) := fun pc ls H locs I hd => K pc ls H locs I hd
  have h : ((if (if (f5_isConstant x91) = 0 then (1 : Int32) else (0 : Int32)) ≤ 0 then (bi2 (f5_solutionsOf (m_thrown_s st (if (f5_isConstant x91) = 0 then (1 : Int32) else (0 : Int32))) x91) fun st6 r7 => some (st6, r7)) else some ((m_thrown_s st (if (f5_isConstant x91) = 0 then (1 : Int32) else (0 : Int32))), (0 : Int32))) : Option (MS × Int32)) = some o := h
  refine lv_aload_n hx hb dX5_solutions_0 rfl (lv_at hl 0 rfl) ?_
  refine lv_iload_n hx hb dX5_solutions_1 rfl (lv_at hl 1 rfl) ?_
  refine r_callS1 (As := [.int x91]) (rest := [.ref (a 0)]) E I hl.1 k5_136 (c5_isConstant rfl) rfl rfl (Nat.le_of_ble_eq_true rfl) ⟨Nat.le_of_ble_eq_true rfl, Nat.le_of_ble_eq_true rfl⟩ ⟨Nat.zero_le _, Nat.zero_le _⟩ dX5_solutions_2 (fun H locs I => ?_)
  have J2 : ∀ (v1 : Int32) (H : Heap) (locs : List Loc), v1 = (if (f5_isConstant x91) = 0 then (1 : Int32) else (0 : Int32)) → wk D (mW g a st) A H0 H locs → W p l e (rmk 5 120) s m args below meth c H locs 0 0 Q (F0 m 13 ls [.int v1, .ref (a 0)]) := by
    intro v1 H locs hv3 I
    subst hv3
    refine p5_50 E I dX5_solutions_13 (fun H locs I => ?_)
    refine lv_aload_n hx hb dX5_solutions_16 rfl (lv_at hl 0 rfl) ?_
    refine g5_50 E I (v := (if (f5_isConstant x91) = 0 then (1 : Int32) else (0 : Int32))) rfl dX5_solutions_17 ?_
    refine lv_if_le (tgt := 27) hx hb dX5_solutions_20 (by decide) (fun hc4 => ?_) (fun hc4 => ?_)
    · have h := ifp hc4 h
      refine lv_aload_n hx hb dX5_solutions_27 rfl (lv_at hl 0 rfl) ?_
      refine lv_iload_n hx hb dX5_solutions_28 rfl (lv_at hl 1 rfl) ?_
      obtain ⟨st6, r7, hc5, h⟩ := bx2 h
      refine r_callV1 (As := [.int x91]) (rest := []) (ws' := (mW g a st6)) (q0 := 0) E I hl.1 k5_192 (c5_solutionsOf hc5) mW_k rfl rfl rfl rfl (Nat.le_of_ble_eq_true rfl) ⟨Nat.le_of_ble_eq_true rfl, Nat.le_of_ble_eq_true rfl⟩ ⟨Nat.zero_le _, Nat.zero_le _⟩ dX5_solutions_29 (fun H locs I => ?_)
      cases h
      exact K _ _ _ _ I dX5_solutions_32
    · have h := ifn hc4 h
      refine lv_iconst (v := (0 : Int32)) hx hb dX5_solutions_23 (by decide) ?_
      refine lv_goto (tgt := 32) hx hb dX5_solutions_24 (by decide) ?_
      cases h
      exact K _ _ _ _ I dX5_solutions_32
  refine lv_if_eq (tgt := 12) hx hb dX5_solutions_5 (by decide) (fun hc8 => ?_) (fun hc8 => ?_)
  · refine lv_iconst (v := (1 : Int32)) hx hb dX5_solutions_12 (by decide) ?_
    exact J2 _ _ _ (by rw [if_pos hc8]) I
  · refine lv_iconst (v := (0 : Int32)) hx hb dX5_solutions_8 (by decide) ?_
    refine lv_goto (tgt := 13) hx hb dX5_solutions_9 (by decide) ?_
    exact J2 _ _ _ (by rw [if_neg hc8]) I
set_option maxHeartbeats 4000000 in
set_option maxRecDepth 100000 in
theorem c5_matchersBy {l : Launch} {D : va_G} {g : Nat → ClassId} {a : Nat → Nat} {st : MS} {x91 : Int32} {o : MS × Int64} (h : f5_matchersBy st x91 = some o) : ct l yX5_matchersBy cX5_matchersBy 2 (some .long) (rmk 6 145) D g (mW g a st) (mW g a o.1) [.ref (a 0), .int x91] (some (.long o.2)) := by
  refine ct_of ⟨rfl, rfl⟩ (by decide) (Nat.le_of_ble_eq_true rfl) ?_
  intro p e s m args below meth c ls Q A H0 H locs E I hl K
  have E : en p m c cX5_matchersBy 2 s args RX5 D g := E
  have hx := E.1.1
  have hb := E.1.2.1
  have hl : lv_has ls 2 [(0, .ref (a 0)), (1, .int x91)] := hl
  have K : ∀ (pc : Nat) (ls : Array Slot) (H : Heap) (locs : List Loc), wk D (mW g a o.1) A H0 H locs → decode cX5_matchersBy pc = .ok (.lreturn, 1) → W p l e (rmk 6 145) s m args below meth c H locs 0 0 Q (F0 m pc ls [.long o.2]) := fun pc ls H locs I hd => K pc ls H locs I hd
  have h : ((if x91 = 0 then (bi2 (f5_matchersBySets st) fun st6 r7 => some (st6, r7)) else (bi2 (f5_matchersNow st) fun st3 r4 => some (st3, r4))) : Option (MS × Int64)) = some o := h
  refine lv_iload_n hx hb dX5_matchersBy_0 rfl (lv_at hl 1 rfl) ?_
  refine lv_if_ne (tgt := 11) hx hb dX5_matchersBy_1 (by decide) (fun hc1 => ?_) (fun hc1 => ?_)
  · have h := ifn hc1 h
    refine lv_aload_n hx hb dX5_matchersBy_11 rfl (lv_at hl 0 rfl) ?_
    obtain ⟨st3, r4, hc2, h⟩ := bx2 h
    refine r_callV1 (As := []) (rest := []) (ws' := (mW g a st3)) (q0 := 0) E I hl.1 k5_100 (c5_matchersNow hc2) mW_k rfl rfl rfl rfl (Nat.le_of_ble_eq_true rfl) ⟨Nat.le_of_ble_eq_true rfl, Nat.le_of_ble_eq_true rfl⟩ ⟨Nat.zero_le _, Nat.zero_le _⟩ dX5_matchersBy_12 (fun H locs I => ?_)
    cases h
    exact K _ _ _ _ I dX5_matchersBy_15
  · have h := ifp hc1 h
    refine lv_aload_n hx hb dX5_matchersBy_4 rfl (lv_at hl 0 rfl) ?_
    obtain ⟨st6, r7, hc5, h⟩ := bx2 h
    refine r_callV1 (As := []) (rest := []) (ws' := (mW g a st6)) (q0 := 0) E I hl.1 k5_195 (c5_matchersBySets hc5) mW_k rfl rfl rfl rfl (Nat.le_of_ble_eq_true rfl) ⟨Nat.le_of_ble_eq_true rfl, Nat.le_of_ble_eq_true rfl⟩ ⟨Nat.zero_le _, Nat.zero_le _⟩ dX5_matchersBy_5 (fun H locs I => ?_)
    refine lv_goto (tgt := 15) hx hb dX5_matchersBy_8 (by decide) ?_
    cases h
    exact K _ _ _ _ I dX5_matchersBy_15
set_option maxHeartbeats 4000000 in
set_option maxRecDepth 100000 in
theorem c5_matchers {l : Launch} {D : va_G} {g : Nat → ClassId} {a : Nat → Nat} {st : MS} {x91 : Int32} {o : MS × Int64} (h : f5_matchers st x91 = some o) : ct l yX5_matchers cX5_matchers 2 (some .long) (rmk 7 166) D g (mW g a st) (mW g a o.1) [.ref (a 0), .int x91] (some (.long o.2)) := by
  refine ct_of ⟨rfl, rfl⟩ (by decide) (Nat.le_of_ble_eq_true rfl) ?_
  intro p e s m args below meth c ls Q A H0 H locs E I hl K
  have E : en p m c cX5_matchers 2 s args RX5 D g := E
  have hx := E.1.1
  have hb := E.1.2.1
  have hl : lv_has ls 2 [(0, .ref (a 0)), (1, .int x91)] := hl
  have K : ∀ (pc : Nat) (ls : Array Slot) (H : Heap) (locs : List Loc), wk D (mW g a o.1) A H0 H locs → decode cX5_matchers pc = .ok (.lreturn, 1) → W p l e (rmk 7 166) s m args below meth c H locs 0 0 Q (F0 m pc ls [.long o.2]) := fun pc ls H locs I hd => K pc ls H locs I hd
  have h : ((if (if (f5_within x91 (0 : Int32) (1 : Int32)) = 0 then (1 : Int32) else (0 : Int32)) ≤ 0 then (bi2 (f5_matchersBy (m_thrown_s st (if (f5_within x91 (0 : Int32) (1 : Int32)) = 0 then (1 : Int32) else (0 : Int32))) x91) fun st6 r7 => some (st6, r7)) else some ((m_thrown_s st (if (f5_within x91 (0 : Int32) (1 : Int32)) = 0 then (1 : Int32) else (0 : Int32))), (0 : Int64))) : Option (MS × Int64)) = some o := h
  refine lv_aload_n hx hb dX5_matchers_0 rfl (lv_at hl 0 rfl) ?_
  refine lv_iload_n hx hb dX5_matchers_1 rfl (lv_at hl 1 rfl) ?_
  refine lv_iconst (v := (0 : Int32)) hx hb dX5_matchers_2 (by decide) ?_
  refine lv_iconst (v := (1 : Int32)) hx hb dX5_matchers_3 (by decide) ?_
  refine r_callS1 (As := [.int x91, .int (0 : Int32), .int (1 : Int32)]) (rest := [.ref (a 0)]) E I hl.1 k5_61 (c5_within rfl) rfl rfl (Nat.le_of_ble_eq_true rfl) ⟨Nat.le_of_ble_eq_true rfl, Nat.le_of_ble_eq_true rfl⟩ ⟨Nat.zero_le _, Nat.zero_le _⟩ dX5_matchers_4 (fun H locs I => ?_)
  have J2 : ∀ (v1 : Int32) (H : Heap) (locs : List Loc), v1 = (if (f5_within x91 (0 : Int32) (1 : Int32)) = 0 then (1 : Int32) else (0 : Int32)) → wk D (mW g a st) A H0 H locs → W p l e (rmk 7 166) s m args below meth c H locs 0 0 Q (F0 m 15 ls [.int v1, .ref (a 0)]) := by
    intro v1 H locs hv3 I
    subst hv3
    refine p5_50 E I dX5_matchers_15 (fun H locs I => ?_)
    refine lv_aload_n hx hb dX5_matchers_18 rfl (lv_at hl 0 rfl) ?_
    refine g5_50 E I (v := (if (f5_within x91 (0 : Int32) (1 : Int32)) = 0 then (1 : Int32) else (0 : Int32))) rfl dX5_matchers_19 ?_
    refine lv_if_le (tgt := 29) hx hb dX5_matchers_22 (by decide) (fun hc4 => ?_) (fun hc4 => ?_)
    · have h := ifp hc4 h
      refine lv_aload_n hx hb dX5_matchers_29 rfl (lv_at hl 0 rfl) ?_
      refine lv_iload_n hx hb dX5_matchers_30 rfl (lv_at hl 1 rfl) ?_
      obtain ⟨st6, r7, hc5, h⟩ := bx2 h
      refine r_callV1 (As := [.int x91]) (rest := []) (ws' := (mW g a st6)) (q0 := 0) E I hl.1 k5_198 (c5_matchersBy hc5) mW_k rfl rfl rfl rfl (Nat.le_of_ble_eq_true rfl) ⟨Nat.le_of_ble_eq_true rfl, Nat.le_of_ble_eq_true rfl⟩ ⟨Nat.zero_le _, Nat.zero_le _⟩ dX5_matchers_31 (fun H locs I => ?_)
      cases h
      exact K _ _ _ _ I dX5_matchers_34
    · have h := ifn hc4 h
      refine lv_lconst (v := (0 : Int64)) hx hb dX5_matchers_25 (by decide) ?_
      refine lv_goto (tgt := 34) hx hb dX5_matchers_26 (by decide) ?_
      cases h
      exact K _ _ _ _ I dX5_matchers_34
  refine lv_if_eq (tgt := 14) hx hb dX5_matchers_7 (by decide) (fun hc8 => ?_) (fun hc8 => ?_)
  · refine lv_iconst (v := (1 : Int32)) hx hb dX5_matchers_14 (by decide) ?_
    exact J2 _ _ _ (by rw [if_pos hc8]) I
  · refine lv_iconst (v := (0 : Int32)) hx hb dX5_matchers_10 (by decide) ?_
    refine lv_goto (tgt := 15) hx hb dX5_matchers_11 (by decide) ?_
    exact J2 _ _ _ (by rw [if_neg hc8]) I
set_option maxHeartbeats 4000000 in
set_option maxRecDepth 100000 in
theorem c5_value {l : Launch} {D : va_G} {g : Nat → ClassId} {a : Nat → Nat} {st : MS} {x91 : Int32} {x92 : Int32} {x93 : Int32} {o : MS × Int32} (h : f5_value st x91 x92 x93 = some o) : ct l yX5_value cX5_value 4 (some .int) (rmk 7 163) D g (mW g a st) (mW g a o.1) [.ref (a 0), .int x91, .int x92, .int x93] (some (.int o.2)) := by
  refine ct_of ⟨rfl, rfl⟩ (by decide) (Nat.le_of_ble_eq_true rfl) ?_
  intro p e s m args below meth c ls Q A H0 H locs E I hl K
  have E : en p m c cX5_value 4 s args RX5 D g := E
  have hx := E.1.1
  have hb := E.1.2.1
  have hl : lv_has ls 4 [(0, .ref (a 0)), (1, .int x91), (2, .int x92), (3, .int x93)] := hl
  have K : ∀ (pc : Nat) (ls : Array Slot) (H : Heap) (locs : List Loc), wk D (mW g a o.1) A H0 H locs → decode cX5_value pc = .ok (.ireturn, 1) → W p l e (rmk 7 163) s m args below meth c H locs 0 0 Q (F0 m pc ls [.int o.2]) := fun pc ls H locs I hd => K pc ls H locs I hd
  have h : ((if (f5_isVariable x92) = 0 then f5_value_j32 st x91 x92 x93 (1 : Int32) else (if (f5_isConstant x93) = 0 then f5_value_j32 st x91 x92 x93 (1 : Int32) else (bi2 (f5_isMatcher st x91) fun st15 r16 => (if r16 = 0 then f5_value_j32 st15 x91 x92 x93 (2 : Int32) else f5_value_j32 st15 x91 x92 x93 (0 : Int32))))) : Option (MS × Int32)) = some o := h
  refine lv_aload_n hx hb dX5_value_0 rfl (lv_at hl 0 rfl) ?_
  refine lv_iload_n hx hb dX5_value_1 rfl (lv_at hl 2 rfl) ?_
  refine r_callS1 (As := [.int x92]) (rest := [.ref (a 0)]) E I hl.1 k5_142 (c5_isVariable rfl) rfl rfl (Nat.le_of_ble_eq_true rfl) ⟨Nat.le_of_ble_eq_true rfl, Nat.le_of_ble_eq_true rfl⟩ ⟨Nat.zero_le _, Nat.zero_le _⟩ dX5_value_2 (fun H locs I => ?_)
  have J1 : ∀ (st2 : MS) (x3 : Int32) (x4 : Int32) (x5 : Int32) (y6 : Int32), f5_value_j32 st2 x3 x4 x5 y6 = some o → ∀ (H : Heap) (locs : List Loc) (ls : Array Slot), wk D (mW g a st2) A H0 H locs → lv_has ls 4 [(0, .ref (a 0)), (1, .int x3), (2, .int x4), (3, .int x5)] → W p l e (rmk 7 163) s m args below meth c H locs 0 0 Q (F0 m 32 ls [.int y6, .ref (a 0)]) := by
    intro st2 x3 x4 x5 y6 h H locs ls I hl
    have h : ((if y6 ≤ 0 then (bi1 (f5_layMatcher (m_thrown_s st2 y6) x3) fun st9 => (bi1 (f5_valueOf st9 x4 x5) fun r11 => some (st9, r11))) else some ((m_thrown_s st2 y6), (0 : Int32))) : Option (MS × Int32)) = some o := h
    refine p5_50 E I dX5_value_32 (fun H locs I => ?_)
    refine lv_aload_n hx hb dX5_value_35 rfl (lv_at hl 0 rfl) ?_
    refine g5_50 E I (v := y6) rfl dX5_value_36 ?_
    refine lv_if_le (tgt := 44) hx hb dX5_value_39 (by decide) (fun hc7 => ?_) (fun hc7 => ?_)
    · have h := ifp hc7 h
      refine lv_aload_n hx hb dX5_value_44 rfl (lv_at hl 0 rfl) ?_
      refine lv_iload_n hx hb dX5_value_45 rfl (lv_at hl 1 rfl) ?_
      obtain ⟨st9, hc8, h⟩ := bx1 h
      refine r_callV0 (As := [.int x3]) (rest := []) (ws' := (mW g a st9)) (q0 := 0) E I hl.1 k5_157 (c5_layMatcher hc8) mW_k rfl rfl rfl rfl (Nat.le_of_ble_eq_true rfl) ⟨Nat.le_of_ble_eq_true rfl, Nat.le_of_ble_eq_true rfl⟩ ⟨Nat.zero_le _, Nat.zero_le _⟩ dX5_value_46 (fun H locs I => ?_)
      refine lv_aload_n hx hb dX5_value_49 rfl (lv_at hl 0 rfl) ?_
      refine lv_iload_n hx hb dX5_value_50 rfl (lv_at hl 2 rfl) ?_
      refine lv_iload_n hx hb dX5_value_51 rfl (lv_at hl 3 rfl) ?_
      obtain ⟨r11, hc10, h⟩ := bx1 h
      refine r_callV1 (As := [.int x4, .int x5]) (rest := []) (ws' := (mW g a st9)) (q0 := 0) E I hl.1 k5_201 (c5_valueOf hc10) mW_k rfl rfl rfl rfl (Nat.le_of_ble_eq_true rfl) ⟨Nat.le_of_ble_eq_true rfl, Nat.le_of_ble_eq_true rfl⟩ ⟨Nat.zero_le _, Nat.zero_le _⟩ dX5_value_52 (fun H locs I => ?_)
      cases h
      exact K _ _ _ _ I dX5_value_55
    · have h := ifn hc7 h
      refine lv_iconst (v := (0 : Int32)) hx hb dX5_value_42 (by decide) ?_
      cases h
      exact K _ _ _ _ I dX5_value_43
  refine lv_if_eq (tgt := 15) hx hb dX5_value_5 (by decide) (fun hc12 => ?_) (fun hc12 => ?_)
  · have h := ifp hc12 h
    refine lv_iconst (v := (1 : Int32)) hx hb dX5_value_15 (by decide) ?_
    refine lv_goto (tgt := 32) hx hb dX5_value_16 (by decide) ?_
    exact J1 _ _ _ _ _ h _ _ _ I (lv_sub hl [0, 1, 2, 3] rfl)
  · have h := ifn hc12 h
    refine lv_iload_n hx hb dX5_value_8 rfl (lv_at hl 3 rfl) ?_
    refine r_callS1 (As := [.int x93]) (rest := [.ref (a 0)]) E I hl.1 k5_136 (c5_isConstant rfl) rfl rfl (Nat.le_of_ble_eq_true rfl) ⟨Nat.le_of_ble_eq_true rfl, Nat.le_of_ble_eq_true rfl⟩ ⟨Nat.zero_le _, Nat.zero_le _⟩ dX5_value_9 (fun H locs I => ?_)
    refine lv_if_ne (tgt := 19) hx hb dX5_value_12 (by decide) (fun hc13 => ?_) (fun hc13 => ?_)
    · have h := ifn hc13 h
      refine lv_aload_n hx hb dX5_value_19 rfl (lv_at hl 0 rfl) ?_
      refine lv_iload_n hx hb dX5_value_20 rfl (lv_at hl 1 rfl) ?_
      obtain ⟨st15, r16, hc14, h⟩ := bx2 h
      refine r_callV1 (As := [.int x91]) (rest := [.ref (a 0)]) (ws' := (mW g a st15)) (q0 := 0) E I hl.1 k5_154 (c5_isMatcher hc14) mW_k rfl rfl rfl rfl (Nat.le_of_ble_eq_true rfl) ⟨Nat.le_of_ble_eq_true rfl, Nat.le_of_ble_eq_true rfl⟩ ⟨Nat.zero_le _, Nat.zero_le _⟩ dX5_value_21 (fun H locs I => ?_)
      refine lv_if_eq (tgt := 31) hx hb dX5_value_24 (by decide) (fun hc17 => ?_) (fun hc17 => ?_)
      · have h := ifp hc17 h
        refine lv_iconst (v := (2 : Int32)) hx hb dX5_value_31 (by decide) ?_
        exact J1 _ _ _ _ _ h _ _ _ I (lv_sub hl [0, 1, 2, 3] rfl)
      · have h := ifn hc17 h
        refine lv_iconst (v := (0 : Int32)) hx hb dX5_value_27 (by decide) ?_
        refine lv_goto (tgt := 32) hx hb dX5_value_28 (by decide) ?_
        exact J1 _ _ _ _ _ h _ _ _ I (lv_sub hl [0, 1, 2, 3] rfl)
    · have h := ifp hc13 h
      refine lv_iconst (v := (1 : Int32)) hx hb dX5_value_15 (by decide) ?_
      refine lv_goto (tgt := 32) hx hb dX5_value_16 (by decide) ?_
      exact J1 _ _ _ _ _ h _ _ _ I (lv_sub hl [0, 1, 2, 3] rfl)
set_option maxHeartbeats 4000000 in
set_option maxRecDepth 100000 in
theorem c5_leastAt {l : Launch} {D : va_G} {g : Nat → ClassId} {a : Nat → Nat} {st : MS} {x91 : Int32} {x92 : Int32} {o : MS × Int32} (h : f5_leastAt st x91 x92 = some o) : ct l yX5_leastAt cX5_leastAt 3 (some .int) (rmk 5 110) D g (mW g a st) (mW g a o.1) [.ref (a 0), .int x91, .int x92] (some (.int o.2)) := by
  refine ct_of ⟨rfl, rfl⟩ (by decide) (Nat.le_of_ble_eq_true rfl) ?_
  intro p e s m args below meth c ls Q A H0 H locs E I hl K
  have E : en p m c cX5_leastAt 3 s args RX5 D g := E
  have hx := E.1.1
  have hb := E.1.2.1
  have hl : lv_has ls 3 [(0, .ref (a 0)), (1, .int x91), (2, .int x92)] := hl
  have K : ∀ (pc : Nat) (ls : Array Slot) (H : Heap) (locs : List Loc), wk D (mW g a o.1) A H0 H locs → decode cX5_leastAt pc = .ok (.ireturn, 1) → W p l e (rmk 5 110) s m args below meth c H locs 0 0 Q (F0 m pc ls [.int o.2]) := fun pc ls H locs I hd => K pc ls H locs I hd
  have h : ((bi1 (f5_layLeast st) fun st2 => (if (m_leastMany st2) ≤ x91 then some (st2, (-1 : Int32)) else (if ib x91 400 = true then some (st2, (f5_digit ((m_leastOnes st2) x91.toNatClampNeg) x92)) else none))) : Option (MS × Int32)) = some o := h
  refine lv_aload_n hx hb dX5_leastAt_0 rfl (lv_at hl 0 rfl) ?_
  obtain ⟨st2, hc1, h⟩ := bx1 h
  refine r_callV0 (As := []) (rest := []) (ws' := (mW g a st2)) (q0 := 0) E I hl.1 k5_130 (c5_layLeast hc1) mW_k rfl rfl rfl rfl (Nat.le_of_ble_eq_true rfl) ⟨Nat.le_of_ble_eq_true rfl, Nat.le_of_ble_eq_true rfl⟩ ⟨Nat.zero_le _, Nat.zero_le _⟩ dX5_leastAt_1 (fun H locs I => ?_)
  refine lv_iload_n hx hb dX5_leastAt_4 rfl (lv_at hl 1 rfl) ?_
  refine lv_aload_n hx hb dX5_leastAt_5 rfl (lv_at hl 0 rfl) ?_
  refine g5_116 E I (v := (m_leastMany st2)) rfl dX5_leastAt_6 ?_
  refine lv_icmp_ge (tgt := 25) hx hb dX5_leastAt_9 (by decide) (fun hc3 => ?_) (fun hc3 => ?_)
  · have h := ifp hc3 h
    refine lv_iconst (v := (-1 : Int32)) hx hb dX5_leastAt_25 (by decide) ?_
    cases h
    exact K _ _ _ _ I dX5_leastAt_26
  · have h := ifn hc3 h
    refine lv_aload_n hx hb dX5_leastAt_12 rfl (lv_at hl 0 rfl) ?_
    refine g5_41 E I dX5_leastAt_13 ?_
    refine lv_iload_n hx hb dX5_leastAt_16 rfl (lv_at hl 1 rfl) ?_
    obtain ⟨hc4, h⟩ := gd h
    refine m_ld11 E I (f := (m_leastOnes st2)) rfl hc4 dX5_leastAt_17 ?_
    refine lv_iload_n hx hb dX5_leastAt_18 rfl (lv_at hl 2 rfl) ?_
    refine r_callS1 (As := [.int ((m_leastOnes st2) x91.toNatClampNeg), .int x92]) (rest := []) E I hl.1 k5_113 (c5_digit rfl) rfl rfl (Nat.le_of_ble_eq_true rfl) ⟨Nat.le_of_ble_eq_true rfl, Nat.le_of_ble_eq_true rfl⟩ ⟨Nat.zero_le _, Nat.zero_le _⟩ dX5_leastAt_19 (fun H locs I => ?_)
    refine lv_goto (tgt := 26) hx hb dX5_leastAt_22 (by decide) ?_
    cases h
    exact K _ _ _ _ I dX5_leastAt_26
set_option maxHeartbeats 4000000 in
set_option maxRecDepth 100000 in
theorem c5_least {l : Launch} {D : va_G} {g : Nat → ClassId} {a : Nat → Nat} {st : MS} {x91 : Int32} {x92 : Int32} {o : MS × Int32} (h : f5_least st x91 x92 = some o) : ct l yX5_least cX5_least 3 (some .int) (rmk 6 132) D g (mW g a st) (mW g a o.1) [.ref (a 0), .int x91, .int x92] (some (.int o.2)) := by
  refine ct_of ⟨rfl, rfl⟩ (by decide) (Nat.le_of_ble_eq_true rfl) ?_
  intro p e s m args below meth c ls Q A H0 H locs E I hl K
  have E : en p m c cX5_least 3 s args RX5 D g := E
  have hx := E.1.1
  have hb := E.1.2.1
  have hl : lv_has ls 3 [(0, .ref (a 0)), (1, .int x91), (2, .int x92)] := hl
  have K : ∀ (pc : Nat) (ls : Array Slot) (H : Heap) (locs : List Loc), wk D (mW g a o.1) A H0 H locs → decode cX5_least pc = .ok (.ireturn, 1) → W p l e (rmk 6 132) s m args below meth c H locs 0 0 Q (F0 m pc ls [.int o.2]) := fun pc ls H locs I hd => K pc ls H locs I hd
  have h : ((if (if (f5_isVariable x92) = 0 then (1 : Int32) else (if 0 ≤ x91 then (0 : Int32) else (2 : Int32))) ≤ 0 then (bi2 (f5_leastAt (m_thrown_s st (if (f5_isVariable x92) = 0 then (1 : Int32) else (if 0 ≤ x91 then (0 : Int32) else (2 : Int32)))) x91 x92) fun st6 r7 => some (st6, r7)) else some ((m_thrown_s st (if (f5_isVariable x92) = 0 then (1 : Int32) else (if 0 ≤ x91 then (0 : Int32) else (2 : Int32)))), (0 : Int32))) : Option (MS × Int32)) = some o := h
  refine lv_aload_n hx hb dX5_least_0 rfl (lv_at hl 0 rfl) ?_
  refine lv_iload_n hx hb dX5_least_1 rfl (lv_at hl 2 rfl) ?_
  refine r_callS1 (As := [.int x92]) (rest := [.ref (a 0)]) E I hl.1 k5_142 (c5_isVariable rfl) rfl rfl (Nat.le_of_ble_eq_true rfl) ⟨Nat.le_of_ble_eq_true rfl, Nat.le_of_ble_eq_true rfl⟩ ⟨Nat.zero_le _, Nat.zero_le _⟩ dX5_least_2 (fun H locs I => ?_)
  have J2 : ∀ (v1 : Int32) (H : Heap) (locs : List Loc), v1 = (if (f5_isVariable x92) = 0 then (1 : Int32) else (if 0 ≤ x91 then (0 : Int32) else (2 : Int32))) → wk D (mW g a st) A H0 H locs → W p l e (rmk 6 132) s m args below meth c H locs 0 0 Q (F0 m 21 ls [.int v1, .ref (a 0)]) := by
    intro v1 H locs hv3 I
    subst hv3
    refine p5_50 E I dX5_least_21 (fun H locs I => ?_)
    refine lv_aload_n hx hb dX5_least_24 rfl (lv_at hl 0 rfl) ?_
    refine g5_50 E I (v := (if (f5_isVariable x92) = 0 then (1 : Int32) else (if 0 ≤ x91 then (0 : Int32) else (2 : Int32)))) rfl dX5_least_25 ?_
    refine lv_if_le (tgt := 35) hx hb dX5_least_28 (by decide) (fun hc4 => ?_) (fun hc4 => ?_)
    · have h := ifp hc4 h
      refine lv_aload_n hx hb dX5_least_35 rfl (lv_at hl 0 rfl) ?_
      refine lv_iload_n hx hb dX5_least_36 rfl (lv_at hl 1 rfl) ?_
      refine lv_iload_n hx hb dX5_least_37 rfl (lv_at hl 2 rfl) ?_
      obtain ⟨st6, r7, hc5, h⟩ := bx2 h
      refine r_callV1 (As := [.int x91, .int x92]) (rest := []) (ws' := (mW g a st6)) (q0 := 0) E I hl.1 k5_204 (c5_leastAt hc5) mW_k rfl rfl rfl rfl (Nat.le_of_ble_eq_true rfl) ⟨Nat.le_of_ble_eq_true rfl, Nat.le_of_ble_eq_true rfl⟩ ⟨Nat.zero_le _, Nat.zero_le _⟩ dX5_least_38 (fun H locs I => ?_)
      cases h
      exact K _ _ _ _ I dX5_least_41
    · have h := ifn hc4 h
      refine lv_iconst (v := (0 : Int32)) hx hb dX5_least_31 (by decide) ?_
      refine lv_goto (tgt := 41) hx hb dX5_least_32 (by decide) ?_
      cases h
      exact K _ _ _ _ I dX5_least_41
  refine lv_if_ne (tgt := 12) hx hb dX5_least_5 (by decide) (fun hc8 => ?_) (fun hc8 => ?_)
  · refine lv_iload_n hx hb dX5_least_12 rfl (lv_at hl 1 rfl) ?_
    refine lv_if_ge (tgt := 20) hx hb dX5_least_13 (by decide) (fun hc9 => ?_) (fun hc9 => ?_)
    · refine lv_iconst (v := (0 : Int32)) hx hb dX5_least_20 (by decide) ?_
      exact J2 _ _ _ (by rw [if_neg hc8, if_pos hc9]) I
    · refine lv_iconst (v := (2 : Int32)) hx hb dX5_least_16 (by decide) ?_
      refine lv_goto (tgt := 21) hx hb dX5_least_17 (by decide) ?_
      exact J2 _ _ _ (by rw [if_neg hc8, if_neg hc9]) I
  · refine lv_iconst (v := (1 : Int32)) hx hb dX5_least_8 (by decide) ?_
    refine lv_goto (tgt := 21) hx hb dX5_least_9 (by decide) ?_
    exact J2 _ _ _ (by rw [if_pos hc8]) I
set_option maxHeartbeats 4000000 in
set_option maxRecDepth 100000 in
theorem c5_isSmall {l : Launch} {D : va_G} {g : Nat → ClassId} {x90 : Int32} {o : Int32} (h : f5_isSmall x90 = o) : ct l yX5_isSmall cX5_isSmall 1 (some .boolean) (rmk 1 22) D g [] [] [.int x90] (some (.int o)) := by
  refine ct_of ⟨rfl, rfl⟩ (by decide) (Nat.le_of_ble_eq_true rfl) ?_
  intro p e s m args below meth c ls Q A H0 H locs E I hl K
  have E : en p m c cX5_isSmall 1 s args RX5 D g := E
  have hx := E.1.1
  have hb := E.1.2.1
  have hl : lv_has ls 1 [(0, .int x90)] := hl
  have K : ∀ (pc : Nat) (ls : Array Slot) (H : Heap) (locs : List Loc), wk D [] A H0 H locs → decode cX5_isSmall pc = .ok (.ireturn, 1) → zok o = true → W p l e (rmk 1 22) s m args below meth c H locs 0 0 Q (F0 m pc ls [.int o]) := fun pc ls H locs I hd hz => K pc ls H locs I ⟨hd, hz⟩
  have h : ((f5_within x90 (0 : Int32) (6 : Int32)) : Int32) = o := h
  refine lv_iload_n hx hb dX5_isSmall_0 rfl (lv_at hl 0 rfl) ?_
  refine lv_iconst (v := (0 : Int32)) hx hb dX5_isSmall_1 (by decide) ?_
  refine lv_bipush (v := (6 : Int32)) hx hb dX5_isSmall_2 (by decide) ?_
  refine r_callS1 (As := [.int x90, .int (0 : Int32), .int (6 : Int32)]) (rest := []) E I hl.1 k5_61 (c5_within rfl) rfl rfl (Nat.le_of_ble_eq_true rfl) ⟨Nat.le_of_ble_eq_true rfl, Nat.le_of_ble_eq_true rfl⟩ ⟨Nat.zero_le _, Nat.zero_le _⟩ dX5_isSmall_4 (fun H locs I => ?_)
  cases h
  exact K _ _ _ _ I dX5_isSmall_7 (z5_within _ _ _)
set_option maxHeartbeats 4000000 in
set_option maxRecDepth 100000 in
theorem c5_sums {l : Launch} {D : va_G} {g : Nat → ClassId} {a : Nat → Nat} {st : MS} {x91 : Int32} {x92 : Int32} {x93 : Int32} {x94 : Int32} {o : MS × Int32} (h : f5_sums st x91 x92 x93 x94 = some o) : ct l yX5_sums cX5_sums 5 (some .int) (rmk 6 139) D g (mW g a st) (mW g a o.1) [.ref (a 0), .int x91, .int x92, .int x93, .int x94] (some (.int o.2)) := by
  refine ct_of ⟨rfl, rfl⟩ (by decide) (Nat.le_of_ble_eq_true rfl) ?_
  intro p e s m args below meth c ls Q A H0 H locs E I hl K
  have E : en p m c cX5_sums 5 s args RX5 D g := E
  have hx := E.1.1
  have hb := E.1.2.1
  have hl : lv_has ls 5 [(0, .ref (a 0)), (1, .int x91), (2, .int x92), (3, .int x93), (4, .int x94)] := hl
  have K : ∀ (pc : Nat) (ls : Array Slot) (H : Heap) (locs : List Loc), wk D (mW g a o.1) A H0 H locs → decode cX5_sums pc = .ok (.ireturn, 1) → W p l e (rmk 6 139) s m args below meth c H locs 0 0 Q (F0 m pc ls [.int o.2]) := fun pc ls H locs I hd => K pc ls H locs I hd
  have h : ((if (if (f5_isSmall x91) = 0 then (1 : Int32) else (if (f5_isSmall x92) = 0 then (1 : Int32) else (if (f5_isSmall x93) = 0 then (1 : Int32) else (if (f5_isSmall x94) = 0 then (1 : Int32) else (0 : Int32))))) ≤ 0 then (bi2 (f5_sumsTo (m_thrown_s st (if (f5_isSmall x91) = 0 then (1 : Int32) else (if (f5_isSmall x92) = 0 then (1 : Int32) else (if (f5_isSmall x93) = 0 then (1 : Int32) else (if (f5_isSmall x94) = 0 then (1 : Int32) else (0 : Int32)))))) x91 x92 x93 x94) fun st6 r7 => some (st6, r7)) else some ((m_thrown_s st (if (f5_isSmall x91) = 0 then (1 : Int32) else (if (f5_isSmall x92) = 0 then (1 : Int32) else (if (f5_isSmall x93) = 0 then (1 : Int32) else (if (f5_isSmall x94) = 0 then (1 : Int32) else (0 : Int32)))))), (0 : Int32))) : Option (MS × Int32)) = some o := h
  refine lv_aload_n hx hb dX5_sums_0 rfl (lv_at hl 0 rfl) ?_
  refine lv_iload_n hx hb dX5_sums_1 rfl (lv_at hl 1 rfl) ?_
  refine r_callS1 (As := [.int x91]) (rest := [.ref (a 0)]) E I hl.1 k5_207 (c5_isSmall rfl) rfl rfl (Nat.le_of_ble_eq_true rfl) ⟨Nat.le_of_ble_eq_true rfl, Nat.le_of_ble_eq_true rfl⟩ ⟨Nat.zero_le _, Nat.zero_le _⟩ dX5_sums_2 (fun H locs I => ?_)
  have J2 : ∀ (v1 : Int32) (H : Heap) (locs : List Loc), v1 = (if (f5_isSmall x91) = 0 then (1 : Int32) else (if (f5_isSmall x92) = 0 then (1 : Int32) else (if (f5_isSmall x93) = 0 then (1 : Int32) else (if (f5_isSmall x94) = 0 then (1 : Int32) else (0 : Int32))))) → wk D (mW g a st) A H0 H locs → W p l e (rmk 6 139) s m args below meth c H locs 0 0 Q (F0 m 35 ls [.int v1, .ref (a 0)]) := by
    intro v1 H locs hv3 I
    subst hv3
    refine p5_50 E I dX5_sums_35 (fun H locs I => ?_)
    refine lv_aload_n hx hb dX5_sums_38 rfl (lv_at hl 0 rfl) ?_
    refine g5_50 E I (v := (if (f5_isSmall x91) = 0 then (1 : Int32) else (if (f5_isSmall x92) = 0 then (1 : Int32) else (if (f5_isSmall x93) = 0 then (1 : Int32) else (if (f5_isSmall x94) = 0 then (1 : Int32) else (0 : Int32)))))) rfl dX5_sums_39 ?_
    refine lv_if_le (tgt := 49) hx hb dX5_sums_42 (by decide) (fun hc4 => ?_) (fun hc4 => ?_)
    · have h := ifp hc4 h
      refine lv_aload_n hx hb dX5_sums_49 rfl (lv_at hl 0 rfl) ?_
      refine lv_iload_n hx hb dX5_sums_50 rfl (lv_at hl 1 rfl) ?_
      refine lv_iload_n hx hb dX5_sums_51 rfl (lv_at hl 2 rfl) ?_
      refine lv_iload_n hx hb dX5_sums_52 rfl (lv_at hl 3 rfl) ?_
      refine lv_iload hx hb dX5_sums_53 (lv_at hl 4 rfl) ?_
      obtain ⟨st6, r7, hc5, h⟩ := bx2 h
      refine r_callV1 (As := [.int x91, .int x92, .int x93, .int x94]) (rest := []) (ws' := (mW g a st6)) (q0 := 0) E I hl.1 k5_210 (c5_sumsTo hc5) mW_k rfl rfl rfl rfl (Nat.le_of_ble_eq_true rfl) ⟨Nat.le_of_ble_eq_true rfl, Nat.le_of_ble_eq_true rfl⟩ ⟨Nat.zero_le _, Nat.zero_le _⟩ dX5_sums_55 (fun H locs I => ?_)
      cases h
      exact K _ _ _ _ I dX5_sums_58
    · have h := ifn hc4 h
      refine lv_iconst (v := (0 : Int32)) hx hb dX5_sums_45 (by decide) ?_
      refine lv_goto (tgt := 58) hx hb dX5_sums_46 (by decide) ?_
      cases h
      exact K _ _ _ _ I dX5_sums_58
  refine lv_if_eq (tgt := 34) hx hb dX5_sums_5 (by decide) (fun hc8 => ?_) (fun hc8 => ?_)
  · refine lv_iconst (v := (1 : Int32)) hx hb dX5_sums_34 (by decide) ?_
    exact J2 _ _ _ (by rw [if_pos hc8]) I
  · refine lv_iload_n hx hb dX5_sums_8 rfl (lv_at hl 2 rfl) ?_
    refine r_callS1 (As := [.int x92]) (rest := [.ref (a 0)]) E I hl.1 k5_207 (c5_isSmall rfl) rfl rfl (Nat.le_of_ble_eq_true rfl) ⟨Nat.le_of_ble_eq_true rfl, Nat.le_of_ble_eq_true rfl⟩ ⟨Nat.zero_le _, Nat.zero_le _⟩ dX5_sums_9 (fun H locs I => ?_)
    refine lv_if_eq (tgt := 34) hx hb dX5_sums_12 (by decide) (fun hc9 => ?_) (fun hc9 => ?_)
    · refine lv_iconst (v := (1 : Int32)) hx hb dX5_sums_34 (by decide) ?_
      exact J2 _ _ _ (by rw [if_neg hc8, if_pos hc9]) I
    · refine lv_iload_n hx hb dX5_sums_15 rfl (lv_at hl 3 rfl) ?_
      refine r_callS1 (As := [.int x93]) (rest := [.ref (a 0)]) E I hl.1 k5_207 (c5_isSmall rfl) rfl rfl (Nat.le_of_ble_eq_true rfl) ⟨Nat.le_of_ble_eq_true rfl, Nat.le_of_ble_eq_true rfl⟩ ⟨Nat.zero_le _, Nat.zero_le _⟩ dX5_sums_16 (fun H locs I => ?_)
      refine lv_if_eq (tgt := 34) hx hb dX5_sums_19 (by decide) (fun hc10 => ?_) (fun hc10 => ?_)
      · refine lv_iconst (v := (1 : Int32)) hx hb dX5_sums_34 (by decide) ?_
        exact J2 _ _ _ (by rw [if_neg hc8, if_neg hc9, if_pos hc10]) I
      · refine lv_iload hx hb dX5_sums_22 (lv_at hl 4 rfl) ?_
        refine r_callS1 (As := [.int x94]) (rest := [.ref (a 0)]) E I hl.1 k5_207 (c5_isSmall rfl) rfl rfl (Nat.le_of_ble_eq_true rfl) ⟨Nat.le_of_ble_eq_true rfl, Nat.le_of_ble_eq_true rfl⟩ ⟨Nat.zero_le _, Nat.zero_le _⟩ dX5_sums_24 (fun H locs I => ?_)
        refine lv_if_eq (tgt := 34) hx hb dX5_sums_27 (by decide) (fun hc11 => ?_) (fun hc11 => ?_)
        · refine lv_iconst (v := (1 : Int32)) hx hb dX5_sums_34 (by decide) ?_
          exact J2 _ _ _ (by rw [if_neg hc8, if_neg hc9, if_neg hc10, if_pos hc11]) I
        · refine lv_iconst (v := (0 : Int32)) hx hb dX5_sums_30 (by decide) ?_
          refine lv_goto (tgt := 35) hx hb dX5_sums_31 (by decide) ?_
          exact J2 _ _ _ (by rw [if_neg hc8, if_neg hc9, if_neg hc10, if_neg hc11]) I
set_option maxHeartbeats 4000000 in
set_option maxRecDepth 100000 in
theorem c5_negativeRests {l : Launch} {D : va_G} {g : Nat → ClassId} {a : Nat → Nat} {st : MS} {o : Int32} (h : f5_negativeRests st = some o) : ct l yX5_negativeRests cX5_negativeRests 3 (some .int) (rmk 2 43) D g (mW g a st) (mW g a st) [.ref (a 0)] (some (.int o)) := by
  refine ct_of ⟨rfl, rfl⟩ (by decide) (Nat.le_of_ble_eq_true rfl) ?_
  intro p e s m args below meth c ls Q A H0 H locs E I hl K
  have E : en p m c cX5_negativeRests 3 s args RX5 D g := E
  have hx := E.1.1
  have hb := E.1.2.1
  have hl : lv_has ls 3 [(0, .ref (a 0))] := hl
  have K : ∀ (pc : Nat) (ls : Array Slot) (H : Heap) (locs : List Loc), wk D (mW g a st) A H0 H locs → decode cX5_negativeRests pc = .ok (.ireturn, 1) → W p l e (rmk 2 43) s m args below meth c H locs 0 0 Q (F0 m pc ls [.int o]) := fun pc ls H locs I hd => K pc ls H locs I hd
  have h : ((bi1 (wh (f5_negativeRests_b4 st) FU ((0 : Int32), (0 : Int32))) fun w16 => some w16) : Option Int32) = some o := h
  refine lv_iconst (v := (0 : Int32)) hx hb dX5_negativeRests_0 (by decide) ?_
  refine lv_istore_n (lv' := [(1, .int (0 : Int32)), (0, .ref (a 0))]) hx hb dX5_negativeRests_1 rfl hl (by decide) rfl (fun ls hl => ?_)
  refine lv_iconst (v := (0 : Int32)) hx hb dX5_negativeRests_2 (by decide) ?_
  refine lv_istore_n (lv' := [(2, .int (0 : Int32)), (1, .int (0 : Int32)), (0, .ref (a 0))]) hx hb dX5_negativeRests_3 rfl hl (by decide) rfl (fun ls hl => ?_)
  obtain ⟨z13, hw14, h⟩ := bx1 h
  refine wh_W (P := fun (z : Int32 × Int32) => ∀ (H : Heap) (locs : List Loc) (ls : Array Slot), wk D (mW g a st) A H0 H locs → lv_has ls 3 [(0, .ref (a 0)), (1, .int z.1), (2, .int z.2)] → W p l e (rmk 2 43) s m args below meth c H locs 0 0 Q (F0 m 4 ls [])) (X := fun (z : Int32) => ∀ (H : Heap) (locs : List Loc) (ls : Array Slot), wk D (mW g a st) A H0 H locs → lv_has ls 3 [(1, .int z)] → W p l e (rmk 2 43) s m args below meth c H locs 0 0 Q (F0 m 31 ls [])) ?_ FU _ _ hw14 ?_ _ _ _ I (lv_sub hl [2, 1, 0] rfl)
  · intro z o4 h hk5 H locs ls I hl
    obtain ⟨x2, x3⟩ := z
    have h : ((if (4 : Int32) ≤ x3 then some (.inr x2) else (bi1 (f5_restOf st x3) fun r8 => some (.inl ((x2 + (if 0 ≤ r8 then (0 : Int32) else (1 : Int32))), (x3 + 1))))) : Option ((Int32 × Int32) ⊕ (Int32))) = some o4 := h
    have I : wk D (mW g a st) A H0 H locs := I
    have hl : lv_has ls 3 [(0, .ref (a 0)), (1, .int x2), (2, .int x3)] := hl
    refine lv_iload_n hx hb dX5_negativeRests_4 rfl (lv_at hl 2 rfl) ?_
    refine lv_iconst (v := (4 : Int32)) hx hb dX5_negativeRests_5 (by decide) ?_
    refine lv_icmp_ge (tgt := 31) hx hb dX5_negativeRests_6 (by decide) (fun hc6 => ?_) (fun hc6 => ?_)
    · have h := ifp hc6 h
      cases h
      exact hk5 _ _ _ I (lv_sub hl [1] rfl)
    · have h := ifn hc6 h
      refine lv_iload_n hx hb dX5_negativeRests_9 rfl (lv_at hl 1 rfl) ?_
      refine lv_aload_n hx hb dX5_negativeRests_10 rfl (lv_at hl 0 rfl) ?_
      refine lv_iload_n hx hb dX5_negativeRests_11 rfl (lv_at hl 2 rfl) ?_
      obtain ⟨r8, hc7, h⟩ := bx1 h
      refine r_callV1 (As := [.int x3]) (rest := [.int x2]) (ws' := (mW g a st)) (q0 := 0) E I hl.1 k5_75 (c5_restOf hc7) mW_k rfl rfl rfl rfl (Nat.le_of_ble_eq_true rfl) ⟨Nat.le_of_ble_eq_true rfl, Nat.le_of_ble_eq_true rfl⟩ ⟨Nat.zero_le _, Nat.zero_le _⟩ dX5_negativeRests_12 (fun H locs I => ?_)
      have J10 : ∀ (v9 : Int32) (H : Heap) (locs : List Loc), v9 = (if 0 ≤ r8 then (0 : Int32) else (1 : Int32)) → wk D (mW g a st) A H0 H locs → W p l e (rmk 2 43) s m args below meth c H locs 0 0 Q (F0 m 23 ls [.int v9, .int x2]) := by
        intro v9 H locs hv11 I
        subst hv11
        refine lv_iadd hx hb dX5_negativeRests_23 ?_
        refine lv_istore_n (lv' := [(1, .int (x2 + (if 0 ≤ r8 then (0 : Int32) else (1 : Int32)))), (0, .ref (a 0)), (2, .int x3)]) hx hb dX5_negativeRests_24 rfl hl (by decide) rfl (fun ls hl => ?_)
        refine lv_iinc (v := (x3 + 1)) (lv' := [(2, .int (x3 + 1)), (1, .int (x2 + (if 0 ≤ r8 then (0 : Int32) else (1 : Int32)))), (0, .ref (a 0))]) hx hb dX5_negativeRests_25 hl (k := 2) rfl rfl (by decide) rfl (fun ls hl => ?_)
        refine lv_goto (tgt := 4) hx hb dX5_negativeRests_28 (by decide) ?_
        cases h
        exact hk5 _ _ _ I (lv_sub hl [2, 1, 0] rfl)
      refine lv_if_ge (tgt := 22) hx hb dX5_negativeRests_15 (by decide) (fun hc12 => ?_) (fun hc12 => ?_)
      · refine lv_iconst (v := (0 : Int32)) hx hb dX5_negativeRests_22 (by decide) ?_
        exact J10 _ _ _ (by rw [if_pos hc12]) I
      · refine lv_iconst (v := (1 : Int32)) hx hb dX5_negativeRests_18 (by decide) ?_
        refine lv_goto (tgt := 23) hx hb dX5_negativeRests_19 (by decide) ?_
        exact J10 _ _ _ (by rw [if_neg hc12]) I
  · obtain ⟨x15, rfl⟩ : ∃ y, y = z13 := ⟨_, rfl⟩
    intro H locs ls I hl
    have h : (some x15 : Option Int32) = some o := h
    have I : wk D (mW g a st) A H0 H locs := I
    have hl : lv_has ls 3 [(1, .int x15)] := hl
    refine lv_iload_n hx hb dX5_negativeRests_31 rfl (lv_at hl 0 rfl) ?_
    cases h
    exact K _ _ _ _ I dX5_negativeRests_32
set_option maxHeartbeats 4000000 in
set_option maxRecDepth 100000 in
theorem c5_areSame {l : Launch} {D : va_G} {g : Nat → ClassId} {a : Nat → Nat} {st : MS} {o : Int32} (h : f5_areSame st = some o) : ct l yX5_areSame cX5_areSame 3 (some .boolean) (rmk 1 22) D g (mW g a st) (mW g a st) [.ref (a 0)] (some (.int o)) := by
  refine ct_of ⟨rfl, rfl⟩ (by decide) (Nat.le_of_ble_eq_true rfl) ?_
  intro p e s m args below meth c ls Q A H0 H locs E I hl K
  have E : en p m c cX5_areSame 3 s args RX5 D g := E
  have hx := E.1.1
  have hb := E.1.2.1
  have hl : lv_has ls 3 [(0, .ref (a 0))] := hl
  have K : ∀ (pc : Nat) (ls : Array Slot) (H : Heap) (locs : List Loc), wk D (mW g a st) A H0 H locs → decode cX5_areSame pc = .ok (.ireturn, 1) → zok o = true → W p l e (rmk 1 22) s m args below meth c H locs 0 0 Q (F0 m pc ls [.int o]) := fun pc ls H locs I hd hz => K pc ls H locs I ⟨hd, hz⟩
  have h : ((bi1 (wh (f5_areSame_b4 st) FU ((1 : Int32), (0 : Int32))) fun w20 => (if zok w20 = true then some w20 else none)) : Option Int32) = some o := h
  refine lv_iconst (v := (1 : Int32)) hx hb dX5_areSame_0 (by decide) ?_
  refine lv_istore_n (lv' := [(1, .int (1 : Int32)), (0, .ref (a 0))]) hx hb dX5_areSame_1 rfl hl (by decide) rfl (fun ls hl => ?_)
  refine lv_iconst (v := (0 : Int32)) hx hb dX5_areSame_2 (by decide) ?_
  refine lv_istore_n (lv' := [(2, .int (0 : Int32)), (1, .int (1 : Int32)), (0, .ref (a 0))]) hx hb dX5_areSame_3 rfl hl (by decide) rfl (fun ls hl => ?_)
  obtain ⟨z16, hw17, h⟩ := bx1 h
  refine wh_W (P := fun (z : Int32 × Int32) => ∀ (H : Heap) (locs : List Loc) (ls : Array Slot), wk D (mW g a st) A H0 H locs → lv_has ls 3 [(0, .ref (a 0)), (1, .int z.1), (2, .int z.2)] → W p l e (rmk 1 22) s m args below meth c H locs 0 0 Q (F0 m 4 ls [])) (X := fun (z : Int32) => ∀ (H : Heap) (locs : List Loc) (ls : Array Slot), wk D (mW g a st) A H0 H locs → lv_has ls 3 [(1, .int z)] → W p l e (rmk 1 22) s m args below meth c H locs 0 0 Q (F0 m 41 ls [])) ?_ FU _ _ hw17 ?_ _ _ _ I (lv_sub hl [2, 1, 0] rfl)
  · intro z o4 h hk5 H locs ls I hl
    obtain ⟨x2, x3⟩ := z
    have h : ((if (8 : Int32) ≤ x3 then some (.inr x2) else (if x2 = 0 then some (.inl ((0 : Int32), (x3 + 1))) else (bi1 (f5_of st (0 : Int32) x3) fun r9 => (bi1 (f5_of st (1 : Int32) x3) fun r11 => some (.inl ((if r9 = r11 then (1 : Int32) else (0 : Int32)), (x3 + 1))))))) : Option ((Int32 × Int32) ⊕ (Int32))) = some o4 := h
    have I : wk D (mW g a st) A H0 H locs := I
    have hl : lv_has ls 3 [(0, .ref (a 0)), (1, .int x2), (2, .int x3)] := hl
    refine lv_iload_n hx hb dX5_areSame_4 rfl (lv_at hl 2 rfl) ?_
    refine lv_bipush (v := (8 : Int32)) hx hb dX5_areSame_5 (by decide) ?_
    refine lv_icmp_ge (tgt := 41) hx hb dX5_areSame_7 (by decide) (fun hc6 => ?_) (fun hc6 => ?_)
    · have h := ifp hc6 h
      cases h
      exact hk5 _ _ _ I (lv_sub hl [1] rfl)
    · have h := ifn hc6 h
      refine lv_iload_n hx hb dX5_areSame_10 rfl (lv_at hl 1 rfl) ?_
      refine lv_if_eq (tgt := 33) hx hb dX5_areSame_11 (by decide) (fun hc7 => ?_) (fun hc7 => ?_)
      · have h := ifp hc7 h
        refine lv_iconst (v := (0 : Int32)) hx hb dX5_areSame_33 (by decide) ?_
        refine lv_istore_n (lv' := [(1, .int (0 : Int32)), (0, .ref (a 0)), (2, .int x3)]) hx hb dX5_areSame_34 rfl hl (by decide) rfl (fun ls hl => ?_)
        refine lv_iinc (v := (x3 + 1)) (lv' := [(2, .int (x3 + 1)), (1, .int (0 : Int32)), (0, .ref (a 0))]) hx hb dX5_areSame_35 hl (k := 2) rfl rfl (by decide) rfl (fun ls hl => ?_)
        refine lv_goto (tgt := 4) hx hb dX5_areSame_38 (by decide) ?_
        cases h
        exact hk5 _ _ _ I (lv_sub hl [2, 1, 0] rfl)
      · have h := ifn hc7 h
        refine lv_aload_n hx hb dX5_areSame_14 rfl (lv_at hl 0 rfl) ?_
        refine lv_iconst (v := (0 : Int32)) hx hb dX5_areSame_15 (by decide) ?_
        refine lv_iload_n hx hb dX5_areSame_16 rfl (lv_at hl 2 rfl) ?_
        obtain ⟨r9, hc8, h⟩ := bx1 h
        refine r_callV1 (As := [.int (0 : Int32), .int x3]) (rest := []) (ws' := (mW g a st)) (q0 := 0) E I hl.1 k5_57 (c5_of hc8) mW_k rfl rfl rfl rfl (Nat.le_of_ble_eq_true rfl) ⟨Nat.le_of_ble_eq_true rfl, Nat.le_of_ble_eq_true rfl⟩ ⟨Nat.zero_le _, Nat.zero_le _⟩ dX5_areSame_17 (fun H locs I => ?_)
        refine lv_aload_n hx hb dX5_areSame_20 rfl (lv_at hl 0 rfl) ?_
        refine lv_iconst (v := (1 : Int32)) hx hb dX5_areSame_21 (by decide) ?_
        refine lv_iload_n hx hb dX5_areSame_22 rfl (lv_at hl 2 rfl) ?_
        obtain ⟨r11, hc10, h⟩ := bx1 h
        refine r_callV1 (As := [.int (1 : Int32), .int x3]) (rest := [.int r9]) (ws' := (mW g a st)) (q0 := 0) E I hl.1 k5_57 (c5_of hc10) mW_k rfl rfl rfl rfl (Nat.le_of_ble_eq_true rfl) ⟨Nat.le_of_ble_eq_true rfl, Nat.le_of_ble_eq_true rfl⟩ ⟨Nat.zero_le _, Nat.zero_le _⟩ dX5_areSame_23 (fun H locs I => ?_)
        have J13 : ∀ (v12 : Int32) (H : Heap) (locs : List Loc), v12 = (if r9 = r11 then (1 : Int32) else (0 : Int32)) → wk D (mW g a st) A H0 H locs → W p l e (rmk 1 22) s m args below meth c H locs 0 0 Q (F0 m 34 ls [.int v12]) := by
          intro v12 H locs hv14 I
          subst hv14
          refine lv_istore_n (lv' := [(1, .int (if r9 = r11 then (1 : Int32) else (0 : Int32))), (0, .ref (a 0)), (2, .int x3)]) hx hb dX5_areSame_34 rfl hl (by decide) rfl (fun ls hl => ?_)
          refine lv_iinc (v := (x3 + 1)) (lv' := [(2, .int (x3 + 1)), (1, .int (if r9 = r11 then (1 : Int32) else (0 : Int32))), (0, .ref (a 0))]) hx hb dX5_areSame_35 hl (k := 2) rfl rfl (by decide) rfl (fun ls hl => ?_)
          refine lv_goto (tgt := 4) hx hb dX5_areSame_38 (by decide) ?_
          cases h
          exact hk5 _ _ _ I (lv_sub hl [2, 1, 0] rfl)
        refine lv_icmp_ne (tgt := 33) hx hb dX5_areSame_26 (by decide) (fun hc15 => ?_) (fun hc15 => ?_)
        · refine lv_iconst (v := (0 : Int32)) hx hb dX5_areSame_33 (by decide) ?_
          exact J13 _ _ _ (by rw [if_neg hc15]) I
        · refine lv_iconst (v := (1 : Int32)) hx hb dX5_areSame_29 (by decide) ?_
          refine lv_goto (tgt := 34) hx hb dX5_areSame_30 (by decide) ?_
          exact J13 _ _ _ (by rw [if_pos hc15]) I
  · obtain ⟨x18, rfl⟩ : ∃ y, y = z16 := ⟨_, rfl⟩
    intro H locs ls I hl
    have h : ((if zok x18 = true then some x18 else none) : Option Int32) = some o := h
    have I : wk D (mW g a st) A H0 H locs := I
    have hl : lv_has ls 3 [(1, .int x18)] := hl
    refine lv_iload_n hx hb dX5_areSame_41 rfl (lv_at hl 0 rfl) ?_
    obtain ⟨hc19, h⟩ := gd h
    cases h
    exact K _ _ _ _ I dX5_areSame_42 hc19
set_option maxHeartbeats 4000000 in
set_option maxRecDepth 100000 in
theorem c5_inCommon {l : Launch} {D : va_G} {g : Nat → ClassId} {a : Nat → Nat} {st : MS} {o : Int32} (h : f5_inCommon st = some o) : ct l yX5_inCommon cX5_inCommon 4 (some .int) (rmk 1 22) D g (mW g a st) (mW g a st) [.ref (a 0)] (some (.int o)) := by
  refine ct_of ⟨rfl, rfl⟩ (by decide) (Nat.le_of_ble_eq_true rfl) ?_
  intro p e s m args below meth c ls Q A H0 H locs E I hl K
  have E : en p m c cX5_inCommon 4 s args RX5 D g := E
  have hx := E.1.1
  have hb := E.1.2.1
  have hl : lv_has ls 4 [(0, .ref (a 0))] := hl
  have K : ∀ (pc : Nat) (ls : Array Slot) (H : Heap) (locs : List Loc), wk D (mW g a st) A H0 H locs → decode cX5_inCommon pc = .ok (.ireturn, 1) → W p l e (rmk 1 22) s m args below meth c H locs 0 0 Q (F0 m pc ls [.int o]) := fun pc ls H locs I hd => K pc ls H locs I hd
  have h : ((bi1 (wh (f5_inCommon_b4 st) FU ((0 : Int32), (0 : Int32))) fun w28 => some w28) : Option Int32) = some o := h
  refine lv_iconst (v := (0 : Int32)) hx hb dX5_inCommon_0 (by decide) ?_
  refine lv_istore_n (lv' := [(1, .int (0 : Int32)), (0, .ref (a 0))]) hx hb dX5_inCommon_1 rfl hl (by decide) rfl (fun ls hl => ?_)
  refine lv_iconst (v := (0 : Int32)) hx hb dX5_inCommon_2 (by decide) ?_
  refine lv_istore_n (lv' := [(2, .int (0 : Int32)), (1, .int (0 : Int32)), (0, .ref (a 0))]) hx hb dX5_inCommon_3 rfl hl (by decide) rfl (fun ls hl => ?_)
  obtain ⟨z25, hw26, h⟩ := bx1 h
  refine wh_W (P := fun (z : Int32 × Int32) => ∀ (H : Heap) (locs : List Loc) (ls : Array Slot), wk D (mW g a st) A H0 H locs → lv_has ls 4 [(0, .ref (a 0)), (1, .int z.1), (2, .int z.2)] → W p l e (rmk 1 22) s m args below meth c H locs 0 0 Q (F0 m 4 ls [])) (X := fun (z : Int32) => ∀ (H : Heap) (locs : List Loc) (ls : Array Slot), wk D (mW g a st) A H0 H locs → lv_has ls 4 [(1, .int z)] → W p l e (rmk 1 22) s m args below meth c H locs 0 0 Q (F0 m 70 ls [])) ?_ FU _ _ hw26 ?_ _ _ _ I (lv_sub hl [2, 1, 0] rfl)
  · intro z o4 h hk5 H locs ls I hl
    obtain ⟨x2, x3⟩ := z
    have h : ((if (8 : Int32) ≤ x3 then some (.inr x2) else (bi1 (f5_of st (0 : Int32) x3) fun r8 => (bi1 (f5_of st (1 : Int32) x3) fun r10 => (if r10 ≤ r8 then (bi1 (f5_of st (1 : Int32) x3) fun r22 => f5_inCommon_j40 st x2 x3 r22) else (bi1 (f5_of st (0 : Int32) x3) fun r24 => f5_inCommon_j40 st x2 x3 r24))))) : Option ((Int32 × Int32) ⊕ (Int32))) = some o4 := h
    have I : wk D (mW g a st) A H0 H locs := I
    have hl : lv_has ls 4 [(0, .ref (a 0)), (1, .int x2), (2, .int x3)] := hl
    refine lv_iload_n hx hb dX5_inCommon_4 rfl (lv_at hl 2 rfl) ?_
    refine lv_bipush (v := (8 : Int32)) hx hb dX5_inCommon_5 (by decide) ?_
    refine lv_icmp_ge (tgt := 70) hx hb dX5_inCommon_7 (by decide) (fun hc6 => ?_) (fun hc6 => ?_)
    · have h := ifp hc6 h
      cases h
      exact hk5 _ _ _ I (lv_sub hl [1] rfl)
    · have h := ifn hc6 h
      refine lv_aload_n hx hb dX5_inCommon_10 rfl (lv_at hl 0 rfl) ?_
      refine lv_iconst (v := (0 : Int32)) hx hb dX5_inCommon_11 (by decide) ?_
      refine lv_iload_n hx hb dX5_inCommon_12 rfl (lv_at hl 2 rfl) ?_
      obtain ⟨r8, hc7, h⟩ := bx1 h
      refine r_callV1 (As := [.int (0 : Int32), .int x3]) (rest := []) (ws' := (mW g a st)) (q0 := 0) E I hl.1 k5_57 (c5_of hc7) mW_k rfl rfl rfl rfl (Nat.le_of_ble_eq_true rfl) ⟨Nat.le_of_ble_eq_true rfl, Nat.le_of_ble_eq_true rfl⟩ ⟨Nat.zero_le _, Nat.zero_le _⟩ dX5_inCommon_13 (fun H locs I => ?_)
      refine lv_aload_n hx hb dX5_inCommon_16 rfl (lv_at hl 0 rfl) ?_
      refine lv_iconst (v := (1 : Int32)) hx hb dX5_inCommon_17 (by decide) ?_
      refine lv_iload_n hx hb dX5_inCommon_18 rfl (lv_at hl 2 rfl) ?_
      obtain ⟨r10, hc9, h⟩ := bx1 h
      refine r_callV1 (As := [.int (1 : Int32), .int x3]) (rest := [.int r8]) (ws' := (mW g a st)) (q0 := 0) E I hl.1 k5_57 (c5_of hc9) mW_k rfl rfl rfl rfl (Nat.le_of_ble_eq_true rfl) ⟨Nat.le_of_ble_eq_true rfl, Nat.le_of_ble_eq_true rfl⟩ ⟨Nat.zero_le _, Nat.zero_le _⟩ dX5_inCommon_19 (fun H locs I => ?_)
      have J11 : ∀ (x12 : Int32) (x13 : Int32) (y14 : Int32), f5_inCommon_j40 st x12 x13 y14 = some o4 → ∀ (H : Heap) (locs : List Loc) (ls : Array Slot), wk D (mW g a st) A H0 H locs → lv_has ls 4 [(0, .ref (a 0)), (1, .int x12), (2, .int x13)] → W p l e (rmk 1 22) s m args below meth c H locs 0 0 Q (F0 m 40 ls [.int y14]) := by
        intro x12 x13 y14 h H locs ls I hl
        have h : ((bi1 (f5_of st (2 : Int32) x13) fun r16 => (if r16 ≤ y14 then (bi1 (f5_of st (2 : Int32) x13) fun r19 => some (.inl ((x12 + r19), (x13 + 1)))) else some (.inl ((x12 + y14), (x13 + 1))))) : Option ((Int32 × Int32) ⊕ (Int32))) = some o4 := h
        refine lv_istore_n (lv' := [(3, .int y14), (0, .ref (a 0)), (1, .int x12), (2, .int x13)]) hx hb dX5_inCommon_40 rfl hl (by decide) rfl (fun ls hl => ?_)
        refine lv_iload_n hx hb dX5_inCommon_41 rfl (lv_at hl 2 rfl) ?_
        refine lv_iload_n hx hb dX5_inCommon_42 rfl (lv_at hl 0 rfl) ?_
        refine lv_aload_n hx hb dX5_inCommon_43 rfl (lv_at hl 1 rfl) ?_
        refine lv_iconst (v := (2 : Int32)) hx hb dX5_inCommon_44 (by decide) ?_
        refine lv_iload_n hx hb dX5_inCommon_45 rfl (lv_at hl 3 rfl) ?_
        obtain ⟨r16, hc15, h⟩ := bx1 h
        refine r_callV1 (As := [.int (2 : Int32), .int x13]) (rest := [.int y14, .int x12]) (ws' := (mW g a st)) (q0 := 0) E I hl.1 k5_57 (c5_of hc15) mW_k rfl rfl rfl rfl (Nat.le_of_ble_eq_true rfl) ⟨Nat.le_of_ble_eq_true rfl, Nat.le_of_ble_eq_true rfl⟩ ⟨Nat.zero_le _, Nat.zero_le _⟩ dX5_inCommon_46 (fun H locs I => ?_)
        refine lv_icmp_ge (tgt := 56) hx hb dX5_inCommon_49 (by decide) (fun hc17 => ?_) (fun hc17 => ?_)
        · have h := ifp hc17 h
          refine lv_aload_n hx hb dX5_inCommon_56 rfl (lv_at hl 1 rfl) ?_
          refine lv_iconst (v := (2 : Int32)) hx hb dX5_inCommon_57 (by decide) ?_
          refine lv_iload_n hx hb dX5_inCommon_58 rfl (lv_at hl 3 rfl) ?_
          obtain ⟨r19, hc18, h⟩ := bx1 h
          refine r_callV1 (As := [.int (2 : Int32), .int x13]) (rest := [.int x12]) (ws' := (mW g a st)) (q0 := 0) E I hl.1 k5_57 (c5_of hc18) mW_k rfl rfl rfl rfl (Nat.le_of_ble_eq_true rfl) ⟨Nat.le_of_ble_eq_true rfl, Nat.le_of_ble_eq_true rfl⟩ ⟨Nat.zero_le _, Nat.zero_le _⟩ dX5_inCommon_59 (fun H locs I => ?_)
          refine lv_iadd hx hb dX5_inCommon_62 ?_
          refine lv_istore_n (lv' := [(1, .int (x12 + r19)), (3, .int y14), (0, .ref (a 0)), (2, .int x13)]) hx hb dX5_inCommon_63 rfl hl (by decide) rfl (fun ls hl => ?_)
          refine lv_iinc (v := (x13 + 1)) (lv' := [(2, .int (x13 + 1)), (1, .int (x12 + r19)), (3, .int y14), (0, .ref (a 0))]) hx hb dX5_inCommon_64 hl (k := 3) rfl rfl (by decide) rfl (fun ls hl => ?_)
          refine lv_goto (tgt := 4) hx hb dX5_inCommon_67 (by decide) ?_
          cases h
          exact hk5 _ _ _ I (lv_sub hl [3, 1, 0] rfl)
        · have h := ifn hc17 h
          refine lv_iload_n hx hb dX5_inCommon_52 rfl (lv_at hl 0 rfl) ?_
          refine lv_goto (tgt := 62) hx hb dX5_inCommon_53 (by decide) ?_
          refine lv_iadd hx hb dX5_inCommon_62 ?_
          refine lv_istore_n (lv' := [(1, .int (x12 + y14)), (3, .int y14), (0, .ref (a 0)), (2, .int x13)]) hx hb dX5_inCommon_63 rfl hl (by decide) rfl (fun ls hl => ?_)
          refine lv_iinc (v := (x13 + 1)) (lv' := [(2, .int (x13 + 1)), (1, .int (x12 + y14)), (3, .int y14), (0, .ref (a 0))]) hx hb dX5_inCommon_64 hl (k := 3) rfl rfl (by decide) rfl (fun ls hl => ?_)
          refine lv_goto (tgt := 4) hx hb dX5_inCommon_67 (by decide) ?_
          cases h
          exact hk5 _ _ _ I (lv_sub hl [3, 1, 0] rfl)
      refine lv_icmp_ge (tgt := 34) hx hb dX5_inCommon_22 (by decide) (fun hc20 => ?_) (fun hc20 => ?_)
      · have h := ifp hc20 h
        refine lv_aload_n hx hb dX5_inCommon_34 rfl (lv_at hl 0 rfl) ?_
        refine lv_iconst (v := (1 : Int32)) hx hb dX5_inCommon_35 (by decide) ?_
        refine lv_iload_n hx hb dX5_inCommon_36 rfl (lv_at hl 2 rfl) ?_
        obtain ⟨r22, hc21, h⟩ := bx1 h
        refine r_callV1 (As := [.int (1 : Int32), .int x3]) (rest := []) (ws' := (mW g a st)) (q0 := 0) E I hl.1 k5_57 (c5_of hc21) mW_k rfl rfl rfl rfl (Nat.le_of_ble_eq_true rfl) ⟨Nat.le_of_ble_eq_true rfl, Nat.le_of_ble_eq_true rfl⟩ ⟨Nat.zero_le _, Nat.zero_le _⟩ dX5_inCommon_37 (fun H locs I => ?_)
        exact J11 _ _ _ h _ _ _ I (lv_sub hl [0, 1, 2] rfl)
      · have h := ifn hc20 h
        refine lv_aload_n hx hb dX5_inCommon_25 rfl (lv_at hl 0 rfl) ?_
        refine lv_iconst (v := (0 : Int32)) hx hb dX5_inCommon_26 (by decide) ?_
        refine lv_iload_n hx hb dX5_inCommon_27 rfl (lv_at hl 2 rfl) ?_
        obtain ⟨r24, hc23, h⟩ := bx1 h
        refine r_callV1 (As := [.int (0 : Int32), .int x3]) (rest := []) (ws' := (mW g a st)) (q0 := 0) E I hl.1 k5_57 (c5_of hc23) mW_k rfl rfl rfl rfl (Nat.le_of_ble_eq_true rfl) ⟨Nat.le_of_ble_eq_true rfl, Nat.le_of_ble_eq_true rfl⟩ ⟨Nat.zero_le _, Nat.zero_le _⟩ dX5_inCommon_28 (fun H locs I => ?_)
        refine lv_goto (tgt := 40) hx hb dX5_inCommon_31 (by decide) ?_
        exact J11 _ _ _ h _ _ _ I (lv_sub hl [0, 1, 2] rfl)
  · obtain ⟨x27, rfl⟩ : ∃ y, y = z25 := ⟨_, rfl⟩
    intro H locs ls I hl
    have h : (some x27 : Option Int32) = some o := h
    have I : wk D (mW g a st) A H0 H locs := I
    have hl : lv_has ls 4 [(1, .int x27)] := hl
    refine lv_iload_n hx hb dX5_inCommon_70 rfl (lv_at hl 0 rfl) ?_
    cases h
    exact K _ _ _ _ I dX5_inCommon_71
set_option maxHeartbeats 4000000 in
set_option maxRecDepth 100000 in
theorem c5_leastCount {l : Launch} {D : va_G} {g : Nat → ClassId} {a : Nat → Nat} {st : MS} {o : MS × Int32} (h : f5_leastCount st = some o) : ct l yX5_leastCount cX5_leastCount 1 (some .int) (rmk 5 110) D g (mW g a st) (mW g a o.1) [.ref (a 0)] (some (.int o.2)) := by
  refine ct_of ⟨rfl, rfl⟩ (by decide) (Nat.le_of_ble_eq_true rfl) ?_
  intro p e s m args below meth c ls Q A H0 H locs E I hl K
  have E : en p m c cX5_leastCount 1 s args RX5 D g := E
  have hx := E.1.1
  have hb := E.1.2.1
  have hl : lv_has ls 1 [(0, .ref (a 0))] := hl
  have K : ∀ (pc : Nat) (ls : Array Slot) (H : Heap) (locs : List Loc), wk D (mW g a o.1) A H0 H locs → decode cX5_leastCount pc = .ok (.ireturn, 1) → W p l e (rmk 5 110) s m args below meth c H locs 0 0 Q (F0 m pc ls [.int o.2]) := fun pc ls H locs I hd => K pc ls H locs I hd
  have h : ((bi1 (f5_layLeast st) fun st2 => some (st2, (m_leastMany st2))) : Option (MS × Int32)) = some o := h
  refine lv_aload_n hx hb dX5_leastCount_0 rfl (lv_at hl 0 rfl) ?_
  obtain ⟨st2, hc1, h⟩ := bx1 h
  refine r_callV0 (As := []) (rest := []) (ws' := (mW g a st2)) (q0 := 0) E I hl.1 k5_130 (c5_layLeast hc1) mW_k rfl rfl rfl rfl (Nat.le_of_ble_eq_true rfl) ⟨Nat.le_of_ble_eq_true rfl, Nat.le_of_ble_eq_true rfl⟩ ⟨Nat.zero_le _, Nat.zero_le _⟩ dX5_leastCount_1 (fun H locs I => ?_)
  refine lv_aload_n hx hb dX5_leastCount_4 rfl (lv_at hl 0 rfl) ?_
  refine g5_116 E I (v := (m_leastMany st2)) rfl dX5_leastCount_5 ?_
  cases h
  exact K _ _ _ _ I dX5_leastCount_8
set_option maxHeartbeats 4000000 in
set_option maxRecDepth 100000 in
theorem c5_counted {l : Launch} {D : va_G} {g : Nat → ClassId} {a : Nat → Nat} {st : MS} {x91 : Int32} {o : MS × Int32} (h : f5_counted st x91 = some o) : ct l yX5_counted cX5_counted 2 (some .int) (rmk 6 133) D g (mW g a st) (mW g a o.1) [.ref (a 0), .int x91] (some (.int o.2)) := by
  refine ct_of ⟨rfl, rfl⟩ (by decide) (Nat.le_of_ble_eq_true rfl) ?_
  intro p e s m args below meth c ls Q A H0 H locs E I hl K
  have E : en p m c cX5_counted 2 s args RX5 D g := E
  have hx := E.1.1
  have hb := E.1.2.1
  have hl : lv_has ls 2 [(0, .ref (a 0)), (1, .int x91)] := hl
  have K : ∀ (pc : Nat) (ls : Array Slot) (H : Heap) (locs : List Loc), wk D (mW g a o.1) A H0 H locs → decode cX5_counted pc = .ok (.ireturn, 1) → W p l e (rmk 6 133) s m args below meth c H locs 0 0 Q (F0 m pc ls [.int o.2]) := fun pc ls H locs I hd => K pc ls H locs I hd
  have h : ((if x91 = 0 then (bi1 (f5_factorsOf st x91) fun r3 => some (st, r3)) else (if x91 = 1 then (bi1 (f5_factorsOf st x91) fun r6 => some (st, r6)) else (if x91 = 2 then (bi1 (f5_factorsOf st x91) fun r9 => some (st, r9)) else (if x91 = 3 then (bi1 (f5_patternMask st) fun r12 => some (st, (f5_ones r12))) else (if x91 = 4 then (bi2 (f5_leastCount st) fun st15 r16 => some (st15, r16)) else (if x91 = 5 then (bi2 (f5_greatestLeast st) fun st19 r20 => some (st19, r20)) else (if x91 = 6 then (bi1 (f5_negativeRests st) fun r23 => some (st, r23)) else (if x91 = 7 then (bi1 (f5_areSame st) fun r26 => some (st, (if r26 = 0 then (0 : Int32) else (1 : Int32)))) else (if x91 = 8 then (bi1 (f5_inCommon st) fun r33 => some (st, r33)) else (if x91 = 9 then some (st, (((m_taken st) (0 : Int32).toNatClampNeg) + ((m_taken st) (1 : Int32).toNatClampNeg))) else some (st, (m_states st)))))))))))) : Option (MS × Int32)) = some o := h
  refine lv_iload_n hx hb dX5_counted_0 rfl (lv_at hl 1 rfl) ?_
  by_cases hk1 : x91 = 0
  · have h := ifp hk1 h
    refine lv_tableIn (tgt := 56) hx hb dX5_counted_1 (by rw [hk1]; decide) (by rw [hk1]; decide) (by rw [hk1]; rfl) (by decide) ?_
    refine lv_aload_n hx hb dX5_counted_56 rfl (lv_at hl 0 rfl) ?_
    refine lv_iload_n hx hb dX5_counted_57 rfl (lv_at hl 1 rfl) ?_
    obtain ⟨r3, hc2, h⟩ := bx1 h
    refine r_callV1 (As := [.int x91]) (rest := []) (ws' := (mW g a st)) (q0 := 0) E I hl.1 k5_151 (c5_factorsOf hc2) mW_k rfl rfl rfl rfl (Nat.le_of_ble_eq_true rfl) ⟨Nat.le_of_ble_eq_true rfl, Nat.le_of_ble_eq_true rfl⟩ ⟨Nat.zero_le _, Nat.zero_le _⟩ dX5_counted_58 (fun H locs I => ?_)
    cases h
    exact K _ _ _ _ I dX5_counted_61
  · have h := ifn hk1 h
    by_cases hk4 : x91 = 1
    · have h := ifp hk4 h
      refine lv_tableIn (tgt := 56) hx hb dX5_counted_1 (by rw [hk4]; decide) (by rw [hk4]; decide) (by rw [hk4]; rfl) (by decide) ?_
      refine lv_aload_n hx hb dX5_counted_56 rfl (lv_at hl 0 rfl) ?_
      refine lv_iload_n hx hb dX5_counted_57 rfl (lv_at hl 1 rfl) ?_
      obtain ⟨r6, hc5, h⟩ := bx1 h
      refine r_callV1 (As := [.int x91]) (rest := []) (ws' := (mW g a st)) (q0 := 0) E I hl.1 k5_151 (c5_factorsOf hc5) mW_k rfl rfl rfl rfl (Nat.le_of_ble_eq_true rfl) ⟨Nat.le_of_ble_eq_true rfl, Nat.le_of_ble_eq_true rfl⟩ ⟨Nat.zero_le _, Nat.zero_le _⟩ dX5_counted_58 (fun H locs I => ?_)
      cases h
      exact K _ _ _ _ I dX5_counted_61
    · have h := ifn hk4 h
      by_cases hk7 : x91 = 2
      · have h := ifp hk7 h
        refine lv_tableIn (tgt := 56) hx hb dX5_counted_1 (by rw [hk7]; decide) (by rw [hk7]; decide) (by rw [hk7]; rfl) (by decide) ?_
        refine lv_aload_n hx hb dX5_counted_56 rfl (lv_at hl 0 rfl) ?_
        refine lv_iload_n hx hb dX5_counted_57 rfl (lv_at hl 1 rfl) ?_
        obtain ⟨r9, hc8, h⟩ := bx1 h
        refine r_callV1 (As := [.int x91]) (rest := []) (ws' := (mW g a st)) (q0 := 0) E I hl.1 k5_151 (c5_factorsOf hc8) mW_k rfl rfl rfl rfl (Nat.le_of_ble_eq_true rfl) ⟨Nat.le_of_ble_eq_true rfl, Nat.le_of_ble_eq_true rfl⟩ ⟨Nat.zero_le _, Nat.zero_le _⟩ dX5_counted_58 (fun H locs I => ?_)
        cases h
        exact K _ _ _ _ I dX5_counted_61
      · have h := ifn hk7 h
        by_cases hk10 : x91 = 3
        · have h := ifp hk10 h
          refine lv_tableIn (tgt := 62) hx hb dX5_counted_1 (by rw [hk10]; decide) (by rw [hk10]; decide) (by rw [hk10]; rfl) (by decide) ?_
          refine lv_aload_n hx hb dX5_counted_62 rfl (lv_at hl 0 rfl) ?_
          obtain ⟨r12, hc11, h⟩ := bx1 h
          refine r_callV1 (As := []) (rest := []) (ws' := (mW g a st)) (q0 := 0) E I hl.1 k5_83 (c5_patternMask hc11) mW_k rfl rfl rfl rfl (Nat.le_of_ble_eq_true rfl) ⟨Nat.le_of_ble_eq_true rfl, Nat.le_of_ble_eq_true rfl⟩ ⟨Nat.zero_le _, Nat.zero_le _⟩ dX5_counted_63 (fun H locs I => ?_)
          refine r_callS1 (As := [.int r12]) (rest := []) E I hl.1 k5_97 (c5_ones rfl) rfl rfl (Nat.le_of_ble_eq_true rfl) ⟨Nat.le_of_ble_eq_true rfl, Nat.le_of_ble_eq_true rfl⟩ ⟨Nat.zero_le _, Nat.zero_le _⟩ dX5_counted_66 (fun H locs I => ?_)
          cases h
          exact K _ _ _ _ I dX5_counted_69
        · have h := ifn hk10 h
          by_cases hk13 : x91 = 4
          · have h := ifp hk13 h
            refine lv_tableIn (tgt := 70) hx hb dX5_counted_1 (by rw [hk13]; decide) (by rw [hk13]; decide) (by rw [hk13]; rfl) (by decide) ?_
            refine lv_aload_n hx hb dX5_counted_70 rfl (lv_at hl 0 rfl) ?_
            obtain ⟨st15, r16, hc14, h⟩ := bx2 h
            refine r_callV1 (As := []) (rest := []) (ws' := (mW g a st15)) (q0 := 0) E I hl.1 k5_214 (c5_leastCount hc14) mW_k rfl rfl rfl rfl (Nat.le_of_ble_eq_true rfl) ⟨Nat.le_of_ble_eq_true rfl, Nat.le_of_ble_eq_true rfl⟩ ⟨Nat.zero_le _, Nat.zero_le _⟩ dX5_counted_71 (fun H locs I => ?_)
            cases h
            exact K _ _ _ _ I dX5_counted_74
          · have h := ifn hk13 h
            by_cases hk17 : x91 = 5
            · have h := ifp hk17 h
              refine lv_tableIn (tgt := 75) hx hb dX5_counted_1 (by rw [hk17]; decide) (by rw [hk17]; decide) (by rw [hk17]; rfl) (by decide) ?_
              refine lv_aload_n hx hb dX5_counted_75 rfl (lv_at hl 0 rfl) ?_
              obtain ⟨st19, r20, hc18, h⟩ := bx2 h
              refine r_callV1 (As := []) (rest := []) (ws' := (mW g a st19)) (q0 := 0) E I hl.1 k5_217 (c5_greatestLeast hc18) mW_k rfl rfl rfl rfl (Nat.le_of_ble_eq_true rfl) ⟨Nat.le_of_ble_eq_true rfl, Nat.le_of_ble_eq_true rfl⟩ ⟨Nat.zero_le _, Nat.zero_le _⟩ dX5_counted_76 (fun H locs I => ?_)
              cases h
              exact K _ _ _ _ I dX5_counted_79
            · have h := ifn hk17 h
              by_cases hk21 : x91 = 6
              · have h := ifp hk21 h
                refine lv_tableIn (tgt := 80) hx hb dX5_counted_1 (by rw [hk21]; decide) (by rw [hk21]; decide) (by rw [hk21]; rfl) (by decide) ?_
                refine lv_aload_n hx hb dX5_counted_80 rfl (lv_at hl 0 rfl) ?_
                obtain ⟨r23, hc22, h⟩ := bx1 h
                refine r_callV1 (As := []) (rest := []) (ws' := (mW g a st)) (q0 := 0) E I hl.1 k5_220 (c5_negativeRests hc22) mW_k rfl rfl rfl rfl (Nat.le_of_ble_eq_true rfl) ⟨Nat.le_of_ble_eq_true rfl, Nat.le_of_ble_eq_true rfl⟩ ⟨Nat.zero_le _, Nat.zero_le _⟩ dX5_counted_81 (fun H locs I => ?_)
                cases h
                exact K _ _ _ _ I dX5_counted_84
              · have h := ifn hk21 h
                by_cases hk24 : x91 = 7
                · have h := ifp hk24 h
                  refine lv_tableIn (tgt := 85) hx hb dX5_counted_1 (by rw [hk24]; decide) (by rw [hk24]; decide) (by rw [hk24]; rfl) (by decide) ?_
                  refine lv_aload_n hx hb dX5_counted_85 rfl (lv_at hl 0 rfl) ?_
                  obtain ⟨r26, hc25, h⟩ := bx1 h
                  refine r_callV1 (As := []) (rest := []) (ws' := (mW g a st)) (q0 := 0) E I hl.1 k5_223 (c5_areSame hc25) mW_k rfl rfl rfl rfl (Nat.le_of_ble_eq_true rfl) ⟨Nat.le_of_ble_eq_true rfl, Nat.le_of_ble_eq_true rfl⟩ ⟨Nat.zero_le _, Nat.zero_le _⟩ dX5_counted_86 (fun H locs I => ?_)
                  have J28 : ∀ (v27 : Int32) (H : Heap) (locs : List Loc), v27 = (if r26 = 0 then (0 : Int32) else (1 : Int32)) → wk D (mW g a st) A H0 H locs → W p l e (rmk 6 133) s m args below meth c H locs 0 0 Q (F0 m 97 ls [.int v27]) := by
                    intro v27 H locs hv29 I
                    subst hv29
                    cases h
                    exact K _ _ _ _ I dX5_counted_97
                  refine lv_if_eq (tgt := 96) hx hb dX5_counted_89 (by decide) (fun hc30 => ?_) (fun hc30 => ?_)
                  · refine lv_iconst (v := (0 : Int32)) hx hb dX5_counted_96 (by decide) ?_
                    exact J28 _ _ _ (by rw [if_pos hc30]) I
                  · refine lv_iconst (v := (1 : Int32)) hx hb dX5_counted_92 (by decide) ?_
                    refine lv_goto (tgt := 97) hx hb dX5_counted_93 (by decide) ?_
                    exact J28 _ _ _ (by rw [if_neg hc30]) I
                · have h := ifn hk24 h
                  by_cases hk31 : x91 = 8
                  · have h := ifp hk31 h
                    refine lv_tableIn (tgt := 98) hx hb dX5_counted_1 (by rw [hk31]; decide) (by rw [hk31]; decide) (by rw [hk31]; rfl) (by decide) ?_
                    refine lv_aload_n hx hb dX5_counted_98 rfl (lv_at hl 0 rfl) ?_
                    obtain ⟨r33, hc32, h⟩ := bx1 h
                    refine r_callV1 (As := []) (rest := []) (ws' := (mW g a st)) (q0 := 0) E I hl.1 k5_226 (c5_inCommon hc32) mW_k rfl rfl rfl rfl (Nat.le_of_ble_eq_true rfl) ⟨Nat.le_of_ble_eq_true rfl, Nat.le_of_ble_eq_true rfl⟩ ⟨Nat.zero_le _, Nat.zero_le _⟩ dX5_counted_99 (fun H locs I => ?_)
                    cases h
                    exact K _ _ _ _ I dX5_counted_102
                  · have h := ifn hk31 h
                    by_cases hk34 : x91 = 9
                    · have h := ifp hk34 h
                      refine lv_tableIn (tgt := 103) hx hb dX5_counted_1 (by rw [hk34]; decide) (by rw [hk34]; decide) (by rw [hk34]; rfl) (by decide) ?_
                      refine lv_aload_n hx hb dX5_counted_103 rfl (lv_at hl 0 rfl) ?_
                      refine g5_19 E I dX5_counted_104 ?_
                      refine lv_iconst (v := (0 : Int32)) hx hb dX5_counted_107 (by decide) ?_
                      refine m_ld4 E I (f := (m_taken st)) rfl (by decide) dX5_counted_108 ?_
                      refine lv_aload_n hx hb dX5_counted_109 rfl (lv_at hl 0 rfl) ?_
                      refine g5_19 E I dX5_counted_110 ?_
                      refine lv_iconst (v := (1 : Int32)) hx hb dX5_counted_113 (by decide) ?_
                      refine m_ld4 E I (f := (m_taken st)) rfl (by decide) dX5_counted_114 ?_
                      refine lv_iadd hx hb dX5_counted_115 ?_
                      cases h
                      exact K _ _ _ _ I dX5_counted_116
                    · have h := ifn hk34 h
                      refine lv_tableOut (tgt := 117) hx hb dX5_counted_1 (sw_out9 (fun k hk => by rcases (show k = 0 ∨ k = 1 ∨ k = 2 ∨ k = 3 ∨ k = 4 ∨ k = 5 ∨ k = 6 ∨ k = 7 ∨ k = 8 ∨ k = 9 by omega) with rfl | rfl | rfl | rfl | rfl | rfl | rfl | rfl | rfl | rfl <;> assumption)) (by decide) ?_
                      refine lv_aload_n hx hb dX5_counted_117 rfl (lv_at hl 0 rfl) ?_
                      refine g5_54 E I (v := (m_states st)) rfl dX5_counted_118 ?_
                      cases h
                      exact K _ _ _ _ I dX5_counted_121
set_option maxHeartbeats 4000000 in
set_option maxRecDepth 100000 in
theorem c5_count {l : Launch} {D : va_G} {g : Nat → ClassId} {a : Nat → Nat} {st : MS} {x91 : Int32} {o : MS × Int32} (h : f5_count st x91 = some o) : ct l yX5_count cX5_count 2 (some .int) (rmk 7 154) D g (mW g a st) (mW g a o.1) [.ref (a 0), .int x91] (some (.int o.2)) := by
  refine ct_of ⟨rfl, rfl⟩ (by decide) (Nat.le_of_ble_eq_true rfl) ?_
  intro p e s m args below meth c ls Q A H0 H locs E I hl K
  have E : en p m c cX5_count 2 s args RX5 D g := E
  have hx := E.1.1
  have hb := E.1.2.1
  have hl : lv_has ls 2 [(0, .ref (a 0)), (1, .int x91)] := hl
  have K : ∀ (pc : Nat) (ls : Array Slot) (H : Heap) (locs : List Loc), wk D (mW g a o.1) A H0 H locs → decode cX5_count pc = .ok (.ireturn, 1) → W p l e (rmk 7 154) s m args below meth c H locs 0 0 Q (F0 m pc ls [.int o.2]) := fun pc ls H locs I hd => K pc ls H locs I hd
  have h : ((if (if (f5_within x91 (0 : Int32) (10 : Int32)) = 0 then (1 : Int32) else (0 : Int32)) ≤ 0 then (bi2 (f5_counted (m_thrown_s st (if (f5_within x91 (0 : Int32) (10 : Int32)) = 0 then (1 : Int32) else (0 : Int32))) x91) fun st6 r7 => some (st6, r7)) else some ((m_thrown_s st (if (f5_within x91 (0 : Int32) (10 : Int32)) = 0 then (1 : Int32) else (0 : Int32))), (0 : Int32))) : Option (MS × Int32)) = some o := h
  refine lv_aload_n hx hb dX5_count_0 rfl (lv_at hl 0 rfl) ?_
  refine lv_iload_n hx hb dX5_count_1 rfl (lv_at hl 1 rfl) ?_
  refine lv_iconst (v := (0 : Int32)) hx hb dX5_count_2 (by decide) ?_
  refine lv_bipush (v := (10 : Int32)) hx hb dX5_count_3 (by decide) ?_
  refine r_callS1 (As := [.int x91, .int (0 : Int32), .int (10 : Int32)]) (rest := [.ref (a 0)]) E I hl.1 k5_61 (c5_within rfl) rfl rfl (Nat.le_of_ble_eq_true rfl) ⟨Nat.le_of_ble_eq_true rfl, Nat.le_of_ble_eq_true rfl⟩ ⟨Nat.zero_le _, Nat.zero_le _⟩ dX5_count_5 (fun H locs I => ?_)
  have J2 : ∀ (v1 : Int32) (H : Heap) (locs : List Loc), v1 = (if (f5_within x91 (0 : Int32) (10 : Int32)) = 0 then (1 : Int32) else (0 : Int32)) → wk D (mW g a st) A H0 H locs → W p l e (rmk 7 154) s m args below meth c H locs 0 0 Q (F0 m 16 ls [.int v1, .ref (a 0)]) := by
    intro v1 H locs hv3 I
    subst hv3
    refine p5_50 E I dX5_count_16 (fun H locs I => ?_)
    refine lv_aload_n hx hb dX5_count_19 rfl (lv_at hl 0 rfl) ?_
    refine g5_50 E I (v := (if (f5_within x91 (0 : Int32) (10 : Int32)) = 0 then (1 : Int32) else (0 : Int32))) rfl dX5_count_20 ?_
    refine lv_if_le (tgt := 30) hx hb dX5_count_23 (by decide) (fun hc4 => ?_) (fun hc4 => ?_)
    · have h := ifp hc4 h
      refine lv_aload_n hx hb dX5_count_30 rfl (lv_at hl 0 rfl) ?_
      refine lv_iload_n hx hb dX5_count_31 rfl (lv_at hl 1 rfl) ?_
      obtain ⟨st6, r7, hc5, h⟩ := bx2 h
      refine r_callV1 (As := [.int x91]) (rest := []) (ws' := (mW g a st6)) (q0 := 0) E I hl.1 k5_229 (c5_counted hc5) mW_k rfl rfl rfl rfl (Nat.le_of_ble_eq_true rfl) ⟨Nat.le_of_ble_eq_true rfl, Nat.le_of_ble_eq_true rfl⟩ ⟨Nat.zero_le _, Nat.zero_le _⟩ dX5_count_32 (fun H locs I => ?_)
      cases h
      exact K _ _ _ _ I dX5_count_35
    · have h := ifn hc4 h
      refine lv_iconst (v := (0 : Int32)) hx hb dX5_count_26 (by decide) ?_
      refine lv_goto (tgt := 35) hx hb dX5_count_27 (by decide) ?_
      cases h
      exact K _ _ _ _ I dX5_count_35
  refine lv_if_eq (tgt := 15) hx hb dX5_count_8 (by decide) (fun hc8 => ?_) (fun hc8 => ?_)
  · refine lv_iconst (v := (1 : Int32)) hx hb dX5_count_15 (by decide) ?_
    exact J2 _ _ _ (by rw [if_pos hc8]) I
  · refine lv_iconst (v := (0 : Int32)) hx hb dX5_count_11 (by decide) ?_
    refine lv_goto (tgt := 16) hx hb dX5_count_12 (by decide) ?_
    exact J2 _ _ _ (by rw [if_neg hc8]) I
set_option maxHeartbeats 4000000 in
set_option maxRecDepth 100000 in
theorem c5_setting {l : Launch} {D : va_G} {g : Nat → ClassId} {a : Nat → Nat} {st : MS} {x91 : Int32} {o : MS × Int32} (h : f5_setting st x91 = some o) : ct l yX5_setting cX5_setting 2 (some .int) (rmk 1 22) D g (mW g a st) (mW g a o.1) [.ref (a 0), .int x91] (some (.int o.2)) := by
  refine ct_of ⟨rfl, rfl⟩ (by decide) (Nat.le_of_ble_eq_true rfl) ?_
  intro p e s m args below meth c ls Q A H0 H locs E I hl K
  have E : en p m c cX5_setting 2 s args RX5 D g := E
  have hx := E.1.1
  have hb := E.1.2.1
  have hl : lv_has ls 2 [(0, .ref (a 0)), (1, .int x91)] := hl
  have K : ∀ (pc : Nat) (ls : Array Slot) (H : Heap) (locs : List Loc), wk D (mW g a o.1) A H0 H locs → decode cX5_setting pc = .ok (.ireturn, 1) → W p l e (rmk 1 22) s m args below meth c H locs 0 0 Q (F0 m pc ls [.int o.2]) := fun pc ls H locs I hd => K pc ls H locs I hd
  have h : ((if (if (f5_within x91 (0 : Int32) (1 : Int32)) = 0 then (1 : Int32) else (0 : Int32)) ≤ 0 then (if ib ((24 : Int32) + x91) 26 = true then some ((m_thrown_s st (if (f5_within x91 (0 : Int32) (1 : Int32)) = 0 then (1 : Int32) else (0 : Int32))), ((m_z st) ((24 : Int32) + x91).toNatClampNeg)) else none) else some ((m_thrown_s st (if (f5_within x91 (0 : Int32) (1 : Int32)) = 0 then (1 : Int32) else (0 : Int32))), (0 : Int32))) : Option (MS × Int32)) = some o := h
  refine lv_aload_n hx hb dX5_setting_0 rfl (lv_at hl 0 rfl) ?_
  refine lv_iload_n hx hb dX5_setting_1 rfl (lv_at hl 1 rfl) ?_
  refine lv_iconst (v := (0 : Int32)) hx hb dX5_setting_2 (by decide) ?_
  refine lv_iconst (v := (1 : Int32)) hx hb dX5_setting_3 (by decide) ?_
  refine r_callS1 (As := [.int x91, .int (0 : Int32), .int (1 : Int32)]) (rest := [.ref (a 0)]) E I hl.1 k5_61 (c5_within rfl) rfl rfl (Nat.le_of_ble_eq_true rfl) ⟨Nat.le_of_ble_eq_true rfl, Nat.le_of_ble_eq_true rfl⟩ ⟨Nat.zero_le _, Nat.zero_le _⟩ dX5_setting_4 (fun H locs I => ?_)
  have J2 : ∀ (v1 : Int32) (H : Heap) (locs : List Loc), v1 = (if (f5_within x91 (0 : Int32) (1 : Int32)) = 0 then (1 : Int32) else (0 : Int32)) → wk D (mW g a st) A H0 H locs → W p l e (rmk 1 22) s m args below meth c H locs 0 0 Q (F0 m 15 ls [.int v1, .ref (a 0)]) := by
    intro v1 H locs hv3 I
    subst hv3
    refine p5_50 E I dX5_setting_15 (fun H locs I => ?_)
    refine lv_aload_n hx hb dX5_setting_18 rfl (lv_at hl 0 rfl) ?_
    refine g5_50 E I (v := (if (f5_within x91 (0 : Int32) (1 : Int32)) = 0 then (1 : Int32) else (0 : Int32))) rfl dX5_setting_19 ?_
    refine lv_if_le (tgt := 29) hx hb dX5_setting_22 (by decide) (fun hc4 => ?_) (fun hc4 => ?_)
    · have h := ifp hc4 h
      refine lv_aload_n hx hb dX5_setting_29 rfl (lv_at hl 0 rfl) ?_
      refine g5_7 E I dX5_setting_30 ?_
      refine lv_bipush (v := (24 : Int32)) hx hb dX5_setting_33 (by decide) ?_
      refine lv_iload_n hx hb dX5_setting_35 rfl (lv_at hl 1 rfl) ?_
      refine lv_iadd hx hb dX5_setting_36 ?_
      obtain ⟨hc5, h⟩ := gd h
      refine m_ld1 E I (f := (m_z st)) rfl hc5 dX5_setting_37 ?_
      cases h
      exact K _ _ _ _ I dX5_setting_38
    · have h := ifn hc4 h
      refine lv_iconst (v := (0 : Int32)) hx hb dX5_setting_25 (by decide) ?_
      refine lv_goto (tgt := 38) hx hb dX5_setting_26 (by decide) ?_
      cases h
      exact K _ _ _ _ I dX5_setting_38
  refine lv_if_eq (tgt := 14) hx hb dX5_setting_7 (by decide) (fun hc6 => ?_) (fun hc6 => ?_)
  · refine lv_iconst (v := (1 : Int32)) hx hb dX5_setting_14 (by decide) ?_
    exact J2 _ _ _ (by rw [if_pos hc6]) I
  · refine lv_iconst (v := (0 : Int32)) hx hb dX5_setting_10 (by decide) ?_
    refine lv_goto (tgt := 15) hx hb dX5_setting_11 (by decide) ?_
    exact J2 _ _ _ (by rw [if_neg hc6]) I
set_option maxHeartbeats 4000000 in
set_option maxRecDepth 100000 in
theorem c5_moreThen {l : Launch} {D : va_G} {g : Nat → ClassId} {a : Nat → Nat} {st : MS} {x91 : Int32} {x92 : Int32} {o : MS × Int64} (h : f5_moreThen st x91 x92 = some o) : ct l yX5_moreThen cX5_moreThen 3 (some .long) (rmk 5 122) D g (mW g a st) (mW g a o.1) [.ref (a 0), .int x91, .int x92] (some (.long o.2)) := by
  refine ct_of ⟨rfl, rfl⟩ (by decide) (Nat.le_of_ble_eq_true rfl) ?_
  intro p e s m args below meth c ls Q A H0 H locs E I hl K
  have E : en p m c cX5_moreThen 3 s args RX5 D g := E
  have hx := E.1.1
  have hb := E.1.2.1
  have hl : lv_has ls 3 [(0, .ref (a 0)), (1, .int x91), (2, .int x92)] := hl
  have K : ∀ (pc : Nat) (ls : Array Slot) (H : Heap) (locs : List Loc), wk D (mW g a o.1) A H0 H locs → decode cX5_moreThen pc = .ok (.lreturn, 1) → W p l e (rmk 5 122) s m args below meth c H locs 0 0 Q (F0 m pc ls [.long o.2]) := fun pc ls H locs I hd => K pc ls H locs I hd
  have h : ((bi1 (f5_listAll st x91 x92) fun st2 => (bi1 (f5_layWays st2) fun st4 => some (st4, ((m_waysOn st4) (0 : Int32).toNatClampNeg)))) : Option (MS × Int64)) = some o := h
  refine lv_aload_n hx hb dX5_moreThen_0 rfl (lv_at hl 0 rfl) ?_
  refine lv_iload_n hx hb dX5_moreThen_1 rfl (lv_at hl 1 rfl) ?_
  refine lv_iload_n hx hb dX5_moreThen_2 rfl (lv_at hl 2 rfl) ?_
  obtain ⟨st2, hc1, h⟩ := bx1 h
  refine r_callV0 (As := [.int x91, .int x92]) (rest := []) (ws' := (mW g a st2)) (q0 := 0) E I hl.1 k5_87 (c5_listAll hc1) mW_k rfl rfl rfl rfl (Nat.le_of_ble_eq_true rfl) ⟨Nat.le_of_ble_eq_true rfl, Nat.le_of_ble_eq_true rfl⟩ ⟨Nat.zero_le _, Nat.zero_le _⟩ dX5_moreThen_3 (fun H locs I => ?_)
  refine lv_aload_n hx hb dX5_moreThen_6 rfl (lv_at hl 0 rfl) ?_
  obtain ⟨st4, hc3, h⟩ := bx1 h
  refine r_callV0 (As := []) (rest := []) (ws' := (mW g a st4)) (q0 := 0) E I hl.1 k5_90 (c5_layWays hc3) mW_k rfl rfl rfl rfl (Nat.le_of_ble_eq_true rfl) ⟨Nat.le_of_ble_eq_true rfl, Nat.le_of_ble_eq_true rfl⟩ ⟨Nat.zero_le _, Nat.zero_le _⟩ dX5_moreThen_7 (fun H locs I => ?_)
  refine lv_aload_n hx hb dX5_moreThen_10 rfl (lv_at hl 0 rfl) ?_
  refine g5_34 E I dX5_moreThen_11 ?_
  refine lv_iconst (v := (0 : Int32)) hx hb dX5_moreThen_14 (by decide) ?_
  refine m_ld9 E I (f := (m_waysOn st4)) rfl (by decide) dX5_moreThen_15 ?_
  cases h
  exact K _ _ _ _ I dX5_moreThen_16
set_option maxHeartbeats 4000000 in
set_option maxRecDepth 100000 in
theorem c5_ifMore {l : Launch} {D : va_G} {g : Nat → ClassId} {a : Nat → Nat} {st : MS} {x91 : Int32} {x92 : Int32} {o : MS × Int64} (h : f5_ifMore st x91 x92 = some o) : ct l yX5_ifMore cX5_ifMore 3 (some .long) (rmk 6 144) D g (mW g a st) (mW g a o.1) [.ref (a 0), .int x91, .int x92] (some (.long o.2)) := by
  refine ct_of ⟨rfl, rfl⟩ (by decide) (Nat.le_of_ble_eq_true rfl) ?_
  intro p e s m args below meth c ls Q A H0 H locs E I hl K
  have E : en p m c cX5_ifMore 3 s args RX5 D g := E
  have hx := E.1.1
  have hb := E.1.2.1
  have hl : lv_has ls 3 [(0, .ref (a 0)), (1, .int x91), (2, .int x92)] := hl
  have K : ∀ (pc : Nat) (ls : Array Slot) (H : Heap) (locs : List Loc), wk D (mW g a o.1) A H0 H locs → decode cX5_ifMore pc = .ok (.lreturn, 1) → W p l e (rmk 6 144) s m args below meth c H locs 0 0 Q (F0 m pc ls [.long o.2]) := fun pc ls H locs I hd => K pc ls H locs I hd
  have h : ((if (if (f5_isConstant x91) = 0 then (1 : Int32) else (if (f5_within x92 (-9 : Int32) (9 : Int32)) = 0 then (2 : Int32) else (0 : Int32))) ≤ 0 then (bi2 (f5_moreThen (m_thrown_s st (if (f5_isConstant x91) = 0 then (1 : Int32) else (if (f5_within x92 (-9 : Int32) (9 : Int32)) = 0 then (2 : Int32) else (0 : Int32)))) x91 x92) fun st6 r7 => some (st6, r7)) else some ((m_thrown_s st (if (f5_isConstant x91) = 0 then (1 : Int32) else (if (f5_within x92 (-9 : Int32) (9 : Int32)) = 0 then (2 : Int32) else (0 : Int32)))), (0 : Int64))) : Option (MS × Int64)) = some o := h
  refine lv_aload_n hx hb dX5_ifMore_0 rfl (lv_at hl 0 rfl) ?_
  refine lv_iload_n hx hb dX5_ifMore_1 rfl (lv_at hl 1 rfl) ?_
  refine r_callS1 (As := [.int x91]) (rest := [.ref (a 0)]) E I hl.1 k5_136 (c5_isConstant rfl) rfl rfl (Nat.le_of_ble_eq_true rfl) ⟨Nat.le_of_ble_eq_true rfl, Nat.le_of_ble_eq_true rfl⟩ ⟨Nat.zero_le _, Nat.zero_le _⟩ dX5_ifMore_2 (fun H locs I => ?_)
  have J2 : ∀ (v1 : Int32) (H : Heap) (locs : List Loc), v1 = (if (f5_isConstant x91) = 0 then (1 : Int32) else (if (f5_within x92 (-9 : Int32) (9 : Int32)) = 0 then (2 : Int32) else (0 : Int32))) → wk D (mW g a st) A H0 H locs → W p l e (rmk 6 144) s m args below meth c H locs 0 0 Q (F0 m 28 ls [.int v1, .ref (a 0)]) := by
    intro v1 H locs hv3 I
    subst hv3
    refine p5_50 E I dX5_ifMore_28 (fun H locs I => ?_)
    refine lv_aload_n hx hb dX5_ifMore_31 rfl (lv_at hl 0 rfl) ?_
    refine g5_50 E I (v := (if (f5_isConstant x91) = 0 then (1 : Int32) else (if (f5_within x92 (-9 : Int32) (9 : Int32)) = 0 then (2 : Int32) else (0 : Int32)))) rfl dX5_ifMore_32 ?_
    refine lv_if_le (tgt := 42) hx hb dX5_ifMore_35 (by decide) (fun hc4 => ?_) (fun hc4 => ?_)
    · have h := ifp hc4 h
      refine lv_aload_n hx hb dX5_ifMore_42 rfl (lv_at hl 0 rfl) ?_
      refine lv_iload_n hx hb dX5_ifMore_43 rfl (lv_at hl 1 rfl) ?_
      refine lv_iload_n hx hb dX5_ifMore_44 rfl (lv_at hl 2 rfl) ?_
      obtain ⟨st6, r7, hc5, h⟩ := bx2 h
      refine r_callV1 (As := [.int x91, .int x92]) (rest := []) (ws' := (mW g a st6)) (q0 := 0) E I hl.1 k5_232 (c5_moreThen hc5) mW_k rfl rfl rfl rfl (Nat.le_of_ble_eq_true rfl) ⟨Nat.le_of_ble_eq_true rfl, Nat.le_of_ble_eq_true rfl⟩ ⟨Nat.zero_le _, Nat.zero_le _⟩ dX5_ifMore_45 (fun H locs I => ?_)
      cases h
      exact K _ _ _ _ I dX5_ifMore_48
    · have h := ifn hc4 h
      refine lv_lconst (v := (0 : Int64)) hx hb dX5_ifMore_38 (by decide) ?_
      refine lv_goto (tgt := 48) hx hb dX5_ifMore_39 (by decide) ?_
      cases h
      exact K _ _ _ _ I dX5_ifMore_48
  refine lv_if_ne (tgt := 12) hx hb dX5_ifMore_5 (by decide) (fun hc8 => ?_) (fun hc8 => ?_)
  · refine lv_iload_n hx hb dX5_ifMore_12 rfl (lv_at hl 2 rfl) ?_
    refine lv_bipush (v := (-9 : Int32)) hx hb dX5_ifMore_13 (by decide) ?_
    refine lv_bipush (v := (9 : Int32)) hx hb dX5_ifMore_15 (by decide) ?_
    refine r_callS1 (As := [.int x92, .int (-9 : Int32), .int (9 : Int32)]) (rest := [.ref (a 0)]) E I hl.1 k5_61 (c5_within rfl) rfl rfl (Nat.le_of_ble_eq_true rfl) ⟨Nat.le_of_ble_eq_true rfl, Nat.le_of_ble_eq_true rfl⟩ ⟨Nat.zero_le _, Nat.zero_le _⟩ dX5_ifMore_17 (fun H locs I => ?_)
    refine lv_if_eq (tgt := 27) hx hb dX5_ifMore_20 (by decide) (fun hc9 => ?_) (fun hc9 => ?_)
    · refine lv_iconst (v := (2 : Int32)) hx hb dX5_ifMore_27 (by decide) ?_
      exact J2 _ _ _ (by rw [if_neg hc8, if_pos hc9]) I
    · refine lv_iconst (v := (0 : Int32)) hx hb dX5_ifMore_23 (by decide) ?_
      refine lv_goto (tgt := 28) hx hb dX5_ifMore_24 (by decide) ?_
      exact J2 _ _ _ (by rw [if_neg hc8, if_neg hc9]) I
  · refine lv_iconst (v := (1 : Int32)) hx hb dX5_ifMore_8 (by decide) ?_
    refine lv_goto (tgt := 28) hx hb dX5_ifMore_9 (by decide) ?_
    exact J2 _ _ _ (by rw [if_pos hc8]) I
set_option maxHeartbeats 4000000 in
set_option maxRecDepth 100000 in
theorem c5_rewrittenThen {l : Launch} {D : va_G} {g : Nat → ClassId} {a : Nat → Nat} {st : MS} {x91 : Int32} {x92 : Int32} {o : MS × Int32} (h : f5_rewrittenThen st x91 x92 = some o) : ct l yX5_rewrittenThen cX5_rewrittenThen 3 (some .int) (rmk 6 150) D g (mW g a st) (mW g a o.1) [.ref (a 0), .int x91, .int x92] (some (.int o.2)) := by
  refine ct_of ⟨rfl, rfl⟩ (by decide) (Nat.le_of_ble_eq_true rfl) ?_
  intro p e s m args below meth c ls Q A H0 H locs E I hl K
  have E : en p m c cX5_rewrittenThen 3 s args RX5 D g := E
  have hx := E.1.1
  have hb := E.1.2.1
  have hl : lv_has ls 3 [(0, .ref (a 0)), (1, .int x91), (2, .int x92)] := hl
  have K : ∀ (pc : Nat) (ls : Array Slot) (H : Heap) (locs : List Loc), wk D (mW g a o.1) A H0 H locs → decode cX5_rewrittenThen pc = .ok (.ireturn, 1) → W p l e (rmk 6 150) s m args below meth c H locs 0 0 Q (F0 m pc ls [.int o.2]) := fun pc ls H locs I hd => K pc ls H locs I hd
  have h : ((bi1 (f5_layMatcher st x91) fun st2 => (bi1 (f5_isStrange st2) fun r4 => (if r4 = 0 then (bi1 (f5_rewritten st2 x92) fun r7 => some (st2, r7)) else some (st2, (-1 : Int32))))) : Option (MS × Int32)) = some o := h
  refine lv_aload_n hx hb dX5_rewrittenThen_0 rfl (lv_at hl 0 rfl) ?_
  refine lv_iload_n hx hb dX5_rewrittenThen_1 rfl (lv_at hl 1 rfl) ?_
  obtain ⟨st2, hc1, h⟩ := bx1 h
  refine r_callV0 (As := [.int x91]) (rest := []) (ws' := (mW g a st2)) (q0 := 0) E I hl.1 k5_157 (c5_layMatcher hc1) mW_k rfl rfl rfl rfl (Nat.le_of_ble_eq_true rfl) ⟨Nat.le_of_ble_eq_true rfl, Nat.le_of_ble_eq_true rfl⟩ ⟨Nat.zero_le _, Nat.zero_le _⟩ dX5_rewrittenThen_2 (fun H locs I => ?_)
  refine lv_aload_n hx hb dX5_rewrittenThen_5 rfl (lv_at hl 0 rfl) ?_
  obtain ⟨r4, hc3, h⟩ := bx1 h
  refine r_callV1 (As := []) (rest := []) (ws' := (mW g a st2)) (q0 := 0) E I hl.1 k5_161 (c5_isStrange hc3) mW_k rfl rfl rfl rfl (Nat.le_of_ble_eq_true rfl) ⟨Nat.le_of_ble_eq_true rfl, Nat.le_of_ble_eq_true rfl⟩ ⟨Nat.zero_le _, Nat.zero_le _⟩ dX5_rewrittenThen_6 (fun H locs I => ?_)
  refine lv_if_eq (tgt := 16) hx hb dX5_rewrittenThen_9 (by decide) (fun hc5 => ?_) (fun hc5 => ?_)
  · have h := ifp hc5 h
    refine lv_aload_n hx hb dX5_rewrittenThen_16 rfl (lv_at hl 0 rfl) ?_
    refine lv_iload_n hx hb dX5_rewrittenThen_17 rfl (lv_at hl 2 rfl) ?_
    obtain ⟨r7, hc6, h⟩ := bx1 h
    refine r_callV1 (As := [.int x92]) (rest := []) (ws' := (mW g a st2)) (q0 := 0) E I hl.1 k5_107 (c5_rewritten hc6) mW_k rfl rfl rfl rfl (Nat.le_of_ble_eq_true rfl) ⟨Nat.le_of_ble_eq_true rfl, Nat.le_of_ble_eq_true rfl⟩ ⟨Nat.zero_le _, Nat.zero_le _⟩ dX5_rewrittenThen_18 (fun H locs I => ?_)
    cases h
    exact K _ _ _ _ I dX5_rewrittenThen_21
  · have h := ifn hc5 h
    refine lv_iconst (v := (-1 : Int32)) hx hb dX5_rewrittenThen_12 (by decide) ?_
    refine lv_goto (tgt := 21) hx hb dX5_rewrittenThen_13 (by decide) ?_
    cases h
    exact K _ _ _ _ I dX5_rewrittenThen_21
set_option maxHeartbeats 4000000 in
set_option maxRecDepth 100000 in
theorem c5_ifRewritten {l : Launch} {D : va_G} {g : Nat → ClassId} {a : Nat → Nat} {st : MS} {x91 : Int32} {x92 : Int32} {o : MS × Int32} (h : f5_ifRewritten st x91 x92 = some o) : ct l yX5_ifRewritten cX5_ifRewritten 3 (some .int) (rmk 7 172) D g (mW g a st) (mW g a o.1) [.ref (a 0), .int x91, .int x92] (some (.int o.2)) := by
  refine ct_of ⟨rfl, rfl⟩ (by decide) (Nat.le_of_ble_eq_true rfl) ?_
  intro p e s m args below meth c ls Q A H0 H locs E I hl K
  have E : en p m c cX5_ifRewritten 3 s args RX5 D g := E
  have hx := E.1.1
  have hb := E.1.2.1
  have hl : lv_has ls 3 [(0, .ref (a 0)), (1, .int x91), (2, .int x92)] := hl
  have K : ∀ (pc : Nat) (ls : Array Slot) (H : Heap) (locs : List Loc), wk D (mW g a o.1) A H0 H locs → decode cX5_ifRewritten pc = .ok (.ireturn, 1) → W p l e (rmk 7 172) s m args below meth c H locs 0 0 Q (F0 m pc ls [.int o.2]) := fun pc ls H locs I hd => K pc ls H locs I hd
  have h : ((if (f5_isConstant x92) = 0 then f5_ifRewritten_j25 st x91 x92 (1 : Int32) else (bi2 (f5_isMatcher st x91) fun st12 r13 => (if r13 = 0 then f5_ifRewritten_j25 st12 x91 x92 (2 : Int32) else f5_ifRewritten_j25 st12 x91 x92 (0 : Int32)))) : Option (MS × Int32)) = some o := h
  refine lv_aload_n hx hb dX5_ifRewritten_0 rfl (lv_at hl 0 rfl) ?_
  refine lv_iload_n hx hb dX5_ifRewritten_1 rfl (lv_at hl 2 rfl) ?_
  refine r_callS1 (As := [.int x92]) (rest := [.ref (a 0)]) E I hl.1 k5_136 (c5_isConstant rfl) rfl rfl (Nat.le_of_ble_eq_true rfl) ⟨Nat.le_of_ble_eq_true rfl, Nat.le_of_ble_eq_true rfl⟩ ⟨Nat.zero_le _, Nat.zero_le _⟩ dX5_ifRewritten_2 (fun H locs I => ?_)
  have J1 : ∀ (st2 : MS) (x3 : Int32) (x4 : Int32) (y5 : Int32), f5_ifRewritten_j25 st2 x3 x4 y5 = some o → ∀ (H : Heap) (locs : List Loc) (ls : Array Slot), wk D (mW g a st2) A H0 H locs → lv_has ls 3 [(0, .ref (a 0)), (1, .int x3), (2, .int x4)] → W p l e (rmk 7 172) s m args below meth c H locs 0 0 Q (F0 m 25 ls [.int y5, .ref (a 0)]) := by
    intro st2 x3 x4 y5 h H locs ls I hl
    have h : ((if y5 ≤ 0 then (bi2 (f5_rewrittenThen (m_thrown_s st2 y5) x3 x4) fun st8 r9 => some (st8, r9)) else some ((m_thrown_s st2 y5), (0 : Int32))) : Option (MS × Int32)) = some o := h
    refine p5_50 E I dX5_ifRewritten_25 (fun H locs I => ?_)
    refine lv_aload_n hx hb dX5_ifRewritten_28 rfl (lv_at hl 0 rfl) ?_
    refine g5_50 E I (v := y5) rfl dX5_ifRewritten_29 ?_
    refine lv_if_le (tgt := 39) hx hb dX5_ifRewritten_32 (by decide) (fun hc6 => ?_) (fun hc6 => ?_)
    · have h := ifp hc6 h
      refine lv_aload_n hx hb dX5_ifRewritten_39 rfl (lv_at hl 0 rfl) ?_
      refine lv_iload_n hx hb dX5_ifRewritten_40 rfl (lv_at hl 1 rfl) ?_
      refine lv_iload_n hx hb dX5_ifRewritten_41 rfl (lv_at hl 2 rfl) ?_
      obtain ⟨st8, r9, hc7, h⟩ := bx2 h
      refine r_callV1 (As := [.int x3, .int x4]) (rest := []) (ws' := (mW g a st8)) (q0 := 0) E I hl.1 k5_236 (c5_rewrittenThen hc7) mW_k rfl rfl rfl rfl (Nat.le_of_ble_eq_true rfl) ⟨Nat.le_of_ble_eq_true rfl, Nat.le_of_ble_eq_true rfl⟩ ⟨Nat.zero_le _, Nat.zero_le _⟩ dX5_ifRewritten_42 (fun H locs I => ?_)
      cases h
      exact K _ _ _ _ I dX5_ifRewritten_45
    · have h := ifn hc6 h
      refine lv_iconst (v := (0 : Int32)) hx hb dX5_ifRewritten_35 (by decide) ?_
      refine lv_goto (tgt := 45) hx hb dX5_ifRewritten_36 (by decide) ?_
      cases h
      exact K _ _ _ _ I dX5_ifRewritten_45
  refine lv_if_ne (tgt := 12) hx hb dX5_ifRewritten_5 (by decide) (fun hc10 => ?_) (fun hc10 => ?_)
  · have h := ifn hc10 h
    refine lv_aload_n hx hb dX5_ifRewritten_12 rfl (lv_at hl 0 rfl) ?_
    refine lv_iload_n hx hb dX5_ifRewritten_13 rfl (lv_at hl 1 rfl) ?_
    obtain ⟨st12, r13, hc11, h⟩ := bx2 h
    refine r_callV1 (As := [.int x91]) (rest := [.ref (a 0)]) (ws' := (mW g a st12)) (q0 := 0) E I hl.1 k5_154 (c5_isMatcher hc11) mW_k rfl rfl rfl rfl (Nat.le_of_ble_eq_true rfl) ⟨Nat.le_of_ble_eq_true rfl, Nat.le_of_ble_eq_true rfl⟩ ⟨Nat.zero_le _, Nat.zero_le _⟩ dX5_ifRewritten_14 (fun H locs I => ?_)
    refine lv_if_eq (tgt := 24) hx hb dX5_ifRewritten_17 (by decide) (fun hc14 => ?_) (fun hc14 => ?_)
    · have h := ifp hc14 h
      refine lv_iconst (v := (2 : Int32)) hx hb dX5_ifRewritten_24 (by decide) ?_
      exact J1 _ _ _ _ h _ _ _ I (lv_sub hl [0, 1, 2] rfl)
    · have h := ifn hc14 h
      refine lv_iconst (v := (0 : Int32)) hx hb dX5_ifRewritten_20 (by decide) ?_
      refine lv_goto (tgt := 25) hx hb dX5_ifRewritten_21 (by decide) ?_
      exact J1 _ _ _ _ h _ _ _ I (lv_sub hl [0, 1, 2] rfl)
  · have h := ifp hc10 h
    refine lv_iconst (v := (1 : Int32)) hx hb dX5_ifRewritten_8 (by decide) ?_
    refine lv_goto (tgt := 25) hx hb dX5_ifRewritten_9 (by decide) ?_
    exact J1 _ _ _ _ h _ _ _ I (lv_sub hl [0, 1, 2] rfl)
set_option maxHeartbeats 4000000 in
set_option maxRecDepth 100000 in
theorem c5_factorsOfValue {l : Launch} {D : va_G} {g : Nat → ClassId} {a : Nat → Nat} {st : MS} {x91 : Int32} {o : Int32} (h : f5_factorsOfValue st x91 = some o) : ct l yX5_factorsOfValue cX5_factorsOfValue 2 (some .int) (rmk 0 0) D g (mW g a st) (mW g a st) [.ref (a 0), .int x91] (some (.int o)) := by
  refine ct_of ⟨rfl, rfl⟩ (by decide) (Nat.le_of_ble_eq_true rfl) ?_
  intro p e s m args below meth c ls Q A H0 H locs E I hl K
  have E : en p m c cX5_factorsOfValue 2 s args RX5 D g := E
  have hx := E.1.1
  have hb := E.1.2.1
  have hl : lv_has ls 2 [(0, .ref (a 0)), (1, .int x91)] := hl
  have K : ∀ (pc : Nat) (ls : Array Slot) (H : Heap) (locs : List Loc), wk D (mW g a st) A H0 H locs → decode cX5_factorsOfValue pc = .ok (.ireturn, 1) → W p l e (rmk 0 0) s m args below meth c H locs 0 0 Q (F0 m pc ls [.int o]) := fun pc ls H locs I hd => K pc ls H locs I hd
  have h : ((if ib ((4 : Int32) * x91) 16 = true then (if ib (((4 : Int32) * x91) + (1 : Int32)) 16 = true then (if ib (((4 : Int32) * x91) + (2 : Int32)) 16 = true then (if ib (((4 : Int32) * x91) + (3 : Int32)) 16 = true then some (((((m_values st) ((4 : Int32) * x91).toNatClampNeg) + ((m_values st) (((4 : Int32) * x91) + (1 : Int32)).toNatClampNeg)) + ((m_values st) (((4 : Int32) * x91) + (2 : Int32)).toNatClampNeg)) + ((m_values st) (((4 : Int32) * x91) + (3 : Int32)).toNatClampNeg)) else none) else none) else none) else none) : Option Int32) = some o := h
  refine lv_aload_n hx hb dX5_factorsOfValue_0 rfl (lv_at hl 0 rfl) ?_
  refine g5_38 E I dX5_factorsOfValue_1 ?_
  refine lv_iconst (v := (4 : Int32)) hx hb dX5_factorsOfValue_4 (by decide) ?_
  refine lv_iload_n hx hb dX5_factorsOfValue_5 rfl (lv_at hl 1 rfl) ?_
  refine lv_imul hx hb dX5_factorsOfValue_6 ?_
  obtain ⟨hc1, h⟩ := gd h
  refine m_ld10 E I (f := (m_values st)) rfl hc1 dX5_factorsOfValue_7 ?_
  refine lv_aload_n hx hb dX5_factorsOfValue_8 rfl (lv_at hl 0 rfl) ?_
  refine g5_38 E I dX5_factorsOfValue_9 ?_
  refine lv_iconst (v := (4 : Int32)) hx hb dX5_factorsOfValue_12 (by decide) ?_
  refine lv_iload_n hx hb dX5_factorsOfValue_13 rfl (lv_at hl 1 rfl) ?_
  refine lv_imul hx hb dX5_factorsOfValue_14 ?_
  refine lv_iconst (v := (1 : Int32)) hx hb dX5_factorsOfValue_15 (by decide) ?_
  refine lv_iadd hx hb dX5_factorsOfValue_16 ?_
  obtain ⟨hc2, h⟩ := gd h
  refine m_ld10 E I (f := (m_values st)) rfl hc2 dX5_factorsOfValue_17 ?_
  refine lv_iadd hx hb dX5_factorsOfValue_18 ?_
  refine lv_aload_n hx hb dX5_factorsOfValue_19 rfl (lv_at hl 0 rfl) ?_
  refine g5_38 E I dX5_factorsOfValue_20 ?_
  refine lv_iconst (v := (4 : Int32)) hx hb dX5_factorsOfValue_23 (by decide) ?_
  refine lv_iload_n hx hb dX5_factorsOfValue_24 rfl (lv_at hl 1 rfl) ?_
  refine lv_imul hx hb dX5_factorsOfValue_25 ?_
  refine lv_iconst (v := (2 : Int32)) hx hb dX5_factorsOfValue_26 (by decide) ?_
  refine lv_iadd hx hb dX5_factorsOfValue_27 ?_
  obtain ⟨hc3, h⟩ := gd h
  refine m_ld10 E I (f := (m_values st)) rfl hc3 dX5_factorsOfValue_28 ?_
  refine lv_iadd hx hb dX5_factorsOfValue_29 ?_
  refine lv_aload_n hx hb dX5_factorsOfValue_30 rfl (lv_at hl 0 rfl) ?_
  refine g5_38 E I dX5_factorsOfValue_31 ?_
  refine lv_iconst (v := (4 : Int32)) hx hb dX5_factorsOfValue_34 (by decide) ?_
  refine lv_iload_n hx hb dX5_factorsOfValue_35 rfl (lv_at hl 1 rfl) ?_
  refine lv_imul hx hb dX5_factorsOfValue_36 ?_
  refine lv_iconst (v := (3 : Int32)) hx hb dX5_factorsOfValue_37 (by decide) ?_
  refine lv_iadd hx hb dX5_factorsOfValue_38 ?_
  obtain ⟨hc4, h⟩ := gd h
  refine m_ld10 E I (f := (m_values st)) rfl hc4 dX5_factorsOfValue_39 ?_
  refine lv_iadd hx hb dX5_factorsOfValue_40 ?_
  cases h
  exact K _ _ _ _ I dX5_factorsOfValue_41
set_option maxHeartbeats 4000000 in
set_option maxRecDepth 100000 in
theorem c5_shortestNow {l : Launch} {D : va_G} {g : Nat → ClassId} {a : Nat → Nat} {st : MS} {x91 : Int32} {o : MS × Int32} (h : f5_shortestNow st x91 = some o) : ct l yX5_shortestNow cX5_shortestNow 8 (some .int) (rmk 6 150) D g (mW g a st) (mW g a o.1) [.ref (a 0), .int x91] (some (.int o.2)) := by
  refine ct_of ⟨rfl, rfl⟩ (by decide) (Nat.le_of_ble_eq_true rfl) ?_
  intro p e s m args below meth c ls Q A H0 H locs E I hl K
  have E : en p m c cX5_shortestNow 8 s args RX5 D g := E
  have hx := E.1.1
  have hb := E.1.2.1
  have hl : lv_has ls 8 [(0, .ref (a 0)), (1, .int x91)] := hl
  have K : ∀ (pc : Nat) (ls : Array Slot) (H : Heap) (locs : List Loc), wk D (mW g a o.1) A H0 H locs → decode cX5_shortestNow pc = .ok (.ireturn, 1) → W p l e (rmk 6 150) s m args below meth c H locs 0 0 Q (F0 m pc ls [.int o.2]) := fun pc ls H locs I hd => K pc ls H locs I hd
  have h : ((bi1 (f5_variableOf st (0 : Int32) x91) fun r2 => (if r2 = 0 then f5_shortestNow_j17 st x91 (0 : Int64) else (bi2 (f5_matchersNow st) fun st43 r44 => f5_shortestNow_j17 st43 x91 r44))) : Option (MS × Int32)) = some o := h
  refine lv_aload_n hx hb dX5_shortestNow_0 rfl (lv_at hl 0 rfl) ?_
  refine lv_iconst (v := (0 : Int32)) hx hb dX5_shortestNow_1 (by decide) ?_
  refine lv_iload_n hx hb dX5_shortestNow_2 rfl (lv_at hl 1 rfl) ?_
  obtain ⟨r2, hc1, h⟩ := bx1 h
  refine r_callV1 (As := [.int (0 : Int32), .int x91]) (rest := []) (ws' := (mW g a st)) (q0 := 0) E I hl.1 k5_65 (c5_variableOf hc1) mW_k rfl rfl rfl rfl (Nat.le_of_ble_eq_true rfl) ⟨Nat.le_of_ble_eq_true rfl, Nat.le_of_ble_eq_true rfl⟩ ⟨Nat.zero_le _, Nat.zero_le _⟩ dX5_shortestNow_3 (fun H locs I => ?_)
  have J3 : ∀ (st4 : MS) (x5 : Int32) (y6 : Int64), f5_shortestNow_j17 st4 x5 y6 = some o → ∀ (H : Heap) (locs : List Loc) (ls : Array Slot), wk D (mW g a st4) A H0 H locs → lv_has ls 8 [(0, .ref (a 0)), (1, .int x5)] → W p l e (rmk 6 150) s m args below meth c H locs 0 0 Q (F0 m 17 ls [.long y6]) := by
    intro st4 x5 y6 h H locs ls I hl
    have h : ((bi1 (wh (f5_shortestNow_b27 x5 y6) FU (st4, (-1 : Int32), (0 : Int32), (0 : Int32))) fun w40 => some (w40.1, w40.2)) : Option (MS × Int32)) = some o := h
    refine lv_lstore_n (lv' := [(2, .long y6), (0, .ref (a 0)), (1, .int x5)]) hx hb dX5_shortestNow_17 rfl hl (by decide) rfl (fun ls hl => ?_)
    refine lv_iconst (v := (-1 : Int32)) hx hb dX5_shortestNow_18 (by decide) ?_
    refine lv_istore (lv' := [(4, .int (-1 : Int32)), (2, .long y6), (0, .ref (a 0)), (1, .int x5)]) hx hb dX5_shortestNow_19 hl (by decide) rfl (fun ls hl => ?_)
    refine lv_iconst (v := (0 : Int32)) hx hb dX5_shortestNow_21 (by decide) ?_
    refine lv_istore (lv' := [(5, .int (0 : Int32)), (4, .int (-1 : Int32)), (2, .long y6), (0, .ref (a 0)), (1, .int x5)]) hx hb dX5_shortestNow_22 hl (by decide) rfl (fun ls hl => ?_)
    refine lv_iconst (v := (0 : Int32)) hx hb dX5_shortestNow_24 (by decide) ?_
    refine lv_istore (lv' := [(6, .int (0 : Int32)), (5, .int (0 : Int32)), (4, .int (-1 : Int32)), (2, .long y6), (0, .ref (a 0)), (1, .int x5)]) hx hb dX5_shortestNow_25 hl (by decide) rfl (fun ls hl => ?_)
    obtain ⟨z36, hw37, h⟩ := bx1 h
    refine wh_W (P := fun (z : MS × Int32 × Int32 × Int32) => ∀ (H : Heap) (locs : List Loc) (ls : Array Slot), wk D (mW g a z.1) A H0 H locs → lv_has ls 8 [(0, .ref (a 0)), (1, .int x5), (2, .long y6), (4, .int z.2.1), (5, .int z.2.2.1), (6, .int z.2.2.2)] → W p l e (rmk 6 150) s m args below meth c H locs 0 0 Q (F0 m 27 ls [])) (X := fun (z : MS × Int32) => ∀ (H : Heap) (locs : List Loc) (ls : Array Slot), wk D (mW g a z.1) A H0 H locs → lv_has ls 8 [(4, .int z.2)] → W p l e (rmk 6 150) s m args below meth c H locs 0 0 Q (F0 m 108 ls [])) ?_ FU _ _ hw37 ?_ _ _ _ I (lv_sub hl [4, 5, 3, 2, 1, 0] rfl)
    · intro z o13 h hk14 H locs ls I hl
      obtain ⟨st7, x10, x11, x12⟩ := z
      have h : ((if (20 : Int32) ≤ x12 then some (.inr (st7, x10)) else (if 0 ≤ (lg_cmp x12.toInt64 y6) then some (.inr (st7, x10)) else (bi1 (f5_layMatcher st7 x12) fun st18 => (if x10 = (-1 : Int32) then f5_shortestNow_j69 x5 y6 st18 x10 x11 x12 (1 : Int32) else (bi1 (f5_factorsOfValue st18 x5) fun r34 => (if x11 ≤ r34 then f5_shortestNow_j69 x5 y6 st18 x10 x11 x12 (0 : Int32) else f5_shortestNow_j69 x5 y6 st18 x10 x11 x12 (1 : Int32))))))) : Option ((MS × Int32 × Int32 × Int32) ⊕ (MS × Int32))) = some o13 := h
      have I : wk D (mW g a st7) A H0 H locs := I
      have hl : lv_has ls 8 [(0, .ref (a 0)), (1, .int x5), (2, .long y6), (4, .int x10), (5, .int x11), (6, .int x12)] := hl
      refine lv_iload hx hb dX5_shortestNow_27 (lv_at hl 5 rfl) ?_
      refine lv_bipush (v := (20 : Int32)) hx hb dX5_shortestNow_29 (by decide) ?_
      refine lv_icmp_ge (tgt := 108) hx hb dX5_shortestNow_31 (by decide) (fun hc15 => ?_) (fun hc15 => ?_)
      · have h := ifp hc15 h
        cases h
        exact hk14 _ _ _ I (lv_sub hl [3] rfl)
      · have h := ifn hc15 h
        refine lv_iload hx hb dX5_shortestNow_34 (lv_at hl 5 rfl) ?_
        refine lv_i2l (v := x12.toInt64) hx hb dX5_shortestNow_36 rfl ?_
        refine lv_lload_n hx hb dX5_shortestNow_37 rfl (lv_at hl 2 rfl) ?_
        refine W.lcmp hx hb dX5_shortestNow_38 ?_
        refine lv_if_ge (tgt := 108) hx hb dX5_shortestNow_39 (by decide) (fun hc16 => ?_) (fun hc16 => ?_)
        · have h := ifp hc16 h
          cases h
          exact hk14 _ _ _ I (lv_sub hl [3] rfl)
        · have h := ifn hc16 h
          refine lv_aload_n hx hb dX5_shortestNow_42 rfl (lv_at hl 0 rfl) ?_
          refine lv_iload hx hb dX5_shortestNow_43 (lv_at hl 5 rfl) ?_
          obtain ⟨st18, hc17, h⟩ := bx1 h
          refine r_callV0 (As := [.int x12]) (rest := []) (ws' := (mW g a st18)) (q0 := 0) E I hl.1 k5_157 (c5_layMatcher hc17) mW_k rfl rfl rfl rfl (Nat.le_of_ble_eq_true rfl) ⟨Nat.le_of_ble_eq_true rfl, Nat.le_of_ble_eq_true rfl⟩ ⟨Nat.zero_le _, Nat.zero_le _⟩ dX5_shortestNow_45 (fun H locs I => ?_)
          refine lv_iload hx hb dX5_shortestNow_48 (lv_at hl 3 rfl) ?_
          refine lv_iconst (v := (-1 : Int32)) hx hb dX5_shortestNow_50 (by decide) ?_
          have J19 : ∀ (st20 : MS) (x21 : Int32) (x22 : Int32) (x23 : Int32) (y24 : Int32), f5_shortestNow_j69 x5 y6 st20 x21 x22 x23 y24 = some o13 → ∀ (H : Heap) (locs : List Loc) (ls : Array Slot), wk D (mW g a st20) A H0 H locs → lv_has ls 8 [(0, .ref (a 0)), (1, .int x5), (2, .long y6), (4, .int x21), (5, .int x22), (6, .int x23)] → W p l e (rmk 6 150) s m args below meth c H locs 0 0 Q (F0 m 69 ls [.int y24]) := by
            intro st20 x21 x22 x23 y24 h H locs ls I hl
            have h : ((if y24 = 0 then some (.inl (st20, (if y24 = 0 then x21 else x23), x22, (x23 + 1))) else (bi1 (f5_factorsOfValue st20 x5) fun r30 => some (.inl (st20, (if y24 = 0 then x21 else x23), r30, (x23 + 1))))) : Option ((MS × Int32 × Int32 × Int32) ⊕ (MS × Int32))) = some o13 := h
            refine lv_istore (lv' := [(7, .int y24), (0, .ref (a 0)), (1, .int x5), (2, .long y6), (4, .int x21), (5, .int x22), (6, .int x23)]) hx hb dX5_shortestNow_69 hl (by decide) rfl (fun ls hl => ?_)
            refine lv_iload hx hb dX5_shortestNow_71 (lv_at hl 0 rfl) ?_
            have J26 : ∀ (v25 : Int32) (H : Heap) (locs : List Loc), v25 = (if y24 = 0 then x21 else x23) → wk D (mW g a st20) A H0 H locs → W p l e (rmk 6 150) s m args below meth c H locs 0 0 Q (F0 m 83 ls [.int v25]) := by
              intro v25 H locs hv27 I
              subst hv27
              refine lv_istore (lv' := [(4, .int (if y24 = 0 then x21 else x23)), (7, .int y24), (0, .ref (a 0)), (1, .int x5), (2, .long y6), (5, .int x22), (6, .int x23)]) hx hb dX5_shortestNow_83 hl (by decide) rfl (fun ls hl => ?_)
              refine lv_iload hx hb dX5_shortestNow_85 (lv_at hl 1 rfl) ?_
              refine lv_if_eq (tgt := 98) hx hb dX5_shortestNow_87 (by decide) (fun hc28 => ?_) (fun hc28 => ?_)
              · have h := ifp hc28 h
                refine lv_iload hx hb dX5_shortestNow_98 (lv_at hl 5 rfl) ?_
                refine lv_istore (lv' := [(5, .int x22), (4, .int (if y24 = 0 then x21 else x23)), (7, .int y24), (0, .ref (a 0)), (1, .int x5), (2, .long y6), (6, .int x23)]) hx hb dX5_shortestNow_100 hl (by decide) rfl (fun ls hl => ?_)
                refine lv_iinc (v := (x23 + 1)) (lv' := [(6, .int (x23 + 1)), (5, .int x22), (4, .int (if y24 = 0 then x21 else x23)), (7, .int y24), (0, .ref (a 0)), (1, .int x5), (2, .long y6)]) hx hb dX5_shortestNow_102 hl (k := 6) rfl rfl (by decide) rfl (fun ls hl => ?_)
                refine lv_goto (tgt := 27) hx hb dX5_shortestNow_105 (by decide) ?_
                cases h
                exact hk14 _ _ _ I (lv_sub hl [4, 5, 6, 2, 1, 0] rfl)
              · have h := ifn hc28 h
                refine lv_aload_n hx hb dX5_shortestNow_90 rfl (lv_at hl 2 rfl) ?_
                refine lv_iload_n hx hb dX5_shortestNow_91 rfl (lv_at hl 3 rfl) ?_
                obtain ⟨r30, hc29, h⟩ := bx1 h
                refine r_callV1 (As := [.int x5]) (rest := []) (ws' := (mW g a st20)) (q0 := 0) E I hl.1 k5_239 (c5_factorsOfValue hc29) mW_k rfl rfl rfl rfl (Nat.le_of_ble_eq_true rfl) ⟨Nat.le_of_ble_eq_true rfl, Nat.le_of_ble_eq_true rfl⟩ ⟨Nat.zero_le _, Nat.zero_le _⟩ dX5_shortestNow_92 (fun H locs I => ?_)
                refine lv_goto (tgt := 100) hx hb dX5_shortestNow_95 (by decide) ?_
                refine lv_istore (lv' := [(5, .int r30), (4, .int (if y24 = 0 then x21 else x23)), (7, .int y24), (0, .ref (a 0)), (1, .int x5), (2, .long y6), (6, .int x23)]) hx hb dX5_shortestNow_100 hl (by decide) rfl (fun ls hl => ?_)
                refine lv_iinc (v := (x23 + 1)) (lv' := [(6, .int (x23 + 1)), (5, .int r30), (4, .int (if y24 = 0 then x21 else x23)), (7, .int y24), (0, .ref (a 0)), (1, .int x5), (2, .long y6)]) hx hb dX5_shortestNow_102 hl (k := 6) rfl rfl (by decide) rfl (fun ls hl => ?_)
                refine lv_goto (tgt := 27) hx hb dX5_shortestNow_105 (by decide) ?_
                cases h
                exact hk14 _ _ _ I (lv_sub hl [4, 5, 6, 2, 1, 0] rfl)
            refine lv_if_eq (tgt := 81) hx hb dX5_shortestNow_73 (by decide) (fun hc31 => ?_) (fun hc31 => ?_)
            · refine lv_iload hx hb dX5_shortestNow_81 (lv_at hl 4 rfl) ?_
              exact J26 _ _ _ (by rw [if_pos hc31]) I
            · refine lv_iload hx hb dX5_shortestNow_76 (lv_at hl 6 rfl) ?_
              refine lv_goto (tgt := 83) hx hb dX5_shortestNow_78 (by decide) ?_
              exact J26 _ _ _ (by rw [if_neg hc31]) I
          refine lv_icmp_eq (tgt := 64) hx hb dX5_shortestNow_51 (by decide) (fun hc32 => ?_) (fun hc32 => ?_)
          · have h := ifp hc32 h
            refine lv_iconst (v := (1 : Int32)) hx hb dX5_shortestNow_64 (by decide) ?_
            refine lv_goto (tgt := 69) hx hb dX5_shortestNow_65 (by decide) ?_
            exact J19 _ _ _ _ _ h _ _ _ I (lv_sub hl [0, 1, 2, 3, 4, 5] rfl)
          · have h := ifn hc32 h
            refine lv_aload_n hx hb dX5_shortestNow_54 rfl (lv_at hl 0 rfl) ?_
            refine lv_iload_n hx hb dX5_shortestNow_55 rfl (lv_at hl 1 rfl) ?_
            obtain ⟨r34, hc33, h⟩ := bx1 h
            refine r_callV1 (As := [.int x5]) (rest := []) (ws' := (mW g a st18)) (q0 := 0) E I hl.1 k5_239 (c5_factorsOfValue hc33) mW_k rfl rfl rfl rfl (Nat.le_of_ble_eq_true rfl) ⟨Nat.le_of_ble_eq_true rfl, Nat.le_of_ble_eq_true rfl⟩ ⟨Nat.zero_le _, Nat.zero_le _⟩ dX5_shortestNow_56 (fun H locs I => ?_)
            refine lv_iload hx hb dX5_shortestNow_59 (lv_at hl 4 rfl) ?_
            refine lv_icmp_ge (tgt := 68) hx hb dX5_shortestNow_61 (by decide) (fun hc35 => ?_) (fun hc35 => ?_)
            · have h := ifp hc35 h
              refine lv_iconst (v := (0 : Int32)) hx hb dX5_shortestNow_68 (by decide) ?_
              exact J19 _ _ _ _ _ h _ _ _ I (lv_sub hl [0, 1, 2, 3, 4, 5] rfl)
            · have h := ifn hc35 h
              refine lv_iconst (v := (1 : Int32)) hx hb dX5_shortestNow_64 (by decide) ?_
              refine lv_goto (tgt := 69) hx hb dX5_shortestNow_65 (by decide) ?_
              exact J19 _ _ _ _ _ h _ _ _ I (lv_sub hl [0, 1, 2, 3, 4, 5] rfl)
    · obtain ⟨st38, x39⟩ := z36
      intro H locs ls I hl
      have h : (some (st38, x39) : Option (MS × Int32)) = some o := h
      have I : wk D (mW g a st38) A H0 H locs := I
      have hl : lv_has ls 8 [(4, .int x39)] := hl
      refine lv_iload hx hb dX5_shortestNow_108 (lv_at hl 0 rfl) ?_
      cases h
      exact K _ _ _ _ I dX5_shortestNow_110
  refine lv_if_ne (tgt := 13) hx hb dX5_shortestNow_6 (by decide) (fun hc41 => ?_) (fun hc41 => ?_)
  · have h := ifn hc41 h
    refine lv_aload_n hx hb dX5_shortestNow_13 rfl (lv_at hl 0 rfl) ?_
    obtain ⟨st43, r44, hc42, h⟩ := bx2 h
    refine r_callV1 (As := []) (rest := []) (ws' := (mW g a st43)) (q0 := 0) E I hl.1 k5_100 (c5_matchersNow hc42) mW_k rfl rfl rfl rfl (Nat.le_of_ble_eq_true rfl) ⟨Nat.le_of_ble_eq_true rfl, Nat.le_of_ble_eq_true rfl⟩ ⟨Nat.zero_le _, Nat.zero_le _⟩ dX5_shortestNow_14 (fun H locs I => ?_)
    exact J3 _ _ _ h _ _ _ I (lv_sub hl [0, 1] rfl)
  · have h := ifp hc41 h
    refine lv_lconst (v := (0 : Int64)) hx hb dX5_shortestNow_9 (by decide) ?_
    refine lv_goto (tgt := 17) hx hb dX5_shortestNow_10 (by decide) ?_
    exact J3 _ _ _ h _ _ _ I (lv_sub hl [0, 1] rfl)
set_option maxHeartbeats 4000000 in
set_option maxRecDepth 100000 in
theorem c5_shortest {l : Launch} {D : va_G} {g : Nat → ClassId} {a : Nat → Nat} {st : MS} {x91 : Int32} {o : MS × Int32} (h : f5_shortest st x91 = some o) : ct l yX5_shortest cX5_shortest 2 (some .int) (rmk 7 177) D g (mW g a st) (mW g a o.1) [.ref (a 0), .int x91] (some (.int o.2)) := by
  refine ct_of ⟨rfl, rfl⟩ (by decide) (Nat.le_of_ble_eq_true rfl) ?_
  intro p e s m args below meth c ls Q A H0 H locs E I hl K
  have E : en p m c cX5_shortest 2 s args RX5 D g := E
  have hx := E.1.1
  have hb := E.1.2.1
  have hl : lv_has ls 2 [(0, .ref (a 0)), (1, .int x91)] := hl
  have K : ∀ (pc : Nat) (ls : Array Slot) (H : Heap) (locs : List Loc), wk D (mW g a o.1) A H0 H locs → decode cX5_shortest pc = .ok (.ireturn, 1) → W p l e (rmk 7 177) s m args below meth c H locs 0 0 Q (F0 m pc ls [.int o.2]) := fun pc ls H locs I hd => K pc ls H locs I hd
  have h : ((if (if (f5_isVariable x91) = 0 then (1 : Int32) else (0 : Int32)) ≤ 0 then (bi2 (f5_shortestNow (m_thrown_s st (if (f5_isVariable x91) = 0 then (1 : Int32) else (0 : Int32))) x91) fun st6 r7 => some (st6, r7)) else some ((m_thrown_s st (if (f5_isVariable x91) = 0 then (1 : Int32) else (0 : Int32))), (0 : Int32))) : Option (MS × Int32)) = some o := h
  refine lv_aload_n hx hb dX5_shortest_0 rfl (lv_at hl 0 rfl) ?_
  refine lv_iload_n hx hb dX5_shortest_1 rfl (lv_at hl 1 rfl) ?_
  refine r_callS1 (As := [.int x91]) (rest := [.ref (a 0)]) E I hl.1 k5_142 (c5_isVariable rfl) rfl rfl (Nat.le_of_ble_eq_true rfl) ⟨Nat.le_of_ble_eq_true rfl, Nat.le_of_ble_eq_true rfl⟩ ⟨Nat.zero_le _, Nat.zero_le _⟩ dX5_shortest_2 (fun H locs I => ?_)
  have J2 : ∀ (v1 : Int32) (H : Heap) (locs : List Loc), v1 = (if (f5_isVariable x91) = 0 then (1 : Int32) else (0 : Int32)) → wk D (mW g a st) A H0 H locs → W p l e (rmk 7 177) s m args below meth c H locs 0 0 Q (F0 m 13 ls [.int v1, .ref (a 0)]) := by
    intro v1 H locs hv3 I
    subst hv3
    refine p5_50 E I dX5_shortest_13 (fun H locs I => ?_)
    refine lv_aload_n hx hb dX5_shortest_16 rfl (lv_at hl 0 rfl) ?_
    refine g5_50 E I (v := (if (f5_isVariable x91) = 0 then (1 : Int32) else (0 : Int32))) rfl dX5_shortest_17 ?_
    refine lv_if_le (tgt := 27) hx hb dX5_shortest_20 (by decide) (fun hc4 => ?_) (fun hc4 => ?_)
    · have h := ifp hc4 h
      refine lv_aload_n hx hb dX5_shortest_27 rfl (lv_at hl 0 rfl) ?_
      refine lv_iload_n hx hb dX5_shortest_28 rfl (lv_at hl 1 rfl) ?_
      obtain ⟨st6, r7, hc5, h⟩ := bx2 h
      refine r_callV1 (As := [.int x91]) (rest := []) (ws' := (mW g a st6)) (q0 := 0) E I hl.1 k5_242 (c5_shortestNow hc5) mW_k rfl rfl rfl rfl (Nat.le_of_ble_eq_true rfl) ⟨Nat.le_of_ble_eq_true rfl, Nat.le_of_ble_eq_true rfl⟩ ⟨Nat.zero_le _, Nat.zero_le _⟩ dX5_shortest_29 (fun H locs I => ?_)
      cases h
      exact K _ _ _ _ I dX5_shortest_32
    · have h := ifn hc4 h
      refine lv_iconst (v := (0 : Int32)) hx hb dX5_shortest_23 (by decide) ?_
      refine lv_goto (tgt := 32) hx hb dX5_shortest_24 (by decide) ?_
      cases h
      exact K _ _ _ _ I dX5_shortest_32
  refine lv_if_eq (tgt := 12) hx hb dX5_shortest_5 (by decide) (fun hc8 => ?_) (fun hc8 => ?_)
  · refine lv_iconst (v := (1 : Int32)) hx hb dX5_shortest_12 (by decide) ?_
    exact J2 _ _ _ (by rw [if_pos hc8]) I
  · refine lv_iconst (v := (0 : Int32)) hx hb dX5_shortest_8 (by decide) ?_
    refine lv_goto (tgt := 13) hx hb dX5_shortest_9 (by decide) ?_
    exact J2 _ _ _ (by rw [if_neg hc8]) I
set_option maxHeartbeats 4000000 in
set_option maxRecDepth 100000 in
theorem c5_share {l : Launch} {D : va_G} {g : Nat → ClassId} {a : Nat → Nat} {st : MS} {o : UInt64} (h : f5_share st = some o) : ct l yX5_share cX5_share 2 (some .double) (rmk 3 65) D g (mW g a st) (mW g a st) [.ref (a 0)] (some (.double o)) := by
  refine ct_of ⟨rfl, rfl⟩ (by decide) (Nat.le_of_ble_eq_true rfl) ?_
  intro p e s m args below meth c ls Q A H0 H locs E I hl K
  have E : en p m c cX5_share 2 s args RX5 D g := E
  have hx := E.1.1
  have hb := E.1.2.1
  have hl : lv_has ls 2 [(0, .ref (a 0))] := hl
  have K : ∀ (pc : Nat) (ls : Array Slot) (H : Heap) (locs : List Loc), wk D (mW g a st) A H0 H locs → decode cX5_share pc = .ok (.dreturn, 1) → W p l e (rmk 3 65) s m args below meth c H locs 0 0 Q (F0 m pc ls [.double o]) := fun pc ls H locs I hd => K pc ls H locs I hd
  have h : ((bi1 (f5_restOf st (0 : Int32)) fun r2 => (bi1 (f5_restOf st (1 : Int32)) fun r4 => (bi1 (f5_restOf st (2 : Int32)) fun r6 => (bi1 (f5_restOf st (3 : Int32)) fun r8 => (bi1 (f5_factorsOf st (2 : Int32)) fun r10 => (if r10 = 0 then some FP.dconst0 else (bi1 (f5_negativeRests st) fun r13 => (if r13 ≤ 0 then (bi1 (f5_factorsOf st (2 : Int32)) fun r16 => (if nn (FP.ddiv (FP.i2d (((r2 + r4) + r6) + r8)) (FP.i2d r16)) = true then some (FP.ddiv (FP.i2d (((r2 + r4) + r6) + r8)) (FP.i2d r16)) else none)) else some FP.dconst0)))))))) : Option UInt64) = some o := h
  refine lv_aload_n hx hb dX5_share_0 rfl (lv_at hl 0 rfl) ?_
  refine lv_iconst (v := (0 : Int32)) hx hb dX5_share_1 (by decide) ?_
  obtain ⟨r2, hc1, h⟩ := bx1 h
  refine r_callV1 (As := [.int (0 : Int32)]) (rest := []) (ws' := (mW g a st)) (q0 := 0) E I hl.1 k5_75 (c5_restOf hc1) mW_k rfl rfl rfl rfl (Nat.le_of_ble_eq_true rfl) ⟨Nat.le_of_ble_eq_true rfl, Nat.le_of_ble_eq_true rfl⟩ ⟨Nat.zero_le _, Nat.zero_le _⟩ dX5_share_2 (fun H locs I => ?_)
  refine lv_aload_n hx hb dX5_share_5 rfl (lv_at hl 0 rfl) ?_
  refine lv_iconst (v := (1 : Int32)) hx hb dX5_share_6 (by decide) ?_
  obtain ⟨r4, hc3, h⟩ := bx1 h
  refine r_callV1 (As := [.int (1 : Int32)]) (rest := [.int r2]) (ws' := (mW g a st)) (q0 := 0) E I hl.1 k5_75 (c5_restOf hc3) mW_k rfl rfl rfl rfl (Nat.le_of_ble_eq_true rfl) ⟨Nat.le_of_ble_eq_true rfl, Nat.le_of_ble_eq_true rfl⟩ ⟨Nat.zero_le _, Nat.zero_le _⟩ dX5_share_7 (fun H locs I => ?_)
  refine lv_iadd hx hb dX5_share_10 ?_
  refine lv_aload_n hx hb dX5_share_11 rfl (lv_at hl 0 rfl) ?_
  refine lv_iconst (v := (2 : Int32)) hx hb dX5_share_12 (by decide) ?_
  obtain ⟨r6, hc5, h⟩ := bx1 h
  refine r_callV1 (As := [.int (2 : Int32)]) (rest := [.int (r2 + r4)]) (ws' := (mW g a st)) (q0 := 0) E I hl.1 k5_75 (c5_restOf hc5) mW_k rfl rfl rfl rfl (Nat.le_of_ble_eq_true rfl) ⟨Nat.le_of_ble_eq_true rfl, Nat.le_of_ble_eq_true rfl⟩ ⟨Nat.zero_le _, Nat.zero_le _⟩ dX5_share_13 (fun H locs I => ?_)
  refine lv_iadd hx hb dX5_share_16 ?_
  refine lv_aload_n hx hb dX5_share_17 rfl (lv_at hl 0 rfl) ?_
  refine lv_iconst (v := (3 : Int32)) hx hb dX5_share_18 (by decide) ?_
  obtain ⟨r8, hc7, h⟩ := bx1 h
  refine r_callV1 (As := [.int (3 : Int32)]) (rest := [.int ((r2 + r4) + r6)]) (ws' := (mW g a st)) (q0 := 0) E I hl.1 k5_75 (c5_restOf hc7) mW_k rfl rfl rfl rfl (Nat.le_of_ble_eq_true rfl) ⟨Nat.le_of_ble_eq_true rfl, Nat.le_of_ble_eq_true rfl⟩ ⟨Nat.zero_le _, Nat.zero_le _⟩ dX5_share_19 (fun H locs I => ?_)
  refine lv_iadd hx hb dX5_share_22 ?_
  refine lv_istore_n (lv' := [(1, .int (((r2 + r4) + r6) + r8)), (0, .ref (a 0))]) hx hb dX5_share_23 rfl hl (by decide) rfl (fun ls hl => ?_)
  refine lv_aload_n hx hb dX5_share_24 rfl (lv_at hl 1 rfl) ?_
  refine lv_iconst (v := (2 : Int32)) hx hb dX5_share_25 (by decide) ?_
  obtain ⟨r10, hc9, h⟩ := bx1 h
  refine r_callV1 (As := [.int (2 : Int32)]) (rest := []) (ws' := (mW g a st)) (q0 := 0) E I hl.1 k5_151 (c5_factorsOf hc9) mW_k rfl rfl rfl rfl (Nat.le_of_ble_eq_true rfl) ⟨Nat.le_of_ble_eq_true rfl, Nat.le_of_ble_eq_true rfl⟩ ⟨Nat.zero_le _, Nat.zero_le _⟩ dX5_share_26 (fun H locs I => ?_)
  refine lv_if_eq (tgt := 39) hx hb dX5_share_29 (by decide) (fun hc11 => ?_) (fun hc11 => ?_)
  · have h := ifp hc11 h
    refine lv_dconst0 hx hb dX5_share_39 ?_
    refine lv_goto (tgt := 52) hx hb dX5_share_40 (by decide) ?_
    cases h
    exact K _ _ _ _ I dX5_share_52
  · have h := ifn hc11 h
    refine lv_aload_n hx hb dX5_share_32 rfl (lv_at hl 1 rfl) ?_
    obtain ⟨r13, hc12, h⟩ := bx1 h
    refine r_callV1 (As := []) (rest := []) (ws' := (mW g a st)) (q0 := 0) E I hl.1 k5_220 (c5_negativeRests hc12) mW_k rfl rfl rfl rfl (Nat.le_of_ble_eq_true rfl) ⟨Nat.le_of_ble_eq_true rfl, Nat.le_of_ble_eq_true rfl⟩ ⟨Nat.zero_le _, Nat.zero_le _⟩ dX5_share_33 (fun H locs I => ?_)
    refine lv_if_le (tgt := 43) hx hb dX5_share_36 (by decide) (fun hc14 => ?_) (fun hc14 => ?_)
    · have h := ifp hc14 h
      refine lv_iload_n hx hb dX5_share_43 rfl (lv_at hl 0 rfl) ?_
      refine lv_i2d hx hb dX5_share_44 ?_
      refine lv_aload_n hx hb dX5_share_45 rfl (lv_at hl 1 rfl) ?_
      refine lv_iconst (v := (2 : Int32)) hx hb dX5_share_46 (by decide) ?_
      obtain ⟨r16, hc15, h⟩ := bx1 h
      refine r_callV1 (As := [.int (2 : Int32)]) (rest := [.double (FP.i2d (((r2 + r4) + r6) + r8))]) (ws' := (mW g a st)) (q0 := 0) E I hl.1 k5_151 (c5_factorsOf hc15) mW_k rfl rfl rfl rfl (Nat.le_of_ble_eq_true rfl) ⟨Nat.le_of_ble_eq_true rfl, Nat.le_of_ble_eq_true rfl⟩ ⟨Nat.zero_le _, Nat.zero_le _⟩ dX5_share_47 (fun H locs I => ?_)
      refine lv_i2d hx hb dX5_share_50 ?_
      obtain ⟨hc17, h⟩ := gd h
      refine lv_ddiv hx hb dX5_share_51 (nn_of hc17) ?_
      cases h
      exact K _ _ _ _ I dX5_share_52
    · have h := ifn hc14 h
      refine lv_dconst0 hx hb dX5_share_39 ?_
      refine lv_goto (tgt := 52) hx hb dX5_share_40 (by decide) ?_
      cases h
      exact K _ _ _ _ I dX5_share_52
set_option maxHeartbeats 4000000 in
set_option maxRecDepth 100000 in
theorem c5_openShare {l : Launch} {D : va_G} {g : Nat → ClassId} {a : Nat → Nat} {st : MS} {o : MS × UInt64} (h : f5_openShare st = some o) : ct l yX5_openShare cX5_openShare 1 (some .double) (rmk 4 86) D g (mW g a st) (mW g a o.1) [.ref (a 0)] (some (.double o.2)) := by
  refine ct_of ⟨rfl, rfl⟩ (by decide) (Nat.le_of_ble_eq_true rfl) ?_
  intro p e s m args below meth c ls Q A H0 H locs E I hl K
  have E : en p m c cX5_openShare 1 s args RX5 D g := E
  have hx := E.1.1
  have hb := E.1.2.1
  have hl : lv_has ls 1 [(0, .ref (a 0))] := hl
  have K : ∀ (pc : Nat) (ls : Array Slot) (H : Heap) (locs : List Loc), wk D (mW g a o.1) A H0 H locs → decode cX5_openShare pc = .ok (.dreturn, 1) → W p l e (rmk 4 86) s m args below meth c H locs 0 0 Q (F0 m pc ls [.double o.2]) := fun pc ls H locs I hd => K pc ls H locs I hd
  have h : ((bi1 (f5_share (m_thrown_s st (0 : Int32))) fun r2 => some ((m_thrown_s st (0 : Int32)), r2)) : Option (MS × UInt64)) = some o := h
  refine lv_aload_n hx hb dX5_openShare_0 rfl (lv_at hl 0 rfl) ?_
  refine lv_iconst (v := (0 : Int32)) hx hb dX5_openShare_1 (by decide) ?_
  refine p5_50 E I dX5_openShare_2 (fun H locs I => ?_)
  refine lv_aload_n hx hb dX5_openShare_5 rfl (lv_at hl 0 rfl) ?_
  obtain ⟨r2, hc1, h⟩ := bx1 h
  refine r_callV1 (As := []) (rest := []) (ws' := (mW g a (m_thrown_s st (0 : Int32)))) (q0 := 0) E I hl.1 k5_245 (c5_share hc1) mW_k rfl rfl rfl rfl (Nat.le_of_ble_eq_true rfl) ⟨Nat.le_of_ble_eq_true rfl, Nat.le_of_ble_eq_true rfl⟩ ⟨Nat.zero_le _, Nat.zero_le _⟩ dX5_openShare_6 (fun H locs I => ?_)
  cases h
  exact K _ _ _ _ I dX5_openShare_9
set_option maxHeartbeats 4000000 in
set_option maxRecDepth 100000 in
theorem c5_mix {l : Launch} {D : va_G} {g : Nat → ClassId} {a : Nat → Nat} {st : MS} {x91 : Int64} {o : MS} (h : f5_mix st x91 = o) : ct l yX5_mix cX5_mix 3 none (rmk 0 0) D g (mW g a st) (mW g a o) [.ref (a 0), .long x91] none := by
  refine ct_of ⟨rfl, rfl⟩ (by decide) (Nat.le_of_ble_eq_true rfl) ?_
  intro p e s m args below meth c ls Q A H0 H locs E I hl K
  have E : en p m c cX5_mix 3 s args RX5 D g := E
  have hx := E.1.1
  have hb := E.1.2.1
  have hl : lv_has ls 3 [(0, .ref (a 0)), (1, .long x91)] := hl
  have K : ∀ (pc : Nat) (ls : Array Slot) (H : Heap) (locs : List Loc), wk D (mW g a o) A H0 H locs → decode cX5_mix pc = .ok (.return_, 1) → W p l e (rmk 0 0) s m args below meth c H locs 0 0 Q (F0 m pc ls []) := fun pc ls H locs I hd => K pc ls H locs I hd
  have h : ((m_hash_s st (((31 : Int64) * (m_hash st)) + x91)) : MS) = o := h
  refine lv_aload_n hx hb dX5_mix_0 rfl (lv_at hl 0 rfl) ?_
  refine lv_ldc2 (v := (31 : Int64)) hx hb E.1.2.2.2.1 (E.1.2.2.2.2 _ kc5_249) dX5_mix_1 ?_
  refine lv_aload_n hx hb dX5_mix_4 rfl (lv_at hl 0 rfl) ?_
  refine g5_251 E I (v := (m_hash st)) rfl dX5_mix_5 ?_
  refine lv_lmul hx hb dX5_mix_8 ?_
  refine lv_lload_n hx hb dX5_mix_9 rfl (lv_at hl 1 rfl) ?_
  refine lv_ladd hx hb dX5_mix_10 ?_
  refine p5_251 E I dX5_mix_11 (fun H locs I => ?_)
  cases h
  exact K _ _ _ _ I dX5_mix_14
set_option maxHeartbeats 4000000 in
set_option maxRecDepth 100000 in
theorem c5_mixMatcher {l : Launch} {D : va_G} {g : Nat → ClassId} {a : Nat → Nat} {st : MS} {x91 : Int32} {o : MS} (h : f5_mixMatcher st x91 = some o) : ct l yX5_mixMatcher cX5_mixMatcher 3 none (rmk 6 150) D g (mW g a st) (mW g a o) [.ref (a 0), .int x91] none := by
  refine ct_of ⟨rfl, rfl⟩ (by decide) (Nat.le_of_ble_eq_true rfl) ?_
  intro p e s m args below meth c ls Q A H0 H locs E I hl K
  have E : en p m c cX5_mixMatcher 3 s args RX5 D g := E
  have hx := E.1.1
  have hb := E.1.2.1
  have hl : lv_has ls 3 [(0, .ref (a 0)), (1, .int x91)] := hl
  have K : ∀ (pc : Nat) (ls : Array Slot) (H : Heap) (locs : List Loc), wk D (mW g a o) A H0 H locs → decode cX5_mixMatcher pc = .ok (.return_, 1) → W p l e (rmk 6 150) s m args below meth c H locs 0 0 Q (F0 m pc ls []) := fun pc ls H locs I hd => K pc ls H locs I hd
  have h : ((bi1 (f5_layMatcher st x91) fun st2 => (bi1 (wh (f5_mixMatcher_b7) FU (st2, (0 : Int32))) fun w31 => (bi1 (wh (f5_mixMatcher_b36) FU (w31, (0 : Int32))) fun w30 => some w30))) : Option MS) = some o := h
  refine lv_aload_n hx hb dX5_mixMatcher_0 rfl (lv_at hl 0 rfl) ?_
  refine lv_iload_n hx hb dX5_mixMatcher_1 rfl (lv_at hl 1 rfl) ?_
  obtain ⟨st2, hc1, h⟩ := bx1 h
  refine r_callV0 (As := [.int x91]) (rest := []) (ws' := (mW g a st2)) (q0 := 0) E I hl.1 k5_157 (c5_layMatcher hc1) mW_k rfl rfl rfl rfl (Nat.le_of_ble_eq_true rfl) ⟨Nat.le_of_ble_eq_true rfl, Nat.le_of_ble_eq_true rfl⟩ ⟨Nat.zero_le _, Nat.zero_le _⟩ dX5_mixMatcher_2 (fun H locs I => ?_)
  refine lv_iconst (v := (0 : Int32)) hx hb dX5_mixMatcher_5 (by decide) ?_
  refine lv_istore_n (lv' := [(2, .int (0 : Int32)), (0, .ref (a 0)), (1, .int x91)]) hx hb dX5_mixMatcher_6 rfl hl (by decide) rfl (fun ls hl => ?_)
  obtain ⟨z10, hw11, h⟩ := bx1 h
  refine wh_W (P := fun (z : MS × Int32) => ∀ (H : Heap) (locs : List Loc) (ls : Array Slot), wk D (mW g a z.1) A H0 H locs → lv_has ls 3 [(0, .ref (a 0)), (2, .int z.2)] → W p l e (rmk 6 150) s m args below meth c H locs 0 0 Q (F0 m 7 ls [])) (X := fun (z : MS) => ∀ (H : Heap) (locs : List Loc) (ls : Array Slot), wk D (mW g a z) A H0 H locs → lv_has ls 3 [(0, .ref (a 0))] → W p l e (rmk 6 150) s m args below meth c H locs 0 0 Q (F0 m 34 ls [])) ?_ FU _ _ hw11 ?_ _ _ _ I (lv_sub hl [1, 0] rfl)
  · intro z o5 h hk6 H locs ls I hl
    obtain ⟨st3, x4⟩ := z
    have h : ((if (16 : Int32) ≤ x4 then some (.inr st3) else (bi1 (f5_valueOf st3 (x4 / (4 : Int32)) (x4 - x4 / (4 : Int32) * (4 : Int32))) fun r9 => some (.inl ((f5_mix st3 r9.toInt64), (x4 + 1))))) : Option ((MS × Int32) ⊕ (MS))) = some o5 := h
    have I : wk D (mW g a st3) A H0 H locs := I
    have hl : lv_has ls 3 [(0, .ref (a 0)), (2, .int x4)] := hl
    refine lv_iload_n hx hb dX5_mixMatcher_7 rfl (lv_at hl 1 rfl) ?_
    refine lv_bipush (v := (16 : Int32)) hx hb dX5_mixMatcher_8 (by decide) ?_
    refine lv_icmp_ge (tgt := 34) hx hb dX5_mixMatcher_10 (by decide) (fun hc7 => ?_) (fun hc7 => ?_)
    · have h := ifp hc7 h
      cases h
      exact hk6 _ _ _ I (lv_sub hl [0] rfl)
    · have h := ifn hc7 h
      refine lv_aload_n hx hb dX5_mixMatcher_13 rfl (lv_at hl 0 rfl) ?_
      refine lv_aload_n hx hb dX5_mixMatcher_14 rfl (lv_at hl 0 rfl) ?_
      refine lv_iload_n hx hb dX5_mixMatcher_15 rfl (lv_at hl 1 rfl) ?_
      refine lv_iconst (v := (4 : Int32)) hx hb dX5_mixMatcher_16 (by decide) ?_
      refine lv_idiv hx hb dX5_mixMatcher_17 (by decide) ?_
      refine lv_iload_n hx hb dX5_mixMatcher_18 rfl (lv_at hl 1 rfl) ?_
      refine lv_iconst (v := (4 : Int32)) hx hb dX5_mixMatcher_19 (by decide) ?_
      refine lv_irem hx hb dX5_mixMatcher_20 (by decide) ?_
      obtain ⟨r9, hc8, h⟩ := bx1 h
      refine r_callV1 (As := [.int (x4 / (4 : Int32)), .int (x4 - x4 / (4 : Int32) * (4 : Int32))]) (rest := [.ref (a 0)]) (ws' := (mW g a st3)) (q0 := 0) E I hl.1 k5_201 (c5_valueOf hc8) mW_k rfl rfl rfl rfl (Nat.le_of_ble_eq_true rfl) ⟨Nat.le_of_ble_eq_true rfl, Nat.le_of_ble_eq_true rfl⟩ ⟨Nat.zero_le _, Nat.zero_le _⟩ dX5_mixMatcher_21 (fun H locs I => ?_)
      refine lv_i2l (v := r9.toInt64) hx hb dX5_mixMatcher_24 rfl ?_
      refine r_callV0 (As := [.long r9.toInt64]) (rest := []) (ws' := (mW g a (f5_mix st3 r9.toInt64))) (q0 := 0) E I hl.1 k5_255 (c5_mix rfl) mW_k rfl rfl rfl rfl (Nat.le_of_ble_eq_true rfl) ⟨Nat.le_of_ble_eq_true rfl, Nat.le_of_ble_eq_true rfl⟩ ⟨Nat.zero_le _, Nat.zero_le _⟩ dX5_mixMatcher_25 (fun H locs I => ?_)
      refine lv_iinc (v := (x4 + 1)) (lv' := [(2, .int (x4 + 1)), (0, .ref (a 0))]) hx hb dX5_mixMatcher_28 hl (k := 1) rfl rfl (by decide) rfl (fun ls hl => ?_)
      refine lv_goto (tgt := 7) hx hb dX5_mixMatcher_31 (by decide) ?_
      cases h
      exact hk6 _ _ _ I (lv_sub hl [1, 0] rfl)
  · obtain ⟨st12, rfl⟩ : ∃ y, y = z10 := ⟨_, rfl⟩
    intro H locs ls I hl
    have h : ((bi1 (wh (f5_mixMatcher_b36) FU (st12, (0 : Int32))) fun w30 => some w30) : Option MS) = some o := h
    have I : wk D (mW g a st12) A H0 H locs := I
    have hl : lv_has ls 3 [(0, .ref (a 0))] := hl
    refine lv_iconst (v := (0 : Int32)) hx hb dX5_mixMatcher_34 (by decide) ?_
    refine lv_istore_n (lv' := [(2, .int (0 : Int32)), (0, .ref (a 0))]) hx hb dX5_mixMatcher_35 rfl hl (by decide) rfl (fun ls hl => ?_)
    obtain ⟨z27, hw28, h⟩ := bx1 h
    refine wh_W (P := fun (z : MS × Int32) => ∀ (H : Heap) (locs : List Loc) (ls : Array Slot), wk D (mW g a z.1) A H0 H locs → lv_has ls 3 [(0, .ref (a 0)), (2, .int z.2)] → W p l e (rmk 6 150) s m args below meth c H locs 0 0 Q (F0 m 36 ls [])) (X := fun (z : MS) => ∀ (H : Heap) (locs : List Loc) (ls : Array Slot), wk D (mW g a z) A H0 H locs → lv_has ls 3 [] → W p l e (rmk 6 150) s m args below meth c H locs 0 0 Q (F0 m 70 ls [])) ?_ FU _ _ hw28 ?_ _ _ _ I (lv_sub hl [1, 0] rfl)
    · intro z o15 h hk16 H locs ls I hl
      obtain ⟨st13, x14⟩ := z
      have h : ((if (4 : Int32) ≤ x14 then some (.inr st13) else (bi1 (f5_isStrange st13) fun r19 => (if r19 = 0 then (bi1 (f5_rewritten st13 x14) fun r26 => f5_mixMatcher_j61 st13 x14 r26.toInt64) else f5_mixMatcher_j61 st13 x14 (-1 : Int64)))) : Option ((MS × Int32) ⊕ (MS))) = some o15 := h
      have I : wk D (mW g a st13) A H0 H locs := I
      have hl : lv_has ls 3 [(0, .ref (a 0)), (2, .int x14)] := hl
      refine lv_iload_n hx hb dX5_mixMatcher_36 rfl (lv_at hl 1 rfl) ?_
      refine lv_iconst (v := (4 : Int32)) hx hb dX5_mixMatcher_37 (by decide) ?_
      refine lv_icmp_ge (tgt := 70) hx hb dX5_mixMatcher_38 (by decide) (fun hc17 => ?_) (fun hc17 => ?_)
      · have h := ifp hc17 h
        cases h
        exact hk16 _ _ _ I (lv_sub hl [] rfl)
      · have h := ifn hc17 h
        refine lv_aload_n hx hb dX5_mixMatcher_41 rfl (lv_at hl 0 rfl) ?_
        refine lv_aload_n hx hb dX5_mixMatcher_42 rfl (lv_at hl 0 rfl) ?_
        obtain ⟨r19, hc18, h⟩ := bx1 h
        refine r_callV1 (As := []) (rest := [.ref (a 0)]) (ws' := (mW g a st13)) (q0 := 0) E I hl.1 k5_161 (c5_isStrange hc18) mW_k rfl rfl rfl rfl (Nat.le_of_ble_eq_true rfl) ⟨Nat.le_of_ble_eq_true rfl, Nat.le_of_ble_eq_true rfl⟩ ⟨Nat.zero_le _, Nat.zero_le _⟩ dX5_mixMatcher_43 (fun H locs I => ?_)
        have J20 : ∀ (st21 : MS) (x22 : Int32) (y23 : Int64), f5_mixMatcher_j61 st21 x22 y23 = some o15 → ∀ (H : Heap) (locs : List Loc) (ls : Array Slot), wk D (mW g a st21) A H0 H locs → lv_has ls 3 [(0, .ref (a 0)), (2, .int x22)] → W p l e (rmk 6 150) s m args below meth c H locs 0 0 Q (F0 m 61 ls [.long y23, .ref (a 0)]) := by
          intro st21 x22 y23 h H locs ls I hl
          have h : (some (.inl ((f5_mix st21 y23), (x22 + 1))) : Option ((MS × Int32) ⊕ (MS))) = some o15 := h
          refine r_callV0 (As := [.long y23]) (rest := []) (ws' := (mW g a (f5_mix st21 y23))) (q0 := 0) E I hl.1 k5_255 (c5_mix rfl) mW_k rfl rfl rfl rfl (Nat.le_of_ble_eq_true rfl) ⟨Nat.le_of_ble_eq_true rfl, Nat.le_of_ble_eq_true rfl⟩ ⟨Nat.zero_le _, Nat.zero_le _⟩ dX5_mixMatcher_61 (fun H locs I => ?_)
          refine lv_iinc (v := (x22 + 1)) (lv' := [(2, .int (x22 + 1)), (0, .ref (a 0))]) hx hb dX5_mixMatcher_64 hl (k := 1) rfl rfl (by decide) rfl (fun ls hl => ?_)
          refine lv_goto (tgt := 36) hx hb dX5_mixMatcher_67 (by decide) ?_
          cases h
          exact hk16 _ _ _ I (lv_sub hl [1, 0] rfl)
        refine lv_if_eq (tgt := 55) hx hb dX5_mixMatcher_46 (by decide) (fun hc24 => ?_) (fun hc24 => ?_)
        · have h := ifp hc24 h
          refine lv_aload_n hx hb dX5_mixMatcher_55 rfl (lv_at hl 0 rfl) ?_
          refine lv_iload_n hx hb dX5_mixMatcher_56 rfl (lv_at hl 1 rfl) ?_
          obtain ⟨r26, hc25, h⟩ := bx1 h
          refine r_callV1 (As := [.int x14]) (rest := [.ref (a 0)]) (ws' := (mW g a st13)) (q0 := 0) E I hl.1 k5_107 (c5_rewritten hc25) mW_k rfl rfl rfl rfl (Nat.le_of_ble_eq_true rfl) ⟨Nat.le_of_ble_eq_true rfl, Nat.le_of_ble_eq_true rfl⟩ ⟨Nat.zero_le _, Nat.zero_le _⟩ dX5_mixMatcher_57 (fun H locs I => ?_)
          refine lv_i2l (v := r26.toInt64) hx hb dX5_mixMatcher_60 rfl ?_
          exact J20 _ _ _ h _ _ _ I (lv_sub hl [0, 1] rfl)
        · have h := ifn hc24 h
          refine lv_ldc2 (v := (-1 : Int64)) hx hb E.1.2.2.2.1 (E.1.2.2.2.2 _ kc5_259) dX5_mixMatcher_49 ?_
          refine lv_goto (tgt := 61) hx hb dX5_mixMatcher_52 (by decide) ?_
          exact J20 _ _ _ h _ _ _ I (lv_sub hl [0, 1] rfl)
    · obtain ⟨st29, rfl⟩ : ∃ y, y = z27 := ⟨_, rfl⟩
      intro H locs ls I hl
      have h : (some st29 : Option MS) = some o := h
      have I : wk D (mW g a st29) A H0 H locs := I
      have hl : lv_has ls 3 [] := hl
      cases h
      exact K _ _ _ _ I dX5_mixMatcher_70
set_option maxHeartbeats 4000000 in
set_option maxRecDepth 100000 in
theorem c5_digest {l : Launch} {D : va_G} {g : Nat → ClassId} {a : Nat → Nat} {st : MS} {o : MS × Int64} (h : f5_digest st = some o) : ct l yX5_digest cX5_digest 4 (some .long) (rmk 7 177) D g (mW g a st) (mW g a o.1) [.ref (a 0)] (some (.long o.2)) := by
  refine ct_of ⟨rfl, rfl⟩ (by decide) (Nat.le_of_ble_eq_true rfl) ?_
  intro p e s m args below meth c ls Q A H0 H locs E I hl K
  have E : en p m c cX5_digest 4 s args RX5 D g := E
  have hx := E.1.1
  have hb := E.1.2.1
  have hl : lv_has ls 4 [(0, .ref (a 0))] := hl
  have K : ∀ (pc : Nat) (ls : Array Slot) (H : Heap) (locs : List Loc), wk D (mW g a o.1) A H0 H locs → decode cX5_digest pc = .ok (.lreturn, 1) → W p l e (rmk 7 177) s m args below meth c H locs 0 0 Q (F0 m pc ls [.long o.2]) := fun pc ls H locs I hd => K pc ls H locs I hd
  have h : ((bi1 (wh (f5_digest_b14) FU ((m_hash_s (m_thrown_s st (0 : Int32)) (2593 : Int64)), (0 : Int32))) fun w102 => (bi1 (wh (f5_digest_b62) FU ((f5_mix (f5_mix w102 ((m_z w102) (24 : Int32).toNatClampNeg).toInt64) ((m_z (f5_mix w102 ((m_z w102) (24 : Int32).toNatClampNeg).toInt64)) (25 : Int32).toNatClampNeg).toInt64), (0 : Int32))) fun w101 => (bi1 (wh (f5_digest_b87) FU (w101, (0 : Int32))) fun w100 => (bi2 (f5_matchersBy w100 (0 : Int32)) fun st38 r39 => (bi2 (f5_matchersBy (f5_mix st38 r39) (1 : Int32)) fun st41 r42 => (bi2 (f5_matchersNow (f5_mix st41 r42)) fun st44 r45 => (bi1 (wh (f5_digest_b153 r45) FU (st44, (0 : Int32))) fun w99 => (bi1 (wh (f5_digest_b178) FU (w99, (0 : Int32))) fun w98 => (bi2 (f5_sumsTo w98 (2 : Int32) (2 : Int32) (2 : Int32) (2 : Int32)) fun st70 r71 => (bi1 (wh (f5_digest_b220) FU ((f5_mix st70 r71.toInt64), (0 : Int32))) fun w97 => (bi1 (f5_share w97) fun r84 => (bi1 (fJ_doubleToLongBits r84) fun r86 => (bi1 (wh (f5_digest_b263) FU ((f5_mix (f5_mix w97 r86) (m_length (f5_mix w97 r86)).toInt64), (0 : Int32))) fun w96 => some (w96, (m_hash w96))))))))))))))) : Option (MS × Int64)) = some o := h
  refine lv_aload_n hx hb dX5_digest_0 rfl (lv_at hl 0 rfl) ?_
  refine lv_iconst (v := (0 : Int32)) hx hb dX5_digest_1 (by decide) ?_
  refine p5_50 E I dX5_digest_2 (fun H locs I => ?_)
  refine lv_aload_n hx hb dX5_digest_5 rfl (lv_at hl 0 rfl) ?_
  refine lv_ldc2 (v := (2593 : Int64)) hx hb E.1.2.2.2.1 (E.1.2.2.2.2 _ kc5_261) dX5_digest_6 ?_
  refine p5_251 E I dX5_digest_9 (fun H locs I => ?_)
  refine lv_iconst (v := (0 : Int32)) hx hb dX5_digest_12 (by decide) ?_
  refine lv_istore_n (lv' := [(1, .int (0 : Int32)), (0, .ref (a 0))]) hx hb dX5_digest_13 rfl hl (by decide) rfl (fun ls hl => ?_)
  obtain ⟨z9, hw10, h⟩ := bx1 h
  refine wh_W (P := fun (z : MS × Int32) => ∀ (H : Heap) (locs : List Loc) (ls : Array Slot), wk D (mW g a z.1) A H0 H locs → lv_has ls 4 [(0, .ref (a 0)), (1, .int z.2)] → W p l e (rmk 7 177) s m args below meth c H locs 0 0 Q (F0 m 14 ls [])) (X := fun (z : MS) => ∀ (H : Heap) (locs : List Loc) (ls : Array Slot), wk D (mW g a z) A H0 H locs → lv_has ls 4 [(0, .ref (a 0))] → W p l e (rmk 7 177) s m args below meth c H locs 0 0 Q (F0 m 36 ls [])) ?_ FU _ _ hw10 ?_ _ _ _ I (lv_sub hl [1, 0] rfl)
  · intro z o3 h hk4 H locs ls I hl
    obtain ⟨st1, x2⟩ := z
    have h : ((if (11 : Int32) ≤ x2 then some (.inr st1) else (bi2 (f5_counted st1 x2) fun st7 r8 => some (.inl ((f5_mix st7 r8.toInt64), (x2 + 1))))) : Option ((MS × Int32) ⊕ (MS))) = some o3 := h
    have I : wk D (mW g a st1) A H0 H locs := I
    have hl : lv_has ls 4 [(0, .ref (a 0)), (1, .int x2)] := hl
    refine lv_iload_n hx hb dX5_digest_14 rfl (lv_at hl 1 rfl) ?_
    refine lv_bipush (v := (11 : Int32)) hx hb dX5_digest_15 (by decide) ?_
    refine lv_icmp_ge (tgt := 36) hx hb dX5_digest_17 (by decide) (fun hc5 => ?_) (fun hc5 => ?_)
    · have h := ifp hc5 h
      cases h
      exact hk4 _ _ _ I (lv_sub hl [0] rfl)
    · have h := ifn hc5 h
      refine lv_aload_n hx hb dX5_digest_20 rfl (lv_at hl 0 rfl) ?_
      refine lv_aload_n hx hb dX5_digest_21 rfl (lv_at hl 0 rfl) ?_
      refine lv_iload_n hx hb dX5_digest_22 rfl (lv_at hl 1 rfl) ?_
      obtain ⟨st7, r8, hc6, h⟩ := bx2 h
      refine r_callV1 (As := [.int x2]) (rest := [.ref (a 0)]) (ws' := (mW g a st7)) (q0 := 0) E I hl.1 k5_229 (c5_counted hc6) mW_k rfl rfl rfl rfl (Nat.le_of_ble_eq_true rfl) ⟨Nat.le_of_ble_eq_true rfl, Nat.le_of_ble_eq_true rfl⟩ ⟨Nat.zero_le _, Nat.zero_le _⟩ dX5_digest_23 (fun H locs I => ?_)
      refine lv_i2l (v := r8.toInt64) hx hb dX5_digest_26 rfl ?_
      refine r_callV0 (As := [.long r8.toInt64]) (rest := []) (ws' := (mW g a (f5_mix st7 r8.toInt64))) (q0 := 0) E I hl.1 k5_255 (c5_mix rfl) mW_k rfl rfl rfl rfl (Nat.le_of_ble_eq_true rfl) ⟨Nat.le_of_ble_eq_true rfl, Nat.le_of_ble_eq_true rfl⟩ ⟨Nat.zero_le _, Nat.zero_le _⟩ dX5_digest_27 (fun H locs I => ?_)
      refine lv_iinc (v := (x2 + 1)) (lv' := [(1, .int (x2 + 1)), (0, .ref (a 0))]) hx hb dX5_digest_30 hl (k := 1) rfl rfl (by decide) rfl (fun ls hl => ?_)
      refine lv_goto (tgt := 14) hx hb dX5_digest_33 (by decide) ?_
      cases h
      exact hk4 _ _ _ I (lv_sub hl [1, 0] rfl)
  · obtain ⟨st11, rfl⟩ : ∃ y, y = z9 := ⟨_, rfl⟩
    intro H locs ls I hl
    have h : ((bi1 (wh (f5_digest_b62) FU ((f5_mix (f5_mix st11 ((m_z st11) (24 : Int32).toNatClampNeg).toInt64) ((m_z (f5_mix st11 ((m_z st11) (24 : Int32).toNatClampNeg).toInt64)) (25 : Int32).toNatClampNeg).toInt64), (0 : Int32))) fun w101 => (bi1 (wh (f5_digest_b87) FU (w101, (0 : Int32))) fun w100 => (bi2 (f5_matchersBy w100 (0 : Int32)) fun st38 r39 => (bi2 (f5_matchersBy (f5_mix st38 r39) (1 : Int32)) fun st41 r42 => (bi2 (f5_matchersNow (f5_mix st41 r42)) fun st44 r45 => (bi1 (wh (f5_digest_b153 r45) FU (st44, (0 : Int32))) fun w99 => (bi1 (wh (f5_digest_b178) FU (w99, (0 : Int32))) fun w98 => (bi2 (f5_sumsTo w98 (2 : Int32) (2 : Int32) (2 : Int32) (2 : Int32)) fun st70 r71 => (bi1 (wh (f5_digest_b220) FU ((f5_mix st70 r71.toInt64), (0 : Int32))) fun w97 => (bi1 (f5_share w97) fun r84 => (bi1 (fJ_doubleToLongBits r84) fun r86 => (bi1 (wh (f5_digest_b263) FU ((f5_mix (f5_mix w97 r86) (m_length (f5_mix w97 r86)).toInt64), (0 : Int32))) fun w96 => some (w96, (m_hash w96)))))))))))))) : Option (MS × Int64)) = some o := h
    have I : wk D (mW g a st11) A H0 H locs := I
    have hl : lv_has ls 4 [(0, .ref (a 0))] := hl
    refine lv_aload_n hx hb dX5_digest_36 rfl (lv_at hl 0 rfl) ?_
    refine lv_aload_n hx hb dX5_digest_37 rfl (lv_at hl 0 rfl) ?_
    refine g5_7 E I dX5_digest_38 ?_
    refine lv_bipush (v := (24 : Int32)) hx hb dX5_digest_41 (by decide) ?_
    refine m_ld1 E I (f := (m_z st11)) rfl (by decide) dX5_digest_43 ?_
    refine lv_i2l (v := ((m_z st11) (24 : Int32).toNatClampNeg).toInt64) hx hb dX5_digest_44 rfl ?_
    refine r_callV0 (As := [.long ((m_z st11) (24 : Int32).toNatClampNeg).toInt64]) (rest := []) (ws' := (mW g a (f5_mix st11 ((m_z st11) (24 : Int32).toNatClampNeg).toInt64))) (q0 := 0) E I hl.1 k5_255 (c5_mix rfl) mW_k rfl rfl rfl rfl (Nat.le_of_ble_eq_true rfl) ⟨Nat.le_of_ble_eq_true rfl, Nat.le_of_ble_eq_true rfl⟩ ⟨Nat.zero_le _, Nat.zero_le _⟩ dX5_digest_45 (fun H locs I => ?_)
    refine lv_aload_n hx hb dX5_digest_48 rfl (lv_at hl 0 rfl) ?_
    refine lv_aload_n hx hb dX5_digest_49 rfl (lv_at hl 0 rfl) ?_
    refine g5_7 E I dX5_digest_50 ?_
    refine lv_bipush (v := (25 : Int32)) hx hb dX5_digest_53 (by decide) ?_
    refine m_ld1 E I (f := (m_z (f5_mix st11 ((m_z st11) (24 : Int32).toNatClampNeg).toInt64))) rfl (by decide) dX5_digest_55 ?_
    refine lv_i2l (v := ((m_z (f5_mix st11 ((m_z st11) (24 : Int32).toNatClampNeg).toInt64)) (25 : Int32).toNatClampNeg).toInt64) hx hb dX5_digest_56 rfl ?_
    refine r_callV0 (As := [.long ((m_z (f5_mix st11 ((m_z st11) (24 : Int32).toNatClampNeg).toInt64)) (25 : Int32).toNatClampNeg).toInt64]) (rest := []) (ws' := (mW g a (f5_mix (f5_mix st11 ((m_z st11) (24 : Int32).toNatClampNeg).toInt64) ((m_z (f5_mix st11 ((m_z st11) (24 : Int32).toNatClampNeg).toInt64)) (25 : Int32).toNatClampNeg).toInt64))) (q0 := 0) E I hl.1 k5_255 (c5_mix rfl) mW_k rfl rfl rfl rfl (Nat.le_of_ble_eq_true rfl) ⟨Nat.le_of_ble_eq_true rfl, Nat.le_of_ble_eq_true rfl⟩ ⟨Nat.zero_le _, Nat.zero_le _⟩ dX5_digest_57 (fun H locs I => ?_)
    refine lv_iconst (v := (0 : Int32)) hx hb dX5_digest_60 (by decide) ?_
    refine lv_istore_n (lv' := [(1, .int (0 : Int32)), (0, .ref (a 0))]) hx hb dX5_digest_61 rfl hl (by decide) rfl (fun ls hl => ?_)
    obtain ⟨z18, hw19, h⟩ := bx1 h
    refine wh_W (P := fun (z : MS × Int32) => ∀ (H : Heap) (locs : List Loc) (ls : Array Slot), wk D (mW g a z.1) A H0 H locs → lv_has ls 4 [(0, .ref (a 0)), (1, .int z.2)] → W p l e (rmk 7 177) s m args below meth c H locs 0 0 Q (F0 m 62 ls [])) (X := fun (z : MS) => ∀ (H : Heap) (locs : List Loc) (ls : Array Slot), wk D (mW g a z) A H0 H locs → lv_has ls 4 [(0, .ref (a 0))] → W p l e (rmk 7 177) s m args below meth c H locs 0 0 Q (F0 m 85 ls [])) ?_ FU _ _ hw19 ?_ _ _ _ I (lv_sub hl [1, 0] rfl)
    · intro z o14 h hk15 H locs ls I hl
      obtain ⟨st12, x13⟩ := z
      have h : ((if (24 : Int32) ≤ x13 then some (.inr st12) else (if ib x13 26 = true then some (.inl ((f5_mix st12 ((m_z st12) x13.toNatClampNeg).toInt64), (x13 + 1))) else none)) : Option ((MS × Int32) ⊕ (MS))) = some o14 := h
      have I : wk D (mW g a st12) A H0 H locs := I
      have hl : lv_has ls 4 [(0, .ref (a 0)), (1, .int x13)] := hl
      refine lv_iload_n hx hb dX5_digest_62 rfl (lv_at hl 1 rfl) ?_
      refine lv_bipush (v := (24 : Int32)) hx hb dX5_digest_63 (by decide) ?_
      refine lv_icmp_ge (tgt := 85) hx hb dX5_digest_65 (by decide) (fun hc16 => ?_) (fun hc16 => ?_)
      · have h := ifp hc16 h
        cases h
        exact hk15 _ _ _ I (lv_sub hl [0] rfl)
      · have h := ifn hc16 h
        refine lv_aload_n hx hb dX5_digest_68 rfl (lv_at hl 0 rfl) ?_
        refine lv_aload_n hx hb dX5_digest_69 rfl (lv_at hl 0 rfl) ?_
        refine g5_7 E I dX5_digest_70 ?_
        refine lv_iload_n hx hb dX5_digest_73 rfl (lv_at hl 1 rfl) ?_
        obtain ⟨hc17, h⟩ := gd h
        refine m_ld1 E I (f := (m_z st12)) rfl hc17 dX5_digest_74 ?_
        refine lv_i2l (v := ((m_z st12) x13.toNatClampNeg).toInt64) hx hb dX5_digest_75 rfl ?_
        refine r_callV0 (As := [.long ((m_z st12) x13.toNatClampNeg).toInt64]) (rest := []) (ws' := (mW g a (f5_mix st12 ((m_z st12) x13.toNatClampNeg).toInt64))) (q0 := 0) E I hl.1 k5_255 (c5_mix rfl) mW_k rfl rfl rfl rfl (Nat.le_of_ble_eq_true rfl) ⟨Nat.le_of_ble_eq_true rfl, Nat.le_of_ble_eq_true rfl⟩ ⟨Nat.zero_le _, Nat.zero_le _⟩ dX5_digest_76 (fun H locs I => ?_)
        refine lv_iinc (v := (x13 + 1)) (lv' := [(1, .int (x13 + 1)), (0, .ref (a 0))]) hx hb dX5_digest_79 hl (k := 1) rfl rfl (by decide) rfl (fun ls hl => ?_)
        refine lv_goto (tgt := 62) hx hb dX5_digest_82 (by decide) ?_
        cases h
        exact hk15 _ _ _ I (lv_sub hl [1, 0] rfl)
    · obtain ⟨st20, rfl⟩ : ∃ y, y = z18 := ⟨_, rfl⟩
      intro H locs ls I hl
      have h : ((bi1 (wh (f5_digest_b87) FU (st20, (0 : Int32))) fun w100 => (bi2 (f5_matchersBy w100 (0 : Int32)) fun st38 r39 => (bi2 (f5_matchersBy (f5_mix st38 r39) (1 : Int32)) fun st41 r42 => (bi2 (f5_matchersNow (f5_mix st41 r42)) fun st44 r45 => (bi1 (wh (f5_digest_b153 r45) FU (st44, (0 : Int32))) fun w99 => (bi1 (wh (f5_digest_b178) FU (w99, (0 : Int32))) fun w98 => (bi2 (f5_sumsTo w98 (2 : Int32) (2 : Int32) (2 : Int32) (2 : Int32)) fun st70 r71 => (bi1 (wh (f5_digest_b220) FU ((f5_mix st70 r71.toInt64), (0 : Int32))) fun w97 => (bi1 (f5_share w97) fun r84 => (bi1 (fJ_doubleToLongBits r84) fun r86 => (bi1 (wh (f5_digest_b263) FU ((f5_mix (f5_mix w97 r86) (m_length (f5_mix w97 r86)).toInt64), (0 : Int32))) fun w96 => some (w96, (m_hash w96))))))))))))) : Option (MS × Int64)) = some o := h
      have I : wk D (mW g a st20) A H0 H locs := I
      have hl : lv_has ls 4 [(0, .ref (a 0))] := hl
      refine lv_iconst (v := (0 : Int32)) hx hb dX5_digest_85 (by decide) ?_
      refine lv_istore_n (lv' := [(1, .int (0 : Int32)), (0, .ref (a 0))]) hx hb dX5_digest_86 rfl hl (by decide) rfl (fun ls hl => ?_)
      obtain ⟨z34, hw35, h⟩ := bx1 h
      refine wh_W (P := fun (z : MS × Int32) => ∀ (H : Heap) (locs : List Loc) (ls : Array Slot), wk D (mW g a z.1) A H0 H locs → lv_has ls 4 [(0, .ref (a 0)), (1, .int z.2)] → W p l e (rmk 7 177) s m args below meth c H locs 0 0 Q (F0 m 87 ls [])) (X := fun (z : MS) => ∀ (H : Heap) (locs : List Loc) (ls : Array Slot), wk D (mW g a z) A H0 H locs → lv_has ls 4 [(0, .ref (a 0))] → W p l e (rmk 7 177) s m args below meth c H locs 0 0 Q (F0 m 128 ls [])) ?_ FU _ _ hw35 ?_ _ _ _ I (lv_sub hl [1, 0] rfl)
      · intro z o23 h hk24 H locs ls I hl
        obtain ⟨st21, x22⟩ := z
        have h : ((if (4 : Int32) ≤ x22 then some (.inr st21) else (bi1 (f5_restOf st21 x22) fun r27 => (bi2 (f5_solutionsOf (f5_mix st21 r27.toInt64) x22) fun st29 r30 => (bi2 (f5_moreThen (f5_mix st29 r30.toInt64) x22 (1 : Int32)) fun st32 r33 => some (.inl ((f5_mix st32 r33), (x22 + 1))))))) : Option ((MS × Int32) ⊕ (MS))) = some o23 := h
        have I : wk D (mW g a st21) A H0 H locs := I
        have hl : lv_has ls 4 [(0, .ref (a 0)), (1, .int x22)] := hl
        refine lv_iload_n hx hb dX5_digest_87 rfl (lv_at hl 1 rfl) ?_
        refine lv_iconst (v := (4 : Int32)) hx hb dX5_digest_88 (by decide) ?_
        refine lv_icmp_ge (tgt := 128) hx hb dX5_digest_89 (by decide) (fun hc25 => ?_) (fun hc25 => ?_)
        · have h := ifp hc25 h
          cases h
          exact hk24 _ _ _ I (lv_sub hl [0] rfl)
        · have h := ifn hc25 h
          refine lv_aload_n hx hb dX5_digest_92 rfl (lv_at hl 0 rfl) ?_
          refine lv_aload_n hx hb dX5_digest_93 rfl (lv_at hl 0 rfl) ?_
          refine lv_iload_n hx hb dX5_digest_94 rfl (lv_at hl 1 rfl) ?_
          obtain ⟨r27, hc26, h⟩ := bx1 h
          refine r_callV1 (As := [.int x22]) (rest := [.ref (a 0)]) (ws' := (mW g a st21)) (q0 := 0) E I hl.1 k5_75 (c5_restOf hc26) mW_k rfl rfl rfl rfl (Nat.le_of_ble_eq_true rfl) ⟨Nat.le_of_ble_eq_true rfl, Nat.le_of_ble_eq_true rfl⟩ ⟨Nat.zero_le _, Nat.zero_le _⟩ dX5_digest_95 (fun H locs I => ?_)
          refine lv_i2l (v := r27.toInt64) hx hb dX5_digest_98 rfl ?_
          refine r_callV0 (As := [.long r27.toInt64]) (rest := []) (ws' := (mW g a (f5_mix st21 r27.toInt64))) (q0 := 0) E I hl.1 k5_255 (c5_mix rfl) mW_k rfl rfl rfl rfl (Nat.le_of_ble_eq_true rfl) ⟨Nat.le_of_ble_eq_true rfl, Nat.le_of_ble_eq_true rfl⟩ ⟨Nat.zero_le _, Nat.zero_le _⟩ dX5_digest_99 (fun H locs I => ?_)
          refine lv_aload_n hx hb dX5_digest_102 rfl (lv_at hl 0 rfl) ?_
          refine lv_aload_n hx hb dX5_digest_103 rfl (lv_at hl 0 rfl) ?_
          refine lv_iload_n hx hb dX5_digest_104 rfl (lv_at hl 1 rfl) ?_
          obtain ⟨st29, r30, hc28, h⟩ := bx2 h
          refine r_callV1 (As := [.int x22]) (rest := [.ref (a 0)]) (ws' := (mW g a st29)) (q0 := 0) E I hl.1 k5_192 (c5_solutionsOf hc28) mW_k rfl rfl rfl rfl (Nat.le_of_ble_eq_true rfl) ⟨Nat.le_of_ble_eq_true rfl, Nat.le_of_ble_eq_true rfl⟩ ⟨Nat.zero_le _, Nat.zero_le _⟩ dX5_digest_105 (fun H locs I => ?_)
          refine lv_i2l (v := r30.toInt64) hx hb dX5_digest_108 rfl ?_
          refine r_callV0 (As := [.long r30.toInt64]) (rest := []) (ws' := (mW g a (f5_mix st29 r30.toInt64))) (q0 := 0) E I hl.1 k5_255 (c5_mix rfl) mW_k rfl rfl rfl rfl (Nat.le_of_ble_eq_true rfl) ⟨Nat.le_of_ble_eq_true rfl, Nat.le_of_ble_eq_true rfl⟩ ⟨Nat.zero_le _, Nat.zero_le _⟩ dX5_digest_109 (fun H locs I => ?_)
          refine lv_aload_n hx hb dX5_digest_112 rfl (lv_at hl 0 rfl) ?_
          refine lv_aload_n hx hb dX5_digest_113 rfl (lv_at hl 0 rfl) ?_
          refine lv_iload_n hx hb dX5_digest_114 rfl (lv_at hl 1 rfl) ?_
          refine lv_iconst (v := (1 : Int32)) hx hb dX5_digest_115 (by decide) ?_
          obtain ⟨st32, r33, hc31, h⟩ := bx2 h
          refine r_callV1 (As := [.int x22, .int (1 : Int32)]) (rest := [.ref (a 0)]) (ws' := (mW g a st32)) (q0 := 0) E I hl.1 k5_232 (c5_moreThen hc31) mW_k rfl rfl rfl rfl (Nat.le_of_ble_eq_true rfl) ⟨Nat.le_of_ble_eq_true rfl, Nat.le_of_ble_eq_true rfl⟩ ⟨Nat.zero_le _, Nat.zero_le _⟩ dX5_digest_116 (fun H locs I => ?_)
          refine r_callV0 (As := [.long r33]) (rest := []) (ws' := (mW g a (f5_mix st32 r33))) (q0 := 0) E I hl.1 k5_255 (c5_mix rfl) mW_k rfl rfl rfl rfl (Nat.le_of_ble_eq_true rfl) ⟨Nat.le_of_ble_eq_true rfl, Nat.le_of_ble_eq_true rfl⟩ ⟨Nat.zero_le _, Nat.zero_le _⟩ dX5_digest_119 (fun H locs I => ?_)
          refine lv_iinc (v := (x22 + 1)) (lv' := [(1, .int (x22 + 1)), (0, .ref (a 0))]) hx hb dX5_digest_122 hl (k := 1) rfl rfl (by decide) rfl (fun ls hl => ?_)
          refine lv_goto (tgt := 87) hx hb dX5_digest_125 (by decide) ?_
          cases h
          exact hk24 _ _ _ I (lv_sub hl [1, 0] rfl)
      · obtain ⟨st36, rfl⟩ : ∃ y, y = z34 := ⟨_, rfl⟩
        intro H locs ls I hl
        have h : ((bi2 (f5_matchersBy st36 (0 : Int32)) fun st38 r39 => (bi2 (f5_matchersBy (f5_mix st38 r39) (1 : Int32)) fun st41 r42 => (bi2 (f5_matchersNow (f5_mix st41 r42)) fun st44 r45 => (bi1 (wh (f5_digest_b153 r45) FU (st44, (0 : Int32))) fun w99 => (bi1 (wh (f5_digest_b178) FU (w99, (0 : Int32))) fun w98 => (bi2 (f5_sumsTo w98 (2 : Int32) (2 : Int32) (2 : Int32) (2 : Int32)) fun st70 r71 => (bi1 (wh (f5_digest_b220) FU ((f5_mix st70 r71.toInt64), (0 : Int32))) fun w97 => (bi1 (f5_share w97) fun r84 => (bi1 (fJ_doubleToLongBits r84) fun r86 => (bi1 (wh (f5_digest_b263) FU ((f5_mix (f5_mix w97 r86) (m_length (f5_mix w97 r86)).toInt64), (0 : Int32))) fun w96 => some (w96, (m_hash w96)))))))))))) : Option (MS × Int64)) = some o := h
        have I : wk D (mW g a st36) A H0 H locs := I
        have hl : lv_has ls 4 [(0, .ref (a 0))] := hl
        refine lv_aload_n hx hb dX5_digest_128 rfl (lv_at hl 0 rfl) ?_
        refine lv_aload_n hx hb dX5_digest_129 rfl (lv_at hl 0 rfl) ?_
        refine lv_iconst (v := (0 : Int32)) hx hb dX5_digest_130 (by decide) ?_
        obtain ⟨st38, r39, hc37, h⟩ := bx2 h
        refine r_callV1 (As := [.int (0 : Int32)]) (rest := [.ref (a 0)]) (ws' := (mW g a st38)) (q0 := 0) E I hl.1 k5_198 (c5_matchersBy hc37) mW_k rfl rfl rfl rfl (Nat.le_of_ble_eq_true rfl) ⟨Nat.le_of_ble_eq_true rfl, Nat.le_of_ble_eq_true rfl⟩ ⟨Nat.zero_le _, Nat.zero_le _⟩ dX5_digest_131 (fun H locs I => ?_)
        refine r_callV0 (As := [.long r39]) (rest := []) (ws' := (mW g a (f5_mix st38 r39))) (q0 := 0) E I hl.1 k5_255 (c5_mix rfl) mW_k rfl rfl rfl rfl (Nat.le_of_ble_eq_true rfl) ⟨Nat.le_of_ble_eq_true rfl, Nat.le_of_ble_eq_true rfl⟩ ⟨Nat.zero_le _, Nat.zero_le _⟩ dX5_digest_134 (fun H locs I => ?_)
        refine lv_aload_n hx hb dX5_digest_137 rfl (lv_at hl 0 rfl) ?_
        refine lv_aload_n hx hb dX5_digest_138 rfl (lv_at hl 0 rfl) ?_
        refine lv_iconst (v := (1 : Int32)) hx hb dX5_digest_139 (by decide) ?_
        obtain ⟨st41, r42, hc40, h⟩ := bx2 h
        refine r_callV1 (As := [.int (1 : Int32)]) (rest := [.ref (a 0)]) (ws' := (mW g a st41)) (q0 := 0) E I hl.1 k5_198 (c5_matchersBy hc40) mW_k rfl rfl rfl rfl (Nat.le_of_ble_eq_true rfl) ⟨Nat.le_of_ble_eq_true rfl, Nat.le_of_ble_eq_true rfl⟩ ⟨Nat.zero_le _, Nat.zero_le _⟩ dX5_digest_140 (fun H locs I => ?_)
        refine r_callV0 (As := [.long r42]) (rest := []) (ws' := (mW g a (f5_mix st41 r42))) (q0 := 0) E I hl.1 k5_255 (c5_mix rfl) mW_k rfl rfl rfl rfl (Nat.le_of_ble_eq_true rfl) ⟨Nat.le_of_ble_eq_true rfl, Nat.le_of_ble_eq_true rfl⟩ ⟨Nat.zero_le _, Nat.zero_le _⟩ dX5_digest_143 (fun H locs I => ?_)
        refine lv_aload_n hx hb dX5_digest_146 rfl (lv_at hl 0 rfl) ?_
        obtain ⟨st44, r45, hc43, h⟩ := bx2 h
        refine r_callV1 (As := []) (rest := []) (ws' := (mW g a st44)) (q0 := 0) E I hl.1 k5_100 (c5_matchersNow hc43) mW_k rfl rfl rfl rfl (Nat.le_of_ble_eq_true rfl) ⟨Nat.le_of_ble_eq_true rfl, Nat.le_of_ble_eq_true rfl⟩ ⟨Nat.zero_le _, Nat.zero_le _⟩ dX5_digest_147 (fun H locs I => ?_)
        refine lv_lstore_n (lv' := [(1, .long r45), (0, .ref (a 0))]) hx hb dX5_digest_150 rfl hl (by decide) rfl (fun ls hl => ?_)
        refine lv_iconst (v := (0 : Int32)) hx hb dX5_digest_151 (by decide) ?_
        refine lv_istore_n (lv' := [(3, .int (0 : Int32)), (1, .long r45), (0, .ref (a 0))]) hx hb dX5_digest_152 rfl hl (by decide) rfl (fun ls hl => ?_)
        obtain ⟨z55, hw56, h⟩ := bx1 h
        refine wh_W (P := fun (z : MS × Int32) => ∀ (H : Heap) (locs : List Loc) (ls : Array Slot), wk D (mW g a z.1) A H0 H locs → lv_has ls 4 [(0, .ref (a 0)), (1, .long r45), (3, .int z.2)] → W p l e (rmk 7 177) s m args below meth c H locs 0 0 Q (F0 m 153 ls [])) (X := fun (z : MS) => ∀ (H : Heap) (locs : List Loc) (ls : Array Slot), wk D (mW g a z) A H0 H locs → lv_has ls 4 [(0, .ref (a 0))] → W p l e (rmk 7 177) s m args below meth c H locs 0 0 Q (F0 m 176 ls [])) ?_ FU _ _ hw56 ?_ _ _ _ I (lv_sub hl [2, 1, 0] rfl)
        · intro z o49 h hk50 H locs ls I hl
          obtain ⟨st46, x48⟩ := z
          have h : ((if (3 : Int32) ≤ x48 then some (.inr st46) else (if 0 ≤ (lg_cmp x48.toInt64 r45) then some (.inr st46) else (bi1 (f5_mixMatcher st46 x48) fun st54 => some (.inl (st54, (x48 + 1)))))) : Option ((MS × Int32) ⊕ (MS))) = some o49 := h
          have I : wk D (mW g a st46) A H0 H locs := I
          have hl : lv_has ls 4 [(0, .ref (a 0)), (1, .long r45), (3, .int x48)] := hl
          refine lv_iload_n hx hb dX5_digest_153 rfl (lv_at hl 2 rfl) ?_
          refine lv_iconst (v := (3 : Int32)) hx hb dX5_digest_154 (by decide) ?_
          refine lv_icmp_ge (tgt := 176) hx hb dX5_digest_155 (by decide) (fun hc51 => ?_) (fun hc51 => ?_)
          · have h := ifp hc51 h
            cases h
            exact hk50 _ _ _ I (lv_sub hl [0] rfl)
          · have h := ifn hc51 h
            refine lv_iload_n hx hb dX5_digest_158 rfl (lv_at hl 2 rfl) ?_
            refine lv_i2l (v := x48.toInt64) hx hb dX5_digest_159 rfl ?_
            refine lv_lload_n hx hb dX5_digest_160 rfl (lv_at hl 1 rfl) ?_
            refine W.lcmp hx hb dX5_digest_161 ?_
            refine lv_if_ge (tgt := 176) hx hb dX5_digest_162 (by decide) (fun hc52 => ?_) (fun hc52 => ?_)
            · have h := ifp hc52 h
              cases h
              exact hk50 _ _ _ I (lv_sub hl [0] rfl)
            · have h := ifn hc52 h
              refine lv_aload_n hx hb dX5_digest_165 rfl (lv_at hl 0 rfl) ?_
              refine lv_iload_n hx hb dX5_digest_166 rfl (lv_at hl 2 rfl) ?_
              obtain ⟨st54, hc53, h⟩ := bx1 h
              refine r_callV0 (As := [.int x48]) (rest := []) (ws' := (mW g a st54)) (q0 := 0) E I hl.1 k5_263 (c5_mixMatcher hc53) mW_k rfl rfl rfl rfl (Nat.le_of_ble_eq_true rfl) ⟨Nat.le_of_ble_eq_true rfl, Nat.le_of_ble_eq_true rfl⟩ ⟨Nat.zero_le _, Nat.zero_le _⟩ dX5_digest_167 (fun H locs I => ?_)
              refine lv_iinc (v := (x48 + 1)) (lv' := [(3, .int (x48 + 1)), (0, .ref (a 0)), (1, .long r45)]) hx hb dX5_digest_170 hl (k := 2) rfl rfl (by decide) rfl (fun ls hl => ?_)
              refine lv_goto (tgt := 153) hx hb dX5_digest_173 (by decide) ?_
              cases h
              exact hk50 _ _ _ I (lv_sub hl [1, 2, 0] rfl)
        · obtain ⟨st57, rfl⟩ : ∃ y, y = z55 := ⟨_, rfl⟩
          intro H locs ls I hl
          have h : ((bi1 (wh (f5_digest_b178) FU (st57, (0 : Int32))) fun w98 => (bi2 (f5_sumsTo w98 (2 : Int32) (2 : Int32) (2 : Int32) (2 : Int32)) fun st70 r71 => (bi1 (wh (f5_digest_b220) FU ((f5_mix st70 r71.toInt64), (0 : Int32))) fun w97 => (bi1 (f5_share w97) fun r84 => (bi1 (fJ_doubleToLongBits r84) fun r86 => (bi1 (wh (f5_digest_b263) FU ((f5_mix (f5_mix w97 r86) (m_length (f5_mix w97 r86)).toInt64), (0 : Int32))) fun w96 => some (w96, (m_hash w96)))))))) : Option (MS × Int64)) = some o := h
          have I : wk D (mW g a st57) A H0 H locs := I
          have hl : lv_has ls 4 [(0, .ref (a 0))] := hl
          refine lv_iconst (v := (0 : Int32)) hx hb dX5_digest_176 (by decide) ?_
          refine lv_istore_n (lv' := [(3, .int (0 : Int32)), (0, .ref (a 0))]) hx hb dX5_digest_177 rfl hl (by decide) rfl (fun ls hl => ?_)
          obtain ⟨z66, hw67, h⟩ := bx1 h
          refine wh_W (P := fun (z : MS × Int32) => ∀ (H : Heap) (locs : List Loc) (ls : Array Slot), wk D (mW g a z.1) A H0 H locs → lv_has ls 4 [(0, .ref (a 0)), (3, .int z.2)] → W p l e (rmk 7 177) s m args below meth c H locs 0 0 Q (F0 m 178 ls [])) (X := fun (z : MS) => ∀ (H : Heap) (locs : List Loc) (ls : Array Slot), wk D (mW g a z) A H0 H locs → lv_has ls 4 [(0, .ref (a 0))] → W p l e (rmk 7 177) s m args below meth c H locs 0 0 Q (F0 m 205 ls [])) ?_ FU _ _ hw67 ?_ _ _ _ I (lv_sub hl [1, 0] rfl)
          · intro z o60 h hk61 H locs ls I hl
            obtain ⟨st58, x59⟩ := z
            have h : ((if (16 : Int32) ≤ x59 then some (.inr st58) else (bi2 (f5_leastAt st58 (x59 / (4 : Int32)) (x59 - x59 / (4 : Int32) * (4 : Int32))) fun st64 r65 => some (.inl ((f5_mix st64 r65.toInt64), (x59 + 1))))) : Option ((MS × Int32) ⊕ (MS))) = some o60 := h
            have I : wk D (mW g a st58) A H0 H locs := I
            have hl : lv_has ls 4 [(0, .ref (a 0)), (3, .int x59)] := hl
            refine lv_iload_n hx hb dX5_digest_178 rfl (lv_at hl 1 rfl) ?_
            refine lv_bipush (v := (16 : Int32)) hx hb dX5_digest_179 (by decide) ?_
            refine lv_icmp_ge (tgt := 205) hx hb dX5_digest_181 (by decide) (fun hc62 => ?_) (fun hc62 => ?_)
            · have h := ifp hc62 h
              cases h
              exact hk61 _ _ _ I (lv_sub hl [0] rfl)
            · have h := ifn hc62 h
              refine lv_aload_n hx hb dX5_digest_184 rfl (lv_at hl 0 rfl) ?_
              refine lv_aload_n hx hb dX5_digest_185 rfl (lv_at hl 0 rfl) ?_
              refine lv_iload_n hx hb dX5_digest_186 rfl (lv_at hl 1 rfl) ?_
              refine lv_iconst (v := (4 : Int32)) hx hb dX5_digest_187 (by decide) ?_
              refine lv_idiv hx hb dX5_digest_188 (by decide) ?_
              refine lv_iload_n hx hb dX5_digest_189 rfl (lv_at hl 1 rfl) ?_
              refine lv_iconst (v := (4 : Int32)) hx hb dX5_digest_190 (by decide) ?_
              refine lv_irem hx hb dX5_digest_191 (by decide) ?_
              obtain ⟨st64, r65, hc63, h⟩ := bx2 h
              refine r_callV1 (As := [.int (x59 / (4 : Int32)), .int (x59 - x59 / (4 : Int32) * (4 : Int32))]) (rest := [.ref (a 0)]) (ws' := (mW g a st64)) (q0 := 0) E I hl.1 k5_204 (c5_leastAt hc63) mW_k rfl rfl rfl rfl (Nat.le_of_ble_eq_true rfl) ⟨Nat.le_of_ble_eq_true rfl, Nat.le_of_ble_eq_true rfl⟩ ⟨Nat.zero_le _, Nat.zero_le _⟩ dX5_digest_192 (fun H locs I => ?_)
              refine lv_i2l (v := r65.toInt64) hx hb dX5_digest_195 rfl ?_
              refine r_callV0 (As := [.long r65.toInt64]) (rest := []) (ws' := (mW g a (f5_mix st64 r65.toInt64))) (q0 := 0) E I hl.1 k5_255 (c5_mix rfl) mW_k rfl rfl rfl rfl (Nat.le_of_ble_eq_true rfl) ⟨Nat.le_of_ble_eq_true rfl, Nat.le_of_ble_eq_true rfl⟩ ⟨Nat.zero_le _, Nat.zero_le _⟩ dX5_digest_196 (fun H locs I => ?_)
              refine lv_iinc (v := (x59 + 1)) (lv' := [(3, .int (x59 + 1)), (0, .ref (a 0))]) hx hb dX5_digest_199 hl (k := 1) rfl rfl (by decide) rfl (fun ls hl => ?_)
              refine lv_goto (tgt := 178) hx hb dX5_digest_202 (by decide) ?_
              cases h
              exact hk61 _ _ _ I (lv_sub hl [1, 0] rfl)
          · obtain ⟨st68, rfl⟩ : ∃ y, y = z66 := ⟨_, rfl⟩
            intro H locs ls I hl
            have h : ((bi2 (f5_sumsTo st68 (2 : Int32) (2 : Int32) (2 : Int32) (2 : Int32)) fun st70 r71 => (bi1 (wh (f5_digest_b220) FU ((f5_mix st70 r71.toInt64), (0 : Int32))) fun w97 => (bi1 (f5_share w97) fun r84 => (bi1 (fJ_doubleToLongBits r84) fun r86 => (bi1 (wh (f5_digest_b263) FU ((f5_mix (f5_mix w97 r86) (m_length (f5_mix w97 r86)).toInt64), (0 : Int32))) fun w96 => some (w96, (m_hash w96))))))) : Option (MS × Int64)) = some o := h
            have I : wk D (mW g a st68) A H0 H locs := I
            have hl : lv_has ls 4 [(0, .ref (a 0))] := hl
            refine lv_aload_n hx hb dX5_digest_205 rfl (lv_at hl 0 rfl) ?_
            refine lv_aload_n hx hb dX5_digest_206 rfl (lv_at hl 0 rfl) ?_
            refine lv_iconst (v := (2 : Int32)) hx hb dX5_digest_207 (by decide) ?_
            refine lv_iconst (v := (2 : Int32)) hx hb dX5_digest_208 (by decide) ?_
            refine lv_iconst (v := (2 : Int32)) hx hb dX5_digest_209 (by decide) ?_
            refine lv_iconst (v := (2 : Int32)) hx hb dX5_digest_210 (by decide) ?_
            obtain ⟨st70, r71, hc69, h⟩ := bx2 h
            refine r_callV1 (As := [.int (2 : Int32), .int (2 : Int32), .int (2 : Int32), .int (2 : Int32)]) (rest := [.ref (a 0)]) (ws' := (mW g a st70)) (q0 := 0) E I hl.1 k5_210 (c5_sumsTo hc69) mW_k rfl rfl rfl rfl (Nat.le_of_ble_eq_true rfl) ⟨Nat.le_of_ble_eq_true rfl, Nat.le_of_ble_eq_true rfl⟩ ⟨Nat.zero_le _, Nat.zero_le _⟩ dX5_digest_211 (fun H locs I => ?_)
            refine lv_i2l (v := r71.toInt64) hx hb dX5_digest_214 rfl ?_
            refine r_callV0 (As := [.long r71.toInt64]) (rest := []) (ws' := (mW g a (f5_mix st70 r71.toInt64))) (q0 := 0) E I hl.1 k5_255 (c5_mix rfl) mW_k rfl rfl rfl rfl (Nat.le_of_ble_eq_true rfl) ⟨Nat.le_of_ble_eq_true rfl, Nat.le_of_ble_eq_true rfl⟩ ⟨Nat.zero_le _, Nat.zero_le _⟩ dX5_digest_215 (fun H locs I => ?_)
            refine lv_iconst (v := (0 : Int32)) hx hb dX5_digest_218 (by decide) ?_
            refine lv_istore_n (lv' := [(3, .int (0 : Int32)), (0, .ref (a 0))]) hx hb dX5_digest_219 rfl hl (by decide) rfl (fun ls hl => ?_)
            obtain ⟨z80, hw81, h⟩ := bx1 h
            refine wh_W (P := fun (z : MS × Int32) => ∀ (H : Heap) (locs : List Loc) (ls : Array Slot), wk D (mW g a z.1) A H0 H locs → lv_has ls 4 [(0, .ref (a 0)), (3, .int z.2)] → W p l e (rmk 7 177) s m args below meth c H locs 0 0 Q (F0 m 220 ls [])) (X := fun (z : MS) => ∀ (H : Heap) (locs : List Loc) (ls : Array Slot), wk D (mW g a z) A H0 H locs → lv_has ls 4 [(0, .ref (a 0))] → W p l e (rmk 7 177) s m args below meth c H locs 0 0 Q (F0 m 241 ls [])) ?_ FU _ _ hw81 ?_ _ _ _ I (lv_sub hl [1, 0] rfl)
            · intro z o74 h hk75 H locs ls I hl
              obtain ⟨st72, x73⟩ := z
              have h : ((if (4 : Int32) ≤ x73 then some (.inr st72) else (bi2 (f5_shortestNow st72 x73) fun st78 r79 => some (.inl ((f5_mix st78 r79.toInt64), (x73 + 1))))) : Option ((MS × Int32) ⊕ (MS))) = some o74 := h
              have I : wk D (mW g a st72) A H0 H locs := I
              have hl : lv_has ls 4 [(0, .ref (a 0)), (3, .int x73)] := hl
              refine lv_iload_n hx hb dX5_digest_220 rfl (lv_at hl 1 rfl) ?_
              refine lv_iconst (v := (4 : Int32)) hx hb dX5_digest_221 (by decide) ?_
              refine lv_icmp_ge (tgt := 241) hx hb dX5_digest_222 (by decide) (fun hc76 => ?_) (fun hc76 => ?_)
              · have h := ifp hc76 h
                cases h
                exact hk75 _ _ _ I (lv_sub hl [0] rfl)
              · have h := ifn hc76 h
                refine lv_aload_n hx hb dX5_digest_225 rfl (lv_at hl 0 rfl) ?_
                refine lv_aload_n hx hb dX5_digest_226 rfl (lv_at hl 0 rfl) ?_
                refine lv_iload_n hx hb dX5_digest_227 rfl (lv_at hl 1 rfl) ?_
                obtain ⟨st78, r79, hc77, h⟩ := bx2 h
                refine r_callV1 (As := [.int x73]) (rest := [.ref (a 0)]) (ws' := (mW g a st78)) (q0 := 0) E I hl.1 k5_242 (c5_shortestNow hc77) mW_k rfl rfl rfl rfl (Nat.le_of_ble_eq_true rfl) ⟨Nat.le_of_ble_eq_true rfl, Nat.le_of_ble_eq_true rfl⟩ ⟨Nat.zero_le _, Nat.zero_le _⟩ dX5_digest_228 (fun H locs I => ?_)
                refine lv_i2l (v := r79.toInt64) hx hb dX5_digest_231 rfl ?_
                refine r_callV0 (As := [.long r79.toInt64]) (rest := []) (ws' := (mW g a (f5_mix st78 r79.toInt64))) (q0 := 0) E I hl.1 k5_255 (c5_mix rfl) mW_k rfl rfl rfl rfl (Nat.le_of_ble_eq_true rfl) ⟨Nat.le_of_ble_eq_true rfl, Nat.le_of_ble_eq_true rfl⟩ ⟨Nat.zero_le _, Nat.zero_le _⟩ dX5_digest_232 (fun H locs I => ?_)
                refine lv_iinc (v := (x73 + 1)) (lv' := [(3, .int (x73 + 1)), (0, .ref (a 0))]) hx hb dX5_digest_235 hl (k := 1) rfl rfl (by decide) rfl (fun ls hl => ?_)
                refine lv_goto (tgt := 220) hx hb dX5_digest_238 (by decide) ?_
                cases h
                exact hk75 _ _ _ I (lv_sub hl [1, 0] rfl)
            · obtain ⟨st82, rfl⟩ : ∃ y, y = z80 := ⟨_, rfl⟩
              intro H locs ls I hl
              have h : ((bi1 (f5_share st82) fun r84 => (bi1 (fJ_doubleToLongBits r84) fun r86 => (bi1 (wh (f5_digest_b263) FU ((f5_mix (f5_mix st82 r86) (m_length (f5_mix st82 r86)).toInt64), (0 : Int32))) fun w96 => some (w96, (m_hash w96))))) : Option (MS × Int64)) = some o := h
              have I : wk D (mW g a st82) A H0 H locs := I
              have hl : lv_has ls 4 [(0, .ref (a 0))] := hl
              refine lv_aload_n hx hb dX5_digest_241 rfl (lv_at hl 0 rfl) ?_
              refine lv_aload_n hx hb dX5_digest_242 rfl (lv_at hl 0 rfl) ?_
              obtain ⟨r84, hc83, h⟩ := bx1 h
              refine r_callV1 (As := []) (rest := [.ref (a 0)]) (ws' := (mW g a st82)) (q0 := 0) E I hl.1 k5_245 (c5_share hc83) mW_k rfl rfl rfl rfl (Nat.le_of_ble_eq_true rfl) ⟨Nat.le_of_ble_eq_true rfl, Nat.le_of_ble_eq_true rfl⟩ ⟨Nat.zero_le _, Nat.zero_le _⟩ dX5_digest_243 (fun H locs I => ?_)
              obtain ⟨r86, hc85, h⟩ := bx1 h
              refine r_callS1 (As := [.double r84]) (rest := [.ref (a 0)]) E I hl.1 k5_266 (cJ_doubleToLongBits hc85) rfl rfl (Nat.le_of_ble_eq_true rfl) ⟨Nat.le_of_ble_eq_true rfl, Nat.le_of_ble_eq_true rfl⟩ ⟨Nat.zero_le _, Nat.zero_le _⟩ dX5_digest_246 (fun H locs I => ?_)
              refine r_callV0 (As := [.long r86]) (rest := []) (ws' := (mW g a (f5_mix st82 r86))) (q0 := 0) E I hl.1 k5_255 (c5_mix rfl) mW_k rfl rfl rfl rfl (Nat.le_of_ble_eq_true rfl) ⟨Nat.le_of_ble_eq_true rfl, Nat.le_of_ble_eq_true rfl⟩ ⟨Nat.zero_le _, Nat.zero_le _⟩ dX5_digest_249 (fun H locs I => ?_)
              refine lv_aload_n hx hb dX5_digest_252 rfl (lv_at hl 0 rfl) ?_
              refine lv_aload_n hx hb dX5_digest_253 rfl (lv_at hl 0 rfl) ?_
              refine g5_168 E I (v := (m_length (f5_mix st82 r86))) rfl dX5_digest_254 ?_
              refine lv_i2l (v := (m_length (f5_mix st82 r86)).toInt64) hx hb dX5_digest_257 rfl ?_
              refine r_callV0 (As := [.long (m_length (f5_mix st82 r86)).toInt64]) (rest := []) (ws' := (mW g a (f5_mix (f5_mix st82 r86) (m_length (f5_mix st82 r86)).toInt64))) (q0 := 0) E I hl.1 k5_255 (c5_mix rfl) mW_k rfl rfl rfl rfl (Nat.le_of_ble_eq_true rfl) ⟨Nat.le_of_ble_eq_true rfl, Nat.le_of_ble_eq_true rfl⟩ ⟨Nat.zero_le _, Nat.zero_le _⟩ dX5_digest_258 (fun H locs I => ?_)
              refine lv_iconst (v := (0 : Int32)) hx hb dX5_digest_261 (by decide) ?_
              refine lv_istore_n (lv' := [(3, .int (0 : Int32)), (0, .ref (a 0))]) hx hb dX5_digest_262 rfl hl (by decide) rfl (fun ls hl => ?_)
              obtain ⟨z93, hw94, h⟩ := bx1 h
              refine wh_W (P := fun (z : MS × Int32) => ∀ (H : Heap) (locs : List Loc) (ls : Array Slot), wk D (mW g a z.1) A H0 H locs → lv_has ls 4 [(0, .ref (a 0)), (3, .int z.2)] → W p l e (rmk 7 177) s m args below meth c H locs 0 0 Q (F0 m 263 ls [])) (X := fun (z : MS) => ∀ (H : Heap) (locs : List Loc) (ls : Array Slot), wk D (mW g a z) A H0 H locs → lv_has ls 4 [(0, .ref (a 0))] → W p l e (rmk 7 177) s m args below meth c H locs 0 0 Q (F0 m 288 ls [])) ?_ FU _ _ hw94 ?_ _ _ _ I (lv_sub hl [1, 0] rfl)
              · intro z o89 h hk90 H locs ls I hl
                obtain ⟨st87, x88⟩ := z
                have h : ((if (m_length st87) ≤ x88 then some (.inr st87) else (if ib x88 60 = true then some (.inl ((f5_mix st87 ((m_text st87) x88.toNatClampNeg).toInt64), (x88 + 1))) else none)) : Option ((MS × Int32) ⊕ (MS))) = some o89 := h
                have I : wk D (mW g a st87) A H0 H locs := I
                have hl : lv_has ls 4 [(0, .ref (a 0)), (3, .int x88)] := hl
                refine lv_iload_n hx hb dX5_digest_263 rfl (lv_at hl 1 rfl) ?_
                refine lv_aload_n hx hb dX5_digest_264 rfl (lv_at hl 0 rfl) ?_
                refine g5_168 E I (v := (m_length st87)) rfl dX5_digest_265 ?_
                refine lv_icmp_ge (tgt := 288) hx hb dX5_digest_268 (by decide) (fun hc91 => ?_) (fun hc91 => ?_)
                · have h := ifp hc91 h
                  cases h
                  exact hk90 _ _ _ I (lv_sub hl [0] rfl)
                · have h := ifn hc91 h
                  refine lv_aload_n hx hb dX5_digest_271 rfl (lv_at hl 0 rfl) ?_
                  refine lv_aload_n hx hb dX5_digest_272 rfl (lv_at hl 0 rfl) ?_
                  refine g5_22 E I dX5_digest_273 ?_
                  refine lv_iload_n hx hb dX5_digest_276 rfl (lv_at hl 1 rfl) ?_
                  obtain ⟨hc92, h⟩ := gd h
                  refine m_ld5 E I (f := (m_text st87)) rfl hc92 dX5_digest_277 ?_
                  refine lv_i2l (v := ((m_text st87) x88.toNatClampNeg).toInt64) hx hb dX5_digest_278 rfl ?_
                  refine r_callV0 (As := [.long ((m_text st87) x88.toNatClampNeg).toInt64]) (rest := []) (ws' := (mW g a (f5_mix st87 ((m_text st87) x88.toNatClampNeg).toInt64))) (q0 := 0) E I hl.1 k5_255 (c5_mix rfl) mW_k rfl rfl rfl rfl (Nat.le_of_ble_eq_true rfl) ⟨Nat.le_of_ble_eq_true rfl, Nat.le_of_ble_eq_true rfl⟩ ⟨Nat.zero_le _, Nat.zero_le _⟩ dX5_digest_279 (fun H locs I => ?_)
                  refine lv_iinc (v := (x88 + 1)) (lv' := [(3, .int (x88 + 1)), (0, .ref (a 0))]) hx hb dX5_digest_282 hl (k := 1) rfl rfl (by decide) rfl (fun ls hl => ?_)
                  refine lv_goto (tgt := 263) hx hb dX5_digest_285 (by decide) ?_
                  cases h
                  exact hk90 _ _ _ I (lv_sub hl [1, 0] rfl)
              · obtain ⟨st95, rfl⟩ : ∃ y, y = z93 := ⟨_, rfl⟩
                intro H locs ls I hl
                have h : (some (st95, (m_hash st95)) : Option (MS × Int64)) = some o := h
                have I : wk D (mW g a st95) A H0 H locs := I
                have hl : lv_has ls 4 [(0, .ref (a 0))] := hl
                refine lv_aload_n hx hb dX5_digest_288 rfl (lv_at hl 0 rfl) ?_
                refine g5_251 E I (v := (m_hash st95)) rfl dX5_digest_289 ?_
                cases h
                exact K _ _ _ _ I dX5_digest_292
