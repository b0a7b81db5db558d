set_option maxRecDepth 100000 in
theorem xw4_116 : xwd 116 120 (exN 1) := ⟨tb 295 (by decide +kernel) (by decide +kernel), tb 92 (by decide +kernel) (by decide +kernel), by decide +kernel, by decide +kernel, by decide +kernel, by decide +kernel⟩
set_option maxRecDepth 100000 in
theorem xw4_258 : xwd 258 262 (exN 0) := ⟨tb 435 (by decide +kernel) (by decide +kernel), tb 91 (by decide +kernel) (by decide +kernel), by decide +kernel, by decide +kernel, by decide +kernel, by decide +kernel⟩
set_option maxRecDepth 100000 in
theorem xw4_77 : xwd 77 81 (exN 2) := ⟨tb 634 (by decide +kernel) (by decide +kernel), tb 94 (by decide +kernel) (by decide +kernel), by decide +kernel, by decide +kernel, by decide +kernel, by decide +kernel⟩
set_option maxHeartbeats 4000000 in
set_option maxRecDepth 100000 in
theorem t4_needIndex {l : Launch} {D : va_G} {g : Nat → ClassId} {x90 : Int32} {x91 : Int32} {e' : Nat} (hl0 : l.stackTraces = false) (h : f4_needIndex x90 x91 = .inl e') : cx l yX4_needIndex cX4_needIndex 2 none (rmx 6 82) D g [] [] [.int x90, .int x91] (exN e') := by
  refine cx_of (by decide) (Nat.le_of_ble_eq_true rfl) ?_
  intro p e s m args below meth c ls Q A H locs E I hl hQ xw hex hlk
  have E : en p m c cX4_needIndex 2 s args RX4 D g := E
  have hx := E.1.1
  have hb := E.1.2.1
  have hl : lv_has ls 2 [(0, .int x90), (1, .int x91)] := hl
  have h : ((if x90 < 0 then .inl 0 else (if x90 < x91 then .inr () else .inl 0)) : Nat ⊕ Unit) = .inl e' := h
  refine lv_iload_n hx hb dX4_needIndex_0 rfl (lv_at hl 0 rfl) ?_
  refine lv_if_lt (tgt := 9) hx hb dX4_needIndex_1 (by decide) (fun hc1 => ?_) (fun hc1 => ?_)
  · have h := ifp hc1 h
    cases h
    exact r_throw (is := 260) (text := "there is none with this number") (rest := []) hl0 hQ xw hex hlk E I hl.1 (k0 := 0) rfl xw4_258 (by simp [xS]) dX4_needIndex_9 dX4_needIndex_12 ⟨by decide, Nat.le_of_ble_eq_true rfl, Nat.le_refl _, Nat.le_refl _⟩ (Or.inr ⟨dX4_needIndex_13, dX4_needIndex_16, dX4_needIndex_19⟩)
  · have h := ifn hc1 h
    refine lv_iload_n hx hb dX4_needIndex_4 rfl (lv_at hl 0 rfl) ?_
    refine lv_iload_n hx hb dX4_needIndex_5 rfl (lv_at hl 1 rfl) ?_
    refine lv_icmp_lt (tgt := 20) hx hb dX4_needIndex_6 (by decide) (fun hc2 => ?_) (fun hc2 => ?_)
    · have h := ifp hc2 h
      cases h
    · have h := ifn hc2 h
      cases h
      exact r_throw (is := 260) (text := "there is none with this number") (rest := []) hl0 hQ xw hex hlk E I hl.1 (k0 := 0) rfl xw4_258 (by simp [xS]) dX4_needIndex_9 dX4_needIndex_12 ⟨by decide, Nat.le_of_ble_eq_true rfl, Nat.le_refl _, Nat.le_refl _⟩ (Or.inr ⟨dX4_needIndex_13, dX4_needIndex_16, dX4_needIndex_19⟩)
set_option maxHeartbeats 4000000 in
set_option maxRecDepth 100000 in
theorem t4_needNumber {l : Launch} {D : va_G} {g : Nat → ClassId} {x90 : Int32} {x91 : Int32} {x92 : Int32} {e' : Nat} (hl0 : l.stackTraces = false) (h : f4_needNumber x90 x91 x92 = .inl e') : cx l yX4_needNumber cX4_needNumber 3 none (rmx 6 82) D g [] [] [.int x90, .int x91, .int x92] (exN e') := by
  refine cx_of (by decide) (Nat.le_of_ble_eq_true rfl) ?_
  intro p e s m args below meth c ls Q A H locs E I hl hQ xw hex hlk
  have E : en p m c cX4_needNumber 3 s args RX4 D g := E
  have hx := E.1.1
  have hb := E.1.2.1
  have hl : lv_has ls 3 [(0, .int x90), (1, .int x91), (2, .int x92)] := hl
  have h : ((if x90 < x91 then .inl 1 else (if x90 ≤ x92 then .inr () else .inl 1)) : Nat ⊕ Unit) = .inl e' := h
  refine lv_iload_n hx hb dX4_needNumber_0 rfl (lv_at hl 0 rfl) ?_
  refine lv_iload_n hx hb dX4_needNumber_1 rfl (lv_at hl 1 rfl) ?_
  refine lv_icmp_lt (tgt := 10) hx hb dX4_needNumber_2 (by decide) (fun hc1 => ?_) (fun hc1 => ?_)
  · have h := ifp hc1 h
    cases h
    exact r_throw (is := 263) (text := "a number is out of range") (rest := []) hl0 hQ xw hex hlk E I hl.1 (k0 := 1) rfl xw4_116 (by simp [xS]) dX4_needNumber_10 dX4_needNumber_13 ⟨by decide, Nat.le_of_ble_eq_true rfl, Nat.le_refl _, Nat.le_refl _⟩ (Or.inr ⟨dX4_needNumber_14, dX4_needNumber_17, dX4_needNumber_20⟩)
  · have h := ifn hc1 h
    refine lv_iload_n hx hb dX4_needNumber_5 rfl (lv_at hl 0 rfl) ?_
    refine lv_iload_n hx hb dX4_needNumber_6 rfl (lv_at hl 2 rfl) ?_
    refine lv_icmp_le (tgt := 21) hx hb dX4_needNumber_7 (by decide) (fun hc2 => ?_) (fun hc2 => ?_)
    · have h := ifp hc2 h
      cases h
    · have h := ifn hc2 h
      cases h
      exact r_throw (is := 263) (text := "a number is out of range") (rest := []) hl0 hQ xw hex hlk E I hl.1 (k0 := 1) rfl xw4_116 (by simp [xS]) dX4_needNumber_10 dX4_needNumber_13 ⟨by decide, Nat.le_of_ble_eq_true rfl, Nat.le_refl _, Nat.le_refl _⟩ (Or.inr ⟨dX4_needNumber_14, dX4_needNumber_17, dX4_needNumber_20⟩)
set_option maxHeartbeats 4000000 in
set_option maxRecDepth 100000 in
theorem t4_constant {l : Launch} {D : va_G} {g : Nat → ClassId} {a : Nat → Nat} {st : CS} {x91 : Int32} {x92 : Int32} {x93 : Int32} {st' : CS} {e' : Nat} (hl0 : l.stackTraces = false) (h : f4_constant st x91 x92 x93 = some (st', .inl e')) : cx l yX4_constant cX4_constant 4 (some .int) (rmx 7 104) D g (cW g a st) (cW g a st') [.ref (a 0), .int x91, .int x92, .int x93] (exN e') := by
  refine cx_of (by decide) (Nat.le_of_ble_eq_true rfl) ?_
  intro p e s m args below meth c ls Q A H locs E I hl hQ xw hex hlk
  have E : en p m c cX4_constant 4 s args RX4 D g := E
  have hx := E.1.1
  have hb := E.1.2.1
  have hl : lv_has ls 4 [(0, .ref (a 0)), (1, .int x91), (2, .int x92), (3, .int x93)] := hl
  have h : ((bt0 st (f4_needIndex x91 (3 : Int32)) fun (u2 : Unit) => (bt0 st (f4_needIndex x92 (4 : Int32)) fun (u5 : Unit) => (bt0 st (f4_needNumber x93 (0 : Int32) (9 : Int32)) fun (u8 : Unit) => (bi2 (f4_change st ((x91 * (8 : Int32)) + x92) x93) fun st11 r12 => some (st11, .inr r12))))) : Option (CS × (Nat ⊕ Int32))) = some (st', .inl e') := h
  refine lv_iload_n hx hb dX4_constant_0 rfl (lv_at hl 1 rfl) ?_
  refine lv_iconst (v := (3 : Int32)) hx hb dX4_constant_1 (by decide) ?_
  rcases bt0t h with ⟨hc1, hs3⟩ | ⟨u2, hc1, h⟩
  · subst hs3
    exact r_thrS (As := [.int x91, .int (3 : Int32)]) (rest := []) hQ xw hex hlk E I hl.1 k4_53 (t4_needIndex hl0 hc1) rfl rfl (Nat.le_of_ble_eq_true rfl) ⟨Nat.le_of_ble_eq_true rfl, Nat.le_of_ble_eq_true rfl⟩ ⟨Nat.le_refl _, Nat.le_refl _⟩ dX4_constant_2
  refine r_callS0 (As := [.int x91, .int (3 : Int32)]) (rest := []) E I hl.1 k4_53 (c4_needIndex hc1) rfl rfl (Nat.le_of_ble_eq_true rfl) ⟨Nat.le_of_ble_eq_true rfl, Nat.le_of_ble_eq_true rfl⟩ ⟨Nat.zero_le _, Nat.zero_le _⟩ dX4_constant_2 (fun H locs I => ?_)
  refine lv_iload_n hx hb dX4_constant_5 rfl (lv_at hl 2 rfl) ?_
  refine lv_iconst (v := (4 : Int32)) hx hb dX4_constant_6 (by decide) ?_
  rcases bt0t h with ⟨hc4, hs6⟩ | ⟨u5, hc4, h⟩
  · subst hs6
    exact r_thrS (As := [.int x92, .int (4 : Int32)]) (rest := []) hQ xw hex hlk E I hl.1 k4_53 (t4_needIndex hl0 hc4) rfl rfl (Nat.le_of_ble_eq_true rfl) ⟨Nat.le_of_ble_eq_true rfl, Nat.le_of_ble_eq_true rfl⟩ ⟨Nat.le_refl _, Nat.le_refl _⟩ dX4_constant_7
  refine r_callS0 (As := [.int x92, .int (4 : Int32)]) (rest := []) E I hl.1 k4_53 (c4_needIndex hc4) rfl rfl (Nat.le_of_ble_eq_true rfl) ⟨Nat.le_of_ble_eq_true rfl, Nat.le_of_ble_eq_true rfl⟩ ⟨Nat.zero_le _, Nat.zero_le _⟩ dX4_constant_7 (fun H locs I => ?_)
  refine lv_iload_n hx hb dX4_constant_10 rfl (lv_at hl 3 rfl) ?_
  refine lv_iconst (v := (0 : Int32)) hx hb dX4_constant_11 (by decide) ?_
  refine lv_bipush (v := (9 : Int32)) hx hb dX4_constant_12 (by decide) ?_
  rcases bt0t h with ⟨hc7, hs9⟩ | ⟨u8, hc7, h⟩
  · subst hs9
    exact r_thrS (As := [.int x93, .int (0 : Int32), .int (9 : Int32)]) (rest := []) hQ xw hex hlk E I hl.1 k4_57 (t4_needNumber hl0 hc7) rfl rfl (Nat.le_of_ble_eq_true rfl) ⟨Nat.le_of_ble_eq_true rfl, Nat.le_of_ble_eq_true rfl⟩ ⟨Nat.le_refl _, Nat.le_refl _⟩ dX4_constant_14
  refine r_callS0 (As := [.int x93, .int (0 : Int32), .int (9 : Int32)]) (rest := []) E I hl.1 k4_57 (c4_needNumber hc7) rfl rfl (Nat.le_of_ble_eq_true rfl) ⟨Nat.le_of_ble_eq_true rfl, Nat.le_of_ble_eq_true rfl⟩ ⟨Nat.zero_le _, Nat.zero_le _⟩ dX4_constant_14 (fun H locs I => ?_)
  refine lv_aload_n hx hb dX4_constant_17 rfl (lv_at hl 0 rfl) ?_
  refine lv_iload_n hx hb dX4_constant_18 rfl (lv_at hl 1 rfl) ?_
  refine lv_bipush (v := (8 : Int32)) hx hb dX4_constant_19 (by decide) ?_
  refine lv_imul hx hb dX4_constant_21 ?_
  refine lv_iload_n hx hb dX4_constant_22 rfl (lv_at hl 2 rfl) ?_
  refine lv_iadd hx hb dX4_constant_23 ?_
  refine lv_iload_n hx hb dX4_constant_24 rfl (lv_at hl 3 rfl) ?_
  obtain ⟨st11, r12, hc10, h⟩ := bx2 h
  refine r_callV1 (As := [.int ((x91 * (8 : Int32)) + x92), .int x93]) (rest := []) (ws' := (cW g a st11)) (q0 := 0) E I hl.1 k4_61 (c4_change hc10) cW_k rfl rfl rfl rfl (Nat.le_of_ble_eq_true rfl) ⟨Nat.le_of_ble_eq_true rfl, Nat.le_of_ble_eq_true rfl⟩ ⟨Nat.zero_le _, Nat.zero_le _⟩ dX4_constant_25 (fun H locs I => ?_)
  cases h
set_option maxHeartbeats 4000000 in
set_option maxRecDepth 100000 in
theorem t4_variable {l : Launch} {D : va_G} {g : Nat → ClassId} {a : Nat → Nat} {st : CS} {x91 : Int32} {x92 : Int32} {x93 : Int32} {st' : CS} {e' : Nat} (hl0 : l.stackTraces = false) (h : f4_variable st x91 x92 x93 = some (st', .inl e')) : cx l yX4_variable cX4_variable 4 (some .int) (rmx 7 104) D g (cW g a st) (cW g a st') [.ref (a 0), .int x91, .int x92, .int x93] (exN e') := by
  refine cx_of (by decide) (Nat.le_of_ble_eq_true rfl) ?_
  intro p e s m args below meth c ls Q A H locs E I hl hQ xw hex hlk
  have E : en p m c cX4_variable 4 s args RX4 D g := E
  have hx := E.1.1
  have hb := E.1.2.1
  have hl : lv_has ls 4 [(0, .ref (a 0)), (1, .int x91), (2, .int x92), (3, .int x93)] := hl
  have h : ((bt0 st (f4_needIndex x91 (2 : Int32)) fun (u2 : Unit) => (bt0 st (f4_needIndex x92 (4 : Int32)) fun (u5 : Unit) => (bt0 st (f4_needNumber x93 (0 : Int32) (5 : Int32)) fun (u8 : Unit) => (bi2 (f4_change st (((x91 * (8 : Int32)) + (4 : Int32)) + x92) x93) fun st11 r12 => some (st11, .inr r12))))) : Option (CS × (Nat ⊕ Int32))) = some (st', .inl e') := h
  refine lv_iload_n hx hb dX4_variable_0 rfl (lv_at hl 1 rfl) ?_
  refine lv_iconst (v := (2 : Int32)) hx hb dX4_variable_1 (by decide) ?_
  rcases bt0t h with ⟨hc1, hs3⟩ | ⟨u2, hc1, h⟩
  · subst hs3
    exact r_thrS (As := [.int x91, .int (2 : Int32)]) (rest := []) hQ xw hex hlk E I hl.1 k4_53 (t4_needIndex hl0 hc1) rfl rfl (Nat.le_of_ble_eq_true rfl) ⟨Nat.le_of_ble_eq_true rfl, Nat.le_of_ble_eq_true rfl⟩ ⟨Nat.le_refl _, Nat.le_refl _⟩ dX4_variable_2
  refine r_callS0 (As := [.int x91, .int (2 : Int32)]) (rest := []) E I hl.1 k4_53 (c4_needIndex hc1) rfl rfl (Nat.le_of_ble_eq_true rfl) ⟨Nat.le_of_ble_eq_true rfl, Nat.le_of_ble_eq_true rfl⟩ ⟨Nat.zero_le _, Nat.zero_le _⟩ dX4_variable_2 (fun H locs I => ?_)
  refine lv_iload_n hx hb dX4_variable_5 rfl (lv_at hl 2 rfl) ?_
  refine lv_iconst (v := (4 : Int32)) hx hb dX4_variable_6 (by decide) ?_
  rcases bt0t h with ⟨hc4, hs6⟩ | ⟨u5, hc4, h⟩
  · subst hs6
    exact r_thrS (As := [.int x92, .int (4 : Int32)]) (rest := []) hQ xw hex hlk E I hl.1 k4_53 (t4_needIndex hl0 hc4) rfl rfl (Nat.le_of_ble_eq_true rfl) ⟨Nat.le_of_ble_eq_true rfl, Nat.le_of_ble_eq_true rfl⟩ ⟨Nat.le_refl _, Nat.le_refl _⟩ dX4_variable_7
  refine r_callS0 (As := [.int x92, .int (4 : Int32)]) (rest := []) E I hl.1 k4_53 (c4_needIndex hc4) rfl rfl (Nat.le_of_ble_eq_true rfl) ⟨Nat.le_of_ble_eq_true rfl, Nat.le_of_ble_eq_true rfl⟩ ⟨Nat.zero_le _, Nat.zero_le _⟩ dX4_variable_7 (fun H locs I => ?_)
  refine lv_iload_n hx hb dX4_variable_10 rfl (lv_at hl 3 rfl) ?_
  refine lv_iconst (v := (0 : Int32)) hx hb dX4_variable_11 (by decide) ?_
  refine lv_iconst (v := (5 : Int32)) hx hb dX4_variable_12 (by decide) ?_
  rcases bt0t h with ⟨hc7, hs9⟩ | ⟨u8, hc7, h⟩
  · subst hs9
    exact r_thrS (As := [.int x93, .int (0 : Int32), .int (5 : Int32)]) (rest := []) hQ xw hex hlk E I hl.1 k4_57 (t4_needNumber hl0 hc7) rfl rfl (Nat.le_of_ble_eq_true rfl) ⟨Nat.le_of_ble_eq_true rfl, Nat.le_of_ble_eq_true rfl⟩ ⟨Nat.le_refl _, Nat.le_refl _⟩ dX4_variable_13
  refine r_callS0 (As := [.int x93, .int (0 : Int32), .int (5 : Int32)]) (rest := []) E I hl.1 k4_57 (c4_needNumber hc7) rfl rfl (Nat.le_of_ble_eq_true rfl) ⟨Nat.le_of_ble_eq_true rfl, Nat.le_of_ble_eq_true rfl⟩ ⟨Nat.zero_le _, Nat.zero_le _⟩ dX4_variable_13 (fun H locs I => ?_)
  refine lv_aload_n hx hb dX4_variable_16 rfl (lv_at hl 0 rfl) ?_
  refine lv_iload_n hx hb dX4_variable_17 rfl (lv_at hl 1 rfl) ?_
  refine lv_bipush (v := (8 : Int32)) hx hb dX4_variable_18 (by decide) ?_
  refine lv_imul hx hb dX4_variable_20 ?_
  refine lv_iconst (v := (4 : Int32)) hx hb dX4_variable_21 (by decide) ?_
  refine lv_iadd hx hb dX4_variable_22 ?_
  refine lv_iload_n hx hb dX4_variable_23 rfl (lv_at hl 2 rfl) ?_
  refine lv_iadd hx hb dX4_variable_24 ?_
  refine lv_iload_n hx hb dX4_variable_25 rfl (lv_at hl 3 rfl) ?_
  obtain ⟨st11, r12, hc10, h⟩ := bx2 h
  refine r_callV1 (As := [.int (((x91 * (8 : Int32)) + (4 : Int32)) + x92), .int x93]) (rest := []) (ws' := (cW g a st11)) (q0 := 0) E I hl.1 k4_61 (c4_change hc10) cW_k rfl rfl rfl rfl (Nat.le_of_ble_eq_true rfl) ⟨Nat.le_of_ble_eq_true rfl, Nat.le_of_ble_eq_true rfl⟩ ⟨Nat.zero_le _, Nat.zero_le _⟩ dX4_variable_26 (fun H locs I => ?_)
  cases h
set_option maxHeartbeats 4000000 in
set_option maxRecDepth 100000 in
theorem t4_putDraft {l : Launch} {D : va_G} {g : Nat → ClassId} {a : Nat → Nat} {st : CS} {x91 : Int32} {st' : CS} {e' : Nat} (hl0 : l.stackTraces = false) (h : f4_putDraft st x91 = some (st', .inl e')) : cx l yX4_putDraft cX4_putDraft 3 (some .int) (rmx 6 82) D g (cW g a st) (cW g a st') [.ref (a 0), .int x91] (exN e') := by
  refine cx_of (by decide) (Nat.le_of_ble_eq_true rfl) ?_
  intro p e s m args below meth c ls Q A H locs E I hl hQ xw hex hlk
  have E : en p m c cX4_putDraft 3 s args RX4 D g := E
  have hx := E.1.1
  have hb := E.1.2.1
  have hl : lv_has ls 3 [(0, .ref (a 0)), (1, .int x91)] := hl
  have h : ((bi1 (f4_draftFits st x91) fun r2 => (if r2 = 0 then some (st, .inl 2) else (bi1 (f4_keepState st) fun st5 => (bi1 (wh (f4_putDraft_b25 x91) FU (st5, (0 : Int32))) fun w19 => (bi1 (f4_factorsOf w19 x91) fun r18 => some (w19, .inr r18)))))) : Option (CS × (Nat ⊕ Int32))) = some (st', .inl e') := h
  refine lv_aload_n hx hb dX4_putDraft_0 rfl (lv_at hl 0 rfl) ?_
  refine lv_iload_n hx hb dX4_putDraft_1 rfl (lv_at hl 1 rfl) ?_
  obtain ⟨r2, hc1, h⟩ := bx1 h
  refine r_callV1 (As := [.int x91]) (rest := []) (ws' := (cW g a st)) (q0 := 0) E I hl.1 k4_274 (c4_draftFits hc1) cW_k rfl rfl rfl rfl (Nat.le_of_ble_eq_true rfl) ⟨Nat.le_of_ble_eq_true rfl, Nat.le_of_ble_eq_true rfl⟩ ⟨Nat.zero_le _, Nat.zero_le _⟩ dX4_putDraft_2 (fun H locs I => ?_)
  refine lv_if_ne (tgt := 19) hx hb dX4_putDraft_5 (by decide) (fun hc3 => ?_) (fun hc3 => ?_)
  · have h := ifn hc3 h
    refine lv_aload_n hx hb dX4_putDraft_19 rfl (lv_at hl 0 rfl) ?_
    obtain ⟨st5, hc4, h⟩ := bx1 h
    refine r_callV0 (As := []) (rest := []) (ws' := (cW g a st5)) (q0 := 0) E I hl.1 k4_87 (c4_keepState hc4) cW_k rfl rfl rfl rfl (Nat.le_of_ble_eq_true rfl) ⟨Nat.le_of_ble_eq_true rfl, Nat.le_of_ble_eq_true rfl⟩ ⟨Nat.zero_le _, Nat.zero_le _⟩ dX4_putDraft_20 (fun H locs I => ?_)
    refine lv_iconst (v := (0 : Int32)) hx hb dX4_putDraft_23 (by decide) ?_
    refine lv_istore_n (lv' := [(2, .int (0 : Int32)), (0, .ref (a 0)), (1, .int x91)]) hx hb dX4_putDraft_24 rfl hl (by decide) rfl (fun ls hl => ?_)
    obtain ⟨z14, hw15, h⟩ := bx1 h
    refine wh_W (P := fun (z : CS × Int32) => ∀ (H : Heap) (locs : List Loc) (ls : Array Slot), wk D (cW g a z.1) A s.heap H locs → lv_has ls 3 [(0, .ref (a 0)), (1, .int x91), (2, .int z.2)] → W p l e (rmx 6 82) s m args below meth c H locs 0 0 Q (F0 m 25 ls [])) (X := fun (z : CS) => ∀ (H : Heap) (locs : List Loc) (ls : Array Slot), wk D (cW g a z) A s.heap H locs → lv_has ls 3 [(0, .ref (a 0)), (1, .int x91)] → W p l e (rmx 6 82) s m args below meth c H locs 0 0 Q (F0 m 54 ls [])) ?_ FU _ _ hw15 ?_ _ _ _ I (lv_sub hl [1, 2, 0] rfl)
    · intro z o9 h hk10 H locs ls I hl
      obtain ⟨st6, x8⟩ := z
      have h : ((if (8 : Int32) ≤ x8 then some (.inr st6) else (if ib x8 8 = true then (if ib ((x91 * (8 : Int32)) + x8) 26 = true then some (.inl ((c_state_s st6 (upd (c_state st6) ((x91 * (8 : Int32)) + x8).toNatClampNeg ((c_draft st6) x8.toNatClampNeg))), (x8 + 1))) else none) else none)) : Option ((CS × Int32) ⊕ (CS))) = some o9 := h
      have I : wk D (cW g a st6) A s.heap H locs := I
      have hl : lv_has ls 3 [(0, .ref (a 0)), (1, .int x91), (2, .int x8)] := hl
      refine lv_iload_n hx hb dX4_putDraft_25 rfl (lv_at hl 2 rfl) ?_
      refine lv_bipush (v := (8 : Int32)) hx hb dX4_putDraft_26 (by decide) ?_
      refine lv_icmp_ge (tgt := 54) hx hb dX4_putDraft_28 (by decide) (fun hc11 => ?_) (fun hc11 => ?_)
      · have h := ifp hc11 h
        cases h
        exact hk10 _ _ _ I (lv_sub hl [0, 1] rfl)
      · have h := ifn hc11 h
        refine lv_aload_n hx hb dX4_putDraft_31 rfl (lv_at hl 0 rfl) ?_
        refine g4_9 E I dX4_putDraft_32 ?_
        refine lv_iload_n hx hb dX4_putDraft_35 rfl (lv_at hl 1 rfl) ?_
        refine lv_bipush (v := (8 : Int32)) hx hb dX4_putDraft_36 (by decide) ?_
        refine lv_imul hx hb dX4_putDraft_38 ?_
        refine lv_iload_n hx hb dX4_putDraft_39 rfl (lv_at hl 2 rfl) ?_
        refine lv_iadd hx hb dX4_putDraft_40 ?_
        refine lv_aload_n hx hb dX4_putDraft_41 rfl (lv_at hl 0 rfl) ?_
        refine g4_13 E I dX4_putDraft_42 ?_
        refine lv_iload_n hx hb dX4_putDraft_45 rfl (lv_at hl 2 rfl) ?_
        obtain ⟨hc12, h⟩ := gd h
        refine c_ld2 E I (f := (c_draft st6)) rfl hc12 dX4_putDraft_46 ?_
        obtain ⟨hc13, h⟩ := gd h
        refine c_st1 E I (f := (c_state st6)) rfl hc13 dX4_putDraft_47 (fun H locs I => ?_)
        refine lv_iinc (v := (x8 + 1)) (lv' := [(2, .int (x8 + 1)), (0, .ref (a 0)), (1, .int x91)]) hx hb dX4_putDraft_48 hl (k := 2) rfl rfl (by decide) rfl (fun ls hl => ?_)
        refine lv_goto (tgt := 25) hx hb dX4_putDraft_51 (by decide) ?_
        cases h
        exact hk10 _ _ _ I (lv_sub hl [1, 2, 0] rfl)
    · obtain ⟨st16, rfl⟩ : ∃ y, y = z14 := ⟨_, rfl⟩
      intro H locs ls I hl
      have h : ((bi1 (f4_factorsOf st16 x91) fun r18 => some (st16, .inr r18)) : Option (CS × (Nat ⊕ Int32))) = some (st', .inl e') := h
      have I : wk D (cW g a st16) A s.heap H locs := I
      have hl : lv_has ls 3 [(0, .ref (a 0)), (1, .int x91)] := hl
      refine lv_aload_n hx hb dX4_putDraft_54 rfl (lv_at hl 0 rfl) ?_
      refine lv_iload_n hx hb dX4_putDraft_55 rfl (lv_at hl 1 rfl) ?_
      obtain ⟨r18, hc17, h⟩ := bx1 h
      refine r_callV1 (As := [.int x91]) (rest := []) (ws' := (cW g a st16)) (q0 := 0) E I hl.1 k4_174 (c4_factorsOf hc17) cW_k rfl rfl rfl rfl (Nat.le_of_ble_eq_true rfl) ⟨Nat.le_of_ble_eq_true rfl, Nat.le_of_ble_eq_true rfl⟩ ⟨Nat.zero_le _, Nat.zero_le _⟩ dX4_putDraft_56 (fun H locs I => ?_)
      cases h
  · have h := ifp hc3 h
    cases h
    exact r_throw (is := 277) (text := "the product would have a factor too often") (rest := []) hl0 hQ xw hex hlk E I hl.1 (k0 := 2) rfl xw4_77 (by simp [xS]) dX4_putDraft_8 dX4_putDraft_11 ⟨by decide, Nat.le_of_ble_eq_true rfl, Nat.le_refl _, Nat.le_refl _⟩ (Or.inr ⟨dX4_putDraft_12, dX4_putDraft_15, dX4_putDraft_18⟩)
set_option maxHeartbeats 4000000 in
set_option maxRecDepth 100000 in
theorem t4_multiply {l : Launch} {D : va_G} {g : Nat → ClassId} {a : Nat → Nat} {st : CS} {x91 : Int32} {x92 : Int32} {st' : CS} {e' : Nat} (hl0 : l.stackTraces = false) (h : f4_multiply st x91 x92 = some (st', .inl e')) : cx l yX4_multiply cX4_multiply 4 (some .int) (rmx 7 104) D g (cW g a st) (cW g a st') [.ref (a 0), .int x91, .int x92] (exN e') := by
  refine cx_of (by decide) (Nat.le_of_ble_eq_true rfl) ?_
  intro p e s m args below meth c ls Q A H locs E I hl hQ xw hex hlk
  have E : en p m c cX4_multiply 4 s args RX4 D g := E
  have hx := E.1.1
  have hb := E.1.2.1
  have hl : lv_has ls 4 [(0, .ref (a 0)), (1, .int x91), (2, .int x92)] := hl
  have h : ((bt0 st (f4_needIndex x91 (3 : Int32)) fun (u2 : Unit) => (bt0 st (f4_needIndex x92 (3 : Int32)) fun (u5 : Unit) => (bi1 (wh (f4_multiply_b12 x91 x92) FU (st, (0 : Int32))) fun w23 => (bt2 (f4_putDraft w23 x91) fun st21 r22 => some (st21, .inr r22))))) : Option (CS × (Nat ⊕ Int32))) = some (st', .inl e') := h
  refine lv_iload_n hx hb dX4_multiply_0 rfl (lv_at hl 1 rfl) ?_
  refine lv_iconst (v := (3 : Int32)) hx hb dX4_multiply_1 (by decide) ?_
  rcases bt0t h with ⟨hc1, hs3⟩ | ⟨u2, hc1, h⟩
  · subst hs3
    exact r_thrS (As := [.int x91, .int (3 : Int32)]) (rest := []) hQ xw hex hlk E I hl.1 k4_53 (t4_needIndex hl0 hc1) rfl rfl (Nat.le_of_ble_eq_true rfl) ⟨Nat.le_of_ble_eq_true rfl, Nat.le_of_ble_eq_true rfl⟩ ⟨Nat.le_refl _, Nat.le_refl _⟩ dX4_multiply_2
  refine r_callS0 (As := [.int x91, .int (3 : Int32)]) (rest := []) E I hl.1 k4_53 (c4_needIndex hc1) rfl rfl (Nat.le_of_ble_eq_true rfl) ⟨Nat.le_of_ble_eq_true rfl, Nat.le_of_ble_eq_true rfl⟩ ⟨Nat.zero_le _, Nat.zero_le _⟩ dX4_multiply_2 (fun H locs I => ?_)
  refine lv_iload_n hx hb dX4_multiply_5 rfl (lv_at hl 2 rfl) ?_
  refine lv_iconst (v := (3 : Int32)) hx hb dX4_multiply_6 (by decide) ?_
  rcases bt0t h with ⟨hc4, hs6⟩ | ⟨u5, hc4, h⟩
  · subst hs6
    exact r_thrS (As := [.int x92, .int (3 : Int32)]) (rest := []) hQ xw hex hlk E I hl.1 k4_53 (t4_needIndex hl0 hc4) rfl rfl (Nat.le_of_ble_eq_true rfl) ⟨Nat.le_of_ble_eq_true rfl, Nat.le_of_ble_eq_true rfl⟩ ⟨Nat.le_refl _, Nat.le_refl _⟩ dX4_multiply_7
  refine r_callS0 (As := [.int x92, .int (3 : Int32)]) (rest := []) E I hl.1 k4_53 (c4_needIndex hc4) rfl rfl (Nat.le_of_ble_eq_true rfl) ⟨Nat.le_of_ble_eq_true rfl, Nat.le_of_ble_eq_true rfl⟩ ⟨Nat.zero_le _, Nat.zero_le _⟩ dX4_multiply_7 (fun H locs I => ?_)
  refine lv_iconst (v := (0 : Int32)) hx hb dX4_multiply_10 (by decide) ?_
  refine lv_istore_n (lv' := [(3, .int (0 : Int32)), (0, .ref (a 0)), (1, .int x91), (2, .int x92)]) hx hb dX4_multiply_11 rfl hl (by decide) rfl (fun ls hl => ?_)
  obtain ⟨z17, hw18, h⟩ := bx1 h
  refine wh_W (P := fun (z : CS × Int32) => ∀ (H : Heap) (locs : List Loc) (ls : Array Slot), wk D (cW g a z.1) A s.heap H locs → lv_has ls 4 [(0, .ref (a 0)), (1, .int x91), (2, .int x92), (3, .int z.2)] → W p l e (rmx 7 104) s m args below meth c H locs 0 0 Q (F0 m 12 ls [])) (X := fun (z : CS) => ∀ (H : Heap) (locs : List Loc) (ls : Array Slot), wk D (cW g a z) A s.heap H locs → lv_has ls 4 [(0, .ref (a 0)), (1, .int x91)] → W p l e (rmx 7 104) s m args below meth c H locs 0 0 Q (F0 m 53 ls [])) ?_ FU _ _ hw18 ?_ _ _ _ I (lv_sub hl [1, 2, 3, 0] rfl)
  · intro z o11 h hk12 H locs ls I hl
    obtain ⟨st7, x10⟩ := z
    have h : ((if (8 : Int32) ≤ x10 then some (.inr st7) else (if ib ((x91 * (8 : Int32)) + x10) 26 = true then (if ib ((x92 * (8 : Int32)) + x10) 26 = true then (if ib x10 8 = true then some (.inl ((c_draft_s st7 (upd (c_draft st7) x10.toNatClampNeg (((c_state st7) ((x91 * (8 : Int32)) + x10).toNatClampNeg) + ((c_state st7) ((x92 * (8 : Int32)) + x10).toNatClampNeg)))), (x10 + 1))) else none) else none) else none)) : Option ((CS × Int32) ⊕ (CS))) = some o11 := h
    have I : wk D (cW g a st7) A s.heap H locs := I
    have hl : lv_has ls 4 [(0, .ref (a 0)), (1, .int x91), (2, .int x92), (3, .int x10)] := hl
    refine lv_iload_n hx hb dX4_multiply_12 rfl (lv_at hl 3 rfl) ?_
    refine lv_bipush (v := (8 : Int32)) hx hb dX4_multiply_13 (by decide) ?_
    refine lv_icmp_ge (tgt := 53) hx hb dX4_multiply_15 (by decide) (fun hc13 => ?_) (fun hc13 => ?_)
    · have h := ifp hc13 h
      cases h
      exact hk12 _ _ _ I (lv_sub hl [0, 1] rfl)
    · have h := ifn hc13 h
      refine lv_aload_n hx hb dX4_multiply_18 rfl (lv_at hl 0 rfl) ?_
      refine g4_13 E I dX4_multiply_19 ?_
      refine lv_iload_n hx hb dX4_multiply_22 rfl (lv_at hl 3 rfl) ?_
      refine lv_aload_n hx hb dX4_multiply_23 rfl (lv_at hl 0 rfl) ?_
      refine g4_9 E I dX4_multiply_24 ?_
      refine lv_iload_n hx hb dX4_multiply_27 rfl (lv_at hl 1 rfl) ?_
      refine lv_bipush (v := (8 : Int32)) hx hb dX4_multiply_28 (by decide) ?_
      refine lv_imul hx hb dX4_multiply_30 ?_
      refine lv_iload_n hx hb dX4_multiply_31 rfl (lv_at hl 3 rfl) ?_
      refine lv_iadd hx hb dX4_multiply_32 ?_
      obtain ⟨hc14, h⟩ := gd h
      refine c_ld1 E I (f := (c_state st7)) rfl hc14 dX4_multiply_33 ?_
      refine lv_aload_n hx hb dX4_multiply_34 rfl (lv_at hl 0 rfl) ?_
      refine g4_9 E I dX4_multiply_35 ?_
      refine lv_iload_n hx hb dX4_multiply_38 rfl (lv_at hl 2 rfl) ?_
      refine lv_bipush (v := (8 : Int32)) hx hb dX4_multiply_39 (by decide) ?_
      refine lv_imul hx hb dX4_multiply_41 ?_
      refine lv_iload_n hx hb dX4_multiply_42 rfl (lv_at hl 3 rfl) ?_
      refine lv_iadd hx hb dX4_multiply_43 ?_
      obtain ⟨hc15, h⟩ := gd h
      refine c_ld1 E I (f := (c_state st7)) rfl hc15 dX4_multiply_44 ?_
      refine lv_iadd hx hb dX4_multiply_45 ?_
      obtain ⟨hc16, h⟩ := gd h
      refine c_st2 E I (f := (c_draft st7)) rfl hc16 dX4_multiply_46 (fun H locs I => ?_)
      refine lv_iinc (v := (x10 + 1)) (lv' := [(3, .int (x10 + 1)), (0, .ref (a 0)), (1, .int x91), (2, .int x92)]) hx hb dX4_multiply_47 hl (k := 3) rfl rfl (by decide) rfl (fun ls hl => ?_)
      refine lv_goto (tgt := 12) hx hb dX4_multiply_50 (by decide) ?_
      cases h
      exact hk12 _ _ _ I (lv_sub hl [1, 2, 3, 0] rfl)
  · obtain ⟨st19, rfl⟩ : ∃ y, y = z17 := ⟨_, rfl⟩
    intro H locs ls I hl
    have h : ((bt2 (f4_putDraft st19 x91) fun st21 r22 => some (st21, .inr r22)) : Option (CS × (Nat ⊕ Int32))) = some (st', .inl e') := h
    have I : wk D (cW g a st19) A s.heap H locs := I
    have hl : lv_has ls 4 [(0, .ref (a 0)), (1, .int x91)] := hl
    refine lv_aload_n hx hb dX4_multiply_53 rfl (lv_at hl 0 rfl) ?_
    refine lv_iload_n hx hb dX4_multiply_54 rfl (lv_at hl 1 rfl) ?_
    rcases bt2t h with hc20 | ⟨st21, r22, hc20, h⟩
    · exact r_thrV (As := [.int x91]) (rest := []) (q0 := 0) hQ xw hex hlk E I hl.1 k4_65 (t4_putDraft hl0 hc20) rfl rfl rfl rfl (Nat.le_of_ble_eq_true rfl) ⟨Nat.le_of_ble_eq_true rfl, Nat.le_of_ble_eq_true rfl⟩ ⟨Nat.le_refl _, Nat.le_refl _⟩ dX4_multiply_55
    refine r_callV1 (As := [.int x91]) (rest := []) (ws' := (cW g a st21)) (q0 := 0) E I hl.1 k4_65 (c4_putDraft hc20) cW_k rfl rfl rfl rfl (Nat.le_of_ble_eq_true rfl) ⟨Nat.le_of_ble_eq_true rfl, Nat.le_of_ble_eq_true rfl⟩ ⟨Nat.zero_le _, Nat.zero_le _⟩ dX4_multiply_55 (fun H locs I => ?_)
    cases h
set_option maxHeartbeats 4000000 in
set_option maxRecDepth 100000 in
theorem t4_needMatcher {l : Launch} {D : va_G} {g : Nat → ClassId} {a : Nat → Nat} {st : CS} {x91 : Int32} {st' : CS} {e' : Nat} (hl0 : l.stackTraces = false) (h : f4_needMatcher st x91 = some (st', .inl e')) : cx l yX4_needMatcher cX4_needMatcher 2 none (rmx 6 117) D g (cW g a st) (cW g a st') [.ref (a 0), .int x91] (exN e') := by
  refine cx_of (by decide) (Nat.le_of_ble_eq_true rfl) ?_
  intro p e s m args below meth c ls Q A H locs E I hl hQ xw hex hlk
  have E : en p m c cX4_needMatcher 2 s args RX4 D g := E
  have hx := E.1.1
  have hb := E.1.2.1
  have hl : lv_has ls 2 [(0, .ref (a 0)), (1, .int x91)] := hl
  have h : ((bi1 (f0_prepare st) fun st2 => (bi2 (f0_choose st2 x91) fun st4 r5 => (if r5 = 0 then some (st4, .inl 1) else some (st4, .inr ())))) : Option (CS × (Nat ⊕ Unit))) = some (st', .inl e') := h
  refine lv_aload_n hx hb dX4_needMatcher_0 rfl (lv_at hl 0 rfl) ?_
  refine g4_42 E I dX4_needMatcher_1 ?_
  refine lv_aload_n hx hb dX4_needMatcher_4 rfl (lv_at hl 0 rfl) ?_
  refine g4_9 E I dX4_needMatcher_5 ?_
  obtain ⟨st2, hc1, h⟩ := bx1 h
  refine r_callV0 (As := [.ref (a 1)]) (rest := []) (ws' := (cW g a st2)) (q0 := 7) E I hl.1 k4_148 (c0_prepare hc1) cW_k rfl rfl rfl rfl (Nat.le_of_ble_eq_true rfl) ⟨Nat.le_of_ble_eq_true rfl, Nat.le_of_ble_eq_true rfl⟩ ⟨Nat.zero_le _, Nat.zero_le _⟩ dX4_needMatcher_8 (fun H locs I => ?_)
  refine lv_aload_n hx hb dX4_needMatcher_11 rfl (lv_at hl 0 rfl) ?_
  refine g4_42 E I dX4_needMatcher_12 ?_
  refine lv_iload_n hx hb dX4_needMatcher_15 rfl (lv_at hl 1 rfl) ?_
  obtain ⟨st4, r5, hc3, h⟩ := bx2 h
  refine r_callV1 (As := [.int x91]) (rest := []) (ws' := (cW g a st4)) (q0 := 7) E I hl.1 k4_201 (c0_choose hc3) cW_k rfl rfl rfl rfl (Nat.le_of_ble_eq_true rfl) ⟨Nat.le_of_ble_eq_true rfl, Nat.le_of_ble_eq_true rfl⟩ ⟨Nat.zero_le _, Nat.zero_le _⟩ dX4_needMatcher_16 (fun H locs I => ?_)
  refine lv_if_ne (tgt := 33) hx hb dX4_needMatcher_19 (by decide) (fun hc6 => ?_) (fun hc6 => ?_)
  · have h := ifn hc6 h
    cases h
  · have h := ifp hc6 h
    cases h
    exact r_throw (is := 265) (text := "there is no such matcher") (rest := []) hl0 hQ xw hex hlk E I hl.1 (k0 := 1) rfl xw4_116 (by simp [xS]) dX4_needMatcher_22 dX4_needMatcher_25 ⟨by decide, Nat.le_of_ble_eq_true rfl, Nat.le_refl _, Nat.le_refl _⟩ (Or.inr ⟨dX4_needMatcher_26, dX4_needMatcher_29, dX4_needMatcher_32⟩)
set_option maxHeartbeats 4000000 in
set_option maxRecDepth 100000 in
theorem t4_rewrite {l : Launch} {D : va_G} {g : Nat → ClassId} {a : Nat → Nat} {st : CS} {x91 : Int32} {st' : CS} {e' : Nat} (hl0 : l.stackTraces = false) (h : f4_rewrite st x91 = some (st', .inl e')) : cx l yX4_rewrite cX4_rewrite 3 (some .int) (rmx 7 138) D g (cW g a st) (cW g a st') [.ref (a 0), .int x91] (exN e') := by
  refine cx_of (by decide) (Nat.le_of_ble_eq_true rfl) ?_
  intro p e s m args below meth c ls Q A H locs E I hl hQ xw hex hlk
  have E : en p m c cX4_rewrite 3 s args RX4 D g := E
  have hx := E.1.1
  have hb := E.1.2.1
  have hl : lv_has ls 3 [(0, .ref (a 0)), (1, .int x91)] := hl
  have h : ((bt2 (f4_needMatcher st x91) fun st2 u3 => (bi1 (f4_hasForeignVariable st2) fun r5 => (if r5 = 0 then (bi1 (wh (f4_rewrite_b24) FU (st2, (0 : Int32))) fun w23 => (bt2 (f4_putDraft w23 (2 : Int32)) fun st21 r22 => some (st21, .inr r22))) else some (st2, .inl 2)))) : Option (CS × (Nat ⊕ Int32))) = some (st', .inl e') := h
  refine lv_aload_n hx hb dX4_rewrite_0 rfl (lv_at hl 0 rfl) ?_
  refine lv_iload_n hx hb dX4_rewrite_1 rfl (lv_at hl 1 rfl) ?_
  rcases bt2t h with hc1 | ⟨st2, u3, hc1, h⟩
  · exact r_thrV (As := [.int x91]) (rest := []) (q0 := 0) hQ xw hex hlk E I hl.1 k4_69 (t4_needMatcher hl0 hc1) rfl rfl rfl rfl (Nat.le_of_ble_eq_true rfl) ⟨Nat.le_of_ble_eq_true rfl, Nat.le_of_ble_eq_true rfl⟩ ⟨Nat.le_refl _, Nat.le_refl _⟩ dX4_rewrite_2
  refine r_callV0 (As := [.int x91]) (rest := []) (ws' := (cW g a st2)) (q0 := 0) E I hl.1 k4_69 (c4_needMatcher hc1) cW_k rfl rfl rfl rfl (Nat.le_of_ble_eq_true rfl) ⟨Nat.le_of_ble_eq_true rfl, Nat.le_of_ble_eq_true rfl⟩ ⟨Nat.zero_le _, Nat.zero_le _⟩ dX4_rewrite_2 (fun H locs I => ?_)
  refine lv_aload_n hx hb dX4_rewrite_5 rfl (lv_at hl 0 rfl) ?_
  obtain ⟨r5, hc4, h⟩ := bx1 h
  refine r_callV1 (As := []) (rest := []) (ws' := (cW g a st2)) (q0 := 0) E I hl.1 k4_73 (c4_hasForeignVariable hc4) cW_k rfl rfl rfl rfl (Nat.le_of_ble_eq_true rfl) ⟨Nat.le_of_ble_eq_true rfl, Nat.le_of_ble_eq_true rfl⟩ ⟨Nat.zero_le _, Nat.zero_le _⟩ dX4_rewrite_6 (fun H locs I => ?_)
  refine lv_if_eq (tgt := 22) hx hb dX4_rewrite_9 (by decide) (fun hc6 => ?_) (fun hc6 => ?_)
  · have h := ifp hc6 h
    refine lv_iconst (v := (0 : Int32)) hx hb dX4_rewrite_22 (by decide) ?_
    refine lv_istore_n (lv' := [(2, .int (0 : Int32)), (0, .ref (a 0)), (1, .int x91)]) hx hb dX4_rewrite_23 rfl hl (by decide) rfl (fun ls hl => ?_)
    obtain ⟨z17, hw18, h⟩ := bx1 h
    refine wh_W (P := fun (z : CS × Int32) => ∀ (H : Heap) (locs : List Loc) (ls : Array Slot), wk D (cW g a z.1) A s.heap H locs → lv_has ls 3 [(0, .ref (a 0)), (2, .int z.2)] → W p l e (rmx 7 138) s m args below meth c H locs 0 0 Q (F0 m 24 ls [])) (X := fun (z : CS) => ∀ (H : Heap) (locs : List Loc) (ls : Array Slot), wk D (cW g a z) A s.heap H locs → lv_has ls 3 [(0, .ref (a 0))] → W p l e (rmx 7 138) s m args below meth c H locs 0 0 Q (F0 m 56 ls [])) ?_ FU _ _ hw18 ?_ _ _ _ I (lv_sub hl [1, 0] rfl)
    · intro z o9 h hk10 H locs ls I hl
      obtain ⟨st7, x8⟩ := z
      have h : ((if (8 : Int32) ≤ x8 then some (.inr st7) else (if (4 : Int32) ≤ x8 then (if ib x8 8 = true then some (.inl ((c_draft_s st7 (upd (c_draft st7) x8.toNatClampNeg (0 : Int32))), (x8 + 1))) else none) else (bi1 (f4_rewritten st7 x8) fun r15 => (if ib x8 8 = true then some (.inl ((c_draft_s st7 (upd (c_draft st7) x8.toNatClampNeg r15)), (x8 + 1))) else none)))) : Option ((CS × Int32) ⊕ (CS))) = some o9 := h
      have I : wk D (cW g a st7) A s.heap H locs := I
      have hl : lv_has ls 3 [(0, .ref (a 0)), (2, .int x8)] := hl
      refine lv_iload_n hx hb dX4_rewrite_24 rfl (lv_at hl 1 rfl) ?_
      refine lv_bipush (v := (8 : Int32)) hx hb dX4_rewrite_25 (by decide) ?_
      refine lv_icmp_ge (tgt := 56) hx hb dX4_rewrite_27 (by decide) (fun hc11 => ?_) (fun hc11 => ?_)
      · have h := ifp hc11 h
        cases h
        exact hk10 _ _ _ I (lv_sub hl [0] rfl)
      · have h := ifn hc11 h
        refine lv_aload_n hx hb dX4_rewrite_30 rfl (lv_at hl 0 rfl) ?_
        refine g4_13 E I dX4_rewrite_31 ?_
        refine lv_iload_n hx hb dX4_rewrite_34 rfl (lv_at hl 1 rfl) ?_
        refine lv_iload_n hx hb dX4_rewrite_35 rfl (lv_at hl 1 rfl) ?_
        refine lv_iconst (v := (4 : Int32)) hx hb dX4_rewrite_36 (by decide) ?_
        refine lv_icmp_ge (tgt := 48) hx hb dX4_rewrite_37 (by decide) (fun hc12 => ?_) (fun hc12 => ?_)
        · have h := ifp hc12 h
          refine lv_iconst (v := (0 : Int32)) hx hb dX4_rewrite_48 (by decide) ?_
          obtain ⟨hc13, h⟩ := gd h
          refine c_st2 E I (f := (c_draft st7)) rfl hc13 dX4_rewrite_49 (fun H locs I => ?_)
          refine lv_iinc (v := (x8 + 1)) (lv' := [(2, .int (x8 + 1)), (0, .ref (a 0))]) hx hb dX4_rewrite_50 hl (k := 1) rfl rfl (by decide) rfl (fun ls hl => ?_)
          refine lv_goto (tgt := 24) hx hb dX4_rewrite_53 (by decide) ?_
          cases h
          exact hk10 _ _ _ I (lv_sub hl [1, 0] rfl)
        · have h := ifn hc12 h
          refine lv_aload_n hx hb dX4_rewrite_40 rfl (lv_at hl 0 rfl) ?_
          refine lv_iload_n hx hb dX4_rewrite_41 rfl (lv_at hl 1 rfl) ?_
          obtain ⟨r15, hc14, h⟩ := bx1 h
          refine r_callV1 (As := [.int x8]) (rest := [.int x8, .ref (a 2)]) (ws' := (cW g a st7)) (q0 := 0) E I hl.1 k4_84 (c4_rewritten hc14) cW_k rfl rfl rfl rfl (Nat.le_of_ble_eq_true rfl) ⟨Nat.le_of_ble_eq_true rfl, Nat.le_of_ble_eq_true rfl⟩ ⟨Nat.zero_le _, Nat.zero_le _⟩ dX4_rewrite_42 (fun H locs I => ?_)
          refine lv_goto (tgt := 49) hx hb dX4_rewrite_45 (by decide) ?_
          obtain ⟨hc16, h⟩ := gd h
          refine c_st2 E I (f := (c_draft st7)) rfl hc16 dX4_rewrite_49 (fun H locs I => ?_)
          refine lv_iinc (v := (x8 + 1)) (lv' := [(2, .int (x8 + 1)), (0, .ref (a 0))]) hx hb dX4_rewrite_50 hl (k := 1) rfl rfl (by decide) rfl (fun ls hl => ?_)
          refine lv_goto (tgt := 24) hx hb dX4_rewrite_53 (by decide) ?_
          cases h
          exact hk10 _ _ _ I (lv_sub hl [1, 0] rfl)
    · obtain ⟨st19, rfl⟩ : ∃ y, y = z17 := ⟨_, rfl⟩
      intro H locs ls I hl
      have h : ((bt2 (f4_putDraft st19 (2 : Int32)) fun st21 r22 => some (st21, .inr r22)) : Option (CS × (Nat ⊕ Int32))) = some (st', .inl e') := h
      have I : wk D (cW g a st19) A s.heap H locs := I
      have hl : lv_has ls 3 [(0, .ref (a 0))] := hl
      refine lv_aload_n hx hb dX4_rewrite_56 rfl (lv_at hl 0 rfl) ?_
      refine lv_iconst (v := (2 : Int32)) hx hb dX4_rewrite_57 (by decide) ?_
      rcases bt2t h with hc20 | ⟨st21, r22, hc20, h⟩
      · exact r_thrV (As := [.int (2 : Int32)]) (rest := []) (q0 := 0) hQ xw hex hlk E I hl.1 k4_65 (t4_putDraft hl0 hc20) rfl rfl rfl rfl (Nat.le_of_ble_eq_true rfl) ⟨Nat.le_of_ble_eq_true rfl, Nat.le_of_ble_eq_true rfl⟩ ⟨Nat.le_refl _, Nat.le_refl _⟩ dX4_rewrite_58
      refine r_callV1 (As := [.int (2 : Int32)]) (rest := []) (ws' := (cW g a st21)) (q0 := 0) E I hl.1 k4_65 (c4_putDraft hc20) cW_k rfl rfl rfl rfl (Nat.le_of_ble_eq_true rfl) ⟨Nat.le_of_ble_eq_true rfl, Nat.le_of_ble_eq_true rfl⟩ ⟨Nat.zero_le _, Nat.zero_le _⟩ dX4_rewrite_58 (fun H locs I => ?_)
      cases h
  · have h := ifn hc6 h
    cases h
    exact r_throw (is := 79) (text := "the other pattern has a variable without a value") (rest := []) hl0 hQ xw hex hlk E I hl.1 (k0 := 2) rfl xw4_77 (by simp [xS]) dX4_rewrite_12 dX4_rewrite_15 ⟨by decide, Nat.le_of_ble_eq_true rfl, Nat.le_refl _, Nat.le_refl _⟩ (Or.inl ⟨dX4_rewrite_16, dX4_rewrite_18, dX4_rewrite_21⟩)
set_option maxHeartbeats 4000000 in
set_option maxRecDepth 100000 in
theorem t4_cancel {l : Launch} {D : va_G} {g : Nat → ClassId} {a : Nat → Nat} {st : CS} {x91 : Int32} {x92 : Int32} {st' : CS} {e' : Nat} (hl0 : l.stackTraces = false) (h : f4_cancel st x91 x92 = some (st', .inl e')) : cx l yX4_cancel cX4_cancel 8 (some .int) (rmx 7 103) D g (cW g a st) (cW g a st') [.ref (a 0), .int x91, .int x92] (exN e') := by
  refine cx_of (by decide) (Nat.le_of_ble_eq_true rfl) ?_
  intro p e s m args below meth c ls Q A H locs E I hl hQ xw hex hlk
  have E : en p m c cX4_cancel 8 s args RX4 D g := E
  have hx := E.1.1
  have hb := E.1.2.1
  have hl : lv_has ls 8 [(0, .ref (a 0)), (1, .int x91), (2, .int x92)] := hl
  have h : ((bt0 st (f4_needIndex x91 (3 : Int32)) fun (u2 : Unit) => (bt0 st (f4_needIndex x92 (3 : Int32)) fun (u5 : Unit) => (bi1 (f4_keepState st) fun st8 => (bi1 (wh (f4_cancel_b19 x91 x92) FU (st8, (0 : Int32), (0 : Int32))) fun w27 => some (w27.1, .inr w27.2))))) : Option (CS × (Nat ⊕ Int32))) = some (st', .inl e') := h
  refine lv_iload_n hx hb dX4_cancel_0 rfl (lv_at hl 1 rfl) ?_
  refine lv_iconst (v := (3 : Int32)) hx hb dX4_cancel_1 (by decide) ?_
  rcases bt0t h with ⟨hc1, hs3⟩ | ⟨u2, hc1, h⟩
  · subst hs3
    exact r_thrS (As := [.int x91, .int (3 : Int32)]) (rest := []) hQ xw hex hlk E I hl.1 k4_53 (t4_needIndex hl0 hc1) rfl rfl (Nat.le_of_ble_eq_true rfl) ⟨Nat.le_of_ble_eq_true rfl, Nat.le_of_ble_eq_true rfl⟩ ⟨Nat.le_refl _, Nat.le_refl _⟩ dX4_cancel_2
  refine r_callS0 (As := [.int x91, .int (3 : Int32)]) (rest := []) E I hl.1 k4_53 (c4_needIndex hc1) rfl rfl (Nat.le_of_ble_eq_true rfl) ⟨Nat.le_of_ble_eq_true rfl, Nat.le_of_ble_eq_true rfl⟩ ⟨Nat.zero_le _, Nat.zero_le _⟩ dX4_cancel_2 (fun H locs I => ?_)
  refine lv_iload_n hx hb dX4_cancel_5 rfl (lv_at hl 2 rfl) ?_
  refine lv_iconst (v := (3 : Int32)) hx hb dX4_cancel_6 (by decide) ?_
  rcases bt0t h with ⟨hc4, hs6⟩ | ⟨u5, hc4, h⟩
  · subst hs6
    exact r_thrS (As := [.int x92, .int (3 : Int32)]) (rest := []) hQ xw hex hlk E I hl.1 k4_53 (t4_needIndex hl0 hc4) rfl rfl (Nat.le_of_ble_eq_true rfl) ⟨Nat.le_of_ble_eq_true rfl, Nat.le_of_ble_eq_true rfl⟩ ⟨Nat.le_refl _, Nat.le_refl _⟩ dX4_cancel_7
  refine r_callS0 (As := [.int x92, .int (3 : Int32)]) (rest := []) E I hl.1 k4_53 (c4_needIndex hc4) rfl rfl (Nat.le_of_ble_eq_true rfl) ⟨Nat.le_of_ble_eq_true rfl, Nat.le_of_ble_eq_true rfl⟩ ⟨Nat.zero_le _, Nat.zero_le _⟩ dX4_cancel_7 (fun H locs I => ?_)
  refine lv_aload_n hx hb dX4_cancel_10 rfl (lv_at hl 0 rfl) ?_
  obtain ⟨st8, hc7, h⟩ := bx1 h
  refine r_callV0 (As := []) (rest := []) (ws' := (cW g a st8)) (q0 := 0) E I hl.1 k4_87 (c4_keepState hc7) cW_k rfl rfl rfl rfl (Nat.le_of_ble_eq_true rfl) ⟨Nat.le_of_ble_eq_true rfl, Nat.le_of_ble_eq_true rfl⟩ ⟨Nat.zero_le _, Nat.zero_le _⟩ dX4_cancel_11 (fun H locs I => ?_)
  refine lv_iconst (v := (0 : Int32)) hx hb dX4_cancel_14 (by decide) ?_
  refine lv_istore_n (lv' := [(3, .int (0 : Int32)), (0, .ref (a 0)), (1, .int x91), (2, .int x92)]) hx hb dX4_cancel_15 rfl hl (by decide) rfl (fun ls hl => ?_)
  refine lv_iconst (v := (0 : Int32)) hx hb dX4_cancel_16 (by decide) ?_
  refine lv_istore (lv' := [(4, .int (0 : Int32)), (3, .int (0 : Int32)), (0, .ref (a 0)), (1, .int x91), (2, .int x92)]) hx hb dX4_cancel_17 hl (by decide) rfl (fun ls hl => ?_)
  obtain ⟨z23, hw24, h⟩ := bx1 h
  refine wh_W (P := fun (z : CS × Int32 × Int32) => ∀ (H : Heap) (locs : List Loc) (ls : Array Slot), wk D (cW g a z.1) A s.heap H locs → lv_has ls 8 [(0, .ref (a 0)), (1, .int x91), (2, .int x92), (3, .int z.2.1), (4, .int z.2.2)] → W p l e (rmx 7 103) s m args below meth c H locs 0 0 Q (F0 m 19 ls [])) (X := fun (z : CS × Int32) => ∀ (H : Heap) (locs : List Loc) (ls : Array Slot), wk D (cW g a z.1) A s.heap H locs → lv_has ls 8 [(3, .int z.2)] → W p l e (rmx 7 103) s m args below meth c H locs 0 0 Q (F0 m 108 ls [])) ?_ FU _ _ hw24 ?_ _ _ _ I (lv_sub hl [2, 3, 4, 1, 0] rfl)
  · intro z o14 h hk15 H locs ls I hl
    obtain ⟨st9, x12, x13⟩ := z
    have h : ((if (8 : Int32) ≤ x13 then some (.inr (st9, x12)) else (if ib ((x91 * (8 : Int32)) + x13) 26 = true then (if ib ((x92 * (8 : Int32)) + x13) 26 = true then (lq (if ((c_state st9) ((x92 * (8 : Int32)) + x13).toNatClampNeg) < ((c_state st9) ((x91 * (8 : Int32)) + x13).toNatClampNeg) then ((c_state st9) ((x92 * (8 : Int32)) + x13).toNatClampNeg) else ((c_state st9) ((x91 * (8 : Int32)) + x13).toNatClampNeg)) fun x19 => (if ib ((x91 * (8 : Int32)) + x13) 26 = true then (if ib ((x92 * (8 : Int32)) + x13) 26 = true then some (.inl ((c_state_s (c_state_s st9 (upd (c_state st9) ((x91 * (8 : Int32)) + x13).toNatClampNeg (((c_state st9) ((x91 * (8 : Int32)) + x13).toNatClampNeg) - x19))) (upd (upd (c_state st9) ((x91 * (8 : Int32)) + x13).toNatClampNeg (((c_state st9) ((x91 * (8 : Int32)) + x13).toNatClampNeg) - x19)) ((x92 * (8 : Int32)) + x13).toNatClampNeg (((c_state st9) ((x92 * (8 : Int32)) + x13).toNatClampNeg) - x19))), (x12 + x19), (x13 + 1))) else none) else none)) else none) else none)) : Option ((CS × Int32 × Int32) ⊕ (CS × Int32))) = some o14 := h
    have I : wk D (cW g a st9) A s.heap H locs := I
    have hl : lv_has ls 8 [(0, .ref (a 0)), (1, .int x91), (2, .int x92), (3, .int x12), (4, .int x13)] := hl
    refine lv_iload hx hb dX4_cancel_19 (lv_at hl 4 rfl) ?_
    refine lv_bipush (v := (8 : Int32)) hx hb dX4_cancel_21 (by decide) ?_
    refine lv_icmp_ge (tgt := 108) hx hb dX4_cancel_23 (by decide) (fun hc16 => ?_) (fun hc16 => ?_)
    · have h := ifp hc16 h
      cases h
      exact hk15 _ _ _ I (lv_sub hl [3] rfl)
    · have h := ifn hc16 h
      refine lv_aload_n hx hb dX4_cancel_26 rfl (lv_at hl 0 rfl) ?_
      refine g4_9 E I dX4_cancel_27 ?_
      refine lv_iload_n hx hb dX4_cancel_30 rfl (lv_at hl 1 rfl) ?_
      refine lv_bipush (v := (8 : Int32)) hx hb dX4_cancel_31 (by decide) ?_
      refine lv_imul hx hb dX4_cancel_33 ?_
      refine lv_iload hx hb dX4_cancel_34 (lv_at hl 4 rfl) ?_
      refine lv_iadd hx hb dX4_cancel_36 ?_
      obtain ⟨hc17, h⟩ := gd h
      refine c_ld1 E I (f := (c_state st9)) rfl hc17 dX4_cancel_37 ?_
      refine lv_istore (lv' := [(5, .int ((c_state st9) ((x91 * (8 : Int32)) + x13).toNatClampNeg)), (0, .ref (a 0)), (1, .int x91), (2, .int x92), (3, .int x12), (4, .int x13)]) hx hb dX4_cancel_38 hl (by decide) rfl (fun ls hl => ?_)
      refine lv_aload_n hx hb dX4_cancel_40 rfl (lv_at hl 1 rfl) ?_
      refine g4_9 E I dX4_cancel_41 ?_
      refine lv_iload_n hx hb dX4_cancel_44 rfl (lv_at hl 3 rfl) ?_
      refine lv_bipush (v := (8 : Int32)) hx hb dX4_cancel_45 (by decide) ?_
      refine lv_imul hx hb dX4_cancel_47 ?_
      refine lv_iload hx hb dX4_cancel_48 (lv_at hl 5 rfl) ?_
      refine lv_iadd hx hb dX4_cancel_50 ?_
      obtain ⟨hc18, h⟩ := gd h
      refine c_ld1 E I (f := (c_state st9)) rfl hc18 dX4_cancel_51 ?_
      refine lv_istore (lv' := [(6, .int ((c_state st9) ((x92 * (8 : Int32)) + x13).toNatClampNeg)), (5, .int ((c_state st9) ((x91 * (8 : Int32)) + x13).toNatClampNeg)), (0, .ref (a 0)), (1, .int x91), (2, .int x92), (3, .int x12), (4, .int x13)]) hx hb dX4_cancel_52 hl (by decide) rfl (fun ls hl => ?_)
      refine lv_iload hx hb dX4_cancel_54 (lv_at hl 1 rfl) ?_
      refine lv_iload hx hb dX4_cancel_56 (lv_at hl 0 rfl) ?_
      refine r_mmin E hl.1 kx4_90 (Nat.le_of_ble_eq_true rfl) (Nat.le_of_ble_eq_true rfl) dX4_cancel_58 ?_
      obtain ⟨x19, hx20, h⟩ := lqx h
      refine lv_istore (x := (if ((c_state st9) ((x92 * (8 : Int32)) + x13).toNatClampNeg) < ((c_state st9) ((x91 * (8 : Int32)) + x13).toNatClampNeg) then ((c_state st9) ((x92 * (8 : Int32)) + x13).toNatClampNeg) else ((c_state st9) ((x91 * (8 : Int32)) + x13).toNatClampNeg))) (lv' := [(7, .int x19), (6, .int ((c_state st9) ((x92 * (8 : Int32)) + x13).toNatClampNeg)), (5, .int ((c_state st9) ((x91 * (8 : Int32)) + x13).toNatClampNeg)), (0, .ref (a 0)), (1, .int x91), (2, .int x92), (3, .int x12), (4, .int x13)]) hx hb dX4_cancel_61 hl (by decide) (by subst hx20; rfl) (fun ls hl => ?_)
      refine lv_aload_n hx hb dX4_cancel_63 rfl (lv_at hl 3 rfl) ?_
      refine g4_9 E I dX4_cancel_64 ?_
      refine lv_iload_n hx hb dX4_cancel_67 rfl (lv_at hl 4 rfl) ?_
      refine lv_bipush (v := (8 : Int32)) hx hb dX4_cancel_68 (by decide) ?_
      refine lv_imul hx hb dX4_cancel_70 ?_
      refine lv_iload hx hb dX4_cancel_71 (lv_at hl 7 rfl) ?_
      refine lv_iadd hx hb dX4_cancel_73 ?_
      refine lv_iload hx hb dX4_cancel_74 (lv_at hl 2 rfl) ?_
      refine lv_iload hx hb dX4_cancel_76 (lv_at hl 0 rfl) ?_
      refine lv_isub hx hb dX4_cancel_78 ?_
      obtain ⟨hc21, h⟩ := gd h
      refine c_st1 E I (f := (c_state st9)) rfl hc21 dX4_cancel_79 (fun H locs I => ?_)
      refine lv_aload_n hx hb dX4_cancel_80 rfl (lv_at hl 3 rfl) ?_
      refine g4_9 E I dX4_cancel_81 ?_
      refine lv_iload_n hx hb dX4_cancel_84 rfl (lv_at hl 5 rfl) ?_
      refine lv_bipush (v := (8 : Int32)) hx hb dX4_cancel_85 (by decide) ?_
      refine lv_imul hx hb dX4_cancel_87 ?_
      refine lv_iload hx hb dX4_cancel_88 (lv_at hl 7 rfl) ?_
      refine lv_iadd hx hb dX4_cancel_90 ?_
      refine lv_iload hx hb dX4_cancel_91 (lv_at hl 1 rfl) ?_
      refine lv_iload hx hb dX4_cancel_93 (lv_at hl 0 rfl) ?_
      refine lv_isub hx hb dX4_cancel_95 ?_
      obtain ⟨hc22, h⟩ := gd h
      refine c_st1 E I (f := (upd (c_state st9) ((x91 * (8 : Int32)) + x13).toNatClampNeg (((c_state st9) ((x91 * (8 : Int32)) + x13).toNatClampNeg) - x19))) rfl hc22 dX4_cancel_96 (fun H locs I => ?_)
      refine lv_iload_n hx hb dX4_cancel_97 rfl (lv_at hl 6 rfl) ?_
      refine lv_iload hx hb dX4_cancel_98 (lv_at hl 0 rfl) ?_
      refine lv_iadd hx hb dX4_cancel_100 ?_
      refine lv_istore_n (lv' := [(3, .int (x12 + x19)), (7, .int x19), (6, .int ((c_state st9) ((x92 * (8 : Int32)) + x13).toNatClampNeg)), (5, .int ((c_state st9) ((x91 * (8 : Int32)) + x13).toNatClampNeg)), (0, .ref (a 0)), (1, .int x91), (2, .int x92), (4, .int x13)]) hx hb dX4_cancel_101 rfl hl (by decide) rfl (fun ls hl => ?_)
      refine lv_iinc (v := (x13 + 1)) (lv' := [(4, .int (x13 + 1)), (3, .int (x12 + x19)), (7, .int x19), (6, .int ((c_state st9) ((x92 * (8 : Int32)) + x13).toNatClampNeg)), (5, .int ((c_state st9) ((x91 * (8 : Int32)) + x13).toNatClampNeg)), (0, .ref (a 0)), (1, .int x91), (2, .int x92)]) hx hb dX4_cancel_102 hl (k := 7) rfl rfl (by decide) rfl (fun ls hl => ?_)
      refine lv_goto (tgt := 19) hx hb dX4_cancel_105 (by decide) ?_
      cases h
      exact hk15 _ _ _ I (lv_sub hl [5, 6, 7, 1, 0] rfl)
  · obtain ⟨st25, x26⟩ := z23
    intro H locs ls I hl
    have h : (some (st25, .inr x26) : Option (CS × (Nat ⊕ Int32))) = some (st', .inl e') := h
    have I : wk D (cW g a st25) A s.heap H locs := I
    have hl : lv_has ls 8 [(3, .int x26)] := hl
    refine lv_iload_n hx hb dX4_cancel_108 rfl (lv_at hl 0 rfl) ?_
    cases h
set_option maxHeartbeats 4000000 in
set_option maxRecDepth 100000 in
theorem t4_set {l : Launch} {D : va_G} {g : Nat → ClassId} {a : Nat → Nat} {st : CS} {x91 : Int32} {x92 : Int32} {st' : CS} {e' : Nat} (hl0 : l.stackTraces = false) (h : f4_set st x91 x92 = some (st', .inl e')) : cx l yX4_set cX4_set 3 (some .int) (rmx 7 104) D g (cW g a st) (cW g a st') [.ref (a 0), .int x91, .int x92] (exN e') := by
  refine cx_of (by decide) (Nat.le_of_ble_eq_true rfl) ?_
  intro p e s m args below meth c ls Q A H locs E I hl hQ xw hex hlk
  have E : en p m c cX4_set 3 s args RX4 D g := E
  have hx := E.1.1
  have hb := E.1.2.1
  have hl : lv_has ls 3 [(0, .ref (a 0)), (1, .int x91), (2, .int x92)] := hl
  have h : ((bt0 st (f4_needIndex x91 (2 : Int32)) fun (u2 : Unit) => (bt0 st (f4_needNumber x92 (0 : Int32) (if x91 = 0 then (1 : Int32) else (9 : Int32))) fun (u8 : Unit) => (bi2 (f4_change st ((24 : Int32) + x91) x92) fun st11 r12 => some (st11, .inr r12)))) : Option (CS × (Nat ⊕ Int32))) = some (st', .inl e') := h
  refine lv_iload_n hx hb dX4_set_0 rfl (lv_at hl 1 rfl) ?_
  refine lv_iconst (v := (2 : Int32)) hx hb dX4_set_1 (by decide) ?_
  rcases bt0t h with ⟨hc1, hs3⟩ | ⟨u2, hc1, h⟩
  · subst hs3
    exact r_thrS (As := [.int x91, .int (2 : Int32)]) (rest := []) hQ xw hex hlk E I hl.1 k4_53 (t4_needIndex hl0 hc1) rfl rfl (Nat.le_of_ble_eq_true rfl) ⟨Nat.le_of_ble_eq_true rfl, Nat.le_of_ble_eq_true rfl⟩ ⟨Nat.le_refl _, Nat.le_refl _⟩ dX4_set_2
  refine r_callS0 (As := [.int x91, .int (2 : Int32)]) (rest := []) E I hl.1 k4_53 (c4_needIndex hc1) rfl rfl (Nat.le_of_ble_eq_true rfl) ⟨Nat.le_of_ble_eq_true rfl, Nat.le_of_ble_eq_true rfl⟩ ⟨Nat.zero_le _, Nat.zero_le _⟩ dX4_set_2 (fun H locs I => ?_)
  refine lv_iload_n hx hb dX4_set_5 rfl (lv_at hl 2 rfl) ?_
  refine lv_iconst (v := (0 : Int32)) hx hb dX4_set_6 (by decide) ?_
  refine lv_iload_n hx hb dX4_set_7 rfl (lv_at hl 1 rfl) ?_
  have J5 : ∀ (v4 : Int32) (H : Heap) (locs : List Loc), v4 = (if x91 = 0 then (1 : Int32) else (9 : Int32)) → wk D (cW g a st) A s.heap H locs → W p l e (rmx 7 104) s m args below meth c H locs 0 0 Q (F0 m 17 ls [.int v4, .int (0 : Int32), .int x92]) := by
    intro v4 H locs hv6 I
    subst hv6
    rcases bt0t h with ⟨hc7, hs9⟩ | ⟨u8, hc7, h⟩
    · subst hs9
      exact r_thrS (As := [.int x92, .int (0 : Int32), .int (if x91 = 0 then (1 : Int32) else (9 : Int32))]) (rest := []) hQ xw hex hlk E I hl.1 k4_57 (t4_needNumber hl0 hc7) rfl rfl (Nat.le_of_ble_eq_true rfl) ⟨Nat.le_of_ble_eq_true rfl, Nat.le_of_ble_eq_true rfl⟩ ⟨Nat.le_refl _, Nat.le_refl _⟩ dX4_set_17
    refine r_callS0 (As := [.int x92, .int (0 : Int32), .int (if x91 = 0 then (1 : Int32) else (9 : Int32))]) (rest := []) E I hl.1 k4_57 (c4_needNumber hc7) rfl rfl (Nat.le_of_ble_eq_true rfl) ⟨Nat.le_of_ble_eq_true rfl, Nat.le_of_ble_eq_true rfl⟩ ⟨Nat.zero_le _, Nat.zero_le _⟩ dX4_set_17 (fun H locs I => ?_)
    refine lv_aload_n hx hb dX4_set_20 rfl (lv_at hl 0 rfl) ?_
    refine lv_bipush (v := (24 : Int32)) hx hb dX4_set_21 (by decide) ?_
    refine lv_iload_n hx hb dX4_set_23 rfl (lv_at hl 1 rfl) ?_
    refine lv_iadd hx hb dX4_set_24 ?_
    refine lv_iload_n hx hb dX4_set_25 rfl (lv_at hl 2 rfl) ?_
    obtain ⟨st11, r12, hc10, h⟩ := bx2 h
    refine r_callV1 (As := [.int ((24 : Int32) + x91), .int x92]) (rest := []) (ws' := (cW g a st11)) (q0 := 0) E I hl.1 k4_61 (c4_change hc10) cW_k rfl rfl rfl rfl (Nat.le_of_ble_eq_true rfl) ⟨Nat.le_of_ble_eq_true rfl, Nat.le_of_ble_eq_true rfl⟩ ⟨Nat.zero_le _, Nat.zero_le _⟩ dX4_set_26 (fun H locs I => ?_)
    cases h
  refine lv_if_ne (tgt := 15) hx hb dX4_set_8 (by decide) (fun hc13 => ?_) (fun hc13 => ?_)
  · refine lv_bipush (v := (9 : Int32)) hx hb dX4_set_15 (by decide) ?_
    exact J5 _ _ _ (by rw [if_neg hc13]) I
  · refine lv_iconst (v := (1 : Int32)) hx hb dX4_set_11 (by decide) ?_
    refine lv_goto (tgt := 17) hx hb dX4_set_12 (by decide) ?_
    exact J5 _ _ _ (by rw [if_pos hc13]) I
set_option maxHeartbeats 4000000 in
set_option maxRecDepth 100000 in
theorem t4_append {l : Launch} {D : va_G} {g : Nat → ClassId} {a : Nat → Nat} {st : CS} {x91 : Int32} {st' : CS} {e' : Nat} (hl0 : l.stackTraces = false) (h : f4_append st x91 = some (st', .inl e')) : cx l yX4_append cX4_append 2 (some .int) (rmx 7 104) D g (cW g a st) (cW g a st') [.ref (a 0), .int x91] (exN e') := by
  refine cx_of (by decide) (Nat.le_of_ble_eq_true rfl) ?_
  intro p e s m args below meth c ls Q A H locs E I hl hQ xw hex hlk
  have E : en p m c cX4_append 2 s args RX4 D g := E
  have hx := E.1.1
  have hb := E.1.2.1
  have hl : lv_has ls 2 [(0, .ref (a 0)), (1, .int x91)] := hl
  have h : ((bt0 st (f4_needNumber x91 (33 : Int32) (126 : Int32)) fun (u2 : Unit) => (if (f3_isFull st) = 0 then (bi1 (f3_put st x91) fun st6 => some (st6, .inr (f3_size st6))) else some (st, .inl 2))) : Option (CS × (Nat ⊕ Int32))) = some (st', .inl e') := h
  refine lv_iload_n hx hb dX4_append_0 rfl (lv_at hl 1 rfl) ?_
  refine lv_bipush (v := (33 : Int32)) hx hb dX4_append_1 (by decide) ?_
  refine lv_bipush (v := (126 : Int32)) hx hb dX4_append_3 (by decide) ?_
  rcases bt0t h with ⟨hc1, hs3⟩ | ⟨u2, hc1, h⟩
  · subst hs3
    exact r_thrS (As := [.int x91, .int (33 : Int32), .int (126 : Int32)]) (rest := []) hQ xw hex hlk E I hl.1 k4_57 (t4_needNumber hl0 hc1) rfl rfl (Nat.le_of_ble_eq_true rfl) ⟨Nat.le_of_ble_eq_true rfl, Nat.le_of_ble_eq_true rfl⟩ ⟨Nat.le_refl _, Nat.le_refl _⟩ dX4_append_5
  refine r_callS0 (As := [.int x91, .int (33 : Int32), .int (126 : Int32)]) (rest := []) E I hl.1 k4_57 (c4_needNumber hc1) rfl rfl (Nat.le_of_ble_eq_true rfl) ⟨Nat.le_of_ble_eq_true rfl, Nat.le_of_ble_eq_true rfl⟩ ⟨Nat.zero_le _, Nat.zero_le _⟩ dX4_append_5 (fun H locs I => ?_)
  refine lv_aload_n hx hb dX4_append_8 rfl (lv_at hl 0 rfl) ?_
  refine g4_35 E I dX4_append_9 ?_
  refine r_callV1 (As := []) (rest := []) (ws' := (cW g a st)) (q0 := 6) E I hl.1 k4_95 (c3_isFull rfl) cW_k rfl rfl rfl rfl (Nat.le_of_ble_eq_true rfl) ⟨Nat.le_of_ble_eq_true rfl, Nat.le_of_ble_eq_true rfl⟩ ⟨Nat.zero_le _, Nat.zero_le _⟩ dX4_append_12 (fun H locs I => ?_)
  refine lv_if_eq (tgt := 28) hx hb dX4_append_15 (by decide) (fun hc4 => ?_) (fun hc4 => ?_)
  · have h := ifp hc4 h
    refine lv_aload_n hx hb dX4_append_28 rfl (lv_at hl 0 rfl) ?_
    refine g4_35 E I dX4_append_29 ?_
    refine lv_iload_n hx hb dX4_append_32 rfl (lv_at hl 1 rfl) ?_
    obtain ⟨st6, hc5, h⟩ := bx1 h
    refine r_callV0 (As := [.int x91]) (rest := []) (ws' := (cW g a st6)) (q0 := 6) E I hl.1 k4_100 (c3_put hc5) cW_k rfl rfl rfl rfl (Nat.le_of_ble_eq_true rfl) ⟨Nat.le_of_ble_eq_true rfl, Nat.le_of_ble_eq_true rfl⟩ ⟨Nat.zero_le _, Nat.zero_le _⟩ dX4_append_33 (fun H locs I => ?_)
    refine lv_aload_n hx hb dX4_append_36 rfl (lv_at hl 0 rfl) ?_
    refine g4_35 E I dX4_append_37 ?_
    refine r_callV1 (As := []) (rest := []) (ws' := (cW g a st6)) (q0 := 6) E I hl.1 k4_103 (c3_size rfl) cW_k rfl rfl rfl rfl (Nat.le_of_ble_eq_true rfl) ⟨Nat.le_of_ble_eq_true rfl, Nat.le_of_ble_eq_true rfl⟩ ⟨Nat.zero_le _, Nat.zero_le _⟩ dX4_append_40 (fun H locs I => ?_)
    cases h
  · have h := ifn hc4 h
    cases h
    exact r_throw (is := 98) (text := "the buffer is full") (rest := []) hl0 hQ xw hex hlk E I hl.1 (k0 := 2) rfl xw4_77 (by simp [xS]) dX4_append_18 dX4_append_21 ⟨by decide, Nat.le_of_ble_eq_true rfl, Nat.le_refl _, Nat.le_refl _⟩ (Or.inl ⟨dX4_append_22, dX4_append_24, dX4_append_27⟩)
set_option maxHeartbeats 4000000 in
set_option maxRecDepth 100000 in
theorem t4_read {l : Launch} {D : va_G} {g : Nat → ClassId} {a : Nat → Nat} {st : CS} {x91 : Int32} {st' : CS} {e' : Nat} (hl0 : l.stackTraces = false) (h : f4_read st x91 = some (st', .inl e')) : cx l yX4_read cX4_read 3 (some .int) (rmx 7 104) D g (cW g a st) (cW g a st') [.ref (a 0), .int x91] (exN e') := by
  refine cx_of (by decide) (Nat.le_of_ble_eq_true rfl) ?_
  intro p e s m args below meth c ls Q A H locs E I hl hQ xw hex hlk
  have E : en p m c cX4_read 3 s args RX4 D g := E
  have hx := E.1.1
  have hb := E.1.2.1
  have hl : lv_has ls 3 [(0, .ref (a 0)), (1, .int x91)] := hl
  have h : ((bt0 st (f4_needIndex x91 (3 : Int32)) fun (u2 : Unit) => (bi1 (f3_isProduct st) fun r5 => (if r5 = 0 then some (st, .inl 1) else (bi1 (f3_tell st) fun st8 => (bt2 (f4_putDraft st8 x91) fun st10 r11 => some ((f3_empty st10), .inr r11)))))) : Option (CS × (Nat ⊕ Int32))) = some (st', .inl e') := h
  refine lv_iload_n hx hb dX4_read_0 rfl (lv_at hl 1 rfl) ?_
  refine lv_iconst (v := (3 : Int32)) hx hb dX4_read_1 (by decide) ?_
  rcases bt0t h with ⟨hc1, hs3⟩ | ⟨u2, hc1, h⟩
  · subst hs3
    exact r_thrS (As := [.int x91, .int (3 : Int32)]) (rest := []) hQ xw hex hlk E I hl.1 k4_53 (t4_needIndex hl0 hc1) rfl rfl (Nat.le_of_ble_eq_true rfl) ⟨Nat.le_of_ble_eq_true rfl, Nat.le_of_ble_eq_true rfl⟩ ⟨Nat.le_refl _, Nat.le_refl _⟩ dX4_read_2
  refine r_callS0 (As := [.int x91, .int (3 : Int32)]) (rest := []) E I hl.1 k4_53 (c4_needIndex hc1) rfl rfl (Nat.le_of_ble_eq_true rfl) ⟨Nat.le_of_ble_eq_true rfl, Nat.le_of_ble_eq_true rfl⟩ ⟨Nat.zero_le _, Nat.zero_le _⟩ dX4_read_2 (fun H locs I => ?_)
  refine lv_aload_n hx hb dX4_read_5 rfl (lv_at hl 0 rfl) ?_
  refine g4_35 E I dX4_read_6 ?_
  obtain ⟨r5, hc4, h⟩ := bx1 h
  refine r_callV1 (As := []) (rest := []) (ws' := (cW g a st)) (q0 := 6) E I hl.1 k4_113 (c3_isProduct hc4) cW_k rfl rfl rfl rfl (Nat.le_of_ble_eq_true rfl) ⟨Nat.le_of_ble_eq_true rfl, Nat.le_of_ble_eq_true rfl⟩ ⟨Nat.zero_le _, Nat.zero_le _⟩ dX4_read_9 (fun H locs I => ?_)
  refine lv_if_ne (tgt := 25) hx hb dX4_read_12 (by decide) (fun hc6 => ?_) (fun hc6 => ?_)
  · have h := ifn hc6 h
    refine lv_aload_n hx hb dX4_read_25 rfl (lv_at hl 0 rfl) ?_
    refine g4_35 E I dX4_read_26 ?_
    refine lv_aload_n hx hb dX4_read_29 rfl (lv_at hl 0 rfl) ?_
    refine g4_13 E I dX4_read_30 ?_
    obtain ⟨st8, hc7, h⟩ := bx1 h
    refine r_callV0 (As := [.ref (a 2)]) (rest := []) (ws' := (cW g a st8)) (q0 := 6) E I hl.1 k4_121 (c3_tell hc7) cW_k rfl rfl rfl rfl (Nat.le_of_ble_eq_true rfl) ⟨Nat.le_of_ble_eq_true rfl, Nat.le_of_ble_eq_true rfl⟩ ⟨Nat.zero_le _, Nat.zero_le _⟩ dX4_read_33 (fun H locs I => ?_)
    refine lv_aload_n hx hb dX4_read_36 rfl (lv_at hl 0 rfl) ?_
    refine lv_iload_n hx hb dX4_read_37 rfl (lv_at hl 1 rfl) ?_
    rcases bt2t h with hc9 | ⟨st10, r11, hc9, h⟩
    · exact r_thrV (As := [.int x91]) (rest := []) (q0 := 0) hQ xw hex hlk E I hl.1 k4_65 (t4_putDraft hl0 hc9) rfl rfl rfl rfl (Nat.le_of_ble_eq_true rfl) ⟨Nat.le_of_ble_eq_true rfl, Nat.le_of_ble_eq_true rfl⟩ ⟨Nat.le_refl _, Nat.le_refl _⟩ dX4_read_38
    refine r_callV1 (As := [.int x91]) (rest := []) (ws' := (cW g a st10)) (q0 := 0) E I hl.1 k4_65 (c4_putDraft hc9) cW_k rfl rfl rfl rfl (Nat.le_of_ble_eq_true rfl) ⟨Nat.le_of_ble_eq_true rfl, Nat.le_of_ble_eq_true rfl⟩ ⟨Nat.zero_le _, Nat.zero_le _⟩ dX4_read_38 (fun H locs I => ?_)
    refine lv_istore_n (lv' := [(2, .int r11), (0, .ref (a 0)), (1, .int x91)]) hx hb dX4_read_41 rfl hl (by decide) rfl (fun ls hl => ?_)
    refine lv_aload_n hx hb dX4_read_42 rfl (lv_at hl 1 rfl) ?_
    refine g4_35 E I dX4_read_43 ?_
    refine r_callV0 (As := []) (rest := []) (ws' := (cW g a (f3_empty st10))) (q0 := 6) E I hl.1 k4_107 (c3_empty rfl) cW_k rfl rfl rfl rfl (Nat.le_of_ble_eq_true rfl) ⟨Nat.le_of_ble_eq_true rfl, Nat.le_of_ble_eq_true rfl⟩ ⟨Nat.zero_le _, Nat.zero_le _⟩ dX4_read_46 (fun H locs I => ?_)
    refine lv_iload_n hx hb dX4_read_49 rfl (lv_at hl 0 rfl) ?_
    cases h
  · have h := ifp hc6 h
    cases h
    exact r_throw (is := 118) (text := "the buffer is not a complete product") (rest := []) hl0 hQ xw hex hlk E I hl.1 (k0 := 1) rfl xw4_116 (by simp [xS]) dX4_read_15 dX4_read_18 ⟨by decide, Nat.le_of_ble_eq_true rfl, Nat.le_refl _, Nat.le_refl _⟩ (Or.inl ⟨dX4_read_19, dX4_read_21, dX4_read_24⟩)
set_option maxHeartbeats 4000000 in
set_option maxRecDepth 100000 in
theorem t4_take {l : Launch} {D : va_G} {g : Nat → ClassId} {a : Nat → Nat} {st : CS} {x91 : Int32} {st' : CS} {e' : Nat} (hl0 : l.stackTraces = false) (h : f4_take st x91 = some (st', .inl e')) : cx l yX4_take cX4_take 2 (some .int) (rmx 7 103) D g (cW g a st) (cW g a st') [.ref (a 0), .int x91] (exN e') := by
  refine cx_of (by decide) (Nat.le_of_ble_eq_true rfl) ?_
  intro p e s m args below meth c ls Q A H locs E I hl hQ xw hex hlk
  have E : en p m c cX4_take 2 s args RX4 D g := E
  have hx := E.1.1
  have hb := E.1.2.1
  have hl : lv_has ls 2 [(0, .ref (a 0)), (1, .int x91)] := hl
  have h : ((bt0 st (f4_needIndex x91 (2 : Int32)) fun (u2 : Unit) => (if ib x91 2 = true then (if ib x91 2 = true then (bi1 (f4_factorsOfAll (c_taken_s (c_snaps_s st (va_up (c_snaps st) x91.toNatClampNeg (va_cpy (c_state st) ((c_snaps st) x91.toNatClampNeg) (0 : Int32).toNatClampNeg (0 : Int32).toNatClampNeg (24 : Int32).toNatClampNeg))) (upd (c_taken st) x91.toNatClampNeg (vp_nar .boolean (1 : Int32))))) fun r7 => some ((c_taken_s (c_snaps_s st (va_up (c_snaps st) x91.toNatClampNeg (va_cpy (c_state st) ((c_snaps st) x91.toNatClampNeg) (0 : Int32).toNatClampNeg (0 : Int32).toNatClampNeg (24 : Int32).toNatClampNeg))) (upd (c_taken st) x91.toNatClampNeg (vp_nar .boolean (1 : Int32)))), .inr r7)) else none) else none)) : Option (CS × (Nat ⊕ Int32))) = some (st', .inl e') := h
  refine lv_iload_n hx hb dX4_take_0 rfl (lv_at hl 1 rfl) ?_
  refine lv_iconst (v := (2 : Int32)) hx hb dX4_take_1 (by decide) ?_
  rcases bt0t h with ⟨hc1, hs3⟩ | ⟨u2, hc1, h⟩
  · subst hs3
    exact r_thrS (As := [.int x91, .int (2 : Int32)]) (rest := []) hQ xw hex hlk E I hl.1 k4_53 (t4_needIndex hl0 hc1) rfl rfl (Nat.le_of_ble_eq_true rfl) ⟨Nat.le_of_ble_eq_true rfl, Nat.le_of_ble_eq_true rfl⟩ ⟨Nat.le_refl _, Nat.le_refl _⟩ dX4_take_2
  refine r_callS0 (As := [.int x91, .int (2 : Int32)]) (rest := []) E I hl.1 k4_53 (c4_needIndex hc1) rfl rfl (Nat.le_of_ble_eq_true rfl) ⟨Nat.le_of_ble_eq_true rfl, Nat.le_of_ble_eq_true rfl⟩ ⟨Nat.zero_le _, Nat.zero_le _⟩ dX4_take_2 (fun H locs I => ?_)
  refine lv_aload_n hx hb dX4_take_5 rfl (lv_at hl 0 rfl) ?_
  refine g4_9 E I dX4_take_6 ?_
  refine lv_iconst (v := (0 : Int32)) hx hb dX4_take_9 (by decide) ?_
  refine lv_aload_n hx hb dX4_take_10 rfl (lv_at hl 0 rfl) ?_
  refine g4_18 E I dX4_take_11 ?_
  refine lv_iload_n hx hb dX4_take_14 rfl (lv_at hl 1 rfl) ?_
  obtain ⟨hc4, h⟩ := gd h
  refine c_al3 E I hc4 dX4_take_15 ?_
  refine lv_iconst (v := (0 : Int32)) hx hb dX4_take_16 (by decide) ?_
  refine lv_bipush (v := (24 : Int32)) hx hb dX4_take_17 (by decide) ?_
  refine r_copy (ws' := (cW g a (c_snaps_s st (va_up (c_snaps st) x91.toNatClampNeg (va_cpy (c_state st) ((c_snaps st) x91.toNatClampNeg) (0 : Int32).toNatClampNeg (0 : Int32).toNatClampNeg (24 : Int32).toNatClampNeg))))) (f := (c_state st)) (h := ((c_snaps st) x91.toNatClampNeg)) (rest := []) E I 1 (9 + x91.toNatClampNeg) hl.1 ka4_125 aw_nat aw_stat aw_ini rfl (c_at3 (ib_lt hc4)) (by decide) (c_sa3 (ib_lt hc4)) (Nat.le_of_ble_eq_true rfl) (Nat.le_of_ble_eq_true rfl) dX4_take_19 (fun H locs I => ?_)
  refine lv_aload_n hx hb dX4_take_22 rfl (lv_at hl 0 rfl) ?_
  refine g4_21 E I dX4_take_23 ?_
  refine lv_iload_n hx hb dX4_take_26 rfl (lv_at hl 1 rfl) ?_
  refine lv_iconst (v := (1 : Int32)) hx hb dX4_take_27 (by decide) ?_
  obtain ⟨hc5, h⟩ := gd h
  refine c_st4 E I (f := (c_taken st)) rfl hc5 dX4_take_28 (fun H locs I => ?_)
  refine lv_aload_n hx hb dX4_take_29 rfl (lv_at hl 0 rfl) ?_
  obtain ⟨r7, hc6, h⟩ := bx1 h
  refine r_callV1 (As := []) (rest := []) (ws' := (cW g a (c_taken_s (c_snaps_s st (va_up (c_snaps st) x91.toNatClampNeg (va_cpy (c_state st) ((c_snaps st) x91.toNatClampNeg) (0 : Int32).toNatClampNeg (0 : Int32).toNatClampNeg (24 : Int32).toNatClampNeg))) (upd (c_taken st) x91.toNatClampNeg (vp_nar .boolean (1 : Int32)))))) (q0 := 0) E I hl.1 k4_131 (c4_factorsOfAll hc6) cW_k rfl rfl rfl rfl (Nat.le_of_ble_eq_true rfl) ⟨Nat.le_of_ble_eq_true rfl, Nat.le_of_ble_eq_true rfl⟩ ⟨Nat.zero_le _, Nat.zero_le _⟩ dX4_take_30 (fun H locs I => ?_)
  cases h
set_option maxHeartbeats 4000000 in
set_option maxRecDepth 100000 in
theorem t4_restore {l : Launch} {D : va_G} {g : Nat → ClassId} {a : Nat → Nat} {st : CS} {x91 : Int32} {st' : CS} {e' : Nat} (hl0 : l.stackTraces = false) (h : f4_restore st x91 = some (st', .inl e')) : cx l yX4_restore cX4_restore 2 (some .int) (rmx 7 103) D g (cW g a st) (cW g a st') [.ref (a 0), .int x91] (exN e') := by
  refine cx_of (by decide) (Nat.le_of_ble_eq_true rfl) ?_
  intro p e s m args below meth c ls Q A H locs E I hl hQ xw hex hlk
  have E : en p m c cX4_restore 2 s args RX4 D g := E
  have hx := E.1.1
  have hb := E.1.2.1
  have hl : lv_has ls 2 [(0, .ref (a 0)), (1, .int x91)] := hl
  have h : ((bt0 st (f4_needIndex x91 (2 : Int32)) fun (u2 : Unit) => (if ib x91 2 = true then (if ((c_taken st) x91.toNatClampNeg) = 0 then some (st, .inl 2) else (bi1 (f4_keepState st) fun st7 => (if ib x91 2 = true then (bi1 (f4_factorsOfAll (c_state_s st7 (va_cpy ((c_snaps st7) x91.toNatClampNeg) (c_state st7) (0 : Int32).toNatClampNeg (0 : Int32).toNatClampNeg (24 : Int32).toNatClampNeg))) fun r10 => some ((c_state_s st7 (va_cpy ((c_snaps st7) x91.toNatClampNeg) (c_state st7) (0 : Int32).toNatClampNeg (0 : Int32).toNatClampNeg (24 : Int32).toNatClampNeg)), .inr r10)) else none))) else none)) : Option (CS × (Nat ⊕ Int32))) = some (st', .inl e') := h
  refine lv_iload_n hx hb dX4_restore_0 rfl (lv_at hl 1 rfl) ?_
  refine lv_iconst (v := (2 : Int32)) hx hb dX4_restore_1 (by decide) ?_
  rcases bt0t h with ⟨hc1, hs3⟩ | ⟨u2, hc1, h⟩
  · subst hs3
    exact r_thrS (As := [.int x91, .int (2 : Int32)]) (rest := []) hQ xw hex hlk E I hl.1 k4_53 (t4_needIndex hl0 hc1) rfl rfl (Nat.le_of_ble_eq_true rfl) ⟨Nat.le_of_ble_eq_true rfl, Nat.le_of_ble_eq_true rfl⟩ ⟨Nat.le_refl _, Nat.le_refl _⟩ dX4_restore_2
  refine r_callS0 (As := [.int x91, .int (2 : Int32)]) (rest := []) E I hl.1 k4_53 (c4_needIndex hc1) rfl rfl (Nat.le_of_ble_eq_true rfl) ⟨Nat.le_of_ble_eq_true rfl, Nat.le_of_ble_eq_true rfl⟩ ⟨Nat.zero_le _, Nat.zero_le _⟩ dX4_restore_2 (fun H locs I => ?_)
  refine lv_aload_n hx hb dX4_restore_5 rfl (lv_at hl 0 rfl) ?_
  refine g4_21 E I dX4_restore_6 ?_
  refine lv_iload_n hx hb dX4_restore_9 rfl (lv_at hl 1 rfl) ?_
  obtain ⟨hc4, h⟩ := gd h
  refine c_ld4 E I (f := (c_taken st)) rfl hc4 dX4_restore_10 ?_
  refine lv_if_ne (tgt := 24) hx hb dX4_restore_11 (by decide) (fun hc5 => ?_) (fun hc5 => ?_)
  · have h := ifn hc5 h
    refine lv_aload_n hx hb dX4_restore_24 rfl (lv_at hl 0 rfl) ?_
    obtain ⟨st7, hc6, h⟩ := bx1 h
    refine r_callV0 (As := []) (rest := []) (ws' := (cW g a st7)) (q0 := 0) E I hl.1 k4_87 (c4_keepState hc6) cW_k rfl rfl rfl rfl (Nat.le_of_ble_eq_true rfl) ⟨Nat.le_of_ble_eq_true rfl, Nat.le_of_ble_eq_true rfl⟩ ⟨Nat.zero_le _, Nat.zero_le _⟩ dX4_restore_25 (fun H locs I => ?_)
    refine lv_aload_n hx hb dX4_restore_28 rfl (lv_at hl 0 rfl) ?_
    refine g4_18 E I dX4_restore_29 ?_
    refine lv_iload_n hx hb dX4_restore_32 rfl (lv_at hl 1 rfl) ?_
    obtain ⟨hc8, h⟩ := gd h
    refine c_al3 E I hc8 dX4_restore_33 ?_
    refine lv_iconst (v := (0 : Int32)) hx hb dX4_restore_34 (by decide) ?_
    refine lv_aload_n hx hb dX4_restore_35 rfl (lv_at hl 0 rfl) ?_
    refine g4_9 E I dX4_restore_36 ?_
    refine lv_iconst (v := (0 : Int32)) hx hb dX4_restore_39 (by decide) ?_
    refine lv_bipush (v := (24 : Int32)) hx hb dX4_restore_40 (by decide) ?_
    refine r_copy (ws' := (cW g a (c_state_s st7 (va_cpy ((c_snaps st7) x91.toNatClampNeg) (c_state st7) (0 : Int32).toNatClampNeg (0 : Int32).toNatClampNeg (24 : Int32).toNatClampNeg)))) (f := ((c_snaps st7) x91.toNatClampNeg)) (h := (c_state st7)) (rest := []) E I (9 + x91.toNatClampNeg) 1 hl.1 ka4_125 aw_nat aw_stat aw_ini (c_at3 (ib_lt hc8)) rfl (by decide) rfl (Nat.le_of_ble_eq_true rfl) (Nat.le_of_ble_eq_true rfl) dX4_restore_42 (fun H locs I => ?_)
    refine lv_aload_n hx hb dX4_restore_45 rfl (lv_at hl 0 rfl) ?_
    obtain ⟨r10, hc9, h⟩ := bx1 h
    refine r_callV1 (As := []) (rest := []) (ws' := (cW g a (c_state_s st7 (va_cpy ((c_snaps st7) x91.toNatClampNeg) (c_state st7) (0 : Int32).toNatClampNeg (0 : Int32).toNatClampNeg (24 : Int32).toNatClampNeg)))) (q0 := 0) E I hl.1 k4_131 (c4_factorsOfAll hc9) cW_k rfl rfl rfl rfl (Nat.le_of_ble_eq_true rfl) ⟨Nat.le_of_ble_eq_true rfl, Nat.le_of_ble_eq_true rfl⟩ ⟨Nat.zero_le _, Nat.zero_le _⟩ dX4_restore_46 (fun H locs I => ?_)
    cases h
  · have h := ifp hc5 h
    cases h
    exact r_throw (is := 134) (text := "the snapshot was not taken") (rest := []) hl0 hQ xw hex hlk E I hl.1 (k0 := 2) rfl xw4_77 (by simp [xS]) dX4_restore_14 dX4_restore_17 ⟨by decide, Nat.le_of_ble_eq_true rfl, Nat.le_refl _, Nat.le_refl _⟩ (Or.inl ⟨dX4_restore_18, dX4_restore_20, dX4_restore_23⟩)
set_option maxHeartbeats 4000000 in
set_option maxRecDepth 100000 in
theorem t4_undo {l : Launch} {D : va_G} {g : Nat → ClassId} {a : Nat → Nat} {st : CS} {st' : CS} {e' : Nat} (hl0 : l.stackTraces = false) (h : f4_undo st = some (st', .inl e')) : cx l yX4_undo cX4_undo 1 (some .int) (rmx 6 82) D g (cW g a st) (cW g a st') [.ref (a 0)] (exN e') := by
  refine cx_of (by decide) (Nat.le_of_ble_eq_true rfl) ?_
  intro p e s m args below meth c ls Q A H locs E I hl hQ xw hex hlk
  have E : en p m c cX4_undo 1 s args RX4 D g := E
  have hx := E.1.1
  have hb := E.1.2.1
  have hl : lv_has ls 1 [(0, .ref (a 0))] := hl
  have h : ((if (f1_size st) = 0 then some (st, .inl 2) else (bi1 (f1_giveBack st) fun st3 => some ((f4_forgetTables st3), .inr (f1_size (f4_forgetTables st3))))) : Option (CS × (Nat ⊕ Int32))) = some (st', .inl e') := h
  refine lv_aload_n hx hb dX4_undo_0 rfl (lv_at hl 0 rfl) ?_
  refine g4_28 E I dX4_undo_1 ?_
  refine r_callV1 (As := []) (rest := []) (ws' := (cW g a st)) (q0 := 5) E I hl.1 k4_136 (c1_size rfl) cW_k rfl rfl rfl rfl (Nat.le_of_ble_eq_true rfl) ⟨Nat.le_of_ble_eq_true rfl, Nat.le_of_ble_eq_true rfl⟩ ⟨Nat.zero_le _, Nat.zero_le _⟩ dX4_undo_4 (fun H locs I => ?_)
  refine lv_if_ne (tgt := 20) hx hb dX4_undo_7 (by decide) (fun hc1 => ?_) (fun hc1 => ?_)
  · have h := ifn hc1 h
    refine lv_aload_n hx hb dX4_undo_20 rfl (lv_at hl 0 rfl) ?_
    refine g4_28 E I dX4_undo_21 ?_
    refine lv_aload_n hx hb dX4_undo_24 rfl (lv_at hl 0 rfl) ?_
    refine g4_9 E I dX4_undo_25 ?_
    obtain ⟨st3, hc2, h⟩ := bx1 h
    refine r_callV0 (As := [.ref (a 1)]) (rest := []) (ws' := (cW g a st3)) (q0 := 5) E I hl.1 k4_139 (c1_giveBack hc2) cW_k rfl rfl rfl rfl (Nat.le_of_ble_eq_true rfl) ⟨Nat.le_of_ble_eq_true rfl, Nat.le_of_ble_eq_true rfl⟩ ⟨Nat.zero_le _, Nat.zero_le _⟩ dX4_undo_28 (fun H locs I => ?_)
    refine lv_aload_n hx hb dX4_undo_31 rfl (lv_at hl 0 rfl) ?_
    refine r_callV0 (As := []) (rest := []) (ws' := (cW g a (f4_forgetTables st3))) (q0 := 0) E I hl.1 k4_142 (c4_forgetTables rfl) cW_k rfl rfl rfl rfl (Nat.le_of_ble_eq_true rfl) ⟨Nat.le_of_ble_eq_true rfl, Nat.le_of_ble_eq_true rfl⟩ ⟨Nat.zero_le _, Nat.zero_le _⟩ dX4_undo_32 (fun H locs I => ?_)
    refine lv_aload_n hx hb dX4_undo_35 rfl (lv_at hl 0 rfl) ?_
    refine g4_28 E I dX4_undo_36 ?_
    refine r_callV1 (As := []) (rest := []) (ws' := (cW g a (f4_forgetTables st3))) (q0 := 5) E I hl.1 k4_136 (c1_size rfl) cW_k rfl rfl rfl rfl (Nat.le_of_ble_eq_true rfl) ⟨Nat.le_of_ble_eq_true rfl, Nat.le_of_ble_eq_true rfl⟩ ⟨Nat.zero_le _, Nat.zero_le _⟩ dX4_undo_39 (fun H locs I => ?_)
    cases h
  · have h := ifp hc1 h
    cases h
    exact r_throw (is := 137) (text := "there is no saved state") (rest := []) hl0 hQ xw hex hlk E I hl.1 (k0 := 2) rfl xw4_77 (by simp [xS]) dX4_undo_10 dX4_undo_13 ⟨by decide, Nat.le_of_ble_eq_true rfl, Nat.le_refl _, Nat.le_refl _⟩ (Or.inl ⟨dX4_undo_14, dX4_undo_16, dX4_undo_19⟩)
set_option maxHeartbeats 4000000 in
set_option maxRecDepth 100000 in
theorem t4_times {l : Launch} {D : va_G} {g : Nat → ClassId} {a : Nat → Nat} {st : CS} {x91 : Int32} {x92 : Int32} {st' : CS} {e' : Nat} (hl0 : l.stackTraces = false) (h : f4_times st x91 x92 = some (st', .inl e')) : cx l yX4_times cX4_times 3 (some .int) (rmx 7 103) D g (cW g a st) (cW g a st') [.ref (a 0), .int x91, .int x92] (exN e') := by
  refine cx_of (by decide) (Nat.le_of_ble_eq_true rfl) ?_
  intro p e s m args below meth c ls Q A H locs E I hl hQ xw hex hlk
  have E : en p m c cX4_times 3 s args RX4 D g := E
  have hx := E.1.1
  have hb := E.1.2.1
  have hl : lv_has ls 3 [(0, .ref (a 0)), (1, .int x91), (2, .int x92)] := hl
  have h : ((bt0 st (f4_needIndex x91 (3 : Int32)) fun (u2 : Unit) => (bt0 st (f4_needIndex x92 (8 : Int32)) fun (u5 : Unit) => (if ib ((x91 * (8 : Int32)) + x92) 26 = true then some (st, .inr ((c_state st) ((x91 * (8 : Int32)) + x92).toNatClampNeg)) else none))) : Option (CS × (Nat ⊕ Int32))) = some (st', .inl e') := h
  refine lv_iload_n hx hb dX4_times_0 rfl (lv_at hl 1 rfl) ?_
  refine lv_iconst (v := (3 : Int32)) hx hb dX4_times_1 (by decide) ?_
  rcases bt0t h with ⟨hc1, hs3⟩ | ⟨u2, hc1, h⟩
  · subst hs3
    exact r_thrS (As := [.int x91, .int (3 : Int32)]) (rest := []) hQ xw hex hlk E I hl.1 k4_53 (t4_needIndex hl0 hc1) rfl rfl (Nat.le_of_ble_eq_true rfl) ⟨Nat.le_of_ble_eq_true rfl, Nat.le_of_ble_eq_true rfl⟩ ⟨Nat.le_refl _, Nat.le_refl _⟩ dX4_times_2
  refine r_callS0 (As := [.int x91, .int (3 : Int32)]) (rest := []) E I hl.1 k4_53 (c4_needIndex hc1) rfl rfl (Nat.le_of_ble_eq_true rfl) ⟨Nat.le_of_ble_eq_true rfl, Nat.le_of_ble_eq_true rfl⟩ ⟨Nat.zero_le _, Nat.zero_le _⟩ dX4_times_2 (fun H locs I => ?_)
  refine lv_iload_n hx hb dX4_times_5 rfl (lv_at hl 2 rfl) ?_
  refine lv_bipush (v := (8 : Int32)) hx hb dX4_times_6 (by decide) ?_
  rcases bt0t h with ⟨hc4, hs6⟩ | ⟨u5, hc4, h⟩
  · subst hs6
    exact r_thrS (As := [.int x92, .int (8 : Int32)]) (rest := []) hQ xw hex hlk E I hl.1 k4_53 (t4_needIndex hl0 hc4) rfl rfl (Nat.le_of_ble_eq_true rfl) ⟨Nat.le_of_ble_eq_true rfl, Nat.le_of_ble_eq_true rfl⟩ ⟨Nat.le_refl _, Nat.le_refl _⟩ dX4_times_8
  refine r_callS0 (As := [.int x92, .int (8 : Int32)]) (rest := []) E I hl.1 k4_53 (c4_needIndex hc4) rfl rfl (Nat.le_of_ble_eq_true rfl) ⟨Nat.le_of_ble_eq_true rfl, Nat.le_of_ble_eq_true rfl⟩ ⟨Nat.zero_le _, Nat.zero_le _⟩ dX4_times_8 (fun H locs I => ?_)
  refine lv_aload_n hx hb dX4_times_11 rfl (lv_at hl 0 rfl) ?_
  refine g4_9 E I dX4_times_12 ?_
  refine lv_iload_n hx hb dX4_times_15 rfl (lv_at hl 1 rfl) ?_
  refine lv_bipush (v := (8 : Int32)) hx hb dX4_times_16 (by decide) ?_
  refine lv_imul hx hb dX4_times_18 ?_
  refine lv_iload_n hx hb dX4_times_19 rfl (lv_at hl 2 rfl) ?_
  refine lv_iadd hx hb dX4_times_20 ?_
  obtain ⟨hc7, h⟩ := gd h
  refine c_ld1 E I (f := (c_state st)) rfl hc7 dX4_times_21 ?_
  cases h
set_option maxHeartbeats 4000000 in
set_option maxRecDepth 100000 in
theorem t4_rest {l : Launch} {D : va_G} {g : Nat → ClassId} {a : Nat → Nat} {st : CS} {x91 : Int32} {st' : CS} {e' : Nat} (hl0 : l.stackTraces = false) (h : f4_rest st x91 = some (st', .inl e')) : cx l yX4_rest cX4_rest 2 (some .int) (rmx 7 103) D g (cW g a st) (cW g a st') [.ref (a 0), .int x91] (exN e') := by
  refine cx_of (by decide) (Nat.le_of_ble_eq_true rfl) ?_
  intro p e s m args below meth c ls Q A H locs E I hl hQ xw hex hlk
  have E : en p m c cX4_rest 2 s args RX4 D g := E
  have hx := E.1.1
  have hb := E.1.2.1
  have hl : lv_has ls 2 [(0, .ref (a 0)), (1, .int x91)] := hl
  have h : ((bt0 st (f4_needIndex x91 (4 : Int32)) fun (u2 : Unit) => (bi1 (f4_restOf st x91) fun r5 => some (st, .inr r5))) : Option (CS × (Nat ⊕ Int32))) = some (st', .inl e') := h
  refine lv_iload_n hx hb dX4_rest_0 rfl (lv_at hl 1 rfl) ?_
  refine lv_iconst (v := (4 : Int32)) hx hb dX4_rest_1 (by decide) ?_
  rcases bt0t h with ⟨hc1, hs3⟩ | ⟨u2, hc1, h⟩
  · subst hs3
    exact r_thrS (As := [.int x91, .int (4 : Int32)]) (rest := []) hQ xw hex hlk E I hl.1 k4_53 (t4_needIndex hl0 hc1) rfl rfl (Nat.le_of_ble_eq_true rfl) ⟨Nat.le_of_ble_eq_true rfl, Nat.le_of_ble_eq_true rfl⟩ ⟨Nat.le_refl _, Nat.le_refl _⟩ dX4_rest_2
  refine r_callS0 (As := [.int x91, .int (4 : Int32)]) (rest := []) E I hl.1 k4_53 (c4_needIndex hc1) rfl rfl (Nat.le_of_ble_eq_true rfl) ⟨Nat.le_of_ble_eq_true rfl, Nat.le_of_ble_eq_true rfl⟩ ⟨Nat.zero_le _, Nat.zero_le _⟩ dX4_rest_2 (fun H locs I => ?_)
  refine lv_aload_n hx hb dX4_rest_5 rfl (lv_at hl 0 rfl) ?_
  refine lv_iload_n hx hb dX4_rest_6 rfl (lv_at hl 1 rfl) ?_
  obtain ⟨r5, hc4, h⟩ := bx1 h
  refine r_callV1 (As := [.int x91]) (rest := []) (ws' := (cW g a st)) (q0 := 0) E I hl.1 k4_145 (c4_restOf hc4) cW_k rfl rfl rfl rfl (Nat.le_of_ble_eq_true rfl) ⟨Nat.le_of_ble_eq_true rfl, Nat.le_of_ble_eq_true rfl⟩ ⟨Nat.zero_le _, Nat.zero_le _⟩ dX4_rest_7 (fun H locs I => ?_)
  cases h
set_option maxHeartbeats 4000000 in
set_option maxRecDepth 100000 in
theorem t4_solutions {l : Launch} {D : va_G} {g : Nat → ClassId} {a : Nat → Nat} {st : CS} {x91 : Int32} {st' : CS} {e' : Nat} (hl0 : l.stackTraces = false) (h : f4_solutions st x91 = some (st', .inl e')) : cx l yX4_solutions cX4_solutions 2 (some .int) (rmx 7 117) D g (cW g a st) (cW g a st') [.ref (a 0), .int x91] (exN e') := by
  refine cx_of (by decide) (Nat.le_of_ble_eq_true rfl) ?_
  intro p e s m args below meth c ls Q A H locs E I hl hQ xw hex hlk
  have E : en p m c cX4_solutions 2 s args RX4 D g := E
  have hx := E.1.1
  have hb := E.1.2.1
  have hl : lv_has ls 2 [(0, .ref (a 0)), (1, .int x91)] := hl
  have h : ((bt0 st (f4_needIndex x91 (4 : Int32)) fun (u2 : Unit) => (bi1 (f0_prepare st) fun st5 => (bi1 (f0_solutionsOf st5 x91) fun r7 => some (st5, .inr r7)))) : Option (CS × (Nat ⊕ Int32))) = some (st', .inl e') := h
  refine lv_iload_n hx hb dX4_solutions_0 rfl (lv_at hl 1 rfl) ?_
  refine lv_iconst (v := (4 : Int32)) hx hb dX4_solutions_1 (by decide) ?_
  rcases bt0t h with ⟨hc1, hs3⟩ | ⟨u2, hc1, h⟩
  · subst hs3
    exact r_thrS (As := [.int x91, .int (4 : Int32)]) (rest := []) hQ xw hex hlk E I hl.1 k4_53 (t4_needIndex hl0 hc1) rfl rfl (Nat.le_of_ble_eq_true rfl) ⟨Nat.le_of_ble_eq_true rfl, Nat.le_of_ble_eq_true rfl⟩ ⟨Nat.le_refl _, Nat.le_refl _⟩ dX4_solutions_2
  refine r_callS0 (As := [.int x91, .int (4 : Int32)]) (rest := []) E I hl.1 k4_53 (c4_needIndex hc1) rfl rfl (Nat.le_of_ble_eq_true rfl) ⟨Nat.le_of_ble_eq_true rfl, Nat.le_of_ble_eq_true rfl⟩ ⟨Nat.zero_le _, Nat.zero_le _⟩ dX4_solutions_2 (fun H locs I => ?_)
  refine lv_aload_n hx hb dX4_solutions_5 rfl (lv_at hl 0 rfl) ?_
  refine g4_42 E I dX4_solutions_6 ?_
  refine lv_aload_n hx hb dX4_solutions_9 rfl (lv_at hl 0 rfl) ?_
  refine g4_9 E I dX4_solutions_10 ?_
  obtain ⟨st5, hc4, h⟩ := bx1 h
  refine r_callV0 (As := [.ref (a 1)]) (rest := []) (ws' := (cW g a st5)) (q0 := 7) E I hl.1 k4_148 (c0_prepare hc4) cW_k rfl rfl rfl rfl (Nat.le_of_ble_eq_true rfl) ⟨Nat.le_of_ble_eq_true rfl, Nat.le_of_ble_eq_true rfl⟩ ⟨Nat.zero_le _, Nat.zero_le _⟩ dX4_solutions_13 (fun H locs I => ?_)
  refine lv_aload_n hx hb dX4_solutions_16 rfl (lv_at hl 0 rfl) ?_
  refine g4_42 E I dX4_solutions_17 ?_
  refine lv_iload_n hx hb dX4_solutions_20 rfl (lv_at hl 1 rfl) ?_
  obtain ⟨r7, hc6, h⟩ := bx1 h
  refine r_callV1 (As := [.int x91]) (rest := []) (ws' := (cW g a st5)) (q0 := 7) E I hl.1 k4_151 (c0_solutionsOf hc6) cW_k rfl rfl rfl rfl (Nat.le_of_ble_eq_true rfl) ⟨Nat.le_of_ble_eq_true rfl, Nat.le_of_ble_eq_true rfl⟩ ⟨Nat.zero_le _, Nat.zero_le _⟩ dX4_solutions_21 (fun H locs I => ?_)
  cases h
set_option maxHeartbeats 4000000 in
set_option maxRecDepth 100000 in
theorem t4_matchers {l : Launch} {D : va_G} {g : Nat → ClassId} {a : Nat → Nat} {st : CS} {x91 : Int32} {st' : CS} {e' : Nat} (hl0 : l.stackTraces = false) (h : f4_matchers st x91 = some (st', .inl e')) : cx l yX4_matchers cX4_matchers 2 (some .long) (rmx 7 117) D g (cW g a st) (cW g a st') [.ref (a 0), .int x91] (exN e') := by
  refine cx_of (by decide) (Nat.le_of_ble_eq_true rfl) ?_
  intro p e s m args below meth c ls Q A H locs E I hl hQ xw hex hlk
  have E : en p m c cX4_matchers 2 s args RX4 D g := E
  have hx := E.1.1
  have hb := E.1.2.1
  have hl : lv_has ls 2 [(0, .ref (a 0)), (1, .int x91)] := hl
  have h : ((bt0 st (f4_needNumber x91 (0 : Int32) (1 : Int32)) fun (u2 : Unit) => (bi1 (f0_prepare st) fun st5 => (if x91 = 0 then (bi1 (f0_bySets st5) fun r10 => some (st5, .inr r10)) else (bi1 (f0_byConstants st5) fun r8 => some (st5, .inr r8))))) : Option (CS × (Nat ⊕ Int64))) = some (st', .inl e') := h
  refine lv_iload_n hx hb dX4_matchers_0 rfl (lv_at hl 1 rfl) ?_
  refine lv_iconst (v := (0 : Int32)) hx hb dX4_matchers_1 (by decide) ?_
  refine lv_iconst (v := (1 : Int32)) hx hb dX4_matchers_2 (by decide) ?_
  rcases bt0t h with ⟨hc1, hs3⟩ | ⟨u2, hc1, h⟩
  · subst hs3
    exact r_thrS (As := [.int x91, .int (0 : Int32), .int (1 : Int32)]) (rest := []) hQ xw hex hlk E I hl.1 k4_57 (t4_needNumber hl0 hc1) rfl rfl (Nat.le_of_ble_eq_true rfl) ⟨Nat.le_of_ble_eq_true rfl, Nat.le_of_ble_eq_true rfl⟩ ⟨Nat.le_refl _, Nat.le_refl _⟩ dX4_matchers_3
  refine r_callS0 (As := [.int x91, .int (0 : Int32), .int (1 : Int32)]) (rest := []) E I hl.1 k4_57 (c4_needNumber hc1) rfl rfl (Nat.le_of_ble_eq_true rfl) ⟨Nat.le_of_ble_eq_true rfl, Nat.le_of_ble_eq_true rfl⟩ ⟨Nat.zero_le _, Nat.zero_le _⟩ dX4_matchers_3 (fun H locs I => ?_)
  refine lv_aload_n hx hb dX4_matchers_6 rfl (lv_at hl 0 rfl) ?_
  refine g4_42 E I dX4_matchers_7 ?_
  refine lv_aload_n hx hb dX4_matchers_10 rfl (lv_at hl 0 rfl) ?_
  refine g4_9 E I dX4_matchers_11 ?_
  obtain ⟨st5, hc4, h⟩ := bx1 h
  refine r_callV0 (As := [.ref (a 1)]) (rest := []) (ws' := (cW g a st5)) (q0 := 7) E I hl.1 k4_148 (c0_prepare hc4) cW_k rfl rfl rfl rfl (Nat.le_of_ble_eq_true rfl) ⟨Nat.le_of_ble_eq_true rfl, Nat.le_of_ble_eq_true rfl⟩ ⟨Nat.zero_le _, Nat.zero_le _⟩ dX4_matchers_14 (fun H locs I => ?_)
  refine lv_iload_n hx hb dX4_matchers_17 rfl (lv_at hl 1 rfl) ?_
  refine lv_if_ne (tgt := 31) hx hb dX4_matchers_18 (by decide) (fun hc6 => ?_) (fun hc6 => ?_)
  · have h := ifn hc6 h
    refine lv_aload_n hx hb dX4_matchers_31 rfl (lv_at hl 0 rfl) ?_
    refine g4_42 E I dX4_matchers_32 ?_
    obtain ⟨r8, hc7, h⟩ := bx1 h
    refine r_callV1 (As := []) (rest := []) (ws' := (cW g a st5)) (q0 := 7) E I hl.1 k4_158 (c0_byConstants hc7) cW_k rfl rfl rfl rfl (Nat.le_of_ble_eq_true rfl) ⟨Nat.le_of_ble_eq_true rfl, Nat.le_of_ble_eq_true rfl⟩ ⟨Nat.zero_le _, Nat.zero_le _⟩ dX4_matchers_35 (fun H locs I => ?_)
    cases h
  · have h := ifp hc6 h
    refine lv_aload_n hx hb dX4_matchers_21 rfl (lv_at hl 0 rfl) ?_
    refine g4_42 E I dX4_matchers_22 ?_
    obtain ⟨r10, hc9, h⟩ := bx1 h
    refine r_callV1 (As := []) (rest := []) (ws' := (cW g a st5)) (q0 := 7) E I hl.1 k4_154 (c0_bySets hc9) cW_k rfl rfl rfl rfl (Nat.le_of_ble_eq_true rfl) ⟨Nat.le_of_ble_eq_true rfl, Nat.le_of_ble_eq_true rfl⟩ ⟨Nat.zero_le _, Nat.zero_le _⟩ dX4_matchers_25 (fun H locs I => ?_)
    refine lv_goto (tgt := 38) hx hb dX4_matchers_28 (by decide) ?_
    cases h
set_option maxHeartbeats 4000000 in
set_option maxRecDepth 100000 in
theorem t4_value {l : Launch} {D : va_G} {g : Nat → ClassId} {a : Nat → Nat} {st : CS} {x91 : Int32} {x92 : Int32} {x93 : Int32} {st' : CS} {e' : Nat} (hl0 : l.stackTraces = false) (h : f4_value st x91 x92 x93 = some (st', .inl e')) : cx l yX4_value cX4_value 4 (some .int) (rmx 7 138) D g (cW g a st) (cW g a st') [.ref (a 0), .int x91, .int x92, .int x93] (exN e') := by
  refine cx_of (by decide) (Nat.le_of_ble_eq_true rfl) ?_
  intro p e s m args below meth c ls Q A H locs E I hl hQ xw hex hlk
  have E : en p m c cX4_value 4 s args RX4 D g := E
  have hx := E.1.1
  have hb := E.1.2.1
  have hl : lv_has ls 4 [(0, .ref (a 0)), (1, .int x91), (2, .int x92), (3, .int x93)] := hl
  have h : ((bt0 st (f4_needIndex x92 (4 : Int32)) fun (u2 : Unit) => (bt0 st (f4_needIndex x93 (4 : Int32)) fun (u5 : Unit) => (bt2 (f4_needMatcher st x91) fun st8 u9 => (bi1 (f4_valueOf st8 x92 x93) fun r11 => some (st8, .inr r11))))) : Option (CS × (Nat ⊕ Int32))) = some (st', .inl e') := h
  refine lv_iload_n hx hb dX4_value_0 rfl (lv_at hl 2 rfl) ?_
  refine lv_iconst (v := (4 : Int32)) hx hb dX4_value_1 (by decide) ?_
  rcases bt0t h with ⟨hc1, hs3⟩ | ⟨u2, hc1, h⟩
  · subst hs3
    exact r_thrS (As := [.int x92, .int (4 : Int32)]) (rest := []) hQ xw hex hlk E I hl.1 k4_53 (t4_needIndex hl0 hc1) rfl rfl (Nat.le_of_ble_eq_true rfl) ⟨Nat.le_of_ble_eq_true rfl, Nat.le_of_ble_eq_true rfl⟩ ⟨Nat.le_refl _, Nat.le_refl _⟩ dX4_value_2
  refine r_callS0 (As := [.int x92, .int (4 : Int32)]) (rest := []) E I hl.1 k4_53 (c4_needIndex hc1) rfl rfl (Nat.le_of_ble_eq_true rfl) ⟨Nat.le_of_ble_eq_true rfl, Nat.le_of_ble_eq_true rfl⟩ ⟨Nat.zero_le _, Nat.zero_le _⟩ dX4_value_2 (fun H locs I => ?_)
  refine lv_iload_n hx hb dX4_value_5 rfl (lv_at hl 3 rfl) ?_
  refine lv_iconst (v := (4 : Int32)) hx hb dX4_value_6 (by decide) ?_
  rcases bt0t h with ⟨hc4, hs6⟩ | ⟨u5, hc4, h⟩
  · subst hs6
    exact r_thrS (As := [.int x93, .int (4 : Int32)]) (rest := []) hQ xw hex hlk E I hl.1 k4_53 (t4_needIndex hl0 hc4) rfl rfl (Nat.le_of_ble_eq_true rfl) ⟨Nat.le_of_ble_eq_true rfl, Nat.le_of_ble_eq_true rfl⟩ ⟨Nat.le_refl _, Nat.le_refl _⟩ dX4_value_7
  refine r_callS0 (As := [.int x93, .int (4 : Int32)]) (rest := []) E I hl.1 k4_53 (c4_needIndex hc4) rfl rfl (Nat.le_of_ble_eq_true rfl) ⟨Nat.le_of_ble_eq_true rfl, Nat.le_of_ble_eq_true rfl⟩ ⟨Nat.zero_le _, Nat.zero_le _⟩ dX4_value_7 (fun H locs I => ?_)
  refine lv_aload_n hx hb dX4_value_10 rfl (lv_at hl 0 rfl) ?_
  refine lv_iload_n hx hb dX4_value_11 rfl (lv_at hl 1 rfl) ?_
  rcases bt2t h with hc7 | ⟨st8, u9, hc7, h⟩
  · exact r_thrV (As := [.int x91]) (rest := []) (q0 := 0) hQ xw hex hlk E I hl.1 k4_69 (t4_needMatcher hl0 hc7) rfl rfl rfl rfl (Nat.le_of_ble_eq_true rfl) ⟨Nat.le_of_ble_eq_true rfl, Nat.le_of_ble_eq_true rfl⟩ ⟨Nat.le_refl _, Nat.le_refl _⟩ dX4_value_12
  refine r_callV0 (As := [.int x91]) (rest := []) (ws' := (cW g a st8)) (q0 := 0) E I hl.1 k4_69 (c4_needMatcher hc7) cW_k rfl rfl rfl rfl (Nat.le_of_ble_eq_true rfl) ⟨Nat.le_of_ble_eq_true rfl, Nat.le_of_ble_eq_true rfl⟩ ⟨Nat.zero_le _, Nat.zero_le _⟩ dX4_value_12 (fun H locs I => ?_)
  refine lv_aload_n hx hb dX4_value_15 rfl (lv_at hl 0 rfl) ?_
  refine lv_iload_n hx hb dX4_value_16 rfl (lv_at hl 2 rfl) ?_
  refine lv_iload_n hx hb dX4_value_17 rfl (lv_at hl 3 rfl) ?_
  obtain ⟨r11, hc10, h⟩ := bx1 h
  refine r_callV1 (As := [.int x92, .int x93]) (rest := []) (ws' := (cW g a st8)) (q0 := 0) E I hl.1 k4_161 (c4_valueOf hc10) cW_k rfl rfl rfl rfl (Nat.le_of_ble_eq_true rfl) ⟨Nat.le_of_ble_eq_true rfl, Nat.le_of_ble_eq_true rfl⟩ ⟨Nat.zero_le _, Nat.zero_le _⟩ dX4_value_18 (fun H locs I => ?_)
  cases h
set_option maxHeartbeats 4000000 in
set_option maxRecDepth 100000 in
theorem t4_least {l : Launch} {D : va_G} {g : Nat → ClassId} {a : Nat → Nat} {st : CS} {x91 : Int32} {x92 : Int32} {st' : CS} {e' : Nat} (hl0 : l.stackTraces = false) (h : f4_least st x91 x92 = some (st', .inl e')) : cx l yX4_least cX4_least 3 (some .int) (rmx 7 103) D g (cW g a st) (cW g a st') [.ref (a 0), .int x91, .int x92] (exN e') := by
  refine cx_of (by decide) (Nat.le_of_ble_eq_true rfl) ?_
  intro p e s m args below meth c ls Q A H locs E I hl hQ xw hex hlk
  have E : en p m c cX4_least 3 s args RX4 D g := E
  have hx := E.1.1
  have hb := E.1.2.1
  have hl : lv_has ls 3 [(0, .ref (a 0)), (1, .int x91), (2, .int x92)] := hl
  have h : ((bt0 st (f4_needIndex x92 (4 : Int32)) fun (u2 : Unit) => (if 0 ≤ x91 then (bi1 (f2_prepare st) fun st6 => (bi1 (f2_number st6 x91 x92) fun r8 => some (st6, .inr r8))) else some (st, .inl 1))) : Option (CS × (Nat ⊕ Int32))) = some (st', .inl e') := h
  refine lv_iload_n hx hb dX4_least_0 rfl (lv_at hl 2 rfl) ?_
  refine lv_iconst (v := (4 : Int32)) hx hb dX4_least_1 (by decide) ?_
  rcases bt0t h with ⟨hc1, hs3⟩ | ⟨u2, hc1, h⟩
  · subst hs3
    exact r_thrS (As := [.int x92, .int (4 : Int32)]) (rest := []) hQ xw hex hlk E I hl.1 k4_53 (t4_needIndex hl0 hc1) rfl rfl (Nat.le_of_ble_eq_true rfl) ⟨Nat.le_of_ble_eq_true rfl, Nat.le_of_ble_eq_true rfl⟩ ⟨Nat.le_refl _, Nat.le_refl _⟩ dX4_least_2
  refine r_callS0 (As := [.int x92, .int (4 : Int32)]) (rest := []) E I hl.1 k4_53 (c4_needIndex hc1) rfl rfl (Nat.le_of_ble_eq_true rfl) ⟨Nat.le_of_ble_eq_true rfl, Nat.le_of_ble_eq_true rfl⟩ ⟨Nat.zero_le _, Nat.zero_le _⟩ dX4_least_2 (fun H locs I => ?_)
  refine lv_iload_n hx hb dX4_least_5 rfl (lv_at hl 1 rfl) ?_
  refine lv_if_ge (tgt := 19) hx hb dX4_least_6 (by decide) (fun hc4 => ?_) (fun hc4 => ?_)
  · have h := ifp hc4 h
    refine lv_aload_n hx hb dX4_least_19 rfl (lv_at hl 0 rfl) ?_
    refine g4_49 E I dX4_least_20 ?_
    refine lv_aload_n hx hb dX4_least_23 rfl (lv_at hl 0 rfl) ?_
    refine g4_9 E I dX4_least_24 ?_
    obtain ⟨st6, hc5, h⟩ := bx1 h
    refine r_callV0 (As := [.ref (a 1)]) (rest := []) (ws' := (cW g a st6)) (q0 := 8) E I hl.1 k4_166 (c2_prepare hc5) cW_k rfl rfl rfl rfl (Nat.le_of_ble_eq_true rfl) ⟨Nat.le_of_ble_eq_true rfl, Nat.le_of_ble_eq_true rfl⟩ ⟨Nat.zero_le _, Nat.zero_le _⟩ dX4_least_27 (fun H locs I => ?_)
    refine lv_aload_n hx hb dX4_least_30 rfl (lv_at hl 0 rfl) ?_
    refine g4_49 E I dX4_least_31 ?_
    refine lv_iload_n hx hb dX4_least_34 rfl (lv_at hl 1 rfl) ?_
    refine lv_iload_n hx hb dX4_least_35 rfl (lv_at hl 2 rfl) ?_
    obtain ⟨r8, hc7, h⟩ := bx1 h
    refine r_callV1 (As := [.int x91, .int x92]) (rest := []) (ws' := (cW g a st6)) (q0 := 8) E I hl.1 k4_167 (c2_number hc7) cW_k rfl rfl rfl rfl (Nat.le_of_ble_eq_true rfl) ⟨Nat.le_of_ble_eq_true rfl, Nat.le_of_ble_eq_true rfl⟩ ⟨Nat.zero_le _, Nat.zero_le _⟩ dX4_least_36 (fun H locs I => ?_)
    cases h
  · have h := ifn hc4 h
    cases h
    exact r_throw (is := 164) (text := "the place is below 0") (rest := []) hl0 hQ xw hex hlk E I hl.1 (k0 := 1) rfl xw4_116 (by simp [xS]) dX4_least_9 dX4_least_12 ⟨by decide, Nat.le_of_ble_eq_true rfl, Nat.le_refl _, Nat.le_refl _⟩ (Or.inl ⟨dX4_least_13, dX4_least_15, dX4_least_18⟩)
set_option maxHeartbeats 4000000 in
set_option maxRecDepth 100000 in
theorem t4_sums {l : Launch} {D : va_G} {g : Nat → ClassId} {a : Nat → Nat} {st : CS} {x91 : Int32} {x92 : Int32} {x93 : Int32} {x94 : Int32} {st' : CS} {e' : Nat} (hl0 : l.stackTraces = false) (h : f4_sums st x91 x92 x93 x94 = some (st', .inl e')) : cx l yX4_sums cX4_sums 5 (some .int) (rmx 7 104) D g (cW g a st) (cW g a st') [.ref (a 0), .int x91, .int x92, .int x93, .int x94] (exN e') := by
  refine cx_of (by decide) (Nat.le_of_ble_eq_true rfl) ?_
  intro p e s m args below meth c ls Q A H locs E I hl hQ xw hex hlk
  have E : en p m c cX4_sums 5 s args RX4 D g := E
  have hx := E.1.1
  have hb := E.1.2.1
  have hl : lv_has ls 5 [(0, .ref (a 0)), (1, .int x91), (2, .int x92), (3, .int x93), (4, .int x94)] := hl
  have h : ((bt0 st (f4_needNumber x91 (0 : Int32) (6 : Int32)) fun (u2 : Unit) => (bt0 st (f4_needNumber x92 (0 : Int32) (6 : Int32)) fun (u5 : Unit) => (bt0 st (f4_needNumber x93 (0 : Int32) (6 : Int32)) fun (u8 : Unit) => (bt0 st (f4_needNumber x94 (0 : Int32) (6 : Int32)) fun (u11 : Unit) => (bi1 (f2_prepare st) fun st14 => (bi2 (f2_waysToSum st14 x91 x92 x93 x94) fun st16 r17 => some (st16, .inr r17))))))) : Option (CS × (Nat ⊕ Int32))) = some (st', .inl e') := h
  refine lv_iload_n hx hb dX4_sums_0 rfl (lv_at hl 1 rfl) ?_
  refine lv_iconst (v := (0 : Int32)) hx hb dX4_sums_1 (by decide) ?_
  refine lv_bipush (v := (6 : Int32)) hx hb dX4_sums_2 (by decide) ?_
  rcases bt0t h with ⟨hc1, hs3⟩ | ⟨u2, hc1, h⟩
  · subst hs3
    exact r_thrS (As := [.int x91, .int (0 : Int32), .int (6 : Int32)]) (rest := []) hQ xw hex hlk E I hl.1 k4_57 (t4_needNumber hl0 hc1) rfl rfl (Nat.le_of_ble_eq_true rfl) ⟨Nat.le_of_ble_eq_true rfl, Nat.le_of_ble_eq_true rfl⟩ ⟨Nat.le_refl _, Nat.le_refl _⟩ dX4_sums_4
  refine r_callS0 (As := [.int x91, .int (0 : Int32), .int (6 : Int32)]) (rest := []) E I hl.1 k4_57 (c4_needNumber hc1) rfl rfl (Nat.le_of_ble_eq_true rfl) ⟨Nat.le_of_ble_eq_true rfl, Nat.le_of_ble_eq_true rfl⟩ ⟨Nat.zero_le _, Nat.zero_le _⟩ dX4_sums_4 (fun H locs I => ?_)
  refine lv_iload_n hx hb dX4_sums_7 rfl (lv_at hl 2 rfl) ?_
  refine lv_iconst (v := (0 : Int32)) hx hb dX4_sums_8 (by decide) ?_
  refine lv_bipush (v := (6 : Int32)) hx hb dX4_sums_9 (by decide) ?_
  rcases bt0t h with ⟨hc4, hs6⟩ | ⟨u5, hc4, h⟩
  · subst hs6
    exact r_thrS (As := [.int x92, .int (0 : Int32), .int (6 : Int32)]) (rest := []) hQ xw hex hlk E I hl.1 k4_57 (t4_needNumber hl0 hc4) rfl rfl (Nat.le_of_ble_eq_true rfl) ⟨Nat.le_of_ble_eq_true rfl, Nat.le_of_ble_eq_true rfl⟩ ⟨Nat.le_refl _, Nat.le_refl _⟩ dX4_sums_11
  refine r_callS0 (As := [.int x92, .int (0 : Int32), .int (6 : Int32)]) (rest := []) E I hl.1 k4_57 (c4_needNumber hc4) rfl rfl (Nat.le_of_ble_eq_true rfl) ⟨Nat.le_of_ble_eq_true rfl, Nat.le_of_ble_eq_true rfl⟩ ⟨Nat.zero_le _, Nat.zero_le _⟩ dX4_sums_11 (fun H locs I => ?_)
  refine lv_iload_n hx hb dX4_sums_14 rfl (lv_at hl 3 rfl) ?_
  refine lv_iconst (v := (0 : Int32)) hx hb dX4_sums_15 (by decide) ?_
  refine lv_bipush (v := (6 : Int32)) hx hb dX4_sums_16 (by decide) ?_
  rcases bt0t h with ⟨hc7, hs9⟩ | ⟨u8, hc7, h⟩
  · subst hs9
    exact r_thrS (As := [.int x93, .int (0 : Int32), .int (6 : Int32)]) (rest := []) hQ xw hex hlk E I hl.1 k4_57 (t4_needNumber hl0 hc7) rfl rfl (Nat.le_of_ble_eq_true rfl) ⟨Nat.le_of_ble_eq_true rfl, Nat.le_of_ble_eq_true rfl⟩ ⟨Nat.le_refl _, Nat.le_refl _⟩ dX4_sums_18
  refine r_callS0 (As := [.int x93, .int (0 : Int32), .int (6 : Int32)]) (rest := []) E I hl.1 k4_57 (c4_needNumber hc7) rfl rfl (Nat.le_of_ble_eq_true rfl) ⟨Nat.le_of_ble_eq_true rfl, Nat.le_of_ble_eq_true rfl⟩ ⟨Nat.zero_le _, Nat.zero_le _⟩ dX4_sums_18 (fun H locs I => ?_)
  refine lv_iload hx hb dX4_sums_21 (lv_at hl 4 rfl) ?_
  refine lv_iconst (v := (0 : Int32)) hx hb dX4_sums_23 (by decide) ?_
  refine lv_bipush (v := (6 : Int32)) hx hb dX4_sums_24 (by decide) ?_
  rcases bt0t h with ⟨hc10, hs12⟩ | ⟨u11, hc10, h⟩
  · subst hs12
    exact r_thrS (As := [.int x94, .int (0 : Int32), .int (6 : Int32)]) (rest := []) hQ xw hex hlk E I hl.1 k4_57 (t4_needNumber hl0 hc10) rfl rfl (Nat.le_of_ble_eq_true rfl) ⟨Nat.le_of_ble_eq_true rfl, Nat.le_of_ble_eq_true rfl⟩ ⟨Nat.le_refl _, Nat.le_refl _⟩ dX4_sums_26
  refine r_callS0 (As := [.int x94, .int (0 : Int32), .int (6 : Int32)]) (rest := []) E I hl.1 k4_57 (c4_needNumber hc10) rfl rfl (Nat.le_of_ble_eq_true rfl) ⟨Nat.le_of_ble_eq_true rfl, Nat.le_of_ble_eq_true rfl⟩ ⟨Nat.zero_le _, Nat.zero_le _⟩ dX4_sums_26 (fun H locs I => ?_)
  refine lv_aload_n hx hb dX4_sums_29 rfl (lv_at hl 0 rfl) ?_
  refine g4_49 E I dX4_sums_30 ?_
  refine lv_aload_n hx hb dX4_sums_33 rfl (lv_at hl 0 rfl) ?_
  refine g4_9 E I dX4_sums_34 ?_
  obtain ⟨st14, hc13, h⟩ := bx1 h
  refine r_callV0 (As := [.ref (a 1)]) (rest := []) (ws' := (cW g a st14)) (q0 := 8) E I hl.1 k4_166 (c2_prepare hc13) cW_k rfl rfl rfl rfl (Nat.le_of_ble_eq_true rfl) ⟨Nat.le_of_ble_eq_true rfl, Nat.le_of_ble_eq_true rfl⟩ ⟨Nat.zero_le _, Nat.zero_le _⟩ dX4_sums_37 (fun H locs I => ?_)
  refine lv_aload_n hx hb dX4_sums_40 rfl (lv_at hl 0 rfl) ?_
  refine g4_49 E I dX4_sums_41 ?_
  refine lv_iload_n hx hb dX4_sums_44 rfl (lv_at hl 1 rfl) ?_
  refine lv_iload_n hx hb dX4_sums_45 rfl (lv_at hl 2 rfl) ?_
  refine lv_iload_n hx hb dX4_sums_46 rfl (lv_at hl 3 rfl) ?_
  refine lv_iload hx hb dX4_sums_47 (lv_at hl 4 rfl) ?_
  obtain ⟨st16, r17, hc15, h⟩ := bx2 h
  refine r_callV1 (As := [.int x91, .int x92, .int x93, .int x94]) (rest := []) (ws' := (cW g a st16)) (q0 := 8) E I hl.1 k4_170 (c2_waysToSum hc15) cW_k rfl rfl rfl rfl (Nat.le_of_ble_eq_true rfl) ⟨Nat.le_of_ble_eq_true rfl, Nat.le_of_ble_eq_true rfl⟩ ⟨Nat.zero_le _, Nat.zero_le _⟩ dX4_sums_49 (fun H locs I => ?_)
  cases h
set_option maxHeartbeats 4000000 in
set_option maxRecDepth 100000 in
theorem t4_count {l : Launch} {D : va_G} {g : Nat → ClassId} {a : Nat → Nat} {st : CS} {x91 : Int32} {st' : CS} {e' : Nat} (hl0 : l.stackTraces = false) (h : f4_count st x91 = some (st', .inl e')) : cx l yX4_count cX4_count 2 (some .int) (rmx 7 104) D g (cW g a st) (cW g a st') [.ref (a 0), .int x91] (exN e') := by
  refine cx_of (by decide) (Nat.le_of_ble_eq_true rfl) ?_
  intro p e s m args below meth c ls Q A H locs E I hl hQ xw hex hlk
  have E : en p m c cX4_count 2 s args RX4 D g := E
  have hx := E.1.1
  have hb := E.1.2.1
  have hl : lv_has ls 2 [(0, .ref (a 0)), (1, .int x91)] := hl
  have h : ((bt0 st (f4_needNumber x91 (0 : Int32) (10 : Int32)) fun (u2 : Unit) => (bi1 (f2_prepare st) fun st5 => (if x91 = 0 then (bi1 (f4_factorsOf st5 x91) fun r8 => some (st5, .inr r8)) else (if x91 = 1 then (bi1 (f4_factorsOf st5 x91) fun r11 => some (st5, .inr r11)) else (if x91 = 2 then (bi1 (f4_factorsOf st5 x91) fun r14 => some (st5, .inr r14)) else (if x91 = 3 then (bi1 (f4_unlikeVariables st5) fun r17 => some (st5, .inr r17)) else (if x91 = 4 then some (st5, .inr (f2_size st5)) else (if x91 = 5 then (bi1 (f2_greatestSum st5) fun r21 => some (st5, .inr r21)) else (if x91 = 6 then (bi1 (f4_restsBelowZero st5) fun r24 => some (st5, .inr r24)) else (if x91 = 7 then (bi1 (f4_patternsAreSame st5) fun r27 => some (st5, .inr (if r27 = 0 then (0 : Int32) else (1 : Int32)))) else (if x91 = 8 then (bi1 (f4_commonFactors st5) fun r34 => some (st5, .inr r34)) else (if x91 = 9 then some (st5, .inr ((if ((c_taken st5) (0 : Int32).toNatClampNeg) = 0 then (0 : Int32) else (1 : Int32)) + (if ((c_taken st5) (1 : Int32).toNatClampNeg) = 0 then (0 : Int32) else (1 : Int32)))) else some (st5, .inr (f1_size st5)))))))))))))) : Option (CS × (Nat ⊕ Int32))) = some (st', .inl e') := h
  refine lv_iload_n hx hb dX4_count_0 rfl (lv_at hl 1 rfl) ?_
  refine lv_iconst (v := (0 : Int32)) hx hb dX4_count_1 (by decide) ?_
  refine lv_bipush (v := (10 : Int32)) hx hb dX4_count_2 (by decide) ?_
  rcases bt0t h with ⟨hc1, hs3⟩ | ⟨u2, hc1, h⟩
  · subst hs3
    exact r_thrS (As := [.int x91, .int (0 : Int32), .int (10 : Int32)]) (rest := []) hQ xw hex hlk E I hl.1 k4_57 (t4_needNumber hl0 hc1) rfl rfl (Nat.le_of_ble_eq_true rfl) ⟨Nat.le_of_ble_eq_true rfl, Nat.le_of_ble_eq_true rfl⟩ ⟨Nat.le_refl _, Nat.le_refl _⟩ dX4_count_4
  refine r_callS0 (As := [.int x91, .int (0 : Int32), .int (10 : Int32)]) (rest := []) E I hl.1 k4_57 (c4_needNumber hc1) rfl rfl (Nat.le_of_ble_eq_true rfl) ⟨Nat.le_of_ble_eq_true rfl, Nat.le_of_ble_eq_true rfl⟩ ⟨Nat.zero_le _, Nat.zero_le _⟩ dX4_count_4 (fun H locs I => ?_)
  refine lv_aload_n hx hb dX4_count_7 rfl (lv_at hl 0 rfl) ?_
  refine g4_49 E I dX4_count_8 ?_
  refine lv_aload_n hx hb dX4_count_11 rfl (lv_at hl 0 rfl) ?_
  refine g4_9 E I dX4_count_12 ?_
  obtain ⟨st5, hc4, h⟩ := bx1 h
  refine r_callV0 (As := [.ref (a 1)]) (rest := []) (ws' := (cW g a st5)) (q0 := 8) E I hl.1 k4_166 (c2_prepare hc4) cW_k rfl rfl rfl rfl (Nat.le_of_ble_eq_true rfl) ⟨Nat.le_of_ble_eq_true rfl, Nat.le_of_ble_eq_true rfl⟩ ⟨Nat.zero_le _, Nat.zero_le _⟩ dX4_count_15 (fun H locs I => ?_)
  refine lv_iload_n hx hb dX4_count_18 rfl (lv_at hl 1 rfl) ?_
  by_cases hk6 : x91 = 0
  · have h := ifp hk6 h
    refine lv_tableIn (tgt := 72) hx hb dX4_count_19 (by rw [hk6]; decide) (by rw [hk6]; decide) (by rw [hk6]; rfl) (by decide) ?_
    refine lv_aload_n hx hb dX4_count_72 rfl (lv_at hl 0 rfl) ?_
    refine lv_iload_n hx hb dX4_count_73 rfl (lv_at hl 1 rfl) ?_
    obtain ⟨r8, hc7, h⟩ := bx1 h
    refine r_callV1 (As := [.int x91]) (rest := []) (ws' := (cW g a st5)) (q0 := 0) E I hl.1 k4_174 (c4_factorsOf hc7) cW_k rfl rfl rfl rfl (Nat.le_of_ble_eq_true rfl) ⟨Nat.le_of_ble_eq_true rfl, Nat.le_of_ble_eq_true rfl⟩ ⟨Nat.zero_le _, Nat.zero_le _⟩ dX4_count_74 (fun H locs I => ?_)
    cases h
  · have h := ifn hk6 h
    by_cases hk9 : x91 = 1
    · have h := ifp hk9 h
      refine lv_tableIn (tgt := 72) hx hb dX4_count_19 (by rw [hk9]; decide) (by rw [hk9]; decide) (by rw [hk9]; rfl) (by decide) ?_
      refine lv_aload_n hx hb dX4_count_72 rfl (lv_at hl 0 rfl) ?_
      refine lv_iload_n hx hb dX4_count_73 rfl (lv_at hl 1 rfl) ?_
      obtain ⟨r11, hc10, h⟩ := bx1 h
      refine r_callV1 (As := [.int x91]) (rest := []) (ws' := (cW g a st5)) (q0 := 0) E I hl.1 k4_174 (c4_factorsOf hc10) cW_k rfl rfl rfl rfl (Nat.le_of_ble_eq_true rfl) ⟨Nat.le_of_ble_eq_true rfl, Nat.le_of_ble_eq_true rfl⟩ ⟨Nat.zero_le _, Nat.zero_le _⟩ dX4_count_74 (fun H locs I => ?_)
      cases h
    · have h := ifn hk9 h
      by_cases hk12 : x91 = 2
      · have h := ifp hk12 h
        refine lv_tableIn (tgt := 72) hx hb dX4_count_19 (by rw [hk12]; decide) (by rw [hk12]; decide) (by rw [hk12]; rfl) (by decide) ?_
        refine lv_aload_n hx hb dX4_count_72 rfl (lv_at hl 0 rfl) ?_
        refine lv_iload_n hx hb dX4_count_73 rfl (lv_at hl 1 rfl) ?_
        obtain ⟨r14, hc13, h⟩ := bx1 h
        refine r_callV1 (As := [.int x91]) (rest := []) (ws' := (cW g a st5)) (q0 := 0) E I hl.1 k4_174 (c4_factorsOf hc13) cW_k rfl rfl rfl rfl (Nat.le_of_ble_eq_true rfl) ⟨Nat.le_of_ble_eq_true rfl, Nat.le_of_ble_eq_true rfl⟩ ⟨Nat.zero_le _, Nat.zero_le _⟩ dX4_count_74 (fun H locs I => ?_)
        cases h
      · have h := ifn hk12 h
        by_cases hk15 : x91 = 3
        · have h := ifp hk15 h
          refine lv_tableIn (tgt := 78) hx hb dX4_count_19 (by rw [hk15]; decide) (by rw [hk15]; decide) (by rw [hk15]; rfl) (by decide) ?_
          refine lv_aload_n hx hb dX4_count_78 rfl (lv_at hl 0 rfl) ?_
          obtain ⟨r17, hc16, h⟩ := bx1 h
          refine r_callV1 (As := []) (rest := []) (ws' := (cW g a st5)) (q0 := 0) E I hl.1 k4_177 (c4_unlikeVariables hc16) cW_k rfl rfl rfl rfl (Nat.le_of_ble_eq_true rfl) ⟨Nat.le_of_ble_eq_true rfl, Nat.le_of_ble_eq_true rfl⟩ ⟨Nat.zero_le _, Nat.zero_le _⟩ dX4_count_79 (fun H locs I => ?_)
          cases h
        · have h := ifn hk15 h
          by_cases hk18 : x91 = 4
          · have h := ifp hk18 h
            refine lv_tableIn (tgt := 83) hx hb dX4_count_19 (by rw [hk18]; decide) (by rw [hk18]; decide) (by rw [hk18]; rfl) (by decide) ?_
            refine lv_aload_n hx hb dX4_count_83 rfl (lv_at hl 0 rfl) ?_
            refine g4_49 E I dX4_count_84 ?_
            refine r_callV1 (As := []) (rest := []) (ws' := (cW g a st5)) (q0 := 8) E I hl.1 k4_180 (c2_size rfl) cW_k rfl rfl rfl rfl (Nat.le_of_ble_eq_true rfl) ⟨Nat.le_of_ble_eq_true rfl, Nat.le_of_ble_eq_true rfl⟩ ⟨Nat.zero_le _, Nat.zero_le _⟩ dX4_count_87 (fun H locs I => ?_)
            cases h
          · have h := ifn hk18 h
            by_cases hk19 : x91 = 5
            · have h := ifp hk19 h
              refine lv_tableIn (tgt := 91) hx hb dX4_count_19 (by rw [hk19]; decide) (by rw [hk19]; decide) (by rw [hk19]; rfl) (by decide) ?_
              refine lv_aload_n hx hb dX4_count_91 rfl (lv_at hl 0 rfl) ?_
              refine g4_49 E I dX4_count_92 ?_
              obtain ⟨r21, hc20, h⟩ := bx1 h
              refine r_callV1 (As := []) (rest := []) (ws' := (cW g a st5)) (q0 := 8) E I hl.1 k4_181 (c2_greatestSum hc20) cW_k rfl rfl rfl rfl (Nat.le_of_ble_eq_true rfl) ⟨Nat.le_of_ble_eq_true rfl, Nat.le_of_ble_eq_true rfl⟩ ⟨Nat.zero_le _, Nat.zero_le _⟩ dX4_count_95 (fun H locs I => ?_)
              cases h
            · have h := ifn hk19 h
              by_cases hk22 : x91 = 6
              · have h := ifp hk22 h
                refine lv_tableIn (tgt := 99) hx hb dX4_count_19 (by rw [hk22]; decide) (by rw [hk22]; decide) (by rw [hk22]; rfl) (by decide) ?_
                refine lv_aload_n hx hb dX4_count_99 rfl (lv_at hl 0 rfl) ?_
                obtain ⟨r24, hc23, h⟩ := bx1 h
                refine r_callV1 (As := []) (rest := []) (ws' := (cW g a st5)) (q0 := 0) E I hl.1 k4_184 (c4_restsBelowZero hc23) cW_k rfl rfl rfl rfl (Nat.le_of_ble_eq_true rfl) ⟨Nat.le_of_ble_eq_true rfl, Nat.le_of_ble_eq_true rfl⟩ ⟨Nat.zero_le _, Nat.zero_le _⟩ dX4_count_100 (fun H locs I => ?_)
                cases h
              · have h := ifn hk22 h
                by_cases hk25 : x91 = 7
                · have h := ifp hk25 h
                  refine lv_tableIn (tgt := 104) hx hb dX4_count_19 (by rw [hk25]; decide) (by rw [hk25]; decide) (by rw [hk25]; rfl) (by decide) ?_
                  refine lv_aload_n hx hb dX4_count_104 rfl (lv_at hl 0 rfl) ?_
                  obtain ⟨r27, hc26, h⟩ := bx1 h
                  refine r_callV1 (As := []) (rest := []) (ws' := (cW g a st5)) (q0 := 0) E I hl.1 k4_187 (c4_patternsAreSame hc26) cW_k rfl rfl rfl rfl (Nat.le_of_ble_eq_true rfl) ⟨Nat.le_of_ble_eq_true rfl, Nat.le_of_ble_eq_true rfl⟩ ⟨Nat.zero_le _, Nat.zero_le _⟩ dX4_count_105 (fun H locs I => ?_)
                  have J29 : ∀ (v28 : Int32) (H : Heap) (locs : List Loc), v28 = (if r27 = 0 then (0 : Int32) else (1 : Int32)) → wk D (cW g a st5) A s.heap H locs → W p l e (rmx 7 104) s m args below meth c H locs 0 0 Q (F0 m 116 ls [.int v28]) := by
                    intro v28 H locs hv30 I
                    subst hv30
                    cases h
                  refine lv_if_eq (tgt := 115) hx hb dX4_count_108 (by decide) (fun hc31 => ?_) (fun hc31 => ?_)
                  · refine lv_iconst (v := (0 : Int32)) hx hb dX4_count_115 (by decide) ?_
                    exact J29 _ _ _ (by rw [if_pos hc31]) I
                  · refine lv_iconst (v := (1 : Int32)) hx hb dX4_count_111 (by decide) ?_
                    refine lv_goto (tgt := 116) hx hb dX4_count_112 (by decide) ?_
                    exact J29 _ _ _ (by rw [if_neg hc31]) I
                · have h := ifn hk25 h
                  by_cases hk32 : x91 = 8
                  · have h := ifp hk32 h
                    refine lv_tableIn (tgt := 117) hx hb dX4_count_19 (by rw [hk32]; decide) (by rw [hk32]; decide) (by rw [hk32]; rfl) (by decide) ?_
                    refine lv_aload_n hx hb dX4_count_117 rfl (lv_at hl 0 rfl) ?_
                    obtain ⟨r34, hc33, h⟩ := bx1 h
                    refine r_callV1 (As := []) (rest := []) (ws' := (cW g a st5)) (q0 := 0) E I hl.1 k4_190 (c4_commonFactors hc33) cW_k rfl rfl rfl rfl (Nat.le_of_ble_eq_true rfl) ⟨Nat.le_of_ble_eq_true rfl, Nat.le_of_ble_eq_true rfl⟩ ⟨Nat.zero_le _, Nat.zero_le _⟩ dX4_count_118 (fun H locs I => ?_)
                    cases h
                  · have h := ifn hk32 h
                    by_cases hk35 : x91 = 9
                    · have h := ifp hk35 h
                      refine lv_tableIn (tgt := 122) hx hb dX4_count_19 (by rw [hk35]; decide) (by rw [hk35]; decide) (by rw [hk35]; rfl) (by decide) ?_
                      refine lv_aload_n hx hb dX4_count_122 rfl (lv_at hl 0 rfl) ?_
                      refine g4_21 E I dX4_count_123 ?_
                      refine lv_iconst (v := (0 : Int32)) hx hb dX4_count_126 (by decide) ?_
                      refine c_ld4 E I (f := (c_taken st5)) rfl (by decide) dX4_count_127 ?_
                      have J37 : ∀ (v36 : Int32) (H : Heap) (locs : List Loc), v36 = (if ((c_taken st5) (0 : Int32).toNatClampNeg) = 0 then (0 : Int32) else (1 : Int32)) → wk D (cW g a st5) A s.heap H locs → W p l e (rmx 7 104) s m args below meth c H locs 0 0 Q (F0 m 136 ls [.int v36]) := by
                        intro v36 H locs hv38 I
                        subst hv38
                        refine lv_aload_n hx hb dX4_count_136 rfl (lv_at hl 0 rfl) ?_
                        refine g4_21 E I dX4_count_137 ?_
                        refine lv_iconst (v := (1 : Int32)) hx hb dX4_count_140 (by decide) ?_
                        refine c_ld4 E I (f := (c_taken st5)) rfl (by decide) dX4_count_141 ?_
                        have J40 : ∀ (v39 : Int32) (H : Heap) (locs : List Loc), v39 = (if ((c_taken st5) (1 : Int32).toNatClampNeg) = 0 then (0 : Int32) else (1 : Int32)) → wk D (cW g a st5) A s.heap H locs → W p l e (rmx 7 104) s m args below meth c H locs 0 0 Q (F0 m 150 ls [.int v39, .int (if ((c_taken st5) (0 : Int32).toNatClampNeg) = 0 then (0 : Int32) else (1 : Int32))]) := by
                          intro v39 H locs hv41 I
                          subst hv41
                          refine lv_iadd hx hb dX4_count_150 ?_
                          cases h
                        refine lv_if_eq (tgt := 149) hx hb dX4_count_142 (by decide) (fun hc42 => ?_) (fun hc42 => ?_)
                        · refine lv_iconst (v := (0 : Int32)) hx hb dX4_count_149 (by decide) ?_
                          exact J40 _ _ _ (by rw [if_pos hc42]) I
                        · refine lv_iconst (v := (1 : Int32)) hx hb dX4_count_145 (by decide) ?_
                          refine lv_goto (tgt := 150) hx hb dX4_count_146 (by decide) ?_
                          exact J40 _ _ _ (by rw [if_neg hc42]) I
                      refine lv_if_eq (tgt := 135) hx hb dX4_count_128 (by decide) (fun hc43 => ?_) (fun hc43 => ?_)
                      · refine lv_iconst (v := (0 : Int32)) hx hb dX4_count_135 (by decide) ?_
                        exact J37 _ _ _ (by rw [if_pos hc43]) I
                      · refine lv_iconst (v := (1 : Int32)) hx hb dX4_count_131 (by decide) ?_
                        refine lv_goto (tgt := 136) hx hb dX4_count_132 (by decide) ?_
                        exact J37 _ _ _ (by rw [if_neg hc43]) I
                    · have h := ifn hk35 h
                      refine lv_tableOut (tgt := 152) hx hb dX4_count_19 (sw_out9 (fun k hk => by rcases (show k = 0 ∨ k = 1 ∨ k = 2 ∨ k = 3 ∨ k = 4 ∨ k = 5 ∨ k = 6 ∨ k = 7 ∨ k = 8 ∨ k = 9 by omega) with rfl | rfl | rfl | rfl | rfl | rfl | rfl | rfl | rfl | rfl <;> assumption)) (by decide) ?_
                      refine lv_aload_n hx hb dX4_count_152 rfl (lv_at hl 0 rfl) ?_
                      refine g4_28 E I dX4_count_153 ?_
                      refine r_callV1 (As := []) (rest := []) (ws' := (cW g a st5)) (q0 := 5) E I hl.1 k4_136 (c1_size rfl) cW_k rfl rfl rfl rfl (Nat.le_of_ble_eq_true rfl) ⟨Nat.le_of_ble_eq_true rfl, Nat.le_of_ble_eq_true rfl⟩ ⟨Nat.zero_le _, Nat.zero_le _⟩ dX4_count_156 (fun H locs I => ?_)
                      cases h
set_option maxHeartbeats 4000000 in
set_option maxRecDepth 100000 in
theorem t4_setting {l : Launch} {D : va_G} {g : Nat → ClassId} {a : Nat → Nat} {st : CS} {x91 : Int32} {st' : CS} {e' : Nat} (hl0 : l.stackTraces = false) (h : f4_setting st x91 = some (st', .inl e')) : cx l yX4_setting cX4_setting 2 (some .int) (rmx 7 103) D g (cW g a st) (cW g a st') [.ref (a 0), .int x91] (exN e') := by
  refine cx_of (by decide) (Nat.le_of_ble_eq_true rfl) ?_
  intro p e s m args below meth c ls Q A H locs E I hl hQ xw hex hlk
  have E : en p m c cX4_setting 2 s args RX4 D g := E
  have hx := E.1.1
  have hb := E.1.2.1
  have hl : lv_has ls 2 [(0, .ref (a 0)), (1, .int x91)] := hl
  have h : ((bt0 st (f4_needIndex x91 (2 : Int32)) fun (u2 : Unit) => (if ib ((24 : Int32) + x91) 26 = true then some (st, .inr ((c_state st) ((24 : Int32) + x91).toNatClampNeg)) else none)) : Option (CS × (Nat ⊕ Int32))) = some (st', .inl e') := h
  refine lv_iload_n hx hb dX4_setting_0 rfl (lv_at hl 1 rfl) ?_
  refine lv_iconst (v := (2 : Int32)) hx hb dX4_setting_1 (by decide) ?_
  rcases bt0t h with ⟨hc1, hs3⟩ | ⟨u2, hc1, h⟩
  · subst hs3
    exact r_thrS (As := [.int x91, .int (2 : Int32)]) (rest := []) hQ xw hex hlk E I hl.1 k4_53 (t4_needIndex hl0 hc1) rfl rfl (Nat.le_of_ble_eq_true rfl) ⟨Nat.le_of_ble_eq_true rfl, Nat.le_of_ble_eq_true rfl⟩ ⟨Nat.le_refl _, Nat.le_refl _⟩ dX4_setting_2
  refine r_callS0 (As := [.int x91, .int (2 : Int32)]) (rest := []) E I hl.1 k4_53 (c4_needIndex hc1) rfl rfl (Nat.le_of_ble_eq_true rfl) ⟨Nat.le_of_ble_eq_true rfl, Nat.le_of_ble_eq_true rfl⟩ ⟨Nat.zero_le _, Nat.zero_le _⟩ dX4_setting_2 (fun H locs I => ?_)
  refine lv_aload_n hx hb dX4_setting_5 rfl (lv_at hl 0 rfl) ?_
  refine g4_9 E I dX4_setting_6 ?_
  refine lv_bipush (v := (24 : Int32)) hx hb dX4_setting_9 (by decide) ?_
  refine lv_iload_n hx hb dX4_setting_11 rfl (lv_at hl 1 rfl) ?_
  refine lv_iadd hx hb dX4_setting_12 ?_
  obtain ⟨hc4, h⟩ := gd h
  refine c_ld1 E I (f := (c_state st)) rfl hc4 dX4_setting_13 ?_
  cases h
set_option maxHeartbeats 4000000 in
set_option maxRecDepth 100000 in
theorem t4_ifMore {l : Launch} {D : va_G} {g : Nat → ClassId} {a : Nat → Nat} {st : CS} {x91 : Int32} {x92 : Int32} {st' : CS} {e' : Nat} (hl0 : l.stackTraces = false) (h : f4_ifMore st x91 x92 = some (st', .inl e')) : cx l yX4_ifMore cX4_ifMore 3 (some .long) (rmx 7 117) D g (cW g a st) (cW g a st') [.ref (a 0), .int x91, .int x92] (exN e') := by
  refine cx_of (by decide) (Nat.le_of_ble_eq_true rfl) ?_
  intro p e s m args below meth c ls Q A H locs E I hl hQ xw hex hlk
  have E : en p m c cX4_ifMore 3 s args RX4 D g := E
  have hx := E.1.1
  have hb := E.1.2.1
  have hl : lv_has ls 3 [(0, .ref (a 0)), (1, .int x91), (2, .int x92)] := hl
  have h : ((bt0 st (f4_needIndex x91 (4 : Int32)) fun (u2 : Unit) => (bt0 st (f4_needNumber x92 (-9 : Int32) (9 : Int32)) fun (u5 : Unit) => (bi1 (f0_prepare st) fun st8 => (bi1 (f4_restOf st8 x91) fun r10 => (bi2 (f0_bySetsIfRest st8 x91 (r10 + x92)) fun st12 r13 => some (st12, .inr r13)))))) : Option (CS × (Nat ⊕ Int64))) = some (st', .inl e') := h
  refine lv_iload_n hx hb dX4_ifMore_0 rfl (lv_at hl 1 rfl) ?_
  refine lv_iconst (v := (4 : Int32)) hx hb dX4_ifMore_1 (by decide) ?_
  rcases bt0t h with ⟨hc1, hs3⟩ | ⟨u2, hc1, h⟩
  · subst hs3
    exact r_thrS (As := [.int x91, .int (4 : Int32)]) (rest := []) hQ xw hex hlk E I hl.1 k4_53 (t4_needIndex hl0 hc1) rfl rfl (Nat.le_of_ble_eq_true rfl) ⟨Nat.le_of_ble_eq_true rfl, Nat.le_of_ble_eq_true rfl⟩ ⟨Nat.le_refl _, Nat.le_refl _⟩ dX4_ifMore_2
  refine r_callS0 (As := [.int x91, .int (4 : Int32)]) (rest := []) E I hl.1 k4_53 (c4_needIndex hc1) rfl rfl (Nat.le_of_ble_eq_true rfl) ⟨Nat.le_of_ble_eq_true rfl, Nat.le_of_ble_eq_true rfl⟩ ⟨Nat.zero_le _, Nat.zero_le _⟩ dX4_ifMore_2 (fun H locs I => ?_)
  refine lv_iload_n hx hb dX4_ifMore_5 rfl (lv_at hl 2 rfl) ?_
  refine lv_bipush (v := (-9 : Int32)) hx hb dX4_ifMore_6 (by decide) ?_
  refine lv_bipush (v := (9 : Int32)) hx hb dX4_ifMore_8 (by decide) ?_
  rcases bt0t h with ⟨hc4, hs6⟩ | ⟨u5, hc4, h⟩
  · subst hs6
    exact r_thrS (As := [.int x92, .int (-9 : Int32), .int (9 : Int32)]) (rest := []) hQ xw hex hlk E I hl.1 k4_57 (t4_needNumber hl0 hc4) rfl rfl (Nat.le_of_ble_eq_true rfl) ⟨Nat.le_of_ble_eq_true rfl, Nat.le_of_ble_eq_true rfl⟩ ⟨Nat.le_refl _, Nat.le_refl _⟩ dX4_ifMore_10
  refine r_callS0 (As := [.int x92, .int (-9 : Int32), .int (9 : Int32)]) (rest := []) E I hl.1 k4_57 (c4_needNumber hc4) rfl rfl (Nat.le_of_ble_eq_true rfl) ⟨Nat.le_of_ble_eq_true rfl, Nat.le_of_ble_eq_true rfl⟩ ⟨Nat.zero_le _, Nat.zero_le _⟩ dX4_ifMore_10 (fun H locs I => ?_)
  refine lv_aload_n hx hb dX4_ifMore_13 rfl (lv_at hl 0 rfl) ?_
  refine g4_42 E I dX4_ifMore_14 ?_
  refine lv_aload_n hx hb dX4_ifMore_17 rfl (lv_at hl 0 rfl) ?_
  refine g4_9 E I dX4_ifMore_18 ?_
  obtain ⟨st8, hc7, h⟩ := bx1 h
  refine r_callV0 (As := [.ref (a 1)]) (rest := []) (ws' := (cW g a st8)) (q0 := 7) E I hl.1 k4_148 (c0_prepare hc7) cW_k rfl rfl rfl rfl (Nat.le_of_ble_eq_true rfl) ⟨Nat.le_of_ble_eq_true rfl, Nat.le_of_ble_eq_true rfl⟩ ⟨Nat.zero_le _, Nat.zero_le _⟩ dX4_ifMore_21 (fun H locs I => ?_)
  refine lv_aload_n hx hb dX4_ifMore_24 rfl (lv_at hl 0 rfl) ?_
  refine g4_42 E I dX4_ifMore_25 ?_
  refine lv_iload_n hx hb dX4_ifMore_28 rfl (lv_at hl 1 rfl) ?_
  refine lv_aload_n hx hb dX4_ifMore_29 rfl (lv_at hl 0 rfl) ?_
  refine lv_iload_n hx hb dX4_ifMore_30 rfl (lv_at hl 1 rfl) ?_
  obtain ⟨r10, hc9, h⟩ := bx1 h
  refine r_callV1 (As := [.int x91]) (rest := [.int x91, .ref (a 7)]) (ws' := (cW g a st8)) (q0 := 0) E I hl.1 k4_145 (c4_restOf hc9) cW_k rfl rfl rfl rfl (Nat.le_of_ble_eq_true rfl) ⟨Nat.le_of_ble_eq_true rfl, Nat.le_of_ble_eq_true rfl⟩ ⟨Nat.zero_le _, Nat.zero_le _⟩ dX4_ifMore_31 (fun H locs I => ?_)
  refine lv_iload_n hx hb dX4_ifMore_34 rfl (lv_at hl 2 rfl) ?_
  refine lv_iadd hx hb dX4_ifMore_35 ?_
  obtain ⟨st12, r13, hc11, h⟩ := bx2 h
  refine r_callV1 (As := [.int x91, .int (r10 + x92)]) (rest := []) (ws' := (cW g a st12)) (q0 := 7) E I hl.1 k4_193 (c0_bySetsIfRest hc11) cW_k rfl rfl rfl rfl (Nat.le_of_ble_eq_true rfl) ⟨Nat.le_of_ble_eq_true rfl, Nat.le_of_ble_eq_true rfl⟩ ⟨Nat.zero_le _, Nat.zero_le _⟩ dX4_ifMore_36 (fun H locs I => ?_)
  cases h
set_option maxHeartbeats 4000000 in
set_option maxRecDepth 100000 in
theorem t4_ifRewritten {l : Launch} {D : va_G} {g : Nat → ClassId} {a : Nat → Nat} {st : CS} {x91 : Int32} {x92 : Int32} {st' : CS} {e' : Nat} (hl0 : l.stackTraces = false) (h : f4_ifRewritten st x91 x92 = some (st', .inl e')) : cx l yX4_ifRewritten cX4_ifRewritten 3 (some .int) (rmx 7 138) D g (cW g a st) (cW g a st') [.ref (a 0), .int x91, .int x92] (exN e') := by
  refine cx_of (by decide) (Nat.le_of_ble_eq_true rfl) ?_
  intro p e s m args below meth c ls Q A H locs E I hl hQ xw hex hlk
  have E : en p m c cX4_ifRewritten 3 s args RX4 D g := E
  have hx := E.1.1
  have hb := E.1.2.1
  have hl : lv_has ls 3 [(0, .ref (a 0)), (1, .int x91), (2, .int x92)] := hl
  have h : ((bt0 st (f4_needIndex x92 (4 : Int32)) fun (u2 : Unit) => (bt2 (f4_needMatcher st x91) fun st5 u6 => (bi1 (f4_hasForeignVariable st5) fun r8 => (if r8 = 0 then (bi1 (f4_rewritten st5 x92) fun r11 => some (st5, .inr r11)) else some (st5, .inr (-1 : Int32)))))) : Option (CS × (Nat ⊕ Int32))) = some (st', .inl e') := h
  refine lv_iload_n hx hb dX4_ifRewritten_0 rfl (lv_at hl 2 rfl) ?_
  refine lv_iconst (v := (4 : Int32)) hx hb dX4_ifRewritten_1 (by decide) ?_
  rcases bt0t h with ⟨hc1, hs3⟩ | ⟨u2, hc1, h⟩
  · subst hs3
    exact r_thrS (As := [.int x92, .int (4 : Int32)]) (rest := []) hQ xw hex hlk E I hl.1 k4_53 (t4_needIndex hl0 hc1) rfl rfl (Nat.le_of_ble_eq_true rfl) ⟨Nat.le_of_ble_eq_true rfl, Nat.le_of_ble_eq_true rfl⟩ ⟨Nat.le_refl _, Nat.le_refl _⟩ dX4_ifRewritten_2
  refine r_callS0 (As := [.int x92, .int (4 : Int32)]) (rest := []) E I hl.1 k4_53 (c4_needIndex hc1) rfl rfl (Nat.le_of_ble_eq_true rfl) ⟨Nat.le_of_ble_eq_true rfl, Nat.le_of_ble_eq_true rfl⟩ ⟨Nat.zero_le _, Nat.zero_le _⟩ dX4_ifRewritten_2 (fun H locs I => ?_)
  refine lv_aload_n hx hb dX4_ifRewritten_5 rfl (lv_at hl 0 rfl) ?_
  refine lv_iload_n hx hb dX4_ifRewritten_6 rfl (lv_at hl 1 rfl) ?_
  rcases bt2t h with hc4 | ⟨st5, u6, hc4, h⟩
  · exact r_thrV (As := [.int x91]) (rest := []) (q0 := 0) hQ xw hex hlk E I hl.1 k4_69 (t4_needMatcher hl0 hc4) rfl rfl rfl rfl (Nat.le_of_ble_eq_true rfl) ⟨Nat.le_of_ble_eq_true rfl, Nat.le_of_ble_eq_true rfl⟩ ⟨Nat.le_refl _, Nat.le_refl _⟩ dX4_ifRewritten_7
  refine r_callV0 (As := [.int x91]) (rest := []) (ws' := (cW g a st5)) (q0 := 0) E I hl.1 k4_69 (c4_needMatcher hc4) cW_k rfl rfl rfl rfl (Nat.le_of_ble_eq_true rfl) ⟨Nat.le_of_ble_eq_true rfl, Nat.le_of_ble_eq_true rfl⟩ ⟨Nat.zero_le _, Nat.zero_le _⟩ dX4_ifRewritten_7 (fun H locs I => ?_)
  refine lv_aload_n hx hb dX4_ifRewritten_10 rfl (lv_at hl 0 rfl) ?_
  obtain ⟨r8, hc7, h⟩ := bx1 h
  refine r_callV1 (As := []) (rest := []) (ws' := (cW g a st5)) (q0 := 0) E I hl.1 k4_73 (c4_hasForeignVariable hc7) cW_k rfl rfl rfl rfl (Nat.le_of_ble_eq_true rfl) ⟨Nat.le_of_ble_eq_true rfl, Nat.le_of_ble_eq_true rfl⟩ ⟨Nat.zero_le _, Nat.zero_le _⟩ dX4_ifRewritten_11 (fun H locs I => ?_)
  refine lv_if_eq (tgt := 21) hx hb dX4_ifRewritten_14 (by decide) (fun hc9 => ?_) (fun hc9 => ?_)
  · have h := ifp hc9 h
    refine lv_aload_n hx hb dX4_ifRewritten_21 rfl (lv_at hl 0 rfl) ?_
    refine lv_iload_n hx hb dX4_ifRewritten_22 rfl (lv_at hl 2 rfl) ?_
    obtain ⟨r11, hc10, h⟩ := bx1 h
    refine r_callV1 (As := [.int x92]) (rest := []) (ws' := (cW g a st5)) (q0 := 0) E I hl.1 k4_84 (c4_rewritten hc10) cW_k rfl rfl rfl rfl (Nat.le_of_ble_eq_true rfl) ⟨Nat.le_of_ble_eq_true rfl, Nat.le_of_ble_eq_true rfl⟩ ⟨Nat.zero_le _, Nat.zero_le _⟩ dX4_ifRewritten_23 (fun H locs I => ?_)
    cases h
  · have h := ifn hc9 h
    refine lv_iconst (v := (-1 : Int32)) hx hb dX4_ifRewritten_17 (by decide) ?_
    refine lv_goto (tgt := 26) hx hb dX4_ifRewritten_18 (by decide) ?_
    cases h
set_option maxHeartbeats 4000000 in
set_option maxRecDepth 100000 in
theorem t4_shortest {l : Launch} {D : va_G} {g : Nat → ClassId} {a : Nat → Nat} {st : CS} {x91 : Int32} {st' : CS} {e' : Nat} (hl0 : l.stackTraces = false) (h : f4_shortest st x91 = some (st', .inl e')) : cx l yX4_shortest cX4_shortest 7 (some .int) (rmx 7 117) D g (cW g a st) (cW g a st') [.ref (a 0), .int x91] (exN e') := by
  refine cx_of (by decide) (Nat.le_of_ble_eq_true rfl) ?_
  intro p e s m args below meth c ls Q A H locs E I hl hQ xw hex hlk
  have E : en p m c cX4_shortest 7 s args RX4 D g := E
  have hx := E.1.1
  have hb := E.1.2.1
  have hl : lv_has ls 7 [(0, .ref (a 0)), (1, .int x91)] := hl
  have h : ((bt0 st (f4_needIndex x91 (4 : Int32)) fun (u2 : Unit) => (bi1 (f4_hasVariable st (0 : Int32) x91) fun r5 => (if r5 = 0 then some (st, .inr (-1 : Int32)) else (bi1 (f0_prepare st) fun st8 => (bi1 (wh (f4_shortest_b34 x91) FU (st8, (-1 : Int32), (0 : Int32), (0 : Int32))) fun w43 => some (w43.1, .inr w43.2)))))) : Option (CS × (Nat ⊕ Int32))) = some (st', .inl e') := h
  refine lv_iload_n hx hb dX4_shortest_0 rfl (lv_at hl 1 rfl) ?_
  refine lv_iconst (v := (4 : Int32)) hx hb dX4_shortest_1 (by decide) ?_
  rcases bt0t h with ⟨hc1, hs3⟩ | ⟨u2, hc1, h⟩
  · subst hs3
    exact r_thrS (As := [.int x91, .int (4 : Int32)]) (rest := []) hQ xw hex hlk E I hl.1 k4_53 (t4_needIndex hl0 hc1) rfl rfl (Nat.le_of_ble_eq_true rfl) ⟨Nat.le_of_ble_eq_true rfl, Nat.le_of_ble_eq_true rfl⟩ ⟨Nat.le_refl _, Nat.le_refl _⟩ dX4_shortest_2
  refine r_callS0 (As := [.int x91, .int (4 : Int32)]) (rest := []) E I hl.1 k4_53 (c4_needIndex hc1) rfl rfl (Nat.le_of_ble_eq_true rfl) ⟨Nat.le_of_ble_eq_true rfl, Nat.le_of_ble_eq_true rfl⟩ ⟨Nat.zero_le _, Nat.zero_le _⟩ dX4_shortest_2 (fun H locs I => ?_)
  refine lv_aload_n hx hb dX4_shortest_5 rfl (lv_at hl 0 rfl) ?_
  refine lv_iconst (v := (0 : Int32)) hx hb dX4_shortest_6 (by decide) ?_
  refine lv_iload_n hx hb dX4_shortest_7 rfl (lv_at hl 1 rfl) ?_
  obtain ⟨r5, hc4, h⟩ := bx1 h
  refine r_callV1 (As := [.int (0 : Int32), .int x91]) (rest := []) (ws' := (cW g a st)) (q0 := 0) E I hl.1 k4_197 (c4_hasVariable hc4) cW_k rfl rfl rfl rfl (Nat.le_of_ble_eq_true rfl) ⟨Nat.le_of_ble_eq_true rfl, Nat.le_of_ble_eq_true rfl⟩ ⟨Nat.zero_le _, Nat.zero_le _⟩ dX4_shortest_8 (fun H locs I => ?_)
  refine lv_if_ne (tgt := 16) hx hb dX4_shortest_11 (by decide) (fun hc6 => ?_) (fun hc6 => ?_)
  · have h := ifn hc6 h
    refine lv_aload_n hx hb dX4_shortest_16 rfl (lv_at hl 0 rfl) ?_
    refine g4_42 E I dX4_shortest_17 ?_
    refine lv_aload_n hx hb dX4_shortest_20 rfl (lv_at hl 0 rfl) ?_
    refine g4_9 E I dX4_shortest_21 ?_
    obtain ⟨st8, hc7, h⟩ := bx1 h
    refine r_callV0 (As := [.ref (a 1)]) (rest := []) (ws' := (cW g a st8)) (q0 := 7) E I hl.1 k4_148 (c0_prepare hc7) cW_k rfl rfl rfl rfl (Nat.le_of_ble_eq_true rfl) ⟨Nat.le_of_ble_eq_true rfl, Nat.le_of_ble_eq_true rfl⟩ ⟨Nat.zero_le _, Nat.zero_le _⟩ dX4_shortest_24 (fun H locs I => ?_)
    refine lv_iconst (v := (-1 : Int32)) hx hb dX4_shortest_27 (by decide) ?_
    refine lv_istore_n (lv' := [(2, .int (-1 : Int32)), (0, .ref (a 0)), (1, .int x91)]) hx hb dX4_shortest_28 rfl hl (by decide) rfl (fun ls hl => ?_)
    refine lv_iconst (v := (0 : Int32)) hx hb dX4_shortest_29 (by decide) ?_
    refine lv_istore_n (lv' := [(3, .int (0 : Int32)), (2, .int (-1 : Int32)), (0, .ref (a 0)), (1, .int x91)]) hx hb dX4_shortest_30 rfl hl (by decide) rfl (fun ls hl => ?_)
    refine lv_iconst (v := (0 : Int32)) hx hb dX4_shortest_31 (by decide) ?_
    refine lv_istore (lv' := [(4, .int (0 : Int32)), (3, .int (0 : Int32)), (2, .int (-1 : Int32)), (0, .ref (a 0)), (1, .int x91)]) hx hb dX4_shortest_32 hl (by decide) rfl (fun ls hl => ?_)
    obtain ⟨z39, hw40, h⟩ := bx1 h
    refine wh_W (P := fun (z : CS × Int32 × Int32 × Int32) => ∀ (H : Heap) (locs : List Loc) (ls : Array Slot), wk D (cW g a z.1) A s.heap H locs → lv_has ls 7 [(0, .ref (a 0)), (1, .int x91), (2, .int z.2.1), (3, .int z.2.2.1), (4, .int z.2.2.2)] → W p l e (rmx 7 117) s m args below meth c H locs 0 0 Q (F0 m 34 ls [])) (X := fun (z : CS × Int32) => ∀ (H : Heap) (locs : List Loc) (ls : Array Slot), wk D (cW g a z.1) A s.heap H locs → lv_has ls 7 [(2, .int z.2)] → W p l e (rmx 7 117) s m args below meth c H locs 0 0 Q (F0 m 109 ls [])) ?_ FU _ _ hw40 ?_ _ _ _ I (lv_sub hl [3, 4, 2, 1, 0] rfl)
    · intro z o14 h hk15 H locs ls I hl
      obtain ⟨st9, x11, x12, x13⟩ := z
      have h : ((if (20 : Int32) ≤ x13 then some (.inr (st9, x11)) else (bi2 (f0_choose st9 x13) fun st18 r19 => (if r19 = 0 then some (.inr (st18, x11)) else (bi1 (wh (f4_shortest_b59 st18 x91 x11 x12 x13) FU ((0 : Int32), (0 : Int32))) fun w38 => (if x11 = (-1 : Int32) then some (.inl (st18, x13, w38, (x13 + 1))) else (if x12 ≤ w38 then some (.inl (st18, x11, x12, (x13 + 1))) else some (.inl (st18, x13, w38, (x13 + 1))))))))) : Option ((CS × Int32 × Int32 × Int32) ⊕ (CS × Int32))) = some o14 := h
      have I : wk D (cW g a st9) A s.heap H locs := I
      have hl : lv_has ls 7 [(0, .ref (a 0)), (1, .int x91), (2, .int x11), (3, .int x12), (4, .int x13)] := hl
      refine lv_iload hx hb dX4_shortest_34 (lv_at hl 4 rfl) ?_
      refine lv_bipush (v := (20 : Int32)) hx hb dX4_shortest_36 (by decide) ?_
      refine lv_icmp_ge (tgt := 109) hx hb dX4_shortest_38 (by decide) (fun hc16 => ?_) (fun hc16 => ?_)
      · have h := ifp hc16 h
        cases h
        exact hk15 _ _ _ I (lv_sub hl [2] rfl)
      · have h := ifn hc16 h
        refine lv_aload_n hx hb dX4_shortest_41 rfl (lv_at hl 0 rfl) ?_
        refine g4_42 E I dX4_shortest_42 ?_
        refine lv_iload hx hb dX4_shortest_45 (lv_at hl 4 rfl) ?_
        obtain ⟨st18, r19, hc17, h⟩ := bx2 h
        refine r_callV1 (As := [.int x13]) (rest := []) (ws' := (cW g a st18)) (q0 := 7) E I hl.1 k4_201 (c0_choose hc17) cW_k rfl rfl rfl rfl (Nat.le_of_ble_eq_true rfl) ⟨Nat.le_of_ble_eq_true rfl, Nat.le_of_ble_eq_true rfl⟩ ⟨Nat.zero_le _, Nat.zero_le _⟩ dX4_shortest_47 (fun H locs I => ?_)
        refine lv_if_eq (tgt := 109) hx hb dX4_shortest_50 (by decide) (fun hc20 => ?_) (fun hc20 => ?_)
        · have h := ifp hc20 h
          cases h
          exact hk15 _ _ _ I (lv_sub hl [2] rfl)
        · have h := ifn hc20 h
          refine lv_iconst (v := (0 : Int32)) hx hb dX4_shortest_53 (by decide) ?_
          refine lv_istore (lv' := [(5, .int (0 : Int32)), (0, .ref (a 0)), (1, .int x91), (2, .int x11), (3, .int x12), (4, .int x13)]) hx hb dX4_shortest_54 hl (by decide) rfl (fun ls hl => ?_)
          refine lv_iconst (v := (0 : Int32)) hx hb dX4_shortest_56 (by decide) ?_
          refine lv_istore (lv' := [(6, .int (0 : Int32)), (5, .int (0 : Int32)), (0, .ref (a 0)), (1, .int x91), (2, .int x11), (3, .int x12), (4, .int x13)]) hx hb dX4_shortest_57 hl (by decide) rfl (fun ls hl => ?_)
          obtain ⟨z33, hw34, h⟩ := bx1 h
          refine wh_W (P := fun (z : Int32 × Int32) => ∀ (H : Heap) (locs : List Loc) (ls : Array Slot), wk D (cW g a st18) A s.heap H locs → lv_has ls 7 [(0, .ref (a 0)), (1, .int x91), (2, .int x11), (3, .int x12), (4, .int x13), (5, .int z.1), (6, .int z.2)] → W p l e (rmx 7 117) s m args below meth c H locs 0 0 Q (F0 m 59 ls [])) (X := fun (z : Int32) => ∀ (H : Heap) (locs : List Loc) (ls : Array Slot), wk D (cW g a st18) A s.heap H locs → lv_has ls 7 [(0, .ref (a 0)), (1, .int x91), (2, .int x11), (3, .int x12), (4, .int x13), (5, .int z)] → W p l e (rmx 7 117) s m args below meth c H locs 0 0 Q (F0 m 86 ls [])) ?_ FU _ _ hw34 ?_ _ _ _ I (lv_sub hl [2, 3, 4, 5, 6, 1, 0] rfl)
          · intro z o28 h hk29 H locs ls I hl
            obtain ⟨x26, x27⟩ := z
            have h : ((if (4 : Int32) ≤ x27 then some (.inr x26) else (bi1 (f0_chosen st18 x91 x27) fun r32 => some (.inl ((x26 + r32), (x27 + 1))))) : Option ((Int32 × Int32) ⊕ (Int32))) = some o28 := h
            have I : wk D (cW g a st18) A s.heap H locs := I
            have hl : lv_has ls 7 [(0, .ref (a 0)), (1, .int x91), (2, .int x11), (3, .int x12), (4, .int x13), (5, .int x26), (6, .int x27)] := hl
            refine lv_iload hx hb dX4_shortest_59 (lv_at hl 6 rfl) ?_
            refine lv_iconst (v := (4 : Int32)) hx hb dX4_shortest_61 (by decide) ?_
            refine lv_icmp_ge (tgt := 86) hx hb dX4_shortest_62 (by decide) (fun hc30 => ?_) (fun hc30 => ?_)
            · have h := ifp hc30 h
              cases h
              exact hk29 _ _ _ I (lv_sub hl [0, 1, 2, 3, 4, 5] rfl)
            · have h := ifn hc30 h
              refine lv_iload hx hb dX4_shortest_65 (lv_at hl 5 rfl) ?_
              refine lv_aload_n hx hb dX4_shortest_67 rfl (lv_at hl 0 rfl) ?_
              refine g4_42 E I dX4_shortest_68 ?_
              refine lv_iload_n hx hb dX4_shortest_71 rfl (lv_at hl 1 rfl) ?_
              refine lv_iload hx hb dX4_shortest_72 (lv_at hl 6 rfl) ?_
              obtain ⟨r32, hc31, h⟩ := bx1 h
              refine r_callV1 (As := [.int x91, .int x27]) (rest := [.int x26]) (ws' := (cW g a st18)) (q0 := 7) E I hl.1 k4_205 (c0_chosen hc31) cW_k rfl rfl rfl rfl (Nat.le_of_ble_eq_true rfl) ⟨Nat.le_of_ble_eq_true rfl, Nat.le_of_ble_eq_true rfl⟩ ⟨Nat.zero_le _, Nat.zero_le _⟩ dX4_shortest_74 (fun H locs I => ?_)
              refine lv_iadd hx hb dX4_shortest_77 ?_
              refine lv_istore (lv' := [(5, .int (x26 + r32)), (0, .ref (a 0)), (1, .int x91), (2, .int x11), (3, .int x12), (4, .int x13), (6, .int x27)]) hx hb dX4_shortest_78 hl (by decide) rfl (fun ls hl => ?_)
              refine lv_iinc (v := (x27 + 1)) (lv' := [(6, .int (x27 + 1)), (5, .int (x26 + r32)), (0, .ref (a 0)), (1, .int x91), (2, .int x11), (3, .int x12), (4, .int x13)]) hx hb dX4_shortest_80 hl (k := 6) rfl rfl (by decide) rfl (fun ls hl => ?_)
              refine lv_goto (tgt := 59) hx hb dX4_shortest_83 (by decide) ?_
              cases h
              exact hk29 _ _ _ I (lv_sub hl [2, 3, 4, 5, 6, 1, 0] rfl)
          · obtain ⟨x35, rfl⟩ : ∃ y, y = z33 := ⟨_, rfl⟩
            intro H locs ls I hl
            have h : ((if x11 = (-1 : Int32) then some (.inl (st18, x13, x35, (x13 + 1))) else (if x12 ≤ x35 then some (.inl (st18, x11, x12, (x13 + 1))) else some (.inl (st18, x13, x35, (x13 + 1))))) : Option ((CS × Int32 × Int32 × Int32) ⊕ (CS × Int32))) = some o14 := h
            have I : wk D (cW g a st18) A s.heap H locs := I
            have hl : lv_has ls 7 [(0, .ref (a 0)), (1, .int x91), (2, .int x11), (3, .int x12), (4, .int x13), (5, .int x35)] := hl
            refine lv_iload_n hx hb dX4_shortest_86 rfl (lv_at hl 2 rfl) ?_
            refine lv_iconst (v := (-1 : Int32)) hx hb dX4_shortest_87 (by decide) ?_
            refine lv_icmp_eq (tgt := 97) hx hb dX4_shortest_88 (by decide) (fun hc36 => ?_) (fun hc36 => ?_)
            · have h := ifp hc36 h
              refine lv_iload hx hb dX4_shortest_97 (lv_at hl 4 rfl) ?_
              refine lv_istore_n (lv' := [(2, .int x13), (0, .ref (a 0)), (1, .int x91), (3, .int x12), (4, .int x13), (5, .int x35)]) hx hb dX4_shortest_99 rfl hl (by decide) rfl (fun ls hl => ?_)
              refine lv_iload hx hb dX4_shortest_100 (lv_at hl 5 rfl) ?_
              refine lv_istore_n (lv' := [(3, .int x35), (2, .int x13), (0, .ref (a 0)), (1, .int x91), (4, .int x13), (5, .int x35)]) hx hb dX4_shortest_102 rfl hl (by decide) rfl (fun ls hl => ?_)
              refine lv_iinc (v := (x13 + 1)) (lv' := [(4, .int (x13 + 1)), (3, .int x35), (2, .int x13), (0, .ref (a 0)), (1, .int x91), (5, .int x35)]) hx hb dX4_shortest_103 hl (k := 4) rfl rfl (by decide) rfl (fun ls hl => ?_)
              refine lv_goto (tgt := 34) hx hb dX4_shortest_106 (by decide) ?_
              cases h
              exact hk15 _ _ _ I (lv_sub hl [3, 4, 2, 1, 0] rfl)
            · have h := ifn hc36 h
              refine lv_iload hx hb dX4_shortest_91 (lv_at hl 5 rfl) ?_
              refine lv_iload_n hx hb dX4_shortest_93 rfl (lv_at hl 3 rfl) ?_
              refine lv_icmp_ge (tgt := 103) hx hb dX4_shortest_94 (by decide) (fun hc37 => ?_) (fun hc37 => ?_)
              · have h := ifp hc37 h
                refine lv_iinc (v := (x13 + 1)) (lv' := [(4, .int (x13 + 1)), (0, .ref (a 0)), (1, .int x91), (2, .int x11), (3, .int x12), (5, .int x35)]) hx hb dX4_shortest_103 hl (k := 4) rfl rfl (by decide) rfl (fun ls hl => ?_)
                refine lv_goto (tgt := 34) hx hb dX4_shortest_106 (by decide) ?_
                cases h
                exact hk15 _ _ _ I (lv_sub hl [1, 2, 3, 4, 0] rfl)
              · have h := ifn hc37 h
                refine lv_iload hx hb dX4_shortest_97 (lv_at hl 4 rfl) ?_
                refine lv_istore_n (lv' := [(2, .int x13), (0, .ref (a 0)), (1, .int x91), (3, .int x12), (4, .int x13), (5, .int x35)]) hx hb dX4_shortest_99 rfl hl (by decide) rfl (fun ls hl => ?_)
                refine lv_iload hx hb dX4_shortest_100 (lv_at hl 5 rfl) ?_
                refine lv_istore_n (lv' := [(3, .int x35), (2, .int x13), (0, .ref (a 0)), (1, .int x91), (4, .int x13), (5, .int x35)]) hx hb dX4_shortest_102 rfl hl (by decide) rfl (fun ls hl => ?_)
                refine lv_iinc (v := (x13 + 1)) (lv' := [(4, .int (x13 + 1)), (3, .int x35), (2, .int x13), (0, .ref (a 0)), (1, .int x91), (5, .int x35)]) hx hb dX4_shortest_103 hl (k := 4) rfl rfl (by decide) rfl (fun ls hl => ?_)
                refine lv_goto (tgt := 34) hx hb dX4_shortest_106 (by decide) ?_
                cases h
                exact hk15 _ _ _ I (lv_sub hl [3, 4, 2, 1, 0] rfl)
    · obtain ⟨st41, x42⟩ := z39
      intro H locs ls I hl
      have h : (some (st41, .inr x42) : Option (CS × (Nat ⊕ Int32))) = some (st', .inl e') := h
      have I : wk D (cW g a st41) A s.heap H locs := I
      have hl : lv_has ls 7 [(2, .int x42)] := hl
      refine lv_iload_n hx hb dX4_shortest_109 rfl (lv_at hl 0 rfl) ?_
      cases h
  · have h := ifp hc6 h
    refine lv_iconst (v := (-1 : Int32)) hx hb dX4_shortest_14 (by decide) ?_
    cases h
