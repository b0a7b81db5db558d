theorem plL : plainName RL = true := by decide
theorem kL_7 : cfV RL 7 yX4_constant cX4_constant 4 (some .int) 3 := ⟨⟨tb 582 (by decide +kernel) (by decide +kernel), tb 82 (by decide +kernel) (by decide +kernel), tb 585 (by decide +kernel) (by decide +kernel), by decide +kernel⟩, tb 583 (by decide +kernel) (by decide +kernel), tb 584 (by decide +kernel) (by decide +kernel)⟩
theorem ck_13 : Cond.classLink RL 13 (exN 0) ∈ TB := tb 580 (by decide +kernel) (by decide +kernel)
theorem ck_15 : Cond.classLink RL 15 (exN 1) ∈ TB := tb 581 (by decide +kernel) (by decide +kernel)
theorem kL_17 : cfV RL 17 yX4_variable cX4_variable 4 (some .int) 3 := ⟨⟨tb 614 (by decide +kernel) (by decide +kernel), tb 82 (by decide +kernel) (by decide +kernel), tb 617 (by decide +kernel) (by decide +kernel), by decide +kernel⟩, tb 615 (by decide +kernel) (by decide +kernel), tb 616 (by decide +kernel) (by decide +kernel)⟩
theorem kL_20 : cfV RL 20 yX4_multiply cX4_multiply 4 (some .int) 2 := ⟨⟨tb 622 (by decide +kernel) (by decide +kernel), tb 82 (by decide +kernel) (by decide +kernel), tb 625 (by decide +kernel) (by decide +kernel), by decide +kernel⟩, tb 623 (by decide +kernel) (by decide +kernel), tb 624 (by decide +kernel) (by decide +kernel)⟩
theorem ck_24 : Cond.classLink RL 24 (exN 2) ∈ TB := tb 621 (by decide +kernel) (by decide +kernel)
theorem kL_26 : cfV RL 26 yX4_rewrite cX4_rewrite 3 (some .int) 1 := ⟨⟨tb 653 (by decide +kernel) (by decide +kernel), tb 82 (by decide +kernel) (by decide +kernel), tb 656 (by decide +kernel) (by decide +kernel), by decide +kernel⟩, tb 654 (by decide +kernel) (by decide +kernel), tb 655 (by decide +kernel) (by decide +kernel)⟩
theorem kL_30 : cfV RL 30 yX4_cancel cX4_cancel 8 (some .int) 2 := ⟨⟨tb 666 (by decide +kernel) (by decide +kernel), tb 82 (by decide +kernel) (by decide +kernel), tb 669 (by decide +kernel) (by decide +kernel), by decide +kernel⟩, tb 667 (by decide +kernel) (by decide +kernel), tb 668 (by decide +kernel) (by decide +kernel)⟩
theorem kL_33 : cfV RL 33 yX4_set cX4_set 3 (some .int) 2 := ⟨⟨tb 673 (by decide +kernel) (by decide +kernel), tb 82 (by decide +kernel) (by decide +kernel), tb 676 (by decide +kernel) (by decide +kernel), by decide +kernel⟩, tb 674 (by decide +kernel) (by decide +kernel), tb 675 (by decide +kernel) (by decide +kernel)⟩
theorem kL_36 : cfV RL 36 yX4_append cX4_append 2 (some .int) 1 := ⟨⟨tb 680 (by decide +kernel) (by decide +kernel), tb 82 (by decide +kernel) (by decide +kernel), tb 683 (by decide +kernel) (by decide +kernel), by decide +kernel⟩, tb 681 (by decide +kernel) (by decide +kernel), tb 682 (by decide +kernel) (by decide +kernel)⟩
theorem kL_39 : cfV RL 39 yX4_read cX4_read 3 (some .int) 1 := ⟨⟨tb 696 (by decide +kernel) (by decide +kernel), tb 82 (by decide +kernel) (by decide +kernel), tb 699 (by decide +kernel) (by decide +kernel), by decide +kernel⟩, tb 697 (by decide +kernel) (by decide +kernel), tb 698 (by decide +kernel) (by decide +kernel)⟩
theorem kL_42 : cfV RL 42 yX4_take cX4_take 2 (some .int) 1 := ⟨⟨tb 713 (by decide +kernel) (by decide +kernel), tb 82 (by decide +kernel) (by decide +kernel), tb 716 (by decide +kernel) (by decide +kernel), by decide +kernel⟩, tb 714 (by decide +kernel) (by decide +kernel), tb 715 (by decide +kernel) (by decide +kernel)⟩
theorem kL_45 : cfV RL 45 yX4_restore cX4_restore 2 (some .int) 1 := ⟨⟨tb 725 (by decide +kernel) (by decide +kernel), tb 82 (by decide +kernel) (by decide +kernel), tb 728 (by decide +kernel) (by decide +kernel), by decide +kernel⟩, tb 726 (by decide +kernel) (by decide +kernel), tb 727 (by decide +kernel) (by decide +kernel)⟩
theorem kL_48 : cfV RL 48 yX4_undo cX4_undo 1 (some .int) 0 := ⟨⟨tb 733 (by decide +kernel) (by decide +kernel), tb 82 (by decide +kernel) (by decide +kernel), tb 736 (by decide +kernel) (by decide +kernel), by decide +kernel⟩, tb 734 (by decide +kernel) (by decide +kernel), tb 735 (by decide +kernel) (by decide +kernel)⟩
theorem kL_52 : cfV RL 52 yX4_times cX4_times 3 (some .int) 2 := ⟨⟨tb 745 (by decide +kernel) (by decide +kernel), tb 82 (by decide +kernel) (by decide +kernel), tb 748 (by decide +kernel) (by decide +kernel), by decide +kernel⟩, tb 746 (by decide +kernel) (by decide +kernel), tb 747 (by decide +kernel) (by decide +kernel)⟩
theorem kL_55 : cfV RL 55 yX4_rest cX4_rest 2 (some .int) 1 := ⟨⟨tb 752 (by decide +kernel) (by decide +kernel), tb 82 (by decide +kernel) (by decide +kernel), tb 755 (by decide +kernel) (by decide +kernel), by decide +kernel⟩, tb 753 (by decide +kernel) (by decide +kernel), tb 754 (by decide +kernel) (by decide +kernel)⟩
theorem kL_58 : cfV RL 58 yX4_solutions cX4_solutions 2 (some .int) 1 := ⟨⟨tb 759 (by decide +kernel) (by decide +kernel), tb 82 (by decide +kernel) (by decide +kernel), tb 431 (by decide +kernel) (by decide +kernel), by decide +kernel⟩, tb 429 (by decide +kernel) (by decide +kernel), tb 430 (by decide +kernel) (by decide +kernel)⟩
theorem kL_61 : cfV RL 61 yX4_matchers cX4_matchers 2 (some .long) 1 := ⟨⟨tb 763 (by decide +kernel) (by decide +kernel), tb 82 (by decide +kernel) (by decide +kernel), tb 510 (by decide +kernel) (by decide +kernel), by decide +kernel⟩, tb 508 (by decide +kernel) (by decide +kernel), tb 509 (by decide +kernel) (by decide +kernel)⟩
theorem kL_65 : cfV RL 65 yX4_value cX4_value 4 (some .int) 3 := ⟨⟨tb 767 (by decide +kernel) (by decide +kernel), tb 82 (by decide +kernel) (by decide +kernel), tb 770 (by decide +kernel) (by decide +kernel), by decide +kernel⟩, tb 768 (by decide +kernel) (by decide +kernel), tb 769 (by decide +kernel) (by decide +kernel)⟩
theorem kL_68 : cfV RL 68 yX4_least cX4_least 3 (some .int) 2 := ⟨⟨tb 774 (by decide +kernel) (by decide +kernel), tb 82 (by decide +kernel) (by decide +kernel), tb 777 (by decide +kernel) (by decide +kernel), by decide +kernel⟩, tb 775 (by decide +kernel) (by decide +kernel), tb 776 (by decide +kernel) (by decide +kernel)⟩
theorem kL_71 : cfV RL 71 yX4_sums cX4_sums 5 (some .int) 4 := ⟨⟨tb 782 (by decide +kernel) (by decide +kernel), tb 82 (by decide +kernel) (by decide +kernel), tb 785 (by decide +kernel) (by decide +kernel), by decide +kernel⟩, tb 783 (by decide +kernel) (by decide +kernel), tb 784 (by decide +kernel) (by decide +kernel)⟩
theorem kL_75 : cfV RL 75 yX4_count cX4_count 2 (some .int) 1 := ⟨⟨tb 789 (by decide +kernel) (by decide +kernel), tb 82 (by decide +kernel) (by decide +kernel), tb 291 (by decide +kernel) (by decide +kernel), by decide +kernel⟩, tb 289 (by decide +kernel) (by decide +kernel), tb 290 (by decide +kernel) (by decide +kernel)⟩
theorem kL_78 : cfV RL 78 yX4_setting cX4_setting 2 (some .int) 1 := ⟨⟨tb 793 (by decide +kernel) (by decide +kernel), tb 82 (by decide +kernel) (by decide +kernel), tb 796 (by decide +kernel) (by decide +kernel), by decide +kernel⟩, tb 794 (by decide +kernel) (by decide +kernel), tb 795 (by decide +kernel) (by decide +kernel)⟩
theorem kL_81 : cfV RL 81 yX4_ifMore cX4_ifMore 3 (some .long) 2 := ⟨⟨tb 800 (by decide +kernel) (by decide +kernel), tb 82 (by decide +kernel) (by decide +kernel), tb 492 (by decide +kernel) (by decide +kernel), by decide +kernel⟩, tb 490 (by decide +kernel) (by decide +kernel), tb 491 (by decide +kernel) (by decide +kernel)⟩
theorem kL_85 : cfV RL 85 yX4_ifRewritten cX4_ifRewritten 3 (some .int) 2 := ⟨⟨tb 804 (by decide +kernel) (by decide +kernel), tb 82 (by decide +kernel) (by decide +kernel), tb 807 (by decide +kernel) (by decide +kernel), by decide +kernel⟩, tb 805 (by decide +kernel) (by decide +kernel), tb 806 (by decide +kernel) (by decide +kernel)⟩
theorem kL_88 : cfV RL 88 yX4_shortest cX4_shortest 7 (some .int) 1 := ⟨⟨tb 811 (by decide +kernel) (by decide +kernel), tb 82 (by decide +kernel) (by decide +kernel), tb 568 (by decide +kernel) (by decide +kernel), by decide +kernel⟩, tb 566 (by decide +kernel) (by decide +kernel), tb 567 (by decide +kernel) (by decide +kernel)⟩
set_option maxHeartbeats 4000000 in
set_option maxRecDepth 100000 in
theorem h_constant {l : Launch} {D : va_G} {g : Nat → ClassId} {a : Nat → Nat} {ob : Nat} {st st' : CS} {w : Nat → Int64} {x91 x92 x93 : Int32} {res : Nat ⊕ Int32} {v : Int32} (hl0 : l.stackTraces = false) (h : f4_constant st x91 x92 x93 = some (st', res)) (hv : hco [0, 1] res = some v) : lct l yL_constant cL_constant 6 [(0, 12, 15, 13), (0, 12, 19, 15)] (rmx 8 127) D g (cW g a st ++ oW g ob w) (cW g a st' ++ oW g ob (houtI w res)) [.ref (a 0), .int x91, .int x92, .int x93, .ref ob] v := by
  refine lct_of plL (Nat.le_of_ble_eq_true rfl) ?_
  intro p e s m args below meth c ls Q A H0 H locs E I hAH xw nc htab hl K
  have E : en p m c cL_constant 6 s args RL D g := E
  have hx := E.1.1
  have hb := E.1.2.1
  have hl : lv_has ls 6 [(0, .ref (a 0)), (1, .int x91), (2, .int x92), (3, .int x93), (4, .ref ob)] := hl
  refine lv_aload hx hb dL_constant_0 (lv_at hl 4 rfl) ?_
  refine lv_iconst (v := (0 : Int32)) hx hb dL_constant_2 (by decide) ?_
  refine lv_aload_n hx hb dL_constant_3 rfl (lv_at hl 0 rfl) ?_
  refine lv_iload_n hx hb dL_constant_4 rfl (lv_at hl 1 rfl) ?_
  refine lv_iload_n hx hb dL_constant_5 rfl (lv_at hl 2 rfl) ?_
  refine lv_iload_n hx hb dL_constant_6 rfl (lv_at hl 3 rfl) ?_
  cases res with
  | inr r9 =>
    cases hv
    refine r_callF1 (ws' := cW g a st') (As := [.int x91, .int x92, .int x93]) (v := .int r9) (rest := [.int 0, .ref ob]) E I hl.1 kL_7 (c4_constant h) cW_k (q0 := 0) rfl rfl rfl rfl (Nat.le_of_ble_eq_true rfl) ⟨(Nat.le_of_ble_eq_true rfl), (Nat.le_of_ble_eq_true rfl)⟩ ⟨Nat.zero_le _, Nat.zero_le _⟩ dL_constant_7 (fun H locs I => ?_)
    refine lv_i2l (v := r9.toInt64) hx hb dL_constant_10 rfl ?_
    refine r_last (ws' := cW g a st' ++ oW g ob (vp_updL w (0 : Int32).toNatClampNeg r9.toInt64)) (f := w) E I 50 rfl rfl (by decide) dL_constant_11 (fun H locs I => ?_)
    refine lv_goto (tgt := 23) hx hb dL_constant_12 (by decide) ?_
    refine lv_iconst (v := (0 : Int32)) hx hb dL_constant_23 (by decide) ?_
    refine W.widen (k := 1) (n := 6) (Nat.zero_le _) (Nat.zero_le _) ?_
    exact K _ _ _ _ I dL_constant_24
  | inl k9 =>
    have hv : hcd [0, 1] 1 k9 = some v := hv
    by_cases hk0 : k9 = 0
    · subst hk0
      have hv : (1 : Int32) = v := by simpa [hcd] using hv
      subst hv
      refine r_catch (En := exN 0) (name := exN 0) (ws' := cW g a st') (As := [.int x91, .int x92, .int x93]) (rest := [.int 0, .ref ob]) xw hAH E I hl.1 kL_7 (t4_constant hl0 h) cW_k (q0 := 0) rfl rfl rfl rfl (Nat.le_of_ble_eq_true rfl) ⟨(Nat.le_of_ble_eq_true rfl), (Nat.le_of_ble_eq_true rfl)⟩ ⟨(Nat.le_of_ble_eq_true rfl), (Nat.le_of_ble_eq_true rfl)⟩ dL_constant_7 [] ⟨0, 12, 15, 13⟩ [⟨0, 12, 19, 15⟩] (htab.trans rfl) (fun z hz => absurd hz List.not_mem_nil) (by decide) (by decide) ck_13 (va_any rfl (xw.2.2.2 (.castable (exN 0) (exN 0)) (by simp [xF]))) (fun q9 H locs I => ?_)
      refine lv_astore (lv' := (5, .ref q9) :: [(0, .ref (a 0)), (1, .int x91), (2, .int x92), (3, .int x93), (4, .ref ob)]) hx hb dL_constant_15 hl (by decide) rfl (fun ls hl => ?_)
      refine lv_iconst (v := (1 : Int32)) hx hb dL_constant_17 (by decide) ?_
      exact K _ _ _ _ I dL_constant_18
    by_cases hk1 : k9 = 1
    · subst hk1
      have hv : (2 : Int32) = v := by simpa [hcd] using hv
      subst hv
      refine r_catch (En := exN 1) (name := exN 1) (ws' := cW g a st') (As := [.int x91, .int x92, .int x93]) (rest := [.int 0, .ref ob]) xw hAH E I hl.1 kL_7 (t4_constant hl0 h) cW_k (q0 := 0) rfl rfl rfl rfl (Nat.le_of_ble_eq_true rfl) ⟨(Nat.le_of_ble_eq_true rfl), (Nat.le_of_ble_eq_true rfl)⟩ ⟨(Nat.le_of_ble_eq_true rfl), (Nat.le_of_ble_eq_true rfl)⟩ dL_constant_7 [⟨0, 12, 15, 13⟩] ⟨0, 12, 19, 15⟩ [] (htab.trans rfl) (fun z hz => by
        simp only [List.mem_cons, List.not_mem_nil, or_false] at hz
        rcases hz with rfl
        · exact Or.inr ⟨by decide, _, E.1.2.2.2.2 _ ck_13, nc.1⟩) (by decide) (by decide) ck_15 (va_any rfl (xw.2.2.2 (.castable (exN 1) (exN 1)) (by simp [xF]))) (fun q9 H locs I => ?_)
      refine lv_astore (lv' := (5, .ref q9) :: [(0, .ref (a 0)), (1, .int x91), (2, .int x92), (3, .int x93), (4, .ref ob)]) hx hb dL_constant_19 hl (by decide) rfl (fun ls hl => ?_)
      refine lv_iconst (v := (2 : Int32)) hx hb dL_constant_21 (by decide) ?_
      exact K _ _ _ _ I dL_constant_22
    exact absurd hv (by simp [hcd, hk0, hk1])
set_option maxHeartbeats 4000000 in
set_option maxRecDepth 100000 in
theorem h_variable {l : Launch} {D : va_G} {g : Nat → ClassId} {a : Nat → Nat} {ob : Nat} {st st' : CS} {w : Nat → Int64} {x91 x92 x93 : Int32} {res : Nat ⊕ Int32} {v : Int32} (hl0 : l.stackTraces = false) (h : f4_variable st x91 x92 x93 = some (st', res)) (hv : hco [0, 1] res = some v) : lct l yL_variable cL_variable 6 [(0, 12, 15, 13), (0, 12, 19, 15)] (rmx 8 127) D g (cW g a st ++ oW g ob w) (cW g a st' ++ oW g ob (houtI w res)) [.ref (a 0), .int x91, .int x92, .int x93, .ref ob] v := by
  refine lct_of plL (Nat.le_of_ble_eq_true rfl) ?_
  intro p e s m args below meth c ls Q A H0 H locs E I hAH xw nc htab hl K
  have E : en p m c cL_variable 6 s args RL D g := E
  have hx := E.1.1
  have hb := E.1.2.1
  have hl : lv_has ls 6 [(0, .ref (a 0)), (1, .int x91), (2, .int x92), (3, .int x93), (4, .ref ob)] := hl
  refine lv_aload hx hb dL_variable_0 (lv_at hl 4 rfl) ?_
  refine lv_iconst (v := (0 : Int32)) hx hb dL_variable_2 (by decide) ?_
  refine lv_aload_n hx hb dL_variable_3 rfl (lv_at hl 0 rfl) ?_
  refine lv_iload_n hx hb dL_variable_4 rfl (lv_at hl 1 rfl) ?_
  refine lv_iload_n hx hb dL_variable_5 rfl (lv_at hl 2 rfl) ?_
  refine lv_iload_n hx hb dL_variable_6 rfl (lv_at hl 3 rfl) ?_
  cases res with
  | inr r9 =>
    cases hv
    refine r_callF1 (ws' := cW g a st') (As := [.int x91, .int x92, .int x93]) (v := .int r9) (rest := [.int 0, .ref ob]) E I hl.1 kL_17 (c4_variable h) cW_k (q0 := 0) rfl rfl rfl rfl (Nat.le_of_ble_eq_true rfl) ⟨(Nat.le_of_ble_eq_true rfl), (Nat.le_of_ble_eq_true rfl)⟩ ⟨Nat.zero_le _, Nat.zero_le _⟩ dL_variable_7 (fun H locs I => ?_)
    refine lv_i2l (v := r9.toInt64) hx hb dL_variable_10 rfl ?_
    refine r_last (ws' := cW g a st' ++ oW g ob (vp_updL w (0 : Int32).toNatClampNeg r9.toInt64)) (f := w) E I 50 rfl rfl (by decide) dL_variable_11 (fun H locs I => ?_)
    refine lv_goto (tgt := 23) hx hb dL_variable_12 (by decide) ?_
    refine lv_iconst (v := (0 : Int32)) hx hb dL_variable_23 (by decide) ?_
    refine W.widen (k := 1) (n := 6) (Nat.zero_le _) (Nat.zero_le _) ?_
    exact K _ _ _ _ I dL_variable_24
  | inl k9 =>
    have hv : hcd [0, 1] 1 k9 = some v := hv
    by_cases hk0 : k9 = 0
    · subst hk0
      have hv : (1 : Int32) = v := by simpa [hcd] using hv
      subst hv
      refine r_catch (En := exN 0) (name := exN 0) (ws' := cW g a st') (As := [.int x91, .int x92, .int x93]) (rest := [.int 0, .ref ob]) xw hAH E I hl.1 kL_17 (t4_variable hl0 h) cW_k (q0 := 0) rfl rfl rfl rfl (Nat.le_of_ble_eq_true rfl) ⟨(Nat.le_of_ble_eq_true rfl), (Nat.le_of_ble_eq_true rfl)⟩ ⟨(Nat.le_of_ble_eq_true rfl), (Nat.le_of_ble_eq_true rfl)⟩ dL_variable_7 [] ⟨0, 12, 15, 13⟩ [⟨0, 12, 19, 15⟩] (htab.trans rfl) (fun z hz => absurd hz List.not_mem_nil) (by decide) (by decide) ck_13 (va_any rfl (xw.2.2.2 (.castable (exN 0) (exN 0)) (by simp [xF]))) (fun q9 H locs I => ?_)
      refine lv_astore (lv' := (5, .ref q9) :: [(0, .ref (a 0)), (1, .int x91), (2, .int x92), (3, .int x93), (4, .ref ob)]) hx hb dL_variable_15 hl (by decide) rfl (fun ls hl => ?_)
      refine lv_iconst (v := (1 : Int32)) hx hb dL_variable_17 (by decide) ?_
      exact K _ _ _ _ I dL_variable_18
    by_cases hk1 : k9 = 1
    · subst hk1
      have hv : (2 : Int32) = v := by simpa [hcd] using hv
      subst hv
      refine r_catch (En := exN 1) (name := exN 1) (ws' := cW g a st') (As := [.int x91, .int x92, .int x93]) (rest := [.int 0, .ref ob]) xw hAH E I hl.1 kL_17 (t4_variable hl0 h) cW_k (q0 := 0) rfl rfl rfl rfl (Nat.le_of_ble_eq_true rfl) ⟨(Nat.le_of_ble_eq_true rfl), (Nat.le_of_ble_eq_true rfl)⟩ ⟨(Nat.le_of_ble_eq_true rfl), (Nat.le_of_ble_eq_true rfl)⟩ dL_variable_7 [⟨0, 12, 15, 13⟩] ⟨0, 12, 19, 15⟩ [] (htab.trans rfl) (fun z hz => by
        simp only [List.mem_cons, List.not_mem_nil, or_false] at hz
        rcases hz with rfl
        · exact Or.inr ⟨by decide, _, E.1.2.2.2.2 _ ck_13, nc.1⟩) (by decide) (by decide) ck_15 (va_any rfl (xw.2.2.2 (.castable (exN 1) (exN 1)) (by simp [xF]))) (fun q9 H locs I => ?_)
      refine lv_astore (lv' := (5, .ref q9) :: [(0, .ref (a 0)), (1, .int x91), (2, .int x92), (3, .int x93), (4, .ref ob)]) hx hb dL_variable_19 hl (by decide) rfl (fun ls hl => ?_)
      refine lv_iconst (v := (2 : Int32)) hx hb dL_variable_21 (by decide) ?_
      exact K _ _ _ _ I dL_variable_22
    exact absurd hv (by simp [hcd, hk0, hk1])
set_option maxHeartbeats 4000000 in
set_option maxRecDepth 100000 in
theorem h_multiply {l : Launch} {D : va_G} {g : Nat → ClassId} {a : Nat → Nat} {ob : Nat} {st st' : CS} {w : Nat → Int64} {x91 x92 : Int32} {res : Nat ⊕ Int32} {v : Int32} (hl0 : l.stackTraces = false) (h : f4_multiply st x91 x92 = some (st', res)) (hv : hco [0, 2] res = some v) : lct l yL_multiply cL_multiply 5 [(0, 10, 13, 13), (0, 10, 17, 24)] (rmx 8 127) D g (cW g a st ++ oW g ob w) (cW g a st' ++ oW g ob (houtI w res)) [.ref (a 0), .int x91, .int x92, .ref ob] v := by
  refine lct_of plL (Nat.le_of_ble_eq_true rfl) ?_
  intro p e s m args below meth c ls Q A H0 H locs E I hAH xw nc htab hl K
  have E : en p m c cL_multiply 5 s args RL D g := E
  have hx := E.1.1
  have hb := E.1.2.1
  have hl : lv_has ls 5 [(0, .ref (a 0)), (1, .int x91), (2, .int x92), (3, .ref ob)] := hl
  refine lv_aload_n hx hb dL_multiply_0 rfl (lv_at hl 3 rfl) ?_
  refine lv_iconst (v := (0 : Int32)) hx hb dL_multiply_1 (by decide) ?_
  refine lv_aload_n hx hb dL_multiply_2 rfl (lv_at hl 0 rfl) ?_
  refine lv_iload_n hx hb dL_multiply_3 rfl (lv_at hl 1 rfl) ?_
  refine lv_iload_n hx hb dL_multiply_4 rfl (lv_at hl 2 rfl) ?_
  cases res with
  | inr r9 =>
    cases hv
    refine r_callF1 (ws' := cW g a st') (As := [.int x91, .int x92]) (v := .int r9) (rest := [.int 0, .ref ob]) E I hl.1 kL_20 (c4_multiply h) cW_k (q0 := 0) rfl rfl rfl rfl (Nat.le_of_ble_eq_true rfl) ⟨(Nat.le_of_ble_eq_true rfl), (Nat.le_of_ble_eq_true rfl)⟩ ⟨Nat.zero_le _, Nat.zero_le _⟩ dL_multiply_5 (fun H locs I => ?_)
    refine lv_i2l (v := r9.toInt64) hx hb dL_multiply_8 rfl ?_
    refine r_last (ws' := cW g a st' ++ oW g ob (vp_updL w (0 : Int32).toNatClampNeg r9.toInt64)) (f := w) E I 50 rfl rfl (by decide) dL_multiply_9 (fun H locs I => ?_)
    refine lv_goto (tgt := 21) hx hb dL_multiply_10 (by decide) ?_
    refine lv_iconst (v := (0 : Int32)) hx hb dL_multiply_21 (by decide) ?_
    refine W.widen (k := 1) (n := 6) (Nat.zero_le _) (Nat.zero_le _) ?_
    exact K _ _ _ _ I dL_multiply_22
  | inl k9 =>
    have hv : hcd [0, 2] 1 k9 = some v := hv
    by_cases hk0 : k9 = 0
    · subst hk0
      have hv : (1 : Int32) = v := by simpa [hcd] using hv
      subst hv
      refine r_catch (En := exN 0) (name := exN 0) (ws' := cW g a st') (As := [.int x91, .int x92]) (rest := [.int 0, .ref ob]) xw hAH E I hl.1 kL_20 (t4_multiply hl0 h) cW_k (q0 := 0) rfl rfl rfl rfl (Nat.le_of_ble_eq_true rfl) ⟨(Nat.le_of_ble_eq_true rfl), (Nat.le_of_ble_eq_true rfl)⟩ ⟨(Nat.le_of_ble_eq_true rfl), (Nat.le_of_ble_eq_true rfl)⟩ dL_multiply_5 [] ⟨0, 10, 13, 13⟩ [⟨0, 10, 17, 24⟩] (htab.trans rfl) (fun z hz => absurd hz List.not_mem_nil) (by decide) (by decide) ck_13 (va_any rfl (xw.2.2.2 (.castable (exN 0) (exN 0)) (by simp [xF]))) (fun q9 H locs I => ?_)
      refine lv_astore (lv' := (4, .ref q9) :: [(0, .ref (a 0)), (1, .int x91), (2, .int x92), (3, .ref ob)]) hx hb dL_multiply_13 hl (by decide) rfl (fun ls hl => ?_)
      refine lv_iconst (v := (1 : Int32)) hx hb dL_multiply_15 (by decide) ?_
      exact K _ _ _ _ I dL_multiply_16
    by_cases hk1 : k9 = 2
    · subst hk1
      have hv : (2 : Int32) = v := by simpa [hcd] using hv
      subst hv
      refine r_catch (En := exN 2) (name := exN 2) (ws' := cW g a st') (As := [.int x91, .int x92]) (rest := [.int 0, .ref ob]) xw hAH E I hl.1 kL_20 (t4_multiply hl0 h) cW_k (q0 := 0) rfl rfl rfl rfl (Nat.le_of_ble_eq_true rfl) ⟨(Nat.le_of_ble_eq_true rfl), (Nat.le_of_ble_eq_true rfl)⟩ ⟨(Nat.le_of_ble_eq_true rfl), (Nat.le_of_ble_eq_true rfl)⟩ dL_multiply_5 [⟨0, 10, 13, 13⟩] ⟨0, 10, 17, 24⟩ [] (htab.trans rfl) (fun z hz => by
        simp only [List.mem_cons, List.not_mem_nil, or_false] at hz
        rcases hz with rfl
        · exact Or.inr ⟨by decide, _, E.1.2.2.2.2 _ ck_13, nc.2.1⟩) (by decide) (by decide) ck_24 (va_any rfl (xw.2.2.2 (.castable (exN 2) (exN 2)) (by simp [xF]))) (fun q9 H locs I => ?_)
      refine lv_astore (lv' := (4, .ref q9) :: [(0, .ref (a 0)), (1, .int x91), (2, .int x92), (3, .ref ob)]) hx hb dL_multiply_17 hl (by decide) rfl (fun ls hl => ?_)
      refine lv_iconst (v := (2 : Int32)) hx hb dL_multiply_19 (by decide) ?_
      exact K _ _ _ _ I dL_multiply_20
    exact absurd hv (by simp [hcd, hk0, hk1])
set_option maxHeartbeats 4000000 in
set_option maxRecDepth 100000 in
theorem h_rewrite {l : Launch} {D : va_G} {g : Nat → ClassId} {a : Nat → Nat} {ob : Nat} {st st' : CS} {w : Nat → Int64} {x91 : Int32} {res : Nat ⊕ Int32} {v : Int32} (hl0 : l.stackTraces = false) (h : f4_rewrite st x91 = some (st', res)) (hv : hco [1, 2] res = some v) : lct l yL_rewrite cL_rewrite 4 [(0, 9, 12, 15), (0, 9, 15, 24)] (rmx 8 160) D g (cW g a st ++ oW g ob w) (cW g a st' ++ oW g ob (houtI w res)) [.ref (a 0), .int x91, .ref ob] v := by
  refine lct_of plL (Nat.le_of_ble_eq_true rfl) ?_
  intro p e s m args below meth c ls Q A H0 H locs E I hAH xw nc htab hl K
  have E : en p m c cL_rewrite 4 s args RL D g := E
  have hx := E.1.1
  have hb := E.1.2.1
  have hl : lv_has ls 4 [(0, .ref (a 0)), (1, .int x91), (2, .ref ob)] := hl
  refine lv_aload_n hx hb dL_rewrite_0 rfl (lv_at hl 2 rfl) ?_
  refine lv_iconst (v := (0 : Int32)) hx hb dL_rewrite_1 (by decide) ?_
  refine lv_aload_n hx hb dL_rewrite_2 rfl (lv_at hl 0 rfl) ?_
  refine lv_iload_n hx hb dL_rewrite_3 rfl (lv_at hl 1 rfl) ?_
  cases res with
  | inr r9 =>
    cases hv
    refine r_callF1 (ws' := cW g a st') (As := [.int x91]) (v := .int r9) (rest := [.int 0, .ref ob]) E I hl.1 kL_26 (c4_rewrite h) cW_k (q0 := 0) rfl rfl rfl rfl (Nat.le_of_ble_eq_true rfl) ⟨(Nat.le_of_ble_eq_true rfl), (Nat.le_of_ble_eq_true rfl)⟩ ⟨Nat.zero_le _, Nat.zero_le _⟩ dL_rewrite_4 (fun H locs I => ?_)
    refine lv_i2l (v := r9.toInt64) hx hb dL_rewrite_7 rfl ?_
    refine r_last (ws' := cW g a st' ++ oW g ob (vp_updL w (0 : Int32).toNatClampNeg r9.toInt64)) (f := w) E I 50 rfl rfl (by decide) dL_rewrite_8 (fun H locs I => ?_)
    refine lv_goto (tgt := 18) hx hb dL_rewrite_9 (by decide) ?_
    refine lv_iconst (v := (0 : Int32)) hx hb dL_rewrite_18 (by decide) ?_
    refine W.widen (k := 1) (n := 6) (Nat.zero_le _) (Nat.zero_le _) ?_
    exact K _ _ _ _ I dL_rewrite_19
  | inl k9 =>
    have hv : hcd [1, 2] 1 k9 = some v := hv
    by_cases hk0 : k9 = 1
    · subst hk0
      have hv : (1 : Int32) = v := by simpa [hcd] using hv
      subst hv
      refine r_catch (En := exN 1) (name := exN 1) (ws' := cW g a st') (As := [.int x91]) (rest := [.int 0, .ref ob]) xw hAH E I hl.1 kL_26 (t4_rewrite hl0 h) cW_k (q0 := 0) rfl rfl rfl rfl (Nat.le_of_ble_eq_true rfl) ⟨(Nat.le_of_ble_eq_true rfl), (Nat.le_of_ble_eq_true rfl)⟩ ⟨(Nat.le_of_ble_eq_true rfl), (Nat.le_of_ble_eq_true rfl)⟩ dL_rewrite_4 [] ⟨0, 9, 12, 15⟩ [⟨0, 9, 15, 24⟩] (htab.trans rfl) (fun z hz => absurd hz List.not_mem_nil) (by decide) (by decide) ck_15 (va_any rfl (xw.2.2.2 (.castable (exN 1) (exN 1)) (by simp [xF]))) (fun q9 H locs I => ?_)
      refine lv_astore_n (lv' := (3, .ref q9) :: [(0, .ref (a 0)), (1, .int x91), (2, .ref ob)]) hx hb dL_rewrite_12 rfl hl (by decide) rfl (fun ls hl => ?_)
      refine lv_iconst (v := (1 : Int32)) hx hb dL_rewrite_13 (by decide) ?_
      exact K _ _ _ _ I dL_rewrite_14
    by_cases hk1 : k9 = 2
    · subst hk1
      have hv : (2 : Int32) = v := by simpa [hcd] using hv
      subst hv
      refine r_catch (En := exN 2) (name := exN 2) (ws' := cW g a st') (As := [.int x91]) (rest := [.int 0, .ref ob]) xw hAH E I hl.1 kL_26 (t4_rewrite hl0 h) cW_k (q0 := 0) rfl rfl rfl rfl (Nat.le_of_ble_eq_true rfl) ⟨(Nat.le_of_ble_eq_true rfl), (Nat.le_of_ble_eq_true rfl)⟩ ⟨(Nat.le_of_ble_eq_true rfl), (Nat.le_of_ble_eq_true rfl)⟩ dL_rewrite_4 [⟨0, 9, 12, 15⟩] ⟨0, 9, 15, 24⟩ [] (htab.trans rfl) (fun z hz => by
        simp only [List.mem_cons, List.not_mem_nil, or_false] at hz
        rcases hz with rfl
        · exact Or.inr ⟨by decide, _, E.1.2.2.2.2 _ ck_15, nc.2.2⟩) (by decide) (by decide) ck_24 (va_any rfl (xw.2.2.2 (.castable (exN 2) (exN 2)) (by simp [xF]))) (fun q9 H locs I => ?_)
      refine lv_astore_n (lv' := (3, .ref q9) :: [(0, .ref (a 0)), (1, .int x91), (2, .ref ob)]) hx hb dL_rewrite_15 rfl hl (by decide) rfl (fun ls hl => ?_)
      refine lv_iconst (v := (2 : Int32)) hx hb dL_rewrite_16 (by decide) ?_
      exact K _ _ _ _ I dL_rewrite_17
    exact absurd hv (by simp [hcd, hk0, hk1])
set_option maxHeartbeats 4000000 in
set_option maxRecDepth 100000 in
theorem h_cancel {l : Launch} {D : va_G} {g : Nat → ClassId} {a : Nat → Nat} {ob : Nat} {st st' : CS} {w : Nat → Int64} {x91 x92 : Int32} {res : Nat ⊕ Int32} {v : Int32} (hl0 : l.stackTraces = false) (h : f4_cancel st x91 x92 = some (st', res)) (hv : hco [0] res = some v) : lct l yL_cancel cL_cancel 5 [(0, 10, 13, 13)] (rmx 8 130) D g (cW g a st ++ oW g ob w) (cW g a st' ++ oW g ob (houtI w res)) [.ref (a 0), .int x91, .int x92, .ref ob] v := by
  refine lct_of plL (Nat.le_of_ble_eq_true rfl) ?_
  intro p e s m args below meth c ls Q A H0 H locs E I hAH xw nc htab hl K
  have E : en p m c cL_cancel 5 s args RL D g := E
  have hx := E.1.1
  have hb := E.1.2.1
  have hl : lv_has ls 5 [(0, .ref (a 0)), (1, .int x91), (2, .int x92), (3, .ref ob)] := hl
  refine lv_aload_n hx hb dL_cancel_0 rfl (lv_at hl 3 rfl) ?_
  refine lv_iconst (v := (0 : Int32)) hx hb dL_cancel_1 (by decide) ?_
  refine lv_aload_n hx hb dL_cancel_2 rfl (lv_at hl 0 rfl) ?_
  refine lv_iload_n hx hb dL_cancel_3 rfl (lv_at hl 1 rfl) ?_
  refine lv_iload_n hx hb dL_cancel_4 rfl (lv_at hl 2 rfl) ?_
  cases res with
  | inr r9 =>
    cases hv
    refine r_callF1 (ws' := cW g a st') (As := [.int x91, .int x92]) (v := .int r9) (rest := [.int 0, .ref ob]) E I hl.1 kL_30 (c4_cancel h) cW_k (q0 := 0) rfl rfl rfl rfl (Nat.le_of_ble_eq_true rfl) ⟨(Nat.le_of_ble_eq_true rfl), (Nat.le_of_ble_eq_true rfl)⟩ ⟨Nat.zero_le _, Nat.zero_le _⟩ dL_cancel_5 (fun H locs I => ?_)
    refine lv_i2l (v := r9.toInt64) hx hb dL_cancel_8 rfl ?_
    refine r_last (ws' := cW g a st' ++ oW g ob (vp_updL w (0 : Int32).toNatClampNeg r9.toInt64)) (f := w) E I 50 rfl rfl (by decide) dL_cancel_9 (fun H locs I => ?_)
    refine lv_goto (tgt := 17) hx hb dL_cancel_10 (by decide) ?_
    refine lv_iconst (v := (0 : Int32)) hx hb dL_cancel_17 (by decide) ?_
    refine W.widen (k := 1) (n := 6) (Nat.zero_le _) (Nat.zero_le _) ?_
    exact K _ _ _ _ I dL_cancel_18
  | inl k9 =>
    have hv : hcd [0] 1 k9 = some v := hv
    by_cases hk0 : k9 = 0
    · subst hk0
      have hv : (1 : Int32) = v := by simpa [hcd] using hv
      subst hv
      refine r_catch (En := exN 0) (name := exN 0) (ws' := cW g a st') (As := [.int x91, .int x92]) (rest := [.int 0, .ref ob]) xw hAH E I hl.1 kL_30 (t4_cancel hl0 h) cW_k (q0 := 0) rfl rfl rfl rfl (Nat.le_of_ble_eq_true rfl) ⟨(Nat.le_of_ble_eq_true rfl), (Nat.le_of_ble_eq_true rfl)⟩ ⟨(Nat.le_of_ble_eq_true rfl), (Nat.le_of_ble_eq_true rfl)⟩ dL_cancel_5 [] ⟨0, 10, 13, 13⟩ [] (htab.trans rfl) (fun z hz => absurd hz List.not_mem_nil) (by decide) (by decide) ck_13 (va_any rfl (xw.2.2.2 (.castable (exN 0) (exN 0)) (by simp [xF]))) (fun q9 H locs I => ?_)
      refine lv_astore (lv' := (4, .ref q9) :: [(0, .ref (a 0)), (1, .int x91), (2, .int x92), (3, .ref ob)]) hx hb dL_cancel_13 hl (by decide) rfl (fun ls hl => ?_)
      refine lv_iconst (v := (1 : Int32)) hx hb dL_cancel_15 (by decide) ?_
      exact K _ _ _ _ I dL_cancel_16
    exact absurd hv (by simp [hcd, hk0])
set_option maxHeartbeats 4000000 in
set_option maxRecDepth 100000 in
theorem h_set {l : Launch} {D : va_G} {g : Nat → ClassId} {a : Nat → Nat} {ob : Nat} {st st' : CS} {w : Nat → Int64} {x91 x92 : Int32} {res : Nat ⊕ Int32} {v : Int32} (hl0 : l.stackTraces = false) (h : f4_set st x91 x92 = some (st', res)) (hv : hco [0, 1] res = some v) : lct l yL_set cL_set 5 [(0, 10, 13, 13), (0, 10, 17, 15)] (rmx 8 126) D g (cW g a st ++ oW g ob w) (cW g a st' ++ oW g ob (houtI w res)) [.ref (a 0), .int x91, .int x92, .ref ob] v := by
  refine lct_of plL (Nat.le_of_ble_eq_true rfl) ?_
  intro p e s m args below meth c ls Q A H0 H locs E I hAH xw nc htab hl K
  have E : en p m c cL_set 5 s args RL D g := E
  have hx := E.1.1
  have hb := E.1.2.1
  have hl : lv_has ls 5 [(0, .ref (a 0)), (1, .int x91), (2, .int x92), (3, .ref ob)] := hl
  refine lv_aload_n hx hb dL_set_0 rfl (lv_at hl 3 rfl) ?_
  refine lv_iconst (v := (0 : Int32)) hx hb dL_set_1 (by decide) ?_
  refine lv_aload_n hx hb dL_set_2 rfl (lv_at hl 0 rfl) ?_
  refine lv_iload_n hx hb dL_set_3 rfl (lv_at hl 1 rfl) ?_
  refine lv_iload_n hx hb dL_set_4 rfl (lv_at hl 2 rfl) ?_
  cases res with
  | inr r9 =>
    cases hv
    refine r_callF1 (ws' := cW g a st') (As := [.int x91, .int x92]) (v := .int r9) (rest := [.int 0, .ref ob]) E I hl.1 kL_33 (c4_set h) cW_k (q0 := 0) rfl rfl rfl rfl (Nat.le_of_ble_eq_true rfl) ⟨(Nat.le_of_ble_eq_true rfl), (Nat.le_of_ble_eq_true rfl)⟩ ⟨Nat.zero_le _, Nat.zero_le _⟩ dL_set_5 (fun H locs I => ?_)
    refine lv_i2l (v := r9.toInt64) hx hb dL_set_8 rfl ?_
    refine r_last (ws' := cW g a st' ++ oW g ob (vp_updL w (0 : Int32).toNatClampNeg r9.toInt64)) (f := w) E I 50 rfl rfl (by decide) dL_set_9 (fun H locs I => ?_)
    refine lv_goto (tgt := 21) hx hb dL_set_10 (by decide) ?_
    refine lv_iconst (v := (0 : Int32)) hx hb dL_set_21 (by decide) ?_
    refine W.widen (k := 1) (n := 6) (Nat.zero_le _) (Nat.zero_le _) ?_
    exact K _ _ _ _ I dL_set_22
  | inl k9 =>
    have hv : hcd [0, 1] 1 k9 = some v := hv
    by_cases hk0 : k9 = 0
    · subst hk0
      have hv : (1 : Int32) = v := by simpa [hcd] using hv
      subst hv
      refine r_catch (En := exN 0) (name := exN 0) (ws' := cW g a st') (As := [.int x91, .int x92]) (rest := [.int 0, .ref ob]) xw hAH E I hl.1 kL_33 (t4_set hl0 h) cW_k (q0 := 0) rfl rfl rfl rfl (Nat.le_of_ble_eq_true rfl) ⟨(Nat.le_of_ble_eq_true rfl), (Nat.le_of_ble_eq_true rfl)⟩ ⟨(Nat.le_of_ble_eq_true rfl), (Nat.le_of_ble_eq_true rfl)⟩ dL_set_5 [] ⟨0, 10, 13, 13⟩ [⟨0, 10, 17, 15⟩] (htab.trans rfl) (fun z hz => absurd hz List.not_mem_nil) (by decide) (by decide) ck_13 (va_any rfl (xw.2.2.2 (.castable (exN 0) (exN 0)) (by simp [xF]))) (fun q9 H locs I => ?_)
      refine lv_astore (lv' := (4, .ref q9) :: [(0, .ref (a 0)), (1, .int x91), (2, .int x92), (3, .ref ob)]) hx hb dL_set_13 hl (by decide) rfl (fun ls hl => ?_)
      refine lv_iconst (v := (1 : Int32)) hx hb dL_set_15 (by decide) ?_
      exact K _ _ _ _ I dL_set_16
    by_cases hk1 : k9 = 1
    · subst hk1
      have hv : (2 : Int32) = v := by simpa [hcd] using hv
      subst hv
      refine r_catch (En := exN 1) (name := exN 1) (ws' := cW g a st') (As := [.int x91, .int x92]) (rest := [.int 0, .ref ob]) xw hAH E I hl.1 kL_33 (t4_set hl0 h) cW_k (q0 := 0) rfl rfl rfl rfl (Nat.le_of_ble_eq_true rfl) ⟨(Nat.le_of_ble_eq_true rfl), (Nat.le_of_ble_eq_true rfl)⟩ ⟨(Nat.le_of_ble_eq_true rfl), (Nat.le_of_ble_eq_true rfl)⟩ dL_set_5 [⟨0, 10, 13, 13⟩] ⟨0, 10, 17, 15⟩ [] (htab.trans rfl) (fun z hz => by
        simp only [List.mem_cons, List.not_mem_nil, or_false] at hz
        rcases hz with rfl
        · exact Or.inr ⟨by decide, _, E.1.2.2.2.2 _ ck_13, nc.1⟩) (by decide) (by decide) ck_15 (va_any rfl (xw.2.2.2 (.castable (exN 1) (exN 1)) (by simp [xF]))) (fun q9 H locs I => ?_)
      refine lv_astore (lv' := (4, .ref q9) :: [(0, .ref (a 0)), (1, .int x91), (2, .int x92), (3, .ref ob)]) hx hb dL_set_17 hl (by decide) rfl (fun ls hl => ?_)
      refine lv_iconst (v := (2 : Int32)) hx hb dL_set_19 (by decide) ?_
      exact K _ _ _ _ I dL_set_20
    exact absurd hv (by simp [hcd, hk0, hk1])
set_option maxHeartbeats 4000000 in
set_option maxRecDepth 100000 in
theorem h_append {l : Launch} {D : va_G} {g : Nat → ClassId} {a : Nat → Nat} {ob : Nat} {st st' : CS} {w : Nat → Int64} {x91 : Int32} {res : Nat ⊕ Int32} {v : Int32} (hl0 : l.stackTraces = false) (h : f4_append st x91 = some (st', res)) (hv : hco [1, 2] res = some v) : lct l yL_append cL_append 4 [(0, 9, 12, 15), (0, 9, 15, 24)] (rmx 8 125) D g (cW g a st ++ oW g ob w) (cW g a st' ++ oW g ob (houtI w res)) [.ref (a 0), .int x91, .ref ob] v := by
  refine lct_of plL (Nat.le_of_ble_eq_true rfl) ?_
  intro p e s m args below meth c ls Q A H0 H locs E I hAH xw nc htab hl K
  have E : en p m c cL_append 4 s args RL D g := E
  have hx := E.1.1
  have hb := E.1.2.1
  have hl : lv_has ls 4 [(0, .ref (a 0)), (1, .int x91), (2, .ref ob)] := hl
  refine lv_aload_n hx hb dL_append_0 rfl (lv_at hl 2 rfl) ?_
  refine lv_iconst (v := (0 : Int32)) hx hb dL_append_1 (by decide) ?_
  refine lv_aload_n hx hb dL_append_2 rfl (lv_at hl 0 rfl) ?_
  refine lv_iload_n hx hb dL_append_3 rfl (lv_at hl 1 rfl) ?_
  cases res with
  | inr r9 =>
    cases hv
    refine r_callF1 (ws' := cW g a st') (As := [.int x91]) (v := .int r9) (rest := [.int 0, .ref ob]) E I hl.1 kL_36 (c4_append h) cW_k (q0 := 0) rfl rfl rfl rfl (Nat.le_of_ble_eq_true rfl) ⟨(Nat.le_of_ble_eq_true rfl), (Nat.le_of_ble_eq_true rfl)⟩ ⟨Nat.zero_le _, Nat.zero_le _⟩ dL_append_4 (fun H locs I => ?_)
    refine lv_i2l (v := r9.toInt64) hx hb dL_append_7 rfl ?_
    refine r_last (ws' := cW g a st' ++ oW g ob (vp_updL w (0 : Int32).toNatClampNeg r9.toInt64)) (f := w) E I 50 rfl rfl (by decide) dL_append_8 (fun H locs I => ?_)
    refine lv_goto (tgt := 18) hx hb dL_append_9 (by decide) ?_
    refine lv_iconst (v := (0 : Int32)) hx hb dL_append_18 (by decide) ?_
    refine W.widen (k := 1) (n := 6) (Nat.zero_le _) (Nat.zero_le _) ?_
    exact K _ _ _ _ I dL_append_19
  | inl k9 =>
    have hv : hcd [1, 2] 1 k9 = some v := hv
    by_cases hk0 : k9 = 1
    · subst hk0
      have hv : (1 : Int32) = v := by simpa [hcd] using hv
      subst hv
      refine r_catch (En := exN 1) (name := exN 1) (ws' := cW g a st') (As := [.int x91]) (rest := [.int 0, .ref ob]) xw hAH E I hl.1 kL_36 (t4_append hl0 h) cW_k (q0 := 0) rfl rfl rfl rfl (Nat.le_of_ble_eq_true rfl) ⟨(Nat.le_of_ble_eq_true rfl), (Nat.le_of_ble_eq_true rfl)⟩ ⟨(Nat.le_of_ble_eq_true rfl), (Nat.le_of_ble_eq_true rfl)⟩ dL_append_4 [] ⟨0, 9, 12, 15⟩ [⟨0, 9, 15, 24⟩] (htab.trans rfl) (fun z hz => absurd hz List.not_mem_nil) (by decide) (by decide) ck_15 (va_any rfl (xw.2.2.2 (.castable (exN 1) (exN 1)) (by simp [xF]))) (fun q9 H locs I => ?_)
      refine lv_astore_n (lv' := (3, .ref q9) :: [(0, .ref (a 0)), (1, .int x91), (2, .ref ob)]) hx hb dL_append_12 rfl hl (by decide) rfl (fun ls hl => ?_)
      refine lv_iconst (v := (1 : Int32)) hx hb dL_append_13 (by decide) ?_
      exact K _ _ _ _ I dL_append_14
    by_cases hk1 : k9 = 2
    · subst hk1
      have hv : (2 : Int32) = v := by simpa [hcd] using hv
      subst hv
      refine r_catch (En := exN 2) (name := exN 2) (ws' := cW g a st') (As := [.int x91]) (rest := [.int 0, .ref ob]) xw hAH E I hl.1 kL_36 (t4_append hl0 h) cW_k (q0 := 0) rfl rfl rfl rfl (Nat.le_of_ble_eq_true rfl) ⟨(Nat.le_of_ble_eq_true rfl), (Nat.le_of_ble_eq_true rfl)⟩ ⟨(Nat.le_of_ble_eq_true rfl), (Nat.le_of_ble_eq_true rfl)⟩ dL_append_4 [⟨0, 9, 12, 15⟩] ⟨0, 9, 15, 24⟩ [] (htab.trans rfl) (fun z hz => by
        simp only [List.mem_cons, List.not_mem_nil, or_false] at hz
        rcases hz with rfl
        · exact Or.inr ⟨by decide, _, E.1.2.2.2.2 _ ck_15, nc.2.2⟩) (by decide) (by decide) ck_24 (va_any rfl (xw.2.2.2 (.castable (exN 2) (exN 2)) (by simp [xF]))) (fun q9 H locs I => ?_)
      refine lv_astore_n (lv' := (3, .ref q9) :: [(0, .ref (a 0)), (1, .int x91), (2, .ref ob)]) hx hb dL_append_15 rfl hl (by decide) rfl (fun ls hl => ?_)
      refine lv_iconst (v := (2 : Int32)) hx hb dL_append_16 (by decide) ?_
      exact K _ _ _ _ I dL_append_17
    exact absurd hv (by simp [hcd, hk0, hk1])
set_option maxHeartbeats 4000000 in
set_option maxRecDepth 100000 in
theorem h_read {l : Launch} {D : va_G} {g : Nat → ClassId} {a : Nat → Nat} {ob : Nat} {st st' : CS} {w : Nat → Int64} {x91 : Int32} {res : Nat ⊕ Int32} {v : Int32} (hl0 : l.stackTraces = false) (h : f4_read st x91 = some (st', res)) (hv : hco [0, 1, 2] res = some v) : lct l yL_read cL_read 4 [(0, 9, 12, 13), (0, 9, 15, 15), (0, 9, 18, 24)] (rmx 8 126) D g (cW g a st ++ oW g ob w) (cW g a st' ++ oW g ob (houtI w res)) [.ref (a 0), .int x91, .ref ob] v := by
  refine lct_of plL (Nat.le_of_ble_eq_true rfl) ?_
  intro p e s m args below meth c ls Q A H0 H locs E I hAH xw nc htab hl K
  have E : en p m c cL_read 4 s args RL D g := E
  have hx := E.1.1
  have hb := E.1.2.1
  have hl : lv_has ls 4 [(0, .ref (a 0)), (1, .int x91), (2, .ref ob)] := hl
  refine lv_aload_n hx hb dL_read_0 rfl (lv_at hl 2 rfl) ?_
  refine lv_iconst (v := (0 : Int32)) hx hb dL_read_1 (by decide) ?_
  refine lv_aload_n hx hb dL_read_2 rfl (lv_at hl 0 rfl) ?_
  refine lv_iload_n hx hb dL_read_3 rfl (lv_at hl 1 rfl) ?_
  cases res with
  | inr r9 =>
    cases hv
    refine r_callF1 (ws' := cW g a st') (As := [.int x91]) (v := .int r9) (rest := [.int 0, .ref ob]) E I hl.1 kL_39 (c4_read h) cW_k (q0 := 0) rfl rfl rfl rfl (Nat.le_of_ble_eq_true rfl) ⟨(Nat.le_of_ble_eq_true rfl), (Nat.le_of_ble_eq_true rfl)⟩ ⟨Nat.zero_le _, Nat.zero_le _⟩ dL_read_4 (fun H locs I => ?_)
    refine lv_i2l (v := r9.toInt64) hx hb dL_read_7 rfl ?_
    refine r_last (ws' := cW g a st' ++ oW g ob (vp_updL w (0 : Int32).toNatClampNeg r9.toInt64)) (f := w) E I 50 rfl rfl (by decide) dL_read_8 (fun H locs I => ?_)
    refine lv_goto (tgt := 21) hx hb dL_read_9 (by decide) ?_
    refine lv_iconst (v := (0 : Int32)) hx hb dL_read_21 (by decide) ?_
    refine W.widen (k := 1) (n := 6) (Nat.zero_le _) (Nat.zero_le _) ?_
    exact K _ _ _ _ I dL_read_22
  | inl k9 =>
    have hv : hcd [0, 1, 2] 1 k9 = some v := hv
    by_cases hk0 : k9 = 0
    · subst hk0
      have hv : (1 : Int32) = v := by simpa [hcd] using hv
      subst hv
      refine r_catch (En := exN 0) (name := exN 0) (ws' := cW g a st') (As := [.int x91]) (rest := [.int 0, .ref ob]) xw hAH E I hl.1 kL_39 (t4_read hl0 h) cW_k (q0 := 0) rfl rfl rfl rfl (Nat.le_of_ble_eq_true rfl) ⟨(Nat.le_of_ble_eq_true rfl), (Nat.le_of_ble_eq_true rfl)⟩ ⟨(Nat.le_of_ble_eq_true rfl), (Nat.le_of_ble_eq_true rfl)⟩ dL_read_4 [] ⟨0, 9, 12, 13⟩ [⟨0, 9, 15, 15⟩, ⟨0, 9, 18, 24⟩] (htab.trans rfl) (fun z hz => absurd hz List.not_mem_nil) (by decide) (by decide) ck_13 (va_any rfl (xw.2.2.2 (.castable (exN 0) (exN 0)) (by simp [xF]))) (fun q9 H locs I => ?_)
      refine lv_astore_n (lv' := (3, .ref q9) :: [(0, .ref (a 0)), (1, .int x91), (2, .ref ob)]) hx hb dL_read_12 rfl hl (by decide) rfl (fun ls hl => ?_)
      refine lv_iconst (v := (1 : Int32)) hx hb dL_read_13 (by decide) ?_
      exact K _ _ _ _ I dL_read_14
    by_cases hk1 : k9 = 1
    · subst hk1
      have hv : (2 : Int32) = v := by simpa [hcd] using hv
      subst hv
      refine r_catch (En := exN 1) (name := exN 1) (ws' := cW g a st') (As := [.int x91]) (rest := [.int 0, .ref ob]) xw hAH E I hl.1 kL_39 (t4_read hl0 h) cW_k (q0 := 0) rfl rfl rfl rfl (Nat.le_of_ble_eq_true rfl) ⟨(Nat.le_of_ble_eq_true rfl), (Nat.le_of_ble_eq_true rfl)⟩ ⟨(Nat.le_of_ble_eq_true rfl), (Nat.le_of_ble_eq_true rfl)⟩ dL_read_4 [⟨0, 9, 12, 13⟩] ⟨0, 9, 15, 15⟩ [⟨0, 9, 18, 24⟩] (htab.trans rfl) (fun z hz => by
        simp only [List.mem_cons, List.not_mem_nil, or_false] at hz
        rcases hz with rfl
        · exact Or.inr ⟨by decide, _, E.1.2.2.2.2 _ ck_13, nc.1⟩) (by decide) (by decide) ck_15 (va_any rfl (xw.2.2.2 (.castable (exN 1) (exN 1)) (by simp [xF]))) (fun q9 H locs I => ?_)
      refine lv_astore_n (lv' := (3, .ref q9) :: [(0, .ref (a 0)), (1, .int x91), (2, .ref ob)]) hx hb dL_read_15 rfl hl (by decide) rfl (fun ls hl => ?_)
      refine lv_iconst (v := (2 : Int32)) hx hb dL_read_16 (by decide) ?_
      exact K _ _ _ _ I dL_read_17
    by_cases hk2 : k9 = 2
    · subst hk2
      have hv : (3 : Int32) = v := by simpa [hcd] using hv
      subst hv
      refine r_catch (En := exN 2) (name := exN 2) (ws' := cW g a st') (As := [.int x91]) (rest := [.int 0, .ref ob]) xw hAH E I hl.1 kL_39 (t4_read hl0 h) cW_k (q0 := 0) rfl rfl rfl rfl (Nat.le_of_ble_eq_true rfl) ⟨(Nat.le_of_ble_eq_true rfl), (Nat.le_of_ble_eq_true rfl)⟩ ⟨(Nat.le_of_ble_eq_true rfl), (Nat.le_of_ble_eq_true rfl)⟩ dL_read_4 [⟨0, 9, 12, 13⟩, ⟨0, 9, 15, 15⟩] ⟨0, 9, 18, 24⟩ [] (htab.trans rfl) (fun z hz => by
        simp only [List.mem_cons, List.not_mem_nil, or_false] at hz
        rcases hz with rfl | rfl
        · exact Or.inr ⟨by decide, _, E.1.2.2.2.2 _ ck_13, nc.2.1⟩
        · exact Or.inr ⟨by decide, _, E.1.2.2.2.2 _ ck_15, nc.2.2⟩) (by decide) (by decide) ck_24 (va_any rfl (xw.2.2.2 (.castable (exN 2) (exN 2)) (by simp [xF]))) (fun q9 H locs I => ?_)
      refine lv_astore_n (lv' := (3, .ref q9) :: [(0, .ref (a 0)), (1, .int x91), (2, .ref ob)]) hx hb dL_read_18 rfl hl (by decide) rfl (fun ls hl => ?_)
      refine lv_iconst (v := (3 : Int32)) hx hb dL_read_19 (by decide) ?_
      exact K _ _ _ _ I dL_read_20
    exact absurd hv (by simp [hcd, hk0, hk1, hk2])
set_option maxHeartbeats 4000000 in
set_option maxRecDepth 100000 in
theorem h_take {l : Launch} {D : va_G} {g : Nat → ClassId} {a : Nat → Nat} {ob : Nat} {st st' : CS} {w : Nat → Int64} {x91 : Int32} {res : Nat ⊕ Int32} {v : Int32} (hl0 : l.stackTraces = false) (h : f4_take st x91 = some (st', res)) (hv : hco [0] res = some v) : lct l yL_take cL_take 4 [(0, 9, 12, 13)] (rmx 8 124) D g (cW g a st ++ oW g ob w) (cW g a st' ++ oW g ob (houtI w res)) [.ref (a 0), .int x91, .ref ob] v := by
  refine lct_of plL (Nat.le_of_ble_eq_true rfl) ?_
  intro p e s m args below meth c ls Q A H0 H locs E I hAH xw nc htab hl K
  have E : en p m c cL_take 4 s args RL D g := E
  have hx := E.1.1
  have hb := E.1.2.1
  have hl : lv_has ls 4 [(0, .ref (a 0)), (1, .int x91), (2, .ref ob)] := hl
  refine lv_aload_n hx hb dL_take_0 rfl (lv_at hl 2 rfl) ?_
  refine lv_iconst (v := (0 : Int32)) hx hb dL_take_1 (by decide) ?_
  refine lv_aload_n hx hb dL_take_2 rfl (lv_at hl 0 rfl) ?_
  refine lv_iload_n hx hb dL_take_3 rfl (lv_at hl 1 rfl) ?_
  cases res with
  | inr r9 =>
    cases hv
    refine r_callF1 (ws' := cW g a st') (As := [.int x91]) (v := .int r9) (rest := [.int 0, .ref ob]) E I hl.1 kL_42 (c4_take h) cW_k (q0 := 0) rfl rfl rfl rfl (Nat.le_of_ble_eq_true rfl) ⟨(Nat.le_of_ble_eq_true rfl), (Nat.le_of_ble_eq_true rfl)⟩ ⟨Nat.zero_le _, Nat.zero_le _⟩ dL_take_4 (fun H locs I => ?_)
    refine lv_i2l (v := r9.toInt64) hx hb dL_take_7 rfl ?_
    refine r_last (ws' := cW g a st' ++ oW g ob (vp_updL w (0 : Int32).toNatClampNeg r9.toInt64)) (f := w) E I 50 rfl rfl (by decide) dL_take_8 (fun H locs I => ?_)
    refine lv_goto (tgt := 15) hx hb dL_take_9 (by decide) ?_
    refine lv_iconst (v := (0 : Int32)) hx hb dL_take_15 (by decide) ?_
    refine W.widen (k := 1) (n := 6) (Nat.zero_le _) (Nat.zero_le _) ?_
    exact K _ _ _ _ I dL_take_16
  | inl k9 =>
    have hv : hcd [0] 1 k9 = some v := hv
    by_cases hk0 : k9 = 0
    · subst hk0
      have hv : (1 : Int32) = v := by simpa [hcd] using hv
      subst hv
      refine r_catch (En := exN 0) (name := exN 0) (ws' := cW g a st') (As := [.int x91]) (rest := [.int 0, .ref ob]) xw hAH E I hl.1 kL_42 (t4_take hl0 h) cW_k (q0 := 0) rfl rfl rfl rfl (Nat.le_of_ble_eq_true rfl) ⟨(Nat.le_of_ble_eq_true rfl), (Nat.le_of_ble_eq_true rfl)⟩ ⟨(Nat.le_of_ble_eq_true rfl), (Nat.le_of_ble_eq_true rfl)⟩ dL_take_4 [] ⟨0, 9, 12, 13⟩ [] (htab.trans rfl) (fun z hz => absurd hz List.not_mem_nil) (by decide) (by decide) ck_13 (va_any rfl (xw.2.2.2 (.castable (exN 0) (exN 0)) (by simp [xF]))) (fun q9 H locs I => ?_)
      refine lv_astore_n (lv' := (3, .ref q9) :: [(0, .ref (a 0)), (1, .int x91), (2, .ref ob)]) hx hb dL_take_12 rfl hl (by decide) rfl (fun ls hl => ?_)
      refine lv_iconst (v := (1 : Int32)) hx hb dL_take_13 (by decide) ?_
      exact K _ _ _ _ I dL_take_14
    exact absurd hv (by simp [hcd, hk0])
set_option maxHeartbeats 4000000 in
set_option maxRecDepth 100000 in
theorem h_restore {l : Launch} {D : va_G} {g : Nat → ClassId} {a : Nat → Nat} {ob : Nat} {st st' : CS} {w : Nat → Int64} {x91 : Int32} {res : Nat ⊕ Int32} {v : Int32} (hl0 : l.stackTraces = false) (h : f4_restore st x91 = some (st', res)) (hv : hco [0, 2] res = some v) : lct l yL_restore cL_restore 4 [(0, 9, 12, 13), (0, 9, 15, 24)] (rmx 8 124) D g (cW g a st ++ oW g ob w) (cW g a st' ++ oW g ob (houtI w res)) [.ref (a 0), .int x91, .ref ob] v := by
  refine lct_of plL (Nat.le_of_ble_eq_true rfl) ?_
  intro p e s m args below meth c ls Q A H0 H locs E I hAH xw nc htab hl K
  have E : en p m c cL_restore 4 s args RL D g := E
  have hx := E.1.1
  have hb := E.1.2.1
  have hl : lv_has ls 4 [(0, .ref (a 0)), (1, .int x91), (2, .ref ob)] := hl
  refine lv_aload_n hx hb dL_restore_0 rfl (lv_at hl 2 rfl) ?_
  refine lv_iconst (v := (0 : Int32)) hx hb dL_restore_1 (by decide) ?_
  refine lv_aload_n hx hb dL_restore_2 rfl (lv_at hl 0 rfl) ?_
  refine lv_iload_n hx hb dL_restore_3 rfl (lv_at hl 1 rfl) ?_
  cases res with
  | inr r9 =>
    cases hv
    refine r_callF1 (ws' := cW g a st') (As := [.int x91]) (v := .int r9) (rest := [.int 0, .ref ob]) E I hl.1 kL_45 (c4_restore h) cW_k (q0 := 0) rfl rfl rfl rfl (Nat.le_of_ble_eq_true rfl) ⟨(Nat.le_of_ble_eq_true rfl), (Nat.le_of_ble_eq_true rfl)⟩ ⟨Nat.zero_le _, Nat.zero_le _⟩ dL_restore_4 (fun H locs I => ?_)
    refine lv_i2l (v := r9.toInt64) hx hb dL_restore_7 rfl ?_
    refine r_last (ws' := cW g a st' ++ oW g ob (vp_updL w (0 : Int32).toNatClampNeg r9.toInt64)) (f := w) E I 50 rfl rfl (by decide) dL_restore_8 (fun H locs I => ?_)
    refine lv_goto (tgt := 18) hx hb dL_restore_9 (by decide) ?_
    refine lv_iconst (v := (0 : Int32)) hx hb dL_restore_18 (by decide) ?_
    refine W.widen (k := 1) (n := 6) (Nat.zero_le _) (Nat.zero_le _) ?_
    exact K _ _ _ _ I dL_restore_19
  | inl k9 =>
    have hv : hcd [0, 2] 1 k9 = some v := hv
    by_cases hk0 : k9 = 0
    · subst hk0
      have hv : (1 : Int32) = v := by simpa [hcd] using hv
      subst hv
      refine r_catch (En := exN 0) (name := exN 0) (ws' := cW g a st') (As := [.int x91]) (rest := [.int 0, .ref ob]) xw hAH E I hl.1 kL_45 (t4_restore hl0 h) cW_k (q0 := 0) rfl rfl rfl rfl (Nat.le_of_ble_eq_true rfl) ⟨(Nat.le_of_ble_eq_true rfl), (Nat.le_of_ble_eq_true rfl)⟩ ⟨(Nat.le_of_ble_eq_true rfl), (Nat.le_of_ble_eq_true rfl)⟩ dL_restore_4 [] ⟨0, 9, 12, 13⟩ [⟨0, 9, 15, 24⟩] (htab.trans rfl) (fun z hz => absurd hz List.not_mem_nil) (by decide) (by decide) ck_13 (va_any rfl (xw.2.2.2 (.castable (exN 0) (exN 0)) (by simp [xF]))) (fun q9 H locs I => ?_)
      refine lv_astore_n (lv' := (3, .ref q9) :: [(0, .ref (a 0)), (1, .int x91), (2, .ref ob)]) hx hb dL_restore_12 rfl hl (by decide) rfl (fun ls hl => ?_)
      refine lv_iconst (v := (1 : Int32)) hx hb dL_restore_13 (by decide) ?_
      exact K _ _ _ _ I dL_restore_14
    by_cases hk1 : k9 = 2
    · subst hk1
      have hv : (2 : Int32) = v := by simpa [hcd] using hv
      subst hv
      refine r_catch (En := exN 2) (name := exN 2) (ws' := cW g a st') (As := [.int x91]) (rest := [.int 0, .ref ob]) xw hAH E I hl.1 kL_45 (t4_restore hl0 h) cW_k (q0 := 0) rfl rfl rfl rfl (Nat.le_of_ble_eq_true rfl) ⟨(Nat.le_of_ble_eq_true rfl), (Nat.le_of_ble_eq_true rfl)⟩ ⟨(Nat.le_of_ble_eq_true rfl), (Nat.le_of_ble_eq_true rfl)⟩ dL_restore_4 [⟨0, 9, 12, 13⟩] ⟨0, 9, 15, 24⟩ [] (htab.trans rfl) (fun z hz => by
        simp only [List.mem_cons, List.not_mem_nil, or_false] at hz
        rcases hz with rfl
        · exact Or.inr ⟨by decide, _, E.1.2.2.2.2 _ ck_13, nc.2.1⟩) (by decide) (by decide) ck_24 (va_any rfl (xw.2.2.2 (.castable (exN 2) (exN 2)) (by simp [xF]))) (fun q9 H locs I => ?_)
      refine lv_astore_n (lv' := (3, .ref q9) :: [(0, .ref (a 0)), (1, .int x91), (2, .ref ob)]) hx hb dL_restore_15 rfl hl (by decide) rfl (fun ls hl => ?_)
      refine lv_iconst (v := (2 : Int32)) hx hb dL_restore_16 (by decide) ?_
      exact K _ _ _ _ I dL_restore_17
    exact absurd hv (by simp [hcd, hk0, hk1])
set_option maxHeartbeats 4000000 in
set_option maxRecDepth 100000 in
theorem h_undo {l : Launch} {D : va_G} {g : Nat → ClassId} {a : Nat → Nat} {ob : Nat} {st st' : CS} {w : Nat → Int64} {res : Nat ⊕ Int32} {v : Int32} (hl0 : l.stackTraces = false) (h : f4_undo st = some (st', res)) (hv : hco [2] res = some v) : lct l yL_undo cL_undo 3 [(0, 8, 11, 24)] (rmx 7 102) D g (cW g a st ++ oW g ob w) (cW g a st' ++ oW g ob (houtI w res)) [.ref (a 0), .ref ob] v := by
  refine lct_of plL (Nat.le_of_ble_eq_true rfl) ?_
  intro p e s m args below meth c ls Q A H0 H locs E I hAH xw nc htab hl K
  have E : en p m c cL_undo 3 s args RL D g := E
  have hx := E.1.1
  have hb := E.1.2.1
  have hl : lv_has ls 3 [(0, .ref (a 0)), (1, .ref ob)] := hl
  refine lv_aload_n hx hb dL_undo_0 rfl (lv_at hl 1 rfl) ?_
  refine lv_iconst (v := (0 : Int32)) hx hb dL_undo_1 (by decide) ?_
  refine lv_aload_n hx hb dL_undo_2 rfl (lv_at hl 0 rfl) ?_
  cases res with
  | inr r9 =>
    cases hv
    refine r_callF1 (ws' := cW g a st') (As := []) (v := .int r9) (rest := [.int 0, .ref ob]) E I hl.1 kL_48 (c4_undo h) cW_k (q0 := 0) rfl rfl rfl rfl (Nat.le_of_ble_eq_true rfl) ⟨(Nat.le_of_ble_eq_true rfl), (Nat.le_of_ble_eq_true rfl)⟩ ⟨Nat.zero_le _, Nat.zero_le _⟩ dL_undo_3 (fun H locs I => ?_)
    refine lv_i2l (v := r9.toInt64) hx hb dL_undo_6 rfl ?_
    refine r_last (ws' := cW g a st' ++ oW g ob (vp_updL w (0 : Int32).toNatClampNeg r9.toInt64)) (f := w) E I 50 rfl rfl (by decide) dL_undo_7 (fun H locs I => ?_)
    refine lv_goto (tgt := 14) hx hb dL_undo_8 (by decide) ?_
    refine lv_iconst (v := (0 : Int32)) hx hb dL_undo_14 (by decide) ?_
    refine W.widen (k := 1) (n := 6) (Nat.zero_le _) (Nat.zero_le _) ?_
    exact K _ _ _ _ I dL_undo_15
  | inl k9 =>
    have hv : hcd [2] 1 k9 = some v := hv
    by_cases hk0 : k9 = 2
    · subst hk0
      have hv : (1 : Int32) = v := by simpa [hcd] using hv
      subst hv
      refine r_catch (En := exN 2) (name := exN 2) (ws' := cW g a st') (As := []) (rest := [.int 0, .ref ob]) xw hAH E I hl.1 kL_48 (t4_undo hl0 h) cW_k (q0 := 0) rfl rfl rfl rfl (Nat.le_of_ble_eq_true rfl) ⟨(Nat.le_of_ble_eq_true rfl), (Nat.le_of_ble_eq_true rfl)⟩ ⟨(Nat.le_of_ble_eq_true rfl), (Nat.le_of_ble_eq_true rfl)⟩ dL_undo_3 [] ⟨0, 8, 11, 24⟩ [] (htab.trans rfl) (fun z hz => absurd hz List.not_mem_nil) (by decide) (by decide) ck_24 (va_any rfl (xw.2.2.2 (.castable (exN 2) (exN 2)) (by simp [xF]))) (fun q9 H locs I => ?_)
      refine lv_astore_n (lv' := (2, .ref q9) :: [(0, .ref (a 0)), (1, .ref ob)]) hx hb dL_undo_11 rfl hl (by decide) rfl (fun ls hl => ?_)
      refine lv_iconst (v := (1 : Int32)) hx hb dL_undo_12 (by decide) ?_
      exact K _ _ _ _ I dL_undo_13
    exact absurd hv (by simp [hcd, hk0])
set_option maxHeartbeats 4000000 in
set_option maxRecDepth 100000 in
theorem h_times {l : Launch} {D : va_G} {g : Nat → ClassId} {a : Nat → Nat} {ob : Nat} {st st' : CS} {w : Nat → Int64} {x91 x92 : Int32} {res : Nat ⊕ Int32} {v : Int32} (hl0 : l.stackTraces = false) (h : f4_times st x91 x92 = some (st', res)) (hv : hco [0] res = some v) : lct l yL_times cL_times 5 [(0, 10, 13, 13)] (rmx 8 125) D g (cW g a st ++ oW g ob w) (cW g a st' ++ oW g ob (houtI w res)) [.ref (a 0), .int x91, .int x92, .ref ob] v := by
  refine lct_of plL (Nat.le_of_ble_eq_true rfl) ?_
  intro p e s m args below meth c ls Q A H0 H locs E I hAH xw nc htab hl K
  have E : en p m c cL_times 5 s args RL D g := E
  have hx := E.1.1
  have hb := E.1.2.1
  have hl : lv_has ls 5 [(0, .ref (a 0)), (1, .int x91), (2, .int x92), (3, .ref ob)] := hl
  refine lv_aload_n hx hb dL_times_0 rfl (lv_at hl 3 rfl) ?_
  refine lv_iconst (v := (0 : Int32)) hx hb dL_times_1 (by decide) ?_
  refine lv_aload_n hx hb dL_times_2 rfl (lv_at hl 0 rfl) ?_
  refine lv_iload_n hx hb dL_times_3 rfl (lv_at hl 1 rfl) ?_
  refine lv_iload_n hx hb dL_times_4 rfl (lv_at hl 2 rfl) ?_
  cases res with
  | inr r9 =>
    cases hv
    refine r_callF1 (ws' := cW g a st') (As := [.int x91, .int x92]) (v := .int r9) (rest := [.int 0, .ref ob]) E I hl.1 kL_52 (c4_times h) cW_k (q0 := 0) rfl rfl rfl rfl (Nat.le_of_ble_eq_true rfl) ⟨(Nat.le_of_ble_eq_true rfl), (Nat.le_of_ble_eq_true rfl)⟩ ⟨Nat.zero_le _, Nat.zero_le _⟩ dL_times_5 (fun H locs I => ?_)
    refine lv_i2l (v := r9.toInt64) hx hb dL_times_8 rfl ?_
    refine r_last (ws' := cW g a st' ++ oW g ob (vp_updL w (0 : Int32).toNatClampNeg r9.toInt64)) (f := w) E I 50 rfl rfl (by decide) dL_times_9 (fun H locs I => ?_)
    refine lv_goto (tgt := 17) hx hb dL_times_10 (by decide) ?_
    refine lv_iconst (v := (0 : Int32)) hx hb dL_times_17 (by decide) ?_
    refine W.widen (k := 1) (n := 6) (Nat.zero_le _) (Nat.zero_le _) ?_
    exact K _ _ _ _ I dL_times_18
  | inl k9 =>
    have hv : hcd [0] 1 k9 = some v := hv
    by_cases hk0 : k9 = 0
    · subst hk0
      have hv : (1 : Int32) = v := by simpa [hcd] using hv
      subst hv
      refine r_catch (En := exN 0) (name := exN 0) (ws' := cW g a st') (As := [.int x91, .int x92]) (rest := [.int 0, .ref ob]) xw hAH E I hl.1 kL_52 (t4_times hl0 h) cW_k (q0 := 0) rfl rfl rfl rfl (Nat.le_of_ble_eq_true rfl) ⟨(Nat.le_of_ble_eq_true rfl), (Nat.le_of_ble_eq_true rfl)⟩ ⟨(Nat.le_of_ble_eq_true rfl), (Nat.le_of_ble_eq_true rfl)⟩ dL_times_5 [] ⟨0, 10, 13, 13⟩ [] (htab.trans rfl) (fun z hz => absurd hz List.not_mem_nil) (by decide) (by decide) ck_13 (va_any rfl (xw.2.2.2 (.castable (exN 0) (exN 0)) (by simp [xF]))) (fun q9 H locs I => ?_)
      refine lv_astore (lv' := (4, .ref q9) :: [(0, .ref (a 0)), (1, .int x91), (2, .int x92), (3, .ref ob)]) hx hb dL_times_13 hl (by decide) rfl (fun ls hl => ?_)
      refine lv_iconst (v := (1 : Int32)) hx hb dL_times_15 (by decide) ?_
      exact K _ _ _ _ I dL_times_16
    exact absurd hv (by simp [hcd, hk0])
set_option maxHeartbeats 4000000 in
set_option maxRecDepth 100000 in
theorem h_rest {l : Launch} {D : va_G} {g : Nat → ClassId} {a : Nat → Nat} {ob : Nat} {st st' : CS} {w : Nat → Int64} {x91 : Int32} {res : Nat ⊕ Int32} {v : Int32} (hl0 : l.stackTraces = false) (h : f4_rest st x91 = some (st', res)) (hv : hco [0] res = some v) : lct l yL_rest cL_rest 4 [(0, 9, 12, 13)] (rmx 8 124) D g (cW g a st ++ oW g ob w) (cW g a st' ++ oW g ob (houtI w res)) [.ref (a 0), .int x91, .ref ob] v := by
  refine lct_of plL (Nat.le_of_ble_eq_true rfl) ?_
  intro p e s m args below meth c ls Q A H0 H locs E I hAH xw nc htab hl K
  have E : en p m c cL_rest 4 s args RL D g := E
  have hx := E.1.1
  have hb := E.1.2.1
  have hl : lv_has ls 4 [(0, .ref (a 0)), (1, .int x91), (2, .ref ob)] := hl
  refine lv_aload_n hx hb dL_rest_0 rfl (lv_at hl 2 rfl) ?_
  refine lv_iconst (v := (0 : Int32)) hx hb dL_rest_1 (by decide) ?_
  refine lv_aload_n hx hb dL_rest_2 rfl (lv_at hl 0 rfl) ?_
  refine lv_iload_n hx hb dL_rest_3 rfl (lv_at hl 1 rfl) ?_
  cases res with
  | inr r9 =>
    cases hv
    refine r_callF1 (ws' := cW g a st') (As := [.int x91]) (v := .int r9) (rest := [.int 0, .ref ob]) E I hl.1 kL_55 (c4_rest h) cW_k (q0 := 0) rfl rfl rfl rfl (Nat.le_of_ble_eq_true rfl) ⟨(Nat.le_of_ble_eq_true rfl), (Nat.le_of_ble_eq_true rfl)⟩ ⟨Nat.zero_le _, Nat.zero_le _⟩ dL_rest_4 (fun H locs I => ?_)
    refine lv_i2l (v := r9.toInt64) hx hb dL_rest_7 rfl ?_
    refine r_last (ws' := cW g a st' ++ oW g ob (vp_updL w (0 : Int32).toNatClampNeg r9.toInt64)) (f := w) E I 50 rfl rfl (by decide) dL_rest_8 (fun H locs I => ?_)
    refine lv_goto (tgt := 15) hx hb dL_rest_9 (by decide) ?_
    refine lv_iconst (v := (0 : Int32)) hx hb dL_rest_15 (by decide) ?_
    refine W.widen (k := 1) (n := 6) (Nat.zero_le _) (Nat.zero_le _) ?_
    exact K _ _ _ _ I dL_rest_16
  | inl k9 =>
    have hv : hcd [0] 1 k9 = some v := hv
    by_cases hk0 : k9 = 0
    · subst hk0
      have hv : (1 : Int32) = v := by simpa [hcd] using hv
      subst hv
      refine r_catch (En := exN 0) (name := exN 0) (ws' := cW g a st') (As := [.int x91]) (rest := [.int 0, .ref ob]) xw hAH E I hl.1 kL_55 (t4_rest hl0 h) cW_k (q0 := 0) rfl rfl rfl rfl (Nat.le_of_ble_eq_true rfl) ⟨(Nat.le_of_ble_eq_true rfl), (Nat.le_of_ble_eq_true rfl)⟩ ⟨(Nat.le_of_ble_eq_true rfl), (Nat.le_of_ble_eq_true rfl)⟩ dL_rest_4 [] ⟨0, 9, 12, 13⟩ [] (htab.trans rfl) (fun z hz => absurd hz List.not_mem_nil) (by decide) (by decide) ck_13 (va_any rfl (xw.2.2.2 (.castable (exN 0) (exN 0)) (by simp [xF]))) (fun q9 H locs I => ?_)
      refine lv_astore_n (lv' := (3, .ref q9) :: [(0, .ref (a 0)), (1, .int x91), (2, .ref ob)]) hx hb dL_rest_12 rfl hl (by decide) rfl (fun ls hl => ?_)
      refine lv_iconst (v := (1 : Int32)) hx hb dL_rest_13 (by decide) ?_
      exact K _ _ _ _ I dL_rest_14
    exact absurd hv (by simp [hcd, hk0])
set_option maxHeartbeats 4000000 in
set_option maxRecDepth 100000 in
theorem h_solutions {l : Launch} {D : va_G} {g : Nat → ClassId} {a : Nat → Nat} {ob : Nat} {st st' : CS} {w : Nat → Int64} {x91 : Int32} {res : Nat ⊕ Int32} {v : Int32} (hl0 : l.stackTraces = false) (h : f4_solutions st x91 = some (st', res)) (hv : hco [0] res = some v) : lct l yL_solutions cL_solutions 4 [(0, 9, 12, 13)] (rmx 8 138) D g (cW g a st ++ oW g ob w) (cW g a st' ++ oW g ob (houtI w res)) [.ref (a 0), .int x91, .ref ob] v := by
  refine lct_of plL (Nat.le_of_ble_eq_true rfl) ?_
  intro p e s m args below meth c ls Q A H0 H locs E I hAH xw nc htab hl K
  have E : en p m c cL_solutions 4 s args RL D g := E
  have hx := E.1.1
  have hb := E.1.2.1
  have hl : lv_has ls 4 [(0, .ref (a 0)), (1, .int x91), (2, .ref ob)] := hl
  refine lv_aload_n hx hb dL_solutions_0 rfl (lv_at hl 2 rfl) ?_
  refine lv_iconst (v := (0 : Int32)) hx hb dL_solutions_1 (by decide) ?_
  refine lv_aload_n hx hb dL_solutions_2 rfl (lv_at hl 0 rfl) ?_
  refine lv_iload_n hx hb dL_solutions_3 rfl (lv_at hl 1 rfl) ?_
  cases res with
  | inr r9 =>
    cases hv
    refine r_callF1 (ws' := cW g a st') (As := [.int x91]) (v := .int r9) (rest := [.int 0, .ref ob]) E I hl.1 kL_58 (c4_solutions h) cW_k (q0 := 0) rfl rfl rfl rfl (Nat.le_of_ble_eq_true rfl) ⟨(Nat.le_of_ble_eq_true rfl), (Nat.le_of_ble_eq_true rfl)⟩ ⟨Nat.zero_le _, Nat.zero_le _⟩ dL_solutions_4 (fun H locs I => ?_)
    refine lv_i2l (v := r9.toInt64) hx hb dL_solutions_7 rfl ?_
    refine r_last (ws' := cW g a st' ++ oW g ob (vp_updL w (0 : Int32).toNatClampNeg r9.toInt64)) (f := w) E I 50 rfl rfl (by decide) dL_solutions_8 (fun H locs I => ?_)
    refine lv_goto (tgt := 15) hx hb dL_solutions_9 (by decide) ?_
    refine lv_iconst (v := (0 : Int32)) hx hb dL_solutions_15 (by decide) ?_
    refine W.widen (k := 1) (n := 6) (Nat.zero_le _) (Nat.zero_le _) ?_
    exact K _ _ _ _ I dL_solutions_16
  | inl k9 =>
    have hv : hcd [0] 1 k9 = some v := hv
    by_cases hk0 : k9 = 0
    · subst hk0
      have hv : (1 : Int32) = v := by simpa [hcd] using hv
      subst hv
      refine r_catch (En := exN 0) (name := exN 0) (ws' := cW g a st') (As := [.int x91]) (rest := [.int 0, .ref ob]) xw hAH E I hl.1 kL_58 (t4_solutions hl0 h) cW_k (q0 := 0) rfl rfl rfl rfl (Nat.le_of_ble_eq_true rfl) ⟨(Nat.le_of_ble_eq_true rfl), (Nat.le_of_ble_eq_true rfl)⟩ ⟨(Nat.le_of_ble_eq_true rfl), (Nat.le_of_ble_eq_true rfl)⟩ dL_solutions_4 [] ⟨0, 9, 12, 13⟩ [] (htab.trans rfl) (fun z hz => absurd hz List.not_mem_nil) (by decide) (by decide) ck_13 (va_any rfl (xw.2.2.2 (.castable (exN 0) (exN 0)) (by simp [xF]))) (fun q9 H locs I => ?_)
      refine lv_astore_n (lv' := (3, .ref q9) :: [(0, .ref (a 0)), (1, .int x91), (2, .ref ob)]) hx hb dL_solutions_12 rfl hl (by decide) rfl (fun ls hl => ?_)
      refine lv_iconst (v := (1 : Int32)) hx hb dL_solutions_13 (by decide) ?_
      exact K _ _ _ _ I dL_solutions_14
    exact absurd hv (by simp [hcd, hk0])
set_option maxHeartbeats 4000000 in
set_option maxRecDepth 100000 in
theorem h_matchers {l : Launch} {D : va_G} {g : Nat → ClassId} {a : Nat → Nat} {ob : Nat} {st st' : CS} {w : Nat → Int64} {x91 : Int32} {res : Nat ⊕ Int64} {v : Int32} (hl0 : l.stackTraces = false) (h : f4_matchers st x91 = some (st', res)) (hv : hco [1] res = some v) : lct l yL_matchers cL_matchers 4 [(0, 8, 11, 15)] (rmx 8 138) D g (cW g a st ++ oW g ob w) (cW g a st' ++ oW g ob (houtJ w res)) [.ref (a 0), .int x91, .ref ob] v := by
  refine lct_of plL (Nat.le_of_ble_eq_true rfl) ?_
  intro p e s m args below meth c ls Q A H0 H locs E I hAH xw nc htab hl K
  have E : en p m c cL_matchers 4 s args RL D g := E
  have hx := E.1.1
  have hb := E.1.2.1
  have hl : lv_has ls 4 [(0, .ref (a 0)), (1, .int x91), (2, .ref ob)] := hl
  refine lv_aload_n hx hb dL_matchers_0 rfl (lv_at hl 2 rfl) ?_
  refine lv_iconst (v := (0 : Int32)) hx hb dL_matchers_1 (by decide) ?_
  refine lv_aload_n hx hb dL_matchers_2 rfl (lv_at hl 0 rfl) ?_
  refine lv_iload_n hx hb dL_matchers_3 rfl (lv_at hl 1 rfl) ?_
  cases res with
  | inr r9 =>
    cases hv
    refine r_callF1 (ws' := cW g a st') (As := [.int x91]) (v := .long r9) (rest := [.int 0, .ref ob]) E I hl.1 kL_61 (c4_matchers h) cW_k (q0 := 0) rfl rfl rfl rfl (Nat.le_of_ble_eq_true rfl) ⟨(Nat.le_of_ble_eq_true rfl), (Nat.le_of_ble_eq_true rfl)⟩ ⟨Nat.zero_le _, Nat.zero_le _⟩ dL_matchers_4 (fun H locs I => ?_)
    refine r_last (ws' := cW g a st' ++ oW g ob (vp_updL w (0 : Int32).toNatClampNeg r9)) (f := w) E I 50 rfl rfl (by decide) dL_matchers_7 (fun H locs I => ?_)
    refine lv_goto (tgt := 14) hx hb dL_matchers_8 (by decide) ?_
    refine lv_iconst (v := (0 : Int32)) hx hb dL_matchers_14 (by decide) ?_
    refine W.widen (k := 1) (n := 6) (Nat.zero_le _) (Nat.zero_le _) ?_
    exact K _ _ _ _ I dL_matchers_15
  | inl k9 =>
    have hv : hcd [1] 1 k9 = some v := hv
    by_cases hk0 : k9 = 1
    · subst hk0
      have hv : (1 : Int32) = v := by simpa [hcd] using hv
      subst hv
      refine r_catch (En := exN 1) (name := exN 1) (ws' := cW g a st') (As := [.int x91]) (rest := [.int 0, .ref ob]) xw hAH E I hl.1 kL_61 (t4_matchers hl0 h) cW_k (q0 := 0) rfl rfl rfl rfl (Nat.le_of_ble_eq_true rfl) ⟨(Nat.le_of_ble_eq_true rfl), (Nat.le_of_ble_eq_true rfl)⟩ ⟨(Nat.le_of_ble_eq_true rfl), (Nat.le_of_ble_eq_true rfl)⟩ dL_matchers_4 [] ⟨0, 8, 11, 15⟩ [] (htab.trans rfl) (fun z hz => absurd hz List.not_mem_nil) (by decide) (by decide) ck_15 (va_any rfl (xw.2.2.2 (.castable (exN 1) (exN 1)) (by simp [xF]))) (fun q9 H locs I => ?_)
      refine lv_astore_n (lv' := (3, .ref q9) :: [(0, .ref (a 0)), (1, .int x91), (2, .ref ob)]) hx hb dL_matchers_11 rfl hl (by decide) rfl (fun ls hl => ?_)
      refine lv_iconst (v := (1 : Int32)) hx hb dL_matchers_12 (by decide) ?_
      exact K _ _ _ _ I dL_matchers_13
    exact absurd hv (by simp [hcd, hk0])
set_option maxHeartbeats 4000000 in
set_option maxRecDepth 100000 in
theorem h_value {l : Launch} {D : va_G} {g : Nat → ClassId} {a : Nat → Nat} {ob : Nat} {st st' : CS} {w : Nat → Int64} {x91 x92 x93 : Int32} {res : Nat ⊕ Int32} {v : Int32} (hl0 : l.stackTraces = false) (h : f4_value st x91 x92 x93 = some (st', res)) (hv : hco [0, 1] res = some v) : lct l yL_value cL_value 6 [(0, 12, 15, 13), (0, 12, 19, 15)] (rmx 8 161) D g (cW g a st ++ oW g ob w) (cW g a st' ++ oW g ob (houtI w res)) [.ref (a 0), .int x91, .int x92, .int x93, .ref ob] v := by
  refine lct_of plL (Nat.le_of_ble_eq_true rfl) ?_
  intro p e s m args below meth c ls Q A H0 H locs E I hAH xw nc htab hl K
  have E : en p m c cL_value 6 s args RL D g := E
  have hx := E.1.1
  have hb := E.1.2.1
  have hl : lv_has ls 6 [(0, .ref (a 0)), (1, .int x91), (2, .int x92), (3, .int x93), (4, .ref ob)] := hl
  refine lv_aload hx hb dL_value_0 (lv_at hl 4 rfl) ?_
  refine lv_iconst (v := (0 : Int32)) hx hb dL_value_2 (by decide) ?_
  refine lv_aload_n hx hb dL_value_3 rfl (lv_at hl 0 rfl) ?_
  refine lv_iload_n hx hb dL_value_4 rfl (lv_at hl 1 rfl) ?_
  refine lv_iload_n hx hb dL_value_5 rfl (lv_at hl 2 rfl) ?_
  refine lv_iload_n hx hb dL_value_6 rfl (lv_at hl 3 rfl) ?_
  cases res with
  | inr r9 =>
    cases hv
    refine r_callF1 (ws' := cW g a st') (As := [.int x91, .int x92, .int x93]) (v := .int r9) (rest := [.int 0, .ref ob]) E I hl.1 kL_65 (c4_value h) cW_k (q0 := 0) rfl rfl rfl rfl (Nat.le_of_ble_eq_true rfl) ⟨(Nat.le_of_ble_eq_true rfl), (Nat.le_of_ble_eq_true rfl)⟩ ⟨Nat.zero_le _, Nat.zero_le _⟩ dL_value_7 (fun H locs I => ?_)
    refine lv_i2l (v := r9.toInt64) hx hb dL_value_10 rfl ?_
    refine r_last (ws' := cW g a st' ++ oW g ob (vp_updL w (0 : Int32).toNatClampNeg r9.toInt64)) (f := w) E I 50 rfl rfl (by decide) dL_value_11 (fun H locs I => ?_)
    refine lv_goto (tgt := 23) hx hb dL_value_12 (by decide) ?_
    refine lv_iconst (v := (0 : Int32)) hx hb dL_value_23 (by decide) ?_
    refine W.widen (k := 1) (n := 6) (Nat.zero_le _) (Nat.zero_le _) ?_
    exact K _ _ _ _ I dL_value_24
  | inl k9 =>
    have hv : hcd [0, 1] 1 k9 = some v := hv
    by_cases hk0 : k9 = 0
    · subst hk0
      have hv : (1 : Int32) = v := by simpa [hcd] using hv
      subst hv
      refine r_catch (En := exN 0) (name := exN 0) (ws' := cW g a st') (As := [.int x91, .int x92, .int x93]) (rest := [.int 0, .ref ob]) xw hAH E I hl.1 kL_65 (t4_value hl0 h) cW_k (q0 := 0) rfl rfl rfl rfl (Nat.le_of_ble_eq_true rfl) ⟨(Nat.le_of_ble_eq_true rfl), (Nat.le_of_ble_eq_true rfl)⟩ ⟨(Nat.le_of_ble_eq_true rfl), (Nat.le_of_ble_eq_true rfl)⟩ dL_value_7 [] ⟨0, 12, 15, 13⟩ [⟨0, 12, 19, 15⟩] (htab.trans rfl) (fun z hz => absurd hz List.not_mem_nil) (by decide) (by decide) ck_13 (va_any rfl (xw.2.2.2 (.castable (exN 0) (exN 0)) (by simp [xF]))) (fun q9 H locs I => ?_)
      refine lv_astore (lv' := (5, .ref q9) :: [(0, .ref (a 0)), (1, .int x91), (2, .int x92), (3, .int x93), (4, .ref ob)]) hx hb dL_value_15 hl (by decide) rfl (fun ls hl => ?_)
      refine lv_iconst (v := (1 : Int32)) hx hb dL_value_17 (by decide) ?_
      exact K _ _ _ _ I dL_value_18
    by_cases hk1 : k9 = 1
    · subst hk1
      have hv : (2 : Int32) = v := by simpa [hcd] using hv
      subst hv
      refine r_catch (En := exN 1) (name := exN 1) (ws' := cW g a st') (As := [.int x91, .int x92, .int x93]) (rest := [.int 0, .ref ob]) xw hAH E I hl.1 kL_65 (t4_value hl0 h) cW_k (q0 := 0) rfl rfl rfl rfl (Nat.le_of_ble_eq_true rfl) ⟨(Nat.le_of_ble_eq_true rfl), (Nat.le_of_ble_eq_true rfl)⟩ ⟨(Nat.le_of_ble_eq_true rfl), (Nat.le_of_ble_eq_true rfl)⟩ dL_value_7 [⟨0, 12, 15, 13⟩] ⟨0, 12, 19, 15⟩ [] (htab.trans rfl) (fun z hz => by
        simp only [List.mem_cons, List.not_mem_nil, or_false] at hz
        rcases hz with rfl
        · exact Or.inr ⟨by decide, _, E.1.2.2.2.2 _ ck_13, nc.1⟩) (by decide) (by decide) ck_15 (va_any rfl (xw.2.2.2 (.castable (exN 1) (exN 1)) (by simp [xF]))) (fun q9 H locs I => ?_)
      refine lv_astore (lv' := (5, .ref q9) :: [(0, .ref (a 0)), (1, .int x91), (2, .int x92), (3, .int x93), (4, .ref ob)]) hx hb dL_value_19 hl (by decide) rfl (fun ls hl => ?_)
      refine lv_iconst (v := (2 : Int32)) hx hb dL_value_21 (by decide) ?_
      exact K _ _ _ _ I dL_value_22
    exact absurd hv (by simp [hcd, hk0, hk1])
set_option maxHeartbeats 4000000 in
set_option maxRecDepth 100000 in
theorem h_least {l : Launch} {D : va_G} {g : Nat → ClassId} {a : Nat → Nat} {ob : Nat} {st st' : CS} {w : Nat → Int64} {x91 x92 : Int32} {res : Nat ⊕ Int32} {v : Int32} (hl0 : l.stackTraces = false) (h : f4_least st x91 x92 = some (st', res)) (hv : hco [0, 1] res = some v) : lct l yL_least cL_least 5 [(0, 10, 13, 13), (0, 10, 17, 15)] (rmx 8 125) D g (cW g a st ++ oW g ob w) (cW g a st' ++ oW g ob (houtI w res)) [.ref (a 0), .int x91, .int x92, .ref ob] v := by
  refine lct_of plL (Nat.le_of_ble_eq_true rfl) ?_
  intro p e s m args below meth c ls Q A H0 H locs E I hAH xw nc htab hl K
  have E : en p m c cL_least 5 s args RL D g := E
  have hx := E.1.1
  have hb := E.1.2.1
  have hl : lv_has ls 5 [(0, .ref (a 0)), (1, .int x91), (2, .int x92), (3, .ref ob)] := hl
  refine lv_aload_n hx hb dL_least_0 rfl (lv_at hl 3 rfl) ?_
  refine lv_iconst (v := (0 : Int32)) hx hb dL_least_1 (by decide) ?_
  refine lv_aload_n hx hb dL_least_2 rfl (lv_at hl 0 rfl) ?_
  refine lv_iload_n hx hb dL_least_3 rfl (lv_at hl 1 rfl) ?_
  refine lv_iload_n hx hb dL_least_4 rfl (lv_at hl 2 rfl) ?_
  cases res with
  | inr r9 =>
    cases hv
    refine r_callF1 (ws' := cW g a st') (As := [.int x91, .int x92]) (v := .int r9) (rest := [.int 0, .ref ob]) E I hl.1 kL_68 (c4_least h) cW_k (q0 := 0) rfl rfl rfl rfl (Nat.le_of_ble_eq_true rfl) ⟨(Nat.le_of_ble_eq_true rfl), (Nat.le_of_ble_eq_true rfl)⟩ ⟨Nat.zero_le _, Nat.zero_le _⟩ dL_least_5 (fun H locs I => ?_)
    refine lv_i2l (v := r9.toInt64) hx hb dL_least_8 rfl ?_
    refine r_last (ws' := cW g a st' ++ oW g ob (vp_updL w (0 : Int32).toNatClampNeg r9.toInt64)) (f := w) E I 50 rfl rfl (by decide) dL_least_9 (fun H locs I => ?_)
    refine lv_goto (tgt := 21) hx hb dL_least_10 (by decide) ?_
    refine lv_iconst (v := (0 : Int32)) hx hb dL_least_21 (by decide) ?_
    refine W.widen (k := 1) (n := 6) (Nat.zero_le _) (Nat.zero_le _) ?_
    exact K _ _ _ _ I dL_least_22
  | inl k9 =>
    have hv : hcd [0, 1] 1 k9 = some v := hv
    by_cases hk0 : k9 = 0
    · subst hk0
      have hv : (1 : Int32) = v := by simpa [hcd] using hv
      subst hv
      refine r_catch (En := exN 0) (name := exN 0) (ws' := cW g a st') (As := [.int x91, .int x92]) (rest := [.int 0, .ref ob]) xw hAH E I hl.1 kL_68 (t4_least hl0 h) cW_k (q0 := 0) rfl rfl rfl rfl (Nat.le_of_ble_eq_true rfl) ⟨(Nat.le_of_ble_eq_true rfl), (Nat.le_of_ble_eq_true rfl)⟩ ⟨(Nat.le_of_ble_eq_true rfl), (Nat.le_of_ble_eq_true rfl)⟩ dL_least_5 [] ⟨0, 10, 13, 13⟩ [⟨0, 10, 17, 15⟩] (htab.trans rfl) (fun z hz => absurd hz List.not_mem_nil) (by decide) (by decide) ck_13 (va_any rfl (xw.2.2.2 (.castable (exN 0) (exN 0)) (by simp [xF]))) (fun q9 H locs I => ?_)
      refine lv_astore (lv' := (4, .ref q9) :: [(0, .ref (a 0)), (1, .int x91), (2, .int x92), (3, .ref ob)]) hx hb dL_least_13 hl (by decide) rfl (fun ls hl => ?_)
      refine lv_iconst (v := (1 : Int32)) hx hb dL_least_15 (by decide) ?_
      exact K _ _ _ _ I dL_least_16
    by_cases hk1 : k9 = 1
    · subst hk1
      have hv : (2 : Int32) = v := by simpa [hcd] using hv
      subst hv
      refine r_catch (En := exN 1) (name := exN 1) (ws' := cW g a st') (As := [.int x91, .int x92]) (rest := [.int 0, .ref ob]) xw hAH E I hl.1 kL_68 (t4_least hl0 h) cW_k (q0 := 0) rfl rfl rfl rfl (Nat.le_of_ble_eq_true rfl) ⟨(Nat.le_of_ble_eq_true rfl), (Nat.le_of_ble_eq_true rfl)⟩ ⟨(Nat.le_of_ble_eq_true rfl), (Nat.le_of_ble_eq_true rfl)⟩ dL_least_5 [⟨0, 10, 13, 13⟩] ⟨0, 10, 17, 15⟩ [] (htab.trans rfl) (fun z hz => by
        simp only [List.mem_cons, List.not_mem_nil, or_false] at hz
        rcases hz with rfl
        · exact Or.inr ⟨by decide, _, E.1.2.2.2.2 _ ck_13, nc.1⟩) (by decide) (by decide) ck_15 (va_any rfl (xw.2.2.2 (.castable (exN 1) (exN 1)) (by simp [xF]))) (fun q9 H locs I => ?_)
      refine lv_astore (lv' := (4, .ref q9) :: [(0, .ref (a 0)), (1, .int x91), (2, .int x92), (3, .ref ob)]) hx hb dL_least_17 hl (by decide) rfl (fun ls hl => ?_)
      refine lv_iconst (v := (2 : Int32)) hx hb dL_least_19 (by decide) ?_
      exact K _ _ _ _ I dL_least_20
    exact absurd hv (by simp [hcd, hk0, hk1])
set_option maxHeartbeats 4000000 in
set_option maxRecDepth 100000 in
theorem h_sums {l : Launch} {D : va_G} {g : Nat → ClassId} {a : Nat → Nat} {ob : Nat} {st st' : CS} {w : Nat → Int64} {x91 x92 x93 x94 : Int32} {res : Nat ⊕ Int32} {v : Int32} (hl0 : l.stackTraces = false) (h : f4_sums st x91 x92 x93 x94 = some (st', res)) (hv : hco [1] res = some v) : lct l yL_sums cL_sums 7 [(0, 14, 17, 15)] (rmx 8 128) D g (cW g a st ++ oW g ob w) (cW g a st' ++ oW g ob (houtI w res)) [.ref (a 0), .int x91, .int x92, .int x93, .int x94, .ref ob] v := by
  refine lct_of plL (Nat.le_of_ble_eq_true rfl) ?_
  intro p e s m args below meth c ls Q A H0 H locs E I hAH xw nc htab hl K
  have E : en p m c cL_sums 7 s args RL D g := E
  have hx := E.1.1
  have hb := E.1.2.1
  have hl : lv_has ls 7 [(0, .ref (a 0)), (1, .int x91), (2, .int x92), (3, .int x93), (4, .int x94), (5, .ref ob)] := hl
  refine lv_aload hx hb dL_sums_0 (lv_at hl 5 rfl) ?_
  refine lv_iconst (v := (0 : Int32)) hx hb dL_sums_2 (by decide) ?_
  refine lv_aload_n hx hb dL_sums_3 rfl (lv_at hl 0 rfl) ?_
  refine lv_iload_n hx hb dL_sums_4 rfl (lv_at hl 1 rfl) ?_
  refine lv_iload_n hx hb dL_sums_5 rfl (lv_at hl 2 rfl) ?_
  refine lv_iload_n hx hb dL_sums_6 rfl (lv_at hl 3 rfl) ?_
  refine lv_iload hx hb dL_sums_7 (lv_at hl 4 rfl) ?_
  cases res with
  | inr r9 =>
    cases hv
    refine r_callF1 (ws' := cW g a st') (As := [.int x91, .int x92, .int x93, .int x94]) (v := .int r9) (rest := [.int 0, .ref ob]) E I hl.1 kL_71 (c4_sums h) cW_k (q0 := 0) rfl rfl rfl rfl (Nat.le_of_ble_eq_true rfl) ⟨(Nat.le_of_ble_eq_true rfl), (Nat.le_of_ble_eq_true rfl)⟩ ⟨Nat.zero_le _, Nat.zero_le _⟩ dL_sums_9 (fun H locs I => ?_)
    refine lv_i2l (v := r9.toInt64) hx hb dL_sums_12 rfl ?_
    refine r_last (ws' := cW g a st' ++ oW g ob (vp_updL w (0 : Int32).toNatClampNeg r9.toInt64)) (f := w) E I 50 rfl rfl (by decide) dL_sums_13 (fun H locs I => ?_)
    refine lv_goto (tgt := 21) hx hb dL_sums_14 (by decide) ?_
    refine lv_iconst (v := (0 : Int32)) hx hb dL_sums_21 (by decide) ?_
    refine W.widen (k := 1) (n := 6) (Nat.zero_le _) (Nat.zero_le _) ?_
    exact K _ _ _ _ I dL_sums_22
  | inl k9 =>
    have hv : hcd [1] 1 k9 = some v := hv
    by_cases hk0 : k9 = 1
    · subst hk0
      have hv : (1 : Int32) = v := by simpa [hcd] using hv
      subst hv
      refine r_catch (En := exN 1) (name := exN 1) (ws' := cW g a st') (As := [.int x91, .int x92, .int x93, .int x94]) (rest := [.int 0, .ref ob]) xw hAH E I hl.1 kL_71 (t4_sums hl0 h) cW_k (q0 := 0) rfl rfl rfl rfl (Nat.le_of_ble_eq_true rfl) ⟨(Nat.le_of_ble_eq_true rfl), (Nat.le_of_ble_eq_true rfl)⟩ ⟨(Nat.le_of_ble_eq_true rfl), (Nat.le_of_ble_eq_true rfl)⟩ dL_sums_9 [] ⟨0, 14, 17, 15⟩ [] (htab.trans rfl) (fun z hz => absurd hz List.not_mem_nil) (by decide) (by decide) ck_15 (va_any rfl (xw.2.2.2 (.castable (exN 1) (exN 1)) (by simp [xF]))) (fun q9 H locs I => ?_)
      refine lv_astore (lv' := (6, .ref q9) :: [(0, .ref (a 0)), (1, .int x91), (2, .int x92), (3, .int x93), (4, .int x94), (5, .ref ob)]) hx hb dL_sums_17 hl (by decide) rfl (fun ls hl => ?_)
      refine lv_iconst (v := (1 : Int32)) hx hb dL_sums_19 (by decide) ?_
      exact K _ _ _ _ I dL_sums_20
    exact absurd hv (by simp [hcd, hk0])
set_option maxHeartbeats 4000000 in
set_option maxRecDepth 100000 in
theorem h_count {l : Launch} {D : va_G} {g : Nat → ClassId} {a : Nat → Nat} {ob : Nat} {st st' : CS} {w : Nat → Int64} {x91 : Int32} {res : Nat ⊕ Int32} {v : Int32} (hl0 : l.stackTraces = false) (h : f4_count st x91 = some (st', res)) (hv : hco [1] res = some v) : lct l yL_count cL_count 4 [(0, 9, 12, 15)] (rmx 8 125) D g (cW g a st ++ oW g ob w) (cW g a st' ++ oW g ob (houtI w res)) [.ref (a 0), .int x91, .ref ob] v := by
  refine lct_of plL (Nat.le_of_ble_eq_true rfl) ?_
  intro p e s m args below meth c ls Q A H0 H locs E I hAH xw nc htab hl K
  have E : en p m c cL_count 4 s args RL D g := E
  have hx := E.1.1
  have hb := E.1.2.1
  have hl : lv_has ls 4 [(0, .ref (a 0)), (1, .int x91), (2, .ref ob)] := hl
  refine lv_aload_n hx hb dL_count_0 rfl (lv_at hl 2 rfl) ?_
  refine lv_iconst (v := (0 : Int32)) hx hb dL_count_1 (by decide) ?_
  refine lv_aload_n hx hb dL_count_2 rfl (lv_at hl 0 rfl) ?_
  refine lv_iload_n hx hb dL_count_3 rfl (lv_at hl 1 rfl) ?_
  cases res with
  | inr r9 =>
    cases hv
    refine r_callF1 (ws' := cW g a st') (As := [.int x91]) (v := .int r9) (rest := [.int 0, .ref ob]) E I hl.1 kL_75 (c4_count h) cW_k (q0 := 0) rfl rfl rfl rfl (Nat.le_of_ble_eq_true rfl) ⟨(Nat.le_of_ble_eq_true rfl), (Nat.le_of_ble_eq_true rfl)⟩ ⟨Nat.zero_le _, Nat.zero_le _⟩ dL_count_4 (fun H locs I => ?_)
    refine lv_i2l (v := r9.toInt64) hx hb dL_count_7 rfl ?_
    refine r_last (ws' := cW g a st' ++ oW g ob (vp_updL w (0 : Int32).toNatClampNeg r9.toInt64)) (f := w) E I 50 rfl rfl (by decide) dL_count_8 (fun H locs I => ?_)
    refine lv_goto (tgt := 15) hx hb dL_count_9 (by decide) ?_
    refine lv_iconst (v := (0 : Int32)) hx hb dL_count_15 (by decide) ?_
    refine W.widen (k := 1) (n := 6) (Nat.zero_le _) (Nat.zero_le _) ?_
    exact K _ _ _ _ I dL_count_16
  | inl k9 =>
    have hv : hcd [1] 1 k9 = some v := hv
    by_cases hk0 : k9 = 1
    · subst hk0
      have hv : (1 : Int32) = v := by simpa [hcd] using hv
      subst hv
      refine r_catch (En := exN 1) (name := exN 1) (ws' := cW g a st') (As := [.int x91]) (rest := [.int 0, .ref ob]) xw hAH E I hl.1 kL_75 (t4_count hl0 h) cW_k (q0 := 0) rfl rfl rfl rfl (Nat.le_of_ble_eq_true rfl) ⟨(Nat.le_of_ble_eq_true rfl), (Nat.le_of_ble_eq_true rfl)⟩ ⟨(Nat.le_of_ble_eq_true rfl), (Nat.le_of_ble_eq_true rfl)⟩ dL_count_4 [] ⟨0, 9, 12, 15⟩ [] (htab.trans rfl) (fun z hz => absurd hz List.not_mem_nil) (by decide) (by decide) ck_15 (va_any rfl (xw.2.2.2 (.castable (exN 1) (exN 1)) (by simp [xF]))) (fun q9 H locs I => ?_)
      refine lv_astore_n (lv' := (3, .ref q9) :: [(0, .ref (a 0)), (1, .int x91), (2, .ref ob)]) hx hb dL_count_12 rfl hl (by decide) rfl (fun ls hl => ?_)
      refine lv_iconst (v := (1 : Int32)) hx hb dL_count_13 (by decide) ?_
      exact K _ _ _ _ I dL_count_14
    exact absurd hv (by simp [hcd, hk0])
set_option maxHeartbeats 4000000 in
set_option maxRecDepth 100000 in
theorem h_setting {l : Launch} {D : va_G} {g : Nat → ClassId} {a : Nat → Nat} {ob : Nat} {st st' : CS} {w : Nat → Int64} {x91 : Int32} {res : Nat ⊕ Int32} {v : Int32} (hl0 : l.stackTraces = false) (h : f4_setting st x91 = some (st', res)) (hv : hco [0] res = some v) : lct l yL_setting cL_setting 4 [(0, 9, 12, 13)] (rmx 8 124) D g (cW g a st ++ oW g ob w) (cW g a st' ++ oW g ob (houtI w res)) [.ref (a 0), .int x91, .ref ob] v := by
  refine lct_of plL (Nat.le_of_ble_eq_true rfl) ?_
  intro p e s m args below meth c ls Q A H0 H locs E I hAH xw nc htab hl K
  have E : en p m c cL_setting 4 s args RL D g := E
  have hx := E.1.1
  have hb := E.1.2.1
  have hl : lv_has ls 4 [(0, .ref (a 0)), (1, .int x91), (2, .ref ob)] := hl
  refine lv_aload_n hx hb dL_setting_0 rfl (lv_at hl 2 rfl) ?_
  refine lv_iconst (v := (0 : Int32)) hx hb dL_setting_1 (by decide) ?_
  refine lv_aload_n hx hb dL_setting_2 rfl (lv_at hl 0 rfl) ?_
  refine lv_iload_n hx hb dL_setting_3 rfl (lv_at hl 1 rfl) ?_
  cases res with
  | inr r9 =>
    cases hv
    refine r_callF1 (ws' := cW g a st') (As := [.int x91]) (v := .int r9) (rest := [.int 0, .ref ob]) E I hl.1 kL_78 (c4_setting h) cW_k (q0 := 0) rfl rfl rfl rfl (Nat.le_of_ble_eq_true rfl) ⟨(Nat.le_of_ble_eq_true rfl), (Nat.le_of_ble_eq_true rfl)⟩ ⟨Nat.zero_le _, Nat.zero_le _⟩ dL_setting_4 (fun H locs I => ?_)
    refine lv_i2l (v := r9.toInt64) hx hb dL_setting_7 rfl ?_
    refine r_last (ws' := cW g a st' ++ oW g ob (vp_updL w (0 : Int32).toNatClampNeg r9.toInt64)) (f := w) E I 50 rfl rfl (by decide) dL_setting_8 (fun H locs I => ?_)
    refine lv_goto (tgt := 15) hx hb dL_setting_9 (by decide) ?_
    refine lv_iconst (v := (0 : Int32)) hx hb dL_setting_15 (by decide) ?_
    refine W.widen (k := 1) (n := 6) (Nat.zero_le _) (Nat.zero_le _) ?_
    exact K _ _ _ _ I dL_setting_16
  | inl k9 =>
    have hv : hcd [0] 1 k9 = some v := hv
    by_cases hk0 : k9 = 0
    · subst hk0
      have hv : (1 : Int32) = v := by simpa [hcd] using hv
      subst hv
      refine r_catch (En := exN 0) (name := exN 0) (ws' := cW g a st') (As := [.int x91]) (rest := [.int 0, .ref ob]) xw hAH E I hl.1 kL_78 (t4_setting hl0 h) cW_k (q0 := 0) rfl rfl rfl rfl (Nat.le_of_ble_eq_true rfl) ⟨(Nat.le_of_ble_eq_true rfl), (Nat.le_of_ble_eq_true rfl)⟩ ⟨(Nat.le_of_ble_eq_true rfl), (Nat.le_of_ble_eq_true rfl)⟩ dL_setting_4 [] ⟨0, 9, 12, 13⟩ [] (htab.trans rfl) (fun z hz => absurd hz List.not_mem_nil) (by decide) (by decide) ck_13 (va_any rfl (xw.2.2.2 (.castable (exN 0) (exN 0)) (by simp [xF]))) (fun q9 H locs I => ?_)
      refine lv_astore_n (lv' := (3, .ref q9) :: [(0, .ref (a 0)), (1, .int x91), (2, .ref ob)]) hx hb dL_setting_12 rfl hl (by decide) rfl (fun ls hl => ?_)
      refine lv_iconst (v := (1 : Int32)) hx hb dL_setting_13 (by decide) ?_
      exact K _ _ _ _ I dL_setting_14
    exact absurd hv (by simp [hcd, hk0])
set_option maxHeartbeats 4000000 in
set_option maxRecDepth 100000 in
theorem h_ifMore {l : Launch} {D : va_G} {g : Nat → ClassId} {a : Nat → Nat} {ob : Nat} {st st' : CS} {w : Nat → Int64} {x91 x92 : Int32} {res : Nat ⊕ Int64} {v : Int32} (hl0 : l.stackTraces = false) (h : f4_ifMore st x91 x92 = some (st', res)) (hv : hco [0, 1] res = some v) : lct l yL_ifMore cL_ifMore 5 [(0, 9, 12, 13), (0, 9, 16, 15)] (rmx 8 139) D g (cW g a st ++ oW g ob w) (cW g a st' ++ oW g ob (houtJ w res)) [.ref (a 0), .int x91, .int x92, .ref ob] v := by
  refine lct_of plL (Nat.le_of_ble_eq_true rfl) ?_
  intro p e s m args below meth c ls Q A H0 H locs E I hAH xw nc htab hl K
  have E : en p m c cL_ifMore 5 s args RL D g := E
  have hx := E.1.1
  have hb := E.1.2.1
  have hl : lv_has ls 5 [(0, .ref (a 0)), (1, .int x91), (2, .int x92), (3, .ref ob)] := hl
  refine lv_aload_n hx hb dL_ifMore_0 rfl (lv_at hl 3 rfl) ?_
  refine lv_iconst (v := (0 : Int32)) hx hb dL_ifMore_1 (by decide) ?_
  refine lv_aload_n hx hb dL_ifMore_2 rfl (lv_at hl 0 rfl) ?_
  refine lv_iload_n hx hb dL_ifMore_3 rfl (lv_at hl 1 rfl) ?_
  refine lv_iload_n hx hb dL_ifMore_4 rfl (lv_at hl 2 rfl) ?_
  cases res with
  | inr r9 =>
    cases hv
    refine r_callF1 (ws' := cW g a st') (As := [.int x91, .int x92]) (v := .long r9) (rest := [.int 0, .ref ob]) E I hl.1 kL_81 (c4_ifMore h) cW_k (q0 := 0) rfl rfl rfl rfl (Nat.le_of_ble_eq_true rfl) ⟨(Nat.le_of_ble_eq_true rfl), (Nat.le_of_ble_eq_true rfl)⟩ ⟨Nat.zero_le _, Nat.zero_le _⟩ dL_ifMore_5 (fun H locs I => ?_)
    refine r_last (ws' := cW g a st' ++ oW g ob (vp_updL w (0 : Int32).toNatClampNeg r9)) (f := w) E I 50 rfl rfl (by decide) dL_ifMore_8 (fun H locs I => ?_)
    refine lv_goto (tgt := 20) hx hb dL_ifMore_9 (by decide) ?_
    refine lv_iconst (v := (0 : Int32)) hx hb dL_ifMore_20 (by decide) ?_
    refine W.widen (k := 1) (n := 6) (Nat.zero_le _) (Nat.zero_le _) ?_
    exact K _ _ _ _ I dL_ifMore_21
  | inl k9 =>
    have hv : hcd [0, 1] 1 k9 = some v := hv
    by_cases hk0 : k9 = 0
    · subst hk0
      have hv : (1 : Int32) = v := by simpa [hcd] using hv
      subst hv
      refine r_catch (En := exN 0) (name := exN 0) (ws' := cW g a st') (As := [.int x91, .int x92]) (rest := [.int 0, .ref ob]) xw hAH E I hl.1 kL_81 (t4_ifMore hl0 h) cW_k (q0 := 0) rfl rfl rfl rfl (Nat.le_of_ble_eq_true rfl) ⟨(Nat.le_of_ble_eq_true rfl), (Nat.le_of_ble_eq_true rfl)⟩ ⟨(Nat.le_of_ble_eq_true rfl), (Nat.le_of_ble_eq_true rfl)⟩ dL_ifMore_5 [] ⟨0, 9, 12, 13⟩ [⟨0, 9, 16, 15⟩] (htab.trans rfl) (fun z hz => absurd hz List.not_mem_nil) (by decide) (by decide) ck_13 (va_any rfl (xw.2.2.2 (.castable (exN 0) (exN 0)) (by simp [xF]))) (fun q9 H locs I => ?_)
      refine lv_astore (lv' := (4, .ref q9) :: [(0, .ref (a 0)), (1, .int x91), (2, .int x92), (3, .ref ob)]) hx hb dL_ifMore_12 hl (by decide) rfl (fun ls hl => ?_)
      refine lv_iconst (v := (1 : Int32)) hx hb dL_ifMore_14 (by decide) ?_
      exact K _ _ _ _ I dL_ifMore_15
    by_cases hk1 : k9 = 1
    · subst hk1
      have hv : (2 : Int32) = v := by simpa [hcd] using hv
      subst hv
      refine r_catch (En := exN 1) (name := exN 1) (ws' := cW g a st') (As := [.int x91, .int x92]) (rest := [.int 0, .ref ob]) xw hAH E I hl.1 kL_81 (t4_ifMore hl0 h) cW_k (q0 := 0) rfl rfl rfl rfl (Nat.le_of_ble_eq_true rfl) ⟨(Nat.le_of_ble_eq_true rfl), (Nat.le_of_ble_eq_true rfl)⟩ ⟨(Nat.le_of_ble_eq_true rfl), (Nat.le_of_ble_eq_true rfl)⟩ dL_ifMore_5 [⟨0, 9, 12, 13⟩] ⟨0, 9, 16, 15⟩ [] (htab.trans rfl) (fun z hz => by
        simp only [List.mem_cons, List.not_mem_nil, or_false] at hz
        rcases hz with rfl
        · exact Or.inr ⟨by decide, _, E.1.2.2.2.2 _ ck_13, nc.1⟩) (by decide) (by decide) ck_15 (va_any rfl (xw.2.2.2 (.castable (exN 1) (exN 1)) (by simp [xF]))) (fun q9 H locs I => ?_)
      refine lv_astore (lv' := (4, .ref q9) :: [(0, .ref (a 0)), (1, .int x91), (2, .int x92), (3, .ref ob)]) hx hb dL_ifMore_16 hl (by decide) rfl (fun ls hl => ?_)
      refine lv_iconst (v := (2 : Int32)) hx hb dL_ifMore_18 (by decide) ?_
      exact K _ _ _ _ I dL_ifMore_19
    exact absurd hv (by simp [hcd, hk0, hk1])
set_option maxHeartbeats 4000000 in
set_option maxRecDepth 100000 in
theorem h_ifRewritten {l : Launch} {D : va_G} {g : Nat → ClassId} {a : Nat → Nat} {ob : Nat} {st st' : CS} {w : Nat → Int64} {x91 x92 : Int32} {res : Nat ⊕ Int32} {v : Int32} (hl0 : l.stackTraces = false) (h : f4_ifRewritten st x91 x92 = some (st', res)) (hv : hco [0, 1] res = some v) : lct l yL_ifRewritten cL_ifRewritten 5 [(0, 10, 13, 13), (0, 10, 17, 15)] (rmx 8 160) D g (cW g a st ++ oW g ob w) (cW g a st' ++ oW g ob (houtI w res)) [.ref (a 0), .int x91, .int x92, .ref ob] v := by
  refine lct_of plL (Nat.le_of_ble_eq_true rfl) ?_
  intro p e s m args below meth c ls Q A H0 H locs E I hAH xw nc htab hl K
  have E : en p m c cL_ifRewritten 5 s args RL D g := E
  have hx := E.1.1
  have hb := E.1.2.1
  have hl : lv_has ls 5 [(0, .ref (a 0)), (1, .int x91), (2, .int x92), (3, .ref ob)] := hl
  refine lv_aload_n hx hb dL_ifRewritten_0 rfl (lv_at hl 3 rfl) ?_
  refine lv_iconst (v := (0 : Int32)) hx hb dL_ifRewritten_1 (by decide) ?_
  refine lv_aload_n hx hb dL_ifRewritten_2 rfl (lv_at hl 0 rfl) ?_
  refine lv_iload_n hx hb dL_ifRewritten_3 rfl (lv_at hl 1 rfl) ?_
  refine lv_iload_n hx hb dL_ifRewritten_4 rfl (lv_at hl 2 rfl) ?_
  cases res with
  | inr r9 =>
    cases hv
    refine r_callF1 (ws' := cW g a st') (As := [.int x91, .int x92]) (v := .int r9) (rest := [.int 0, .ref ob]) E I hl.1 kL_85 (c4_ifRewritten h) cW_k (q0 := 0) rfl rfl rfl rfl (Nat.le_of_ble_eq_true rfl) ⟨(Nat.le_of_ble_eq_true rfl), (Nat.le_of_ble_eq_true rfl)⟩ ⟨Nat.zero_le _, Nat.zero_le _⟩ dL_ifRewritten_5 (fun H locs I => ?_)
    refine lv_i2l (v := r9.toInt64) hx hb dL_ifRewritten_8 rfl ?_
    refine r_last (ws' := cW g a st' ++ oW g ob (vp_updL w (0 : Int32).toNatClampNeg r9.toInt64)) (f := w) E I 50 rfl rfl (by decide) dL_ifRewritten_9 (fun H locs I => ?_)
    refine lv_goto (tgt := 21) hx hb dL_ifRewritten_10 (by decide) ?_
    refine lv_iconst (v := (0 : Int32)) hx hb dL_ifRewritten_21 (by decide) ?_
    refine W.widen (k := 1) (n := 6) (Nat.zero_le _) (Nat.zero_le _) ?_
    exact K _ _ _ _ I dL_ifRewritten_22
  | inl k9 =>
    have hv : hcd [0, 1] 1 k9 = some v := hv
    by_cases hk0 : k9 = 0
    · subst hk0
      have hv : (1 : Int32) = v := by simpa [hcd] using hv
      subst hv
      refine r_catch (En := exN 0) (name := exN 0) (ws' := cW g a st') (As := [.int x91, .int x92]) (rest := [.int 0, .ref ob]) xw hAH E I hl.1 kL_85 (t4_ifRewritten hl0 h) cW_k (q0 := 0) rfl rfl rfl rfl (Nat.le_of_ble_eq_true rfl) ⟨(Nat.le_of_ble_eq_true rfl), (Nat.le_of_ble_eq_true rfl)⟩ ⟨(Nat.le_of_ble_eq_true rfl), (Nat.le_of_ble_eq_true rfl)⟩ dL_ifRewritten_5 [] ⟨0, 10, 13, 13⟩ [⟨0, 10, 17, 15⟩] (htab.trans rfl) (fun z hz => absurd hz List.not_mem_nil) (by decide) (by decide) ck_13 (va_any rfl (xw.2.2.2 (.castable (exN 0) (exN 0)) (by simp [xF]))) (fun q9 H locs I => ?_)
      refine lv_astore (lv' := (4, .ref q9) :: [(0, .ref (a 0)), (1, .int x91), (2, .int x92), (3, .ref ob)]) hx hb dL_ifRewritten_13 hl (by decide) rfl (fun ls hl => ?_)
      refine lv_iconst (v := (1 : Int32)) hx hb dL_ifRewritten_15 (by decide) ?_
      exact K _ _ _ _ I dL_ifRewritten_16
    by_cases hk1 : k9 = 1
    · subst hk1
      have hv : (2 : Int32) = v := by simpa [hcd] using hv
      subst hv
      refine r_catch (En := exN 1) (name := exN 1) (ws' := cW g a st') (As := [.int x91, .int x92]) (rest := [.int 0, .ref ob]) xw hAH E I hl.1 kL_85 (t4_ifRewritten hl0 h) cW_k (q0 := 0) rfl rfl rfl rfl (Nat.le_of_ble_eq_true rfl) ⟨(Nat.le_of_ble_eq_true rfl), (Nat.le_of_ble_eq_true rfl)⟩ ⟨(Nat.le_of_ble_eq_true rfl), (Nat.le_of_ble_eq_true rfl)⟩ dL_ifRewritten_5 [⟨0, 10, 13, 13⟩] ⟨0, 10, 17, 15⟩ [] (htab.trans rfl) (fun z hz => by
        simp only [List.mem_cons, List.not_mem_nil, or_false] at hz
        rcases hz with rfl
        · exact Or.inr ⟨by decide, _, E.1.2.2.2.2 _ ck_13, nc.1⟩) (by decide) (by decide) ck_15 (va_any rfl (xw.2.2.2 (.castable (exN 1) (exN 1)) (by simp [xF]))) (fun q9 H locs I => ?_)
      refine lv_astore (lv' := (4, .ref q9) :: [(0, .ref (a 0)), (1, .int x91), (2, .int x92), (3, .ref ob)]) hx hb dL_ifRewritten_17 hl (by decide) rfl (fun ls hl => ?_)
      refine lv_iconst (v := (2 : Int32)) hx hb dL_ifRewritten_19 (by decide) ?_
      exact K _ _ _ _ I dL_ifRewritten_20
    exact absurd hv (by simp [hcd, hk0, hk1])
set_option maxHeartbeats 4000000 in
set_option maxRecDepth 100000 in
theorem h_shortest {l : Launch} {D : va_G} {g : Nat → ClassId} {a : Nat → Nat} {ob : Nat} {st st' : CS} {w : Nat → Int64} {x91 : Int32} {res : Nat ⊕ Int32} {v : Int32} (hl0 : l.stackTraces = false) (h : f4_shortest st x91 = some (st', res)) (hv : hco [0] res = some v) : lct l yL_shortest cL_shortest 4 [(0, 9, 12, 13)] (rmx 8 143) D g (cW g a st ++ oW g ob w) (cW g a st' ++ oW g ob (houtI w res)) [.ref (a 0), .int x91, .ref ob] v := by
  refine lct_of plL (Nat.le_of_ble_eq_true rfl) ?_
  intro p e s m args below meth c ls Q A H0 H locs E I hAH xw nc htab hl K
  have E : en p m c cL_shortest 4 s args RL D g := E
  have hx := E.1.1
  have hb := E.1.2.1
  have hl : lv_has ls 4 [(0, .ref (a 0)), (1, .int x91), (2, .ref ob)] := hl
  refine lv_aload_n hx hb dL_shortest_0 rfl (lv_at hl 2 rfl) ?_
  refine lv_iconst (v := (0 : Int32)) hx hb dL_shortest_1 (by decide) ?_
  refine lv_aload_n hx hb dL_shortest_2 rfl (lv_at hl 0 rfl) ?_
  refine lv_iload_n hx hb dL_shortest_3 rfl (lv_at hl 1 rfl) ?_
  cases res with
  | inr r9 =>
    cases hv
    refine r_callF1 (ws' := cW g a st') (As := [.int x91]) (v := .int r9) (rest := [.int 0, .ref ob]) E I hl.1 kL_88 (c4_shortest h) cW_k (q0 := 0) rfl rfl rfl rfl (Nat.le_of_ble_eq_true rfl) ⟨(Nat.le_of_ble_eq_true rfl), (Nat.le_of_ble_eq_true rfl)⟩ ⟨Nat.zero_le _, Nat.zero_le _⟩ dL_shortest_4 (fun H locs I => ?_)
    refine lv_i2l (v := r9.toInt64) hx hb dL_shortest_7 rfl ?_
    refine r_last (ws' := cW g a st' ++ oW g ob (vp_updL w (0 : Int32).toNatClampNeg r9.toInt64)) (f := w) E I 50 rfl rfl (by decide) dL_shortest_8 (fun H locs I => ?_)
    refine lv_goto (tgt := 15) hx hb dL_shortest_9 (by decide) ?_
    refine lv_iconst (v := (0 : Int32)) hx hb dL_shortest_15 (by decide) ?_
    refine W.widen (k := 1) (n := 6) (Nat.zero_le _) (Nat.zero_le _) ?_
    exact K _ _ _ _ I dL_shortest_16
  | inl k9 =>
    have hv : hcd [0] 1 k9 = some v := hv
    by_cases hk0 : k9 = 0
    · subst hk0
      have hv : (1 : Int32) = v := by simpa [hcd] using hv
      subst hv
      refine r_catch (En := exN 0) (name := exN 0) (ws' := cW g a st') (As := [.int x91]) (rest := [.int 0, .ref ob]) xw hAH E I hl.1 kL_88 (t4_shortest hl0 h) cW_k (q0 := 0) rfl rfl rfl rfl (Nat.le_of_ble_eq_true rfl) ⟨(Nat.le_of_ble_eq_true rfl), (Nat.le_of_ble_eq_true rfl)⟩ ⟨(Nat.le_of_ble_eq_true rfl), (Nat.le_of_ble_eq_true rfl)⟩ dL_shortest_4 [] ⟨0, 9, 12, 13⟩ [] (htab.trans rfl) (fun z hz => absurd hz List.not_mem_nil) (by decide) (by decide) ck_13 (va_any rfl (xw.2.2.2 (.castable (exN 0) (exN 0)) (by simp [xF]))) (fun q9 H locs I => ?_)
      refine lv_astore_n (lv' := (3, .ref q9) :: [(0, .ref (a 0)), (1, .int x91), (2, .ref ob)]) hx hb dL_shortest_12 rfl hl (by decide) rfl (fun ls hl => ?_)
      refine lv_iconst (v := (1 : Int32)) hx hb dL_shortest_13 (by decide) ?_
      exact K _ _ _ _ I dL_shortest_14
    exact absurd hv (by simp [hcd, hk0])
