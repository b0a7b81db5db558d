set_option maxHeartbeats 4000000 in
set_option maxRecDepth 100000 in
theorem vL_at {l : Launch} {D : va_G} {g : Nat → ClassId} {x90 : Int32} {x91 : Int32} {o : Int32} (h : fL_at x90 x91 = some o) : ct l yL_at cL_at 2 (some .int) (rmk 0 0) D g [] [] [.int x90, .int x91] (some (.int o)) := by
  refine ct_of ⟨rfl, rfl⟩ (by decide) (Nat.le_of_ble_eq_true rfl) ?_
  intro p e s m args below meth c ls Q A H0 H locs E I hl K
  have E : en p m c cL_at 2 s args RL D g := E
  have hx := E.1.1
  have hb := E.1.2.1
  have hl : lv_has ls 2 [(0, .int x90), (1, .int x91)] := hl
  have K : ∀ (pc : Nat) (ls : Array Slot) (H : Heap) (locs : List Loc), wk D [] A H0 H locs → decode cL_at pc = .ok (.ireturn, 1) → W p l e (rmk 0 0) s m args below meth c H locs 0 0 Q (F0 m pc ls [.int o]) := fun pc ls H locs I hd => K pc ls H locs I hd
  have h : ((if x91 = 0 then none else some (((x90).toUInt32 >>> (((1 : Int32)).toUInt32 &&& Int32.toUInt32 31)).toInt32 - ((x90).toUInt32 >>> (((1 : Int32)).toUInt32 &&& Int32.toUInt32 31)).toInt32 / x91 * x91)) : Option Int32) = some o := h
  refine lv_iload_n hx hb dL_at_0 rfl (lv_at hl 0 rfl) ?_
  refine lv_iconst (v := (1 : Int32)) hx hb dL_at_1 (by decide) ?_
  refine lv_iushr (v := ((x90).toUInt32 >>> (((1 : Int32)).toUInt32 &&& Int32.toUInt32 31)).toInt32) hx hb dL_at_2 rfl ?_
  refine lv_iload_n hx hb dL_at_3 rfl (lv_at hl 1 rfl) ?_
  obtain ⟨hz1, h⟩ := gz h
  refine lv_irem hx hb dL_at_4 hz1 ?_
  cases h
  exact K _ _ _ _ I dL_at_5
set_option maxHeartbeats 4000000 in
set_option maxRecDepth 100000 in
theorem vL_solutions {l : Launch} {D : va_G} {g : Nat → ClassId} {a : Nat → Nat} {st : NS} {x92 : Int32} {x93 : Int32} {o : Int32} (h : fL_solutions st x92 x93 = some o) : ct l yL_solutions cL_solutions 10 (some .int) (rmk 0 0) D g (nW g a st) (nW g a st) [.ref (a 0), .ref (a 1), .int x92, .int x93] (some (.int o)) := by
  refine ct_of ⟨rfl, rfl⟩ (by decide) (Nat.le_of_ble_eq_true rfl) ?_
  intro p e s m args below meth c ls Q A H0 H locs E I hl K
  have E : en p m c cL_solutions 10 s args RL D g := E
  have hx := E.1.1
  have hb := E.1.2.1
  have hl : lv_has ls 10 [(0, .ref (a 0)), (1, .ref (a 1)), (2, .int x92), (3, .int x93)] := hl
  have K : ∀ (pc : Nat) (ls : Array Slot) (H : Heap) (locs : List Loc), wk D (nW g a st) A H0 H locs → decode cL_solutions pc = .ok (.ireturn, 1) → W p l e (rmk 0 0) s m args below meth c H locs 0 0 Q (F0 m pc ls [.int o]) := fun pc ls H locs I hd => K pc ls H locs I hd
  have h : ((if ib ((16 : Int32) + x92) 24 = true then (if ib x92 24 = true then (lq (((n_pr st) ((16 : Int32) + x92).toNatClampNeg) - ((n_pr st) x92.toNatClampNeg)) fun x3 => (bi1 (wh (fL_solutions_b18 st x93 x3) FU ((0 : Int32), (0 : Int32))) fun w94 => some (if 0 ≤ x3 then w94 else (0 : Int32)))) else none) else none) : Option Int32) = some o := h
  refine lv_aload_n hx hb dL_solutions_0 rfl (lv_at hl 0 rfl) ?_
  refine lv_bipush (v := (16 : Int32)) hx hb dL_solutions_1 (by decide) ?_
  refine lv_iload_n hx hb dL_solutions_3 rfl (lv_at hl 2 rfl) ?_
  refine lv_iadd hx hb dL_solutions_4 ?_
  obtain ⟨hc1, h⟩ := gd h
  refine n_ld0 E I (f := (n_pr st)) rfl hc1 dL_solutions_5 ?_
  refine lv_aload_n hx hb dL_solutions_6 rfl (lv_at hl 0 rfl) ?_
  refine lv_iload_n hx hb dL_solutions_7 rfl (lv_at hl 2 rfl) ?_
  obtain ⟨hc2, h⟩ := gd h
  refine n_ld0 E I (f := (n_pr st)) rfl hc2 dL_solutions_8 ?_
  refine lv_isub hx hb dL_solutions_9 ?_
  obtain ⟨x3, hx4, h⟩ := lqx h
  refine lv_istore (x := (((n_pr st) ((16 : Int32) + x92).toNatClampNeg) - ((n_pr st) x92.toNatClampNeg))) (lv' := [(4, .int x3), (0, .ref (a 0)), (1, .ref (a 1)), (2, .int x92), (3, .int x93)]) hx hb dL_solutions_10 hl (by decide) (by subst hx4; rfl) (fun ls hl => ?_)
  refine lv_iconst (v := (0 : Int32)) hx hb dL_solutions_12 (by decide) ?_
  refine lv_istore (lv' := [(5, .int (0 : Int32)), (4, .int x3), (0, .ref (a 0)), (1, .ref (a 1)), (2, .int x92), (3, .int x93)]) hx hb dL_solutions_13 hl (by decide) rfl (fun ls hl => ?_)
  refine lv_iconst (v := (0 : Int32)) hx hb dL_solutions_15 (by decide) ?_
  refine lv_istore (lv' := [(6, .int (0 : Int32)), (5, .int (0 : Int32)), (4, .int x3), (0, .ref (a 0)), (1, .ref (a 1)), (2, .int x92), (3, .int x93)]) hx hb dL_solutions_16 hl (by decide) rfl (fun ls hl => ?_)
  obtain ⟨z87, hw88, h⟩ := bx1 h
  refine wh_W (P := fun (z : Int32 × Int32) => ∀ (H : Heap) (locs : List Loc) (ls : Array Slot), wk D (nW g a st) A H0 H locs → lv_has ls 10 [(0, .ref (a 0)), (1, .ref (a 1)), (3, .int x93), (4, .int x3), (5, .int z.1), (6, .int z.2)] → W p l e (rmk 0 0) s m args below meth c H locs 0 0 Q (F0 m 18 ls [])) (X := fun (z : Int32) => ∀ (H : Heap) (locs : List Loc) (ls : Array Slot), wk D (nW g a st) A H0 H locs → lv_has ls 10 [(4, .int x3), (5, .int z)] → W p l e (rmk 0 0) s m args below meth c H locs 0 0 Q (F0 m 263 ls [])) ?_ FU _ _ hw88 ?_ _ _ _ I (lv_sub hl [3, 4, 6, 2, 1, 0] rfl)
  · intro z o10 h hk11 H locs ls I hl
    obtain ⟨x8, x9⟩ := z
    have h : ((if (9 : Int32) < x9 then some (.inr x8) else (if ((n_n st) (1 : Int32).toNatClampNeg) < x9 then some (.inr x8) else (bi1 (wh (fL_solutions_b36 st x93 x3 x9) FU (x8, (0 : Int32))) fun w86 => some (.inl (w86, (x9 + 1)))))) : Option ((Int32 × Int32) ⊕ (Int32))) = some o10 := h
    have I : wk D (nW g a st) A H0 H locs := I
    have hl : lv_has ls 10 [(0, .ref (a 0)), (1, .ref (a 1)), (3, .int x93), (4, .int x3), (5, .int x8), (6, .int x9)] := hl
    refine lv_iload hx hb dL_solutions_18 (lv_at hl 5 rfl) ?_
    refine lv_bipush (v := (9 : Int32)) hx hb dL_solutions_20 (by decide) ?_
    refine lv_icmp_gt (tgt := 263) hx hb dL_solutions_22 (by decide) (fun hc12 => ?_) (fun hc12 => ?_)
    · have h := ifp hc12 h
      cases h
      exact hk11 _ _ _ I (lv_sub hl [3, 4] rfl)
    · have h := ifn hc12 h
      refine lv_iload hx hb dL_solutions_25 (lv_at hl 5 rfl) ?_
      refine lv_aload_n hx hb dL_solutions_27 rfl (lv_at hl 1 rfl) ?_
      refine lv_iconst (v := (1 : Int32)) hx hb dL_solutions_28 (by decide) ?_
      refine n_ld1 E I (f := (n_n st)) rfl (by decide) dL_solutions_29 ?_
      refine lv_icmp_gt (tgt := 263) hx hb dL_solutions_30 (by decide) (fun hc13 => ?_) (fun hc13 => ?_)
      · have h := ifp hc13 h
        cases h
        exact hk11 _ _ _ I (lv_sub hl [3, 4] rfl)
      · have h := ifn hc13 h
        refine lv_iconst (v := (0 : Int32)) hx hb dL_solutions_33 (by decide) ?_
        refine lv_istore (lv' := [(7, .int (0 : Int32)), (0, .ref (a 0)), (1, .ref (a 1)), (3, .int x93), (4, .int x3), (5, .int x8), (6, .int x9)]) hx hb dL_solutions_34 hl (by decide) rfl (fun ls hl => ?_)
        obtain ⟨z83, hw84, h⟩ := bx1 h
        refine wh_W (P := fun (z : Int32 × Int32) => ∀ (H : Heap) (locs : List Loc) (ls : Array Slot), wk D (nW g a st) A H0 H locs → lv_has ls 10 [(0, .ref (a 0)), (1, .ref (a 1)), (3, .int x93), (4, .int x3), (5, .int z.1), (6, .int x9), (7, .int z.2)] → W p l e (rmk 0 0) s m args below meth c H locs 0 0 Q (F0 m 36 ls [])) (X := fun (z : Int32) => ∀ (H : Heap) (locs : List Loc) (ls : Array Slot), wk D (nW g a st) A H0 H locs → lv_has ls 10 [(0, .ref (a 0)), (1, .ref (a 1)), (3, .int x93), (4, .int x3), (5, .int z), (6, .int x9)] → W p l e (rmk 0 0) s m args below meth c H locs 0 0 Q (F0 m 257 ls [])) ?_ FU _ _ hw84 ?_ _ _ _ I (lv_sub hl [1, 2, 3, 4, 5, 6, 0] rfl)
        · intro z o20 h hk21 H locs ls I hl
          obtain ⟨x17, x19⟩ := z
          have h : ((if (9 : Int32) < x19 then some (.inr x17) else (if ((n_n st) (1 : Int32).toNatClampNeg) < x19 then some (.inr x17) else (bi1 (wh (fL_solutions_b54 st x93 x3 x9 x19) FU (x17, (0 : Int32))) fun w82 => some (.inl (w82, (x19 + 1)))))) : Option ((Int32 × Int32) ⊕ (Int32))) = some o20 := h
          have I : wk D (nW g a st) A H0 H locs := I
          have hl : lv_has ls 10 [(0, .ref (a 0)), (1, .ref (a 1)), (3, .int x93), (4, .int x3), (5, .int x17), (6, .int x9), (7, .int x19)] := hl
          refine lv_iload hx hb dL_solutions_36 (lv_at hl 6 rfl) ?_
          refine lv_bipush (v := (9 : Int32)) hx hb dL_solutions_38 (by decide) ?_
          refine lv_icmp_gt (tgt := 257) hx hb dL_solutions_40 (by decide) (fun hc22 => ?_) (fun hc22 => ?_)
          · have h := ifp hc22 h
            cases h
            exact hk21 _ _ _ I (lv_sub hl [0, 1, 2, 3, 4, 5] rfl)
          · have h := ifn hc22 h
            refine lv_iload hx hb dL_solutions_43 (lv_at hl 6 rfl) ?_
            refine lv_aload_n hx hb dL_solutions_45 rfl (lv_at hl 1 rfl) ?_
            refine lv_iconst (v := (1 : Int32)) hx hb dL_solutions_46 (by decide) ?_
            refine n_ld1 E I (f := (n_n st)) rfl (by decide) dL_solutions_47 ?_
            refine lv_icmp_gt (tgt := 257) hx hb dL_solutions_48 (by decide) (fun hc23 => ?_) (fun hc23 => ?_)
            · have h := ifp hc23 h
              cases h
              exact hk21 _ _ _ I (lv_sub hl [0, 1, 2, 3, 4, 5] rfl)
            · have h := ifn hc23 h
              refine lv_iconst (v := (0 : Int32)) hx hb dL_solutions_51 (by decide) ?_
              refine lv_istore (lv' := [(8, .int (0 : Int32)), (0, .ref (a 0)), (1, .ref (a 1)), (3, .int x93), (4, .int x3), (5, .int x17), (6, .int x9), (7, .int x19)]) hx hb dL_solutions_52 hl (by decide) rfl (fun ls hl => ?_)
              obtain ⟨z79, hw80, h⟩ := bx1 h
              refine wh_W (P := fun (z : Int32 × Int32) => ∀ (H : Heap) (locs : List Loc) (ls : Array Slot), wk D (nW g a st) A H0 H locs → lv_has ls 10 [(0, .ref (a 0)), (1, .ref (a 1)), (3, .int x93), (4, .int x3), (5, .int z.1), (6, .int x9), (7, .int x19), (8, .int z.2)] → W p l e (rmk 0 0) s m args below meth c H locs 0 0 Q (F0 m 54 ls [])) (X := fun (z : Int32) => ∀ (H : Heap) (locs : List Loc) (ls : Array Slot), wk D (nW g a st) A H0 H locs → lv_has ls 10 [(0, .ref (a 0)), (1, .ref (a 1)), (3, .int x93), (4, .int x3), (5, .int z), (6, .int x9), (7, .int x19)] → W p l e (rmk 0 0) s m args below meth c H locs 0 0 Q (F0 m 251 ls [])) ?_ FU _ _ hw80 ?_ _ _ _ I (lv_sub hl [1, 2, 3, 4, 5, 6, 7, 0] rfl)
              · intro z o31 h hk32 H locs ls I hl
                obtain ⟨x27, x30⟩ := z
                have h : ((if (9 : Int32) < x30 then some (.inr x27) else (if ((n_n st) (1 : Int32).toNatClampNeg) < x30 then some (.inr x27) else (if x3 < (((((n_pr st) (4 : Int32).toNatClampNeg) * x9) + (((n_pr st) (5 : Int32).toNatClampNeg) * x19)) + (((n_pr st) (6 : Int32).toNatClampNeg) * x30)) then some (.inl (x27, (x30 + 1))) else (if ((n_pr st) (4 : Int32).toNatClampNeg) = 0 then (if 0 < x9 then some (.inl (x27, (x30 + 1))) else fL_solutions_j106 st x93 x3 x9 x19 x27 x30) else fL_solutions_j106 st x93 x3 x9 x19 x27 x30)))) : Option ((Int32 × Int32) ⊕ (Int32))) = some o31 := h
                have I : wk D (nW g a st) A H0 H locs := I
                have hl : lv_has ls 10 [(0, .ref (a 0)), (1, .ref (a 1)), (3, .int x93), (4, .int x3), (5, .int x27), (6, .int x9), (7, .int x19), (8, .int x30)] := hl
                refine lv_iload hx hb dL_solutions_54 (lv_at hl 7 rfl) ?_
                refine lv_bipush (v := (9 : Int32)) hx hb dL_solutions_56 (by decide) ?_
                refine lv_icmp_gt (tgt := 251) hx hb dL_solutions_58 (by decide) (fun hc33 => ?_) (fun hc33 => ?_)
                · have h := ifp hc33 h
                  cases h
                  exact hk32 _ _ _ I (lv_sub hl [0, 1, 2, 3, 4, 5, 6] rfl)
                · have h := ifn hc33 h
                  refine lv_iload hx hb dL_solutions_61 (lv_at hl 7 rfl) ?_
                  refine lv_aload_n hx hb dL_solutions_63 rfl (lv_at hl 1 rfl) ?_
                  refine lv_iconst (v := (1 : Int32)) hx hb dL_solutions_64 (by decide) ?_
                  refine n_ld1 E I (f := (n_n st)) rfl (by decide) dL_solutions_65 ?_
                  refine lv_icmp_gt (tgt := 251) hx hb dL_solutions_66 (by decide) (fun hc34 => ?_) (fun hc34 => ?_)
                  · have h := ifp hc34 h
                    cases h
                    exact hk32 _ _ _ I (lv_sub hl [0, 1, 2, 3, 4, 5, 6] rfl)
                  · have h := ifn hc34 h
                    refine lv_aload_n hx hb dL_solutions_69 rfl (lv_at hl 0 rfl) ?_
                    refine lv_iconst (v := (4 : Int32)) hx hb dL_solutions_70 (by decide) ?_
                    refine n_ld0 E I (f := (n_pr st)) rfl (by decide) dL_solutions_71 ?_
                    refine lv_iload hx hb dL_solutions_72 (lv_at hl 5 rfl) ?_
                    refine lv_imul hx hb dL_solutions_74 ?_
                    refine lv_aload_n hx hb dL_solutions_75 rfl (lv_at hl 0 rfl) ?_
                    refine lv_iconst (v := (5 : Int32)) hx hb dL_solutions_76 (by decide) ?_
                    refine n_ld0 E I (f := (n_pr st)) rfl (by decide) dL_solutions_77 ?_
                    refine lv_iload hx hb dL_solutions_78 (lv_at hl 6 rfl) ?_
                    refine lv_imul hx hb dL_solutions_80 ?_
                    refine lv_iadd hx hb dL_solutions_81 ?_
                    refine lv_aload_n hx hb dL_solutions_82 rfl (lv_at hl 0 rfl) ?_
                    refine lv_bipush (v := (6 : Int32)) hx hb dL_solutions_83 (by decide) ?_
                    refine n_ld0 E I (f := (n_pr st)) rfl (by decide) dL_solutions_85 ?_
                    refine lv_iload hx hb dL_solutions_86 (lv_at hl 7 rfl) ?_
                    refine lv_imul hx hb dL_solutions_88 ?_
                    refine lv_iadd hx hb dL_solutions_89 ?_
                    refine lv_iload hx hb dL_solutions_90 (lv_at hl 3 rfl) ?_
                    refine lv_icmp_gt (tgt := 245) hx hb dL_solutions_92 (by decide) (fun hc35 => ?_) (fun hc35 => ?_)
                    · have h := ifp hc35 h
                      refine lv_iinc (v := (x30 + 1)) (lv' := [(8, .int (x30 + 1)), (0, .ref (a 0)), (1, .ref (a 1)), (3, .int x93), (4, .int x3), (5, .int x27), (6, .int x9), (7, .int x19)]) hx hb dL_solutions_245 hl (k := 7) rfl rfl (by decide) rfl (fun ls hl => ?_)
                      refine lv_goto (tgt := 54) hx hb dL_solutions_248 (by decide) ?_
                      cases h
                      exact hk32 _ _ _ I (lv_sub hl [1, 2, 3, 4, 5, 6, 7, 0] rfl)
                    · have h := ifn hc35 h
                      refine lv_aload_n hx hb dL_solutions_95 rfl (lv_at hl 0 rfl) ?_
                      refine lv_iconst (v := (4 : Int32)) hx hb dL_solutions_96 (by decide) ?_
                      refine n_ld0 E I (f := (n_pr st)) rfl (by decide) dL_solutions_97 ?_
                      have J36 : ∀ (x37 : Int32) (x38 : Int32), fL_solutions_j106 st x93 x3 x9 x19 x37 x38 = some o31 → ∀ (H : Heap) (locs : List Loc) (ls : Array Slot), wk D (nW g a st) A H0 H locs → lv_has ls 10 [(0, .ref (a 0)), (1, .ref (a 1)), (3, .int x93), (4, .int x3), (5, .int x37), (6, .int x9), (7, .int x19), (8, .int x38)] → W p l e (rmk 0 0) s m args below meth c H locs 0 0 Q (F0 m 106 ls []) := by
                        intro x37 x38 h H locs ls I hl
                        have h : ((if ((n_pr st) (5 : Int32).toNatClampNeg) = 0 then (if 0 < x19 then some (.inl (x37, (x38 + 1))) else fL_solutions_j117 st x93 x3 x9 x19 x37 x38) else fL_solutions_j117 st x93 x3 x9 x19 x37 x38) : Option ((Int32 × Int32) ⊕ (Int32))) = some o31 := h
                        refine lv_aload_n hx hb dL_solutions_106 rfl (lv_at hl 0 rfl) ?_
                        refine lv_iconst (v := (5 : Int32)) hx hb dL_solutions_107 (by decide) ?_
                        refine n_ld0 E I (f := (n_pr st)) rfl (by decide) dL_solutions_108 ?_
                        have J39 : ∀ (x40 : Int32) (x41 : Int32), fL_solutions_j117 st x93 x3 x9 x19 x40 x41 = some o31 → ∀ (H : Heap) (locs : List Loc) (ls : Array Slot), wk D (nW g a st) A H0 H locs → lv_has ls 10 [(0, .ref (a 0)), (1, .ref (a 1)), (3, .int x93), (4, .int x3), (5, .int x40), (6, .int x9), (7, .int x19), (8, .int x41)] → W p l e (rmk 0 0) s m args below meth c H locs 0 0 Q (F0 m 117 ls []) := by
                          intro x40 x41 h H locs ls I hl
                          have h : ((if ((n_pr st) (6 : Int32).toNatClampNeg) = 0 then (if x41 ≤ 0 then fL_solutions_j132 st x93 x3 x9 x19 x40 x41 else some (.inl (x40, (x41 + 1)))) else fL_solutions_j132 st x93 x3 x9 x19 x40 x41) : Option ((Int32 × Int32) ⊕ (Int32))) = some o31 := h
                          refine lv_aload_n hx hb dL_solutions_117 rfl (lv_at hl 0 rfl) ?_
                          refine lv_bipush (v := (6 : Int32)) hx hb dL_solutions_118 (by decide) ?_
                          refine n_ld0 E I (f := (n_pr st)) rfl (by decide) dL_solutions_120 ?_
                          have J42 : ∀ (x43 : Int32) (x44 : Int32), fL_solutions_j132 st x93 x3 x9 x19 x43 x44 = some o31 → ∀ (H : Heap) (locs : List Loc) (ls : Array Slot), wk D (nW g a st) A H0 H locs → lv_has ls 10 [(0, .ref (a 0)), (1, .ref (a 1)), (3, .int x93), (4, .int x3), (5, .int x43), (6, .int x9), (7, .int x19), (8, .int x44)] → W p l e (rmk 0 0) s m args below meth c H locs 0 0 Q (F0 m 132 ls []) := by
                            intro x43 x44 h H locs ls I hl
                            have h : ((if (x93 &&& (1 : Int32)) = 0 then fL_solutions_j143 st x93 x3 x9 x19 x43 x44 else (if 0 < x9 then some (.inl (x43, (x44 + 1))) else fL_solutions_j143 st x93 x3 x9 x19 x43 x44)) : Option ((Int32 × Int32) ⊕ (Int32))) = some o31 := h
                            refine lv_iload_n hx hb dL_solutions_132 rfl (lv_at hl 2 rfl) ?_
                            refine lv_iconst (v := (1 : Int32)) hx hb dL_solutions_133 (by decide) ?_
                            refine lv_iand hx hb dL_solutions_134 ?_
                            have J45 : ∀ (x46 : Int32) (x47 : Int32), fL_solutions_j143 st x93 x3 x9 x19 x46 x47 = some o31 → ∀ (H : Heap) (locs : List Loc) (ls : Array Slot), wk D (nW g a st) A H0 H locs → lv_has ls 10 [(0, .ref (a 0)), (1, .ref (a 1)), (3, .int x93), (4, .int x3), (5, .int x46), (6, .int x9), (7, .int x19), (8, .int x47)] → W p l e (rmk 0 0) s m args below meth c H locs 0 0 Q (F0 m 143 ls []) := by
                              intro x46 x47 h H locs ls I hl
                              have h : ((if (x93 &&& (2 : Int32)) = 0 then fL_solutions_j154 st x93 x3 x9 x19 x46 x47 else (if 0 < x19 then some (.inl (x46, (x47 + 1))) else fL_solutions_j154 st x93 x3 x9 x19 x46 x47)) : Option ((Int32 × Int32) ⊕ (Int32))) = some o31 := h
                              refine lv_iload_n hx hb dL_solutions_143 rfl (lv_at hl 2 rfl) ?_
                              refine lv_iconst (v := (2 : Int32)) hx hb dL_solutions_144 (by decide) ?_
                              refine lv_iand hx hb dL_solutions_145 ?_
                              have J48 : ∀ (x49 : Int32) (x50 : Int32), fL_solutions_j154 st x93 x3 x9 x19 x49 x50 = some o31 → ∀ (H : Heap) (locs : List Loc) (ls : Array Slot), wk D (nW g a st) A H0 H locs → lv_has ls 10 [(0, .ref (a 0)), (1, .ref (a 1)), (3, .int x93), (4, .int x3), (5, .int x49), (6, .int x9), (7, .int x19), (8, .int x50)] → W p l e (rmk 0 0) s m args below meth c H locs 0 0 Q (F0 m 154 ls []) := by
                                intro x49 x50 h H locs ls I hl
                                have h : ((if (x93 &&& (4 : Int32)) = 0 then fL_solutions_j168 st x93 x3 x9 x19 x49 x50 else (if x50 ≤ 0 then fL_solutions_j168 st x93 x3 x9 x19 x49 x50 else some (.inl (x49, (x50 + 1))))) : Option ((Int32 × Int32) ⊕ (Int32))) = some o31 := h
                                refine lv_iload_n hx hb dL_solutions_154 rfl (lv_at hl 2 rfl) ?_
                                refine lv_iconst (v := (4 : Int32)) hx hb dL_solutions_155 (by decide) ?_
                                refine lv_iand hx hb dL_solutions_156 ?_
                                have J51 : ∀ (x52 : Int32) (x53 : Int32), fL_solutions_j168 st x93 x3 x9 x19 x52 x53 = some o31 → ∀ (H : Heap) (locs : List Loc) (ls : Array Slot), wk D (nW g a st) A H0 H locs → lv_has ls 10 [(0, .ref (a 0)), (1, .ref (a 1)), (3, .int x93), (4, .int x3), (5, .int x52), (6, .int x9), (7, .int x19), (8, .int x53)] → W p l e (rmk 0 0) s m args below meth c H locs 0 0 Q (F0 m 168 ls []) := by
                                  intro x52 x53 h H locs ls I hl
                                  have h : ((lq (((x3 - (((n_pr st) (4 : Int32).toNatClampNeg) * x9)) - (((n_pr st) (5 : Int32).toNatClampNeg) * x19)) - (((n_pr st) (6 : Int32).toNatClampNeg) * x53)) fun x54 => (if ((n_pr st) (7 : Int32).toNatClampNeg) = 0 then fL_solutions_j208 st x93 x3 x9 x19 x52 x53 x54 else (if (x93 &&& (8 : Int32)) = 0 then (if ((n_pr st) (7 : Int32).toNatClampNeg) = 0 then none else (if (x54 - x54 / ((n_pr st) (7 : Int32).toNatClampNeg) * ((n_pr st) (7 : Int32).toNatClampNeg)) = 0 then (if ((n_pr st) (7 : Int32).toNatClampNeg) = 0 then none else (if ((n_n st) (1 : Int32).toNatClampNeg) < (x54 / ((n_pr st) (7 : Int32).toNatClampNeg)) then some (.inl (x52, (x53 + 1))) else some (.inl ((x52 + 1), (x53 + 1))))) else some (.inl (x52, (x53 + 1))))) else fL_solutions_j208 st x93 x3 x9 x19 x52 x53 x54))) : Option ((Int32 × Int32) ⊕ (Int32))) = some o31 := h
                                  refine lv_iload hx hb dL_solutions_168 (lv_at hl 3 rfl) ?_
                                  refine lv_aload_n hx hb dL_solutions_170 rfl (lv_at hl 0 rfl) ?_
                                  refine lv_iconst (v := (4 : Int32)) hx hb dL_solutions_171 (by decide) ?_
                                  refine n_ld0 E I (f := (n_pr st)) rfl (by decide) dL_solutions_172 ?_
                                  refine lv_iload hx hb dL_solutions_173 (lv_at hl 5 rfl) ?_
                                  refine lv_imul hx hb dL_solutions_175 ?_
                                  refine lv_isub hx hb dL_solutions_176 ?_
                                  refine lv_aload_n hx hb dL_solutions_177 rfl (lv_at hl 0 rfl) ?_
                                  refine lv_iconst (v := (5 : Int32)) hx hb dL_solutions_178 (by decide) ?_
                                  refine n_ld0 E I (f := (n_pr st)) rfl (by decide) dL_solutions_179 ?_
                                  refine lv_iload hx hb dL_solutions_180 (lv_at hl 6 rfl) ?_
                                  refine lv_imul hx hb dL_solutions_182 ?_
                                  refine lv_isub hx hb dL_solutions_183 ?_
                                  refine lv_aload_n hx hb dL_solutions_184 rfl (lv_at hl 0 rfl) ?_
                                  refine lv_bipush (v := (6 : Int32)) hx hb dL_solutions_185 (by decide) ?_
                                  refine n_ld0 E I (f := (n_pr st)) rfl (by decide) dL_solutions_187 ?_
                                  refine lv_iload hx hb dL_solutions_188 (lv_at hl 7 rfl) ?_
                                  refine lv_imul hx hb dL_solutions_190 ?_
                                  refine lv_isub hx hb dL_solutions_191 ?_
                                  obtain ⟨x54, hx55, h⟩ := lqx h
                                  refine lv_istore (x := (((x3 - (((n_pr st) (4 : Int32).toNatClampNeg) * x9)) - (((n_pr st) (5 : Int32).toNatClampNeg) * x19)) - (((n_pr st) (6 : Int32).toNatClampNeg) * x53))) (lv' := [(9, .int x54), (0, .ref (a 0)), (1, .ref (a 1)), (3, .int x93), (4, .int x3), (5, .int x52), (6, .int x9), (7, .int x19), (8, .int x53)]) hx hb dL_solutions_192 hl (by decide) (by subst hx55; rfl) (fun ls hl => ?_)
                                  refine lv_aload_n hx hb dL_solutions_194 rfl (lv_at hl 1 rfl) ?_
                                  refine lv_bipush (v := (7 : Int32)) hx hb dL_solutions_195 (by decide) ?_
                                  refine n_ld0 E I (f := (n_pr st)) rfl (by decide) dL_solutions_197 ?_
                                  have J56 : ∀ (x57 : Int32) (x58 : Int32) (x59 : Int32), fL_solutions_j208 st x93 x3 x9 x19 x57 x58 x59 = some o31 → ∀ (H : Heap) (locs : List Loc) (ls : Array Slot), wk D (nW g a st) A H0 H locs → lv_has ls 10 [(0, .ref (a 0)), (1, .ref (a 1)), (3, .int x93), (4, .int x3), (5, .int x57), (6, .int x9), (7, .int x19), (8, .int x58), (9, .int x59)] → W p l e (rmk 0 0) s m args below meth c H locs 0 0 Q (F0 m 208 ls []) := by
                                    intro x57 x58 x59 h H locs ls I hl
                                    have h : ((if x59 = 0 then some (.inl ((x57 + 1), (x58 + 1))) else some (.inl (x57, (x58 + 1)))) : Option ((Int32 × Int32) ⊕ (Int32))) = some o31 := h
                                    refine lv_iload hx hb dL_solutions_208 (lv_at hl 8 rfl) ?_
                                    refine lv_if_ne (tgt := 245) hx hb dL_solutions_210 (by decide) (fun hc60 => ?_) (fun hc60 => ?_)
                                    · have h := ifn hc60 h
                                      refine lv_iinc (v := (x58 + 1)) (lv' := [(8, .int (x58 + 1)), (0, .ref (a 0)), (1, .ref (a 1)), (3, .int x93), (4, .int x3), (5, .int x57), (6, .int x9), (7, .int x19), (9, .int x59)]) hx hb dL_solutions_245 hl (k := 7) rfl rfl (by decide) rfl (fun ls hl => ?_)
                                      refine lv_goto (tgt := 54) hx hb dL_solutions_248 (by decide) ?_
                                      cases h
                                      exact hk32 _ _ _ I (lv_sub hl [1, 2, 3, 4, 5, 6, 7, 0] rfl)
                                    · have h := ifp hc60 h
                                      refine lv_iinc (v := (x57 + 1)) (lv' := [(5, .int (x57 + 1)), (0, .ref (a 0)), (1, .ref (a 1)), (3, .int x93), (4, .int x3), (6, .int x9), (7, .int x19), (8, .int x58), (9, .int x59)]) hx hb dL_solutions_213 hl (k := 4) rfl rfl (by decide) rfl (fun ls hl => ?_)
                                      refine lv_goto (tgt := 245) hx hb dL_solutions_216 (by decide) ?_
                                      refine lv_iinc (v := (x58 + 1)) (lv' := [(8, .int (x58 + 1)), (5, .int (x57 + 1)), (0, .ref (a 0)), (1, .ref (a 1)), (3, .int x93), (4, .int x3), (6, .int x9), (7, .int x19), (9, .int x59)]) hx hb dL_solutions_245 hl (k := 7) rfl rfl (by decide) rfl (fun ls hl => ?_)
                                      refine lv_goto (tgt := 54) hx hb dL_solutions_248 (by decide) ?_
                                      cases h
                                      exact hk32 _ _ _ I (lv_sub hl [2, 3, 4, 5, 1, 6, 7, 0] rfl)
                                  refine lv_if_eq (tgt := 208) hx hb dL_solutions_198 (by decide) (fun hc61 => ?_) (fun hc61 => ?_)
                                  · have h := ifp hc61 h
                                    exact J56 _ _ _ h _ _ _ I (lv_sub hl [1, 2, 3, 4, 5, 6, 7, 8, 0] rfl)
                                  · have h := ifn hc61 h
                                    refine lv_iload_n hx hb dL_solutions_201 rfl (lv_at hl 3 rfl) ?_
                                    refine lv_bipush (v := (8 : Int32)) hx hb dL_solutions_202 (by decide) ?_
                                    refine lv_iand hx hb dL_solutions_204 ?_
                                    refine lv_if_eq (tgt := 219) hx hb dL_solutions_205 (by decide) (fun hc62 => ?_) (fun hc62 => ?_)
                                    · have h := ifp hc62 h
                                      refine lv_iload hx hb dL_solutions_219 (lv_at hl 0 rfl) ?_
                                      refine lv_aload_n hx hb dL_solutions_221 rfl (lv_at hl 1 rfl) ?_
                                      refine lv_bipush (v := (7 : Int32)) hx hb dL_solutions_222 (by decide) ?_
                                      refine n_ld0 E I (f := (n_pr st)) rfl (by decide) dL_solutions_224 ?_
                                      obtain ⟨hz63, h⟩ := gz h
                                      refine lv_irem hx hb dL_solutions_225 hz63 ?_
                                      refine lv_if_ne (tgt := 245) hx hb dL_solutions_226 (by decide) (fun hc64 => ?_) (fun hc64 => ?_)
                                      · have h := ifn hc64 h
                                        refine lv_iinc (v := (x53 + 1)) (lv' := [(8, .int (x53 + 1)), (9, .int x54), (0, .ref (a 0)), (1, .ref (a 1)), (3, .int x93), (4, .int x3), (5, .int x52), (6, .int x9), (7, .int x19)]) hx hb dL_solutions_245 hl (k := 8) rfl rfl (by decide) rfl (fun ls hl => ?_)
                                        refine lv_goto (tgt := 54) hx hb dL_solutions_248 (by decide) ?_
                                        cases h
                                        exact hk32 _ _ _ I (lv_sub hl [2, 3, 4, 5, 6, 7, 8, 0] rfl)
                                      · have h := ifp hc64 h
                                        refine lv_iload hx hb dL_solutions_229 (lv_at hl 0 rfl) ?_
                                        refine lv_aload_n hx hb dL_solutions_231 rfl (lv_at hl 1 rfl) ?_
                                        refine lv_bipush (v := (7 : Int32)) hx hb dL_solutions_232 (by decide) ?_
                                        refine n_ld0 E I (f := (n_pr st)) rfl (by decide) dL_solutions_234 ?_
                                        obtain ⟨hz65, h⟩ := gz h
                                        refine lv_idiv hx hb dL_solutions_235 hz65 ?_
                                        refine lv_aload_n hx hb dL_solutions_236 rfl (lv_at hl 2 rfl) ?_
                                        refine lv_iconst (v := (1 : Int32)) hx hb dL_solutions_237 (by decide) ?_
                                        refine n_ld1 E I (f := (n_n st)) rfl (by decide) dL_solutions_238 ?_
                                        refine lv_icmp_gt (tgt := 245) hx hb dL_solutions_239 (by decide) (fun hc66 => ?_) (fun hc66 => ?_)
                                        · have h := ifp hc66 h
                                          refine lv_iinc (v := (x53 + 1)) (lv' := [(8, .int (x53 + 1)), (9, .int x54), (0, .ref (a 0)), (1, .ref (a 1)), (3, .int x93), (4, .int x3), (5, .int x52), (6, .int x9), (7, .int x19)]) hx hb dL_solutions_245 hl (k := 8) rfl rfl (by decide) rfl (fun ls hl => ?_)
                                          refine lv_goto (tgt := 54) hx hb dL_solutions_248 (by decide) ?_
                                          cases h
                                          exact hk32 _ _ _ I (lv_sub hl [2, 3, 4, 5, 6, 7, 8, 0] rfl)
                                        · have h := ifn hc66 h
                                          refine lv_iinc (v := (x52 + 1)) (lv' := [(5, .int (x52 + 1)), (9, .int x54), (0, .ref (a 0)), (1, .ref (a 1)), (3, .int x93), (4, .int x3), (6, .int x9), (7, .int x19), (8, .int x53)]) hx hb dL_solutions_242 hl (k := 5) rfl rfl (by decide) rfl (fun ls hl => ?_)
                                          refine lv_iinc (v := (x53 + 1)) (lv' := [(8, .int (x53 + 1)), (5, .int (x52 + 1)), (9, .int x54), (0, .ref (a 0)), (1, .ref (a 1)), (3, .int x93), (4, .int x3), (6, .int x9), (7, .int x19)]) hx hb dL_solutions_245 hl (k := 8) rfl rfl (by decide) rfl (fun ls hl => ?_)
                                          refine lv_goto (tgt := 54) hx hb dL_solutions_248 (by decide) ?_
                                          cases h
                                          exact hk32 _ _ _ I (lv_sub hl [3, 4, 5, 6, 1, 7, 8, 0] rfl)
                                    · have h := ifn hc62 h
                                      exact J56 _ _ _ h _ _ _ I (lv_sub hl [1, 2, 3, 4, 5, 6, 7, 8, 0] rfl)
                                refine lv_if_eq (tgt := 168) hx hb dL_solutions_157 (by decide) (fun hc67 => ?_) (fun hc67 => ?_)
                                · have h := ifp hc67 h
                                  exact J51 _ _ h _ _ _ I (lv_sub hl [0, 1, 2, 3, 4, 5, 6, 7] rfl)
                                · have h := ifn hc67 h
                                  refine lv_iload hx hb dL_solutions_160 (lv_at hl 7 rfl) ?_
                                  refine lv_if_le (tgt := 168) hx hb dL_solutions_162 (by decide) (fun hc68 => ?_) (fun hc68 => ?_)
                                  · have h := ifp hc68 h
                                    exact J51 _ _ h _ _ _ I (lv_sub hl [0, 1, 2, 3, 4, 5, 6, 7] rfl)
                                  · have h := ifn hc68 h
                                    refine lv_goto (tgt := 245) hx hb dL_solutions_165 (by decide) ?_
                                    refine lv_iinc (v := (x50 + 1)) (lv' := [(8, .int (x50 + 1)), (0, .ref (a 0)), (1, .ref (a 1)), (3, .int x93), (4, .int x3), (5, .int x49), (6, .int x9), (7, .int x19)]) hx hb dL_solutions_245 hl (k := 7) rfl rfl (by decide) rfl (fun ls hl => ?_)
                                    refine lv_goto (tgt := 54) hx hb dL_solutions_248 (by decide) ?_
                                    cases h
                                    exact hk32 _ _ _ I (lv_sub hl [1, 2, 3, 4, 5, 6, 7, 0] rfl)
                              refine lv_if_eq (tgt := 154) hx hb dL_solutions_146 (by decide) (fun hc69 => ?_) (fun hc69 => ?_)
                              · have h := ifp hc69 h
                                exact J48 _ _ h _ _ _ I (lv_sub hl [0, 1, 2, 3, 4, 5, 6, 7] rfl)
                              · have h := ifn hc69 h
                                refine lv_iload hx hb dL_solutions_149 (lv_at hl 6 rfl) ?_
                                refine lv_if_gt (tgt := 245) hx hb dL_solutions_151 (by decide) (fun hc70 => ?_) (fun hc70 => ?_)
                                · have h := ifp hc70 h
                                  refine lv_iinc (v := (x47 + 1)) (lv' := [(8, .int (x47 + 1)), (0, .ref (a 0)), (1, .ref (a 1)), (3, .int x93), (4, .int x3), (5, .int x46), (6, .int x9), (7, .int x19)]) hx hb dL_solutions_245 hl (k := 7) rfl rfl (by decide) rfl (fun ls hl => ?_)
                                  refine lv_goto (tgt := 54) hx hb dL_solutions_248 (by decide) ?_
                                  cases h
                                  exact hk32 _ _ _ I (lv_sub hl [1, 2, 3, 4, 5, 6, 7, 0] rfl)
                                · have h := ifn hc70 h
                                  exact J48 _ _ h _ _ _ I (lv_sub hl [0, 1, 2, 3, 4, 5, 6, 7] rfl)
                            refine lv_if_eq (tgt := 143) hx hb dL_solutions_135 (by decide) (fun hc71 => ?_) (fun hc71 => ?_)
                            · have h := ifp hc71 h
                              exact J45 _ _ h _ _ _ I (lv_sub hl [0, 1, 2, 3, 4, 5, 6, 7] rfl)
                            · have h := ifn hc71 h
                              refine lv_iload hx hb dL_solutions_138 (lv_at hl 5 rfl) ?_
                              refine lv_if_gt (tgt := 245) hx hb dL_solutions_140 (by decide) (fun hc72 => ?_) (fun hc72 => ?_)
                              · have h := ifp hc72 h
                                refine lv_iinc (v := (x44 + 1)) (lv' := [(8, .int (x44 + 1)), (0, .ref (a 0)), (1, .ref (a 1)), (3, .int x93), (4, .int x3), (5, .int x43), (6, .int x9), (7, .int x19)]) hx hb dL_solutions_245 hl (k := 7) rfl rfl (by decide) rfl (fun ls hl => ?_)
                                refine lv_goto (tgt := 54) hx hb dL_solutions_248 (by decide) ?_
                                cases h
                                exact hk32 _ _ _ I (lv_sub hl [1, 2, 3, 4, 5, 6, 7, 0] rfl)
                              · have h := ifn hc72 h
                                exact J45 _ _ h _ _ _ I (lv_sub hl [0, 1, 2, 3, 4, 5, 6, 7] rfl)
                          refine lv_if_ne (tgt := 132) hx hb dL_solutions_121 (by decide) (fun hc73 => ?_) (fun hc73 => ?_)
                          · have h := ifn hc73 h
                            exact J42 _ _ h _ _ _ I (lv_sub hl [0, 1, 2, 3, 4, 5, 6, 7] rfl)
                          · have h := ifp hc73 h
                            refine lv_iload hx hb dL_solutions_124 (lv_at hl 7 rfl) ?_
                            refine lv_if_le (tgt := 132) hx hb dL_solutions_126 (by decide) (fun hc74 => ?_) (fun hc74 => ?_)
                            · have h := ifp hc74 h
                              exact J42 _ _ h _ _ _ I (lv_sub hl [0, 1, 2, 3, 4, 5, 6, 7] rfl)
                            · have h := ifn hc74 h
                              refine lv_goto (tgt := 245) hx hb dL_solutions_129 (by decide) ?_
                              refine lv_iinc (v := (x41 + 1)) (lv' := [(8, .int (x41 + 1)), (0, .ref (a 0)), (1, .ref (a 1)), (3, .int x93), (4, .int x3), (5, .int x40), (6, .int x9), (7, .int x19)]) hx hb dL_solutions_245 hl (k := 7) rfl rfl (by decide) rfl (fun ls hl => ?_)
                              refine lv_goto (tgt := 54) hx hb dL_solutions_248 (by decide) ?_
                              cases h
                              exact hk32 _ _ _ I (lv_sub hl [1, 2, 3, 4, 5, 6, 7, 0] rfl)
                        refine lv_if_ne (tgt := 117) hx hb dL_solutions_109 (by decide) (fun hc75 => ?_) (fun hc75 => ?_)
                        · have h := ifn hc75 h
                          exact J39 _ _ h _ _ _ I (lv_sub hl [0, 1, 2, 3, 4, 5, 6, 7] rfl)
                        · have h := ifp hc75 h
                          refine lv_iload hx hb dL_solutions_112 (lv_at hl 6 rfl) ?_
                          refine lv_if_gt (tgt := 245) hx hb dL_solutions_114 (by decide) (fun hc76 => ?_) (fun hc76 => ?_)
                          · have h := ifp hc76 h
                            refine lv_iinc (v := (x38 + 1)) (lv' := [(8, .int (x38 + 1)), (0, .ref (a 0)), (1, .ref (a 1)), (3, .int x93), (4, .int x3), (5, .int x37), (6, .int x9), (7, .int x19)]) hx hb dL_solutions_245 hl (k := 7) rfl rfl (by decide) rfl (fun ls hl => ?_)
                            refine lv_goto (tgt := 54) hx hb dL_solutions_248 (by decide) ?_
                            cases h
                            exact hk32 _ _ _ I (lv_sub hl [1, 2, 3, 4, 5, 6, 7, 0] rfl)
                          · have h := ifn hc76 h
                            exact J39 _ _ h _ _ _ I (lv_sub hl [0, 1, 2, 3, 4, 5, 6, 7] rfl)
                      refine lv_if_ne (tgt := 106) hx hb dL_solutions_98 (by decide) (fun hc77 => ?_) (fun hc77 => ?_)
                      · have h := ifn hc77 h
                        exact J36 _ _ h _ _ _ I (lv_sub hl [0, 1, 2, 3, 4, 5, 6, 7] rfl)
                      · have h := ifp hc77 h
                        refine lv_iload hx hb dL_solutions_101 (lv_at hl 5 rfl) ?_
                        refine lv_if_gt (tgt := 245) hx hb dL_solutions_103 (by decide) (fun hc78 => ?_) (fun hc78 => ?_)
                        · have h := ifp hc78 h
                          refine lv_iinc (v := (x30 + 1)) (lv' := [(8, .int (x30 + 1)), (0, .ref (a 0)), (1, .ref (a 1)), (3, .int x93), (4, .int x3), (5, .int x27), (6, .int x9), (7, .int x19)]) hx hb dL_solutions_245 hl (k := 7) rfl rfl (by decide) rfl (fun ls hl => ?_)
                          refine lv_goto (tgt := 54) hx hb dL_solutions_248 (by decide) ?_
                          cases h
                          exact hk32 _ _ _ I (lv_sub hl [1, 2, 3, 4, 5, 6, 7, 0] rfl)
                        · have h := ifn hc78 h
                          exact J36 _ _ h _ _ _ I (lv_sub hl [0, 1, 2, 3, 4, 5, 6, 7] rfl)
              · obtain ⟨x81, rfl⟩ : ∃ y, y = z79 := ⟨_, rfl⟩
                intro H locs ls I hl
                have h : (some (.inl (x81, (x19 + 1))) : Option ((Int32 × Int32) ⊕ (Int32))) = some o20 := h
                have I : wk D (nW g a st) A H0 H locs := I
                have hl : lv_has ls 10 [(0, .ref (a 0)), (1, .ref (a 1)), (3, .int x93), (4, .int x3), (5, .int x81), (6, .int x9), (7, .int x19)] := hl
                refine lv_iinc (v := (x19 + 1)) (lv' := [(7, .int (x19 + 1)), (0, .ref (a 0)), (1, .ref (a 1)), (3, .int x93), (4, .int x3), (5, .int x81), (6, .int x9)]) hx hb dL_solutions_251 hl (k := 6) rfl rfl (by decide) rfl (fun ls hl => ?_)
                refine lv_goto (tgt := 36) hx hb dL_solutions_254 (by decide) ?_
                cases h
                exact hk21 _ _ _ I (lv_sub hl [1, 2, 3, 4, 5, 6, 0] rfl)
        · obtain ⟨x85, rfl⟩ : ∃ y, y = z83 := ⟨_, rfl⟩
          intro H locs ls I hl
          have h : (some (.inl (x85, (x9 + 1))) : Option ((Int32 × Int32) ⊕ (Int32))) = some o10 := h
          have I : wk D (nW g a st) A H0 H locs := I
          have hl : lv_has ls 10 [(0, .ref (a 0)), (1, .ref (a 1)), (3, .int x93), (4, .int x3), (5, .int x85), (6, .int x9)] := hl
          refine lv_iinc (v := (x9 + 1)) (lv' := [(6, .int (x9 + 1)), (0, .ref (a 0)), (1, .ref (a 1)), (3, .int x93), (4, .int x3), (5, .int x85)]) hx hb dL_solutions_257 hl (k := 5) rfl rfl (by decide) rfl (fun ls hl => ?_)
          refine lv_goto (tgt := 18) hx hb dL_solutions_260 (by decide) ?_
          cases h
          exact hk11 _ _ _ I (lv_sub hl [1, 2, 3, 4, 5, 0] rfl)
  · obtain ⟨x89, rfl⟩ : ∃ y, y = z87 := ⟨_, rfl⟩
    intro H locs ls I hl
    have h : (some (if 0 ≤ x3 then x89 else (0 : Int32)) : Option Int32) = some o := h
    have I : wk D (nW g a st) A H0 H locs := I
    have hl : lv_has ls 10 [(4, .int x3), (5, .int x89)] := hl
    refine lv_iload hx hb dL_solutions_263 (lv_at hl 0 rfl) ?_
    have J91 : ∀ (v90 : Int32) (H : Heap) (locs : List Loc), v90 = (if 0 ≤ x3 then x89 else (0 : Int32)) → wk D (nW g a st) A H0 H locs → W p l e (rmk 0 0) s m args below meth c H locs 0 0 Q (F0 m 274 ls [.int v90]) := by
      intro v90 H locs hv92 I
      subst hv92
      cases h
      exact K _ _ _ _ I dL_solutions_274
    refine lv_if_ge (tgt := 272) hx hb dL_solutions_265 (by decide) (fun hc93 => ?_) (fun hc93 => ?_)
    · refine lv_iload hx hb dL_solutions_272 (lv_at hl 1 rfl) ?_
      exact J91 _ _ _ (by rw [if_pos hc93]) I
    · refine lv_iconst (v := (0 : Int32)) hx hb dL_solutions_268 (by decide) ?_
      refine lv_goto (tgt := 274) hx hb dL_solutions_269 (by decide) ?_
      exact J91 _ _ _ (by rw [if_neg hc93]) I
set_option maxHeartbeats 4000000 in
set_option maxRecDepth 100000 in
theorem vL_matchers {l : Launch} {D : va_G} {g : Nat → ClassId} {a : Nat → Nat} {st : NS} {o : Int64} (h : fL_matchers st = some o) : ct l yL_matchers cL_matchers 10 (some .long) (rmk 1 29) D g (nW g a st) (nW g a st) [.ref (a 0), .ref (a 1)] (some (.long o)) := by
  refine ct_of ⟨rfl, rfl⟩ (by decide) (Nat.le_of_ble_eq_true rfl) ?_
  intro p e s m args below meth c ls Q A H0 H locs E I hl K
  have E : en p m c cL_matchers 10 s args RL D g := E
  have hx := E.1.1
  have hb := E.1.2.1
  have hl : lv_has ls 10 [(0, .ref (a 0)), (1, .ref (a 1))] := hl
  have K : ∀ (pc : Nat) (ls : Array Slot) (H : Heap) (locs : List Loc), wk D (nW g a st) A H0 H locs → decode cL_matchers pc = .ok (.lreturn, 1) → W p l e (rmk 1 29) s m args below meth c H locs 0 0 Q (F0 m pc ls [.long o]) := fun pc ls H locs I hd => K pc ls H locs I hd
  have h : ((bi1 (wh (fL_matchers_b4 st) FU ((0 : Int32), (0 : Int32))) fun w60 => (bi1 (wh (fL_matchers_b34 st w60) FU ((0 : Int64), (0 : Int32))) fun w59 => some w59)) : Option Int64) = some o := h
  refine lv_iconst (v := (0 : Int32)) hx hb dL_matchers_0 (by decide) ?_
  refine lv_istore_n (lv' := [(2, .int (0 : Int32)), (0, .ref (a 0)), (1, .ref (a 1))]) hx hb dL_matchers_1 rfl hl (by decide) rfl (fun ls hl => ?_)
  refine lv_iconst (v := (0 : Int32)) hx hb dL_matchers_2 (by decide) ?_
  refine lv_istore_n (lv' := [(3, .int (0 : Int32)), (2, .int (0 : Int32)), (0, .ref (a 0)), (1, .ref (a 1))]) hx hb dL_matchers_3 rfl hl (by decide) rfl (fun ls hl => ?_)
  obtain ⟨z9, hw10, h⟩ := bx1 h
  refine wh_W (P := fun (z : Int32 × Int32) => ∀ (H : Heap) (locs : List Loc) (ls : Array Slot), wk D (nW g a st) A H0 H locs → lv_has ls 10 [(0, .ref (a 0)), (1, .ref (a 1)), (2, .int z.1), (3, .int z.2)] → W p l e (rmk 1 29) s m args below meth c H locs 0 0 Q (F0 m 4 ls [])) (X := fun (z : Int32) => ∀ (H : Heap) (locs : List Loc) (ls : Array Slot), wk D (nW g a st) A H0 H locs → lv_has ls 10 [(0, .ref (a 0)), (1, .ref (a 1)), (2, .int z)] → W p l e (rmk 1 29) s m args below meth c H locs 0 0 Q (F0 m 29 ls [])) ?_ FU _ _ hw10 ?_ _ _ _ I (lv_sub hl [2, 3, 1, 0] rfl)
  · intro z o4 h hk5 H locs ls I hl
    obtain ⟨x2, x3⟩ := z
    have h : ((if (4 : Int32) ≤ x3 then some (.inr x2) else (if ib ((4 : Int32) + x3) 24 = true then (if ((n_pr st) ((4 : Int32) + x3).toNatClampNeg) ≤ 0 then some (.inl (x2, (x3 + 1))) else some (.inl ((x2 ||| ((1 : Int32) <<< (x3 &&& 31))), (x3 + 1)))) else none)) : Option ((Int32 × Int32) ⊕ (Int32))) = some o4 := h
    have I : wk D (nW g a st) A H0 H locs := I
    have hl : lv_has ls 10 [(0, .ref (a 0)), (1, .ref (a 1)), (2, .int x2), (3, .int x3)] := hl
    refine lv_iload_n hx hb dL_matchers_4 rfl (lv_at hl 3 rfl) ?_
    refine lv_iconst (v := (4 : Int32)) hx hb dL_matchers_5 (by decide) ?_
    refine lv_icmp_ge (tgt := 29) hx hb dL_matchers_6 (by decide) (fun hc6 => ?_) (fun hc6 => ?_)
    · have h := ifp hc6 h
      cases h
      exact hk5 _ _ _ I (lv_sub hl [0, 1, 2] rfl)
    · have h := ifn hc6 h
      refine lv_aload_n hx hb dL_matchers_9 rfl (lv_at hl 0 rfl) ?_
      refine lv_iconst (v := (4 : Int32)) hx hb dL_matchers_10 (by decide) ?_
      refine lv_iload_n hx hb dL_matchers_11 rfl (lv_at hl 3 rfl) ?_
      refine lv_iadd hx hb dL_matchers_12 ?_
      obtain ⟨hc7, h⟩ := gd h
      refine n_ld0 E I (f := (n_pr st)) rfl hc7 dL_matchers_13 ?_
      refine lv_if_le (tgt := 23) hx hb dL_matchers_14 (by decide) (fun hc8 => ?_) (fun hc8 => ?_)
      · have h := ifp hc8 h
        refine lv_iinc (v := (x3 + 1)) (lv' := [(3, .int (x3 + 1)), (0, .ref (a 0)), (1, .ref (a 1)), (2, .int x2)]) hx hb dL_matchers_23 hl (k := 3) rfl rfl (by decide) rfl (fun ls hl => ?_)
        refine lv_goto (tgt := 4) hx hb dL_matchers_26 (by decide) ?_
        cases h
        exact hk5 _ _ _ I (lv_sub hl [1, 2, 3, 0] rfl)
      · have h := ifn hc8 h
        refine lv_iload_n hx hb dL_matchers_17 rfl (lv_at hl 2 rfl) ?_
        refine lv_iconst (v := (1 : Int32)) hx hb dL_matchers_18 (by decide) ?_
        refine lv_iload_n hx hb dL_matchers_19 rfl (lv_at hl 3 rfl) ?_
        refine lv_ishl hx hb dL_matchers_20 ?_
        refine lv_ior hx hb dL_matchers_21 ?_
        refine lv_istore_n (lv' := [(2, .int (x2 ||| ((1 : Int32) <<< (x3 &&& 31)))), (0, .ref (a 0)), (1, .ref (a 1)), (3, .int x3)]) hx hb dL_matchers_22 rfl hl (by decide) rfl (fun ls hl => ?_)
        refine lv_iinc (v := (x3 + 1)) (lv' := [(3, .int (x3 + 1)), (2, .int (x2 ||| ((1 : Int32) <<< (x3 &&& 31)))), (0, .ref (a 0)), (1, .ref (a 1))]) hx hb dL_matchers_23 hl (k := 3) rfl rfl (by decide) rfl (fun ls hl => ?_)
        refine lv_goto (tgt := 4) hx hb dL_matchers_26 (by decide) ?_
        cases h
        exact hk5 _ _ _ I (lv_sub hl [2, 3, 1, 0] rfl)
  · obtain ⟨x11, rfl⟩ : ∃ y, y = z9 := ⟨_, rfl⟩
    intro H locs ls I hl
    have h : ((bi1 (wh (fL_matchers_b34 st x11) FU ((0 : Int64), (0 : Int32))) fun w59 => some w59) : Option Int64) = some o := h
    have I : wk D (nW g a st) A H0 H locs := I
    have hl : lv_has ls 10 [(0, .ref (a 0)), (1, .ref (a 1)), (2, .int x11)] := hl
    refine lv_lconst (v := (0 : Int64)) hx hb dL_matchers_29 (by decide) ?_
    refine lv_lstore_n (lv' := [(3, .long (0 : Int64)), (0, .ref (a 0)), (1, .ref (a 1)), (2, .int x11)]) hx hb dL_matchers_30 rfl hl (by decide) rfl (fun ls hl => ?_)
    refine lv_iconst (v := (0 : Int32)) hx hb dL_matchers_31 (by decide) ?_
    refine lv_istore (lv' := [(5, .int (0 : Int32)), (3, .long (0 : Int64)), (0, .ref (a 0)), (1, .ref (a 1)), (2, .int x11)]) hx hb dL_matchers_32 hl (by decide) rfl (fun ls hl => ?_)
    obtain ⟨z56, hw57, h⟩ := bx1 h
    refine wh_W (P := fun (z : Int64 × Int32) => ∀ (H : Heap) (locs : List Loc) (ls : Array Slot), wk D (nW g a st) A H0 H locs → lv_has ls 10 [(0, .ref (a 0)), (1, .ref (a 1)), (2, .int x11), (3, .long z.1), (5, .int z.2)] → W p l e (rmk 1 29) s m args below meth c H locs 0 0 Q (F0 m 34 ls [])) (X := fun (z : Int64) => ∀ (H : Heap) (locs : List Loc) (ls : Array Slot), wk D (nW g a st) A H0 H locs → lv_has ls 10 [(3, .long z)] → W p l e (rmk 1 29) s m args below meth c H locs 0 0 Q (F0 m 152 ls [])) ?_ FU _ _ hw57 ?_ _ _ _ I (lv_sub hl [2, 3, 4, 1, 0] rfl)
    · intro z o16 h hk17 H locs ls I hl
      obtain ⟨x14, x15⟩ := z
      have h : ((if (16 : Int32) ≤ x15 then some (.inr x14) else (if (x15 &&& (x11 ^^^ (-1 : Int32))) = 0 then (if ((n_n st) (0 : Int32).toNatClampNeg) = (1 : Int32) then (if x15 ≤ 0 then fL_matchers_j65 st x11 x14 x15 else some (.inl (x14, (x15 + 1)))) else fL_matchers_j65 st x11 x14 x15) else some (.inl (x14, (x15 + 1))))) : Option ((Int64 × Int32) ⊕ (Int64))) = some o16 := h
      have I : wk D (nW g a st) A H0 H locs := I
      have hl : lv_has ls 10 [(0, .ref (a 0)), (1, .ref (a 1)), (2, .int x11), (3, .long x14), (5, .int x15)] := hl
      refine lv_iload hx hb dL_matchers_34 (lv_at hl 4 rfl) ?_
      refine lv_bipush (v := (16 : Int32)) hx hb dL_matchers_36 (by decide) ?_
      refine lv_icmp_ge (tgt := 152) hx hb dL_matchers_38 (by decide) (fun hc18 => ?_) (fun hc18 => ?_)
      · have h := ifp hc18 h
        cases h
        exact hk17 _ _ _ I (lv_sub hl [3] rfl)
      · have h := ifn hc18 h
        refine lv_iload hx hb dL_matchers_41 (lv_at hl 4 rfl) ?_
        refine lv_iload_n hx hb dL_matchers_43 rfl (lv_at hl 2 rfl) ?_
        refine lv_iconst (v := (-1 : Int32)) hx hb dL_matchers_44 (by decide) ?_
        refine lv_ixor hx hb dL_matchers_45 ?_
        refine lv_iand hx hb dL_matchers_46 ?_
        refine lv_if_ne (tgt := 146) hx hb dL_matchers_47 (by decide) (fun hc19 => ?_) (fun hc19 => ?_)
        · have h := ifn hc19 h
          refine lv_iinc (v := (x15 + 1)) (lv' := [(5, .int (x15 + 1)), (0, .ref (a 0)), (1, .ref (a 1)), (2, .int x11), (3, .long x14)]) hx hb dL_matchers_146 hl (k := 4) rfl rfl (by decide) rfl (fun ls hl => ?_)
          refine lv_goto (tgt := 34) hx hb dL_matchers_149 (by decide) ?_
          cases h
          exact hk17 _ _ _ I (lv_sub hl [1, 2, 3, 4, 0] rfl)
        · have h := ifp hc19 h
          refine lv_aload_n hx hb dL_matchers_50 rfl (lv_at hl 1 rfl) ?_
          refine lv_iconst (v := (0 : Int32)) hx hb dL_matchers_51 (by decide) ?_
          refine n_ld1 E I (f := (n_n st)) rfl (by decide) dL_matchers_52 ?_
          refine lv_iconst (v := (1 : Int32)) hx hb dL_matchers_53 (by decide) ?_
          have J20 : ∀ (x21 : Int64) (x22 : Int32), fL_matchers_j65 st x11 x21 x22 = some o16 → ∀ (H : Heap) (locs : List Loc) (ls : Array Slot), wk D (nW g a st) A H0 H locs → lv_has ls 10 [(0, .ref (a 0)), (1, .ref (a 1)), (2, .int x11), (3, .long x21), (5, .int x22)] → W p l e (rmk 1 29) s m args below meth c H locs 0 0 Q (F0 m 65 ls []) := by
            intro x21 x22 h H locs ls I hl
            have h : ((bi1 (wh (fL_matchers_b74 st x11 x21 x22 (1 : Int64)) FU ((0 : Int32), (0 : Int32))) fun w53 => (bi1 (wh (fL_matchers_b101 st x11 x21 x22 w53) FU ((1 : Int64), (0 : Int32))) fun w52 => (if (w53 - w53 / (2 : Int32) * (2 : Int32)) = 0 then some (.inl ((x21 + w52), (x22 + 1))) else some (.inl ((x21 + (-w52)), (x22 + 1)))))) : Option ((Int64 × Int32) ⊕ (Int64))) = some o16 := h
            refine lv_lconst (v := (1 : Int64)) hx hb dL_matchers_65 (by decide) ?_
            refine lv_lstore (lv' := [(6, .long (1 : Int64)), (0, .ref (a 0)), (1, .ref (a 1)), (2, .int x11), (3, .long x21), (5, .int x22)]) hx hb dL_matchers_66 hl (by decide) rfl (fun ls hl => ?_)
            refine lv_iconst (v := (0 : Int32)) hx hb dL_matchers_68 (by decide) ?_
            refine lv_istore (lv' := [(8, .int (0 : Int32)), (6, .long (1 : Int64)), (0, .ref (a 0)), (1, .ref (a 1)), (2, .int x11), (3, .long x21), (5, .int x22)]) hx hb dL_matchers_69 hl (by decide) rfl (fun ls hl => ?_)
            refine lv_iconst (v := (0 : Int32)) hx hb dL_matchers_71 (by decide) ?_
            refine lv_istore (lv' := [(9, .int (0 : Int32)), (8, .int (0 : Int32)), (6, .long (1 : Int64)), (0, .ref (a 0)), (1, .ref (a 1)), (2, .int x11), (3, .long x21), (5, .int x22)]) hx hb dL_matchers_72 hl (by decide) rfl (fun ls hl => ?_)
            obtain ⟨z33, hw34, h⟩ := bx1 h
            refine wh_W (P := fun (z : Int32 × Int32) => ∀ (H : Heap) (locs : List Loc) (ls : Array Slot), wk D (nW g a st) A H0 H locs → lv_has ls 10 [(0, .ref (a 0)), (1, .ref (a 1)), (2, .int x11), (3, .long x21), (5, .int x22), (6, .long (1 : Int64)), (8, .int z.1), (9, .int z.2)] → W p l e (rmk 1 29) s m args below meth c H locs 0 0 Q (F0 m 74 ls [])) (X := fun (z : Int32) => ∀ (H : Heap) (locs : List Loc) (ls : Array Slot), wk D (nW g a st) A H0 H locs → lv_has ls 10 [(0, .ref (a 0)), (1, .ref (a 1)), (2, .int x11), (3, .long x21), (5, .int x22), (6, .long (1 : Int64)), (8, .int z)] → W p l e (rmk 1 29) s m args below meth c H locs 0 0 Q (F0 m 98 ls [])) ?_ FU _ _ hw34 ?_ _ _ _ I (lv_sub hl [3, 4, 5, 6, 7, 2, 1, 0] rfl)
            · intro z o30 h hk31 H locs ls I hl
              obtain ⟨x28, x29⟩ := z
              have h : ((if (4 : Int32) ≤ x29 then some (.inr x28) else some (.inl ((x28 + ((x22 >>> (x29 &&& 31)) &&& (1 : Int32))), (x29 + 1)))) : Option ((Int32 × Int32) ⊕ (Int32))) = some o30 := h
              have I : wk D (nW g a st) A H0 H locs := I
              have hl : lv_has ls 10 [(0, .ref (a 0)), (1, .ref (a 1)), (2, .int x11), (3, .long x21), (5, .int x22), (6, .long (1 : Int64)), (8, .int x28), (9, .int x29)] := hl
              refine lv_iload hx hb dL_matchers_74 (lv_at hl 7 rfl) ?_
              refine lv_iconst (v := (4 : Int32)) hx hb dL_matchers_76 (by decide) ?_
              refine lv_icmp_ge (tgt := 98) hx hb dL_matchers_77 (by decide) (fun hc32 => ?_) (fun hc32 => ?_)
              · have h := ifp hc32 h
                cases h
                exact hk31 _ _ _ I (lv_sub hl [0, 1, 2, 3, 4, 5, 6] rfl)
              · have h := ifn hc32 h
                refine lv_iload hx hb dL_matchers_80 (lv_at hl 6 rfl) ?_
                refine lv_iload hx hb dL_matchers_82 (lv_at hl 4 rfl) ?_
                refine lv_iload hx hb dL_matchers_84 (lv_at hl 7 rfl) ?_
                refine lv_ishr hx hb dL_matchers_86 ?_
                refine lv_iconst (v := (1 : Int32)) hx hb dL_matchers_87 (by decide) ?_
                refine lv_iand hx hb dL_matchers_88 ?_
                refine lv_iadd hx hb dL_matchers_89 ?_
                refine lv_istore (lv' := [(8, .int (x28 + ((x22 >>> (x29 &&& 31)) &&& (1 : Int32)))), (0, .ref (a 0)), (1, .ref (a 1)), (2, .int x11), (3, .long x21), (5, .int x22), (6, .long (1 : Int64)), (9, .int x29)]) hx hb dL_matchers_90 hl (by decide) rfl (fun ls hl => ?_)
                refine lv_iinc (v := (x29 + 1)) (lv' := [(9, .int (x29 + 1)), (8, .int (x28 + ((x22 >>> (x29 &&& 31)) &&& (1 : Int32)))), (0, .ref (a 0)), (1, .ref (a 1)), (2, .int x11), (3, .long x21), (5, .int x22), (6, .long (1 : Int64))]) hx hb dL_matchers_92 hl (k := 7) rfl rfl (by decide) rfl (fun ls hl => ?_)
                refine lv_goto (tgt := 74) hx hb dL_matchers_95 (by decide) ?_
                cases h
                exact hk31 _ _ _ I (lv_sub hl [2, 3, 4, 5, 6, 7, 1, 0] rfl)
            · obtain ⟨x35, rfl⟩ : ∃ y, y = z33 := ⟨_, rfl⟩
              intro H locs ls I hl
              have h : ((bi1 (wh (fL_matchers_b101 st x11 x21 x22 x35) FU ((1 : Int64), (0 : Int32))) fun w52 => (if (x35 - x35 / (2 : Int32) * (2 : Int32)) = 0 then some (.inl ((x21 + w52), (x22 + 1))) else some (.inl ((x21 + (-w52)), (x22 + 1))))) : Option ((Int64 × Int32) ⊕ (Int64))) = some o16 := h
              have I : wk D (nW g a st) A H0 H locs := I
              have hl : lv_has ls 10 [(0, .ref (a 0)), (1, .ref (a 1)), (2, .int x11), (3, .long x21), (5, .int x22), (6, .long (1 : Int64)), (8, .int x35)] := hl
              refine lv_iconst (v := (0 : Int32)) hx hb dL_matchers_98 (by decide) ?_
              refine lv_istore (lv' := [(9, .int (0 : Int32)), (0, .ref (a 0)), (1, .ref (a 1)), (2, .int x11), (3, .long x21), (5, .int x22), (6, .long (1 : Int64)), (8, .int x35)]) hx hb dL_matchers_99 hl (by decide) rfl (fun ls hl => ?_)
              obtain ⟨z48, hw49, h⟩ := bx1 h
              refine wh_W (P := fun (z : Int64 × Int32) => ∀ (H : Heap) (locs : List Loc) (ls : Array Slot), wk D (nW g a st) A H0 H locs → lv_has ls 10 [(0, .ref (a 0)), (1, .ref (a 1)), (2, .int x11), (3, .long x21), (5, .int x22), (6, .long z.1), (8, .int x35), (9, .int z.2)] → W p l e (rmk 1 29) s m args below meth c H locs 0 0 Q (F0 m 101 ls [])) (X := fun (z : Int64) => ∀ (H : Heap) (locs : List Loc) (ls : Array Slot), wk D (nW g a st) A H0 H locs → lv_has ls 10 [(0, .ref (a 0)), (1, .ref (a 1)), (2, .int x11), (3, .long x21), (5, .int x22), (6, .long z), (8, .int x35)] → W p l e (rmk 1 29) s m args below meth c H locs 0 0 Q (F0 m 128 ls [])) ?_ FU _ _ hw49 ?_ _ _ _ I (lv_sub hl [1, 2, 3, 4, 5, 6, 7, 0] rfl)
              · intro z o43 h hk44 H locs ls I hl
                obtain ⟨x40, x42⟩ := z
                have h : ((if (4 : Int32) ≤ x42 then some (.inr x40) else (bi1 (fL_solutions st x42 x22) fun r47 => some (.inl ((x40 * r47.toInt64), (x42 + 1))))) : Option ((Int64 × Int32) ⊕ (Int64))) = some o43 := h
                have I : wk D (nW g a st) A H0 H locs := I
                have hl : lv_has ls 10 [(0, .ref (a 0)), (1, .ref (a 1)), (2, .int x11), (3, .long x21), (5, .int x22), (6, .long x40), (8, .int x35), (9, .int x42)] := hl
                refine lv_iload hx hb dL_matchers_101 (lv_at hl 7 rfl) ?_
                refine lv_iconst (v := (4 : Int32)) hx hb dL_matchers_103 (by decide) ?_
                refine lv_icmp_ge (tgt := 128) hx hb dL_matchers_104 (by decide) (fun hc45 => ?_) (fun hc45 => ?_)
                · have h := ifp hc45 h
                  cases h
                  exact hk44 _ _ _ I (lv_sub hl [0, 1, 2, 3, 4, 5, 6] rfl)
                · have h := ifn hc45 h
                  refine lv_lload hx hb dL_matchers_107 (lv_at hl 5 rfl) ?_
                  refine lv_aload_n hx hb dL_matchers_109 rfl (lv_at hl 0 rfl) ?_
                  refine lv_aload_n hx hb dL_matchers_110 rfl (lv_at hl 1 rfl) ?_
                  refine lv_iload hx hb dL_matchers_111 (lv_at hl 7 rfl) ?_
                  refine lv_iload hx hb dL_matchers_113 (lv_at hl 4 rfl) ?_
                  obtain ⟨r47, hc46, h⟩ := bx1 h
                  refine r_callT0 (As := [.ref (a 0), .ref (a 1), .int x42, .int x22]) (v := .int r47) (rest := [.long x40]) (ws' := (nW g a st)) E I hl.1 kL_8 (vL_solutions hc46) rfl rfl rfl (Nat.le_of_ble_eq_true rfl) ⟨Nat.le_of_ble_eq_true rfl, Nat.le_of_ble_eq_true rfl⟩ ⟨Nat.zero_le _, Nat.zero_le _⟩ dL_matchers_115 (fun H locs I => ?_)
                  refine lv_i2l (v := r47.toInt64) hx hb dL_matchers_118 rfl ?_
                  refine lv_lmul hx hb dL_matchers_119 ?_
                  refine lv_lstore (lv' := [(6, .long (x40 * r47.toInt64)), (0, .ref (a 0)), (1, .ref (a 1)), (2, .int x11), (3, .long x21), (5, .int x22), (8, .int x35), (9, .int x42)]) hx hb dL_matchers_120 hl (by decide) rfl (fun ls hl => ?_)
                  refine lv_iinc (v := (x42 + 1)) (lv' := [(9, .int (x42 + 1)), (6, .long (x40 * r47.toInt64)), (0, .ref (a 0)), (1, .ref (a 1)), (2, .int x11), (3, .long x21), (5, .int x22), (8, .int x35)]) hx hb dL_matchers_122 hl (k := 7) rfl rfl (by decide) rfl (fun ls hl => ?_)
                  refine lv_goto (tgt := 101) hx hb dL_matchers_125 (by decide) ?_
                  cases h
                  exact hk44 _ _ _ I (lv_sub hl [2, 3, 4, 5, 6, 1, 7, 0] rfl)
              · obtain ⟨x50, rfl⟩ : ∃ y, y = z48 := ⟨_, rfl⟩
                intro H locs ls I hl
                have h : ((if (x35 - x35 / (2 : Int32) * (2 : Int32)) = 0 then some (.inl ((x21 + x50), (x22 + 1))) else some (.inl ((x21 + (-x50)), (x22 + 1)))) : Option ((Int64 × Int32) ⊕ (Int64))) = some o16 := h
                have I : wk D (nW g a st) A H0 H locs := I
                have hl : lv_has ls 10 [(0, .ref (a 0)), (1, .ref (a 1)), (2, .int x11), (3, .long x21), (5, .int x22), (6, .long x50), (8, .int x35)] := hl
                refine lv_lload_n hx hb dL_matchers_128 rfl (lv_at hl 3 rfl) ?_
                refine lv_iload hx hb dL_matchers_129 (lv_at hl 6 rfl) ?_
                refine lv_iconst (v := (2 : Int32)) hx hb dL_matchers_131 (by decide) ?_
                refine lv_irem hx hb dL_matchers_132 (by decide) ?_
                refine lv_if_ne (tgt := 141) hx hb dL_matchers_133 (by decide) (fun hc51 => ?_) (fun hc51 => ?_)
                · have h := ifn hc51 h
                  refine lv_lload hx hb dL_matchers_141 (lv_at hl 5 rfl) ?_
                  refine lv_lneg hx hb dL_matchers_143 ?_
                  refine lv_ladd hx hb dL_matchers_144 ?_
                  refine lv_lstore_n (lv' := [(3, .long (x21 + (-x50))), (0, .ref (a 0)), (1, .ref (a 1)), (2, .int x11), (5, .int x22), (6, .long x50), (8, .int x35)]) hx hb dL_matchers_145 rfl hl (by decide) rfl (fun ls hl => ?_)
                  refine lv_iinc (v := (x22 + 1)) (lv' := [(5, .int (x22 + 1)), (3, .long (x21 + (-x50))), (0, .ref (a 0)), (1, .ref (a 1)), (2, .int x11), (6, .long x50), (8, .int x35)]) hx hb dL_matchers_146 hl (k := 4) rfl rfl (by decide) rfl (fun ls hl => ?_)
                  refine lv_goto (tgt := 34) hx hb dL_matchers_149 (by decide) ?_
                  cases h
                  exact hk17 _ _ _ I (lv_sub hl [2, 3, 4, 1, 0] rfl)
                · have h := ifp hc51 h
                  refine lv_lload hx hb dL_matchers_136 (lv_at hl 5 rfl) ?_
                  refine lv_goto (tgt := 144) hx hb dL_matchers_138 (by decide) ?_
                  refine lv_ladd hx hb dL_matchers_144 ?_
                  refine lv_lstore_n (lv' := [(3, .long (x21 + x50)), (0, .ref (a 0)), (1, .ref (a 1)), (2, .int x11), (5, .int x22), (6, .long x50), (8, .int x35)]) hx hb dL_matchers_145 rfl hl (by decide) rfl (fun ls hl => ?_)
                  refine lv_iinc (v := (x22 + 1)) (lv' := [(5, .int (x22 + 1)), (3, .long (x21 + x50)), (0, .ref (a 0)), (1, .ref (a 1)), (2, .int x11), (6, .long x50), (8, .int x35)]) hx hb dL_matchers_146 hl (k := 4) rfl rfl (by decide) rfl (fun ls hl => ?_)
                  refine lv_goto (tgt := 34) hx hb dL_matchers_149 (by decide) ?_
                  cases h
                  exact hk17 _ _ _ I (lv_sub hl [2, 3, 4, 1, 0] rfl)
          refine lv_icmp_ne (tgt := 65) hx hb dL_matchers_54 (by decide) (fun hc54 => ?_) (fun hc54 => ?_)
          · have h := ifn hc54 h
            exact J20 _ _ h _ _ _ I (lv_sub hl [0, 1, 2, 3, 4] rfl)
          · have h := ifp hc54 h
            refine lv_iload hx hb dL_matchers_57 (lv_at hl 4 rfl) ?_
            refine lv_if_le (tgt := 65) hx hb dL_matchers_59 (by decide) (fun hc55 => ?_) (fun hc55 => ?_)
            · have h := ifp hc55 h
              exact J20 _ _ h _ _ _ I (lv_sub hl [0, 1, 2, 3, 4] rfl)
            · have h := ifn hc55 h
              refine lv_goto (tgt := 146) hx hb dL_matchers_62 (by decide) ?_
              refine lv_iinc (v := (x15 + 1)) (lv' := [(5, .int (x15 + 1)), (0, .ref (a 0)), (1, .ref (a 1)), (2, .int x11), (3, .long x14)]) hx hb dL_matchers_146 hl (k := 4) rfl rfl (by decide) rfl (fun ls hl => ?_)
              refine lv_goto (tgt := 34) hx hb dL_matchers_149 (by decide) ?_
              cases h
              exact hk17 _ _ _ I (lv_sub hl [1, 2, 3, 4, 0] rfl)
    · obtain ⟨x58, rfl⟩ : ∃ y, y = z56 := ⟨_, rfl⟩
      intro H locs ls I hl
      have h : (some x58 : Option Int64) = some o := h
      have I : wk D (nW g a st) A H0 H locs := I
      have hl : lv_has ls 10 [(3, .long x58)] := hl
      refine lv_lload_n hx hb dL_matchers_152 rfl (lv_at hl 0 rfl) ?_
      cases h
      exact K _ _ _ _ I dL_matchers_153
set_option maxHeartbeats 4000000 in
set_option maxRecDepth 100000 in
theorem vL_least {l : Launch} {D : va_G} {g : Nat → ClassId} {a b : Nat → Nat} {st : PS} {o : PS × Int32} (h : fL_least st = some o) : cm l yL_least cL_least 12 (some .boolean) (rmi 5 116 1 64) D g (pW g a b st) (pW g a b o.1) [.ref (a 0), .ref (b 0)] (some (.int o.2)) 1 64 := by
  refine cm_of (by decide) (Nat.le_of_ble_eq_true rfl) ?_
  intro p e s m args below meth c ls Q A H0 E I hA hl K
  have E : en p m c cL_least 12 s args RL D g := E
  have hx := E.1.1
  have hb := E.1.2.1
  have hl : lv_has ls 12 [(0, .ref (a 0)), (1, .ref (b 0))] := hl
  have K : ∀ (pc : Nat) (ls : Array Slot) (H : Heap) (locs : List Loc), wk D (pW g a b o.1) A H0 H locs → decode cL_least pc = .ok (.ireturn, 1) → zok o.2 = true → W p l e (rmi 5 116 1 64) s m args below meth c H locs 1 64 Q (F0 m pc ls [.int o.2]) := fun pc ls H locs I hd hz => K pc ls H locs I ⟨hd, hz⟩
  have h : ((bi1 (wh (fL_least_b13) FU ((p_found_s st (fun _ => 0)), (0 : Int32), (0 : Int32), (1 : Int32))) fun w82 => Sum.elim (fun w83 => (bi2 (nx (f4_least (p_c w83.1) w83.2.1 (0 : Int32))) fun st67 r68 => (if r68 = (-1 : Int32) then (bi2 (nx (f4_count st67 (4 : Int32))) fun st71 r72 => (if r72 = w83.2.1 then (bi2 (nx (f4_count st71 (5 : Int32))) fun st75 r76 => (if r76 = w83.2.2 then some ((p_c_s (p_c_s (p_c_s w83.1 st67) st71) st75), (1 : Int32)) else some ((p_c_s (p_c_s (p_c_s w83.1 st67) st71) st75), (0 : Int32)))) else some ((p_c_s (p_c_s w83.1 st67) st71), (0 : Int32)))) else some ((p_c_s w83.1 st67), (0 : Int32))))) (Sum.elim (fun w84 => some (w84, (0 : Int32))) (fun w85 => some (w85, (1 : Int32)))) w82) : Option (PS × Int32)) = some o := h
  refine lv_bipush (v := (64 : Int32)) hx hb dL_least_0 (by decide) ?_
  refine r_newI E I hA 64 aw_I (by decide) (by decide) (Nat.le_of_ble_eq_true rfl) (Nat.le_of_ble_eq_true rfl) (Nat.le_of_ble_eq_true rfl) dL_least_2 (fun qf H I => ?_)
  refine W.widen (k := 1) (n := 64) (Nat.le_of_ble_eq_true rfl) (Nat.le_of_ble_eq_true rfl) ?_
  have I : wk D (qW g a b qf (p_found_s st (fun _ => 0))) A H0 H _ := qW_of I
  refine lv_astore_n (lv' := [(2, .ref qf), (0, .ref (a 0)), (1, .ref (b 0))]) hx hb dL_least_4 rfl hl (by decide) rfl (fun ls hl => ?_)
  refine lv_iconst (v := (0 : Int32)) hx hb dL_least_5 (by decide) ?_
  refine lv_istore_n (lv' := [(3, .int (0 : Int32)), (2, .ref qf), (0, .ref (a 0)), (1, .ref (b 0))]) hx hb dL_least_6 rfl hl (by decide) rfl (fun ls hl => ?_)
  refine lv_iconst (v := (0 : Int32)) hx hb dL_least_7 (by decide) ?_
  refine lv_istore (lv' := [(4, .int (0 : Int32)), (3, .int (0 : Int32)), (2, .ref qf), (0, .ref (a 0)), (1, .ref (b 0))]) hx hb dL_least_8 hl (by decide) rfl (fun ls hl => ?_)
  refine lv_iconst (v := (1 : Int32)) hx hb dL_least_10 (by decide) ?_
  refine lv_istore (lv' := [(5, .int (1 : Int32)), (4, .int (0 : Int32)), (3, .int (0 : Int32)), (2, .ref qf), (0, .ref (a 0)), (1, .ref (b 0))]) hx hb dL_least_11 hl (by decide) rfl (fun ls hl => ?_)
  obtain ⟨z61, hw62, h⟩ := bx1 h
  refine wh_W (P := fun (z : PS × Int32 × Int32 × Int32) => ∀ (H : Heap) (locs : List Loc) (ls : Array Slot), wk D (qW g a b qf z.1) A H0 H locs → lv_has ls 12 [(0, .ref (a 0)), (1, .ref (b 0)), (2, .ref qf), (3, .int z.2.1), (4, .int z.2.2.1), (5, .int z.2.2.2)] → W p l e (rmi 5 116 1 64) s m args below meth c H locs 1 64 Q (F0 m 13 ls [])) (X := Sum.elim (fun (z : PS × Int32 × Int32) => ∀ (H : Heap) (locs : List Loc) (ls : Array Slot), wk D (qW g a b qf z.1) A H0 H locs → lv_has ls 12 [(0, .ref (a 0)), (3, .int z.2.1), (4, .int z.2.2)] → W p l e (rmi 5 116 1 64) s m args below meth c H locs 1 64 Q (F0 m 287 ls [])) (Sum.elim (fun (z : PS) => ∀ (H : Heap) (locs : List Loc) (ls : Array Slot), wk D (qW g a b qf z) A H0 H locs → lv_has ls 12 [] → W p l e (rmi 5 116 1 64) s m args below meth c H locs 1 64 Q (F0 m 247 ls [])) (fun (z : PS) => ∀ (H : Heap) (locs : List Loc) (ls : Array Slot), wk D (qW g a b qf z) A H0 H locs → lv_has ls 12 [] → W p l e (rmi 5 116 1 64) s m args below meth c H locs 1 64 Q (F0 m 196 ls [])))) ?_ FU _ _ hw62 ?_ _ _ _ I (lv_sub hl [4, 5, 3, 2, 1, 0] rfl)
  · intro z o5 h hk6 H locs ls I hl
    obtain ⟨st1, x2, x3, x4⟩ := z
    have h : ((if (256 : Int32) ≤ x4 then some (.inr (.inl (st1, x2, x3))) else (lq ((x4 / (16 : Int32)) - (x4 / (16 : Int32)) / (4 : Int32) * (4 : Int32)) fun x8 => (lq ((x4 / (4 : Int32)) - (x4 / (4 : Int32)) / (4 : Int32) * (4 : Int32)) fun x10 => (if (((((((p_pr st1) (4 : Int32).toNatClampNeg) - ((p_pr st1) (12 : Int32).toNatClampNeg)) * (x4 / (64 : Int32))) + ((((p_pr st1) (5 : Int32).toNatClampNeg) - ((p_pr st1) (13 : Int32).toNatClampNeg)) * x8)) + ((((p_pr st1) (6 : Int32).toNatClampNeg) - ((p_pr st1) (14 : Int32).toNatClampNeg)) * x10)) + ((((p_pr st1) (7 : Int32).toNatClampNeg) - ((p_pr st1) (15 : Int32).toNatClampNeg)) * (x4 - x4 / (4 : Int32) * (4 : Int32)))) = 0 then (bi1 (wh (fL_least_b112 st1 x2 x3 x4 (x4 / (64 : Int32)) x8 x10 (x4 - x4 / (4 : Int32) * (4 : Int32))) FU ((1 : Int32), (0 : Int32))) fun w60 => (if w60 = 0 then some (.inl (st1, x2, x3, (x4 + 1))) else (if x2 = (64 : Int32) then some (.inr (.inr (.inr st1))) else (if ib x2 64 = true then (bi2 (nx (f4_least (p_c st1) x2 (0 : Int32))) fun st42 r43 => (if r43 = (x4 / (64 : Int32)) then (bi2 (nx (f4_least st42 x2 (1 : Int32))) fun st46 r47 => (if r47 = x8 then (bi2 (nx (f4_least st46 x2 (2 : Int32))) fun st50 r51 => (if r51 = x10 then (bi2 (nx (f4_least st50 x2 (3 : Int32))) fun st54 r55 => (if r55 = (x4 - x4 / (4 : Int32) * (4 : Int32)) then (if ((((x4 / (64 : Int32)) + x8) + x10) + (x4 - x4 / (4 : Int32) * (4 : Int32))) ≤ x3 then some (.inl ((p_c_s (p_c_s (p_c_s (p_c_s (p_found_s st1 (upd (p_found st1) x2.toNatClampNeg x4)) st42) st46) st50) st54), (x2 + 1), x3, (x4 + 1))) else (lq ((((x4 / (64 : Int32)) + x8) + x10) + (x4 - x4 / (4 : Int32) * (4 : Int32))) fun x58 => some (.inl ((p_c_s (p_c_s (p_c_s (p_c_s (p_found_s st1 (upd (p_found st1) x2.toNatClampNeg x4)) st42) st46) st50) st54), (x2 + 1), x58, (x4 + 1))))) else some (.inr (.inr (.inl (p_c_s (p_c_s (p_c_s (p_c_s (p_found_s st1 (upd (p_found st1) x2.toNatClampNeg x4)) st42) st46) st50) st54)))))) else some (.inr (.inr (.inl (p_c_s (p_c_s (p_c_s (p_found_s st1 (upd (p_found st1) x2.toNatClampNeg x4)) st42) st46) st50)))))) else some (.inr (.inr (.inl (p_c_s (p_c_s (p_found_s st1 (upd (p_found st1) x2.toNatClampNeg x4)) st42) st46)))))) else some (.inr (.inr (.inl (p_c_s (p_found_s st1 (upd (p_found st1) x2.toNatClampNeg x4)) st42)))))) else none)))) else some (.inl (st1, x2, x3, (x4 + 1))))))) : Option ((PS × Int32 × Int32 × Int32) ⊕ ((PS × Int32 × Int32) ⊕ ((PS) ⊕ (PS))))) = some o5 := h
    have I : wk D (qW g a b qf st1) A H0 H locs := I
    have hl : lv_has ls 12 [(0, .ref (a 0)), (1, .ref (b 0)), (2, .ref qf), (3, .int x2), (4, .int x3), (5, .int x4)] := hl
    refine lv_iload hx hb dL_least_13 (lv_at hl 5 rfl) ?_
    refine lv_sipush (v := (256 : Int32)) hx hb dL_least_15 (by decide) ?_
    refine lv_icmp_ge (tgt := 287) hx hb dL_least_18 (by decide) (fun hc7 => ?_) (fun hc7 => ?_)
    · have h := ifp hc7 h
      cases h
      exact hk6 _ _ _ I (lv_sub hl [0, 3, 4] rfl)
    · have h := ifn hc7 h
      refine lv_iload hx hb dL_least_21 (lv_at hl 5 rfl) ?_
      refine lv_bipush (v := (64 : Int32)) hx hb dL_least_23 (by decide) ?_
      refine lv_idiv hx hb dL_least_25 (by decide) ?_
      refine lv_istore (lv' := [(6, .int (x4 / (64 : Int32))), (0, .ref (a 0)), (1, .ref (b 0)), (2, .ref qf), (3, .int x2), (4, .int x3), (5, .int x4)]) hx hb dL_least_26 hl (by decide) rfl (fun ls hl => ?_)
      refine lv_iload hx hb dL_least_28 (lv_at hl 6 rfl) ?_
      refine lv_bipush (v := (16 : Int32)) hx hb dL_least_30 (by decide) ?_
      refine lv_idiv hx hb dL_least_32 (by decide) ?_
      refine lv_iconst (v := (4 : Int32)) hx hb dL_least_33 (by decide) ?_
      refine lv_irem hx hb dL_least_34 (by decide) ?_
      obtain ⟨x8, hx9, h⟩ := lqx h
      refine lv_istore (x := ((x4 / (16 : Int32)) - (x4 / (16 : Int32)) / (4 : Int32) * (4 : Int32))) (lv' := [(7, .int x8), (6, .int (x4 / (64 : Int32))), (0, .ref (a 0)), (1, .ref (b 0)), (2, .ref qf), (3, .int x2), (4, .int x3), (5, .int x4)]) hx hb dL_least_35 hl (by decide) (by subst hx9; rfl) (fun ls hl => ?_)
      refine lv_iload hx hb dL_least_37 (lv_at hl 7 rfl) ?_
      refine lv_iconst (v := (4 : Int32)) hx hb dL_least_39 (by decide) ?_
      refine lv_idiv hx hb dL_least_40 (by decide) ?_
      refine lv_iconst (v := (4 : Int32)) hx hb dL_least_41 (by decide) ?_
      refine lv_irem hx hb dL_least_42 (by decide) ?_
      obtain ⟨x10, hx11, h⟩ := lqx h
      refine lv_istore (x := ((x4 / (4 : Int32)) - (x4 / (4 : Int32)) / (4 : Int32) * (4 : Int32))) (lv' := [(8, .int x10), (7, .int x8), (6, .int (x4 / (64 : Int32))), (0, .ref (a 0)), (1, .ref (b 0)), (2, .ref qf), (3, .int x2), (4, .int x3), (5, .int x4)]) hx hb dL_least_43 hl (by decide) (by subst hx11; rfl) (fun ls hl => ?_)
      refine lv_iload hx hb dL_least_45 (lv_at hl 8 rfl) ?_
      refine lv_iconst (v := (4 : Int32)) hx hb dL_least_47 (by decide) ?_
      refine lv_irem hx hb dL_least_48 (by decide) ?_
      refine lv_istore (lv' := [(9, .int (x4 - x4 / (4 : Int32) * (4 : Int32))), (8, .int x10), (7, .int x8), (6, .int (x4 / (64 : Int32))), (0, .ref (a 0)), (1, .ref (b 0)), (2, .ref qf), (3, .int x2), (4, .int x3), (5, .int x4)]) hx hb dL_least_49 hl (by decide) rfl (fun ls hl => ?_)
      refine lv_aload_n hx hb dL_least_51 rfl (lv_at hl 5 rfl) ?_
      refine lv_iconst (v := (4 : Int32)) hx hb dL_least_52 (by decide) ?_
      refine q_ld50 E I (f := (p_pr st1)) rfl (by decide) dL_least_53 ?_
      refine lv_aload_n hx hb dL_least_54 rfl (lv_at hl 5 rfl) ?_
      refine lv_bipush (v := (12 : Int32)) hx hb dL_least_55 (by decide) ?_
      refine q_ld50 E I (f := (p_pr st1)) rfl (by decide) dL_least_57 ?_
      refine lv_isub hx hb dL_least_58 ?_
      refine lv_iload hx hb dL_least_59 (lv_at hl 3 rfl) ?_
      refine lv_imul hx hb dL_least_61 ?_
      refine lv_aload_n hx hb dL_least_62 rfl (lv_at hl 5 rfl) ?_
      refine lv_iconst (v := (5 : Int32)) hx hb dL_least_63 (by decide) ?_
      refine q_ld50 E I (f := (p_pr st1)) rfl (by decide) dL_least_64 ?_
      refine lv_aload_n hx hb dL_least_65 rfl (lv_at hl 5 rfl) ?_
      refine lv_bipush (v := (13 : Int32)) hx hb dL_least_66 (by decide) ?_
      refine q_ld50 E I (f := (p_pr st1)) rfl (by decide) dL_least_68 ?_
      refine lv_isub hx hb dL_least_69 ?_
      refine lv_iload hx hb dL_least_70 (lv_at hl 2 rfl) ?_
      refine lv_imul hx hb dL_least_72 ?_
      refine lv_iadd hx hb dL_least_73 ?_
      refine lv_aload_n hx hb dL_least_74 rfl (lv_at hl 5 rfl) ?_
      refine lv_bipush (v := (6 : Int32)) hx hb dL_least_75 (by decide) ?_
      refine q_ld50 E I (f := (p_pr st1)) rfl (by decide) dL_least_77 ?_
      refine lv_aload_n hx hb dL_least_78 rfl (lv_at hl 5 rfl) ?_
      refine lv_bipush (v := (14 : Int32)) hx hb dL_least_79 (by decide) ?_
      refine q_ld50 E I (f := (p_pr st1)) rfl (by decide) dL_least_81 ?_
      refine lv_isub hx hb dL_least_82 ?_
      refine lv_iload hx hb dL_least_83 (lv_at hl 1 rfl) ?_
      refine lv_imul hx hb dL_least_85 ?_
      refine lv_iadd hx hb dL_least_86 ?_
      refine lv_aload_n hx hb dL_least_87 rfl (lv_at hl 5 rfl) ?_
      refine lv_bipush (v := (7 : Int32)) hx hb dL_least_88 (by decide) ?_
      refine q_ld50 E I (f := (p_pr st1)) rfl (by decide) dL_least_90 ?_
      refine lv_aload_n hx hb dL_least_91 rfl (lv_at hl 5 rfl) ?_
      refine lv_bipush (v := (15 : Int32)) hx hb dL_least_92 (by decide) ?_
      refine q_ld50 E I (f := (p_pr st1)) rfl (by decide) dL_least_94 ?_
      refine lv_isub hx hb dL_least_95 ?_
      refine lv_iload hx hb dL_least_96 (lv_at hl 0 rfl) ?_
      refine lv_imul hx hb dL_least_98 ?_
      refine lv_iadd hx hb dL_least_99 ?_
      refine lv_if_eq (tgt := 106) hx hb dL_least_100 (by decide) (fun hc12 => ?_) (fun hc12 => ?_)
      · have h := ifp hc12 h
        refine lv_iconst (v := (1 : Int32)) hx hb dL_least_106 (by decide) ?_
        refine lv_istore (lv' := [(10, .int (1 : Int32)), (9, .int (x4 - x4 / (4 : Int32) * (4 : Int32))), (8, .int x10), (7, .int x8), (6, .int (x4 / (64 : Int32))), (0, .ref (a 0)), (1, .ref (b 0)), (2, .ref qf), (3, .int x2), (4, .int x3), (5, .int x4)]) hx hb dL_least_107 hl (by decide) rfl (fun ls hl => ?_)
        refine lv_iconst (v := (0 : Int32)) hx hb dL_least_109 (by decide) ?_
        refine lv_istore (lv' := [(11, .int (0 : Int32)), (10, .int (1 : Int32)), (9, .int (x4 - x4 / (4 : Int32) * (4 : Int32))), (8, .int x10), (7, .int x8), (6, .int (x4 / (64 : Int32))), (0, .ref (a 0)), (1, .ref (b 0)), (2, .ref qf), (3, .int x2), (4, .int x3), (5, .int x4)]) hx hb dL_least_110 hl (by decide) rfl (fun ls hl => ?_)
        obtain ⟨z35, hw36, h⟩ := bx1 h
        refine wh_W (P := fun (z : Int32 × Int32) => ∀ (H : Heap) (locs : List Loc) (ls : Array Slot), wk D (qW g a b qf st1) A H0 H locs → lv_has ls 12 [(0, .ref (a 0)), (1, .ref (b 0)), (2, .ref qf), (3, .int x2), (4, .int x3), (5, .int x4), (6, .int (x4 / (64 : Int32))), (7, .int x8), (8, .int x10), (9, .int (x4 - x4 / (4 : Int32) * (4 : Int32))), (10, .int z.1), (11, .int z.2)] → W p l e (rmi 5 116 1 64) s m args below meth c H locs 1 64 Q (F0 m 112 ls [])) (X := fun (z : Int32) => ∀ (H : Heap) (locs : List Loc) (ls : Array Slot), wk D (qW g a b qf st1) A H0 H locs → lv_has ls 12 [(0, .ref (a 0)), (1, .ref (b 0)), (2, .ref qf), (3, .int x2), (4, .int x3), (5, .int x4), (6, .int (x4 / (64 : Int32))), (7, .int x8), (8, .int x10), (9, .int (x4 - x4 / (4 : Int32) * (4 : Int32))), (10, .int z)] → W p l e (rmi 5 116 1 64) s m args below meth c H locs 1 64 Q (F0 m 182 ls [])) ?_ FU _ _ hw36 ?_ _ _ _ I (lv_sub hl [6, 7, 8, 9, 10, 11, 5, 4, 3, 2, 1, 0] rfl)
        · intro z o23 h hk24 H locs ls I hl
          obtain ⟨x21, x22⟩ := z
          have h : ((if x2 ≤ x22 then some (.inr x21) else (if x21 = 0 then some (.inr x21) else (if ib x22 64 = true then (if (x4 / (64 : Int32)) < (((p_found st1) x22.toNatClampNeg) / (64 : Int32)) then some (.inl (x21, (x22 + 1))) else (if ib x22 64 = true then (if x8 < ((((p_found st1) x22.toNatClampNeg) / (16 : Int32)) - (((p_found st1) x22.toNatClampNeg) / (16 : Int32)) / (4 : Int32) * (4 : Int32)) then some (.inl (x21, (x22 + 1))) else (if ib x22 64 = true then (if x10 < ((((p_found st1) x22.toNatClampNeg) / (4 : Int32)) - (((p_found st1) x22.toNatClampNeg) / (4 : Int32)) / (4 : Int32) * (4 : Int32)) then some (.inl (x21, (x22 + 1))) else (if ib x22 64 = true then (if (x4 - x4 / (4 : Int32) * (4 : Int32)) < (((p_found st1) x22.toNatClampNeg) - ((p_found st1) x22.toNatClampNeg) / (4 : Int32) * (4 : Int32)) then some (.inl (x21, (x22 + 1))) else some (.inl ((0 : Int32), (x22 + 1)))) else none)) else none)) else none)) else none))) : Option ((Int32 × Int32) ⊕ (Int32))) = some o23 := h
          have I : wk D (qW g a b qf st1) A H0 H locs := I
          have hl : lv_has ls 12 [(0, .ref (a 0)), (1, .ref (b 0)), (2, .ref qf), (3, .int x2), (4, .int x3), (5, .int x4), (6, .int (x4 / (64 : Int32))), (7, .int x8), (8, .int x10), (9, .int (x4 - x4 / (4 : Int32) * (4 : Int32))), (10, .int x21), (11, .int x22)] := hl
          refine lv_iload hx hb dL_least_112 (lv_at hl 11 rfl) ?_
          refine lv_iload_n hx hb dL_least_114 rfl (lv_at hl 3 rfl) ?_
          refine lv_icmp_ge (tgt := 182) hx hb dL_least_115 (by decide) (fun hc25 => ?_) (fun hc25 => ?_)
          · have h := ifp hc25 h
            cases h
            exact hk24 _ _ _ I (lv_sub hl [0, 1, 2, 3, 4, 5, 6, 7, 8, 9, 10] rfl)
          · have h := ifn hc25 h
            refine lv_iload hx hb dL_least_118 (lv_at hl 10 rfl) ?_
            refine lv_if_eq (tgt := 182) hx hb dL_least_120 (by decide) (fun hc26 => ?_) (fun hc26 => ?_)
            · have h := ifp hc26 h
              cases h
              exact hk24 _ _ _ I (lv_sub hl [0, 1, 2, 3, 4, 5, 6, 7, 8, 9, 10] rfl)
            · have h := ifn hc26 h
              refine lv_aload_n hx hb dL_least_123 rfl (lv_at hl 2 rfl) ?_
              refine lv_iload hx hb dL_least_124 (lv_at hl 11 rfl) ?_
              obtain ⟨hc27, h⟩ := gd h
              refine q_ld52 E I (f := (p_found st1)) rfl hc27 dL_least_126 ?_
              refine lv_bipush (v := (64 : Int32)) hx hb dL_least_127 (by decide) ?_
              refine lv_idiv hx hb dL_least_129 (by decide) ?_
              refine lv_iload hx hb dL_least_130 (lv_at hl 6 rfl) ?_
              refine lv_icmp_gt (tgt := 176) hx hb dL_least_132 (by decide) (fun hc28 => ?_) (fun hc28 => ?_)
              · have h := ifp hc28 h
                refine lv_iinc (v := (x22 + 1)) (lv' := [(11, .int (x22 + 1)), (0, .ref (a 0)), (1, .ref (b 0)), (2, .ref qf), (3, .int x2), (4, .int x3), (5, .int x4), (6, .int (x4 / (64 : Int32))), (7, .int x8), (8, .int x10), (9, .int (x4 - x4 / (4 : Int32) * (4 : Int32))), (10, .int x21)]) hx hb dL_least_176 hl (k := 11) rfl rfl (by decide) rfl (fun ls hl => ?_)
                refine lv_goto (tgt := 112) hx hb dL_least_179 (by decide) ?_
                cases h
                exact hk24 _ _ _ I (lv_sub hl [1, 2, 3, 4, 5, 6, 7, 8, 9, 10, 11, 0] rfl)
              · have h := ifn hc28 h
                refine lv_aload_n hx hb dL_least_135 rfl (lv_at hl 2 rfl) ?_
                refine lv_iload hx hb dL_least_136 (lv_at hl 11 rfl) ?_
                obtain ⟨hc29, h⟩ := gd h
                refine q_ld52 E I (f := (p_found st1)) rfl hc29 dL_least_138 ?_
                refine lv_bipush (v := (16 : Int32)) hx hb dL_least_139 (by decide) ?_
                refine lv_idiv hx hb dL_least_141 (by decide) ?_
                refine lv_iconst (v := (4 : Int32)) hx hb dL_least_142 (by decide) ?_
                refine lv_irem hx hb dL_least_143 (by decide) ?_
                refine lv_iload hx hb dL_least_144 (lv_at hl 7 rfl) ?_
                refine lv_icmp_gt (tgt := 176) hx hb dL_least_146 (by decide) (fun hc30 => ?_) (fun hc30 => ?_)
                · have h := ifp hc30 h
                  refine lv_iinc (v := (x22 + 1)) (lv' := [(11, .int (x22 + 1)), (0, .ref (a 0)), (1, .ref (b 0)), (2, .ref qf), (3, .int x2), (4, .int x3), (5, .int x4), (6, .int (x4 / (64 : Int32))), (7, .int x8), (8, .int x10), (9, .int (x4 - x4 / (4 : Int32) * (4 : Int32))), (10, .int x21)]) hx hb dL_least_176 hl (k := 11) rfl rfl (by decide) rfl (fun ls hl => ?_)
                  refine lv_goto (tgt := 112) hx hb dL_least_179 (by decide) ?_
                  cases h
                  exact hk24 _ _ _ I (lv_sub hl [1, 2, 3, 4, 5, 6, 7, 8, 9, 10, 11, 0] rfl)
                · have h := ifn hc30 h
                  refine lv_aload_n hx hb dL_least_149 rfl (lv_at hl 2 rfl) ?_
                  refine lv_iload hx hb dL_least_150 (lv_at hl 11 rfl) ?_
                  obtain ⟨hc31, h⟩ := gd h
                  refine q_ld52 E I (f := (p_found st1)) rfl hc31 dL_least_152 ?_
                  refine lv_iconst (v := (4 : Int32)) hx hb dL_least_153 (by decide) ?_
                  refine lv_idiv hx hb dL_least_154 (by decide) ?_
                  refine lv_iconst (v := (4 : Int32)) hx hb dL_least_155 (by decide) ?_
                  refine lv_irem hx hb dL_least_156 (by decide) ?_
                  refine lv_iload hx hb dL_least_157 (lv_at hl 8 rfl) ?_
                  refine lv_icmp_gt (tgt := 176) hx hb dL_least_159 (by decide) (fun hc32 => ?_) (fun hc32 => ?_)
                  · have h := ifp hc32 h
                    refine lv_iinc (v := (x22 + 1)) (lv' := [(11, .int (x22 + 1)), (0, .ref (a 0)), (1, .ref (b 0)), (2, .ref qf), (3, .int x2), (4, .int x3), (5, .int x4), (6, .int (x4 / (64 : Int32))), (7, .int x8), (8, .int x10), (9, .int (x4 - x4 / (4 : Int32) * (4 : Int32))), (10, .int x21)]) hx hb dL_least_176 hl (k := 11) rfl rfl (by decide) rfl (fun ls hl => ?_)
                    refine lv_goto (tgt := 112) hx hb dL_least_179 (by decide) ?_
                    cases h
                    exact hk24 _ _ _ I (lv_sub hl [1, 2, 3, 4, 5, 6, 7, 8, 9, 10, 11, 0] rfl)
                  · have h := ifn hc32 h
                    refine lv_aload_n hx hb dL_least_162 rfl (lv_at hl 2 rfl) ?_
                    refine lv_iload hx hb dL_least_163 (lv_at hl 11 rfl) ?_
                    obtain ⟨hc33, h⟩ := gd h
                    refine q_ld52 E I (f := (p_found st1)) rfl hc33 dL_least_165 ?_
                    refine lv_iconst (v := (4 : Int32)) hx hb dL_least_166 (by decide) ?_
                    refine lv_irem hx hb dL_least_167 (by decide) ?_
                    refine lv_iload hx hb dL_least_168 (lv_at hl 9 rfl) ?_
                    refine lv_icmp_gt (tgt := 176) hx hb dL_least_170 (by decide) (fun hc34 => ?_) (fun hc34 => ?_)
                    · have h := ifp hc34 h
                      refine lv_iinc (v := (x22 + 1)) (lv' := [(11, .int (x22 + 1)), (0, .ref (a 0)), (1, .ref (b 0)), (2, .ref qf), (3, .int x2), (4, .int x3), (5, .int x4), (6, .int (x4 / (64 : Int32))), (7, .int x8), (8, .int x10), (9, .int (x4 - x4 / (4 : Int32) * (4 : Int32))), (10, .int x21)]) hx hb dL_least_176 hl (k := 11) rfl rfl (by decide) rfl (fun ls hl => ?_)
                      refine lv_goto (tgt := 112) hx hb dL_least_179 (by decide) ?_
                      cases h
                      exact hk24 _ _ _ I (lv_sub hl [1, 2, 3, 4, 5, 6, 7, 8, 9, 10, 11, 0] rfl)
                    · have h := ifn hc34 h
                      refine lv_iconst (v := (0 : Int32)) hx hb dL_least_173 (by decide) ?_
                      refine lv_istore (lv' := [(10, .int (0 : Int32)), (0, .ref (a 0)), (1, .ref (b 0)), (2, .ref qf), (3, .int x2), (4, .int x3), (5, .int x4), (6, .int (x4 / (64 : Int32))), (7, .int x8), (8, .int x10), (9, .int (x4 - x4 / (4 : Int32) * (4 : Int32))), (11, .int x22)]) hx hb dL_least_174 hl (by decide) rfl (fun ls hl => ?_)
                      refine lv_iinc (v := (x22 + 1)) (lv' := [(11, .int (x22 + 1)), (10, .int (0 : Int32)), (0, .ref (a 0)), (1, .ref (b 0)), (2, .ref qf), (3, .int x2), (4, .int x3), (5, .int x4), (6, .int (x4 / (64 : Int32))), (7, .int x8), (8, .int x10), (9, .int (x4 - x4 / (4 : Int32) * (4 : Int32)))]) hx hb dL_least_176 hl (k := 11) rfl rfl (by decide) rfl (fun ls hl => ?_)
                      refine lv_goto (tgt := 112) hx hb dL_least_179 (by decide) ?_
                      cases h
                      exact hk24 _ _ _ I (lv_sub hl [2, 3, 4, 5, 6, 7, 8, 9, 10, 11, 1, 0] rfl)
        · obtain ⟨x37, rfl⟩ : ∃ y, y = z35 := ⟨_, rfl⟩
          intro H locs ls I hl
          have h : ((if x37 = 0 then some (.inl (st1, x2, x3, (x4 + 1))) else (if x2 = (64 : Int32) then some (.inr (.inr (.inr st1))) else (if ib x2 64 = true then (bi2 (nx (f4_least (p_c st1) x2 (0 : Int32))) fun st42 r43 => (if r43 = (x4 / (64 : Int32)) then (bi2 (nx (f4_least st42 x2 (1 : Int32))) fun st46 r47 => (if r47 = x8 then (bi2 (nx (f4_least st46 x2 (2 : Int32))) fun st50 r51 => (if r51 = x10 then (bi2 (nx (f4_least st50 x2 (3 : Int32))) fun st54 r55 => (if r55 = (x4 - x4 / (4 : Int32) * (4 : Int32)) then (if ((((x4 / (64 : Int32)) + x8) + x10) + (x4 - x4 / (4 : Int32) * (4 : Int32))) ≤ x3 then some (.inl ((p_c_s (p_c_s (p_c_s (p_c_s (p_found_s st1 (upd (p_found st1) x2.toNatClampNeg x4)) st42) st46) st50) st54), (x2 + 1), x3, (x4 + 1))) else (lq ((((x4 / (64 : Int32)) + x8) + x10) + (x4 - x4 / (4 : Int32) * (4 : Int32))) fun x58 => some (.inl ((p_c_s (p_c_s (p_c_s (p_c_s (p_found_s st1 (upd (p_found st1) x2.toNatClampNeg x4)) st42) st46) st50) st54), (x2 + 1), x58, (x4 + 1))))) else some (.inr (.inr (.inl (p_c_s (p_c_s (p_c_s (p_c_s (p_found_s st1 (upd (p_found st1) x2.toNatClampNeg x4)) st42) st46) st50) st54)))))) else some (.inr (.inr (.inl (p_c_s (p_c_s (p_c_s (p_found_s st1 (upd (p_found st1) x2.toNatClampNeg x4)) st42) st46) st50)))))) else some (.inr (.inr (.inl (p_c_s (p_c_s (p_found_s st1 (upd (p_found st1) x2.toNatClampNeg x4)) st42) st46)))))) else some (.inr (.inr (.inl (p_c_s (p_found_s st1 (upd (p_found st1) x2.toNatClampNeg x4)) st42)))))) else none))) : Option ((PS × Int32 × Int32 × Int32) ⊕ ((PS × Int32 × Int32) ⊕ ((PS) ⊕ (PS))))) = some o5 := h
          have I : wk D (qW g a b qf st1) A H0 H locs := I
          have hl : lv_has ls 12 [(0, .ref (a 0)), (1, .ref (b 0)), (2, .ref qf), (3, .int x2), (4, .int x3), (5, .int x4), (6, .int (x4 / (64 : Int32))), (7, .int x8), (8, .int x10), (9, .int (x4 - x4 / (4 : Int32) * (4 : Int32))), (10, .int x37)] := hl
          refine lv_iload hx hb dL_least_182 (lv_at hl 10 rfl) ?_
          refine lv_if_ne (tgt := 190) hx hb dL_least_184 (by decide) (fun hc38 => ?_) (fun hc38 => ?_)
          · have h := ifn hc38 h
            refine lv_iload_n hx hb dL_least_190 rfl (lv_at hl 3 rfl) ?_
            refine lv_bipush (v := (64 : Int32)) hx hb dL_least_191 (by decide) ?_
            refine lv_icmp_ne (tgt := 198) hx hb dL_least_193 (by decide) (fun hc39 => ?_) (fun hc39 => ?_)
            · have h := ifn hc39 h
              refine lv_aload_n hx hb dL_least_198 rfl (lv_at hl 2 rfl) ?_
              refine lv_iload_n hx hb dL_least_199 rfl (lv_at hl 3 rfl) ?_
              refine lv_iload hx hb dL_least_200 (lv_at hl 5 rfl) ?_
              obtain ⟨hc40, h⟩ := gd h
              refine q_st52 E I (f := (p_found st1)) rfl hc40 dL_least_202 (fun H locs I => ?_)
              refine lv_aload_n hx hb dL_least_203 rfl (lv_at hl 0 rfl) ?_
              refine lv_iload_n hx hb dL_least_204 rfl (lv_at hl 3 rfl) ?_
              refine lv_iconst (v := (0 : Int32)) hx hb dL_least_205 (by decide) ?_
              obtain ⟨st42, r43, hc41, h⟩ := nxx h
              refine r_callF1 (ws' := cW g a st42) (As := [.int x2, .int (0 : Int32)]) (v := .int r43) (rest := []) E I hl.1 kL_14 (c4_least hc41) cW_k (q0 := 0) rfl rfl rfl rfl (Nat.le_of_ble_eq_true rfl) ⟨Nat.le_of_ble_eq_true rfl, Nat.le_of_ble_eq_true rfl⟩ ⟨Nat.le_of_ble_eq_true rfl, Nat.le_of_ble_eq_true rfl⟩ dL_least_206 (fun H locs I => ?_)
              have I : wk D (qW g a b qf (p_c_s (p_found_s st1 (upd (p_found st1) x2.toNatClampNeg x4)) st42)) A H0 H locs := I
              refine lv_iload hx hb dL_least_209 (lv_at hl 6 rfl) ?_
              refine lv_icmp_ne (tgt := 247) hx hb dL_least_211 (by decide) (fun hc44 => ?_) (fun hc44 => ?_)
              · have h := ifn hc44 h
                cases h
                exact hk6 _ _ _ I (lv_sub hl [] rfl)
              · have h := ifp hc44 h
                refine lv_aload_n hx hb dL_least_214 rfl (lv_at hl 0 rfl) ?_
                refine lv_iload_n hx hb dL_least_215 rfl (lv_at hl 3 rfl) ?_
                refine lv_iconst (v := (1 : Int32)) hx hb dL_least_216 (by decide) ?_
                obtain ⟨st46, r47, hc45, h⟩ := nxx h
                refine r_callF1 (ws' := cW g a st46) (As := [.int x2, .int (1 : Int32)]) (v := .int r47) (rest := []) E I hl.1 kL_14 (c4_least hc45) cW_k (q0 := 0) rfl rfl rfl rfl (Nat.le_of_ble_eq_true rfl) ⟨Nat.le_of_ble_eq_true rfl, Nat.le_of_ble_eq_true rfl⟩ ⟨Nat.le_of_ble_eq_true rfl, Nat.le_of_ble_eq_true rfl⟩ dL_least_217 (fun H locs I => ?_)
                have I : wk D (qW g a b qf (p_c_s (p_c_s (p_found_s st1 (upd (p_found st1) x2.toNatClampNeg x4)) st42) st46)) A H0 H locs := I
                refine lv_iload hx hb dL_least_220 (lv_at hl 7 rfl) ?_
                refine lv_icmp_ne (tgt := 247) hx hb dL_least_222 (by decide) (fun hc48 => ?_) (fun hc48 => ?_)
                · have h := ifn hc48 h
                  cases h
                  exact hk6 _ _ _ I (lv_sub hl [] rfl)
                · have h := ifp hc48 h
                  refine lv_aload_n hx hb dL_least_225 rfl (lv_at hl 0 rfl) ?_
                  refine lv_iload_n hx hb dL_least_226 rfl (lv_at hl 3 rfl) ?_
                  refine lv_iconst (v := (2 : Int32)) hx hb dL_least_227 (by decide) ?_
                  obtain ⟨st50, r51, hc49, h⟩ := nxx h
                  refine r_callF1 (ws' := cW g a st50) (As := [.int x2, .int (2 : Int32)]) (v := .int r51) (rest := []) E I hl.1 kL_14 (c4_least hc49) cW_k (q0 := 0) rfl rfl rfl rfl (Nat.le_of_ble_eq_true rfl) ⟨Nat.le_of_ble_eq_true rfl, Nat.le_of_ble_eq_true rfl⟩ ⟨Nat.le_of_ble_eq_true rfl, Nat.le_of_ble_eq_true rfl⟩ dL_least_228 (fun H locs I => ?_)
                  have I : wk D (qW g a b qf (p_c_s (p_c_s (p_c_s (p_found_s st1 (upd (p_found st1) x2.toNatClampNeg x4)) st42) st46) st50)) A H0 H locs := I
                  refine lv_iload hx hb dL_least_231 (lv_at hl 8 rfl) ?_
                  refine lv_icmp_ne (tgt := 247) hx hb dL_least_233 (by decide) (fun hc52 => ?_) (fun hc52 => ?_)
                  · have h := ifn hc52 h
                    cases h
                    exact hk6 _ _ _ I (lv_sub hl [] rfl)
                  · have h := ifp hc52 h
                    refine lv_aload_n hx hb dL_least_236 rfl (lv_at hl 0 rfl) ?_
                    refine lv_iload_n hx hb dL_least_237 rfl (lv_at hl 3 rfl) ?_
                    refine lv_iconst (v := (3 : Int32)) hx hb dL_least_238 (by decide) ?_
                    obtain ⟨st54, r55, hc53, h⟩ := nxx h
                    refine r_callF1 (ws' := cW g a st54) (As := [.int x2, .int (3 : Int32)]) (v := .int r55) (rest := []) E I hl.1 kL_14 (c4_least hc53) cW_k (q0 := 0) rfl rfl rfl rfl (Nat.le_of_ble_eq_true rfl) ⟨Nat.le_of_ble_eq_true rfl, Nat.le_of_ble_eq_true rfl⟩ ⟨Nat.le_of_ble_eq_true rfl, Nat.le_of_ble_eq_true rfl⟩ dL_least_239 (fun H locs I => ?_)
                    have I : wk D (qW g a b qf (p_c_s (p_c_s (p_c_s (p_c_s (p_found_s st1 (upd (p_found st1) x2.toNatClampNeg x4)) st42) st46) st50) st54)) A H0 H locs := I
                    refine lv_iload hx hb dL_least_242 (lv_at hl 9 rfl) ?_
                    refine lv_icmp_eq (tgt := 249) hx hb dL_least_244 (by decide) (fun hc56 => ?_) (fun hc56 => ?_)
                    · have h := ifp hc56 h
                      refine lv_iinc (v := (x2 + 1)) (lv' := [(3, .int (x2 + 1)), (0, .ref (a 0)), (1, .ref (b 0)), (2, .ref qf), (4, .int x3), (5, .int x4), (6, .int (x4 / (64 : Int32))), (7, .int x8), (8, .int x10), (9, .int (x4 - x4 / (4 : Int32) * (4 : Int32))), (10, .int x37)]) hx hb dL_least_249 hl (k := 3) rfl rfl (by decide) rfl (fun ls hl => ?_)
                      refine lv_iload hx hb dL_least_252 (lv_at hl 6 rfl) ?_
                      refine lv_iload hx hb dL_least_254 (lv_at hl 7 rfl) ?_
                      refine lv_iadd hx hb dL_least_256 ?_
                      refine lv_iload hx hb dL_least_257 (lv_at hl 8 rfl) ?_
                      refine lv_iadd hx hb dL_least_259 ?_
                      refine lv_iload hx hb dL_least_260 (lv_at hl 9 rfl) ?_
                      refine lv_iadd hx hb dL_least_262 ?_
                      refine lv_iload hx hb dL_least_263 (lv_at hl 4 rfl) ?_
                      refine lv_icmp_le (tgt := 281) hx hb dL_least_265 (by decide) (fun hc57 => ?_) (fun hc57 => ?_)
                      · have h := ifp hc57 h
                        refine lv_iinc (v := (x4 + 1)) (lv' := [(5, .int (x4 + 1)), (3, .int (x2 + 1)), (0, .ref (a 0)), (1, .ref (b 0)), (2, .ref qf), (4, .int x3), (6, .int (x4 / (64 : Int32))), (7, .int x8), (8, .int x10), (9, .int (x4 - x4 / (4 : Int32) * (4 : Int32))), (10, .int x37)]) hx hb dL_least_281 hl (k := 5) rfl rfl (by decide) rfl (fun ls hl => ?_)
                        refine lv_goto (tgt := 13) hx hb dL_least_284 (by decide) ?_
                        cases h
                        exact hk6 _ _ _ I (lv_sub hl [2, 3, 4, 1, 5, 0] rfl)
                      · have h := ifn hc57 h
                        refine lv_iload hx hb dL_least_268 (lv_at hl 6 rfl) ?_
                        refine lv_iload hx hb dL_least_270 (lv_at hl 7 rfl) ?_
                        refine lv_iadd hx hb dL_least_272 ?_
                        refine lv_iload hx hb dL_least_273 (lv_at hl 8 rfl) ?_
                        refine lv_iadd hx hb dL_least_275 ?_
                        refine lv_iload hx hb dL_least_276 (lv_at hl 9 rfl) ?_
                        refine lv_iadd hx hb dL_least_278 ?_
                        obtain ⟨x58, hx59, h⟩ := lqx h
                        refine lv_istore (x := ((((x4 / (64 : Int32)) + x8) + x10) + (x4 - x4 / (4 : Int32) * (4 : Int32)))) (lv' := [(4, .int x58), (3, .int (x2 + 1)), (0, .ref (a 0)), (1, .ref (b 0)), (2, .ref qf), (5, .int x4), (6, .int (x4 / (64 : Int32))), (7, .int x8), (8, .int x10), (9, .int (x4 - x4 / (4 : Int32) * (4 : Int32))), (10, .int x37)]) hx hb dL_least_279 hl (by decide) (by subst hx59; rfl) (fun ls hl => ?_)
                        refine lv_iinc (v := (x4 + 1)) (lv' := [(5, .int (x4 + 1)), (4, .int x58), (3, .int (x2 + 1)), (0, .ref (a 0)), (1, .ref (b 0)), (2, .ref qf), (6, .int (x4 / (64 : Int32))), (7, .int x8), (8, .int x10), (9, .int (x4 - x4 / (4 : Int32) * (4 : Int32))), (10, .int x37)]) hx hb dL_least_281 hl (k := 5) rfl rfl (by decide) rfl (fun ls hl => ?_)
                        refine lv_goto (tgt := 13) hx hb dL_least_284 (by decide) ?_
                        cases h
                        exact hk6 _ _ _ I (lv_sub hl [3, 4, 5, 2, 1, 0] rfl)
                    · have h := ifn hc56 h
                      cases h
                      exact hk6 _ _ _ I (lv_sub hl [] rfl)
            · have h := ifp hc39 h
              cases h
              exact hk6 _ _ _ I (lv_sub hl [] rfl)
          · have h := ifp hc38 h
            refine lv_goto (tgt := 281) hx hb dL_least_187 (by decide) ?_
            refine lv_iinc (v := (x4 + 1)) (lv' := [(5, .int (x4 + 1)), (0, .ref (a 0)), (1, .ref (b 0)), (2, .ref qf), (3, .int x2), (4, .int x3), (6, .int (x4 / (64 : Int32))), (7, .int x8), (8, .int x10), (9, .int (x4 - x4 / (4 : Int32) * (4 : Int32))), (10, .int x37)]) hx hb dL_least_281 hl (k := 5) rfl rfl (by decide) rfl (fun ls hl => ?_)
            refine lv_goto (tgt := 13) hx hb dL_least_284 (by decide) ?_
            cases h
            exact hk6 _ _ _ I (lv_sub hl [1, 2, 3, 4, 5, 0] rfl)
      · have h := ifn hc12 h
        refine lv_goto (tgt := 281) hx hb dL_least_103 (by decide) ?_
        refine lv_iinc (v := (x4 + 1)) (lv' := [(5, .int (x4 + 1)), (9, .int (x4 - x4 / (4 : Int32) * (4 : Int32))), (8, .int x10), (7, .int x8), (6, .int (x4 / (64 : Int32))), (0, .ref (a 0)), (1, .ref (b 0)), (2, .ref qf), (3, .int x2), (4, .int x3)]) hx hb dL_least_281 hl (k := 9) rfl rfl (by decide) rfl (fun ls hl => ?_)
        refine lv_goto (tgt := 13) hx hb dL_least_284 (by decide) ?_
        cases h
        exact hk6 _ _ _ I (lv_sub hl [5, 6, 7, 8, 9, 0] rfl)
  · rcases z61 with z80 | z80
    · obtain ⟨st63, x64, x65⟩ := z80
      intro H locs ls I hl
      have h : ((bi2 (nx (f4_least (p_c st63) x64 (0 : Int32))) fun st67 r68 => (if r68 = (-1 : Int32) then (bi2 (nx (f4_count st67 (4 : Int32))) fun st71 r72 => (if r72 = x64 then (bi2 (nx (f4_count st71 (5 : Int32))) fun st75 r76 => (if r76 = x65 then some ((p_c_s (p_c_s (p_c_s st63 st67) st71) st75), (1 : Int32)) else some ((p_c_s (p_c_s (p_c_s st63 st67) st71) st75), (0 : Int32)))) else some ((p_c_s (p_c_s st63 st67) st71), (0 : Int32)))) else some ((p_c_s st63 st67), (0 : Int32)))) : Option (PS × Int32)) = some o := h
      have I : wk D (qW g a b qf st63) A H0 H locs := I
      have hl : lv_has ls 12 [(0, .ref (a 0)), (3, .int x64), (4, .int x65)] := hl
      refine lv_aload_n hx hb dL_least_287 rfl (lv_at hl 0 rfl) ?_
      refine lv_iload_n hx hb dL_least_288 rfl (lv_at hl 1 rfl) ?_
      refine lv_iconst (v := (0 : Int32)) hx hb dL_least_289 (by decide) ?_
      obtain ⟨st67, r68, hc66, h⟩ := nxx h
      refine r_callF1 (ws' := cW g a st67) (As := [.int x64, .int (0 : Int32)]) (v := .int r68) (rest := []) E I hl.1 kL_14 (c4_least hc66) cW_k (q0 := 0) rfl rfl rfl rfl (Nat.le_of_ble_eq_true rfl) ⟨Nat.le_of_ble_eq_true rfl, Nat.le_of_ble_eq_true rfl⟩ ⟨Nat.le_of_ble_eq_true rfl, Nat.le_of_ble_eq_true rfl⟩ dL_least_290 (fun H locs I => ?_)
      have I : wk D (qW g a b qf (p_c_s st63 st67)) A H0 H locs := I
      refine lv_iconst (v := (-1 : Int32)) hx hb dL_least_293 (by decide) ?_
      refine lv_icmp_ne (tgt := 320) hx hb dL_least_294 (by decide) (fun hc69 => ?_) (fun hc69 => ?_)
      · have h := ifn hc69 h
        refine lv_iconst (v := (0 : Int32)) hx hb dL_least_320 (by decide) ?_
        cases h
        refine W.widen (k := 1) (n := 64) (Nat.le_of_ble_eq_true rfl) (Nat.le_of_ble_eq_true rfl) ?_
        have I := qW_p I
        exact K _ _ _ _ I dL_least_321 rfl
      · have h := ifp hc69 h
        refine lv_aload_n hx hb dL_least_297 rfl (lv_at hl 0 rfl) ?_
        refine lv_iconst (v := (4 : Int32)) hx hb dL_least_298 (by decide) ?_
        obtain ⟨st71, r72, hc70, h⟩ := nxx h
        refine r_callF1 (ws' := cW g a st71) (As := [.int (4 : Int32)]) (v := .int r72) (rest := []) E I hl.1 kL_20 (c4_count hc70) cW_k (q0 := 0) rfl rfl rfl rfl (Nat.le_of_ble_eq_true rfl) ⟨Nat.le_of_ble_eq_true rfl, Nat.le_of_ble_eq_true rfl⟩ ⟨Nat.le_of_ble_eq_true rfl, Nat.le_of_ble_eq_true rfl⟩ dL_least_299 (fun H locs I => ?_)
        have I : wk D (qW g a b qf (p_c_s (p_c_s st63 st67) st71)) A H0 H locs := I
        refine lv_iload_n hx hb dL_least_302 rfl (lv_at hl 1 rfl) ?_
        refine lv_icmp_ne (tgt := 320) hx hb dL_least_303 (by decide) (fun hc73 => ?_) (fun hc73 => ?_)
        · have h := ifn hc73 h
          refine lv_iconst (v := (0 : Int32)) hx hb dL_least_320 (by decide) ?_
          cases h
          refine W.widen (k := 1) (n := 64) (Nat.le_of_ble_eq_true rfl) (Nat.le_of_ble_eq_true rfl) ?_
          have I := qW_p I
          exact K _ _ _ _ I dL_least_321 rfl
        · have h := ifp hc73 h
          refine lv_aload_n hx hb dL_least_306 rfl (lv_at hl 0 rfl) ?_
          refine lv_iconst (v := (5 : Int32)) hx hb dL_least_307 (by decide) ?_
          obtain ⟨st75, r76, hc74, h⟩ := nxx h
          refine r_callF1 (ws' := cW g a st75) (As := [.int (5 : Int32)]) (v := .int r76) (rest := []) E I hl.1 kL_20 (c4_count hc74) cW_k (q0 := 0) rfl rfl rfl rfl (Nat.le_of_ble_eq_true rfl) ⟨Nat.le_of_ble_eq_true rfl, Nat.le_of_ble_eq_true rfl⟩ ⟨Nat.le_of_ble_eq_true rfl, Nat.le_of_ble_eq_true rfl⟩ dL_least_308 (fun H locs I => ?_)
          have I : wk D (qW g a b qf (p_c_s (p_c_s (p_c_s st63 st67) st71) st75)) A H0 H locs := I
          refine lv_iload hx hb dL_least_311 (lv_at hl 2 rfl) ?_
          refine lv_icmp_ne (tgt := 320) hx hb dL_least_313 (by decide) (fun hc77 => ?_) (fun hc77 => ?_)
          · have h := ifn hc77 h
            refine lv_iconst (v := (0 : Int32)) hx hb dL_least_320 (by decide) ?_
            cases h
            refine W.widen (k := 1) (n := 64) (Nat.le_of_ble_eq_true rfl) (Nat.le_of_ble_eq_true rfl) ?_
            have I := qW_p I
            exact K _ _ _ _ I dL_least_321 rfl
          · have h := ifp hc77 h
            refine lv_iconst (v := (1 : Int32)) hx hb dL_least_316 (by decide) ?_
            refine lv_goto (tgt := 321) hx hb dL_least_317 (by decide) ?_
            cases h
            refine W.widen (k := 1) (n := 64) (Nat.le_of_ble_eq_true rfl) (Nat.le_of_ble_eq_true rfl) ?_
            have I := qW_p I
            exact K _ _ _ _ I dL_least_321 rfl
    · rcases z80 with z81 | z81
      · obtain ⟨st78, rfl⟩ : ∃ y, y = z81 := ⟨_, rfl⟩
        intro H locs ls I hl
        have h : (some (st78, (0 : Int32)) : Option (PS × Int32)) = some o := h
        have I : wk D (qW g a b qf st78) A H0 H locs := I
        have hl : lv_has ls 12 [] := hl
        refine lv_iconst (v := (0 : Int32)) hx hb dL_least_247 (by decide) ?_
        cases h
        refine W.widen (k := 1) (n := 64) (Nat.le_of_ble_eq_true rfl) (Nat.le_of_ble_eq_true rfl) ?_
        have I := qW_p I
        exact K _ _ _ _ I dL_least_248 rfl
      · obtain ⟨st79, rfl⟩ : ∃ y, y = z81 := ⟨_, rfl⟩
        intro H locs ls I hl
        have h : (some (st79, (1 : Int32)) : Option (PS × Int32)) = some o := h
        have I : wk D (qW g a b qf st79) A H0 H locs := I
        have hl : lv_has ls 12 [] := hl
        refine lv_iconst (v := (1 : Int32)) hx hb dL_least_196 (by decide) ?_
        cases h
        refine W.widen (k := 1) (n := 64) (Nat.le_of_ble_eq_true rfl) (Nat.le_of_ble_eq_true rfl) ?_
        have I := qW_p I
        exact K _ _ _ _ I dL_least_197 rfl
set_option maxHeartbeats 4000000 in
set_option maxRecDepth 100000 in
theorem vL_act {l : Launch} {D : va_G} {g : Nat → ClassId} {a b : Nat → Nat} {st : PS} {x91 : Int32} {x92 : Int32} {o : PS × Int32} (h : fL_act st x91 x92 = some o) : ct l yL_act cL_act 12 (some .boolean) (rmk 5 125) D g (pW g a b st) (pW g a b o.1) [.ref (a 0), .int x91, .int x92, .ref (b 0), .ref (b 1)] (some (.int o.2)) := by
  refine ct_of ⟨rfl, rfl⟩ (by decide) (Nat.le_of_ble_eq_true rfl) ?_
  intro p e s m args below meth c ls Q A H0 H locs E I hl K
  have E : en p m c cL_act 12 s args RL D g := E
  have hx := E.1.1
  have hb := E.1.2.1
  have hl : lv_has ls 12 [(0, .ref (a 0)), (1, .int x91), (2, .int x92), (3, .ref (b 0)), (4, .ref (b 1))] := hl
  have K : ∀ (pc : Nat) (ls : Array Slot) (H : Heap) (locs : List Loc), wk D (pW g a b o.1) A H0 H locs → decode cL_act pc = .ok (.ireturn, 1) → zok o.2 = true → W p l e (rmk 5 125) s m args below meth c H locs 0 0 Q (F0 m pc ls [.int o.2]) := fun pc ls H locs I hd hz => K pc ls H locs I ⟨hd, hz⟩
  have h : ((bi1 (fL_at (x91 >>> ((20 : Int32) &&& 31)) (12 : Int32)) fun r2 => (bi1 (fL_at x92 (3 : Int32)) fun r4 => (bi1 (fL_at (x92 >>> ((2 : Int32) &&& 31)) (3 : Int32)) fun r6 => (bi1 (fL_at (x92 >>> ((4 : Int32) &&& 31)) (4 : Int32)) fun r8 => (if (4 : Int32) ≤ r2 then (if (8 : Int32) ≤ r2 then (if r2 = (8 : Int32) then (bi1 (wh (fL_act_b255 r4 r6) FU (st, (0 : Int32), (0 : Int32))) fun w125 => (if (6 : Int32) ≤ ((p_n w125.1) (2 : Int32).toNatClampNeg) then fL_act_j377 w125.1 r4 r6 w125.2 else fL_act_j377 (p_n_s w125.1 (upd (p_n w125.1) (2 : Int32).toNatClampNeg (((p_n w125.1) (2 : Int32).toNatClampNeg) + (1 : Int32)))) r4 r6 w125.2)) else (if r2 = (9 : Int32) then (bi1 (wh (fL_act_b409 st r4 r6) FU ((0 : Int32), (0 : Int32))) fun w85 => Sum.elim (fun w86 => (bi1 (wh (fL_act_b499 r4 r6 w86) FU (st, (0 : Int32))) fun w83 => (if (6 : Int32) ≤ ((p_n w83) (2 : Int32).toNatClampNeg) then fL_act_j552 w83 r4 r6 w86 else fL_act_j552 (p_n_s w83 (upd (p_n w83) (2 : Int32).toNatClampNeg (((p_n w83) (2 : Int32).toNatClampNeg) + (1 : Int32)))) r4 r6 w86))) (fun w87 => some (st, (1 : Int32))) w85) else (if ib (r2 - (10 : Int32)) 3 = true then (if (r2 - (10 : Int32)) = 0 then (bi1 (fL_at x92 (2 : Int32)) fun r35 => fL_act_j608 st (r2 - (10 : Int32)) ((p_n st) (r2 - (10 : Int32)).toNatClampNeg) (r2 - (10 : Int32)) r35) else (bi1 (fL_at x92 (10 : Int32)) fun r33 => fL_act_j608 st (r2 - (10 : Int32)) ((p_n st) (r2 - (10 : Int32)).toNatClampNeg) (r2 - (10 : Int32)) r33)) else none))) else (if r4 = (2 : Int32) then (bi2 (nx (f4_times (p_c st) (2 : Int32) ((4 : Int32) + r8))) fun st145 r146 => (if r146 = 0 then some ((p_c_s st st145), (1 : Int32)) else some ((p_c_s st st145), (0 : Int32)))) else (if ib ((((8 : Int32) * r4) + (4 : Int32)) + r8) 24 = true then (lq ((p_pr st) ((((8 : Int32) * r4) + (4 : Int32)) + r8).toNatClampNeg) fun x128 => (bi1 (fL_at (x92 >>> ((6 : Int32) &&& 31)) (3 : Int32)) fun r131 => (if ib ((((8 : Int32) * r4) + (4 : Int32)) + r8) 24 = true then (if (6 : Int32) ≤ ((p_n st) (2 : Int32).toNatClampNeg) then fL_act_j211 (p_pr_s st (upd (p_pr st) ((((8 : Int32) * r4) + (4 : Int32)) + r8).toNatClampNeg r131)) r4 r8 x128 else fL_act_j211 (p_n_s (p_pr_s st (upd (p_pr st) ((((8 : Int32) * r4) + (4 : Int32)) + r8).toNatClampNeg r131)) (upd (p_n st) (2 : Int32).toNatClampNeg (((p_n st) (2 : Int32).toNatClampNeg) + (1 : Int32)))) r4 r8 x128) else none))) else none))) else (if ib (((8 : Int32) * r4) + r8) 24 = true then (bi1 (fL_at (x92 >>> ((6 : Int32) &&& 31)) (if r4 = (2 : Int32) then (10 : Int32) else (4 : Int32))) fun r153 => (if ib (((8 : Int32) * r4) + r8) 24 = true then (if (6 : Int32) ≤ ((p_n st) (2 : Int32).toNatClampNeg) then fL_act_j100 (p_pr_s st (upd (p_pr st) (((8 : Int32) * r4) + r8).toNatClampNeg r153)) r4 r8 ((p_pr st) (((8 : Int32) * r4) + r8).toNatClampNeg) else fL_act_j100 (p_n_s (p_pr_s st (upd (p_pr st) (((8 : Int32) * r4) + r8).toNatClampNeg r153)) (upd (p_n st) (2 : Int32).toNatClampNeg (((p_n st) (2 : Int32).toNatClampNeg) + (1 : Int32)))) r4 r8 ((p_pr st) (((8 : Int32) * r4) + r8).toNatClampNeg)) else none)) else none)))))) : Option (PS × Int32)) = some o := h
  refine lv_iload_n hx hb dL_act_0 rfl (lv_at hl 1 rfl) ?_
  refine lv_bipush (v := (20 : Int32)) hx hb dL_act_1 (by decide) ?_
  refine lv_ishr hx hb dL_act_3 ?_
  refine lv_bipush (v := (12 : Int32)) hx hb dL_act_4 (by decide) ?_
  obtain ⟨r2, hc1, h⟩ := bx1 h
  refine r_callS1 (As := [.int (x91 >>> ((20 : Int32) &&& 31)), .int (12 : Int32)]) (rest := []) E I hl.1 kL_24 (vL_at hc1) rfl rfl (Nat.le_of_ble_eq_true rfl) ⟨Nat.le_of_ble_eq_true rfl, Nat.le_of_ble_eq_true rfl⟩ ⟨Nat.zero_le _, Nat.zero_le _⟩ dL_act_6 (fun H locs I => ?_)
  refine lv_istore (lv' := [(5, .int r2), (0, .ref (a 0)), (1, .int x91), (2, .int x92), (3, .ref (b 0)), (4, .ref (b 1))]) hx hb dL_act_9 hl (by decide) rfl (fun ls hl => ?_)
  refine lv_iload_n hx hb dL_act_11 rfl (lv_at hl 3 rfl) ?_
  refine lv_iconst (v := (3 : Int32)) hx hb dL_act_12 (by decide) ?_
  obtain ⟨r4, hc3, h⟩ := bx1 h
  refine r_callS1 (As := [.int x92, .int (3 : Int32)]) (rest := []) E I hl.1 kL_24 (vL_at hc3) rfl rfl (Nat.le_of_ble_eq_true rfl) ⟨Nat.le_of_ble_eq_true rfl, Nat.le_of_ble_eq_true rfl⟩ ⟨Nat.zero_le _, Nat.zero_le _⟩ dL_act_13 (fun H locs I => ?_)
  refine lv_istore (lv' := [(6, .int r4), (5, .int r2), (0, .ref (a 0)), (1, .int x91), (2, .int x92), (3, .ref (b 0)), (4, .ref (b 1))]) hx hb dL_act_16 hl (by decide) rfl (fun ls hl => ?_)
  refine lv_iload_n hx hb dL_act_18 rfl (lv_at hl 4 rfl) ?_
  refine lv_iconst (v := (2 : Int32)) hx hb dL_act_19 (by decide) ?_
  refine lv_ishr hx hb dL_act_20 ?_
  refine lv_iconst (v := (3 : Int32)) hx hb dL_act_21 (by decide) ?_
  obtain ⟨r6, hc5, h⟩ := bx1 h
  refine r_callS1 (As := [.int (x92 >>> ((2 : Int32) &&& 31)), .int (3 : Int32)]) (rest := []) E I hl.1 kL_24 (vL_at hc5) rfl rfl (Nat.le_of_ble_eq_true rfl) ⟨Nat.le_of_ble_eq_true rfl, Nat.le_of_ble_eq_true rfl⟩ ⟨Nat.zero_le _, Nat.zero_le _⟩ dL_act_22 (fun H locs I => ?_)
  refine lv_istore (lv' := [(7, .int r6), (6, .int r4), (5, .int r2), (0, .ref (a 0)), (1, .int x91), (2, .int x92), (3, .ref (b 0)), (4, .ref (b 1))]) hx hb dL_act_25 hl (by decide) rfl (fun ls hl => ?_)
  refine lv_iload_n hx hb dL_act_27 rfl (lv_at hl 5 rfl) ?_
  refine lv_iconst (v := (4 : Int32)) hx hb dL_act_28 (by decide) ?_
  refine lv_ishr hx hb dL_act_29 ?_
  refine lv_iconst (v := (4 : Int32)) hx hb dL_act_30 (by decide) ?_
  obtain ⟨r8, hc7, h⟩ := bx1 h
  refine r_callS1 (As := [.int (x92 >>> ((4 : Int32) &&& 31)), .int (4 : Int32)]) (rest := []) E I hl.1 kL_24 (vL_at hc7) rfl rfl (Nat.le_of_ble_eq_true rfl) ⟨Nat.le_of_ble_eq_true rfl, Nat.le_of_ble_eq_true rfl⟩ ⟨Nat.zero_le _, Nat.zero_le _⟩ dL_act_31 (fun H locs I => ?_)
  refine lv_istore (lv' := [(8, .int r8), (7, .int r6), (6, .int r4), (5, .int r2), (0, .ref (a 0)), (1, .int x91), (2, .int x92), (3, .ref (b 0)), (4, .ref (b 1))]) hx hb dL_act_34 hl (by decide) rfl (fun ls hl => ?_)
  refine lv_iload hx hb dL_act_36 (lv_at hl 3 rfl) ?_
  refine lv_iconst (v := (4 : Int32)) hx hb dL_act_38 (by decide) ?_
  refine lv_icmp_ge (tgt := 129) hx hb dL_act_39 (by decide) (fun hc9 => ?_) (fun hc9 => ?_)
  · have h := ifp hc9 h
    refine lv_iload hx hb dL_act_129 (lv_at hl 3 rfl) ?_
    refine lv_bipush (v := (8 : Int32)) hx hb dL_act_131 (by decide) ?_
    refine lv_icmp_ge (tgt := 242) hx hb dL_act_133 (by decide) (fun hc10 => ?_) (fun hc10 => ?_)
    · have h := ifp hc10 h
      refine lv_iload hx hb dL_act_242 (lv_at hl 3 rfl) ?_
      refine lv_bipush (v := (8 : Int32)) hx hb dL_act_244 (by decide) ?_
      refine lv_icmp_ne (tgt := 396) hx hb dL_act_246 (by decide) (fun hc11 => ?_) (fun hc11 => ?_)
      · have h := ifn hc11 h
        refine lv_iload hx hb dL_act_396 (lv_at hl 3 rfl) ?_
        refine lv_bipush (v := (9 : Int32)) hx hb dL_act_398 (by decide) ?_
        refine lv_icmp_ne (tgt := 571) hx hb dL_act_400 (by decide) (fun hc12 => ?_) (fun hc12 => ?_)
        · have h := ifn hc12 h
          refine lv_iload hx hb dL_act_571 (lv_at hl 3 rfl) ?_
          refine lv_bipush (v := (10 : Int32)) hx hb dL_act_573 (by decide) ?_
          refine lv_isub hx hb dL_act_575 ?_
          refine lv_istore (lv' := [(9, .int (r2 - (10 : Int32))), (8, .int r8), (7, .int r6), (6, .int r4), (5, .int r2), (0, .ref (a 0)), (1, .int x91), (2, .int x92), (3, .ref (b 0)), (4, .ref (b 1))]) hx hb dL_act_576 hl (by decide) rfl (fun ls hl => ?_)
          refine lv_aload hx hb dL_act_578 (lv_at hl 9 rfl) ?_
          refine lv_iload hx hb dL_act_580 (lv_at hl 0 rfl) ?_
          obtain ⟨hc13, h⟩ := gd h
          refine p_ld51 E I (f := (p_n st)) rfl hc13 dL_act_582 ?_
          refine lv_istore (lv' := [(10, .int ((p_n st) (r2 - (10 : Int32)).toNatClampNeg)), (9, .int (r2 - (10 : Int32))), (8, .int r8), (7, .int r6), (6, .int r4), (5, .int r2), (0, .ref (a 0)), (1, .int x91), (2, .int x92), (3, .ref (b 0)), (4, .ref (b 1))]) hx hb dL_act_583 hl (by decide) rfl (fun ls hl => ?_)
          refine lv_aload hx hb dL_act_585 (lv_at hl 10 rfl) ?_
          refine lv_iload hx hb dL_act_587 (lv_at hl 1 rfl) ?_
          refine lv_iload hx hb dL_act_589 (lv_at hl 1 rfl) ?_
          have J14 : ∀ (st15 : PS) (x16 : Int32) (x17 : Int32) (y18 : Int32) (y19 : Int32), fL_act_j608 st15 x16 x17 y18 y19 = some o → ∀ (H : Heap) (locs : List Loc) (ls : Array Slot), wk D (pW g a b st15) A H0 H locs → lv_has ls 12 [(0, .ref (a 0)), (4, .ref (b 1)), (9, .int x16), (10, .int x17)] → W p l e (rmk 5 125) s m args below meth c H locs 0 0 Q (F0 m 608 ls [.int y19, .int y18, .ref (b 1)]) := by
            intro st15 x16 x17 y18 y19 h H locs ls I hl
            have h : ((if ib y18 3 = true then (if (6 : Int32) ≤ ((upd (p_n st15) y18.toNatClampNeg y19) (2 : Int32).toNatClampNeg) then fL_act_j626 (p_n_s st15 (upd (p_n st15) y18.toNatClampNeg y19)) x16 x17 else fL_act_j626 (p_n_s (p_n_s st15 (upd (p_n st15) y18.toNatClampNeg y19)) (upd (upd (p_n st15) y18.toNatClampNeg y19) (2 : Int32).toNatClampNeg (((upd (p_n st15) y18.toNatClampNeg y19) (2 : Int32).toNatClampNeg) + (1 : Int32)))) x16 x17) else none) : Option (PS × Int32)) = some o := h
            obtain ⟨hc20, h⟩ := gd h
            refine p_st51 E I (f := (p_n st15)) rfl hc20 dL_act_608 (fun H locs I => ?_)
            refine lv_aload hx hb dL_act_609 (lv_at hl 1 rfl) ?_
            refine lv_iconst (v := (2 : Int32)) hx hb dL_act_611 (by decide) ?_
            refine p_ld51 E I (f := (upd (p_n st15) y18.toNatClampNeg y19)) rfl (by decide) dL_act_612 ?_
            refine lv_bipush (v := (6 : Int32)) hx hb dL_act_613 (by decide) ?_
            have J21 : ∀ (st22 : PS) (x23 : Int32) (x24 : Int32), fL_act_j626 st22 x23 x24 = some o → ∀ (H : Heap) (locs : List Loc) (ls : Array Slot), wk D (pW g a b st22) A H0 H locs → lv_has ls 12 [(0, .ref (a 0)), (4, .ref (b 1)), (9, .int x23), (10, .int x24)] → W p l e (rmk 5 125) s m args below meth c H locs 0 0 Q (F0 m 626 ls []) := by
              intro st22 x23 x24 h H locs ls I hl
              have h : ((if ib x23 3 = true then (bi2 (nx (f4_set (p_c st22) x23 ((p_n st22) x23.toNatClampNeg))) fun st27 r28 => (if r28 = x24 then some ((p_c_s st22 st27), (1 : Int32)) else some ((p_c_s st22 st27), (0 : Int32)))) else none) : Option (PS × Int32)) = some o := h
              refine lv_aload_n hx hb dL_act_626 rfl (lv_at hl 0 rfl) ?_
              refine lv_iload hx hb dL_act_627 (lv_at hl 2 rfl) ?_
              refine lv_aload hx hb dL_act_629 (lv_at hl 1 rfl) ?_
              refine lv_iload hx hb dL_act_631 (lv_at hl 2 rfl) ?_
              obtain ⟨hc25, h⟩ := gd h
              refine p_ld51 E I (f := (p_n st22)) rfl hc25 dL_act_633 ?_
              obtain ⟨st27, r28, hc26, h⟩ := nxx h
              refine r_callF1 (ws' := cW g a st27) (As := [.int x23, .int ((p_n st22) x23.toNatClampNeg)]) (v := .int r28) (rest := []) E I hl.1 kL_43 (c4_set hc26) cW_k (q0 := 0) rfl rfl rfl rfl (Nat.le_of_ble_eq_true rfl) ⟨Nat.le_of_ble_eq_true rfl, Nat.le_of_ble_eq_true rfl⟩ ⟨Nat.le_of_ble_eq_true rfl, Nat.le_of_ble_eq_true rfl⟩ dL_act_634 (fun H locs I => ?_)
              have I : wk D (pW g a b (p_c_s st22 st27)) A H0 H locs := I
              refine lv_iload hx hb dL_act_637 (lv_at hl 3 rfl) ?_
              refine lv_icmp_ne (tgt := 646) hx hb dL_act_639 (by decide) (fun hc29 => ?_) (fun hc29 => ?_)
              · have h := ifn hc29 h
                refine lv_iconst (v := (0 : Int32)) hx hb dL_act_646 (by decide) ?_
                cases h
                exact K _ _ _ _ I dL_act_647 rfl
              · have h := ifp hc29 h
                refine lv_iconst (v := (1 : Int32)) hx hb dL_act_642 (by decide) ?_
                refine lv_goto (tgt := 647) hx hb dL_act_643 (by decide) ?_
                cases h
                exact K _ _ _ _ I dL_act_647 rfl
            refine lv_icmp_ge (tgt := 626) hx hb dL_act_615 (by decide) (fun hc30 => ?_) (fun hc30 => ?_)
            · have h := ifp hc30 h
              exact J21 _ _ _ h _ _ _ I (lv_sub hl [0, 1, 2, 3] rfl)
            · have h := ifn hc30 h
              refine lv_aload hx hb dL_act_618 (lv_at hl 1 rfl) ?_
              refine lv_iconst (v := (2 : Int32)) hx hb dL_act_620 (by decide) ?_
              refine lv_dup2_11 hx hb dL_act_621 rfl rfl ?_
              refine p_ld51 E I (f := (upd (p_n st15) y18.toNatClampNeg y19)) rfl (by decide) dL_act_622 ?_
              refine lv_iconst (v := (1 : Int32)) hx hb dL_act_623 (by decide) ?_
              refine lv_iadd hx hb dL_act_624 ?_
              refine p_st51 E I (f := (upd (p_n st15) y18.toNatClampNeg y19)) rfl (by decide) dL_act_625 (fun H locs I => ?_)
              exact J21 _ _ _ h _ _ _ I (lv_sub hl [0, 1, 2, 3] rfl)
          refine lv_if_ne (tgt := 602) hx hb dL_act_591 (by decide) (fun hc31 => ?_) (fun hc31 => ?_)
          · have h := ifn hc31 h
            refine lv_iload_n hx hb dL_act_602 rfl (lv_at hl 8 rfl) ?_
            refine lv_bipush (v := (10 : Int32)) hx hb dL_act_603 (by decide) ?_
            obtain ⟨r33, hc32, h⟩ := bx1 h
            refine r_callS1 (As := [.int x92, .int (10 : Int32)]) (rest := [.int (r2 - (10 : Int32)), .ref (b 1)]) E I hl.1 kL_24 (vL_at hc32) rfl rfl (Nat.le_of_ble_eq_true rfl) ⟨Nat.le_of_ble_eq_true rfl, Nat.le_of_ble_eq_true rfl⟩ ⟨Nat.zero_le _, Nat.zero_le _⟩ dL_act_605 (fun H locs I => ?_)
            exact J14 _ _ _ _ _ h _ _ _ I (lv_sub hl [6, 10, 1, 0] rfl)
          · have h := ifp hc31 h
            refine lv_iload_n hx hb dL_act_594 rfl (lv_at hl 8 rfl) ?_
            refine lv_iconst (v := (2 : Int32)) hx hb dL_act_595 (by decide) ?_
            obtain ⟨r35, hc34, h⟩ := bx1 h
            refine r_callS1 (As := [.int x92, .int (2 : Int32)]) (rest := [.int (r2 - (10 : Int32)), .ref (b 1)]) E I hl.1 kL_24 (vL_at hc34) rfl rfl (Nat.le_of_ble_eq_true rfl) ⟨Nat.le_of_ble_eq_true rfl, Nat.le_of_ble_eq_true rfl⟩ ⟨Nat.zero_le _, Nat.zero_le _⟩ dL_act_596 (fun H locs I => ?_)
            refine lv_goto (tgt := 608) hx hb dL_act_599 (by decide) ?_
            exact J14 _ _ _ _ _ h _ _ _ I (lv_sub hl [6, 10, 1, 0] rfl)
        · have h := ifp hc12 h
          refine lv_iconst (v := (0 : Int32)) hx hb dL_act_403 (by decide) ?_
          refine lv_istore (lv' := [(9, .int (0 : Int32)), (8, .int r8), (7, .int r6), (6, .int r4), (5, .int r2), (0, .ref (a 0)), (1, .int x91), (2, .int x92), (3, .ref (b 0)), (4, .ref (b 1))]) hx hb dL_act_404 hl (by decide) rfl (fun ls hl => ?_)
          refine lv_iconst (v := (0 : Int32)) hx hb dL_act_406 (by decide) ?_
          refine lv_istore (lv' := [(10, .int (0 : Int32)), (9, .int (0 : Int32)), (8, .int r8), (7, .int r6), (6, .int r4), (5, .int r2), (0, .ref (a 0)), (1, .int x91), (2, .int x92), (3, .ref (b 0)), (4, .ref (b 1))]) hx hb dL_act_407 hl (by decide) rfl (fun ls hl => ?_)
          obtain ⟨z56, hw57, h⟩ := bx1 h
          refine wh_W (P := fun (z : Int32 × Int32) => ∀ (H : Heap) (locs : List Loc) (ls : Array Slot), wk D (pW g a b st) A H0 H locs → lv_has ls 12 [(0, .ref (a 0)), (3, .ref (b 0)), (4, .ref (b 1)), (6, .int r4), (7, .int r6), (9, .int z.1), (10, .int z.2)] → W p l e (rmk 5 125) s m args below meth c H locs 0 0 Q (F0 m 409 ls [])) (X := Sum.elim (fun (z : Int32) => ∀ (H : Heap) (locs : List Loc) (ls : Array Slot), wk D (pW g a b st) A H0 H locs → lv_has ls 12 [(0, .ref (a 0)), (3, .ref (b 0)), (4, .ref (b 1)), (6, .int r4), (7, .int r6), (9, .int z)] → W p l e (rmk 5 125) s m args below meth c H locs 0 0 Q (F0 m 496 ls [])) (fun (z : Unit) => ∀ (H : Heap) (locs : List Loc) (ls : Array Slot), wk D (pW g a b st) A H0 H locs → lv_has ls 12 [] → W p l e (rmk 5 125) s m args below meth c H locs 0 0 Q (F0 m 462 ls []))) ?_ FU _ _ hw57 ?_ _ _ _ I (lv_sub hl [6, 9, 10, 4, 3, 1, 0] rfl)
          · intro z o41 h hk42 H locs ls I hl
            obtain ⟨x39, x40⟩ := z
            have h : ((if (8 : Int32) ≤ x40 then some (.inr (.inl x39)) else (if ib (((8 : Int32) * r4) + x40) 24 = true then (if ib (((8 : Int32) * r6) + x40) 24 = true then (if (((p_pr st) (((8 : Int32) * r4) + x40).toNatClampNeg) + ((p_pr st) (((8 : Int32) * r6) + x40).toNatClampNeg)) ≤ (if (4 : Int32) ≤ x40 then (if r4 = (2 : Int32) then (0 : Int32) else (2 : Int32)) else (9 : Int32)) then (if ib (((8 : Int32) * r4) + x40) 24 = true then (if ib (((8 : Int32) * r6) + x40) 24 = true then (lq (x39 + (((p_pr st) (((8 : Int32) * r4) + x40).toNatClampNeg) + ((p_pr st) (((8 : Int32) * r6) + x40).toNatClampNeg))) fun x52 => some (.inl (x52, (x40 + 1)))) else none) else none) else some (.inr (.inr ()))) else none) else none)) : Option ((Int32 × Int32) ⊕ ((Int32) ⊕ (Unit)))) = some o41 := h
            have I : wk D (pW g a b st) A H0 H locs := I
            have hl : lv_has ls 12 [(0, .ref (a 0)), (3, .ref (b 0)), (4, .ref (b 1)), (6, .int r4), (7, .int r6), (9, .int x39), (10, .int x40)] := hl
            refine lv_iload hx hb dL_act_409 (lv_at hl 6 rfl) ?_
            refine lv_bipush (v := (8 : Int32)) hx hb dL_act_411 (by decide) ?_
            refine lv_icmp_ge (tgt := 496) hx hb dL_act_413 (by decide) (fun hc43 => ?_) (fun hc43 => ?_)
            · have h := ifp hc43 h
              cases h
              exact hk42 _ _ _ I (lv_sub hl [0, 1, 2, 3, 4, 5] rfl)
            · have h := ifn hc43 h
              refine lv_aload_n hx hb dL_act_416 rfl (lv_at hl 1 rfl) ?_
              refine lv_bipush (v := (8 : Int32)) hx hb dL_act_417 (by decide) ?_
              refine lv_iload hx hb dL_act_419 (lv_at hl 3 rfl) ?_
              refine lv_imul hx hb dL_act_421 ?_
              refine lv_iload hx hb dL_act_422 (lv_at hl 6 rfl) ?_
              refine lv_iadd hx hb dL_act_424 ?_
              obtain ⟨hc44, h⟩ := gd h
              refine p_ld50 E I (f := (p_pr st)) rfl hc44 dL_act_425 ?_
              refine lv_aload_n hx hb dL_act_426 rfl (lv_at hl 1 rfl) ?_
              refine lv_bipush (v := (8 : Int32)) hx hb dL_act_427 (by decide) ?_
              refine lv_iload hx hb dL_act_429 (lv_at hl 4 rfl) ?_
              refine lv_imul hx hb dL_act_431 ?_
              refine lv_iload hx hb dL_act_432 (lv_at hl 6 rfl) ?_
              refine lv_iadd hx hb dL_act_434 ?_
              obtain ⟨hc45, h⟩ := gd h
              refine p_ld50 E I (f := (p_pr st)) rfl hc45 dL_act_435 ?_
              refine lv_iadd hx hb dL_act_436 ?_
              refine lv_iload hx hb dL_act_437 (lv_at hl 6 rfl) ?_
              refine lv_iconst (v := (4 : Int32)) hx hb dL_act_439 (by decide) ?_
              have J47 : ∀ (v46 : Int32) (H : Heap) (locs : List Loc), v46 = (if (4 : Int32) ≤ x40 then (if r4 = (2 : Int32) then (0 : Int32) else (2 : Int32)) else (9 : Int32)) → wk D (pW g a b st) A H0 H locs → W p l e (rmk 5 125) s m args below meth c H locs 0 0 Q (F0 m 459 ls [.int v46, .int (((p_pr st) (((8 : Int32) * r4) + x40).toNatClampNeg) + ((p_pr st) (((8 : Int32) * r6) + x40).toNatClampNeg))]) := by
                intro v46 H locs hv48 I
                subst hv48
                refine lv_icmp_le (tgt := 464) hx hb dL_act_459 (by decide) (fun hc49 => ?_) (fun hc49 => ?_)
                · have h := ifp hc49 h
                  refine lv_iload hx hb dL_act_464 (lv_at hl 5 rfl) ?_
                  refine lv_aload_n hx hb dL_act_466 rfl (lv_at hl 1 rfl) ?_
                  refine lv_bipush (v := (8 : Int32)) hx hb dL_act_467 (by decide) ?_
                  refine lv_iload hx hb dL_act_469 (lv_at hl 3 rfl) ?_
                  refine lv_imul hx hb dL_act_471 ?_
                  refine lv_iload hx hb dL_act_472 (lv_at hl 6 rfl) ?_
                  refine lv_iadd hx hb dL_act_474 ?_
                  obtain ⟨hc50, h⟩ := gd h
                  refine p_ld50 E I (f := (p_pr st)) rfl hc50 dL_act_475 ?_
                  refine lv_aload_n hx hb dL_act_476 rfl (lv_at hl 1 rfl) ?_
                  refine lv_bipush (v := (8 : Int32)) hx hb dL_act_477 (by decide) ?_
                  refine lv_iload hx hb dL_act_479 (lv_at hl 4 rfl) ?_
                  refine lv_imul hx hb dL_act_481 ?_
                  refine lv_iload hx hb dL_act_482 (lv_at hl 6 rfl) ?_
                  refine lv_iadd hx hb dL_act_484 ?_
                  obtain ⟨hc51, h⟩ := gd h
                  refine p_ld50 E I (f := (p_pr st)) rfl hc51 dL_act_485 ?_
                  refine lv_iadd hx hb dL_act_486 ?_
                  refine lv_iadd hx hb dL_act_487 ?_
                  obtain ⟨x52, hx53, h⟩ := lqx h
                  refine lv_istore (x := (x39 + (((p_pr st) (((8 : Int32) * r4) + x40).toNatClampNeg) + ((p_pr st) (((8 : Int32) * r6) + x40).toNatClampNeg)))) (lv' := [(9, .int x52), (0, .ref (a 0)), (3, .ref (b 0)), (4, .ref (b 1)), (6, .int r4), (7, .int r6), (10, .int x40)]) hx hb dL_act_488 hl (by decide) (by subst hx53; rfl) (fun ls hl => ?_)
                  refine lv_iinc (v := (x40 + 1)) (lv' := [(10, .int (x40 + 1)), (9, .int x52), (0, .ref (a 0)), (3, .ref (b 0)), (4, .ref (b 1)), (6, .int r4), (7, .int r6)]) hx hb dL_act_490 hl (k := 6) rfl rfl (by decide) rfl (fun ls hl => ?_)
                  refine lv_goto (tgt := 409) hx hb dL_act_493 (by decide) ?_
                  cases h
                  exact hk42 _ _ _ I (lv_sub hl [2, 3, 4, 5, 6, 1, 0] rfl)
                · have h := ifn hc49 h
                  cases h
                  exact hk42 _ _ _ I (lv_sub hl [] rfl)
              refine lv_icmp_ge (tgt := 448) hx hb dL_act_440 (by decide) (fun hc54 => ?_) (fun hc54 => ?_)
              · refine lv_iload hx hb dL_act_448 (lv_at hl 3 rfl) ?_
                refine lv_iconst (v := (2 : Int32)) hx hb dL_act_450 (by decide) ?_
                refine lv_icmp_ne (tgt := 458) hx hb dL_act_451 (by decide) (fun hc55 => ?_) (fun hc55 => ?_)
                · refine lv_iconst (v := (2 : Int32)) hx hb dL_act_458 (by decide) ?_
                  exact J47 _ _ _ (by rw [if_pos hc54, if_neg hc55]) I
                · refine lv_iconst (v := (0 : Int32)) hx hb dL_act_454 (by decide) ?_
                  refine lv_goto (tgt := 459) hx hb dL_act_455 (by decide) ?_
                  exact J47 _ _ _ (by rw [if_pos hc54, if_pos hc55]) I
              · refine lv_bipush (v := (9 : Int32)) hx hb dL_act_443 (by decide) ?_
                refine lv_goto (tgt := 459) hx hb dL_act_445 (by decide) ?_
                exact J47 _ _ _ (by rw [if_neg hc54]) I
          · rcases z56 with z84 | z84
            · obtain ⟨x58, rfl⟩ : ∃ y, y = z84 := ⟨_, rfl⟩
              intro H locs ls I hl
              have h : ((bi1 (wh (fL_act_b499 r4 r6 x58) FU (st, (0 : Int32))) fun w83 => (if (6 : Int32) ≤ ((p_n w83) (2 : Int32).toNatClampNeg) then fL_act_j552 w83 r4 r6 x58 else fL_act_j552 (p_n_s w83 (upd (p_n w83) (2 : Int32).toNatClampNeg (((p_n w83) (2 : Int32).toNatClampNeg) + (1 : Int32)))) r4 r6 x58)) : Option (PS × Int32)) = some o := h
              have I : wk D (pW g a b st) A H0 H locs := I
              have hl : lv_has ls 12 [(0, .ref (a 0)), (3, .ref (b 0)), (4, .ref (b 1)), (6, .int r4), (7, .int r6), (9, .int x58)] := hl
              refine lv_iconst (v := (0 : Int32)) hx hb dL_act_496 (by decide) ?_
              refine lv_istore (lv' := [(10, .int (0 : Int32)), (0, .ref (a 0)), (3, .ref (b 0)), (4, .ref (b 1)), (6, .int r4), (7, .int r6), (9, .int x58)]) hx hb dL_act_497 hl (by decide) rfl (fun ls hl => ?_)
              obtain ⟨z70, hw71, h⟩ := bx1 h
              refine wh_W (P := fun (z : PS × Int32) => ∀ (H : Heap) (locs : List Loc) (ls : Array Slot), wk D (pW g a b z.1) A H0 H locs → lv_has ls 12 [(0, .ref (a 0)), (3, .ref (b 0)), (4, .ref (b 1)), (6, .int r4), (7, .int r6), (9, .int x58), (10, .int z.2)] → W p l e (rmk 5 125) s m args below meth c H locs 0 0 Q (F0 m 499 ls [])) (X := fun (z : PS) => ∀ (H : Heap) (locs : List Loc) (ls : Array Slot), wk D (pW g a b z) A H0 H locs → lv_has ls 12 [(0, .ref (a 0)), (4, .ref (b 1)), (6, .int r4), (7, .int r6), (9, .int x58)] → W p l e (rmk 5 125) s m args below meth c H locs 0 0 Q (F0 m 535 ls [])) ?_ FU _ _ hw71 ?_ _ _ _ I (lv_sub hl [1, 2, 3, 4, 5, 6, 0] rfl)
              · intro z o64 h hk65 H locs ls I hl
                obtain ⟨st59, x63⟩ := z
                have h : ((if (8 : Int32) ≤ x63 then some (.inr st59) else (if ib (((8 : Int32) * r4) + x63) 24 = true then (if ib (((8 : Int32) * r6) + x63) 24 = true then (if ib (((8 : Int32) * r4) + x63) 24 = true then some (.inl ((p_pr_s st59 (upd (p_pr st59) (((8 : Int32) * r4) + x63).toNatClampNeg (((p_pr st59) (((8 : Int32) * r4) + x63).toNatClampNeg) + ((p_pr st59) (((8 : Int32) * r6) + x63).toNatClampNeg)))), (x63 + 1))) else none) else none) else none)) : Option ((PS × Int32) ⊕ (PS))) = some o64 := h
                have I : wk D (pW g a b st59) A H0 H locs := I
                have hl : lv_has ls 12 [(0, .ref (a 0)), (3, .ref (b 0)), (4, .ref (b 1)), (6, .int r4), (7, .int r6), (9, .int x58), (10, .int x63)] := hl
                refine lv_iload hx hb dL_act_499 (lv_at hl 6 rfl) ?_
                refine lv_bipush (v := (8 : Int32)) hx hb dL_act_501 (by decide) ?_
                refine lv_icmp_ge (tgt := 535) hx hb dL_act_503 (by decide) (fun hc66 => ?_) (fun hc66 => ?_)
                · have h := ifp hc66 h
                  cases h
                  exact hk65 _ _ _ I (lv_sub hl [0, 2, 3, 4, 5] rfl)
                · have h := ifn hc66 h
                  refine lv_aload_n hx hb dL_act_506 rfl (lv_at hl 1 rfl) ?_
                  refine lv_bipush (v := (8 : Int32)) hx hb dL_act_507 (by decide) ?_
                  refine lv_iload hx hb dL_act_509 (lv_at hl 3 rfl) ?_
                  refine lv_imul hx hb dL_act_511 ?_
                  refine lv_iload hx hb dL_act_512 (lv_at hl 6 rfl) ?_
                  refine lv_iadd hx hb dL_act_514 ?_
                  refine lv_dup2_11 hx hb dL_act_515 rfl rfl ?_
                  obtain ⟨hc67, h⟩ := gd h
                  refine p_ld50 E I (f := (p_pr st59)) rfl hc67 dL_act_516 ?_
                  refine lv_aload_n hx hb dL_act_517 rfl (lv_at hl 1 rfl) ?_
                  refine lv_bipush (v := (8 : Int32)) hx hb dL_act_518 (by decide) ?_
                  refine lv_iload hx hb dL_act_520 (lv_at hl 4 rfl) ?_
                  refine lv_imul hx hb dL_act_522 ?_
                  refine lv_iload hx hb dL_act_523 (lv_at hl 6 rfl) ?_
                  refine lv_iadd hx hb dL_act_525 ?_
                  obtain ⟨hc68, h⟩ := gd h
                  refine p_ld50 E I (f := (p_pr st59)) rfl hc68 dL_act_526 ?_
                  refine lv_iadd hx hb dL_act_527 ?_
                  obtain ⟨hc69, h⟩ := gd h
                  refine p_st50 E I (f := (p_pr st59)) rfl hc69 dL_act_528 (fun H locs I => ?_)
                  refine lv_iinc (v := (x63 + 1)) (lv' := [(10, .int (x63 + 1)), (0, .ref (a 0)), (3, .ref (b 0)), (4, .ref (b 1)), (6, .int r4), (7, .int r6), (9, .int x58)]) hx hb dL_act_529 hl (k := 6) rfl rfl (by decide) rfl (fun ls hl => ?_)
                  refine lv_goto (tgt := 499) hx hb dL_act_532 (by decide) ?_
                  cases h
                  exact hk65 _ _ _ I (lv_sub hl [1, 2, 3, 4, 5, 6, 0] rfl)
              · obtain ⟨st72, rfl⟩ : ∃ y, y = z70 := ⟨_, rfl⟩
                intro H locs ls I hl
                have h : ((if (6 : Int32) ≤ ((p_n st72) (2 : Int32).toNatClampNeg) then fL_act_j552 st72 r4 r6 x58 else fL_act_j552 (p_n_s st72 (upd (p_n st72) (2 : Int32).toNatClampNeg (((p_n st72) (2 : Int32).toNatClampNeg) + (1 : Int32)))) r4 r6 x58) : Option (PS × Int32)) = some o := h
                have I : wk D (pW g a b st72) A H0 H locs := I
                have hl : lv_has ls 12 [(0, .ref (a 0)), (4, .ref (b 1)), (6, .int r4), (7, .int r6), (9, .int x58)] := hl
                refine lv_aload hx hb dL_act_535 (lv_at hl 1 rfl) ?_
                refine lv_iconst (v := (2 : Int32)) hx hb dL_act_537 (by decide) ?_
                refine p_ld51 E I (f := (p_n st72)) rfl (by decide) dL_act_538 ?_
                refine lv_bipush (v := (6 : Int32)) hx hb dL_act_539 (by decide) ?_
                have J73 : ∀ (st74 : PS) (x75 : Int32) (x76 : Int32) (x77 : Int32), fL_act_j552 st74 x75 x76 x77 = some o → ∀ (H : Heap) (locs : List Loc) (ls : Array Slot), wk D (pW g a b st74) A H0 H locs → lv_has ls 12 [(0, .ref (a 0)), (6, .int x75), (7, .int x76), (9, .int x77)] → W p l e (rmk 5 125) s m args below meth c H locs 0 0 Q (F0 m 552 ls []) := by
                  intro st74 x75 x76 x77 h H locs ls I hl
                  have h : ((bi2 (nx (f4_multiply (p_c st74) x75 x76)) fun st79 r80 => (if r80 = x77 then some ((p_c_s st74 st79), (1 : Int32)) else some ((p_c_s st74 st79), (0 : Int32)))) : Option (PS × Int32)) = some o := h
                  refine lv_aload_n hx hb dL_act_552 rfl (lv_at hl 0 rfl) ?_
                  refine lv_iload hx hb dL_act_553 (lv_at hl 1 rfl) ?_
                  refine lv_iload hx hb dL_act_555 (lv_at hl 2 rfl) ?_
                  obtain ⟨st79, r80, hc78, h⟩ := nxx h
                  refine r_callF1 (ws' := cW g a st79) (As := [.int x75, .int x76]) (v := .int r80) (rest := []) E I hl.1 kL_40 (c4_multiply hc78) cW_k (q0 := 0) rfl rfl rfl rfl (Nat.le_of_ble_eq_true rfl) ⟨Nat.le_of_ble_eq_true rfl, Nat.le_of_ble_eq_true rfl⟩ ⟨Nat.le_of_ble_eq_true rfl, Nat.le_of_ble_eq_true rfl⟩ dL_act_557 (fun H locs I => ?_)
                  have I : wk D (pW g a b (p_c_s st74 st79)) A H0 H locs := I
                  refine lv_iload hx hb dL_act_560 (lv_at hl 3 rfl) ?_
                  refine lv_icmp_ne (tgt := 569) hx hb dL_act_562 (by decide) (fun hc81 => ?_) (fun hc81 => ?_)
                  · have h := ifn hc81 h
                    refine lv_iconst (v := (0 : Int32)) hx hb dL_act_569 (by decide) ?_
                    cases h
                    exact K _ _ _ _ I dL_act_570 rfl
                  · have h := ifp hc81 h
                    refine lv_iconst (v := (1 : Int32)) hx hb dL_act_565 (by decide) ?_
                    refine lv_goto (tgt := 570) hx hb dL_act_566 (by decide) ?_
                    cases h
                    exact K _ _ _ _ I dL_act_570 rfl
                refine lv_icmp_ge (tgt := 552) hx hb dL_act_541 (by decide) (fun hc82 => ?_) (fun hc82 => ?_)
                · have h := ifp hc82 h
                  exact J73 _ _ _ _ h _ _ _ I (lv_sub hl [0, 2, 3, 4] rfl)
                · have h := ifn hc82 h
                  refine lv_aload hx hb dL_act_544 (lv_at hl 1 rfl) ?_
                  refine lv_iconst (v := (2 : Int32)) hx hb dL_act_546 (by decide) ?_
                  refine lv_dup2_11 hx hb dL_act_547 rfl rfl ?_
                  refine p_ld51 E I (f := (p_n st72)) rfl (by decide) dL_act_548 ?_
                  refine lv_iconst (v := (1 : Int32)) hx hb dL_act_549 (by decide) ?_
                  refine lv_iadd hx hb dL_act_550 ?_
                  refine p_st51 E I (f := (p_n st72)) rfl (by decide) dL_act_551 (fun H locs I => ?_)
                  exact J73 _ _ _ _ h _ _ _ I (lv_sub hl [0, 2, 3, 4] rfl)
            · intro H locs ls I hl
              have h : (some (st, (1 : Int32)) : Option (PS × Int32)) = some o := h
              have I : wk D (pW g a b st) A H0 H locs := I
              have hl : lv_has ls 12 [] := hl
              refine lv_iconst (v := (1 : Int32)) hx hb dL_act_462 (by decide) ?_
              cases h
              exact K _ _ _ _ I dL_act_463 rfl
      · have h := ifp hc11 h
        refine lv_iconst (v := (0 : Int32)) hx hb dL_act_249 (by decide) ?_
        refine lv_istore (lv' := [(9, .int (0 : Int32)), (8, .int r8), (7, .int r6), (6, .int r4), (5, .int r2), (0, .ref (a 0)), (1, .int x91), (2, .int x92), (3, .ref (b 0)), (4, .ref (b 1))]) hx hb dL_act_250 hl (by decide) rfl (fun ls hl => ?_)
        refine lv_iconst (v := (0 : Int32)) hx hb dL_act_252 (by decide) ?_
        refine lv_istore (lv' := [(10, .int (0 : Int32)), (9, .int (0 : Int32)), (8, .int r8), (7, .int r6), (6, .int r4), (5, .int r2), (0, .ref (a 0)), (1, .int x91), (2, .int x92), (3, .ref (b 0)), (4, .ref (b 1))]) hx hb dL_act_253 hl (by decide) rfl (fun ls hl => ?_)
        obtain ⟨z111, hw112, h⟩ := bx1 h
        refine wh_W (P := fun (z : PS × Int32 × Int32) => ∀ (H : Heap) (locs : List Loc) (ls : Array Slot), wk D (pW g a b z.1) A H0 H locs → lv_has ls 12 [(0, .ref (a 0)), (3, .ref (b 0)), (4, .ref (b 1)), (6, .int r4), (7, .int r6), (9, .int z.2.1), (10, .int z.2.2)] → W p l e (rmk 5 125) s m args below meth c H locs 0 0 Q (F0 m 255 ls [])) (X := fun (z : PS × Int32) => ∀ (H : Heap) (locs : List Loc) (ls : Array Slot), wk D (pW g a b z.1) A H0 H locs → lv_has ls 12 [(0, .ref (a 0)), (4, .ref (b 1)), (6, .int r4), (7, .int r6), (9, .int z.2)] → W p l e (rmk 5 125) s m args below meth c H locs 0 0 Q (F0 m 360 ls [])) ?_ FU _ _ hw112 ?_ _ _ _ I (lv_sub hl [6, 9, 10, 4, 3, 1, 0] rfl)
        · intro z o93 h hk94 H locs ls I hl
          obtain ⟨st88, x91, x92⟩ := z
          have h : ((if (8 : Int32) ≤ x92 then some (.inr (st88, x91)) else (if ib (((8 : Int32) * r4) + x92) 24 = true then (if ib (((8 : Int32) * r6) + x92) 24 = true then (if ((p_pr st88) (((8 : Int32) * r6) + x92).toNatClampNeg) ≤ ((p_pr st88) (((8 : Int32) * r4) + x92).toNatClampNeg) then (if ib (((8 : Int32) * r6) + x92) 24 = true then fL_act_j308 r4 r6 st88 x91 x92 ((p_pr st88) (((8 : Int32) * r6) + x92).toNatClampNeg) else none) else (if ib (((8 : Int32) * r4) + x92) 24 = true then fL_act_j308 r4 r6 st88 x91 x92 ((p_pr st88) (((8 : Int32) * r4) + x92).toNatClampNeg) else none)) else none) else none)) : Option ((PS × Int32 × Int32) ⊕ (PS × Int32))) = some o93 := h
          have I : wk D (pW g a b st88) A H0 H locs := I
          have hl : lv_has ls 12 [(0, .ref (a 0)), (3, .ref (b 0)), (4, .ref (b 1)), (6, .int r4), (7, .int r6), (9, .int x91), (10, .int x92)] := hl
          refine lv_iload hx hb dL_act_255 (lv_at hl 6 rfl) ?_
          refine lv_bipush (v := (8 : Int32)) hx hb dL_act_257 (by decide) ?_
          refine lv_icmp_ge (tgt := 360) hx hb dL_act_259 (by decide) (fun hc95 => ?_) (fun hc95 => ?_)
          · have h := ifp hc95 h
            cases h
            exact hk94 _ _ _ I (lv_sub hl [0, 2, 3, 4, 5] rfl)
          · have h := ifn hc95 h
            refine lv_aload_n hx hb dL_act_262 rfl (lv_at hl 1 rfl) ?_
            refine lv_bipush (v := (8 : Int32)) hx hb dL_act_263 (by decide) ?_
            refine lv_iload hx hb dL_act_265 (lv_at hl 3 rfl) ?_
            refine lv_imul hx hb dL_act_267 ?_
            refine lv_iload hx hb dL_act_268 (lv_at hl 6 rfl) ?_
            refine lv_iadd hx hb dL_act_270 ?_
            obtain ⟨hc96, h⟩ := gd h
            refine p_ld50 E I (f := (p_pr st88)) rfl hc96 dL_act_271 ?_
            refine lv_aload_n hx hb dL_act_272 rfl (lv_at hl 1 rfl) ?_
            refine lv_bipush (v := (8 : Int32)) hx hb dL_act_273 (by decide) ?_
            refine lv_iload hx hb dL_act_275 (lv_at hl 4 rfl) ?_
            refine lv_imul hx hb dL_act_277 ?_
            refine lv_iload hx hb dL_act_278 (lv_at hl 6 rfl) ?_
            refine lv_iadd hx hb dL_act_280 ?_
            obtain ⟨hc97, h⟩ := gd h
            refine p_ld50 E I (f := (p_pr st88)) rfl hc97 dL_act_281 ?_
            have J98 : ∀ (st99 : PS) (x100 : Int32) (x101 : Int32) (y102 : Int32), fL_act_j308 r4 r6 st99 x100 x101 y102 = some o93 → ∀ (H : Heap) (locs : List Loc) (ls : Array Slot), wk D (pW g a b st99) A H0 H locs → lv_has ls 12 [(0, .ref (a 0)), (3, .ref (b 0)), (4, .ref (b 1)), (6, .int r4), (7, .int r6), (9, .int x100), (10, .int x101)] → W p l e (rmk 5 125) s m args below meth c H locs 0 0 Q (F0 m 308 ls [.int y102]) := by
              intro st99 x100 x101 y102 h H locs ls I hl
              have h : ((if ib (((8 : Int32) * r4) + x101) 24 = true then (if ib (((8 : Int32) * r4) + x101) 24 = true then (if r4 = r6 then some (.inl ((p_pr_s st99 (upd (p_pr st99) (((8 : Int32) * r4) + x101).toNatClampNeg (((p_pr st99) (((8 : Int32) * r4) + x101).toNatClampNeg) - y102))), (x100 + y102), (x101 + 1))) else (if ib (((8 : Int32) * r6) + x101) 24 = true then (if ib (((8 : Int32) * r6) + x101) 24 = true then some (.inl ((p_pr_s (p_pr_s st99 (upd (p_pr st99) (((8 : Int32) * r4) + x101).toNatClampNeg (((p_pr st99) (((8 : Int32) * r4) + x101).toNatClampNeg) - y102))) (upd (upd (p_pr st99) (((8 : Int32) * r4) + x101).toNatClampNeg (((p_pr st99) (((8 : Int32) * r4) + x101).toNatClampNeg) - y102)) (((8 : Int32) * r6) + x101).toNatClampNeg (((upd (p_pr st99) (((8 : Int32) * r4) + x101).toNatClampNeg (((p_pr st99) (((8 : Int32) * r4) + x101).toNatClampNeg) - y102)) (((8 : Int32) * r6) + x101).toNatClampNeg) - y102))), (x100 + y102), (x101 + 1))) else none) else none)) else none) else none) : Option ((PS × Int32 × Int32) ⊕ (PS × Int32))) = some o93 := h
              refine lv_istore (lv' := [(11, .int y102), (0, .ref (a 0)), (3, .ref (b 0)), (4, .ref (b 1)), (6, .int r4), (7, .int r6), (9, .int x100), (10, .int x101)]) hx hb dL_act_308 hl (by decide) rfl (fun ls hl => ?_)
              refine lv_aload_n hx hb dL_act_310 rfl (lv_at hl 2 rfl) ?_
              refine lv_bipush (v := (8 : Int32)) hx hb dL_act_311 (by decide) ?_
              refine lv_iload hx hb dL_act_313 (lv_at hl 4 rfl) ?_
              refine lv_imul hx hb dL_act_315 ?_
              refine lv_iload hx hb dL_act_316 (lv_at hl 7 rfl) ?_
              refine lv_iadd hx hb dL_act_318 ?_
              refine lv_dup2_11 hx hb dL_act_319 rfl rfl ?_
              obtain ⟨hc103, h⟩ := gd h
              refine p_ld50 E I (f := (p_pr st99)) rfl hc103 dL_act_320 ?_
              refine lv_iload hx hb dL_act_321 (lv_at hl 0 rfl) ?_
              refine lv_isub hx hb dL_act_323 ?_
              obtain ⟨hc104, h⟩ := gd h
              refine p_st50 E I (f := (p_pr st99)) rfl hc104 dL_act_324 (fun H locs I => ?_)
              refine lv_iload hx hb dL_act_325 (lv_at hl 4 rfl) ?_
              refine lv_iload hx hb dL_act_327 (lv_at hl 5 rfl) ?_
              refine lv_icmp_eq (tgt := 347) hx hb dL_act_329 (by decide) (fun hc105 => ?_) (fun hc105 => ?_)
              · have h := ifp hc105 h
                refine lv_iload hx hb dL_act_347 (lv_at hl 6 rfl) ?_
                refine lv_iload hx hb dL_act_349 (lv_at hl 0 rfl) ?_
                refine lv_iadd hx hb dL_act_351 ?_
                refine lv_istore (lv' := [(9, .int (x100 + y102)), (11, .int y102), (0, .ref (a 0)), (3, .ref (b 0)), (4, .ref (b 1)), (6, .int r4), (7, .int r6), (10, .int x101)]) hx hb dL_act_352 hl (by decide) rfl (fun ls hl => ?_)
                refine lv_iinc (v := (x101 + 1)) (lv' := [(10, .int (x101 + 1)), (9, .int (x100 + y102)), (11, .int y102), (0, .ref (a 0)), (3, .ref (b 0)), (4, .ref (b 1)), (6, .int r4), (7, .int r6)]) hx hb dL_act_354 hl (k := 7) rfl rfl (by decide) rfl (fun ls hl => ?_)
                refine lv_goto (tgt := 255) hx hb dL_act_357 (by decide) ?_
                cases h
                exact hk94 _ _ _ I (lv_sub hl [3, 4, 5, 6, 7, 1, 0] rfl)
              · have h := ifn hc105 h
                refine lv_aload_n hx hb dL_act_332 rfl (lv_at hl 2 rfl) ?_
                refine lv_bipush (v := (8 : Int32)) hx hb dL_act_333 (by decide) ?_
                refine lv_iload hx hb dL_act_335 (lv_at hl 5 rfl) ?_
                refine lv_imul hx hb dL_act_337 ?_
                refine lv_iload hx hb dL_act_338 (lv_at hl 7 rfl) ?_
                refine lv_iadd hx hb dL_act_340 ?_
                refine lv_dup2_11 hx hb dL_act_341 rfl rfl ?_
                obtain ⟨hc106, h⟩ := gd h
                refine p_ld50 E I (f := (upd (p_pr st99) (((8 : Int32) * r4) + x101).toNatClampNeg (((p_pr st99) (((8 : Int32) * r4) + x101).toNatClampNeg) - y102))) rfl hc106 dL_act_342 ?_
                refine lv_iload hx hb dL_act_343 (lv_at hl 0 rfl) ?_
                refine lv_isub hx hb dL_act_345 ?_
                obtain ⟨hc107, h⟩ := gd h
                refine p_st50 E I (f := (upd (p_pr st99) (((8 : Int32) * r4) + x101).toNatClampNeg (((p_pr st99) (((8 : Int32) * r4) + x101).toNatClampNeg) - y102))) rfl hc107 dL_act_346 (fun H locs I => ?_)
                refine lv_iload hx hb dL_act_347 (lv_at hl 6 rfl) ?_
                refine lv_iload hx hb dL_act_349 (lv_at hl 0 rfl) ?_
                refine lv_iadd hx hb dL_act_351 ?_
                refine lv_istore (lv' := [(9, .int (x100 + y102)), (11, .int y102), (0, .ref (a 0)), (3, .ref (b 0)), (4, .ref (b 1)), (6, .int r4), (7, .int r6), (10, .int x101)]) hx hb dL_act_352 hl (by decide) rfl (fun ls hl => ?_)
                refine lv_iinc (v := (x101 + 1)) (lv' := [(10, .int (x101 + 1)), (9, .int (x100 + y102)), (11, .int y102), (0, .ref (a 0)), (3, .ref (b 0)), (4, .ref (b 1)), (6, .int r4), (7, .int r6)]) hx hb dL_act_354 hl (k := 7) rfl rfl (by decide) rfl (fun ls hl => ?_)
                refine lv_goto (tgt := 255) hx hb dL_act_357 (by decide) ?_
                cases h
                exact hk94 _ _ _ I (lv_sub hl [3, 4, 5, 6, 7, 1, 0] rfl)
            refine lv_icmp_ge (tgt := 298) hx hb dL_act_282 (by decide) (fun hc108 => ?_) (fun hc108 => ?_)
            · have h := ifp hc108 h
              refine lv_aload_n hx hb dL_act_298 rfl (lv_at hl 1 rfl) ?_
              refine lv_bipush (v := (8 : Int32)) hx hb dL_act_299 (by decide) ?_
              refine lv_iload hx hb dL_act_301 (lv_at hl 4 rfl) ?_
              refine lv_imul hx hb dL_act_303 ?_
              refine lv_iload hx hb dL_act_304 (lv_at hl 6 rfl) ?_
              refine lv_iadd hx hb dL_act_306 ?_
              obtain ⟨hc109, h⟩ := gd h
              refine p_ld50 E I (f := (p_pr st88)) rfl hc109 dL_act_307 ?_
              exact J98 _ _ _ _ h _ _ _ I (lv_sub hl [0, 1, 2, 3, 4, 5, 6] rfl)
            · have h := ifn hc108 h
              refine lv_aload_n hx hb dL_act_285 rfl (lv_at hl 1 rfl) ?_
              refine lv_bipush (v := (8 : Int32)) hx hb dL_act_286 (by decide) ?_
              refine lv_iload hx hb dL_act_288 (lv_at hl 3 rfl) ?_
              refine lv_imul hx hb dL_act_290 ?_
              refine lv_iload hx hb dL_act_291 (lv_at hl 6 rfl) ?_
              refine lv_iadd hx hb dL_act_293 ?_
              obtain ⟨hc110, h⟩ := gd h
              refine p_ld50 E I (f := (p_pr st88)) rfl hc110 dL_act_294 ?_
              refine lv_goto (tgt := 308) hx hb dL_act_295 (by decide) ?_
              exact J98 _ _ _ _ h _ _ _ I (lv_sub hl [0, 1, 2, 3, 4, 5, 6] rfl)
        · obtain ⟨st113, x114⟩ := z111
          intro H locs ls I hl
          have h : ((if (6 : Int32) ≤ ((p_n st113) (2 : Int32).toNatClampNeg) then fL_act_j377 st113 r4 r6 x114 else fL_act_j377 (p_n_s st113 (upd (p_n st113) (2 : Int32).toNatClampNeg (((p_n st113) (2 : Int32).toNatClampNeg) + (1 : Int32)))) r4 r6 x114) : Option (PS × Int32)) = some o := h
          have I : wk D (pW g a b st113) A H0 H locs := I
          have hl : lv_has ls 12 [(0, .ref (a 0)), (4, .ref (b 1)), (6, .int r4), (7, .int r6), (9, .int x114)] := hl
          refine lv_aload hx hb dL_act_360 (lv_at hl 1 rfl) ?_
          refine lv_iconst (v := (2 : Int32)) hx hb dL_act_362 (by decide) ?_
          refine p_ld51 E I (f := (p_n st113)) rfl (by decide) dL_act_363 ?_
          refine lv_bipush (v := (6 : Int32)) hx hb dL_act_364 (by decide) ?_
          have J115 : ∀ (st116 : PS) (x117 : Int32) (x118 : Int32) (x119 : Int32), fL_act_j377 st116 x117 x118 x119 = some o → ∀ (H : Heap) (locs : List Loc) (ls : Array Slot), wk D (pW g a b st116) A H0 H locs → lv_has ls 12 [(0, .ref (a 0)), (6, .int x117), (7, .int x118), (9, .int x119)] → W p l e (rmk 5 125) s m args below meth c H locs 0 0 Q (F0 m 377 ls []) := by
            intro st116 x117 x118 x119 h H locs ls I hl
            have h : ((bi2 (nx (f4_cancel (p_c st116) x117 x118)) fun st121 r122 => (if r122 = x119 then some ((p_c_s st116 st121), (1 : Int32)) else some ((p_c_s st116 st121), (0 : Int32)))) : Option (PS × Int32)) = some o := h
            refine lv_aload_n hx hb dL_act_377 rfl (lv_at hl 0 rfl) ?_
            refine lv_iload hx hb dL_act_378 (lv_at hl 1 rfl) ?_
            refine lv_iload hx hb dL_act_380 (lv_at hl 2 rfl) ?_
            obtain ⟨st121, r122, hc120, h⟩ := nxx h
            refine r_callF1 (ws' := cW g a st121) (As := [.int x117, .int x118]) (v := .int r122) (rest := []) E I hl.1 kL_37 (c4_cancel hc120) cW_k (q0 := 0) rfl rfl rfl rfl (Nat.le_of_ble_eq_true rfl) ⟨Nat.le_of_ble_eq_true rfl, Nat.le_of_ble_eq_true rfl⟩ ⟨Nat.le_of_ble_eq_true rfl, Nat.le_of_ble_eq_true rfl⟩ dL_act_382 (fun H locs I => ?_)
            have I : wk D (pW g a b (p_c_s st116 st121)) A H0 H locs := I
            refine lv_iload hx hb dL_act_385 (lv_at hl 3 rfl) ?_
            refine lv_icmp_ne (tgt := 394) hx hb dL_act_387 (by decide) (fun hc123 => ?_) (fun hc123 => ?_)
            · have h := ifn hc123 h
              refine lv_iconst (v := (0 : Int32)) hx hb dL_act_394 (by decide) ?_
              cases h
              exact K _ _ _ _ I dL_act_395 rfl
            · have h := ifp hc123 h
              refine lv_iconst (v := (1 : Int32)) hx hb dL_act_390 (by decide) ?_
              refine lv_goto (tgt := 395) hx hb dL_act_391 (by decide) ?_
              cases h
              exact K _ _ _ _ I dL_act_395 rfl
          refine lv_icmp_ge (tgt := 377) hx hb dL_act_366 (by decide) (fun hc124 => ?_) (fun hc124 => ?_)
          · have h := ifp hc124 h
            exact J115 _ _ _ _ h _ _ _ I (lv_sub hl [0, 2, 3, 4] rfl)
          · have h := ifn hc124 h
            refine lv_aload hx hb dL_act_369 (lv_at hl 1 rfl) ?_
            refine lv_iconst (v := (2 : Int32)) hx hb dL_act_371 (by decide) ?_
            refine lv_dup2_11 hx hb dL_act_372 rfl rfl ?_
            refine p_ld51 E I (f := (p_n st113)) rfl (by decide) dL_act_373 ?_
            refine lv_iconst (v := (1 : Int32)) hx hb dL_act_374 (by decide) ?_
            refine lv_iadd hx hb dL_act_375 ?_
            refine p_st51 E I (f := (p_n st113)) rfl (by decide) dL_act_376 (fun H locs I => ?_)
            exact J115 _ _ _ _ h _ _ _ I (lv_sub hl [0, 2, 3, 4] rfl)
    · have h := ifn hc10 h
      refine lv_iload hx hb dL_act_136 (lv_at hl 2 rfl) ?_
      refine lv_iconst (v := (2 : Int32)) hx hb dL_act_138 (by decide) ?_
      refine lv_icmp_ne (tgt := 160) hx hb dL_act_139 (by decide) (fun hc126 => ?_) (fun hc126 => ?_)
      · have h := ifn hc126 h
        refine lv_aload_n hx hb dL_act_160 rfl (lv_at hl 7 rfl) ?_
        refine lv_bipush (v := (8 : Int32)) hx hb dL_act_161 (by decide) ?_
        refine lv_iload hx hb dL_act_163 (lv_at hl 2 rfl) ?_
        refine lv_imul hx hb dL_act_165 ?_
        refine lv_iconst (v := (4 : Int32)) hx hb dL_act_166 (by decide) ?_
        refine lv_iadd hx hb dL_act_167 ?_
        refine lv_iload hx hb dL_act_168 (lv_at hl 0 rfl) ?_
        refine lv_iadd hx hb dL_act_170 ?_
        obtain ⟨hc127, h⟩ := gd h
        refine p_ld50 E I (f := (p_pr st)) rfl hc127 dL_act_171 ?_
        obtain ⟨x128, hx129, h⟩ := lqx h
        refine lv_istore (x := ((p_pr st) ((((8 : Int32) * r4) + (4 : Int32)) + r8).toNatClampNeg)) (lv' := [(9, .int x128), (8, .int r8), (7, .int r6), (6, .int r4), (5, .int r2), (0, .ref (a 0)), (1, .int x91), (2, .int x92), (3, .ref (b 0)), (4, .ref (b 1))]) hx hb dL_act_172 hl (by decide) (by subst hx129; rfl) (fun ls hl => ?_)
        refine lv_aload_n hx hb dL_act_174 rfl (lv_at hl 8 rfl) ?_
        refine lv_bipush (v := (8 : Int32)) hx hb dL_act_175 (by decide) ?_
        refine lv_iload hx hb dL_act_177 (lv_at hl 3 rfl) ?_
        refine lv_imul hx hb dL_act_179 ?_
        refine lv_iconst (v := (4 : Int32)) hx hb dL_act_180 (by decide) ?_
        refine lv_iadd hx hb dL_act_181 ?_
        refine lv_iload hx hb dL_act_182 (lv_at hl 1 rfl) ?_
        refine lv_iadd hx hb dL_act_184 ?_
        refine lv_iload_n hx hb dL_act_185 rfl (lv_at hl 7 rfl) ?_
        refine lv_bipush (v := (6 : Int32)) hx hb dL_act_186 (by decide) ?_
        refine lv_ishr hx hb dL_act_188 ?_
        refine lv_iconst (v := (3 : Int32)) hx hb dL_act_189 (by decide) ?_
        obtain ⟨r131, hc130, h⟩ := bx1 h
        refine r_callS1 (As := [.int (x92 >>> ((6 : Int32) &&& 31)), .int (3 : Int32)]) (rest := [.int ((((8 : Int32) * r4) + (4 : Int32)) + r8), .ref (b 0)]) E I hl.1 kL_24 (vL_at hc130) rfl rfl (Nat.le_of_ble_eq_true rfl) ⟨Nat.le_of_ble_eq_true rfl, Nat.le_of_ble_eq_true rfl⟩ ⟨Nat.zero_le _, Nat.zero_le _⟩ dL_act_190 (fun H locs I => ?_)
        obtain ⟨hc132, h⟩ := gd h
        refine p_st50 E I (f := (p_pr st)) rfl hc132 dL_act_193 (fun H locs I => ?_)
        refine lv_aload hx hb dL_act_194 (lv_at hl 9 rfl) ?_
        refine lv_iconst (v := (2 : Int32)) hx hb dL_act_196 (by decide) ?_
        refine p_ld51 E I (f := (p_n st)) rfl (by decide) dL_act_197 ?_
        refine lv_bipush (v := (6 : Int32)) hx hb dL_act_198 (by decide) ?_
        have J133 : ∀ (st134 : PS) (x135 : Int32) (x136 : Int32) (x137 : Int32), fL_act_j211 st134 x135 x136 x137 = some o → ∀ (H : Heap) (locs : List Loc) (ls : Array Slot), wk D (pW g a b st134) A H0 H locs → lv_has ls 12 [(0, .ref (a 0)), (3, .ref (b 0)), (6, .int x135), (8, .int x136), (9, .int x137)] → W p l e (rmk 5 125) s m args below meth c H locs 0 0 Q (F0 m 211 ls []) := by
          intro st134 x135 x136 x137 h H locs ls I hl
          have h : ((if ib ((((8 : Int32) * x135) + (4 : Int32)) + x136) 24 = true then (bi2 (nx (f4_variable (p_c st134) x135 x136 ((p_pr st134) ((((8 : Int32) * x135) + (4 : Int32)) + x136).toNatClampNeg))) fun st140 r141 => (if r141 = x137 then some ((p_c_s st134 st140), (1 : Int32)) else some ((p_c_s st134 st140), (0 : Int32)))) else none) : Option (PS × Int32)) = some o := h
          refine lv_aload_n hx hb dL_act_211 rfl (lv_at hl 0 rfl) ?_
          refine lv_iload hx hb dL_act_212 (lv_at hl 2 rfl) ?_
          refine lv_iload hx hb dL_act_214 (lv_at hl 3 rfl) ?_
          refine lv_aload_n hx hb dL_act_216 rfl (lv_at hl 1 rfl) ?_
          refine lv_bipush (v := (8 : Int32)) hx hb dL_act_217 (by decide) ?_
          refine lv_iload hx hb dL_act_219 (lv_at hl 2 rfl) ?_
          refine lv_imul hx hb dL_act_221 ?_
          refine lv_iconst (v := (4 : Int32)) hx hb dL_act_222 (by decide) ?_
          refine lv_iadd hx hb dL_act_223 ?_
          refine lv_iload hx hb dL_act_224 (lv_at hl 3 rfl) ?_
          refine lv_iadd hx hb dL_act_226 ?_
          obtain ⟨hc138, h⟩ := gd h
          refine p_ld50 E I (f := (p_pr st134)) rfl hc138 dL_act_227 ?_
          obtain ⟨st140, r141, hc139, h⟩ := nxx h
          refine r_callF1 (ws' := cW g a st140) (As := [.int x135, .int x136, .int ((p_pr st134) ((((8 : Int32) * x135) + (4 : Int32)) + x136).toNatClampNeg)]) (v := .int r141) (rest := []) E I hl.1 kL_34 (c4_variable hc139) cW_k (q0 := 0) rfl rfl rfl rfl (Nat.le_of_ble_eq_true rfl) ⟨Nat.le_of_ble_eq_true rfl, Nat.le_of_ble_eq_true rfl⟩ ⟨Nat.le_of_ble_eq_true rfl, Nat.le_of_ble_eq_true rfl⟩ dL_act_228 (fun H locs I => ?_)
          have I : wk D (pW g a b (p_c_s st134 st140)) A H0 H locs := I
          refine lv_iload hx hb dL_act_231 (lv_at hl 4 rfl) ?_
          refine lv_icmp_ne (tgt := 240) hx hb dL_act_233 (by decide) (fun hc142 => ?_) (fun hc142 => ?_)
          · have h := ifn hc142 h
            refine lv_iconst (v := (0 : Int32)) hx hb dL_act_240 (by decide) ?_
            cases h
            exact K _ _ _ _ I dL_act_241 rfl
          · have h := ifp hc142 h
            refine lv_iconst (v := (1 : Int32)) hx hb dL_act_236 (by decide) ?_
            refine lv_goto (tgt := 241) hx hb dL_act_237 (by decide) ?_
            cases h
            exact K _ _ _ _ I dL_act_241 rfl
        refine lv_icmp_ge (tgt := 211) hx hb dL_act_200 (by decide) (fun hc143 => ?_) (fun hc143 => ?_)
        · have h := ifp hc143 h
          exact J133 _ _ _ _ h _ _ _ I (lv_sub hl [5, 8, 3, 1, 0] rfl)
        · have h := ifn hc143 h
          refine lv_aload hx hb dL_act_203 (lv_at hl 9 rfl) ?_
          refine lv_iconst (v := (2 : Int32)) hx hb dL_act_205 (by decide) ?_
          refine lv_dup2_11 hx hb dL_act_206 rfl rfl ?_
          refine p_ld51 E I (f := (p_n st)) rfl (by decide) dL_act_207 ?_
          refine lv_iconst (v := (1 : Int32)) hx hb dL_act_208 (by decide) ?_
          refine lv_iadd hx hb dL_act_209 ?_
          refine p_st51 E I (f := (p_n st)) rfl (by decide) dL_act_210 (fun H locs I => ?_)
          exact J133 _ _ _ _ h _ _ _ I (lv_sub hl [5, 8, 3, 1, 0] rfl)
      · have h := ifp hc126 h
        refine lv_aload_n hx hb dL_act_142 rfl (lv_at hl 4 rfl) ?_
        refine lv_iconst (v := (2 : Int32)) hx hb dL_act_143 (by decide) ?_
        refine lv_iconst (v := (4 : Int32)) hx hb dL_act_144 (by decide) ?_
        refine lv_iload hx hb dL_act_145 (lv_at hl 0 rfl) ?_
        refine lv_iadd hx hb dL_act_147 ?_
        obtain ⟨st145, r146, hc144, h⟩ := nxx h
        refine r_callF1 (ws' := cW g a st145) (As := [.int (2 : Int32), .int ((4 : Int32) + r8)]) (v := .int r146) (rest := []) E I hl.1 kL_31 (c4_times hc144) cW_k (q0 := 0) rfl rfl rfl rfl (Nat.le_of_ble_eq_true rfl) ⟨Nat.le_of_ble_eq_true rfl, Nat.le_of_ble_eq_true rfl⟩ ⟨Nat.le_of_ble_eq_true rfl, Nat.le_of_ble_eq_true rfl⟩ dL_act_148 (fun H locs I => ?_)
        have I : wk D (pW g a b (p_c_s st st145)) A H0 H locs := I
        refine lv_if_ne (tgt := 158) hx hb dL_act_151 (by decide) (fun hc147 => ?_) (fun hc147 => ?_)
        · have h := ifn hc147 h
          refine lv_iconst (v := (0 : Int32)) hx hb dL_act_158 (by decide) ?_
          cases h
          exact K _ _ _ _ I dL_act_159 rfl
        · have h := ifp hc147 h
          refine lv_iconst (v := (1 : Int32)) hx hb dL_act_154 (by decide) ?_
          refine lv_goto (tgt := 159) hx hb dL_act_155 (by decide) ?_
          cases h
          exact K _ _ _ _ I dL_act_159 rfl
  · have h := ifn hc9 h
    refine lv_aload_n hx hb dL_act_42 rfl (lv_at hl 7 rfl) ?_
    refine lv_bipush (v := (8 : Int32)) hx hb dL_act_43 (by decide) ?_
    refine lv_iload hx hb dL_act_45 (lv_at hl 2 rfl) ?_
    refine lv_imul hx hb dL_act_47 ?_
    refine lv_iload hx hb dL_act_48 (lv_at hl 0 rfl) ?_
    refine lv_iadd hx hb dL_act_50 ?_
    obtain ⟨hc148, h⟩ := gd h
    refine p_ld50 E I (f := (p_pr st)) rfl hc148 dL_act_51 ?_
    refine lv_istore (lv' := [(9, .int ((p_pr st) (((8 : Int32) * r4) + r8).toNatClampNeg)), (8, .int r8), (7, .int r6), (6, .int r4), (5, .int r2), (0, .ref (a 0)), (1, .int x91), (2, .int x92), (3, .ref (b 0)), (4, .ref (b 1))]) hx hb dL_act_52 hl (by decide) rfl (fun ls hl => ?_)
    refine lv_aload_n hx hb dL_act_54 rfl (lv_at hl 8 rfl) ?_
    refine lv_bipush (v := (8 : Int32)) hx hb dL_act_55 (by decide) ?_
    refine lv_iload hx hb dL_act_57 (lv_at hl 3 rfl) ?_
    refine lv_imul hx hb dL_act_59 ?_
    refine lv_iload hx hb dL_act_60 (lv_at hl 1 rfl) ?_
    refine lv_iadd hx hb dL_act_62 ?_
    refine lv_iload_n hx hb dL_act_63 rfl (lv_at hl 7 rfl) ?_
    refine lv_bipush (v := (6 : Int32)) hx hb dL_act_64 (by decide) ?_
    refine lv_ishr hx hb dL_act_66 ?_
    refine lv_iload hx hb dL_act_67 (lv_at hl 3 rfl) ?_
    refine lv_iconst (v := (2 : Int32)) hx hb dL_act_69 (by decide) ?_
    have J150 : ∀ (v149 : Int32) (H : Heap) (locs : List Loc), v149 = (if r4 = (2 : Int32) then (10 : Int32) else (4 : Int32)) → wk D (pW g a b st) A H0 H locs → W p l e (rmk 5 125) s m args below meth c H locs 0 0 Q (F0 m 79 ls [.int v149, .int (x92 >>> ((6 : Int32) &&& 31)), .int (((8 : Int32) * r4) + r8), .ref (b 0)]) := by
      intro v149 H locs hv151 I
      subst hv151
      obtain ⟨r153, hc152, h⟩ := bx1 h
      refine r_callS1 (As := [.int (x92 >>> ((6 : Int32) &&& 31)), .int (if r4 = (2 : Int32) then (10 : Int32) else (4 : Int32))]) (rest := [.int (((8 : Int32) * r4) + r8), .ref (b 0)]) E I hl.1 kL_24 (vL_at hc152) rfl rfl (Nat.le_of_ble_eq_true rfl) ⟨Nat.le_of_ble_eq_true rfl, Nat.le_of_ble_eq_true rfl⟩ ⟨Nat.zero_le _, Nat.zero_le _⟩ dL_act_79 (fun H locs I => ?_)
      obtain ⟨hc154, h⟩ := gd h
      refine p_st50 E I (f := (p_pr st)) rfl hc154 dL_act_82 (fun H locs I => ?_)
      refine lv_aload hx hb dL_act_83 (lv_at hl 9 rfl) ?_
      refine lv_iconst (v := (2 : Int32)) hx hb dL_act_85 (by decide) ?_
      refine p_ld51 E I (f := (p_n st)) rfl (by decide) dL_act_86 ?_
      refine lv_bipush (v := (6 : Int32)) hx hb dL_act_87 (by decide) ?_
      have J155 : ∀ (st156 : PS) (x157 : Int32) (x158 : Int32) (x159 : Int32), fL_act_j100 st156 x157 x158 x159 = some o → ∀ (H : Heap) (locs : List Loc) (ls : Array Slot), wk D (pW g a b st156) A H0 H locs → lv_has ls 12 [(0, .ref (a 0)), (3, .ref (b 0)), (6, .int x157), (8, .int x158), (9, .int x159)] → W p l e (rmk 5 125) s m args below meth c H locs 0 0 Q (F0 m 100 ls []) := by
        intro st156 x157 x158 x159 h H locs ls I hl
        have h : ((if ib (((8 : Int32) * x157) + x158) 24 = true then (bi2 (nx (f4_constant (p_c st156) x157 x158 ((p_pr st156) (((8 : Int32) * x157) + x158).toNatClampNeg))) fun st162 r163 => (if r163 = x159 then some ((p_c_s st156 st162), (1 : Int32)) else some ((p_c_s st156 st162), (0 : Int32)))) else none) : Option (PS × Int32)) = some o := h
        refine lv_aload_n hx hb dL_act_100 rfl (lv_at hl 0 rfl) ?_
        refine lv_iload hx hb dL_act_101 (lv_at hl 2 rfl) ?_
        refine lv_iload hx hb dL_act_103 (lv_at hl 3 rfl) ?_
        refine lv_aload_n hx hb dL_act_105 rfl (lv_at hl 1 rfl) ?_
        refine lv_bipush (v := (8 : Int32)) hx hb dL_act_106 (by decide) ?_
        refine lv_iload hx hb dL_act_108 (lv_at hl 2 rfl) ?_
        refine lv_imul hx hb dL_act_110 ?_
        refine lv_iload hx hb dL_act_111 (lv_at hl 3 rfl) ?_
        refine lv_iadd hx hb dL_act_113 ?_
        obtain ⟨hc160, h⟩ := gd h
        refine p_ld50 E I (f := (p_pr st156)) rfl hc160 dL_act_114 ?_
        obtain ⟨st162, r163, hc161, h⟩ := nxx h
        refine r_callF1 (ws' := cW g a st162) (As := [.int x157, .int x158, .int ((p_pr st156) (((8 : Int32) * x157) + x158).toNatClampNeg)]) (v := .int r163) (rest := []) E I hl.1 kL_27 (c4_constant hc161) cW_k (q0 := 0) rfl rfl rfl rfl (Nat.le_of_ble_eq_true rfl) ⟨Nat.le_of_ble_eq_true rfl, Nat.le_of_ble_eq_true rfl⟩ ⟨Nat.le_of_ble_eq_true rfl, Nat.le_of_ble_eq_true rfl⟩ dL_act_115 (fun H locs I => ?_)
        have I : wk D (pW g a b (p_c_s st156 st162)) A H0 H locs := I
        refine lv_iload hx hb dL_act_118 (lv_at hl 4 rfl) ?_
        refine lv_icmp_ne (tgt := 127) hx hb dL_act_120 (by decide) (fun hc164 => ?_) (fun hc164 => ?_)
        · have h := ifn hc164 h
          refine lv_iconst (v := (0 : Int32)) hx hb dL_act_127 (by decide) ?_
          cases h
          exact K _ _ _ _ I dL_act_128 rfl
        · have h := ifp hc164 h
          refine lv_iconst (v := (1 : Int32)) hx hb dL_act_123 (by decide) ?_
          refine lv_goto (tgt := 128) hx hb dL_act_124 (by decide) ?_
          cases h
          exact K _ _ _ _ I dL_act_128 rfl
      refine lv_icmp_ge (tgt := 100) hx hb dL_act_89 (by decide) (fun hc165 => ?_) (fun hc165 => ?_)
      · have h := ifp hc165 h
        exact J155 _ _ _ _ h _ _ _ I (lv_sub hl [5, 8, 3, 1, 0] rfl)
      · have h := ifn hc165 h
        refine lv_aload hx hb dL_act_92 (lv_at hl 9 rfl) ?_
        refine lv_iconst (v := (2 : Int32)) hx hb dL_act_94 (by decide) ?_
        refine lv_dup2_11 hx hb dL_act_95 rfl rfl ?_
        refine p_ld51 E I (f := (p_n st)) rfl (by decide) dL_act_96 ?_
        refine lv_iconst (v := (1 : Int32)) hx hb dL_act_97 (by decide) ?_
        refine lv_iadd hx hb dL_act_98 ?_
        refine p_st51 E I (f := (p_n st)) rfl (by decide) dL_act_99 (fun H locs I => ?_)
        exact J155 _ _ _ _ h _ _ _ I (lv_sub hl [5, 8, 3, 1, 0] rfl)
    refine lv_icmp_ne (tgt := 78) hx hb dL_act_70 (by decide) (fun hc166 => ?_) (fun hc166 => ?_)
    · refine lv_iconst (v := (4 : Int32)) hx hb dL_act_78 (by decide) ?_
      exact J150 _ _ _ (by rw [if_neg hc166]) I
    · refine lv_bipush (v := (10 : Int32)) hx hb dL_act_73 (by decide) ?_
      refine lv_goto (tgt := 79) hx hb dL_act_75 (by decide) ?_
      exact J150 _ _ _ (by rw [if_pos hc166]) I
set_option maxHeartbeats 4000000 in
set_option maxRecDepth 100000 in
theorem vL_agree {l : Launch} {D : va_G} {g : Nat → ClassId} {a b : Nat → Nat} {st : PS} {o : PS × Int32} (h : fL_agree st = some o) : cm l yL_agree cL_agree 5 (some .boolean) (rmi 6 147 1 64) D g (pW g a b st) (pW g a b o.1) [.ref (a 0), .ref (b 0), .ref (b 1)] (some (.int o.2)) 1 64 := by
  refine cm_of (by decide) (Nat.le_of_ble_eq_true rfl) ?_
  intro p e s m args below meth c ls Q A H0 E I hA hl K
  have E : en p m c cL_agree 5 s args RL D g := E
  have hx := E.1.1
  have hb := E.1.2.1
  have hl : lv_has ls 5 [(0, .ref (a 0)), (1, .ref (b 0)), (2, .ref (b 1))] := hl
  have K : ∀ (pc : Nat) (ls : Array Slot) (H : Heap) (locs : List Loc), wk D (pW g a b o.1) A H0 H locs → decode cL_agree pc = .ok (.ireturn, 1) → zok o.2 = true → W p l e (rmi 6 147 1 64) s m args below meth c H locs 1 64 Q (F0 m pc ls [.int o.2]) := fun pc ls H locs I hd hz => K pc ls H locs I ⟨hd, hz⟩
  have h : ((bi1 (wh (fL_agree_b2) FU (st, (0 : Int32))) fun w59 => Sum.elim (fun w60 => (bi1 (wh (fL_agree_b36) FU (w60, (0 : Int32))) fun w54 => Sum.elim (fun w55 => (bi1 (fL_matchers ((p_pr w55), (p_n w55)) ) fun r35 => (bi2 (nx (f4_matchers (p_c w55) (0 : Int32))) fun st37 r38 => (if (lg_cmp r38 r35) = 0 then (bi2 (nx (f4_matchers st37 (1 : Int32))) fun st41 r42 => (if (lg_cmp r42 r35) = 0 then (bi2 (nx (f4_count st41 (10 : Int32))) fun st45 r46 => (if r46 = ((p_n w55) (2 : Int32).toNatClampNeg) then (bi2 (fL_least (p_c_s (p_c_s (p_c_s w55 st37) st41) st45)) fun st49 r50 => (if r50 = 0 then some (st49, (0 : Int32)) else some (st49, (1 : Int32)))) else some ((p_c_s (p_c_s (p_c_s w55 st37) st41) st45), (0 : Int32)))) else some ((p_c_s (p_c_s w55 st37) st41), (0 : Int32)))) else some ((p_c_s w55 st37), (0 : Int32)))))) (fun w56 => some (w56, (0 : Int32))) w54)) (fun w61 => some (w61, (0 : Int32))) w59) : Option (PS × Int32)) = some o := h
  refine lv_iconst (v := (0 : Int32)) hx hb dL_agree_0 (by decide) ?_
  refine lv_istore_n (lv' := [(3, .int (0 : Int32)), (0, .ref (a 0)), (1, .ref (b 0)), (2, .ref (b 1))]) hx hb dL_agree_1 rfl hl (by decide) rfl (fun ls hl => ?_)
  obtain ⟨z11, hw12, h⟩ := bx1 h
  refine wh_W (P := fun (z : PS × Int32) => ∀ (H : Heap) (locs : List Loc) (ls : Array Slot), wk D (pW g a b z.1) A H0 H locs → lv_has ls 5 [(0, .ref (a 0)), (1, .ref (b 0)), (2, .ref (b 1)), (3, .int z.2)] → W p l e (rmi 6 147 1 64) s m args below meth c H locs 0 0 Q (F0 m 2 ls [])) (X := Sum.elim (fun (z : PS) => ∀ (H : Heap) (locs : List Loc) (ls : Array Slot), wk D (pW g a b z) A H0 H locs → lv_has ls 5 [(0, .ref (a 0)), (1, .ref (b 0)), (2, .ref (b 1))] → W p l e (rmi 6 147 1 64) s m args below meth c H locs 0 0 Q (F0 m 34 ls [])) (fun (z : PS) => ∀ (H : Heap) (locs : List Loc) (ls : Array Slot), wk D (pW g a b z) A H0 H locs → lv_has ls 5 [] → W p l e (rmi 6 147 1 64) s m args below meth c H locs 0 0 Q (F0 m 26 ls []))) ?_ FU _ _ hw12 ?_ _ _ _ I (lv_sub hl [1, 2, 3, 0] rfl)
  · intro z o3 h hk4 H locs ls I hl
    obtain ⟨st1, x2⟩ := z
    have h : ((if (24 : Int32) ≤ x2 then some (.inr (.inl st1)) else (bi2 (nx (f4_times (p_c st1) (x2 / (8 : Int32)) (x2 - x2 / (8 : Int32) * (8 : Int32)))) fun st7 r8 => (if ib x2 24 = true then (if r8 = ((p_pr st1) x2.toNatClampNeg) then some (.inl ((p_c_s st1 st7), (x2 + 1))) else some (.inr (.inr (p_c_s st1 st7)))) else none))) : Option ((PS × Int32) ⊕ ((PS) ⊕ (PS)))) = some o3 := h
    have I : wk D (pW g a b st1) A H0 H locs := I
    have hl : lv_has ls 5 [(0, .ref (a 0)), (1, .ref (b 0)), (2, .ref (b 1)), (3, .int x2)] := hl
    refine lv_iload_n hx hb dL_agree_2 rfl (lv_at hl 3 rfl) ?_
    refine lv_bipush (v := (24 : Int32)) hx hb dL_agree_3 (by decide) ?_
    refine lv_icmp_ge (tgt := 34) hx hb dL_agree_5 (by decide) (fun hc5 => ?_) (fun hc5 => ?_)
    · have h := ifp hc5 h
      cases h
      exact hk4 _ _ _ I (lv_sub hl [0, 1, 2] rfl)
    · have h := ifn hc5 h
      refine lv_aload_n hx hb dL_agree_8 rfl (lv_at hl 0 rfl) ?_
      refine lv_iload_n hx hb dL_agree_9 rfl (lv_at hl 3 rfl) ?_
      refine lv_bipush (v := (8 : Int32)) hx hb dL_agree_10 (by decide) ?_
      refine lv_idiv hx hb dL_agree_12 (by decide) ?_
      refine lv_iload_n hx hb dL_agree_13 rfl (lv_at hl 3 rfl) ?_
      refine lv_bipush (v := (8 : Int32)) hx hb dL_agree_14 (by decide) ?_
      refine lv_irem hx hb dL_agree_16 (by decide) ?_
      obtain ⟨st7, r8, hc6, h⟩ := nxx h
      refine r_callF1 (ws' := cW g a st7) (As := [.int (x2 / (8 : Int32)), .int (x2 - x2 / (8 : Int32) * (8 : Int32))]) (v := .int r8) (rest := []) E I hl.1 kL_31 (c4_times hc6) cW_k (q0 := 0) rfl rfl rfl rfl (Nat.le_of_ble_eq_true rfl) ⟨Nat.le_of_ble_eq_true rfl, Nat.le_of_ble_eq_true rfl⟩ ⟨Nat.le_of_ble_eq_true rfl, Nat.le_of_ble_eq_true rfl⟩ dL_agree_17 (fun H locs I => ?_)
      have I : wk D (pW g a b (p_c_s st1 st7)) A H0 H locs := I
      refine lv_aload_n hx hb dL_agree_20 rfl (lv_at hl 1 rfl) ?_
      refine lv_iload_n hx hb dL_agree_21 rfl (lv_at hl 3 rfl) ?_
      obtain ⟨hc9, h⟩ := gd h
      refine p_ld50 E I (f := (p_pr st1)) rfl hc9 dL_agree_22 ?_
      refine lv_icmp_eq (tgt := 28) hx hb dL_agree_23 (by decide) (fun hc10 => ?_) (fun hc10 => ?_)
      · have h := ifp hc10 h
        refine lv_iinc (v := (x2 + 1)) (lv' := [(3, .int (x2 + 1)), (0, .ref (a 0)), (1, .ref (b 0)), (2, .ref (b 1))]) hx hb dL_agree_28 hl (k := 3) rfl rfl (by decide) rfl (fun ls hl => ?_)
        refine lv_goto (tgt := 2) hx hb dL_agree_31 (by decide) ?_
        cases h
        exact hk4 _ _ _ I (lv_sub hl [1, 2, 3, 0] rfl)
      · have h := ifn hc10 h
        cases h
        exact hk4 _ _ _ I (lv_sub hl [] rfl)
  · rcases z11 with z58 | z58
    · obtain ⟨st13, rfl⟩ : ∃ y, y = z58 := ⟨_, rfl⟩
      intro H locs ls I hl
      have h : ((bi1 (wh (fL_agree_b36) FU (st13, (0 : Int32))) fun w54 => Sum.elim (fun w55 => (bi1 (fL_matchers ((p_pr w55), (p_n w55)) ) fun r35 => (bi2 (nx (f4_matchers (p_c w55) (0 : Int32))) fun st37 r38 => (if (lg_cmp r38 r35) = 0 then (bi2 (nx (f4_matchers st37 (1 : Int32))) fun st41 r42 => (if (lg_cmp r42 r35) = 0 then (bi2 (nx (f4_count st41 (10 : Int32))) fun st45 r46 => (if r46 = ((p_n w55) (2 : Int32).toNatClampNeg) then (bi2 (fL_least (p_c_s (p_c_s (p_c_s w55 st37) st41) st45)) fun st49 r50 => (if r50 = 0 then some (st49, (0 : Int32)) else some (st49, (1 : Int32)))) else some ((p_c_s (p_c_s (p_c_s w55 st37) st41) st45), (0 : Int32)))) else some ((p_c_s (p_c_s w55 st37) st41), (0 : Int32)))) else some ((p_c_s w55 st37), (0 : Int32)))))) (fun w56 => some (w56, (0 : Int32))) w54) : Option (PS × Int32)) = some o := h
      have I : wk D (pW g a b st13) A H0 H locs := I
      have hl : lv_has ls 5 [(0, .ref (a 0)), (1, .ref (b 0)), (2, .ref (b 1))] := hl
      refine lv_iconst (v := (0 : Int32)) hx hb dL_agree_34 (by decide) ?_
      refine lv_istore_n (lv' := [(3, .int (0 : Int32)), (0, .ref (a 0)), (1, .ref (b 0)), (2, .ref (b 1))]) hx hb dL_agree_35 rfl hl (by decide) rfl (fun ls hl => ?_)
      obtain ⟨z31, hw32, h⟩ := bx1 h
      refine wh_W (P := fun (z : PS × Int32) => ∀ (H : Heap) (locs : List Loc) (ls : Array Slot), wk D (pW g a b z.1) A H0 H locs → lv_has ls 5 [(0, .ref (a 0)), (1, .ref (b 0)), (2, .ref (b 1)), (3, .int z.2)] → W p l e (rmi 6 147 1 64) s m args below meth c H locs 0 0 Q (F0 m 36 ls [])) (X := Sum.elim (fun (z : PS) => ∀ (H : Heap) (locs : List Loc) (ls : Array Slot), wk D (pW g a b z) A H0 H locs → lv_has ls 5 [(0, .ref (a 0)), (1, .ref (b 0)), (2, .ref (b 1))] → W p l e (rmi 6 147 1 64) s m args below meth c H locs 0 0 Q (F0 m 82 ls [])) (fun (z : PS) => ∀ (H : Heap) (locs : List Loc) (ls : Array Slot), wk D (pW g a b z) A H0 H locs → lv_has ls 5 [] → W p l e (rmi 6 147 1 64) s m args below meth c H locs 0 0 Q (F0 m 74 ls []))) ?_ FU _ _ hw32 ?_ _ _ _ I (lv_sub hl [1, 2, 3, 0] rfl)
      · intro z o16 h hk17 H locs ls I hl
        obtain ⟨st14, x15⟩ := z
        have h : ((if (4 : Int32) ≤ x15 then some (.inr (.inl st14)) else (bi2 (nx (f4_rest (p_c st14) x15)) fun st20 r21 => (if ib ((16 : Int32) + x15) 24 = true then (if ib x15 24 = true then (if r21 = (((p_pr st14) ((16 : Int32) + x15).toNatClampNeg) - ((p_pr st14) x15.toNatClampNeg)) then (bi2 (nx (f4_solutions st20 x15)) fun st26 r27 => (bi1 (fL_solutions ((p_pr st14), (p_n st14)) x15 (0 : Int32)) fun r29 => (if r27 = r29 then some (.inl ((p_c_s (p_c_s st14 st20) st26), (x15 + 1))) else some (.inr (.inr (p_c_s (p_c_s st14 st20) st26)))))) else some (.inr (.inr (p_c_s st14 st20)))) else none) else none))) : Option ((PS × Int32) ⊕ ((PS) ⊕ (PS)))) = some o16 := h
        have I : wk D (pW g a b st14) A H0 H locs := I
        have hl : lv_has ls 5 [(0, .ref (a 0)), (1, .ref (b 0)), (2, .ref (b 1)), (3, .int x15)] := hl
        refine lv_iload_n hx hb dL_agree_36 rfl (lv_at hl 3 rfl) ?_
        refine lv_iconst (v := (4 : Int32)) hx hb dL_agree_37 (by decide) ?_
        refine lv_icmp_ge (tgt := 82) hx hb dL_agree_38 (by decide) (fun hc18 => ?_) (fun hc18 => ?_)
        · have h := ifp hc18 h
          cases h
          exact hk17 _ _ _ I (lv_sub hl [0, 1, 2] rfl)
        · have h := ifn hc18 h
          refine lv_aload_n hx hb dL_agree_41 rfl (lv_at hl 0 rfl) ?_
          refine lv_iload_n hx hb dL_agree_42 rfl (lv_at hl 3 rfl) ?_
          obtain ⟨st20, r21, hc19, h⟩ := nxx h
          refine r_callF1 (ws' := cW g a st20) (As := [.int x15]) (v := .int r21) (rest := []) E I hl.1 kL_46 (c4_rest hc19) cW_k (q0 := 0) rfl rfl rfl rfl (Nat.le_of_ble_eq_true rfl) ⟨Nat.le_of_ble_eq_true rfl, Nat.le_of_ble_eq_true rfl⟩ ⟨Nat.le_of_ble_eq_true rfl, Nat.le_of_ble_eq_true rfl⟩ dL_agree_43 (fun H locs I => ?_)
          have I : wk D (pW g a b (p_c_s st14 st20)) A H0 H locs := I
          refine lv_aload_n hx hb dL_agree_46 rfl (lv_at hl 1 rfl) ?_
          refine lv_bipush (v := (16 : Int32)) hx hb dL_agree_47 (by decide) ?_
          refine lv_iload_n hx hb dL_agree_49 rfl (lv_at hl 3 rfl) ?_
          refine lv_iadd hx hb dL_agree_50 ?_
          obtain ⟨hc22, h⟩ := gd h
          refine p_ld50 E I (f := (p_pr st14)) rfl hc22 dL_agree_51 ?_
          refine lv_aload_n hx hb dL_agree_52 rfl (lv_at hl 1 rfl) ?_
          refine lv_iload_n hx hb dL_agree_53 rfl (lv_at hl 3 rfl) ?_
          obtain ⟨hc23, h⟩ := gd h
          refine p_ld50 E I (f := (p_pr st14)) rfl hc23 dL_agree_54 ?_
          refine lv_isub hx hb dL_agree_55 ?_
          refine lv_icmp_ne (tgt := 74) hx hb dL_agree_56 (by decide) (fun hc24 => ?_) (fun hc24 => ?_)
          · have h := ifn hc24 h
            cases h
            exact hk17 _ _ _ I (lv_sub hl [] rfl)
          · have h := ifp hc24 h
            refine lv_aload_n hx hb dL_agree_59 rfl (lv_at hl 0 rfl) ?_
            refine lv_iload_n hx hb dL_agree_60 rfl (lv_at hl 3 rfl) ?_
            obtain ⟨st26, r27, hc25, h⟩ := nxx h
            refine r_callF1 (ws' := cW g a st26) (As := [.int x15]) (v := .int r27) (rest := []) E I hl.1 kL_49 (c4_solutions hc25) cW_k (q0 := 0) rfl rfl rfl rfl (Nat.le_of_ble_eq_true rfl) ⟨Nat.le_of_ble_eq_true rfl, Nat.le_of_ble_eq_true rfl⟩ ⟨Nat.le_of_ble_eq_true rfl, Nat.le_of_ble_eq_true rfl⟩ dL_agree_61 (fun H locs I => ?_)
            have I : wk D (pW g a b (p_c_s (p_c_s st14 st20) st26)) A H0 H locs := I
            refine lv_aload_n hx hb dL_agree_64 rfl (lv_at hl 1 rfl) ?_
            refine lv_aload_n hx hb dL_agree_65 rfl (lv_at hl 2 rfl) ?_
            refine lv_iload_n hx hb dL_agree_66 rfl (lv_at hl 3 rfl) ?_
            refine lv_iconst (v := (0 : Int32)) hx hb dL_agree_67 (by decide) ?_
            obtain ⟨r29, hc28, h⟩ := bx1 h
            refine r_callTR (As := [.ref (b 0), .ref (b 1), .int x15, .int (0 : Int32)]) (v := .int r29) (rest := [.int r27]) (ws := nW g b ((p_pr st14), (p_n st14))) (ws' := nW g b ((p_pr st14), (p_n st14))) (X := cW g a st26) E I hl.1 kL_8 (vL_solutions hc28) rfl rfl rfl (Nat.le_of_ble_eq_true rfl) ⟨Nat.le_of_ble_eq_true rfl, Nat.le_of_ble_eq_true rfl⟩ ⟨Nat.zero_le _, Nat.zero_le _⟩ dL_agree_68 (fun H locs I => ?_)
            have I : wk D (pW g a b (p_c_s (p_c_s st14 st20) st26)) A H0 H locs := I
            refine lv_icmp_eq (tgt := 76) hx hb dL_agree_71 (by decide) (fun hc30 => ?_) (fun hc30 => ?_)
            · have h := ifp hc30 h
              refine lv_iinc (v := (x15 + 1)) (lv' := [(3, .int (x15 + 1)), (0, .ref (a 0)), (1, .ref (b 0)), (2, .ref (b 1))]) hx hb dL_agree_76 hl (k := 3) rfl rfl (by decide) rfl (fun ls hl => ?_)
              refine lv_goto (tgt := 36) hx hb dL_agree_79 (by decide) ?_
              cases h
              exact hk17 _ _ _ I (lv_sub hl [1, 2, 3, 0] rfl)
            · have h := ifn hc30 h
              cases h
              exact hk17 _ _ _ I (lv_sub hl [] rfl)
      · rcases z31 with z53 | z53
        · obtain ⟨st33, rfl⟩ : ∃ y, y = z53 := ⟨_, rfl⟩
          intro H locs ls I hl
          have h : ((bi1 (fL_matchers ((p_pr st33), (p_n st33)) ) fun r35 => (bi2 (nx (f4_matchers (p_c st33) (0 : Int32))) fun st37 r38 => (if (lg_cmp r38 r35) = 0 then (bi2 (nx (f4_matchers st37 (1 : Int32))) fun st41 r42 => (if (lg_cmp r42 r35) = 0 then (bi2 (nx (f4_count st41 (10 : Int32))) fun st45 r46 => (if r46 = ((p_n st33) (2 : Int32).toNatClampNeg) then (bi2 (fL_least (p_c_s (p_c_s (p_c_s st33 st37) st41) st45)) fun st49 r50 => (if r50 = 0 then some (st49, (0 : Int32)) else some (st49, (1 : Int32)))) else some ((p_c_s (p_c_s (p_c_s st33 st37) st41) st45), (0 : Int32)))) else some ((p_c_s (p_c_s st33 st37) st41), (0 : Int32)))) else some ((p_c_s st33 st37), (0 : Int32))))) : Option (PS × Int32)) = some o := h
          have I : wk D (pW g a b st33) A H0 H locs := I
          have hl : lv_has ls 5 [(0, .ref (a 0)), (1, .ref (b 0)), (2, .ref (b 1))] := hl
          refine lv_aload_n hx hb dL_agree_82 rfl (lv_at hl 1 rfl) ?_
          refine lv_aload_n hx hb dL_agree_83 rfl (lv_at hl 2 rfl) ?_
          obtain ⟨r35, hc34, h⟩ := bx1 h
          refine r_callTR (As := [.ref (b 0), .ref (b 1)]) (v := .long r35) (rest := []) (ws := nW g b ((p_pr st33), (p_n st33))) (ws' := nW g b ((p_pr st33), (p_n st33))) (X := cW g a (p_c st33)) E I hl.1 kL_51 (vL_matchers hc34) rfl rfl rfl (Nat.le_of_ble_eq_true rfl) ⟨Nat.le_of_ble_eq_true rfl, Nat.le_of_ble_eq_true rfl⟩ ⟨Nat.zero_le _, Nat.zero_le _⟩ dL_agree_84 (fun H locs I => ?_)
          have I : wk D (pW g a b st33) A H0 H locs := I
          refine lv_lstore_n (lv' := [(3, .long r35), (0, .ref (a 0)), (1, .ref (b 0)), (2, .ref (b 1))]) hx hb dL_agree_87 rfl hl (by decide) rfl (fun ls hl => ?_)
          refine lv_aload_n hx hb dL_agree_88 rfl (lv_at hl 1 rfl) ?_
          refine lv_iconst (v := (0 : Int32)) hx hb dL_agree_89 (by decide) ?_
          obtain ⟨st37, r38, hc36, h⟩ := nxx h
          refine r_callF1 (ws' := cW g a st37) (As := [.int (0 : Int32)]) (v := .long r38) (rest := []) E I hl.1 kL_55 (c4_matchers hc36) cW_k (q0 := 0) rfl rfl rfl rfl (Nat.le_of_ble_eq_true rfl) ⟨Nat.le_of_ble_eq_true rfl, Nat.le_of_ble_eq_true rfl⟩ ⟨Nat.le_of_ble_eq_true rfl, Nat.le_of_ble_eq_true rfl⟩ dL_agree_90 (fun H locs I => ?_)
          have I : wk D (pW g a b (p_c_s st33 st37)) A H0 H locs := I
          refine lv_lload_n hx hb dL_agree_93 rfl (lv_at hl 0 rfl) ?_
          refine W.lcmp hx hb dL_agree_94 ?_
          refine lv_if_ne (tgt := 132) hx hb dL_agree_95 (by decide) (fun hc39 => ?_) (fun hc39 => ?_)
          · have h := ifn hc39 h
            refine lv_iconst (v := (0 : Int32)) hx hb dL_agree_132 (by decide) ?_
            cases h
            refine W.widen (k := 1) (n := 64) (Nat.le_of_ble_eq_true rfl) (Nat.le_of_ble_eq_true rfl) ?_
            exact K _ _ _ _ I dL_agree_133 rfl
          · have h := ifp hc39 h
            refine lv_aload_n hx hb dL_agree_98 rfl (lv_at hl 1 rfl) ?_
            refine lv_iconst (v := (1 : Int32)) hx hb dL_agree_99 (by decide) ?_
            obtain ⟨st41, r42, hc40, h⟩ := nxx h
            refine r_callF1 (ws' := cW g a st41) (As := [.int (1 : Int32)]) (v := .long r42) (rest := []) E I hl.1 kL_55 (c4_matchers hc40) cW_k (q0 := 0) rfl rfl rfl rfl (Nat.le_of_ble_eq_true rfl) ⟨Nat.le_of_ble_eq_true rfl, Nat.le_of_ble_eq_true rfl⟩ ⟨Nat.le_of_ble_eq_true rfl, Nat.le_of_ble_eq_true rfl⟩ dL_agree_100 (fun H locs I => ?_)
            have I : wk D (pW g a b (p_c_s (p_c_s st33 st37) st41)) A H0 H locs := I
            refine lv_lload_n hx hb dL_agree_103 rfl (lv_at hl 0 rfl) ?_
            refine W.lcmp hx hb dL_agree_104 ?_
            refine lv_if_ne (tgt := 132) hx hb dL_agree_105 (by decide) (fun hc43 => ?_) (fun hc43 => ?_)
            · have h := ifn hc43 h
              refine lv_iconst (v := (0 : Int32)) hx hb dL_agree_132 (by decide) ?_
              cases h
              refine W.widen (k := 1) (n := 64) (Nat.le_of_ble_eq_true rfl) (Nat.le_of_ble_eq_true rfl) ?_
              exact K _ _ _ _ I dL_agree_133 rfl
            · have h := ifp hc43 h
              refine lv_aload_n hx hb dL_agree_108 rfl (lv_at hl 1 rfl) ?_
              refine lv_bipush (v := (10 : Int32)) hx hb dL_agree_109 (by decide) ?_
              obtain ⟨st45, r46, hc44, h⟩ := nxx h
              refine r_callF1 (ws' := cW g a st45) (As := [.int (10 : Int32)]) (v := .int r46) (rest := []) E I hl.1 kL_20 (c4_count hc44) cW_k (q0 := 0) rfl rfl rfl rfl (Nat.le_of_ble_eq_true rfl) ⟨Nat.le_of_ble_eq_true rfl, Nat.le_of_ble_eq_true rfl⟩ ⟨Nat.le_of_ble_eq_true rfl, Nat.le_of_ble_eq_true rfl⟩ dL_agree_111 (fun H locs I => ?_)
              have I : wk D (pW g a b (p_c_s (p_c_s (p_c_s st33 st37) st41) st45)) A H0 H locs := I
              refine lv_aload_n hx hb dL_agree_114 rfl (lv_at hl 3 rfl) ?_
              refine lv_iconst (v := (2 : Int32)) hx hb dL_agree_115 (by decide) ?_
              refine p_ld51 E I (f := (p_n st33)) rfl (by decide) dL_agree_116 ?_
              refine lv_icmp_ne (tgt := 132) hx hb dL_agree_117 (by decide) (fun hc47 => ?_) (fun hc47 => ?_)
              · have h := ifn hc47 h
                refine lv_iconst (v := (0 : Int32)) hx hb dL_agree_132 (by decide) ?_
                cases h
                refine W.widen (k := 1) (n := 64) (Nat.le_of_ble_eq_true rfl) (Nat.le_of_ble_eq_true rfl) ?_
                exact K _ _ _ _ I dL_agree_133 rfl
              · have h := ifp hc47 h
                refine lv_aload_n hx hb dL_agree_120 rfl (lv_at hl 1 rfl) ?_
                refine lv_aload_n hx hb dL_agree_121 rfl (lv_at hl 2 rfl) ?_
                obtain ⟨st49, r50, hc48, h⟩ := bx2 h
                refine r_callM (As := [.ref (a 0), .ref (b 0)]) (v := .int r50) (rest := []) (ws' := (pW g a b st49)) E I hA hl.1 kL_58 (vL_least hc48) rfl rfl rfl (Nat.le_of_ble_eq_true rfl) ⟨Nat.le_of_ble_eq_true rfl, Nat.le_of_ble_eq_true rfl⟩ ⟨Nat.le_of_ble_eq_true rfl, Nat.le_of_ble_eq_true rfl⟩ dL_agree_122 (fun H locs I => ?_)
                refine lv_if_eq (tgt := 132) hx hb dL_agree_125 (by decide) (fun hc51 => ?_) (fun hc51 => ?_)
                · have h := ifp hc51 h
                  refine lv_iconst (v := (0 : Int32)) hx hb dL_agree_132 (by decide) ?_
                  cases h
                  refine W.widen (k := 1) (n := 64) (Nat.le_of_ble_eq_true rfl) (Nat.le_of_ble_eq_true rfl) ?_
                  exact K _ _ _ _ I dL_agree_133 rfl
                · have h := ifn hc51 h
                  refine lv_iconst (v := (1 : Int32)) hx hb dL_agree_128 (by decide) ?_
                  refine lv_goto (tgt := 133) hx hb dL_agree_129 (by decide) ?_
                  cases h
                  refine W.widen (k := 1) (n := 64) (Nat.le_of_ble_eq_true rfl) (Nat.le_of_ble_eq_true rfl) ?_
                  exact K _ _ _ _ I dL_agree_133 rfl
        · obtain ⟨st52, rfl⟩ : ∃ y, y = z53 := ⟨_, rfl⟩
          intro H locs ls I hl
          have h : (some (st52, (0 : Int32)) : Option (PS × Int32)) = some o := h
          have I : wk D (pW g a b st52) A H0 H locs := I
          have hl : lv_has ls 5 [] := hl
          refine lv_iconst (v := (0 : Int32)) hx hb dL_agree_74 (by decide) ?_
          cases h
          refine W.widen (k := 1) (n := 64) (Nat.le_of_ble_eq_true rfl) (Nat.le_of_ble_eq_true rfl) ?_
          exact K _ _ _ _ I dL_agree_75 rfl
    · obtain ⟨st57, rfl⟩ : ∃ y, y = z58 := ⟨_, rfl⟩
      intro H locs ls I hl
      have h : (some (st57, (0 : Int32)) : Option (PS × Int32)) = some o := h
      have I : wk D (pW g a b st57) A H0 H locs := I
      have hl : lv_has ls 5 [] := hl
      refine lv_iconst (v := (0 : Int32)) hx hb dL_agree_26 (by decide) ?_
      cases h
      refine W.widen (k := 1) (n := 64) (Nat.le_of_ble_eq_true rfl) (Nat.le_of_ble_eq_true rfl) ?_
      exact K _ _ _ _ I dL_agree_27 rfl
