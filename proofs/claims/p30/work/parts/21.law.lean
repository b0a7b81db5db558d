/-! The law: a cell of the script, the loop over the acts, the start. -/
def cellv (xs : Nat → Int32) (L j : Nat) : Int32 := if j < L then xs j else (764981749 : Int32) * (nI j + 457)
def pC (D : va_G) (g : Nat → ClassId) (b L : Nat) (xs : Nat → Int32) (k : Int32) : Array Value → State → Prop := va_Pc [.ref b, .int k] (fun U => va_X b L xs U U.heap ∧ va_K D vwCl (gT g) U)
abbrev qC (D : va_G) (g : Nat → ClassId) (v : Int32) : Array Value → State → Outcome → State → Prop := qR (some (.int v)) (fun t => va_P D vwCl [] t.heap ∧ va_K D vwCl (gT g) t) (kA [])
theorem kL_7 : Cond.constant RL 7 (764981749) ∈ TB := tb 177 (by decide +kernel) (by decide +kernel)
set_option maxHeartbeats 4000000 in
set_option maxRecDepth 100000 in
theorem v_cell {l : Launch} {D : va_G} {g : Nat → ClassId} {b L : Nat} {xs : Nat → Int32} {j : Nat} {k : Int32} (hL : L ≤ 260) (hj : j < 1000) (hk : k = nI j) : Met l yL_cell (wsm yL_cell cL_cell 2 (some .int)) (rmk 0 0) (pC D g b L xs k) (qC D g (cellv xs L j)) 0 0 (kA []) := by
  subst hk
  refine Met.ofW (cc := cL_cell) (maxL := 2) (ret := some .int) (by decide) rfl ?_
  intro p e s m args below meth c s₁ B hml hv
  obtain ⟨rfl, hX, hK⟩ := hv
  have hts := atoms_spec (ws := wsm yL_cell cL_cell 2 (some .int)) B.pre
  have hr := B.returns
  have E : en p m c cL_cell 2 s ([Value.ref b, .int (nI j)] : List Value).toArray RL D g := ⟨⟨B.exec, B.bytes, hml, findClass_of_methodNamed B.named, fun w h => hts w (List.mem_cons_of_mem _ h)⟩, hK⟩
  have hl := lv_entry ([Value.ref b, .int (nI j)] : List Value) (n := 2) (Nat.le_of_ble_eq_true rfl)
  rw [lg_entry_eq]
  generalize (lg_sl ([Value.ref b, .int (nI j)] : List Value) ++ List.replicate (2 - (lg_sl ([Value.ref b, .int (nI j)] : List Value)).length) Slot.unset).toArray = ls at hl ⊢
  have hl : lv_has ls 2 [(0, .ref b), (1, .int (nI j))] := hl
  have hx := E.1.1
  have hb := E.1.2.1
  have hbl : b < s.heap.size := by
    obtain ⟨scr, h1, -⟩ := id hX
    exact (Array.getElem?_eq_some_iff.mp h1).1
  have I : wk D [] (kA []) s.heap s.heap [] := ⟨va_P_nil, va_D_nil, va_S.rf⟩
  have fin : ∀ v : Int32, v = cellv xs L j → W p l e (rmk 0 0) s m ([Value.ref b, .int (nI j)] : List Value).toArray below meth c s.heap [] 0 0 _ (F0 m 20 ls [.int v]) := fun v hv => by
    subst hv
    exact W.iret B.exec B.bytes hr (r_end (rv := some (.int _)) (W1 := []) E I) I.2.2.2.2 dL_cell_20
  refine lv_iload_n hx hb dL_cell_0 rfl (lv_at hl 1 rfl) ?_
  refine lv_aload_n hx hb dL_cell_1 rfl (lv_at hl 0 rfl) ?_
  refine va_slen hx hb hX hbl kA_nil I.2.2 dL_cell_2 ?_
  refine lv_icmp_ge (tgt := 12) hx hb dL_cell_3 (by decide) (fun hc => ?_) (fun hc => ?_)
  · have hc : nI L ≤ nI j := hc
    have hn : ¬ j < L := fun q => nI_ge q (by omega) hc
    refine lv_ldc (v := (764981749 : Int32)) hx hb E.1.2.2.2.1 (E.1.2.2.2.2 _ kL_7) dL_cell_12 ?_
    refine lv_iload_n hx hb dL_cell_14 rfl (lv_at hl 1 rfl) ?_
    refine lv_sipush (v := (457 : Int32)) hx hb dL_cell_15 (by decide) ?_
    refine lv_iadd hx hb dL_cell_18 ?_
    refine lv_imul hx hb dL_cell_19 ?_
    exact fin _ (by unfold cellv; rw [if_neg hn])
  · have hc : ¬ nI L ≤ nI j := hc
    have hn : j < L := by
      rcases Nat.lt_or_ge j L with q | q
      · exact q
      · exact absurd (nI_le q (by omega)) hc
    refine lv_aload_n hx hb dL_cell_6 rfl (lv_at hl 0 rfl) ?_
    refine lv_iload_n hx hb dL_cell_7 rfl (lv_at hl 1 rfl) ?_
    refine va_sld hx hb hX hbl kA_nil I.2.2 (vp_in_nI hn (by omega)) dL_cell_8 ?_
    refine lv_goto (tgt := 20) hx hb dL_cell_9 (by decide) ?_
    exact fin _ (by unfold cellv; rw [if_pos hn, nI_clamp (by omega)])
theorem kL_62 : cfS RL 62 yL_cell cL_cell 2 (some .int) 2 := ⟨⟨tb 174 (by decide +kernel) (by decide +kernel), tb 24 (by decide +kernel) (by decide +kernel), tb 176 (by decide +kernel) (by decide +kernel), by decide +kernel⟩, tb 175 (by decide +kernel) (by decide +kernel)⟩
theorem kL_66 : cfS RL 66 yL_act cL_act 12 (some .boolean) 5 := ⟨⟨tb 178 (by decide +kernel) (by decide +kernel), tb 24 (by decide +kernel) (by decide +kernel), tb 180 rfl (by decide +kernel), by decide +kernel⟩, tb 179 (by decide +kernel) (by decide +kernel)⟩
theorem kL_70 : cfS RL 70 yL_agree cL_agree 5 (some .boolean) 3 := ⟨⟨tb 356 (by decide +kernel) (by decide +kernel), tb 24 (by decide +kernel) (by decide +kernel), tb 358 (by decide +kernel) (by decide +kernel), by decide +kernel⟩, tb 357 (by decide +kernel) (by decide +kernel)⟩
/-- what holds all along the law -/
def LC (p : Program) (s : State) (m : MethodId) (c : Code) (sb L : Nat) (xs : Nat → Int32) (D : va_G) (g : Nat → ClassId) (A : Nat → Prop) : Prop :=
  en p m c cL_law 5 s #[Value.ref sb] RL D g ∧ va_X sb L xs s s.heap ∧ sb < s.heap.size ∧ ¬ A sb ∧ L ≤ 260
section LW
variable {p : Program} {l : Launch} {e : Env} {R : Room} {s : State} {m : MethodId} {below : List Frame} {meth : Method} {c : Code} {H : Heap} {locs : List Loc} {cells slots : Nat} {Q : State → Prop}
variable {pc : Nat} {ls : Array Slot} {rest : List Value} {D : va_G} {g : Nat → ClassId} {A : Nat → Prop} {sb L : Nat} {xs : Nat → Int32} {ws : va_W}
theorem pC_blind {b : Nat} {k : Int32} : FrameBlind (pC D g b L xs k) := fun a U f mk q => ⟨q.1, va_X.moved (u := U) (U := U.calling f mk a) (Vm.Alike.refl U.vm) q.2.1, va_K.moved (u := U) (U := U.calling f mk a) (Vm.Alike.refl U.vm) q.2.2⟩
theorem l_cell (C : LC p s m c sb L xs D g A) (I : wk D ws A s.heap H locs) (hls : ls.size = 5) {j : Nat} {k : Int32} {st0 : List Value} (hj : j < 1000) (hk : k = nI j) (hst : st0 = .int k :: .ref sb :: rest) (hroom : (rest.map fun v => v.category).sum ≤ 8) (hR : 1 ≤ R.frames ∧ 21 ≤ R.locals) (hf : cells ≤ R.cells ∧ slots ≤ R.slots) (hdg : decode cL_law pc = .ok (.invokestatic 62, 3))
    (kk : ∀ (H1 : Heap) (locs1 : List Loc), wk D ws A s.heap H1 locs1 → W p l e R s m #[Value.ref sb] below meth c H1 locs1 cells slots Q (F0 m (pc + 3) ls (.int (cellv xs L j) :: rest))) : W p l e R s m #[Value.ref sb] below meth c H locs cells slots Q (F0 m pc ls st0) := by
  obtain ⟨E, hX, hbl, hbA, hL⟩ := C
  have hr := va_runS (As := [.ref sb, .int k]) (rest := rest) (cells := cells) (slots := slots) (mc := 0) (ms := 0) (R := R) (below := below) (meth := meth) (locs := locs) (H := H) (p := p) (l := l) (e := e) (m := m) (c := c) (g := F0 m pc ls st0) E.1 (v_cell (D := D) (g := g) (b := sb) (xs := xs) (l := l) hL hj hk) ⟨r_cb E kL_62.1 hR, E.1.2.2.2.2 _ kL_62.2⟩ ⟨pC_blind, fun U hU hW => ⟨rfl, by rw [hU]; exact (hX.kept (I.2.2.2.1 sb hbl hbA)).moved hW.alike, va_K.moved hW.alike E.2⟩⟩ rfl rfl hls hst (lv_room hroom) hdg hf
  exact r_run (wc := []) hr I.2.2 (fun q h => absurd h kA_nil) (fun H1 L1 _ _ h2 h3 => kk H1 L1 ⟨fun k q hq => (I.1 k q hq).kept (h2 q.1 (I.1 k q hq).lt kA_nil), I.2.1, h3⟩)
end LW
set_option maxHeartbeats 8000000 in
set_option maxRecDepth 100000 in
theorem law_loop {p : Program} {l : Launch} {e : Env} {s : State} {m : MethodId} {below : List Frame} {meth : Method} {c : Code} {D : va_G} {g : Nat → ClassId} {A : Nat → Prop} {sb L : Nat} {xs : Nat → Int32} {a b : Nat → Nat} {Rel : PS → Prop} (C : LC p s m c sb L xs D g A) (hr : meth.sig.returnType = ret) (hlocks : meth.locks = false) (hA : ∀ q, A q → s.heap.size ≤ q) (hA2 : ∀ q, s.heap.size ≤ q → A q) (hact : ∀ st, Rel st → ∀ x y, ∃ st', fL_act st x y = some (st', 1) ∧ Rel st') (hagr : ∀ st, Rel st → ∃ st', fL_agree st = some (st', 1) ∧ Rel st') : ∀ (n i : Nat) (st : PS) (H : Heap) (locs : List Loc) (ls : Array Slot), i ≤ 36 → i + n = 37 → Rel st → wk D (pW g a b st) A s.heap H locs → lv_has ls 5 [(4, .int (nI i)), (3, .ref (b 1)), (2, .ref (b 0)), (1, .ref (a 0)), (0, .ref sb)] → W p l e room_1 s m #[Value.ref sb] below meth c H locs (52 + i) (4267 + 64 * i) (lw_Z below #[Value.ref sb] s) (F0 m 29 ls []) := by
  intro n
  induction n with
  | zero => intro i st H locs ls h1 h2; omega
  | succ n ih =>
    intro i st H locs ls hi hn hR I hl
    obtain ⟨E, hX, hbl, hbA, hL⟩ := id C
    have hx := E.1.1
    have hb := E.1.2.1
    refine lv_iload hx hb dL_law_29 (lv_at hl 0 rfl) ?_
    refine lv_bipush (v := (36 : Int32)) hx hb dL_law_31 (by decide) ?_
    refine lv_icmp_ge (tgt := 80) hx hb dL_law_33 (by decide) (fun hc => ?_) (fun hc => ?_)
    · refine lv_iconst (v := (1 : Int32)) hx hb dL_law_80 (by decide) ?_
      refine va_forget (fun q hq => hA _ (I.2.2.2.2 q hq)) ?_
      refine W.widen (k := 600104) (n := 7301314) (by omega) (by omega) ?_
      exact lw_ret hx hb hr hlocks dL_law_81
    have hi2 : i < 36 := by
      rcases Nat.lt_or_ge i 36 with q | q
      · exact q
      · exact absurd (show nI 36 ≤ nI i from nI_le q (by omega)) hc
    have hcs : 52 + i ≤ room_1.cells ∧ 4267 + 64 * i ≤ room_1.slots := ⟨by show _ ≤ 600104; omega, by show _ ≤ 7301314; omega⟩
    have hcs2 : 52 + i + 1 ≤ room_1.cells ∧ 4267 + 64 * i + 64 ≤ room_1.slots := ⟨by show _ ≤ 600104; omega, by show _ ≤ 7301314; omega⟩
    refine lv_aload_n hx hb dL_law_36 rfl (lv_at hl 3 rfl) ?_
    refine lv_aload_n hx hb dL_law_37 rfl (lv_at hl 4 rfl) ?_
    refine lv_iconst (v := (2 : Int32)) hx hb dL_law_38 (by decide) ?_
    refine lv_iload hx hb dL_law_39 (lv_at hl 0 rfl) ?_
    refine lv_imul hx hb dL_law_41 ?_
    refine l_cell (rest := [.ref (a 0)]) (j := 2 * i) C I hl.1 (by omega) (pk_mul 2 i) rfl (Nat.le_of_ble_eq_true rfl) ⟨Nat.le_of_ble_eq_true rfl, Nat.le_of_ble_eq_true rfl⟩ hcs dL_law_42 (fun H locs I => ?_)
    refine lv_aload_n hx hb dL_law_45 rfl (lv_at hl 4 rfl) ?_
    refine lv_iconst (v := (2 : Int32)) hx hb dL_law_46 (by decide) ?_
    refine lv_iload hx hb dL_law_47 (lv_at hl 0 rfl) ?_
    refine lv_imul hx hb dL_law_49 ?_
    refine lv_iconst (v := (1 : Int32)) hx hb dL_law_50 (by decide) ?_
    refine lv_iadd hx hb dL_law_51 ?_
    refine l_cell (rest := [.int (cellv xs L (2 * i)), .ref (a 0)]) (j := 2 * i + 1) C I hl.1 (by omega) (by rw [show (2 : Int32) * nI i = nI (2 * i) from pk_mul 2 i, nI_1]) rfl (Nat.le_of_ble_eq_true rfl) ⟨Nat.le_of_ble_eq_true rfl, Nat.le_of_ble_eq_true rfl⟩ hcs dL_law_52 (fun H locs I => ?_)
    refine lv_aload_n hx hb dL_law_55 rfl (lv_at hl 2 rfl) ?_
    refine lv_aload_n hx hb dL_law_56 rfl (lv_at hl 1 rfl) ?_
    obtain ⟨st1, f1, hR1⟩ := hact st hR (cellv xs L (2 * i)) (cellv xs L (2 * i + 1))
    refine r_callT0 (As := [.ref (a 0), .int (cellv xs L (2 * i)), .int (cellv xs L (2 * i + 1)), .ref (b 0), .ref (b 1)]) (v := .int 1) (rest := []) (ws' := pW g a b st1) E I hl.1 kL_66 (vL_act f1) rfl rfl rfl (Nat.le_of_ble_eq_true rfl) ⟨Nat.le_of_ble_eq_true rfl, Nat.le_of_ble_eq_true rfl⟩ hcs dL_law_57 (fun H locs I => ?_)
    refine lv_if_eq (tgt := 72) hx hb dL_law_60 (by decide) (fun hc => absurd hc (by decide)) (fun _ => ?_)
    refine lv_aload_n hx hb dL_law_63 rfl (lv_at hl 3 rfl) ?_
    refine lv_aload_n hx hb dL_law_64 rfl (lv_at hl 2 rfl) ?_
    refine lv_aload_n hx hb dL_law_65 rfl (lv_at hl 1 rfl) ?_
    obtain ⟨st2, f2, hR2⟩ := hagr st1 hR1
    refine r_callM (As := [.ref (a 0), .ref (b 0), .ref (b 1)]) (v := .int 1) (rest := []) (ws' := pW g a b st2) E I hA2 hl.1 kL_70 (vL_agree f2) rfl rfl rfl (Nat.le_of_ble_eq_true rfl) ⟨Nat.le_of_ble_eq_true rfl, Nat.le_of_ble_eq_true rfl⟩ hcs2 dL_law_66 (fun H locs I => ?_)
    refine lv_if_ne (tgt := 74) hx hb dL_law_69 (by decide) (fun _ => ?_) (fun hc => absurd hc (by decide))
    refine lv_iinc (v := nI (i + 1)) (lv' := [(4, .int (nI (i + 1))), (3, .ref (b 1)), (2, .ref (b 0)), (1, .ref (a 0)), (0, .ref sb)]) hx hb dL_law_74 hl (k := 0) rfl (nI_1 i) (by decide) rfl (fun ls hl => ?_)
    refine lv_goto (tgt := 29) hx hb dL_law_77 (by decide) ?_
    have h9 := ih (i + 1) st2 H locs ls (by omega) (by omega) hR2 I hl
    rw [show 52 + (i + 1) = 52 + i + 1 by omega, show 4267 + 64 * (i + 1) = 4267 + 64 * i + 64 by omega] at h9
    exact h9
