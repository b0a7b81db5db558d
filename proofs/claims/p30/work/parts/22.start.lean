/-! The law from its entry: the three things are made, then the loop. -/
theorem ra_of {s : State} {args : Array Value} {ty : FieldType} (h : (Cond.arrayClass ty).before args s = true) : ∃ c, s.vm.findClass ("[" ++ ty.toString) = some c ∧ ArrOfT s c ty := by
  obtain ⟨c, k, comp, h1, h2, h3⟩ := Cond.arrayClass_spec h
  exact ⟨c, h1, fun n z => ⟨fun k h => (by cases h), k, h2, comp, h3⟩⟩
theorem rao_of {s : State} {args : Array Value} {ty : FieldType} (h : (Cond.arrayOver (.array ty)).before args s = true) : ∃ c, s.vm.findClass ("[" ++ (FieldType.array ty).toString) = some c ∧ ArrOfT s c (.array ty) := by
  obtain ⟨comp, c, k, h0, h2, h3, h1⟩ := Cond.arrayOver_specA h
  exact ⟨c, h1, fun n z => ⟨fun k h => (by cases h), k, h2, comp, h3⟩⟩
/-- the two arrays' addresses -/
def bOf (q2 q3 : Nat) : Nat → Nat
  | 0 => q2
  | _ => q3
def n_0 : Nat → Int32 := upd (upd (fun _ => 0) (0 : Int32).toNatClampNeg (1 : Int32)) (1 : Int32).toNatClampNeg (9 : Int32)
set_option maxHeartbeats 8000000 in
set_option maxRecDepth 100000 in
theorem start_of {p : Program} {e : Env} {s : State} {m : MethodId} {below : List Frame} {meth : Method} {c : Code} (l : Launch) {sb L : Nat} {xs : Nat → Int32} (hL : L ≤ 260) (C0 : lw_At p s m meth c sb L xs) (Rel : PS → Prop) (h0 : Rel (c_0, (fun _ => 0), n_0, (fun _ => 0))) (hact : ∀ st, Rel st → ∀ x y, ∃ st', fL_act st x y = some (st', 1) ∧ Rel st') (hagr : ∀ st, Rel st → ∃ st', fL_agree st = some (st', 1) ∧ Rel st') : W p l e room_1 s m #[Value.ref sb] below meth c s.heap [] 0 0 (lw_Z below #[Value.ref sb] s) (entryFrame m ([Value.ref sb] : List Value).toArray 5) := by
  obtain ⟨hx, hb, hr, hml, hown, hts, hX, hbl, hlocks, hgv⟩ := id C0
  obtain ⟨c0, iS0, hKn0⟩ := u_known (C := RX0) (T := TX0) (N := 11) (n := 11) hts inX0 (hts _ (List.mem_of_getElem? (i := 81) (by decide +kernel)))
  obtain ⟨c1, iS1, hKn1⟩ := u_known (C := RX1) (T := TX1) (N := 3) (n := 3) hts inX1 (hts _ (List.mem_of_getElem? (i := 50) (by decide +kernel)))
  obtain ⟨c2, iS2, hKn2⟩ := u_known (C := RX2) (T := TX2) (N := 6) (n := 6) hts inX2 (hts _ (List.mem_of_getElem? (i := 125) (by decide +kernel)))
  obtain ⟨c3, iS3, hKn3⟩ := u_known (C := RX3) (T := TX3) (N := 2) (n := 2) hts inX3 (hts _ (List.mem_of_getElem? (i := 69) (by decide +kernel)))
  obtain ⟨c4, iS4, hKn4⟩ := u_known (C := RX4) (T := TX4) (N := 8) (n := 8) hts inX4 (hts _ (List.mem_of_getElem? (i := 40) (by decide +kernel)))
  obtain ⟨g0, f0, a0⟩ := ra_of (ty := .int) (hts _ (List.mem_of_getElem? (i := 66) (by decide +kernel)))
  obtain ⟨g1, f1, a1⟩ := ra_of (ty := .long) (hts _ (List.mem_of_getElem? (i := 123) (by decide +kernel)))
  obtain ⟨g2, f2, a2⟩ := ra_of (ty := .boolean) (hts _ (List.mem_of_getElem? (i := 67) (by decide +kernel)))
  have ao0 : (Cond.arrayOver (.array .int)).before #[Value.ref sb] s = true := hts _ (List.mem_of_getElem? (i := 48) (by decide +kernel))
  have ao1 : (Cond.arrayOver (.array .long)).before #[Value.ref sb] s = true := hts _ (List.mem_of_getElem? (i := 88) (by decide +kernel))
  obtain ⟨g3, f3, a3⟩ := rao_of ao0
  obtain ⟨g4, f4, a4⟩ := rao_of ao1
  obtain ⟨D, hDc⟩ : ∃ D : va_G, ∀ (k : Nat) (q : vw_C), vwCl[k]? = some q → u_Kn s q.1 q.2.1 q.2.2 (D.1 k) (D.2 k) := by
    refine ⟨(fun k => match k with | 0 => c0 | 1 => c1 | 2 => c2 | 3 => c3 | _ => c4, fun k => match k with | 0 => iS0 | 1 => iS1 | 2 => iS2 | 3 => iS3 | _ => iS4), ?_⟩
    intro k q hq
    match k, hq with
    | 0, hq => cases hq; exact hKn0
    | 1, hq => cases hq; exact hKn1
    | 2, hq => cases hq; exact hKn2
    | 3, hq => cases hq; exact hKn3
    | 4, hq => cases hq; exact hKn4
    | k + 5, hq => simp [vwCl] at hq
  obtain ⟨g, hg⟩ : ∃ g : Nat → ClassId, ∀ (k : Nat) (q : ClassId × FieldType), (gT g)[k]? = some q → ArrOfT s q.1 q.2 ∧ va_RA s q.1 q.2 := by
    refine ⟨fun k => match k with | 0 => g0 | 1 => g1 | 2 => g2 | 3 => g3 | _ => g4, ?_⟩
    intro k q hq
    match k, hq with
    | 0, hq => cases hq; exact ⟨a0, f0⟩
    | 1, hq => cases hq; exact ⟨a1, f1⟩
    | 2, hq => cases hq; exact ⟨a2, f2⟩
    | 3, hq => cases hq; exact ⟨a3, f3⟩
    | 4, hq => cases hq; exact ⟨a4, f4⟩
    | k + 5, hq => simp [gT] at hq
  have hK : va_K D vwCl (gT g) s := ⟨hDc, hg⟩
  have E : en p m c cL_law 5 s #[Value.ref sb] RL D g := ⟨⟨hx, hb, hml, hown, fun w hw => hts w (List.mem_filter.mp hw).1⟩, hK⟩
  have ni : NI s := ⟨ao0, ao1, va_Nw.of rfl (hts _ (List.mem_of_getElem? (i := 51) (by decide +kernel))), va_Nw.of rfl (hts _ (List.mem_of_getElem? (i := 70) (by decide +kernel))), va_Nw.of rfl (hts _ (List.mem_of_getElem? (i := 82) (by decide +kernel))), va_Nw.of rfl (hts _ (List.mem_of_getElem? (i := 126) (by decide +kernel)))⟩
  have hA : ∀ q : Nat, s.heap.size ≤ q → (fun q : Nat => s.heap.size ≤ q) q := fun _ h => h
  have hbA : ¬ (fun q : Nat => s.heap.size ≤ q) sb := Nat.not_le.mpr hbl
  have I : wk D [] (fun q : Nat => s.heap.size ≤ q) s.heap s.heap [] := ⟨va_P_nil, va_D_nil, va_S.rf⟩
  have hl := lv_entry ([.ref sb]) (n := 5) (Nat.le_of_ble_eq_true rfl)
  rw [lg_entry_eq]
  generalize (lg_sl ([.ref sb]) ++ List.replicate (5 - (lg_sl ([.ref sb])).length) Slot.unset).toArray = ls at hl ⊢
  have hl : lv_has ls 5 [(0, .ref sb)] := hl
  refine r_new (fs := [.null, .null, .null, .null, .null, .null, .null, .null]) E I hA in4 tyX4 tyX4_ok (tb 39 (by decide +kernel) (by decide +kernel)) (tb 40 (by decide +kernel) (by decide +kernel)) (tb 25 (by decide +kernel) (by decide +kernel)) (ci := 4) rfl (fun j hj => by rcases (show j = 0 ∨ j = 1 ∨ j = 2 ∨ j = 3 ∨ j = 4 ∨ j = 5 ∨ j = 6 ∨ j = 7 by omega) with rfl | rfl | rfl | rfl | rfl | rfl | rfl | rfl <;> rfl) (Nat.le_of_ble_eq_true rfl) (Nat.le_of_ble_eq_true rfl) dL_law_0 (fun q1 H I => ?_)
  have I : wk D [(q1, .inr (4, [.null, .null, .null, .null, .null, .null, .null, .null]))] (fun q : Nat => s.heap.size ≤ q) s.heap H _ := I
  refine W.widen (k := 1) (n := 8) (Nat.le_of_ble_eq_true rfl) (Nat.le_of_ble_eq_true rfl) ?_
  refine lv_dup hx hb dL_law_3 rfl ?_
  refine r_callC (wc := [(q1, .inr (4, [.null, .null, .null, .null, .null, .null, .null, .null]))]) (X := []) (F := fun r => cW g (aOf q1 r) c_0) (rest := [.ref q1]) E [0] [] rfl rfl (by decide) (by decide) I hA ni hl.1 ⟨⟨tb 41 (by decide +kernel) (by decide +kernel), tb 25 (by decide +kernel) (by decide +kernel), tb 43 (by decide +kernel) (by decide +kernel), by decide +kernel⟩, rfl, tb 42 (by decide +kernel) (by decide +kernel)⟩ (i4_init) (by decide) rfl (Nat.le_of_ble_eq_true rfl) ⟨(Nat.le_of_ble_eq_true rfl), (Nat.le_of_ble_eq_true rfl)⟩ ⟨(Nat.le_of_ble_eq_true rfl), (Nat.le_of_ble_eq_true rfl)⟩ dL_law_4 (fun r1 H locs I => ?_)
  have I : wk D (cW g (aOf q1 r1) c_0) (fun q : Nat => s.heap.size ≤ q) s.heap H locs := I
  refine W.widen (k := 50) (n := 4240) (Nat.le_of_ble_eq_true rfl) (Nat.le_of_ble_eq_true rfl) ?_
  refine lv_astore_n (lv' := [(1, .ref q1), (0, .ref sb)]) hx hb dL_law_7 rfl hl (by decide) rfl (fun ls hl => ?_)
  refine lv_bipush (v := (24 : Int32)) hx hb dL_law_8 (by decide) ?_
  refine r_newI E I hA 24 aw_I (by decide) (by decide) (Nat.le_of_ble_eq_true rfl) (Nat.le_of_ble_eq_true rfl) (Nat.le_of_ble_eq_true rfl) dL_law_10 (fun q2 H I => ?_)
  refine W.widen (k := 51) (n := 4264) (Nat.le_of_ble_eq_true rfl) (Nat.le_of_ble_eq_true rfl) ?_
  refine lv_astore_n (lv' := [(2, .ref q2), (1, .ref q1), (0, .ref sb)]) hx hb dL_law_12 rfl hl (by decide) rfl (fun ls hl => ?_)
  refine lv_iconst (v := (3 : Int32)) hx hb dL_law_13 (by decide) ?_
  refine r_newI E I hA 3 aw_I (by decide) (by decide) (Nat.le_of_ble_eq_true rfl) (Nat.le_of_ble_eq_true rfl) (Nat.le_of_ble_eq_true rfl) dL_law_14 (fun q3 H I => ?_)
  refine W.widen (k := 52) (n := 4267) (Nat.le_of_ble_eq_true rfl) (Nat.le_of_ble_eq_true rfl) ?_
  refine lv_astore_n (lv' := [(3, .ref q3), (2, .ref q2), (1, .ref q1), (0, .ref sb)]) hx hb dL_law_16 rfl hl (by decide) rfl (fun ls hl => ?_)
  have I : wk D (pW g (aOf q1 r1) (bOf q2 q3) (c_0, (fun _ => 0), (fun _ => 0), (fun _ => 0))) (fun q : Nat => s.heap.size ≤ q) s.heap H locs := by
    rw [List.append_assoc] at I
    exact I
  refine lv_aload_n hx hb dL_law_17 rfl (lv_at hl 0 rfl) ?_
  refine lv_iconst (v := (0 : Int32)) hx hb dL_law_18 (by decide) ?_
  refine lv_iconst (v := (1 : Int32)) hx hb dL_law_19 (by decide) ?_
  refine p_st51 (b := bOf q2 q3) E I (f := fun _ => 0) rfl (by decide) dL_law_20 (fun H locs I => ?_)
  refine lv_aload_n hx hb dL_law_21 rfl (lv_at hl 0 rfl) ?_
  refine lv_iconst (v := (1 : Int32)) hx hb dL_law_22 (by decide) ?_
  refine lv_bipush (v := (9 : Int32)) hx hb dL_law_23 (by decide) ?_
  refine p_st51 (b := bOf q2 q3) E I (f := upd (fun _ => 0) (0 : Int32).toNatClampNeg (1 : Int32)) rfl (by decide) dL_law_25 (fun H locs I => ?_)
  have I : wk D (pW g (aOf q1 r1) (bOf q2 q3) (c_0, (fun _ => 0), n_0, (fun _ => 0))) (fun q : Nat => s.heap.size ≤ q) s.heap H locs := I
  refine lv_iconst (v := (0 : Int32)) hx hb dL_law_26 (by decide) ?_
  refine lv_istore (lv' := [(4, .int (nI 0)), (3, .ref q3), (2, .ref q2), (1, .ref q1), (0, .ref sb)]) hx hb dL_law_27 hl (by decide) rfl (fun ls hl => ?_)
  have C : LC p s m c sb L xs D g (fun q : Nat => s.heap.size ≤ q) := ⟨E, hX, hbl, hbA, hL⟩
  exact law_loop (a := aOf q1 r1) (b := bOf q2 q3) C hr hlocks (fun q h => h) (fun q h => h) hact hagr 37 0 (c_0, (fun _ => 0), n_0, (fun _ => 0)) H locs ls (by omega) (by omega) h0 I hl
