/-! The law from its entry: the three things are made, then the loop. -/
theorem ra_of {s : State} {args : Array Value} {ty : FieldType} (h : (Cond.arrayClass ty).before args s = true) : ∃ c, s.vm.findClass ("[" ++ ty.toString) = some c ∧ ArrOfT s c ty := by
  obtain ⟨c, k, comp, h1, h2, h3⟩ := Cond.arrayClass_spec h
  exact ⟨c, h1, fun n z => ⟨fun k h => (by cases h), k, h2, comp, h3⟩⟩
theorem rao_of {s : State} {args : Array Value} {ty : FieldType} (h : (Cond.arrayOver (.array ty)).before args s = true) : ∃ c, s.vm.findClass ("[" ++ (FieldType.array ty).toString) = some c ∧ ArrOfT s c (.array ty) := by
  obtain ⟨comp, c, k, h0, h2, h3, h1⟩ := Cond.arrayOver_specA h
  exact ⟨c, h1, fun n z => ⟨fun k h => (by cases h), k, h2, comp, h3⟩⟩
theorem str_of {s : State} {args : Array Value} {k : Nat} {tx : String} (h1 : (Cond.stringRef RX4 k tx).before args s = true) (h2 : (Cond.exactly (.string RX4 k) "java/lang/String").before args s = true) : ∃ sa, vk_R RX4 k tx sa s := by
  obtain ⟨sa, c, cell, kc, h3, -⟩ := Cond.exactly_spec h2
  exact ⟨sa, vk_R.of h1 h3⟩
set_option maxHeartbeats 8000000 in
set_option maxRecDepth 100000 in
theorem start_of {p : Program} {e : Env} {s : State} {m : MethodId} {below : List Frame} {meth : Method} {c : Code} (l : Launch) (hflags : l.flags = flags0) {b L : Nat} {xs : Nat → Int32} (hL : L ≤ 2560) (C0 : lw_At p s m meth c b L xs) (Rel : CS → MS → Prop) (h0 : Rel c_0 m_0) (s0 : St0 Rel) (s1 : St1 Rel) (s2 : St2 Rel) (s3 : St3 Rel) (s4 : St4 Rel) (s5 : St5 Rel) (s6 : St6 Rel) (s7 : St7 Rel) (s8 : St8 Rel) (s9 : St9 Rel) (s10 : St10 Rel) (s11 : St11 Rel) (s12 : St12 Rel) (s13 : St13 Rel) (s14 : St14 Rel) (s15 : St15 Rel) (s16 : St16 Rel) (s17 : St17 Rel) (s18 : St18 Rel) (s19 : St19 Rel) (s20 : St20 Rel) (s21 : St21 Rel) (s22 : St22 Rel) (s23 : St23 Rel) (s24 : St24 Rel) (s25 : St25 Rel) (s26 : St26 Rel) : W p l e room_1 s m #[Value.ref b] below meth c s.heap [] 0 0 (lw_Z below #[Value.ref b] s) (entryFrame m ([Value.ref b] : List Value).toArray 9) := by
  obtain ⟨hx, hb, hr, hml, hown, hts, hX, hbl, hlocks, hgv⟩ := id C0
  have hs := flat_of_before _ hgv
  have hl0 : l.stackTraces = false := by unfold Launch.stackTraces; rw [hflags]; decide +kernel
  obtain ⟨c0, iS0, hKn0⟩ := u_known (C := RX0) (T := TX0) (N := 11) (n := 11) hts inX0 (hts _ (List.mem_of_getElem? (i := 141) (by decide +kernel)))
  obtain ⟨c1, iS1, hKn1⟩ := u_known (C := RX1) (T := TX1) (N := 3) (n := 3) hts inX1 (hts _ (List.mem_of_getElem? (i := 109) (by decide +kernel)))
  obtain ⟨c2, iS2, hKn2⟩ := u_known (C := RX2) (T := TX2) (N := 6) (n := 6) hts inX2 (hts _ (List.mem_of_getElem? (i := 185) (by decide +kernel)))
  obtain ⟨c3, iS3, hKn3⟩ := u_known (C := RX3) (T := TX3) (N := 2) (n := 2) hts inX3 (hts _ (List.mem_of_getElem? (i := 128) (by decide +kernel)))
  obtain ⟨c4, iS4, hKn4⟩ := u_known (C := RX4) (T := TX4) (N := 8) (n := 8) hts inX4 (hts _ (List.mem_of_getElem? (i := 99) (by decide +kernel)))
  obtain ⟨c5, iS5, hKn5⟩ := u_known (C := RX5) (T := TX5) (N := 19) (n := 19) hts inX5 (hts _ (List.mem_of_getElem? (i := 813) (by decide +kernel)))
  obtain ⟨g0, f0, a0⟩ := ra_of (ty := .int) (hts _ (List.mem_of_getElem? (i := 125) (by decide +kernel)))
  obtain ⟨g1, f1, a1⟩ := ra_of (ty := .long) (hts _ (List.mem_of_getElem? (i := 183) (by decide +kernel)))
  obtain ⟨g2, f2, a2⟩ := ra_of (ty := .boolean) (hts _ (List.mem_of_getElem? (i := 126) (by decide +kernel)))
  have ao0 : (Cond.arrayOver (.array .int)).before #[Value.ref b] s = true := hts _ (List.mem_of_getElem? (i := 107) (by decide +kernel))
  have ao1 : (Cond.arrayOver (.array .long)).before #[Value.ref b] s = true := hts _ (List.mem_of_getElem? (i := 148) (by decide +kernel))
  obtain ⟨g3, f3, a3⟩ := rao_of ao0
  obtain ⟨g4, f4, a4⟩ := rao_of ao1
  obtain ⟨D, hDc⟩ : ∃ D : va_G, ∀ (k : Nat) (q : vw_C), vwCl[k]? = some q → u_Kn s q.1 q.2.1 q.2.2 (D.1 k) (D.2 k) := by
    refine ⟨(fun k => match k with | 0 => c0 | 1 => c1 | 2 => c2 | 3 => c3 | 4 => c4 | _ => c5, fun k => match k with | 0 => iS0 | 1 => iS1 | 2 => iS2 | 3 => iS3 | 4 => iS4 | _ => iS5), ?_⟩
    intro k q hq
    match k, hq with
    | 0, hq => cases hq; exact hKn0
    | 1, hq => cases hq; exact hKn1
    | 2, hq => cases hq; exact hKn2
    | 3, hq => cases hq; exact hKn3
    | 4, hq => cases hq; exact hKn4
    | 5, hq => cases hq; exact hKn5
    | k + 6, hq => simp [vwCl] at hq
  obtain ⟨g, hg⟩ : ∃ g : Nat → ClassId, ∀ (k : Nat) (q : ClassId × FieldType), (gT g)[k]? = some q → ArrOfT s q.1 q.2 ∧ va_RA s q.1 q.2 := by
    refine ⟨fun k => match k with | 0 => g0 | 1 => g1 | 2 => g2 | 3 => g3 | _ => g4, ?_⟩
    intro k q hq
    match k, hq with
    | 0, hq => cases hq; exact ⟨a0, f0⟩
    | 1, hq => cases hq; exact ⟨a1, f1⟩
    | 2, hq => cases hq; exact ⟨a2, f2⟩
    | 3, hq => cases hq; exact ⟨a3, f3⟩
    | 4, hq => cases hq; exact ⟨a4, f4⟩
    | k + 5, hq => simp [gT] at hq
  have hK : va_K D vwCl (gT g) s := ⟨hDc, hg⟩
  have E : en p m c cL_law 9 s #[Value.ref b] RL D g := ⟨⟨hx, hb, hml, hown, fun w hw => hts w (List.mem_filter.mp hw).1⟩, hK⟩
  have ni : NI s := ⟨ao0, ao1, va_Nw.of rfl (hts _ (List.mem_of_getElem? (i := 110) (by decide +kernel))), va_Nw.of rfl (hts _ (List.mem_of_getElem? (i := 129) (by decide +kernel))), va_Nw.of rfl (hts _ (List.mem_of_getElem? (i := 142) (by decide +kernel))), va_Nw.of rfl (hts _ (List.mem_of_getElem? (i := 186) (by decide +kernel)))⟩
  have hA : ∀ q : Nat, s.heap.size ≤ q → (fun q : Nat => s.heap.size ≤ q) q := fun _ h => h
  have hbA : ¬ (fun q : Nat => s.heap.size ≤ q) b := Nat.not_le.mpr hbl
  have hnA : ∀ q : Nat, q < s.heap.size → ¬ (fun q : Nat => s.heap.size ≤ q) q := fun _ h => Nat.not_le.mpr h
  have z1 : vx_Zq Bundle.tN "UNASSIGNED_STACK" Bundle.steD (fun q : Nat => s.heap.size ≤ q) s s.heap := vx_Zqof (hts _ (List.mem_of_getElem? (i := 322) (by decide +kernel))) (hts _ (List.mem_of_getElem? (i := 88) (by decide +kernel))) (hs (.isRef (.static "java/lang/Throwable" "UNASSIGNED_STACK" "[Ljava/lang/StackTraceElement;")) (by decide +kernel)) hnA
  have z2 : vx_Zq Bundle.tN "SUPPRESSED_SENTINEL" Bundle.listD (fun q : Nat => s.heap.size ≤ q) s s.heap := vx_Zqof (hts _ (List.mem_of_getElem? (i := 324) (by decide +kernel))) (hts _ (List.mem_of_getElem? (i := 88) (by decide +kernel))) (hs (.isRef (.static "java/lang/Throwable" "SUPPRESSED_SENTINEL" "Ljava/util/List;")) (by decide +kernel)) hnA
  have z3 : ∀ q ∈ xS, ∃ sa : Nat, vk_R RX4 q.1 q.2 sa s := by
    intro q hq
    simp only [xS, List.mem_cons, List.not_mem_nil, or_false] at hq
    rcases hq with rfl | rfl | rfl | rfl | rfl | rfl | rfl | rfl | rfl | rfl
    · exact str_of (hts _ (List.mem_of_getElem? (i := 336) (by decide +kernel))) (hs (.exactly (.string RX4 263) "java/lang/String") (by decide +kernel))
    · exact str_of (hts _ (List.mem_of_getElem? (i := 444) (by decide +kernel))) (hs (.exactly (.string RX4 260) "java/lang/String") (by decide +kernel))
    · exact str_of (hts _ (List.mem_of_getElem? (i := 643) (by decide +kernel))) (hs (.exactly (.string RX4 277) "java/lang/String") (by decide +kernel))
    · exact str_of (hts _ (List.mem_of_getElem? (i := 661) (by decide +kernel))) (hs (.exactly (.string RX4 265) "java/lang/String") (by decide +kernel))
    · exact str_of (hts _ (List.mem_of_getElem? (i := 662) (by decide +kernel))) (hs (.exactly (.string RX4 79) "java/lang/String") (by decide +kernel))
    · exact str_of (hts _ (List.mem_of_getElem? (i := 688) (by decide +kernel))) (hs (.exactly (.string RX4 98) "java/lang/String") (by decide +kernel))
    · exact str_of (hts _ (List.mem_of_getElem? (i := 705) (by decide +kernel))) (hs (.exactly (.string RX4 118) "java/lang/String") (by decide +kernel))
    · exact str_of (hts _ (List.mem_of_getElem? (i := 729) (by decide +kernel))) (hs (.exactly (.string RX4 134) "java/lang/String") (by decide +kernel))
    · exact str_of (hts _ (List.mem_of_getElem? (i := 737) (by decide +kernel))) (hs (.exactly (.string RX4 137) "java/lang/String") (by decide +kernel))
    · exact str_of (hts _ (List.mem_of_getElem? (i := 778) (by decide +kernel))) (hs (.exactly (.string RX4 164) "java/lang/String") (by decide +kernel))
  have z4 : ∀ w ∈ xF, w.before #[] s = true := by
    intro w hw
    simp only [xF, List.mem_cons, List.not_mem_nil, or_false] at hw
    rcases hw with rfl | rfl | rfl | rfl | rfl | rfl
    · exact va_any rfl (hts _ (List.mem_of_getElem? (i := 437) (by decide +kernel)))
    · exact va_any rfl (hts _ (List.mem_of_getElem? (i := 297) (by decide +kernel)))
    · exact va_any rfl (hts _ (List.mem_of_getElem? (i := 636) (by decide +kernel)))
    · exact va_any rfl (hts _ (List.mem_of_getElem? (i := 299) (by decide +kernel)))
    · exact va_any rfl (hts _ (List.mem_of_getElem? (i := 301) (by decide +kernel)))
    · exact va_any rfl (hts _ (List.mem_of_getElem? (i := 303) (by decide +kernel)))
  have nc : NC s := ⟨va_Nc.of (hs (.not (.castable (exN 1) (exN 0))) (by decide +kernel)), va_Nc.of (hs (.not (.castable (exN 2) (exN 0))) (by decide +kernel)), va_Nc.of (hs (.not (.castable (exN 2) (exN 1))) (by decide +kernel))⟩
  have I : wk D [] (fun q : Nat => s.heap.size ≤ q) s.heap s.heap [] := ⟨va_P_nil, va_D_nil, va_S.rf⟩
  have hl := lv_entry ([.ref b]) (n := 9) (Nat.le_of_ble_eq_true rfl)
  rw [lg_entry_eq]
  generalize (lg_sl ([.ref b]) ++ List.replicate (9 - (lg_sl ([.ref b])).length) Slot.unset).toArray = ls at hl ⊢
  have hl : lv_has ls 9 [(0, .ref b)] := hl
  refine r_new (fs := [.null, .null, .null, .null, .null, .null, .null, .null]) E I hA in4 tyX4 tyX4_ok (tb 98 (by decide +kernel) (by decide +kernel)) (tb 99 (by decide +kernel) (by decide +kernel)) (tb 82 (by decide +kernel) (by decide +kernel)) (ci := 4) rfl (fun j hj => by rcases (show j = 0 ∨ j = 1 ∨ j = 2 ∨ j = 3 ∨ j = 4 ∨ j = 5 ∨ j = 6 ∨ j = 7 by omega) with rfl | rfl | rfl | rfl | rfl | rfl | rfl | rfl <;> rfl) (Nat.le_of_ble_eq_true rfl) (Nat.le_of_ble_eq_true rfl) dL_law_0 (fun q1 H I => ?_)
  have I : wk D [(q1, .inr (4, [.null, .null, .null, .null, .null, .null, .null, .null]))] (fun q : Nat => s.heap.size ≤ q) s.heap H _ := I
  refine W.widen (k := 1) (n := 8) (Nat.le_of_ble_eq_true rfl) (Nat.le_of_ble_eq_true rfl) ?_
  refine lv_dup hx hb dL_law_3 rfl ?_
  refine r_callC (wc := [(q1, .inr (4, [.null, .null, .null, .null, .null, .null, .null, .null]))]) (X := []) (F := fun r => cW g (aOf q1 r) c_0) (rest := [.ref q1]) E [0] [] rfl rfl (by decide) (by decide) I hA ni hl.1 ⟨⟨tb 100 (by decide +kernel) (by decide +kernel), tb 82 (by decide +kernel) (by decide +kernel), tb 102 (by decide +kernel) (by decide +kernel), by decide +kernel⟩, rfl, tb 101 (by decide +kernel) (by decide +kernel)⟩ (i4_init) (by decide) rfl (Nat.le_of_ble_eq_true rfl) ⟨(Nat.le_of_ble_eq_true rfl), (Nat.le_of_ble_eq_true rfl)⟩ ⟨(Nat.le_of_ble_eq_true rfl), (Nat.le_of_ble_eq_true rfl)⟩ dL_law_4 (fun r1 H locs I => ?_)
  have I : wk D (cW g (aOf q1 r1) c_0) (fun q : Nat => s.heap.size ≤ q) s.heap H locs := I
  refine W.widen (k := 50) (n := 4240) (Nat.le_of_ble_eq_true rfl) (Nat.le_of_ble_eq_true rfl) ?_
  refine lv_astore_n (lv' := [(1, .ref q1), (0, .ref b)]) hx hb dL_law_7 rfl hl (by decide) rfl (fun ls hl => ?_)
  refine r_new (fs := [.null, .int 0, .null, .null, .null, .int 0, .null, .int 0, .null, .null, .null, .null, .null, .null, .int 0, .null, .null, .int 0, .long 0]) E I hA in5 tyX5 tyX5_ok (tb 812 (by decide +kernel) (by decide +kernel)) (tb 813 (by decide +kernel) (by decide +kernel)) (tb 87 (by decide +kernel) (by decide +kernel)) (ci := 5) rfl (fun j hj => by rcases (show j = 0 ∨ j = 1 ∨ j = 2 ∨ j = 3 ∨ j = 4 ∨ j = 5 ∨ j = 6 ∨ j = 7 ∨ j = 8 ∨ j = 9 ∨ j = 10 ∨ j = 11 ∨ j = 12 ∨ j = 13 ∨ j = 14 ∨ j = 15 ∨ j = 16 ∨ j = 17 ∨ j = 18 by omega) with rfl | rfl | rfl | rfl | rfl | rfl | rfl | rfl | rfl | rfl | rfl | rfl | rfl | rfl | rfl | rfl | rfl | rfl | rfl <;> rfl) (Nat.le_of_ble_eq_true rfl) (Nat.le_of_ble_eq_true rfl) dL_law_8 (fun q2 H I => ?_)
  refine W.widen (k := 51) (n := 4259) (Nat.le_of_ble_eq_true rfl) (Nat.le_of_ble_eq_true rfl) ?_
  refine lv_dup hx hb dL_law_11 rfl ?_
  refine r_callC (wc := [(q2, .inr (5, [.null, .int 0, .null, .null, .null, .int 0, .null, .int 0, .null, .null, .null, .null, .null, .null, .int 0, .null, .null, .int 0, .long 0]))]) (X := cW g (aOf q1 r1) c_0) (F := fun r => mW g (aOf q2 r) m_0) (rest := [.ref q2]) E [50] [0, 1, 2, 3, 4, 5, 6, 7, 8, 9, 10, 11, 12, 13, 14, 15, 16, 17, 18, 19, 20, 21, 22, 23, 24, 25, 26, 27, 28, 29, 30, 31, 32, 33, 34, 35, 36, 37, 38, 39, 40, 41, 42, 43, 44, 45, 46, 47, 48, 49] rfl rfl (by decide) (by decide) I hA ni hl.1 ⟨⟨tb 814 (by decide +kernel) (by decide +kernel), tb 87 (by decide +kernel) (by decide +kernel), tb 816 (by decide +kernel) (by decide +kernel), by decide +kernel⟩, rfl, tb 815 (by decide +kernel) (by decide +kernel)⟩ (i5_init) (by decide) rfl (Nat.le_of_ble_eq_true rfl) ⟨(Nat.le_of_ble_eq_true rfl), (Nat.le_of_ble_eq_true rfl)⟩ ⟨(Nat.le_of_ble_eq_true rfl), (Nat.le_of_ble_eq_true rfl)⟩ dL_law_12 (fun r2 H locs I => ?_)
  refine W.widen (k := 64) (n := 10324) (Nat.le_of_ble_eq_true rfl) (Nat.le_of_ble_eq_true rfl) ?_
  refine lv_astore_n (lv' := [(2, .ref q2), (1, .ref q1), (0, .ref b)]) hx hb dL_law_15 rfl hl (by decide) rfl (fun ls hl => ?_)
  refine lv_iconst (v := (1 : Int32)) hx hb dL_law_16 (by decide) ?_
  refine r_newJ E I hA 1 aw_J (by decide) (by decide) (Nat.le_of_ble_eq_true rfl) (Nat.le_of_ble_eq_true rfl) (Nat.le_of_ble_eq_true rfl) dL_law_17 (fun ob H I => ?_)
  have I : wk D (lW g (aOf q1 r1) (aOf q2 r2) ob c_0 m_0 (fun _ => 0)) (fun q : Nat => s.heap.size ≤ q) s.heap H locs := by
    have h9 := wk_comm (ws := cW g (aOf q1 r1) c_0) (X := mW g (aOf q2 r2) m_0 ++ oW g ob (fun _ => 0)) (by rw [← List.append_assoc]; exact I)
    rw [List.append_assoc] at h9
    have h8 := wk_comm (ws := mW g (aOf q2 r2) m_0) (X := oW g ob (fun _ => 0) ++ cW g (aOf q1 r1) c_0) h9
    rw [List.append_assoc] at h8
    have h7 := wk_comm (ws := oW g ob (fun _ => 0)) (X := cW g (aOf q1 r1) c_0 ++ mW g (aOf q2 r2) m_0) h8
    rw [List.append_assoc] at h7
    have h6 := va_P.swap (a := cW g (aOf q1 r1) c_0) (b := mW g (aOf q2 r2) m_0) (c := oW g ob (fun _ => 0)) (by rw [List.append_assoc]; exact h7.1)
    have h5 := va_D.swap (a := cW g (aOf q1 r1) c_0) (b := mW g (aOf q2 r2) m_0) (c := oW g ob (fun _ => 0)) (by rw [List.append_assoc]; exact h7.2.1)
    exact ⟨h6, h5, h7.2.2⟩
  refine W.widen (k := 66) (n := 10325) (Nat.le_of_ble_eq_true rfl) (Nat.le_of_ble_eq_true rfl) ?_
  refine lv_astore_n (lv' := [(3, .ref ob), (2, .ref q2), (1, .ref q1), (0, .ref b)]) hx hb dL_law_19 rfl hl (by decide) rfl (fun ls hl => ?_)
  refine lv_iconst (v := (0 : Int32)) hx hb dL_law_20 (by decide) ?_
  refine lv_istore (lv' := [(4, .int 0), (3, .ref ob), (2, .ref q2), (1, .ref q1), (0, .ref b)]) hx hb dL_law_21 hl (by decide) rfl (fun ls hl => ?_)
  have C : LC p l s m c b L xs D g (fun q : Nat => s.heap.size ≤ q) := ⟨E, ⟨z1, z2, z3, z4⟩, nc, hX, hbl, hbA, hL, hl0⟩
  exact law_loop C hr hlocks (fun q h => h) s0 s1 s2 s3 s4 s5 s6 s7 s8 s9 s10 s11 s12 s13 s14 s15 s16 s17 s18 s19 s20 s21 s22 s23 s24 s25 s26 (L + 6) 0 c_0 m_0 (fun _ => 0) H locs ls (by omega) (by omega) h0 I hl
