/-! The law's methods: the two arrays beside the class's world, contracts of methods that make cells (cm), calls in a wider world. -/
abbrev NS : Type := (Nat → Int32) × (Nat → Int32)
def n_pr (st : NS) : Nat → Int32 := st.1
def n_n (st : NS) : Nat → Int32 := st.2
def nW (g : Nat → ClassId) (a : Nat → Nat) (st : NS) : va_W := [(a 0, .inl (g 0, 24, .inl (n_pr st))), (a 1, .inl (g 0, 3, .inl (n_n st)))]
abbrev PS : Type := CS × (Nat → Int32) × (Nat → Int32) × (Nat → Int32)
def p_c (st : PS) : CS := st.1
def p_c_s (st : PS) (v : CS) : PS := (v, st.2.1, st.2.2.1, st.2.2.2)
def p_pr (st : PS) : Nat → Int32 := st.2.1
def p_pr_s (st : PS) (v : Nat → Int32) : PS := (st.1, v, st.2.2.1, st.2.2.2)
def p_n (st : PS) : Nat → Int32 := st.2.2.1
def p_n_s (st : PS) (v : Nat → Int32) : PS := (st.1, st.2.1, v, st.2.2.2)
def p_found (st : PS) : Nat → Int32 := st.2.2.2
def p_found_s (st : PS) (v : Nat → Int32) : PS := (st.1, st.2.1, st.2.2.1, v)
abbrev pW (g : Nat → ClassId) (a b : Nat → Nat) (st : PS) : va_W := cW g a (p_c st) ++ nW g b (p_pr st, p_n st)
abbrev qW (g : Nat → ClassId) (a b : Nat → Nat) (qf : Nat) (st : PS) : va_W := cW g a (p_c st) ++ (nW g b (p_pr st, p_n st) ++ [(qf, .inl (g 0, 64, .inl (p_found st)))])
section LB
variable {p : Program} {l : Launch} {e : Env} {R : Room} {s : State} {m : MethodId} {args : Array Value} {below : List Frame} {meth : Method} {c : Code} {H : Heap} {locs : List Loc} {cells slots : Nat} {Q : State → Prop}
variable {cc : ByteArray} {nL pc : Nat} {ls : Array Slot} {rest : List Value} {own : String} {D : va_G} {g : Nat → ClassId} {A : Nat → Prop} {H0 : Heap} {ws ws' X : va_W} {a b : Nat → Nat} {qf : Nat} {st : NS} {ps : PS}
theorem wk_frame {H1 : Heap} {locs1 : List Loc} (I : wk D (ws ++ X) A H0 H locs) (h1 : va_P D vwCl ws' H1) (hk : ws'.map Prod.fst = ws.map Prod.fst) (h2 : ∀ q : Nat, q < H.size → ¬ kA ws q → H1[q]? = H[q]?) (hS : va_S A H0 H1 locs1) : wk D (ws' ++ X) A H0 H1 locs1 := by
  refine ⟨h1.app (fun k q hq => ?_), va_D_keys (by rw [List.map_append, List.map_append, hk]) I.2.1, hS⟩
  have hx : (ws ++ X)[ws.length + k]? = some q := by rw [List.getElem?_append_right (Nat.le_add_right _ _), Nat.add_sub_cancel_left]; exact hq
  have hlt := (I.1 _ q hx).lt
  refine (I.1 _ q hx).kept (h2 q.1 hlt (fun hq2 => ?_))
  obtain ⟨k2, e2, h3⟩ := hq2
  have hk2 : k2 < ws.length := (List.getElem?_eq_some_iff.mp h3).1
  have h4 : (ws ++ X)[k2]? = some (q.1, e2) := by rw [List.getElem?_append_left hk2]; exact h3
  have := I.2.1.1 _ _ _ _ h4 hx rfl
  omega
theorem wk_left (I : wk D (ws ++ X) A H0 H locs) : va_P D vwCl ws H ∧ va_D A ws := by
  have key : ∀ (k : Nat) (q : Nat × va_E), ws[k]? = some q → (ws ++ X)[k]? = some q := fun k q h => by
    rw [List.getElem?_append_left (List.getElem?_eq_some_iff.mp h).1]; exact h
  exact ⟨fun k q h => I.1 k q (key k q h), fun i j x y hi hj => I.2.1.1 i j x y (key i x hi) (key j y hj), fun k q h => I.2.1.2 k q (key k q h)⟩
theorem wk_comm (I : wk D (ws ++ X) A H0 H locs) : wk D (X ++ ws) A H0 H locs := ⟨va_P.swap (a := []) I.1, va_D.swap (a := []) I.2.1, I.2.2⟩
theorem kA_left (I : wk D (ws ++ X) A H0 H locs) : ∀ q, kA ws q → A q := fun q h => by obtain ⟨k, e, h⟩ := h; exact (wk_left I).2.2 k _ h
/-- an instance method's call in a wider world -/
theorem r_callF1 {idx n nY f k q0 ci N b : Nat} {y : MethodName} {cY : ByteArray} {ret : Option FieldType} {As st0 : List Value} {v : Value} {T : u_T} {fs : List Value} (E : en p m c cc nL s args own D g) (I : wk D (ws ++ X) A H0 H locs) (hls : ls.size = nL) (w : cfV own idx y cY nY ret n) (hM : ct l y cY nY ret (rmk f k) D g ws ws' (.ref b :: As) (some v)) (hk : ws'.map Prod.fst = ws.map Prod.fst) (he : ws[q0]? = some (b, .inr (ci, fs))) (hc : vwCl[ci]? = some (y.cls, T, N)) (hn : As.length = n) (hst : st0 = As.reverse ++ .ref b :: rest) (hroom : (rest.map fun v => v.category).sum ≤ 8) (hR : f + 1 ≤ R.frames ∧ 8 + (nY + 11) + k ≤ R.locals) (hf : cells ≤ R.cells ∧ slots ≤ R.slots) (hdg : decode cc pc = .ok (.invokevirtual idx, 3))
    (kk : ∀ (H1 : Heap) (locs1 : List Loc), wk D (ws' ++ X) A H0 H1 locs1 → W p l e R s m args below meth c H1 locs1 cells slots Q (F0 m (pc + 3) ls (v :: rest))) : W p l e R s m args below meth c H locs cells slots Q (F0 m pc ls st0) :=
  r_run (va_runV (As := As) (rest := rest) (cells := cells) (slots := slots) (mc := 0) (ms := 0) E.1 hM ⟨r_cb E w.1 hR, E.1.2.2.2.2 _ w.2.1, E.1.2.2.2.2 _ w.2.2⟩ ⟨r_blind, va_recv E.2 (wk_left I).1 hc he, r_pre E (wk_left I).1 (wk_left I).2⟩ rfl hn hls hst (lv_room hroom) hdg hf) I.2.2 (kA_left I) (fun H1 L1 h1 _ h2 h3 => kk H1 L1 (wk_frame I h1 hk h2 h3))
/-- a static method's call: its world is the whole one -/
theorem r_callT0 {idx n nY f k : Nat} {y : MethodName} {cY : ByteArray} {ret : Option FieldType} {As st0 : List Value} {v : Value} (E : en p m c cc nL s args own D g) (I : wk D ws A H0 H locs) (hls : ls.size = nL) (w : cfS own idx y cY nY ret n) (hM : ct l y cY nY ret (rmk f k) D g ws ws' As (some v)) (hk : ws'.map Prod.fst = ws.map Prod.fst) (hn : As.length = n) (hst : st0 = As.reverse ++ rest) (hroom : (rest.map fun v => v.category).sum ≤ 8) (hR : f + 1 ≤ R.frames ∧ 8 + (nY + 11) + k ≤ R.locals) (hf : cells ≤ R.cells ∧ slots ≤ R.slots) (hdg : decode cc pc = .ok (.invokestatic idx, 3))
    (kk : ∀ (H1 : Heap) (locs1 : List Loc), wk D ws' A H0 H1 locs1 → W p l e R s m args below meth c H1 locs1 cells slots Q (F0 m (pc + 3) ls (v :: rest))) : W p l e R s m args below meth c H locs cells slots Q (F0 m pc ls st0) :=
  r_run (va_runS (As := As) (rest := rest) (cells := cells) (slots := slots) (mc := 0) (ms := 0) E.1 hM ⟨r_cb E w.1 hR, E.1.2.2.2.2 _ w.2⟩ ⟨r_blind, r_pre E I.1 I.2.1⟩ rfl hn hls hst (lv_room hroom) hdg hf) I.2.2 (fun q h => by obtain ⟨k, e, h⟩ := h; exact I.2.1.2 k _ h) (fun H1 L1 h1 _ _ h3 => kk H1 L1 (wk_run (wc := ws) I h1 hk h3))
/-- .. its world is the right part -/
theorem r_callTR {idx n nY f k : Nat} {y : MethodName} {cY : ByteArray} {ret : Option FieldType} {As st0 : List Value} {v : Value} (E : en p m c cc nL s args own D g) (I : wk D (X ++ ws) A H0 H locs) (hls : ls.size = nL) (w : cfS own idx y cY nY ret n) (hM : ct l y cY nY ret (rmk f k) D g ws ws' As (some v)) (hk : ws'.map Prod.fst = ws.map Prod.fst) (hn : As.length = n) (hst : st0 = As.reverse ++ rest) (hroom : (rest.map fun v => v.category).sum ≤ 8) (hR : f + 1 ≤ R.frames ∧ 8 + (nY + 11) + k ≤ R.locals) (hf : cells ≤ R.cells ∧ slots ≤ R.slots) (hdg : decode cc pc = .ok (.invokestatic idx, 3))
    (kk : ∀ (H1 : Heap) (locs1 : List Loc), wk D (X ++ ws') A H0 H1 locs1 → W p l e R s m args below meth c H1 locs1 cells slots Q (F0 m (pc + 3) ls (v :: rest))) : W p l e R s m args below meth c H locs cells slots Q (F0 m pc ls st0) :=
  have J := wk_comm I
  r_run (va_runS (As := As) (rest := rest) (cells := cells) (slots := slots) (mc := 0) (ms := 0) E.1 hM ⟨r_cb E w.1 hR, E.1.2.2.2.2 _ w.2⟩ ⟨r_blind, r_pre E (wk_left J).1 (wk_left J).2⟩ rfl hn hls hst (lv_room hroom) hdg hf) I.2.2 (kA_left J) (fun H1 L1 h1 _ h2 h3 => kk H1 L1 (wk_comm (wk_frame J h1 hk h2 h3)))
/-- a contract of a method that makes mc cells of ms slots -/
def pM (D : va_G) (g : Nat → ClassId) (ws : va_W) (av : List Value) (sz : Nat) : Array Value → State → Prop := va_Pc av (fun U => U.heap.size = sz ∧ va_P D vwCl ws U.heap ∧ va_K D vwCl (gT g) U ∧ va_D (fun _ => True) ws)
def cm (l : Launch) (y : MethodName) (cc : ByteArray) (nL : Nat) (ret : Option FieldType) (rm : Room) (D : va_G) (g : Nat → ClassId) (ws ws' : va_W) (av : List Value) (rv : Option Value) (mc ms : Nat) : Prop :=
  ∀ sz : Nat, Met l y (wsm y cc nL ret) rm (pM D g ws av sz) (qR rv (fun t => va_P D vwCl ws' t.heap ∧ va_K D vwCl (gT g) t) (va_A ws sz)) mc ms (va_A ws sz)
theorem pM_blind {av : List Value} {sz : Nat} : FrameBlind (pM D g ws av sz) := fun a U f mk q => ⟨q.1, q.2.1, q.2.2.1, va_K.moved (u := U) (U := U.calling f mk a) (Vm.Alike.refl U.vm) q.2.2.2.1, q.2.2.2.2⟩
theorem r_callM {idx n nY f k mc ms : Nat} {y : MethodName} {cY : ByteArray} {ret : Option FieldType} {As st0 : List Value} {v : Value} (E : en p m c cc nL s args own D g) (I : wk D ws A H0 H locs) (hA : ∀ q, H0.size ≤ q → A q) (hls : ls.size = nL) (w : cfS own idx y cY nY ret n) (hM : cm l y cY nY ret (rmi f k mc ms) D g ws ws' As (some v) mc ms) (hk : ws'.map Prod.fst = ws.map Prod.fst) (hn : As.length = n) (hst : st0 = As.reverse ++ rest) (hroom : (rest.map fun v => v.category).sum ≤ 8) (hR : f + 1 ≤ R.frames ∧ 8 + (nY + 11) + k ≤ R.locals) (hf : cells + mc ≤ R.cells ∧ slots + ms ≤ R.slots) (hdg : decode cc pc = .ok (.invokestatic idx, 3))
    (kk : ∀ (H1 : Heap) (locs1 : List Loc), wk D ws' A H0 H1 locs1 → W p l e R s m args below meth c H1 locs1 (cells + mc) (slots + ms) Q (F0 m (pc + 3) ls (v :: rest))) : W p l e R s m args below meth c H locs cells slots Q (F0 m pc ls st0) := by
  have hr := va_runS (As := As) (rest := rest) (cells := cells) (slots := slots) (mc := mc) (ms := ms) (R := R) (below := below) (meth := meth) (locs := locs) (H := H) (p := p) (l := l) (e := e) (m := m) (c := c) (g := F0 m pc ls st0) E.1 (hM H.size) ⟨callB_of n E.1.2.2.2.2 (wsm_good w.1.2.2.1) rfl rfl rfl (E.1.2.2.2.2 _ w.1.2.1) (E.1.2.2.2.2 _ w.1.1) w.1.2.2.2 hR, E.1.2.2.2.2 _ w.2⟩ ⟨pM_blind, fun U hU hW => ⟨rfl, by rw [hU], by rw [hU]; exact I.1, va_K.moved hW.alike E.2, I.2.1.weaken (fun _ _ _ _ => trivial)⟩⟩ rfl hn hls hst (lv_room hroom) hdg hf
  intro T hT X9
  have hF : ∀ q, va_A ws H.size q → A q := fun q h => by
    rcases h with h | h
    · obtain ⟨k9, e9, h9⟩ := h
      exact I.2.1.2 k9 _ h9
    · exact hA q (Nat.le_trans I.2.2.1 h)
  obtain ⟨v9, st₀, t, T', L, h0, X', hL, e1, e2, ⟨⟨hv, hb, -⟩, hz, hk2⟩, st⟩ := hr T hT X9
  cases hv
  rw [h0] at hz hk2
  obtain ⟨t2, a1, b1⟩ := kk T'.heap (locs ++ L) ⟨by rw [e1]; exact hb, va_D_keys hk I.2.1, ⟨Nat.le_trans I.2.2.1 (by rw [e1]; exact hz), fun q h1 h2 => by rw [e1, hk2 q (Nat.lt_of_lt_of_le h1 I.2.2.1) (fun z => h2 (hF q z))]; exact I.2.2.2.1 q h1 h2, fun q hq => by
      rcases List.mem_append.mp hq with h | h
      · exact I.2.2.2.2 q h
      · exact hF _ (hL q h)⟩⟩ T' rfl X'
  exact ⟨t2, st t2 a1, b1⟩
-- the rows of the arrays
theorem n_ld0 (E : en p m c cc nL s args own D g) (I : wk D (nW g a st) A H0 H locs) {f : Nat → Int32} (hf : n_pr st = f) {i : Int32} (hin : ib i 24 = true) (hdg : decode cc pc = .ok (.iaload, 1)) (kk : W p l e R s m args below meth c H locs cells slots Q (F0 m (pc + 1) ls (.int (f i.toNatClampNeg) :: rest))) : W p l e R s m args below meth c H locs cells slots Q (F0 m pc ls (.int i :: .ref (a 0) :: rest)) := by
  subst hf
  exact r_iald E I 0 rfl hin hdg kk
theorem n_ld1 (E : en p m c cc nL s args own D g) (I : wk D (nW g a st) A H0 H locs) {f : Nat → Int32} (hf : n_n st = f) {i : Int32} (hin : ib i 3 = true) (hdg : decode cc pc = .ok (.iaload, 1)) (kk : W p l e R s m args below meth c H locs cells slots Q (F0 m (pc + 1) ls (.int (f i.toNatClampNeg) :: rest))) : W p l e R s m args below meth c H locs cells slots Q (F0 m pc ls (.int i :: .ref (a 1) :: rest)) := by
  subst hf
  exact r_iald E I 1 rfl hin hdg kk
theorem p_ld50 (E : en p m c cc nL s args own D g) (I : wk D (pW g a b ps) A H0 H locs) {f : Nat → Int32} (hf : p_pr ps = f) {i : Int32} (hin : ib i 24 = true) (hdg : decode cc pc = .ok (.iaload, 1)) (kk : W p l e R s m args below meth c H locs cells slots Q (F0 m (pc + 1) ls (.int (f i.toNatClampNeg) :: rest))) : W p l e R s m args below meth c H locs cells slots Q (F0 m pc ls (.int i :: .ref (b 0) :: rest)) := by
  subst hf
  exact r_iald E I 50 rfl hin hdg kk
theorem p_ld51 (E : en p m c cc nL s args own D g) (I : wk D (pW g a b ps) A H0 H locs) {f : Nat → Int32} (hf : p_n ps = f) {i : Int32} (hin : ib i 3 = true) (hdg : decode cc pc = .ok (.iaload, 1)) (kk : W p l e R s m args below meth c H locs cells slots Q (F0 m (pc + 1) ls (.int (f i.toNatClampNeg) :: rest))) : W p l e R s m args below meth c H locs cells slots Q (F0 m pc ls (.int i :: .ref (b 1) :: rest)) := by
  subst hf
  exact r_iald E I 51 rfl hin hdg kk
theorem p_st50 (E : en p m c cc nL s args own D g) (I : wk D (pW g a b ps) A H0 H locs) {f : Nat → Int32} (hf : p_pr ps = f) {i x : Int32} (hin : ib i 24 = true) (hdg : decode cc pc = .ok (.iastore, 1)) (kk : ∀ (H1 : Heap) (locs1 : List Loc), wk D (pW g a b (p_pr_s ps (upd f i.toNatClampNeg x))) A H0 H1 locs1 → W p l e R s m args below meth c H1 locs1 cells slots Q (F0 m (pc + 1) ls rest)) : W p l e R s m args below meth c H locs cells slots Q (F0 m pc ls (.int x :: .int i :: .ref (b 0) :: rest)) := by
  subst hf
  exact r_iast E I 50 rfl rfl hin hdg kk
theorem p_st51 (E : en p m c cc nL s args own D g) (I : wk D (pW g a b ps) A H0 H locs) {f : Nat → Int32} (hf : p_n ps = f) {i x : Int32} (hin : ib i 3 = true) (hdg : decode cc pc = .ok (.iastore, 1)) (kk : ∀ (H1 : Heap) (locs1 : List Loc), wk D (pW g a b (p_n_s ps (upd f i.toNatClampNeg x))) A H0 H1 locs1 → W p l e R s m args below meth c H1 locs1 cells slots Q (F0 m (pc + 1) ls rest)) : W p l e R s m args below meth c H locs cells slots Q (F0 m pc ls (.int x :: .int i :: .ref (b 1) :: rest)) := by
  subst hf
  exact r_iast E I 51 rfl rfl hin hdg kk
theorem q_ld50 (E : en p m c cc nL s args own D g) (I : wk D (qW g a b qf ps) A H0 H locs) {f : Nat → Int32} (hf : p_pr ps = f) {i : Int32} (hin : ib i 24 = true) (hdg : decode cc pc = .ok (.iaload, 1)) (kk : W p l e R s m args below meth c H locs cells slots Q (F0 m (pc + 1) ls (.int (f i.toNatClampNeg) :: rest))) : W p l e R s m args below meth c H locs cells slots Q (F0 m pc ls (.int i :: .ref (b 0) :: rest)) := by
  subst hf
  exact r_iald E I 50 rfl hin hdg kk
theorem q_ld52 (E : en p m c cc nL s args own D g) (I : wk D (qW g a b qf ps) A H0 H locs) {f : Nat → Int32} (hf : p_found ps = f) {i : Int32} (hin : ib i 64 = true) (hdg : decode cc pc = .ok (.iaload, 1)) (kk : W p l e R s m args below meth c H locs cells slots Q (F0 m (pc + 1) ls (.int (f i.toNatClampNeg) :: rest))) : W p l e R s m args below meth c H locs cells slots Q (F0 m pc ls (.int i :: .ref qf :: rest)) := by
  subst hf
  exact r_iald E I 52 rfl hin hdg kk
theorem q_st52 (E : en p m c cc nL s args own D g) (I : wk D (qW g a b qf ps) A H0 H locs) {f : Nat → Int32} (hf : p_found ps = f) {i x : Int32} (hin : ib i 64 = true) (hdg : decode cc pc = .ok (.iastore, 1)) (kk : ∀ (H1 : Heap) (locs1 : List Loc), wk D (qW g a b qf (p_found_s ps (upd f i.toNatClampNeg x))) A H0 H1 locs1 → W p l e R s m args below meth c H1 locs1 cells slots Q (F0 m (pc + 1) ls rest)) : W p l e R s m args below meth c H locs cells slots Q (F0 m pc ls (.int x :: .int i :: .ref qf :: rest)) := by
  subst hf
  exact r_iast E I 52 rfl rfl hin hdg kk
theorem qW_of (I : wk D (pW g a b ps ++ [(qf, .inl (g 0, 64, .inl (fun _ => 0)))]) A H0 H locs) : wk D (qW g a b qf (p_found_s ps (fun _ => 0))) A H0 H locs := by
  rw [List.append_assoc] at I
  exact I
theorem qW_p (I : wk D (qW g a b qf ps) A H0 H locs) : wk D (pW g a b ps) A H0 H locs := by
  have J : wk D (pW g a b ps ++ [(qf, .inl (g 0, 64, .inl (p_found ps)))]) A H0 H locs := by
    rw [List.append_assoc]
    exact I
  exact ⟨(wk_left J).1, (wk_left J).2, I.2.2⟩
end LB
theorem cm_of {l : Launch} {y : MethodName} {cc : ByteArray} {nL : Nat} {f k mc ms : Nat} {D : va_G} {g : Nat → ClassId} {ws ws' : va_W} {av : List Value} {v : Int32} (hy : plainName y.cls = true) (hlen : (lg_sl av).length ≤ nL)
    (body : ∀ (p : Program) (e : Env) (s : State) (m : MethodId) (args : Array Value) (below : List Frame) (meth : Method) (c : Code) (ls : Array Slot) (Q : State → Prop) (A : Nat → Prop) (H0 : Heap), en p m c cc nL s args y.cls D g → wk D ws A H0 H0 [] → (∀ q, H0.size ≤ q → A q) → lv_has ls nL (lv_args 0 av) →
      (∀ (pc : Nat) (ls : Array Slot) (H : Heap) (locs : List Loc), wk D ws' A H0 H locs → decode cc pc = .ok (.ireturn, 1) ∧ zok v = true → W p l e (rmi f k mc ms) s m args below meth c H locs mc ms Q (F0 m pc ls [.int v])) →
      W p l e (rmi f k mc ms) s m args below meth c H0 [] 0 0 Q (F0 m 0 ls [])) : cm l y cc nL (some .boolean) (rmi f k mc ms) D g ws ws' av (some (.int v)) mc ms := by
  intro sz
  refine Met.ofW (cc := cc) (maxL := nL) (ret := some .boolean) hy rfl ?_
  intro p e s m args below meth c s₁ B hml hv
  obtain ⟨rfl, hsz, hP, hK, hD0⟩ := hv
  have hts := atoms_spec (ws := wsm y cc nL (some .boolean)) B.pre
  have hr := B.returns
  have hlocks := B.notSynchronized
  have E : en p m c cc nL s av.toArray y.cls D g := ⟨⟨B.exec, B.bytes, hml, findClass_of_methodNamed B.named, fun w h => hts w (List.mem_cons_of_mem _ h)⟩, hK⟩
  have hl := lv_entry av (n := nL) hlen
  rw [lg_entry_eq]
  generalize (lg_sl av ++ List.replicate (nL - (lg_sl av).length) Slot.unset).toArray = ls at hl ⊢
  subst hsz
  have hD := hD0.self (sz := s.heap.size)
  refine body p e s m av.toArray below meth c ls _ (va_A ws s.heap.size) s.heap E ⟨hP, hD, va_S.rf⟩ (fun q h => Or.inr h) hl ?_
  intro pc ls H locs I hd
  exact W.zret B.exec B.bytes hr (zok_n hd.2) (r_end (rv := some (.int v)) (W1 := ws) E I) I.2.2.2.2 hd.1
