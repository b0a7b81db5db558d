/-! The law's helpers: a call of the class in a wider world, what is thrown is caught here. -/
def hcd : List Nat → Int32 → Nat → Option Int32
  | [], _, _ => none
  | a :: L, n, k => if k = a then some n else hcd L (n + 1) k
def hco {α : Type} (L : List Nat) (r : Nat ⊕ α) : Option Int32 := match r with
  | .inr _ => some 0
  | .inl k => hcd L 1 k
def houtI (w : Nat → Int64) (r : Nat ⊕ Int32) : Nat → Int64 := match r with
  | .inl _ => w
  | .inr x => vp_updL w (0 : Int32).toNatClampNeg x.toInt64
def houtJ (w : Nat → Int64) (r : Nat ⊕ Int64) : Nat → Int64 := match r with
  | .inl _ => w
  | .inr x => vp_updL w (0 : Int32).toNatClampNeg x
abbrev oW (g : Nat → ClassId) (o : Nat) (w : Nat → Int64) : va_W := [(o, .inl (g 1, 1, .inr (.inl w)))]
def NC (U : State) : Prop := va_Nc (exN 1) (exN 0) U ∧ va_Nc (exN 2) (exN 0) U ∧ va_Nc (exN 2) (exN 1) U
theorem NC.moved {s U : State} (h : s.vm.Alike U.vm) (n : NC s) : NC U := ⟨n.1.moved h, n.2.1.moved h, n.2.2.moved h⟩
def pH (D : va_G) (g : Nat → ClassId) (ws : va_W) (av : List Value) : Array Value → State → Prop := va_Pc av (fun U => (va_P D vwCl ws U.heap ∧ va_K D vwCl (gT g) U ∧ va_D (fun _ => True) ws ∧ XW (kA ws) U) ∧ NC U)
abbrev wsh (y : MethodName) (cc : ByteArray) (nL : Nat) (hh : List (Nat × Nat × Nat × Nat)) : List Cond := .codeWith y cc nL (some .int) hh :: TB
def lct (l : Launch) (y : MethodName) (cc : ByteArray) (nL : Nat) (hh : List (Nat × Nat × Nat × Nat)) (rm : Room) (D : va_G) (g : Nat → ClassId) (ws ws' : va_W) (av : List Value) (v : Int32) : Prop :=
  Met l y (wsh y cc nL hh) rm (pH D g ws av) (qR (some (.int v)) (fun t => va_P D vwCl ws' t.heap ∧ va_K D vwCl (gT g) t) (kA ws)) 1 6 (kA ws)
section HS
variable {p : Program} {l : Launch} {e : Env} {R : Room} {s : State} {m : MethodId} {args : Array Value} {below : List Frame} {meth : Method} {c : Code} {H : Heap} {locs : List Loc} {cells slots : Nat} {Q : State → Prop}
variable {cc : ByteArray} {nL pc : Nat} {ls : Array Slot} {rest : List Value} {own : String} {D : va_G} {g : Nat → ClassId} {A : Nat → Prop} {H0 : Heap} {ws ws' X : va_W} {a : Nat}
theorem wk_frame {H1 : Heap} {locs1 : List Loc} (I : wk D (ws ++ X) A H0 H locs) (h1 : va_P D vwCl ws' H1) (hk : ws'.map Prod.fst = ws.map Prod.fst) (h2 : ∀ q : Nat, q < H.size → ¬ kA ws q → H1[q]? = H[q]?) (hS : va_S A H0 H1 locs1) : wk D (ws' ++ X) A H0 H1 locs1 := by
  refine ⟨h1.app (fun k q hq => ?_), va_D_keys (by rw [List.map_append, List.map_append, hk]) I.2.1, hS⟩
  have hx : (ws ++ X)[ws.length + k]? = some q := by rw [List.getElem?_append_right (Nat.le_add_right _ _), Nat.add_sub_cancel_left]; exact hq
  have hlt := (I.1 _ q hx).lt
  refine (I.1 _ q hx).kept (h2 q.1 hlt (fun hq2 => ?_))
  obtain ⟨k2, e2, h3⟩ := hq2
  have hk2 : k2 < ws.length := (List.getElem?_eq_some_iff.mp h3).1
  have h4 : (ws ++ X)[k2]? = some (q.1, e2) := by rw [List.getElem?_append_left hk2]; exact h3
  have := I.2.1.1 _ _ _ _ h4 hx rfl
  omega
theorem wk_left (I : wk D (ws ++ X) A H0 H locs) : va_P D vwCl ws H ∧ va_D A ws := by
  have key : ∀ (k : Nat) (q : Nat × va_E), ws[k]? = some q → (ws ++ X)[k]? = some q := fun k q h => by
    rw [List.getElem?_append_left (List.getElem?_eq_some_iff.mp h).1]; exact h
  exact ⟨fun k q h => I.1 k q (key k q h), fun i j x y hi hj => I.2.1.1 i j x y (key i x hi) (key j y hj), fun k q h => I.2.1.2 k q (key k q h)⟩
theorem wk_comm (I : wk D (ws ++ X) A H0 H locs) : wk D (X ++ ws) A H0 H locs := ⟨va_P.swap (a := []) I.1, va_D.swap (a := []) I.2.1, I.2.2⟩
theorem kA_left (I : wk D (ws ++ X) A H0 H locs) : ∀ q, kA ws q → A q := fun q h => by obtain ⟨k, e, h⟩ := h; exact (wk_left I).2.2 k _ h
/-- an instance method's call in a wider world -/
theorem r_callF {idx n nY f k q0 ci N b : Nat} {y : MethodName} {cY : ByteArray} {ret : Option FieldType} {As st0 : List Value} {rv : Option Value} {T : u_T} {fs : List Value} (E : en p m c cc nL s args own D g) (I : wk D (ws ++ X) A H0 H locs) (hls : ls.size = nL) (w : cfV own idx y cY nY ret n) (hM : ct l y cY nY ret (rmk f k) D g ws ws' (.ref b :: As) rv) (hk : ws'.map Prod.fst = ws.map Prod.fst) (he : ws[q0]? = some (b, .inr (ci, fs))) (hc : vwCl[ci]? = some (y.cls, T, N)) (hn : As.length = n) (hst : st0 = As.reverse ++ .ref b :: rest) (hroom : (rest.map fun v => v.category).sum ≤ 8) (hR : f + 1 ≤ R.frames ∧ 8 + (nY + 11) + k ≤ R.locals) (hf : cells ≤ R.cells ∧ slots ≤ R.slots) (hdg : decode cc pc = .ok (.invokevirtual idx, 3))
    (kk : ∀ (H1 : Heap) (locs1 : List Loc), wk D (ws' ++ X) A H0 H1 locs1 → W p l e R s m args below meth c H1 locs1 cells slots Q (F0 m (pc + 3) ls (rv.toList ++ rest))) : W p l e R s m args below meth c H locs cells slots Q (F0 m pc ls st0) :=
  r_run (va_runV (As := As) (rest := rest) (cells := cells) (slots := slots) (mc := 0) (ms := 0) E.1 hM ⟨r_cb E w.1 hR, E.1.2.2.2.2 _ w.2.1, E.1.2.2.2.2 _ w.2.2⟩ ⟨r_blind, va_recv E.2 (wk_left I).1 hc he, r_pre E (wk_left I).1 (wk_left I).2⟩ rfl hn hls hst (lv_room hroom) hdg hf) I.2.2 (kA_left I) (fun H1 L1 h1 _ h2 h3 => kk H1 L1 (wk_frame I h1 hk h2 h3))
theorem r_callF1 {idx n nY f k q0 ci N b : Nat} {y : MethodName} {cY : ByteArray} {ret : Option FieldType} {As st0 : List Value} {v : Value} {T : u_T} {fs : List Value} (E : en p m c cc nL s args own D g) (I : wk D (ws ++ X) A H0 H locs) (hls : ls.size = nL) (w : cfV own idx y cY nY ret n) (hM : ct l y cY nY ret (rmk f k) D g ws ws' (.ref b :: As) (some v)) (hk : ws'.map Prod.fst = ws.map Prod.fst) (he : ws[q0]? = some (b, .inr (ci, fs))) (hc : vwCl[ci]? = some (y.cls, T, N)) (hn : As.length = n) (hst : st0 = As.reverse ++ .ref b :: rest) (hroom : (rest.map fun v => v.category).sum ≤ 8) (hR : f + 1 ≤ R.frames ∧ 8 + (nY + 11) + k ≤ R.locals) (hf : cells ≤ R.cells ∧ slots ≤ R.slots) (hdg : decode cc pc = .ok (.invokevirtual idx, 3))
    (kk : ∀ (H1 : Heap) (locs1 : List Loc), wk D (ws' ++ X) A H0 H1 locs1 → W p l e R s m args below meth c H1 locs1 cells slots Q (F0 m (pc + 3) ls (v :: rest))) : W p l e R s m args below meth c H locs cells slots Q (F0 m pc ls st0) := r_callF E I hls w hM hk he hc hn hst hroom hR hf hdg kk
/-- .. that throws, caught in this method -/
theorem r_catch {idx n nY f k q0 ci N b : Nat} {y : MethodName} {cY : ByteArray} {ret : Option FieldType} {As st0 : List Value} {T : u_T} {fs : List Value} {En : String} (xw : XW A s) (hAH : H0 = s.heap) (E : en p m c cc nL s args own D g) (I : wk D (ws ++ X) A H0 H locs) (hls : ls.size = nL) (w : cfV own idx y cY nY ret n) (hM : cx l y cY nY ret (rmx f k) D g ws ws' (.ref b :: As) En) (hk : ws'.map Prod.fst = ws.map Prod.fst) (he : ws[q0]? = some (b, .inr (ci, fs))) (hc : vwCl[ci]? = some (y.cls, T, N)) (hn : As.length = n) (hst : st0 = As.reverse ++ .ref b :: rest) (hroom : (rest.map fun v => v.category).sum ≤ 8) (hR : f + 1 ≤ R.frames ∧ 8 + (nY + 11) + k ≤ R.locals) (hf : cells + 1 ≤ R.cells ∧ slots + 6 ≤ R.slots) (hdg : decode cc pc = .ok (.invokevirtual idx, 3))
    {name : String} (pre : List ExceptionTableEntry) (x : ExceptionTableEntry) (suf : List ExceptionTableEntry) (hsplit : c.exceptionTable.toList = pre ++ x :: suf)
    (hpass : ∀ z ∈ pre, covers z pc = false ∨ (z.catchType ≠ 0 ∧ ∃ nm : String, (Cond.classLink own z.catchType nm).before args s = true ∧ va_Nc En nm s)) (hx : covers x pc = true) (h0 : x.catchType ≠ 0)
    (hlink : Cond.classLink own x.catchType name ∈ TB) (hcast : (Cond.castable En name).before args s = true)
    (kk : ∀ (q9 : Nat) (H1 : Heap) (locs1 : List Loc), wk D (ws' ++ X) A H0 H1 locs1 → W p l e R s m args below meth c H1 locs1 (cells + 1) (slots + 6) Q (F0 m x.handlerPc ls [.ref q9])) : W p l e R s m args below meth c H locs cells slots Q (F0 m pc ls st0) := by
  subst hAH
  have hA := kA_left I
  have hL := wk_left I
  refine vx_callv (post := fun _ : Unit => False) (px := fun _ : Unit => True) (B := fun _ _ => True) (BX := fun E _ t => E = En ∧ va_P D vwCl ws' t.heap ∧ va_K D vwCl (gT g) t) (A1 := fun _ => False) (AX := kA ws) (A0 := A) (mc := 1) (ms := 6) (rest := rest) (a := (Value.ref b :: As).toArray) (free := kA ws)
    (vx_runV (As := As) (rest := rest) (cells := cells) (slots := slots) (mc := 1) (ms := 6) E.1 hM ⟨r_cbx E w.1 hR, E.1.2.2.2.2 _ w.2.1, E.1.2.2.2.2 _ w.2.2⟩ ⟨pX_blind, va_recv E.2 hL.1 hc he, fun U hU hW => ⟨rfl, by rw [hU]; exact hL.1, va_K.moved hW.alike E.2, hL.2.weaken (fun _ _ _ _ => trivial), xw.on hW (fun q h1 h2 => by rw [hU]; exact I.2.2.2.1 q h1 h2) hA⟩⟩ rfl hn hls hst (lv_room hroom) hdg hf) I.2.2 (fun _ _ h => h.elim) hA (fun q _ h => hA q h) ?_ ?_
  · intro E9 ce q9 u t H1 locs1 ht hvm _ hB hz hk2 hS1 hce hv hcl
    obtain ⟨hE, hP1, hK1⟩ := hB
    subst hE
    rw [ht] at hP1
    exact vx_catch E.1.2.2.2.1 pre x suf hsplit hpass hx h0 (E.1.2.2.2.2 _ hlink) hcast hce hv hcl (kk q9 H1 locs1 (wk_frame I hP1 hk hk2 hS1))
  · intro u t H1 locs1 _ _ hp
    exact hp.elim
/-- the helper's call, out of the law -/
theorem r_callH {idx n nY f k : Nat} {y : MethodName} {cY : ByteArray} {hh : List (Nat × Nat × Nat × Nat)} {As st0 : List Value} {v : Int32} (xw : XW A s) (nc : NC s) (hAH : H0 = s.heap) (E : en p m c cc nL s args own D g) (I : wk D (ws ++ X) A H0 H locs) (hls : ls.size = nL) (w : Cond.methodLink own idx y ∈ TB ∧ Cond.static y ∈ TB ∧ Cond.initialized y.cls ∈ TB ∧ Cond.codeWith y cY nY (some .int) hh ∈ TB ∧ (y.cls ≠ "java/lang/invoke/MethodHandle" ∧ y.cls ≠ "java/lang/invoke/VarHandle" ∧ (parseMethodDescriptor y.desc).map (fun d => d.parameters.length) = some n)) (hM : lct l y cY nY hh (rmx f k) D g ws ws' As v) (hk : ws'.map Prod.fst = ws.map Prod.fst) (hn : As.length = n) (hst : st0 = As.reverse ++ rest) (hroom : (rest.map fun v => v.category).sum ≤ 8) (hR : f + 1 ≤ R.frames ∧ 8 + (nY + 11) + k ≤ R.locals) (hf : cells + 1 ≤ R.cells ∧ slots + 6 ≤ R.slots) (hdg : decode cc pc = .ok (.invokestatic idx, 3))
    (kk : ∀ (H1 : Heap) (locs1 : List Loc), wk D (ws' ++ X) A H0 H1 locs1 → W p l e R s m args below meth c H1 locs1 (cells + 1) (slots + 6) Q (F0 m (pc + 3) ls (.int v :: rest))) : W p l e R s m args below meth c H locs cells slots Q (F0 m pc ls st0) := by
  subst hAH
  have hA := kA_left I
  have hL := wk_left I
  have hG : GoodIn TB (va_wsS own idx y (wsh y cY nY hh)) := fun w9 hw9 => by
    simp only [va_wsS, List.mem_append, List.mem_cons, List.not_mem_nil, or_false] at hw9
    have hm : w9 ∈ TB := by
      rcases hw9 with (rfl | rfl | rfl) | (rfl | h)
      · exact w.1
      · exact w.2.1
      · exact w.2.2.1
      · exact w.2.2.2.1
      · exact h
    exact ⟨hm, good_of_word (TB_good hm)⟩
  have hr := vx_runSW (As := As) (rest := rest) (cells := cells) (slots := slots) (mc := 1) (ms := 6) (R := R) (below := below) (meth := meth) (locs := locs) (H := H) (p := p) (l := l) (e := e) (m := m) (c := c) (g := F0 m pc ls st0) E.1 hM (vx_cwSW n E.1.2.2.2.2 hG rfl rfl rfl w.2.2.2.2 hR) ⟨fun a U f mk q => ⟨q.1, ⟨q.2.1.1, va_K.moved (u := U) (U := U.calling f mk a) (Vm.Alike.refl U.vm) q.2.1.2.1, q.2.1.2.2.1, q.2.1.2.2.2.calling⟩, NC.moved (U := U.calling f mk a) (Vm.Alike.refl U.vm) q.2.2⟩, fun U hU hW => ⟨rfl, ⟨by rw [hU]; exact hL.1, va_K.moved hW.alike E.2, hL.2.weaken (fun _ _ _ _ => trivial), xw.on hW (fun q h1 h2 => by rw [hU]; exact I.2.2.2.1 q h1 h2) hA⟩, nc.moved hW.alike⟩⟩ rfl hn hls hst (lv_room hroom) hdg hf
  intro T hT X9
  obtain ⟨v9, st₀, t, T', L, h0, X', hLL, e1, e2, ⟨⟨hv, hb, -⟩, hz, hk2⟩, st⟩ := hr T hT X9
  cases hv
  rw [h0] at hz hk2
  obtain ⟨t2, a1, b1⟩ := kk T'.heap (locs ++ L) (wk_frame I (by rw [e1]; exact hb) hk (fun q h1 h2 => by rw [e1]; exact hk2 q h1 h2) ⟨Nat.le_trans I.2.2.1 (by rw [e1]; exact hz), fun q h1 h2 => by rw [e1, hk2 q (Nat.lt_of_lt_of_le h1 I.2.2.1) (fun z => h2 (hA q z))]; exact I.2.2.2.1 q h1 h2, fun q hq => by
      rcases List.mem_append.mp hq with h | h
      · exact I.2.2.2.2 q h
      · exact hA _ (hLL q h)⟩) T' rfl X'
  exact ⟨t2, st t2 a1, b1⟩
end HS
theorem lct_of {l : Launch} {y : MethodName} {cc : ByteArray} {nL : Nat} {hh : List (Nat × Nat × Nat × Nat)} {f k : Nat} {D : va_G} {g : Nat → ClassId} {ws ws' : va_W} {av : List Value} {v : Int32} (hy : plainName y.cls = true) (hlen : (lg_sl av).length ≤ nL)
    (body : ∀ (p : Program) (e : Env) (s : State) (m : MethodId) (args : Array Value) (below : List Frame) (meth : Method) (c : Code) (ls : Array Slot) (Q : State → Prop) (A : Nat → Prop) (H0 H : Heap) (locs : List Loc), en p m c cc nL s args y.cls D g → wk D ws A H0 H locs → H0 = s.heap → XW A s → NC s → c.exceptionTable.toList = tableOf hh → lv_has ls nL (lv_args 0 av) →
      (∀ (pc : Nat) (ls : Array Slot) (H : Heap) (locs : List Loc), wk D ws' A H0 H locs → decode cc pc = .ok (.ireturn, 1) → W p l e (rmx f k) s m args below meth c H locs 1 6 Q (F0 m pc ls [.int v])) →
      W p l e (rmx f k) s m args below meth c H locs 0 0 Q (F0 m 0 ls [])) : lct l y cc nL hh (rmx f k) D g ws ws' av v := by
  refine va_MetW (cc := cc) (maxL := nL) (ret := some .int) (hh := hh) hy rfl ?_
  intro p e s m args below meth c s₁ B hml hv
  obtain ⟨rfl, ⟨hP, hK, hD0, hxw⟩, hnc⟩ := hv
  have hts := atoms_spec (ws := wsh y cc nL hh) B.pre
  have hr := B.returns
  have hlocks := B.notSynchronized
  have E : en p m c cc nL s av.toArray y.cls D g := ⟨⟨B.exec, B.bytes, hml, findClass_of_methodNamed B.named, fun w h => hts w (List.mem_cons_of_mem _ h)⟩, hK⟩
  have hl := lv_entry av (n := nL) hlen
  rw [lg_entry_eq]
  generalize (lg_sl av ++ List.replicate (nL - (lg_sl av).length) Slot.unset).toArray = ls at hl ⊢
  have hD : va_D (kA ws) ws := hD0.weaken (fun k q hk _ => ⟨k, q.2, hk⟩)
  refine body p e s m av.toArray below meth c ls _ (kA ws) s.heap s.heap [] E ⟨hP, hD, va_S.rf⟩ rfl hxw hnc (vx_table (x := y) B (hts _ List.mem_cons_self)) hl ?_
  intro pc ls H locs I hd
  exact W.iret B.exec B.bytes hr (r_end (rv := some (.int v)) (W1 := ws) E I) I.2.2.2.2 hd
