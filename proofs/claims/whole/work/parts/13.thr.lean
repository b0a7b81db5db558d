/-! Methods that throw: what a throw needs of the start (XW), the contract of a method that throws (cx), the rows for a throw of one's own and for one that comes out of a callee. -/
def exN : Nat → String
  | 0 => "java/lang/IndexOutOfBoundsException"
  | 1 => "java/lang/IllegalArgumentException"
  | _ => "java/lang/IllegalStateException"
def xS : List (Nat × String) := [(263, "a number is out of range"), (260, "there is none with this number"), (277, "the product would have a factor too often"), (265, "there is no such matcher"), (79, "the other pattern has a variable without a value"), (98, "the buffer is full"), (118, "the buffer is not a complete product"), (134, "the snapshot was not taken"), (137, "there is no saved state"), (164, "the place is below 0")]
abbrev xNm : List String := ["java/lang/RuntimeException", "java/lang/Exception"]
/-- the words of a throw that are no good words: they are premises of their own -/
def xF : List Cond := [.castable (exN 0) (exN 0), .castable (exN 1) (exN 1), .castable (exN 2) (exN 2), .declares ⟨"java/lang/RuntimeException", "<init>", "(Ljava/lang/String;)V"⟩, .declares ⟨"java/lang/Exception", "<init>", "(Ljava/lang/String;)V"⟩, .declares ⟨"java/lang/Throwable", "<init>", "(Ljava/lang/String;)V"⟩]
def XW (A : Nat → Prop) (U : State) : Prop := vx_Zq Bundle.tN "UNASSIGNED_STACK" Bundle.steD A U U.heap ∧ vx_Zq Bundle.tN "SUPPRESSED_SENTINEL" Bundle.listD A U U.heap ∧ (∀ q ∈ xS, ∃ sa : Nat, vk_R RX4 q.1 q.2 sa U) ∧ ∀ w ∈ xF, w.before #[] U = true
theorem xF_on {s U : State} (h : ∀ w ∈ xF, w.before #[] s = true) (hal : s.vm.Alike U.vm) : ∀ w ∈ xF, w.before #[] U = true := fun w hw => by
  have hf : (xF.all fun w => w.faceAtom && w.onTables) = true := by decide +kernel
  have h1 := List.all_eq_true.mp hf w hw
  rw [Bool.and_eq_true] at h1
  exact va_tabs h1.2 (rfl : (s.setVm U.vm).vm = U.vm) (Cond.faceAtom_setVm hal w h1.1 (h w hw))
abbrev rmx (f k : Nat) : Room := { frames := f, cells := 1, slots := 6, locals := k }
def nQ : Array Value → State → Outcome → State → Prop := va_Qv (fun _ : Unit => False) (fun _ _ => True) (fun _ => False)
def xC (D : va_G) (g : Nat → ClassId) (ws' : va_W) (A : Nat → Prop) (En : String) : String → State → State → Prop := vx_X (fun _ : Unit => True) (fun E _ t => E = En ∧ va_P D vwCl ws' t.heap ∧ va_K D vwCl (gT g) t) A
def pX (D : va_G) (g : Nat → ClassId) (ws : va_W) (av : List Value) : Array Value → State → Prop := va_Pc av (fun U => va_P D vwCl ws U.heap ∧ va_K D vwCl (gT g) U ∧ va_D (fun _ => True) ws ∧ XW (kA ws) U)
/-- a method that throws En: from the world ws to the world ws', one cell of six slots is new -/
def cx (l : Launch) (y : MethodName) (cc : ByteArray) (nL : Nat) (ret : Option FieldType) (rm : Room) (D : va_G) (g : Nat → ClassId) (ws ws' : va_W) (av : List Value) (En : String) : Prop :=
  vx_Met l y (wsm y cc nL ret) rm (pX D g ws av) nQ (xC D g ws' (kA ws) En) 1 6 (kA ws)
theorem XW.calling {A : Nat → Prop} {U : State} {f : JFrame} {mk : MethodId} {a : Array Value} (h : XW A U) : XW A (U.calling f mk a) :=
  ⟨vx_Zq.moved (u := U) (U := U.calling f mk a) (Vm.Alike.refl U.vm) h.1, vx_Zq.moved (u := U) (U := U.calling f mk a) (Vm.Alike.refl U.vm) h.2.1, fun q hq => by obtain ⟨sa, h9⟩ := h.2.2.1 q hq; exact ⟨sa, vk_R.same (u := U) (U := U.calling f mk a) rfl h9⟩, xF_on (s := U) (U := U.calling f mk a) h.2.2.2 (Vm.Alike.refl U.vm)⟩
theorem XW.on {A B : Nat → Prop} {s U : State} (h : XW A s) (hW : s.WarmedH U.vm) (hq : ∀ a : Nat, a < s.heap.size → ¬ A a → U.heap[a]? = s.heap[a]?) (hAB : ∀ q, B q → A q) : XW B U :=
  ⟨(vx_Zq.moved hW.alike (h.1.kept hq)).narrow hAB, (vx_Zq.moved hW.alike (h.2.1.kept hq)).narrow hAB, fun q hq => by obtain ⟨sa, h9⟩ := h.2.2.1 q hq; exact ⟨sa, vk_R.warm hW h9⟩, xF_on h.2.2.2 hW.alike⟩
section TS
variable {p : Program} {l : Launch} {e : Env} {R : Room} {s : State} {m : MethodId} {args : Array Value} {below : List Frame} {meth : Method} {c : Code} {H : Heap} {locs : List Loc} {Q : State → Prop}
variable {cc : ByteArray} {nL pc : Nat} {ls : Array Slot} {rest : List Value} {own : String} {D : va_G} {g : Nat → ClassId} {A : Nat → Prop} {H0 : Heap} {ws ws' : va_W} {a : Nat} {En : String}
theorem pX_blind {av : List Value} : FrameBlind (pX D g ws av) := fun a U f mk q => ⟨q.1, q.2.1, va_K.moved (u := U) (U := U.calling f mk a) (Vm.Alike.refl U.vm) q.2.2.1, q.2.2.2.1, q.2.2.2.2.calling⟩
theorem r_cbx {idx n nY : Nat} {y : MethodName} {cY : ByteArray} {ret : Option FieldType} {f k : Nat} (E : en p m c cc nL s args own D g) (w : cf own idx y cY nY ret n) (hR : f + 1 ≤ R.frames ∧ 8 + (nY + 11) + k ≤ R.locals) : CallB R s args own idx y cY nY ret (wsm y cY nY ret) (rmx f k) 1 6 n :=
  callB_of n E.1.2.2.2.2 (wsm_good w.2.2.1) rfl rfl rfl (E.1.2.2.2.2 _ w.2.1) (E.1.2.2.2.2 _ w.1) w.2.2.2 hR
/-- what came out of a callee goes on out of this method -/
theorem r_on {st0 : List Value} {av : Array Value} {wc : va_W} (hQ : Q = vx_MQ below nQ (xC D g ws' A En) args s 1 6 A) (hex : ∀ x ∈ c.exceptionTable.toList, False) (hlk : meth.locks = false) (E : en p m c cc nL s args own D g) (hS : va_S A s.heap H locs) (hA : ∀ q, kA wc q → A q) {wc' : va_W} (hP' : ∀ H1 : Heap, va_P D vwCl wc' H1 → (∀ q : Nat, q < H.size → ¬ kA wc q → H1[q]? = H[q]?) → va_P D vwCl ws' H1) (hr : vx_Run p l e R s m args below meth c H locs 0 0 1 6 (F0 m pc ls st0) rest (nQ av) (xC D g wc' (kA wc) En) (kA wc)) : W p l e R s m args below meth c H locs 0 0 Q (F0 m pc ls st0) := by
  subst hQ
  refine vx_callv (post := fun _ : Unit => False) (px := fun _ : Unit => True) (B := fun _ _ => True) (BX := fun E _ t => E = En ∧ va_P D vwCl wc' t.heap ∧ va_K D vwCl (gT g) t) (A1 := fun _ => False) (AX := kA wc) (A0 := A) hr hS (fun _ _ h => h.elim) hA (fun q _ h => hA q h) ?_ ?_
  · intro E9 ce q9 u t H1 locs1 ht hvm _ hB hz hk hS1 hce hv hcl
    obtain ⟨hE, hP1, hK1⟩ := hB
    refine vx_out (fun x hx => (hex x hx).elim) hlk hce hv hcl (fun t9 ht9 hal => ?_) hS1.2.2 (Nat.le_refl 1) (Nat.le_refl 6)
    refine ⟨(), trivial, ⟨hE, ?_, va_K.moved hal E.2⟩, hS1.F ht9⟩
    rw [ht9]
    rw [ht] at hP1
    exact hP' H1 hP1 hk
  · intro u t H1 locs1 _ _ hp
    exact hp.elim
theorem r_thrV {idx n nY f k q0 ci N b : Nat} {y : MethodName} {cY : ByteArray} {ret : Option FieldType} {As st0 : List Value} {T : u_T} {fs : List Value} (hQ : Q = vx_MQ below nQ (xC D g ws' A En) args s 1 6 A) (xw : XW A s) (hex : ∀ x ∈ c.exceptionTable.toList, False) (hlk : meth.locks = false) (E : en p m c cc nL s args own D g) (I : wk D ws A s.heap H locs) (hls : ls.size = nL) (w : cfV own idx y cY nY ret n) (hM : cx l y cY nY ret (rmx f k) D g ws ws' (.ref b :: As) En) (he : ws[q0]? = some (b, .inr (ci, fs))) (hc : vwCl[ci]? = some (y.cls, T, N)) (hn : As.length = n) (hst : st0 = As.reverse ++ .ref b :: rest) (hroom : (rest.map fun v => v.category).sum ≤ 8) (hR : f + 1 ≤ R.frames ∧ 8 + (nY + 11) + k ≤ R.locals) (hf : 0 + 1 ≤ R.cells ∧ 0 + 6 ≤ R.slots) (hdg : decode cc pc = .ok (.invokevirtual idx, 3)) : W p l e R s m args below meth c H locs 0 0 Q (F0 m pc ls st0) :=
  have hA : ∀ q, kA ws q → A q := fun q h => by obtain ⟨k, e, h⟩ := h; exact I.2.1.2 k _ h
  r_on hQ hex hlk E I.2.2 hA (fun _ h _ => h) (vx_runV (As := As) (rest := rest) (cells := 0) (slots := 0) (mc := 1) (ms := 6) E.1 hM ⟨r_cbx E w.1 hR, E.1.2.2.2.2 _ w.2.1, E.1.2.2.2.2 _ w.2.2⟩ ⟨pX_blind, va_recv E.2 I.1 hc he, fun U hU hW => ⟨rfl, by rw [hU]; exact I.1, va_K.moved hW.alike E.2, I.2.1.weaken (fun _ _ _ _ => trivial), xw.on hW (fun q h1 h2 => by rw [hU]; exact I.2.2.2.1 q h1 h2) hA⟩⟩ rfl hn hls hst (lv_room hroom) hdg hf)
theorem r_thrS {idx n nY f k : Nat} {y : MethodName} {cY : ByteArray} {ret : Option FieldType} {As st0 : List Value} (hQ : Q = vx_MQ below nQ (xC D g ws A En) args s 1 6 A) (xw : XW A s) (hex : ∀ x ∈ c.exceptionTable.toList, False) (hlk : meth.locks = false) (E : en p m c cc nL s args own D g) (I : wk D ws A s.heap H locs) (hls : ls.size = nL) (w : cfS own idx y cY nY ret n) (hM : cx l y cY nY ret (rmx f k) D g [] [] As En) (hn : As.length = n) (hst : st0 = As.reverse ++ rest) (hroom : (rest.map fun v => v.category).sum ≤ 8) (hR : f + 1 ≤ R.frames ∧ 8 + (nY + 11) + k ≤ R.locals) (hf : 0 + 1 ≤ R.cells ∧ 0 + 6 ≤ R.slots) (hdg : decode cc pc = .ok (.invokestatic idx, 3)) : W p l e R s m args below meth c H locs 0 0 Q (F0 m pc ls st0) :=
  r_on hQ hex hlk E I.2.2 (fun q h => absurd h kA_nil) (fun H1 _ h2 => fun k q hq => (I.1 k q hq).kept (h2 q.1 (I.1 k q hq).lt kA_nil)) (vx_runS (As := As) (rest := rest) (cells := 0) (slots := 0) (mc := 1) (ms := 6) E.1 hM ⟨r_cbx E w.1 hR, E.1.2.2.2.2 _ w.2⟩ ⟨pX_blind, fun U hU hW => ⟨rfl, va_P_nil, va_K.moved hW.alike E.2, va_D_nil, xw.on hW (fun q h1 h2 => by rw [hU]; exact I.2.2.2.1 q h1 h2) (fun q h => absurd h kA_nil)⟩⟩ rfl hn hls hst (lv_room hroom) hdg hf)
/-- the words of 'throw new E("..")' in FactorMatch's file -/
def xwd (ik ic : Nat) (cls : String) : Prop := Cond.classLink RX4 ik cls ∈ TB ∧ Cond.initialized cls ∈ TB ∧ (∀ w ∈ (vx_atS RX4 ic cls xNm).filter goodWord, w ∈ TB) ∧ (∀ w ∈ (vx_atS RX4 ic cls xNm).filter (fun w => !goodWord w), w ∈ xF ∧ w.onTables = true) ∧ (∀ w ∈ Cond.classLink RX4 ik cls :: Cond.initialized cls :: vx_atS RX4 ic cls xNm, vx_ot w = true) ∧ Bundle.fit cls = true
theorem r_throw {ik is ic : Nat} {text : String} (hl : l.stackTraces = false) (hQ : Q = vx_MQ below nQ (xC D g ws A En) args s 1 6 A) (xw : XW A s) (hex : ∀ x ∈ c.exceptionTable.toList, False) (hlk : meth.locks = false) (E : en p m c cc nL s args RX4 D g) (I : wk D ws A s.heap H locs) (hls : ls.size = nL) {k0 : Nat} (hEn : En = exN k0) (w : xwd ik ic En) (htx : (is, text) ∈ xS) (d0 : decode cc pc = .ok (.new ik, 3)) (d3 : decode cc (pc + 3) = .ok (.dup, 1)) (hR : xNm.length + 3 < R.frames ∧ (rest.map fun v => v.category).sum + (13 * (xNm.length + 1) + 43) ≤ R.locals ∧ 0 + 1 ≤ R.cells ∧ 0 + 6 ≤ R.slots)
    (d4 : (decode cc (pc + 4) = .ok (.ldc is, 2) ∧ decode cc (pc + 6) = .ok (.invokespecial ic, 3) ∧ decode cc (pc + 9) = .ok (.athrow, 1)) ∨ (decode cc (pc + 4) = .ok (.ldc_w is, 3) ∧ decode cc (pc + 7) = .ok (.invokespecial ic, 3) ∧ decode cc (pc + 10) = .ok (.athrow, 1))) : W p l e R s m args below meth c H locs 0 0 Q (F0 m pc ls rest) := by
  subst hQ
  obtain ⟨sa, hsa⟩ := xw.2.2.1 _ htx
  obtain ⟨w1, w2, w3, w6, w4, w5⟩ := w
  have hat : ∀ w ∈ vx_atS RX4 ic En xNm, w.before args s = true := fun w hw => by
    by_cases hg : goodWord w = true
    · exact E.1.2.2.2.2 _ (w3 w (List.mem_filter.mpr ⟨hw, hg⟩))
    · have h9 : w ∈ (vx_atS RX4 ic En xNm).filter (fun w => !goodWord w) := List.mem_filter.mpr ⟨hw, by simpa using hg⟩
      exact va_any (w6 w h9).2 (xw.2.2.2 w (w6 w h9).1)
  have hnm : ∀ n ∈ xNm, Bundle.fit n = true := by decide
  have hx : ∀ t : State, s.vm.Alike t.vm → H.size ≤ t.heap.size → (∀ q : Nat, q < H.size → t.heap[q]? = H[q]?) → xC D g ws A En En s t := fun t hal hz hk =>
    ⟨(), trivial, ⟨rfl, fun k q hq => (I.1 k q hq).kept (hk q.1 (I.1 k q hq).lt), va_K.moved hal E.2⟩, ⟨Nat.le_trans I.2.2.1 hz, fun q h1 h2 => by rw [hk q (Nat.lt_of_lt_of_le h1 I.2.2.1)]; exact I.2.2.2.1 q h1 h2⟩⟩
  rcases d4 with ⟨d4, d6, d9⟩ | ⟨d4, d6, d9⟩
  · exact vx_throwS E.1.1 E.1.2.1 hl E.1.2.2.2.1 w5 hnm (E.1.2.2.2.2 _ w1) (E.1.2.2.2.2 _ w2) hsa hat w4 xw.1 xw.2.1 I.2.2 (hls.trans E.1.2.2.1.symm) d0 d3 d4 d6 d9 (fun x hx => (hex x hx).elim) hR.1 hR.2.1 hR.2.2.1 hR.2.2.2 hlk hx I.2.2.2.2 (Nat.le_refl 1) (Nat.le_refl 6)
  · exact vx_throwSW E.1.1 E.1.2.1 hl E.1.2.2.2.1 w5 hnm (E.1.2.2.2.2 _ w1) (E.1.2.2.2.2 _ w2) hsa hat w4 xw.1 xw.2.1 I.2.2 (hls.trans E.1.2.2.1.symm) d0 d3 d4 d6 d9 (fun x hx => (hex x hx).elim) hR.1 hR.2.1 hR.2.2.1 hR.2.2.2 hlk hx I.2.2.2.2 (Nat.le_refl 1) (Nat.le_refl 6)
end TS
theorem cx_of {l : Launch} {y : MethodName} {cc : ByteArray} {nL : Nat} {ret : Option FieldType} {rm : Room} {D : va_G} {g : Nat → ClassId} {ws ws' : va_W} {av : List Value} {En : String} (hy : plainName y.cls = true) (hlen : (lg_sl av).length ≤ nL)
    (body : ∀ (p : Program) (e : Env) (s : State) (m : MethodId) (args : Array Value) (below : List Frame) (meth : Method) (c : Code) (ls : Array Slot) (Q : State → Prop) (A : Nat → Prop) (H : Heap) (locs : List Loc), en p m c cc nL s args y.cls D g → wk D ws A s.heap H locs → lv_has ls nL (lv_args 0 av) → Q = vx_MQ below nQ (xC D g ws' A En) args s 1 6 A → XW A s → (∀ x ∈ c.exceptionTable.toList, False) → meth.locks = false →
      W p l e rm s m args below meth c H locs 0 0 Q (F0 m 0 ls [])) : cx l y cc nL ret rm D g ws ws' av En := by
  refine vx_ofW (cc := cc) (maxL := nL) (ret := ret) hy rfl ?_
  intro p e s m args below meth c s₁ B hml hex hv
  obtain ⟨rfl, hP, hK, hD0, hxw⟩ := hv
  have hts := atoms_spec (ws := wsm y cc nL ret) B.pre
  have hlocks := B.notSynchronized
  have E : en p m c cc nL s av.toArray y.cls D g := ⟨⟨B.exec, B.bytes, hml, findClass_of_methodNamed B.named, fun w h => hts w (List.mem_cons_of_mem _ h)⟩, hK⟩
  have hl := lv_entry av (n := nL) hlen
  rw [lg_entry_eq]
  generalize (lg_sl av ++ List.replicate (nL - (lg_sl av).length) Slot.unset).toArray = ls at hl ⊢
  have hD : va_D (kA ws) ws := hD0.weaken (fun k q hk _ => ⟨k, q.2, hk⟩)
  exact body p e s m av.toArray below meth c ls _ (kA ws) s.heap [] E ⟨hP, hD, va_S.rf⟩ hl rfl hxw hex hlocks
