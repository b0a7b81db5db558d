/-! Constructors: what they need of the start beside the words (NI), their contract (ci), the rows that make cells. -/
def xI : List Cond := [.arrayOver (.array .int), .arrayOver (.array .long), .methodLinkNest RX4 27 yX1_init RX4, .methodLinkNest RX4 34 yX3_init RX4, .methodLinkNest RX4 41 yX0_init RX4, .methodLinkNest RX4 48 yX2_init RX4]
def NI (U : State) : Prop := va_AOA .int U ∧ va_AOA .long U ∧ va_Nw (.methodLinkNest RX4 27 yX1_init RX4) U ∧ va_Nw (.methodLinkNest RX4 34 yX3_init RX4) U ∧ va_Nw (.methodLinkNest RX4 41 yX0_init RX4) U ∧ va_Nw (.methodLinkNest RX4 48 yX2_init RX4) U
theorem va_AOA.moved {ty : FieldType} {s U : State} (hvm : s.vm.Alike U.vm) (h : va_AOA ty s) : va_AOA ty U := by
  have h1 : (Cond.arrayOver (.array ty)).before #[] (s.setVm U.vm) = true := by rw [Cond.arrayOver_setVmC hvm]; exact h
  exact h1
theorem NI.on {s U : State} (hW : s.WarmedH U.vm) (h : NI s) : NI U := ⟨h.1.moved hW.alike, h.2.1.moved hW.alike, va_Nw.warmM hW h.2.2.1, va_Nw.warmM hW h.2.2.2.1, va_Nw.warmM hW h.2.2.2.2.1, va_Nw.warmM hW h.2.2.2.2.2⟩
theorem NI.calling {U : State} {f : JFrame} {mk : MethodId} {a : Array Value} (h : NI U) : NI (U.calling f mk a) :=
  ⟨h.1.moved (U := U.calling f mk a) (Vm.Alike.refl U.vm), h.2.1.moved (U := U.calling f mk a) (Vm.Alike.refl U.vm), va_Nw.same rfl (U := U.calling f mk a) rfl h.2.2.1, va_Nw.same rfl (U := U.calling f mk a) rfl h.2.2.2.1, va_Nw.same rfl (U := U.calling f mk a) rfl h.2.2.2.2.1, va_Nw.same rfl (U := U.calling f mk a) rfl h.2.2.2.2.2⟩
abbrev rmi (f k mc ms : Nat) : Room := { frames := f, cells := mc, slots := ms, locals := k }
def pI (D : va_G) (g : Nat → ClassId) (ws : va_W) (av : List Value) (sz : Nat) : Array Value → State → Prop := va_Pc av (fun U => U.heap.size = sz ∧ va_P D vwCl ws U.heap ∧ va_K D vwCl (gT g) U ∧ va_D (fun _ => True) ws ∧ NI U)
def qI (D : va_G) (g : Nat → ClassId) (ws : va_W) (sz : Nat) (F : (Nat → Nat) → va_W) : Array Value → State → Outcome → State → Prop := fun _ st oc t => (oc = .returned none ∧ ∃ r : Nat → Nat, va_P D vwCl (F r) t.heap ∧ va_D (va_A ws sz) (F r) ∧ va_K D vwCl (gT g) t) ∧ va_F (va_A ws sz) st t
def ci (l : Launch) (y : MethodName) (cc : ByteArray) (nL : Nat) (rm : Room) (D : va_G) (g : Nat → ClassId) (ws : va_W) (av : List Value) (F : (Nat → Nat) → va_W) (mc ms : Nat) : Prop :=
  ∀ sz : Nat, Met l y (wsm y cc nL none) rm (pI D g ws av sz) (qI D g ws sz F) mc ms (va_A ws sz)
section IS
variable {p : Program} {l : Launch} {e : Env} {R : Room} {s : State} {m : MethodId} {args : Array Value} {below : List Frame} {meth : Method} {c : Code} {H : Heap} {locs : List Loc} {cells slots : Nat} {Q : State → Prop}
variable {cc : ByteArray} {nL pc : Nat} {ls : Array Slot} {rest : List Value} {own : String} {D : va_G} {g : Nat → ClassId} {A : Nat → Prop} {H0 : Heap} {ws ws' : va_W} {a : Nat}
theorem pI_blind {av : List Value} {sz : Nat} : FrameBlind (pI D g ws av sz) := fun a U f mk q => ⟨q.1, q.2.1, q.2.2.1, va_K.moved (u := U) (U := U.calling f mk a) (Vm.Alike.refl U.vm) q.2.2.2.1, q.2.2.2.2.1, q.2.2.2.2.2.calling⟩
theorem r_newI (E : en p m c cc nL s args own D g) (I : wk D ws A H0 H locs) (hA : ∀ q, H0.size ≤ q → A q) (N' : Nat) {n : Int32} (harr : Cond.arrayClass .int ∈ TB) (hn : ¬ n < 0) (hN : n.toNatClampNeg = N') (hbytes : N' * 4 ≤ 536870912) (hcells : cells + 1 ≤ R.cells) (hslots : slots + N' ≤ R.slots) (hdg : decode cc pc = .ok (.newarray .int, 2))
    (kk : ∀ (q : Nat) (H1 : Heap), wk D (ws ++ [(q, .inl (g 0, N', .inl (fun _ => 0)))]) A H0 H1 locs → W p l e R s m args below meth c H1 locs (cells + 1) (slots + N') Q (F0 m (pc + 2) ls (.ref q :: rest))) : W p l e R s m args below meth c H locs cells slots Q (F0 m pc ls (.int n :: rest)) :=
  va_newa (atype := .int) (ty := .int) (a0 := (N', .inl (fun _ => 0))) E.1.1 E.1.2.1 (E.1.2.2.2.2 _ harr) rfl E.2 I.1 I.2.1 I.2.2 hA (fun _ => rfl) hn hN hbytes hcells hslots hdg (fun q cA H1 hK hP hD hS => by
    have h1 : s.vm.findClass ("[" ++ FieldType.int.toString) = some cA := (hK.2 5 _ rfl).2
    have h2 : s.vm.findClass ("[" ++ FieldType.int.toString) = some (g 0) := (E.2.2 0 _ rfl).2
    have e := Option.some.inj (h1.symm.trans h2)
    subst e
    exact kk q H1 ⟨hP, hD, hS⟩)
theorem r_newZ (E : en p m c cc nL s args own D g) (I : wk D ws A H0 H locs) (hA : ∀ q, H0.size ≤ q → A q) (N' : Nat) {n : Int32} (harr : Cond.arrayClass .boolean ∈ TB) (hn : ¬ n < 0) (hN : n.toNatClampNeg = N') (hbytes : N' * 1 ≤ 536870912) (hcells : cells + 1 ≤ R.cells) (hslots : slots + N' ≤ R.slots) (hdg : decode cc pc = .ok (.newarray .boolean, 2))
    (kk : ∀ (q : Nat) (H1 : Heap), wk D (ws ++ [(q, .inl (g 2, N', .inl (fun _ => 0)))]) A H0 H1 locs → W p l e R s m args below meth c H1 locs (cells + 1) (slots + N') Q (F0 m (pc + 2) ls (.ref q :: rest))) : W p l e R s m args below meth c H locs cells slots Q (F0 m pc ls (.int n :: rest)) :=
  va_newa (atype := .boolean) (ty := .boolean) (a0 := (N', .inl (fun _ => 0))) E.1.1 E.1.2.1 (E.1.2.2.2.2 _ harr) rfl E.2 I.1 I.2.1 I.2.2 hA (fun _ => rfl) hn hN hbytes hcells hslots hdg (fun q cA H1 hK hP hD hS => by
    have h1 : s.vm.findClass ("[" ++ FieldType.boolean.toString) = some cA := (hK.2 5 _ rfl).2
    have h2 : s.vm.findClass ("[" ++ FieldType.boolean.toString) = some (g 2) := (E.2.2 2 _ rfl).2
    have e := Option.some.inj (h1.symm.trans h2)
    subst e
    exact kk q H1 ⟨hP, hD, hS⟩)
theorem r_newJ (E : en p m c cc nL s args own D g) (I : wk D ws A H0 H locs) (hA : ∀ q, H0.size ≤ q → A q) (N' : Nat) {n : Int32} (harr : Cond.arrayClass .long ∈ TB) (hn : ¬ n < 0) (hN : n.toNatClampNeg = N') (hbytes : N' * 8 ≤ 536870912) (hcells : cells + 1 ≤ R.cells) (hslots : slots + N' ≤ R.slots) (hdg : decode cc pc = .ok (.newarray .long, 2))
    (kk : ∀ (q : Nat) (H1 : Heap), wk D (ws ++ [(q, .inl (g 1, N', .inr (.inl (fun _ => 0))))]) A H0 H1 locs → W p l e R s m args below meth c H1 locs (cells + 1) (slots + N') Q (F0 m (pc + 2) ls (.ref q :: rest))) : W p l e R s m args below meth c H locs cells slots Q (F0 m pc ls (.int n :: rest)) :=
  va_newa (atype := .long) (ty := .long) (a0 := (N', .inr (.inl (fun _ => 0)))) E.1.1 E.1.2.1 (E.1.2.2.2.2 _ harr) rfl E.2 I.1 I.2.1 I.2.2 hA (fun _ => rfl) hn hN hbytes hcells hslots hdg (fun q cA H1 hK hP hD hS => by
    have h1 : s.vm.findClass ("[" ++ FieldType.long.toString) = some cA := (hK.2 5 _ rfl).2
    have h2 : s.vm.findClass ("[" ++ FieldType.long.toString) = some (g 1) := (E.2.2 1 _ rfl).2
    have e := Option.some.inj (h1.symm.trans h2)
    subst e
    exact kk q H1 ⟨hP, hD, hS⟩)
theorem pl_rows {r : Nat → Nat} {f : Nat → va_E} {e : va_E} (n : Nat) : va_pl ([] ++ (List.range n).map r) (vr_up f ((List.range n).map r) e) = (List.range n).map (fun i => (r i, e)) := by
  unfold va_pl
  rw [List.nil_append, List.map_map]
  apply List.map_congr_left
  intro i hi
  show (r i, vr_up f _ e (r i)) = (r i, e)
  rw [vr_up_in (List.mem_map.mpr ⟨i, hi, rfl⟩)]
theorem r_mnaI (E : en p m c cc nL s args own D g) (I : wk D ws A H0 H locs) (hA : ∀ q, H0.size ≤ q → A q) (ni : va_AOA .int s) (N' K' : Nat) {n k : Int32} {index : Nat} (hlink : Cond.classLink own index "[[I" ∈ TB) (harr : Cond.arrayClass .int ∈ TB) (hn : ¬ n < 0) (hk : ¬ k < 0) (hN : n.toNatClampNeg = N') (hM : k.toNatClampNeg = K') (hb1 : N' * 4 ≤ 536870912) (hb2 : K' * 4 ≤ 536870912) (hb3 : K' ≤ 536870912) (hcells : cells + (1 + N') ≤ R.cells) (hslots : slots + (N' + N' * K') ≤ R.slots) (hdg : decode cc pc = .ok (.multianewarray index 2, 4))
    (kk : ∀ (q : Nat) (r : Nat → Nat) (H1 : Heap), wk D (ws ++ [(q, .inl (g 3, N', .inr (.inr (.inr (.inr (fun i => if i < N' then some (r i) else none))))))] ++ (List.range N').map (fun i => (r i, .inl (g 0, K', .inl (fun _ => 0))))) A H0 H1 locs → W p l e R s m args below meth c H1 locs (cells + 1 + N') (slots + N' + N' * K') Q (F0 m (pc + 4) ls (.ref q :: rest))) : W p l e R s m args below meth c H locs cells slots Q (F0 m pc ls (.int k :: .int n :: rest)) := by
  have hcy : s.vm.findClass (FieldType.array .int).toString = some (g 0) := (E.2.2 0 _ rfl).2
  refine va_mna (X := ws) (L := []) (f := fun _ => .inr (0, [])) (ty := .int) (z := (K', .inl (fun _ => 0))) E.1.1 E.1.2.1 E.1.2.2.2.1 (E.1.2.2.2.2 _ hlink) ni (E.1.2.2.2.2 _ harr) hcy E.2 (by rw [show va_pl [] (fun _ => (.inr (0, []) : va_E)) = [] from rfl, List.append_nil]; exact I.1) (by rw [show va_pl [] (fun _ => (.inr (0, []) : va_E)) = [] from rfl, List.append_nil]; exact I.2.1) I.2.2 hA hn hk hN hM hb1 hb2 hb3 rfl rfl hcells hslots (fun c => by
    show ({ cls := c, slots := Array.replicate K' (.int 0), vm := .none } : Cell) = _
    rw [arrV_new]
    rfl) hdg ?_
  intro q r cA H1 _ _ hK hP hD hS
  have h1 : s.vm.findClass ("[" ++ (FieldType.array .int).toString) = some cA := (hK.2 5 _ rfl).2
  have h2 : s.vm.findClass ("[" ++ (FieldType.array .int).toString) = some (g 3) := (E.2.2 3 _ rfl).2
  have e := Option.some.inj (h1.symm.trans h2)
  subst e
  rw [pl_rows] at hP hD
  exact kk q r H1 ⟨hP, hD, hS⟩
theorem r_mnaJ (E : en p m c cc nL s args own D g) (I : wk D ws A H0 H locs) (hA : ∀ q, H0.size ≤ q → A q) (ni : va_AOA .long s) (N' K' : Nat) {n k : Int32} {index : Nat} (hlink : Cond.classLink own index "[[J" ∈ TB) (harr : Cond.arrayClass .long ∈ TB) (hn : ¬ n < 0) (hk : ¬ k < 0) (hN : n.toNatClampNeg = N') (hM : k.toNatClampNeg = K') (hb1 : N' * 4 ≤ 536870912) (hb2 : K' * 8 ≤ 536870912) (hb3 : K' ≤ 536870912) (hcells : cells + (1 + N') ≤ R.cells) (hslots : slots + (N' + N' * K') ≤ R.slots) (hdg : decode cc pc = .ok (.multianewarray index 2, 4))
    (kk : ∀ (q : Nat) (r : Nat → Nat) (H1 : Heap), wk D (ws ++ [(q, .inl (g 4, N', .inr (.inr (.inr (.inr (fun i => if i < N' then some (r i) else none))))))] ++ (List.range N').map (fun i => (r i, .inl (g 1, K', .inr (.inl (fun _ => 0)))))) A H0 H1 locs → W p l e R s m args below meth c H1 locs (cells + 1 + N') (slots + N' + N' * K') Q (F0 m (pc + 4) ls (.ref q :: rest))) : W p l e R s m args below meth c H locs cells slots Q (F0 m pc ls (.int k :: .int n :: rest)) := by
  have hcy : s.vm.findClass (FieldType.array .long).toString = some (g 1) := (E.2.2 1 _ rfl).2
  refine va_mna (X := ws) (L := []) (f := fun _ => .inr (0, [])) (ty := .long) (z := (K', .inr (.inl (fun _ => 0)))) E.1.1 E.1.2.1 E.1.2.2.2.1 (E.1.2.2.2.2 _ hlink) ni (E.1.2.2.2.2 _ harr) hcy E.2 (by rw [show va_pl [] (fun _ => (.inr (0, []) : va_E)) = [] from rfl, List.append_nil]; exact I.1) (by rw [show va_pl [] (fun _ => (.inr (0, []) : va_E)) = [] from rfl, List.append_nil]; exact I.2.1) I.2.2 hA hn hk hN hM hb1 hb2 hb3 rfl rfl hcells hslots (fun c => by
    show ({ cls := c, slots := Array.replicate K' (.long 0), vm := .none } : Cell) = _
    rw [arrV_new]
    rfl) hdg ?_
  intro q r cA H1 _ _ hK hP hD hS
  have h1 : s.vm.findClass ("[" ++ (FieldType.array .long).toString) = some cA := (hK.2 5 _ rfl).2
  have h2 : s.vm.findClass ("[" ++ (FieldType.array .long).toString) = some (g 4) := (E.2.2 4 _ rfl).2
  have e := Option.some.inj (h1.symm.trans h2)
  subst e
  rw [pl_rows] at hP hD
  exact kk q r H1 ⟨hP, hD, hS⟩
/-- a final field in a constructor -/
theorem r_putF (E : en p m c cc nL s args own D g) (I : wk D ws A H0 H locs) (hin2 : meth.name = "<init>") (q0 ci k : Nat) {T : u_T} {N index : Nat} {fs : List Value} {v : Value} (he : ws[q0]? = some (a, .inr (ci, fs))) (hset : ws.set q0 (a, .inr (ci, fs.set k v)) = ws') (hc : vwCl[ci]? = some (own, T, N)) (hin : ∀ w ∈ u_ws own T N, w ∈ TB) (ty0 : Nat → FieldType) (hty : ∀ k, k < N → parseFieldDescriptor (T k).2.2.1 = some (ty0 k)) (hnm : ∀ a, a < N → ∀ b, b < N → a ≠ b → (T a).2.1 ≠ (T b).2.1) (hk : k < N) (hlink : Cond.fieldLink own index (T k).1 (T k).2.1 (T k).2.2.1 ∈ TB) (hfin : (T k).2.2.2 = true) (hdecl : (T k).1 = own) {ty : FieldType} (hd : parseFieldDescriptor (T k).2.2.1 = some ty) (hn : narrow ty v = v) (hfit : fits ty v = true) (hl : k < fs.length) (hdg : decode cc pc = .ok (.putfield index, 3))
    (kk : ∀ (H1 : Heap) (locs1 : List Loc), wk D ws' A H0 H1 locs1 → W p l e R s m args below meth c H1 locs1 cells slots Q (F0 m (pc + 3) ls rest)) : W p l e R s m args below meth c H locs cells slots Q (F0 m pc ls (v :: .ref a :: rest)) := by
  subst hset
  exact va_putF E.1.1 E.1.2.1 E.1.2.2.2.2 hin ty0 hty hnm E.1.2.2.2.1 E.2 I.1 I.2.1 I.2.2 q0 he hc k hk (E.1.2.2.2.2 _ hlink) (fun _ h => h) hfin hin2 hdecl hd hn hfit hl hdg (fun H1 L1 h1 h2 h3 => kk H1 L1 ⟨h1, h2, h3⟩)
theorem r_oinit {idx : Nat} (E : en p m c cc nL s args own D g) (hls : ls.size = nL) (hlink : Cond.methodLink own idx objectInit ∈ TB) (hinst : Cond.instanceMethod objectInit ∈ TB) (hcode : Cond.code objectInit ⟨#[0xb1]⟩ 1 none ∈ TB) (hf : 1 ≤ R.frames) (hlo : (rest.map fun v => v.category).sum + 12 ≤ R.locals) (hdg : decode cc pc = .ok (.invokespecial idx, 3))
    (kk : W p l e R s m args below meth c H locs cells slots Q (F0 m (pc + 3) ls rest)) : W p l e R s m args below meth c H locs cells slots Q (F0 m pc ls (.ref a :: rest)) :=
  W.objInit E.1.1 E.1.2.1 E.1.2.2.2.1 (E.1.2.2.2.2 _ hlink) (E.1.2.2.2.2 _ hinst) (E.1.2.2.2.2 _ hcode) rfl (hls.trans E.1.2.2.1.symm) rfl hdg hf (by show 2 * 0 + _ + 12 ≤ _; omega) kk
theorem r_new (E : en p m c cc nL s args own D g) (I : wk D ws A H0 H locs) (hA : ∀ q, H0.size ≤ q → A q) {C : String} {T : u_T} {N ci index : Nat} (hin : ∀ w ∈ u_ws C T N, w ∈ TB) (ty : Nat → FieldType) (hty : ∀ k, k < N → parseFieldDescriptor (T k).2.2.1 = some (ty k)) (hcl : Cond.classLink own index C ∈ TB) (hinst : Cond.instantiable C N ∈ TB) (hini : Cond.initialized C ∈ TB) (hc : vwCl[ci]? = some (C, T, N)) {fs : List Value} (hfs : ∀ j, j < N → defaultValue (ty j) = vp_V fs j) (hcells : cells + 1 ≤ R.cells) (hslots : slots + N ≤ R.slots) (hdg : decode cc pc = .ok (.new index, 3))
    (kk : ∀ (q : Nat) (H1 : Heap), wk D (ws ++ [(q, .inr (ci, fs))]) A H0 H1 locs → W p l e R s m args below meth c H1 locs (cells + 1) (slots + N) Q (F0 m (pc + 3) ls (.ref q :: rest))) : W p l e R s m args below meth c H locs cells slots Q (F0 m pc ls rest) :=
  va_new E.1.1 E.1.2.1 E.1.2.2.2.2 hin ty hty E.1.2.2.2.1 (E.1.2.2.2.2 _ hcl) (E.1.2.2.2.2 _ hinst) (E.1.2.2.2.2 _ hini) E.2 I.1 I.2.1 I.2.2 hA hc hfs hcells hslots hdg (fun q H1 h1 h2 h3 => kk q H1 ⟨h1, h2, h3⟩)
/-- behind a constructor's call: the new cells stand beside the rest -/
theorem r_runC {st0 : List Value} {av : Array Value} {wc X : va_W} {F : (Nat → Nat) → va_W} {mc ms : Nat} (isC isR : List Nat) (hC : isC.map (fun i => ws[i]?) = wc.map some) (hX : isR.map (fun i => ws[i]?) = X.map some) (hn : va_nd isR = true) (hdis : ∀ i ∈ isR, i ∉ isC) (I : wk D ws A H0 H locs) (hA : ∀ q, H0.size ≤ q → A q) (hr : va_Run p l e R s m args below meth c H locs cells slots mc ms (F0 m pc ls st0) rest (qI D g wc H.size F av) (va_A wc H.size))
    (kk : ∀ (r : Nat → Nat) (H1 : Heap) (locs1 : List Loc), wk D (X ++ F r) A H0 H1 locs1 → W p l e R s m args below meth c H1 locs1 (cells + mc) (slots + ms) Q (F0 m (pc + 3) ls rest)) : W p l e R s m args below meth c H locs cells slots Q (F0 m pc ls st0) := by
  intro T hT X9
  have hFc := va_free (wc := wc) I.2.1 I.2.2 hA isC hC
  obtain ⟨v, st₀, t, T', L, h0, X', hL, e1, e2, ⟨⟨hv, r, hP1, hD1, -⟩, hz, hk⟩, st⟩ := hr T hT X9
  cases hv
  rw [h0] at hz hk
  obtain ⟨hP, hD⟩ := va_join (wr := X) (w1 := F r) I.1 I.2.1 isC isR hC hX hn hdis hk hFc hP1 hD1
  obtain ⟨t2, a1, b1⟩ := kk r T'.heap (locs ++ L) ⟨by rw [e1]; exact hP, hD, ⟨Nat.le_trans I.2.2.1 (by rw [e1]; exact hz), fun q h1 h2 => by rw [e1, hk q (Nat.lt_of_lt_of_le h1 I.2.2.1) (fun z => h2 (hFc q z))]; exact I.2.2.2.1 q h1 h2, fun q hq => by
      rcases List.mem_append.mp hq with h | h
      · exact I.2.2.2.2 q h
      · exact hFc _ (hL q h)⟩⟩ T' rfl X'
  exact ⟨t2, st t2 a1, b1⟩
theorem r_callC {idx nY mc ms f k b : Nat} {y : MethodName} {cY : ByteArray} {st0 : List Value} {wc X : va_W} {F : (Nat → Nat) → va_W} (E : en p m c cc nL s args own D g) (isC isR : List Nat) (hC : isC.map (fun i => ws[i]?) = wc.map some) (hX : isR.map (fun i => ws[i]?) = X.map some) (hn : va_nd isR = true) (hdis : ∀ i ∈ isR, i ∉ isC) (I : wk D ws A H0 H locs) (hA : ∀ q, H0.size ≤ q → A q) (ni : NI s) (hls : ls.size = nL) (w : cf own idx y cY nY none 0 ∧ y.name = "<init>" ∧ Cond.instanceMethod y ∈ TB) (hM : ci l y cY nY (rmi f k mc ms) D g wc [.ref b] F mc ms) (hic : va_nd isC = true) (hst : st0 = .ref b :: rest) (hroom : (rest.map fun v => v.category).sum ≤ 8) (hR : f + 1 ≤ R.frames ∧ 8 + (nY + 11) + k ≤ R.locals) (hf : cells + mc ≤ R.cells ∧ slots + ms ≤ R.slots) (hdg : decode cc pc = .ok (.invokespecial idx, 3))
    (kk : ∀ (r : Nat → Nat) (H1 : Heap) (locs1 : List Loc), wk D (X ++ F r) A H0 H1 locs1 → W p l e R s m args below meth c H1 locs1 (cells + mc) (slots + ms) Q (F0 m (pc + 3) ls rest)) : W p l e R s m args below meth c H locs cells slots Q (F0 m pc ls st0) := by
  have hPc : va_P D vwCl wc H := fun k9 q hq => by
    have h1 : (isC.map (fun i => ws[i]?))[k9]? = some (some q) := by rw [hC, List.getElem?_map, hq]; rfl
    rw [List.getElem?_map] at h1
    cases hi : isC[k9]? with
    | none => rw [hi] at h1; cases h1
    | some i => rw [hi] at h1; exact I.1 i q (Option.some.inj h1)
  have hDc := I.2.1.sub isC hic hC
  exact r_runC isC isR hC hX hn hdis I hA (va_runI (As := []) (rest := rest) E.1 (hM H.size) ⟨callB_of 0 E.1.2.2.2.2 (wsm_good w.1.2.2.1) rfl rfl rfl (E.1.2.2.2.2 _ w.1.2.1) (E.1.2.2.2.2 _ w.1.1) w.1.2.2.2 hR, w.2.1, E.1.2.2.2.2 _ w.2.2⟩ ⟨pI_blind, fun U hU hW => ⟨rfl, by rw [hU], by rw [hU]; exact hPc, va_K.moved hW.alike E.2, hDc.weaken (fun _ _ _ _ => trivial), ni.on hW⟩⟩ rfl rfl hls hst (lv_room hroom) hdg hf) kk
theorem r_callN {idx nY mc ms f k b : Nat} {y : MethodName} {cY : ByteArray} {st0 : List Value} {wc X : va_W} {F : (Nat → Nat) → va_W} {host : String} (E : en p m c cc nL s args own D g) (isC isR : List Nat) (hC : isC.map (fun i => ws[i]?) = wc.map some) (hX : isR.map (fun i => ws[i]?) = X.map some) (hn : va_nd isR = true) (hdis : ∀ i ∈ isR, i ∉ isC) (I : wk D ws A H0 H locs) (hA : ∀ q, H0.size ≤ q → A q) (ni : NI s) (hnest : va_Nw (.methodLinkNest own idx y host) s) (hls : ls.size = nL) (w : (Cond.initialized y.cls ∈ TB ∧ Cond.code y cY nY none ∈ TB ∧ (y.cls ≠ "java/lang/invoke/MethodHandle" ∧ y.cls ≠ "java/lang/invoke/VarHandle" ∧ (parseMethodDescriptor y.desc).map (fun d => d.parameters.length) = some 0)) ∧ y.name = "<init>" ∧ Cond.instanceMethod y ∈ TB) (hM : ci l y cY nY (rmi f k mc ms) D g wc [.ref b] F mc ms) (hic : va_nd isC = true) (hst : st0 = .ref b :: rest) (hroom : (rest.map fun v => v.category).sum ≤ 8) (hR : f + 1 ≤ R.frames ∧ 8 + (nY + 11) + k ≤ R.locals) (hf : cells + mc ≤ R.cells ∧ slots + ms ≤ R.slots) (hdg : decode cc pc = .ok (.invokespecial idx, 3))
    (kk : ∀ (r : Nat → Nat) (H1 : Heap) (locs1 : List Loc), wk D (X ++ F r) A H0 H1 locs1 → W p l e R s m args below meth c H1 locs1 (cells + mc) (slots + ms) Q (F0 m (pc + 3) ls rest)) : W p l e R s m args below meth c H locs cells slots Q (F0 m pc ls st0) := by
  have hPc : va_P D vwCl wc H := fun k9 q hq => by
    have h1 : (isC.map (fun i => ws[i]?))[k9]? = some (some q) := by rw [hC, List.getElem?_map, hq]; rfl
    rw [List.getElem?_map] at h1
    cases hi : isC[k9]? with
    | none => rw [hi] at h1; cases h1
    | some i => rw [hi] at h1; exact I.1 i q (Option.some.inj h1)
  have hDc := I.2.1.sub isC hic hC
  exact r_runC isC isR hC hX hn hdis I hA (va_runIN (As := []) (rest := rest) (host := host) E.1 (hM H.size) ⟨va_cnB 0 E.1.2.2.2.2 (wsm_good w.1.2.1) rfl rfl rfl hnest (E.1.2.2.2.2 _ w.1.1) w.1.2.2 hR, w.2.1, E.1.2.2.2.2 _ w.2.2⟩ ⟨pI_blind, fun U hU hW => ⟨rfl, by rw [hU], by rw [hU]; exact hPc, va_K.moved hW.alike E.2, hDc.weaken (fun _ _ _ _ => trivial), ni.on hW⟩⟩ rfl rfl hls hst (lv_room hroom) hdg hf) kk
end IS
theorem ci_of {l : Launch} {y : MethodName} {cc : ByteArray} {nL : Nat} {f k mc ms : Nat} {D : va_G} {g : Nat → ClassId} {ws : va_W} {av : List Value} {F : (Nat → Nat) → va_W} (hy : plainName y.cls = true) (hlen : (lg_sl av).length ≤ nL) (hin : y.name = "<init>")
    (body : ∀ (p : Program) (e : Env) (s : State) (m : MethodId) (args : Array Value) (below : List Frame) (meth : Method) (c : Code) (ls : Array Slot) (Q : State → Prop) (A : Nat → Prop) (H : Heap), en p m c cc nL s args y.cls D g → wk D ws A H H [] → (∀ q, H.size ≤ q → A q) → NI s → meth.name = "<init>" → lv_has ls nL (lv_args 0 av) →
      (∀ (pc : Nat) (ls : Array Slot) (H1 : Heap) (locs : List Loc) (r : Nat → Nat), wk D (F r) A H H1 locs → decode cc pc = .ok (.return_, 1) → W p l e (rmi f k mc ms) s m args below meth c H1 locs mc ms Q (F0 m pc ls [])) →
      W p l e (rmi f k mc ms) s m args below meth c H [] 0 0 Q (F0 m 0 ls [])) : ci l y cc nL (rmi f k mc ms) D g ws av F mc ms := by
  intro sz
  refine Met.ofW (cc := cc) (maxL := nL) (ret := none) hy rfl ?_
  intro p e s m args below meth c s₁ B hml hv
  obtain ⟨rfl, hsz, hP, hK, hD0, hni⟩ := hv
  have hts := atoms_spec (ws := wsm y cc nL none) B.pre
  have hr := B.returns
  have hlocks := B.notSynchronized
  have hname : meth.name = "<init>" := (name_of_methodNamed B.named B.method).1.trans hin
  have E : en p m c cc nL s av.toArray y.cls D g := ⟨⟨B.exec, B.bytes, hml, findClass_of_methodNamed B.named, fun w h => hts w (List.mem_cons_of_mem _ h)⟩, hK⟩
  have hl := lv_entry av (n := nL) hlen
  rw [lg_entry_eq]
  generalize (lg_sl av ++ List.replicate (nL - (lg_sl av).length) Slot.unset).toArray = ls at hl ⊢
  subst hsz
  have hD := hD0.self (sz := s.heap.size)
  refine body p e s m av.toArray below meth c ls _ (va_A ws s.heap.size) s.heap E ⟨hP, hD, va_S.rf⟩ (fun q h => Or.inr h) hni hname hl ?_
  intro pc ls H1 locs r I hd
  exact W.vret B.exec B.bytes hr (fun t ht hW => ⟨⟨rfl, r, by rw [ht]; exact I.1, I.2.1, va_K.moved hW.alike E.2⟩, I.2.2.F ht⟩) I.2.2.2.2 hd
