/-! The base: one list of words for all methods (TB), a method's context (en), a world at hand (wk), contracts of methods that make nothing (ct), and the rows over them. -/
def TB : List Cond := lw_tbl.filter goodWord
theorem tb {w : Cond} (i : Nat) (h : lw_tbl[i]? = some w) (hg : goodWord w = true) : w ∈ TB := List.mem_filter.mpr ⟨List.mem_of_getElem? h, hg⟩
theorem TB_good {w : Cond} (h : w ∈ TB) : goodWord w = true := (List.mem_filter.mp h).2
theorem tb_sub {L : List Cond} (h1 : ∀ w ∈ L, w ∈ lw_tbl) (h2 : L.all goodWord = true) : ∀ w ∈ L, w ∈ TB := fun w h => List.mem_filter.mpr ⟨h1 w h, List.all_eq_true.mp h2 w h⟩
def gT (g : Nat → ClassId) : List (ClassId × FieldType) := [(g 0, .int), (g 1, .long), (g 2, .boolean), (g 3, .array .int), (g 4, .array .long)]
abbrev wsm (y : MethodName) (cc : ByteArray) (nL : Nat) (ret : Option FieldType) : List Cond := .code y cc nL ret :: TB
abbrev rmk (f k : Nat) : Room := { frames := f, cells := 0, slots := 0, locals := k }
def en (p : Program) (m : MethodId) (c : Code) (cc : ByteArray) (nL : Nat) (s : State) (args : Array Value) (own : String) (D : va_G) (g : Nat → ClassId) : Prop :=
  (p.tables.exec = Jvm.exec ∧ c.code = cc ∧ c.maxLocals = nL ∧ s.vm.findClass own = some m.cls ∧ ∀ w ∈ TB, w.before args s = true) ∧ va_K D vwCl (gT g) s
def wk (D : va_G) (ws : va_W) (A : Nat → Prop) (H0 H : Heap) (locs : List Loc) : Prop := va_P D vwCl ws H ∧ va_D A ws ∧ va_S A H0 H locs
def kA (ws : va_W) : Nat → Prop := fun q => ∃ (k : Nat) (e : va_E), ws[k]? = some (q, e)
def qR (rv : Option Value) (B : State → Prop) (A : Nat → Prop) : Array Value → State → Outcome → State → Prop := fun _ st oc t => (oc = .returned rv ∧ B t) ∧ va_F A st t
def ib (i : Int32) (n : Nat) : Bool := !(decide (i < 0)) && decide (i.toNatClampNeg < n)
theorem ib_in {i : Int32} {n : Nat} (h : ib i n = true) : vp_in i n := by
  simp only [ib, Bool.and_eq_true, Bool.not_eq_true', decide_eq_false_iff_not, decide_eq_true_eq] at h
  exact fun q => q.elim h.1 (fun q => Nat.not_lt.mpr q h.2)
theorem ib_lt {i : Int32} {n : Nat} (h : ib i n = true) : i.toNatClampNeg < n := by
  simp only [ib, Bool.and_eq_true, decide_eq_true_eq] at h
  exact h.2
def zok (v : Int32) : Bool := v == 0 || v == 1
theorem zok_n {v : Int32} (h : zok v = true) : narrow .boolean (.int v) = .int v := by
  simp only [zok, Bool.or_eq_true, beq_iff_eq] at h
  rcases h with rfl | rfl <;> rfl
/-- a copy's bounds -/
def cg (sp dp n : Int32) (n0 n1 : Nat) : Bool := !(decide (sp < 0)) && !(decide (dp < 0)) && !(decide (n < 0)) && decide (sp.toNatClampNeg + n.toNatClampNeg ≤ n0) && decide (dp.toNatClampNeg + n.toNatClampNeg ≤ n1)
theorem cg_of {sp dp n : Int32} {n0 n1 : Nat} (h : cg sp dp n n0 n1 = true) : ¬ sp < 0 ∧ ¬ dp < 0 ∧ ¬ n < 0 ∧ sp.toNatClampNeg + n.toNatClampNeg ≤ n0 ∧ dp.toNatClampNeg + n.toNatClampNeg ≤ n1 := by
  simp only [cg, Bool.and_eq_true, Bool.not_eq_true', decide_eq_false_iff_not, decide_eq_true_eq] at h
  exact ⟨h.1.1.1.1, h.1.1.1.2, h.1.1.2, h.1.2, h.2⟩
/-- no NaN -/
def nn (r : UInt64) : Bool := decide (r &&& 0x7fffffffffffffff ≤ 0x7ff0000000000000)
theorem nn_of {r : UInt64} (h : nn r = true) : vf_n64 r := by
  simp only [nn, decide_eq_true_eq] at h
  exact h
-- the shapes of the pure pictures
theorem gd {α : Type} {c : Bool} {K : Option α} {o : α} (h : (if c = true then K else none) = some o) : c = true ∧ K = some o := by
  by_cases hc : c = true
  · rw [if_pos hc] at h; exact ⟨hc, h⟩
  · rw [if_neg hc] at h; cases h
theorem gz {α : Type} {y : Int32} {K : Option α} {o : α} (h : (if y = 0 then none else K) = some o) : ¬ y = 0 ∧ K = some o := by
  by_cases hc : y = 0
  · rw [if_pos hc] at h; cases h
  · rw [if_neg hc] at h; exact ⟨hc, h⟩
theorem ifp {α : Type} {c : Prop} {_ : Decidable c} {T F : α} {o : α} (hc : c) (h : (if c then T else F) = o) : T = o := by rw [if_pos hc] at h; exact h
theorem ifn {α : Type} {c : Prop} {_ : Decidable c} {T F : α} {o : α} (hc : ¬ c) (h : (if c then T else F) = o) : F = o := by rw [if_neg hc] at h; exact h
def bi1 {α β : Type} (x : Option α) (f : α → Option β) : Option β := match x with
  | none => none
  | some a => f a
def bi2 {α β γ : Type} (x : Option (α × β)) (f : α → β → Option γ) : Option γ := match x with
  | none => none
  | some z => f z.1 z.2
theorem bx1 {α β : Type} {x : Option α} {f : α → Option β} {o : β} (h : bi1 x f = some o) : ∃ a, x = some a ∧ f a = some o := by
  cases x with
  | none => cases h
  | some a => exact ⟨a, rfl, h⟩
theorem bx2 {α β γ : Type} {x : Option (α × β)} {f : α → β → Option γ} {o : γ} (h : bi2 x f = some o) : ∃ a b, x = some (a, b) ∧ f a b = some o := by
  cases x with
  | none => cases h
  | some z => exact ⟨z.1, z.2, rfl, h⟩
/-- a call that may throw, in a method that may: (state, throw's number or answer) -/
def bt2 {α β γ : Type} (x : Option (α × (Nat ⊕ β))) (f : α → β → Option (α × (Nat ⊕ γ))) : Option (α × (Nat ⊕ γ)) := match x with
  | none => none
  | some (s, .inl e) => some (s, .inl e)
  | some (s, .inr b) => f s b
/-- the same, the callee being static and without a state -/
def bt0 {α β γ : Type} (s : α) (x : Nat ⊕ β) (f : β → Option (α × (Nat ⊕ γ))) : Option (α × (Nat ⊕ γ)) := match x with
  | .inl e => some (s, .inl e)
  | .inr b => f b
/-- a call that could throw, in a method that doesn't -/
def nx {α β : Type} (x : Option (α × (Nat ⊕ β))) : Option (α × β) := match x with
  | some (s, .inr b) => some (s, b)
  | _ => none
theorem nxx {α β γ : Type} {x : Option (α × (Nat ⊕ β))} {f : α → β → Option γ} {o : γ} (h : bi2 (nx x) f = some o) : ∃ a b, x = some (a, .inr b) ∧ f a b = some o := by
  match x, h with
  | none, h => cases h
  | some (s, .inl e), h => cases h
  | some (s, .inr b), h => exact ⟨s, b, rfl, h⟩
theorem bt2n {α β γ : Type} {x : Option (α × (Nat ⊕ β))} {f : α → β → Option (α × (Nat ⊕ γ))} {s' : α} {r : γ} (h : bt2 x f = some (s', .inr r)) : ∃ a b, x = some (a, .inr b) ∧ f a b = some (s', .inr r) := by
  match x, h with
  | none, h => cases h
  | some (s, .inl e), h => cases h
  | some (s, .inr b), h => exact ⟨s, b, rfl, h⟩
theorem bt2t {α β γ : Type} {x : Option (α × (Nat ⊕ β))} {f : α → β → Option (α × (Nat ⊕ γ))} {s' : α} {e : Nat} (h : bt2 x f = some (s', .inl e)) : x = some (s', .inl e) ∨ ∃ a b, x = some (a, .inr b) ∧ f a b = some (s', .inl e) := by
  match x, h with
  | none, h => cases h
  | some (s, .inl e), h => cases h; exact Or.inl rfl
  | some (s, .inr b), h => exact Or.inr ⟨s, b, rfl, h⟩
theorem bt0n {α β γ : Type} {s : α} {x : Nat ⊕ β} {f : β → Option (α × (Nat ⊕ γ))} {s' : α} {r : γ} (h : bt0 s x f = some (s', .inr r)) : ∃ b, x = .inr b ∧ f b = some (s', .inr r) := by
  match x, h with
  | .inl e, h => cases h
  | .inr b, h => exact ⟨b, rfl, h⟩
theorem bt0t {α β γ : Type} {s : α} {x : Nat ⊕ β} {f : β → Option (α × (Nat ⊕ γ))} {s' : α} {e : Nat} (h : bt0 s x f = some (s', .inl e)) : (x = .inl e ∧ s = s') ∨ ∃ b, x = .inr b ∧ f b = some (s', .inl e) := by
  match x, h with
  | .inl e, h => cases h; exact Or.inl ⟨rfl, rfl⟩
  | .inr b, h => exact Or.inr ⟨b, rfl, h⟩
def lq {α β : Type} (a : α) (f : α → β) : β := f a
theorem lqx {α β : Type} {a : α} {f : α → β} {o : β} (h : lq a f = o) : ∃ x, x = a ∧ f x = o := ⟨a, rfl, h⟩
def FU : Nat := 5000
/-- a loop: inl goes on, inr leaves -/
def wh {σ ρ : Type} (b : σ → Option (σ ⊕ ρ)) : Nat → σ → Option ρ
  | 0, _ => none
  | n + 1, z => match b z with
    | none => none
    | some (.inl z') => wh b n z'
    | some (.inr r) => some r
theorem wh_W {σ ρ : Type} {b : σ → Option (σ ⊕ ρ)} {P : σ → Prop} {X : ρ → Prop} (hb : ∀ z o, b z = some o → Sum.elim P X o → P z) : ∀ (n : Nat) (z : σ) (r : ρ), wh b n z = some r → X r → P z
  | 0, z, r, h, _ => by cases h
  | n + 1, z, r, h, hX => by
    rw [wh] at h
    cases hbz : b z with
    | none => rw [hbz] at h; cases h
    | some o =>
      rw [hbz] at h
      cases o with
      | inl z' => exact hb z _ hbz (wh_W hb n z' r h hX)
      | inr r' => cases h; exact hb z _ hbz hX
theorem va_D_keys {A : Nat → Prop} {ws ws' : va_W} (hk : ws'.map Prod.fst = ws.map Prod.fst) (h : va_D A ws) : va_D A ws' := by
  have key : ∀ (k : Nat) (q : Nat × va_E), ws'[k]? = some q → ∃ q0, ws[k]? = some q0 ∧ q0.1 = q.1 := by
    intro k q hq
    have h1 : (ws'.map Prod.fst)[k]? = some q.1 := by rw [List.getElem?_map, hq]; rfl
    rw [hk, List.getElem?_map] at h1
    cases h2 : ws[k]? with
    | none => rw [h2] at h1; cases h1
    | some q0 => rw [h2] at h1; exact ⟨q0, rfl, Option.some.inj h1⟩
  refine ⟨fun i j x y hi hj hxy => ?_, fun k q hq => ?_⟩
  · obtain ⟨x0, a1, a2⟩ := key i x hi
    obtain ⟨y0, b1, b2⟩ := key j y hj
    exact h.1 i j x0 y0 a1 b1 (a2.trans (hxy.trans b2.symm))
  · obtain ⟨q0, a1, a2⟩ := key k q hq
    rw [← a2]
    exact h.2 k q0 a1
/-- a method that returns rv and makes nothing: from the world ws to the world ws' -/
def ct (l : Launch) (y : MethodName) (cc : ByteArray) (nL : Nat) (ret : Option FieldType) (rm : Room) (D : va_G) (g : Nat → ClassId) (ws ws' : va_W) (av : List Value) (rv : Option Value) : Prop :=
  Met l y (wsm y cc nL ret) rm (va_Pc av (fun U => va_P D vwCl ws U.heap ∧ va_K D vwCl (gT g) U ∧ va_D (fun _ => True) ws)) (qR rv (fun t => va_P D vwCl ws' t.heap ∧ va_K D vwCl (gT g) t) (kA ws)) 0 0 (kA ws)
/-- what a call of y by the entry idx of own's file needs of the words -/
def cf (own : String) (idx : Nat) (y : MethodName) (cc : ByteArray) (nL : Nat) (ret : Option FieldType) (n : Nat) : Prop :=
  Cond.methodLink own idx y ∈ TB ∧ Cond.initialized y.cls ∈ TB ∧ Cond.code y cc nL ret ∈ TB ∧ (y.cls ≠ "java/lang/invoke/MethodHandle" ∧ y.cls ≠ "java/lang/invoke/VarHandle" ∧ (parseMethodDescriptor y.desc).map (fun d => d.parameters.length) = some n)
def cfV (own : String) (idx : Nat) (y : MethodName) (cc : ByteArray) (nL : Nat) (ret : Option FieldType) (n : Nat) : Prop := cf own idx y cc nL ret n ∧ Cond.instanceMethod y ∈ TB ∧ Cond.selects y.cls y y ∈ TB
def cfS (own : String) (idx : Nat) (y : MethodName) (cc : ByteArray) (nL : Nat) (ret : Option FieldType) (n : Nat) : Prop := cf own idx y cc nL ret n ∧ Cond.static y ∈ TB
section BS
variable {p : Program} {l : Launch} {e : Env} {R : Room} {s : State} {m : MethodId} {args : Array Value} {below : List Frame} {meth : Method} {c : Code} {H : Heap} {locs : List Loc} {cells slots : Nat} {Q : State → Prop}
variable {cc : ByteArray} {nL pc : Nat} {ls : Array Slot} {rest : List Value} {own : String} {D : va_G} {g : Nat → ClassId} {A : Nat → Prop} {H0 : Heap} {ws ws' : va_W} {a : Nat}
theorem r_get (E : en p m c cc nL s args own D g) (I : wk D ws A H0 H locs) (q0 ci k : Nat) {T : u_T} {N index : Nat} {fs : List Value} {v : Value} (he : ws[q0]? = some (a, .inr (ci, fs))) (hc : vwCl[ci]? = some (own, T, N)) (hin : ∀ w ∈ u_ws own T N, w ∈ TB) (hk : k < N) (hlink : Cond.fieldLink own index (T k).1 (T k).2.1 (T k).2.2.1 ∈ TB) (hv : fs[k]? = some v) (hdg : decode cc pc = .ok (.getfield index, 3))
    (kk : W p l e R s m args below meth c H locs cells slots Q (F0 m (pc + 3) ls (v :: rest))) : W p l e R s m args below meth c H locs cells slots Q (F0 m pc ls (.ref a :: rest)) :=
  va_get E.1.1 E.1.2.1 E.1.2.2.2.2 hin E.1.2.2.2.1 E.2 I.1 q0 he hc k hk (E.1.2.2.2.2 _ hlink) (fun _ h => h) hv hdg kk
theorem r_put (E : en p m c cc nL s args own D g) (I : wk D ws A H0 H locs) (q0 ci k : Nat) {T : u_T} {N index : Nat} {fs : List Value} {v : Value} (he : ws[q0]? = some (a, .inr (ci, fs))) (hset : ws.set q0 (a, .inr (ci, fs.set k v)) = ws') (hc : vwCl[ci]? = some (own, T, N)) (hin : ∀ w ∈ u_ws own T N, w ∈ TB) (ty0 : Nat → FieldType) (hty : ∀ k, k < N → parseFieldDescriptor (T k).2.2.1 = some (ty0 k)) (hnm : ∀ a, a < N → ∀ b, b < N → a ≠ b → (T a).2.1 ≠ (T b).2.1) (hk : k < N) (hlink : Cond.fieldLink own index (T k).1 (T k).2.1 (T k).2.2.1 ∈ TB) (hfin : (T k).2.2.2 = false) {ty : FieldType} (hd : parseFieldDescriptor (T k).2.2.1 = some ty) (hn : narrow ty v = v) (hfit : fits ty v = true) (hl : k < fs.length) (hdg : decode cc pc = .ok (.putfield index, 3))
    (kk : ∀ (H1 : Heap) (locs1 : List Loc), wk D ws' A H0 H1 locs1 → W p l e R s m args below meth c H1 locs1 cells slots Q (F0 m (pc + 3) ls rest)) : W p l e R s m args below meth c H locs cells slots Q (F0 m pc ls (v :: .ref a :: rest)) := by
  subst hset
  exact va_put E.1.1 E.1.2.1 E.1.2.2.2.2 hin ty0 hty hnm E.1.2.2.2.1 E.2 I.1 I.2.1 I.2.2 q0 he hc k hk (E.1.2.2.2.2 _ hlink) (fun _ h => h) hfin hd hn hfit hl hdg (fun H1 L1 h1 h2 h3 => kk H1 L1 ⟨h1, h2, h3⟩)
theorem r_iald (E : en p m c cc nL s args own D g) (I : wk D ws A H0 H locs) (q0 : Nat) {n : Nat} {f : Nat → Int32} (ha : ws[q0]? = some (a, .inl (g 0, n, .inl f))) {i : Int32} (hin : ib i n = true) (hdg : decode cc pc = .ok (.iaload, 1))
    (kk : W p l e R s m args below meth c H locs cells slots Q (F0 m (pc + 1) ls (.int (f i.toNatClampNeg) :: rest))) : W p l e R s m args below meth c H locs cells slots Q (F0 m pc ls (.int i :: .ref a :: rest)) :=
  va_iald E.1.1 E.1.2.1 E.2 I.1 q0 0 ha rfl (ib_in hin) hdg kk
theorem r_lald (E : en p m c cc nL s args own D g) (I : wk D ws A H0 H locs) (q0 : Nat) {n : Nat} {f : Nat → Int64} (ha : ws[q0]? = some (a, .inl (g 1, n, .inr (.inl f)))) {i : Int32} (hin : ib i n = true) (hdg : decode cc pc = .ok (.laload, 1))
    (kk : W p l e R s m args below meth c H locs cells slots Q (F0 m (pc + 1) ls (.long (f i.toNatClampNeg) :: rest))) : W p l e R s m args below meth c H locs cells slots Q (F0 m pc ls (.int i :: .ref a :: rest)) :=
  va_lald E.1.1 E.1.2.1 E.2 I.1 q0 1 ha rfl (ib_in hin) hdg kk
theorem r_zald (E : en p m c cc nL s args own D g) (I : wk D ws A H0 H locs) (q0 : Nat) {n : Nat} {f : Nat → Int32} (ha : ws[q0]? = some (a, .inl (g 2, n, .inl f))) {i : Int32} (hin : ib i n = true) (hdg : decode cc pc = .ok (.baload, 1))
    (kk : W p l e R s m args below meth c H locs cells slots Q (F0 m (pc + 1) ls (.int (f i.toNatClampNeg) :: rest))) : W p l e R s m args below meth c H locs cells slots Q (F0 m pc ls (.int i :: .ref a :: rest)) :=
  va_zald E.1.1 E.1.2.1 E.2 I.1 q0 2 ha rfl (ib_in hin) hdg kk
/-- a row of an array of arrays -/
theorem r_aald (E : en p m c cc nL s args own D g) (I : wk D ws A H0 H locs) (q0 t0 : Nat) {cA : ClassId} {ty : FieldType} {n : Nat} {f : Nat → Option Nat} (ha : ws[q0]? = some (a, .inl (cA, n, .inr (.inr (.inr (.inr f)))))) (ht : (gT g)[t0]? = some (cA, .array ty)) {i : Int32} {b : Nat} (hin : ib i n = true) (hb2 : f i.toNatClampNeg = some b) (hdg : decode cc pc = .ok (.aaload, 1))
    (kk : W p l e R s m args below meth c H locs cells slots Q (F0 m (pc + 1) ls (.ref b :: rest))) : W p l e R s m args below meth c H locs cells slots Q (F0 m pc ls (.int i :: .ref a :: rest)) := by
  have hlt : i.toNatClampNeg < n := ib_lt hin
  have hin' := ib_in hin
  exact W.aald (v := .ref b) (ty := .array ty) E.1.1 E.1.2.1 (I.1 q0 _ ha) ((E.2.2 t0 _ ht).1 n (fun j => va_rf (f j))) rfl (fun q => by cases q) (by show ¬ (i < 0 ∨ (arrV _ _ _).slots.size ≤ _); rw [arrV_size]; exact hin') (by show (arrV _ _ _).slots[_]? = _; rw [arrV_read _ _ hlt, hb2]; rfl) rfl rfl hdg kk
theorem r_iast (E : en p m c cc nL s args own D g) (I : wk D ws A H0 H locs) (q0 : Nat) {n : Nat} {f : Nat → Int32} (ha : ws[q0]? = some (a, .inl (g 0, n, .inl f))) {i x : Int32} (hset : ws.set q0 (a, .inl (g 0, n, .inl (upd f i.toNatClampNeg x))) = ws') (hin : ib i n = true) (hdg : decode cc pc = .ok (.iastore, 1))
    (kk : ∀ (H1 : Heap) (locs1 : List Loc), wk D ws' A H0 H1 locs1 → W p l e R s m args below meth c H1 locs1 cells slots Q (F0 m (pc + 1) ls rest)) : W p l e R s m args below meth c H locs cells slots Q (F0 m pc ls (.int x :: .int i :: .ref a :: rest)) := by
  subst hset
  exact va_iast E.1.1 E.1.2.1 E.2 I.1 I.2.1 I.2.2 q0 0 ha rfl (ib_in hin) hdg (fun H1 L1 h1 h2 h3 => kk H1 L1 ⟨h1, h2, h3⟩)
theorem r_last (E : en p m c cc nL s args own D g) (I : wk D ws A H0 H locs) (q0 : Nat) {n : Nat} {f : Nat → Int64} (ha : ws[q0]? = some (a, .inl (g 1, n, .inr (.inl f)))) {i : Int32} {x : Int64} (hset : ws.set q0 (a, .inl (g 1, n, .inr (.inl (vp_updL f i.toNatClampNeg x)))) = ws') (hin : ib i n = true) (hdg : decode cc pc = .ok (.lastore, 1))
    (kk : ∀ (H1 : Heap) (locs1 : List Loc), wk D ws' A H0 H1 locs1 → W p l e R s m args below meth c H1 locs1 cells slots Q (F0 m (pc + 1) ls rest)) : W p l e R s m args below meth c H locs cells slots Q (F0 m pc ls (.long x :: .int i :: .ref a :: rest)) := by
  subst hset
  exact va_last E.1.1 E.1.2.1 E.2 I.1 I.2.1 I.2.2 q0 1 ha rfl (ib_in hin) hdg (fun H1 L1 h1 h2 h3 => kk H1 L1 ⟨h1, h2, h3⟩)
theorem r_zast (E : en p m c cc nL s args own D g) (I : wk D ws A H0 H locs) (q0 : Nat) {n : Nat} {f : Nat → Int32} (ha : ws[q0]? = some (a, .inl (g 2, n, .inl f))) {i x : Int32} (hset : ws.set q0 (a, .inl (g 2, n, .inl (upd f i.toNatClampNeg (vp_nar .boolean x)))) = ws') (hin : ib i n = true) (hdg : decode cc pc = .ok (.bastore, 1))
    (kk : ∀ (H1 : Heap) (locs1 : List Loc), wk D ws' A H0 H1 locs1 → W p l e R s m args below meth c H1 locs1 cells slots Q (F0 m (pc + 1) ls rest)) : W p l e R s m args below meth c H locs cells slots Q (F0 m pc ls (.int x :: .int i :: .ref a :: rest)) := by
  subst hset
  exact va_zast E.1.1 E.1.2.1 E.2 I.1 I.2.1 I.2.2 q0 2 ha rfl (ib_in hin) hdg (fun H1 L1 h1 h2 h3 => kk H1 L1 ⟨h1, h2, h3⟩)
/-- System.arraycopy between int arrays -/
theorem r_copy (E : en p m c cc nL s args own D g) (I : wk D ws A H0 H locs) (q0 q1 : Nat) {a0 index n0 n1 : Nat} {f h : Nat → Int32} (hls : ls.size = nL) (hlink : Cond.methodLink own index arraycopyName ∈ TB) (hnat : Cond.native arraycopyName ∈ TB) (hstat : Cond.static arraycopyName ∈ TB) (hini : Cond.initialized "java/lang/System" ∈ TB)
    (ha0 : ws[q0]? = some (a0, .inl (g 0, n0, .inl f))) (ha1 : ws[q1]? = some (a, .inl (g 0, n1, .inl h))) {sp dp n : Int32} (hg : cg sp dp n n0 n1 = true) (hset : ws.set q1 (a, .inl (g 0, n1, .inl (va_cpy f h sp.toNatClampNeg dp.toNatClampNeg n.toNatClampNeg))) = ws')
    (hframes : 1 ≤ R.frames) (hlocals : (rest.map fun v => v.category).sum + (nativeFrameWords "java/lang/System" "arraycopy" 5 + 11) ≤ R.locals) (hdg : decode cc pc = .ok (.invokestatic index, 3))
    (kk : ∀ (H1 : Heap) (locs1 : List Loc), wk D ws' A H0 H1 locs1 → W p l e R s m args below meth c H1 locs1 cells slots Q (F0 m (pc + 3) ls rest)) : W p l e R s m args below meth c H locs cells slots Q (F0 m pc ls (.int n :: .int dp :: .ref a :: .int sp :: .ref a0 :: rest)) := by
  subst hset
  obtain ⟨h1, h2, h3, h4, h5⟩ := cg_of hg
  exact va_copyi E.1.1 E.1.2.1 (E.1.2.2.1.trans hls.symm) E.1.2.2.2.1 (E.1.2.2.2.2 _ hlink) (E.1.2.2.2.2 _ hnat) (E.1.2.2.2.2 _ hstat) (E.1.2.2.2.2 _ hini) E.2 I.1 I.2.1 I.2.2 q0 q1 0 0 ha0 ha1 rfl rfl rfl h1 h2 h3 h4 h5 (fun _ _ => rfl) hframes hlocals hdg (fun H1 L1 h1 h2 h3 => kk H1 L1 ⟨h1, h2, h3⟩)
theorem r_run {st0 : List Value} {av : Array Value} {wc wc' : va_W} {rv : Option Value} (hr : va_Run p l e R s m args below meth c H locs cells slots 0 0 (F0 m pc ls st0) rest (qR rv (fun t => va_P D vwCl wc' t.heap ∧ va_K D vwCl (gT g) t) (kA wc) av) (kA wc)) (hS : va_S A H0 H locs) (hA : ∀ q, kA wc q → A q)
    (kk : ∀ (H1 : Heap) (locs1 : List Loc), va_P D vwCl wc' H1 → H.size ≤ H1.size → (∀ q : Nat, q < H.size → ¬ kA wc q → H1[q]? = H[q]?) → va_S A H0 H1 locs1 → W p l e R s m args below meth c H1 locs1 cells slots Q (F0 m (pc + 3) ls (rv.toList ++ rest))) : W p l e R s m args below meth c H locs cells slots Q (F0 m pc ls st0) := by
  intro T hT X
  obtain ⟨v, st₀, t, T', L, h0, X', hL, e1, e2, ⟨⟨hv, hb, -⟩, hz, hk⟩, st⟩ := hr T hT X
  cases hv
  rw [h0] at hz hk
  obtain ⟨t2, a1, b1⟩ := kk T'.heap (locs ++ L) (by rw [e1]; exact hb) (by rw [e1]; exact hz) (fun q h1 h2 => by rw [e1]; exact hk q h1 h2)
    ⟨Nat.le_trans hS.1 (by rw [e1]; exact hz), fun q h1 h2 => by rw [e1, hk q (Nat.lt_of_lt_of_le h1 hS.1) (fun z => h2 (hA q z))]; exact hS.2.1 q h1 h2, fun q hq => by
      rcases List.mem_append.mp hq with h | h
      · exact hS.2.2 q h
      · exact hA _ (hL q h)⟩ T' rfl X'
  exact ⟨t2, st t2 a1, b1⟩
theorem wsm_good {y : MethodName} {cc : ByteArray} {nL : Nat} {ret : Option FieldType} (h : Cond.code y cc nL ret ∈ TB) : GoodIn TB (wsm y cc nL ret) := fun w hw => by
  rcases List.mem_cons.mp hw with rfl | hw
  · exact ⟨h, good_of_word (TB_good h)⟩
  · exact ⟨hw, good_of_word (TB_good hw)⟩
theorem r_cb {idx n nY : Nat} {y : MethodName} {cY : ByteArray} {ret : Option FieldType} {f k : Nat} (E : en p m c cc nL s args own D g) (w : cf own idx y cY nY ret n) (hR : f + 1 ≤ R.frames ∧ 8 + (nY + 11) + k ≤ R.locals) : CallB R s args own idx y cY nY ret (wsm y cY nY ret) (rmk f k) 0 0 n :=
  callB_of n E.1.2.2.2.2 (wsm_good w.2.2.1) rfl rfl rfl (E.1.2.2.2.2 _ w.2.1) (E.1.2.2.2.2 _ w.1) w.2.2.2 hR
theorem r_blind {av : List Value} : FrameBlind (va_Pc av (fun U => va_P D vwCl ws U.heap ∧ va_K D vwCl (gT g) U ∧ va_D (fun _ => True) ws)) := fun a U f mk q => ⟨q.1, q.2.1, va_K.moved (u := U) (U := U.calling f mk a) (Vm.Alike.refl U.vm) q.2.2.1, q.2.2.2⟩
theorem r_pre {av : List Value} (E : en p m c cc nL s args own D g) (hP : va_P D vwCl ws H) (hD : va_D A ws) : ∀ U : State, U.heap = H → s.WarmedH U.vm → va_Pc av (fun U => va_P D vwCl ws U.heap ∧ va_K D vwCl (gT g) U ∧ va_D (fun _ => True) ws) av.toArray U := fun U hU hW => ⟨rfl, by rw [hU]; exact hP, va_K.moved hW.alike E.2, hD.weaken (fun _ _ _ _ => trivial)⟩
theorem wk_run {wc : va_W} {H1 : Heap} {locs1 : List Loc} (I : wk D ws A H0 H locs) (h1 : va_P D vwCl ws' H1) (hk : ws'.map Prod.fst = ws.map Prod.fst) (hS : va_S A H0 H1 locs1) : wk D ws' A H0 H1 locs1 := ⟨h1, va_D_keys hk I.2.1, hS⟩
/-- a call of an instance method of the same world -/
theorem r_callV {idx n nY f k q0 ci N b : Nat} {y : MethodName} {cY : ByteArray} {ret : Option FieldType} {As st0 : List Value} {rv : Option Value} {T : u_T} {fs : List Value} (E : en p m c cc nL s args own D g) (I : wk D ws A H0 H locs) (hls : ls.size = nL) (w : cfV own idx y cY nY ret n) (hM : ct l y cY nY ret (rmk f k) D g ws ws' (.ref b :: As) rv) (hk : ws'.map Prod.fst = ws.map Prod.fst) (he : ws[q0]? = some (b, .inr (ci, fs))) (hc : vwCl[ci]? = some (y.cls, T, N)) (hn : As.length = n) (hst : st0 = As.reverse ++ .ref b :: rest) (hroom : (rest.map fun v => v.category).sum ≤ 8) (hR : f + 1 ≤ R.frames ∧ 8 + (nY + 11) + k ≤ R.locals) (hf : cells ≤ R.cells ∧ slots ≤ R.slots) (hdg : decode cc pc = .ok (.invokevirtual idx, 3))
    (kk : ∀ (H1 : Heap) (locs1 : List Loc), wk D ws' A H0 H1 locs1 → W p l e R s m args below meth c H1 locs1 cells slots Q (F0 m (pc + 3) ls (rv.toList ++ rest))) : W p l e R s m args below meth c H locs cells slots Q (F0 m pc ls st0) :=
  r_run (va_runV (As := As) (rest := rest) (cells := cells) (slots := slots) (mc := 0) (ms := 0) E.1 hM ⟨r_cb E w.1 hR, E.1.2.2.2.2 _ w.2.1, E.1.2.2.2.2 _ w.2.2⟩ ⟨r_blind, va_recv E.2 I.1 hc he, r_pre E I.1 I.2.1⟩ rfl hn hls hst (lv_room hroom) hdg hf) I.2.2 (fun q h => by obtain ⟨k, e, h⟩ := h; exact I.2.1.2 k _ h) (fun H1 L1 h1 _ _ h3 => kk H1 L1 (wk_run (wc := ws) I h1 hk h3))
theorem kA_nil {q : Nat} : ¬ kA [] q := fun h => by obtain ⟨k, e, h⟩ := h; simp at h
theorem va_P_nil {H : Heap} : va_P D vwCl [] H := fun k q h => by simp at h
theorem va_D_nil : va_D A [] := ⟨fun i j p q h => by simp at h, fun k q h => by simp at h⟩
/-- a call of a static method that looks at no world -/
theorem r_callS {idx n nY f k : Nat} {y : MethodName} {cY : ByteArray} {ret : Option FieldType} {As st0 : List Value} {rv : Option Value} (E : en p m c cc nL s args own D g) (I : wk D ws A H0 H locs) (hls : ls.size = nL) (w : cfS own idx y cY nY ret n) (hM : ct l y cY nY ret (rmk f k) D g [] [] As rv) (hn : As.length = n) (hst : st0 = As.reverse ++ rest) (hroom : (rest.map fun v => v.category).sum ≤ 8) (hR : f + 1 ≤ R.frames ∧ 8 + (nY + 11) + k ≤ R.locals) (hf : cells ≤ R.cells ∧ slots ≤ R.slots) (hdg : decode cc pc = .ok (.invokestatic idx, 3))
    (kk : ∀ (H1 : Heap) (locs1 : List Loc), wk D ws A H0 H1 locs1 → W p l e R s m args below meth c H1 locs1 cells slots Q (F0 m (pc + 3) ls (rv.toList ++ rest))) : W p l e R s m args below meth c H locs cells slots Q (F0 m pc ls st0) :=
  r_run (va_runS (As := As) (rest := rest) (cells := cells) (slots := slots) (mc := 0) (ms := 0) E.1 hM ⟨r_cb E w.1 hR, E.1.2.2.2.2 _ w.2⟩ ⟨r_blind, r_pre E (H := H) va_P_nil (A := A) va_D_nil⟩ rfl hn hls hst (lv_room hroom) hdg hf) I.2.2 (fun q h => absurd h kA_nil) (fun H1 L1 _ _ h2 h3 => kk H1 L1 ⟨fun k q hq => (I.1 k q hq).kept (h2 q.1 (I.1 k q hq).lt kA_nil), I.2.1, h3⟩)
theorem r_callV1 {idx n nY f k q0 ci N b : Nat} {y : MethodName} {cY : ByteArray} {ret : Option FieldType} {As st0 : List Value} {v : Value} {T : u_T} {fs : List Value} (E : en p m c cc nL s args own D g) (I : wk D ws A H0 H locs) (hls : ls.size = nL) (w : cfV own idx y cY nY ret n) (hM : ct l y cY nY ret (rmk f k) D g ws ws' (.ref b :: As) (some v)) (hk : ws'.map Prod.fst = ws.map Prod.fst) (he : ws[q0]? = some (b, .inr (ci, fs))) (hc : vwCl[ci]? = some (y.cls, T, N)) (hn : As.length = n) (hst : st0 = As.reverse ++ .ref b :: rest) (hroom : (rest.map fun v => v.category).sum ≤ 8) (hR : f + 1 ≤ R.frames ∧ 8 + (nY + 11) + k ≤ R.locals) (hf : cells ≤ R.cells ∧ slots ≤ R.slots) (hdg : decode cc pc = .ok (.invokevirtual idx, 3))
    (kk : ∀ (H1 : Heap) (locs1 : List Loc), wk D ws' A H0 H1 locs1 → W p l e R s m args below meth c H1 locs1 cells slots Q (F0 m (pc + 3) ls (v :: rest))) : W p l e R s m args below meth c H locs cells slots Q (F0 m pc ls st0) := r_callV E I hls w hM hk he hc hn hst hroom hR hf hdg kk
theorem r_callV0 {idx n nY f k q0 ci N b : Nat} {y : MethodName} {cY : ByteArray} {ret : Option FieldType} {As st0 : List Value} {T : u_T} {fs : List Value} (E : en p m c cc nL s args own D g) (I : wk D ws A H0 H locs) (hls : ls.size = nL) (w : cfV own idx y cY nY ret n) (hM : ct l y cY nY ret (rmk f k) D g ws ws' (.ref b :: As) none) (hk : ws'.map Prod.fst = ws.map Prod.fst) (he : ws[q0]? = some (b, .inr (ci, fs))) (hc : vwCl[ci]? = some (y.cls, T, N)) (hn : As.length = n) (hst : st0 = As.reverse ++ .ref b :: rest) (hroom : (rest.map fun v => v.category).sum ≤ 8) (hR : f + 1 ≤ R.frames ∧ 8 + (nY + 11) + k ≤ R.locals) (hf : cells ≤ R.cells ∧ slots ≤ R.slots) (hdg : decode cc pc = .ok (.invokevirtual idx, 3))
    (kk : ∀ (H1 : Heap) (locs1 : List Loc), wk D ws' A H0 H1 locs1 → W p l e R s m args below meth c H1 locs1 cells slots Q (F0 m (pc + 3) ls rest)) : W p l e R s m args below meth c H locs cells slots Q (F0 m pc ls st0) := r_callV E I hls w hM hk he hc hn hst hroom hR hf hdg kk
theorem r_callS1 {idx n nY f k : Nat} {y : MethodName} {cY : ByteArray} {ret : Option FieldType} {As st0 : List Value} {v : Value} (E : en p m c cc nL s args own D g) (I : wk D ws A H0 H locs) (hls : ls.size = nL) (w : cfS own idx y cY nY ret n) (hM : ct l y cY nY ret (rmk f k) D g [] [] As (some v)) (hn : As.length = n) (hst : st0 = As.reverse ++ rest) (hroom : (rest.map fun v => v.category).sum ≤ 8) (hR : f + 1 ≤ R.frames ∧ 8 + (nY + 11) + k ≤ R.locals) (hf : cells ≤ R.cells ∧ slots ≤ R.slots) (hdg : decode cc pc = .ok (.invokestatic idx, 3))
    (kk : ∀ (H1 : Heap) (locs1 : List Loc), wk D ws A H0 H1 locs1 → W p l e R s m args below meth c H1 locs1 cells slots Q (F0 m (pc + 3) ls (v :: rest))) : W p l e R s m args below meth c H locs cells slots Q (F0 m pc ls st0) := r_callS E I hls w hM hn hst hroom hR hf hdg kk
theorem r_callS0 {idx n nY f k : Nat} {y : MethodName} {cY : ByteArray} {ret : Option FieldType} {As st0 : List Value} (E : en p m c cc nL s args own D g) (I : wk D ws A H0 H locs) (hls : ls.size = nL) (w : cfS own idx y cY nY ret n) (hM : ct l y cY nY ret (rmk f k) D g [] [] As none) (hn : As.length = n) (hst : st0 = As.reverse ++ rest) (hroom : (rest.map fun v => v.category).sum ≤ 8) (hR : f + 1 ≤ R.frames ∧ 8 + (nY + 11) + k ≤ R.locals) (hf : cells ≤ R.cells ∧ slots ≤ R.slots) (hdg : decode cc pc = .ok (.invokestatic idx, 3))
    (kk : ∀ (H1 : Heap) (locs1 : List Loc), wk D ws A H0 H1 locs1 → W p l e R s m args below meth c H1 locs1 cells slots Q (F0 m (pc + 3) ls rest)) : W p l e R s m args below meth c H locs cells slots Q (F0 m pc ls st0) := r_callS E I hls w hM hn hst hroom hR hf hdg kk
theorem r_mmin {idx : Nat} (E : en p m c cc nL s args own D g) (hls : ls.size = nL) (w : Cond.methodLink own idx Lib.Math.min.name ∈ TB ∧ Cond.static Lib.Math.min.name ∈ TB ∧ Cond.initialized "java/lang/Math" ∈ TB ∧ Cond.code Lib.Math.min.name Lib.Math.min.code 2 (some .int) ∈ TB) (hframes : 1 ≤ R.frames) (hlocals : (rest.map fun v => v.category).sum + 13 ≤ R.locals) {x y : Int32} (hdg : decode cc pc = .ok (.invokestatic idx, 3))
    (kk : W p l e R s m args below meth c H locs 0 0 Q (F0 m (pc + 3) ls (.int (if y < x then y else x) :: rest))) : W p l e R s m args below meth c H locs 0 0 Q (F0 m pc ls (.int y :: .int x :: rest)) :=
  va_mmin E.1.1 E.1.2.1 (E.1.2.2.1.trans hls.symm) E.1.2.2.2.1 (E.1.2.2.2.2 _ w.1) (E.1.2.2.2.2 _ w.2.1) (E.1.2.2.2.2 _ w.2.2.1) (E.1.2.2.2.2 _ w.2.2.2) hframes hlocals (Nat.zero_le _) (Nat.zero_le _) hdg kk
theorem r_mmax {idx : Nat} (E : en p m c cc nL s args own D g) (hls : ls.size = nL) (w : Cond.methodLink own idx Lib.Math.max.name ∈ TB ∧ Cond.static Lib.Math.max.name ∈ TB ∧ Cond.initialized "java/lang/Math" ∈ TB ∧ Cond.code Lib.Math.max.name Lib.Math.max.code 2 (some .int) ∈ TB) (hframes : 1 ≤ R.frames) (hlocals : (rest.map fun v => v.category).sum + 13 ≤ R.locals) {x y : Int32} (hdg : decode cc pc = .ok (.invokestatic idx, 3))
    (kk : W p l e R s m args below meth c H locs 0 0 Q (F0 m (pc + 3) ls (.int (if x < y then y else x) :: rest))) : W p l e R s m args below meth c H locs 0 0 Q (F0 m pc ls (.int y :: .int x :: rest)) :=
  va_mmax E.1.1 E.1.2.1 (E.1.2.2.1.trans hls.symm) E.1.2.2.2.1 (E.1.2.2.2.2 _ w.1) (E.1.2.2.2.2 _ w.2.1) (E.1.2.2.2.2 _ w.2.2.1) (E.1.2.2.2.2 _ w.2.2.2) hframes hlocals (Nat.zero_le _) (Nat.zero_le _) hdg kk
theorem r_raw {idx : Nat} (E : en p m c cc nL s args own D g) (hls : ls.size = nL) (w : Cond.methodLink own idx ⟨"java/lang/Double", "doubleToRawLongBits", "(D)J"⟩ ∈ TB) (hnat : Cond.native ⟨"java/lang/Double", "doubleToRawLongBits", "(D)J"⟩ ∈ TB) (hstat : Cond.static ⟨"java/lang/Double", "doubleToRawLongBits", "(D)J"⟩ ∈ TB) (hini : Cond.initialized "java/lang/Double" ∈ TB) (hframes : 1 ≤ R.frames) (hlocals : (rest.map fun v => v.category).sum + 15 ≤ R.locals) {b : UInt64} (hdg : decode cc pc = .ok (.invokestatic idx, 3))
    (kk : W p l e R s m args below meth c H locs cells slots Q (F0 m (pc + 3) ls (.long b.toInt64 :: rest))) : W p l e R s m args below meth c H locs cells slots Q (F0 m pc ls (.double b :: rest)) :=
  vn_d2l E.1.1 E.1.2.1 (E.1.2.2.1.trans hls.symm) E.1.2.2.2.1 (E.1.2.2.2.2 _ w) (E.1.2.2.2.2 _ hnat) (E.1.2.2.2.2 _ hstat) (E.1.2.2.2.2 _ hini) hframes hlocals hdg kk
theorem sw_out9 {x : Int32} (h : ∀ k : Int32, (k = 0 ∨ k = 1 ∨ k = 2 ∨ k = 3 ∨ k = 4 ∨ k = 5 ∨ k = 6 ∨ k = 7 ∨ k = 8 ∨ k = 9) → ¬ x = k) : x.toInt < 0 ∨ 9 < x.toInt := by
  rcases (show x.toInt < 0 ∨ 0 ≤ x.toInt by omega) with q | q
  · exact Or.inl q
  · refine Or.inr (Int.not_le.mp fun q2 => ?_)
    have e : ∀ k : Int32, x.toInt = k.toInt → x = k := fun k hk => Int32.toInt_inj.mp hk
    have : x.toInt = 0 ∨ x.toInt = 1 ∨ x.toInt = 2 ∨ x.toInt = 3 ∨ x.toInt = 4 ∨ x.toInt = 5 ∨ x.toInt = 6 ∨ x.toInt = 7 ∨ x.toInt = 8 ∨ x.toInt = 9 := by omega
    rcases this with t | t | t | t | t | t | t | t | t | t
    · exact h 0 (by simp) (e 0 t)
    · exact h 1 (by simp) (e 1 t)
    · exact h 2 (by simp) (e 2 t)
    · exact h 3 (by simp) (e 3 t)
    · exact h 4 (by simp) (e 4 t)
    · exact h 5 (by simp) (e 5 t)
    · exact h 6 (by simp) (e 6 t)
    · exact h 7 (by simp) (e 7 t)
    · exact h 8 (by simp) (e 8 t)
    · exact h 9 (by simp) (e 9 t)
-- the ends
theorem r_end {rv : Option Value} {W1 : va_W} (E : en p m c cc nL s args own D g) (I : wk D ws' A s.heap H locs) : ∀ t : State, t.heap = H → s.WarmedH t.vm → qR rv (fun t => va_P D vwCl ws' t.heap ∧ va_K D vwCl (gT g) t) A args s (.returned rv) t := fun t ht hW => ⟨⟨rfl, by rw [ht]; exact I.1, va_K.moved hW.alike E.2⟩, I.2.2.F ht⟩
end BS
/-- a contract from a walk: the walk speaks of any world about the method's own, any caller, and goes on to K where the method returns -/
theorem ct_of {l : Launch} {y : MethodName} {cc : ByteArray} {nL : Nat} {ret : Option FieldType} {rm : Room} {D : va_G} {g : Nat → ClassId} {ws ws' : va_W} {av : List Value} {rv : Option Value} (hrm : rm.cells = 0 ∧ rm.slots = 0) (hy : plainName y.cls = true) (hlen : (lg_sl av).length ≤ nL)
    (body : ∀ (p : Program) (e : Env) (s : State) (m : MethodId) (args : Array Value) (below : List Frame) (meth : Method) (c : Code) (ls : Array Slot) (Q : State → Prop) (A : Nat → Prop) (H0 H : Heap) (locs : List Loc), en p m c cc nL s args y.cls D g → wk D ws A H0 H locs → lv_has ls nL (lv_args 0 av) →
      (∀ (pc : Nat) (ls : Array Slot) (H : Heap) (locs : List Loc), wk D ws' A H0 H locs → (match ret, rv with
        | none, none => decode cc pc = .ok (.return_, 1)
        | some .int, some (.int v) => decode cc pc = .ok (.ireturn, 1)
        | some .boolean, some (.int v) => decode cc pc = .ok (.ireturn, 1) ∧ zok v = true
        | some .long, some (.long v) => decode cc pc = .ok (.lreturn, 1)
        | some .double, some (.double v) => decode cc pc = .ok (.dreturn, 1)
        | _, _ => False) → W p l e rm s m args below meth c H locs 0 0 Q (F0 m pc ls rv.toList)) →
      W p l e rm s m args below meth c H locs 0 0 Q (F0 m 0 ls [])) : ct l y cc nL ret rm D g ws ws' av rv := by
  refine Met.ofW (cc := cc) (maxL := nL) (ret := ret) hy rfl ?_
  intro p e s m args below meth c s₁ B hml hv
  obtain ⟨rfl, hP, hK, hD0⟩ := hv
  have hts := atoms_spec (ws := wsm y cc nL ret) B.pre
  have hr := B.returns
  have hlocks := B.notSynchronized
  have E : en p m c cc nL s av.toArray y.cls D g := ⟨⟨B.exec, B.bytes, hml, findClass_of_methodNamed B.named, fun w h => hts w (List.mem_cons_of_mem _ h)⟩, hK⟩
  have hl := lv_entry av (n := nL) hlen
  rw [lg_entry_eq]
  generalize (lg_sl av ++ List.replicate (nL - (lg_sl av).length) Slot.unset).toArray = ls at hl ⊢
  have hD : va_D (kA ws) ws := hD0.weaken (fun k q hk _ => ⟨k, q.2, hk⟩)
  refine body p e s m av.toArray below meth c ls _ (kA ws) s.heap s.heap [] E ⟨hP, hD, va_S.rf⟩ hl ?_
  intro pc ls H locs I hd
  have hq := r_end (rv := rv) (W1 := ws) E I
  have hf : ∀ q ∈ locs, kA ws q.base := I.2.2.2.2
  match ret, rv, hd, hr, hq with
  | none, none, hd, hr, hq => exact W.vret B.exec B.bytes hr hq hf hd
  | some .int, some (.int v), hd, hr, hq => exact W.iret B.exec B.bytes hr hq hf hd
  | some .boolean, some (.int v), hd, hr, hq => exact W.zret B.exec B.bytes hr (zok_n hd.2) hq hf hd.1
  | some .long, some (.long v), hd, hr, hq => exact W.lret B.exec B.bytes hr hq hf hd
  | some .double, some (.double v), hd, hr, hq => exact W.dret B.exec B.bytes hr hq hf hd
