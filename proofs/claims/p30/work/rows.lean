section
-- ===== PART A: goes FIRST, ahead of the names: the tables' words, and 'selects' of the private methods out of them =====
/-- a private method of a class that the tables say can be made, by its rows of tables_1 -/
def lw_okq (q : MethodName × Nat) : Prop := (q.1.cls ≠ "java/lang/invoke/MethodHandle" ∧ q.1.cls ≠ "java/lang/invoke/VarHandle") ∧ Cond.instantiable q.1.cls q.2 ∈ tables_1 ∧ Cond.privateMethod q.1 ∈ tables_1 ∧ Cond.instanceMethod q.1 ∈ tables_1
theorem lw_p0 : lw_okq (⟨"java/lang/Throwable", "fillInStackTrace", "(I)Ljava/lang/Throwable;"⟩, 6) := ⟨⟨by decide +kernel, by decide +kernel⟩, List.mem_of_getElem? (i := 206) (by decide +kernel), List.mem_of_getElem? (i := 204) (by decide +kernel), List.mem_of_getElem? (i := 205) (by decide +kernel)⟩
theorem lw_p1 : lw_okq (⟨"FactorMatch", "change", "(II)I"⟩, 8) := ⟨⟨by decide +kernel, by decide +kernel⟩, List.mem_of_getElem? (i := 16) (by decide +kernel), List.mem_of_getElem? (i := 255) (by decide +kernel), List.mem_of_getElem? (i := 256) (by decide +kernel)⟩
theorem lw_p2 : lw_okq (⟨"FactorMatch", "keepState", "()V"⟩, 8) := ⟨⟨by decide +kernel, by decide +kernel⟩, List.mem_of_getElem? (i := 16) (by decide +kernel), List.mem_of_getElem? (i := 259) (by decide +kernel), List.mem_of_getElem? (i := 260) (by decide +kernel)⟩
theorem lw_p3 : lw_okq (⟨"FactorMatch", "forgetTables", "()V"⟩, 8) := ⟨⟨by decide +kernel, by decide +kernel⟩, List.mem_of_getElem? (i := 16) (by decide +kernel), List.mem_of_getElem? (i := 270) (by decide +kernel), List.mem_of_getElem? (i := 271) (by decide +kernel)⟩
theorem lw_p4 : lw_okq (⟨"FactorMatch", "putDraft", "(I)I"⟩, 8) := ⟨⟨by decide +kernel, by decide +kernel⟩, List.mem_of_getElem? (i := 16) (by decide +kernel), List.mem_of_getElem? (i := 301) (by decide +kernel), List.mem_of_getElem? (i := 302) (by decide +kernel)⟩
theorem lw_p5 : lw_okq (⟨"FactorMatch", "draftFits", "(I)Z"⟩, 8) := ⟨⟨by decide +kernel, by decide +kernel⟩, List.mem_of_getElem? (i := 16) (by decide +kernel), List.mem_of_getElem? (i := 305) (by decide +kernel), List.mem_of_getElem? (i := 306) (by decide +kernel)⟩
theorem lw_p6 : lw_okq (⟨"FactorMatch", "factorsOf", "(I)I"⟩, 8) := ⟨⟨by decide +kernel, by decide +kernel⟩, List.mem_of_getElem? (i := 16) (by decide +kernel), List.mem_of_getElem? (i := 325) (by decide +kernel), List.mem_of_getElem? (i := 326) (by decide +kernel)⟩
theorem lw_p7 : lw_okq (⟨"FactorMatch", "restOf", "(I)I"⟩, 8) := ⟨⟨by decide +kernel, by decide +kernel⟩, List.mem_of_getElem? (i := 16) (by decide +kernel), List.mem_of_getElem? (i := 340) (by decide +kernel), List.mem_of_getElem? (i := 341) (by decide +kernel)⟩
theorem lw_p8 : lw_okq (⟨"FactorMatch$Equations", "solve", "(II)V"⟩, 11) := ⟨⟨by decide +kernel, by decide +kernel⟩, List.mem_of_getElem? (i := 57) (by decide +kernel), List.mem_of_getElem? (i := 352) (by decide +kernel), List.mem_of_getElem? (i := 353) (by decide +kernel)⟩
theorem lw_p9 : lw_okq (⟨"FactorMatch$Equations", "top", "(I)I"⟩, 11) := ⟨⟨by decide +kernel, by decide +kernel⟩, List.mem_of_getElem? (i := 57) (by decide +kernel), List.mem_of_getElem? (i := 356) (by decide +kernel), List.mem_of_getElem? (i := 357) (by decide +kernel)⟩
theorem lw_p10 : lw_okq (⟨"FactorMatch$Equations", "solveLast", "(III)V"⟩, 11) := ⟨⟨by decide +kernel, by decide +kernel⟩, List.mem_of_getElem? (i := 57) (by decide +kernel), List.mem_of_getElem? (i := 360) (by decide +kernel), List.mem_of_getElem? (i := 361) (by decide +kernel)⟩
theorem lw_p11 : lw_okq (⟨"FactorMatch$Equations", "fillWithin", "(I)V"⟩, 11) := ⟨⟨by decide +kernel, by decide +kernel⟩, List.mem_of_getElem? (i := 57) (by decide +kernel), List.mem_of_getElem? (i := 370) (by decide +kernel), List.mem_of_getElem? (i := 371) (by decide +kernel)⟩
theorem lw_p12 : lw_okq (⟨"FactorMatch$Equations", "fillWays", "()V"⟩, 11) := ⟨⟨by decide +kernel, by decide +kernel⟩, List.mem_of_getElem? (i := 57) (by decide +kernel), List.mem_of_getElem? (i := 374) (by decide +kernel), List.mem_of_getElem? (i := 375) (by decide +kernel)⟩
theorem lw_p13 : lw_okq (⟨"FactorMatch$Equations", "waysFrom", "(II)J"⟩, 11) := ⟨⟨by decide +kernel, by decide +kernel⟩, List.mem_of_getElem? (i := 57) (by decide +kernel), List.mem_of_getElem? (i := 378) (by decide +kernel), List.mem_of_getElem? (i := 379) (by decide +kernel)⟩
theorem lw_p14 : lw_okq (⟨"FactorMatch$Equations", "bySetsWith", "(II)J"⟩, 11) := ⟨⟨by decide +kernel, by decide +kernel⟩, List.mem_of_getElem? (i := 57) (by decide +kernel), List.mem_of_getElem? (i := 400) (by decide +kernel), List.mem_of_getElem? (i := 401) (by decide +kernel)⟩
theorem lw_p15 : lw_okq (⟨"FactorMatch$Leasts", "look", "(IIII)V"⟩, 6) := ⟨⟨by decide +kernel, by decide +kernel⟩, List.mem_of_getElem? (i := 101) (by decide +kernel), List.mem_of_getElem? (i := 422) (by decide +kernel), List.mem_of_getElem? (i := 423) (by decide +kernel)⟩
def lw_privs_1 : List (MethodName × Nat) := [(⟨"java/lang/Throwable", "fillInStackTrace", "(I)Ljava/lang/Throwable;"⟩, 6), (⟨"FactorMatch", "change", "(II)I"⟩, 8), (⟨"FactorMatch", "keepState", "()V"⟩, 8), (⟨"FactorMatch", "forgetTables", "()V"⟩, 8), (⟨"FactorMatch", "putDraft", "(I)I"⟩, 8), (⟨"FactorMatch", "draftFits", "(I)Z"⟩, 8), (⟨"FactorMatch", "factorsOf", "(I)I"⟩, 8), (⟨"FactorMatch", "restOf", "(I)I"⟩, 8), (⟨"FactorMatch$Equations", "solve", "(II)V"⟩, 11), (⟨"FactorMatch$Equations", "top", "(I)I"⟩, 11), (⟨"FactorMatch$Equations", "solveLast", "(III)V"⟩, 11), (⟨"FactorMatch$Equations", "fillWithin", "(I)V"⟩, 11), (⟨"FactorMatch$Equations", "fillWays", "()V"⟩, 11), (⟨"FactorMatch$Equations", "waysFrom", "(II)J"⟩, 11), (⟨"FactorMatch$Equations", "bySetsWith", "(II)J"⟩, 11), (⟨"FactorMatch$Leasts", "look", "(IIII)V"⟩, 6)]
theorem lw_r1 : ∀ q ∈ lw_privs_1, lw_okq q := List.forall_mem_cons.mpr ⟨lw_p0, List.forall_mem_cons.mpr ⟨lw_p1, List.forall_mem_cons.mpr ⟨lw_p2, List.forall_mem_cons.mpr ⟨lw_p3, List.forall_mem_cons.mpr ⟨lw_p4, List.forall_mem_cons.mpr ⟨lw_p5, List.forall_mem_cons.mpr ⟨lw_p6, List.forall_mem_cons.mpr ⟨lw_p7, List.forall_mem_cons.mpr ⟨lw_p8, List.forall_mem_cons.mpr ⟨lw_p9, List.forall_mem_cons.mpr ⟨lw_p10, List.forall_mem_cons.mpr ⟨lw_p11, List.forall_mem_cons.mpr ⟨lw_p12, List.forall_mem_cons.mpr ⟨lw_p13, List.forall_mem_cons.mpr ⟨lw_p14, List.forall_mem_cons.mpr ⟨lw_p15, fun _ h => absurd h List.not_mem_nil⟩⟩⟩⟩⟩⟩⟩⟩⟩⟩⟩⟩⟩⟩⟩⟩
theorem lw_p16 : lw_okq (⟨"FactorMatch$Leasts", "solves", "(IIII)Z"⟩, 6) := ⟨⟨by decide +kernel, by decide +kernel⟩, List.mem_of_getElem? (i := 101) (by decide +kernel), List.mem_of_getElem? (i := 426) (by decide +kernel), List.mem_of_getElem? (i := 427) (by decide +kernel)⟩
theorem lw_p17 : lw_okq (⟨"FactorMatch$Leasts", "setRow", "(IIII)V"⟩, 6) := ⟨⟨by decide +kernel, by decide +kernel⟩, List.mem_of_getElem? (i := 101) (by decide +kernel), List.mem_of_getElem? (i := 430) (by decide +kernel), List.mem_of_getElem? (i := 431) (by decide +kernel)⟩
theorem lw_p18 : lw_okq (⟨"FactorMatch$Leasts", "isAtMostRow", "(I)Z"⟩, 6) := ⟨⟨by decide +kernel, by decide +kernel⟩, List.mem_of_getElem? (i := 101) (by decide +kernel), List.mem_of_getElem? (i := 434) (by decide +kernel), List.mem_of_getElem? (i := 435) (by decide +kernel)⟩
theorem lw_p19 : lw_okq (⟨"FactorMatch", "unlikeVariables", "()I"⟩, 8) := ⟨⟨by decide +kernel, by decide +kernel⟩, List.mem_of_getElem? (i := 16) (by decide +kernel), List.mem_of_getElem? (i := 443) (by decide +kernel), List.mem_of_getElem? (i := 444) (by decide +kernel)⟩
theorem lw_p20 : lw_okq (⟨"FactorMatch", "hasVariable", "(II)Z"⟩, 8) := ⟨⟨by decide +kernel, by decide +kernel⟩, List.mem_of_getElem? (i := 16) (by decide +kernel), List.mem_of_getElem? (i := 447) (by decide +kernel), List.mem_of_getElem? (i := 448) (by decide +kernel)⟩
theorem lw_p21 : lw_okq (⟨"FactorMatch", "restsBelowZero", "()I"⟩, 8) := ⟨⟨by decide +kernel, by decide +kernel⟩, List.mem_of_getElem? (i := 16) (by decide +kernel), List.mem_of_getElem? (i := 462) (by decide +kernel), List.mem_of_getElem? (i := 463) (by decide +kernel)⟩
theorem lw_p22 : lw_okq (⟨"FactorMatch", "patternsAreSame", "()Z"⟩, 8) := ⟨⟨by decide +kernel, by decide +kernel⟩, List.mem_of_getElem? (i := 16) (by decide +kernel), List.mem_of_getElem? (i := 466) (by decide +kernel), List.mem_of_getElem? (i := 467) (by decide +kernel)⟩
theorem lw_p23 : lw_okq (⟨"FactorMatch", "commonFactors", "()I"⟩, 8) := ⟨⟨by decide +kernel, by decide +kernel⟩, List.mem_of_getElem? (i := 16) (by decide +kernel), List.mem_of_getElem? (i := 470) (by decide +kernel), List.mem_of_getElem? (i := 471) (by decide +kernel)⟩
def lw_privs_2 : List (MethodName × Nat) := [(⟨"FactorMatch$Leasts", "solves", "(IIII)Z"⟩, 6), (⟨"FactorMatch$Leasts", "setRow", "(IIII)V"⟩, 6), (⟨"FactorMatch$Leasts", "isAtMostRow", "(I)Z"⟩, 6), (⟨"FactorMatch", "unlikeVariables", "()I"⟩, 8), (⟨"FactorMatch", "hasVariable", "(II)Z"⟩, 8), (⟨"FactorMatch", "restsBelowZero", "()I"⟩, 8), (⟨"FactorMatch", "patternsAreSame", "()Z"⟩, 8), (⟨"FactorMatch", "commonFactors", "()I"⟩, 8)]
theorem lw_r2 : ∀ q ∈ lw_privs_2, lw_okq q := List.forall_mem_cons.mpr ⟨lw_p16, List.forall_mem_cons.mpr ⟨lw_p17, List.forall_mem_cons.mpr ⟨lw_p18, List.forall_mem_cons.mpr ⟨lw_p19, List.forall_mem_cons.mpr ⟨lw_p20, List.forall_mem_cons.mpr ⟨lw_p21, List.forall_mem_cons.mpr ⟨lw_p22, List.forall_mem_cons.mpr ⟨lw_p23, fun _ h => absurd h List.not_mem_nil⟩⟩⟩⟩⟩⟩⟩⟩
def lw_privs : List (MethodName × Nat) := lw_privs_1 ++ (lw_privs_2)
def lw_tbl : List Cond := k2_sels lw_privs ++ tables_1
theorem lw_privs_ok : ∀ q ∈ lw_privs, lw_okq q := by
  show ∀ q ∈ lw_privs_1 ++ (lw_privs_2), lw_okq q
  exact List.forall_mem_append.mpr ⟨lw_r1, lw_r2⟩
end
section
/-! ===== BEGIN words of one list among another's, by their places ===== -/
theorem goodIn_r {big : List Cond} (ws : List Cond) (ps : List Nat) (hp : ws = ps.filterMap (fun i => big[i]?)) (h : ws.all goodWord = true) : GoodIn big ws := by
  intro w hw
  have h1 := List.all_eq_true.mp h w hw
  rw [hp] at hw
  obtain ⟨i, -, hi⟩ := List.mem_filterMap.mp hw
  have hm : w ∈ big := by first | exact List.mem_of_getElem? hi | exact List.getElem?_mem hi
  exact ⟨hm, good_of_word h1⟩
theorem goodIn_app {big a b : List Cond} (ha : GoodIn big a) (hb : GoodIn big b) : GoodIn big (a ++ b) := fun w h => (List.mem_append.mp h).elim (ha w) (hb w)
theorem goodIn_ca {big a b : List Cond} {c : Cond} (ha : GoodIn big (c :: a)) (hb : GoodIn big b) : GoodIn big (c :: (a ++ b)) := fun w h => (List.mem_cons.mp h).elim (fun e => ha w (List.mem_cons.mpr (Or.inl e))) (fun h => (List.mem_append.mp h).elim (fun h => ha w (List.mem_cons.mpr (Or.inr h))) (hb w))
theorem goodIn_sub {big ws : List Cond} (hm : ∀ w ∈ ws, w ∈ big) (h : ws.all goodWord = true) : GoodIn big ws := fun w hw => ⟨hm w hw, good_of_word (List.all_eq_true.mp h w hw)⟩
/-! ===== END ===== -/

/-! ===== BEGIN new T[n][m]: the outer array a place, the inner ones among the pooled ===== -/
/-- f, but v at every address of l -/
def vr_up {α : Type} (f : Nat → α) (l : List Nat) (v : α) : Nat → α := fun a => if a ∈ l then v else f a
theorem vr_up_in {α : Type} {f : Nat → α} {l : List Nat} {v : α} {a : Nat} (h : a ∈ l) : vr_up f l v a = v := if_pos h
theorem vr_up_ne {α : Type} {f : Nat → α} {l : List Nat} {v : α} {a : Nat} (h : a ∉ l) : vr_up f l v a = f a := if_neg h
theorem vr_rows {L l : List Nat} {f : Nat → va_E} {e : va_E} (h : ∀ a, a ∈ l → a ∉ L) : va_pl L f ++ l.map (fun a => (a, e)) = va_pl (L ++ l) (vr_up f l e) := by
  unfold va_pl
  rw [List.map_append]
  congr 1
  · apply List.map_congr_left
    intro a ha
    rw [vr_up_ne (fun q => h a q ha)]
  · apply List.map_congr_left
    intro a ha
    rw [vr_up_in ha]
theorem vr_lay {X rows : va_W} {x : Nat × va_E} {pl : va_W} {D : va_G} {cl : List vw_C} {H : Heap} (hP : va_P D cl (((X ++ pl) ++ [x]) ++ rows) H) : va_P D cl ((X ++ [x]) ++ (pl ++ rows)) H := by
  rw [List.append_assoc (X ++ pl)] at hP
  have h := va_P.swap hP
  rw [← List.append_assoc X] at h
  have h2 := va_P.swap h
  rw [List.append_assoc (X ++ [x])] at h2
  exact h2
theorem vr_layD {X rows : va_W} {x : Nat × va_E} {pl : va_W} {A : Nat → Prop} (hD : va_D A (((X ++ pl) ++ [x]) ++ rows)) : va_D A ((X ++ [x]) ++ (pl ++ rows)) := by
  rw [List.append_assoc (X ++ pl)] at hD
  have h := va_D.swap hD
  rw [← List.append_assoc X] at h
  have h2 := va_D.swap h
  rw [List.append_assoc (X ++ [x])] at h2
  exact h2
theorem vr_outer (c : ClassId) (N h0 : Nat) : ∀ i : Nat, Jvm.Free.Multi.outerC c N h0 i = arrV c N (fun j => va_rf (if j < i then some (h0 + 1 + j) else none))
  | 0 => by
    show ({ cls := c, slots := Array.replicate N .null, vm := .none } : Cell) = _
    rw [arrV_new]
    refine congrArg (arrV c N) (funext fun j => ?_)
    simp [va_rf]
  | i + 1 => by
    show (Jvm.Free.Multi.outerC c N h0 i).setSlot i (.ref (h0 + 1 + i)) = _
    rw [vr_outer c N h0 i, arrV_store]
    refine congrArg (arrV c N) (funext fun j => ?_)
    by_cases e : j = i
    · subst e
      simp [updV, va_rf]
    · by_cases h : j < i
      · simp [updV, e, h, Nat.lt_succ_of_lt h]
      · simp [updV, e, h, show ¬ j < i + 1 by omega]
section VGM
variable {p : Program} {l : Launch} {e : Env} {R : Room} {s : State} {m : MethodId} {args : Array Value} {below : List Frame} {meth : Method} {c : Code} {H : Heap} {locs : List Loc} {cells slots : Nat} {Q : State → Prop}
variable {cc : ByteArray} {pc : Nat} {ls : Array Slot} {rest : List Value} {D : va_G} {cl : List vw_C} {A : Nat → Prop} {a : Nat} {tys : List (ClassId × FieldType)} {ws : va_W} {H0 : Heap}
def va_AOA (ty : FieldType) (U : State) : Prop := (Cond.arrayOver (.array ty)).before #[] U = true
theorem va_AOA.use {ty : FieldType} {A : Array Value} {U : State} (h : va_AOA ty U) : (Cond.arrayOver (.array ty)).before A U = true := h
theorem va_mna {X : va_W} {L : List Nat} {f : Nat → va_E} {cc : ByteArray} (hexec : p.tables.exec = Jvm.exec) (hb : c.code = cc) {own : String} {index : Nat} {ty : FieldType} {cy : ClassId} (hown : s.vm.findClass own = some m.cls) (hclink : (Cond.classLink own index ("[" ++ (FieldType.array ty).toString)).before args s = true) (hover : va_AOA ty s) (harr : (Cond.arrayClass ty).before args s = true) (hcy : s.vm.findClass (FieldType.array ty).toString = some cy)
    (hK : va_K D cl tys s) (hP : va_P D cl (X ++ va_pl L f) H) (hD : va_D A (X ++ va_pl L f)) (hS : va_S A H0 H locs) (hA : ∀ q, H0.size ≤ q → A q) {n k : Int32} {N' K' : Nat} {z : vp_A} (hn : ¬ n < 0) (hk : ¬ k < 0) (hN : n.toNatClampNeg = N') (hM : k.toNatClampNeg = K')
    (hb1 : N' * 4 ≤ 536870912) (hb2 : K' * componentBytes ty ≤ 536870912) (hb3 : K' ≤ 536870912) (hdf : fits ty (defaultValue ty) = true) (hdd : (defaultValue ty).isDefault = true) (hcells : cells + (1 + N') ≤ R.cells) (hslots : slots + (N' + N' * K') ≤ R.slots) (hz : ∀ c : ClassId, Jvm.Free.Multi.innerC c K' (defaultValue ty) = vp_cell c z) (hdg : decode cc pc = .ok (.multianewarray index 2, 4))
    (kk : ∀ (q : Nat) (r : Nat → Nat) (cA : ClassId) (H1 : Heap), (∀ i j : Nat, i < N' → j < N' → r i = r j → i = j) → (∀ i : Nat, i < N' → r i ∉ L) → va_K D cl (tys ++ [(cA, .array ty)]) s →
      va_P D cl ((X ++ [(q, .inl (cA, N', .inr (.inr (.inr (.inr (fun i => if i < N' then some (r i) else none))))))]) ++ va_pl (L ++ (List.range N').map r) (vr_up f ((List.range N').map r) (.inl (cy, z)))) H1 → va_D A ((X ++ [(q, .inl (cA, N', .inr (.inr (.inr (.inr (fun i => if i < N' then some (r i) else none))))))]) ++ va_pl (L ++ (List.range N').map r) (vr_up f ((List.range N').map r) (.inl (cy, z)))) → va_S A H0 H1 locs →
      W p l e R s m args below meth c H1 locs (cells + 1 + N') (slots + N' + N' * K') Q (F0 m (pc + 4) ls (.ref q :: rest))) : W p l e R s m args below meth c H locs cells slots Q (F0 m pc ls (.int k :: .int n :: rest)) := by
  subst hN
  subst hM
  intro T hT Xs
  obtain ⟨vm₁, cA, comp, -, fA, fC, hO, -, X', step⟩ := Xs.multianewarray2F hexec hown hclink (va_AOA.use hover) harr (g := F0 m pc ls (.int k :: .int n :: rest)) rfl (by rw [hb]; exact hdg) rfl hn hk hb1 hb2 hb3 hdf hdd hcells hslots
  have ec : some cy = some comp := hcy.symm.trans fC
  cases ec
  generalize hF : Jvm.Free.Multi.fill (T.setVm vm₁) cA cy n.toNatClampNeg k.toNatClampNeg (defaultValue ty) n.toNatClampNeg = F at X' step
  have hTh : (T.setVm vm₁).heap = H := hT
  obtain ⟨f1, f2, -, -⟩ := Jvm.Free.Multi.fill_facts (T.setVm vm₁) cA cy n.toNatClampNeg k.toNatClampNeg (defaultValue ty) n.toNatClampNeg
  rw [hF, hTh] at f1 f2
  have hold : ∀ x : Nat, x < H.size → F.heap[x]? = H[x]? := fun x hx => by
    have := Jvm.Free.Multi.fill_old (T.setVm vm₁) cA cy n.toNatClampNeg k.toNatClampNeg (defaultValue ty) (a := x) (by rw [hTh]; exact hx) n.toNatClampNeg
    rw [hF, hTh] at this
    exact this
  have hrow : ∀ j : Nat, j < n.toNatClampNeg → F.heap[H.size + 1 + j]? = some (vp_cell cy z) := fun j hj => by
    have := Jvm.Free.Multi.fill_inner (T.setVm vm₁) cA cy n.toNatClampNeg k.toNatClampNeg (defaultValue ty) n.toNatClampNeg j hj
    rw [hF, hTh, hz] at this
    exact this
  have hout : Jvm.Free.Multi.outerC cA n.toNatClampNeg H.size n.toNatClampNeg = vp_cell cA (n.toNatClampNeg, .inr (.inr (.inr (.inr (fun i => if i < n.toNatClampNeg then some (H.size + 1 + i) else none))))) := by
    rw [vp_cell_q]
    exact vr_outer cA n.toNatClampNeg H.size n.toNatClampNeg
  rw [hout] at f2
  have hlt : ∀ a, a ∈ L → a < H.size := fun a ha => by
    obtain ⟨k9, hk9⟩ := va_pl_get (X := X) (f := f) ha
    exact (hP k9 _ hk9).lt
  have hnl : ∀ i : Nat, i < n.toNatClampNeg → H.size + 1 + i ∉ L := fun i _ h => by
    have := hlt _ h
    omega
  have hnm : ∀ a, a ∈ (List.range n.toNatClampNeg).map (fun i => H.size + 1 + i) → a ∉ L := fun a ha h => by
    obtain ⟨i, -, rfl⟩ := List.mem_map.mp ha
    have := hlt _ h
    omega
  have hP0 : va_P D cl (X ++ va_pl L f) F.heap := hP.kept (fun k9 x hx => hold x.1 ((hP k9 x hx).lt))
  have hP1 : va_P D cl ((X ++ va_pl L f) ++ [(H.size, .inl (cA, n.toNatClampNeg, .inr (.inr (.inr (.inr (fun i => if i < n.toNatClampNeg then some (H.size + 1 + i) else none))))))]) F.heap := hP0.app (fun k9 x hx => by
    have h0 : k9 < 1 := (List.getElem?_eq_some_iff.mp hx).1
    rw [show k9 = 0 by omega] at hx
    cases hx
    exact f2)
  have hP2 : va_P D cl (((X ++ va_pl L f) ++ [(H.size, .inl (cA, n.toNatClampNeg, .inr (.inr (.inr (.inr (fun i => if i < n.toNatClampNeg then some (H.size + 1 + i) else none))))))]) ++ ((List.range n.toNatClampNeg).map (fun i => H.size + 1 + i)).map (fun a => (a, .inl (cy, z)))) F.heap := hP1.app (fun k9 x hx => by
    obtain ⟨a, ha, rfl⟩ := List.mem_map.mp (List.mem_of_getElem? hx)
    obtain ⟨i, hi, rfl⟩ := List.mem_map.mp ha
    exact hrow i (List.mem_range.mp hi))
  have hD2 : va_D A (((X ++ va_pl L f) ++ [(H.size, .inl (cA, n.toNatClampNeg, .inr (.inr (.inr (.inr (fun i => if i < n.toNatClampNeg then some (H.size + 1 + i) else none))))))]) ++ ((List.range n.toNatClampNeg).map (fun i => H.size + 1 + i)).map (fun a => (a, .inl (cy, z)))) := by
    have hD1 := hD.push (e := .inl (cA, n.toNatClampNeg, .inr (.inr (.inr (.inr (fun i => if i < n.toNatClampNeg then some (H.size + 1 + i) else none)))))) hP rfl (hA _ hS.1)
    generalize hW1 : (X ++ va_pl L f) ++ [(H.size, .inl (cA, n.toNatClampNeg, .inr (.inr (.inr (.inr (fun i => if i < n.toNatClampNeg then some (H.size + 1 + i) else none))))))] = W1 at hD1 hP1 ⊢
    have hle : ∀ (k9 : Nat) (x : Nat × va_E), W1[k9]? = some x → x.1 ≤ H.size := fun k9 x hx => by
      rw [← hW1] at hx
      by_cases hl : k9 < (X ++ va_pl L f).length
      · rw [List.getElem?_append_left hl] at hx
        exact Nat.le_of_lt ((hP k9 x hx).lt)
      · rw [List.getElem?_append_right (by omega)] at hx
        have h0 : k9 - (X ++ va_pl L f).length < 1 := (List.getElem?_eq_some_iff.mp hx).1
        rw [show k9 - (X ++ va_pl L f).length = 0 by omega] at hx
        cases hx
        exact Nat.le_refl _
    have hr : ∀ (k9 : Nat) (x : Nat × va_E), (((List.range n.toNatClampNeg).map (fun i => H.size + 1 + i)).map (fun a => ((a, .inl (cy, z)) : Nat × va_E)))[k9]? = some x → x.1 = H.size + 1 + k9 := fun k9 x hx => by
      rw [List.getElem?_map, List.getElem?_map] at hx
      by_cases h9 : k9 < n.toNatClampNeg
      · rw [List.getElem?_range h9] at hx
        cases hx
        rfl
      · have hn0 : (List.range n.toNatClampNeg)[k9]? = none := List.getElem?_eq_none (by rw [List.length_range]; omega)
        rw [hn0] at hx
        cases hx
    refine ⟨fun i j x y hi hj hxy => ?_, fun k9 x hx => ?_⟩
    · by_cases h1 : i < W1.length <;> by_cases h2 : j < W1.length
      · rw [List.getElem?_append_left h1] at hi
        rw [List.getElem?_append_left h2] at hj
        exact hD1.1 i j x y hi hj hxy
      · rw [List.getElem?_append_left h1] at hi
        rw [List.getElem?_append_right (by omega)] at hj
        have := hle _ _ hi
        have := hr _ _ hj
        omega
      · rw [List.getElem?_append_right (by omega)] at hi
        rw [List.getElem?_append_left h2] at hj
        have := hle _ _ hj
        have := hr _ _ hi
        omega
      · rw [List.getElem?_append_right (by omega)] at hi hj
        have := hr _ _ hi
        have := hr _ _ hj
        omega
    · by_cases h1 : k9 < W1.length
      · rw [List.getElem?_append_left h1] at hx
        exact hD1.2 k9 x hx
      · rw [List.getElem?_append_right (by omega)] at hx
        have := hr _ _ hx
        exact hA _ (by have := hS.1; omega)
  have hAr : ArrOfT s cA (.array ty) := fun N9 z9 => by
    obtain ⟨-, k9, hk9, cm9, hkk9⟩ := (hO 0 0 0).1
    exact ⟨(fun q hq => by cases hq), k9, hk9, cm9, hkk9⟩
  have hK2 : va_K D cl (tys ++ [(cA, .array ty)]) s := ⟨hK.1, fun k9 x hx => by
    by_cases hl : k9 < tys.length
    · rw [List.getElem?_append_left hl] at hx
      exact hK.2 k9 x hx
    · rw [List.getElem?_append_right (by omega)] at hx
      have h0 : k9 - tys.length < 1 := (List.getElem?_eq_some_iff.mp hx).1
      rw [show k9 - tys.length = 0 by omega] at hx
      cases hx
      exact ⟨hAr, fA⟩⟩
  obtain ⟨t, a1, b1⟩ := kk H.size (fun i => H.size + 1 + i) cA F.heap (fun i j _ _ h => by have h9 : H.size + 1 + i = H.size + 1 + j := h; omega) hnl hK2 (by rw [← vr_rows hnm]; exact vr_lay hP2) (by rw [← vr_rows hnm]; exact vr_layD hD2) ⟨by rw [f1]; have := hS.1; omega, fun x h1 h2 => (hold x (Nat.lt_of_lt_of_le h1 hS.1)).trans (hS.2.1 x h1 h2), hS.2.2⟩ F rfl X'
  refine ⟨t, step t ?_, b1⟩
  have e : T.heap.size = H.size := by rw [hT]
  rw [e]
  exact a1
end VGM
/-! ===== END ===== -/

/-! ===== BEGIN exceptions that leave a method, and their catching by the caller (launches without stack traces) ===== -/
section VXA
/-! The laws vx_back, vx_callV, vx_callS, vx_callSW, vx_throw0, vx_throwS follow proofs of the library, with one case more: JvmDerived/Free/Laws.lean (Back.of_free), Shelf42/LK1.lean (callV, callS), Shelf/KitTraced.lean (throwNew0V, throwNewS). -/
/-- where a method has thrown q: the class by its name, the cell, what was written, the world -/
def vx_T (XC : String → State → State → Prop) (st : State) (q : Addr) (t : State) (mc ms : Nat) (free : Addr → Prop) : Prop :=
  ∃ (E : String) (ce : Cell) (L : List Loc), XC E st t ∧ t.heap[q]? = some ce ∧ ce.vm = .none ∧ st.vm.findClass E = some ce.cls ∧ st.WarmedH t.vm ∧ st.sameButNew ({ t with vm := st.vm } : State) L mc ms ∧ ∀ z ∈ L, free z.base
def vx_Q (Qc : Array Value → State → Outcome → State → Prop) (XC : String → State → State → Prop) (mc ms : Nat) (free : Addr → Prop) : Array Value → State → Outcome → State → Prop := fun a st o t =>
  (Qc a st o t ∧ ∃ L, FrameEnd st o t L mc ms ∧ ∀ q ∈ L, free q.base) ∨ ∃ q, o = .threw q ∧ vx_T XC st q t mc ms free
/-- a callee that returns or throws -/
def vx_Met (l : Launch) (y : MethodName) (ws : List Cond) (rm : Room) (Pc : Array Value → State → Prop) (Qc : Array Value → State → Outcome → State → Prop) (XC : String → State → State → Prop) (mc ms : Nat) (free : Addr → Prop) : Prop :=
  MetFree l y (headSpec ws rm) Pc (fun _ _ _ _ _ => True) (vx_Q Qc XC mc ms free)
def vx_Post (XC : String → State → State → Prop) (mc ms : Nat) (free : Addr → Prop) : Pt → Array Value → Addr → Pt → Prop := fun A a q B =>
  ∃ (g : JFrame) (mk : MethodId) (t : State) (L : List Loc) (E : String) (ce : Cell), B.U.heap = t.heap ∧ B.U.vm = t.vm ∧ XC E (A.U.calling g mk a) t ∧ t.heap[q]? = some ce ∧ ce.vm = .none ∧ A.U.vm.findClass E = some ce.cls ∧ B.locs = A.locs ++ L ∧ (∀ z ∈ L, free z.base) ∧ B.cells = A.cells + mc ∧ B.slots = A.slots + ms
def vx_Back (l : Launch) (R : Room) (p : Program) (e : Env) (below : List Frame) (s : State) (sargs : Array Value) (y : MethodName) (len W9 : Nat)
    (Pre : Pt → Array Value → Prop) (Post : Pt → Array Value → Option Value → Pt → Prop) (PostX : Pt → Array Value → Addr → Pt → Prop) : Prop :=
  ∀ (m : MethodId) (meth : Method) (c : Code) (A : Pt) (g : JFrame) (ig : Instr) (mk : MethodId) (a : Array Value),
    Stand p l e R s m sargs below meth c A.U A.locs A.cells A.slots → g.method = m → g.locals.size = c.maxLocals → decode c.code g.pc = .ok (ig, len) →
    2 * g.monitorRoom + (g.stack.map fun v => v.category).sum ≤ W9 → A.U.methodNamed? y = some mk → Pre A a →
    (∃ (v : Option Value) (B : Pt), Stand p l e R s m sargs below meth c B.U B.locs B.cells B.slots ∧ Post A a v B ∧
      Steps p.tables e below (doInvoke e (A.U.setTop g) [] mk a).1 (B.U.setTop { g with pc := g.pc + len, stack := v.toList ++ g.stack })) ∨
    (∃ (q : Addr) (B : Pt), Stand p l e R s m sargs below meth c B.U B.locs B.cells B.slots ∧ PostX A a q B ∧
      Steps p.tables e below (doInvoke e (A.U.setTop g) [] mk a).1 ((B.U.setTop g).pushFrame (.throwing q)))
section Payer
variable {l : Launch} {R : Room} {p : Program} {e : Env} {below : List Frame} {s : State} {sargs : Array Value} {y : MethodName} {len W9 : Nat}
theorem vx_back {ws : List Cond} {rm : Room} {Pc : Array Value → State → Prop} {Qc : Array Value → State → Outcome → State → Prop} {XC : String → State → State → Prop} {mc ms : Nat} {free : Addr → Prop} {bytes : ByteArray} {maxL : Nat} {ret : Option FieldType}
    (hM : vx_Met l y ws rm Pc Qc XC mc ms free) (hblind : FrameBlind Pc) (hrc : rm.cells = mc) (hrs : rm.slots = ms)
    (hframes : rm.frames + 1 ≤ R.frames) (hlocals : W9 + (maxL + 11) + rm.locals ≤ R.locals)
    (hws : ∀ w ∈ ws, ∀ a' U, s.WarmedH U.vm → w.before a' U = true) (hcode : Cond.code y bytes maxL ret ∈ ws) (hinit : ∀ a' U, s.WarmedH U.vm → (Cond.initialized y.cls).before a' U = true) :
    vx_Back l R p e below s sargs y len W9 (PreOf R mc ms Pc) (PostOf Qc mc ms free) (vx_Post XC mc ms free) := by
  intro m meth c A g ig mk a X hg hsize hdg hW hn hp
  have h1 : (headSpec ws rm).pre.before a A.U = true := atoms_intro fun w hw => hws w hw _ _ X.warmed
  have h2 : (Cond.code y bytes maxL ret).before a A.U = true := hws _ hcode _ _ X.warmed
  have h3 : (Cond.initialized y.cls).before a A.U = true := hinit _ _ X.warmed
  have h4 : A.cells + (headSpec ws rm).room.cells ≤ R.cells := by rw [show (headSpec ws rm).room.cells = mc from hrc]; exact hp.1
  have h5 : A.slots + (headSpec ws rm).room.slots ≤ R.slots := by rw [show (headSpec ws rm).room.slots = ms from hrs]; exact hp.2.1
  have hPc : Pc a (A.U.calling g mk a) := hblind _ _ _ _ hp.2.2
  obtain ⟨U, Ls, c0, s0⟩ := A
  dsimp only [Pt.U, Pt.locs, Pt.cells, Pt.slots] at h1 h2 h3 h4 h5 X hn hPc ⊢
  obtain ⟨methY, cY, hmY, hcY, -, hlY, -, -, -, -⟩ := Cond.code_spec hn h2
  obtain ⟨kY, hkY, -⟩ := className_of_methodNamed hn
  have hinitY : kY.init = .initialized := Cond.initialized_spec (findClass_of_methodNamed hn) hkY h3
  have h : At U g.method c below := by rw [hg]; exact X.here
  have hlocals9 : W9 + (maxL + 11) + (headSpec ws rm).room.locals ≤ R.locals := hlocals
  have happ : (headSpec ws rm).appliesLoose y e.platform (U.calling g mk a) = true :=
    Spec.appliesLoose_calling (g := g) h hdg hn hkY hinitY
      (X.room_calling (g := g) (R' := (headSpec ws rm).room) hsize hmY hcY hframes (by rw [hlY]; omega) h4 h5) h1
  obtain ⟨mid, hmid⟩ := h.above
  have hfr : (U.setTop g).frames = (.java g :: mid) ++ below := by rw [State.frames_setTop' g h.top, hmid]; rfl
  obtain ⟨o, s₂, hsteps, -, hend, hq⟩ := Steps.callFree hM p X.admits X.cas X.clock (acts := []) hfr happ hPc trivial
  have hq' : vx_Q Qc XC mc ms free a (U.calling g mk a) o s₂ := hq
  rw [State.frames_setTop' g h.top] at hend
  obtain ⟨g₀, hg0⟩ := Option.isSome_iff_exists.mp h.top
  obtain ⟨r, hr⟩ := State.topJava?_eq_some.mp hg0
  have hr' : (({ U with heap := s₂.heap, slotsUsed := s₂.slotsUsed } : State).setVm s₂.vm).frames = .java g₀ :: r := hr
  rcases hq' with ⟨hqc, L, hfe, hL⟩ | ⟨q, rfl, E, ce, L, hx, hce, hcv, hcl, hW₂, hsm, hL⟩
  · obtain ⟨⟨v, rfl⟩, hW₂, e2, q2, q3, q4, q5, q6⟩ := id hfe
    have e3 : s₂ = ({ (U.calling g mk a).setFrames s₂.frames with heap := s₂.heap, slotsUsed := s₂.slotsUsed } : State).setVm s₂.vm := by
      have : s₂ = ({ s₂ with vm := (U.calling g mk a).vm } : State).setVm s₂.vm := rfl
      rw [e2] at this
      exact this
    obtain ⟨c₂, i₂, len₂, hc₂, hd₂, hf₂⟩ := hend
    have hW' : U.WarmedH s₂.vm := hW₂
    have hcc : c₂ = c := by
      have h1 : s₂.code? g.method = U.code? g.method := by
        rw [State.code?_eq, State.code?_eq, hW'.alike.method?]
      exact Option.some.inj (hc₂.symm.trans (h1.trans h.code))
    subst hcc
    have hlen : len₂ = len := by rw [hdg] at hd₂; cases hd₂; rfl
    subst hlen
    have hs₂ : s₂ = (({ U with heap := s₂.heap, slotsUsed := s₂.slotsUsed } : State).setVm s₂.vm).setTop { g with pc := g.pc + len₂, stack := v.toList ++ g.stack } := by
      refine e3.trans ?_
      rw [hf₂, State.calling_eq h.top, State.setFrames_setFrames, State.setTop_of_frames _ hr', hr]
      rfl
    have hsame : U.sameButNew ({ U with heap := s₂.heap, slotsUsed := s₂.slotsUsed } : State) L mc ms := by
      refine ⟨?_, q2, q3, q4, q5, q6⟩
      obtain ⟨t, ht, -⟩ := State.frames_cons hr
      show ({ U with heap := s₂.heap, slotsUsed := s₂.slotsUsed } : State) = { U.setFrames U.frames with heap := s₂.heap, slotsUsed := s₂.slotsUsed }
      rw [State.setFrames_self ht]
    subst hg
    refine Or.inl ⟨v, ⟨(({ U with heap := s₂.heap, slotsUsed := s₂.slotsUsed } : State).setVm s₂.vm), Ls ++ L, c0 + mc, s0 + ms⟩,
      ⟨X.admits, X.cas, X.clock, X.frames, X.room, X.hears, X.method, X.code, (X.here.setHeapUsed s₂.heap s₂.slotsUsed).setVm hW'.alike, X.tail, State.WarmedH.trans X.warmed hW', X.limits, X.bytes, X.same.trans (hsame.setVm s.vm)⟩,
      ⟨g, mk, s₂, L, rfl, rfl, hqc, rfl, hL, rfl, rfl⟩, ?_⟩
    show Steps p.tables e below _ ((({ U with heap := s₂.heap, slotsUsed := s₂.slotsUsed } : State).setVm s₂.vm).setTop { g with pc := g.pc + len₂, stack := v.toList ++ g.stack })
    rw [← hs₂]
    exact hsteps
  · obtain ⟨e2, q2, q3, q4, q5, q6⟩ := id hsm
    have e3 : s₂ = ({ (U.calling g mk a).setFrames s₂.frames with heap := s₂.heap, slotsUsed := s₂.slotsUsed } : State).setVm s₂.vm := by
      have : s₂ = ({ s₂ with vm := (U.calling g mk a).vm } : State).setVm s₂.vm := rfl
      rw [e2] at this
      exact this
    have hf₂ : s₂.frames = .throwing q :: .java g :: U.frames.tail := hend
    have hW' : U.WarmedH s₂.vm := hW₂
    have hs₂ : s₂ = ((({ U with heap := s₂.heap, slotsUsed := s₂.slotsUsed } : State).setVm s₂.vm).setTop g).pushFrame (.throwing q) := by
      refine e3.trans ?_
      rw [hf₂, State.calling_eq h.top, State.setFrames_setFrames, State.pushFrame, State.frames_setTop _ hr', State.setTop_of_frames _ hr', State.setFrames_setFrames, hr]
      rfl
    have hsame : U.sameButNew ({ U with heap := s₂.heap, slotsUsed := s₂.slotsUsed } : State) L mc ms := by
      refine ⟨?_, q2, q3, q4, q5, q6⟩
      obtain ⟨t, ht, -⟩ := State.frames_cons hr
      show ({ U with heap := s₂.heap, slotsUsed := s₂.slotsUsed } : State) = { U.setFrames U.frames with heap := s₂.heap, slotsUsed := s₂.slotsUsed }
      rw [State.setFrames_self ht]
    subst hg
    refine Or.inr ⟨q, ⟨(({ U with heap := s₂.heap, slotsUsed := s₂.slotsUsed } : State).setVm s₂.vm), Ls ++ L, c0 + mc, s0 + ms⟩,
      ⟨X.admits, X.cas, X.clock, X.frames, X.room, X.hears, X.method, X.code, (X.here.setHeapUsed s₂.heap s₂.slotsUsed).setVm hW'.alike, X.tail, State.WarmedH.trans X.warmed hW', X.limits, X.bytes, X.same.trans (hsame.setVm s.vm)⟩,
      ⟨g, mk, s₂, L, E, ce, rfl, rfl, hx, hce, hcv, hcl, rfl, hL, rfl, rfl⟩, ?_⟩
    show Steps p.tables e below _ (((({ U with heap := s₂.heap, slotsUsed := s₂.slotsUsed } : State).setVm s₂.vm).setTop g).pushFrame (.throwing q))
    rw [← hs₂]
    exact hsteps
end Payer
section Calls
variable {p : Program} {l : Launch} {e : Env} {R : Room} {s : State} {m : MethodId} {args : Array Value} {below : List Frame} {meth : Method} {c : Code} {T : State} {locs : List Loc} {cells slots : Nat}
theorem vx_callV (X : Stand p l e R s m args below meth c T locs cells slots) (hexec : p.tables.exec = Jvm.exec) {own C : String} {index : Nat} {y : MethodName} {bytes : ByteArray} {maxL : Nat} {ret : Option FieldType}
    (hown : s.vm.findClass own = some m.cls) (hlink : (Cond.methodLink own index y).before args s = true) (hinst : (Cond.instanceMethod y).before args s = true) (hsel : (Cond.selects C y y).before args s = true)
    (hcode : (Cond.code y bytes maxL ret).before args s = true) (hy : y.cls ≠ "java/lang/invoke/MethodHandle" ∧ y.cls ≠ "java/lang/invoke/VarHandle")
    {W9 : Nat} {Pre : Pt → Array Value → Prop} {Post : Pt → Array Value → Option Value → Pt → Prop} {PostX : Pt → Array Value → Addr → Pt → Prop} (hK : vx_Back l R p e below s args y 3 W9 Pre Post PostX)
    {b : Addr} {cellB : Cell} (hcell : T.heap[b]? = some cellB) (hobj : cellB.vm.isStatics = false) (hcls : s.vm.findClass C = some cellB.cls)
    {g : JFrame} (hg : g.method = m) (hsize : g.locals.size = c.maxLocals) {argsL rest : List Value} (hlen : ∀ sig, parseMethodDescriptor y.desc = some sig → argsL.length = sig.parameters.length)
    (hstack : g.stack = argsL.reverse ++ .ref b :: rest) (hW : 2 * g.monitorRoom + (rest.map fun v => v.category).sum ≤ W9) (hdg : decode c.code g.pc = .ok (.invokevirtual index, 3))
    (hpre : ∀ vm₁, s.WarmedH vm₁ → Pre ⟨T.setVm vm₁, locs, cells, slots⟩ (Value.ref b :: argsL).toArray) :
    (∃ (v : Option Value) (vm₁ : Vm) (B : Pt), s.WarmedH vm₁ ∧ Stand p l e R s m args below meth c B.U B.locs B.cells B.slots ∧ Post ⟨T.setVm vm₁, locs, cells, slots⟩ (Value.ref b :: argsL).toArray v B ∧
      ∀ target, Steps p.tables e below (B.U.setTop { g with pc := g.pc + 3, stack := v.toList ++ rest }) target → Steps p.tables e below (T.setTop g) target) ∨
    (∃ (q : Addr) (vm₁ : Vm) (B : Pt), s.WarmedH vm₁ ∧ Stand p l e R s m args below meth c B.U B.locs B.cells B.slots ∧ PostX ⟨T.setVm vm₁, locs, cells, slots⟩ (Value.ref b :: argsL).toArray q B ∧
      Steps p.tables e below (T.setTop g) ((B.U.setTop { g with stack := rest }).pushFrame (.throwing q))) := by
  obtain ⟨mk, methM, hnamed, hmethM, hstM, habM⟩ := Cond.instanceMethod_spec hinst
  obtain ⟨methM', cM, hmethM', -, -, -, -, -, -, hsigM⟩ := Cond.code_spec hnamed hcode
  cases hmethM.symm.trans hmethM'
  obtain ⟨c2, r2, m2, q1, q2, q3, q4, kP, hkP, hkPi⟩ := Cond.selects_spec hsel
  cases hcls.symm.trans q1
  cases (State.methodFound?_of_named hnamed hy).symm.trans q2
  cases hnamed.symm.trans q3
  have hselP : selectMethod e.platform s.vm cellB.cls mk = .method mk := by rw [Launch.admits_selectMethod X.admits]; exact q4
  obtain ⟨vm₁, X₁, hstep₁⟩ := X.invokevirtual hexec hown hlink hnamed hmethM hstM hkP hkPi hy (a := b) (cell := cellB) hcell
    (fun z h => by rw [h] at hobj; cases hobj) hselP hmethM habM hkP hkPi (g := g) hg (argsL := argsL) (rest := rest) (hlen _ hsigM) hstack hdg
  rcases hK m meth c ⟨T.setVm vm₁, locs, cells, slots⟩ { g with stack := rest } (.invokevirtual index) mk (Value.ref b :: argsL).toArray X₁ hg hsize hdg hW (X₁.named hnamed) (hpre vm₁ X₁.warmed) with ⟨v, B, X', hpost, hsteps⟩ | ⟨q, B, X', hpost, hsteps⟩
  · exact Or.inl ⟨v, vm₁, B, X₁.warmed, X', hpost, fun target h => hstep₁ _ fun acts => by rw [doInvoke_state]; exact hsteps.trans h⟩
  · exact Or.inr ⟨q, vm₁, B, X₁.warmed, X', hpost, hstep₁ _ fun acts => by rw [doInvoke_state]; exact hsteps⟩
theorem vx_callS (X : Stand p l e R s m args below meth c T locs cells slots) (hexec : p.tables.exec = Jvm.exec) {own : String} {index : Nat} {y : MethodName} {bytes : ByteArray} {maxL : Nat} {ret : Option FieldType}
    (hown : s.vm.findClass own = some m.cls) (hlink : (Cond.methodLink own index y).before args s = true) (hstat : (Cond.static y).before args s = true) (hinit : (Cond.initialized y.cls).before args s = true)
    (hcode : (Cond.code y bytes maxL ret).before args s = true) (hy : y.cls ≠ "java/lang/invoke/MethodHandle" ∧ y.cls ≠ "java/lang/invoke/VarHandle")
    {W9 : Nat} {Pre : Pt → Array Value → Prop} {Post : Pt → Array Value → Option Value → Pt → Prop} {PostX : Pt → Array Value → Addr → Pt → Prop} (hK : vx_Back l R p e below s args y 3 W9 Pre Post PostX)
    {g : JFrame} (hg : g.method = m) (hsize : g.locals.size = c.maxLocals) {argsL rest : List Value} (hlen : ∀ sig, parseMethodDescriptor y.desc = some sig → argsL.length = sig.parameters.length)
    (hstack : g.stack = argsL.reverse ++ rest) (hW : 2 * g.monitorRoom + (rest.map fun v => v.category).sum ≤ W9) (hdg : decode c.code g.pc = .ok (.invokestatic index, 3))
    (hpre : ∀ vm₁, s.WarmedH vm₁ → Pre ⟨T.setVm vm₁, locs, cells, slots⟩ argsL.toArray) :
    (∃ (v : Option Value) (vm₁ : Vm) (B : Pt), s.WarmedH vm₁ ∧ Stand p l e R s m args below meth c B.U B.locs B.cells B.slots ∧ Post ⟨T.setVm vm₁, locs, cells, slots⟩ argsL.toArray v B ∧
      ∀ target, Steps p.tables e below (B.U.setTop { g with pc := g.pc + 3, stack := v.toList ++ rest }) target → Steps p.tables e below (T.setTop g) target) ∨
    (∃ (q : Addr) (vm₁ : Vm) (B : Pt), s.WarmedH vm₁ ∧ Stand p l e R s m args below meth c B.U B.locs B.cells B.slots ∧ PostX ⟨T.setVm vm₁, locs, cells, slots⟩ argsL.toArray q B ∧
      Steps p.tables e below (T.setTop g) ((B.U.setTop { g with stack := rest }).pushFrame (.throwing q))) := by
  obtain ⟨mk, hnamed⟩ := Cond.code_named hcode
  obtain ⟨methM, cM, hmethM, -, -, -, -, -, -, hsigM⟩ := Cond.code_spec hnamed hcode
  have hstatic : methM.isStatic = true := Cond.static_spec hnamed hmethM hstat
  obtain ⟨kP, hkP, -⟩ := className_of_methodNamed hnamed
  have hinitP : kP.init = .initialized := Cond.initialized_spec (findClass_of_methodNamed hnamed) hkP hinit
  obtain ⟨vm₁, X₁, hstep₁⟩ := X.invokestatic hexec hown hlink hnamed hmethM hstatic hkP hinitP hy (g := g) hg (argsL := argsL) (rest := rest) (hlen _ hsigM) hstack hdg
  rcases hK m meth c ⟨T.setVm vm₁, locs, cells, slots⟩ { g with stack := rest } (.invokestatic index) mk argsL.toArray X₁ hg hsize hdg hW (X₁.named hnamed) (hpre vm₁ X₁.warmed) with ⟨v, B, X', hpost, hsteps⟩ | ⟨q, B, X', hpost, hsteps⟩
  · exact Or.inl ⟨v, vm₁, B, X₁.warmed, X', hpost, fun target h => hstep₁ _ fun acts => by rw [doInvoke_state]; exact hsteps.trans h⟩
  · exact Or.inr ⟨q, vm₁, B, X₁.warmed, X', hpost, hstep₁ _ fun acts => by rw [doInvoke_state]; exact hsteps⟩
end Calls
theorem vx_cls {s : State} {T : State} {vm₁ : Vm} {E : String} {k : ClassId} (hW : s.WarmedH vm₁) (h : (T.setVm vm₁).vm.findClass E = some k) : s.vm.findClass E = some k := by
  have h1 : vm₁.findClass E = some k := h
  rw [hW.alike.findClass] at h1
  exact h1
/-- the method's frame g, with q thrown over it -/
def vx_W (p : Program) (l : Launch) (e : Env) (R : Room) (s : State) (m : MethodId) (args : Array Value) (below : List Frame) (meth : Method) (c : Code) (H : Heap) (locs : List Loc) (cells slots : Nat) (Q : State → Prop) (g : JFrame) (q : Addr) : Prop :=
  ∀ T : State, T.heap = H → Stand p l e R s m args below meth c T locs cells slots → ∃ t, Steps p.tables e below ((T.setTop g).pushFrame (.throwing q)) t ∧ Q t
def vx_Run (p : Program) (l : Launch) (e : Env) (R : Room) (s : State) (m : MethodId) (args : Array Value) (below : List Frame) (meth : Method) (c : Code) (H : Heap) (locs : List Loc) (cells slots mc ms : Nat) (g : JFrame) (rest : List Value) (Qa : State → Outcome → State → Prop) (XC : String → State → State → Prop) (free : Addr → Prop) : Prop :=
  ∀ T : State, T.heap = H → Stand p l e R s m args below meth c T locs cells slots →
    (∃ (v : Option Value) (st₀ t T' : State) (L : List Loc), st₀.heap = H ∧ Stand p l e R s m args below meth c T' (locs ++ L) (cells + mc) (slots + ms) ∧ (∀ q ∈ L, free q.base) ∧ T'.heap = t.heap ∧ T'.vm = t.vm ∧ Qa st₀ (.returned v) t ∧
      Goes p e below T g T' { g with pc := g.pc + 3, stack := v.toList ++ rest }) ∨
    (∃ (q : Addr) (st₀ t T' : State) (L : List Loc) (E : String) (ce : Cell), st₀.heap = H ∧ Stand p l e R s m args below meth c T' (locs ++ L) (cells + mc) (slots + ms) ∧ (∀ z ∈ L, free z.base) ∧ T'.heap = t.heap ∧ T'.vm = t.vm ∧ XC E st₀ t ∧ t.heap[q]? = some ce ∧ ce.vm = .none ∧ s.vm.findClass E = some ce.cls ∧
      Steps p.tables e below (T.setTop g) ((T'.setTop { g with stack := rest }).pushFrame (.throwing q)))
def vx_X {S : Type} (px : S → Prop) (B : String → S → State → Prop) (A : Nat → Prop) : String → State → State → Prop := fun E st t => ∃ u : S, px u ∧ B E u t ∧ va_F A st t
section Runs
variable {p : Program} {l : Launch} {e : Env} {R : Room} {s : State} {m : MethodId} {args : Array Value} {below : List Frame} {meth : Method} {c : Code} {H : Heap} {locs : List Loc} {cells slots : Nat}
variable {y : MethodName} {bytes cc : ByteArray} {maxL nL mc ms n index : Nat} {ret : Option FieldType} {ws : List Cond} {rm : Room} {Pc : Array Value → State → Prop} {Qc : Array Value → State → Outcome → State → Prop} {XC : String → State → State → Prop} {free : Addr → Prop} {Ts : List Cond} {own C : String} {b : Addr} {As rest : List Value} {g : JFrame}
theorem vx_callBack (cb : CallB R s args own index y bytes maxL ret ws rm mc ms n) (hM : vx_Met l y ws rm Pc Qc XC mc ms free) (hbl : FrameBlind Pc) : vx_Back l R p e below s args y 3 8 (PreOf R mc ms Pc) (PostOf Qc mc ms free) (vx_Post XC mc ms free) := by
  obtain ⟨hrc, hrs, hfr, hlo, hws, hcw, -, hini, -⟩ := cb
  exact vx_back (bytes := bytes) (maxL := maxL) (ret := ret) hM hbl hrc hrs hfr hlo hws hcw (fun a' U hW => word_at hW (Or.inl (by first | rfl | simp [Cond.onTables, Cond.keeps, Cond.steady])) hini)
theorem vx_runV (S : CallFix p m c cc nL s args Ts own) (hM : vx_Met l y ws rm Pc Qc XC mc ms free) (cw : CallW R s args own C index y bytes maxL ret ws rm mc ms n) (hp : PreV s H C b Pc As)
    (hg : g.method = m) (hn : As.length = n) (hsize : g.locals.size = nL) (hstack : g.stack = As.reverse ++ .ref b :: rest) (hW : 2 * g.monitorRoom + (rest.map fun v => v.category).sum ≤ 8) (hdg : decode cc g.pc = .ok (.invokevirtual index, 3)) (hf : cells + mc ≤ R.cells ∧ slots + ms ≤ R.slots) :
    vx_Run p l e R s m args below meth c H locs cells slots mc ms g rest (Qc (Value.ref b :: As).toArray) XC free := by
  have hK : vx_Back l R p e below s args y 3 8 (PreOf R mc ms Pc) (PostOf Qc mc ms free) (vx_Post XC mc ms free) := vx_callBack cw.1 hM hp.1
  obtain ⟨⟨-, -, -, -, -, -, hcode, -, hy, hlen, hl⟩, hin, hse⟩ := cw
  obtain ⟨hx, hb, hml, ho, -⟩ := S
  obtain ⟨-, ⟨cellB, hcB, hoB, hclB⟩, hPc⟩ := hp
  intro T hT X
  rcases vx_callV X hx (C := C) (bytes := bytes) (maxL := maxL) (ret := ret) ho hl hin hse hcode hy hK (by rw [hT]; exact hcB) hoB hclB hg (hsize.trans hml.symm) (argsL := As) (rest := rest) (fun sig h => hn.trans (hlen sig h)) hstack hW (by rw [hb]; exact hdg)
    (fun vm₁ hW₁ => ⟨hf.1, hf.2, hPc (T.setVm vm₁) hT hW₁⟩) with ⟨v, vm₁, ⟨U', l2, c2, s2⟩, hW₁, X', ⟨g', mk, t, L, e1, e2, hq, h1, hL, h2, h3⟩, st⟩ | ⟨q, vm₁, ⟨U', l2, c2, s2⟩, hW₁, X', ⟨g', mk, t, L, E, ce, e1, e2, hq, hce, hcv, hcl, h1, hL, h2, h3⟩, st⟩
  · dsimp only [Pt.U, Pt.locs, Pt.cells, Pt.slots] at X' e1 e2 h1 h2 h3 st
    subst h1; subst h2; subst h3
    exact Or.inl ⟨v, (T.setVm vm₁).calling g' mk (Value.ref b :: As).toArray, t, U', L, hT, X', hL, e1, e2, hq, st⟩
  · dsimp only [Pt.U, Pt.locs, Pt.cells, Pt.slots] at X' e1 e2 h1 h2 h3 st hcl
    subst h1; subst h2; subst h3
    exact Or.inr ⟨q, (T.setVm vm₁).calling g' mk (Value.ref b :: As).toArray, t, U', L, E, ce, hT, X', hL, e1, e2, hq, hce, hcv, vx_cls hW₁ hcl, st⟩
theorem vx_runS (S : CallFix p m c cc nL s args Ts own) (hM : vx_Met l y ws rm Pc Qc XC mc ms free) (cw : CallB R s args own index y bytes maxL ret ws rm mc ms n ∧ (Cond.static y).before args s = true) (hp : PreS s H Pc As)
    (hg : g.method = m) (hn : As.length = n) (hsize : g.locals.size = nL) (hstack : g.stack = As.reverse ++ rest) (hW : 2 * g.monitorRoom + (rest.map fun v => v.category).sum ≤ 8) (hdg : decode cc g.pc = .ok (.invokestatic index, 3)) (hf : cells + mc ≤ R.cells ∧ slots + ms ≤ R.slots) :
    vx_Run p l e R s m args below meth c H locs cells slots mc ms g rest (Qc As.toArray) XC free := by
  have hK : vx_Back l R p e below s args y 3 8 (PreOf R mc ms Pc) (PostOf Qc mc ms free) (vx_Post XC mc ms free) := vx_callBack cw.1 hM hp.1
  obtain ⟨⟨-, -, -, -, -, -, hcode, hini, hy, hlen, hl⟩, hstt⟩ := cw
  obtain ⟨hx, hb, hml, ho, -⟩ := S
  intro T hT X
  rcases vx_callS X hx (bytes := bytes) (maxL := maxL) (ret := ret) ho hl hstt hini hcode hy hK hg (hsize.trans hml.symm) (argsL := As) (rest := rest) (fun sig h => hn.trans (hlen sig h)) hstack hW (by rw [hb]; exact hdg)
    (fun vm₁ hW₁ => ⟨hf.1, hf.2, hp.2 (T.setVm vm₁) hT hW₁⟩) with ⟨v, vm₁, ⟨U', l2, c2, s2⟩, hW₁, X', ⟨g', mk, t, L, e1, e2, hq, h1, hL, h2, h3⟩, st⟩ | ⟨q, vm₁, ⟨U', l2, c2, s2⟩, hW₁, X', ⟨g', mk, t, L, E, ce, e1, e2, hq, hce, hcv, hcl, h1, hL, h2, h3⟩, st⟩
  · dsimp only [Pt.U, Pt.locs, Pt.cells, Pt.slots] at X' e1 e2 h1 h2 h3 st
    subst h1; subst h2; subst h3
    exact Or.inl ⟨v, (T.setVm vm₁).calling g' mk As.toArray, t, U', L, hT, X', hL, e1, e2, hq, st⟩
  · dsimp only [Pt.U, Pt.locs, Pt.cells, Pt.slots] at X' e1 e2 h1 h2 h3 st hcl
    subst h1; subst h2; subst h3
    exact Or.inr ⟨q, (T.setVm vm₁).calling g' mk As.toArray, t, U', L, E, ce, hT, X', hL, e1, e2, hq, hce, hcv, vx_cls hW₁ hcl, st⟩
end Runs
section Rows
variable {p : Program} {l : Launch} {e : Env} {R : Room} {s : State} {m : MethodId} {args : Array Value} {below : List Frame} {meth : Method} {c : Code} {H : Heap} {locs : List Loc} {cells slots : Nat} {Q : State → Prop}
variable {mc ms : Nat} {free : Addr → Prop} {A0 A1 : Nat → Prop} {H0 : Heap} {a : Array Value} {pc : Nat} {ls : Array Slot} {st0 rest : List Value}
theorem vx_keep {st₀ t T' : State} {L : List Loc} (h0 : st₀.heap = H) (e1 : T'.heap = t.heap) (hS : va_S A0 H0 H locs) (hA : ∀ q, q < H.size → A1 q → A0 q) (hf : ∀ q, free q → A0 q) (hL : ∀ q ∈ L, free q.base) (hF : va_F A1 st₀ t) :
    H.size ≤ T'.heap.size ∧ (∀ q : Nat, q < H.size → ¬ A1 q → T'.heap[q]? = H[q]?) ∧ va_S A0 H0 T'.heap (locs ++ L) := by
  obtain ⟨hz, hk⟩ := hF
  rw [h0] at hz hk
  exact ⟨by rw [e1]; exact hz, fun q h1 h2 => by rw [e1]; exact hk q h1 h2,
    ⟨Nat.le_trans hS.1 (by rw [e1]; exact hz), fun q h1 h2 => by rw [e1, hk q (Nat.lt_of_lt_of_le h1 hS.1) (fun z => h2 (hA q (Nat.lt_of_lt_of_le h1 hS.1) z))]; exact hS.2.1 q h1 h2, fun q hq => by
      rcases List.mem_append.mp hq with h | h
      · exact hS.2.2 q h
      · exact hf _ (hL q h)⟩⟩
theorem vx_calli {S SX : Type} {post : Int32 → S → Prop} {px : SX → Prop} {B : S → State → Prop} {BX : String → SX → State → Prop} {AX : Nat → Prop} (hr : vx_Run p l e R s m args below meth c H locs cells slots mc ms (F0 m pc ls st0) rest (va_Qi post B A1 a) (vx_X px BX AX) free) (hS : va_S A0 H0 H locs) (hA : ∀ q, q < H.size → A1 q → A0 q) (hf : ∀ q, free q → A0 q) (hAX : ∀ q, q < H.size → AX q → A0 q)
    (kx : ∀ (E : String) (ce : Cell) (q9 : Addr) (u : SX) (t : State) (H1 : Heap) (locs1 : List Loc), t.heap = H1 → s.vm.Alike t.vm → px u → BX E u t → H.size ≤ H1.size → (∀ q : Nat, q < H.size → ¬ AX q → H1[q]? = H[q]?) → va_S A0 H0 H1 locs1 → H1[q9]? = some ce → ce.vm = .none → s.vm.findClass E = some ce.cls → vx_W p l e R s m args below meth c H1 locs1 (cells + mc) (slots + ms) Q (F0 m pc ls rest) q9)
    (kk : ∀ (r : Int32) (u : S) (t : State) (H1 : Heap) (locs1 : List Loc), t.heap = H1 → s.vm.Alike t.vm → post r u → B u t → H.size ≤ H1.size → (∀ q : Nat, q < H.size → ¬ A1 q → H1[q]? = H[q]?) → va_S A0 H0 H1 locs1 → W p l e R s m args below meth c H1 locs1 (cells + mc) (slots + ms) Q (F0 m (pc + 3) ls (.int r :: rest))) : W p l e R s m args below meth c H locs cells slots Q (F0 m pc ls st0) := by
  intro T hT X
  rcases hr T hT X with ⟨v, st₀, t, T', L, h0, X', hL, e1, e2, ⟨⟨r, u, hv, hp, hb⟩, hF⟩, st⟩ | ⟨q, st₀, t, T', L, E, ce, h0, X', hL, e1, e2, ⟨u, hp, hb, hF⟩, hce, hcv, hcl, st⟩
  · cases hv
    obtain ⟨k1, k2, k3⟩ := vx_keep h0 e1 hS hA hf hL hF
    obtain ⟨t2, a1, b1⟩ := kk r u t T'.heap (locs ++ L) e1.symm (by rw [← e2]; exact X'.warmed.alike) hp hb k1 k2 k3 T' rfl X'
    exact ⟨t2, st t2 a1, b1⟩
  · obtain ⟨k1, k2, k3⟩ := vx_keep h0 e1 hS hAX hf hL hF
    obtain ⟨t2, a1, b1⟩ := kx E ce q u t T'.heap (locs ++ L) e1.symm (by rw [← e2]; exact X'.warmed.alike) hp hb k1 k2 k3 (by rw [e1]; exact hce) hcv hcl T' rfl X'
    exact ⟨t2, st.trans a1, b1⟩
theorem vx_calll {S SX : Type} {post : Int64 → S → Prop} {px : SX → Prop} {B : S → State → Prop} {BX : String → SX → State → Prop} {AX : Nat → Prop} (hr : vx_Run p l e R s m args below meth c H locs cells slots mc ms (F0 m pc ls st0) rest (va_Ql post B A1 a) (vx_X px BX AX) free) (hS : va_S A0 H0 H locs) (hA : ∀ q, q < H.size → A1 q → A0 q) (hf : ∀ q, free q → A0 q) (hAX : ∀ q, q < H.size → AX q → A0 q)
    (kx : ∀ (E : String) (ce : Cell) (q9 : Addr) (u : SX) (t : State) (H1 : Heap) (locs1 : List Loc), t.heap = H1 → s.vm.Alike t.vm → px u → BX E u t → H.size ≤ H1.size → (∀ q : Nat, q < H.size → ¬ AX q → H1[q]? = H[q]?) → va_S A0 H0 H1 locs1 → H1[q9]? = some ce → ce.vm = .none → s.vm.findClass E = some ce.cls → vx_W p l e R s m args below meth c H1 locs1 (cells + mc) (slots + ms) Q (F0 m pc ls rest) q9)
    (kk : ∀ (r : Int64) (u : S) (t : State) (H1 : Heap) (locs1 : List Loc), t.heap = H1 → s.vm.Alike t.vm → post r u → B u t → H.size ≤ H1.size → (∀ q : Nat, q < H.size → ¬ A1 q → H1[q]? = H[q]?) → va_S A0 H0 H1 locs1 → W p l e R s m args below meth c H1 locs1 (cells + mc) (slots + ms) Q (F0 m (pc + 3) ls (.long r :: rest))) : W p l e R s m args below meth c H locs cells slots Q (F0 m pc ls st0) := by
  intro T hT X
  rcases hr T hT X with ⟨v, st₀, t, T', L, h0, X', hL, e1, e2, ⟨⟨r, u, hv, hp, hb⟩, hF⟩, st⟩ | ⟨q, st₀, t, T', L, E, ce, h0, X', hL, e1, e2, ⟨u, hp, hb, hF⟩, hce, hcv, hcl, st⟩
  · cases hv
    obtain ⟨k1, k2, k3⟩ := vx_keep h0 e1 hS hA hf hL hF
    obtain ⟨t2, a1, b1⟩ := kk r u t T'.heap (locs ++ L) e1.symm (by rw [← e2]; exact X'.warmed.alike) hp hb k1 k2 k3 T' rfl X'
    exact ⟨t2, st t2 a1, b1⟩
  · obtain ⟨k1, k2, k3⟩ := vx_keep h0 e1 hS hAX hf hL hF
    obtain ⟨t2, a1, b1⟩ := kx E ce q u t T'.heap (locs ++ L) e1.symm (by rw [← e2]; exact X'.warmed.alike) hp hb k1 k2 k3 (by rw [e1]; exact hce) hcv hcl T' rfl X'
    exact ⟨t2, st.trans a1, b1⟩
theorem vx_callf {S SX : Type} {post : UInt32 → S → Prop} {px : SX → Prop} {B : S → State → Prop} {BX : String → SX → State → Prop} {AX : Nat → Prop} (hr : vx_Run p l e R s m args below meth c H locs cells slots mc ms (F0 m pc ls st0) rest (va_Qf post B A1 a) (vx_X px BX AX) free) (hS : va_S A0 H0 H locs) (hA : ∀ q, q < H.size → A1 q → A0 q) (hf : ∀ q, free q → A0 q) (hAX : ∀ q, q < H.size → AX q → A0 q)
    (kx : ∀ (E : String) (ce : Cell) (q9 : Addr) (u : SX) (t : State) (H1 : Heap) (locs1 : List Loc), t.heap = H1 → s.vm.Alike t.vm → px u → BX E u t → H.size ≤ H1.size → (∀ q : Nat, q < H.size → ¬ AX q → H1[q]? = H[q]?) → va_S A0 H0 H1 locs1 → H1[q9]? = some ce → ce.vm = .none → s.vm.findClass E = some ce.cls → vx_W p l e R s m args below meth c H1 locs1 (cells + mc) (slots + ms) Q (F0 m pc ls rest) q9)
    (kk : ∀ (r : UInt32) (u : S) (t : State) (H1 : Heap) (locs1 : List Loc), t.heap = H1 → s.vm.Alike t.vm → post r u → B u t → H.size ≤ H1.size → (∀ q : Nat, q < H.size → ¬ A1 q → H1[q]? = H[q]?) → va_S A0 H0 H1 locs1 → W p l e R s m args below meth c H1 locs1 (cells + mc) (slots + ms) Q (F0 m (pc + 3) ls (.float r :: rest))) : W p l e R s m args below meth c H locs cells slots Q (F0 m pc ls st0) := by
  intro T hT X
  rcases hr T hT X with ⟨v, st₀, t, T', L, h0, X', hL, e1, e2, ⟨⟨r, u, hv, hp, hb⟩, hF⟩, st⟩ | ⟨q, st₀, t, T', L, E, ce, h0, X', hL, e1, e2, ⟨u, hp, hb, hF⟩, hce, hcv, hcl, st⟩
  · cases hv
    obtain ⟨k1, k2, k3⟩ := vx_keep h0 e1 hS hA hf hL hF
    obtain ⟨t2, a1, b1⟩ := kk r u t T'.heap (locs ++ L) e1.symm (by rw [← e2]; exact X'.warmed.alike) hp hb k1 k2 k3 T' rfl X'
    exact ⟨t2, st t2 a1, b1⟩
  · obtain ⟨k1, k2, k3⟩ := vx_keep h0 e1 hS hAX hf hL hF
    obtain ⟨t2, a1, b1⟩ := kx E ce q u t T'.heap (locs ++ L) e1.symm (by rw [← e2]; exact X'.warmed.alike) hp hb k1 k2 k3 (by rw [e1]; exact hce) hcv hcl T' rfl X'
    exact ⟨t2, st.trans a1, b1⟩
theorem vx_calld {S SX : Type} {post : UInt64 → S → Prop} {px : SX → Prop} {B : S → State → Prop} {BX : String → SX → State → Prop} {AX : Nat → Prop} (hr : vx_Run p l e R s m args below meth c H locs cells slots mc ms (F0 m pc ls st0) rest (va_Qd post B A1 a) (vx_X px BX AX) free) (hS : va_S A0 H0 H locs) (hA : ∀ q, q < H.size → A1 q → A0 q) (hf : ∀ q, free q → A0 q) (hAX : ∀ q, q < H.size → AX q → A0 q)
    (kx : ∀ (E : String) (ce : Cell) (q9 : Addr) (u : SX) (t : State) (H1 : Heap) (locs1 : List Loc), t.heap = H1 → s.vm.Alike t.vm → px u → BX E u t → H.size ≤ H1.size → (∀ q : Nat, q < H.size → ¬ AX q → H1[q]? = H[q]?) → va_S A0 H0 H1 locs1 → H1[q9]? = some ce → ce.vm = .none → s.vm.findClass E = some ce.cls → vx_W p l e R s m args below meth c H1 locs1 (cells + mc) (slots + ms) Q (F0 m pc ls rest) q9)
    (kk : ∀ (r : UInt64) (u : S) (t : State) (H1 : Heap) (locs1 : List Loc), t.heap = H1 → s.vm.Alike t.vm → post r u → B u t → H.size ≤ H1.size → (∀ q : Nat, q < H.size → ¬ A1 q → H1[q]? = H[q]?) → va_S A0 H0 H1 locs1 → W p l e R s m args below meth c H1 locs1 (cells + mc) (slots + ms) Q (F0 m (pc + 3) ls (.double r :: rest))) : W p l e R s m args below meth c H locs cells slots Q (F0 m pc ls st0) := by
  intro T hT X
  rcases hr T hT X with ⟨v, st₀, t, T', L, h0, X', hL, e1, e2, ⟨⟨r, u, hv, hp, hb⟩, hF⟩, st⟩ | ⟨q, st₀, t, T', L, E, ce, h0, X', hL, e1, e2, ⟨u, hp, hb, hF⟩, hce, hcv, hcl, st⟩
  · cases hv
    obtain ⟨k1, k2, k3⟩ := vx_keep h0 e1 hS hA hf hL hF
    obtain ⟨t2, a1, b1⟩ := kk r u t T'.heap (locs ++ L) e1.symm (by rw [← e2]; exact X'.warmed.alike) hp hb k1 k2 k3 T' rfl X'
    exact ⟨t2, st t2 a1, b1⟩
  · obtain ⟨k1, k2, k3⟩ := vx_keep h0 e1 hS hAX hf hL hF
    obtain ⟨t2, a1, b1⟩ := kx E ce q u t T'.heap (locs ++ L) e1.symm (by rw [← e2]; exact X'.warmed.alike) hp hb k1 k2 k3 (by rw [e1]; exact hce) hcv hcl T' rfl X'
    exact ⟨t2, st.trans a1, b1⟩
theorem vx_callv {S SX : Type} {post : S → Prop} {px : SX → Prop} {B : S → State → Prop} {BX : String → SX → State → Prop} {AX : Nat → Prop} (hr : vx_Run p l e R s m args below meth c H locs cells slots mc ms (F0 m pc ls st0) rest (va_Qv post B A1 a) (vx_X px BX AX) free) (hS : va_S A0 H0 H locs) (hA : ∀ q, q < H.size → A1 q → A0 q) (hf : ∀ q, free q → A0 q) (hAX : ∀ q, q < H.size → AX q → A0 q)
    (kx : ∀ (E : String) (ce : Cell) (q9 : Addr) (u : SX) (t : State) (H1 : Heap) (locs1 : List Loc), t.heap = H1 → s.vm.Alike t.vm → px u → BX E u t → H.size ≤ H1.size → (∀ q : Nat, q < H.size → ¬ AX q → H1[q]? = H[q]?) → va_S A0 H0 H1 locs1 → H1[q9]? = some ce → ce.vm = .none → s.vm.findClass E = some ce.cls → vx_W p l e R s m args below meth c H1 locs1 (cells + mc) (slots + ms) Q (F0 m pc ls rest) q9)
    (kk : ∀ (u : S) (t : State) (H1 : Heap) (locs1 : List Loc), t.heap = H1 → s.vm.Alike t.vm → post u → B u t → H.size ≤ H1.size → (∀ q : Nat, q < H.size → ¬ A1 q → H1[q]? = H[q]?) → va_S A0 H0 H1 locs1 → W p l e R s m args below meth c H1 locs1 (cells + mc) (slots + ms) Q (F0 m (pc + 3) ls (rest))) : W p l e R s m args below meth c H locs cells slots Q (F0 m pc ls st0) := by
  intro T hT X
  rcases hr T hT X with ⟨v, st₀, t, T', L, h0, X', hL, e1, e2, ⟨⟨u, hv, hp, hb⟩, hF⟩, st⟩ | ⟨q, st₀, t, T', L, E, ce, h0, X', hL, e1, e2, ⟨u, hp, hb, hF⟩, hce, hcv, hcl, st⟩
  · cases hv
    obtain ⟨k1, k2, k3⟩ := vx_keep h0 e1 hS hA hf hL hF
    obtain ⟨t2, a1, b1⟩ := kk u t T'.heap (locs ++ L) e1.symm (by rw [← e2]; exact X'.warmed.alike) hp hb k1 k2 k3 T' rfl X'
    exact ⟨t2, st t2 a1, b1⟩
  · obtain ⟨k1, k2, k3⟩ := vx_keep h0 e1 hS hAX hf hL hF
    obtain ⟨t2, a1, b1⟩ := kx E ce q u t T'.heap (locs ++ L) e1.symm (by rw [← e2]; exact X'.warmed.alike) hp hb k1 k2 k3 (by rw [e1]; exact hce) hcv hcl T' rfl X'
    exact ⟨t2, st.trans a1, b1⟩
/-- caught by the row x of this method's table; the rows ahead don't take it -/
theorem vx_catch {own name : String} {E : String} {ce : Cell} {q : Addr} (hown : s.vm.findClass own = some m.cls) (pre : List ExceptionTableEntry) (x : ExceptionTableEntry) (suf : List ExceptionTableEntry) (hsplit : c.exceptionTable.toList = pre ++ x :: suf)
    (hpass : ∀ z ∈ pre, covers z pc = false ∨ (z.catchType ≠ 0 ∧ ∃ nm : String, (Cond.classLink own z.catchType nm).before args s = true ∧ va_Nc E nm s)) (hx : covers x pc = true) (h0 : x.catchType ≠ 0)
    (hlink : (Cond.classLink own x.catchType name).before args s = true) (hcast : (Cond.castable E name).before args s = true) (hcell : H[q]? = some ce) (hv : ce.vm = .none) (hcl : s.vm.findClass E = some ce.cls)
    (kk : W p l e R s m args below meth c H locs cells slots Q (F0 m x.handlerPc ls [.ref q])) : vx_W p l e R s m args below meth c H locs cells slots Q (F0 m pc ls rest) q := by
  intro T hT X
  have hpl : e.platform.magicAccessors = ({} : Platform).magicAccessors := by rw [X.admits.platform]
  obtain ⟨c3, c4, hc3, hc4, hasg⟩ := Cond.castable_spec hcast
  cases Option.some.inj (hc3.symm.trans hcl)
  obtain ⟨c5, hc5, hcl5⟩ := Cond.classLink_spec hown hlink e.platform hpl
  cases Option.some.inj (hc4.symm.trans hc5)
  obtain ⟨vm', X', st⟩ := X.thenCaughtThrough q (g := F0 m pc ls rest) rfl (Steps.refl _) (by rw [hT]; exact hcell) (by rw [hv]; rfl) (by obtain ⟨k9, h9, -⟩ := Vm.findClass_spec hcl; exact ⟨k9, h9⟩) pre x suf hsplit
    (fun z hz => by
      rcases hpass z hz with h | ⟨hz0, nm, hl1, hn1⟩
      · exact Or.inl h
      · obtain ⟨c6, hc6, hcl6⟩ := Cond.classLink_spec hown hl1 e.platform hpl
        obtain ⟨a8, b8, h1, h2, h3⟩ := hn1
        cases Option.some.inj (h1.symm.trans hcl)
        cases Option.some.inj (h2.symm.trans hc6)
        exact Or.inr ⟨hz0, _, hcl6, h3⟩) hx (Or.inr ⟨h0, c4, hcl5, hasg⟩)
  obtain ⟨t, a1, b1⟩ := kk (T.setVm vm') hT X'
  exact ⟨t, st.trans a1, b1⟩
end Rows
section Ends
variable {p : Program} {l : Launch} {e : Env} {R : Room} {s : State} {m : MethodId} {args : Array Value} {below : List Frame} {meth : Method} {c : Code} {H : Heap} {locs : List Loc} {cells slots : Nat} {Q : State → Prop}
variable {mc ms : Nat} {free : Addr → Prop} {A0 A1 : Nat → Prop} {H0 : Heap} {a : Array Value} {ls : Array Slot} {st0 rest : List Value}
variable {Qc : Array Value → State → Outcome → State → Prop} {XC : String → State → State → Prop}
/-- what a body that may throw owes at its end -/
def vx_MQ (below : List Frame) (Qc : Array Value → State → Outcome → State → Prop) (XC : String → State → State → Prop) (a : Array Value) (s : State) (mc ms : Nat) (free : Addr → Prop) : State → Prop := fun t =>
  ∃ o, t.status = .running ∧ Ended t below o ∧ vx_Q Qc XC mc ms free a s o t
theorem vx_ret {g : JFrame} {mc ms : Nat} (k : W p l e R s m args below meth c H locs cells slots (MQ below Qc args s mc ms free) g) : W p l e R s m args below meth c H locs cells slots (vx_MQ below Qc XC args s mc ms free) g := by
  intro T hT X
  obtain ⟨t, a1, o, b1, b2, b3, b4⟩ := k T hT X
  exact ⟨t, a1, o, b1, b2, Or.inl ⟨b3, b4⟩⟩
/-- not caught here: it goes on to the caller -/
theorem vx_widen {g : JFrame} {q : Addr} {k n : Nat} (h1 : cells ≤ k) (h2 : slots ≤ n) (kk : vx_W p l e R s m args below meth c H locs k n Q g q) : vx_W p l e R s m args below meth c H locs cells slots Q g q := fun T hT X => kk T hT (stand_widen X h1 h2)
theorem vx_out {pc : Nat} {E : String} {ce : Cell} {q : Addr} {mc ms : Nat} (hout : ∀ x ∈ c.exceptionTable.toList, covers x pc = false) (hlocks : meth.locks = false) (hcell : H[q]? = some ce) (hv : ce.vm = .none) (hcl : s.vm.findClass E = some ce.cls)
    (hx : ∀ t : State, t.heap = H → s.vm.Alike t.vm → XC E s t) (hf : ∀ z ∈ locs, free z.base) (hc : cells ≤ mc) (hs : slots ≤ ms) :
    vx_W p l e R s m args below meth c H locs cells slots (vx_MQ below Qc XC args s mc ms free) (F0 m pc ls rest) q := by
  intro T hT X
  obtain ⟨st1, hrun, hend, hW, hsm⟩ := X.leaveThrown q (g := F0 m pc ls rest) rfl rfl rfl hout hlocks
  have hcell9 : (T.setFrames (.throwing q :: below)).heap[q]? = some ce := by
    show T.heap[q]? = some ce
    rw [hT]; exact hcell
  exact ⟨_, st1, .threw q, hrun, hend, Or.inr ⟨q, rfl, E, ce, locs, hx _ hT hW.alike, hcell9, hv, hcl, hW, hsm.mono hc hs, hf⟩⟩
theorem vx_frame {U : State} {k n : Nat} (h : s.sameButNew ({ U with vm := s.vm } : State) locs k n) : s.heap.size ≤ U.heap.size ∧ ∀ q : Nat, q < s.heap.size → (∀ z ∈ locs, z.base ≠ q) → U.heap[q]? = s.heap[q]? := by
  obtain ⟨-, h2, -, -, -, h6⟩ := h
  refine ⟨h2, fun q hq hz => ?_⟩
  obtain ⟨c9, e1, e2, e3, e4⟩ := h6 q _ (Array.getElem?_eq_getElem hq)
  have hs : c9.slots = (s.heap[q]).slots := Array.ext_getElem? fun i => e4 i fun hm => hz _ hm rfl
  have h9 : c9 = s.heap[q] := by
    rw [hs] at e2
    exact e2
  have e5 : U.heap[q]? = some c9 := e1
  rw [e5, h9, Array.getElem?_eq_getElem hq]
/-- the words of a throw but the four that speak of the heap -/
def vx_no (w : Cond) : Bool := decide (w ≠ .isRef (.static Bundle.tN "UNASSIGNED_STACK" Bundle.steD)) && decide (w ≠ .isRef (.static Bundle.tN "SUPPRESSED_SENTINEL" Bundle.listD)) && decide (w ≠ .laysStatic Bundle.tN "UNASSIGNED_STACK" Bundle.steD) && decide (w ≠ .laysStatic Bundle.tN "SUPPRESSED_SENTINEL" Bundle.listD)
def vx_at0 (own : String) (ic : Nat) (X : String) (names : List String) : List Cond := (Bundle.ownAtoms0 own ic X names).filter vx_no
def vx_atS (own : String) (ic : Nat) (X : String) (names : List String) : List Cond := (Bundle.ownAtoms own ic X names).filter vx_no
/-- a word that the tables alone decide, or a good one -/
def vx_ot (w : Cond) : Bool := w.onTables || goodWord w
theorem vx_ot_at {args a' : Array Value} {s U : State} {w : Cond} (hW : s.WarmedH U.vm) (hvm : s.vm = U.vm) (hg : vx_ot w = true) (h : w.before args s = true) : w.before a' U = true := by
  simp only [vx_ot, Bool.or_eq_true] at hg
  rcases hg with hg | hg
  · exact va_tabs hg hvm h
  · exact word_at hW (good_of_word hg) h
/-- a list's words: the good ones out of the method's own list, the others by premises of their own -/
theorem vx_hat {args : Array Value} {s : State} {L B : List Cond} (h1 : ∀ w ∈ L.filter goodWord, w.before args s = true) (h2 : ∀ w ∈ L.filter (fun w => !goodWord w), w ∈ B) (h3 : ∀ w ∈ B, w.before args s = true) : ∀ w ∈ L, w.before args s = true := by
  intro w hw
  by_cases g : goodWord w = true
  · exact h1 w (List.mem_filter.mpr ⟨hw, g⟩)
  · refine h3 w (h2 w (List.mem_filter.mpr ⟨hw, ?_⟩))
    show (!goodWord w) = true
    cases hgw : goodWord w
    · rfl
    · exact absurd hgw g
theorem vx_c {args : Array Value} {s : State} {w : Cond} {B : List Cond} (h : w.before args s = true) (t : ∀ w ∈ B, w.before args s = true) : ∀ w' ∈ w :: B, w'.before args s = true := fun w' h' => (List.mem_cons.mp h').elim (fun e => by rw [e]; exact h) (t w')
theorem vx_n {args : Array Value} {s : State} : ∀ w ∈ ([] : List Cond), w.before args s = true := fun _ h => nomatch h
theorem vx_own {args : Array Value} {s : State} {L : List Cond} (h1 : ∀ w ∈ L.filter vx_no, w.before args s = true)
    (hU : (Cond.isRef (.static Bundle.tN "UNASSIGNED_STACK" Bundle.steD)).before args s = true) (hN : (Cond.isRef (.static Bundle.tN "SUPPRESSED_SENTINEL" Bundle.listD)).before args s = true)
    (lU : (Cond.laysStatic Bundle.tN "UNASSIGNED_STACK" Bundle.steD).before args s = true) (lN : (Cond.laysStatic Bundle.tN "SUPPRESSED_SENTINEL" Bundle.listD).before args s = true) : ∀ w ∈ L, w.before args s = true := by
  intro w hw
  by_cases e1 : w = .isRef (.static Bundle.tN "UNASSIGNED_STACK" Bundle.steD)
  · rw [e1]; exact hU
  · by_cases e2 : w = .isRef (.static Bundle.tN "SUPPRESSED_SENTINEL" Bundle.listD)
    · rw [e2]; exact hN
    · by_cases e3 : w = .laysStatic Bundle.tN "UNASSIGNED_STACK" Bundle.steD
      · rw [e3]; exact lU
      · by_cases e4 : w = .laysStatic Bundle.tN "SUPPRESSED_SENTINEL" Bundle.listD
        · rw [e4]; exact lN
        · exact h1 w (List.mem_filter.mpr ⟨hw, by unfold vx_no; rw [decide_eq_true e1, decide_eq_true e2, decide_eq_true e3, decide_eq_true e4]; rfl⟩)
/-- where a static field lies, its class's statics cell in H -/
def vx_L (C n d : String) (A : Nat → Prop) (U : State) (H : Heap) : Prop := ∃ (c : ClassId) (k : Class) (i : Nat) (f : Field) (a : Nat) (cell : Cell), U.vm.findClass C = some c ∧ U.fieldFound? C n d = some (c, k, i, f) ∧ f.isStatic = true ∧ k.statics = some a ∧ H[a]? = some cell ∧ cell.vm.isStatics = true ∧ cell.cls = c ∧ f.slot < cell.slots.size ∧ k.staticTypes[f.slot]? = some f.type ∧ ¬ A a
theorem vx_L.moved {C n d : String} {A : Nat → Prop} {u U : State} {H : Heap} (hvm : u.vm.Alike U.vm) (h : vx_L C n d A u H) : vx_L C n d A U H := by
  obtain ⟨c, k, i, f, a, cell, h1, h2, h3, h4, h5, h6, h7, h8, h9, h10⟩ := h
  obtain ⟨k', hi', he⟩ := State.fieldFound?_setVm hvm h2
  exact ⟨c, k', i, f, a, cell, by rw [hvm.findClass]; exact h1, hi', h3, by rw [he]; exact h4, h5, h6, h7, h8, by rw [he]; exact h9, h10⟩
theorem vx_L.kept {C n d : String} {A : Nat → Prop} {U : State} {H H1 : Heap} (h : vx_L C n d A U H) (hq : ∀ a : Nat, a < H.size → ¬ A a → H1[a]? = H[a]?) : vx_L C n d A U H1 := by
  obtain ⟨c, k, i, f, a, cell, h1, h2, h3, h4, h5, h6, h7, h8, h9, h10⟩ := h
  exact ⟨c, k, i, f, a, cell, h1, h2, h3, h4, by rw [hq a (Array.getElem?_eq_some_iff.mp h5).1 h10]; exact h5, h6, h7, h8, h9, h10⟩
theorem vx_L.narrow {C n d : String} {A B : Nat → Prop} {U : State} {H : Heap} (h : vx_L C n d A U H) (hAB : ∀ q, B q → A q) : vx_L C n d B U H := by
  obtain ⟨c, k, i, f, a, cell, h1, h2, h3, h4, h5, h6, h7, h8, h9, h10⟩ := h
  exact ⟨c, k, i, f, a, cell, h1, h2, h3, h4, h5, h6, h7, h8, h9, fun z => h10 (hAB _ z)⟩
theorem vx_L.word {C n d : String} {A : Nat → Prop} {s : State} {args : Array Value} (h : vx_L C n d A s s.heap) : (Cond.laysStatic C n d).before args s = true := by
  obtain ⟨c, k, i, f, a, cell, h1, h2, h3, h4, h5, h6, h7, h8, h9, -⟩ := h
  show (Cond.laysStatic C n d).holds args s none s [] = true
  exact Cond.laysStatic_of h1 h2 h3 h4 h5 h6 h7 h8 h9
/-- .. and what it holds: null or some reference -/
def vx_Zq (C n d : String) (A : Nat → Prop) (U : State) (H : Heap) : Prop := va_Zq C n d A U H ∧ vx_L C n d A U H
theorem vx_Zq.moved {C n d : String} {A : Nat → Prop} {u U : State} {H : Heap} (hvm : u.vm.Alike U.vm) (h : vx_Zq C n d A u H) : vx_Zq C n d A U H := ⟨va_Zq.moved hvm h.1, vx_L.moved hvm h.2⟩
theorem vx_Zq.kept {C n d : String} {A : Nat → Prop} {U : State} {H H1 : Heap} (h : vx_Zq C n d A U H) (hq : ∀ a : Nat, a < H.size → ¬ A a → H1[a]? = H[a]?) : vx_Zq C n d A U H1 := ⟨va_Zq.kept h.1 hq, vx_L.kept h.2 hq⟩
theorem vx_Zq.narrow {C n d : String} {A B : Nat → Prop} {U : State} {H : Heap} (h : vx_Zq C n d A U H) (hAB : ∀ q, B q → A q) : vx_Zq C n d B U H := ⟨va_Zq.narrow h.1 hAB, vx_L.narrow h.2 hAB⟩
theorem vx_Zqof {args : Array Value} {s : State} {C n d : String} {A : Nat → Prop} (hl : (Cond.laysStatic C n d).before args s = true) (hini : (Cond.initialized C).before args s = true) (h : (Cond.isRef (.static C n d)).before args s = true) (hA : ∀ a : Nat, a < s.heap.size → ¬ A a) : vx_Zq C n d A s s.heap := by
  refine ⟨va_Zqof hl hini h hA, ?_⟩
  obtain ⟨c, k, i, f, a, cell, h1, h2, h3, h4, h5, h6, h7, h8, h9⟩ := Cond.laysStatic_spec hl
  exact ⟨c, k, i, f, a, cell, h1, h2, h3, h4, h5, h6, h7, h8, h9, hA a (Array.getElem?_eq_some_iff.mp h5).1⟩
theorem vx_isRef {C n d : String} {v : Value} {A : Nat → Prop} {s : State} {args : Array Value} (h : va_Z C n d v A s s.heap) (hv : v.isRef = true) : (Cond.isRef (.static C n d)).before args s = true := by
  obtain ⟨cf, kf, fi, f, a, cell, h1, h2, h3, h4, h5, h6, h7, -⟩ := h
  have he : (Term.static C n d).eval args s none [] s = some v := by
    simp [Term.eval, State.fieldNamed?, h1, h2, h4, h5, h6, h7]
  simp only [Cond.before, Cond.holds, Cond.value, he]
  cases v <;> simp_all [Value.isRef]
theorem vx_isRefq {C n d : String} {A : Nat → Prop} {s : State} {args : Array Value} (h : va_Zq C n d A s s.heap) : (Cond.isRef (.static C n d)).before args s = true := by
  rcases h with h | ⟨t, h⟩
  · exact vx_isRef h rfl
  · exact vx_isRef h rfl
/-- the same frame, seen from here: as if the method were called anew in this heap -/
theorem vx_rebase {T : State} (X : Stand p l e R s m args below meth c T locs cells slots) {R' : Room} (hf : R'.frames ≤ R.frames) (hl : R'.locals ≤ R.locals) (hc : cells + R'.cells ≤ R.cells) (hs : slots + R'.slots ≤ R.slots) :
    Stand p l e R' ((T.setVm s.vm).setFrames (.invoking m args :: below)) m args below meth c T [] 0 0 := by
  have htop : (T.setVm s.vm).topJava?.isSome := X.here.top
  have hF : ((T.setVm s.vm).setFrames (.invoking m args :: below)).frames = .invoking m args :: below := State.frames_setFrames _ (State.cur_lt_of_top htop)
  obtain ⟨g₀, hg0⟩ := Option.isSome_iff_exists.mp htop
  obtain ⟨r, hr⟩ := State.topJava?_eq_some.mp hg0
  have hl9 : e.platform.stackLimits (T.setVm s.vm).me = e.platform.stackLimits s.me := X.limits
  have hb9 : (T.setVm s.vm).me.stackBytes = s.me.stackBytes := X.bytes
  refine ⟨X.admits, X.cas, X.clock, hF, ?_, X.hears, X.method, X.code, X.here, X.tail, X.warmed, ?_, ?_, ?_⟩
  · have h := X.room
    have hU : ((T.setVm s.vm).setFrames (.invoking m args :: below)).localsInUse = s.localsInUse := by
      rw [State.localsInUse_invoking hF (meth := meth) (c := c) X.method X.code, State.localsInUse_invoking X.frames X.method X.code]
    simp only [State.hasRoom, Bool.and_eq_true, decide_eq_true_eq] at h ⊢
    obtain ⟨⟨⟨⟨h1, h2, h3, h4, h5, h6⟩, h7⟩, h8⟩, h9⟩ := h
    rw [X.frames, List.length_cons] at h2 h3
    have q1 := X.heapSize
    have q2 := X.used
    simp only [hF, hU, List.length_cons, State.stackLimits_setFrames, State.stackBytes_setFrames, hl9, hb9]
    refine ⟨⟨⟨⟨by omega, by omega, by omega, by omega, by omega, h6⟩, ?_⟩, ?_⟩, X.book⟩
    · show T.heap.size + R'.cells ≤ e.platform.maxCells
      omega
    · show T.slotsUsed + R'.slots ≤ e.platform.maxSlots
      omega
  · rw [State.stackLimits_setFrames]; rfl
  · rw [State.stackBytes_setFrames]; rfl
  · refine ⟨?_, Nat.le_refl _, Nat.le_refl _, ?_, ?_, fun a c9 h9 => ⟨c9, h9, rfl, rfl, fun _ _ => rfl⟩⟩
    · obtain ⟨t, ht, -⟩ := State.frames_cons hr
      show T.setVm s.vm = { ((T.setVm s.vm).setFrames (.invoking m args :: below)).setFrames (T.setVm s.vm).frames with heap := T.heap, slotsUsed := T.slotsUsed }
      rw [State.setFrames_setFrames, State.setFrames_self ht]
      rfl
    · show T.slotsUsed = T.slotsUsed + ((T.heap.toList.drop T.heap.size).map (·.slots.size)).sum
      rw [List.drop_eq_nil_of_le (Nat.le_of_eq Array.length_toList)]
      rfl
    · show ((T.heap.toList.drop T.heap.size).map (·.slots.size)).sum ≤ 0
      rw [List.drop_eq_nil_of_le (Nat.le_of_eq Array.length_toList)]
      exact Nat.le_refl _
/-- 'throw new E()': new; dup; invokespecial; athrow -/
theorem vx_throw0 {cc : ByteArray} {pc : Nat} (hexec : p.tables.exec = Jvm.exec) (hb : c.code = cc) (hl : l.stackTraces = false) {own cls : String} {names : List String} {ik ic mc ms : Nat} {A : Nat → Prop}
    (hown : s.vm.findClass own = some m.cls) (hcls : Bundle.fit cls = true) (hnames : ∀ n ∈ names, Bundle.fit n = true)
    (hk : (Cond.classLink own ik cls).before args s = true) (hini : (Cond.initialized cls).before args s = true) (hat : ∀ w ∈ vx_at0 own ic cls names, w.before args s = true)
    (hgood : ∀ w ∈ Cond.classLink own ik cls :: Cond.initialized cls :: vx_at0 own ic cls names, vx_ot w = true)
    (hU : vx_Zq Bundle.tN "UNASSIGNED_STACK" Bundle.steD A s s.heap) (hN : vx_Zq Bundle.tN "SUPPRESSED_SENTINEL" Bundle.listD A s s.heap) (hS : va_S A s.heap H locs) (hsize : ls.size = c.maxLocals)
    (d0 : decode cc pc = .ok (.new ik, 3)) (d3 : decode cc (pc + 3) = .ok (.dup, 1)) (d4 : decode cc (pc + 4) = .ok (.invokespecial ic, 3)) (d7 : decode cc (pc + 7) = .ok (.athrow, 1))
    (hout : ∀ x ∈ c.exceptionTable.toList, covers x (pc + 7) = false)
    (hRframes : names.length + 3 < R.frames) (hRlocals : (rest.map fun v => v.category).sum + (13 * (names.length + 1) + 42) ≤ R.locals) (hRcells : cells + 1 ≤ R.cells) (hRslots : slots + 6 ≤ R.slots) (hlocks : meth.locks = false)
    (hx : ∀ t : State, s.vm.Alike t.vm → H.size ≤ t.heap.size → (∀ q : Nat, q < H.size → t.heap[q]? = H[q]?) → XC cls s t)
    (hf : ∀ z ∈ locs, free z.base) (hc : cells + 1 ≤ mc) (hs : slots + 6 ≤ ms) :
    W p l e R s m args below meth c H locs cells slots (vx_MQ below Qc XC args s mc ms free) (F0 m pc ls rest) := by
  intro T hT X
  have htr : e.platform.stackTraces = false := (show e.platform.stackTraces = l.stackTraces by rw [X.admits.platform]).trans hl
  have Y := vx_rebase X (R' := { frames := R.frames, locals := R.locals, cells := 1, slots := 6 }) (Nat.le_refl _) (Nat.le_refl _) hRcells hRslots
  obtain ⟨s', hA⟩ : ∃ z, z = (T.setVm s.vm).setFrames (.invoking m args :: below) := ⟨_, rfl⟩
  rw [← hA] at Y
  have hvm : s'.vm = s.vm := by rw [hA]; rfl
  have hhp : s'.heap = H := by rw [hA]; exact hT
  have hW0 : s.WarmedH s'.vm := by rw [hvm]; exact State.WarmedH.refl s
  have hat' : ∀ w ∈ vx_at0 own ic cls names, w.before args s' = true := fun w hw => vx_ot_at hW0 hvm.symm (hgood w (List.mem_cons_of_mem _ (List.mem_cons_of_mem _ hw))) (hat w hw)
  have hk' : (Cond.classLink own ik cls).before args s' = true := vx_ot_at hW0 hvm.symm (hgood _ List.mem_cons_self) hk
  have hini' : (Cond.initialized cls).before args s' = true := vx_ot_at hW0 hvm.symm (hgood _ (List.mem_cons_of_mem _ List.mem_cons_self)) hini
  have hU' : vx_Zq Bundle.tN "UNASSIGNED_STACK" Bundle.steD A s' s'.heap := by rw [hhp]; exact vx_Zq.moved hW0.alike (hU.kept hS.2.1)
  have hN' : vx_Zq Bundle.tN "SUPPRESSED_SENTINEL" Bundle.listD A s' s'.heap := by rw [hhp]; exact vx_Zq.moved hW0.alike (hN.kept hS.2.1)
  have h : ∀ w ∈ Bundle.ownAtoms0 own ic cls names, w.before args s' = true := vx_own hat' (vx_isRefq hU'.1) (vx_isRefq hN'.1) hU'.2.word hN'.2.word
  have hown' : s'.vm.findClass own = some m.cls := by rw [hvm]; exact hown
  have hins : (Cond.instantiable cls 6).before args s' = true := h _ (by simp [Bundle.ownAtoms0])
  obtain ⟨vm₁, cX, kX, hfX, hkX, -, -, X₁, st1⟩ := Y.newCold hexec (own := own) (C := cls) (index := ik) (n := 6) hown' hk' hins hini'
    (g := F0 m pc ls rest) rfl (by rw [hb]; exact d0) (Nat.le_refl _) (Nat.le_refl _)
  generalize hT1 : (T.setVm vm₁).pushCell { cls := cX, slots := kX.instanceTypes.map defaultValue, vm := .none } = T1 at X₁ st1
  have hcat : (Value.ref T.heap.size).category = 1 := rfl
  have hcellA : T1.heap[T.heap.size]? = some (freshCell cX kX) := by rw [← hT1]; exact State.heap_pushCell_size _ _
  have d3' : decode c.code (pc + 3) = .ok (.dup, 1) := by rw [hb]; exact d3
  obtain ⟨U, hsteps, hrun, hend, hW, hsame, ce, hce, hO⟩ := X₁.ctorThrow0 hexec htr (own := own) (cls := cls) (names := names) (ic := ic) hown' hcls hnames h (fun x hx => nomatch hx) hfX hkX hcellA (by rw [hhp, hT]; exact Nat.le_refl _)
    (g := { method := m, pc := pc + 4, locals := ls, stack := .ref T.heap.size :: .ref T.heap.size :: rest, locked := none }) rfl hsize rfl rfl (rest := rest) rfl
    (by rw [hb]; exact d4) (by rw [hb]; exact d7) hout hRframes (by simp only [List.map_cons, List.sum_cons, hcat]; omega) hlocks
  obtain ⟨f1, f2⟩ := vx_frame hsame
  rw [hhp] at f1 f2
  have hWs : s.WarmedH U.vm := State.WarmedH.trans hW0 hW
  have hcl : s.vm.findClass cls = some ce.cls := by
    have h9 := hO.cls
    rw [hvm] at h9
    exact h9
  have hall : s.sameButNew ({ U with vm := s.vm } : State) locs mc ms := by
    subst hA
    obtain ⟨e1, e2⟩ := hsame
    rw [State.setFrames_setFrames] at e1
    have h2 : (T.setVm s.vm).sameButNew ({ U with vm := s.vm } : State) [] (0 + 1) (0 + 6) := ⟨e1, e2⟩
    have h3 := X.same.trans h2
    rw [List.append_nil] at h3
    exact h3.mono hc hs
  refine ⟨U, ?_, .threw T.heap.size, hrun, hend, Or.inr ⟨T.heap.size, rfl, cls, ce, locs, hx U hWs.alike f1 (fun q hq => f2 q hq (fun z hz => nomatch hz)), hce, hO.vm, hcl, hWs, hall, hf⟩⟩
  refine st1 _ ?_
  show Steps p.tables e below (T1.setTop { method := m, pc := pc + 3, locals := ls, stack := .ref T.heap.size :: rest, locked := none }) _
  jvm_step X₁.here [X₁.here.top, hexec, d3', Value.category]
  exact hsteps
/-- 'throw new E("text")': new; dup; ldc; invokespecial; athrow -/
theorem vx_throwS {cc : ByteArray} {pc : Nat} (hexec : p.tables.exec = Jvm.exec) (hb : c.code = cc) (hl : l.stackTraces = false) {own cls text : String} {names : List String} {ik is ic mc ms sa : Nat} {A : Nat → Prop}
    (hown : s.vm.findClass own = some m.cls) (hcls : Bundle.fit cls = true) (hnames : ∀ n ∈ names, Bundle.fit n = true)
    (hk : (Cond.classLink own ik cls).before args s = true) (hini : (Cond.initialized cls).before args s = true) (hstr : vk_R own is text sa s) (hat : ∀ w ∈ vx_atS own ic cls names, w.before args s = true)
    (hgood : ∀ w ∈ Cond.classLink own ik cls :: Cond.initialized cls :: vx_atS own ic cls names, vx_ot w = true)
    (hU : vx_Zq Bundle.tN "UNASSIGNED_STACK" Bundle.steD A s s.heap) (hN : vx_Zq Bundle.tN "SUPPRESSED_SENTINEL" Bundle.listD A s s.heap) (hS : va_S A s.heap H locs) (hsize : ls.size = c.maxLocals)
    (d0 : decode cc pc = .ok (.new ik, 3)) (d3 : decode cc (pc + 3) = .ok (.dup, 1)) (d4 : decode cc (pc + 4) = .ok (.ldc is, 2)) (d6 : decode cc (pc + 6) = .ok (.invokespecial ic, 3)) (d9 : decode cc (pc + 9) = .ok (.athrow, 1))
    (hout : ∀ x ∈ c.exceptionTable.toList, covers x (pc + 9) = false)
    (hRframes : names.length + 3 < R.frames) (hRlocals : (rest.map fun v => v.category).sum + (13 * (names.length + 1) + 43) ≤ R.locals) (hRcells : cells + 1 ≤ R.cells) (hRslots : slots + 6 ≤ R.slots) (hlocks : meth.locks = false)
    (hx : ∀ t : State, s.vm.Alike t.vm → H.size ≤ t.heap.size → (∀ q : Nat, q < H.size → t.heap[q]? = H[q]?) → XC cls s t)
    (hf : ∀ z ∈ locs, free z.base) (hc : cells + 1 ≤ mc) (hs : slots + 6 ≤ ms) :
    W p l e R s m args below meth c H locs cells slots (vx_MQ below Qc XC args s mc ms free) (F0 m pc ls rest) := by
  intro T hT X
  have htr : e.platform.stackTraces = false := (show e.platform.stackTraces = l.stackTraces by rw [X.admits.platform]).trans hl
  have Y := vx_rebase X (R' := { frames := R.frames, locals := R.locals, cells := 1, slots := 6 }) (Nat.le_refl _) (Nat.le_refl _) hRcells hRslots
  obtain ⟨s', hA⟩ : ∃ z, z = (T.setVm s.vm).setFrames (.invoking m args :: below) := ⟨_, rfl⟩
  rw [← hA] at Y
  have hvm : s'.vm = s.vm := by rw [hA]; rfl
  have hhp : s'.heap = H := by rw [hA]; exact hT
  have hW0 : s.WarmedH s'.vm := by rw [hvm]; exact State.WarmedH.refl s
  have hat' : ∀ w ∈ vx_atS own ic cls names, w.before args s' = true := fun w hw => vx_ot_at hW0 hvm.symm (hgood w (List.mem_cons_of_mem _ (List.mem_cons_of_mem _ hw))) (hat w hw)
  have hk' : (Cond.classLink own ik cls).before args s' = true := vx_ot_at hW0 hvm.symm (hgood _ List.mem_cons_self) hk
  have hini' : (Cond.initialized cls).before args s' = true := vx_ot_at hW0 hvm.symm (hgood _ (List.mem_cons_of_mem _ List.mem_cons_self)) hini
  have hU' : vx_Zq Bundle.tN "UNASSIGNED_STACK" Bundle.steD A s' s'.heap := by rw [hhp]; exact vx_Zq.moved hW0.alike (hU.kept hS.2.1)
  have hN' : vx_Zq Bundle.tN "SUPPRESSED_SENTINEL" Bundle.listD A s' s'.heap := by rw [hhp]; exact vx_Zq.moved hW0.alike (hN.kept hS.2.1)
  have h : ∀ w ∈ Bundle.ownAtoms own ic cls names, w.before args s' = true := vx_own hat' (vx_isRefq hU'.1) (vx_isRefq hN'.1) hU'.2.word hN'.2.word
  have hown' : s'.vm.findClass own = some m.cls := by rw [hvm]; exact hown
  have hins : (Cond.instantiable cls 6).before args s' = true := h _ (by simp [Bundle.ownAtoms])
  obtain ⟨vm₁, cX, kX, hfX, hkX, -, -, X₁, st1⟩ := Y.newCold hexec (own := own) (C := cls) (index := ik) (n := 6) hown' hk' hins hini'
    (g := F0 m pc ls rest) rfl (by rw [hb]; exact d0) (Nat.le_refl _) (Nat.le_refl _)
  generalize hT1 : (T.setVm vm₁).pushCell { cls := cX, slots := kX.instanceTypes.map defaultValue, vm := .none } = T1 at X₁ st1
  have hcat : (Value.ref T.heap.size).category = 1 := rfl
  have hcellA : T1.heap[T.heap.size]? = some (freshCell cX kX) := by rw [← hT1]; exact State.heap_pushCell_size _ _
  have d3' : decode c.code (pc + 3) = .ok (.dup, 1) := by rw [hb]; exact d3
  have d4' : decode c.code (pc + 4) = .ok (.ldc is, 2) := by rw [hb]; exact d4
  have hstr' : vk_R own is text sa s' := vk_R.warm hW0 hstr
  obtain ⟨U, hsteps, hrun, hend, hW, hsame, ce, hce, hO⟩ := X₁.ctorThrowS hexec htr (own := own) (cls := cls) (names := names) (ic := ic) hown' hcls hnames h (fun x hx => nomatch hx) hfX hkX hcellA (by rw [hhp, hT]; exact Nat.le_refl _) (msg := .ref sa) rfl
    (g := { method := m, pc := pc + 6, locals := ls, stack := .ref sa :: .ref T.heap.size :: .ref T.heap.size :: rest, locked := none }) rfl hsize rfl rfl (rest := rest) rfl
    (by rw [hb]; exact d6) (by rw [hb]; exact d9) hout hRframes (by simp only [List.map_cons, List.sum_cons, hcat]; omega) hlocks
  obtain ⟨f1, f2⟩ := vx_frame hsame
  rw [hhp] at f1 f2
  have hWs : s.WarmedH U.vm := State.WarmedH.trans hW0 hW
  have hcl : s.vm.findClass cls = some ce.cls := by
    have h9 := hO.cls
    rw [hvm] at h9
    exact h9
  have hall : s.sameButNew ({ U with vm := s.vm } : State) locs mc ms := by
    subst hA
    obtain ⟨e1, e2⟩ := hsame
    rw [State.setFrames_setFrames] at e1
    have h2 : (T.setVm s.vm).sameButNew ({ U with vm := s.vm } : State) [] (0 + 1) (0 + 6) := ⟨e1, e2⟩
    have h3 := X.same.trans h2
    rw [List.append_nil] at h3
    exact h3.mono hc hs
  refine ⟨U, ?_, .threw T.heap.size, hrun, hend, Or.inr ⟨T.heap.size, rfl, cls, ce, locs, hx U hWs.alike f1 (fun q hq => f2 q hq (fun z hz => nomatch hz)), hce, hO.vm, hcl, hWs, hall, hf⟩⟩
  refine st1 _ ?_
  show Steps p.tables e below (T1.setTop { method := m, pc := pc + 3, locals := ls, stack := .ref T.heap.size :: rest, locked := none }) _
  jvm_step X₁.here [X₁.here.top, hexec, d3', Value.category]
  exact X₁.ldcString hexec (own := own) (text := text) (index := is) (a := sa) hown' hstr'.1 hstr'.2
    (g := { method := m, pc := pc + 4, locals := ls, stack := .ref T.heap.size :: .ref T.heap.size :: rest, locked := none }) rfl d4' _ hsteps
/-- 'throw new E("text")', the text by a wide index -/
theorem vx_throwSW {cc : ByteArray} {pc : Nat} (hexec : p.tables.exec = Jvm.exec) (hb : c.code = cc) (hl : l.stackTraces = false) {own cls text : String} {names : List String} {ik is ic mc ms sa : Nat} {A : Nat → Prop}
    (hown : s.vm.findClass own = some m.cls) (hcls : Bundle.fit cls = true) (hnames : ∀ n ∈ names, Bundle.fit n = true)
    (hk : (Cond.classLink own ik cls).before args s = true) (hini : (Cond.initialized cls).before args s = true) (hstr : vk_R own is text sa s) (hat : ∀ w ∈ vx_atS own ic cls names, w.before args s = true)
    (hgood : ∀ w ∈ Cond.classLink own ik cls :: Cond.initialized cls :: vx_atS own ic cls names, vx_ot w = true)
    (hU : vx_Zq Bundle.tN "UNASSIGNED_STACK" Bundle.steD A s s.heap) (hN : vx_Zq Bundle.tN "SUPPRESSED_SENTINEL" Bundle.listD A s s.heap) (hS : va_S A s.heap H locs) (hsize : ls.size = c.maxLocals)
    (d0 : decode cc pc = .ok (.new ik, 3)) (d3 : decode cc (pc + 3) = .ok (.dup, 1)) (d4 : decode cc (pc + 4) = .ok (.ldc_w is, 3)) (d7 : decode cc (pc + 7) = .ok (.invokespecial ic, 3)) (d10 : decode cc (pc + 10) = .ok (.athrow, 1))
    (hout : ∀ x ∈ c.exceptionTable.toList, covers x (pc + 10) = false)
    (hRframes : names.length + 3 < R.frames) (hRlocals : (rest.map fun v => v.category).sum + (13 * (names.length + 1) + 43) ≤ R.locals) (hRcells : cells + 1 ≤ R.cells) (hRslots : slots + 6 ≤ R.slots) (hlocks : meth.locks = false)
    (hx : ∀ t : State, s.vm.Alike t.vm → H.size ≤ t.heap.size → (∀ q : Nat, q < H.size → t.heap[q]? = H[q]?) → XC cls s t)
    (hf : ∀ z ∈ locs, free z.base) (hc : cells + 1 ≤ mc) (hs : slots + 6 ≤ ms) :
    W p l e R s m args below meth c H locs cells slots (vx_MQ below Qc XC args s mc ms free) (F0 m pc ls rest) := by
  intro T hT X
  have htr : e.platform.stackTraces = false := (show e.platform.stackTraces = l.stackTraces by rw [X.admits.platform]).trans hl
  have Y := vx_rebase X (R' := { frames := R.frames, locals := R.locals, cells := 1, slots := 6 }) (Nat.le_refl _) (Nat.le_refl _) hRcells hRslots
  obtain ⟨s', hA⟩ : ∃ z, z = (T.setVm s.vm).setFrames (.invoking m args :: below) := ⟨_, rfl⟩
  rw [← hA] at Y
  have hvm : s'.vm = s.vm := by rw [hA]; rfl
  have hhp : s'.heap = H := by rw [hA]; exact hT
  have hW0 : s.WarmedH s'.vm := by rw [hvm]; exact State.WarmedH.refl s
  have hat' : ∀ w ∈ vx_atS own ic cls names, w.before args s' = true := fun w hw => vx_ot_at hW0 hvm.symm (hgood w (List.mem_cons_of_mem _ (List.mem_cons_of_mem _ hw))) (hat w hw)
  have hk' : (Cond.classLink own ik cls).before args s' = true := vx_ot_at hW0 hvm.symm (hgood _ List.mem_cons_self) hk
  have hini' : (Cond.initialized cls).before args s' = true := vx_ot_at hW0 hvm.symm (hgood _ (List.mem_cons_of_mem _ List.mem_cons_self)) hini
  have hU' : vx_Zq Bundle.tN "UNASSIGNED_STACK" Bundle.steD A s' s'.heap := by rw [hhp]; exact vx_Zq.moved hW0.alike (hU.kept hS.2.1)
  have hN' : vx_Zq Bundle.tN "SUPPRESSED_SENTINEL" Bundle.listD A s' s'.heap := by rw [hhp]; exact vx_Zq.moved hW0.alike (hN.kept hS.2.1)
  have h : ∀ w ∈ Bundle.ownAtoms own ic cls names, w.before args s' = true := vx_own hat' (vx_isRefq hU'.1) (vx_isRefq hN'.1) hU'.2.word hN'.2.word
  have hown' : s'.vm.findClass own = some m.cls := by rw [hvm]; exact hown
  have hins : (Cond.instantiable cls 6).before args s' = true := h _ (by simp [Bundle.ownAtoms])
  obtain ⟨vm₁, cX, kX, hfX, hkX, -, -, X₁, st1⟩ := Y.newCold hexec (own := own) (C := cls) (index := ik) (n := 6) hown' hk' hins hini'
    (g := F0 m pc ls rest) rfl (by rw [hb]; exact d0) (Nat.le_refl _) (Nat.le_refl _)
  generalize hT1 : (T.setVm vm₁).pushCell { cls := cX, slots := kX.instanceTypes.map defaultValue, vm := .none } = T1 at X₁ st1
  have hcat : (Value.ref T.heap.size).category = 1 := rfl
  have hcellA : T1.heap[T.heap.size]? = some (freshCell cX kX) := by rw [← hT1]; exact State.heap_pushCell_size _ _
  have d3' : decode c.code (pc + 3) = .ok (.dup, 1) := by rw [hb]; exact d3
  have d4' : decode c.code (pc + 4) = .ok (.ldc_w is, 3) := by rw [hb]; exact d4
  have hstr' : vk_R own is text sa s' := vk_R.warm hW0 hstr
  obtain ⟨U, hsteps, hrun, hend, hW, hsame, ce, hce, hO⟩ := X₁.ctorThrowS hexec htr (own := own) (cls := cls) (names := names) (ic := ic) hown' hcls hnames h (fun x hx => nomatch hx) hfX hkX hcellA (by rw [hhp, hT]; exact Nat.le_refl _) (msg := .ref sa) rfl
    (g := { method := m, pc := pc + 7, locals := ls, stack := .ref sa :: .ref T.heap.size :: .ref T.heap.size :: rest, locked := none }) rfl hsize rfl rfl (rest := rest) rfl
    (by rw [hb]; exact d7) (by rw [hb]; exact d10) hout hRframes (by simp only [List.map_cons, List.sum_cons, hcat]; omega) hlocks
  obtain ⟨f1, f2⟩ := vx_frame hsame
  rw [hhp] at f1 f2
  have hWs : s.WarmedH U.vm := State.WarmedH.trans hW0 hW
  have hcl : s.vm.findClass cls = some ce.cls := by
    have h9 := hO.cls
    rw [hvm] at h9
    exact h9
  have hall : s.sameButNew ({ U with vm := s.vm } : State) locs mc ms := by
    subst hA
    obtain ⟨e1, e2⟩ := hsame
    rw [State.setFrames_setFrames] at e1
    have h2 : (T.setVm s.vm).sameButNew ({ U with vm := s.vm } : State) [] (0 + 1) (0 + 6) := ⟨e1, e2⟩
    have h3 := X.same.trans h2
    rw [List.append_nil] at h3
    exact h3.mono hc hs
  refine ⟨U, ?_, .threw T.heap.size, hrun, hend, Or.inr ⟨T.heap.size, rfl, cls, ce, locs, hx U hWs.alike f1 (fun q hq => f2 q hq (fun z hz => nomatch hz)), hce, hO.vm, hcl, hWs, hall, hf⟩⟩
  refine st1 _ ?_
  show Steps p.tables e below (T1.setTop { method := m, pc := pc + 3, locals := ls, stack := .ref T.heap.size :: rest, locked := none }) _
  jvm_step X₁.here [X₁.here.top, hexec, d3', Value.category]
  exact X₁.ldcStringW hexec (own := own) (text := text) (index := is) (a := sa) hown' hstr'.1 hstr'.2
    (g := { method := m, pc := pc + 4, locals := ls, stack := .ref T.heap.size :: .ref T.heap.size :: rest, locked := none }) rfl d4' _ hsteps
end Ends
section Bodies
variable {l : Launch}
theorem vx_ofW {y : MethodName} {ws ws' : List Cond} {rm : Room} {Pc : Array Value → State → Prop} {Qc : Array Value → State → Outcome → State → Prop} {XC : String → State → State → Prop} {mc ms : Nat} {free : Addr → Prop} {cc : ByteArray} {maxL : Nat} {ret : Option FieldType}
    (hy : plainName y.cls = true) (hw : ws = Cond.code y cc maxL ret :: ws')
    (body : ∀ p e s m args below meth c s₁, BodyLoose p l y (headSpec ws rm) cc maxL ret e s m args below meth c s₁ → c.maxLocals = maxL → (∀ x ∈ c.exceptionTable.toList, False) → Pc args s →
      W p l e (headSpec ws rm).room s m args below meth c s.heap [] 0 0 (vx_MQ below Qc XC args s mc ms free) (entryFrame m args maxL)) : vx_Met l y ws rm Pc Qc XC mc ms free := by
  refine MetFree.of_bodyS (code := cc) (maxLocals := maxL) (ret := ret) hy ?_ ?_
  · intro args s m h hn
    obtain ⟨meth, c, h1, h2, h3, h4, h5, h6, -, -⟩ := Cond.code_spec hn (atoms_spec (ws := ws) h _ (by rw [hw]; exact List.mem_cons_self))
    exact ⟨meth, c, h1, h2, h3, h4, h5, h6⟩
  · intro p e s m args below meth c s₁ B hml hP _
    have hh0 : s₁.heap = s.heap := by rw [B.state]; rfl
    have ht : ∀ x ∈ c.exceptionTable.toList, False := by
      obtain ⟨meth9, c9, h1, h2, -, -, -, -, h7, -⟩ := Cond.code_spec B.named (atoms_spec (ws := ws) B.pre _ (by rw [hw]; exact List.mem_cons_self))
      cases Option.some.inj (h1.symm.trans B.method)
      cases Option.some.inj (h2.symm.trans (Stand.of_body B).code)
      intro x hx
      rw [Array.isEmpty_iff.mp h7] at hx
      cases hx
    obtain ⟨t, a1, o, b1, b2, b3⟩ := body p e s m args below meth c s₁ B hml ht hP s₁ hh0 (Stand.of_body B)
    exact ⟨t, o, a1, b1, b2, b3⟩
/-- the table of a body with handlers -/
theorem vx_table {p : Program} {x y : MethodName} {S : Spec} {cc bytes : ByteArray} {maxL maxL' : Nat} {ret ret' : Option FieldType} {e : Env} {s s₁ : State} {m : MethodId} {args : Array Value} {below : List Frame} {meth : Method} {c : Code} {hh : List (Nat × Nat × Nat × Nat)}
    (B : BodyLoose p l y S cc maxL ret e s m args below meth c s₁) (h : (Cond.codeWith y bytes maxL' ret' hh).before args s = true) : c.exceptionTable.toList = tableOf hh := by
  obtain ⟨m9, meth9, c9, hn9, h1, h2, -, -, h6, -⟩ := Cond.codeWith_spec h
  cases Option.some.inj (hn9.symm.trans B.named)
  cases Option.some.inj (h1.symm.trans B.method)
  cases Option.some.inj (h2.symm.trans (Stand.of_body B).code)
  rw [← h6, table_eq]
end Bodies
end VXA
/-! ===== END ===== -/
/-! ===== BEGIN a static call of a method with an exception table ===== -/
section VXS
variable {p : Program} {l : Launch} {e : Env} {R : Room} {s : State} {m : MethodId} {args : Array Value} {below : List Frame} {meth : Method} {c : Code} {T : State} {H : Heap} {locs : List Loc} {cells slots : Nat}
abbrev vx_CSW (R : Room) (s : State) (args : Array Value) (own : String) (index : Nat) (y : MethodName) (bytes : ByteArray) (maxL : Nat) (ret : Option FieldType) (hh : List (Nat × Nat × Nat × Nat)) (ws : List Cond) (rm : Room) (mc ms n : Nat) : Prop :=
  (rm.cells = mc ∧ rm.slots = ms ∧ rm.frames + 1 ≤ R.frames ∧ 8 + (maxL + 11) + rm.locals ≤ R.locals ∧ (∀ w ∈ ws, ∀ (a' : Array Value) (U : State), s.WarmedH U.vm → w.before a' U = true) ∧ Cond.codeWith y bytes maxL ret hh ∈ ws) ∧
  (Cond.codeWith y bytes maxL ret hh).before args s = true ∧ (Cond.initialized y.cls).before args s = true ∧ (y.cls ≠ "java/lang/invoke/MethodHandle" ∧ y.cls ≠ "java/lang/invoke/VarHandle") ∧
  (∀ sig, parseMethodDescriptor y.desc = some sig → n = sig.parameters.length) ∧ (Cond.methodLink own index y).before args s = true ∧ (Cond.static y).before args s = true
theorem vx_cwSW {own : String} {index maxL mc ms : Nat} {y : MethodName} {bytes : ByteArray} {ret : Option FieldType} {hh : List (Nat × Nat × Nat × Nat)} {Ts ws ws' : List Cond} {rm : Room} (n : Nat) (ht : ∀ w ∈ Ts, w.before args s = true) (hT : GoodIn Ts (va_wsS own index y ws)) (hw : ws = Cond.codeWith y bytes maxL ret hh :: ws') (hrc : rm.cells = mc) (hrs : rm.slots = ms)
    (hd : y.cls ≠ "java/lang/invoke/MethodHandle" ∧ y.cls ≠ "java/lang/invoke/VarHandle" ∧ (parseMethodDescriptor y.desc).map (fun d => d.parameters.length) = some n) (hR : rm.frames + 1 ≤ R.frames ∧ 8 + (maxL + 11) + rm.locals ≤ R.locals) :
    vx_CSW R s args own index y bytes maxL ret hh ws rm mc ms n := by
  have ok : ∀ w ∈ va_wsS own index y ws, w.before args s = true := fun w h => ht w (hT w h).1
  have hG : GoodIn Ts ws := fun w h => hT w (by unfold va_wsS; exact List.mem_append_right _ h)
  have hc : Cond.codeWith y bytes maxL ret hh ∈ ws := by rw [hw]; exact List.mem_cons_self
  refine ⟨⟨hrc, hrs, hR.1, hR.2, pay_in ht hG, hc⟩, ht _ (hG _ hc).1, ok _ (by simp [va_wsS]), ⟨hd.1, hd.2.1⟩, fun sig h => ?_, ok _ (by simp [va_wsS]), ok _ (by simp [va_wsS])⟩
  have h2 := hd.2.2
  rw [h] at h2
  exact (Option.some.inj h2).symm
theorem vx_callSW (X : Stand p l e R s m args below meth c T locs cells slots) (hexec : p.tables.exec = Jvm.exec) {own : String} {index : Nat} {y : MethodName} {bytes : ByteArray} {maxL : Nat} {ret : Option FieldType} {hh : List (Nat × Nat × Nat × Nat)}
    (hown : s.vm.findClass own = some m.cls) (hlink : (Cond.methodLink own index y).before args s = true) (hstat : (Cond.static y).before args s = true) (hinit : (Cond.initialized y.cls).before args s = true)
    (hcode : (Cond.codeWith y bytes maxL ret hh).before args s = true) (hy : y.cls ≠ "java/lang/invoke/MethodHandle" ∧ y.cls ≠ "java/lang/invoke/VarHandle")
    {W9 : Nat} {Pre : Pt → Array Value → Prop} {Post : Pt → Array Value → Option Value → Pt → Prop} (hK : Back l R p e below s args y 3 W9 Pre Post)
    {g : JFrame} (hg : g.method = m) (hsize : g.locals.size = c.maxLocals) {argsL rest : List Value} (hlen : ∀ sig, parseMethodDescriptor y.desc = some sig → argsL.length = sig.parameters.length)
    (hstack : g.stack = argsL.reverse ++ rest) (hW : 2 * g.monitorRoom + (rest.map fun v => v.category).sum ≤ W9) (hdg : decode c.code g.pc = .ok (.invokestatic index, 3))
    (hpre : ∀ vm₁, s.WarmedH vm₁ → Pre ⟨T.setVm vm₁, locs, cells, slots⟩ argsL.toArray) :
    ∃ (v : Option Value) (vm₁ : Vm) (B : Pt), s.WarmedH vm₁ ∧ Stand p l e R s m args below meth c B.U B.locs B.cells B.slots ∧ Post ⟨T.setVm vm₁, locs, cells, slots⟩ argsL.toArray v B ∧
      ∀ target, Steps p.tables e below (B.U.setTop { g with pc := g.pc + 3, stack := v.toList ++ rest }) target → Steps p.tables e below (T.setTop g) target := by
  obtain ⟨mk, methM, cM, hnamed, hmethM, -, -, -, -, -, -, hsigM⟩ := Cond.codeWith_spec hcode
  have hstatic : methM.isStatic = true := Cond.static_spec hnamed hmethM hstat
  obtain ⟨kP, hkP, -⟩ := className_of_methodNamed hnamed
  have hinitP : kP.init = .initialized := Cond.initialized_spec (findClass_of_methodNamed hnamed) hkP hinit
  obtain ⟨vm₁, X₁, hstep₁⟩ := X.invokestatic hexec hown hlink hnamed hmethM hstatic hkP hinitP hy (g := g) hg (argsL := argsL) (rest := rest) (hlen _ hsigM) hstack hdg
  obtain ⟨v, B, X', hpost, hsteps⟩ := hK m meth c ⟨T.setVm vm₁, locs, cells, slots⟩ { g with stack := rest } (.invokestatic index) mk argsL.toArray X₁ hg hsize hdg hW (X₁.named hnamed) (hpre vm₁ X₁.warmed)
  exact ⟨v, vm₁, B, X₁.warmed, X', hpost, fun target h => hstep₁ _ fun acts => by rw [doInvoke_state]; exact hsteps.trans h⟩
theorem vx_runSW {y : MethodName} {bytes cc : ByteArray} {maxL nL mc ms n index : Nat} {ret : Option FieldType} {hh : List (Nat × Nat × Nat × Nat)} {ws : List Cond} {rm : Room} {Pc : Array Value → State → Prop} {Qc : Array Value → State → Outcome → State → Prop} {free : Addr → Prop} {Ts : List Cond} {own : String} {As rest : List Value} {g : JFrame}
    (S : CallFix p m c cc nL s args Ts own) (hM : Met l y ws rm Pc Qc mc ms free) (cw : vx_CSW R s args own index y bytes maxL ret hh ws rm mc ms n) (hp : PreS s H Pc As)
    (hg : g.method = m) (hn : As.length = n) (hsize : g.locals.size = nL) (hstack : g.stack = As.reverse ++ rest) (hW : 2 * g.monitorRoom + (rest.map fun v => v.category).sum ≤ 8) (hdg : decode cc g.pc = .ok (.invokestatic index, 3)) (hf : cells + mc ≤ R.cells ∧ slots + ms ≤ R.slots) :
    va_Run p l e R s m args below meth c H locs cells slots mc ms g rest (Qc As.toArray) (free) := by
  obtain ⟨⟨hrc, hrs, hfr, hlo, hws, hcw⟩, hcode, hini, hy, hlen, hl, hstt⟩ := cw
  have hK : Back l R p e below s args y 3 8 (PreOf R mc ms Pc) (PostOf Qc mc ms free) := va_backW (hh := hh) (bytes := bytes) (maxL := maxL) (ret := ret) hM hp.1 hrc hrs hfr hlo hws hcw (fun a' U hW => word_at hW (Or.inl (by first | rfl | simp [Cond.onTables, Cond.keeps, Cond.steady])) hini)
  obtain ⟨hx, hb, hml, ho, -⟩ := S
  intro T hT X
  obtain ⟨v, vm₁, ⟨U', l2, c2, s2⟩, hW₁, X', ⟨g', mk, t, L, e1, e2, hq, h1, hL, h2, h3⟩, st⟩ := vx_callSW X hx (hh := hh) (bytes := bytes) (maxL := maxL) (ret := ret) ho hl hstt hini hcode hy hK hg (hsize.trans hml.symm) (argsL := As) (rest := rest) (fun sig h => hn.trans (hlen sig h)) hstack hW (by rw [hb]; exact hdg)
    (fun vm₁ hW₁ => ⟨hf.1, hf.2, hp.2 (T.setVm vm₁) hT hW₁⟩)
  dsimp only [Pt.U, Pt.locs, Pt.cells, Pt.slots] at X' e1 e2 h1 h2 h3 st
  subst h1; subst h2; subst h3
  exact ⟨v, (T.setVm vm₁).calling g' mk As.toArray, t, U', L, hT, X', hL, e1, e2, hq, st⟩
/-- not caught here, past rows that name other classes: it goes on to the caller -/
theorem vx_outP {p : Program} {l : Launch} {e : Env} {R : Room} {s : State} {m : MethodId} {args : Array Value} {below : List Frame} {meth : Method} {c : Code} {H : Heap} {locs : List Loc} {cells slots : Nat} {free : Addr → Prop} {ls : Array Slot} {rest : List Value} {Qc : Array Value → State → Outcome → State → Prop} {XC : String → State → State → Prop}
    {pc : Nat} {own E : String} {ce : Cell} {q : Addr} {mc ms : Nat} (hown : s.vm.findClass own = some m.cls) (hlocks : meth.locks = false)
    (hpass : ∀ z ∈ c.exceptionTable.toList, covers z pc = false ∨ (z.catchType ≠ 0 ∧ ∃ nm : String, (Cond.classLink own z.catchType nm).before args s = true ∧ va_Nc E nm s)) (hcell : H[q]? = some ce) (hv : ce.vm = .none) (hcl : s.vm.findClass E = some ce.cls)
    (hx : ∀ t : State, t.heap = H → s.vm.Alike t.vm → XC E s t) (hf : ∀ z ∈ locs, free z.base) (hc : cells ≤ mc) (hs : slots ≤ ms) :
    vx_W p l e R s m args below meth c H locs cells slots (vx_MQ below Qc XC args s mc ms free) (F0 m pc ls rest) q := by
  intro T hT X
  have hpl : e.platform.magicAccessors = ({} : Platform).magicAccessors := by rw [X.admits.platform]
  obtain ⟨vm', hW', X', st⟩ := X.outThrough hlocks q (g := F0 m pc ls rest) rfl rfl rfl (cell := ce) (by rw [hT]; exact hcell) (by rw [hv]; rfl)
    (by obtain ⟨k9, h9, -⟩ := Vm.findClass_spec hcl; exact ⟨k9, h9⟩) (fun z hz => by
      rcases hpass z hz with h | ⟨hz0, nm, hl1, hn1⟩
      · exact Or.inl h
      · obtain ⟨c6, hc6, hcl6⟩ := Cond.classLink_spec hown hl1 e.platform hpl
        obtain ⟨a8, b8, h1, h2, h3⟩ := hn1
        cases Option.some.inj (h1.symm.trans hcl)
        cases Option.some.inj (h2.symm.trans hc6)
        exact Or.inr ⟨hz0, _, hcl6, h3⟩)
  obtain ⟨g₀, hfr⟩ := X'.frames_eq
  have hcell9 : ((T.setVm vm').setFrames (.throwing q :: below)).heap[q]? = some ce := by
    show T.heap[q]? = some ce
    rw [hT]; exact hcell
  have hend : Ended ((T.setVm vm').setFrames (.throwing q :: below)) below (.threw q) := State.frames_setFrames _ (State.cur_lt_of_frames hfr)
  refine ⟨(T.setVm vm').setFrames (.throwing q :: below), ?_, .threw q, X'.here.running, hend, Or.inr ⟨q, rfl, E, ce, locs, hx _ hT (X'.ends _).1.alike, hcell9, hv, hcl, (X'.ends _).1, (X'.ends _).2.mono hc hs, hf⟩⟩
  rw [X.pushThrowing_eq]
  exact st
/-- a thing of a world lies in the heap -/
theorem vx_lt {D : va_G} {cl : List vw_C} {ws : va_W} {H1 : Heap} (h : va_P D cl ws H1) {k : Nat} {q : Nat × va_E} (hk : ws[k]? = some q) : q.1 < H1.size := (h k q hk).lt
end VXS
/-! ===== END ===== -/
/-! ===== BEGIN methods with a table of their own: called by a name, returning or throwing ===== -/
section VXH
/-! vx_backW, vx_callVX, vx_callSX, vx_callVW, vx_runVW, vx_runVX, vx_runSX, vx_ofWH follow the same proofs as their sisters above (Free/Laws.lean, Shelf42/LK1.lean); vx_outP calls Shelf42/NT130.lean (outThrough). -/
section
variable {l : Launch} {R : Room} {p : Program} {e : Env} {below : List Frame} {s : State} {sargs : Array Value} {y : MethodName} {len W9 : Nat}
theorem vx_backW {ws : List Cond} {rm : Room} {Pc : Array Value → State → Prop} {Qc : Array Value → State → Outcome → State → Prop} {XC : String → State → State → Prop} {mc ms : Nat} {free : Addr → Prop} {bytes : ByteArray} {maxL : Nat} {ret : Option FieldType} {hh : List (Nat × Nat × Nat × Nat)}
    (hM : vx_Met l y ws rm Pc Qc XC mc ms free) (hblind : FrameBlind Pc) (hrc : rm.cells = mc) (hrs : rm.slots = ms)
    (hframes : rm.frames + 1 ≤ R.frames) (hlocals : W9 + (maxL + 11) + rm.locals ≤ R.locals)
    (hws : ∀ w ∈ ws, ∀ a' U, s.WarmedH U.vm → w.before a' U = true) (hcode : Cond.codeWith y bytes maxL ret hh ∈ ws) (hinit : ∀ a' U, s.WarmedH U.vm → (Cond.initialized y.cls).before a' U = true) :
    vx_Back l R p e below s sargs y len W9 (PreOf R mc ms Pc) (PostOf Qc mc ms free) (vx_Post XC mc ms free) := by
  intro m meth c A g ig mk a X hg hsize hdg hW hn hp
  have h1 : (headSpec ws rm).pre.before a A.U = true := atoms_intro fun w hw => hws w hw _ _ X.warmed
  have h2 : (Cond.codeWith y bytes maxL ret hh).before a A.U = true := hws _ hcode _ _ X.warmed
  have h3 : (Cond.initialized y.cls).before a A.U = true := hinit _ _ X.warmed
  have h4 : A.cells + (headSpec ws rm).room.cells ≤ R.cells := by rw [show (headSpec ws rm).room.cells = mc from hrc]; exact hp.1
  have h5 : A.slots + (headSpec ws rm).room.slots ≤ R.slots := by rw [show (headSpec ws rm).room.slots = ms from hrs]; exact hp.2.1
  have hPc : Pc a (A.U.calling g mk a) := hblind _ _ _ _ hp.2.2
  obtain ⟨U, Ls, c0, s0⟩ := A
  dsimp only [Pt.U, Pt.locs, Pt.cells, Pt.slots] at h1 h2 h3 h4 h5 X hn hPc ⊢
  obtain ⟨m9, methY, cY, hn9, hmY, hcY, -, hlY, -⟩ := Cond.codeWith_spec h2
  cases Option.some.inj (hn9.symm.trans hn)
  obtain ⟨kY, hkY, -⟩ := className_of_methodNamed hn
  have hinitY : kY.init = .initialized := Cond.initialized_spec (findClass_of_methodNamed hn) hkY h3
  have h : At U g.method c below := by rw [hg]; exact X.here
  have hlocals9 : W9 + (maxL + 11) + (headSpec ws rm).room.locals ≤ R.locals := hlocals
  have happ : (headSpec ws rm).appliesLoose y e.platform (U.calling g mk a) = true :=
    Spec.appliesLoose_calling (g := g) h hdg hn hkY hinitY
      (X.room_calling (g := g) (R' := (headSpec ws rm).room) hsize hmY hcY hframes (by rw [hlY]; omega) h4 h5) h1
  obtain ⟨mid, hmid⟩ := h.above
  have hfr : (U.setTop g).frames = (.java g :: mid) ++ below := by rw [State.frames_setTop' g h.top, hmid]; rfl
  obtain ⟨o, s₂, hsteps, -, hend, hq⟩ := Steps.callFree hM p X.admits X.cas X.clock (acts := []) hfr happ hPc trivial
  have hq' : vx_Q Qc XC mc ms free a (U.calling g mk a) o s₂ := hq
  rw [State.frames_setTop' g h.top] at hend
  obtain ⟨g₀, hg0⟩ := Option.isSome_iff_exists.mp h.top
  obtain ⟨r, hr⟩ := State.topJava?_eq_some.mp hg0
  have hr' : (({ U with heap := s₂.heap, slotsUsed := s₂.slotsUsed } : State).setVm s₂.vm).frames = .java g₀ :: r := hr
  rcases hq' with ⟨hqc, L, hfe, hL⟩ | ⟨q, rfl, E, ce, L, hx, hce, hcv, hcl, hW₂, hsm, hL⟩
  · obtain ⟨⟨v, rfl⟩, hW₂, e2, q2, q3, q4, q5, q6⟩ := id hfe
    have e3 : s₂ = ({ (U.calling g mk a).setFrames s₂.frames with heap := s₂.heap, slotsUsed := s₂.slotsUsed } : State).setVm s₂.vm := by
      have : s₂ = ({ s₂ with vm := (U.calling g mk a).vm } : State).setVm s₂.vm := rfl
      rw [e2] at this
      exact this
    obtain ⟨c₂, i₂, len₂, hc₂, hd₂, hf₂⟩ := hend
    have hW' : U.WarmedH s₂.vm := hW₂
    have hcc : c₂ = c := by
      have h1 : s₂.code? g.method = U.code? g.method := by
        rw [State.code?_eq, State.code?_eq, hW'.alike.method?]
      exact Option.some.inj (hc₂.symm.trans (h1.trans h.code))
    subst hcc
    have hlen : len₂ = len := by rw [hdg] at hd₂; cases hd₂; rfl
    subst hlen
    have hs₂ : s₂ = (({ U with heap := s₂.heap, slotsUsed := s₂.slotsUsed } : State).setVm s₂.vm).setTop { g with pc := g.pc + len₂, stack := v.toList ++ g.stack } := by
      refine e3.trans ?_
      rw [hf₂, State.calling_eq h.top, State.setFrames_setFrames, State.setTop_of_frames _ hr', hr]
      rfl
    have hsame : U.sameButNew ({ U with heap := s₂.heap, slotsUsed := s₂.slotsUsed } : State) L mc ms := by
      refine ⟨?_, q2, q3, q4, q5, q6⟩
      obtain ⟨t, ht, -⟩ := State.frames_cons hr
      show ({ U with heap := s₂.heap, slotsUsed := s₂.slotsUsed } : State) = { U.setFrames U.frames with heap := s₂.heap, slotsUsed := s₂.slotsUsed }
      rw [State.setFrames_self ht]
    subst hg
    refine Or.inl ⟨v, ⟨(({ U with heap := s₂.heap, slotsUsed := s₂.slotsUsed } : State).setVm s₂.vm), Ls ++ L, c0 + mc, s0 + ms⟩,
      ⟨X.admits, X.cas, X.clock, X.frames, X.room, X.hears, X.method, X.code, (X.here.setHeapUsed s₂.heap s₂.slotsUsed).setVm hW'.alike, X.tail, State.WarmedH.trans X.warmed hW', X.limits, X.bytes, X.same.trans (hsame.setVm s.vm)⟩,
      ⟨g, mk, s₂, L, rfl, rfl, hqc, rfl, hL, rfl, rfl⟩, ?_⟩
    show Steps p.tables e below _ ((({ U with heap := s₂.heap, slotsUsed := s₂.slotsUsed } : State).setVm s₂.vm).setTop { g with pc := g.pc + len₂, stack := v.toList ++ g.stack })
    rw [← hs₂]
    exact hsteps
  · obtain ⟨e2, q2, q3, q4, q5, q6⟩ := id hsm
    have e3 : s₂ = ({ (U.calling g mk a).setFrames s₂.frames with heap := s₂.heap, slotsUsed := s₂.slotsUsed } : State).setVm s₂.vm := by
      have : s₂ = ({ s₂ with vm := (U.calling g mk a).vm } : State).setVm s₂.vm := rfl
      rw [e2] at this
      exact this
    have hf₂ : s₂.frames = .throwing q :: .java g :: U.frames.tail := hend
    have hW' : U.WarmedH s₂.vm := hW₂
    have hs₂ : s₂ = ((({ U with heap := s₂.heap, slotsUsed := s₂.slotsUsed } : State).setVm s₂.vm).setTop g).pushFrame (.throwing q) := by
      refine e3.trans ?_
      rw [hf₂, State.calling_eq h.top, State.setFrames_setFrames, State.pushFrame, State.frames_setTop _ hr', State.setTop_of_frames _ hr', State.setFrames_setFrames, hr]
      rfl
    have hsame : U.sameButNew ({ U with heap := s₂.heap, slotsUsed := s₂.slotsUsed } : State) L mc ms := by
      refine ⟨?_, q2, q3, q4, q5, q6⟩
      obtain ⟨t, ht, -⟩ := State.frames_cons hr
      show ({ U with heap := s₂.heap, slotsUsed := s₂.slotsUsed } : State) = { U.setFrames U.frames with heap := s₂.heap, slotsUsed := s₂.slotsUsed }
      rw [State.setFrames_self ht]
    subst hg
    refine Or.inr ⟨q, ⟨(({ U with heap := s₂.heap, slotsUsed := s₂.slotsUsed } : State).setVm s₂.vm), Ls ++ L, c0 + mc, s0 + ms⟩,
      ⟨X.admits, X.cas, X.clock, X.frames, X.room, X.hears, X.method, X.code, (X.here.setHeapUsed s₂.heap s₂.slotsUsed).setVm hW'.alike, X.tail, State.WarmedH.trans X.warmed hW', X.limits, X.bytes, X.same.trans (hsame.setVm s.vm)⟩,
      ⟨g, mk, s₂, L, E, ce, rfl, rfl, hx, hce, hcv, hcl, rfl, hL, rfl, rfl⟩, ?_⟩
    show Steps p.tables e below _ (((({ U with heap := s₂.heap, slotsUsed := s₂.slotsUsed } : State).setVm s₂.vm).setTop g).pushFrame (.throwing q))
    rw [← hs₂]
    exact hsteps
end
variable {p : Program} {l : Launch} {e : Env} {R : Room} {s : State} {m : MethodId} {args : Array Value} {below : List Frame} {meth : Method} {c : Code} {T : State} {H : Heap} {locs : List Loc} {cells slots : Nat}
theorem vx_callVX (X : Stand p l e R s m args below meth c T locs cells slots) (hexec : p.tables.exec = Jvm.exec) {own C : String} {index : Nat} {y : MethodName} {bytes : ByteArray} {maxL : Nat} {ret : Option FieldType} {hh : List (Nat × Nat × Nat × Nat)}
    (hown : s.vm.findClass own = some m.cls) (hlink : (Cond.methodLink own index y).before args s = true) (hinst : (Cond.instanceMethod y).before args s = true) (hsel : (Cond.selects C y y).before args s = true)
    (hcode : (Cond.codeWith y bytes maxL ret hh).before args s = true) (hy : y.cls ≠ "java/lang/invoke/MethodHandle" ∧ y.cls ≠ "java/lang/invoke/VarHandle")
    {W9 : Nat} {Pre : Pt → Array Value → Prop} {Post : Pt → Array Value → Option Value → Pt → Prop} {PostX : Pt → Array Value → Addr → Pt → Prop} (hK : vx_Back l R p e below s args y 3 W9 Pre Post PostX)
    {b : Addr} {cellB : Cell} (hcell : T.heap[b]? = some cellB) (hobj : cellB.vm.isStatics = false) (hcls : s.vm.findClass C = some cellB.cls)
    {g : JFrame} (hg : g.method = m) (hsize : g.locals.size = c.maxLocals) {argsL rest : List Value} (hlen : ∀ sig, parseMethodDescriptor y.desc = some sig → argsL.length = sig.parameters.length)
    (hstack : g.stack = argsL.reverse ++ .ref b :: rest) (hW : 2 * g.monitorRoom + (rest.map fun v => v.category).sum ≤ W9) (hdg : decode c.code g.pc = .ok (.invokevirtual index, 3))
    (hpre : ∀ vm₁, s.WarmedH vm₁ → Pre ⟨T.setVm vm₁, locs, cells, slots⟩ (Value.ref b :: argsL).toArray) :
    (∃ (v : Option Value) (vm₁ : Vm) (B : Pt), s.WarmedH vm₁ ∧ Stand p l e R s m args below meth c B.U B.locs B.cells B.slots ∧ Post ⟨T.setVm vm₁, locs, cells, slots⟩ (Value.ref b :: argsL).toArray v B ∧
      ∀ target, Steps p.tables e below (B.U.setTop { g with pc := g.pc + 3, stack := v.toList ++ rest }) target → Steps p.tables e below (T.setTop g) target) ∨
    (∃ (q : Addr) (vm₁ : Vm) (B : Pt), s.WarmedH vm₁ ∧ Stand p l e R s m args below meth c B.U B.locs B.cells B.slots ∧ PostX ⟨T.setVm vm₁, locs, cells, slots⟩ (Value.ref b :: argsL).toArray q B ∧
      Steps p.tables e below (T.setTop g) ((B.U.setTop { g with stack := rest }).pushFrame (.throwing q))) := by
  obtain ⟨mk, methM, hnamed, hmethM, hstM, habM⟩ := Cond.instanceMethod_spec hinst
  obtain ⟨m8, methM', cM, hn8, hmethM', -, -, -, -, -, -, hsigM⟩ := Cond.codeWith_spec hcode
  cases Option.some.inj (hn8.symm.trans hnamed)
  cases hmethM.symm.trans hmethM'
  obtain ⟨c2, r2, m2, q1, q2, q3, q4, kP, hkP, hkPi⟩ := Cond.selects_spec hsel
  cases hcls.symm.trans q1
  cases (State.methodFound?_of_named hnamed hy).symm.trans q2
  cases hnamed.symm.trans q3
  have hselP : selectMethod e.platform s.vm cellB.cls mk = .method mk := by rw [Launch.admits_selectMethod X.admits]; exact q4
  obtain ⟨vm₁, X₁, hstep₁⟩ := X.invokevirtual hexec hown hlink hnamed hmethM hstM hkP hkPi hy (a := b) (cell := cellB) hcell
    (fun z h => by rw [h] at hobj; cases hobj) hselP hmethM habM hkP hkPi (g := g) hg (argsL := argsL) (rest := rest) (hlen _ hsigM) hstack hdg
  rcases hK m meth c ⟨T.setVm vm₁, locs, cells, slots⟩ { g with stack := rest } (.invokevirtual index) mk (Value.ref b :: argsL).toArray X₁ hg hsize hdg hW (X₁.named hnamed) (hpre vm₁ X₁.warmed) with ⟨v, B, X', hpost, hsteps⟩ | ⟨q, B, X', hpost, hsteps⟩
  · exact Or.inl ⟨v, vm₁, B, X₁.warmed, X', hpost, fun target h => hstep₁ _ fun acts => by rw [doInvoke_state]; exact hsteps.trans h⟩
  · exact Or.inr ⟨q, vm₁, B, X₁.warmed, X', hpost, hstep₁ _ fun acts => by rw [doInvoke_state]; exact hsteps⟩
theorem vx_callSX (X : Stand p l e R s m args below meth c T locs cells slots) (hexec : p.tables.exec = Jvm.exec) {own : String} {index : Nat} {y : MethodName} {bytes : ByteArray} {maxL : Nat} {ret : Option FieldType} {hh : List (Nat × Nat × Nat × Nat)}
    (hown : s.vm.findClass own = some m.cls) (hlink : (Cond.methodLink own index y).before args s = true) (hstat : (Cond.static y).before args s = true) (hinit : (Cond.initialized y.cls).before args s = true)
    (hcode : (Cond.codeWith y bytes maxL ret hh).before args s = true) (hy : y.cls ≠ "java/lang/invoke/MethodHandle" ∧ y.cls ≠ "java/lang/invoke/VarHandle")
    {W9 : Nat} {Pre : Pt → Array Value → Prop} {Post : Pt → Array Value → Option Value → Pt → Prop} {PostX : Pt → Array Value → Addr → Pt → Prop} (hK : vx_Back l R p e below s args y 3 W9 Pre Post PostX)
    {g : JFrame} (hg : g.method = m) (hsize : g.locals.size = c.maxLocals) {argsL rest : List Value} (hlen : ∀ sig, parseMethodDescriptor y.desc = some sig → argsL.length = sig.parameters.length)
    (hstack : g.stack = argsL.reverse ++ rest) (hW : 2 * g.monitorRoom + (rest.map fun v => v.category).sum ≤ W9) (hdg : decode c.code g.pc = .ok (.invokestatic index, 3))
    (hpre : ∀ vm₁, s.WarmedH vm₁ → Pre ⟨T.setVm vm₁, locs, cells, slots⟩ argsL.toArray) :
    (∃ (v : Option Value) (vm₁ : Vm) (B : Pt), s.WarmedH vm₁ ∧ Stand p l e R s m args below meth c B.U B.locs B.cells B.slots ∧ Post ⟨T.setVm vm₁, locs, cells, slots⟩ argsL.toArray v B ∧
      ∀ target, Steps p.tables e below (B.U.setTop { g with pc := g.pc + 3, stack := v.toList ++ rest }) target → Steps p.tables e below (T.setTop g) target) ∨
    (∃ (q : Addr) (vm₁ : Vm) (B : Pt), s.WarmedH vm₁ ∧ Stand p l e R s m args below meth c B.U B.locs B.cells B.slots ∧ PostX ⟨T.setVm vm₁, locs, cells, slots⟩ argsL.toArray q B ∧
      Steps p.tables e below (T.setTop g) ((B.U.setTop { g with stack := rest }).pushFrame (.throwing q))) := by
  obtain ⟨mk, methM, cM, hnamed, hmethM, -, -, -, -, -, -, hsigM⟩ := Cond.codeWith_spec hcode
  have hstatic : methM.isStatic = true := Cond.static_spec hnamed hmethM hstat
  obtain ⟨kP, hkP, -⟩ := className_of_methodNamed hnamed
  have hinitP : kP.init = .initialized := Cond.initialized_spec (findClass_of_methodNamed hnamed) hkP hinit
  obtain ⟨vm₁, X₁, hstep₁⟩ := X.invokestatic hexec hown hlink hnamed hmethM hstatic hkP hinitP hy (g := g) hg (argsL := argsL) (rest := rest) (hlen _ hsigM) hstack hdg
  rcases hK m meth c ⟨T.setVm vm₁, locs, cells, slots⟩ { g with stack := rest } (.invokestatic index) mk argsL.toArray X₁ hg hsize hdg hW (X₁.named hnamed) (hpre vm₁ X₁.warmed) with ⟨v, B, X', hpost, hsteps⟩ | ⟨q, B, X', hpost, hsteps⟩
  · exact Or.inl ⟨v, vm₁, B, X₁.warmed, X', hpost, fun target h => hstep₁ _ fun acts => by rw [doInvoke_state]; exact hsteps.trans h⟩
  · exact Or.inr ⟨q, vm₁, B, X₁.warmed, X', hpost, hstep₁ _ fun acts => by rw [doInvoke_state]; exact hsteps⟩
theorem vx_callVW (X : Stand p l e R s m args below meth c T locs cells slots) (hexec : p.tables.exec = Jvm.exec) {own C : String} {index : Nat} {y : MethodName} {bytes : ByteArray} {maxL : Nat} {ret : Option FieldType} {hh : List (Nat × Nat × Nat × Nat)}
    (hown : s.vm.findClass own = some m.cls) (hlink : (Cond.methodLink own index y).before args s = true) (hinst : (Cond.instanceMethod y).before args s = true) (hsel : (Cond.selects C y y).before args s = true)
    (hcode : (Cond.codeWith y bytes maxL ret hh).before args s = true) (hy : y.cls ≠ "java/lang/invoke/MethodHandle" ∧ y.cls ≠ "java/lang/invoke/VarHandle")
    {W9 : Nat} {Pre : Pt → Array Value → Prop} {Post : Pt → Array Value → Option Value → Pt → Prop} (hK : Back l R p e below s args y 3 W9 Pre Post)
    {b : Addr} {cellB : Cell} (hcell : T.heap[b]? = some cellB) (hobj : cellB.vm.isStatics = false) (hcls : s.vm.findClass C = some cellB.cls)
    {g : JFrame} (hg : g.method = m) (hsize : g.locals.size = c.maxLocals) {argsL rest : List Value} (hlen : ∀ sig, parseMethodDescriptor y.desc = some sig → argsL.length = sig.parameters.length)
    (hstack : g.stack = argsL.reverse ++ .ref b :: rest) (hW : 2 * g.monitorRoom + (rest.map fun v => v.category).sum ≤ W9) (hdg : decode c.code g.pc = .ok (.invokevirtual index, 3))
    (hpre : ∀ vm₁, s.WarmedH vm₁ → Pre ⟨T.setVm vm₁, locs, cells, slots⟩ (Value.ref b :: argsL).toArray) :
    ∃ (v : Option Value) (vm₁ : Vm) (B : Pt), s.WarmedH vm₁ ∧ Stand p l e R s m args below meth c B.U B.locs B.cells B.slots ∧ Post ⟨T.setVm vm₁, locs, cells, slots⟩ (Value.ref b :: argsL).toArray v B ∧
      ∀ target, Steps p.tables e below (B.U.setTop { g with pc := g.pc + 3, stack := v.toList ++ rest }) target → Steps p.tables e below (T.setTop g) target := by
  obtain ⟨mk, methM, hnamed, hmethM, hstM, habM⟩ := Cond.instanceMethod_spec hinst
  obtain ⟨m8, methM', cM, hn8, hmethM', -, -, -, -, -, -, hsigM⟩ := Cond.codeWith_spec hcode
  cases Option.some.inj (hn8.symm.trans hnamed)
  cases hmethM.symm.trans hmethM'
  obtain ⟨c2, r2, m2, q1, q2, q3, q4, kP, hkP, hkPi⟩ := Cond.selects_spec hsel
  cases hcls.symm.trans q1
  cases (State.methodFound?_of_named hnamed hy).symm.trans q2
  cases hnamed.symm.trans q3
  have hselP : selectMethod e.platform s.vm cellB.cls mk = .method mk := by rw [Launch.admits_selectMethod X.admits]; exact q4
  obtain ⟨vm₁, X₁, hstep₁⟩ := X.invokevirtual hexec hown hlink hnamed hmethM hstM hkP hkPi hy (a := b) (cell := cellB) hcell
    (fun z h => by rw [h] at hobj; cases hobj) hselP hmethM habM hkP hkPi (g := g) hg (argsL := argsL) (rest := rest) (hlen _ hsigM) hstack hdg
  obtain ⟨v, B, X', hpost, hsteps⟩ := hK m meth c ⟨T.setVm vm₁, locs, cells, slots⟩ { g with stack := rest } (.invokevirtual index) mk (Value.ref b :: argsL).toArray X₁ hg hsize hdg hW (X₁.named hnamed) (hpre vm₁ X₁.warmed)
  exact ⟨v, vm₁, B, X₁.warmed, X', hpost, fun target h => hstep₁ _ fun acts => by rw [doInvoke_state]; exact hsteps.trans h⟩
abbrev vx_CVW (R : Room) (s : State) (args : Array Value) (own C : String) (index : Nat) (y : MethodName) (bytes : ByteArray) (maxL : Nat) (ret : Option FieldType) (hh : List (Nat × Nat × Nat × Nat)) (ws : List Cond) (rm : Room) (mc ms n : Nat) : Prop :=
  (rm.cells = mc ∧ rm.slots = ms ∧ rm.frames + 1 ≤ R.frames ∧ 8 + (maxL + 11) + rm.locals ≤ R.locals ∧ (∀ w ∈ ws, ∀ (a' : Array Value) (U : State), s.WarmedH U.vm → w.before a' U = true) ∧ Cond.codeWith y bytes maxL ret hh ∈ ws) ∧
  (Cond.codeWith y bytes maxL ret hh).before args s = true ∧ (Cond.initialized y.cls).before args s = true ∧ (y.cls ≠ "java/lang/invoke/MethodHandle" ∧ y.cls ≠ "java/lang/invoke/VarHandle") ∧
  (∀ sig, parseMethodDescriptor y.desc = some sig → n = sig.parameters.length) ∧ (Cond.methodLink own index y).before args s = true ∧ (Cond.instanceMethod y).before args s = true ∧ (Cond.selects C y y).before args s = true
theorem vx_cwVW {own C : String} {index maxL mc ms : Nat} {y : MethodName} {bytes : ByteArray} {ret : Option FieldType} {hh : List (Nat × Nat × Nat × Nat)} {Ts ws ws' : List Cond} {rm : Room} (n : Nat) (ht : ∀ w ∈ Ts, w.before args s = true) (hT : GoodIn Ts (wsV own index C y ws)) (hw : ws = Cond.codeWith y bytes maxL ret hh :: ws') (hrc : rm.cells = mc) (hrs : rm.slots = ms)
    (hd : y.cls = C ∧ y.cls ≠ "java/lang/invoke/MethodHandle" ∧ y.cls ≠ "java/lang/invoke/VarHandle" ∧ (parseMethodDescriptor y.desc).map (fun d => d.parameters.length) = some n) (hR : rm.frames + 1 ≤ R.frames ∧ 8 + (maxL + 11) + rm.locals ≤ R.locals) :
    vx_CVW R s args own C index y bytes maxL ret hh ws rm mc ms n := by
  obtain ⟨hC, hd⟩ := hd
  subst hC
  have ok : ∀ w ∈ wsV own index y.cls y ws, w.before args s = true := fun w h => ht w (hT w h).1
  have hG : GoodIn Ts ws := fun w h => hT w (by unfold wsV; exact List.mem_append_right _ h)
  have hc : Cond.codeWith y bytes maxL ret hh ∈ ws := by rw [hw]; exact List.mem_cons_self
  refine ⟨⟨hrc, hrs, hR.1, hR.2, pay_in ht hG, hc⟩, ht _ (hG _ hc).1, ok _ (by simp [wsV]), ⟨hd.1, hd.2.1⟩, fun sig h => ?_, ok _ (by simp [wsV]), ok _ (by simp [wsV]), ok _ (by simp [wsV])⟩
  have h2 := hd.2.2
  rw [h] at h2
  exact (Option.some.inj h2).symm
theorem vx_runVW {y : MethodName} {bytes cc : ByteArray} {maxL nL mc ms n index : Nat} {ret : Option FieldType} {hh : List (Nat × Nat × Nat × Nat)} {ws : List Cond} {rm : Room} {Pc : Array Value → State → Prop} {Qc : Array Value → State → Outcome → State → Prop} {free : Addr → Prop} {Ts : List Cond} {own C : String} {b : Addr} {As rest : List Value} {g : JFrame}
    (S : CallFix p m c cc nL s args Ts own) (hM : Met l y ws rm Pc Qc mc ms free) (cw : vx_CVW R s args own C index y bytes maxL ret hh ws rm mc ms n) (hp : PreV s H C b Pc As)
    (hg : g.method = m) (hn : As.length = n) (hsize : g.locals.size = nL) (hstack : g.stack = As.reverse ++ .ref b :: rest) (hW : 2 * g.monitorRoom + (rest.map fun v => v.category).sum ≤ 8) (hdg : decode cc g.pc = .ok (.invokevirtual index, 3)) (hf : cells + mc ≤ R.cells ∧ slots + ms ≤ R.slots) :
    va_Run p l e R s m args below meth c H locs cells slots mc ms g rest (Qc (Value.ref b :: As).toArray) free := by
  obtain ⟨⟨hrc, hrs, hfr, hlo, hws, hcw⟩, hcode, hini, hy, hlen, hl, hin, hse⟩ := cw
  have hK : Back l R p e below s args y 3 8 (PreOf R mc ms Pc) (PostOf Qc mc ms free) := va_backW (hh := hh) (bytes := bytes) (maxL := maxL) (ret := ret) hM hp.1 hrc hrs hfr hlo hws hcw (fun a' U hW => word_at hW (Or.inl (by first | rfl | simp [Cond.onTables, Cond.keeps, Cond.steady])) hini)
  obtain ⟨hx, hb, hml, ho, -⟩ := S
  obtain ⟨-, ⟨cellB, hcB, hoB, hclB⟩, hPc⟩ := hp
  intro T hT X
  obtain ⟨v, vm₁, ⟨U', l2, c2, s2⟩, hW₁, X', ⟨g', mk, t, L, e1, e2, hq, h1, hL, h2, h3⟩, st⟩ := vx_callVW X hx (C := C) (hh := hh) (bytes := bytes) (maxL := maxL) (ret := ret) ho hl hin hse hcode hy hK (by rw [hT]; exact hcB) hoB hclB hg (hsize.trans hml.symm) (argsL := As) (rest := rest) (fun sig h => hn.trans (hlen sig h)) hstack hW (by rw [hb]; exact hdg)
    (fun vm₁ hW₁ => ⟨hf.1, hf.2, hPc (T.setVm vm₁) hT hW₁⟩)
  dsimp only [Pt.U, Pt.locs, Pt.cells, Pt.slots] at X' e1 e2 h1 h2 h3 st
  subst h1; subst h2; subst h3
  exact ⟨v, (T.setVm vm₁).calling g' mk (Value.ref b :: As).toArray, t, U', L, hT, X', hL, e1, e2, hq, st⟩
section
variable {y : MethodName} {bytes cc : ByteArray} {maxL nL mc ms n index : Nat} {ret : Option FieldType} {ws : List Cond} {rm : Room} {Pc : Array Value → State → Prop} {Qc : Array Value → State → Outcome → State → Prop} {XC : String → State → State → Prop} {free : Addr → Prop} {Ts : List Cond} {own C : String} {b : Addr} {As rest : List Value} {g : JFrame}
theorem vx_runVX {hh : List (Nat × Nat × Nat × Nat)} (S : CallFix p m c cc nL s args Ts own) (hM : vx_Met l y ws rm Pc Qc XC mc ms free) (cw : vx_CVW R s args own C index y bytes maxL ret hh ws rm mc ms n) (hp : PreV s H C b Pc As)
    (hg : g.method = m) (hn : As.length = n) (hsize : g.locals.size = nL) (hstack : g.stack = As.reverse ++ .ref b :: rest) (hW : 2 * g.monitorRoom + (rest.map fun v => v.category).sum ≤ 8) (hdg : decode cc g.pc = .ok (.invokevirtual index, 3)) (hf : cells + mc ≤ R.cells ∧ slots + ms ≤ R.slots) :
    vx_Run p l e R s m args below meth c H locs cells slots mc ms g rest (Qc (Value.ref b :: As).toArray) XC free := by
  obtain ⟨⟨hrc, hrs, hfr, hlo, hws, hcw⟩, hcode, hini, hy, hlen, hl, hin, hse⟩ := cw
  have hK : vx_Back l R p e below s args y 3 8 (PreOf R mc ms Pc) (PostOf Qc mc ms free) (vx_Post XC mc ms free) := vx_backW (hh := hh) (bytes := bytes) (maxL := maxL) (ret := ret) hM hp.1 hrc hrs hfr hlo hws hcw (fun a' U hW => word_at hW (Or.inl (by first | rfl | simp [Cond.onTables, Cond.keeps, Cond.steady])) hini)
  obtain ⟨hx, hb, hml, ho, -⟩ := S
  obtain ⟨-, ⟨cellB, hcB, hoB, hclB⟩, hPc⟩ := hp
  intro T hT X
  rcases vx_callVX X hx (C := C) (hh := hh) (bytes := bytes) (maxL := maxL) (ret := ret) ho hl hin hse hcode hy hK (by rw [hT]; exact hcB) hoB hclB hg (hsize.trans hml.symm) (argsL := As) (rest := rest) (fun sig h => hn.trans (hlen sig h)) hstack hW (by rw [hb]; exact hdg)
    (fun vm₁ hW₁ => ⟨hf.1, hf.2, hPc (T.setVm vm₁) hT hW₁⟩) with ⟨v, vm₁, ⟨U', l2, c2, s2⟩, hW₁, X', ⟨g', mk, t, L, e1, e2, hq, h1, hL, h2, h3⟩, st⟩ | ⟨q, vm₁, ⟨U', l2, c2, s2⟩, hW₁, X', ⟨g', mk, t, L, E, ce, e1, e2, hq, hce, hcv, hcl, h1, hL, h2, h3⟩, st⟩
  · dsimp only [Pt.U, Pt.locs, Pt.cells, Pt.slots] at X' e1 e2 h1 h2 h3 st
    subst h1; subst h2; subst h3
    exact Or.inl ⟨v, (T.setVm vm₁).calling g' mk (Value.ref b :: As).toArray, t, U', L, hT, X', hL, e1, e2, hq, st⟩
  · dsimp only [Pt.U, Pt.locs, Pt.cells, Pt.slots] at X' e1 e2 h1 h2 h3 st hcl
    subst h1; subst h2; subst h3
    exact Or.inr ⟨q, (T.setVm vm₁).calling g' mk (Value.ref b :: As).toArray, t, U', L, E, ce, hT, X', hL, e1, e2, hq, hce, hcv, vx_cls hW₁ hcl, st⟩
theorem vx_runSX {hh : List (Nat × Nat × Nat × Nat)} (S : CallFix p m c cc nL s args Ts own) (hM : vx_Met l y ws rm Pc Qc XC mc ms free) (cw : vx_CSW R s args own index y bytes maxL ret hh ws rm mc ms n) (hp : PreS s H Pc As)
    (hg : g.method = m) (hn : As.length = n) (hsize : g.locals.size = nL) (hstack : g.stack = As.reverse ++ rest) (hW : 2 * g.monitorRoom + (rest.map fun v => v.category).sum ≤ 8) (hdg : decode cc g.pc = .ok (.invokestatic index, 3)) (hf : cells + mc ≤ R.cells ∧ slots + ms ≤ R.slots) :
    vx_Run p l e R s m args below meth c H locs cells slots mc ms g rest (Qc As.toArray) XC free := by
  obtain ⟨⟨hrc, hrs, hfr, hlo, hws, hcw⟩, hcode, hini, hy, hlen, hl, hstt⟩ := cw
  have hK : vx_Back l R p e below s args y 3 8 (PreOf R mc ms Pc) (PostOf Qc mc ms free) (vx_Post XC mc ms free) := vx_backW (hh := hh) (bytes := bytes) (maxL := maxL) (ret := ret) hM hp.1 hrc hrs hfr hlo hws hcw (fun a' U hW => word_at hW (Or.inl (by first | rfl | simp [Cond.onTables, Cond.keeps, Cond.steady])) hini)
  obtain ⟨hx, hb, hml, ho, -⟩ := S
  intro T hT X
  rcases vx_callSX X hx (hh := hh) (bytes := bytes) (maxL := maxL) (ret := ret) ho hl hstt hini hcode hy hK hg (hsize.trans hml.symm) (argsL := As) (rest := rest) (fun sig h => hn.trans (hlen sig h)) hstack hW (by rw [hb]; exact hdg)
    (fun vm₁ hW₁ => ⟨hf.1, hf.2, hp.2 (T.setVm vm₁) hT hW₁⟩) with ⟨v, vm₁, ⟨U', l2, c2, s2⟩, hW₁, X', ⟨g', mk, t, L, e1, e2, hq, h1, hL, h2, h3⟩, st⟩ | ⟨q, vm₁, ⟨U', l2, c2, s2⟩, hW₁, X', ⟨g', mk, t, L, E, ce, e1, e2, hq, hce, hcv, hcl, h1, hL, h2, h3⟩, st⟩
  · dsimp only [Pt.U, Pt.locs, Pt.cells, Pt.slots] at X' e1 e2 h1 h2 h3 st
    subst h1; subst h2; subst h3
    exact Or.inl ⟨v, (T.setVm vm₁).calling g' mk As.toArray, t, U', L, hT, X', hL, e1, e2, hq, st⟩
  · dsimp only [Pt.U, Pt.locs, Pt.cells, Pt.slots] at X' e1 e2 h1 h2 h3 st hcl
    subst h1; subst h2; subst h3
    exact Or.inr ⟨q, (T.setVm vm₁).calling g' mk As.toArray, t, U', L, E, ce, hT, X', hL, e1, e2, hq, hce, hcv, vx_cls hW₁ hcl, st⟩
end
end VXH
theorem vx_ofWH {l : Launch} {y : MethodName} {ws ws' : List Cond} {rm : Room} {Pc : Array Value → State → Prop} {Qc : Array Value → State → Outcome → State → Prop} {XC : String → State → State → Prop} {mc ms : Nat} {free : Addr → Prop} {cc : ByteArray} {maxL : Nat} {ret : Option FieldType} {hh : List (Nat × Nat × Nat × Nat)}
    (hy : plainName y.cls = true) (hw : ws = Cond.codeWith y cc maxL ret hh :: ws')
    (body : ∀ p e s m args below meth c s₁, BodyLoose p l y (headSpec ws rm) cc maxL ret e s m args below meth c s₁ → c.maxLocals = maxL → Pc args s →
      W p l e (headSpec ws rm).room s m args below meth c s.heap [] 0 0 (vx_MQ below Qc XC args s mc ms free) (entryFrame m args maxL)) : vx_Met l y ws rm Pc Qc XC mc ms free := by
  refine MetFree.of_bodyS (code := cc) (maxLocals := maxL) (ret := ret) hy ?_ ?_
  · intro args s m h hn
    obtain ⟨m9, meth, c, hn9, h1, h2, h3, h4, -, h5, h6, -⟩ := Cond.codeWith_spec (atoms_spec (ws := ws) h _ (by rw [hw]; exact List.mem_cons_self))
    cases hn.symm.trans hn9
    exact ⟨meth, c, h1, h2, h3, h4, h5, h6⟩
  · intro p e s m args below meth c s₁ B hml hP _
    have hh0 : s₁.heap = s.heap := by rw [B.state]; rfl
    obtain ⟨t, a1, o, b1, b2, b3⟩ := body p e s m args below meth c s₁ B hml hP s₁ hh0 (Stand.of_body B)
    exact ⟨t, o, a1, b1, b2, b3⟩
/-! ===== END ===== -/

/-! ===== BEGIN printed: names, fields, word lists, decode rows ===== -/
def RX0 : String := "FactorMatch$Equations"
def TX0 : u_T := fun k => match k with
  | 0 => ("FactorMatch$Equations", "weight", "[I", true)
  | 1 => ("FactorMatch$Equations", "used", "I", false)
  | 2 => ("FactorMatch$Equations", "most", "I", false)
  | 3 => ("FactorMatch$Equations", "canBeEmpty", "Z", false)
  | 4 => ("FactorMatch$Equations", "prepared", "Z", false)
  | 5 => ("FactorMatch$Equations", "rows", "[[I", true)
  | 6 => ("FactorMatch$Equations", "size", "[I", true)
  | 7 => ("FactorMatch$Equations", "exactly", "[[J", true)
  | 8 => ("FactorMatch$Equations", "within", "[[J", true)
  | 9 => ("FactorMatch$Equations", "ways", "[[J", true)
  | _ => ("FactorMatch$Equations", "choice", "[I", true)
def tyX0 : Nat → FieldType := fun k => match k with
  | 0 => .array .int
  | 1 => .int
  | 2 => .int
  | 3 => .boolean
  | 4 => .boolean
  | 5 => .array (.array .int)
  | 6 => .array .int
  | 7 => .array (.array .long)
  | 8 => .array (.array .long)
  | 9 => .array (.array .long)
  | _ => .array .int
abbrev wsX00 : List Cond := u_ws RX0 TX0 11
theorem nmX0 : ∀ a, a < 11 → ∀ b, b < 11 → a ≠ b → (TX0 a).2.1 ≠ (TX0 b).2.1 := by decide +kernel
theorem tyX0_ok : ∀ k, k < 11 → parseFieldDescriptor (TX0 k).2.2.1 = some (tyX0 k) := by decide +kernel
abbrev cX0_init : ByteArray := prog_2_method_1_code
def yX0_init : MethodName := ⟨RX0, "<init>", "()V"⟩
abbrev cX0_forget : ByteArray := prog_2_method_2_code
def yX0_forget : MethodName := ⟨RX0, "forget", "()V"⟩
abbrev cX0_prepare : ByteArray := prog_2_method_3_code
def yX0_prepare : MethodName := ⟨RX0, "prepare", "([I)V"⟩
abbrev cX0_solutionsOf : ByteArray := prog_2_method_4_code
def yX0_solutionsOf : MethodName := ⟨RX0, "solutionsOf", "(I)I"⟩
abbrev cX0_bySets : ByteArray := prog_2_method_5_code
def yX0_bySets : MethodName := ⟨RX0, "bySets", "()J"⟩
abbrev cX0_byConstants : ByteArray := prog_2_method_7_code
def yX0_byConstants : MethodName := ⟨RX0, "byConstants", "()J"⟩
abbrev cX0_numberIn : ByteArray := prog_2_method_10_code
def yX0_numberIn : MethodName := ⟨RX0, "numberIn", "(II)I"⟩
abbrev cX0_setOf : ByteArray := prog_2_method_11_code
def yX0_setOf : MethodName := ⟨RX0, "setOf", "(I)I"⟩
abbrev cX0_solve : ByteArray := prog_2_method_12_code
def yX0_solve : MethodName := ⟨RX0, "solve", "(II)V"⟩
abbrev cX0_solveLast : ByteArray := prog_2_method_13_code
def yX0_solveLast : MethodName := ⟨RX0, "solveLast", "(III)V"⟩
abbrev cX0_top : ByteArray := prog_2_method_14_code
def yX0_top : MethodName := ⟨RX0, "top", "(I)I"⟩
abbrev cX0_fillWithin : ByteArray := prog_2_method_15_code
def yX0_fillWithin : MethodName := ⟨RX0, "fillWithin", "(I)V"⟩
abbrev cX0_fillWays : ByteArray := prog_2_method_16_code
def yX0_fillWays : MethodName := ⟨RX0, "fillWays", "()V"⟩
abbrev cX0_waysFrom : ByteArray := prog_2_method_17_code
def yX0_waysFrom : MethodName := ⟨RX0, "waysFrom", "(II)J"⟩
abbrev cX0_bySetsWith : ByteArray := prog_2_method_18_code
def yX0_bySetsWith : MethodName := ⟨RX0, "bySetsWith", "(II)J"⟩
def RX1 : String := "FactorMatch$History"
def TX1 : u_T := fun k => match k with
  | 0 => ("FactorMatch$History", "kept", "[[I", true)
  | 1 => ("FactorMatch$History", "oldest", "I", false)
  | _ => ("FactorMatch$History", "held", "I", false)
def tyX1 : Nat → FieldType := fun k => match k with
  | 0 => .array (.array .int)
  | 1 => .int
  | _ => .int
abbrev wsX10 : List Cond := u_ws RX1 TX1 3
theorem nmX1 : ∀ a, a < 3 → ∀ b, b < 3 → a ≠ b → (TX1 a).2.1 ≠ (TX1 b).2.1 := by decide +kernel
theorem tyX1_ok : ∀ k, k < 3 → parseFieldDescriptor (TX1 k).2.2.1 = some (tyX1 k) := by decide +kernel
abbrev cX1_init : ByteArray := prog_3_method_1_code
def yX1_init : MethodName := ⟨RX1, "<init>", "()V"⟩
abbrev cX1_size : ByteArray := prog_3_method_2_code
def yX1_size : MethodName := ⟨RX1, "size", "()I"⟩
abbrev cX1_keep : ByteArray := prog_3_method_3_code
def yX1_keep : MethodName := ⟨RX1, "keep", "([I)V"⟩
def RX2 : String := "FactorMatch$Leasts"
def TX2 : u_T := fun k => match k with
  | 0 => ("FactorMatch$Leasts", "difference", "[I", true)
  | 1 => ("FactorMatch$Leasts", "row", "[I", true)
  | 2 => ("FactorMatch$Leasts", "numbers", "[I", true)
  | 3 => ("FactorMatch$Leasts", "found", "I", false)
  | 4 => ("FactorMatch$Leasts", "prepared", "Z", false)
  | _ => ("FactorMatch$Leasts", "ways", "[I", true)
def tyX2 : Nat → FieldType := fun k => match k with
  | 0 => .array .int
  | 1 => .array .int
  | 2 => .array .int
  | 3 => .int
  | 4 => .boolean
  | _ => .array .int
abbrev wsX20 : List Cond := u_ws RX2 TX2 6
theorem nmX2 : ∀ a, a < 6 → ∀ b, b < 6 → a ≠ b → (TX2 a).2.1 ≠ (TX2 b).2.1 := by decide +kernel
theorem tyX2_ok : ∀ k, k < 6 → parseFieldDescriptor (TX2 k).2.2.1 = some (tyX2 k) := by decide +kernel
abbrev cX2_init : ByteArray := prog_4_method_1_code
def yX2_init : MethodName := ⟨RX2, "<init>", "()V"⟩
abbrev cX2_forget : ByteArray := prog_4_method_2_code
def yX2_forget : MethodName := ⟨RX2, "forget", "()V"⟩
abbrev cX2_prepare : ByteArray := prog_4_method_3_code
def yX2_prepare : MethodName := ⟨RX2, "prepare", "([I)V"⟩
abbrev cX2_size : ByteArray := prog_4_method_4_code
def yX2_size : MethodName := ⟨RX2, "size", "()I"⟩
abbrev cX2_number : ByteArray := prog_4_method_5_code
def yX2_number : MethodName := ⟨RX2, "number", "(II)I"⟩
abbrev cX2_greatestSum : ByteArray := prog_4_method_6_code
def yX2_greatestSum : MethodName := ⟨RX2, "greatestSum", "()I"⟩
abbrev cX2_setRow : ByteArray := prog_4_method_8_code
def yX2_setRow : MethodName := ⟨RX2, "setRow", "(IIII)V"⟩
abbrev cX2_solves : ByteArray := prog_4_method_9_code
def yX2_solves : MethodName := ⟨RX2, "solves", "(IIII)Z"⟩
abbrev cX2_look : ByteArray := prog_4_method_10_code
def yX2_look : MethodName := ⟨RX2, "look", "(IIII)V"⟩
abbrev cX2_isAtMostRow : ByteArray := prog_4_method_11_code
def yX2_isAtMostRow : MethodName := ⟨RX2, "isAtMostRow", "(I)Z"⟩
def RX3 : String := "FactorMatch$Text"
def TX3 : u_T := fun k => match k with
  | 0 => ("FactorMatch$Text", "codes", "[I", true)
  | _ => ("FactorMatch$Text", "length", "I", false)
def tyX3 : Nat → FieldType := fun k => match k with
  | 0 => .array .int
  | _ => .int
abbrev wsX30 : List Cond := u_ws RX3 TX3 2
theorem nmX3 : ∀ a, a < 2 → ∀ b, b < 2 → a ≠ b → (TX3 a).2.1 ≠ (TX3 b).2.1 := by decide +kernel
theorem tyX3_ok : ∀ k, k < 2 → parseFieldDescriptor (TX3 k).2.2.1 = some (tyX3 k) := by decide +kernel
abbrev cX3_init : ByteArray := prog_5_method_1_code
def yX3_init : MethodName := ⟨RX3, "<init>", "()V"⟩
def RX4 : String := "FactorMatch"
def TX4 : u_T := fun k => match k with
  | 0 => ("FactorMatch", "state", "[I", true)
  | 1 => ("FactorMatch", "draft", "[I", true)
  | 2 => ("FactorMatch", "snapshots", "[[I", true)
  | 3 => ("FactorMatch", "taken", "[Z", true)
  | 4 => ("FactorMatch", "history", "LFactorMatch$History;", true)
  | 5 => ("FactorMatch", "text", "LFactorMatch$Text;", true)
  | 6 => ("FactorMatch", "equations", "LFactorMatch$Equations;", true)
  | _ => ("FactorMatch", "leasts", "LFactorMatch$Leasts;", true)
def tyX4 : Nat → FieldType := fun k => match k with
  | 0 => .array .int
  | 1 => .array .int
  | 2 => .array (.array .int)
  | 3 => .array .boolean
  | 4 => .object "FactorMatch$History"
  | 5 => .object "FactorMatch$Text"
  | 6 => .object "FactorMatch$Equations"
  | _ => .object "FactorMatch$Leasts"
abbrev wsX40 : List Cond := u_ws RX4 TX4 8
theorem nmX4 : ∀ a, a < 8 → ∀ b, b < 8 → a ≠ b → (TX4 a).2.1 ≠ (TX4 b).2.1 := by decide +kernel
theorem tyX4_ok : ∀ k, k < 8 → parseFieldDescriptor (TX4 k).2.2.1 = some (tyX4 k) := by decide +kernel
abbrev cX4_init : ByteArray := prog_1_method_1_code
def yX4_init : MethodName := ⟨RX4, "<init>", "()V"⟩
abbrev cX4_constant : ByteArray := prog_1_method_2_code
def yX4_constant : MethodName := ⟨RX4, "constant", "(III)I"⟩
abbrev cX4_variable : ByteArray := prog_1_method_3_code
def yX4_variable : MethodName := ⟨RX4, "variable", "(III)I"⟩
abbrev cX4_multiply : ByteArray := prog_1_method_4_code
def yX4_multiply : MethodName := ⟨RX4, "multiply", "(II)I"⟩
abbrev cX4_cancel : ByteArray := prog_1_method_6_code
def yX4_cancel : MethodName := ⟨RX4, "cancel", "(II)I"⟩
abbrev cX4_set : ByteArray := prog_1_method_7_code
def yX4_set : MethodName := ⟨RX4, "set", "(II)I"⟩
abbrev cX4_times : ByteArray := prog_1_method_15_code
def yX4_times : MethodName := ⟨RX4, "times", "(II)I"⟩
abbrev cX4_rest : ByteArray := prog_1_method_16_code
def yX4_rest : MethodName := ⟨RX4, "rest", "(I)I"⟩
abbrev cX4_solutions : ByteArray := prog_1_method_17_code
def yX4_solutions : MethodName := ⟨RX4, "solutions", "(I)I"⟩
abbrev cX4_matchers : ByteArray := prog_1_method_18_code
def yX4_matchers : MethodName := ⟨RX4, "matchers", "(I)J"⟩
abbrev cX4_least : ByteArray := prog_1_method_20_code
def yX4_least : MethodName := ⟨RX4, "least", "(II)I"⟩
abbrev cX4_count : ByteArray := prog_1_method_22_code
def yX4_count : MethodName := ⟨RX4, "count", "(I)I"⟩
abbrev cX4_needIndex : ByteArray := prog_1_method_33_code
def yX4_needIndex : MethodName := ⟨RX4, "needIndex", "(II)V"⟩
abbrev cX4_needNumber : ByteArray := prog_1_method_34_code
def yX4_needNumber : MethodName := ⟨RX4, "needNumber", "(III)V"⟩
abbrev cX4_forgetTables : ByteArray := prog_1_method_36_code
def yX4_forgetTables : MethodName := ⟨RX4, "forgetTables", "()V"⟩
abbrev cX4_keepState : ByteArray := prog_1_method_37_code
def yX4_keepState : MethodName := ⟨RX4, "keepState", "()V"⟩
abbrev cX4_change : ByteArray := prog_1_method_38_code
def yX4_change : MethodName := ⟨RX4, "change", "(II)I"⟩
abbrev cX4_putDraft : ByteArray := prog_1_method_39_code
def yX4_putDraft : MethodName := ⟨RX4, "putDraft", "(I)I"⟩
abbrev cX4_draftFits : ByteArray := prog_1_method_40_code
def yX4_draftFits : MethodName := ⟨RX4, "draftFits", "(I)Z"⟩
abbrev cX4_factorsOf : ByteArray := prog_1_method_41_code
def yX4_factorsOf : MethodName := ⟨RX4, "factorsOf", "(I)I"⟩
abbrev cX4_restOf : ByteArray := prog_1_method_43_code
def yX4_restOf : MethodName := ⟨RX4, "restOf", "(I)I"⟩
abbrev cX4_hasVariable : ByteArray := prog_1_method_44_code
def yX4_hasVariable : MethodName := ⟨RX4, "hasVariable", "(II)Z"⟩
abbrev cX4_unlikeVariables : ByteArray := prog_1_method_45_code
def yX4_unlikeVariables : MethodName := ⟨RX4, "unlikeVariables", "()I"⟩
abbrev cX4_restsBelowZero : ByteArray := prog_1_method_46_code
def yX4_restsBelowZero : MethodName := ⟨RX4, "restsBelowZero", "()I"⟩
abbrev cX4_patternsAreSame : ByteArray := prog_1_method_47_code
def yX4_patternsAreSame : MethodName := ⟨RX4, "patternsAreSame", "()Z"⟩
abbrev cX4_commonFactors : ByteArray := prog_1_method_48_code
def yX4_commonFactors : MethodName := ⟨RX4, "commonFactors", "()I"⟩
def RX5 : String := "FactorMatchModel"
def TX5 : u_T := fun k => match k with
  | _ => ("", "", "", false)
def tyX5 : Nat → FieldType := fun k => match k with
  | _ => .int
abbrev wsX50 : List Cond := u_ws RX5 TX5 0
theorem nmX5 : ∀ a, a < 0 → ∀ b, b < 0 → a ≠ b → (TX5 a).2.1 ≠ (TX5 b).2.1 := by decide +kernel
theorem tyX5_ok : ∀ k, k < 0 → parseFieldDescriptor (TX5 k).2.2.1 = some (tyX5 k) := by decide +kernel
def RJ6 : String := "java/lang/Integer"
def TJ6 : u_T := fun k => match k with
  | _ => ("", "", "", false)
def tyJ6 : Nat → FieldType := fun k => match k with
  | _ => .int
abbrev wsJ60 : List Cond := u_ws RJ6 TJ6 0
theorem nmJ6 : ∀ a, a < 0 → ∀ b, b < 0 → a ≠ b → (TJ6 a).2.1 ≠ (TJ6 b).2.1 := by decide +kernel
theorem tyJ6_ok : ∀ k, k < 0 → parseFieldDescriptor (TJ6 k).2.2.1 = some (tyJ6 k) := by decide +kernel
abbrev cJ6_bitCount_0f7a4 : ByteArray := prog_12_method_49_code
def yJ6_bitCount_0f7a4 : MethodName := ⟨RJ6, "bitCount", "(I)I"⟩
def RJ9 : String := "java/lang/Math"
def TJ9 : u_T := fun k => match k with
  | _ => ("", "", "", false)
def tyJ9 : Nat → FieldType := fun k => match k with
  | _ => .int
abbrev wsJ90 : List Cond := u_ws RJ9 TJ9 0
theorem nmJ9 : ∀ a, a < 0 → ∀ b, b < 0 → a ≠ b → (TJ9 a).2.1 ≠ (TJ9 b).2.1 := by decide +kernel
theorem tyJ9_ok : ∀ k, k < 0 → parseFieldDescriptor (TJ9 k).2.2.1 = some (tyJ9 k) := by decide +kernel
abbrev cJ9_max_7cf53 : ByteArray := prog_13_method_65_code
def yJ9_max_7cf53 : MethodName := ⟨RJ9, "max", "(II)I"⟩
abbrev cJ9_min_7cf53 : ByteArray := prog_13_method_69_code
def yJ9_min_7cf53 : MethodName := ⟨RJ9, "min", "(II)I"⟩
def RJ0 : String := "java/lang/String"
def TJ0 : u_T := fun k => match k with
  | _ => ("", "", "", false)
def tyJ0 : Nat → FieldType := fun k => match k with
  | _ => .int
abbrev wsJ00 : List Cond := u_ws RJ0 TJ0 0
theorem nmJ0 : ∀ a, a < 0 → ∀ b, b < 0 → a ≠ b → (TJ0 a).2.1 ≠ (TJ0 b).2.1 := by decide +kernel
theorem tyJ0_ok : ∀ k, k < 0 → parseFieldDescriptor (TJ0 k).2.2.1 = some (tyJ0 k) := by decide +kernel
def RJ10 : String := "java/lang/System"
def TJ10 : u_T := fun k => match k with
  | _ => ("", "", "", false)
def tyJ10 : Nat → FieldType := fun k => match k with
  | _ => .int
abbrev wsJ100 : List Cond := u_ws RJ10 TJ10 0
theorem nmJ10 : ∀ a, a < 0 → ∀ b, b < 0 → a ≠ b → (TJ10 a).2.1 ≠ (TJ10 b).2.1 := by decide +kernel
theorem tyJ10_ok : ∀ k, k < 0 → parseFieldDescriptor (TJ10 k).2.2.1 = some (tyJ10 k) := by decide +kernel
def RL : String := "FactorMatchLaw"
abbrev cL_cell : ByteArray := method_2_code
def yL_cell : MethodName := ⟨RL, "cell", "([II)I"⟩
abbrev cL_at : ByteArray := method_3_code
def yL_at : MethodName := ⟨RL, "at", "(II)I"⟩
abbrev cL_solutions : ByteArray := method_4_code
def yL_solutions : MethodName := ⟨RL, "solutions", "([I[III)I"⟩
abbrev cL_matchers : ByteArray := method_5_code
def yL_matchers : MethodName := ⟨RL, "matchers", "([I[I)J"⟩
abbrev cL_least : ByteArray := method_6_code
def yL_least : MethodName := ⟨RL, "least", "(LFactorMatch;[I)Z"⟩
abbrev cL_act : ByteArray := method_7_code
def yL_act : MethodName := ⟨RL, "act", "(LFactorMatch;II[I[I)Z"⟩
abbrev cL_agree : ByteArray := method_8_code
def yL_agree : MethodName := ⟨RL, "agree", "(LFactorMatch;[I[I)Z"⟩
abbrev cL_law : ByteArray := code
def yL_law : MethodName := ⟨RL, "law", "([I)Z"⟩
theorem inX0 : ∀ w ∈ wsX00, w ∈ lw_tbl := by decide +kernel
theorem inX1 : ∀ w ∈ wsX10, w ∈ lw_tbl := by decide +kernel
theorem inX2 : ∀ w ∈ wsX20, w ∈ lw_tbl := by decide +kernel
theorem inX3 : ∀ w ∈ wsX30, w ∈ lw_tbl := by decide +kernel
theorem inX4 : ∀ w ∈ wsX40, w ∈ lw_tbl := by decide +kernel
theorem inX5 : ∀ w ∈ wsX50, w ∈ lw_tbl := by decide +kernel
theorem inJ6 : ∀ w ∈ wsJ60, w ∈ lw_tbl := by decide +kernel
theorem inJ9 : ∀ w ∈ wsJ90, w ∈ lw_tbl := by decide +kernel
theorem inJ0 : ∀ w ∈ wsJ00, w ∈ lw_tbl := by decide +kernel
theorem inJ10 : ∀ w ∈ wsJ100, w ∈ lw_tbl := by decide +kernel
abbrev vwCl : List vw_C := [(RX0, TX0, 11), (RX1, TX1, 3), (RX2, TX2, 6), (RX3, TX3, 2), (RX4, TX4, 8)]
end
section
theorem dX0_init_0 : decode cX0_init 0 = .ok (.aload_n 0, 1) := by decide +kernel
theorem dX0_init_1 : decode cX0_init 1 = .ok (.invokespecial 3, 3) := by decide +kernel
theorem dX0_init_4 : decode cX0_init 4 = .ok (.aload_n 0, 1) := by decide +kernel
theorem dX0_init_5 : decode cX0_init 5 = .ok (.iconst 4, 1) := by decide +kernel
theorem dX0_init_6 : decode cX0_init 6 = .ok (.newarray .int, 2) := by decide +kernel
theorem dX0_init_8 : decode cX0_init 8 = .ok (.putfield 9, 3) := by decide +kernel
theorem dX0_init_11 : decode cX0_init 11 = .ok (.aload_n 0, 1) := by decide +kernel
theorem dX0_init_12 : decode cX0_init 12 = .ok (.iconst 5, 1) := by decide +kernel
theorem dX0_init_13 : decode cX0_init 13 = .ok (.sipush 220, 3) := by decide +kernel
theorem dX0_init_16 : decode cX0_init 16 = .ok (.multianewarray 15 2, 4) := by decide +kernel
theorem dX0_init_20 : decode cX0_init 20 = .ok (.putfield 17, 3) := by decide +kernel
theorem dX0_init_23 : decode cX0_init 23 = .ok (.aload_n 0, 1) := by decide +kernel
theorem dX0_init_24 : decode cX0_init 24 = .ok (.iconst 5, 1) := by decide +kernel
theorem dX0_init_25 : decode cX0_init 25 = .ok (.newarray .int, 2) := by decide +kernel
theorem dX0_init_27 : decode cX0_init 27 = .ok (.putfield 20, 3) := by decide +kernel
theorem dX0_init_30 : decode cX0_init 30 = .ok (.aload_n 0, 1) := by decide +kernel
theorem dX0_init_31 : decode cX0_init 31 = .ok (.iconst 5, 1) := by decide +kernel
theorem dX0_init_32 : decode cX0_init 32 = .ok (.bipush 16, 2) := by decide +kernel
theorem dX0_init_34 : decode cX0_init 34 = .ok (.multianewarray 23 2, 4) := by decide +kernel
theorem dX0_init_38 : decode cX0_init 38 = .ok (.putfield 25, 3) := by decide +kernel
theorem dX0_init_41 : decode cX0_init 41 = .ok (.aload_n 0, 1) := by decide +kernel
theorem dX0_init_42 : decode cX0_init 42 = .ok (.iconst 5, 1) := by decide +kernel
theorem dX0_init_43 : decode cX0_init 43 = .ok (.bipush 16, 2) := by decide +kernel
theorem dX0_init_45 : decode cX0_init 45 = .ok (.multianewarray 23 2, 4) := by decide +kernel
theorem dX0_init_49 : decode cX0_init 49 = .ok (.putfield 28, 3) := by decide +kernel
theorem dX0_init_52 : decode cX0_init 52 = .ok (.aload_n 0, 1) := by decide +kernel
theorem dX0_init_53 : decode cX0_init 53 = .ok (.iconst 5, 1) := by decide +kernel
theorem dX0_init_54 : decode cX0_init 54 = .ok (.bipush 16, 2) := by decide +kernel
theorem dX0_init_56 : decode cX0_init 56 = .ok (.multianewarray 23 2, 4) := by decide +kernel
theorem dX0_init_60 : decode cX0_init 60 = .ok (.putfield 31, 3) := by decide +kernel
theorem dX0_init_63 : decode cX0_init 63 = .ok (.aload_n 0, 1) := by decide +kernel
theorem dX0_init_64 : decode cX0_init 64 = .ok (.iconst 4, 1) := by decide +kernel
theorem dX0_init_65 : decode cX0_init 65 = .ok (.newarray .int, 2) := by decide +kernel
theorem dX0_init_67 : decode cX0_init 67 = .ok (.putfield 34, 3) := by decide +kernel
theorem dX0_init_70 : decode cX0_init 70 = .ok (.return_, 1) := by decide +kernel
theorem dX0_forget_0 : decode cX0_forget 0 = .ok (.aload_n 0, 1) := by decide +kernel
theorem dX0_forget_1 : decode cX0_forget 1 = .ok (.iconst 0, 1) := by decide +kernel
theorem dX0_forget_2 : decode cX0_forget 2 = .ok (.putfield 37, 3) := by decide +kernel
theorem dX0_forget_5 : decode cX0_forget 5 = .ok (.return_, 1) := by decide +kernel
theorem dX0_prepare_0 : decode cX0_prepare 0 = .ok (.aload_n 0, 1) := by decide +kernel
theorem dX0_prepare_1 : decode cX0_prepare 1 = .ok (.getfield 37, 3) := by decide +kernel
theorem dX0_prepare_4 : decode cX0_prepare 4 = .ok (.ifCond .eq 4, 3) := by decide +kernel
theorem dX0_prepare_7 : decode cX0_prepare 7 = .ok (.return_, 1) := by decide +kernel
theorem dX0_prepare_8 : decode cX0_prepare 8 = .ok (.aload_n 0, 1) := by decide +kernel
theorem dX0_prepare_9 : decode cX0_prepare 9 = .ok (.iconst 0, 1) := by decide +kernel
theorem dX0_prepare_10 : decode cX0_prepare 10 = .ok (.putfield 41, 3) := by decide +kernel
theorem dX0_prepare_13 : decode cX0_prepare 13 = .ok (.iconst 0, 1) := by decide +kernel
theorem dX0_prepare_14 : decode cX0_prepare 14 = .ok (.istore_n 2, 1) := by decide +kernel
theorem dX0_prepare_15 : decode cX0_prepare 15 = .ok (.iload_n 2, 1) := by decide +kernel
theorem dX0_prepare_16 : decode cX0_prepare 16 = .ok (.iconst 4, 1) := by decide +kernel
theorem dX0_prepare_17 : decode cX0_prepare 17 = .ok (.if_icmp .ge 45, 3) := by decide +kernel
theorem dX0_prepare_20 : decode cX0_prepare 20 = .ok (.aload_n 0, 1) := by decide +kernel
theorem dX0_prepare_21 : decode cX0_prepare 21 = .ok (.getfield 9, 3) := by decide +kernel
theorem dX0_prepare_24 : decode cX0_prepare 24 = .ok (.iload_n 2, 1) := by decide +kernel
theorem dX0_prepare_25 : decode cX0_prepare 25 = .ok (.aload_n 1, 1) := by decide +kernel
theorem dX0_prepare_26 : decode cX0_prepare 26 = .ok (.iconst 4, 1) := by decide +kernel
theorem dX0_prepare_27 : decode cX0_prepare 27 = .ok (.iload_n 2, 1) := by decide +kernel
theorem dX0_prepare_28 : decode cX0_prepare 28 = .ok (.iadd, 1) := by decide +kernel
theorem dX0_prepare_29 : decode cX0_prepare 29 = .ok (.iaload, 1) := by decide +kernel
theorem dX0_prepare_30 : decode cX0_prepare 30 = .ok (.iastore, 1) := by decide +kernel
theorem dX0_prepare_31 : decode cX0_prepare 31 = .ok (.aload_n 0, 1) := by decide +kernel
theorem dX0_prepare_32 : decode cX0_prepare 32 = .ok (.dup, 1) := by decide +kernel
theorem dX0_prepare_33 : decode cX0_prepare 33 = .ok (.getfield 41, 3) := by decide +kernel
theorem dX0_prepare_36 : decode cX0_prepare 36 = .ok (.aload_n 0, 1) := by decide +kernel
theorem dX0_prepare_37 : decode cX0_prepare 37 = .ok (.getfield 9, 3) := by decide +kernel
theorem dX0_prepare_40 : decode cX0_prepare 40 = .ok (.iload_n 2, 1) := by decide +kernel
theorem dX0_prepare_41 : decode cX0_prepare 41 = .ok (.iaload, 1) := by decide +kernel
theorem dX0_prepare_42 : decode cX0_prepare 42 = .ok (.ifCond .le 9, 3) := by decide +kernel
theorem dX0_prepare_45 : decode cX0_prepare 45 = .ok (.iconst 1, 1) := by decide +kernel
theorem dX0_prepare_46 : decode cX0_prepare 46 = .ok (.iload_n 2, 1) := by decide +kernel
theorem dX0_prepare_47 : decode cX0_prepare 47 = .ok (.ishl, 1) := by decide +kernel
theorem dX0_prepare_48 : decode cX0_prepare 48 = .ok (.goto 4, 3) := by decide +kernel
theorem dX0_prepare_51 : decode cX0_prepare 51 = .ok (.iconst 0, 1) := by decide +kernel
theorem dX0_prepare_52 : decode cX0_prepare 52 = .ok (.ior, 1) := by decide +kernel
theorem dX0_prepare_53 : decode cX0_prepare 53 = .ok (.putfield 41, 3) := by decide +kernel
theorem dX0_prepare_56 : decode cX0_prepare 56 = .ok (.iinc 2 1, 3) := by decide +kernel
theorem dX0_prepare_59 : decode cX0_prepare 59 = .ok (.goto (-44), 3) := by decide +kernel
theorem dX0_prepare_62 : decode cX0_prepare 62 = .ok (.aload_n 0, 1) := by decide +kernel
theorem dX0_prepare_63 : decode cX0_prepare 63 = .ok (.aload_n 1, 1) := by decide +kernel
theorem dX0_prepare_64 : decode cX0_prepare 64 = .ok (.bipush 24, 2) := by decide +kernel
theorem dX0_prepare_66 : decode cX0_prepare 66 = .ok (.iaload, 1) := by decide +kernel
theorem dX0_prepare_67 : decode cX0_prepare 67 = .ok (.iconst 1, 1) := by decide +kernel
theorem dX0_prepare_68 : decode cX0_prepare 68 = .ok (.if_icmp .ne 7, 3) := by decide +kernel
theorem dX0_prepare_71 : decode cX0_prepare 71 = .ok (.iconst 1, 1) := by decide +kernel
theorem dX0_prepare_72 : decode cX0_prepare 72 = .ok (.goto 4, 3) := by decide +kernel
theorem dX0_prepare_75 : decode cX0_prepare 75 = .ok (.iconst 0, 1) := by decide +kernel
theorem dX0_prepare_76 : decode cX0_prepare 76 = .ok (.putfield 45, 3) := by decide +kernel
theorem dX0_prepare_79 : decode cX0_prepare 79 = .ok (.aload_n 0, 1) := by decide +kernel
theorem dX0_prepare_80 : decode cX0_prepare 80 = .ok (.aload_n 1, 1) := by decide +kernel
theorem dX0_prepare_81 : decode cX0_prepare 81 = .ok (.bipush 25, 2) := by decide +kernel
theorem dX0_prepare_83 : decode cX0_prepare 83 = .ok (.iaload, 1) := by decide +kernel
theorem dX0_prepare_84 : decode cX0_prepare 84 = .ok (.putfield 48, 3) := by decide +kernel
theorem dX0_prepare_87 : decode cX0_prepare 87 = .ok (.iconst 0, 1) := by decide +kernel
theorem dX0_prepare_88 : decode cX0_prepare 88 = .ok (.istore_n 2, 1) := by decide +kernel
theorem dX0_prepare_89 : decode cX0_prepare 89 = .ok (.iload_n 2, 1) := by decide +kernel
theorem dX0_prepare_90 : decode cX0_prepare 90 = .ok (.iconst 4, 1) := by decide +kernel
theorem dX0_prepare_91 : decode cX0_prepare 91 = .ok (.if_icmp .ge 26, 3) := by decide +kernel
theorem dX0_prepare_94 : decode cX0_prepare 94 = .ok (.aload_n 0, 1) := by decide +kernel
theorem dX0_prepare_95 : decode cX0_prepare 95 = .ok (.iload_n 2, 1) := by decide +kernel
theorem dX0_prepare_96 : decode cX0_prepare 96 = .ok (.aload_n 1, 1) := by decide +kernel
theorem dX0_prepare_97 : decode cX0_prepare 97 = .ok (.bipush 16, 2) := by decide +kernel
theorem dX0_prepare_99 : decode cX0_prepare 99 = .ok (.iload_n 2, 1) := by decide +kernel
theorem dX0_prepare_100 : decode cX0_prepare 100 = .ok (.iadd, 1) := by decide +kernel
theorem dX0_prepare_101 : decode cX0_prepare 101 = .ok (.iaload, 1) := by decide +kernel
theorem dX0_prepare_102 : decode cX0_prepare 102 = .ok (.aload_n 1, 1) := by decide +kernel
theorem dX0_prepare_103 : decode cX0_prepare 103 = .ok (.iconst 0, 1) := by decide +kernel
theorem dX0_prepare_104 : decode cX0_prepare 104 = .ok (.iload_n 2, 1) := by decide +kernel
theorem dX0_prepare_105 : decode cX0_prepare 105 = .ok (.iadd, 1) := by decide +kernel
theorem dX0_prepare_106 : decode cX0_prepare 106 = .ok (.iaload, 1) := by decide +kernel
theorem dX0_prepare_107 : decode cX0_prepare 107 = .ok (.isub, 1) := by decide +kernel
theorem dX0_prepare_108 : decode cX0_prepare 108 = .ok (.invokevirtual 51, 3) := by decide +kernel
theorem dX0_prepare_111 : decode cX0_prepare 111 = .ok (.iinc 2 1, 3) := by decide +kernel
theorem dX0_prepare_114 : decode cX0_prepare 114 = .ok (.goto (-25), 3) := by decide +kernel
theorem dX0_prepare_117 : decode cX0_prepare 117 = .ok (.aload_n 0, 1) := by decide +kernel
theorem dX0_prepare_118 : decode cX0_prepare 118 = .ok (.invokevirtual 55, 3) := by decide +kernel
theorem dX0_prepare_121 : decode cX0_prepare 121 = .ok (.aload_n 0, 1) := by decide +kernel
theorem dX0_prepare_122 : decode cX0_prepare 122 = .ok (.iconst 1, 1) := by decide +kernel
theorem dX0_prepare_123 : decode cX0_prepare 123 = .ok (.putfield 37, 3) := by decide +kernel
theorem dX0_prepare_126 : decode cX0_prepare 126 = .ok (.return_, 1) := by decide +kernel
theorem dX0_solutionsOf_0 : decode cX0_solutionsOf 0 = .ok (.aload_n 0, 1) := by decide +kernel
theorem dX0_solutionsOf_1 : decode cX0_solutionsOf 1 = .ok (.getfield 20, 3) := by decide +kernel
theorem dX0_solutionsOf_4 : decode cX0_solutionsOf 4 = .ok (.iload_n 1, 1) := by decide +kernel
theorem dX0_solutionsOf_5 : decode cX0_solutionsOf 5 = .ok (.iaload, 1) := by decide +kernel
theorem dX0_solutionsOf_6 : decode cX0_solutionsOf 6 = .ok (.ireturn, 1) := by decide +kernel
theorem dX0_bySets_0 : decode cX0_bySets 0 = .ok (.aload_n 0, 1) := by decide +kernel
theorem dX0_bySets_1 : decode cX0_bySets 1 = .ok (.iconst 4, 1) := by decide +kernel
theorem dX0_bySets_2 : decode cX0_bySets 2 = .ok (.iconst 4, 1) := by decide +kernel
theorem dX0_bySets_3 : decode cX0_bySets 3 = .ok (.invokevirtual 58, 3) := by decide +kernel
theorem dX0_bySets_6 : decode cX0_bySets 6 = .ok (.lreturn, 1) := by decide +kernel
theorem dX0_byConstants_0 : decode cX0_byConstants 0 = .ok (.aload_n 0, 1) := by decide +kernel
theorem dX0_byConstants_1 : decode cX0_byConstants 1 = .ok (.getfield 31, 3) := by decide +kernel
theorem dX0_byConstants_4 : decode cX0_byConstants 4 = .ok (.iconst 0, 1) := by decide +kernel
theorem dX0_byConstants_5 : decode cX0_byConstants 5 = .ok (.aaload, 1) := by decide +kernel
theorem dX0_byConstants_6 : decode cX0_byConstants 6 = .ok (.iconst 0, 1) := by decide +kernel
theorem dX0_byConstants_7 : decode cX0_byConstants 7 = .ok (.laload, 1) := by decide +kernel
theorem dX0_byConstants_8 : decode cX0_byConstants 8 = .ok (.lreturn, 1) := by decide +kernel
theorem dX0_numberIn_0 : decode cX0_numberIn 0 = .ok (.iload_n 0, 1) := by decide +kernel
theorem dX0_numberIn_1 : decode cX0_numberIn 1 = .ok (.iconst 4, 1) := by decide +kernel
theorem dX0_numberIn_2 : decode cX0_numberIn 2 = .ok (.iconst 3, 1) := by decide +kernel
theorem dX0_numberIn_3 : decode cX0_numberIn 3 = .ok (.iload_n 1, 1) := by decide +kernel
theorem dX0_numberIn_4 : decode cX0_numberIn 4 = .ok (.isub, 1) := by decide +kernel
theorem dX0_numberIn_5 : decode cX0_numberIn 5 = .ok (.imul, 1) := by decide +kernel
theorem dX0_numberIn_6 : decode cX0_numberIn 6 = .ok (.ishr, 1) := by decide +kernel
theorem dX0_numberIn_7 : decode cX0_numberIn 7 = .ok (.bipush 15, 2) := by decide +kernel
theorem dX0_numberIn_9 : decode cX0_numberIn 9 = .ok (.iand, 1) := by decide +kernel
theorem dX0_numberIn_10 : decode cX0_numberIn 10 = .ok (.ireturn, 1) := by decide +kernel
theorem dX0_setOf_0 : decode cX0_setOf 0 = .ok (.iconst 0, 1) := by decide +kernel
theorem dX0_setOf_1 : decode cX0_setOf 1 = .ok (.istore_n 1, 1) := by decide +kernel
theorem dX0_setOf_2 : decode cX0_setOf 2 = .ok (.iconst 0, 1) := by decide +kernel
theorem dX0_setOf_3 : decode cX0_setOf 3 = .ok (.istore_n 2, 1) := by decide +kernel
theorem dX0_setOf_4 : decode cX0_setOf 4 = .ok (.iload_n 2, 1) := by decide +kernel
theorem dX0_setOf_5 : decode cX0_setOf 5 = .ok (.iconst 4, 1) := by decide +kernel
theorem dX0_setOf_6 : decode cX0_setOf 6 = .ok (.if_icmp .ge 27, 3) := by decide +kernel
theorem dX0_setOf_9 : decode cX0_setOf 9 = .ok (.iload_n 1, 1) := by decide +kernel
theorem dX0_setOf_10 : decode cX0_setOf 10 = .ok (.iload_n 0, 1) := by decide +kernel
theorem dX0_setOf_11 : decode cX0_setOf 11 = .ok (.iload_n 2, 1) := by decide +kernel
theorem dX0_setOf_12 : decode cX0_setOf 12 = .ok (.invokestatic 66, 3) := by decide +kernel
theorem dX0_setOf_15 : decode cX0_setOf 15 = .ok (.ifCond .le 9, 3) := by decide +kernel
theorem dX0_setOf_18 : decode cX0_setOf 18 = .ok (.iconst 1, 1) := by decide +kernel
theorem dX0_setOf_19 : decode cX0_setOf 19 = .ok (.iload_n 2, 1) := by decide +kernel
theorem dX0_setOf_20 : decode cX0_setOf 20 = .ok (.ishl, 1) := by decide +kernel
theorem dX0_setOf_21 : decode cX0_setOf 21 = .ok (.goto 4, 3) := by decide +kernel
theorem dX0_setOf_24 : decode cX0_setOf 24 = .ok (.iconst 0, 1) := by decide +kernel
theorem dX0_setOf_25 : decode cX0_setOf 25 = .ok (.ior, 1) := by decide +kernel
theorem dX0_setOf_26 : decode cX0_setOf 26 = .ok (.istore_n 1, 1) := by decide +kernel
theorem dX0_setOf_27 : decode cX0_setOf 27 = .ok (.iinc 2 1, 3) := by decide +kernel
theorem dX0_setOf_30 : decode cX0_setOf 30 = .ok (.goto (-26), 3) := by decide +kernel
theorem dX0_setOf_33 : decode cX0_setOf 33 = .ok (.iload_n 1, 1) := by decide +kernel
theorem dX0_setOf_34 : decode cX0_setOf 34 = .ok (.ireturn, 1) := by decide +kernel
theorem dX0_solve_0 : decode cX0_solve 0 = .ok (.aload_n 0, 1) := by decide +kernel
theorem dX0_solve_1 : decode cX0_solve 1 = .ok (.getfield 20, 3) := by decide +kernel
theorem dX0_solve_4 : decode cX0_solve 4 = .ok (.iload_n 1, 1) := by decide +kernel
theorem dX0_solve_5 : decode cX0_solve 5 = .ok (.iconst 0, 1) := by decide +kernel
theorem dX0_solve_6 : decode cX0_solve 6 = .ok (.iastore, 1) := by decide +kernel
theorem dX0_solve_7 : decode cX0_solve 7 = .ok (.iconst 0, 1) := by decide +kernel
theorem dX0_solve_8 : decode cX0_solve 8 = .ok (.istore_n 3, 1) := by decide +kernel
theorem dX0_solve_9 : decode cX0_solve 9 = .ok (.iload_n 3, 1) := by decide +kernel
theorem dX0_solve_10 : decode cX0_solve 10 = .ok (.bipush 16, 2) := by decide +kernel
theorem dX0_solve_12 : decode cX0_solve 12 = .ok (.if_icmp .ge 18, 3) := by decide +kernel
theorem dX0_solve_15 : decode cX0_solve 15 = .ok (.aload_n 0, 1) := by decide +kernel
theorem dX0_solve_16 : decode cX0_solve 16 = .ok (.getfield 25, 3) := by decide +kernel
theorem dX0_solve_19 : decode cX0_solve 19 = .ok (.iload_n 1, 1) := by decide +kernel
theorem dX0_solve_20 : decode cX0_solve 20 = .ok (.aaload, 1) := by decide +kernel
theorem dX0_solve_21 : decode cX0_solve 21 = .ok (.iload_n 3, 1) := by decide +kernel
theorem dX0_solve_22 : decode cX0_solve 22 = .ok (.lconst 0, 1) := by decide +kernel
theorem dX0_solve_23 : decode cX0_solve 23 = .ok (.lastore, 1) := by decide +kernel
theorem dX0_solve_24 : decode cX0_solve 24 = .ok (.iinc 3 1, 3) := by decide +kernel
theorem dX0_solve_27 : decode cX0_solve 27 = .ok (.goto (-18), 3) := by decide +kernel
theorem dX0_solve_30 : decode cX0_solve 30 = .ok (.iconst 0, 1) := by decide +kernel
theorem dX0_solve_31 : decode cX0_solve 31 = .ok (.istore_n 3, 1) := by decide +kernel
theorem dX0_solve_32 : decode cX0_solve 32 = .ok (.iload_n 3, 1) := by decide +kernel
theorem dX0_solve_33 : decode cX0_solve 33 = .ok (.aload_n 0, 1) := by decide +kernel
theorem dX0_solve_34 : decode cX0_solve 34 = .ok (.iconst 0, 1) := by decide +kernel
theorem dX0_solve_35 : decode cX0_solve 35 = .ok (.invokevirtual 70, 3) := by decide +kernel
theorem dX0_solve_38 : decode cX0_solve 38 = .ok (.if_icmp .gt 145, 3) := by decide +kernel
theorem dX0_solve_41 : decode cX0_solve 41 = .ok (.aload_n 0, 1) := by decide +kernel
theorem dX0_solve_42 : decode cX0_solve 42 = .ok (.getfield 9, 3) := by decide +kernel
theorem dX0_solve_45 : decode cX0_solve 45 = .ok (.iconst 0, 1) := by decide +kernel
theorem dX0_solve_46 : decode cX0_solve 46 = .ok (.iaload, 1) := by decide +kernel
theorem dX0_solve_47 : decode cX0_solve 47 = .ok (.iload_n 3, 1) := by decide +kernel
theorem dX0_solve_48 : decode cX0_solve 48 = .ok (.imul, 1) := by decide +kernel
theorem dX0_solve_49 : decode cX0_solve 49 = .ok (.iload_n 2, 1) := by decide +kernel
theorem dX0_solve_50 : decode cX0_solve 50 = .ok (.if_icmp .gt 133, 3) := by decide +kernel
theorem dX0_solve_53 : decode cX0_solve 53 = .ok (.iload_n 2, 1) := by decide +kernel
theorem dX0_solve_54 : decode cX0_solve 54 = .ok (.aload_n 0, 1) := by decide +kernel
theorem dX0_solve_55 : decode cX0_solve 55 = .ok (.getfield 9, 3) := by decide +kernel
theorem dX0_solve_58 : decode cX0_solve 58 = .ok (.iconst 0, 1) := by decide +kernel
theorem dX0_solve_59 : decode cX0_solve 59 = .ok (.iaload, 1) := by decide +kernel
theorem dX0_solve_60 : decode cX0_solve 60 = .ok (.iload_n 3, 1) := by decide +kernel
theorem dX0_solve_61 : decode cX0_solve 61 = .ok (.imul, 1) := by decide +kernel
theorem dX0_solve_62 : decode cX0_solve 62 = .ok (.isub, 1) := by decide +kernel
theorem dX0_solve_63 : decode cX0_solve 63 = .ok (.istore 4, 2) := by decide +kernel
theorem dX0_solve_65 : decode cX0_solve 65 = .ok (.iconst 0, 1) := by decide +kernel
theorem dX0_solve_66 : decode cX0_solve 66 = .ok (.istore 5, 2) := by decide +kernel
theorem dX0_solve_68 : decode cX0_solve 68 = .ok (.iload 5, 2) := by decide +kernel
theorem dX0_solve_70 : decode cX0_solve 70 = .ok (.aload_n 0, 1) := by decide +kernel
theorem dX0_solve_71 : decode cX0_solve 71 = .ok (.iconst 1, 1) := by decide +kernel
theorem dX0_solve_72 : decode cX0_solve 72 = .ok (.invokevirtual 70, 3) := by decide +kernel
theorem dX0_solve_75 : decode cX0_solve 75 = .ok (.if_icmp .gt 102, 3) := by decide +kernel
theorem dX0_solve_78 : decode cX0_solve 78 = .ok (.aload_n 0, 1) := by decide +kernel
theorem dX0_solve_79 : decode cX0_solve 79 = .ok (.getfield 9, 3) := by decide +kernel
theorem dX0_solve_82 : decode cX0_solve 82 = .ok (.iconst 1, 1) := by decide +kernel
theorem dX0_solve_83 : decode cX0_solve 83 = .ok (.iaload, 1) := by decide +kernel
theorem dX0_solve_84 : decode cX0_solve 84 = .ok (.iload 5, 2) := by decide +kernel
theorem dX0_solve_86 : decode cX0_solve 86 = .ok (.imul, 1) := by decide +kernel
theorem dX0_solve_87 : decode cX0_solve 87 = .ok (.iload 4, 2) := by decide +kernel
theorem dX0_solve_89 : decode cX0_solve 89 = .ok (.if_icmp .gt 88, 3) := by decide +kernel
theorem dX0_solve_92 : decode cX0_solve 92 = .ok (.iload 4, 2) := by decide +kernel
theorem dX0_solve_94 : decode cX0_solve 94 = .ok (.aload_n 0, 1) := by decide +kernel
theorem dX0_solve_95 : decode cX0_solve 95 = .ok (.getfield 9, 3) := by decide +kernel
theorem dX0_solve_98 : decode cX0_solve 98 = .ok (.iconst 1, 1) := by decide +kernel
theorem dX0_solve_99 : decode cX0_solve 99 = .ok (.iaload, 1) := by decide +kernel
theorem dX0_solve_100 : decode cX0_solve 100 = .ok (.iload 5, 2) := by decide +kernel
theorem dX0_solve_102 : decode cX0_solve 102 = .ok (.imul, 1) := by decide +kernel
theorem dX0_solve_103 : decode cX0_solve 103 = .ok (.isub, 1) := by decide +kernel
theorem dX0_solve_104 : decode cX0_solve 104 = .ok (.istore 6, 2) := by decide +kernel
theorem dX0_solve_106 : decode cX0_solve 106 = .ok (.iconst 0, 1) := by decide +kernel
theorem dX0_solve_107 : decode cX0_solve 107 = .ok (.istore 7, 2) := by decide +kernel
theorem dX0_solve_109 : decode cX0_solve 109 = .ok (.iload 7, 2) := by decide +kernel
theorem dX0_solve_111 : decode cX0_solve 111 = .ok (.aload_n 0, 1) := by decide +kernel
theorem dX0_solve_112 : decode cX0_solve 112 = .ok (.iconst 2, 1) := by decide +kernel
theorem dX0_solve_113 : decode cX0_solve 113 = .ok (.invokevirtual 70, 3) := by decide +kernel
theorem dX0_solve_116 : decode cX0_solve 116 = .ok (.if_icmp .gt 55, 3) := by decide +kernel
theorem dX0_solve_119 : decode cX0_solve 119 = .ok (.aload_n 0, 1) := by decide +kernel
theorem dX0_solve_120 : decode cX0_solve 120 = .ok (.getfield 9, 3) := by decide +kernel
theorem dX0_solve_123 : decode cX0_solve 123 = .ok (.iconst 2, 1) := by decide +kernel
theorem dX0_solve_124 : decode cX0_solve 124 = .ok (.iaload, 1) := by decide +kernel
theorem dX0_solve_125 : decode cX0_solve 125 = .ok (.iload 7, 2) := by decide +kernel
theorem dX0_solve_127 : decode cX0_solve 127 = .ok (.imul, 1) := by decide +kernel
theorem dX0_solve_128 : decode cX0_solve 128 = .ok (.iload 6, 2) := by decide +kernel
theorem dX0_solve_130 : decode cX0_solve 130 = .ok (.if_icmp .gt 41, 3) := by decide +kernel
theorem dX0_solve_133 : decode cX0_solve 133 = .ok (.aload_n 0, 1) := by decide +kernel
theorem dX0_solve_134 : decode cX0_solve 134 = .ok (.iload_n 1, 1) := by decide +kernel
theorem dX0_solve_135 : decode cX0_solve 135 = .ok (.iload_n 3, 1) := by decide +kernel
theorem dX0_solve_136 : decode cX0_solve 136 = .ok (.bipush 12, 2) := by decide +kernel
theorem dX0_solve_138 : decode cX0_solve 138 = .ok (.ishl, 1) := by decide +kernel
theorem dX0_solve_139 : decode cX0_solve 139 = .ok (.iload 5, 2) := by decide +kernel
theorem dX0_solve_141 : decode cX0_solve 141 = .ok (.bipush 8, 2) := by decide +kernel
theorem dX0_solve_143 : decode cX0_solve 143 = .ok (.ishl, 1) := by decide +kernel
theorem dX0_solve_144 : decode cX0_solve 144 = .ok (.ior, 1) := by decide +kernel
theorem dX0_solve_145 : decode cX0_solve 145 = .ok (.iload 7, 2) := by decide +kernel
theorem dX0_solve_147 : decode cX0_solve 147 = .ok (.iconst 4, 1) := by decide +kernel
theorem dX0_solve_148 : decode cX0_solve 148 = .ok (.ishl, 1) := by decide +kernel
theorem dX0_solve_149 : decode cX0_solve 149 = .ok (.ior, 1) := by decide +kernel
theorem dX0_solve_150 : decode cX0_solve 150 = .ok (.iload 6, 2) := by decide +kernel
theorem dX0_solve_152 : decode cX0_solve 152 = .ok (.aload_n 0, 1) := by decide +kernel
theorem dX0_solve_153 : decode cX0_solve 153 = .ok (.getfield 9, 3) := by decide +kernel
theorem dX0_solve_156 : decode cX0_solve 156 = .ok (.iconst 2, 1) := by decide +kernel
theorem dX0_solve_157 : decode cX0_solve 157 = .ok (.iaload, 1) := by decide +kernel
theorem dX0_solve_158 : decode cX0_solve 158 = .ok (.iload 7, 2) := by decide +kernel
theorem dX0_solve_160 : decode cX0_solve 160 = .ok (.imul, 1) := by decide +kernel
theorem dX0_solve_161 : decode cX0_solve 161 = .ok (.isub, 1) := by decide +kernel
theorem dX0_solve_162 : decode cX0_solve 162 = .ok (.invokevirtual 73, 3) := by decide +kernel
theorem dX0_solve_165 : decode cX0_solve 165 = .ok (.iinc 7 1, 3) := by decide +kernel
theorem dX0_solve_168 : decode cX0_solve 168 = .ok (.goto (-59), 3) := by decide +kernel
theorem dX0_solve_171 : decode cX0_solve 171 = .ok (.iinc 5 1, 3) := by decide +kernel
theorem dX0_solve_174 : decode cX0_solve 174 = .ok (.goto (-106), 3) := by decide +kernel
theorem dX0_solve_177 : decode cX0_solve 177 = .ok (.iinc 3 1, 3) := by decide +kernel
theorem dX0_solve_180 : decode cX0_solve 180 = .ok (.goto (-148), 3) := by decide +kernel
theorem dX0_solve_183 : decode cX0_solve 183 = .ok (.aload_n 0, 1) := by decide +kernel
theorem dX0_solve_184 : decode cX0_solve 184 = .ok (.iload_n 1, 1) := by decide +kernel
theorem dX0_solve_185 : decode cX0_solve 185 = .ok (.invokevirtual 77, 3) := by decide +kernel
theorem dX0_solve_188 : decode cX0_solve 188 = .ok (.return_, 1) := by decide +kernel
theorem dX0_solveLast_0 : decode cX0_solveLast 0 = .ok (.aload_n 0, 1) := by decide +kernel
theorem dX0_solveLast_1 : decode cX0_solveLast 1 = .ok (.getfield 9, 3) := by decide +kernel
theorem dX0_solveLast_4 : decode cX0_solveLast 4 = .ok (.iconst 3, 1) := by decide +kernel
theorem dX0_solveLast_5 : decode cX0_solveLast 5 = .ok (.iaload, 1) := by decide +kernel
theorem dX0_solveLast_6 : decode cX0_solveLast 6 = .ok (.ifCond .le 14, 3) := by decide +kernel
theorem dX0_solveLast_9 : decode cX0_solveLast 9 = .ok (.iload_n 3, 1) := by decide +kernel
theorem dX0_solveLast_10 : decode cX0_solveLast 10 = .ok (.aload_n 0, 1) := by decide +kernel
theorem dX0_solveLast_11 : decode cX0_solveLast 11 = .ok (.getfield 9, 3) := by decide +kernel
theorem dX0_solveLast_14 : decode cX0_solveLast 14 = .ok (.iconst 3, 1) := by decide +kernel
theorem dX0_solveLast_15 : decode cX0_solveLast 15 = .ok (.iaload, 1) := by decide +kernel
theorem dX0_solveLast_16 : decode cX0_solveLast 16 = .ok (.idiv, 1) := by decide +kernel
theorem dX0_solveLast_17 : decode cX0_solveLast 17 = .ok (.goto 4, 3) := by decide +kernel
theorem dX0_solveLast_20 : decode cX0_solveLast 20 = .ok (.iconst 0, 1) := by decide +kernel
theorem dX0_solveLast_21 : decode cX0_solveLast 21 = .ok (.istore 4, 2) := by decide +kernel
theorem dX0_solveLast_23 : decode cX0_solveLast 23 = .ok (.iload 4, 2) := by decide +kernel
theorem dX0_solveLast_25 : decode cX0_solveLast 25 = .ok (.aload_n 0, 1) := by decide +kernel
theorem dX0_solveLast_26 : decode cX0_solveLast 26 = .ok (.getfield 48, 3) := by decide +kernel
theorem dX0_solveLast_29 : decode cX0_solveLast 29 = .ok (.if_icmp .gt 16, 3) := by decide +kernel
theorem dX0_solveLast_32 : decode cX0_solveLast 32 = .ok (.aload_n 0, 1) := by decide +kernel
theorem dX0_solveLast_33 : decode cX0_solveLast 33 = .ok (.getfield 9, 3) := by decide +kernel
theorem dX0_solveLast_36 : decode cX0_solveLast 36 = .ok (.iconst 3, 1) := by decide +kernel
theorem dX0_solveLast_37 : decode cX0_solveLast 37 = .ok (.iaload, 1) := by decide +kernel
theorem dX0_solveLast_38 : decode cX0_solveLast 38 = .ok (.iload 4, 2) := by decide +kernel
theorem dX0_solveLast_40 : decode cX0_solveLast 40 = .ok (.imul, 1) := by decide +kernel
theorem dX0_solveLast_41 : decode cX0_solveLast 41 = .ok (.iload_n 3, 1) := by decide +kernel
theorem dX0_solveLast_42 : decode cX0_solveLast 42 = .ok (.if_icmp .eq 4, 3) := by decide +kernel
theorem dX0_solveLast_45 : decode cX0_solveLast 45 = .ok (.return_, 1) := by decide +kernel
theorem dX0_solveLast_46 : decode cX0_solveLast 46 = .ok (.iload_n 2, 1) := by decide +kernel
theorem dX0_solveLast_47 : decode cX0_solveLast 47 = .ok (.iload 4, 2) := by decide +kernel
theorem dX0_solveLast_49 : decode cX0_solveLast 49 = .ok (.ior, 1) := by decide +kernel
theorem dX0_solveLast_50 : decode cX0_solveLast 50 = .ok (.istore 5, 2) := by decide +kernel
theorem dX0_solveLast_52 : decode cX0_solveLast 52 = .ok (.aload_n 0, 1) := by decide +kernel
theorem dX0_solveLast_53 : decode cX0_solveLast 53 = .ok (.getfield 20, 3) := by decide +kernel
theorem dX0_solveLast_56 : decode cX0_solveLast 56 = .ok (.iload_n 1, 1) := by decide +kernel
theorem dX0_solveLast_57 : decode cX0_solveLast 57 = .ok (.iaload, 1) := by decide +kernel
theorem dX0_solveLast_58 : decode cX0_solveLast 58 = .ok (.sipush 220, 3) := by decide +kernel
theorem dX0_solveLast_61 : decode cX0_solveLast 61 = .ok (.if_icmp .ge 18, 3) := by decide +kernel
theorem dX0_solveLast_64 : decode cX0_solveLast 64 = .ok (.aload_n 0, 1) := by decide +kernel
theorem dX0_solveLast_65 : decode cX0_solveLast 65 = .ok (.getfield 17, 3) := by decide +kernel
theorem dX0_solveLast_68 : decode cX0_solveLast 68 = .ok (.iload_n 1, 1) := by decide +kernel
theorem dX0_solveLast_69 : decode cX0_solveLast 69 = .ok (.aaload, 1) := by decide +kernel
theorem dX0_solveLast_70 : decode cX0_solveLast 70 = .ok (.aload_n 0, 1) := by decide +kernel
theorem dX0_solveLast_71 : decode cX0_solveLast 71 = .ok (.getfield 20, 3) := by decide +kernel
theorem dX0_solveLast_74 : decode cX0_solveLast 74 = .ok (.iload_n 1, 1) := by decide +kernel
theorem dX0_solveLast_75 : decode cX0_solveLast 75 = .ok (.iaload, 1) := by decide +kernel
theorem dX0_solveLast_76 : decode cX0_solveLast 76 = .ok (.iload 5, 2) := by decide +kernel
theorem dX0_solveLast_78 : decode cX0_solveLast 78 = .ok (.iastore, 1) := by decide +kernel
theorem dX0_solveLast_79 : decode cX0_solveLast 79 = .ok (.aload_n 0, 1) := by decide +kernel
theorem dX0_solveLast_80 : decode cX0_solveLast 80 = .ok (.getfield 20, 3) := by decide +kernel
theorem dX0_solveLast_83 : decode cX0_solveLast 83 = .ok (.iload_n 1, 1) := by decide +kernel
theorem dX0_solveLast_84 : decode cX0_solveLast 84 = .ok (.dup2, 1) := by decide +kernel
theorem dX0_solveLast_85 : decode cX0_solveLast 85 = .ok (.iaload, 1) := by decide +kernel
theorem dX0_solveLast_86 : decode cX0_solveLast 86 = .ok (.iconst 1, 1) := by decide +kernel
theorem dX0_solveLast_87 : decode cX0_solveLast 87 = .ok (.iadd, 1) := by decide +kernel
theorem dX0_solveLast_88 : decode cX0_solveLast 88 = .ok (.iastore, 1) := by decide +kernel
theorem dX0_solveLast_89 : decode cX0_solveLast 89 = .ok (.aload_n 0, 1) := by decide +kernel
theorem dX0_solveLast_90 : decode cX0_solveLast 90 = .ok (.getfield 25, 3) := by decide +kernel
theorem dX0_solveLast_93 : decode cX0_solveLast 93 = .ok (.iload_n 1, 1) := by decide +kernel
theorem dX0_solveLast_94 : decode cX0_solveLast 94 = .ok (.aaload, 1) := by decide +kernel
theorem dX0_solveLast_95 : decode cX0_solveLast 95 = .ok (.iload 5, 2) := by decide +kernel
theorem dX0_solveLast_97 : decode cX0_solveLast 97 = .ok (.invokestatic 62, 3) := by decide +kernel
theorem dX0_solveLast_100 : decode cX0_solveLast 100 = .ok (.dup2, 1) := by decide +kernel
theorem dX0_solveLast_101 : decode cX0_solveLast 101 = .ok (.laload, 1) := by decide +kernel
theorem dX0_solveLast_102 : decode cX0_solveLast 102 = .ok (.lconst 1, 1) := by decide +kernel
theorem dX0_solveLast_103 : decode cX0_solveLast 103 = .ok (.ladd, 1) := by decide +kernel
theorem dX0_solveLast_104 : decode cX0_solveLast 104 = .ok (.lastore, 1) := by decide +kernel
theorem dX0_solveLast_105 : decode cX0_solveLast 105 = .ok (.return_, 1) := by decide +kernel
theorem dX0_top_0 : decode cX0_top 0 = .ok (.aload_n 0, 1) := by decide +kernel
theorem dX0_top_1 : decode cX0_top 1 = .ok (.getfield 9, 3) := by decide +kernel
theorem dX0_top_4 : decode cX0_top 4 = .ok (.iload_n 1, 1) := by decide +kernel
theorem dX0_top_5 : decode cX0_top 5 = .ok (.iaload, 1) := by decide +kernel
theorem dX0_top_6 : decode cX0_top 6 = .ok (.ifCond .le 10, 3) := by decide +kernel
theorem dX0_top_9 : decode cX0_top 9 = .ok (.aload_n 0, 1) := by decide +kernel
theorem dX0_top_10 : decode cX0_top 10 = .ok (.getfield 48, 3) := by decide +kernel
theorem dX0_top_13 : decode cX0_top 13 = .ok (.goto 4, 3) := by decide +kernel
theorem dX0_top_16 : decode cX0_top 16 = .ok (.iconst 0, 1) := by decide +kernel
theorem dX0_top_17 : decode cX0_top 17 = .ok (.ireturn, 1) := by decide +kernel
theorem dX0_fillWithin_0 : decode cX0_fillWithin 0 = .ok (.iconst 0, 1) := by decide +kernel
theorem dX0_fillWithin_1 : decode cX0_fillWithin 1 = .ok (.istore_n 2, 1) := by decide +kernel
theorem dX0_fillWithin_2 : decode cX0_fillWithin 2 = .ok (.iload_n 2, 1) := by decide +kernel
theorem dX0_fillWithin_3 : decode cX0_fillWithin 3 = .ok (.bipush 16, 2) := by decide +kernel
theorem dX0_fillWithin_5 : decode cX0_fillWithin 5 = .ok (.if_icmp .ge 25, 3) := by decide +kernel
theorem dX0_fillWithin_8 : decode cX0_fillWithin 8 = .ok (.aload_n 0, 1) := by decide +kernel
theorem dX0_fillWithin_9 : decode cX0_fillWithin 9 = .ok (.getfield 28, 3) := by decide +kernel
theorem dX0_fillWithin_12 : decode cX0_fillWithin 12 = .ok (.iload_n 1, 1) := by decide +kernel
theorem dX0_fillWithin_13 : decode cX0_fillWithin 13 = .ok (.aaload, 1) := by decide +kernel
theorem dX0_fillWithin_14 : decode cX0_fillWithin 14 = .ok (.iload_n 2, 1) := by decide +kernel
theorem dX0_fillWithin_15 : decode cX0_fillWithin 15 = .ok (.aload_n 0, 1) := by decide +kernel
theorem dX0_fillWithin_16 : decode cX0_fillWithin 16 = .ok (.getfield 25, 3) := by decide +kernel
theorem dX0_fillWithin_19 : decode cX0_fillWithin 19 = .ok (.iload_n 1, 1) := by decide +kernel
theorem dX0_fillWithin_20 : decode cX0_fillWithin 20 = .ok (.aaload, 1) := by decide +kernel
theorem dX0_fillWithin_21 : decode cX0_fillWithin 21 = .ok (.iload_n 2, 1) := by decide +kernel
theorem dX0_fillWithin_22 : decode cX0_fillWithin 22 = .ok (.laload, 1) := by decide +kernel
theorem dX0_fillWithin_23 : decode cX0_fillWithin 23 = .ok (.lastore, 1) := by decide +kernel
theorem dX0_fillWithin_24 : decode cX0_fillWithin 24 = .ok (.iinc 2 1, 3) := by decide +kernel
theorem dX0_fillWithin_27 : decode cX0_fillWithin 27 = .ok (.goto (-25), 3) := by decide +kernel
theorem dX0_fillWithin_30 : decode cX0_fillWithin 30 = .ok (.iconst 0, 1) := by decide +kernel
theorem dX0_fillWithin_31 : decode cX0_fillWithin 31 = .ok (.istore_n 2, 1) := by decide +kernel
theorem dX0_fillWithin_32 : decode cX0_fillWithin 32 = .ok (.iload_n 2, 1) := by decide +kernel
theorem dX0_fillWithin_33 : decode cX0_fillWithin 33 = .ok (.iconst 4, 1) := by decide +kernel
theorem dX0_fillWithin_34 : decode cX0_fillWithin 34 = .ok (.if_icmp .ge 55, 3) := by decide +kernel
theorem dX0_fillWithin_37 : decode cX0_fillWithin 37 = .ok (.iconst 0, 1) := by decide +kernel
theorem dX0_fillWithin_38 : decode cX0_fillWithin 38 = .ok (.istore_n 3, 1) := by decide +kernel
theorem dX0_fillWithin_39 : decode cX0_fillWithin 39 = .ok (.iload_n 3, 1) := by decide +kernel
theorem dX0_fillWithin_40 : decode cX0_fillWithin 40 = .ok (.bipush 16, 2) := by decide +kernel
theorem dX0_fillWithin_42 : decode cX0_fillWithin 42 = .ok (.if_icmp .ge 41, 3) := by decide +kernel
theorem dX0_fillWithin_45 : decode cX0_fillWithin 45 = .ok (.iload_n 3, 1) := by decide +kernel
theorem dX0_fillWithin_46 : decode cX0_fillWithin 46 = .ok (.iload_n 2, 1) := by decide +kernel
theorem dX0_fillWithin_47 : decode cX0_fillWithin 47 = .ok (.ishr, 1) := by decide +kernel
theorem dX0_fillWithin_48 : decode cX0_fillWithin 48 = .ok (.iconst 1, 1) := by decide +kernel
theorem dX0_fillWithin_49 : decode cX0_fillWithin 49 = .ok (.iand, 1) := by decide +kernel
theorem dX0_fillWithin_50 : decode cX0_fillWithin 50 = .ok (.iconst 1, 1) := by decide +kernel
theorem dX0_fillWithin_51 : decode cX0_fillWithin 51 = .ok (.if_icmp .ne 26, 3) := by decide +kernel
theorem dX0_fillWithin_54 : decode cX0_fillWithin 54 = .ok (.aload_n 0, 1) := by decide +kernel
theorem dX0_fillWithin_55 : decode cX0_fillWithin 55 = .ok (.getfield 28, 3) := by decide +kernel
theorem dX0_fillWithin_58 : decode cX0_fillWithin 58 = .ok (.iload_n 1, 1) := by decide +kernel
theorem dX0_fillWithin_59 : decode cX0_fillWithin 59 = .ok (.aaload, 1) := by decide +kernel
theorem dX0_fillWithin_60 : decode cX0_fillWithin 60 = .ok (.iload_n 3, 1) := by decide +kernel
theorem dX0_fillWithin_61 : decode cX0_fillWithin 61 = .ok (.dup2, 1) := by decide +kernel
theorem dX0_fillWithin_62 : decode cX0_fillWithin 62 = .ok (.laload, 1) := by decide +kernel
theorem dX0_fillWithin_63 : decode cX0_fillWithin 63 = .ok (.aload_n 0, 1) := by decide +kernel
theorem dX0_fillWithin_64 : decode cX0_fillWithin 64 = .ok (.getfield 28, 3) := by decide +kernel
theorem dX0_fillWithin_67 : decode cX0_fillWithin 67 = .ok (.iload_n 1, 1) := by decide +kernel
theorem dX0_fillWithin_68 : decode cX0_fillWithin 68 = .ok (.aaload, 1) := by decide +kernel
theorem dX0_fillWithin_69 : decode cX0_fillWithin 69 = .ok (.iload_n 3, 1) := by decide +kernel
theorem dX0_fillWithin_70 : decode cX0_fillWithin 70 = .ok (.iconst 1, 1) := by decide +kernel
theorem dX0_fillWithin_71 : decode cX0_fillWithin 71 = .ok (.iload_n 2, 1) := by decide +kernel
theorem dX0_fillWithin_72 : decode cX0_fillWithin 72 = .ok (.ishl, 1) := by decide +kernel
theorem dX0_fillWithin_73 : decode cX0_fillWithin 73 = .ok (.ixor, 1) := by decide +kernel
theorem dX0_fillWithin_74 : decode cX0_fillWithin 74 = .ok (.laload, 1) := by decide +kernel
theorem dX0_fillWithin_75 : decode cX0_fillWithin 75 = .ok (.ladd, 1) := by decide +kernel
theorem dX0_fillWithin_76 : decode cX0_fillWithin 76 = .ok (.lastore, 1) := by decide +kernel
theorem dX0_fillWithin_77 : decode cX0_fillWithin 77 = .ok (.iinc 3 1, 3) := by decide +kernel
theorem dX0_fillWithin_80 : decode cX0_fillWithin 80 = .ok (.goto (-41), 3) := by decide +kernel
theorem dX0_fillWithin_83 : decode cX0_fillWithin 83 = .ok (.iinc 2 1, 3) := by decide +kernel
theorem dX0_fillWithin_86 : decode cX0_fillWithin 86 = .ok (.goto (-54), 3) := by decide +kernel
theorem dX0_fillWithin_89 : decode cX0_fillWithin 89 = .ok (.return_, 1) := by decide +kernel
theorem dX0_fillWays_0 : decode cX0_fillWays 0 = .ok (.iconst 0, 1) := by decide +kernel
theorem dX0_fillWays_1 : decode cX0_fillWays 1 = .ok (.istore_n 1, 1) := by decide +kernel
theorem dX0_fillWays_2 : decode cX0_fillWays 2 = .ok (.iload_n 1, 1) := by decide +kernel
theorem dX0_fillWays_3 : decode cX0_fillWays 3 = .ok (.bipush 16, 2) := by decide +kernel
theorem dX0_fillWays_5 : decode cX0_fillWays 5 = .ok (.if_icmp .ge 37, 3) := by decide +kernel
theorem dX0_fillWays_8 : decode cX0_fillWays 8 = .ok (.aload_n 0, 1) := by decide +kernel
theorem dX0_fillWays_9 : decode cX0_fillWays 9 = .ok (.getfield 31, 3) := by decide +kernel
theorem dX0_fillWays_12 : decode cX0_fillWays 12 = .ok (.iconst 4, 1) := by decide +kernel
theorem dX0_fillWays_13 : decode cX0_fillWays 13 = .ok (.aaload, 1) := by decide +kernel
theorem dX0_fillWays_14 : decode cX0_fillWays 14 = .ok (.iload_n 1, 1) := by decide +kernel
theorem dX0_fillWays_15 : decode cX0_fillWays 15 = .ok (.aload_n 0, 1) := by decide +kernel
theorem dX0_fillWays_16 : decode cX0_fillWays 16 = .ok (.getfield 45, 3) := by decide +kernel
theorem dX0_fillWays_19 : decode cX0_fillWays 19 = .ok (.ifCond .ne 11, 3) := by decide +kernel
theorem dX0_fillWays_22 : decode cX0_fillWays 22 = .ok (.iload_n 1, 1) := by decide +kernel
theorem dX0_fillWays_23 : decode cX0_fillWays 23 = .ok (.aload_n 0, 1) := by decide +kernel
theorem dX0_fillWays_24 : decode cX0_fillWays 24 = .ok (.getfield 41, 3) := by decide +kernel
theorem dX0_fillWays_27 : decode cX0_fillWays 27 = .ok (.if_icmp .ne 7, 3) := by decide +kernel
theorem dX0_fillWays_30 : decode cX0_fillWays 30 = .ok (.lconst 1, 1) := by decide +kernel
theorem dX0_fillWays_31 : decode cX0_fillWays 31 = .ok (.goto 4, 3) := by decide +kernel
theorem dX0_fillWays_34 : decode cX0_fillWays 34 = .ok (.lconst 0, 1) := by decide +kernel
theorem dX0_fillWays_35 : decode cX0_fillWays 35 = .ok (.lastore, 1) := by decide +kernel
theorem dX0_fillWays_36 : decode cX0_fillWays 36 = .ok (.iinc 1 1, 3) := by decide +kernel
theorem dX0_fillWays_39 : decode cX0_fillWays 39 = .ok (.goto (-37), 3) := by decide +kernel
theorem dX0_fillWays_42 : decode cX0_fillWays 42 = .ok (.iconst 3, 1) := by decide +kernel
theorem dX0_fillWays_43 : decode cX0_fillWays 43 = .ok (.istore_n 1, 1) := by decide +kernel
theorem dX0_fillWays_44 : decode cX0_fillWays 44 = .ok (.iload_n 1, 1) := by decide +kernel
theorem dX0_fillWays_45 : decode cX0_fillWays 45 = .ok (.ifCond .lt 37, 3) := by decide +kernel
theorem dX0_fillWays_48 : decode cX0_fillWays 48 = .ok (.iconst 0, 1) := by decide +kernel
theorem dX0_fillWays_49 : decode cX0_fillWays 49 = .ok (.istore_n 2, 1) := by decide +kernel
theorem dX0_fillWays_50 : decode cX0_fillWays 50 = .ok (.iload_n 2, 1) := by decide +kernel
theorem dX0_fillWays_51 : decode cX0_fillWays 51 = .ok (.bipush 16, 2) := by decide +kernel
theorem dX0_fillWays_53 : decode cX0_fillWays 53 = .ok (.if_icmp .ge 23, 3) := by decide +kernel
theorem dX0_fillWays_56 : decode cX0_fillWays 56 = .ok (.aload_n 0, 1) := by decide +kernel
theorem dX0_fillWays_57 : decode cX0_fillWays 57 = .ok (.getfield 31, 3) := by decide +kernel
theorem dX0_fillWays_60 : decode cX0_fillWays 60 = .ok (.iload_n 1, 1) := by decide +kernel
theorem dX0_fillWays_61 : decode cX0_fillWays 61 = .ok (.aaload, 1) := by decide +kernel
theorem dX0_fillWays_62 : decode cX0_fillWays 62 = .ok (.iload_n 2, 1) := by decide +kernel
theorem dX0_fillWays_63 : decode cX0_fillWays 63 = .ok (.aload_n 0, 1) := by decide +kernel
theorem dX0_fillWays_64 : decode cX0_fillWays 64 = .ok (.iload_n 1, 1) := by decide +kernel
theorem dX0_fillWays_65 : decode cX0_fillWays 65 = .ok (.iload_n 2, 1) := by decide +kernel
theorem dX0_fillWays_66 : decode cX0_fillWays 66 = .ok (.invokevirtual 81, 3) := by decide +kernel
theorem dX0_fillWays_69 : decode cX0_fillWays 69 = .ok (.lastore, 1) := by decide +kernel
theorem dX0_fillWays_70 : decode cX0_fillWays 70 = .ok (.iinc 2 1, 3) := by decide +kernel
theorem dX0_fillWays_73 : decode cX0_fillWays 73 = .ok (.goto (-23), 3) := by decide +kernel
theorem dX0_fillWays_76 : decode cX0_fillWays 76 = .ok (.iinc 1 (-1), 3) := by decide +kernel
theorem dX0_fillWays_79 : decode cX0_fillWays 79 = .ok (.goto (-35), 3) := by decide +kernel
theorem dX0_fillWays_82 : decode cX0_fillWays 82 = .ok (.return_, 1) := by decide +kernel
theorem dX0_waysFrom_0 : decode cX0_waysFrom 0 = .ok (.lconst 0, 1) := by decide +kernel
theorem dX0_waysFrom_1 : decode cX0_waysFrom 1 = .ok (.lstore_n 3, 1) := by decide +kernel
theorem dX0_waysFrom_2 : decode cX0_waysFrom 2 = .ok (.iconst 0, 1) := by decide +kernel
theorem dX0_waysFrom_3 : decode cX0_waysFrom 3 = .ok (.istore 5, 2) := by decide +kernel
theorem dX0_waysFrom_5 : decode cX0_waysFrom 5 = .ok (.iload 5, 2) := by decide +kernel
theorem dX0_waysFrom_7 : decode cX0_waysFrom 7 = .ok (.bipush 16, 2) := by decide +kernel
theorem dX0_waysFrom_9 : decode cX0_waysFrom 9 = .ok (.if_icmp .ge 35, 3) := by decide +kernel
theorem dX0_waysFrom_12 : decode cX0_waysFrom 12 = .ok (.lload_n 3, 1) := by decide +kernel
theorem dX0_waysFrom_13 : decode cX0_waysFrom 13 = .ok (.aload_n 0, 1) := by decide +kernel
theorem dX0_waysFrom_14 : decode cX0_waysFrom 14 = .ok (.getfield 25, 3) := by decide +kernel
theorem dX0_waysFrom_17 : decode cX0_waysFrom 17 = .ok (.iload_n 1, 1) := by decide +kernel
theorem dX0_waysFrom_18 : decode cX0_waysFrom 18 = .ok (.aaload, 1) := by decide +kernel
theorem dX0_waysFrom_19 : decode cX0_waysFrom 19 = .ok (.iload 5, 2) := by decide +kernel
theorem dX0_waysFrom_21 : decode cX0_waysFrom 21 = .ok (.laload, 1) := by decide +kernel
theorem dX0_waysFrom_22 : decode cX0_waysFrom 22 = .ok (.aload_n 0, 1) := by decide +kernel
theorem dX0_waysFrom_23 : decode cX0_waysFrom 23 = .ok (.getfield 31, 3) := by decide +kernel
theorem dX0_waysFrom_26 : decode cX0_waysFrom 26 = .ok (.iload_n 1, 1) := by decide +kernel
theorem dX0_waysFrom_27 : decode cX0_waysFrom 27 = .ok (.iconst 1, 1) := by decide +kernel
theorem dX0_waysFrom_28 : decode cX0_waysFrom 28 = .ok (.iadd, 1) := by decide +kernel
theorem dX0_waysFrom_29 : decode cX0_waysFrom 29 = .ok (.aaload, 1) := by decide +kernel
theorem dX0_waysFrom_30 : decode cX0_waysFrom 30 = .ok (.iload_n 2, 1) := by decide +kernel
theorem dX0_waysFrom_31 : decode cX0_waysFrom 31 = .ok (.iload 5, 2) := by decide +kernel
theorem dX0_waysFrom_33 : decode cX0_waysFrom 33 = .ok (.ior, 1) := by decide +kernel
theorem dX0_waysFrom_34 : decode cX0_waysFrom 34 = .ok (.laload, 1) := by decide +kernel
theorem dX0_waysFrom_35 : decode cX0_waysFrom 35 = .ok (.lmul, 1) := by decide +kernel
theorem dX0_waysFrom_36 : decode cX0_waysFrom 36 = .ok (.ladd, 1) := by decide +kernel
theorem dX0_waysFrom_37 : decode cX0_waysFrom 37 = .ok (.lstore_n 3, 1) := by decide +kernel
theorem dX0_waysFrom_38 : decode cX0_waysFrom 38 = .ok (.iinc 5 1, 3) := by decide +kernel
theorem dX0_waysFrom_41 : decode cX0_waysFrom 41 = .ok (.goto (-36), 3) := by decide +kernel
theorem dX0_waysFrom_44 : decode cX0_waysFrom 44 = .ok (.lload_n 3, 1) := by decide +kernel
theorem dX0_waysFrom_45 : decode cX0_waysFrom 45 = .ok (.lreturn, 1) := by decide +kernel
theorem dX0_bySetsWith_0 : decode cX0_bySetsWith 0 = .ok (.lconst 0, 1) := by decide +kernel
theorem dX0_bySetsWith_1 : decode cX0_bySetsWith 1 = .ok (.lstore_n 3, 1) := by decide +kernel
theorem dX0_bySetsWith_2 : decode cX0_bySetsWith 2 = .ok (.iconst 0, 1) := by decide +kernel
theorem dX0_bySetsWith_3 : decode cX0_bySetsWith 3 = .ok (.istore 5, 2) := by decide +kernel
theorem dX0_bySetsWith_5 : decode cX0_bySetsWith 5 = .ok (.iload 5, 2) := by decide +kernel
theorem dX0_bySetsWith_7 : decode cX0_bySetsWith 7 = .ok (.bipush 16, 2) := by decide +kernel
theorem dX0_bySetsWith_9 : decode cX0_bySetsWith 9 = .ok (.if_icmp .ge 124, 3) := by decide +kernel
theorem dX0_bySetsWith_12 : decode cX0_bySetsWith 12 = .ok (.aload_n 0, 1) := by decide +kernel
theorem dX0_bySetsWith_13 : decode cX0_bySetsWith 13 = .ok (.getfield 45, 3) := by decide +kernel
theorem dX0_bySetsWith_16 : decode cX0_bySetsWith 16 = .ok (.ifCond .eq 16, 3) := by decide +kernel
theorem dX0_bySetsWith_19 : decode cX0_bySetsWith 19 = .ok (.iload 5, 2) := by decide +kernel
theorem dX0_bySetsWith_21 : decode cX0_bySetsWith 21 = .ok (.ifCond .ne 7, 3) := by decide +kernel
theorem dX0_bySetsWith_24 : decode cX0_bySetsWith 24 = .ok (.iconst 1, 1) := by decide +kernel
theorem dX0_bySetsWith_25 : decode cX0_bySetsWith 25 = .ok (.goto 24, 3) := by decide +kernel
theorem dX0_bySetsWith_28 : decode cX0_bySetsWith 28 = .ok (.iconst 0, 1) := by decide +kernel
theorem dX0_bySetsWith_29 : decode cX0_bySetsWith 29 = .ok (.goto 20, 3) := by decide +kernel
theorem dX0_bySetsWith_32 : decode cX0_bySetsWith 32 = .ok (.iload 5, 2) := by decide +kernel
theorem dX0_bySetsWith_34 : decode cX0_bySetsWith 34 = .ok (.aload_n 0, 1) := by decide +kernel
theorem dX0_bySetsWith_35 : decode cX0_bySetsWith 35 = .ok (.getfield 41, 3) := by decide +kernel
theorem dX0_bySetsWith_38 : decode cX0_bySetsWith 38 = .ok (.iand, 1) := by decide +kernel
theorem dX0_bySetsWith_39 : decode cX0_bySetsWith 39 = .ok (.iload 5, 2) := by decide +kernel
theorem dX0_bySetsWith_41 : decode cX0_bySetsWith 41 = .ok (.if_icmp .ne 7, 3) := by decide +kernel
theorem dX0_bySetsWith_44 : decode cX0_bySetsWith 44 = .ok (.iconst 1, 1) := by decide +kernel
theorem dX0_bySetsWith_45 : decode cX0_bySetsWith 45 = .ok (.goto 4, 3) := by decide +kernel
theorem dX0_bySetsWith_48 : decode cX0_bySetsWith 48 = .ok (.iconst 0, 1) := by decide +kernel
theorem dX0_bySetsWith_49 : decode cX0_bySetsWith 49 = .ok (.istore 6, 2) := by decide +kernel
theorem dX0_bySetsWith_51 : decode cX0_bySetsWith 51 = .ok (.iload 6, 2) := by decide +kernel
theorem dX0_bySetsWith_53 : decode cX0_bySetsWith 53 = .ok (.ifCond .eq 74, 3) := by decide +kernel
theorem dX0_bySetsWith_56 : decode cX0_bySetsWith 56 = .ok (.lconst 1, 1) := by decide +kernel
theorem dX0_bySetsWith_57 : decode cX0_bySetsWith 57 = .ok (.lstore 7, 2) := by decide +kernel
theorem dX0_bySetsWith_59 : decode cX0_bySetsWith 59 = .ok (.iconst 0, 1) := by decide +kernel
theorem dX0_bySetsWith_60 : decode cX0_bySetsWith 60 = .ok (.istore 9, 2) := by decide +kernel
theorem dX0_bySetsWith_62 : decode cX0_bySetsWith 62 = .ok (.iload 9, 2) := by decide +kernel
theorem dX0_bySetsWith_64 : decode cX0_bySetsWith 64 = .ok (.iconst 4, 1) := by decide +kernel
theorem dX0_bySetsWith_65 : decode cX0_bySetsWith 65 = .ok (.if_icmp .ge 41, 3) := by decide +kernel
theorem dX0_bySetsWith_68 : decode cX0_bySetsWith 68 = .ok (.lload 7, 2) := by decide +kernel
theorem dX0_bySetsWith_70 : decode cX0_bySetsWith 70 = .ok (.aload_n 0, 1) := by decide +kernel
theorem dX0_bySetsWith_71 : decode cX0_bySetsWith 71 = .ok (.getfield 28, 3) := by decide +kernel
theorem dX0_bySetsWith_74 : decode cX0_bySetsWith 74 = .ok (.iload 9, 2) := by decide +kernel
theorem dX0_bySetsWith_76 : decode cX0_bySetsWith 76 = .ok (.iload_n 1, 1) := by decide +kernel
theorem dX0_bySetsWith_77 : decode cX0_bySetsWith 77 = .ok (.if_icmp .ne 7, 3) := by decide +kernel
theorem dX0_bySetsWith_80 : decode cX0_bySetsWith 80 = .ok (.iload_n 2, 1) := by decide +kernel
theorem dX0_bySetsWith_81 : decode cX0_bySetsWith 81 = .ok (.goto 5, 3) := by decide +kernel
theorem dX0_bySetsWith_84 : decode cX0_bySetsWith 84 = .ok (.iload 9, 2) := by decide +kernel
theorem dX0_bySetsWith_86 : decode cX0_bySetsWith 86 = .ok (.aaload, 1) := by decide +kernel
theorem dX0_bySetsWith_87 : decode cX0_bySetsWith 87 = .ok (.aload_n 0, 1) := by decide +kernel
theorem dX0_bySetsWith_88 : decode cX0_bySetsWith 88 = .ok (.getfield 41, 3) := by decide +kernel
theorem dX0_bySetsWith_91 : decode cX0_bySetsWith 91 = .ok (.iload 5, 2) := by decide +kernel
theorem dX0_bySetsWith_93 : decode cX0_bySetsWith 93 = .ok (.iconst (-1), 1) := by decide +kernel
theorem dX0_bySetsWith_94 : decode cX0_bySetsWith 94 = .ok (.ixor, 1) := by decide +kernel
theorem dX0_bySetsWith_95 : decode cX0_bySetsWith 95 = .ok (.iand, 1) := by decide +kernel
theorem dX0_bySetsWith_96 : decode cX0_bySetsWith 96 = .ok (.laload, 1) := by decide +kernel
theorem dX0_bySetsWith_97 : decode cX0_bySetsWith 97 = .ok (.lmul, 1) := by decide +kernel
theorem dX0_bySetsWith_98 : decode cX0_bySetsWith 98 = .ok (.lstore 7, 2) := by decide +kernel
theorem dX0_bySetsWith_100 : decode cX0_bySetsWith 100 = .ok (.iinc 9 1, 3) := by decide +kernel
theorem dX0_bySetsWith_103 : decode cX0_bySetsWith 103 = .ok (.goto (-41), 3) := by decide +kernel
theorem dX0_bySetsWith_106 : decode cX0_bySetsWith 106 = .ok (.lload_n 3, 1) := by decide +kernel
theorem dX0_bySetsWith_107 : decode cX0_bySetsWith 107 = .ok (.iload 5, 2) := by decide +kernel
theorem dX0_bySetsWith_109 : decode cX0_bySetsWith 109 = .ok (.invokestatic 84, 3) := by decide +kernel
theorem dX0_bySetsWith_112 : decode cX0_bySetsWith 112 = .ok (.iconst 2, 1) := by decide +kernel
theorem dX0_bySetsWith_113 : decode cX0_bySetsWith 113 = .ok (.irem, 1) := by decide +kernel
theorem dX0_bySetsWith_114 : decode cX0_bySetsWith 114 = .ok (.ifCond .ne 8, 3) := by decide +kernel
theorem dX0_bySetsWith_117 : decode cX0_bySetsWith 117 = .ok (.lload 7, 2) := by decide +kernel
theorem dX0_bySetsWith_119 : decode cX0_bySetsWith 119 = .ok (.goto 6, 3) := by decide +kernel
theorem dX0_bySetsWith_122 : decode cX0_bySetsWith 122 = .ok (.lload 7, 2) := by decide +kernel
theorem dX0_bySetsWith_124 : decode cX0_bySetsWith 124 = .ok (.lneg, 1) := by decide +kernel
theorem dX0_bySetsWith_125 : decode cX0_bySetsWith 125 = .ok (.ladd, 1) := by decide +kernel
theorem dX0_bySetsWith_126 : decode cX0_bySetsWith 126 = .ok (.lstore_n 3, 1) := by decide +kernel
theorem dX0_bySetsWith_127 : decode cX0_bySetsWith 127 = .ok (.iinc 5 1, 3) := by decide +kernel
theorem dX0_bySetsWith_130 : decode cX0_bySetsWith 130 = .ok (.goto (-125), 3) := by decide +kernel
theorem dX0_bySetsWith_133 : decode cX0_bySetsWith 133 = .ok (.lload_n 3, 1) := by decide +kernel
theorem dX0_bySetsWith_134 : decode cX0_bySetsWith 134 = .ok (.lreturn, 1) := by decide +kernel
theorem dX1_init_0 : decode cX1_init 0 = .ok (.aload_n 0, 1) := by decide +kernel
theorem dX1_init_1 : decode cX1_init 1 = .ok (.invokespecial 3, 3) := by decide +kernel
theorem dX1_init_4 : decode cX1_init 4 = .ok (.aload_n 0, 1) := by decide +kernel
theorem dX1_init_5 : decode cX1_init 5 = .ok (.bipush 6, 2) := by decide +kernel
theorem dX1_init_7 : decode cX1_init 7 = .ok (.bipush 26, 2) := by decide +kernel
theorem dX1_init_9 : decode cX1_init 9 = .ok (.multianewarray 11 2, 4) := by decide +kernel
theorem dX1_init_13 : decode cX1_init 13 = .ok (.putfield 13, 3) := by decide +kernel
theorem dX1_init_16 : decode cX1_init 16 = .ok (.return_, 1) := by decide +kernel
theorem dX1_size_0 : decode cX1_size 0 = .ok (.aload_n 0, 1) := by decide +kernel
theorem dX1_size_1 : decode cX1_size 1 = .ok (.getfield 16, 3) := by decide +kernel
theorem dX1_size_4 : decode cX1_size 4 = .ok (.ireturn, 1) := by decide +kernel
theorem dX1_keep_0 : decode cX1_keep 0 = .ok (.aload_n 1, 1) := by decide +kernel
theorem dX1_keep_1 : decode cX1_keep 1 = .ok (.iconst 0, 1) := by decide +kernel
theorem dX1_keep_2 : decode cX1_keep 2 = .ok (.aload_n 0, 1) := by decide +kernel
theorem dX1_keep_3 : decode cX1_keep 3 = .ok (.getfield 13, 3) := by decide +kernel
theorem dX1_keep_6 : decode cX1_keep 6 = .ok (.aload_n 0, 1) := by decide +kernel
theorem dX1_keep_7 : decode cX1_keep 7 = .ok (.getfield 20, 3) := by decide +kernel
theorem dX1_keep_10 : decode cX1_keep 10 = .ok (.aload_n 0, 1) := by decide +kernel
theorem dX1_keep_11 : decode cX1_keep 11 = .ok (.getfield 16, 3) := by decide +kernel
theorem dX1_keep_14 : decode cX1_keep 14 = .ok (.iadd, 1) := by decide +kernel
theorem dX1_keep_15 : decode cX1_keep 15 = .ok (.bipush 6, 2) := by decide +kernel
theorem dX1_keep_17 : decode cX1_keep 17 = .ok (.irem, 1) := by decide +kernel
theorem dX1_keep_18 : decode cX1_keep 18 = .ok (.aaload, 1) := by decide +kernel
theorem dX1_keep_19 : decode cX1_keep 19 = .ok (.iconst 0, 1) := by decide +kernel
theorem dX1_keep_20 : decode cX1_keep 20 = .ok (.bipush 26, 2) := by decide +kernel
theorem dX1_keep_22 : decode cX1_keep 22 = .ok (.invokestatic 23, 3) := by decide +kernel
theorem dX1_keep_25 : decode cX1_keep 25 = .ok (.aload_n 0, 1) := by decide +kernel
theorem dX1_keep_26 : decode cX1_keep 26 = .ok (.getfield 16, 3) := by decide +kernel
theorem dX1_keep_29 : decode cX1_keep 29 = .ok (.bipush 6, 2) := by decide +kernel
theorem dX1_keep_31 : decode cX1_keep 31 = .ok (.if_icmp .ge 16, 3) := by decide +kernel
theorem dX1_keep_34 : decode cX1_keep 34 = .ok (.aload_n 0, 1) := by decide +kernel
theorem dX1_keep_35 : decode cX1_keep 35 = .ok (.dup, 1) := by decide +kernel
theorem dX1_keep_36 : decode cX1_keep 36 = .ok (.getfield 16, 3) := by decide +kernel
theorem dX1_keep_39 : decode cX1_keep 39 = .ok (.iconst 1, 1) := by decide +kernel
theorem dX1_keep_40 : decode cX1_keep 40 = .ok (.iadd, 1) := by decide +kernel
theorem dX1_keep_41 : decode cX1_keep 41 = .ok (.putfield 16, 3) := by decide +kernel
theorem dX1_keep_44 : decode cX1_keep 44 = .ok (.goto 16, 3) := by decide +kernel
theorem dX1_keep_47 : decode cX1_keep 47 = .ok (.aload_n 0, 1) := by decide +kernel
theorem dX1_keep_48 : decode cX1_keep 48 = .ok (.aload_n 0, 1) := by decide +kernel
theorem dX1_keep_49 : decode cX1_keep 49 = .ok (.getfield 20, 3) := by decide +kernel
theorem dX1_keep_52 : decode cX1_keep 52 = .ok (.iconst 1, 1) := by decide +kernel
theorem dX1_keep_53 : decode cX1_keep 53 = .ok (.iadd, 1) := by decide +kernel
theorem dX1_keep_54 : decode cX1_keep 54 = .ok (.bipush 6, 2) := by decide +kernel
theorem dX1_keep_56 : decode cX1_keep 56 = .ok (.irem, 1) := by decide +kernel
theorem dX1_keep_57 : decode cX1_keep 57 = .ok (.putfield 20, 3) := by decide +kernel
theorem dX1_keep_60 : decode cX1_keep 60 = .ok (.return_, 1) := by decide +kernel
theorem dX2_init_0 : decode cX2_init 0 = .ok (.aload_n 0, 1) := by decide +kernel
theorem dX2_init_1 : decode cX2_init 1 = .ok (.invokespecial 3, 3) := by decide +kernel
theorem dX2_init_4 : decode cX2_init 4 = .ok (.aload_n 0, 1) := by decide +kernel
theorem dX2_init_5 : decode cX2_init 5 = .ok (.iconst 4, 1) := by decide +kernel
theorem dX2_init_6 : decode cX2_init 6 = .ok (.newarray .int, 2) := by decide +kernel
theorem dX2_init_8 : decode cX2_init 8 = .ok (.putfield 9, 3) := by decide +kernel
theorem dX2_init_11 : decode cX2_init 11 = .ok (.aload_n 0, 1) := by decide +kernel
theorem dX2_init_12 : decode cX2_init 12 = .ok (.iconst 4, 1) := by decide +kernel
theorem dX2_init_13 : decode cX2_init 13 = .ok (.newarray .int, 2) := by decide +kernel
theorem dX2_init_15 : decode cX2_init 15 = .ok (.putfield 15, 3) := by decide +kernel
theorem dX2_init_18 : decode cX2_init 18 = .ok (.aload_n 0, 1) := by decide +kernel
theorem dX2_init_19 : decode cX2_init 19 = .ok (.bipush 120, 2) := by decide +kernel
theorem dX2_init_21 : decode cX2_init 21 = .ok (.newarray .int, 2) := by decide +kernel
theorem dX2_init_23 : decode cX2_init 23 = .ok (.putfield 18, 3) := by decide +kernel
theorem dX2_init_26 : decode cX2_init 26 = .ok (.aload_n 0, 1) := by decide +kernel
theorem dX2_init_27 : decode cX2_init 27 = .ok (.sipush 2401, 3) := by decide +kernel
theorem dX2_init_30 : decode cX2_init 30 = .ok (.newarray .int, 2) := by decide +kernel
theorem dX2_init_32 : decode cX2_init 32 = .ok (.putfield 21, 3) := by decide +kernel
theorem dX2_init_35 : decode cX2_init 35 = .ok (.return_, 1) := by decide +kernel
theorem dX2_forget_0 : decode cX2_forget 0 = .ok (.aload_n 0, 1) := by decide +kernel
theorem dX2_forget_1 : decode cX2_forget 1 = .ok (.iconst 0, 1) := by decide +kernel
theorem dX2_forget_2 : decode cX2_forget 2 = .ok (.putfield 24, 3) := by decide +kernel
theorem dX2_forget_5 : decode cX2_forget 5 = .ok (.return_, 1) := by decide +kernel
theorem dX2_prepare_0 : decode cX2_prepare 0 = .ok (.aload_n 0, 1) := by decide +kernel
theorem dX2_prepare_1 : decode cX2_prepare 1 = .ok (.getfield 24, 3) := by decide +kernel
theorem dX2_prepare_4 : decode cX2_prepare 4 = .ok (.ifCond .eq 4, 3) := by decide +kernel
theorem dX2_prepare_7 : decode cX2_prepare 7 = .ok (.return_, 1) := by decide +kernel
theorem dX2_prepare_8 : decode cX2_prepare 8 = .ok (.iconst 0, 1) := by decide +kernel
theorem dX2_prepare_9 : decode cX2_prepare 9 = .ok (.istore_n 2, 1) := by decide +kernel
theorem dX2_prepare_10 : decode cX2_prepare 10 = .ok (.iload_n 2, 1) := by decide +kernel
theorem dX2_prepare_11 : decode cX2_prepare 11 = .ok (.iconst 4, 1) := by decide +kernel
theorem dX2_prepare_12 : decode cX2_prepare 12 = .ok (.if_icmp .ge 31, 3) := by decide +kernel
theorem dX2_prepare_15 : decode cX2_prepare 15 = .ok (.iconst 4, 1) := by decide +kernel
theorem dX2_prepare_16 : decode cX2_prepare 16 = .ok (.iload_n 2, 1) := by decide +kernel
theorem dX2_prepare_17 : decode cX2_prepare 17 = .ok (.iadd, 1) := by decide +kernel
theorem dX2_prepare_18 : decode cX2_prepare 18 = .ok (.istore_n 3, 1) := by decide +kernel
theorem dX2_prepare_19 : decode cX2_prepare 19 = .ok (.aload_n 0, 1) := by decide +kernel
theorem dX2_prepare_20 : decode cX2_prepare 20 = .ok (.getfield 9, 3) := by decide +kernel
theorem dX2_prepare_23 : decode cX2_prepare 23 = .ok (.iload_n 2, 1) := by decide +kernel
theorem dX2_prepare_24 : decode cX2_prepare 24 = .ok (.aload_n 1, 1) := by decide +kernel
theorem dX2_prepare_25 : decode cX2_prepare 25 = .ok (.iconst 0, 1) := by decide +kernel
theorem dX2_prepare_26 : decode cX2_prepare 26 = .ok (.iload_n 3, 1) := by decide +kernel
theorem dX2_prepare_27 : decode cX2_prepare 27 = .ok (.iadd, 1) := by decide +kernel
theorem dX2_prepare_28 : decode cX2_prepare 28 = .ok (.iaload, 1) := by decide +kernel
theorem dX2_prepare_29 : decode cX2_prepare 29 = .ok (.aload_n 1, 1) := by decide +kernel
theorem dX2_prepare_30 : decode cX2_prepare 30 = .ok (.bipush 8, 2) := by decide +kernel
theorem dX2_prepare_32 : decode cX2_prepare 32 = .ok (.iload_n 3, 1) := by decide +kernel
theorem dX2_prepare_33 : decode cX2_prepare 33 = .ok (.iadd, 1) := by decide +kernel
theorem dX2_prepare_34 : decode cX2_prepare 34 = .ok (.iaload, 1) := by decide +kernel
theorem dX2_prepare_35 : decode cX2_prepare 35 = .ok (.isub, 1) := by decide +kernel
theorem dX2_prepare_36 : decode cX2_prepare 36 = .ok (.iastore, 1) := by decide +kernel
theorem dX2_prepare_37 : decode cX2_prepare 37 = .ok (.iinc 2 1, 3) := by decide +kernel
theorem dX2_prepare_40 : decode cX2_prepare 40 = .ok (.goto (-30), 3) := by decide +kernel
theorem dX2_prepare_43 : decode cX2_prepare 43 = .ok (.aload_n 0, 1) := by decide +kernel
theorem dX2_prepare_44 : decode cX2_prepare 44 = .ok (.iconst 0, 1) := by decide +kernel
theorem dX2_prepare_45 : decode cX2_prepare 45 = .ok (.putfield 28, 3) := by decide +kernel
theorem dX2_prepare_48 : decode cX2_prepare 48 = .ok (.iconst 0, 1) := by decide +kernel
theorem dX2_prepare_49 : decode cX2_prepare 49 = .ok (.istore_n 2, 1) := by decide +kernel
theorem dX2_prepare_50 : decode cX2_prepare 50 = .ok (.iload_n 2, 1) := by decide +kernel
theorem dX2_prepare_51 : decode cX2_prepare 51 = .ok (.iconst 5, 1) := by decide +kernel
theorem dX2_prepare_52 : decode cX2_prepare 52 = .ok (.if_icmp .gt 62, 3) := by decide +kernel
theorem dX2_prepare_55 : decode cX2_prepare 55 = .ok (.iconst 0, 1) := by decide +kernel
theorem dX2_prepare_56 : decode cX2_prepare 56 = .ok (.istore_n 3, 1) := by decide +kernel
theorem dX2_prepare_57 : decode cX2_prepare 57 = .ok (.iload_n 3, 1) := by decide +kernel
theorem dX2_prepare_58 : decode cX2_prepare 58 = .ok (.iconst 5, 1) := by decide +kernel
theorem dX2_prepare_59 : decode cX2_prepare 59 = .ok (.if_icmp .gt 49, 3) := by decide +kernel
theorem dX2_prepare_62 : decode cX2_prepare 62 = .ok (.iconst 0, 1) := by decide +kernel
theorem dX2_prepare_63 : decode cX2_prepare 63 = .ok (.istore 4, 2) := by decide +kernel
theorem dX2_prepare_65 : decode cX2_prepare 65 = .ok (.iload 4, 2) := by decide +kernel
theorem dX2_prepare_67 : decode cX2_prepare 67 = .ok (.iconst 5, 1) := by decide +kernel
theorem dX2_prepare_68 : decode cX2_prepare 68 = .ok (.if_icmp .gt 34, 3) := by decide +kernel
theorem dX2_prepare_71 : decode cX2_prepare 71 = .ok (.iconst 0, 1) := by decide +kernel
theorem dX2_prepare_72 : decode cX2_prepare 72 = .ok (.istore 5, 2) := by decide +kernel
theorem dX2_prepare_74 : decode cX2_prepare 74 = .ok (.iload 5, 2) := by decide +kernel
theorem dX2_prepare_76 : decode cX2_prepare 76 = .ok (.iconst 5, 1) := by decide +kernel
theorem dX2_prepare_77 : decode cX2_prepare 77 = .ok (.if_icmp .gt 19, 3) := by decide +kernel
theorem dX2_prepare_80 : decode cX2_prepare 80 = .ok (.aload_n 0, 1) := by decide +kernel
theorem dX2_prepare_81 : decode cX2_prepare 81 = .ok (.iload_n 2, 1) := by decide +kernel
theorem dX2_prepare_82 : decode cX2_prepare 82 = .ok (.iload_n 3, 1) := by decide +kernel
theorem dX2_prepare_83 : decode cX2_prepare 83 = .ok (.iload 4, 2) := by decide +kernel
theorem dX2_prepare_85 : decode cX2_prepare 85 = .ok (.iload 5, 2) := by decide +kernel
theorem dX2_prepare_87 : decode cX2_prepare 87 = .ok (.invokevirtual 32, 3) := by decide +kernel
theorem dX2_prepare_90 : decode cX2_prepare 90 = .ok (.iinc 5 1, 3) := by decide +kernel
theorem dX2_prepare_93 : decode cX2_prepare 93 = .ok (.goto (-19), 3) := by decide +kernel
theorem dX2_prepare_96 : decode cX2_prepare 96 = .ok (.iinc 4 1, 3) := by decide +kernel
theorem dX2_prepare_99 : decode cX2_prepare 99 = .ok (.goto (-34), 3) := by decide +kernel
theorem dX2_prepare_102 : decode cX2_prepare 102 = .ok (.iinc 3 1, 3) := by decide +kernel
theorem dX2_prepare_105 : decode cX2_prepare 105 = .ok (.goto (-48), 3) := by decide +kernel
theorem dX2_prepare_108 : decode cX2_prepare 108 = .ok (.iinc 2 1, 3) := by decide +kernel
theorem dX2_prepare_111 : decode cX2_prepare 111 = .ok (.goto (-61), 3) := by decide +kernel
theorem dX2_prepare_114 : decode cX2_prepare 114 = .ok (.aload_n 0, 1) := by decide +kernel
theorem dX2_prepare_115 : decode cX2_prepare 115 = .ok (.iconst 1, 1) := by decide +kernel
theorem dX2_prepare_116 : decode cX2_prepare 116 = .ok (.putfield 24, 3) := by decide +kernel
theorem dX2_prepare_119 : decode cX2_prepare 119 = .ok (.return_, 1) := by decide +kernel
theorem dX2_size_0 : decode cX2_size 0 = .ok (.aload_n 0, 1) := by decide +kernel
theorem dX2_size_1 : decode cX2_size 1 = .ok (.getfield 28, 3) := by decide +kernel
theorem dX2_size_4 : decode cX2_size 4 = .ok (.ireturn, 1) := by decide +kernel
theorem dX2_number_0 : decode cX2_number 0 = .ok (.iload_n 1, 1) := by decide +kernel
theorem dX2_number_1 : decode cX2_number 1 = .ok (.ifCond .lt 24, 3) := by decide +kernel
theorem dX2_number_4 : decode cX2_number 4 = .ok (.iload_n 1, 1) := by decide +kernel
theorem dX2_number_5 : decode cX2_number 5 = .ok (.aload_n 0, 1) := by decide +kernel
theorem dX2_number_6 : decode cX2_number 6 = .ok (.getfield 28, 3) := by decide +kernel
theorem dX2_number_9 : decode cX2_number 9 = .ok (.if_icmp .ge 16, 3) := by decide +kernel
theorem dX2_number_12 : decode cX2_number 12 = .ok (.aload_n 0, 1) := by decide +kernel
theorem dX2_number_13 : decode cX2_number 13 = .ok (.getfield 18, 3) := by decide +kernel
theorem dX2_number_16 : decode cX2_number 16 = .ok (.iload_n 1, 1) := by decide +kernel
theorem dX2_number_17 : decode cX2_number 17 = .ok (.iconst 4, 1) := by decide +kernel
theorem dX2_number_18 : decode cX2_number 18 = .ok (.imul, 1) := by decide +kernel
theorem dX2_number_19 : decode cX2_number 19 = .ok (.iload_n 2, 1) := by decide +kernel
theorem dX2_number_20 : decode cX2_number 20 = .ok (.iadd, 1) := by decide +kernel
theorem dX2_number_21 : decode cX2_number 21 = .ok (.iaload, 1) := by decide +kernel
theorem dX2_number_22 : decode cX2_number 22 = .ok (.goto 4, 3) := by decide +kernel
theorem dX2_number_25 : decode cX2_number 25 = .ok (.iconst (-1), 1) := by decide +kernel
theorem dX2_number_26 : decode cX2_number 26 = .ok (.ireturn, 1) := by decide +kernel
theorem dX2_greatestSum_0 : decode cX2_greatestSum 0 = .ok (.iconst 0, 1) := by decide +kernel
theorem dX2_greatestSum_1 : decode cX2_greatestSum 1 = .ok (.istore_n 1, 1) := by decide +kernel
theorem dX2_greatestSum_2 : decode cX2_greatestSum 2 = .ok (.iconst 0, 1) := by decide +kernel
theorem dX2_greatestSum_3 : decode cX2_greatestSum 3 = .ok (.istore_n 2, 1) := by decide +kernel
theorem dX2_greatestSum_4 : decode cX2_greatestSum 4 = .ok (.iload_n 2, 1) := by decide +kernel
theorem dX2_greatestSum_5 : decode cX2_greatestSum 5 = .ok (.aload_n 0, 1) := by decide +kernel
theorem dX2_greatestSum_6 : decode cX2_greatestSum 6 = .ok (.getfield 28, 3) := by decide +kernel
theorem dX2_greatestSum_9 : decode cX2_greatestSum 9 = .ok (.if_icmp .ge 43, 3) := by decide +kernel
theorem dX2_greatestSum_12 : decode cX2_greatestSum 12 = .ok (.aload_n 0, 1) := by decide +kernel
theorem dX2_greatestSum_13 : decode cX2_greatestSum 13 = .ok (.iload_n 2, 1) := by decide +kernel
theorem dX2_greatestSum_14 : decode cX2_greatestSum 14 = .ok (.iconst 0, 1) := by decide +kernel
theorem dX2_greatestSum_15 : decode cX2_greatestSum 15 = .ok (.invokevirtual 36, 3) := by decide +kernel
theorem dX2_greatestSum_18 : decode cX2_greatestSum 18 = .ok (.aload_n 0, 1) := by decide +kernel
theorem dX2_greatestSum_19 : decode cX2_greatestSum 19 = .ok (.iload_n 2, 1) := by decide +kernel
theorem dX2_greatestSum_20 : decode cX2_greatestSum 20 = .ok (.iconst 1, 1) := by decide +kernel
theorem dX2_greatestSum_21 : decode cX2_greatestSum 21 = .ok (.invokevirtual 36, 3) := by decide +kernel
theorem dX2_greatestSum_24 : decode cX2_greatestSum 24 = .ok (.iadd, 1) := by decide +kernel
theorem dX2_greatestSum_25 : decode cX2_greatestSum 25 = .ok (.aload_n 0, 1) := by decide +kernel
theorem dX2_greatestSum_26 : decode cX2_greatestSum 26 = .ok (.iload_n 2, 1) := by decide +kernel
theorem dX2_greatestSum_27 : decode cX2_greatestSum 27 = .ok (.iconst 2, 1) := by decide +kernel
theorem dX2_greatestSum_28 : decode cX2_greatestSum 28 = .ok (.invokevirtual 36, 3) := by decide +kernel
theorem dX2_greatestSum_31 : decode cX2_greatestSum 31 = .ok (.iadd, 1) := by decide +kernel
theorem dX2_greatestSum_32 : decode cX2_greatestSum 32 = .ok (.aload_n 0, 1) := by decide +kernel
theorem dX2_greatestSum_33 : decode cX2_greatestSum 33 = .ok (.iload_n 2, 1) := by decide +kernel
theorem dX2_greatestSum_34 : decode cX2_greatestSum 34 = .ok (.iconst 3, 1) := by decide +kernel
theorem dX2_greatestSum_35 : decode cX2_greatestSum 35 = .ok (.invokevirtual 36, 3) := by decide +kernel
theorem dX2_greatestSum_38 : decode cX2_greatestSum 38 = .ok (.iadd, 1) := by decide +kernel
theorem dX2_greatestSum_39 : decode cX2_greatestSum 39 = .ok (.istore_n 3, 1) := by decide +kernel
theorem dX2_greatestSum_40 : decode cX2_greatestSum 40 = .ok (.iload_n 1, 1) := by decide +kernel
theorem dX2_greatestSum_41 : decode cX2_greatestSum 41 = .ok (.iload_n 3, 1) := by decide +kernel
theorem dX2_greatestSum_42 : decode cX2_greatestSum 42 = .ok (.invokestatic 40, 3) := by decide +kernel
theorem dX2_greatestSum_45 : decode cX2_greatestSum 45 = .ok (.istore_n 1, 1) := by decide +kernel
theorem dX2_greatestSum_46 : decode cX2_greatestSum 46 = .ok (.iinc 2 1, 3) := by decide +kernel
theorem dX2_greatestSum_49 : decode cX2_greatestSum 49 = .ok (.goto (-45), 3) := by decide +kernel
theorem dX2_greatestSum_52 : decode cX2_greatestSum 52 = .ok (.iload_n 1, 1) := by decide +kernel
theorem dX2_greatestSum_53 : decode cX2_greatestSum 53 = .ok (.ireturn, 1) := by decide +kernel
theorem dX2_setRow_0 : decode cX2_setRow 0 = .ok (.aload_n 0, 1) := by decide +kernel
theorem dX2_setRow_1 : decode cX2_setRow 1 = .ok (.getfield 15, 3) := by decide +kernel
theorem dX2_setRow_4 : decode cX2_setRow 4 = .ok (.iconst 0, 1) := by decide +kernel
theorem dX2_setRow_5 : decode cX2_setRow 5 = .ok (.iload_n 1, 1) := by decide +kernel
theorem dX2_setRow_6 : decode cX2_setRow 6 = .ok (.iastore, 1) := by decide +kernel
theorem dX2_setRow_7 : decode cX2_setRow 7 = .ok (.aload_n 0, 1) := by decide +kernel
theorem dX2_setRow_8 : decode cX2_setRow 8 = .ok (.getfield 15, 3) := by decide +kernel
theorem dX2_setRow_11 : decode cX2_setRow 11 = .ok (.iconst 1, 1) := by decide +kernel
theorem dX2_setRow_12 : decode cX2_setRow 12 = .ok (.iload_n 2, 1) := by decide +kernel
theorem dX2_setRow_13 : decode cX2_setRow 13 = .ok (.iastore, 1) := by decide +kernel
theorem dX2_setRow_14 : decode cX2_setRow 14 = .ok (.aload_n 0, 1) := by decide +kernel
theorem dX2_setRow_15 : decode cX2_setRow 15 = .ok (.getfield 15, 3) := by decide +kernel
theorem dX2_setRow_18 : decode cX2_setRow 18 = .ok (.iconst 2, 1) := by decide +kernel
theorem dX2_setRow_19 : decode cX2_setRow 19 = .ok (.iload_n 3, 1) := by decide +kernel
theorem dX2_setRow_20 : decode cX2_setRow 20 = .ok (.iastore, 1) := by decide +kernel
theorem dX2_setRow_21 : decode cX2_setRow 21 = .ok (.aload_n 0, 1) := by decide +kernel
theorem dX2_setRow_22 : decode cX2_setRow 22 = .ok (.getfield 15, 3) := by decide +kernel
theorem dX2_setRow_25 : decode cX2_setRow 25 = .ok (.iconst 3, 1) := by decide +kernel
theorem dX2_setRow_26 : decode cX2_setRow 26 = .ok (.iload 4, 2) := by decide +kernel
theorem dX2_setRow_28 : decode cX2_setRow 28 = .ok (.iastore, 1) := by decide +kernel
theorem dX2_setRow_29 : decode cX2_setRow 29 = .ok (.return_, 1) := by decide +kernel
theorem dX2_solves_0 : decode cX2_solves 0 = .ok (.aload_n 0, 1) := by decide +kernel
theorem dX2_solves_1 : decode cX2_solves 1 = .ok (.getfield 9, 3) := by decide +kernel
theorem dX2_solves_4 : decode cX2_solves 4 = .ok (.iconst 0, 1) := by decide +kernel
theorem dX2_solves_5 : decode cX2_solves 5 = .ok (.iaload, 1) := by decide +kernel
theorem dX2_solves_6 : decode cX2_solves 6 = .ok (.iload_n 1, 1) := by decide +kernel
theorem dX2_solves_7 : decode cX2_solves 7 = .ok (.imul, 1) := by decide +kernel
theorem dX2_solves_8 : decode cX2_solves 8 = .ok (.aload_n 0, 1) := by decide +kernel
theorem dX2_solves_9 : decode cX2_solves 9 = .ok (.getfield 9, 3) := by decide +kernel
theorem dX2_solves_12 : decode cX2_solves 12 = .ok (.iconst 1, 1) := by decide +kernel
theorem dX2_solves_13 : decode cX2_solves 13 = .ok (.iaload, 1) := by decide +kernel
theorem dX2_solves_14 : decode cX2_solves 14 = .ok (.iload_n 2, 1) := by decide +kernel
theorem dX2_solves_15 : decode cX2_solves 15 = .ok (.imul, 1) := by decide +kernel
theorem dX2_solves_16 : decode cX2_solves 16 = .ok (.iadd, 1) := by decide +kernel
theorem dX2_solves_17 : decode cX2_solves 17 = .ok (.aload_n 0, 1) := by decide +kernel
theorem dX2_solves_18 : decode cX2_solves 18 = .ok (.getfield 9, 3) := by decide +kernel
theorem dX2_solves_21 : decode cX2_solves 21 = .ok (.iconst 2, 1) := by decide +kernel
theorem dX2_solves_22 : decode cX2_solves 22 = .ok (.iaload, 1) := by decide +kernel
theorem dX2_solves_23 : decode cX2_solves 23 = .ok (.iload_n 3, 1) := by decide +kernel
theorem dX2_solves_24 : decode cX2_solves 24 = .ok (.imul, 1) := by decide +kernel
theorem dX2_solves_25 : decode cX2_solves 25 = .ok (.iadd, 1) := by decide +kernel
theorem dX2_solves_26 : decode cX2_solves 26 = .ok (.aload_n 0, 1) := by decide +kernel
theorem dX2_solves_27 : decode cX2_solves 27 = .ok (.getfield 9, 3) := by decide +kernel
theorem dX2_solves_30 : decode cX2_solves 30 = .ok (.iconst 3, 1) := by decide +kernel
theorem dX2_solves_31 : decode cX2_solves 31 = .ok (.iaload, 1) := by decide +kernel
theorem dX2_solves_32 : decode cX2_solves 32 = .ok (.iload 4, 2) := by decide +kernel
theorem dX2_solves_34 : decode cX2_solves 34 = .ok (.imul, 1) := by decide +kernel
theorem dX2_solves_35 : decode cX2_solves 35 = .ok (.iadd, 1) := by decide +kernel
theorem dX2_solves_36 : decode cX2_solves 36 = .ok (.ifCond .ne 7, 3) := by decide +kernel
theorem dX2_solves_39 : decode cX2_solves 39 = .ok (.iconst 1, 1) := by decide +kernel
theorem dX2_solves_40 : decode cX2_solves 40 = .ok (.goto 4, 3) := by decide +kernel
theorem dX2_solves_43 : decode cX2_solves 43 = .ok (.iconst 0, 1) := by decide +kernel
theorem dX2_solves_44 : decode cX2_solves 44 = .ok (.ireturn, 1) := by decide +kernel
theorem dX2_look_0 : decode cX2_look 0 = .ok (.aload_n 0, 1) := by decide +kernel
theorem dX2_look_1 : decode cX2_look 1 = .ok (.iload_n 1, 1) := by decide +kernel
theorem dX2_look_2 : decode cX2_look 2 = .ok (.iload_n 2, 1) := by decide +kernel
theorem dX2_look_3 : decode cX2_look 3 = .ok (.iload_n 3, 1) := by decide +kernel
theorem dX2_look_4 : decode cX2_look 4 = .ok (.iload 4, 2) := by decide +kernel
theorem dX2_look_6 : decode cX2_look 6 = .ok (.invokevirtual 45, 3) := by decide +kernel
theorem dX2_look_9 : decode cX2_look 9 = .ok (.ifCond .eq 14, 3) := by decide +kernel
theorem dX2_look_12 : decode cX2_look 12 = .ok (.iload_n 1, 1) := by decide +kernel
theorem dX2_look_13 : decode cX2_look 13 = .ok (.iload_n 2, 1) := by decide +kernel
theorem dX2_look_14 : decode cX2_look 14 = .ok (.iadd, 1) := by decide +kernel
theorem dX2_look_15 : decode cX2_look 15 = .ok (.iload_n 3, 1) := by decide +kernel
theorem dX2_look_16 : decode cX2_look 16 = .ok (.iadd, 1) := by decide +kernel
theorem dX2_look_17 : decode cX2_look 17 = .ok (.iload 4, 2) := by decide +kernel
theorem dX2_look_19 : decode cX2_look 19 = .ok (.iadd, 1) := by decide +kernel
theorem dX2_look_20 : decode cX2_look 20 = .ok (.ifCond .ne 4, 3) := by decide +kernel
theorem dX2_look_23 : decode cX2_look 23 = .ok (.return_, 1) := by decide +kernel
theorem dX2_look_24 : decode cX2_look 24 = .ok (.aload_n 0, 1) := by decide +kernel
theorem dX2_look_25 : decode cX2_look 25 = .ok (.iload_n 1, 1) := by decide +kernel
theorem dX2_look_26 : decode cX2_look 26 = .ok (.iload_n 2, 1) := by decide +kernel
theorem dX2_look_27 : decode cX2_look 27 = .ok (.iload_n 3, 1) := by decide +kernel
theorem dX2_look_28 : decode cX2_look 28 = .ok (.iload 4, 2) := by decide +kernel
theorem dX2_look_30 : decode cX2_look 30 = .ok (.invokevirtual 49, 3) := by decide +kernel
theorem dX2_look_33 : decode cX2_look 33 = .ok (.iconst 0, 1) := by decide +kernel
theorem dX2_look_34 : decode cX2_look 34 = .ok (.istore 5, 2) := by decide +kernel
theorem dX2_look_36 : decode cX2_look 36 = .ok (.iload 5, 2) := by decide +kernel
theorem dX2_look_38 : decode cX2_look 38 = .ok (.aload_n 0, 1) := by decide +kernel
theorem dX2_look_39 : decode cX2_look 39 = .ok (.getfield 28, 3) := by decide +kernel
theorem dX2_look_42 : decode cX2_look 42 = .ok (.if_icmp .ge 19, 3) := by decide +kernel
theorem dX2_look_45 : decode cX2_look 45 = .ok (.aload_n 0, 1) := by decide +kernel
theorem dX2_look_46 : decode cX2_look 46 = .ok (.iload 5, 2) := by decide +kernel
theorem dX2_look_48 : decode cX2_look 48 = .ok (.invokevirtual 52, 3) := by decide +kernel
theorem dX2_look_51 : decode cX2_look 51 = .ok (.ifCond .eq 4, 3) := by decide +kernel
theorem dX2_look_54 : decode cX2_look 54 = .ok (.return_, 1) := by decide +kernel
theorem dX2_look_55 : decode cX2_look 55 = .ok (.iinc 5 1, 3) := by decide +kernel
theorem dX2_look_58 : decode cX2_look 58 = .ok (.goto (-22), 3) := by decide +kernel
theorem dX2_look_61 : decode cX2_look 61 = .ok (.aload_n 0, 1) := by decide +kernel
theorem dX2_look_62 : decode cX2_look 62 = .ok (.getfield 28, 3) := by decide +kernel
theorem dX2_look_65 : decode cX2_look 65 = .ok (.bipush 30, 2) := by decide +kernel
theorem dX2_look_67 : decode cX2_look 67 = .ok (.if_icmp .ge 32, 3) := by decide +kernel
theorem dX2_look_70 : decode cX2_look 70 = .ok (.aload_n 0, 1) := by decide +kernel
theorem dX2_look_71 : decode cX2_look 71 = .ok (.getfield 15, 3) := by decide +kernel
theorem dX2_look_74 : decode cX2_look 74 = .ok (.iconst 0, 1) := by decide +kernel
theorem dX2_look_75 : decode cX2_look 75 = .ok (.aload_n 0, 1) := by decide +kernel
theorem dX2_look_76 : decode cX2_look 76 = .ok (.getfield 18, 3) := by decide +kernel
theorem dX2_look_79 : decode cX2_look 79 = .ok (.aload_n 0, 1) := by decide +kernel
theorem dX2_look_80 : decode cX2_look 80 = .ok (.getfield 28, 3) := by decide +kernel
theorem dX2_look_83 : decode cX2_look 83 = .ok (.iconst 4, 1) := by decide +kernel
theorem dX2_look_84 : decode cX2_look 84 = .ok (.imul, 1) := by decide +kernel
theorem dX2_look_85 : decode cX2_look 85 = .ok (.iconst 4, 1) := by decide +kernel
theorem dX2_look_86 : decode cX2_look 86 = .ok (.invokestatic 59, 3) := by decide +kernel
theorem dX2_look_89 : decode cX2_look 89 = .ok (.aload_n 0, 1) := by decide +kernel
theorem dX2_look_90 : decode cX2_look 90 = .ok (.dup, 1) := by decide +kernel
theorem dX2_look_91 : decode cX2_look 91 = .ok (.getfield 28, 3) := by decide +kernel
theorem dX2_look_94 : decode cX2_look 94 = .ok (.iconst 1, 1) := by decide +kernel
theorem dX2_look_95 : decode cX2_look 95 = .ok (.iadd, 1) := by decide +kernel
theorem dX2_look_96 : decode cX2_look 96 = .ok (.putfield 28, 3) := by decide +kernel
theorem dX2_look_99 : decode cX2_look 99 = .ok (.return_, 1) := by decide +kernel
theorem dX2_isAtMostRow_0 : decode cX2_isAtMostRow 0 = .ok (.iconst 0, 1) := by decide +kernel
theorem dX2_isAtMostRow_1 : decode cX2_isAtMostRow 1 = .ok (.istore_n 2, 1) := by decide +kernel
theorem dX2_isAtMostRow_2 : decode cX2_isAtMostRow 2 = .ok (.iload_n 2, 1) := by decide +kernel
theorem dX2_isAtMostRow_3 : decode cX2_isAtMostRow 3 = .ok (.iconst 4, 1) := by decide +kernel
theorem dX2_isAtMostRow_4 : decode cX2_isAtMostRow 4 = .ok (.if_icmp .ge 26, 3) := by decide +kernel
theorem dX2_isAtMostRow_7 : decode cX2_isAtMostRow 7 = .ok (.aload_n 0, 1) := by decide +kernel
theorem dX2_isAtMostRow_8 : decode cX2_isAtMostRow 8 = .ok (.iload_n 1, 1) := by decide +kernel
theorem dX2_isAtMostRow_9 : decode cX2_isAtMostRow 9 = .ok (.iload_n 2, 1) := by decide +kernel
theorem dX2_isAtMostRow_10 : decode cX2_isAtMostRow 10 = .ok (.invokevirtual 36, 3) := by decide +kernel
theorem dX2_isAtMostRow_13 : decode cX2_isAtMostRow 13 = .ok (.aload_n 0, 1) := by decide +kernel
theorem dX2_isAtMostRow_14 : decode cX2_isAtMostRow 14 = .ok (.getfield 15, 3) := by decide +kernel
theorem dX2_isAtMostRow_17 : decode cX2_isAtMostRow 17 = .ok (.iload_n 2, 1) := by decide +kernel
theorem dX2_isAtMostRow_18 : decode cX2_isAtMostRow 18 = .ok (.iaload, 1) := by decide +kernel
theorem dX2_isAtMostRow_19 : decode cX2_isAtMostRow 19 = .ok (.if_icmp .le 5, 3) := by decide +kernel
theorem dX2_isAtMostRow_22 : decode cX2_isAtMostRow 22 = .ok (.iconst 0, 1) := by decide +kernel
theorem dX2_isAtMostRow_23 : decode cX2_isAtMostRow 23 = .ok (.ireturn, 1) := by decide +kernel
theorem dX2_isAtMostRow_24 : decode cX2_isAtMostRow 24 = .ok (.iinc 2 1, 3) := by decide +kernel
theorem dX2_isAtMostRow_27 : decode cX2_isAtMostRow 27 = .ok (.goto (-25), 3) := by decide +kernel
theorem dX2_isAtMostRow_30 : decode cX2_isAtMostRow 30 = .ok (.iconst 1, 1) := by decide +kernel
theorem dX2_isAtMostRow_31 : decode cX2_isAtMostRow 31 = .ok (.ireturn, 1) := by decide +kernel
theorem dX3_init_0 : decode cX3_init 0 = .ok (.aload_n 0, 1) := by decide +kernel
theorem dX3_init_1 : decode cX3_init 1 = .ok (.invokespecial 3, 3) := by decide +kernel
theorem dX3_init_4 : decode cX3_init 4 = .ok (.aload_n 0, 1) := by decide +kernel
theorem dX3_init_5 : decode cX3_init 5 = .ok (.bipush 60, 2) := by decide +kernel
theorem dX3_init_7 : decode cX3_init 7 = .ok (.newarray .int, 2) := by decide +kernel
theorem dX3_init_9 : decode cX3_init 9 = .ok (.putfield 11, 3) := by decide +kernel
theorem dX3_init_12 : decode cX3_init 12 = .ok (.return_, 1) := by decide +kernel
theorem dX4_init_0 : decode cX4_init 0 = .ok (.aload_n 0, 1) := by decide +kernel
theorem dX4_init_1 : decode cX4_init 1 = .ok (.invokespecial 3, 3) := by decide +kernel
theorem dX4_init_4 : decode cX4_init 4 = .ok (.aload_n 0, 1) := by decide +kernel
theorem dX4_init_5 : decode cX4_init 5 = .ok (.bipush 26, 2) := by decide +kernel
theorem dX4_init_7 : decode cX4_init 7 = .ok (.newarray .int, 2) := by decide +kernel
theorem dX4_init_9 : decode cX4_init 9 = .ok (.putfield 9, 3) := by decide +kernel
theorem dX4_init_12 : decode cX4_init 12 = .ok (.aload_n 0, 1) := by decide +kernel
theorem dX4_init_13 : decode cX4_init 13 = .ok (.bipush 8, 2) := by decide +kernel
theorem dX4_init_15 : decode cX4_init 15 = .ok (.newarray .int, 2) := by decide +kernel
theorem dX4_init_17 : decode cX4_init 17 = .ok (.putfield 13, 3) := by decide +kernel
theorem dX4_init_20 : decode cX4_init 20 = .ok (.aload_n 0, 1) := by decide +kernel
theorem dX4_init_21 : decode cX4_init 21 = .ok (.iconst 2, 1) := by decide +kernel
theorem dX4_init_22 : decode cX4_init 22 = .ok (.bipush 24, 2) := by decide +kernel
theorem dX4_init_24 : decode cX4_init 24 = .ok (.multianewarray 16 2, 4) := by decide +kernel
theorem dX4_init_28 : decode cX4_init 28 = .ok (.putfield 18, 3) := by decide +kernel
theorem dX4_init_31 : decode cX4_init 31 = .ok (.aload_n 0, 1) := by decide +kernel
theorem dX4_init_32 : decode cX4_init 32 = .ok (.iconst 2, 1) := by decide +kernel
theorem dX4_init_33 : decode cX4_init 33 = .ok (.newarray .boolean, 2) := by decide +kernel
theorem dX4_init_35 : decode cX4_init 35 = .ok (.putfield 21, 3) := by decide +kernel
theorem dX4_init_38 : decode cX4_init 38 = .ok (.aload_n 0, 1) := by decide +kernel
theorem dX4_init_39 : decode cX4_init 39 = .ok (.new 25, 3) := by decide +kernel
theorem dX4_init_42 : decode cX4_init 42 = .ok (.dup, 1) := by decide +kernel
theorem dX4_init_43 : decode cX4_init 43 = .ok (.invokespecial 27, 3) := by decide +kernel
theorem dX4_init_46 : decode cX4_init 46 = .ok (.putfield 28, 3) := by decide +kernel
theorem dX4_init_49 : decode cX4_init 49 = .ok (.aload_n 0, 1) := by decide +kernel
theorem dX4_init_50 : decode cX4_init 50 = .ok (.new 32, 3) := by decide +kernel
theorem dX4_init_53 : decode cX4_init 53 = .ok (.dup, 1) := by decide +kernel
theorem dX4_init_54 : decode cX4_init 54 = .ok (.invokespecial 34, 3) := by decide +kernel
theorem dX4_init_57 : decode cX4_init 57 = .ok (.putfield 35, 3) := by decide +kernel
theorem dX4_init_60 : decode cX4_init 60 = .ok (.aload_n 0, 1) := by decide +kernel
theorem dX4_init_61 : decode cX4_init 61 = .ok (.new 39, 3) := by decide +kernel
theorem dX4_init_64 : decode cX4_init 64 = .ok (.dup, 1) := by decide +kernel
theorem dX4_init_65 : decode cX4_init 65 = .ok (.invokespecial 41, 3) := by decide +kernel
theorem dX4_init_68 : decode cX4_init 68 = .ok (.putfield 42, 3) := by decide +kernel
theorem dX4_init_71 : decode cX4_init 71 = .ok (.aload_n 0, 1) := by decide +kernel
theorem dX4_init_72 : decode cX4_init 72 = .ok (.new 46, 3) := by decide +kernel
theorem dX4_init_75 : decode cX4_init 75 = .ok (.dup, 1) := by decide +kernel
theorem dX4_init_76 : decode cX4_init 76 = .ok (.invokespecial 48, 3) := by decide +kernel
theorem dX4_init_79 : decode cX4_init 79 = .ok (.putfield 49, 3) := by decide +kernel
theorem dX4_init_82 : decode cX4_init 82 = .ok (.aload_n 0, 1) := by decide +kernel
theorem dX4_init_83 : decode cX4_init 83 = .ok (.getfield 9, 3) := by decide +kernel
theorem dX4_init_86 : decode cX4_init 86 = .ok (.bipush 24, 2) := by decide +kernel
theorem dX4_init_88 : decode cX4_init 88 = .ok (.iconst 1, 1) := by decide +kernel
theorem dX4_init_89 : decode cX4_init 89 = .ok (.iastore, 1) := by decide +kernel
theorem dX4_init_90 : decode cX4_init 90 = .ok (.aload_n 0, 1) := by decide +kernel
theorem dX4_init_91 : decode cX4_init 91 = .ok (.getfield 9, 3) := by decide +kernel
theorem dX4_init_94 : decode cX4_init 94 = .ok (.bipush 25, 2) := by decide +kernel
theorem dX4_init_96 : decode cX4_init 96 = .ok (.bipush 9, 2) := by decide +kernel
theorem dX4_init_98 : decode cX4_init 98 = .ok (.iastore, 1) := by decide +kernel
theorem dX4_init_99 : decode cX4_init 99 = .ok (.return_, 1) := by decide +kernel
theorem dX4_constant_0 : decode cX4_constant 0 = .ok (.iload_n 1, 1) := by decide +kernel
theorem dX4_constant_1 : decode cX4_constant 1 = .ok (.iconst 3, 1) := by decide +kernel
theorem dX4_constant_2 : decode cX4_constant 2 = .ok (.invokestatic 53, 3) := by decide +kernel
theorem dX4_constant_5 : decode cX4_constant 5 = .ok (.iload_n 2, 1) := by decide +kernel
theorem dX4_constant_6 : decode cX4_constant 6 = .ok (.iconst 4, 1) := by decide +kernel
theorem dX4_constant_7 : decode cX4_constant 7 = .ok (.invokestatic 53, 3) := by decide +kernel
theorem dX4_constant_10 : decode cX4_constant 10 = .ok (.iload_n 3, 1) := by decide +kernel
theorem dX4_constant_11 : decode cX4_constant 11 = .ok (.iconst 0, 1) := by decide +kernel
theorem dX4_constant_12 : decode cX4_constant 12 = .ok (.bipush 9, 2) := by decide +kernel
theorem dX4_constant_14 : decode cX4_constant 14 = .ok (.invokestatic 57, 3) := by decide +kernel
theorem dX4_constant_17 : decode cX4_constant 17 = .ok (.aload_n 0, 1) := by decide +kernel
theorem dX4_constant_18 : decode cX4_constant 18 = .ok (.iload_n 1, 1) := by decide +kernel
theorem dX4_constant_19 : decode cX4_constant 19 = .ok (.bipush 8, 2) := by decide +kernel
theorem dX4_constant_21 : decode cX4_constant 21 = .ok (.imul, 1) := by decide +kernel
theorem dX4_constant_22 : decode cX4_constant 22 = .ok (.iload_n 2, 1) := by decide +kernel
theorem dX4_constant_23 : decode cX4_constant 23 = .ok (.iadd, 1) := by decide +kernel
theorem dX4_constant_24 : decode cX4_constant 24 = .ok (.iload_n 3, 1) := by decide +kernel
theorem dX4_constant_25 : decode cX4_constant 25 = .ok (.invokevirtual 61, 3) := by decide +kernel
theorem dX4_constant_28 : decode cX4_constant 28 = .ok (.ireturn, 1) := by decide +kernel
theorem dX4_variable_0 : decode cX4_variable 0 = .ok (.iload_n 1, 1) := by decide +kernel
theorem dX4_variable_1 : decode cX4_variable 1 = .ok (.iconst 2, 1) := by decide +kernel
theorem dX4_variable_2 : decode cX4_variable 2 = .ok (.invokestatic 53, 3) := by decide +kernel
theorem dX4_variable_5 : decode cX4_variable 5 = .ok (.iload_n 2, 1) := by decide +kernel
theorem dX4_variable_6 : decode cX4_variable 6 = .ok (.iconst 4, 1) := by decide +kernel
theorem dX4_variable_7 : decode cX4_variable 7 = .ok (.invokestatic 53, 3) := by decide +kernel
theorem dX4_variable_10 : decode cX4_variable 10 = .ok (.iload_n 3, 1) := by decide +kernel
theorem dX4_variable_11 : decode cX4_variable 11 = .ok (.iconst 0, 1) := by decide +kernel
theorem dX4_variable_12 : decode cX4_variable 12 = .ok (.iconst 5, 1) := by decide +kernel
theorem dX4_variable_13 : decode cX4_variable 13 = .ok (.invokestatic 57, 3) := by decide +kernel
theorem dX4_variable_16 : decode cX4_variable 16 = .ok (.aload_n 0, 1) := by decide +kernel
theorem dX4_variable_17 : decode cX4_variable 17 = .ok (.iload_n 1, 1) := by decide +kernel
theorem dX4_variable_18 : decode cX4_variable 18 = .ok (.bipush 8, 2) := by decide +kernel
theorem dX4_variable_20 : decode cX4_variable 20 = .ok (.imul, 1) := by decide +kernel
theorem dX4_variable_21 : decode cX4_variable 21 = .ok (.iconst 4, 1) := by decide +kernel
theorem dX4_variable_22 : decode cX4_variable 22 = .ok (.iadd, 1) := by decide +kernel
theorem dX4_variable_23 : decode cX4_variable 23 = .ok (.iload_n 2, 1) := by decide +kernel
theorem dX4_variable_24 : decode cX4_variable 24 = .ok (.iadd, 1) := by decide +kernel
theorem dX4_variable_25 : decode cX4_variable 25 = .ok (.iload_n 3, 1) := by decide +kernel
theorem dX4_variable_26 : decode cX4_variable 26 = .ok (.invokevirtual 61, 3) := by decide +kernel
theorem dX4_variable_29 : decode cX4_variable 29 = .ok (.ireturn, 1) := by decide +kernel
theorem dX4_multiply_0 : decode cX4_multiply 0 = .ok (.iload_n 1, 1) := by decide +kernel
theorem dX4_multiply_1 : decode cX4_multiply 1 = .ok (.iconst 3, 1) := by decide +kernel
theorem dX4_multiply_2 : decode cX4_multiply 2 = .ok (.invokestatic 53, 3) := by decide +kernel
theorem dX4_multiply_5 : decode cX4_multiply 5 = .ok (.iload_n 2, 1) := by decide +kernel
theorem dX4_multiply_6 : decode cX4_multiply 6 = .ok (.iconst 3, 1) := by decide +kernel
theorem dX4_multiply_7 : decode cX4_multiply 7 = .ok (.invokestatic 53, 3) := by decide +kernel
theorem dX4_multiply_10 : decode cX4_multiply 10 = .ok (.iconst 0, 1) := by decide +kernel
theorem dX4_multiply_11 : decode cX4_multiply 11 = .ok (.istore_n 3, 1) := by decide +kernel
theorem dX4_multiply_12 : decode cX4_multiply 12 = .ok (.iload_n 3, 1) := by decide +kernel
theorem dX4_multiply_13 : decode cX4_multiply 13 = .ok (.bipush 8, 2) := by decide +kernel
theorem dX4_multiply_15 : decode cX4_multiply 15 = .ok (.if_icmp .ge 38, 3) := by decide +kernel
theorem dX4_multiply_18 : decode cX4_multiply 18 = .ok (.aload_n 0, 1) := by decide +kernel
theorem dX4_multiply_19 : decode cX4_multiply 19 = .ok (.getfield 13, 3) := by decide +kernel
theorem dX4_multiply_22 : decode cX4_multiply 22 = .ok (.iload_n 3, 1) := by decide +kernel
theorem dX4_multiply_23 : decode cX4_multiply 23 = .ok (.aload_n 0, 1) := by decide +kernel
theorem dX4_multiply_24 : decode cX4_multiply 24 = .ok (.getfield 9, 3) := by decide +kernel
theorem dX4_multiply_27 : decode cX4_multiply 27 = .ok (.iload_n 1, 1) := by decide +kernel
theorem dX4_multiply_28 : decode cX4_multiply 28 = .ok (.bipush 8, 2) := by decide +kernel
theorem dX4_multiply_30 : decode cX4_multiply 30 = .ok (.imul, 1) := by decide +kernel
theorem dX4_multiply_31 : decode cX4_multiply 31 = .ok (.iload_n 3, 1) := by decide +kernel
theorem dX4_multiply_32 : decode cX4_multiply 32 = .ok (.iadd, 1) := by decide +kernel
theorem dX4_multiply_33 : decode cX4_multiply 33 = .ok (.iaload, 1) := by decide +kernel
theorem dX4_multiply_34 : decode cX4_multiply 34 = .ok (.aload_n 0, 1) := by decide +kernel
theorem dX4_multiply_35 : decode cX4_multiply 35 = .ok (.getfield 9, 3) := by decide +kernel
theorem dX4_multiply_38 : decode cX4_multiply 38 = .ok (.iload_n 2, 1) := by decide +kernel
theorem dX4_multiply_39 : decode cX4_multiply 39 = .ok (.bipush 8, 2) := by decide +kernel
theorem dX4_multiply_41 : decode cX4_multiply 41 = .ok (.imul, 1) := by decide +kernel
theorem dX4_multiply_42 : decode cX4_multiply 42 = .ok (.iload_n 3, 1) := by decide +kernel
theorem dX4_multiply_43 : decode cX4_multiply 43 = .ok (.iadd, 1) := by decide +kernel
theorem dX4_multiply_44 : decode cX4_multiply 44 = .ok (.iaload, 1) := by decide +kernel
theorem dX4_multiply_45 : decode cX4_multiply 45 = .ok (.iadd, 1) := by decide +kernel
theorem dX4_multiply_46 : decode cX4_multiply 46 = .ok (.iastore, 1) := by decide +kernel
theorem dX4_multiply_47 : decode cX4_multiply 47 = .ok (.iinc 3 1, 3) := by decide +kernel
theorem dX4_multiply_50 : decode cX4_multiply 50 = .ok (.goto (-38), 3) := by decide +kernel
theorem dX4_multiply_53 : decode cX4_multiply 53 = .ok (.aload_n 0, 1) := by decide +kernel
theorem dX4_multiply_54 : decode cX4_multiply 54 = .ok (.iload_n 1, 1) := by decide +kernel
theorem dX4_multiply_55 : decode cX4_multiply 55 = .ok (.invokevirtual 65, 3) := by decide +kernel
theorem dX4_multiply_58 : decode cX4_multiply 58 = .ok (.ireturn, 1) := by decide +kernel
theorem dX4_cancel_0 : decode cX4_cancel 0 = .ok (.iload_n 1, 1) := by decide +kernel
theorem dX4_cancel_1 : decode cX4_cancel 1 = .ok (.iconst 3, 1) := by decide +kernel
theorem dX4_cancel_2 : decode cX4_cancel 2 = .ok (.invokestatic 53, 3) := by decide +kernel
theorem dX4_cancel_5 : decode cX4_cancel 5 = .ok (.iload_n 2, 1) := by decide +kernel
theorem dX4_cancel_6 : decode cX4_cancel 6 = .ok (.iconst 3, 1) := by decide +kernel
theorem dX4_cancel_7 : decode cX4_cancel 7 = .ok (.invokestatic 53, 3) := by decide +kernel
theorem dX4_cancel_10 : decode cX4_cancel 10 = .ok (.aload_n 0, 1) := by decide +kernel
theorem dX4_cancel_11 : decode cX4_cancel 11 = .ok (.invokevirtual 87, 3) := by decide +kernel
theorem dX4_cancel_14 : decode cX4_cancel 14 = .ok (.iconst 0, 1) := by decide +kernel
theorem dX4_cancel_15 : decode cX4_cancel 15 = .ok (.istore_n 3, 1) := by decide +kernel
theorem dX4_cancel_16 : decode cX4_cancel 16 = .ok (.iconst 0, 1) := by decide +kernel
theorem dX4_cancel_17 : decode cX4_cancel 17 = .ok (.istore 4, 2) := by decide +kernel
theorem dX4_cancel_19 : decode cX4_cancel 19 = .ok (.iload 4, 2) := by decide +kernel
theorem dX4_cancel_21 : decode cX4_cancel 21 = .ok (.bipush 8, 2) := by decide +kernel
theorem dX4_cancel_23 : decode cX4_cancel 23 = .ok (.if_icmp .ge 85, 3) := by decide +kernel
theorem dX4_cancel_26 : decode cX4_cancel 26 = .ok (.aload_n 0, 1) := by decide +kernel
theorem dX4_cancel_27 : decode cX4_cancel 27 = .ok (.getfield 9, 3) := by decide +kernel
theorem dX4_cancel_30 : decode cX4_cancel 30 = .ok (.iload_n 1, 1) := by decide +kernel
theorem dX4_cancel_31 : decode cX4_cancel 31 = .ok (.bipush 8, 2) := by decide +kernel
theorem dX4_cancel_33 : decode cX4_cancel 33 = .ok (.imul, 1) := by decide +kernel
theorem dX4_cancel_34 : decode cX4_cancel 34 = .ok (.iload 4, 2) := by decide +kernel
theorem dX4_cancel_36 : decode cX4_cancel 36 = .ok (.iadd, 1) := by decide +kernel
theorem dX4_cancel_37 : decode cX4_cancel 37 = .ok (.iaload, 1) := by decide +kernel
theorem dX4_cancel_38 : decode cX4_cancel 38 = .ok (.istore 5, 2) := by decide +kernel
theorem dX4_cancel_40 : decode cX4_cancel 40 = .ok (.aload_n 0, 1) := by decide +kernel
theorem dX4_cancel_41 : decode cX4_cancel 41 = .ok (.getfield 9, 3) := by decide +kernel
theorem dX4_cancel_44 : decode cX4_cancel 44 = .ok (.iload_n 2, 1) := by decide +kernel
theorem dX4_cancel_45 : decode cX4_cancel 45 = .ok (.bipush 8, 2) := by decide +kernel
theorem dX4_cancel_47 : decode cX4_cancel 47 = .ok (.imul, 1) := by decide +kernel
theorem dX4_cancel_48 : decode cX4_cancel 48 = .ok (.iload 4, 2) := by decide +kernel
theorem dX4_cancel_50 : decode cX4_cancel 50 = .ok (.iadd, 1) := by decide +kernel
theorem dX4_cancel_51 : decode cX4_cancel 51 = .ok (.iaload, 1) := by decide +kernel
theorem dX4_cancel_52 : decode cX4_cancel 52 = .ok (.istore 6, 2) := by decide +kernel
theorem dX4_cancel_54 : decode cX4_cancel 54 = .ok (.iload 5, 2) := by decide +kernel
theorem dX4_cancel_56 : decode cX4_cancel 56 = .ok (.iload 6, 2) := by decide +kernel
theorem dX4_cancel_58 : decode cX4_cancel 58 = .ok (.invokestatic 90, 3) := by decide +kernel
theorem dX4_cancel_61 : decode cX4_cancel 61 = .ok (.istore 7, 2) := by decide +kernel
theorem dX4_cancel_63 : decode cX4_cancel 63 = .ok (.aload_n 0, 1) := by decide +kernel
theorem dX4_cancel_64 : decode cX4_cancel 64 = .ok (.getfield 9, 3) := by decide +kernel
theorem dX4_cancel_67 : decode cX4_cancel 67 = .ok (.iload_n 1, 1) := by decide +kernel
theorem dX4_cancel_68 : decode cX4_cancel 68 = .ok (.bipush 8, 2) := by decide +kernel
theorem dX4_cancel_70 : decode cX4_cancel 70 = .ok (.imul, 1) := by decide +kernel
theorem dX4_cancel_71 : decode cX4_cancel 71 = .ok (.iload 4, 2) := by decide +kernel
theorem dX4_cancel_73 : decode cX4_cancel 73 = .ok (.iadd, 1) := by decide +kernel
theorem dX4_cancel_74 : decode cX4_cancel 74 = .ok (.iload 5, 2) := by decide +kernel
theorem dX4_cancel_76 : decode cX4_cancel 76 = .ok (.iload 7, 2) := by decide +kernel
theorem dX4_cancel_78 : decode cX4_cancel 78 = .ok (.isub, 1) := by decide +kernel
theorem dX4_cancel_79 : decode cX4_cancel 79 = .ok (.iastore, 1) := by decide +kernel
theorem dX4_cancel_80 : decode cX4_cancel 80 = .ok (.aload_n 0, 1) := by decide +kernel
theorem dX4_cancel_81 : decode cX4_cancel 81 = .ok (.getfield 9, 3) := by decide +kernel
theorem dX4_cancel_84 : decode cX4_cancel 84 = .ok (.iload_n 2, 1) := by decide +kernel
theorem dX4_cancel_85 : decode cX4_cancel 85 = .ok (.bipush 8, 2) := by decide +kernel
theorem dX4_cancel_87 : decode cX4_cancel 87 = .ok (.imul, 1) := by decide +kernel
theorem dX4_cancel_88 : decode cX4_cancel 88 = .ok (.iload 4, 2) := by decide +kernel
theorem dX4_cancel_90 : decode cX4_cancel 90 = .ok (.iadd, 1) := by decide +kernel
theorem dX4_cancel_91 : decode cX4_cancel 91 = .ok (.iload 6, 2) := by decide +kernel
theorem dX4_cancel_93 : decode cX4_cancel 93 = .ok (.iload 7, 2) := by decide +kernel
theorem dX4_cancel_95 : decode cX4_cancel 95 = .ok (.isub, 1) := by decide +kernel
theorem dX4_cancel_96 : decode cX4_cancel 96 = .ok (.iastore, 1) := by decide +kernel
theorem dX4_cancel_97 : decode cX4_cancel 97 = .ok (.iload_n 3, 1) := by decide +kernel
theorem dX4_cancel_98 : decode cX4_cancel 98 = .ok (.iload 7, 2) := by decide +kernel
theorem dX4_cancel_100 : decode cX4_cancel 100 = .ok (.iadd, 1) := by decide +kernel
theorem dX4_cancel_101 : decode cX4_cancel 101 = .ok (.istore_n 3, 1) := by decide +kernel
theorem dX4_cancel_102 : decode cX4_cancel 102 = .ok (.iinc 4 1, 3) := by decide +kernel
theorem dX4_cancel_105 : decode cX4_cancel 105 = .ok (.goto (-86), 3) := by decide +kernel
theorem dX4_cancel_108 : decode cX4_cancel 108 = .ok (.iload_n 3, 1) := by decide +kernel
theorem dX4_cancel_109 : decode cX4_cancel 109 = .ok (.ireturn, 1) := by decide +kernel
theorem dX4_set_0 : decode cX4_set 0 = .ok (.iload_n 1, 1) := by decide +kernel
theorem dX4_set_1 : decode cX4_set 1 = .ok (.iconst 2, 1) := by decide +kernel
theorem dX4_set_2 : decode cX4_set 2 = .ok (.invokestatic 53, 3) := by decide +kernel
theorem dX4_set_5 : decode cX4_set 5 = .ok (.iload_n 2, 1) := by decide +kernel
theorem dX4_set_6 : decode cX4_set 6 = .ok (.iconst 0, 1) := by decide +kernel
theorem dX4_set_7 : decode cX4_set 7 = .ok (.iload_n 1, 1) := by decide +kernel
theorem dX4_set_8 : decode cX4_set 8 = .ok (.ifCond .ne 7, 3) := by decide +kernel
theorem dX4_set_11 : decode cX4_set 11 = .ok (.iconst 1, 1) := by decide +kernel
theorem dX4_set_12 : decode cX4_set 12 = .ok (.goto 5, 3) := by decide +kernel
theorem dX4_set_15 : decode cX4_set 15 = .ok (.bipush 9, 2) := by decide +kernel
theorem dX4_set_17 : decode cX4_set 17 = .ok (.invokestatic 57, 3) := by decide +kernel
theorem dX4_set_20 : decode cX4_set 20 = .ok (.aload_n 0, 1) := by decide +kernel
theorem dX4_set_21 : decode cX4_set 21 = .ok (.bipush 24, 2) := by decide +kernel
theorem dX4_set_23 : decode cX4_set 23 = .ok (.iload_n 1, 1) := by decide +kernel
theorem dX4_set_24 : decode cX4_set 24 = .ok (.iadd, 1) := by decide +kernel
theorem dX4_set_25 : decode cX4_set 25 = .ok (.iload_n 2, 1) := by decide +kernel
theorem dX4_set_26 : decode cX4_set 26 = .ok (.invokevirtual 61, 3) := by decide +kernel
theorem dX4_set_29 : decode cX4_set 29 = .ok (.ireturn, 1) := by decide +kernel
theorem dX4_times_0 : decode cX4_times 0 = .ok (.iload_n 1, 1) := by decide +kernel
theorem dX4_times_1 : decode cX4_times 1 = .ok (.iconst 3, 1) := by decide +kernel
theorem dX4_times_2 : decode cX4_times 2 = .ok (.invokestatic 53, 3) := by decide +kernel
theorem dX4_times_5 : decode cX4_times 5 = .ok (.iload_n 2, 1) := by decide +kernel
theorem dX4_times_6 : decode cX4_times 6 = .ok (.bipush 8, 2) := by decide +kernel
theorem dX4_times_8 : decode cX4_times 8 = .ok (.invokestatic 53, 3) := by decide +kernel
theorem dX4_times_11 : decode cX4_times 11 = .ok (.aload_n 0, 1) := by decide +kernel
theorem dX4_times_12 : decode cX4_times 12 = .ok (.getfield 9, 3) := by decide +kernel
theorem dX4_times_15 : decode cX4_times 15 = .ok (.iload_n 1, 1) := by decide +kernel
theorem dX4_times_16 : decode cX4_times 16 = .ok (.bipush 8, 2) := by decide +kernel
theorem dX4_times_18 : decode cX4_times 18 = .ok (.imul, 1) := by decide +kernel
theorem dX4_times_19 : decode cX4_times 19 = .ok (.iload_n 2, 1) := by decide +kernel
theorem dX4_times_20 : decode cX4_times 20 = .ok (.iadd, 1) := by decide +kernel
theorem dX4_times_21 : decode cX4_times 21 = .ok (.iaload, 1) := by decide +kernel
theorem dX4_times_22 : decode cX4_times 22 = .ok (.ireturn, 1) := by decide +kernel
theorem dX4_rest_0 : decode cX4_rest 0 = .ok (.iload_n 1, 1) := by decide +kernel
theorem dX4_rest_1 : decode cX4_rest 1 = .ok (.iconst 4, 1) := by decide +kernel
theorem dX4_rest_2 : decode cX4_rest 2 = .ok (.invokestatic 53, 3) := by decide +kernel
theorem dX4_rest_5 : decode cX4_rest 5 = .ok (.aload_n 0, 1) := by decide +kernel
theorem dX4_rest_6 : decode cX4_rest 6 = .ok (.iload_n 1, 1) := by decide +kernel
theorem dX4_rest_7 : decode cX4_rest 7 = .ok (.invokevirtual 145, 3) := by decide +kernel
theorem dX4_rest_10 : decode cX4_rest 10 = .ok (.ireturn, 1) := by decide +kernel
theorem dX4_solutions_0 : decode cX4_solutions 0 = .ok (.iload_n 1, 1) := by decide +kernel
theorem dX4_solutions_1 : decode cX4_solutions 1 = .ok (.iconst 4, 1) := by decide +kernel
theorem dX4_solutions_2 : decode cX4_solutions 2 = .ok (.invokestatic 53, 3) := by decide +kernel
theorem dX4_solutions_5 : decode cX4_solutions 5 = .ok (.aload_n 0, 1) := by decide +kernel
theorem dX4_solutions_6 : decode cX4_solutions 6 = .ok (.getfield 42, 3) := by decide +kernel
theorem dX4_solutions_9 : decode cX4_solutions 9 = .ok (.aload_n 0, 1) := by decide +kernel
theorem dX4_solutions_10 : decode cX4_solutions 10 = .ok (.getfield 9, 3) := by decide +kernel
theorem dX4_solutions_13 : decode cX4_solutions 13 = .ok (.invokevirtual 148, 3) := by decide +kernel
theorem dX4_solutions_16 : decode cX4_solutions 16 = .ok (.aload_n 0, 1) := by decide +kernel
theorem dX4_solutions_17 : decode cX4_solutions 17 = .ok (.getfield 42, 3) := by decide +kernel
theorem dX4_solutions_20 : decode cX4_solutions 20 = .ok (.iload_n 1, 1) := by decide +kernel
theorem dX4_solutions_21 : decode cX4_solutions 21 = .ok (.invokevirtual 151, 3) := by decide +kernel
theorem dX4_solutions_24 : decode cX4_solutions 24 = .ok (.ireturn, 1) := by decide +kernel
theorem dX4_matchers_0 : decode cX4_matchers 0 = .ok (.iload_n 1, 1) := by decide +kernel
theorem dX4_matchers_1 : decode cX4_matchers 1 = .ok (.iconst 0, 1) := by decide +kernel
theorem dX4_matchers_2 : decode cX4_matchers 2 = .ok (.iconst 1, 1) := by decide +kernel
theorem dX4_matchers_3 : decode cX4_matchers 3 = .ok (.invokestatic 57, 3) := by decide +kernel
theorem dX4_matchers_6 : decode cX4_matchers 6 = .ok (.aload_n 0, 1) := by decide +kernel
theorem dX4_matchers_7 : decode cX4_matchers 7 = .ok (.getfield 42, 3) := by decide +kernel
theorem dX4_matchers_10 : decode cX4_matchers 10 = .ok (.aload_n 0, 1) := by decide +kernel
theorem dX4_matchers_11 : decode cX4_matchers 11 = .ok (.getfield 9, 3) := by decide +kernel
theorem dX4_matchers_14 : decode cX4_matchers 14 = .ok (.invokevirtual 148, 3) := by decide +kernel
theorem dX4_matchers_17 : decode cX4_matchers 17 = .ok (.iload_n 1, 1) := by decide +kernel
theorem dX4_matchers_18 : decode cX4_matchers 18 = .ok (.ifCond .ne 13, 3) := by decide +kernel
theorem dX4_matchers_21 : decode cX4_matchers 21 = .ok (.aload_n 0, 1) := by decide +kernel
theorem dX4_matchers_22 : decode cX4_matchers 22 = .ok (.getfield 42, 3) := by decide +kernel
theorem dX4_matchers_25 : decode cX4_matchers 25 = .ok (.invokevirtual 154, 3) := by decide +kernel
theorem dX4_matchers_28 : decode cX4_matchers 28 = .ok (.goto 10, 3) := by decide +kernel
theorem dX4_matchers_31 : decode cX4_matchers 31 = .ok (.aload_n 0, 1) := by decide +kernel
theorem dX4_matchers_32 : decode cX4_matchers 32 = .ok (.getfield 42, 3) := by decide +kernel
theorem dX4_matchers_35 : decode cX4_matchers 35 = .ok (.invokevirtual 158, 3) := by decide +kernel
theorem dX4_matchers_38 : decode cX4_matchers 38 = .ok (.lreturn, 1) := by decide +kernel
theorem dX4_least_0 : decode cX4_least 0 = .ok (.iload_n 2, 1) := by decide +kernel
theorem dX4_least_1 : decode cX4_least 1 = .ok (.iconst 4, 1) := by decide +kernel
theorem dX4_least_2 : decode cX4_least 2 = .ok (.invokestatic 53, 3) := by decide +kernel
theorem dX4_least_5 : decode cX4_least 5 = .ok (.iload_n 1, 1) := by decide +kernel
theorem dX4_least_6 : decode cX4_least 6 = .ok (.ifCond .ge 13, 3) := by decide +kernel
theorem dX4_least_9 : decode cX4_least 9 = .ok (.new 116, 3) := by decide +kernel
theorem dX4_least_12 : decode cX4_least 12 = .ok (.dup, 1) := by decide +kernel
theorem dX4_least_13 : decode cX4_least 13 = .ok (.ldc 164, 2) := by decide +kernel
theorem dX4_least_15 : decode cX4_least 15 = .ok (.invokespecial 120, 3) := by decide +kernel
theorem dX4_least_18 : decode cX4_least 18 = .ok (.athrow, 1) := by decide +kernel
theorem dX4_least_19 : decode cX4_least 19 = .ok (.aload_n 0, 1) := by decide +kernel
theorem dX4_least_20 : decode cX4_least 20 = .ok (.getfield 49, 3) := by decide +kernel
theorem dX4_least_23 : decode cX4_least 23 = .ok (.aload_n 0, 1) := by decide +kernel
theorem dX4_least_24 : decode cX4_least 24 = .ok (.getfield 9, 3) := by decide +kernel
theorem dX4_least_27 : decode cX4_least 27 = .ok (.invokevirtual 166, 3) := by decide +kernel
theorem dX4_least_30 : decode cX4_least 30 = .ok (.aload_n 0, 1) := by decide +kernel
theorem dX4_least_31 : decode cX4_least 31 = .ok (.getfield 49, 3) := by decide +kernel
theorem dX4_least_34 : decode cX4_least 34 = .ok (.iload_n 1, 1) := by decide +kernel
theorem dX4_least_35 : decode cX4_least 35 = .ok (.iload_n 2, 1) := by decide +kernel
theorem dX4_least_36 : decode cX4_least 36 = .ok (.invokevirtual 167, 3) := by decide +kernel
theorem dX4_least_39 : decode cX4_least 39 = .ok (.ireturn, 1) := by decide +kernel
theorem dX4_count_0 : decode cX4_count 0 = .ok (.iload_n 1, 1) := by decide +kernel
theorem dX4_count_1 : decode cX4_count 1 = .ok (.iconst 0, 1) := by decide +kernel
theorem dX4_count_2 : decode cX4_count 2 = .ok (.bipush 10, 2) := by decide +kernel
theorem dX4_count_4 : decode cX4_count 4 = .ok (.invokestatic 57, 3) := by decide +kernel
theorem dX4_count_7 : decode cX4_count 7 = .ok (.aload_n 0, 1) := by decide +kernel
theorem dX4_count_8 : decode cX4_count 8 = .ok (.getfield 49, 3) := by decide +kernel
theorem dX4_count_11 : decode cX4_count 11 = .ok (.aload_n 0, 1) := by decide +kernel
theorem dX4_count_12 : decode cX4_count 12 = .ok (.getfield 9, 3) := by decide +kernel
theorem dX4_count_15 : decode cX4_count 15 = .ok (.invokevirtual 166, 3) := by decide +kernel
theorem dX4_count_18 : decode cX4_count 18 = .ok (.iload_n 1, 1) := by decide +kernel
theorem dX4_count_19 : decode cX4_count 19 = .ok (.tableswitch 133 0 9 #[53, 53, 53, 59, 64, 72, 80, 85, 98, 103], 53) := by decide +kernel
theorem dX4_count_72 : decode cX4_count 72 = .ok (.aload_n 0, 1) := by decide +kernel
theorem dX4_count_73 : decode cX4_count 73 = .ok (.iload_n 1, 1) := by decide +kernel
theorem dX4_count_74 : decode cX4_count 74 = .ok (.invokevirtual 174, 3) := by decide +kernel
theorem dX4_count_77 : decode cX4_count 77 = .ok (.ireturn, 1) := by decide +kernel
theorem dX4_count_78 : decode cX4_count 78 = .ok (.aload_n 0, 1) := by decide +kernel
theorem dX4_count_79 : decode cX4_count 79 = .ok (.invokevirtual 177, 3) := by decide +kernel
theorem dX4_count_82 : decode cX4_count 82 = .ok (.ireturn, 1) := by decide +kernel
theorem dX4_count_83 : decode cX4_count 83 = .ok (.aload_n 0, 1) := by decide +kernel
theorem dX4_count_84 : decode cX4_count 84 = .ok (.getfield 49, 3) := by decide +kernel
theorem dX4_count_87 : decode cX4_count 87 = .ok (.invokevirtual 180, 3) := by decide +kernel
theorem dX4_count_90 : decode cX4_count 90 = .ok (.ireturn, 1) := by decide +kernel
theorem dX4_count_91 : decode cX4_count 91 = .ok (.aload_n 0, 1) := by decide +kernel
theorem dX4_count_92 : decode cX4_count 92 = .ok (.getfield 49, 3) := by decide +kernel
theorem dX4_count_95 : decode cX4_count 95 = .ok (.invokevirtual 181, 3) := by decide +kernel
theorem dX4_count_98 : decode cX4_count 98 = .ok (.ireturn, 1) := by decide +kernel
theorem dX4_count_99 : decode cX4_count 99 = .ok (.aload_n 0, 1) := by decide +kernel
theorem dX4_count_100 : decode cX4_count 100 = .ok (.invokevirtual 184, 3) := by decide +kernel
theorem dX4_count_103 : decode cX4_count 103 = .ok (.ireturn, 1) := by decide +kernel
theorem dX4_count_104 : decode cX4_count 104 = .ok (.aload_n 0, 1) := by decide +kernel
theorem dX4_count_105 : decode cX4_count 105 = .ok (.invokevirtual 187, 3) := by decide +kernel
theorem dX4_count_108 : decode cX4_count 108 = .ok (.ifCond .eq 7, 3) := by decide +kernel
theorem dX4_count_111 : decode cX4_count 111 = .ok (.iconst 1, 1) := by decide +kernel
theorem dX4_count_112 : decode cX4_count 112 = .ok (.goto 4, 3) := by decide +kernel
theorem dX4_count_115 : decode cX4_count 115 = .ok (.iconst 0, 1) := by decide +kernel
theorem dX4_count_116 : decode cX4_count 116 = .ok (.ireturn, 1) := by decide +kernel
theorem dX4_count_117 : decode cX4_count 117 = .ok (.aload_n 0, 1) := by decide +kernel
theorem dX4_count_118 : decode cX4_count 118 = .ok (.invokevirtual 190, 3) := by decide +kernel
theorem dX4_count_121 : decode cX4_count 121 = .ok (.ireturn, 1) := by decide +kernel
theorem dX4_count_122 : decode cX4_count 122 = .ok (.aload_n 0, 1) := by decide +kernel
theorem dX4_count_123 : decode cX4_count 123 = .ok (.getfield 21, 3) := by decide +kernel
theorem dX4_count_126 : decode cX4_count 126 = .ok (.iconst 0, 1) := by decide +kernel
theorem dX4_count_127 : decode cX4_count 127 = .ok (.baload, 1) := by decide +kernel
theorem dX4_count_128 : decode cX4_count 128 = .ok (.ifCond .eq 7, 3) := by decide +kernel
theorem dX4_count_131 : decode cX4_count 131 = .ok (.iconst 1, 1) := by decide +kernel
theorem dX4_count_132 : decode cX4_count 132 = .ok (.goto 4, 3) := by decide +kernel
theorem dX4_count_135 : decode cX4_count 135 = .ok (.iconst 0, 1) := by decide +kernel
theorem dX4_count_136 : decode cX4_count 136 = .ok (.aload_n 0, 1) := by decide +kernel
theorem dX4_count_137 : decode cX4_count 137 = .ok (.getfield 21, 3) := by decide +kernel
theorem dX4_count_140 : decode cX4_count 140 = .ok (.iconst 1, 1) := by decide +kernel
theorem dX4_count_141 : decode cX4_count 141 = .ok (.baload, 1) := by decide +kernel
theorem dX4_count_142 : decode cX4_count 142 = .ok (.ifCond .eq 7, 3) := by decide +kernel
theorem dX4_count_145 : decode cX4_count 145 = .ok (.iconst 1, 1) := by decide +kernel
theorem dX4_count_146 : decode cX4_count 146 = .ok (.goto 4, 3) := by decide +kernel
theorem dX4_count_149 : decode cX4_count 149 = .ok (.iconst 0, 1) := by decide +kernel
theorem dX4_count_150 : decode cX4_count 150 = .ok (.iadd, 1) := by decide +kernel
theorem dX4_count_151 : decode cX4_count 151 = .ok (.ireturn, 1) := by decide +kernel
theorem dX4_count_152 : decode cX4_count 152 = .ok (.aload_n 0, 1) := by decide +kernel
theorem dX4_count_153 : decode cX4_count 153 = .ok (.getfield 28, 3) := by decide +kernel
theorem dX4_count_156 : decode cX4_count 156 = .ok (.invokevirtual 136, 3) := by decide +kernel
theorem dX4_count_159 : decode cX4_count 159 = .ok (.ireturn, 1) := by decide +kernel
theorem dX4_needIndex_0 : decode cX4_needIndex 0 = .ok (.iload_n 0, 1) := by decide +kernel
theorem dX4_needIndex_1 : decode cX4_needIndex 1 = .ok (.ifCond .lt 8, 3) := by decide +kernel
theorem dX4_needIndex_4 : decode cX4_needIndex 4 = .ok (.iload_n 0, 1) := by decide +kernel
theorem dX4_needIndex_5 : decode cX4_needIndex 5 = .ok (.iload_n 1, 1) := by decide +kernel
theorem dX4_needIndex_6 : decode cX4_needIndex 6 = .ok (.if_icmp .lt 14, 3) := by decide +kernel
theorem dX4_needIndex_9 : decode cX4_needIndex 9 = .ok (.new 258, 3) := by decide +kernel
theorem dX4_needIndex_12 : decode cX4_needIndex 12 = .ok (.dup, 1) := by decide +kernel
theorem dX4_needIndex_13 : decode cX4_needIndex 13 = .ok (.ldc_w 260, 3) := by decide +kernel
theorem dX4_needIndex_16 : decode cX4_needIndex 16 = .ok (.invokespecial 262, 3) := by decide +kernel
theorem dX4_needIndex_19 : decode cX4_needIndex 19 = .ok (.athrow, 1) := by decide +kernel
theorem dX4_needIndex_20 : decode cX4_needIndex 20 = .ok (.return_, 1) := by decide +kernel
theorem dX4_needNumber_0 : decode cX4_needNumber 0 = .ok (.iload_n 0, 1) := by decide +kernel
theorem dX4_needNumber_1 : decode cX4_needNumber 1 = .ok (.iload_n 1, 1) := by decide +kernel
theorem dX4_needNumber_2 : decode cX4_needNumber 2 = .ok (.if_icmp .lt 8, 3) := by decide +kernel
theorem dX4_needNumber_5 : decode cX4_needNumber 5 = .ok (.iload_n 0, 1) := by decide +kernel
theorem dX4_needNumber_6 : decode cX4_needNumber 6 = .ok (.iload_n 2, 1) := by decide +kernel
theorem dX4_needNumber_7 : decode cX4_needNumber 7 = .ok (.if_icmp .le 14, 3) := by decide +kernel
theorem dX4_needNumber_10 : decode cX4_needNumber 10 = .ok (.new 116, 3) := by decide +kernel
theorem dX4_needNumber_13 : decode cX4_needNumber 13 = .ok (.dup, 1) := by decide +kernel
theorem dX4_needNumber_14 : decode cX4_needNumber 14 = .ok (.ldc_w 263, 3) := by decide +kernel
theorem dX4_needNumber_17 : decode cX4_needNumber 17 = .ok (.invokespecial 120, 3) := by decide +kernel
theorem dX4_needNumber_20 : decode cX4_needNumber 20 = .ok (.athrow, 1) := by decide +kernel
theorem dX4_needNumber_21 : decode cX4_needNumber 21 = .ok (.return_, 1) := by decide +kernel
theorem dX4_forgetTables_0 : decode cX4_forgetTables 0 = .ok (.aload_n 0, 1) := by decide +kernel
theorem dX4_forgetTables_1 : decode cX4_forgetTables 1 = .ok (.getfield 42, 3) := by decide +kernel
theorem dX4_forgetTables_4 : decode cX4_forgetTables 4 = .ok (.invokevirtual 267, 3) := by decide +kernel
theorem dX4_forgetTables_7 : decode cX4_forgetTables 7 = .ok (.aload_n 0, 1) := by decide +kernel
theorem dX4_forgetTables_8 : decode cX4_forgetTables 8 = .ok (.getfield 49, 3) := by decide +kernel
theorem dX4_forgetTables_11 : decode cX4_forgetTables 11 = .ok (.invokevirtual 270, 3) := by decide +kernel
theorem dX4_forgetTables_14 : decode cX4_forgetTables 14 = .ok (.return_, 1) := by decide +kernel
theorem dX4_keepState_0 : decode cX4_keepState 0 = .ok (.aload_n 0, 1) := by decide +kernel
theorem dX4_keepState_1 : decode cX4_keepState 1 = .ok (.getfield 28, 3) := by decide +kernel
theorem dX4_keepState_4 : decode cX4_keepState 4 = .ok (.aload_n 0, 1) := by decide +kernel
theorem dX4_keepState_5 : decode cX4_keepState 5 = .ok (.getfield 9, 3) := by decide +kernel
theorem dX4_keepState_8 : decode cX4_keepState 8 = .ok (.invokevirtual 271, 3) := by decide +kernel
theorem dX4_keepState_11 : decode cX4_keepState 11 = .ok (.aload_n 0, 1) := by decide +kernel
theorem dX4_keepState_12 : decode cX4_keepState 12 = .ok (.invokevirtual 142, 3) := by decide +kernel
theorem dX4_keepState_15 : decode cX4_keepState 15 = .ok (.return_, 1) := by decide +kernel
theorem dX4_change_0 : decode cX4_change 0 = .ok (.aload_n 0, 1) := by decide +kernel
theorem dX4_change_1 : decode cX4_change 1 = .ok (.invokevirtual 87, 3) := by decide +kernel
theorem dX4_change_4 : decode cX4_change 4 = .ok (.aload_n 0, 1) := by decide +kernel
theorem dX4_change_5 : decode cX4_change 5 = .ok (.getfield 9, 3) := by decide +kernel
theorem dX4_change_8 : decode cX4_change 8 = .ok (.iload_n 1, 1) := by decide +kernel
theorem dX4_change_9 : decode cX4_change 9 = .ok (.iaload, 1) := by decide +kernel
theorem dX4_change_10 : decode cX4_change 10 = .ok (.istore_n 3, 1) := by decide +kernel
theorem dX4_change_11 : decode cX4_change 11 = .ok (.aload_n 0, 1) := by decide +kernel
theorem dX4_change_12 : decode cX4_change 12 = .ok (.getfield 9, 3) := by decide +kernel
theorem dX4_change_15 : decode cX4_change 15 = .ok (.iload_n 1, 1) := by decide +kernel
theorem dX4_change_16 : decode cX4_change 16 = .ok (.iload_n 2, 1) := by decide +kernel
theorem dX4_change_17 : decode cX4_change 17 = .ok (.iastore, 1) := by decide +kernel
theorem dX4_change_18 : decode cX4_change 18 = .ok (.iload_n 3, 1) := by decide +kernel
theorem dX4_change_19 : decode cX4_change 19 = .ok (.ireturn, 1) := by decide +kernel
theorem dX4_putDraft_0 : decode cX4_putDraft 0 = .ok (.aload_n 0, 1) := by decide +kernel
theorem dX4_putDraft_1 : decode cX4_putDraft 1 = .ok (.iload_n 1, 1) := by decide +kernel
theorem dX4_putDraft_2 : decode cX4_putDraft 2 = .ok (.invokevirtual 274, 3) := by decide +kernel
theorem dX4_putDraft_5 : decode cX4_putDraft 5 = .ok (.ifCond .ne 14, 3) := by decide +kernel
theorem dX4_putDraft_8 : decode cX4_putDraft 8 = .ok (.new 77, 3) := by decide +kernel
theorem dX4_putDraft_11 : decode cX4_putDraft 11 = .ok (.dup, 1) := by decide +kernel
theorem dX4_putDraft_12 : decode cX4_putDraft 12 = .ok (.ldc_w 277, 3) := by decide +kernel
theorem dX4_putDraft_15 : decode cX4_putDraft 15 = .ok (.invokespecial 81, 3) := by decide +kernel
theorem dX4_putDraft_18 : decode cX4_putDraft 18 = .ok (.athrow, 1) := by decide +kernel
theorem dX4_putDraft_19 : decode cX4_putDraft 19 = .ok (.aload_n 0, 1) := by decide +kernel
theorem dX4_putDraft_20 : decode cX4_putDraft 20 = .ok (.invokevirtual 87, 3) := by decide +kernel
theorem dX4_putDraft_23 : decode cX4_putDraft 23 = .ok (.iconst 0, 1) := by decide +kernel
theorem dX4_putDraft_24 : decode cX4_putDraft 24 = .ok (.istore_n 2, 1) := by decide +kernel
theorem dX4_putDraft_25 : decode cX4_putDraft 25 = .ok (.iload_n 2, 1) := by decide +kernel
theorem dX4_putDraft_26 : decode cX4_putDraft 26 = .ok (.bipush 8, 2) := by decide +kernel
theorem dX4_putDraft_28 : decode cX4_putDraft 28 = .ok (.if_icmp .ge 26, 3) := by decide +kernel
theorem dX4_putDraft_31 : decode cX4_putDraft 31 = .ok (.aload_n 0, 1) := by decide +kernel
theorem dX4_putDraft_32 : decode cX4_putDraft 32 = .ok (.getfield 9, 3) := by decide +kernel
theorem dX4_putDraft_35 : decode cX4_putDraft 35 = .ok (.iload_n 1, 1) := by decide +kernel
theorem dX4_putDraft_36 : decode cX4_putDraft 36 = .ok (.bipush 8, 2) := by decide +kernel
theorem dX4_putDraft_38 : decode cX4_putDraft 38 = .ok (.imul, 1) := by decide +kernel
theorem dX4_putDraft_39 : decode cX4_putDraft 39 = .ok (.iload_n 2, 1) := by decide +kernel
theorem dX4_putDraft_40 : decode cX4_putDraft 40 = .ok (.iadd, 1) := by decide +kernel
theorem dX4_putDraft_41 : decode cX4_putDraft 41 = .ok (.aload_n 0, 1) := by decide +kernel
theorem dX4_putDraft_42 : decode cX4_putDraft 42 = .ok (.getfield 13, 3) := by decide +kernel
theorem dX4_putDraft_45 : decode cX4_putDraft 45 = .ok (.iload_n 2, 1) := by decide +kernel
theorem dX4_putDraft_46 : decode cX4_putDraft 46 = .ok (.iaload, 1) := by decide +kernel
theorem dX4_putDraft_47 : decode cX4_putDraft 47 = .ok (.iastore, 1) := by decide +kernel
theorem dX4_putDraft_48 : decode cX4_putDraft 48 = .ok (.iinc 2 1, 3) := by decide +kernel
theorem dX4_putDraft_51 : decode cX4_putDraft 51 = .ok (.goto (-26), 3) := by decide +kernel
theorem dX4_putDraft_54 : decode cX4_putDraft 54 = .ok (.aload_n 0, 1) := by decide +kernel
theorem dX4_putDraft_55 : decode cX4_putDraft 55 = .ok (.iload_n 1, 1) := by decide +kernel
theorem dX4_putDraft_56 : decode cX4_putDraft 56 = .ok (.invokevirtual 174, 3) := by decide +kernel
theorem dX4_putDraft_59 : decode cX4_putDraft 59 = .ok (.ireturn, 1) := by decide +kernel
theorem dX4_draftFits_0 : decode cX4_draftFits 0 = .ok (.iload_n 1, 1) := by decide +kernel
theorem dX4_draftFits_1 : decode cX4_draftFits 1 = .ok (.iconst 2, 1) := by decide +kernel
theorem dX4_draftFits_2 : decode cX4_draftFits 2 = .ok (.if_icmp .ne 7, 3) := by decide +kernel
theorem dX4_draftFits_5 : decode cX4_draftFits 5 = .ok (.iconst 0, 1) := by decide +kernel
theorem dX4_draftFits_6 : decode cX4_draftFits 6 = .ok (.goto 4, 3) := by decide +kernel
theorem dX4_draftFits_9 : decode cX4_draftFits 9 = .ok (.iconst 5, 1) := by decide +kernel
theorem dX4_draftFits_10 : decode cX4_draftFits 10 = .ok (.istore_n 2, 1) := by decide +kernel
theorem dX4_draftFits_11 : decode cX4_draftFits 11 = .ok (.iconst 0, 1) := by decide +kernel
theorem dX4_draftFits_12 : decode cX4_draftFits 12 = .ok (.istore_n 3, 1) := by decide +kernel
theorem dX4_draftFits_13 : decode cX4_draftFits 13 = .ok (.iload_n 3, 1) := by decide +kernel
theorem dX4_draftFits_14 : decode cX4_draftFits 14 = .ok (.bipush 8, 2) := by decide +kernel
theorem dX4_draftFits_16 : decode cX4_draftFits 16 = .ok (.if_icmp .ge 31, 3) := by decide +kernel
theorem dX4_draftFits_19 : decode cX4_draftFits 19 = .ok (.aload_n 0, 1) := by decide +kernel
theorem dX4_draftFits_20 : decode cX4_draftFits 20 = .ok (.getfield 13, 3) := by decide +kernel
theorem dX4_draftFits_23 : decode cX4_draftFits 23 = .ok (.iload_n 3, 1) := by decide +kernel
theorem dX4_draftFits_24 : decode cX4_draftFits 24 = .ok (.iaload, 1) := by decide +kernel
theorem dX4_draftFits_25 : decode cX4_draftFits 25 = .ok (.iload_n 3, 1) := by decide +kernel
theorem dX4_draftFits_26 : decode cX4_draftFits 26 = .ok (.iconst 4, 1) := by decide +kernel
theorem dX4_draftFits_27 : decode cX4_draftFits 27 = .ok (.if_icmp .ge 8, 3) := by decide +kernel
theorem dX4_draftFits_30 : decode cX4_draftFits 30 = .ok (.bipush 9, 2) := by decide +kernel
theorem dX4_draftFits_32 : decode cX4_draftFits 32 = .ok (.goto 4, 3) := by decide +kernel
theorem dX4_draftFits_35 : decode cX4_draftFits 35 = .ok (.iload_n 2, 1) := by decide +kernel
theorem dX4_draftFits_36 : decode cX4_draftFits 36 = .ok (.if_icmp .le 5, 3) := by decide +kernel
theorem dX4_draftFits_39 : decode cX4_draftFits 39 = .ok (.iconst 0, 1) := by decide +kernel
theorem dX4_draftFits_40 : decode cX4_draftFits 40 = .ok (.ireturn, 1) := by decide +kernel
theorem dX4_draftFits_41 : decode cX4_draftFits 41 = .ok (.iinc 3 1, 3) := by decide +kernel
theorem dX4_draftFits_44 : decode cX4_draftFits 44 = .ok (.goto (-31), 3) := by decide +kernel
theorem dX4_draftFits_47 : decode cX4_draftFits 47 = .ok (.iconst 1, 1) := by decide +kernel
theorem dX4_draftFits_48 : decode cX4_draftFits 48 = .ok (.ireturn, 1) := by decide +kernel
theorem dX4_factorsOf_0 : decode cX4_factorsOf 0 = .ok (.iconst 0, 1) := by decide +kernel
theorem dX4_factorsOf_1 : decode cX4_factorsOf 1 = .ok (.istore_n 2, 1) := by decide +kernel
theorem dX4_factorsOf_2 : decode cX4_factorsOf 2 = .ok (.iconst 0, 1) := by decide +kernel
theorem dX4_factorsOf_3 : decode cX4_factorsOf 3 = .ok (.istore_n 3, 1) := by decide +kernel
theorem dX4_factorsOf_4 : decode cX4_factorsOf 4 = .ok (.iload_n 3, 1) := by decide +kernel
theorem dX4_factorsOf_5 : decode cX4_factorsOf 5 = .ok (.bipush 8, 2) := by decide +kernel
theorem dX4_factorsOf_7 : decode cX4_factorsOf 7 = .ok (.if_icmp .ge 23, 3) := by decide +kernel
theorem dX4_factorsOf_10 : decode cX4_factorsOf 10 = .ok (.iload_n 2, 1) := by decide +kernel
theorem dX4_factorsOf_11 : decode cX4_factorsOf 11 = .ok (.aload_n 0, 1) := by decide +kernel
theorem dX4_factorsOf_12 : decode cX4_factorsOf 12 = .ok (.getfield 9, 3) := by decide +kernel
theorem dX4_factorsOf_15 : decode cX4_factorsOf 15 = .ok (.iload_n 1, 1) := by decide +kernel
theorem dX4_factorsOf_16 : decode cX4_factorsOf 16 = .ok (.bipush 8, 2) := by decide +kernel
theorem dX4_factorsOf_18 : decode cX4_factorsOf 18 = .ok (.imul, 1) := by decide +kernel
theorem dX4_factorsOf_19 : decode cX4_factorsOf 19 = .ok (.iload_n 3, 1) := by decide +kernel
theorem dX4_factorsOf_20 : decode cX4_factorsOf 20 = .ok (.iadd, 1) := by decide +kernel
theorem dX4_factorsOf_21 : decode cX4_factorsOf 21 = .ok (.iaload, 1) := by decide +kernel
theorem dX4_factorsOf_22 : decode cX4_factorsOf 22 = .ok (.iadd, 1) := by decide +kernel
theorem dX4_factorsOf_23 : decode cX4_factorsOf 23 = .ok (.istore_n 2, 1) := by decide +kernel
theorem dX4_factorsOf_24 : decode cX4_factorsOf 24 = .ok (.iinc 3 1, 3) := by decide +kernel
theorem dX4_factorsOf_27 : decode cX4_factorsOf 27 = .ok (.goto (-23), 3) := by decide +kernel
theorem dX4_factorsOf_30 : decode cX4_factorsOf 30 = .ok (.iload_n 2, 1) := by decide +kernel
theorem dX4_factorsOf_31 : decode cX4_factorsOf 31 = .ok (.ireturn, 1) := by decide +kernel
theorem dX4_restOf_0 : decode cX4_restOf 0 = .ok (.aload_n 0, 1) := by decide +kernel
theorem dX4_restOf_1 : decode cX4_restOf 1 = .ok (.getfield 9, 3) := by decide +kernel
theorem dX4_restOf_4 : decode cX4_restOf 4 = .ok (.bipush 16, 2) := by decide +kernel
theorem dX4_restOf_6 : decode cX4_restOf 6 = .ok (.iload_n 1, 1) := by decide +kernel
theorem dX4_restOf_7 : decode cX4_restOf 7 = .ok (.iadd, 1) := by decide +kernel
theorem dX4_restOf_8 : decode cX4_restOf 8 = .ok (.iaload, 1) := by decide +kernel
theorem dX4_restOf_9 : decode cX4_restOf 9 = .ok (.aload_n 0, 1) := by decide +kernel
theorem dX4_restOf_10 : decode cX4_restOf 10 = .ok (.getfield 9, 3) := by decide +kernel
theorem dX4_restOf_13 : decode cX4_restOf 13 = .ok (.iconst 0, 1) := by decide +kernel
theorem dX4_restOf_14 : decode cX4_restOf 14 = .ok (.iload_n 1, 1) := by decide +kernel
theorem dX4_restOf_15 : decode cX4_restOf 15 = .ok (.iadd, 1) := by decide +kernel
theorem dX4_restOf_16 : decode cX4_restOf 16 = .ok (.iaload, 1) := by decide +kernel
theorem dX4_restOf_17 : decode cX4_restOf 17 = .ok (.isub, 1) := by decide +kernel
theorem dX4_restOf_18 : decode cX4_restOf 18 = .ok (.ireturn, 1) := by decide +kernel
theorem dX4_hasVariable_0 : decode cX4_hasVariable 0 = .ok (.aload_n 0, 1) := by decide +kernel
theorem dX4_hasVariable_1 : decode cX4_hasVariable 1 = .ok (.getfield 9, 3) := by decide +kernel
theorem dX4_hasVariable_4 : decode cX4_hasVariable 4 = .ok (.iload_n 1, 1) := by decide +kernel
theorem dX4_hasVariable_5 : decode cX4_hasVariable 5 = .ok (.bipush 8, 2) := by decide +kernel
theorem dX4_hasVariable_7 : decode cX4_hasVariable 7 = .ok (.imul, 1) := by decide +kernel
theorem dX4_hasVariable_8 : decode cX4_hasVariable 8 = .ok (.iconst 4, 1) := by decide +kernel
theorem dX4_hasVariable_9 : decode cX4_hasVariable 9 = .ok (.iadd, 1) := by decide +kernel
theorem dX4_hasVariable_10 : decode cX4_hasVariable 10 = .ok (.iload_n 2, 1) := by decide +kernel
theorem dX4_hasVariable_11 : decode cX4_hasVariable 11 = .ok (.iadd, 1) := by decide +kernel
theorem dX4_hasVariable_12 : decode cX4_hasVariable 12 = .ok (.iaload, 1) := by decide +kernel
theorem dX4_hasVariable_13 : decode cX4_hasVariable 13 = .ok (.ifCond .le 7, 3) := by decide +kernel
theorem dX4_hasVariable_16 : decode cX4_hasVariable 16 = .ok (.iconst 1, 1) := by decide +kernel
theorem dX4_hasVariable_17 : decode cX4_hasVariable 17 = .ok (.goto 4, 3) := by decide +kernel
theorem dX4_hasVariable_20 : decode cX4_hasVariable 20 = .ok (.iconst 0, 1) := by decide +kernel
theorem dX4_hasVariable_21 : decode cX4_hasVariable 21 = .ok (.ireturn, 1) := by decide +kernel
theorem dX4_unlikeVariables_0 : decode cX4_unlikeVariables 0 = .ok (.iconst 0, 1) := by decide +kernel
theorem dX4_unlikeVariables_1 : decode cX4_unlikeVariables 1 = .ok (.istore_n 1, 1) := by decide +kernel
theorem dX4_unlikeVariables_2 : decode cX4_unlikeVariables 2 = .ok (.iconst 0, 1) := by decide +kernel
theorem dX4_unlikeVariables_3 : decode cX4_unlikeVariables 3 = .ok (.istore_n 2, 1) := by decide +kernel
theorem dX4_unlikeVariables_4 : decode cX4_unlikeVariables 4 = .ok (.iload_n 2, 1) := by decide +kernel
theorem dX4_unlikeVariables_5 : decode cX4_unlikeVariables 5 = .ok (.iconst 4, 1) := by decide +kernel
theorem dX4_unlikeVariables_6 : decode cX4_unlikeVariables 6 = .ok (.if_icmp .ge 26, 3) := by decide +kernel
theorem dX4_unlikeVariables_9 : decode cX4_unlikeVariables 9 = .ok (.iload_n 1, 1) := by decide +kernel
theorem dX4_unlikeVariables_10 : decode cX4_unlikeVariables 10 = .ok (.aload_n 0, 1) := by decide +kernel
theorem dX4_unlikeVariables_11 : decode cX4_unlikeVariables 11 = .ok (.iconst 0, 1) := by decide +kernel
theorem dX4_unlikeVariables_12 : decode cX4_unlikeVariables 12 = .ok (.iload_n 2, 1) := by decide +kernel
theorem dX4_unlikeVariables_13 : decode cX4_unlikeVariables 13 = .ok (.invokevirtual 197, 3) := by decide +kernel
theorem dX4_unlikeVariables_16 : decode cX4_unlikeVariables 16 = .ok (.ifCond .eq 7, 3) := by decide +kernel
theorem dX4_unlikeVariables_19 : decode cX4_unlikeVariables 19 = .ok (.iconst 1, 1) := by decide +kernel
theorem dX4_unlikeVariables_20 : decode cX4_unlikeVariables 20 = .ok (.goto 4, 3) := by decide +kernel
theorem dX4_unlikeVariables_23 : decode cX4_unlikeVariables 23 = .ok (.iconst 0, 1) := by decide +kernel
theorem dX4_unlikeVariables_24 : decode cX4_unlikeVariables 24 = .ok (.iadd, 1) := by decide +kernel
theorem dX4_unlikeVariables_25 : decode cX4_unlikeVariables 25 = .ok (.istore_n 1, 1) := by decide +kernel
theorem dX4_unlikeVariables_26 : decode cX4_unlikeVariables 26 = .ok (.iinc 2 1, 3) := by decide +kernel
theorem dX4_unlikeVariables_29 : decode cX4_unlikeVariables 29 = .ok (.goto (-25), 3) := by decide +kernel
theorem dX4_unlikeVariables_32 : decode cX4_unlikeVariables 32 = .ok (.iload_n 1, 1) := by decide +kernel
theorem dX4_unlikeVariables_33 : decode cX4_unlikeVariables 33 = .ok (.ireturn, 1) := by decide +kernel
theorem dX4_restsBelowZero_0 : decode cX4_restsBelowZero 0 = .ok (.iconst 0, 1) := by decide +kernel
theorem dX4_restsBelowZero_1 : decode cX4_restsBelowZero 1 = .ok (.istore_n 1, 1) := by decide +kernel
theorem dX4_restsBelowZero_2 : decode cX4_restsBelowZero 2 = .ok (.iconst 0, 1) := by decide +kernel
theorem dX4_restsBelowZero_3 : decode cX4_restsBelowZero 3 = .ok (.istore_n 2, 1) := by decide +kernel
theorem dX4_restsBelowZero_4 : decode cX4_restsBelowZero 4 = .ok (.iload_n 2, 1) := by decide +kernel
theorem dX4_restsBelowZero_5 : decode cX4_restsBelowZero 5 = .ok (.iconst 4, 1) := by decide +kernel
theorem dX4_restsBelowZero_6 : decode cX4_restsBelowZero 6 = .ok (.if_icmp .ge 25, 3) := by decide +kernel
theorem dX4_restsBelowZero_9 : decode cX4_restsBelowZero 9 = .ok (.iload_n 1, 1) := by decide +kernel
theorem dX4_restsBelowZero_10 : decode cX4_restsBelowZero 10 = .ok (.aload_n 0, 1) := by decide +kernel
theorem dX4_restsBelowZero_11 : decode cX4_restsBelowZero 11 = .ok (.iload_n 2, 1) := by decide +kernel
theorem dX4_restsBelowZero_12 : decode cX4_restsBelowZero 12 = .ok (.invokevirtual 145, 3) := by decide +kernel
theorem dX4_restsBelowZero_15 : decode cX4_restsBelowZero 15 = .ok (.ifCond .ge 7, 3) := by decide +kernel
theorem dX4_restsBelowZero_18 : decode cX4_restsBelowZero 18 = .ok (.iconst 1, 1) := by decide +kernel
theorem dX4_restsBelowZero_19 : decode cX4_restsBelowZero 19 = .ok (.goto 4, 3) := by decide +kernel
theorem dX4_restsBelowZero_22 : decode cX4_restsBelowZero 22 = .ok (.iconst 0, 1) := by decide +kernel
theorem dX4_restsBelowZero_23 : decode cX4_restsBelowZero 23 = .ok (.iadd, 1) := by decide +kernel
theorem dX4_restsBelowZero_24 : decode cX4_restsBelowZero 24 = .ok (.istore_n 1, 1) := by decide +kernel
theorem dX4_restsBelowZero_25 : decode cX4_restsBelowZero 25 = .ok (.iinc 2 1, 3) := by decide +kernel
theorem dX4_restsBelowZero_28 : decode cX4_restsBelowZero 28 = .ok (.goto (-24), 3) := by decide +kernel
theorem dX4_restsBelowZero_31 : decode cX4_restsBelowZero 31 = .ok (.iload_n 1, 1) := by decide +kernel
theorem dX4_restsBelowZero_32 : decode cX4_restsBelowZero 32 = .ok (.ireturn, 1) := by decide +kernel
theorem dX4_patternsAreSame_0 : decode cX4_patternsAreSame 0 = .ok (.iconst 0, 1) := by decide +kernel
theorem dX4_patternsAreSame_1 : decode cX4_patternsAreSame 1 = .ok (.istore_n 1, 1) := by decide +kernel
theorem dX4_patternsAreSame_2 : decode cX4_patternsAreSame 2 = .ok (.iload_n 1, 1) := by decide +kernel
theorem dX4_patternsAreSame_3 : decode cX4_patternsAreSame 3 = .ok (.bipush 8, 2) := by decide +kernel
theorem dX4_patternsAreSame_5 : decode cX4_patternsAreSame 5 = .ok (.if_icmp .ge 31, 3) := by decide +kernel
theorem dX4_patternsAreSame_8 : decode cX4_patternsAreSame 8 = .ok (.aload_n 0, 1) := by decide +kernel
theorem dX4_patternsAreSame_9 : decode cX4_patternsAreSame 9 = .ok (.getfield 9, 3) := by decide +kernel
theorem dX4_patternsAreSame_12 : decode cX4_patternsAreSame 12 = .ok (.iconst 0, 1) := by decide +kernel
theorem dX4_patternsAreSame_13 : decode cX4_patternsAreSame 13 = .ok (.iload_n 1, 1) := by decide +kernel
theorem dX4_patternsAreSame_14 : decode cX4_patternsAreSame 14 = .ok (.iadd, 1) := by decide +kernel
theorem dX4_patternsAreSame_15 : decode cX4_patternsAreSame 15 = .ok (.iaload, 1) := by decide +kernel
theorem dX4_patternsAreSame_16 : decode cX4_patternsAreSame 16 = .ok (.aload_n 0, 1) := by decide +kernel
theorem dX4_patternsAreSame_17 : decode cX4_patternsAreSame 17 = .ok (.getfield 9, 3) := by decide +kernel
theorem dX4_patternsAreSame_20 : decode cX4_patternsAreSame 20 = .ok (.bipush 8, 2) := by decide +kernel
theorem dX4_patternsAreSame_22 : decode cX4_patternsAreSame 22 = .ok (.iload_n 1, 1) := by decide +kernel
theorem dX4_patternsAreSame_23 : decode cX4_patternsAreSame 23 = .ok (.iadd, 1) := by decide +kernel
theorem dX4_patternsAreSame_24 : decode cX4_patternsAreSame 24 = .ok (.iaload, 1) := by decide +kernel
theorem dX4_patternsAreSame_25 : decode cX4_patternsAreSame 25 = .ok (.if_icmp .eq 5, 3) := by decide +kernel
theorem dX4_patternsAreSame_28 : decode cX4_patternsAreSame 28 = .ok (.iconst 0, 1) := by decide +kernel
theorem dX4_patternsAreSame_29 : decode cX4_patternsAreSame 29 = .ok (.ireturn, 1) := by decide +kernel
theorem dX4_patternsAreSame_30 : decode cX4_patternsAreSame 30 = .ok (.iinc 1 1, 3) := by decide +kernel
theorem dX4_patternsAreSame_33 : decode cX4_patternsAreSame 33 = .ok (.goto (-31), 3) := by decide +kernel
theorem dX4_patternsAreSame_36 : decode cX4_patternsAreSame 36 = .ok (.iconst 1, 1) := by decide +kernel
theorem dX4_patternsAreSame_37 : decode cX4_patternsAreSame 37 = .ok (.ireturn, 1) := by decide +kernel
theorem dX4_commonFactors_0 : decode cX4_commonFactors 0 = .ok (.iconst 0, 1) := by decide +kernel
theorem dX4_commonFactors_1 : decode cX4_commonFactors 1 = .ok (.istore_n 1, 1) := by decide +kernel
theorem dX4_commonFactors_2 : decode cX4_commonFactors 2 = .ok (.iconst 0, 1) := by decide +kernel
theorem dX4_commonFactors_3 : decode cX4_commonFactors 3 = .ok (.istore_n 2, 1) := by decide +kernel
theorem dX4_commonFactors_4 : decode cX4_commonFactors 4 = .ok (.iload_n 2, 1) := by decide +kernel
theorem dX4_commonFactors_5 : decode cX4_commonFactors 5 = .ok (.bipush 8, 2) := by decide +kernel
theorem dX4_commonFactors_7 : decode cX4_commonFactors 7 = .ok (.if_icmp .ge 46, 3) := by decide +kernel
theorem dX4_commonFactors_10 : decode cX4_commonFactors 10 = .ok (.aload_n 0, 1) := by decide +kernel
theorem dX4_commonFactors_11 : decode cX4_commonFactors 11 = .ok (.getfield 9, 3) := by decide +kernel
theorem dX4_commonFactors_14 : decode cX4_commonFactors 14 = .ok (.iconst 0, 1) := by decide +kernel
theorem dX4_commonFactors_15 : decode cX4_commonFactors 15 = .ok (.iload_n 2, 1) := by decide +kernel
theorem dX4_commonFactors_16 : decode cX4_commonFactors 16 = .ok (.iadd, 1) := by decide +kernel
theorem dX4_commonFactors_17 : decode cX4_commonFactors 17 = .ok (.iaload, 1) := by decide +kernel
theorem dX4_commonFactors_18 : decode cX4_commonFactors 18 = .ok (.aload_n 0, 1) := by decide +kernel
theorem dX4_commonFactors_19 : decode cX4_commonFactors 19 = .ok (.getfield 9, 3) := by decide +kernel
theorem dX4_commonFactors_22 : decode cX4_commonFactors 22 = .ok (.bipush 8, 2) := by decide +kernel
theorem dX4_commonFactors_24 : decode cX4_commonFactors 24 = .ok (.iload_n 2, 1) := by decide +kernel
theorem dX4_commonFactors_25 : decode cX4_commonFactors 25 = .ok (.iadd, 1) := by decide +kernel
theorem dX4_commonFactors_26 : decode cX4_commonFactors 26 = .ok (.iaload, 1) := by decide +kernel
theorem dX4_commonFactors_27 : decode cX4_commonFactors 27 = .ok (.invokestatic 90, 3) := by decide +kernel
theorem dX4_commonFactors_30 : decode cX4_commonFactors 30 = .ok (.istore_n 3, 1) := by decide +kernel
theorem dX4_commonFactors_31 : decode cX4_commonFactors 31 = .ok (.iload_n 1, 1) := by decide +kernel
theorem dX4_commonFactors_32 : decode cX4_commonFactors 32 = .ok (.iload_n 3, 1) := by decide +kernel
theorem dX4_commonFactors_33 : decode cX4_commonFactors 33 = .ok (.aload_n 0, 1) := by decide +kernel
theorem dX4_commonFactors_34 : decode cX4_commonFactors 34 = .ok (.getfield 9, 3) := by decide +kernel
theorem dX4_commonFactors_37 : decode cX4_commonFactors 37 = .ok (.bipush 16, 2) := by decide +kernel
theorem dX4_commonFactors_39 : decode cX4_commonFactors 39 = .ok (.iload_n 2, 1) := by decide +kernel
theorem dX4_commonFactors_40 : decode cX4_commonFactors 40 = .ok (.iadd, 1) := by decide +kernel
theorem dX4_commonFactors_41 : decode cX4_commonFactors 41 = .ok (.iaload, 1) := by decide +kernel
theorem dX4_commonFactors_42 : decode cX4_commonFactors 42 = .ok (.invokestatic 90, 3) := by decide +kernel
theorem dX4_commonFactors_45 : decode cX4_commonFactors 45 = .ok (.iadd, 1) := by decide +kernel
theorem dX4_commonFactors_46 : decode cX4_commonFactors 46 = .ok (.istore_n 1, 1) := by decide +kernel
theorem dX4_commonFactors_47 : decode cX4_commonFactors 47 = .ok (.iinc 2 1, 3) := by decide +kernel
theorem dX4_commonFactors_50 : decode cX4_commonFactors 50 = .ok (.goto (-46), 3) := by decide +kernel
theorem dX4_commonFactors_53 : decode cX4_commonFactors 53 = .ok (.iload_n 1, 1) := by decide +kernel
theorem dX4_commonFactors_54 : decode cX4_commonFactors 54 = .ok (.ireturn, 1) := by decide +kernel
theorem dJ6_bitCount_0f7a4_0 : decode cJ6_bitCount_0f7a4 0 = .ok (.iload_n 0, 1) := by decide +kernel
theorem dJ6_bitCount_0f7a4_1 : decode cJ6_bitCount_0f7a4 1 = .ok (.iload_n 0, 1) := by decide +kernel
theorem dJ6_bitCount_0f7a4_2 : decode cJ6_bitCount_0f7a4 2 = .ok (.iconst 1, 1) := by decide +kernel
theorem dJ6_bitCount_0f7a4_3 : decode cJ6_bitCount_0f7a4 3 = .ok (.iushr, 1) := by decide +kernel
theorem dJ6_bitCount_0f7a4_4 : decode cJ6_bitCount_0f7a4 4 = .ok (.ldc_w 265, 3) := by decide +kernel
theorem dJ6_bitCount_0f7a4_7 : decode cJ6_bitCount_0f7a4 7 = .ok (.iand, 1) := by decide +kernel
theorem dJ6_bitCount_0f7a4_8 : decode cJ6_bitCount_0f7a4 8 = .ok (.isub, 1) := by decide +kernel
theorem dJ6_bitCount_0f7a4_9 : decode cJ6_bitCount_0f7a4 9 = .ok (.istore_n 0, 1) := by decide +kernel
theorem dJ6_bitCount_0f7a4_10 : decode cJ6_bitCount_0f7a4 10 = .ok (.iload_n 0, 1) := by decide +kernel
theorem dJ6_bitCount_0f7a4_11 : decode cJ6_bitCount_0f7a4 11 = .ok (.ldc_w 266, 3) := by decide +kernel
theorem dJ6_bitCount_0f7a4_14 : decode cJ6_bitCount_0f7a4 14 = .ok (.iand, 1) := by decide +kernel
theorem dJ6_bitCount_0f7a4_15 : decode cJ6_bitCount_0f7a4 15 = .ok (.iload_n 0, 1) := by decide +kernel
theorem dJ6_bitCount_0f7a4_16 : decode cJ6_bitCount_0f7a4 16 = .ok (.iconst 2, 1) := by decide +kernel
theorem dJ6_bitCount_0f7a4_17 : decode cJ6_bitCount_0f7a4 17 = .ok (.iushr, 1) := by decide +kernel
theorem dJ6_bitCount_0f7a4_18 : decode cJ6_bitCount_0f7a4 18 = .ok (.ldc_w 266, 3) := by decide +kernel
theorem dJ6_bitCount_0f7a4_21 : decode cJ6_bitCount_0f7a4 21 = .ok (.iand, 1) := by decide +kernel
theorem dJ6_bitCount_0f7a4_22 : decode cJ6_bitCount_0f7a4 22 = .ok (.iadd, 1) := by decide +kernel
theorem dJ6_bitCount_0f7a4_23 : decode cJ6_bitCount_0f7a4 23 = .ok (.istore_n 0, 1) := by decide +kernel
theorem dJ6_bitCount_0f7a4_24 : decode cJ6_bitCount_0f7a4 24 = .ok (.iload_n 0, 1) := by decide +kernel
theorem dJ6_bitCount_0f7a4_25 : decode cJ6_bitCount_0f7a4 25 = .ok (.iload_n 0, 1) := by decide +kernel
theorem dJ6_bitCount_0f7a4_26 : decode cJ6_bitCount_0f7a4 26 = .ok (.iconst 4, 1) := by decide +kernel
theorem dJ6_bitCount_0f7a4_27 : decode cJ6_bitCount_0f7a4 27 = .ok (.iushr, 1) := by decide +kernel
theorem dJ6_bitCount_0f7a4_28 : decode cJ6_bitCount_0f7a4 28 = .ok (.iadd, 1) := by decide +kernel
theorem dJ6_bitCount_0f7a4_29 : decode cJ6_bitCount_0f7a4 29 = .ok (.ldc_w 267, 3) := by decide +kernel
theorem dJ6_bitCount_0f7a4_32 : decode cJ6_bitCount_0f7a4 32 = .ok (.iand, 1) := by decide +kernel
theorem dJ6_bitCount_0f7a4_33 : decode cJ6_bitCount_0f7a4 33 = .ok (.istore_n 0, 1) := by decide +kernel
theorem dJ6_bitCount_0f7a4_34 : decode cJ6_bitCount_0f7a4 34 = .ok (.iload_n 0, 1) := by decide +kernel
theorem dJ6_bitCount_0f7a4_35 : decode cJ6_bitCount_0f7a4 35 = .ok (.iload_n 0, 1) := by decide +kernel
theorem dJ6_bitCount_0f7a4_36 : decode cJ6_bitCount_0f7a4 36 = .ok (.bipush 8, 2) := by decide +kernel
theorem dJ6_bitCount_0f7a4_38 : decode cJ6_bitCount_0f7a4 38 = .ok (.iushr, 1) := by decide +kernel
theorem dJ6_bitCount_0f7a4_39 : decode cJ6_bitCount_0f7a4 39 = .ok (.iadd, 1) := by decide +kernel
theorem dJ6_bitCount_0f7a4_40 : decode cJ6_bitCount_0f7a4 40 = .ok (.istore_n 0, 1) := by decide +kernel
theorem dJ6_bitCount_0f7a4_41 : decode cJ6_bitCount_0f7a4 41 = .ok (.iload_n 0, 1) := by decide +kernel
theorem dJ6_bitCount_0f7a4_42 : decode cJ6_bitCount_0f7a4 42 = .ok (.iload_n 0, 1) := by decide +kernel
theorem dJ6_bitCount_0f7a4_43 : decode cJ6_bitCount_0f7a4 43 = .ok (.bipush 16, 2) := by decide +kernel
theorem dJ6_bitCount_0f7a4_45 : decode cJ6_bitCount_0f7a4 45 = .ok (.iushr, 1) := by decide +kernel
theorem dJ6_bitCount_0f7a4_46 : decode cJ6_bitCount_0f7a4 46 = .ok (.iadd, 1) := by decide +kernel
theorem dJ6_bitCount_0f7a4_47 : decode cJ6_bitCount_0f7a4 47 = .ok (.istore_n 0, 1) := by decide +kernel
theorem dJ6_bitCount_0f7a4_48 : decode cJ6_bitCount_0f7a4 48 = .ok (.iload_n 0, 1) := by decide +kernel
theorem dJ6_bitCount_0f7a4_49 : decode cJ6_bitCount_0f7a4 49 = .ok (.bipush 63, 2) := by decide +kernel
theorem dJ6_bitCount_0f7a4_51 : decode cJ6_bitCount_0f7a4 51 = .ok (.iand, 1) := by decide +kernel
theorem dJ6_bitCount_0f7a4_52 : decode cJ6_bitCount_0f7a4 52 = .ok (.ireturn, 1) := by decide +kernel
theorem dJ9_max_7cf53_0 : decode cJ9_max_7cf53 0 = .ok (.iload_n 0, 1) := by decide +kernel
theorem dJ9_max_7cf53_1 : decode cJ9_max_7cf53 1 = .ok (.iload_n 1, 1) := by decide +kernel
theorem dJ9_max_7cf53_2 : decode cJ9_max_7cf53 2 = .ok (.if_icmp .lt 7, 3) := by decide +kernel
theorem dJ9_max_7cf53_5 : decode cJ9_max_7cf53 5 = .ok (.iload_n 0, 1) := by decide +kernel
theorem dJ9_max_7cf53_6 : decode cJ9_max_7cf53 6 = .ok (.goto 4, 3) := by decide +kernel
theorem dJ9_max_7cf53_9 : decode cJ9_max_7cf53 9 = .ok (.iload_n 1, 1) := by decide +kernel
theorem dJ9_max_7cf53_10 : decode cJ9_max_7cf53 10 = .ok (.ireturn, 1) := by decide +kernel
theorem dJ9_min_7cf53_0 : decode cJ9_min_7cf53 0 = .ok (.iload_n 0, 1) := by decide +kernel
theorem dJ9_min_7cf53_1 : decode cJ9_min_7cf53 1 = .ok (.iload_n 1, 1) := by decide +kernel
theorem dJ9_min_7cf53_2 : decode cJ9_min_7cf53 2 = .ok (.if_icmp .gt 7, 3) := by decide +kernel
theorem dJ9_min_7cf53_5 : decode cJ9_min_7cf53 5 = .ok (.iload_n 0, 1) := by decide +kernel
theorem dJ9_min_7cf53_6 : decode cJ9_min_7cf53 6 = .ok (.goto 4, 3) := by decide +kernel
theorem dJ9_min_7cf53_9 : decode cJ9_min_7cf53 9 = .ok (.iload_n 1, 1) := by decide +kernel
theorem dJ9_min_7cf53_10 : decode cJ9_min_7cf53 10 = .ok (.ireturn, 1) := by decide +kernel
end
section
theorem dL_cell_0 : decode cL_cell 0 = .ok (.iload_n 1, 1) := by decide +kernel
theorem dL_cell_1 : decode cL_cell 1 = .ok (.aload_n 0, 1) := by decide +kernel
theorem dL_cell_2 : decode cL_cell 2 = .ok (.arraylength, 1) := by decide +kernel
theorem dL_cell_3 : decode cL_cell 3 = .ok (.if_icmp .ge 9, 3) := by decide +kernel
theorem dL_cell_6 : decode cL_cell 6 = .ok (.aload_n 0, 1) := by decide +kernel
theorem dL_cell_7 : decode cL_cell 7 = .ok (.iload_n 1, 1) := by decide +kernel
theorem dL_cell_8 : decode cL_cell 8 = .ok (.iaload, 1) := by decide +kernel
theorem dL_cell_9 : decode cL_cell 9 = .ok (.goto 11, 3) := by decide +kernel
theorem dL_cell_12 : decode cL_cell 12 = .ok (.ldc 7, 2) := by decide +kernel
theorem dL_cell_14 : decode cL_cell 14 = .ok (.iload_n 1, 1) := by decide +kernel
theorem dL_cell_15 : decode cL_cell 15 = .ok (.sipush 457, 3) := by decide +kernel
theorem dL_cell_18 : decode cL_cell 18 = .ok (.iadd, 1) := by decide +kernel
theorem dL_cell_19 : decode cL_cell 19 = .ok (.imul, 1) := by decide +kernel
theorem dL_cell_20 : decode cL_cell 20 = .ok (.ireturn, 1) := by decide +kernel
theorem dL_at_0 : decode cL_at 0 = .ok (.iload_n 0, 1) := by decide +kernel
theorem dL_at_1 : decode cL_at 1 = .ok (.iconst 1, 1) := by decide +kernel
theorem dL_at_2 : decode cL_at 2 = .ok (.iushr, 1) := by decide +kernel
theorem dL_at_3 : decode cL_at 3 = .ok (.iload_n 1, 1) := by decide +kernel
theorem dL_at_4 : decode cL_at 4 = .ok (.irem, 1) := by decide +kernel
theorem dL_at_5 : decode cL_at 5 = .ok (.ireturn, 1) := by decide +kernel
theorem dL_solutions_0 : decode cL_solutions 0 = .ok (.aload_n 0, 1) := by decide +kernel
theorem dL_solutions_1 : decode cL_solutions 1 = .ok (.bipush 16, 2) := by decide +kernel
theorem dL_solutions_3 : decode cL_solutions 3 = .ok (.iload_n 2, 1) := by decide +kernel
theorem dL_solutions_4 : decode cL_solutions 4 = .ok (.iadd, 1) := by decide +kernel
theorem dL_solutions_5 : decode cL_solutions 5 = .ok (.iaload, 1) := by decide +kernel
theorem dL_solutions_6 : decode cL_solutions 6 = .ok (.aload_n 0, 1) := by decide +kernel
theorem dL_solutions_7 : decode cL_solutions 7 = .ok (.iload_n 2, 1) := by decide +kernel
theorem dL_solutions_8 : decode cL_solutions 8 = .ok (.iaload, 1) := by decide +kernel
theorem dL_solutions_9 : decode cL_solutions 9 = .ok (.isub, 1) := by decide +kernel
theorem dL_solutions_10 : decode cL_solutions 10 = .ok (.istore 4, 2) := by decide +kernel
theorem dL_solutions_12 : decode cL_solutions 12 = .ok (.iconst 0, 1) := by decide +kernel
theorem dL_solutions_13 : decode cL_solutions 13 = .ok (.istore 5, 2) := by decide +kernel
theorem dL_solutions_15 : decode cL_solutions 15 = .ok (.iconst 0, 1) := by decide +kernel
theorem dL_solutions_16 : decode cL_solutions 16 = .ok (.istore 6, 2) := by decide +kernel
theorem dL_solutions_18 : decode cL_solutions 18 = .ok (.iload 6, 2) := by decide +kernel
theorem dL_solutions_20 : decode cL_solutions 20 = .ok (.bipush 9, 2) := by decide +kernel
theorem dL_solutions_22 : decode cL_solutions 22 = .ok (.if_icmp .gt 241, 3) := by decide +kernel
theorem dL_solutions_25 : decode cL_solutions 25 = .ok (.iload 6, 2) := by decide +kernel
theorem dL_solutions_27 : decode cL_solutions 27 = .ok (.aload_n 1, 1) := by decide +kernel
theorem dL_solutions_28 : decode cL_solutions 28 = .ok (.iconst 1, 1) := by decide +kernel
theorem dL_solutions_29 : decode cL_solutions 29 = .ok (.iaload, 1) := by decide +kernel
theorem dL_solutions_30 : decode cL_solutions 30 = .ok (.if_icmp .gt 233, 3) := by decide +kernel
theorem dL_solutions_33 : decode cL_solutions 33 = .ok (.iconst 0, 1) := by decide +kernel
theorem dL_solutions_34 : decode cL_solutions 34 = .ok (.istore 7, 2) := by decide +kernel
theorem dL_solutions_36 : decode cL_solutions 36 = .ok (.iload 7, 2) := by decide +kernel
theorem dL_solutions_38 : decode cL_solutions 38 = .ok (.bipush 9, 2) := by decide +kernel
theorem dL_solutions_40 : decode cL_solutions 40 = .ok (.if_icmp .gt 217, 3) := by decide +kernel
theorem dL_solutions_43 : decode cL_solutions 43 = .ok (.iload 7, 2) := by decide +kernel
theorem dL_solutions_45 : decode cL_solutions 45 = .ok (.aload_n 1, 1) := by decide +kernel
theorem dL_solutions_46 : decode cL_solutions 46 = .ok (.iconst 1, 1) := by decide +kernel
theorem dL_solutions_47 : decode cL_solutions 47 = .ok (.iaload, 1) := by decide +kernel
theorem dL_solutions_48 : decode cL_solutions 48 = .ok (.if_icmp .gt 209, 3) := by decide +kernel
theorem dL_solutions_51 : decode cL_solutions 51 = .ok (.iconst 0, 1) := by decide +kernel
theorem dL_solutions_52 : decode cL_solutions 52 = .ok (.istore 8, 2) := by decide +kernel
theorem dL_solutions_54 : decode cL_solutions 54 = .ok (.iload 8, 2) := by decide +kernel
theorem dL_solutions_56 : decode cL_solutions 56 = .ok (.bipush 9, 2) := by decide +kernel
theorem dL_solutions_58 : decode cL_solutions 58 = .ok (.if_icmp .gt 193, 3) := by decide +kernel
theorem dL_solutions_61 : decode cL_solutions 61 = .ok (.iload 8, 2) := by decide +kernel
theorem dL_solutions_63 : decode cL_solutions 63 = .ok (.aload_n 1, 1) := by decide +kernel
theorem dL_solutions_64 : decode cL_solutions 64 = .ok (.iconst 1, 1) := by decide +kernel
theorem dL_solutions_65 : decode cL_solutions 65 = .ok (.iaload, 1) := by decide +kernel
theorem dL_solutions_66 : decode cL_solutions 66 = .ok (.if_icmp .gt 185, 3) := by decide +kernel
theorem dL_solutions_69 : decode cL_solutions 69 = .ok (.aload_n 0, 1) := by decide +kernel
theorem dL_solutions_70 : decode cL_solutions 70 = .ok (.iconst 4, 1) := by decide +kernel
theorem dL_solutions_71 : decode cL_solutions 71 = .ok (.iaload, 1) := by decide +kernel
theorem dL_solutions_72 : decode cL_solutions 72 = .ok (.iload 6, 2) := by decide +kernel
theorem dL_solutions_74 : decode cL_solutions 74 = .ok (.imul, 1) := by decide +kernel
theorem dL_solutions_75 : decode cL_solutions 75 = .ok (.aload_n 0, 1) := by decide +kernel
theorem dL_solutions_76 : decode cL_solutions 76 = .ok (.iconst 5, 1) := by decide +kernel
theorem dL_solutions_77 : decode cL_solutions 77 = .ok (.iaload, 1) := by decide +kernel
theorem dL_solutions_78 : decode cL_solutions 78 = .ok (.iload 7, 2) := by decide +kernel
theorem dL_solutions_80 : decode cL_solutions 80 = .ok (.imul, 1) := by decide +kernel
theorem dL_solutions_81 : decode cL_solutions 81 = .ok (.iadd, 1) := by decide +kernel
theorem dL_solutions_82 : decode cL_solutions 82 = .ok (.aload_n 0, 1) := by decide +kernel
theorem dL_solutions_83 : decode cL_solutions 83 = .ok (.bipush 6, 2) := by decide +kernel
theorem dL_solutions_85 : decode cL_solutions 85 = .ok (.iaload, 1) := by decide +kernel
theorem dL_solutions_86 : decode cL_solutions 86 = .ok (.iload 8, 2) := by decide +kernel
theorem dL_solutions_88 : decode cL_solutions 88 = .ok (.imul, 1) := by decide +kernel
theorem dL_solutions_89 : decode cL_solutions 89 = .ok (.iadd, 1) := by decide +kernel
theorem dL_solutions_90 : decode cL_solutions 90 = .ok (.iload 4, 2) := by decide +kernel
theorem dL_solutions_92 : decode cL_solutions 92 = .ok (.if_icmp .gt 153, 3) := by decide +kernel
theorem dL_solutions_95 : decode cL_solutions 95 = .ok (.aload_n 0, 1) := by decide +kernel
theorem dL_solutions_96 : decode cL_solutions 96 = .ok (.iconst 4, 1) := by decide +kernel
theorem dL_solutions_97 : decode cL_solutions 97 = .ok (.iaload, 1) := by decide +kernel
theorem dL_solutions_98 : decode cL_solutions 98 = .ok (.ifCond .ne 8, 3) := by decide +kernel
theorem dL_solutions_101 : decode cL_solutions 101 = .ok (.iload 6, 2) := by decide +kernel
theorem dL_solutions_103 : decode cL_solutions 103 = .ok (.ifCond .gt 142, 3) := by decide +kernel
theorem dL_solutions_106 : decode cL_solutions 106 = .ok (.aload_n 0, 1) := by decide +kernel
theorem dL_solutions_107 : decode cL_solutions 107 = .ok (.iconst 5, 1) := by decide +kernel
theorem dL_solutions_108 : decode cL_solutions 108 = .ok (.iaload, 1) := by decide +kernel
theorem dL_solutions_109 : decode cL_solutions 109 = .ok (.ifCond .ne 8, 3) := by decide +kernel
theorem dL_solutions_112 : decode cL_solutions 112 = .ok (.iload 7, 2) := by decide +kernel
theorem dL_solutions_114 : decode cL_solutions 114 = .ok (.ifCond .gt 131, 3) := by decide +kernel
theorem dL_solutions_117 : decode cL_solutions 117 = .ok (.aload_n 0, 1) := by decide +kernel
theorem dL_solutions_118 : decode cL_solutions 118 = .ok (.bipush 6, 2) := by decide +kernel
theorem dL_solutions_120 : decode cL_solutions 120 = .ok (.iaload, 1) := by decide +kernel
theorem dL_solutions_121 : decode cL_solutions 121 = .ok (.ifCond .ne 11, 3) := by decide +kernel
theorem dL_solutions_124 : decode cL_solutions 124 = .ok (.iload 8, 2) := by decide +kernel
theorem dL_solutions_126 : decode cL_solutions 126 = .ok (.ifCond .le 6, 3) := by decide +kernel
theorem dL_solutions_129 : decode cL_solutions 129 = .ok (.goto 116, 3) := by decide +kernel
theorem dL_solutions_132 : decode cL_solutions 132 = .ok (.iload_n 3, 1) := by decide +kernel
theorem dL_solutions_133 : decode cL_solutions 133 = .ok (.iconst 1, 1) := by decide +kernel
theorem dL_solutions_134 : decode cL_solutions 134 = .ok (.iand, 1) := by decide +kernel
theorem dL_solutions_135 : decode cL_solutions 135 = .ok (.ifCond .eq 8, 3) := by decide +kernel
theorem dL_solutions_138 : decode cL_solutions 138 = .ok (.iload 6, 2) := by decide +kernel
theorem dL_solutions_140 : decode cL_solutions 140 = .ok (.ifCond .gt 105, 3) := by decide +kernel
theorem dL_solutions_143 : decode cL_solutions 143 = .ok (.iload_n 3, 1) := by decide +kernel
theorem dL_solutions_144 : decode cL_solutions 144 = .ok (.iconst 2, 1) := by decide +kernel
theorem dL_solutions_145 : decode cL_solutions 145 = .ok (.iand, 1) := by decide +kernel
theorem dL_solutions_146 : decode cL_solutions 146 = .ok (.ifCond .eq 8, 3) := by decide +kernel
theorem dL_solutions_149 : decode cL_solutions 149 = .ok (.iload 7, 2) := by decide +kernel
theorem dL_solutions_151 : decode cL_solutions 151 = .ok (.ifCond .gt 94, 3) := by decide +kernel
theorem dL_solutions_154 : decode cL_solutions 154 = .ok (.iload_n 3, 1) := by decide +kernel
theorem dL_solutions_155 : decode cL_solutions 155 = .ok (.iconst 4, 1) := by decide +kernel
theorem dL_solutions_156 : decode cL_solutions 156 = .ok (.iand, 1) := by decide +kernel
theorem dL_solutions_157 : decode cL_solutions 157 = .ok (.ifCond .eq 11, 3) := by decide +kernel
theorem dL_solutions_160 : decode cL_solutions 160 = .ok (.iload 8, 2) := by decide +kernel
theorem dL_solutions_162 : decode cL_solutions 162 = .ok (.ifCond .le 6, 3) := by decide +kernel
theorem dL_solutions_165 : decode cL_solutions 165 = .ok (.goto 80, 3) := by decide +kernel
theorem dL_solutions_168 : decode cL_solutions 168 = .ok (.iload 4, 2) := by decide +kernel
theorem dL_solutions_170 : decode cL_solutions 170 = .ok (.aload_n 0, 1) := by decide +kernel
theorem dL_solutions_171 : decode cL_solutions 171 = .ok (.iconst 4, 1) := by decide +kernel
theorem dL_solutions_172 : decode cL_solutions 172 = .ok (.iaload, 1) := by decide +kernel
theorem dL_solutions_173 : decode cL_solutions 173 = .ok (.iload 6, 2) := by decide +kernel
theorem dL_solutions_175 : decode cL_solutions 175 = .ok (.imul, 1) := by decide +kernel
theorem dL_solutions_176 : decode cL_solutions 176 = .ok (.isub, 1) := by decide +kernel
theorem dL_solutions_177 : decode cL_solutions 177 = .ok (.aload_n 0, 1) := by decide +kernel
theorem dL_solutions_178 : decode cL_solutions 178 = .ok (.iconst 5, 1) := by decide +kernel
theorem dL_solutions_179 : decode cL_solutions 179 = .ok (.iaload, 1) := by decide +kernel
theorem dL_solutions_180 : decode cL_solutions 180 = .ok (.iload 7, 2) := by decide +kernel
theorem dL_solutions_182 : decode cL_solutions 182 = .ok (.imul, 1) := by decide +kernel
theorem dL_solutions_183 : decode cL_solutions 183 = .ok (.isub, 1) := by decide +kernel
theorem dL_solutions_184 : decode cL_solutions 184 = .ok (.aload_n 0, 1) := by decide +kernel
theorem dL_solutions_185 : decode cL_solutions 185 = .ok (.bipush 6, 2) := by decide +kernel
theorem dL_solutions_187 : decode cL_solutions 187 = .ok (.iaload, 1) := by decide +kernel
theorem dL_solutions_188 : decode cL_solutions 188 = .ok (.iload 8, 2) := by decide +kernel
theorem dL_solutions_190 : decode cL_solutions 190 = .ok (.imul, 1) := by decide +kernel
theorem dL_solutions_191 : decode cL_solutions 191 = .ok (.isub, 1) := by decide +kernel
theorem dL_solutions_192 : decode cL_solutions 192 = .ok (.istore 9, 2) := by decide +kernel
theorem dL_solutions_194 : decode cL_solutions 194 = .ok (.aload_n 0, 1) := by decide +kernel
theorem dL_solutions_195 : decode cL_solutions 195 = .ok (.bipush 7, 2) := by decide +kernel
theorem dL_solutions_197 : decode cL_solutions 197 = .ok (.iaload, 1) := by decide +kernel
theorem dL_solutions_198 : decode cL_solutions 198 = .ok (.ifCond .eq 10, 3) := by decide +kernel
theorem dL_solutions_201 : decode cL_solutions 201 = .ok (.iload_n 3, 1) := by decide +kernel
theorem dL_solutions_202 : decode cL_solutions 202 = .ok (.bipush 8, 2) := by decide +kernel
theorem dL_solutions_204 : decode cL_solutions 204 = .ok (.iand, 1) := by decide +kernel
theorem dL_solutions_205 : decode cL_solutions 205 = .ok (.ifCond .eq 14, 3) := by decide +kernel
theorem dL_solutions_208 : decode cL_solutions 208 = .ok (.iload 9, 2) := by decide +kernel
theorem dL_solutions_210 : decode cL_solutions 210 = .ok (.ifCond .ne 35, 3) := by decide +kernel
theorem dL_solutions_213 : decode cL_solutions 213 = .ok (.iinc 5 1, 3) := by decide +kernel
theorem dL_solutions_216 : decode cL_solutions 216 = .ok (.goto 29, 3) := by decide +kernel
theorem dL_solutions_219 : decode cL_solutions 219 = .ok (.iload 9, 2) := by decide +kernel
theorem dL_solutions_221 : decode cL_solutions 221 = .ok (.aload_n 0, 1) := by decide +kernel
theorem dL_solutions_222 : decode cL_solutions 222 = .ok (.bipush 7, 2) := by decide +kernel
theorem dL_solutions_224 : decode cL_solutions 224 = .ok (.iaload, 1) := by decide +kernel
theorem dL_solutions_225 : decode cL_solutions 225 = .ok (.irem, 1) := by decide +kernel
theorem dL_solutions_226 : decode cL_solutions 226 = .ok (.ifCond .ne 19, 3) := by decide +kernel
theorem dL_solutions_229 : decode cL_solutions 229 = .ok (.iload 9, 2) := by decide +kernel
theorem dL_solutions_231 : decode cL_solutions 231 = .ok (.aload_n 0, 1) := by decide +kernel
theorem dL_solutions_232 : decode cL_solutions 232 = .ok (.bipush 7, 2) := by decide +kernel
theorem dL_solutions_234 : decode cL_solutions 234 = .ok (.iaload, 1) := by decide +kernel
theorem dL_solutions_235 : decode cL_solutions 235 = .ok (.idiv, 1) := by decide +kernel
theorem dL_solutions_236 : decode cL_solutions 236 = .ok (.aload_n 1, 1) := by decide +kernel
theorem dL_solutions_237 : decode cL_solutions 237 = .ok (.iconst 1, 1) := by decide +kernel
theorem dL_solutions_238 : decode cL_solutions 238 = .ok (.iaload, 1) := by decide +kernel
theorem dL_solutions_239 : decode cL_solutions 239 = .ok (.if_icmp .gt 6, 3) := by decide +kernel
theorem dL_solutions_242 : decode cL_solutions 242 = .ok (.iinc 5 1, 3) := by decide +kernel
theorem dL_solutions_245 : decode cL_solutions 245 = .ok (.iinc 8 1, 3) := by decide +kernel
theorem dL_solutions_248 : decode cL_solutions 248 = .ok (.goto (-194), 3) := by decide +kernel
theorem dL_solutions_251 : decode cL_solutions 251 = .ok (.iinc 7 1, 3) := by decide +kernel
theorem dL_solutions_254 : decode cL_solutions 254 = .ok (.goto (-218), 3) := by decide +kernel
theorem dL_solutions_257 : decode cL_solutions 257 = .ok (.iinc 6 1, 3) := by decide +kernel
theorem dL_solutions_260 : decode cL_solutions 260 = .ok (.goto (-242), 3) := by decide +kernel
theorem dL_solutions_263 : decode cL_solutions 263 = .ok (.iload 4, 2) := by decide +kernel
theorem dL_solutions_265 : decode cL_solutions 265 = .ok (.ifCond .ge 7, 3) := by decide +kernel
theorem dL_solutions_268 : decode cL_solutions 268 = .ok (.iconst 0, 1) := by decide +kernel
theorem dL_solutions_269 : decode cL_solutions 269 = .ok (.goto 5, 3) := by decide +kernel
theorem dL_solutions_272 : decode cL_solutions 272 = .ok (.iload 5, 2) := by decide +kernel
theorem dL_solutions_274 : decode cL_solutions 274 = .ok (.ireturn, 1) := by decide +kernel
theorem dL_matchers_0 : decode cL_matchers 0 = .ok (.iconst 0, 1) := by decide +kernel
theorem dL_matchers_1 : decode cL_matchers 1 = .ok (.istore_n 2, 1) := by decide +kernel
theorem dL_matchers_2 : decode cL_matchers 2 = .ok (.iconst 0, 1) := by decide +kernel
theorem dL_matchers_3 : decode cL_matchers 3 = .ok (.istore_n 3, 1) := by decide +kernel
theorem dL_matchers_4 : decode cL_matchers 4 = .ok (.iload_n 3, 1) := by decide +kernel
theorem dL_matchers_5 : decode cL_matchers 5 = .ok (.iconst 4, 1) := by decide +kernel
theorem dL_matchers_6 : decode cL_matchers 6 = .ok (.if_icmp .ge 23, 3) := by decide +kernel
theorem dL_matchers_9 : decode cL_matchers 9 = .ok (.aload_n 0, 1) := by decide +kernel
theorem dL_matchers_10 : decode cL_matchers 10 = .ok (.iconst 4, 1) := by decide +kernel
theorem dL_matchers_11 : decode cL_matchers 11 = .ok (.iload_n 3, 1) := by decide +kernel
theorem dL_matchers_12 : decode cL_matchers 12 = .ok (.iadd, 1) := by decide +kernel
theorem dL_matchers_13 : decode cL_matchers 13 = .ok (.iaload, 1) := by decide +kernel
theorem dL_matchers_14 : decode cL_matchers 14 = .ok (.ifCond .le 9, 3) := by decide +kernel
theorem dL_matchers_17 : decode cL_matchers 17 = .ok (.iload_n 2, 1) := by decide +kernel
theorem dL_matchers_18 : decode cL_matchers 18 = .ok (.iconst 1, 1) := by decide +kernel
theorem dL_matchers_19 : decode cL_matchers 19 = .ok (.iload_n 3, 1) := by decide +kernel
theorem dL_matchers_20 : decode cL_matchers 20 = .ok (.ishl, 1) := by decide +kernel
theorem dL_matchers_21 : decode cL_matchers 21 = .ok (.ior, 1) := by decide +kernel
theorem dL_matchers_22 : decode cL_matchers 22 = .ok (.istore_n 2, 1) := by decide +kernel
theorem dL_matchers_23 : decode cL_matchers 23 = .ok (.iinc 3 1, 3) := by decide +kernel
theorem dL_matchers_26 : decode cL_matchers 26 = .ok (.goto (-22), 3) := by decide +kernel
theorem dL_matchers_29 : decode cL_matchers 29 = .ok (.lconst 0, 1) := by decide +kernel
theorem dL_matchers_30 : decode cL_matchers 30 = .ok (.lstore_n 3, 1) := by decide +kernel
theorem dL_matchers_31 : decode cL_matchers 31 = .ok (.iconst 0, 1) := by decide +kernel
theorem dL_matchers_32 : decode cL_matchers 32 = .ok (.istore 5, 2) := by decide +kernel
theorem dL_matchers_34 : decode cL_matchers 34 = .ok (.iload 5, 2) := by decide +kernel
theorem dL_matchers_36 : decode cL_matchers 36 = .ok (.bipush 16, 2) := by decide +kernel
theorem dL_matchers_38 : decode cL_matchers 38 = .ok (.if_icmp .ge 114, 3) := by decide +kernel
theorem dL_matchers_41 : decode cL_matchers 41 = .ok (.iload 5, 2) := by decide +kernel
theorem dL_matchers_43 : decode cL_matchers 43 = .ok (.iload_n 2, 1) := by decide +kernel
theorem dL_matchers_44 : decode cL_matchers 44 = .ok (.iconst (-1), 1) := by decide +kernel
theorem dL_matchers_45 : decode cL_matchers 45 = .ok (.ixor, 1) := by decide +kernel
theorem dL_matchers_46 : decode cL_matchers 46 = .ok (.iand, 1) := by decide +kernel
theorem dL_matchers_47 : decode cL_matchers 47 = .ok (.ifCond .ne 99, 3) := by decide +kernel
theorem dL_matchers_50 : decode cL_matchers 50 = .ok (.aload_n 1, 1) := by decide +kernel
theorem dL_matchers_51 : decode cL_matchers 51 = .ok (.iconst 0, 1) := by decide +kernel
theorem dL_matchers_52 : decode cL_matchers 52 = .ok (.iaload, 1) := by decide +kernel
theorem dL_matchers_53 : decode cL_matchers 53 = .ok (.iconst 1, 1) := by decide +kernel
theorem dL_matchers_54 : decode cL_matchers 54 = .ok (.if_icmp .ne 11, 3) := by decide +kernel
theorem dL_matchers_57 : decode cL_matchers 57 = .ok (.iload 5, 2) := by decide +kernel
theorem dL_matchers_59 : decode cL_matchers 59 = .ok (.ifCond .le 6, 3) := by decide +kernel
theorem dL_matchers_62 : decode cL_matchers 62 = .ok (.goto 84, 3) := by decide +kernel
theorem dL_matchers_65 : decode cL_matchers 65 = .ok (.lconst 1, 1) := by decide +kernel
theorem dL_matchers_66 : decode cL_matchers 66 = .ok (.lstore 6, 2) := by decide +kernel
theorem dL_matchers_68 : decode cL_matchers 68 = .ok (.iconst 0, 1) := by decide +kernel
theorem dL_matchers_69 : decode cL_matchers 69 = .ok (.istore 8, 2) := by decide +kernel
theorem dL_matchers_71 : decode cL_matchers 71 = .ok (.iconst 0, 1) := by decide +kernel
theorem dL_matchers_72 : decode cL_matchers 72 = .ok (.istore 9, 2) := by decide +kernel
theorem dL_matchers_74 : decode cL_matchers 74 = .ok (.iload 9, 2) := by decide +kernel
theorem dL_matchers_76 : decode cL_matchers 76 = .ok (.iconst 4, 1) := by decide +kernel
theorem dL_matchers_77 : decode cL_matchers 77 = .ok (.if_icmp .ge 21, 3) := by decide +kernel
theorem dL_matchers_80 : decode cL_matchers 80 = .ok (.iload 8, 2) := by decide +kernel
theorem dL_matchers_82 : decode cL_matchers 82 = .ok (.iload 5, 2) := by decide +kernel
theorem dL_matchers_84 : decode cL_matchers 84 = .ok (.iload 9, 2) := by decide +kernel
theorem dL_matchers_86 : decode cL_matchers 86 = .ok (.ishr, 1) := by decide +kernel
theorem dL_matchers_87 : decode cL_matchers 87 = .ok (.iconst 1, 1) := by decide +kernel
theorem dL_matchers_88 : decode cL_matchers 88 = .ok (.iand, 1) := by decide +kernel
theorem dL_matchers_89 : decode cL_matchers 89 = .ok (.iadd, 1) := by decide +kernel
theorem dL_matchers_90 : decode cL_matchers 90 = .ok (.istore 8, 2) := by decide +kernel
theorem dL_matchers_92 : decode cL_matchers 92 = .ok (.iinc 9 1, 3) := by decide +kernel
theorem dL_matchers_95 : decode cL_matchers 95 = .ok (.goto (-21), 3) := by decide +kernel
theorem dL_matchers_98 : decode cL_matchers 98 = .ok (.iconst 0, 1) := by decide +kernel
theorem dL_matchers_99 : decode cL_matchers 99 = .ok (.istore 9, 2) := by decide +kernel
theorem dL_matchers_101 : decode cL_matchers 101 = .ok (.iload 9, 2) := by decide +kernel
theorem dL_matchers_103 : decode cL_matchers 103 = .ok (.iconst 4, 1) := by decide +kernel
theorem dL_matchers_104 : decode cL_matchers 104 = .ok (.if_icmp .ge 24, 3) := by decide +kernel
theorem dL_matchers_107 : decode cL_matchers 107 = .ok (.lload 6, 2) := by decide +kernel
theorem dL_matchers_109 : decode cL_matchers 109 = .ok (.aload_n 0, 1) := by decide +kernel
theorem dL_matchers_110 : decode cL_matchers 110 = .ok (.aload_n 1, 1) := by decide +kernel
theorem dL_matchers_111 : decode cL_matchers 111 = .ok (.iload 9, 2) := by decide +kernel
theorem dL_matchers_113 : decode cL_matchers 113 = .ok (.iload 5, 2) := by decide +kernel
theorem dL_matchers_115 : decode cL_matchers 115 = .ok (.invokestatic 8, 3) := by decide +kernel
theorem dL_matchers_118 : decode cL_matchers 118 = .ok (.i2l, 1) := by decide +kernel
theorem dL_matchers_119 : decode cL_matchers 119 = .ok (.lmul, 1) := by decide +kernel
theorem dL_matchers_120 : decode cL_matchers 120 = .ok (.lstore 6, 2) := by decide +kernel
theorem dL_matchers_122 : decode cL_matchers 122 = .ok (.iinc 9 1, 3) := by decide +kernel
theorem dL_matchers_125 : decode cL_matchers 125 = .ok (.goto (-24), 3) := by decide +kernel
theorem dL_matchers_128 : decode cL_matchers 128 = .ok (.lload_n 3, 1) := by decide +kernel
theorem dL_matchers_129 : decode cL_matchers 129 = .ok (.iload 8, 2) := by decide +kernel
theorem dL_matchers_131 : decode cL_matchers 131 = .ok (.iconst 2, 1) := by decide +kernel
theorem dL_matchers_132 : decode cL_matchers 132 = .ok (.irem, 1) := by decide +kernel
theorem dL_matchers_133 : decode cL_matchers 133 = .ok (.ifCond .ne 8, 3) := by decide +kernel
theorem dL_matchers_136 : decode cL_matchers 136 = .ok (.lload 6, 2) := by decide +kernel
theorem dL_matchers_138 : decode cL_matchers 138 = .ok (.goto 6, 3) := by decide +kernel
theorem dL_matchers_141 : decode cL_matchers 141 = .ok (.lload 6, 2) := by decide +kernel
theorem dL_matchers_143 : decode cL_matchers 143 = .ok (.lneg, 1) := by decide +kernel
theorem dL_matchers_144 : decode cL_matchers 144 = .ok (.ladd, 1) := by decide +kernel
theorem dL_matchers_145 : decode cL_matchers 145 = .ok (.lstore_n 3, 1) := by decide +kernel
theorem dL_matchers_146 : decode cL_matchers 146 = .ok (.iinc 5 1, 3) := by decide +kernel
theorem dL_matchers_149 : decode cL_matchers 149 = .ok (.goto (-115), 3) := by decide +kernel
theorem dL_matchers_152 : decode cL_matchers 152 = .ok (.lload_n 3, 1) := by decide +kernel
theorem dL_matchers_153 : decode cL_matchers 153 = .ok (.lreturn, 1) := by decide +kernel
theorem dL_least_0 : decode cL_least 0 = .ok (.bipush 64, 2) := by decide +kernel
theorem dL_least_2 : decode cL_least 2 = .ok (.newarray .int, 2) := by decide +kernel
theorem dL_least_4 : decode cL_least 4 = .ok (.astore_n 2, 1) := by decide +kernel
theorem dL_least_5 : decode cL_least 5 = .ok (.iconst 0, 1) := by decide +kernel
theorem dL_least_6 : decode cL_least 6 = .ok (.istore_n 3, 1) := by decide +kernel
theorem dL_least_7 : decode cL_least 7 = .ok (.iconst 0, 1) := by decide +kernel
theorem dL_least_8 : decode cL_least 8 = .ok (.istore 4, 2) := by decide +kernel
theorem dL_least_10 : decode cL_least 10 = .ok (.iconst 1, 1) := by decide +kernel
theorem dL_least_11 : decode cL_least 11 = .ok (.istore 5, 2) := by decide +kernel
theorem dL_least_13 : decode cL_least 13 = .ok (.iload 5, 2) := by decide +kernel
theorem dL_least_15 : decode cL_least 15 = .ok (.sipush 256, 3) := by decide +kernel
theorem dL_least_18 : decode cL_least 18 = .ok (.if_icmp .ge 269, 3) := by decide +kernel
theorem dL_least_21 : decode cL_least 21 = .ok (.iload 5, 2) := by decide +kernel
theorem dL_least_23 : decode cL_least 23 = .ok (.bipush 64, 2) := by decide +kernel
theorem dL_least_25 : decode cL_least 25 = .ok (.idiv, 1) := by decide +kernel
theorem dL_least_26 : decode cL_least 26 = .ok (.istore 6, 2) := by decide +kernel
theorem dL_least_28 : decode cL_least 28 = .ok (.iload 5, 2) := by decide +kernel
theorem dL_least_30 : decode cL_least 30 = .ok (.bipush 16, 2) := by decide +kernel
theorem dL_least_32 : decode cL_least 32 = .ok (.idiv, 1) := by decide +kernel
theorem dL_least_33 : decode cL_least 33 = .ok (.iconst 4, 1) := by decide +kernel
theorem dL_least_34 : decode cL_least 34 = .ok (.irem, 1) := by decide +kernel
theorem dL_least_35 : decode cL_least 35 = .ok (.istore 7, 2) := by decide +kernel
theorem dL_least_37 : decode cL_least 37 = .ok (.iload 5, 2) := by decide +kernel
theorem dL_least_39 : decode cL_least 39 = .ok (.iconst 4, 1) := by decide +kernel
theorem dL_least_40 : decode cL_least 40 = .ok (.idiv, 1) := by decide +kernel
theorem dL_least_41 : decode cL_least 41 = .ok (.iconst 4, 1) := by decide +kernel
theorem dL_least_42 : decode cL_least 42 = .ok (.irem, 1) := by decide +kernel
theorem dL_least_43 : decode cL_least 43 = .ok (.istore 8, 2) := by decide +kernel
theorem dL_least_45 : decode cL_least 45 = .ok (.iload 5, 2) := by decide +kernel
theorem dL_least_47 : decode cL_least 47 = .ok (.iconst 4, 1) := by decide +kernel
theorem dL_least_48 : decode cL_least 48 = .ok (.irem, 1) := by decide +kernel
theorem dL_least_49 : decode cL_least 49 = .ok (.istore 9, 2) := by decide +kernel
theorem dL_least_51 : decode cL_least 51 = .ok (.aload_n 1, 1) := by decide +kernel
theorem dL_least_52 : decode cL_least 52 = .ok (.iconst 4, 1) := by decide +kernel
theorem dL_least_53 : decode cL_least 53 = .ok (.iaload, 1) := by decide +kernel
theorem dL_least_54 : decode cL_least 54 = .ok (.aload_n 1, 1) := by decide +kernel
theorem dL_least_55 : decode cL_least 55 = .ok (.bipush 12, 2) := by decide +kernel
theorem dL_least_57 : decode cL_least 57 = .ok (.iaload, 1) := by decide +kernel
theorem dL_least_58 : decode cL_least 58 = .ok (.isub, 1) := by decide +kernel
theorem dL_least_59 : decode cL_least 59 = .ok (.iload 6, 2) := by decide +kernel
theorem dL_least_61 : decode cL_least 61 = .ok (.imul, 1) := by decide +kernel
theorem dL_least_62 : decode cL_least 62 = .ok (.aload_n 1, 1) := by decide +kernel
theorem dL_least_63 : decode cL_least 63 = .ok (.iconst 5, 1) := by decide +kernel
theorem dL_least_64 : decode cL_least 64 = .ok (.iaload, 1) := by decide +kernel
theorem dL_least_65 : decode cL_least 65 = .ok (.aload_n 1, 1) := by decide +kernel
theorem dL_least_66 : decode cL_least 66 = .ok (.bipush 13, 2) := by decide +kernel
theorem dL_least_68 : decode cL_least 68 = .ok (.iaload, 1) := by decide +kernel
theorem dL_least_69 : decode cL_least 69 = .ok (.isub, 1) := by decide +kernel
theorem dL_least_70 : decode cL_least 70 = .ok (.iload 7, 2) := by decide +kernel
theorem dL_least_72 : decode cL_least 72 = .ok (.imul, 1) := by decide +kernel
theorem dL_least_73 : decode cL_least 73 = .ok (.iadd, 1) := by decide +kernel
theorem dL_least_74 : decode cL_least 74 = .ok (.aload_n 1, 1) := by decide +kernel
theorem dL_least_75 : decode cL_least 75 = .ok (.bipush 6, 2) := by decide +kernel
theorem dL_least_77 : decode cL_least 77 = .ok (.iaload, 1) := by decide +kernel
theorem dL_least_78 : decode cL_least 78 = .ok (.aload_n 1, 1) := by decide +kernel
theorem dL_least_79 : decode cL_least 79 = .ok (.bipush 14, 2) := by decide +kernel
theorem dL_least_81 : decode cL_least 81 = .ok (.iaload, 1) := by decide +kernel
theorem dL_least_82 : decode cL_least 82 = .ok (.isub, 1) := by decide +kernel
theorem dL_least_83 : decode cL_least 83 = .ok (.iload 8, 2) := by decide +kernel
theorem dL_least_85 : decode cL_least 85 = .ok (.imul, 1) := by decide +kernel
theorem dL_least_86 : decode cL_least 86 = .ok (.iadd, 1) := by decide +kernel
theorem dL_least_87 : decode cL_least 87 = .ok (.aload_n 1, 1) := by decide +kernel
theorem dL_least_88 : decode cL_least 88 = .ok (.bipush 7, 2) := by decide +kernel
theorem dL_least_90 : decode cL_least 90 = .ok (.iaload, 1) := by decide +kernel
theorem dL_least_91 : decode cL_least 91 = .ok (.aload_n 1, 1) := by decide +kernel
theorem dL_least_92 : decode cL_least 92 = .ok (.bipush 15, 2) := by decide +kernel
theorem dL_least_94 : decode cL_least 94 = .ok (.iaload, 1) := by decide +kernel
theorem dL_least_95 : decode cL_least 95 = .ok (.isub, 1) := by decide +kernel
theorem dL_least_96 : decode cL_least 96 = .ok (.iload 9, 2) := by decide +kernel
theorem dL_least_98 : decode cL_least 98 = .ok (.imul, 1) := by decide +kernel
theorem dL_least_99 : decode cL_least 99 = .ok (.iadd, 1) := by decide +kernel
theorem dL_least_100 : decode cL_least 100 = .ok (.ifCond .eq 6, 3) := by decide +kernel
theorem dL_least_103 : decode cL_least 103 = .ok (.goto 178, 3) := by decide +kernel
theorem dL_least_106 : decode cL_least 106 = .ok (.iconst 1, 1) := by decide +kernel
theorem dL_least_107 : decode cL_least 107 = .ok (.istore 10, 2) := by decide +kernel
theorem dL_least_109 : decode cL_least 109 = .ok (.iconst 0, 1) := by decide +kernel
theorem dL_least_110 : decode cL_least 110 = .ok (.istore 11, 2) := by decide +kernel
theorem dL_least_112 : decode cL_least 112 = .ok (.iload 11, 2) := by decide +kernel
theorem dL_least_114 : decode cL_least 114 = .ok (.iload_n 3, 1) := by decide +kernel
theorem dL_least_115 : decode cL_least 115 = .ok (.if_icmp .ge 67, 3) := by decide +kernel
theorem dL_least_118 : decode cL_least 118 = .ok (.iload 10, 2) := by decide +kernel
theorem dL_least_120 : decode cL_least 120 = .ok (.ifCond .eq 62, 3) := by decide +kernel
theorem dL_least_123 : decode cL_least 123 = .ok (.aload_n 2, 1) := by decide +kernel
theorem dL_least_124 : decode cL_least 124 = .ok (.iload 11, 2) := by decide +kernel
theorem dL_least_126 : decode cL_least 126 = .ok (.iaload, 1) := by decide +kernel
theorem dL_least_127 : decode cL_least 127 = .ok (.bipush 64, 2) := by decide +kernel
theorem dL_least_129 : decode cL_least 129 = .ok (.idiv, 1) := by decide +kernel
theorem dL_least_130 : decode cL_least 130 = .ok (.iload 6, 2) := by decide +kernel
theorem dL_least_132 : decode cL_least 132 = .ok (.if_icmp .gt 44, 3) := by decide +kernel
theorem dL_least_135 : decode cL_least 135 = .ok (.aload_n 2, 1) := by decide +kernel
theorem dL_least_136 : decode cL_least 136 = .ok (.iload 11, 2) := by decide +kernel
theorem dL_least_138 : decode cL_least 138 = .ok (.iaload, 1) := by decide +kernel
theorem dL_least_139 : decode cL_least 139 = .ok (.bipush 16, 2) := by decide +kernel
theorem dL_least_141 : decode cL_least 141 = .ok (.idiv, 1) := by decide +kernel
theorem dL_least_142 : decode cL_least 142 = .ok (.iconst 4, 1) := by decide +kernel
theorem dL_least_143 : decode cL_least 143 = .ok (.irem, 1) := by decide +kernel
theorem dL_least_144 : decode cL_least 144 = .ok (.iload 7, 2) := by decide +kernel
theorem dL_least_146 : decode cL_least 146 = .ok (.if_icmp .gt 30, 3) := by decide +kernel
theorem dL_least_149 : decode cL_least 149 = .ok (.aload_n 2, 1) := by decide +kernel
theorem dL_least_150 : decode cL_least 150 = .ok (.iload 11, 2) := by decide +kernel
theorem dL_least_152 : decode cL_least 152 = .ok (.iaload, 1) := by decide +kernel
theorem dL_least_153 : decode cL_least 153 = .ok (.iconst 4, 1) := by decide +kernel
theorem dL_least_154 : decode cL_least 154 = .ok (.idiv, 1) := by decide +kernel
theorem dL_least_155 : decode cL_least 155 = .ok (.iconst 4, 1) := by decide +kernel
theorem dL_least_156 : decode cL_least 156 = .ok (.irem, 1) := by decide +kernel
theorem dL_least_157 : decode cL_least 157 = .ok (.iload 8, 2) := by decide +kernel
theorem dL_least_159 : decode cL_least 159 = .ok (.if_icmp .gt 17, 3) := by decide +kernel
theorem dL_least_162 : decode cL_least 162 = .ok (.aload_n 2, 1) := by decide +kernel
theorem dL_least_163 : decode cL_least 163 = .ok (.iload 11, 2) := by decide +kernel
theorem dL_least_165 : decode cL_least 165 = .ok (.iaload, 1) := by decide +kernel
theorem dL_least_166 : decode cL_least 166 = .ok (.iconst 4, 1) := by decide +kernel
theorem dL_least_167 : decode cL_least 167 = .ok (.irem, 1) := by decide +kernel
theorem dL_least_168 : decode cL_least 168 = .ok (.iload 9, 2) := by decide +kernel
theorem dL_least_170 : decode cL_least 170 = .ok (.if_icmp .gt 6, 3) := by decide +kernel
theorem dL_least_173 : decode cL_least 173 = .ok (.iconst 0, 1) := by decide +kernel
theorem dL_least_174 : decode cL_least 174 = .ok (.istore 10, 2) := by decide +kernel
theorem dL_least_176 : decode cL_least 176 = .ok (.iinc 11 1, 3) := by decide +kernel
theorem dL_least_179 : decode cL_least 179 = .ok (.goto (-67), 3) := by decide +kernel
theorem dL_least_182 : decode cL_least 182 = .ok (.iload 10, 2) := by decide +kernel
theorem dL_least_184 : decode cL_least 184 = .ok (.ifCond .ne 6, 3) := by decide +kernel
theorem dL_least_187 : decode cL_least 187 = .ok (.goto 94, 3) := by decide +kernel
theorem dL_least_190 : decode cL_least 190 = .ok (.iload_n 3, 1) := by decide +kernel
theorem dL_least_191 : decode cL_least 191 = .ok (.bipush 64, 2) := by decide +kernel
theorem dL_least_193 : decode cL_least 193 = .ok (.if_icmp .ne 5, 3) := by decide +kernel
theorem dL_least_196 : decode cL_least 196 = .ok (.iconst 1, 1) := by decide +kernel
theorem dL_least_197 : decode cL_least 197 = .ok (.ireturn, 1) := by decide +kernel
theorem dL_least_198 : decode cL_least 198 = .ok (.aload_n 2, 1) := by decide +kernel
theorem dL_least_199 : decode cL_least 199 = .ok (.iload_n 3, 1) := by decide +kernel
theorem dL_least_200 : decode cL_least 200 = .ok (.iload 5, 2) := by decide +kernel
theorem dL_least_202 : decode cL_least 202 = .ok (.iastore, 1) := by decide +kernel
theorem dL_least_203 : decode cL_least 203 = .ok (.aload_n 0, 1) := by decide +kernel
theorem dL_least_204 : decode cL_least 204 = .ok (.iload_n 3, 1) := by decide +kernel
theorem dL_least_205 : decode cL_least 205 = .ok (.iconst 0, 1) := by decide +kernel
theorem dL_least_206 : decode cL_least 206 = .ok (.invokevirtual 14, 3) := by decide +kernel
theorem dL_least_209 : decode cL_least 209 = .ok (.iload 6, 2) := by decide +kernel
theorem dL_least_211 : decode cL_least 211 = .ok (.if_icmp .ne 36, 3) := by decide +kernel
theorem dL_least_214 : decode cL_least 214 = .ok (.aload_n 0, 1) := by decide +kernel
theorem dL_least_215 : decode cL_least 215 = .ok (.iload_n 3, 1) := by decide +kernel
theorem dL_least_216 : decode cL_least 216 = .ok (.iconst 1, 1) := by decide +kernel
theorem dL_least_217 : decode cL_least 217 = .ok (.invokevirtual 14, 3) := by decide +kernel
theorem dL_least_220 : decode cL_least 220 = .ok (.iload 7, 2) := by decide +kernel
theorem dL_least_222 : decode cL_least 222 = .ok (.if_icmp .ne 25, 3) := by decide +kernel
theorem dL_least_225 : decode cL_least 225 = .ok (.aload_n 0, 1) := by decide +kernel
theorem dL_least_226 : decode cL_least 226 = .ok (.iload_n 3, 1) := by decide +kernel
theorem dL_least_227 : decode cL_least 227 = .ok (.iconst 2, 1) := by decide +kernel
theorem dL_least_228 : decode cL_least 228 = .ok (.invokevirtual 14, 3) := by decide +kernel
theorem dL_least_231 : decode cL_least 231 = .ok (.iload 8, 2) := by decide +kernel
theorem dL_least_233 : decode cL_least 233 = .ok (.if_icmp .ne 14, 3) := by decide +kernel
theorem dL_least_236 : decode cL_least 236 = .ok (.aload_n 0, 1) := by decide +kernel
theorem dL_least_237 : decode cL_least 237 = .ok (.iload_n 3, 1) := by decide +kernel
theorem dL_least_238 : decode cL_least 238 = .ok (.iconst 3, 1) := by decide +kernel
theorem dL_least_239 : decode cL_least 239 = .ok (.invokevirtual 14, 3) := by decide +kernel
theorem dL_least_242 : decode cL_least 242 = .ok (.iload 9, 2) := by decide +kernel
theorem dL_least_244 : decode cL_least 244 = .ok (.if_icmp .eq 5, 3) := by decide +kernel
theorem dL_least_247 : decode cL_least 247 = .ok (.iconst 0, 1) := by decide +kernel
theorem dL_least_248 : decode cL_least 248 = .ok (.ireturn, 1) := by decide +kernel
theorem dL_least_249 : decode cL_least 249 = .ok (.iinc 3 1, 3) := by decide +kernel
theorem dL_least_252 : decode cL_least 252 = .ok (.iload 6, 2) := by decide +kernel
theorem dL_least_254 : decode cL_least 254 = .ok (.iload 7, 2) := by decide +kernel
theorem dL_least_256 : decode cL_least 256 = .ok (.iadd, 1) := by decide +kernel
theorem dL_least_257 : decode cL_least 257 = .ok (.iload 8, 2) := by decide +kernel
theorem dL_least_259 : decode cL_least 259 = .ok (.iadd, 1) := by decide +kernel
theorem dL_least_260 : decode cL_least 260 = .ok (.iload 9, 2) := by decide +kernel
theorem dL_least_262 : decode cL_least 262 = .ok (.iadd, 1) := by decide +kernel
theorem dL_least_263 : decode cL_least 263 = .ok (.iload 4, 2) := by decide +kernel
theorem dL_least_265 : decode cL_least 265 = .ok (.if_icmp .le 16, 3) := by decide +kernel
theorem dL_least_268 : decode cL_least 268 = .ok (.iload 6, 2) := by decide +kernel
theorem dL_least_270 : decode cL_least 270 = .ok (.iload 7, 2) := by decide +kernel
theorem dL_least_272 : decode cL_least 272 = .ok (.iadd, 1) := by decide +kernel
theorem dL_least_273 : decode cL_least 273 = .ok (.iload 8, 2) := by decide +kernel
theorem dL_least_275 : decode cL_least 275 = .ok (.iadd, 1) := by decide +kernel
theorem dL_least_276 : decode cL_least 276 = .ok (.iload 9, 2) := by decide +kernel
theorem dL_least_278 : decode cL_least 278 = .ok (.iadd, 1) := by decide +kernel
theorem dL_least_279 : decode cL_least 279 = .ok (.istore 4, 2) := by decide +kernel
theorem dL_least_281 : decode cL_least 281 = .ok (.iinc 5 1, 3) := by decide +kernel
theorem dL_least_284 : decode cL_least 284 = .ok (.goto (-271), 3) := by decide +kernel
theorem dL_least_287 : decode cL_least 287 = .ok (.aload_n 0, 1) := by decide +kernel
theorem dL_least_288 : decode cL_least 288 = .ok (.iload_n 3, 1) := by decide +kernel
theorem dL_least_289 : decode cL_least 289 = .ok (.iconst 0, 1) := by decide +kernel
theorem dL_least_290 : decode cL_least 290 = .ok (.invokevirtual 14, 3) := by decide +kernel
theorem dL_least_293 : decode cL_least 293 = .ok (.iconst (-1), 1) := by decide +kernel
theorem dL_least_294 : decode cL_least 294 = .ok (.if_icmp .ne 26, 3) := by decide +kernel
theorem dL_least_297 : decode cL_least 297 = .ok (.aload_n 0, 1) := by decide +kernel
theorem dL_least_298 : decode cL_least 298 = .ok (.iconst 4, 1) := by decide +kernel
theorem dL_least_299 : decode cL_least 299 = .ok (.invokevirtual 20, 3) := by decide +kernel
theorem dL_least_302 : decode cL_least 302 = .ok (.iload_n 3, 1) := by decide +kernel
theorem dL_least_303 : decode cL_least 303 = .ok (.if_icmp .ne 17, 3) := by decide +kernel
theorem dL_least_306 : decode cL_least 306 = .ok (.aload_n 0, 1) := by decide +kernel
theorem dL_least_307 : decode cL_least 307 = .ok (.iconst 5, 1) := by decide +kernel
theorem dL_least_308 : decode cL_least 308 = .ok (.invokevirtual 20, 3) := by decide +kernel
theorem dL_least_311 : decode cL_least 311 = .ok (.iload 4, 2) := by decide +kernel
theorem dL_least_313 : decode cL_least 313 = .ok (.if_icmp .ne 7, 3) := by decide +kernel
theorem dL_least_316 : decode cL_least 316 = .ok (.iconst 1, 1) := by decide +kernel
theorem dL_least_317 : decode cL_least 317 = .ok (.goto 4, 3) := by decide +kernel
theorem dL_least_320 : decode cL_least 320 = .ok (.iconst 0, 1) := by decide +kernel
theorem dL_least_321 : decode cL_least 321 = .ok (.ireturn, 1) := by decide +kernel
theorem dL_act_0 : decode cL_act 0 = .ok (.iload_n 1, 1) := by decide +kernel
theorem dL_act_1 : decode cL_act 1 = .ok (.bipush 20, 2) := by decide +kernel
theorem dL_act_3 : decode cL_act 3 = .ok (.ishr, 1) := by decide +kernel
theorem dL_act_4 : decode cL_act 4 = .ok (.bipush 12, 2) := by decide +kernel
theorem dL_act_6 : decode cL_act 6 = .ok (.invokestatic 24, 3) := by decide +kernel
theorem dL_act_9 : decode cL_act 9 = .ok (.istore 5, 2) := by decide +kernel
theorem dL_act_11 : decode cL_act 11 = .ok (.iload_n 2, 1) := by decide +kernel
theorem dL_act_12 : decode cL_act 12 = .ok (.iconst 3, 1) := by decide +kernel
theorem dL_act_13 : decode cL_act 13 = .ok (.invokestatic 24, 3) := by decide +kernel
theorem dL_act_16 : decode cL_act 16 = .ok (.istore 6, 2) := by decide +kernel
theorem dL_act_18 : decode cL_act 18 = .ok (.iload_n 2, 1) := by decide +kernel
theorem dL_act_19 : decode cL_act 19 = .ok (.iconst 2, 1) := by decide +kernel
theorem dL_act_20 : decode cL_act 20 = .ok (.ishr, 1) := by decide +kernel
theorem dL_act_21 : decode cL_act 21 = .ok (.iconst 3, 1) := by decide +kernel
theorem dL_act_22 : decode cL_act 22 = .ok (.invokestatic 24, 3) := by decide +kernel
theorem dL_act_25 : decode cL_act 25 = .ok (.istore 7, 2) := by decide +kernel
theorem dL_act_27 : decode cL_act 27 = .ok (.iload_n 2, 1) := by decide +kernel
theorem dL_act_28 : decode cL_act 28 = .ok (.iconst 4, 1) := by decide +kernel
theorem dL_act_29 : decode cL_act 29 = .ok (.ishr, 1) := by decide +kernel
theorem dL_act_30 : decode cL_act 30 = .ok (.iconst 4, 1) := by decide +kernel
theorem dL_act_31 : decode cL_act 31 = .ok (.invokestatic 24, 3) := by decide +kernel
theorem dL_act_34 : decode cL_act 34 = .ok (.istore 8, 2) := by decide +kernel
theorem dL_act_36 : decode cL_act 36 = .ok (.iload 5, 2) := by decide +kernel
theorem dL_act_38 : decode cL_act 38 = .ok (.iconst 4, 1) := by decide +kernel
theorem dL_act_39 : decode cL_act 39 = .ok (.if_icmp .ge 90, 3) := by decide +kernel
theorem dL_act_42 : decode cL_act 42 = .ok (.aload_n 3, 1) := by decide +kernel
theorem dL_act_43 : decode cL_act 43 = .ok (.bipush 8, 2) := by decide +kernel
theorem dL_act_45 : decode cL_act 45 = .ok (.iload 6, 2) := by decide +kernel
theorem dL_act_47 : decode cL_act 47 = .ok (.imul, 1) := by decide +kernel
theorem dL_act_48 : decode cL_act 48 = .ok (.iload 8, 2) := by decide +kernel
theorem dL_act_50 : decode cL_act 50 = .ok (.iadd, 1) := by decide +kernel
theorem dL_act_51 : decode cL_act 51 = .ok (.iaload, 1) := by decide +kernel
theorem dL_act_52 : decode cL_act 52 = .ok (.istore 9, 2) := by decide +kernel
theorem dL_act_54 : decode cL_act 54 = .ok (.aload_n 3, 1) := by decide +kernel
theorem dL_act_55 : decode cL_act 55 = .ok (.bipush 8, 2) := by decide +kernel
theorem dL_act_57 : decode cL_act 57 = .ok (.iload 6, 2) := by decide +kernel
theorem dL_act_59 : decode cL_act 59 = .ok (.imul, 1) := by decide +kernel
theorem dL_act_60 : decode cL_act 60 = .ok (.iload 8, 2) := by decide +kernel
theorem dL_act_62 : decode cL_act 62 = .ok (.iadd, 1) := by decide +kernel
theorem dL_act_63 : decode cL_act 63 = .ok (.iload_n 2, 1) := by decide +kernel
theorem dL_act_64 : decode cL_act 64 = .ok (.bipush 6, 2) := by decide +kernel
theorem dL_act_66 : decode cL_act 66 = .ok (.ishr, 1) := by decide +kernel
theorem dL_act_67 : decode cL_act 67 = .ok (.iload 6, 2) := by decide +kernel
theorem dL_act_69 : decode cL_act 69 = .ok (.iconst 2, 1) := by decide +kernel
theorem dL_act_70 : decode cL_act 70 = .ok (.if_icmp .ne 8, 3) := by decide +kernel
theorem dL_act_73 : decode cL_act 73 = .ok (.bipush 10, 2) := by decide +kernel
theorem dL_act_75 : decode cL_act 75 = .ok (.goto 4, 3) := by decide +kernel
theorem dL_act_78 : decode cL_act 78 = .ok (.iconst 4, 1) := by decide +kernel
theorem dL_act_79 : decode cL_act 79 = .ok (.invokestatic 24, 3) := by decide +kernel
theorem dL_act_82 : decode cL_act 82 = .ok (.iastore, 1) := by decide +kernel
theorem dL_act_83 : decode cL_act 83 = .ok (.aload 4, 2) := by decide +kernel
theorem dL_act_85 : decode cL_act 85 = .ok (.iconst 2, 1) := by decide +kernel
theorem dL_act_86 : decode cL_act 86 = .ok (.iaload, 1) := by decide +kernel
theorem dL_act_87 : decode cL_act 87 = .ok (.bipush 6, 2) := by decide +kernel
theorem dL_act_89 : decode cL_act 89 = .ok (.if_icmp .ge 11, 3) := by decide +kernel
theorem dL_act_92 : decode cL_act 92 = .ok (.aload 4, 2) := by decide +kernel
theorem dL_act_94 : decode cL_act 94 = .ok (.iconst 2, 1) := by decide +kernel
theorem dL_act_95 : decode cL_act 95 = .ok (.dup2, 1) := by decide +kernel
theorem dL_act_96 : decode cL_act 96 = .ok (.iaload, 1) := by decide +kernel
theorem dL_act_97 : decode cL_act 97 = .ok (.iconst 1, 1) := by decide +kernel
theorem dL_act_98 : decode cL_act 98 = .ok (.iadd, 1) := by decide +kernel
theorem dL_act_99 : decode cL_act 99 = .ok (.iastore, 1) := by decide +kernel
theorem dL_act_100 : decode cL_act 100 = .ok (.aload_n 0, 1) := by decide +kernel
theorem dL_act_101 : decode cL_act 101 = .ok (.iload 6, 2) := by decide +kernel
theorem dL_act_103 : decode cL_act 103 = .ok (.iload 8, 2) := by decide +kernel
theorem dL_act_105 : decode cL_act 105 = .ok (.aload_n 3, 1) := by decide +kernel
theorem dL_act_106 : decode cL_act 106 = .ok (.bipush 8, 2) := by decide +kernel
theorem dL_act_108 : decode cL_act 108 = .ok (.iload 6, 2) := by decide +kernel
theorem dL_act_110 : decode cL_act 110 = .ok (.imul, 1) := by decide +kernel
theorem dL_act_111 : decode cL_act 111 = .ok (.iload 8, 2) := by decide +kernel
theorem dL_act_113 : decode cL_act 113 = .ok (.iadd, 1) := by decide +kernel
theorem dL_act_114 : decode cL_act 114 = .ok (.iaload, 1) := by decide +kernel
theorem dL_act_115 : decode cL_act 115 = .ok (.invokevirtual 27, 3) := by decide +kernel
theorem dL_act_118 : decode cL_act 118 = .ok (.iload 9, 2) := by decide +kernel
theorem dL_act_120 : decode cL_act 120 = .ok (.if_icmp .ne 7, 3) := by decide +kernel
theorem dL_act_123 : decode cL_act 123 = .ok (.iconst 1, 1) := by decide +kernel
theorem dL_act_124 : decode cL_act 124 = .ok (.goto 4, 3) := by decide +kernel
theorem dL_act_127 : decode cL_act 127 = .ok (.iconst 0, 1) := by decide +kernel
theorem dL_act_128 : decode cL_act 128 = .ok (.ireturn, 1) := by decide +kernel
theorem dL_act_129 : decode cL_act 129 = .ok (.iload 5, 2) := by decide +kernel
theorem dL_act_131 : decode cL_act 131 = .ok (.bipush 8, 2) := by decide +kernel
theorem dL_act_133 : decode cL_act 133 = .ok (.if_icmp .ge 109, 3) := by decide +kernel
theorem dL_act_136 : decode cL_act 136 = .ok (.iload 6, 2) := by decide +kernel
theorem dL_act_138 : decode cL_act 138 = .ok (.iconst 2, 1) := by decide +kernel
theorem dL_act_139 : decode cL_act 139 = .ok (.if_icmp .ne 21, 3) := by decide +kernel
theorem dL_act_142 : decode cL_act 142 = .ok (.aload_n 0, 1) := by decide +kernel
theorem dL_act_143 : decode cL_act 143 = .ok (.iconst 2, 1) := by decide +kernel
theorem dL_act_144 : decode cL_act 144 = .ok (.iconst 4, 1) := by decide +kernel
theorem dL_act_145 : decode cL_act 145 = .ok (.iload 8, 2) := by decide +kernel
theorem dL_act_147 : decode cL_act 147 = .ok (.iadd, 1) := by decide +kernel
theorem dL_act_148 : decode cL_act 148 = .ok (.invokevirtual 31, 3) := by decide +kernel
theorem dL_act_151 : decode cL_act 151 = .ok (.ifCond .ne 7, 3) := by decide +kernel
theorem dL_act_154 : decode cL_act 154 = .ok (.iconst 1, 1) := by decide +kernel
theorem dL_act_155 : decode cL_act 155 = .ok (.goto 4, 3) := by decide +kernel
theorem dL_act_158 : decode cL_act 158 = .ok (.iconst 0, 1) := by decide +kernel
theorem dL_act_159 : decode cL_act 159 = .ok (.ireturn, 1) := by decide +kernel
theorem dL_act_160 : decode cL_act 160 = .ok (.aload_n 3, 1) := by decide +kernel
theorem dL_act_161 : decode cL_act 161 = .ok (.bipush 8, 2) := by decide +kernel
theorem dL_act_163 : decode cL_act 163 = .ok (.iload 6, 2) := by decide +kernel
theorem dL_act_165 : decode cL_act 165 = .ok (.imul, 1) := by decide +kernel
theorem dL_act_166 : decode cL_act 166 = .ok (.iconst 4, 1) := by decide +kernel
theorem dL_act_167 : decode cL_act 167 = .ok (.iadd, 1) := by decide +kernel
theorem dL_act_168 : decode cL_act 168 = .ok (.iload 8, 2) := by decide +kernel
theorem dL_act_170 : decode cL_act 170 = .ok (.iadd, 1) := by decide +kernel
theorem dL_act_171 : decode cL_act 171 = .ok (.iaload, 1) := by decide +kernel
theorem dL_act_172 : decode cL_act 172 = .ok (.istore 9, 2) := by decide +kernel
theorem dL_act_174 : decode cL_act 174 = .ok (.aload_n 3, 1) := by decide +kernel
theorem dL_act_175 : decode cL_act 175 = .ok (.bipush 8, 2) := by decide +kernel
theorem dL_act_177 : decode cL_act 177 = .ok (.iload 6, 2) := by decide +kernel
theorem dL_act_179 : decode cL_act 179 = .ok (.imul, 1) := by decide +kernel
theorem dL_act_180 : decode cL_act 180 = .ok (.iconst 4, 1) := by decide +kernel
theorem dL_act_181 : decode cL_act 181 = .ok (.iadd, 1) := by decide +kernel
theorem dL_act_182 : decode cL_act 182 = .ok (.iload 8, 2) := by decide +kernel
theorem dL_act_184 : decode cL_act 184 = .ok (.iadd, 1) := by decide +kernel
theorem dL_act_185 : decode cL_act 185 = .ok (.iload_n 2, 1) := by decide +kernel
theorem dL_act_186 : decode cL_act 186 = .ok (.bipush 6, 2) := by decide +kernel
theorem dL_act_188 : decode cL_act 188 = .ok (.ishr, 1) := by decide +kernel
theorem dL_act_189 : decode cL_act 189 = .ok (.iconst 3, 1) := by decide +kernel
theorem dL_act_190 : decode cL_act 190 = .ok (.invokestatic 24, 3) := by decide +kernel
theorem dL_act_193 : decode cL_act 193 = .ok (.iastore, 1) := by decide +kernel
theorem dL_act_194 : decode cL_act 194 = .ok (.aload 4, 2) := by decide +kernel
theorem dL_act_196 : decode cL_act 196 = .ok (.iconst 2, 1) := by decide +kernel
theorem dL_act_197 : decode cL_act 197 = .ok (.iaload, 1) := by decide +kernel
theorem dL_act_198 : decode cL_act 198 = .ok (.bipush 6, 2) := by decide +kernel
theorem dL_act_200 : decode cL_act 200 = .ok (.if_icmp .ge 11, 3) := by decide +kernel
theorem dL_act_203 : decode cL_act 203 = .ok (.aload 4, 2) := by decide +kernel
theorem dL_act_205 : decode cL_act 205 = .ok (.iconst 2, 1) := by decide +kernel
theorem dL_act_206 : decode cL_act 206 = .ok (.dup2, 1) := by decide +kernel
theorem dL_act_207 : decode cL_act 207 = .ok (.iaload, 1) := by decide +kernel
theorem dL_act_208 : decode cL_act 208 = .ok (.iconst 1, 1) := by decide +kernel
theorem dL_act_209 : decode cL_act 209 = .ok (.iadd, 1) := by decide +kernel
theorem dL_act_210 : decode cL_act 210 = .ok (.iastore, 1) := by decide +kernel
theorem dL_act_211 : decode cL_act 211 = .ok (.aload_n 0, 1) := by decide +kernel
theorem dL_act_212 : decode cL_act 212 = .ok (.iload 6, 2) := by decide +kernel
theorem dL_act_214 : decode cL_act 214 = .ok (.iload 8, 2) := by decide +kernel
theorem dL_act_216 : decode cL_act 216 = .ok (.aload_n 3, 1) := by decide +kernel
theorem dL_act_217 : decode cL_act 217 = .ok (.bipush 8, 2) := by decide +kernel
theorem dL_act_219 : decode cL_act 219 = .ok (.iload 6, 2) := by decide +kernel
theorem dL_act_221 : decode cL_act 221 = .ok (.imul, 1) := by decide +kernel
theorem dL_act_222 : decode cL_act 222 = .ok (.iconst 4, 1) := by decide +kernel
theorem dL_act_223 : decode cL_act 223 = .ok (.iadd, 1) := by decide +kernel
theorem dL_act_224 : decode cL_act 224 = .ok (.iload 8, 2) := by decide +kernel
theorem dL_act_226 : decode cL_act 226 = .ok (.iadd, 1) := by decide +kernel
theorem dL_act_227 : decode cL_act 227 = .ok (.iaload, 1) := by decide +kernel
theorem dL_act_228 : decode cL_act 228 = .ok (.invokevirtual 34, 3) := by decide +kernel
theorem dL_act_231 : decode cL_act 231 = .ok (.iload 9, 2) := by decide +kernel
theorem dL_act_233 : decode cL_act 233 = .ok (.if_icmp .ne 7, 3) := by decide +kernel
theorem dL_act_236 : decode cL_act 236 = .ok (.iconst 1, 1) := by decide +kernel
theorem dL_act_237 : decode cL_act 237 = .ok (.goto 4, 3) := by decide +kernel
theorem dL_act_240 : decode cL_act 240 = .ok (.iconst 0, 1) := by decide +kernel
theorem dL_act_241 : decode cL_act 241 = .ok (.ireturn, 1) := by decide +kernel
theorem dL_act_242 : decode cL_act 242 = .ok (.iload 5, 2) := by decide +kernel
theorem dL_act_244 : decode cL_act 244 = .ok (.bipush 8, 2) := by decide +kernel
theorem dL_act_246 : decode cL_act 246 = .ok (.if_icmp .ne 150, 3) := by decide +kernel
theorem dL_act_249 : decode cL_act 249 = .ok (.iconst 0, 1) := by decide +kernel
theorem dL_act_250 : decode cL_act 250 = .ok (.istore 9, 2) := by decide +kernel
theorem dL_act_252 : decode cL_act 252 = .ok (.iconst 0, 1) := by decide +kernel
theorem dL_act_253 : decode cL_act 253 = .ok (.istore 10, 2) := by decide +kernel
theorem dL_act_255 : decode cL_act 255 = .ok (.iload 10, 2) := by decide +kernel
theorem dL_act_257 : decode cL_act 257 = .ok (.bipush 8, 2) := by decide +kernel
theorem dL_act_259 : decode cL_act 259 = .ok (.if_icmp .ge 101, 3) := by decide +kernel
theorem dL_act_262 : decode cL_act 262 = .ok (.aload_n 3, 1) := by decide +kernel
theorem dL_act_263 : decode cL_act 263 = .ok (.bipush 8, 2) := by decide +kernel
theorem dL_act_265 : decode cL_act 265 = .ok (.iload 6, 2) := by decide +kernel
theorem dL_act_267 : decode cL_act 267 = .ok (.imul, 1) := by decide +kernel
theorem dL_act_268 : decode cL_act 268 = .ok (.iload 10, 2) := by decide +kernel
theorem dL_act_270 : decode cL_act 270 = .ok (.iadd, 1) := by decide +kernel
theorem dL_act_271 : decode cL_act 271 = .ok (.iaload, 1) := by decide +kernel
theorem dL_act_272 : decode cL_act 272 = .ok (.aload_n 3, 1) := by decide +kernel
theorem dL_act_273 : decode cL_act 273 = .ok (.bipush 8, 2) := by decide +kernel
theorem dL_act_275 : decode cL_act 275 = .ok (.iload 7, 2) := by decide +kernel
theorem dL_act_277 : decode cL_act 277 = .ok (.imul, 1) := by decide +kernel
theorem dL_act_278 : decode cL_act 278 = .ok (.iload 10, 2) := by decide +kernel
theorem dL_act_280 : decode cL_act 280 = .ok (.iadd, 1) := by decide +kernel
theorem dL_act_281 : decode cL_act 281 = .ok (.iaload, 1) := by decide +kernel
theorem dL_act_282 : decode cL_act 282 = .ok (.if_icmp .ge 16, 3) := by decide +kernel
theorem dL_act_285 : decode cL_act 285 = .ok (.aload_n 3, 1) := by decide +kernel
theorem dL_act_286 : decode cL_act 286 = .ok (.bipush 8, 2) := by decide +kernel
theorem dL_act_288 : decode cL_act 288 = .ok (.iload 6, 2) := by decide +kernel
theorem dL_act_290 : decode cL_act 290 = .ok (.imul, 1) := by decide +kernel
theorem dL_act_291 : decode cL_act 291 = .ok (.iload 10, 2) := by decide +kernel
theorem dL_act_293 : decode cL_act 293 = .ok (.iadd, 1) := by decide +kernel
theorem dL_act_294 : decode cL_act 294 = .ok (.iaload, 1) := by decide +kernel
theorem dL_act_295 : decode cL_act 295 = .ok (.goto 13, 3) := by decide +kernel
theorem dL_act_298 : decode cL_act 298 = .ok (.aload_n 3, 1) := by decide +kernel
theorem dL_act_299 : decode cL_act 299 = .ok (.bipush 8, 2) := by decide +kernel
theorem dL_act_301 : decode cL_act 301 = .ok (.iload 7, 2) := by decide +kernel
theorem dL_act_303 : decode cL_act 303 = .ok (.imul, 1) := by decide +kernel
theorem dL_act_304 : decode cL_act 304 = .ok (.iload 10, 2) := by decide +kernel
theorem dL_act_306 : decode cL_act 306 = .ok (.iadd, 1) := by decide +kernel
theorem dL_act_307 : decode cL_act 307 = .ok (.iaload, 1) := by decide +kernel
theorem dL_act_308 : decode cL_act 308 = .ok (.istore 11, 2) := by decide +kernel
theorem dL_act_310 : decode cL_act 310 = .ok (.aload_n 3, 1) := by decide +kernel
theorem dL_act_311 : decode cL_act 311 = .ok (.bipush 8, 2) := by decide +kernel
theorem dL_act_313 : decode cL_act 313 = .ok (.iload 6, 2) := by decide +kernel
theorem dL_act_315 : decode cL_act 315 = .ok (.imul, 1) := by decide +kernel
theorem dL_act_316 : decode cL_act 316 = .ok (.iload 10, 2) := by decide +kernel
theorem dL_act_318 : decode cL_act 318 = .ok (.iadd, 1) := by decide +kernel
theorem dL_act_319 : decode cL_act 319 = .ok (.dup2, 1) := by decide +kernel
theorem dL_act_320 : decode cL_act 320 = .ok (.iaload, 1) := by decide +kernel
theorem dL_act_321 : decode cL_act 321 = .ok (.iload 11, 2) := by decide +kernel
theorem dL_act_323 : decode cL_act 323 = .ok (.isub, 1) := by decide +kernel
theorem dL_act_324 : decode cL_act 324 = .ok (.iastore, 1) := by decide +kernel
theorem dL_act_325 : decode cL_act 325 = .ok (.iload 6, 2) := by decide +kernel
theorem dL_act_327 : decode cL_act 327 = .ok (.iload 7, 2) := by decide +kernel
theorem dL_act_329 : decode cL_act 329 = .ok (.if_icmp .eq 18, 3) := by decide +kernel
theorem dL_act_332 : decode cL_act 332 = .ok (.aload_n 3, 1) := by decide +kernel
theorem dL_act_333 : decode cL_act 333 = .ok (.bipush 8, 2) := by decide +kernel
theorem dL_act_335 : decode cL_act 335 = .ok (.iload 7, 2) := by decide +kernel
theorem dL_act_337 : decode cL_act 337 = .ok (.imul, 1) := by decide +kernel
theorem dL_act_338 : decode cL_act 338 = .ok (.iload 10, 2) := by decide +kernel
theorem dL_act_340 : decode cL_act 340 = .ok (.iadd, 1) := by decide +kernel
theorem dL_act_341 : decode cL_act 341 = .ok (.dup2, 1) := by decide +kernel
theorem dL_act_342 : decode cL_act 342 = .ok (.iaload, 1) := by decide +kernel
theorem dL_act_343 : decode cL_act 343 = .ok (.iload 11, 2) := by decide +kernel
theorem dL_act_345 : decode cL_act 345 = .ok (.isub, 1) := by decide +kernel
theorem dL_act_346 : decode cL_act 346 = .ok (.iastore, 1) := by decide +kernel
theorem dL_act_347 : decode cL_act 347 = .ok (.iload 9, 2) := by decide +kernel
theorem dL_act_349 : decode cL_act 349 = .ok (.iload 11, 2) := by decide +kernel
theorem dL_act_351 : decode cL_act 351 = .ok (.iadd, 1) := by decide +kernel
theorem dL_act_352 : decode cL_act 352 = .ok (.istore 9, 2) := by decide +kernel
theorem dL_act_354 : decode cL_act 354 = .ok (.iinc 10 1, 3) := by decide +kernel
theorem dL_act_357 : decode cL_act 357 = .ok (.goto (-102), 3) := by decide +kernel
theorem dL_act_360 : decode cL_act 360 = .ok (.aload 4, 2) := by decide +kernel
theorem dL_act_362 : decode cL_act 362 = .ok (.iconst 2, 1) := by decide +kernel
theorem dL_act_363 : decode cL_act 363 = .ok (.iaload, 1) := by decide +kernel
theorem dL_act_364 : decode cL_act 364 = .ok (.bipush 6, 2) := by decide +kernel
theorem dL_act_366 : decode cL_act 366 = .ok (.if_icmp .ge 11, 3) := by decide +kernel
theorem dL_act_369 : decode cL_act 369 = .ok (.aload 4, 2) := by decide +kernel
theorem dL_act_371 : decode cL_act 371 = .ok (.iconst 2, 1) := by decide +kernel
theorem dL_act_372 : decode cL_act 372 = .ok (.dup2, 1) := by decide +kernel
theorem dL_act_373 : decode cL_act 373 = .ok (.iaload, 1) := by decide +kernel
theorem dL_act_374 : decode cL_act 374 = .ok (.iconst 1, 1) := by decide +kernel
theorem dL_act_375 : decode cL_act 375 = .ok (.iadd, 1) := by decide +kernel
theorem dL_act_376 : decode cL_act 376 = .ok (.iastore, 1) := by decide +kernel
theorem dL_act_377 : decode cL_act 377 = .ok (.aload_n 0, 1) := by decide +kernel
theorem dL_act_378 : decode cL_act 378 = .ok (.iload 6, 2) := by decide +kernel
theorem dL_act_380 : decode cL_act 380 = .ok (.iload 7, 2) := by decide +kernel
theorem dL_act_382 : decode cL_act 382 = .ok (.invokevirtual 37, 3) := by decide +kernel
theorem dL_act_385 : decode cL_act 385 = .ok (.iload 9, 2) := by decide +kernel
theorem dL_act_387 : decode cL_act 387 = .ok (.if_icmp .ne 7, 3) := by decide +kernel
theorem dL_act_390 : decode cL_act 390 = .ok (.iconst 1, 1) := by decide +kernel
theorem dL_act_391 : decode cL_act 391 = .ok (.goto 4, 3) := by decide +kernel
theorem dL_act_394 : decode cL_act 394 = .ok (.iconst 0, 1) := by decide +kernel
theorem dL_act_395 : decode cL_act 395 = .ok (.ireturn, 1) := by decide +kernel
theorem dL_act_396 : decode cL_act 396 = .ok (.iload 5, 2) := by decide +kernel
theorem dL_act_398 : decode cL_act 398 = .ok (.bipush 9, 2) := by decide +kernel
theorem dL_act_400 : decode cL_act 400 = .ok (.if_icmp .ne 171, 3) := by decide +kernel
theorem dL_act_403 : decode cL_act 403 = .ok (.iconst 0, 1) := by decide +kernel
theorem dL_act_404 : decode cL_act 404 = .ok (.istore 9, 2) := by decide +kernel
theorem dL_act_406 : decode cL_act 406 = .ok (.iconst 0, 1) := by decide +kernel
theorem dL_act_407 : decode cL_act 407 = .ok (.istore 10, 2) := by decide +kernel
theorem dL_act_409 : decode cL_act 409 = .ok (.iload 10, 2) := by decide +kernel
theorem dL_act_411 : decode cL_act 411 = .ok (.bipush 8, 2) := by decide +kernel
theorem dL_act_413 : decode cL_act 413 = .ok (.if_icmp .ge 83, 3) := by decide +kernel
theorem dL_act_416 : decode cL_act 416 = .ok (.aload_n 3, 1) := by decide +kernel
theorem dL_act_417 : decode cL_act 417 = .ok (.bipush 8, 2) := by decide +kernel
theorem dL_act_419 : decode cL_act 419 = .ok (.iload 6, 2) := by decide +kernel
theorem dL_act_421 : decode cL_act 421 = .ok (.imul, 1) := by decide +kernel
theorem dL_act_422 : decode cL_act 422 = .ok (.iload 10, 2) := by decide +kernel
theorem dL_act_424 : decode cL_act 424 = .ok (.iadd, 1) := by decide +kernel
theorem dL_act_425 : decode cL_act 425 = .ok (.iaload, 1) := by decide +kernel
theorem dL_act_426 : decode cL_act 426 = .ok (.aload_n 3, 1) := by decide +kernel
theorem dL_act_427 : decode cL_act 427 = .ok (.bipush 8, 2) := by decide +kernel
theorem dL_act_429 : decode cL_act 429 = .ok (.iload 7, 2) := by decide +kernel
theorem dL_act_431 : decode cL_act 431 = .ok (.imul, 1) := by decide +kernel
theorem dL_act_432 : decode cL_act 432 = .ok (.iload 10, 2) := by decide +kernel
theorem dL_act_434 : decode cL_act 434 = .ok (.iadd, 1) := by decide +kernel
theorem dL_act_435 : decode cL_act 435 = .ok (.iaload, 1) := by decide +kernel
theorem dL_act_436 : decode cL_act 436 = .ok (.iadd, 1) := by decide +kernel
theorem dL_act_437 : decode cL_act 437 = .ok (.iload 10, 2) := by decide +kernel
theorem dL_act_439 : decode cL_act 439 = .ok (.iconst 4, 1) := by decide +kernel
theorem dL_act_440 : decode cL_act 440 = .ok (.if_icmp .ge 8, 3) := by decide +kernel
theorem dL_act_443 : decode cL_act 443 = .ok (.bipush 9, 2) := by decide +kernel
theorem dL_act_445 : decode cL_act 445 = .ok (.goto 14, 3) := by decide +kernel
theorem dL_act_448 : decode cL_act 448 = .ok (.iload 6, 2) := by decide +kernel
theorem dL_act_450 : decode cL_act 450 = .ok (.iconst 2, 1) := by decide +kernel
theorem dL_act_451 : decode cL_act 451 = .ok (.if_icmp .ne 7, 3) := by decide +kernel
theorem dL_act_454 : decode cL_act 454 = .ok (.iconst 0, 1) := by decide +kernel
theorem dL_act_455 : decode cL_act 455 = .ok (.goto 4, 3) := by decide +kernel
theorem dL_act_458 : decode cL_act 458 = .ok (.iconst 2, 1) := by decide +kernel
theorem dL_act_459 : decode cL_act 459 = .ok (.if_icmp .le 5, 3) := by decide +kernel
theorem dL_act_462 : decode cL_act 462 = .ok (.iconst 1, 1) := by decide +kernel
theorem dL_act_463 : decode cL_act 463 = .ok (.ireturn, 1) := by decide +kernel
theorem dL_act_464 : decode cL_act 464 = .ok (.iload 9, 2) := by decide +kernel
theorem dL_act_466 : decode cL_act 466 = .ok (.aload_n 3, 1) := by decide +kernel
theorem dL_act_467 : decode cL_act 467 = .ok (.bipush 8, 2) := by decide +kernel
theorem dL_act_469 : decode cL_act 469 = .ok (.iload 6, 2) := by decide +kernel
theorem dL_act_471 : decode cL_act 471 = .ok (.imul, 1) := by decide +kernel
theorem dL_act_472 : decode cL_act 472 = .ok (.iload 10, 2) := by decide +kernel
theorem dL_act_474 : decode cL_act 474 = .ok (.iadd, 1) := by decide +kernel
theorem dL_act_475 : decode cL_act 475 = .ok (.iaload, 1) := by decide +kernel
theorem dL_act_476 : decode cL_act 476 = .ok (.aload_n 3, 1) := by decide +kernel
theorem dL_act_477 : decode cL_act 477 = .ok (.bipush 8, 2) := by decide +kernel
theorem dL_act_479 : decode cL_act 479 = .ok (.iload 7, 2) := by decide +kernel
theorem dL_act_481 : decode cL_act 481 = .ok (.imul, 1) := by decide +kernel
theorem dL_act_482 : decode cL_act 482 = .ok (.iload 10, 2) := by decide +kernel
theorem dL_act_484 : decode cL_act 484 = .ok (.iadd, 1) := by decide +kernel
theorem dL_act_485 : decode cL_act 485 = .ok (.iaload, 1) := by decide +kernel
theorem dL_act_486 : decode cL_act 486 = .ok (.iadd, 1) := by decide +kernel
theorem dL_act_487 : decode cL_act 487 = .ok (.iadd, 1) := by decide +kernel
theorem dL_act_488 : decode cL_act 488 = .ok (.istore 9, 2) := by decide +kernel
theorem dL_act_490 : decode cL_act 490 = .ok (.iinc 10 1, 3) := by decide +kernel
theorem dL_act_493 : decode cL_act 493 = .ok (.goto (-84), 3) := by decide +kernel
theorem dL_act_496 : decode cL_act 496 = .ok (.iconst 0, 1) := by decide +kernel
theorem dL_act_497 : decode cL_act 497 = .ok (.istore 10, 2) := by decide +kernel
theorem dL_act_499 : decode cL_act 499 = .ok (.iload 10, 2) := by decide +kernel
theorem dL_act_501 : decode cL_act 501 = .ok (.bipush 8, 2) := by decide +kernel
theorem dL_act_503 : decode cL_act 503 = .ok (.if_icmp .ge 32, 3) := by decide +kernel
theorem dL_act_506 : decode cL_act 506 = .ok (.aload_n 3, 1) := by decide +kernel
theorem dL_act_507 : decode cL_act 507 = .ok (.bipush 8, 2) := by decide +kernel
theorem dL_act_509 : decode cL_act 509 = .ok (.iload 6, 2) := by decide +kernel
theorem dL_act_511 : decode cL_act 511 = .ok (.imul, 1) := by decide +kernel
theorem dL_act_512 : decode cL_act 512 = .ok (.iload 10, 2) := by decide +kernel
theorem dL_act_514 : decode cL_act 514 = .ok (.iadd, 1) := by decide +kernel
theorem dL_act_515 : decode cL_act 515 = .ok (.dup2, 1) := by decide +kernel
theorem dL_act_516 : decode cL_act 516 = .ok (.iaload, 1) := by decide +kernel
theorem dL_act_517 : decode cL_act 517 = .ok (.aload_n 3, 1) := by decide +kernel
theorem dL_act_518 : decode cL_act 518 = .ok (.bipush 8, 2) := by decide +kernel
theorem dL_act_520 : decode cL_act 520 = .ok (.iload 7, 2) := by decide +kernel
theorem dL_act_522 : decode cL_act 522 = .ok (.imul, 1) := by decide +kernel
theorem dL_act_523 : decode cL_act 523 = .ok (.iload 10, 2) := by decide +kernel
theorem dL_act_525 : decode cL_act 525 = .ok (.iadd, 1) := by decide +kernel
theorem dL_act_526 : decode cL_act 526 = .ok (.iaload, 1) := by decide +kernel
theorem dL_act_527 : decode cL_act 527 = .ok (.iadd, 1) := by decide +kernel
theorem dL_act_528 : decode cL_act 528 = .ok (.iastore, 1) := by decide +kernel
theorem dL_act_529 : decode cL_act 529 = .ok (.iinc 10 1, 3) := by decide +kernel
theorem dL_act_532 : decode cL_act 532 = .ok (.goto (-33), 3) := by decide +kernel
theorem dL_act_535 : decode cL_act 535 = .ok (.aload 4, 2) := by decide +kernel
theorem dL_act_537 : decode cL_act 537 = .ok (.iconst 2, 1) := by decide +kernel
theorem dL_act_538 : decode cL_act 538 = .ok (.iaload, 1) := by decide +kernel
theorem dL_act_539 : decode cL_act 539 = .ok (.bipush 6, 2) := by decide +kernel
theorem dL_act_541 : decode cL_act 541 = .ok (.if_icmp .ge 11, 3) := by decide +kernel
theorem dL_act_544 : decode cL_act 544 = .ok (.aload 4, 2) := by decide +kernel
theorem dL_act_546 : decode cL_act 546 = .ok (.iconst 2, 1) := by decide +kernel
theorem dL_act_547 : decode cL_act 547 = .ok (.dup2, 1) := by decide +kernel
theorem dL_act_548 : decode cL_act 548 = .ok (.iaload, 1) := by decide +kernel
theorem dL_act_549 : decode cL_act 549 = .ok (.iconst 1, 1) := by decide +kernel
theorem dL_act_550 : decode cL_act 550 = .ok (.iadd, 1) := by decide +kernel
theorem dL_act_551 : decode cL_act 551 = .ok (.iastore, 1) := by decide +kernel
theorem dL_act_552 : decode cL_act 552 = .ok (.aload_n 0, 1) := by decide +kernel
theorem dL_act_553 : decode cL_act 553 = .ok (.iload 6, 2) := by decide +kernel
theorem dL_act_555 : decode cL_act 555 = .ok (.iload 7, 2) := by decide +kernel
theorem dL_act_557 : decode cL_act 557 = .ok (.invokevirtual 40, 3) := by decide +kernel
theorem dL_act_560 : decode cL_act 560 = .ok (.iload 9, 2) := by decide +kernel
theorem dL_act_562 : decode cL_act 562 = .ok (.if_icmp .ne 7, 3) := by decide +kernel
theorem dL_act_565 : decode cL_act 565 = .ok (.iconst 1, 1) := by decide +kernel
theorem dL_act_566 : decode cL_act 566 = .ok (.goto 4, 3) := by decide +kernel
theorem dL_act_569 : decode cL_act 569 = .ok (.iconst 0, 1) := by decide +kernel
theorem dL_act_570 : decode cL_act 570 = .ok (.ireturn, 1) := by decide +kernel
theorem dL_act_571 : decode cL_act 571 = .ok (.iload 5, 2) := by decide +kernel
theorem dL_act_573 : decode cL_act 573 = .ok (.bipush 10, 2) := by decide +kernel
theorem dL_act_575 : decode cL_act 575 = .ok (.isub, 1) := by decide +kernel
theorem dL_act_576 : decode cL_act 576 = .ok (.istore 9, 2) := by decide +kernel
theorem dL_act_578 : decode cL_act 578 = .ok (.aload 4, 2) := by decide +kernel
theorem dL_act_580 : decode cL_act 580 = .ok (.iload 9, 2) := by decide +kernel
theorem dL_act_582 : decode cL_act 582 = .ok (.iaload, 1) := by decide +kernel
theorem dL_act_583 : decode cL_act 583 = .ok (.istore 10, 2) := by decide +kernel
theorem dL_act_585 : decode cL_act 585 = .ok (.aload 4, 2) := by decide +kernel
theorem dL_act_587 : decode cL_act 587 = .ok (.iload 9, 2) := by decide +kernel
theorem dL_act_589 : decode cL_act 589 = .ok (.iload 9, 2) := by decide +kernel
theorem dL_act_591 : decode cL_act 591 = .ok (.ifCond .ne 11, 3) := by decide +kernel
theorem dL_act_594 : decode cL_act 594 = .ok (.iload_n 2, 1) := by decide +kernel
theorem dL_act_595 : decode cL_act 595 = .ok (.iconst 2, 1) := by decide +kernel
theorem dL_act_596 : decode cL_act 596 = .ok (.invokestatic 24, 3) := by decide +kernel
theorem dL_act_599 : decode cL_act 599 = .ok (.goto 9, 3) := by decide +kernel
theorem dL_act_602 : decode cL_act 602 = .ok (.iload_n 2, 1) := by decide +kernel
theorem dL_act_603 : decode cL_act 603 = .ok (.bipush 10, 2) := by decide +kernel
theorem dL_act_605 : decode cL_act 605 = .ok (.invokestatic 24, 3) := by decide +kernel
theorem dL_act_608 : decode cL_act 608 = .ok (.iastore, 1) := by decide +kernel
theorem dL_act_609 : decode cL_act 609 = .ok (.aload 4, 2) := by decide +kernel
theorem dL_act_611 : decode cL_act 611 = .ok (.iconst 2, 1) := by decide +kernel
theorem dL_act_612 : decode cL_act 612 = .ok (.iaload, 1) := by decide +kernel
theorem dL_act_613 : decode cL_act 613 = .ok (.bipush 6, 2) := by decide +kernel
theorem dL_act_615 : decode cL_act 615 = .ok (.if_icmp .ge 11, 3) := by decide +kernel
theorem dL_act_618 : decode cL_act 618 = .ok (.aload 4, 2) := by decide +kernel
theorem dL_act_620 : decode cL_act 620 = .ok (.iconst 2, 1) := by decide +kernel
theorem dL_act_621 : decode cL_act 621 = .ok (.dup2, 1) := by decide +kernel
theorem dL_act_622 : decode cL_act 622 = .ok (.iaload, 1) := by decide +kernel
theorem dL_act_623 : decode cL_act 623 = .ok (.iconst 1, 1) := by decide +kernel
theorem dL_act_624 : decode cL_act 624 = .ok (.iadd, 1) := by decide +kernel
theorem dL_act_625 : decode cL_act 625 = .ok (.iastore, 1) := by decide +kernel
theorem dL_act_626 : decode cL_act 626 = .ok (.aload_n 0, 1) := by decide +kernel
theorem dL_act_627 : decode cL_act 627 = .ok (.iload 9, 2) := by decide +kernel
theorem dL_act_629 : decode cL_act 629 = .ok (.aload 4, 2) := by decide +kernel
theorem dL_act_631 : decode cL_act 631 = .ok (.iload 9, 2) := by decide +kernel
theorem dL_act_633 : decode cL_act 633 = .ok (.iaload, 1) := by decide +kernel
theorem dL_act_634 : decode cL_act 634 = .ok (.invokevirtual 43, 3) := by decide +kernel
theorem dL_act_637 : decode cL_act 637 = .ok (.iload 10, 2) := by decide +kernel
theorem dL_act_639 : decode cL_act 639 = .ok (.if_icmp .ne 7, 3) := by decide +kernel
theorem dL_act_642 : decode cL_act 642 = .ok (.iconst 1, 1) := by decide +kernel
theorem dL_act_643 : decode cL_act 643 = .ok (.goto 4, 3) := by decide +kernel
theorem dL_act_646 : decode cL_act 646 = .ok (.iconst 0, 1) := by decide +kernel
theorem dL_act_647 : decode cL_act 647 = .ok (.ireturn, 1) := by decide +kernel
theorem dL_agree_0 : decode cL_agree 0 = .ok (.iconst 0, 1) := by decide +kernel
theorem dL_agree_1 : decode cL_agree 1 = .ok (.istore_n 3, 1) := by decide +kernel
theorem dL_agree_2 : decode cL_agree 2 = .ok (.iload_n 3, 1) := by decide +kernel
theorem dL_agree_3 : decode cL_agree 3 = .ok (.bipush 24, 2) := by decide +kernel
theorem dL_agree_5 : decode cL_agree 5 = .ok (.if_icmp .ge 29, 3) := by decide +kernel
theorem dL_agree_8 : decode cL_agree 8 = .ok (.aload_n 0, 1) := by decide +kernel
theorem dL_agree_9 : decode cL_agree 9 = .ok (.iload_n 3, 1) := by decide +kernel
theorem dL_agree_10 : decode cL_agree 10 = .ok (.bipush 8, 2) := by decide +kernel
theorem dL_agree_12 : decode cL_agree 12 = .ok (.idiv, 1) := by decide +kernel
theorem dL_agree_13 : decode cL_agree 13 = .ok (.iload_n 3, 1) := by decide +kernel
theorem dL_agree_14 : decode cL_agree 14 = .ok (.bipush 8, 2) := by decide +kernel
theorem dL_agree_16 : decode cL_agree 16 = .ok (.irem, 1) := by decide +kernel
theorem dL_agree_17 : decode cL_agree 17 = .ok (.invokevirtual 31, 3) := by decide +kernel
theorem dL_agree_20 : decode cL_agree 20 = .ok (.aload_n 1, 1) := by decide +kernel
theorem dL_agree_21 : decode cL_agree 21 = .ok (.iload_n 3, 1) := by decide +kernel
theorem dL_agree_22 : decode cL_agree 22 = .ok (.iaload, 1) := by decide +kernel
theorem dL_agree_23 : decode cL_agree 23 = .ok (.if_icmp .eq 5, 3) := by decide +kernel
theorem dL_agree_26 : decode cL_agree 26 = .ok (.iconst 0, 1) := by decide +kernel
theorem dL_agree_27 : decode cL_agree 27 = .ok (.ireturn, 1) := by decide +kernel
theorem dL_agree_28 : decode cL_agree 28 = .ok (.iinc 3 1, 3) := by decide +kernel
theorem dL_agree_31 : decode cL_agree 31 = .ok (.goto (-29), 3) := by decide +kernel
theorem dL_agree_34 : decode cL_agree 34 = .ok (.iconst 0, 1) := by decide +kernel
theorem dL_agree_35 : decode cL_agree 35 = .ok (.istore_n 3, 1) := by decide +kernel
theorem dL_agree_36 : decode cL_agree 36 = .ok (.iload_n 3, 1) := by decide +kernel
theorem dL_agree_37 : decode cL_agree 37 = .ok (.iconst 4, 1) := by decide +kernel
theorem dL_agree_38 : decode cL_agree 38 = .ok (.if_icmp .ge 44, 3) := by decide +kernel
theorem dL_agree_41 : decode cL_agree 41 = .ok (.aload_n 0, 1) := by decide +kernel
theorem dL_agree_42 : decode cL_agree 42 = .ok (.iload_n 3, 1) := by decide +kernel
theorem dL_agree_43 : decode cL_agree 43 = .ok (.invokevirtual 46, 3) := by decide +kernel
theorem dL_agree_46 : decode cL_agree 46 = .ok (.aload_n 1, 1) := by decide +kernel
theorem dL_agree_47 : decode cL_agree 47 = .ok (.bipush 16, 2) := by decide +kernel
theorem dL_agree_49 : decode cL_agree 49 = .ok (.iload_n 3, 1) := by decide +kernel
theorem dL_agree_50 : decode cL_agree 50 = .ok (.iadd, 1) := by decide +kernel
theorem dL_agree_51 : decode cL_agree 51 = .ok (.iaload, 1) := by decide +kernel
theorem dL_agree_52 : decode cL_agree 52 = .ok (.aload_n 1, 1) := by decide +kernel
theorem dL_agree_53 : decode cL_agree 53 = .ok (.iload_n 3, 1) := by decide +kernel
theorem dL_agree_54 : decode cL_agree 54 = .ok (.iaload, 1) := by decide +kernel
theorem dL_agree_55 : decode cL_agree 55 = .ok (.isub, 1) := by decide +kernel
theorem dL_agree_56 : decode cL_agree 56 = .ok (.if_icmp .ne 18, 3) := by decide +kernel
theorem dL_agree_59 : decode cL_agree 59 = .ok (.aload_n 0, 1) := by decide +kernel
theorem dL_agree_60 : decode cL_agree 60 = .ok (.iload_n 3, 1) := by decide +kernel
theorem dL_agree_61 : decode cL_agree 61 = .ok (.invokevirtual 49, 3) := by decide +kernel
theorem dL_agree_64 : decode cL_agree 64 = .ok (.aload_n 1, 1) := by decide +kernel
theorem dL_agree_65 : decode cL_agree 65 = .ok (.aload_n 2, 1) := by decide +kernel
theorem dL_agree_66 : decode cL_agree 66 = .ok (.iload_n 3, 1) := by decide +kernel
theorem dL_agree_67 : decode cL_agree 67 = .ok (.iconst 0, 1) := by decide +kernel
theorem dL_agree_68 : decode cL_agree 68 = .ok (.invokestatic 8, 3) := by decide +kernel
theorem dL_agree_71 : decode cL_agree 71 = .ok (.if_icmp .eq 5, 3) := by decide +kernel
theorem dL_agree_74 : decode cL_agree 74 = .ok (.iconst 0, 1) := by decide +kernel
theorem dL_agree_75 : decode cL_agree 75 = .ok (.ireturn, 1) := by decide +kernel
theorem dL_agree_76 : decode cL_agree 76 = .ok (.iinc 3 1, 3) := by decide +kernel
theorem dL_agree_79 : decode cL_agree 79 = .ok (.goto (-43), 3) := by decide +kernel
theorem dL_agree_82 : decode cL_agree 82 = .ok (.aload_n 1, 1) := by decide +kernel
theorem dL_agree_83 : decode cL_agree 83 = .ok (.aload_n 2, 1) := by decide +kernel
theorem dL_agree_84 : decode cL_agree 84 = .ok (.invokestatic 51, 3) := by decide +kernel
theorem dL_agree_87 : decode cL_agree 87 = .ok (.lstore_n 3, 1) := by decide +kernel
theorem dL_agree_88 : decode cL_agree 88 = .ok (.aload_n 0, 1) := by decide +kernel
theorem dL_agree_89 : decode cL_agree 89 = .ok (.iconst 0, 1) := by decide +kernel
theorem dL_agree_90 : decode cL_agree 90 = .ok (.invokevirtual 55, 3) := by decide +kernel
theorem dL_agree_93 : decode cL_agree 93 = .ok (.lload_n 3, 1) := by decide +kernel
theorem dL_agree_94 : decode cL_agree 94 = .ok (.lcmp, 1) := by decide +kernel
theorem dL_agree_95 : decode cL_agree 95 = .ok (.ifCond .ne 37, 3) := by decide +kernel
theorem dL_agree_98 : decode cL_agree 98 = .ok (.aload_n 0, 1) := by decide +kernel
theorem dL_agree_99 : decode cL_agree 99 = .ok (.iconst 1, 1) := by decide +kernel
theorem dL_agree_100 : decode cL_agree 100 = .ok (.invokevirtual 55, 3) := by decide +kernel
theorem dL_agree_103 : decode cL_agree 103 = .ok (.lload_n 3, 1) := by decide +kernel
theorem dL_agree_104 : decode cL_agree 104 = .ok (.lcmp, 1) := by decide +kernel
theorem dL_agree_105 : decode cL_agree 105 = .ok (.ifCond .ne 27, 3) := by decide +kernel
theorem dL_agree_108 : decode cL_agree 108 = .ok (.aload_n 0, 1) := by decide +kernel
theorem dL_agree_109 : decode cL_agree 109 = .ok (.bipush 10, 2) := by decide +kernel
theorem dL_agree_111 : decode cL_agree 111 = .ok (.invokevirtual 20, 3) := by decide +kernel
theorem dL_agree_114 : decode cL_agree 114 = .ok (.aload_n 2, 1) := by decide +kernel
theorem dL_agree_115 : decode cL_agree 115 = .ok (.iconst 2, 1) := by decide +kernel
theorem dL_agree_116 : decode cL_agree 116 = .ok (.iaload, 1) := by decide +kernel
theorem dL_agree_117 : decode cL_agree 117 = .ok (.if_icmp .ne 15, 3) := by decide +kernel
theorem dL_agree_120 : decode cL_agree 120 = .ok (.aload_n 0, 1) := by decide +kernel
theorem dL_agree_121 : decode cL_agree 121 = .ok (.aload_n 1, 1) := by decide +kernel
theorem dL_agree_122 : decode cL_agree 122 = .ok (.invokestatic 58, 3) := by decide +kernel
theorem dL_agree_125 : decode cL_agree 125 = .ok (.ifCond .eq 7, 3) := by decide +kernel
theorem dL_agree_128 : decode cL_agree 128 = .ok (.iconst 1, 1) := by decide +kernel
theorem dL_agree_129 : decode cL_agree 129 = .ok (.goto 4, 3) := by decide +kernel
theorem dL_agree_132 : decode cL_agree 132 = .ok (.iconst 0, 1) := by decide +kernel
theorem dL_agree_133 : decode cL_agree 133 = .ok (.ireturn, 1) := by decide +kernel
theorem dL_law_0 : decode cL_law 0 = .ok (.new 15, 3) := by decide +kernel
theorem dL_law_3 : decode cL_law 3 = .ok (.dup, 1) := by decide +kernel
theorem dL_law_4 : decode cL_law 4 = .ok (.invokespecial 61, 3) := by decide +kernel
theorem dL_law_7 : decode cL_law 7 = .ok (.astore_n 1, 1) := by decide +kernel
theorem dL_law_8 : decode cL_law 8 = .ok (.bipush 24, 2) := by decide +kernel
theorem dL_law_10 : decode cL_law 10 = .ok (.newarray .int, 2) := by decide +kernel
theorem dL_law_12 : decode cL_law 12 = .ok (.astore_n 2, 1) := by decide +kernel
theorem dL_law_13 : decode cL_law 13 = .ok (.iconst 3, 1) := by decide +kernel
theorem dL_law_14 : decode cL_law 14 = .ok (.newarray .int, 2) := by decide +kernel
theorem dL_law_16 : decode cL_law 16 = .ok (.astore_n 3, 1) := by decide +kernel
theorem dL_law_17 : decode cL_law 17 = .ok (.aload_n 3, 1) := by decide +kernel
theorem dL_law_18 : decode cL_law 18 = .ok (.iconst 0, 1) := by decide +kernel
theorem dL_law_19 : decode cL_law 19 = .ok (.iconst 1, 1) := by decide +kernel
theorem dL_law_20 : decode cL_law 20 = .ok (.iastore, 1) := by decide +kernel
theorem dL_law_21 : decode cL_law 21 = .ok (.aload_n 3, 1) := by decide +kernel
theorem dL_law_22 : decode cL_law 22 = .ok (.iconst 1, 1) := by decide +kernel
theorem dL_law_23 : decode cL_law 23 = .ok (.bipush 9, 2) := by decide +kernel
theorem dL_law_25 : decode cL_law 25 = .ok (.iastore, 1) := by decide +kernel
theorem dL_law_26 : decode cL_law 26 = .ok (.iconst 0, 1) := by decide +kernel
theorem dL_law_27 : decode cL_law 27 = .ok (.istore 4, 2) := by decide +kernel
theorem dL_law_29 : decode cL_law 29 = .ok (.iload 4, 2) := by decide +kernel
theorem dL_law_31 : decode cL_law 31 = .ok (.bipush 36, 2) := by decide +kernel
theorem dL_law_33 : decode cL_law 33 = .ok (.if_icmp .ge 47, 3) := by decide +kernel
theorem dL_law_36 : decode cL_law 36 = .ok (.aload_n 1, 1) := by decide +kernel
theorem dL_law_37 : decode cL_law 37 = .ok (.aload_n 0, 1) := by decide +kernel
theorem dL_law_38 : decode cL_law 38 = .ok (.iconst 2, 1) := by decide +kernel
theorem dL_law_39 : decode cL_law 39 = .ok (.iload 4, 2) := by decide +kernel
theorem dL_law_41 : decode cL_law 41 = .ok (.imul, 1) := by decide +kernel
theorem dL_law_42 : decode cL_law 42 = .ok (.invokestatic 62, 3) := by decide +kernel
theorem dL_law_45 : decode cL_law 45 = .ok (.aload_n 0, 1) := by decide +kernel
theorem dL_law_46 : decode cL_law 46 = .ok (.iconst 2, 1) := by decide +kernel
theorem dL_law_47 : decode cL_law 47 = .ok (.iload 4, 2) := by decide +kernel
theorem dL_law_49 : decode cL_law 49 = .ok (.imul, 1) := by decide +kernel
theorem dL_law_50 : decode cL_law 50 = .ok (.iconst 1, 1) := by decide +kernel
theorem dL_law_51 : decode cL_law 51 = .ok (.iadd, 1) := by decide +kernel
theorem dL_law_52 : decode cL_law 52 = .ok (.invokestatic 62, 3) := by decide +kernel
theorem dL_law_55 : decode cL_law 55 = .ok (.aload_n 2, 1) := by decide +kernel
theorem dL_law_56 : decode cL_law 56 = .ok (.aload_n 3, 1) := by decide +kernel
theorem dL_law_57 : decode cL_law 57 = .ok (.invokestatic 66, 3) := by decide +kernel
theorem dL_law_60 : decode cL_law 60 = .ok (.ifCond .eq 12, 3) := by decide +kernel
theorem dL_law_63 : decode cL_law 63 = .ok (.aload_n 1, 1) := by decide +kernel
theorem dL_law_64 : decode cL_law 64 = .ok (.aload_n 2, 1) := by decide +kernel
theorem dL_law_65 : decode cL_law 65 = .ok (.aload_n 3, 1) := by decide +kernel
theorem dL_law_66 : decode cL_law 66 = .ok (.invokestatic 70, 3) := by decide +kernel
theorem dL_law_69 : decode cL_law 69 = .ok (.ifCond .ne 5, 3) := by decide +kernel
theorem dL_law_72 : decode cL_law 72 = .ok (.iconst 0, 1) := by decide +kernel
theorem dL_law_73 : decode cL_law 73 = .ok (.ireturn, 1) := by decide +kernel
theorem dL_law_74 : decode cL_law 74 = .ok (.iinc 4 1, 3) := by decide +kernel
theorem dL_law_77 : decode cL_law 77 = .ok (.goto (-48), 3) := by decide +kernel
theorem dL_law_80 : decode cL_law 80 = .ok (.iconst 1, 1) := by decide +kernel
theorem dL_law_81 : decode cL_law 81 = .ok (.ireturn, 1) := by decide +kernel
end
section
/-! The base: one list of words for all methods (TB), a method's context (en), a world at hand (wk), contracts of methods that make nothing (ct), and the rows over them. -/
def TB : List Cond := lw_tbl.filter goodWord
theorem tb {w : Cond} (i : Nat) (h : lw_tbl[i]? = some w) (hg : goodWord w = true) : w ∈ TB := List.mem_filter.mpr ⟨List.mem_of_getElem? h, hg⟩
theorem TB_good {w : Cond} (h : w ∈ TB) : goodWord w = true := (List.mem_filter.mp h).2
theorem tb_sub {L : List Cond} (h1 : ∀ w ∈ L, w ∈ lw_tbl) (h2 : L.all goodWord = true) : ∀ w ∈ L, w ∈ TB := fun w h => List.mem_filter.mpr ⟨h1 w h, List.all_eq_true.mp h2 w h⟩
def gT (g : Nat → ClassId) : List (ClassId × FieldType) := [(g 0, .int), (g 1, .long), (g 2, .boolean), (g 3, .array .int), (g 4, .array .long)]
abbrev wsm (y : MethodName) (cc : ByteArray) (nL : Nat) (ret : Option FieldType) : List Cond := .code y cc nL ret :: TB
abbrev rmk (f k : Nat) : Room := { frames := f, cells := 0, slots := 0, locals := k }
def en (p : Program) (m : MethodId) (c : Code) (cc : ByteArray) (nL : Nat) (s : State) (args : Array Value) (own : String) (D : va_G) (g : Nat → ClassId) : Prop :=
  (p.tables.exec = Jvm.exec ∧ c.code = cc ∧ c.maxLocals = nL ∧ s.vm.findClass own = some m.cls ∧ ∀ w ∈ TB, w.before args s = true) ∧ va_K D vwCl (gT g) s
def wk (D : va_G) (ws : va_W) (A : Nat → Prop) (H0 H : Heap) (locs : List Loc) : Prop := va_P D vwCl ws H ∧ va_D A ws ∧ va_S A H0 H locs
def kA (ws : va_W) : Nat → Prop := fun q => ∃ (k : Nat) (e : va_E), ws[k]? = some (q, e)
def qR (rv : Option Value) (B : State → Prop) (A : Nat → Prop) : Array Value → State → Outcome → State → Prop := fun _ st oc t => (oc = .returned rv ∧ B t) ∧ va_F A st t
def ib (i : Int32) (n : Nat) : Bool := !(decide (i < 0)) && decide (i.toNatClampNeg < n)
theorem ib_in {i : Int32} {n : Nat} (h : ib i n = true) : vp_in i n := by
  simp only [ib, Bool.and_eq_true, Bool.not_eq_true', decide_eq_false_iff_not, decide_eq_true_eq] at h
  exact fun q => q.elim h.1 (fun q => Nat.not_lt.mpr q h.2)
theorem ib_lt {i : Int32} {n : Nat} (h : ib i n = true) : i.toNatClampNeg < n := by
  simp only [ib, Bool.and_eq_true, decide_eq_true_eq] at h
  exact h.2
def zok (v : Int32) : Bool := v == 0 || v == 1
theorem zok_n {v : Int32} (h : zok v = true) : narrow .boolean (.int v) = .int v := by
  simp only [zok, Bool.or_eq_true, beq_iff_eq] at h
  rcases h with rfl | rfl <;> rfl
/-- a copy's bounds -/
def cg (sp dp n : Int32) (n0 n1 : Nat) : Bool := !(decide (sp < 0)) && !(decide (dp < 0)) && !(decide (n < 0)) && decide (sp.toNatClampNeg + n.toNatClampNeg ≤ n0) && decide (dp.toNatClampNeg + n.toNatClampNeg ≤ n1)
theorem cg_of {sp dp n : Int32} {n0 n1 : Nat} (h : cg sp dp n n0 n1 = true) : ¬ sp < 0 ∧ ¬ dp < 0 ∧ ¬ n < 0 ∧ sp.toNatClampNeg + n.toNatClampNeg ≤ n0 ∧ dp.toNatClampNeg + n.toNatClampNeg ≤ n1 := by
  simp only [cg, Bool.and_eq_true, Bool.not_eq_true', decide_eq_false_iff_not, decide_eq_true_eq] at h
  exact ⟨h.1.1.1.1, h.1.1.1.2, h.1.1.2, h.1.2, h.2⟩
/-- no NaN -/
def nn (r : UInt64) : Bool := decide (r &&& 0x7fffffffffffffff ≤ 0x7ff0000000000000)
theorem nn_of {r : UInt64} (h : nn r = true) : vf_n64 r := by
  simp only [nn, decide_eq_true_eq] at h
  exact h
-- the shapes of the pure pictures
theorem gd {α : Type} {c : Bool} {K : Option α} {o : α} (h : (if c = true then K else none) = some o) : c = true ∧ K = some o := by
  by_cases hc : c = true
  · rw [if_pos hc] at h; exact ⟨hc, h⟩
  · rw [if_neg hc] at h; cases h
theorem gz {α : Type} {y : Int32} {K : Option α} {o : α} (h : (if y = 0 then none else K) = some o) : ¬ y = 0 ∧ K = some o := by
  by_cases hc : y = 0
  · rw [if_pos hc] at h; cases h
  · rw [if_neg hc] at h; exact ⟨hc, h⟩
theorem ifp {α : Type} {c : Prop} {_ : Decidable c} {T F : α} {o : α} (hc : c) (h : (if c then T else F) = o) : T = o := by rw [if_pos hc] at h; exact h
theorem ifn {α : Type} {c : Prop} {_ : Decidable c} {T F : α} {o : α} (hc : ¬ c) (h : (if c then T else F) = o) : F = o := by rw [if_neg hc] at h; exact h
def bi1 {α β : Type} (x : Option α) (f : α → Option β) : Option β := match x with
  | none => none
  | some a => f a
def bi2 {α β γ : Type} (x : Option (α × β)) (f : α → β → Option γ) : Option γ := match x with
  | none => none
  | some z => f z.1 z.2
theorem bx1 {α β : Type} {x : Option α} {f : α → Option β} {o : β} (h : bi1 x f = some o) : ∃ a, x = some a ∧ f a = some o := by
  cases x with
  | none => cases h
  | some a => exact ⟨a, rfl, h⟩
theorem bx2 {α β γ : Type} {x : Option (α × β)} {f : α → β → Option γ} {o : γ} (h : bi2 x f = some o) : ∃ a b, x = some (a, b) ∧ f a b = some o := by
  cases x with
  | none => cases h
  | some z => exact ⟨z.1, z.2, rfl, h⟩
/-- a call that may throw, in a method that may: (state, throw's number or answer) -/
def bt2 {α β γ : Type} (x : Option (α × (Nat ⊕ β))) (f : α → β → Option (α × (Nat ⊕ γ))) : Option (α × (Nat ⊕ γ)) := match x with
  | none => none
  | some (s, .inl e) => some (s, .inl e)
  | some (s, .inr b) => f s b
/-- the same, the callee being static and without a state -/
def bt0 {α β γ : Type} (s : α) (x : Nat ⊕ β) (f : β → Option (α × (Nat ⊕ γ))) : Option (α × (Nat ⊕ γ)) := match x with
  | .inl e => some (s, .inl e)
  | .inr b => f b
/-- a call that could throw, in a method that doesn't -/
def nx {α β : Type} (x : Option (α × (Nat ⊕ β))) : Option (α × β) := match x with
  | some (s, .inr b) => some (s, b)
  | _ => none
theorem nxx {α β γ : Type} {x : Option (α × (Nat ⊕ β))} {f : α → β → Option γ} {o : γ} (h : bi2 (nx x) f = some o) : ∃ a b, x = some (a, .inr b) ∧ f a b = some o := by
  match x, h with
  | none, h => cases h
  | some (s, .inl e), h => cases h
  | some (s, .inr b), h => exact ⟨s, b, rfl, h⟩
theorem bt2n {α β γ : Type} {x : Option (α × (Nat ⊕ β))} {f : α → β → Option (α × (Nat ⊕ γ))} {s' : α} {r : γ} (h : bt2 x f = some (s', .inr r)) : ∃ a b, x = some (a, .inr b) ∧ f a b = some (s', .inr r) := by
  match x, h with
  | none, h => cases h
  | some (s, .inl e), h => cases h
  | some (s, .inr b), h => exact ⟨s, b, rfl, h⟩
theorem bt2t {α β γ : Type} {x : Option (α × (Nat ⊕ β))} {f : α → β → Option (α × (Nat ⊕ γ))} {s' : α} {e : Nat} (h : bt2 x f = some (s', .inl e)) : x = some (s', .inl e) ∨ ∃ a b, x = some (a, .inr b) ∧ f a b = some (s', .inl e) := by
  match x, h with
  | none, h => cases h
  | some (s, .inl e), h => cases h; exact Or.inl rfl
  | some (s, .inr b), h => exact Or.inr ⟨s, b, rfl, h⟩
theorem bt0n {α β γ : Type} {s : α} {x : Nat ⊕ β} {f : β → Option (α × (Nat ⊕ γ))} {s' : α} {r : γ} (h : bt0 s x f = some (s', .inr r)) : ∃ b, x = .inr b ∧ f b = some (s', .inr r) := by
  match x, h with
  | .inl e, h => cases h
  | .inr b, h => exact ⟨b, rfl, h⟩
theorem bt0t {α β γ : Type} {s : α} {x : Nat ⊕ β} {f : β → Option (α × (Nat ⊕ γ))} {s' : α} {e : Nat} (h : bt0 s x f = some (s', .inl e)) : (x = .inl e ∧ s = s') ∨ ∃ b, x = .inr b ∧ f b = some (s', .inl e) := by
  match x, h with
  | .inl e, h => cases h; exact Or.inl ⟨rfl, rfl⟩
  | .inr b, h => exact Or.inr ⟨b, rfl, h⟩
def lq {α β : Type} (a : α) (f : α → β) : β := f a
theorem lqx {α β : Type} {a : α} {f : α → β} {o : β} (h : lq a f = o) : ∃ x, x = a ∧ f x = o := ⟨a, rfl, h⟩
def FU : Nat := 5000
/-- a loop: inl goes on, inr leaves -/
def wh {σ ρ : Type} (b : σ → Option (σ ⊕ ρ)) : Nat → σ → Option ρ
  | 0, _ => none
  | n + 1, z => match b z with
    | none => none
    | some (.inl z') => wh b n z'
    | some (.inr r) => some r
theorem wh_W {σ ρ : Type} {b : σ → Option (σ ⊕ ρ)} {P : σ → Prop} {X : ρ → Prop} (hb : ∀ z o, b z = some o → Sum.elim P X o → P z) : ∀ (n : Nat) (z : σ) (r : ρ), wh b n z = some r → X r → P z
  | 0, z, r, h, _ => by cases h
  | n + 1, z, r, h, hX => by
    rw [wh] at h
    cases hbz : b z with
    | none => rw [hbz] at h; cases h
    | some o =>
      rw [hbz] at h
      cases o with
      | inl z' => exact hb z _ hbz (wh_W hb n z' r h hX)
      | inr r' => cases h; exact hb z _ hbz hX
theorem va_D_keys {A : Nat → Prop} {ws ws' : va_W} (hk : ws'.map Prod.fst = ws.map Prod.fst) (h : va_D A ws) : va_D A ws' := by
  have key : ∀ (k : Nat) (q : Nat × va_E), ws'[k]? = some q → ∃ q0, ws[k]? = some q0 ∧ q0.1 = q.1 := by
    intro k q hq
    have h1 : (ws'.map Prod.fst)[k]? = some q.1 := by rw [List.getElem?_map, hq]; rfl
    rw [hk, List.getElem?_map] at h1
    cases h2 : ws[k]? with
    | none => rw [h2] at h1; cases h1
    | some q0 => rw [h2] at h1; exact ⟨q0, rfl, Option.some.inj h1⟩
  refine ⟨fun i j x y hi hj hxy => ?_, fun k q hq => ?_⟩
  · obtain ⟨x0, a1, a2⟩ := key i x hi
    obtain ⟨y0, b1, b2⟩ := key j y hj
    exact h.1 i j x0 y0 a1 b1 (a2.trans (hxy.trans b2.symm))
  · obtain ⟨q0, a1, a2⟩ := key k q hq
    rw [← a2]
    exact h.2 k q0 a1
/-- a method that returns rv and makes nothing: from the world ws to the world ws' -/
def ct (l : Launch) (y : MethodName) (cc : ByteArray) (nL : Nat) (ret : Option FieldType) (rm : Room) (D : va_G) (g : Nat → ClassId) (ws ws' : va_W) (av : List Value) (rv : Option Value) : Prop :=
  Met l y (wsm y cc nL ret) rm (va_Pc av (fun U => va_P D vwCl ws U.heap ∧ va_K D vwCl (gT g) U ∧ va_D (fun _ => True) ws)) (qR rv (fun t => va_P D vwCl ws' t.heap ∧ va_K D vwCl (gT g) t) (kA ws)) 0 0 (kA ws)
/-- what a call of y by the entry idx of own's file needs of the words -/
def cf (own : String) (idx : Nat) (y : MethodName) (cc : ByteArray) (nL : Nat) (ret : Option FieldType) (n : Nat) : Prop :=
  Cond.methodLink own idx y ∈ TB ∧ Cond.initialized y.cls ∈ TB ∧ Cond.code y cc nL ret ∈ TB ∧ (y.cls ≠ "java/lang/invoke/MethodHandle" ∧ y.cls ≠ "java/lang/invoke/VarHandle" ∧ (parseMethodDescriptor y.desc).map (fun d => d.parameters.length) = some n)
def cfV (own : String) (idx : Nat) (y : MethodName) (cc : ByteArray) (nL : Nat) (ret : Option FieldType) (n : Nat) : Prop := cf own idx y cc nL ret n ∧ Cond.instanceMethod y ∈ TB ∧ Cond.selects y.cls y y ∈ TB
def cfS (own : String) (idx : Nat) (y : MethodName) (cc : ByteArray) (nL : Nat) (ret : Option FieldType) (n : Nat) : Prop := cf own idx y cc nL ret n ∧ Cond.static y ∈ TB
section BS
variable {p : Program} {l : Launch} {e : Env} {R : Room} {s : State} {m : MethodId} {args : Array Value} {below : List Frame} {meth : Method} {c : Code} {H : Heap} {locs : List Loc} {cells slots : Nat} {Q : State → Prop}
variable {cc : ByteArray} {nL pc : Nat} {ls : Array Slot} {rest : List Value} {own : String} {D : va_G} {g : Nat → ClassId} {A : Nat → Prop} {H0 : Heap} {ws ws' : va_W} {a : Nat}
theorem r_get (E : en p m c cc nL s args own D g) (I : wk D ws A H0 H locs) (q0 ci k : Nat) {T : u_T} {N index : Nat} {fs : List Value} {v : Value} (he : ws[q0]? = some (a, .inr (ci, fs))) (hc : vwCl[ci]? = some (own, T, N)) (hin : ∀ w ∈ u_ws own T N, w ∈ TB) (hk : k < N) (hlink : Cond.fieldLink own index (T k).1 (T k).2.1 (T k).2.2.1 ∈ TB) (hv : fs[k]? = some v) (hdg : decode cc pc = .ok (.getfield index, 3))
    (kk : W p l e R s m args below meth c H locs cells slots Q (F0 m (pc + 3) ls (v :: rest))) : W p l e R s m args below meth c H locs cells slots Q (F0 m pc ls (.ref a :: rest)) :=
  va_get E.1.1 E.1.2.1 E.1.2.2.2.2 hin E.1.2.2.2.1 E.2 I.1 q0 he hc k hk (E.1.2.2.2.2 _ hlink) (fun _ h => h) hv hdg kk
theorem r_put (E : en p m c cc nL s args own D g) (I : wk D ws A H0 H locs) (q0 ci k : Nat) {T : u_T} {N index : Nat} {fs : List Value} {v : Value} (he : ws[q0]? = some (a, .inr (ci, fs))) (hset : ws.set q0 (a, .inr (ci, fs.set k v)) = ws') (hc : vwCl[ci]? = some (own, T, N)) (hin : ∀ w ∈ u_ws own T N, w ∈ TB) (ty0 : Nat → FieldType) (hty : ∀ k, k < N → parseFieldDescriptor (T k).2.2.1 = some (ty0 k)) (hnm : ∀ a, a < N → ∀ b, b < N → a ≠ b → (T a).2.1 ≠ (T b).2.1) (hk : k < N) (hlink : Cond.fieldLink own index (T k).1 (T k).2.1 (T k).2.2.1 ∈ TB) (hfin : (T k).2.2.2 = false) {ty : FieldType} (hd : parseFieldDescriptor (T k).2.2.1 = some ty) (hn : narrow ty v = v) (hfit : fits ty v = true) (hl : k < fs.length) (hdg : decode cc pc = .ok (.putfield index, 3))
    (kk : ∀ (H1 : Heap) (locs1 : List Loc), wk D ws' A H0 H1 locs1 → W p l e R s m args below meth c H1 locs1 cells slots Q (F0 m (pc + 3) ls rest)) : W p l e R s m args below meth c H locs cells slots Q (F0 m pc ls (v :: .ref a :: rest)) := by
  subst hset
  exact va_put E.1.1 E.1.2.1 E.1.2.2.2.2 hin ty0 hty hnm E.1.2.2.2.1 E.2 I.1 I.2.1 I.2.2 q0 he hc k hk (E.1.2.2.2.2 _ hlink) (fun _ h => h) hfin hd hn hfit hl hdg (fun H1 L1 h1 h2 h3 => kk H1 L1 ⟨h1, h2, h3⟩)
theorem r_iald (E : en p m c cc nL s args own D g) (I : wk D ws A H0 H locs) (q0 : Nat) {n : Nat} {f : Nat → Int32} (ha : ws[q0]? = some (a, .inl (g 0, n, .inl f))) {i : Int32} (hin : ib i n = true) (hdg : decode cc pc = .ok (.iaload, 1))
    (kk : W p l e R s m args below meth c H locs cells slots Q (F0 m (pc + 1) ls (.int (f i.toNatClampNeg) :: rest))) : W p l e R s m args below meth c H locs cells slots Q (F0 m pc ls (.int i :: .ref a :: rest)) :=
  va_iald E.1.1 E.1.2.1 E.2 I.1 q0 0 ha rfl (ib_in hin) hdg kk
theorem r_lald (E : en p m c cc nL s args own D g) (I : wk D ws A H0 H locs) (q0 : Nat) {n : Nat} {f : Nat → Int64} (ha : ws[q0]? = some (a, .inl (g 1, n, .inr (.inl f)))) {i : Int32} (hin : ib i n = true) (hdg : decode cc pc = .ok (.laload, 1))
    (kk : W p l e R s m args below meth c H locs cells slots Q (F0 m (pc + 1) ls (.long (f i.toNatClampNeg) :: rest))) : W p l e R s m args below meth c H locs cells slots Q (F0 m pc ls (.int i :: .ref a :: rest)) :=
  va_lald E.1.1 E.1.2.1 E.2 I.1 q0 1 ha rfl (ib_in hin) hdg kk
theorem r_zald (E : en p m c cc nL s args own D g) (I : wk D ws A H0 H locs) (q0 : Nat) {n : Nat} {f : Nat → Int32} (ha : ws[q0]? = some (a, .inl (g 2, n, .inl f))) {i : Int32} (hin : ib i n = true) (hdg : decode cc pc = .ok (.baload, 1))
    (kk : W p l e R s m args below meth c H locs cells slots Q (F0 m (pc + 1) ls (.int (f i.toNatClampNeg) :: rest))) : W p l e R s m args below meth c H locs cells slots Q (F0 m pc ls (.int i :: .ref a :: rest)) :=
  va_zald E.1.1 E.1.2.1 E.2 I.1 q0 2 ha rfl (ib_in hin) hdg kk
/-- a row of an array of arrays -/
theorem r_aald (E : en p m c cc nL s args own D g) (I : wk D ws A H0 H locs) (q0 t0 : Nat) {cA : ClassId} {ty : FieldType} {n : Nat} {f : Nat → Option Nat} (ha : ws[q0]? = some (a, .inl (cA, n, .inr (.inr (.inr (.inr f)))))) (ht : (gT g)[t0]? = some (cA, .array ty)) {i : Int32} {b : Nat} (hin : ib i n = true) (hb2 : f i.toNatClampNeg = some b) (hdg : decode cc pc = .ok (.aaload, 1))
    (kk : W p l e R s m args below meth c H locs cells slots Q (F0 m (pc + 1) ls (.ref b :: rest))) : W p l e R s m args below meth c H locs cells slots Q (F0 m pc ls (.int i :: .ref a :: rest)) := by
  have hlt : i.toNatClampNeg < n := ib_lt hin
  have hin' := ib_in hin
  exact W.aald (v := .ref b) (ty := .array ty) E.1.1 E.1.2.1 (I.1 q0 _ ha) ((E.2.2 t0 _ ht).1 n (fun j => va_rf (f j))) rfl (fun q => by cases q) (by show ¬ (i < 0 ∨ (arrV _ _ _).slots.size ≤ _); rw [arrV_size]; exact hin') (by show (arrV _ _ _).slots[_]? = _; rw [arrV_read _ _ hlt, hb2]; rfl) rfl rfl hdg kk
theorem r_iast (E : en p m c cc nL s args own D g) (I : wk D ws A H0 H locs) (q0 : Nat) {n : Nat} {f : Nat → Int32} (ha : ws[q0]? = some (a, .inl (g 0, n, .inl f))) {i x : Int32} (hset : ws.set q0 (a, .inl (g 0, n, .inl (upd f i.toNatClampNeg x))) = ws') (hin : ib i n = true) (hdg : decode cc pc = .ok (.iastore, 1))
    (kk : ∀ (H1 : Heap) (locs1 : List Loc), wk D ws' A H0 H1 locs1 → W p l e R s m args below meth c H1 locs1 cells slots Q (F0 m (pc + 1) ls rest)) : W p l e R s m args below meth c H locs cells slots Q (F0 m pc ls (.int x :: .int i :: .ref a :: rest)) := by
  subst hset
  exact va_iast E.1.1 E.1.2.1 E.2 I.1 I.2.1 I.2.2 q0 0 ha rfl (ib_in hin) hdg (fun H1 L1 h1 h2 h3 => kk H1 L1 ⟨h1, h2, h3⟩)
theorem r_last (E : en p m c cc nL s args own D g) (I : wk D ws A H0 H locs) (q0 : Nat) {n : Nat} {f : Nat → Int64} (ha : ws[q0]? = some (a, .inl (g 1, n, .inr (.inl f)))) {i : Int32} {x : Int64} (hset : ws.set q0 (a, .inl (g 1, n, .inr (.inl (vp_updL f i.toNatClampNeg x)))) = ws') (hin : ib i n = true) (hdg : decode cc pc = .ok (.lastore, 1))
    (kk : ∀ (H1 : Heap) (locs1 : List Loc), wk D ws' A H0 H1 locs1 → W p l e R s m args below meth c H1 locs1 cells slots Q (F0 m (pc + 1) ls rest)) : W p l e R s m args below meth c H locs cells slots Q (F0 m pc ls (.long x :: .int i :: .ref a :: rest)) := by
  subst hset
  exact va_last E.1.1 E.1.2.1 E.2 I.1 I.2.1 I.2.2 q0 1 ha rfl (ib_in hin) hdg (fun H1 L1 h1 h2 h3 => kk H1 L1 ⟨h1, h2, h3⟩)
theorem r_zast (E : en p m c cc nL s args own D g) (I : wk D ws A H0 H locs) (q0 : Nat) {n : Nat} {f : Nat → Int32} (ha : ws[q0]? = some (a, .inl (g 2, n, .inl f))) {i x : Int32} (hset : ws.set q0 (a, .inl (g 2, n, .inl (upd f i.toNatClampNeg (vp_nar .boolean x)))) = ws') (hin : ib i n = true) (hdg : decode cc pc = .ok (.bastore, 1))
    (kk : ∀ (H1 : Heap) (locs1 : List Loc), wk D ws' A H0 H1 locs1 → W p l e R s m args below meth c H1 locs1 cells slots Q (F0 m (pc + 1) ls rest)) : W p l e R s m args below meth c H locs cells slots Q (F0 m pc ls (.int x :: .int i :: .ref a :: rest)) := by
  subst hset
  exact va_zast E.1.1 E.1.2.1 E.2 I.1 I.2.1 I.2.2 q0 2 ha rfl (ib_in hin) hdg (fun H1 L1 h1 h2 h3 => kk H1 L1 ⟨h1, h2, h3⟩)
/-- System.arraycopy between int arrays -/
theorem r_copy (E : en p m c cc nL s args own D g) (I : wk D ws A H0 H locs) (q0 q1 : Nat) {a0 index n0 n1 : Nat} {f h : Nat → Int32} (hls : ls.size = nL) (hlink : Cond.methodLink own index arraycopyName ∈ TB) (hnat : Cond.native arraycopyName ∈ TB) (hstat : Cond.static arraycopyName ∈ TB) (hini : Cond.initialized "java/lang/System" ∈ TB)
    (ha0 : ws[q0]? = some (a0, .inl (g 0, n0, .inl f))) (ha1 : ws[q1]? = some (a, .inl (g 0, n1, .inl h))) {sp dp n : Int32} (hg : cg sp dp n n0 n1 = true) (hset : ws.set q1 (a, .inl (g 0, n1, .inl (va_cpy f h sp.toNatClampNeg dp.toNatClampNeg n.toNatClampNeg))) = ws')
    (hframes : 1 ≤ R.frames) (hlocals : (rest.map fun v => v.category).sum + (nativeFrameWords "java/lang/System" "arraycopy" 5 + 11) ≤ R.locals) (hdg : decode cc pc = .ok (.invokestatic index, 3))
    (kk : ∀ (H1 : Heap) (locs1 : List Loc), wk D ws' A H0 H1 locs1 → W p l e R s m args below meth c H1 locs1 cells slots Q (F0 m (pc + 3) ls rest)) : W p l e R s m args below meth c H locs cells slots Q (F0 m pc ls (.int n :: .int dp :: .ref a :: .int sp :: .ref a0 :: rest)) := by
  subst hset
  obtain ⟨h1, h2, h3, h4, h5⟩ := cg_of hg
  exact va_copyi E.1.1 E.1.2.1 (E.1.2.2.1.trans hls.symm) E.1.2.2.2.1 (E.1.2.2.2.2 _ hlink) (E.1.2.2.2.2 _ hnat) (E.1.2.2.2.2 _ hstat) (E.1.2.2.2.2 _ hini) E.2 I.1 I.2.1 I.2.2 q0 q1 0 0 ha0 ha1 rfl rfl rfl h1 h2 h3 h4 h5 (fun _ _ => rfl) hframes hlocals hdg (fun H1 L1 h1 h2 h3 => kk H1 L1 ⟨h1, h2, h3⟩)
theorem r_run {st0 : List Value} {av : Array Value} {wc wc' : va_W} {rv : Option Value} (hr : va_Run p l e R s m args below meth c H locs cells slots 0 0 (F0 m pc ls st0) rest (qR rv (fun t => va_P D vwCl wc' t.heap ∧ va_K D vwCl (gT g) t) (kA wc) av) (kA wc)) (hS : va_S A H0 H locs) (hA : ∀ q, kA wc q → A q)
    (kk : ∀ (H1 : Heap) (locs1 : List Loc), va_P D vwCl wc' H1 → H.size ≤ H1.size → (∀ q : Nat, q < H.size → ¬ kA wc q → H1[q]? = H[q]?) → va_S A H0 H1 locs1 → W p l e R s m args below meth c H1 locs1 cells slots Q (F0 m (pc + 3) ls (rv.toList ++ rest))) : W p l e R s m args below meth c H locs cells slots Q (F0 m pc ls st0) := by
  intro T hT X
  obtain ⟨v, st₀, t, T', L, h0, X', hL, e1, e2, ⟨⟨hv, hb, -⟩, hz, hk⟩, st⟩ := hr T hT X
  cases hv
  rw [h0] at hz hk
  obtain ⟨t2, a1, b1⟩ := kk T'.heap (locs ++ L) (by rw [e1]; exact hb) (by rw [e1]; exact hz) (fun q h1 h2 => by rw [e1]; exact hk q h1 h2)
    ⟨Nat.le_trans hS.1 (by rw [e1]; exact hz), fun q h1 h2 => by rw [e1, hk q (Nat.lt_of_lt_of_le h1 hS.1) (fun z => h2 (hA q z))]; exact hS.2.1 q h1 h2, fun q hq => by
      rcases List.mem_append.mp hq with h | h
      · exact hS.2.2 q h
      · exact hA _ (hL q h)⟩ T' rfl X'
  exact ⟨t2, st t2 a1, b1⟩
theorem wsm_good {y : MethodName} {cc : ByteArray} {nL : Nat} {ret : Option FieldType} (h : Cond.code y cc nL ret ∈ TB) : GoodIn TB (wsm y cc nL ret) := fun w hw => by
  rcases List.mem_cons.mp hw with rfl | hw
  · exact ⟨h, good_of_word (TB_good h)⟩
  · exact ⟨hw, good_of_word (TB_good hw)⟩
theorem r_cb {idx n nY : Nat} {y : MethodName} {cY : ByteArray} {ret : Option FieldType} {f k : Nat} (E : en p m c cc nL s args own D g) (w : cf own idx y cY nY ret n) (hR : f + 1 ≤ R.frames ∧ 8 + (nY + 11) + k ≤ R.locals) : CallB R s args own idx y cY nY ret (wsm y cY nY ret) (rmk f k) 0 0 n :=
  callB_of n E.1.2.2.2.2 (wsm_good w.2.2.1) rfl rfl rfl (E.1.2.2.2.2 _ w.2.1) (E.1.2.2.2.2 _ w.1) w.2.2.2 hR
theorem r_blind {av : List Value} : FrameBlind (va_Pc av (fun U => va_P D vwCl ws U.heap ∧ va_K D vwCl (gT g) U ∧ va_D (fun _ => True) ws)) := fun a U f mk q => ⟨q.1, q.2.1, va_K.moved (u := U) (U := U.calling f mk a) (Vm.Alike.refl U.vm) q.2.2.1, q.2.2.2⟩
theorem r_pre {av : List Value} (E : en p m c cc nL s args own D g) (hP : va_P D vwCl ws H) (hD : va_D A ws) : ∀ U : State, U.heap = H → s.WarmedH U.vm → va_Pc av (fun U => va_P D vwCl ws U.heap ∧ va_K D vwCl (gT g) U ∧ va_D (fun _ => True) ws) av.toArray U := fun U hU hW => ⟨rfl, by rw [hU]; exact hP, va_K.moved hW.alike E.2, hD.weaken (fun _ _ _ _ => trivial)⟩
theorem wk_run {wc : va_W} {H1 : Heap} {locs1 : List Loc} (I : wk D ws A H0 H locs) (h1 : va_P D vwCl ws' H1) (hk : ws'.map Prod.fst = ws.map Prod.fst) (hS : va_S A H0 H1 locs1) : wk D ws' A H0 H1 locs1 := ⟨h1, va_D_keys hk I.2.1, hS⟩
/-- a call of an instance method of the same world -/
theorem r_callV {idx n nY f k q0 ci N b : Nat} {y : MethodName} {cY : ByteArray} {ret : Option FieldType} {As st0 : List Value} {rv : Option Value} {T : u_T} {fs : List Value} (E : en p m c cc nL s args own D g) (I : wk D ws A H0 H locs) (hls : ls.size = nL) (w : cfV own idx y cY nY ret n) (hM : ct l y cY nY ret (rmk f k) D g ws ws' (.ref b :: As) rv) (hk : ws'.map Prod.fst = ws.map Prod.fst) (he : ws[q0]? = some (b, .inr (ci, fs))) (hc : vwCl[ci]? = some (y.cls, T, N)) (hn : As.length = n) (hst : st0 = As.reverse ++ .ref b :: rest) (hroom : (rest.map fun v => v.category).sum ≤ 8) (hR : f + 1 ≤ R.frames ∧ 8 + (nY + 11) + k ≤ R.locals) (hf : cells ≤ R.cells ∧ slots ≤ R.slots) (hdg : decode cc pc = .ok (.invokevirtual idx, 3))
    (kk : ∀ (H1 : Heap) (locs1 : List Loc), wk D ws' A H0 H1 locs1 → W p l e R s m args below meth c H1 locs1 cells slots Q (F0 m (pc + 3) ls (rv.toList ++ rest))) : W p l e R s m args below meth c H locs cells slots Q (F0 m pc ls st0) :=
  r_run (va_runV (As := As) (rest := rest) (cells := cells) (slots := slots) (mc := 0) (ms := 0) E.1 hM ⟨r_cb E w.1 hR, E.1.2.2.2.2 _ w.2.1, E.1.2.2.2.2 _ w.2.2⟩ ⟨r_blind, va_recv E.2 I.1 hc he, r_pre E I.1 I.2.1⟩ rfl hn hls hst (lv_room hroom) hdg hf) I.2.2 (fun q h => by obtain ⟨k, e, h⟩ := h; exact I.2.1.2 k _ h) (fun H1 L1 h1 _ _ h3 => kk H1 L1 (wk_run (wc := ws) I h1 hk h3))
theorem kA_nil {q : Nat} : ¬ kA [] q := fun h => by obtain ⟨k, e, h⟩ := h; simp at h
theorem va_P_nil {H : Heap} : va_P D vwCl [] H := fun k q h => by simp at h
theorem va_D_nil : va_D A [] := ⟨fun i j p q h => by simp at h, fun k q h => by simp at h⟩
/-- a call of a static method that looks at no world -/
theorem r_callS {idx n nY f k : Nat} {y : MethodName} {cY : ByteArray} {ret : Option FieldType} {As st0 : List Value} {rv : Option Value} (E : en p m c cc nL s args own D g) (I : wk D ws A H0 H locs) (hls : ls.size = nL) (w : cfS own idx y cY nY ret n) (hM : ct l y cY nY ret (rmk f k) D g [] [] As rv) (hn : As.length = n) (hst : st0 = As.reverse ++ rest) (hroom : (rest.map fun v => v.category).sum ≤ 8) (hR : f + 1 ≤ R.frames ∧ 8 + (nY + 11) + k ≤ R.locals) (hf : cells ≤ R.cells ∧ slots ≤ R.slots) (hdg : decode cc pc = .ok (.invokestatic idx, 3))
    (kk : ∀ (H1 : Heap) (locs1 : List Loc), wk D ws A H0 H1 locs1 → W p l e R s m args below meth c H1 locs1 cells slots Q (F0 m (pc + 3) ls (rv.toList ++ rest))) : W p l e R s m args below meth c H locs cells slots Q (F0 m pc ls st0) :=
  r_run (va_runS (As := As) (rest := rest) (cells := cells) (slots := slots) (mc := 0) (ms := 0) E.1 hM ⟨r_cb E w.1 hR, E.1.2.2.2.2 _ w.2⟩ ⟨r_blind, r_pre E (H := H) va_P_nil (A := A) va_D_nil⟩ rfl hn hls hst (lv_room hroom) hdg hf) I.2.2 (fun q h => absurd h kA_nil) (fun H1 L1 _ _ h2 h3 => kk H1 L1 ⟨fun k q hq => (I.1 k q hq).kept (h2 q.1 (I.1 k q hq).lt kA_nil), I.2.1, h3⟩)
theorem r_callV1 {idx n nY f k q0 ci N b : Nat} {y : MethodName} {cY : ByteArray} {ret : Option FieldType} {As st0 : List Value} {v : Value} {T : u_T} {fs : List Value} (E : en p m c cc nL s args own D g) (I : wk D ws A H0 H locs) (hls : ls.size = nL) (w : cfV own idx y cY nY ret n) (hM : ct l y cY nY ret (rmk f k) D g ws ws' (.ref b :: As) (some v)) (hk : ws'.map Prod.fst = ws.map Prod.fst) (he : ws[q0]? = some (b, .inr (ci, fs))) (hc : vwCl[ci]? = some (y.cls, T, N)) (hn : As.length = n) (hst : st0 = As.reverse ++ .ref b :: rest) (hroom : (rest.map fun v => v.category).sum ≤ 8) (hR : f + 1 ≤ R.frames ∧ 8 + (nY + 11) + k ≤ R.locals) (hf : cells ≤ R.cells ∧ slots ≤ R.slots) (hdg : decode cc pc = .ok (.invokevirtual idx, 3))
    (kk : ∀ (H1 : Heap) (locs1 : List Loc), wk D ws' A H0 H1 locs1 → W p l e R s m args below meth c H1 locs1 cells slots Q (F0 m (pc + 3) ls (v :: rest))) : W p l e R s m args below meth c H locs cells slots Q (F0 m pc ls st0) := r_callV E I hls w hM hk he hc hn hst hroom hR hf hdg kk
theorem r_callV0 {idx n nY f k q0 ci N b : Nat} {y : MethodName} {cY : ByteArray} {ret : Option FieldType} {As st0 : List Value} {T : u_T} {fs : List Value} (E : en p m c cc nL s args own D g) (I : wk D ws A H0 H locs) (hls : ls.size = nL) (w : cfV own idx y cY nY ret n) (hM : ct l y cY nY ret (rmk f k) D g ws ws' (.ref b :: As) none) (hk : ws'.map Prod.fst = ws.map Prod.fst) (he : ws[q0]? = some (b, .inr (ci, fs))) (hc : vwCl[ci]? = some (y.cls, T, N)) (hn : As.length = n) (hst : st0 = As.reverse ++ .ref b :: rest) (hroom : (rest.map fun v => v.category).sum ≤ 8) (hR : f + 1 ≤ R.frames ∧ 8 + (nY + 11) + k ≤ R.locals) (hf : cells ≤ R.cells ∧ slots ≤ R.slots) (hdg : decode cc pc = .ok (.invokevirtual idx, 3))
    (kk : ∀ (H1 : Heap) (locs1 : List Loc), wk D ws' A H0 H1 locs1 → W p l e R s m args below meth c H1 locs1 cells slots Q (F0 m (pc + 3) ls rest)) : W p l e R s m args below meth c H locs cells slots Q (F0 m pc ls st0) := r_callV E I hls w hM hk he hc hn hst hroom hR hf hdg kk
theorem r_callS1 {idx n nY f k : Nat} {y : MethodName} {cY : ByteArray} {ret : Option FieldType} {As st0 : List Value} {v : Value} (E : en p m c cc nL s args own D g) (I : wk D ws A H0 H locs) (hls : ls.size = nL) (w : cfS own idx y cY nY ret n) (hM : ct l y cY nY ret (rmk f k) D g [] [] As (some v)) (hn : As.length = n) (hst : st0 = As.reverse ++ rest) (hroom : (rest.map fun v => v.category).sum ≤ 8) (hR : f + 1 ≤ R.frames ∧ 8 + (nY + 11) + k ≤ R.locals) (hf : cells ≤ R.cells ∧ slots ≤ R.slots) (hdg : decode cc pc = .ok (.invokestatic idx, 3))
    (kk : ∀ (H1 : Heap) (locs1 : List Loc), wk D ws A H0 H1 locs1 → W p l e R s m args below meth c H1 locs1 cells slots Q (F0 m (pc + 3) ls (v :: rest))) : W p l e R s m args below meth c H locs cells slots Q (F0 m pc ls st0) := r_callS E I hls w hM hn hst hroom hR hf hdg kk
theorem r_callS0 {idx n nY f k : Nat} {y : MethodName} {cY : ByteArray} {ret : Option FieldType} {As st0 : List Value} (E : en p m c cc nL s args own D g) (I : wk D ws A H0 H locs) (hls : ls.size = nL) (w : cfS own idx y cY nY ret n) (hM : ct l y cY nY ret (rmk f k) D g [] [] As none) (hn : As.length = n) (hst : st0 = As.reverse ++ rest) (hroom : (rest.map fun v => v.category).sum ≤ 8) (hR : f + 1 ≤ R.frames ∧ 8 + (nY + 11) + k ≤ R.locals) (hf : cells ≤ R.cells ∧ slots ≤ R.slots) (hdg : decode cc pc = .ok (.invokestatic idx, 3))
    (kk : ∀ (H1 : Heap) (locs1 : List Loc), wk D ws A H0 H1 locs1 → W p l e R s m args below meth c H1 locs1 cells slots Q (F0 m (pc + 3) ls rest)) : W p l e R s m args below meth c H locs cells slots Q (F0 m pc ls st0) := r_callS E I hls w hM hn hst hroom hR hf hdg kk
theorem r_mmin {idx : Nat} (E : en p m c cc nL s args own D g) (hls : ls.size = nL) (w : Cond.methodLink own idx Lib.Math.min.name ∈ TB ∧ Cond.static Lib.Math.min.name ∈ TB ∧ Cond.initialized "java/lang/Math" ∈ TB ∧ Cond.code Lib.Math.min.name Lib.Math.min.code 2 (some .int) ∈ TB) (hframes : 1 ≤ R.frames) (hlocals : (rest.map fun v => v.category).sum + 13 ≤ R.locals) {x y : Int32} (hdg : decode cc pc = .ok (.invokestatic idx, 3))
    (kk : W p l e R s m args below meth c H locs 0 0 Q (F0 m (pc + 3) ls (.int (if y < x then y else x) :: rest))) : W p l e R s m args below meth c H locs 0 0 Q (F0 m pc ls (.int y :: .int x :: rest)) :=
  va_mmin E.1.1 E.1.2.1 (E.1.2.2.1.trans hls.symm) E.1.2.2.2.1 (E.1.2.2.2.2 _ w.1) (E.1.2.2.2.2 _ w.2.1) (E.1.2.2.2.2 _ w.2.2.1) (E.1.2.2.2.2 _ w.2.2.2) hframes hlocals (Nat.zero_le _) (Nat.zero_le _) hdg kk
theorem r_mmax {idx : Nat} (E : en p m c cc nL s args own D g) (hls : ls.size = nL) (w : Cond.methodLink own idx Lib.Math.max.name ∈ TB ∧ Cond.static Lib.Math.max.name ∈ TB ∧ Cond.initialized "java/lang/Math" ∈ TB ∧ Cond.code Lib.Math.max.name Lib.Math.max.code 2 (some .int) ∈ TB) (hframes : 1 ≤ R.frames) (hlocals : (rest.map fun v => v.category).sum + 13 ≤ R.locals) {x y : Int32} (hdg : decode cc pc = .ok (.invokestatic idx, 3))
    (kk : W p l e R s m args below meth c H locs 0 0 Q (F0 m (pc + 3) ls (.int (if x < y then y else x) :: rest))) : W p l e R s m args below meth c H locs 0 0 Q (F0 m pc ls (.int y :: .int x :: rest)) :=
  va_mmax E.1.1 E.1.2.1 (E.1.2.2.1.trans hls.symm) E.1.2.2.2.1 (E.1.2.2.2.2 _ w.1) (E.1.2.2.2.2 _ w.2.1) (E.1.2.2.2.2 _ w.2.2.1) (E.1.2.2.2.2 _ w.2.2.2) hframes hlocals (Nat.zero_le _) (Nat.zero_le _) hdg kk
theorem r_raw {idx : Nat} (E : en p m c cc nL s args own D g) (hls : ls.size = nL) (w : Cond.methodLink own idx ⟨"java/lang/Double", "doubleToRawLongBits", "(D)J"⟩ ∈ TB) (hnat : Cond.native ⟨"java/lang/Double", "doubleToRawLongBits", "(D)J"⟩ ∈ TB) (hstat : Cond.static ⟨"java/lang/Double", "doubleToRawLongBits", "(D)J"⟩ ∈ TB) (hini : Cond.initialized "java/lang/Double" ∈ TB) (hframes : 1 ≤ R.frames) (hlocals : (rest.map fun v => v.category).sum + 15 ≤ R.locals) {b : UInt64} (hdg : decode cc pc = .ok (.invokestatic idx, 3))
    (kk : W p l e R s m args below meth c H locs cells slots Q (F0 m (pc + 3) ls (.long b.toInt64 :: rest))) : W p l e R s m args below meth c H locs cells slots Q (F0 m pc ls (.double b :: rest)) :=
  vn_d2l E.1.1 E.1.2.1 (E.1.2.2.1.trans hls.symm) E.1.2.2.2.1 (E.1.2.2.2.2 _ w) (E.1.2.2.2.2 _ hnat) (E.1.2.2.2.2 _ hstat) (E.1.2.2.2.2 _ hini) hframes hlocals hdg kk
theorem sw_out9 {x : Int32} (h : ∀ k : Int32, (k = 0 ∨ k = 1 ∨ k = 2 ∨ k = 3 ∨ k = 4 ∨ k = 5 ∨ k = 6 ∨ k = 7 ∨ k = 8 ∨ k = 9) → ¬ x = k) : x.toInt < 0 ∨ 9 < x.toInt := by
  rcases (show x.toInt < 0 ∨ 0 ≤ x.toInt by omega) with q | q
  · exact Or.inl q
  · refine Or.inr (Int.not_le.mp fun q2 => ?_)
    have e : ∀ k : Int32, x.toInt = k.toInt → x = k := fun k hk => Int32.toInt_inj.mp hk
    have : x.toInt = 0 ∨ x.toInt = 1 ∨ x.toInt = 2 ∨ x.toInt = 3 ∨ x.toInt = 4 ∨ x.toInt = 5 ∨ x.toInt = 6 ∨ x.toInt = 7 ∨ x.toInt = 8 ∨ x.toInt = 9 := by omega
    rcases this with t | t | t | t | t | t | t | t | t | t
    · exact h 0 (by simp) (e 0 t)
    · exact h 1 (by simp) (e 1 t)
    · exact h 2 (by simp) (e 2 t)
    · exact h 3 (by simp) (e 3 t)
    · exact h 4 (by simp) (e 4 t)
    · exact h 5 (by simp) (e 5 t)
    · exact h 6 (by simp) (e 6 t)
    · exact h 7 (by simp) (e 7 t)
    · exact h 8 (by simp) (e 8 t)
    · exact h 9 (by simp) (e 9 t)
-- the ends
theorem r_end {rv : Option Value} {W1 : va_W} (E : en p m c cc nL s args own D g) (I : wk D ws' A s.heap H locs) : ∀ t : State, t.heap = H → s.WarmedH t.vm → qR rv (fun t => va_P D vwCl ws' t.heap ∧ va_K D vwCl (gT g) t) A args s (.returned rv) t := fun t ht hW => ⟨⟨rfl, by rw [ht]; exact I.1, va_K.moved hW.alike E.2⟩, I.2.2.F ht⟩
end BS
/-- a contract from a walk: the walk speaks of any world about the method's own, any caller, and goes on to K where the method returns -/
theorem ct_of {l : Launch} {y : MethodName} {cc : ByteArray} {nL : Nat} {ret : Option FieldType} {rm : Room} {D : va_G} {g : Nat → ClassId} {ws ws' : va_W} {av : List Value} {rv : Option Value} (hrm : rm.cells = 0 ∧ rm.slots = 0) (hy : plainName y.cls = true) (hlen : (lg_sl av).length ≤ nL)
    (body : ∀ (p : Program) (e : Env) (s : State) (m : MethodId) (args : Array Value) (below : List Frame) (meth : Method) (c : Code) (ls : Array Slot) (Q : State → Prop) (A : Nat → Prop) (H0 H : Heap) (locs : List Loc), en p m c cc nL s args y.cls D g → wk D ws A H0 H locs → lv_has ls nL (lv_args 0 av) →
      (∀ (pc : Nat) (ls : Array Slot) (H : Heap) (locs : List Loc), wk D ws' A H0 H locs → (match ret, rv with
        | none, none => decode cc pc = .ok (.return_, 1)
        | some .int, some (.int v) => decode cc pc = .ok (.ireturn, 1)
        | some .boolean, some (.int v) => decode cc pc = .ok (.ireturn, 1) ∧ zok v = true
        | some .long, some (.long v) => decode cc pc = .ok (.lreturn, 1)
        | some .double, some (.double v) => decode cc pc = .ok (.dreturn, 1)
        | _, _ => False) → W p l e rm s m args below meth c H locs 0 0 Q (F0 m pc ls rv.toList)) →
      W p l e rm s m args below meth c H locs 0 0 Q (F0 m 0 ls [])) : ct l y cc nL ret rm D g ws ws' av rv := by
  refine Met.ofW (cc := cc) (maxL := nL) (ret := ret) hy rfl ?_
  intro p e s m args below meth c s₁ B hml hv
  obtain ⟨rfl, hP, hK, hD0⟩ := hv
  have hts := atoms_spec (ws := wsm y cc nL ret) B.pre
  have hr := B.returns
  have hlocks := B.notSynchronized
  have E : en p m c cc nL s av.toArray y.cls D g := ⟨⟨B.exec, B.bytes, hml, findClass_of_methodNamed B.named, fun w h => hts w (List.mem_cons_of_mem _ h)⟩, hK⟩
  have hl := lv_entry av (n := nL) hlen
  rw [lg_entry_eq]
  generalize (lg_sl av ++ List.replicate (nL - (lg_sl av).length) Slot.unset).toArray = ls at hl ⊢
  have hD : va_D (kA ws) ws := hD0.weaken (fun k q hk _ => ⟨k, q.2, hk⟩)
  refine body p e s m av.toArray below meth c ls _ (kA ws) s.heap s.heap [] E ⟨hP, hD, va_S.rf⟩ hl ?_
  intro pc ls H locs I hd
  have hq := r_end (rv := rv) (W1 := ws) E I
  have hf : ∀ q ∈ locs, kA ws q.base := I.2.2.2.2
  match ret, rv, hd, hr, hq with
  | none, none, hd, hr, hq => exact W.vret B.exec B.bytes hr hq hf hd
  | some .int, some (.int v), hd, hr, hq => exact W.iret B.exec B.bytes hr hq hf hd
  | some .boolean, some (.int v), hd, hr, hq => exact W.zret B.exec B.bytes hr (zok_n hd.2) hq hf hd.1
  | some .long, some (.long v), hd, hr, hq => exact W.lret B.exec B.bytes hr hq hf hd
  | some .double, some (.double v), hd, hr, hq => exact W.dret B.exec B.bytes hr hq hf hd
end
section
abbrev CS : Type := (Nat → Int32) × (Nat → Int32) × (Nat → Nat → Int32) × (Nat → Int32) × (Nat → Nat → Int32) × (Int32) × (Int32) × (Nat → Int32) × (Int32) × (Nat → Int32) × (Int32) × (Int32) × (Int32) × (Int32) × (Nat → Nat → Int32) × (Nat → Int32) × (Nat → Nat → Int64) × (Nat → Nat → Int64) × (Nat → Nat → Int64) × (Nat → Int32) × (Nat → Int32) × (Nat → Int32) × (Nat → Int32) × (Int32) × (Int32) × (Nat → Int32)
def c_state (st : CS) : Nat → Int32 := st.1
def c_state_s (st : CS) (v : Nat → Int32) : CS := (v, st.2.1, st.2.2.1, st.2.2.2.1, st.2.2.2.2.1, st.2.2.2.2.2.1, st.2.2.2.2.2.2.1, st.2.2.2.2.2.2.2.1, st.2.2.2.2.2.2.2.2.1, st.2.2.2.2.2.2.2.2.2.1, st.2.2.2.2.2.2.2.2.2.2.1, st.2.2.2.2.2.2.2.2.2.2.2.1, st.2.2.2.2.2.2.2.2.2.2.2.2.1, st.2.2.2.2.2.2.2.2.2.2.2.2.2.1, st.2.2.2.2.2.2.2.2.2.2.2.2.2.2.1, st.2.2.2.2.2.2.2.2.2.2.2.2.2.2.2.1, st.2.2.2.2.2.2.2.2.2.2.2.2.2.2.2.2.1, st.2.2.2.2.2.2.2.2.2.2.2.2.2.2.2.2.2.1, st.2.2.2.2.2.2.2.2.2.2.2.2.2.2.2.2.2.2.1, st.2.2.2.2.2.2.2.2.2.2.2.2.2.2.2.2.2.2.2.1, st.2.2.2.2.2.2.2.2.2.2.2.2.2.2.2.2.2.2.2.2.1, st.2.2.2.2.2.2.2.2.2.2.2.2.2.2.2.2.2.2.2.2.2.1, st.2.2.2.2.2.2.2.2.2.2.2.2.2.2.2.2.2.2.2.2.2.2.1, st.2.2.2.2.2.2.2.2.2.2.2.2.2.2.2.2.2.2.2.2.2.2.2.1, st.2.2.2.2.2.2.2.2.2.2.2.2.2.2.2.2.2.2.2.2.2.2.2.2.1, st.2.2.2.2.2.2.2.2.2.2.2.2.2.2.2.2.2.2.2.2.2.2.2.2.2)
def c_draft (st : CS) : Nat → Int32 := st.2.1
def c_draft_s (st : CS) (v : Nat → Int32) : CS := (st.1, v, st.2.2.1, st.2.2.2.1, st.2.2.2.2.1, st.2.2.2.2.2.1, st.2.2.2.2.2.2.1, st.2.2.2.2.2.2.2.1, st.2.2.2.2.2.2.2.2.1, st.2.2.2.2.2.2.2.2.2.1, st.2.2.2.2.2.2.2.2.2.2.1, st.2.2.2.2.2.2.2.2.2.2.2.1, st.2.2.2.2.2.2.2.2.2.2.2.2.1, st.2.2.2.2.2.2.2.2.2.2.2.2.2.1, st.2.2.2.2.2.2.2.2.2.2.2.2.2.2.1, st.2.2.2.2.2.2.2.2.2.2.2.2.2.2.2.1, st.2.2.2.2.2.2.2.2.2.2.2.2.2.2.2.2.1, st.2.2.2.2.2.2.2.2.2.2.2.2.2.2.2.2.2.1, st.2.2.2.2.2.2.2.2.2.2.2.2.2.2.2.2.2.2.1, st.2.2.2.2.2.2.2.2.2.2.2.2.2.2.2.2.2.2.2.1, st.2.2.2.2.2.2.2.2.2.2.2.2.2.2.2.2.2.2.2.2.1, st.2.2.2.2.2.2.2.2.2.2.2.2.2.2.2.2.2.2.2.2.2.1, st.2.2.2.2.2.2.2.2.2.2.2.2.2.2.2.2.2.2.2.2.2.2.1, st.2.2.2.2.2.2.2.2.2.2.2.2.2.2.2.2.2.2.2.2.2.2.2.1, st.2.2.2.2.2.2.2.2.2.2.2.2.2.2.2.2.2.2.2.2.2.2.2.2.1, st.2.2.2.2.2.2.2.2.2.2.2.2.2.2.2.2.2.2.2.2.2.2.2.2.2)
def c_snaps (st : CS) : Nat → Nat → Int32 := st.2.2.1
def c_snaps_s (st : CS) (v : Nat → Nat → Int32) : CS := (st.1, st.2.1, v, st.2.2.2.1, st.2.2.2.2.1, st.2.2.2.2.2.1, st.2.2.2.2.2.2.1, st.2.2.2.2.2.2.2.1, st.2.2.2.2.2.2.2.2.1, st.2.2.2.2.2.2.2.2.2.1, st.2.2.2.2.2.2.2.2.2.2.1, st.2.2.2.2.2.2.2.2.2.2.2.1, st.2.2.2.2.2.2.2.2.2.2.2.2.1, st.2.2.2.2.2.2.2.2.2.2.2.2.2.1, st.2.2.2.2.2.2.2.2.2.2.2.2.2.2.1, st.2.2.2.2.2.2.2.2.2.2.2.2.2.2.2.1, st.2.2.2.2.2.2.2.2.2.2.2.2.2.2.2.2.1, st.2.2.2.2.2.2.2.2.2.2.2.2.2.2.2.2.2.1, st.2.2.2.2.2.2.2.2.2.2.2.2.2.2.2.2.2.2.1, st.2.2.2.2.2.2.2.2.2.2.2.2.2.2.2.2.2.2.2.1, st.2.2.2.2.2.2.2.2.2.2.2.2.2.2.2.2.2.2.2.2.1, st.2.2.2.2.2.2.2.2.2.2.2.2.2.2.2.2.2.2.2.2.2.1, st.2.2.2.2.2.2.2.2.2.2.2.2.2.2.2.2.2.2.2.2.2.2.1, st.2.2.2.2.2.2.2.2.2.2.2.2.2.2.2.2.2.2.2.2.2.2.2.1, st.2.2.2.2.2.2.2.2.2.2.2.2.2.2.2.2.2.2.2.2.2.2.2.2.1, st.2.2.2.2.2.2.2.2.2.2.2.2.2.2.2.2.2.2.2.2.2.2.2.2.2)
def c_taken (st : CS) : Nat → Int32 := st.2.2.2.1
def c_taken_s (st : CS) (v : Nat → Int32) : CS := (st.1, st.2.1, st.2.2.1, v, st.2.2.2.2.1, st.2.2.2.2.2.1, st.2.2.2.2.2.2.1, st.2.2.2.2.2.2.2.1, st.2.2.2.2.2.2.2.2.1, st.2.2.2.2.2.2.2.2.2.1, st.2.2.2.2.2.2.2.2.2.2.1, st.2.2.2.2.2.2.2.2.2.2.2.1, st.2.2.2.2.2.2.2.2.2.2.2.2.1, st.2.2.2.2.2.2.2.2.2.2.2.2.2.1, st.2.2.2.2.2.2.2.2.2.2.2.2.2.2.1, st.2.2.2.2.2.2.2.2.2.2.2.2.2.2.2.1, st.2.2.2.2.2.2.2.2.2.2.2.2.2.2.2.2.1, st.2.2.2.2.2.2.2.2.2.2.2.2.2.2.2.2.2.1, st.2.2.2.2.2.2.2.2.2.2.2.2.2.2.2.2.2.2.1, st.2.2.2.2.2.2.2.2.2.2.2.2.2.2.2.2.2.2.2.1, st.2.2.2.2.2.2.2.2.2.2.2.2.2.2.2.2.2.2.2.2.1, st.2.2.2.2.2.2.2.2.2.2.2.2.2.2.2.2.2.2.2.2.2.1, st.2.2.2.2.2.2.2.2.2.2.2.2.2.2.2.2.2.2.2.2.2.2.1, st.2.2.2.2.2.2.2.2.2.2.2.2.2.2.2.2.2.2.2.2.2.2.2.1, st.2.2.2.2.2.2.2.2.2.2.2.2.2.2.2.2.2.2.2.2.2.2.2.2.1, st.2.2.2.2.2.2.2.2.2.2.2.2.2.2.2.2.2.2.2.2.2.2.2.2.2)
def c_kept (st : CS) : Nat → Nat → Int32 := st.2.2.2.2.1
def c_kept_s (st : CS) (v : Nat → Nat → Int32) : CS := (st.1, st.2.1, st.2.2.1, st.2.2.2.1, v, st.2.2.2.2.2.1, st.2.2.2.2.2.2.1, st.2.2.2.2.2.2.2.1, st.2.2.2.2.2.2.2.2.1, st.2.2.2.2.2.2.2.2.2.1, st.2.2.2.2.2.2.2.2.2.2.1, st.2.2.2.2.2.2.2.2.2.2.2.1, st.2.2.2.2.2.2.2.2.2.2.2.2.1, st.2.2.2.2.2.2.2.2.2.2.2.2.2.1, st.2.2.2.2.2.2.2.2.2.2.2.2.2.2.1, st.2.2.2.2.2.2.2.2.2.2.2.2.2.2.2.1, st.2.2.2.2.2.2.2.2.2.2.2.2.2.2.2.2.1, st.2.2.2.2.2.2.2.2.2.2.2.2.2.2.2.2.2.1, st.2.2.2.2.2.2.2.2.2.2.2.2.2.2.2.2.2.2.1, st.2.2.2.2.2.2.2.2.2.2.2.2.2.2.2.2.2.2.2.1, st.2.2.2.2.2.2.2.2.2.2.2.2.2.2.2.2.2.2.2.2.1, st.2.2.2.2.2.2.2.2.2.2.2.2.2.2.2.2.2.2.2.2.2.1, st.2.2.2.2.2.2.2.2.2.2.2.2.2.2.2.2.2.2.2.2.2.2.1, st.2.2.2.2.2.2.2.2.2.2.2.2.2.2.2.2.2.2.2.2.2.2.2.1, st.2.2.2.2.2.2.2.2.2.2.2.2.2.2.2.2.2.2.2.2.2.2.2.2.1, st.2.2.2.2.2.2.2.2.2.2.2.2.2.2.2.2.2.2.2.2.2.2.2.2.2)
def c_oldest (st : CS) : Int32 := st.2.2.2.2.2.1
def c_oldest_s (st : CS) (v : Int32) : CS := (st.1, st.2.1, st.2.2.1, st.2.2.2.1, st.2.2.2.2.1, v, st.2.2.2.2.2.2.1, st.2.2.2.2.2.2.2.1, st.2.2.2.2.2.2.2.2.1, st.2.2.2.2.2.2.2.2.2.1, st.2.2.2.2.2.2.2.2.2.2.1, st.2.2.2.2.2.2.2.2.2.2.2.1, st.2.2.2.2.2.2.2.2.2.2.2.2.1, st.2.2.2.2.2.2.2.2.2.2.2.2.2.1, st.2.2.2.2.2.2.2.2.2.2.2.2.2.2.1, st.2.2.2.2.2.2.2.2.2.2.2.2.2.2.2.1, st.2.2.2.2.2.2.2.2.2.2.2.2.2.2.2.2.1, st.2.2.2.2.2.2.2.2.2.2.2.2.2.2.2.2.2.1, st.2.2.2.2.2.2.2.2.2.2.2.2.2.2.2.2.2.2.1, st.2.2.2.2.2.2.2.2.2.2.2.2.2.2.2.2.2.2.2.1, st.2.2.2.2.2.2.2.2.2.2.2.2.2.2.2.2.2.2.2.2.1, st.2.2.2.2.2.2.2.2.2.2.2.2.2.2.2.2.2.2.2.2.2.1, st.2.2.2.2.2.2.2.2.2.2.2.2.2.2.2.2.2.2.2.2.2.2.1, st.2.2.2.2.2.2.2.2.2.2.2.2.2.2.2.2.2.2.2.2.2.2.2.1, st.2.2.2.2.2.2.2.2.2.2.2.2.2.2.2.2.2.2.2.2.2.2.2.2.1, st.2.2.2.2.2.2.2.2.2.2.2.2.2.2.2.2.2.2.2.2.2.2.2.2.2)
def c_held (st : CS) : Int32 := st.2.2.2.2.2.2.1
def c_held_s (st : CS) (v : Int32) : CS := (st.1, st.2.1, st.2.2.1, st.2.2.2.1, st.2.2.2.2.1, st.2.2.2.2.2.1, v, st.2.2.2.2.2.2.2.1, st.2.2.2.2.2.2.2.2.1, st.2.2.2.2.2.2.2.2.2.1, st.2.2.2.2.2.2.2.2.2.2.1, st.2.2.2.2.2.2.2.2.2.2.2.1, st.2.2.2.2.2.2.2.2.2.2.2.2.1, st.2.2.2.2.2.2.2.2.2.2.2.2.2.1, st.2.2.2.2.2.2.2.2.2.2.2.2.2.2.1, st.2.2.2.2.2.2.2.2.2.2.2.2.2.2.2.1, st.2.2.2.2.2.2.2.2.2.2.2.2.2.2.2.2.1, st.2.2.2.2.2.2.2.2.2.2.2.2.2.2.2.2.2.1, st.2.2.2.2.2.2.2.2.2.2.2.2.2.2.2.2.2.2.1, st.2.2.2.2.2.2.2.2.2.2.2.2.2.2.2.2.2.2.2.1, st.2.2.2.2.2.2.2.2.2.2.2.2.2.2.2.2.2.2.2.2.1, st.2.2.2.2.2.2.2.2.2.2.2.2.2.2.2.2.2.2.2.2.2.1, st.2.2.2.2.2.2.2.2.2.2.2.2.2.2.2.2.2.2.2.2.2.2.1, st.2.2.2.2.2.2.2.2.2.2.2.2.2.2.2.2.2.2.2.2.2.2.2.1, st.2.2.2.2.2.2.2.2.2.2.2.2.2.2.2.2.2.2.2.2.2.2.2.2.1, st.2.2.2.2.2.2.2.2.2.2.2.2.2.2.2.2.2.2.2.2.2.2.2.2.2)
def c_codes (st : CS) : Nat → Int32 := st.2.2.2.2.2.2.2.1
def c_codes_s (st : CS) (v : Nat → Int32) : CS := (st.1, st.2.1, st.2.2.1, st.2.2.2.1, st.2.2.2.2.1, st.2.2.2.2.2.1, st.2.2.2.2.2.2.1, v, st.2.2.2.2.2.2.2.2.1, st.2.2.2.2.2.2.2.2.2.1, st.2.2.2.2.2.2.2.2.2.2.1, st.2.2.2.2.2.2.2.2.2.2.2.1, st.2.2.2.2.2.2.2.2.2.2.2.2.1, st.2.2.2.2.2.2.2.2.2.2.2.2.2.1, st.2.2.2.2.2.2.2.2.2.2.2.2.2.2.1, st.2.2.2.2.2.2.2.2.2.2.2.2.2.2.2.1, st.2.2.2.2.2.2.2.2.2.2.2.2.2.2.2.2.1, st.2.2.2.2.2.2.2.2.2.2.2.2.2.2.2.2.2.1, st.2.2.2.2.2.2.2.2.2.2.2.2.2.2.2.2.2.2.1, st.2.2.2.2.2.2.2.2.2.2.2.2.2.2.2.2.2.2.2.1, st.2.2.2.2.2.2.2.2.2.2.2.2.2.2.2.2.2.2.2.2.1, st.2.2.2.2.2.2.2.2.2.2.2.2.2.2.2.2.2.2.2.2.2.1, st.2.2.2.2.2.2.2.2.2.2.2.2.2.2.2.2.2.2.2.2.2.2.1, st.2.2.2.2.2.2.2.2.2.2.2.2.2.2.2.2.2.2.2.2.2.2.2.1, st.2.2.2.2.2.2.2.2.2.2.2.2.2.2.2.2.2.2.2.2.2.2.2.2.1, st.2.2.2.2.2.2.2.2.2.2.2.2.2.2.2.2.2.2.2.2.2.2.2.2.2)
def c_length (st : CS) : Int32 := st.2.2.2.2.2.2.2.2.1
def c_length_s (st : CS) (v : Int32) : CS := (st.1, st.2.1, st.2.2.1, st.2.2.2.1, st.2.2.2.2.1, st.2.2.2.2.2.1, st.2.2.2.2.2.2.1, st.2.2.2.2.2.2.2.1, v, st.2.2.2.2.2.2.2.2.2.1, st.2.2.2.2.2.2.2.2.2.2.1, st.2.2.2.2.2.2.2.2.2.2.2.1, st.2.2.2.2.2.2.2.2.2.2.2.2.1, st.2.2.2.2.2.2.2.2.2.2.2.2.2.1, st.2.2.2.2.2.2.2.2.2.2.2.2.2.2.1, st.2.2.2.2.2.2.2.2.2.2.2.2.2.2.2.1, st.2.2.2.2.2.2.2.2.2.2.2.2.2.2.2.2.1, st.2.2.2.2.2.2.2.2.2.2.2.2.2.2.2.2.2.1, st.2.2.2.2.2.2.2.2.2.2.2.2.2.2.2.2.2.2.1, st.2.2.2.2.2.2.2.2.2.2.2.2.2.2.2.2.2.2.2.1, st.2.2.2.2.2.2.2.2.2.2.2.2.2.2.2.2.2.2.2.2.1, st.2.2.2.2.2.2.2.2.2.2.2.2.2.2.2.2.2.2.2.2.2.1, st.2.2.2.2.2.2.2.2.2.2.2.2.2.2.2.2.2.2.2.2.2.2.1, st.2.2.2.2.2.2.2.2.2.2.2.2.2.2.2.2.2.2.2.2.2.2.2.1, st.2.2.2.2.2.2.2.2.2.2.2.2.2.2.2.2.2.2.2.2.2.2.2.2.1, st.2.2.2.2.2.2.2.2.2.2.2.2.2.2.2.2.2.2.2.2.2.2.2.2.2)
def c_weight (st : CS) : Nat → Int32 := st.2.2.2.2.2.2.2.2.2.1
def c_weight_s (st : CS) (v : Nat → Int32) : CS := (st.1, st.2.1, st.2.2.1, st.2.2.2.1, st.2.2.2.2.1, st.2.2.2.2.2.1, st.2.2.2.2.2.2.1, st.2.2.2.2.2.2.2.1, st.2.2.2.2.2.2.2.2.1, v, st.2.2.2.2.2.2.2.2.2.2.1, st.2.2.2.2.2.2.2.2.2.2.2.1, st.2.2.2.2.2.2.2.2.2.2.2.2.1, st.2.2.2.2.2.2.2.2.2.2.2.2.2.1, st.2.2.2.2.2.2.2.2.2.2.2.2.2.2.1, st.2.2.2.2.2.2.2.2.2.2.2.2.2.2.2.1, st.2.2.2.2.2.2.2.2.2.2.2.2.2.2.2.2.1, st.2.2.2.2.2.2.2.2.2.2.2.2.2.2.2.2.2.1, st.2.2.2.2.2.2.2.2.2.2.2.2.2.2.2.2.2.2.1, st.2.2.2.2.2.2.2.2.2.2.2.2.2.2.2.2.2.2.2.1, st.2.2.2.2.2.2.2.2.2.2.2.2.2.2.2.2.2.2.2.2.1, st.2.2.2.2.2.2.2.2.2.2.2.2.2.2.2.2.2.2.2.2.2.1, st.2.2.2.2.2.2.2.2.2.2.2.2.2.2.2.2.2.2.2.2.2.2.1, st.2.2.2.2.2.2.2.2.2.2.2.2.2.2.2.2.2.2.2.2.2.2.2.1, st.2.2.2.2.2.2.2.2.2.2.2.2.2.2.2.2.2.2.2.2.2.2.2.2.1, st.2.2.2.2.2.2.2.2.2.2.2.2.2.2.2.2.2.2.2.2.2.2.2.2.2)
def c_used (st : CS) : Int32 := st.2.2.2.2.2.2.2.2.2.2.1
def c_used_s (st : CS) (v : Int32) : CS := (st.1, st.2.1, st.2.2.1, st.2.2.2.1, st.2.2.2.2.1, st.2.2.2.2.2.1, st.2.2.2.2.2.2.1, st.2.2.2.2.2.2.2.1, st.2.2.2.2.2.2.2.2.1, st.2.2.2.2.2.2.2.2.2.1, v, st.2.2.2.2.2.2.2.2.2.2.2.1, st.2.2.2.2.2.2.2.2.2.2.2.2.1, st.2.2.2.2.2.2.2.2.2.2.2.2.2.1, st.2.2.2.2.2.2.2.2.2.2.2.2.2.2.1, st.2.2.2.2.2.2.2.2.2.2.2.2.2.2.2.1, st.2.2.2.2.2.2.2.2.2.2.2.2.2.2.2.2.1, st.2.2.2.2.2.2.2.2.2.2.2.2.2.2.2.2.2.1, st.2.2.2.2.2.2.2.2.2.2.2.2.2.2.2.2.2.2.1, st.2.2.2.2.2.2.2.2.2.2.2.2.2.2.2.2.2.2.2.1, st.2.2.2.2.2.2.2.2.2.2.2.2.2.2.2.2.2.2.2.2.1, st.2.2.2.2.2.2.2.2.2.2.2.2.2.2.2.2.2.2.2.2.2.1, st.2.2.2.2.2.2.2.2.2.2.2.2.2.2.2.2.2.2.2.2.2.2.1, st.2.2.2.2.2.2.2.2.2.2.2.2.2.2.2.2.2.2.2.2.2.2.2.1, st.2.2.2.2.2.2.2.2.2.2.2.2.2.2.2.2.2.2.2.2.2.2.2.2.1, st.2.2.2.2.2.2.2.2.2.2.2.2.2.2.2.2.2.2.2.2.2.2.2.2.2)
def c_most (st : CS) : Int32 := st.2.2.2.2.2.2.2.2.2.2.2.1
def c_most_s (st : CS) (v : Int32) : CS := (st.1, st.2.1, st.2.2.1, st.2.2.2.1, st.2.2.2.2.1, st.2.2.2.2.2.1, st.2.2.2.2.2.2.1, st.2.2.2.2.2.2.2.1, st.2.2.2.2.2.2.2.2.1, st.2.2.2.2.2.2.2.2.2.1, st.2.2.2.2.2.2.2.2.2.2.1, v, st.2.2.2.2.2.2.2.2.2.2.2.2.1, st.2.2.2.2.2.2.2.2.2.2.2.2.2.1, st.2.2.2.2.2.2.2.2.2.2.2.2.2.2.1, st.2.2.2.2.2.2.2.2.2.2.2.2.2.2.2.1, st.2.2.2.2.2.2.2.2.2.2.2.2.2.2.2.2.1, st.2.2.2.2.2.2.2.2.2.2.2.2.2.2.2.2.2.1, st.2.2.2.2.2.2.2.2.2.2.2.2.2.2.2.2.2.2.1, st.2.2.2.2.2.2.2.2.2.2.2.2.2.2.2.2.2.2.2.1, st.2.2.2.2.2.2.2.2.2.2.2.2.2.2.2.2.2.2.2.2.1, st.2.2.2.2.2.2.2.2.2.2.2.2.2.2.2.2.2.2.2.2.2.1, st.2.2.2.2.2.2.2.2.2.2.2.2.2.2.2.2.2.2.2.2.2.2.1, st.2.2.2.2.2.2.2.2.2.2.2.2.2.2.2.2.2.2.2.2.2.2.2.1, st.2.2.2.2.2.2.2.2.2.2.2.2.2.2.2.2.2.2.2.2.2.2.2.2.1, st.2.2.2.2.2.2.2.2.2.2.2.2.2.2.2.2.2.2.2.2.2.2.2.2.2)
def c_canBeEmpty (st : CS) : Int32 := st.2.2.2.2.2.2.2.2.2.2.2.2.1
def c_canBeEmpty_s (st : CS) (v : Int32) : CS := (st.1, st.2.1, st.2.2.1, st.2.2.2.1, st.2.2.2.2.1, st.2.2.2.2.2.1, st.2.2.2.2.2.2.1, st.2.2.2.2.2.2.2.1, st.2.2.2.2.2.2.2.2.1, st.2.2.2.2.2.2.2.2.2.1, st.2.2.2.2.2.2.2.2.2.2.1, st.2.2.2.2.2.2.2.2.2.2.2.1, v, st.2.2.2.2.2.2.2.2.2.2.2.2.2.1, st.2.2.2.2.2.2.2.2.2.2.2.2.2.2.1, st.2.2.2.2.2.2.2.2.2.2.2.2.2.2.2.1, st.2.2.2.2.2.2.2.2.2.2.2.2.2.2.2.2.1, st.2.2.2.2.2.2.2.2.2.2.2.2.2.2.2.2.2.1, st.2.2.2.2.2.2.2.2.2.2.2.2.2.2.2.2.2.2.1, st.2.2.2.2.2.2.2.2.2.2.2.2.2.2.2.2.2.2.2.1, st.2.2.2.2.2.2.2.2.2.2.2.2.2.2.2.2.2.2.2.2.1, st.2.2.2.2.2.2.2.2.2.2.2.2.2.2.2.2.2.2.2.2.2.1, st.2.2.2.2.2.2.2.2.2.2.2.2.2.2.2.2.2.2.2.2.2.2.1, st.2.2.2.2.2.2.2.2.2.2.2.2.2.2.2.2.2.2.2.2.2.2.2.1, st.2.2.2.2.2.2.2.2.2.2.2.2.2.2.2.2.2.2.2.2.2.2.2.2.1, st.2.2.2.2.2.2.2.2.2.2.2.2.2.2.2.2.2.2.2.2.2.2.2.2.2)
def c_eprep (st : CS) : Int32 := st.2.2.2.2.2.2.2.2.2.2.2.2.2.1
def c_eprep_s (st : CS) (v : Int32) : CS := (st.1, st.2.1, st.2.2.1, st.2.2.2.1, st.2.2.2.2.1, st.2.2.2.2.2.1, st.2.2.2.2.2.2.1, st.2.2.2.2.2.2.2.1, st.2.2.2.2.2.2.2.2.1, st.2.2.2.2.2.2.2.2.2.1, st.2.2.2.2.2.2.2.2.2.2.1, st.2.2.2.2.2.2.2.2.2.2.2.1, st.2.2.2.2.2.2.2.2.2.2.2.2.1, v, st.2.2.2.2.2.2.2.2.2.2.2.2.2.2.1, st.2.2.2.2.2.2.2.2.2.2.2.2.2.2.2.1, st.2.2.2.2.2.2.2.2.2.2.2.2.2.2.2.2.1, st.2.2.2.2.2.2.2.2.2.2.2.2.2.2.2.2.2.1, st.2.2.2.2.2.2.2.2.2.2.2.2.2.2.2.2.2.2.1, st.2.2.2.2.2.2.2.2.2.2.2.2.2.2.2.2.2.2.2.1, st.2.2.2.2.2.2.2.2.2.2.2.2.2.2.2.2.2.2.2.2.1, st.2.2.2.2.2.2.2.2.2.2.2.2.2.2.2.2.2.2.2.2.2.1, st.2.2.2.2.2.2.2.2.2.2.2.2.2.2.2.2.2.2.2.2.2.2.1, st.2.2.2.2.2.2.2.2.2.2.2.2.2.2.2.2.2.2.2.2.2.2.2.1, st.2.2.2.2.2.2.2.2.2.2.2.2.2.2.2.2.2.2.2.2.2.2.2.2.1, st.2.2.2.2.2.2.2.2.2.2.2.2.2.2.2.2.2.2.2.2.2.2.2.2.2)
def c_rows (st : CS) : Nat → Nat → Int32 := st.2.2.2.2.2.2.2.2.2.2.2.2.2.2.1
def c_rows_s (st : CS) (v : Nat → Nat → Int32) : CS := (st.1, st.2.1, st.2.2.1, st.2.2.2.1, st.2.2.2.2.1, st.2.2.2.2.2.1, st.2.2.2.2.2.2.1, st.2.2.2.2.2.2.2.1, st.2.2.2.2.2.2.2.2.1, st.2.2.2.2.2.2.2.2.2.1, st.2.2.2.2.2.2.2.2.2.2.1, st.2.2.2.2.2.2.2.2.2.2.2.1, st.2.2.2.2.2.2.2.2.2.2.2.2.1, st.2.2.2.2.2.2.2.2.2.2.2.2.2.1, v, st.2.2.2.2.2.2.2.2.2.2.2.2.2.2.2.1, st.2.2.2.2.2.2.2.2.2.2.2.2.2.2.2.2.1, st.2.2.2.2.2.2.2.2.2.2.2.2.2.2.2.2.2.1, st.2.2.2.2.2.2.2.2.2.2.2.2.2.2.2.2.2.2.1, st.2.2.2.2.2.2.2.2.2.2.2.2.2.2.2.2.2.2.2.1, st.2.2.2.2.2.2.2.2.2.2.2.2.2.2.2.2.2.2.2.2.1, st.2.2.2.2.2.2.2.2.2.2.2.2.2.2.2.2.2.2.2.2.2.1, st.2.2.2.2.2.2.2.2.2.2.2.2.2.2.2.2.2.2.2.2.2.2.1, st.2.2.2.2.2.2.2.2.2.2.2.2.2.2.2.2.2.2.2.2.2.2.2.1, st.2.2.2.2.2.2.2.2.2.2.2.2.2.2.2.2.2.2.2.2.2.2.2.2.1, st.2.2.2.2.2.2.2.2.2.2.2.2.2.2.2.2.2.2.2.2.2.2.2.2.2)
def c_size (st : CS) : Nat → Int32 := st.2.2.2.2.2.2.2.2.2.2.2.2.2.2.2.1
def c_size_s (st : CS) (v : Nat → Int32) : CS := (st.1, st.2.1, st.2.2.1, st.2.2.2.1, st.2.2.2.2.1, st.2.2.2.2.2.1, st.2.2.2.2.2.2.1, st.2.2.2.2.2.2.2.1, st.2.2.2.2.2.2.2.2.1, st.2.2.2.2.2.2.2.2.2.1, st.2.2.2.2.2.2.2.2.2.2.1, st.2.2.2.2.2.2.2.2.2.2.2.1, st.2.2.2.2.2.2.2.2.2.2.2.2.1, st.2.2.2.2.2.2.2.2.2.2.2.2.2.1, st.2.2.2.2.2.2.2.2.2.2.2.2.2.2.1, v, st.2.2.2.2.2.2.2.2.2.2.2.2.2.2.2.2.1, st.2.2.2.2.2.2.2.2.2.2.2.2.2.2.2.2.2.1, st.2.2.2.2.2.2.2.2.2.2.2.2.2.2.2.2.2.2.1, st.2.2.2.2.2.2.2.2.2.2.2.2.2.2.2.2.2.2.2.1, st.2.2.2.2.2.2.2.2.2.2.2.2.2.2.2.2.2.2.2.2.1, st.2.2.2.2.2.2.2.2.2.2.2.2.2.2.2.2.2.2.2.2.2.1, st.2.2.2.2.2.2.2.2.2.2.2.2.2.2.2.2.2.2.2.2.2.2.1, st.2.2.2.2.2.2.2.2.2.2.2.2.2.2.2.2.2.2.2.2.2.2.2.1, st.2.2.2.2.2.2.2.2.2.2.2.2.2.2.2.2.2.2.2.2.2.2.2.2.1, st.2.2.2.2.2.2.2.2.2.2.2.2.2.2.2.2.2.2.2.2.2.2.2.2.2)
def c_exactly (st : CS) : Nat → Nat → Int64 := st.2.2.2.2.2.2.2.2.2.2.2.2.2.2.2.2.1
def c_exactly_s (st : CS) (v : Nat → Nat → Int64) : CS := (st.1, st.2.1, st.2.2.1, st.2.2.2.1, st.2.2.2.2.1, st.2.2.2.2.2.1, st.2.2.2.2.2.2.1, st.2.2.2.2.2.2.2.1, st.2.2.2.2.2.2.2.2.1, st.2.2.2.2.2.2.2.2.2.1, st.2.2.2.2.2.2.2.2.2.2.1, st.2.2.2.2.2.2.2.2.2.2.2.1, st.2.2.2.2.2.2.2.2.2.2.2.2.1, st.2.2.2.2.2.2.2.2.2.2.2.2.2.1, st.2.2.2.2.2.2.2.2.2.2.2.2.2.2.1, st.2.2.2.2.2.2.2.2.2.2.2.2.2.2.2.1, v, st.2.2.2.2.2.2.2.2.2.2.2.2.2.2.2.2.2.1, st.2.2.2.2.2.2.2.2.2.2.2.2.2.2.2.2.2.2.1, st.2.2.2.2.2.2.2.2.2.2.2.2.2.2.2.2.2.2.2.1, st.2.2.2.2.2.2.2.2.2.2.2.2.2.2.2.2.2.2.2.2.1, st.2.2.2.2.2.2.2.2.2.2.2.2.2.2.2.2.2.2.2.2.2.1, st.2.2.2.2.2.2.2.2.2.2.2.2.2.2.2.2.2.2.2.2.2.2.1, st.2.2.2.2.2.2.2.2.2.2.2.2.2.2.2.2.2.2.2.2.2.2.2.1, st.2.2.2.2.2.2.2.2.2.2.2.2.2.2.2.2.2.2.2.2.2.2.2.2.1, st.2.2.2.2.2.2.2.2.2.2.2.2.2.2.2.2.2.2.2.2.2.2.2.2.2)
def c_within (st : CS) : Nat → Nat → Int64 := st.2.2.2.2.2.2.2.2.2.2.2.2.2.2.2.2.2.1
def c_within_s (st : CS) (v : Nat → Nat → Int64) : CS := (st.1, st.2.1, st.2.2.1, st.2.2.2.1, st.2.2.2.2.1, st.2.2.2.2.2.1, st.2.2.2.2.2.2.1, st.2.2.2.2.2.2.2.1, st.2.2.2.2.2.2.2.2.1, st.2.2.2.2.2.2.2.2.2.1, st.2.2.2.2.2.2.2.2.2.2.1, st.2.2.2.2.2.2.2.2.2.2.2.1, st.2.2.2.2.2.2.2.2.2.2.2.2.1, st.2.2.2.2.2.2.2.2.2.2.2.2.2.1, st.2.2.2.2.2.2.2.2.2.2.2.2.2.2.1, st.2.2.2.2.2.2.2.2.2.2.2.2.2.2.2.1, st.2.2.2.2.2.2.2.2.2.2.2.2.2.2.2.2.1, v, st.2.2.2.2.2.2.2.2.2.2.2.2.2.2.2.2.2.2.1, st.2.2.2.2.2.2.2.2.2.2.2.2.2.2.2.2.2.2.2.1, st.2.2.2.2.2.2.2.2.2.2.2.2.2.2.2.2.2.2.2.2.1, st.2.2.2.2.2.2.2.2.2.2.2.2.2.2.2.2.2.2.2.2.2.1, st.2.2.2.2.2.2.2.2.2.2.2.2.2.2.2.2.2.2.2.2.2.2.1, st.2.2.2.2.2.2.2.2.2.2.2.2.2.2.2.2.2.2.2.2.2.2.2.1, st.2.2.2.2.2.2.2.2.2.2.2.2.2.2.2.2.2.2.2.2.2.2.2.2.1, st.2.2.2.2.2.2.2.2.2.2.2.2.2.2.2.2.2.2.2.2.2.2.2.2.2)
def c_eways (st : CS) : Nat → Nat → Int64 := st.2.2.2.2.2.2.2.2.2.2.2.2.2.2.2.2.2.2.1
def c_eways_s (st : CS) (v : Nat → Nat → Int64) : CS := (st.1, st.2.1, st.2.2.1, st.2.2.2.1, st.2.2.2.2.1, st.2.2.2.2.2.1, st.2.2.2.2.2.2.1, st.2.2.2.2.2.2.2.1, st.2.2.2.2.2.2.2.2.1, st.2.2.2.2.2.2.2.2.2.1, st.2.2.2.2.2.2.2.2.2.2.1, st.2.2.2.2.2.2.2.2.2.2.2.1, st.2.2.2.2.2.2.2.2.2.2.2.2.1, st.2.2.2.2.2.2.2.2.2.2.2.2.2.1, st.2.2.2.2.2.2.2.2.2.2.2.2.2.2.1, st.2.2.2.2.2.2.2.2.2.2.2.2.2.2.2.1, st.2.2.2.2.2.2.2.2.2.2.2.2.2.2.2.2.1, st.2.2.2.2.2.2.2.2.2.2.2.2.2.2.2.2.2.1, v, st.2.2.2.2.2.2.2.2.2.2.2.2.2.2.2.2.2.2.2.1, st.2.2.2.2.2.2.2.2.2.2.2.2.2.2.2.2.2.2.2.2.1, st.2.2.2.2.2.2.2.2.2.2.2.2.2.2.2.2.2.2.2.2.2.1, st.2.2.2.2.2.2.2.2.2.2.2.2.2.2.2.2.2.2.2.2.2.2.1, st.2.2.2.2.2.2.2.2.2.2.2.2.2.2.2.2.2.2.2.2.2.2.2.1, st.2.2.2.2.2.2.2.2.2.2.2.2.2.2.2.2.2.2.2.2.2.2.2.2.1, st.2.2.2.2.2.2.2.2.2.2.2.2.2.2.2.2.2.2.2.2.2.2.2.2.2)
def c_choice (st : CS) : Nat → Int32 := st.2.2.2.2.2.2.2.2.2.2.2.2.2.2.2.2.2.2.2.1
def c_choice_s (st : CS) (v : Nat → Int32) : CS := (st.1, st.2.1, st.2.2.1, st.2.2.2.1, st.2.2.2.2.1, st.2.2.2.2.2.1, st.2.2.2.2.2.2.1, st.2.2.2.2.2.2.2.1, st.2.2.2.2.2.2.2.2.1, st.2.2.2.2.2.2.2.2.2.1, st.2.2.2.2.2.2.2.2.2.2.1, st.2.2.2.2.2.2.2.2.2.2.2.1, st.2.2.2.2.2.2.2.2.2.2.2.2.1, st.2.2.2.2.2.2.2.2.2.2.2.2.2.1, st.2.2.2.2.2.2.2.2.2.2.2.2.2.2.1, st.2.2.2.2.2.2.2.2.2.2.2.2.2.2.2.1, st.2.2.2.2.2.2.2.2.2.2.2.2.2.2.2.2.1, st.2.2.2.2.2.2.2.2.2.2.2.2.2.2.2.2.2.1, st.2.2.2.2.2.2.2.2.2.2.2.2.2.2.2.2.2.2.1, v, st.2.2.2.2.2.2.2.2.2.2.2.2.2.2.2.2.2.2.2.2.1, st.2.2.2.2.2.2.2.2.2.2.2.2.2.2.2.2.2.2.2.2.2.1, st.2.2.2.2.2.2.2.2.2.2.2.2.2.2.2.2.2.2.2.2.2.2.1, st.2.2.2.2.2.2.2.2.2.2.2.2.2.2.2.2.2.2.2.2.2.2.2.1, st.2.2.2.2.2.2.2.2.2.2.2.2.2.2.2.2.2.2.2.2.2.2.2.2.1, st.2.2.2.2.2.2.2.2.2.2.2.2.2.2.2.2.2.2.2.2.2.2.2.2.2)
def c_difference (st : CS) : Nat → Int32 := st.2.2.2.2.2.2.2.2.2.2.2.2.2.2.2.2.2.2.2.2.1
def c_difference_s (st : CS) (v : Nat → Int32) : CS := (st.1, st.2.1, st.2.2.1, st.2.2.2.1, st.2.2.2.2.1, st.2.2.2.2.2.1, st.2.2.2.2.2.2.1, st.2.2.2.2.2.2.2.1, st.2.2.2.2.2.2.2.2.1, st.2.2.2.2.2.2.2.2.2.1, st.2.2.2.2.2.2.2.2.2.2.1, st.2.2.2.2.2.2.2.2.2.2.2.1, st.2.2.2.2.2.2.2.2.2.2.2.2.1, st.2.2.2.2.2.2.2.2.2.2.2.2.2.1, st.2.2.2.2.2.2.2.2.2.2.2.2.2.2.1, st.2.2.2.2.2.2.2.2.2.2.2.2.2.2.2.1, st.2.2.2.2.2.2.2.2.2.2.2.2.2.2.2.2.1, st.2.2.2.2.2.2.2.2.2.2.2.2.2.2.2.2.2.1, st.2.2.2.2.2.2.2.2.2.2.2.2.2.2.2.2.2.2.1, st.2.2.2.2.2.2.2.2.2.2.2.2.2.2.2.2.2.2.2.1, v, st.2.2.2.2.2.2.2.2.2.2.2.2.2.2.2.2.2.2.2.2.2.1, st.2.2.2.2.2.2.2.2.2.2.2.2.2.2.2.2.2.2.2.2.2.2.1, st.2.2.2.2.2.2.2.2.2.2.2.2.2.2.2.2.2.2.2.2.2.2.2.1, st.2.2.2.2.2.2.2.2.2.2.2.2.2.2.2.2.2.2.2.2.2.2.2.2.1, st.2.2.2.2.2.2.2.2.2.2.2.2.2.2.2.2.2.2.2.2.2.2.2.2.2)
def c_row (st : CS) : Nat → Int32 := st.2.2.2.2.2.2.2.2.2.2.2.2.2.2.2.2.2.2.2.2.2.1
def c_row_s (st : CS) (v : Nat → Int32) : CS := (st.1, st.2.1, st.2.2.1, st.2.2.2.1, st.2.2.2.2.1, st.2.2.2.2.2.1, st.2.2.2.2.2.2.1, st.2.2.2.2.2.2.2.1, st.2.2.2.2.2.2.2.2.1, st.2.2.2.2.2.2.2.2.2.1, st.2.2.2.2.2.2.2.2.2.2.1, st.2.2.2.2.2.2.2.2.2.2.2.1, st.2.2.2.2.2.2.2.2.2.2.2.2.1, st.2.2.2.2.2.2.2.2.2.2.2.2.2.1, st.2.2.2.2.2.2.2.2.2.2.2.2.2.2.1, st.2.2.2.2.2.2.2.2.2.2.2.2.2.2.2.1, st.2.2.2.2.2.2.2.2.2.2.2.2.2.2.2.2.1, st.2.2.2.2.2.2.2.2.2.2.2.2.2.2.2.2.2.1, st.2.2.2.2.2.2.2.2.2.2.2.2.2.2.2.2.2.2.1, st.2.2.2.2.2.2.2.2.2.2.2.2.2.2.2.2.2.2.2.1, st.2.2.2.2.2.2.2.2.2.2.2.2.2.2.2.2.2.2.2.2.1, v, st.2.2.2.2.2.2.2.2.2.2.2.2.2.2.2.2.2.2.2.2.2.2.1, st.2.2.2.2.2.2.2.2.2.2.2.2.2.2.2.2.2.2.2.2.2.2.2.1, st.2.2.2.2.2.2.2.2.2.2.2.2.2.2.2.2.2.2.2.2.2.2.2.2.1, st.2.2.2.2.2.2.2.2.2.2.2.2.2.2.2.2.2.2.2.2.2.2.2.2.2)
def c_numbers (st : CS) : Nat → Int32 := st.2.2.2.2.2.2.2.2.2.2.2.2.2.2.2.2.2.2.2.2.2.2.1
def c_numbers_s (st : CS) (v : Nat → Int32) : CS := (st.1, st.2.1, st.2.2.1, st.2.2.2.1, st.2.2.2.2.1, st.2.2.2.2.2.1, st.2.2.2.2.2.2.1, st.2.2.2.2.2.2.2.1, st.2.2.2.2.2.2.2.2.1, st.2.2.2.2.2.2.2.2.2.1, st.2.2.2.2.2.2.2.2.2.2.1, st.2.2.2.2.2.2.2.2.2.2.2.1, st.2.2.2.2.2.2.2.2.2.2.2.2.1, st.2.2.2.2.2.2.2.2.2.2.2.2.2.1, st.2.2.2.2.2.2.2.2.2.2.2.2.2.2.1, st.2.2.2.2.2.2.2.2.2.2.2.2.2.2.2.1, st.2.2.2.2.2.2.2.2.2.2.2.2.2.2.2.2.1, st.2.2.2.2.2.2.2.2.2.2.2.2.2.2.2.2.2.1, st.2.2.2.2.2.2.2.2.2.2.2.2.2.2.2.2.2.2.1, st.2.2.2.2.2.2.2.2.2.2.2.2.2.2.2.2.2.2.2.1, st.2.2.2.2.2.2.2.2.2.2.2.2.2.2.2.2.2.2.2.2.1, st.2.2.2.2.2.2.2.2.2.2.2.2.2.2.2.2.2.2.2.2.2.1, v, st.2.2.2.2.2.2.2.2.2.2.2.2.2.2.2.2.2.2.2.2.2.2.2.1, st.2.2.2.2.2.2.2.2.2.2.2.2.2.2.2.2.2.2.2.2.2.2.2.2.1, st.2.2.2.2.2.2.2.2.2.2.2.2.2.2.2.2.2.2.2.2.2.2.2.2.2)
def c_found (st : CS) : Int32 := st.2.2.2.2.2.2.2.2.2.2.2.2.2.2.2.2.2.2.2.2.2.2.2.1
def c_found_s (st : CS) (v : Int32) : CS := (st.1, st.2.1, st.2.2.1, st.2.2.2.1, st.2.2.2.2.1, st.2.2.2.2.2.1, st.2.2.2.2.2.2.1, st.2.2.2.2.2.2.2.1, st.2.2.2.2.2.2.2.2.1, st.2.2.2.2.2.2.2.2.2.1, st.2.2.2.2.2.2.2.2.2.2.1, st.2.2.2.2.2.2.2.2.2.2.2.1, st.2.2.2.2.2.2.2.2.2.2.2.2.1, st.2.2.2.2.2.2.2.2.2.2.2.2.2.1, st.2.2.2.2.2.2.2.2.2.2.2.2.2.2.1, st.2.2.2.2.2.2.2.2.2.2.2.2.2.2.2.1, st.2.2.2.2.2.2.2.2.2.2.2.2.2.2.2.2.1, st.2.2.2.2.2.2.2.2.2.2.2.2.2.2.2.2.2.1, st.2.2.2.2.2.2.2.2.2.2.2.2.2.2.2.2.2.2.1, st.2.2.2.2.2.2.2.2.2.2.2.2.2.2.2.2.2.2.2.1, st.2.2.2.2.2.2.2.2.2.2.2.2.2.2.2.2.2.2.2.2.1, st.2.2.2.2.2.2.2.2.2.2.2.2.2.2.2.2.2.2.2.2.2.1, st.2.2.2.2.2.2.2.2.2.2.2.2.2.2.2.2.2.2.2.2.2.2.1, v, st.2.2.2.2.2.2.2.2.2.2.2.2.2.2.2.2.2.2.2.2.2.2.2.2.1, st.2.2.2.2.2.2.2.2.2.2.2.2.2.2.2.2.2.2.2.2.2.2.2.2.2)
def c_lprep (st : CS) : Int32 := st.2.2.2.2.2.2.2.2.2.2.2.2.2.2.2.2.2.2.2.2.2.2.2.2.1
def c_lprep_s (st : CS) (v : Int32) : CS := (st.1, st.2.1, st.2.2.1, st.2.2.2.1, st.2.2.2.2.1, st.2.2.2.2.2.1, st.2.2.2.2.2.2.1, st.2.2.2.2.2.2.2.1, st.2.2.2.2.2.2.2.2.1, st.2.2.2.2.2.2.2.2.2.1, st.2.2.2.2.2.2.2.2.2.2.1, st.2.2.2.2.2.2.2.2.2.2.2.1, st.2.2.2.2.2.2.2.2.2.2.2.2.1, st.2.2.2.2.2.2.2.2.2.2.2.2.2.1, st.2.2.2.2.2.2.2.2.2.2.2.2.2.2.1, st.2.2.2.2.2.2.2.2.2.2.2.2.2.2.2.1, st.2.2.2.2.2.2.2.2.2.2.2.2.2.2.2.2.1, st.2.2.2.2.2.2.2.2.2.2.2.2.2.2.2.2.2.1, st.2.2.2.2.2.2.2.2.2.2.2.2.2.2.2.2.2.2.1, st.2.2.2.2.2.2.2.2.2.2.2.2.2.2.2.2.2.2.2.1, st.2.2.2.2.2.2.2.2.2.2.2.2.2.2.2.2.2.2.2.2.1, st.2.2.2.2.2.2.2.2.2.2.2.2.2.2.2.2.2.2.2.2.2.1, st.2.2.2.2.2.2.2.2.2.2.2.2.2.2.2.2.2.2.2.2.2.2.1, st.2.2.2.2.2.2.2.2.2.2.2.2.2.2.2.2.2.2.2.2.2.2.2.1, v, st.2.2.2.2.2.2.2.2.2.2.2.2.2.2.2.2.2.2.2.2.2.2.2.2.2)
def c_lways (st : CS) : Nat → Int32 := st.2.2.2.2.2.2.2.2.2.2.2.2.2.2.2.2.2.2.2.2.2.2.2.2.2
def c_lways_s (st : CS) (v : Nat → Int32) : CS := (st.1, st.2.1, st.2.2.1, st.2.2.2.1, st.2.2.2.2.1, st.2.2.2.2.2.1, st.2.2.2.2.2.2.1, st.2.2.2.2.2.2.2.1, st.2.2.2.2.2.2.2.2.1, st.2.2.2.2.2.2.2.2.2.1, st.2.2.2.2.2.2.2.2.2.2.1, st.2.2.2.2.2.2.2.2.2.2.2.1, st.2.2.2.2.2.2.2.2.2.2.2.2.1, st.2.2.2.2.2.2.2.2.2.2.2.2.2.1, st.2.2.2.2.2.2.2.2.2.2.2.2.2.2.1, st.2.2.2.2.2.2.2.2.2.2.2.2.2.2.2.1, st.2.2.2.2.2.2.2.2.2.2.2.2.2.2.2.2.1, st.2.2.2.2.2.2.2.2.2.2.2.2.2.2.2.2.2.1, st.2.2.2.2.2.2.2.2.2.2.2.2.2.2.2.2.2.2.1, st.2.2.2.2.2.2.2.2.2.2.2.2.2.2.2.2.2.2.2.1, st.2.2.2.2.2.2.2.2.2.2.2.2.2.2.2.2.2.2.2.2.1, st.2.2.2.2.2.2.2.2.2.2.2.2.2.2.2.2.2.2.2.2.2.1, st.2.2.2.2.2.2.2.2.2.2.2.2.2.2.2.2.2.2.2.2.2.2.1, st.2.2.2.2.2.2.2.2.2.2.2.2.2.2.2.2.2.2.2.2.2.2.2.1, st.2.2.2.2.2.2.2.2.2.2.2.2.2.2.2.2.2.2.2.2.2.2.2.2.1, v)
def cW (g : Nat → ClassId) (a : Nat → Nat) (st : CS) : va_W := [(a 0, .inr (4, [.ref (a 1), .ref (a 2), .ref (a 3), .ref (a 4), .ref (a 5), .ref (a 6), .ref (a 7), .ref (a 8)])), (a 1, .inl (g 0, 26, .inl (c_state st))), (a 2, .inl (g 0, 8, .inl (c_draft st))), (a 3, .inl (g 3, 2, .inr (.inr (.inr (.inr (fun i => if i < 2 then some (a (9 + i)) else none)))))), (a 4, .inl (g 2, 2, .inl (c_taken st))), (a 5, .inr (1, [.ref (a 11), .int (c_oldest st), .int (c_held st)])), (a 6, .inr (3, [.ref (a 12), .int (c_length st)])), (a 7, .inr (0, [.ref (a 13), .int (c_used st), .int (c_most st), .int (c_canBeEmpty st), .int (c_eprep st), .ref (a 14), .ref (a 15), .ref (a 16), .ref (a 17), .ref (a 18), .ref (a 19)])), (a 8, .inr (2, [.ref (a 20), .ref (a 21), .ref (a 22), .int (c_found st), .int (c_lprep st), .ref (a 23)])), (a 9, .inl (g 0, 24, .inl (c_snaps st 0))), (a 10, .inl (g 0, 24, .inl (c_snaps st 1))), (a 11, .inl (g 3, 6, .inr (.inr (.inr (.inr (fun i => if i < 6 then some (a (24 + i)) else none)))))), (a 12, .inl (g 0, 60, .inl (c_codes st))), (a 13, .inl (g 0, 4, .inl (c_weight st))), (a 14, .inl (g 3, 5, .inr (.inr (.inr (.inr (fun i => if i < 5 then some (a (30 + i)) else none)))))), (a 15, .inl (g 0, 5, .inl (c_size st))), (a 16, .inl (g 4, 5, .inr (.inr (.inr (.inr (fun i => if i < 5 then some (a (35 + i)) else none)))))), (a 17, .inl (g 4, 5, .inr (.inr (.inr (.inr (fun i => if i < 5 then some (a (40 + i)) else none)))))), (a 18, .inl (g 4, 5, .inr (.inr (.inr (.inr (fun i => if i < 5 then some (a (45 + i)) else none)))))), (a 19, .inl (g 0, 4, .inl (c_choice st))), (a 20, .inl (g 0, 4, .inl (c_difference st))), (a 21, .inl (g 0, 4, .inl (c_row st))), (a 22, .inl (g 0, 120, .inl (c_numbers st))), (a 23, .inl (g 0, 2401, .inl (c_lways st))), (a 24, .inl (g 0, 26, .inl (c_kept st 0))), (a 25, .inl (g 0, 26, .inl (c_kept st 1))), (a 26, .inl (g 0, 26, .inl (c_kept st 2))), (a 27, .inl (g 0, 26, .inl (c_kept st 3))), (a 28, .inl (g 0, 26, .inl (c_kept st 4))), (a 29, .inl (g 0, 26, .inl (c_kept st 5))), (a 30, .inl (g 0, 220, .inl (c_rows st 0))), (a 31, .inl (g 0, 220, .inl (c_rows st 1))), (a 32, .inl (g 0, 220, .inl (c_rows st 2))), (a 33, .inl (g 0, 220, .inl (c_rows st 3))), (a 34, .inl (g 0, 220, .inl (c_rows st 4))), (a 35, .inl (g 1, 16, .inr (.inl (c_exactly st 0)))), (a 36, .inl (g 1, 16, .inr (.inl (c_exactly st 1)))), (a 37, .inl (g 1, 16, .inr (.inl (c_exactly st 2)))), (a 38, .inl (g 1, 16, .inr (.inl (c_exactly st 3)))), (a 39, .inl (g 1, 16, .inr (.inl (c_exactly st 4)))), (a 40, .inl (g 1, 16, .inr (.inl (c_within st 0)))), (a 41, .inl (g 1, 16, .inr (.inl (c_within st 1)))), (a 42, .inl (g 1, 16, .inr (.inl (c_within st 2)))), (a 43, .inl (g 1, 16, .inr (.inl (c_within st 3)))), (a 44, .inl (g 1, 16, .inr (.inl (c_within st 4)))), (a 45, .inl (g 1, 16, .inr (.inl (c_eways st 0)))), (a 46, .inl (g 1, 16, .inr (.inl (c_eways st 1)))), (a 47, .inl (g 1, 16, .inr (.inl (c_eways st 2)))), (a 48, .inl (g 1, 16, .inr (.inl (c_eways st 3)))), (a 49, .inl (g 1, 16, .inr (.inl (c_eways st 4))))]
theorem cW_k {g : Nat → ClassId} {a : Nat → Nat} {st st' : CS} : (cW g a st').map Prod.fst = (cW g a st).map Prod.fst := rfl
section RWcW
variable {p : Program} {l : Launch} {e : Env} {R : Room} {s : State} {m : MethodId} {args : Array Value} {below : List Frame} {meth : Method} {c : Code} {H : Heap} {locs : List Loc} {cells slots : Nat} {Q : State → Prop}
variable {cc : ByteArray} {nL pc : Nat} {ls : Array Slot} {rest : List Value} {D : va_G} {g : Nat → ClassId} {a : Nat → Nat} {A : Nat → Prop} {H0 : Heap} {st : CS}
theorem in4 : ∀ w ∈ u_ws RX4 TX4 8, w ∈ TB := tb_sub inX4 (by decide +kernel)
theorem pl4 : plainName RX4 = true := by decide
theorem fl4_9 : Cond.fieldLink RX4 9 (TX4 0).1 (TX4 0).2.1 (TX4 0).2.2.1 ∈ TB := tb 149 (by decide +kernel) (by decide +kernel)
theorem g4_9 (E : en p m c cc nL s args RX4 D g) (I : wk D (cW g a st) A H0 H locs) (hdg : decode cc pc = .ok (.getfield 9, 3)) (kk : W p l e R s m args below meth c H locs cells slots Q (F0 m (pc + 3) ls (.ref (a 1) :: rest))) : W p l e R s m args below meth c H locs cells slots Q (F0 m pc ls (.ref (a 0) :: rest)) := r_get E I 0 4 0 rfl rfl in4 (by decide) fl4_9 rfl hdg kk
theorem fl4_13 : Cond.fieldLink RX4 13 (TX4 1).1 (TX4 1).2.1 (TX4 1).2.2.1 ∈ TB := tb 150 (by decide +kernel) (by decide +kernel)
theorem g4_13 (E : en p m c cc nL s args RX4 D g) (I : wk D (cW g a st) A H0 H locs) (hdg : decode cc pc = .ok (.getfield 13, 3)) (kk : W p l e R s m args below meth c H locs cells slots Q (F0 m (pc + 3) ls (.ref (a 2) :: rest))) : W p l e R s m args below meth c H locs cells slots Q (F0 m pc ls (.ref (a 0) :: rest)) := r_get E I 0 4 1 rfl rfl in4 (by decide) fl4_13 rfl hdg kk
theorem fl4_18 : Cond.fieldLink RX4 18 (TX4 2).1 (TX4 2).2.1 (TX4 2).2.2.1 ∈ TB := tb 151 (by decide +kernel) (by decide +kernel)
theorem g4_18 (E : en p m c cc nL s args RX4 D g) (I : wk D (cW g a st) A H0 H locs) (hdg : decode cc pc = .ok (.getfield 18, 3)) (kk : W p l e R s m args below meth c H locs cells slots Q (F0 m (pc + 3) ls (.ref (a 3) :: rest))) : W p l e R s m args below meth c H locs cells slots Q (F0 m pc ls (.ref (a 0) :: rest)) := r_get E I 0 4 2 rfl rfl in4 (by decide) fl4_18 rfl hdg kk
theorem fl4_21 : Cond.fieldLink RX4 21 (TX4 3).1 (TX4 3).2.1 (TX4 3).2.2.1 ∈ TB := tb 152 (by decide +kernel) (by decide +kernel)
theorem g4_21 (E : en p m c cc nL s args RX4 D g) (I : wk D (cW g a st) A H0 H locs) (hdg : decode cc pc = .ok (.getfield 21, 3)) (kk : W p l e R s m args below meth c H locs cells slots Q (F0 m (pc + 3) ls (.ref (a 4) :: rest))) : W p l e R s m args below meth c H locs cells slots Q (F0 m pc ls (.ref (a 0) :: rest)) := r_get E I 0 4 3 rfl rfl in4 (by decide) fl4_21 rfl hdg kk
theorem fl4_28 : Cond.fieldLink RX4 28 (TX4 4).1 (TX4 4).2.1 (TX4 4).2.2.1 ∈ TB := tb 153 (by decide +kernel) (by decide +kernel)
theorem g4_28 (E : en p m c cc nL s args RX4 D g) (I : wk D (cW g a st) A H0 H locs) (hdg : decode cc pc = .ok (.getfield 28, 3)) (kk : W p l e R s m args below meth c H locs cells slots Q (F0 m (pc + 3) ls (.ref (a 5) :: rest))) : W p l e R s m args below meth c H locs cells slots Q (F0 m pc ls (.ref (a 0) :: rest)) := r_get E I 0 4 4 rfl rfl in4 (by decide) fl4_28 rfl hdg kk
theorem fl4_35 : Cond.fieldLink RX4 35 (TX4 5).1 (TX4 5).2.1 (TX4 5).2.2.1 ∈ TB := tb 154 (by decide +kernel) (by decide +kernel)
theorem g4_35 (E : en p m c cc nL s args RX4 D g) (I : wk D (cW g a st) A H0 H locs) (hdg : decode cc pc = .ok (.getfield 35, 3)) (kk : W p l e R s m args below meth c H locs cells slots Q (F0 m (pc + 3) ls (.ref (a 6) :: rest))) : W p l e R s m args below meth c H locs cells slots Q (F0 m pc ls (.ref (a 0) :: rest)) := r_get E I 0 4 5 rfl rfl in4 (by decide) fl4_35 rfl hdg kk
theorem fl4_42 : Cond.fieldLink RX4 42 (TX4 6).1 (TX4 6).2.1 (TX4 6).2.2.1 ∈ TB := tb 155 (by decide +kernel) (by decide +kernel)
theorem g4_42 (E : en p m c cc nL s args RX4 D g) (I : wk D (cW g a st) A H0 H locs) (hdg : decode cc pc = .ok (.getfield 42, 3)) (kk : W p l e R s m args below meth c H locs cells slots Q (F0 m (pc + 3) ls (.ref (a 7) :: rest))) : W p l e R s m args below meth c H locs cells slots Q (F0 m pc ls (.ref (a 0) :: rest)) := r_get E I 0 4 6 rfl rfl in4 (by decide) fl4_42 rfl hdg kk
theorem fl4_49 : Cond.fieldLink RX4 49 (TX4 7).1 (TX4 7).2.1 (TX4 7).2.2.1 ∈ TB := tb 156 (by decide +kernel) (by decide +kernel)
theorem g4_49 (E : en p m c cc nL s args RX4 D g) (I : wk D (cW g a st) A H0 H locs) (hdg : decode cc pc = .ok (.getfield 49, 3)) (kk : W p l e R s m args below meth c H locs cells slots Q (F0 m (pc + 3) ls (.ref (a 8) :: rest))) : W p l e R s m args below meth c H locs cells slots Q (F0 m pc ls (.ref (a 0) :: rest)) := r_get E I 0 4 7 rfl rfl in4 (by decide) fl4_49 rfl hdg kk
theorem in1 : ∀ w ∈ u_ws RX1 TX1 3, w ∈ TB := tb_sub inX1 (by decide +kernel)
theorem pl1 : plainName RX1 = true := by decide
theorem fl1_13 : Cond.fieldLink RX1 13 (TX1 0).1 (TX1 0).2.1 (TX1 0).2.2.1 ∈ TB := tb 56 (by decide +kernel) (by decide +kernel)
theorem g1_13 (E : en p m c cc nL s args RX1 D g) (I : wk D (cW g a st) A H0 H locs) (hdg : decode cc pc = .ok (.getfield 13, 3)) (kk : W p l e R s m args below meth c H locs cells slots Q (F0 m (pc + 3) ls (.ref (a 11) :: rest))) : W p l e R s m args below meth c H locs cells slots Q (F0 m pc ls (.ref (a 5) :: rest)) := r_get E I 5 1 0 rfl rfl in1 (by decide) fl1_13 rfl hdg kk
theorem fl1_16 : Cond.fieldLink RX1 16 (TX1 2).1 (TX1 2).2.1 (TX1 2).2.2.1 ∈ TB := tb 58 (by decide +kernel) (by decide +kernel)
theorem g1_16 (E : en p m c cc nL s args RX1 D g) (I : wk D (cW g a st) A H0 H locs) {v : Int32} (hv : c_held st = v) (hdg : decode cc pc = .ok (.getfield 16, 3)) (kk : W p l e R s m args below meth c H locs cells slots Q (F0 m (pc + 3) ls (.int v :: rest))) : W p l e R s m args below meth c H locs cells slots Q (F0 m pc ls (.ref (a 5) :: rest)) := by
  subst hv
  exact r_get E I 5 1 2 rfl rfl in1 (by decide) fl1_16 rfl hdg kk
theorem p1_16 (E : en p m c cc nL s args RX1 D g) (I : wk D (cW g a st) A H0 H locs) {v : Int32} (hdg : decode cc pc = .ok (.putfield 16, 3)) (kk : ∀ (H1 : Heap) (locs1 : List Loc), wk D (cW g a (c_held_s st v)) A H0 H1 locs1 → W p l e R s m args below meth c H1 locs1 cells slots Q (F0 m (pc + 3) ls rest)) : W p l e R s m args below meth c H locs cells slots Q (F0 m pc ls (.int v :: .ref (a 5) :: rest)) := r_put (ty := .int) E I 5 1 2 rfl rfl rfl in1 tyX1 tyX1_ok nmX1 (by decide) fl1_16 rfl (by decide +kernel) rfl rfl (Nat.le_of_ble_eq_true rfl) hdg kk
theorem fl1_20 : Cond.fieldLink RX1 20 (TX1 1).1 (TX1 1).2.1 (TX1 1).2.2.1 ∈ TB := tb 57 (by decide +kernel) (by decide +kernel)
theorem g1_20 (E : en p m c cc nL s args RX1 D g) (I : wk D (cW g a st) A H0 H locs) {v : Int32} (hv : c_oldest st = v) (hdg : decode cc pc = .ok (.getfield 20, 3)) (kk : W p l e R s m args below meth c H locs cells slots Q (F0 m (pc + 3) ls (.int v :: rest))) : W p l e R s m args below meth c H locs cells slots Q (F0 m pc ls (.ref (a 5) :: rest)) := by
  subst hv
  exact r_get E I 5 1 1 rfl rfl in1 (by decide) fl1_20 rfl hdg kk
theorem p1_20 (E : en p m c cc nL s args RX1 D g) (I : wk D (cW g a st) A H0 H locs) {v : Int32} (hdg : decode cc pc = .ok (.putfield 20, 3)) (kk : ∀ (H1 : Heap) (locs1 : List Loc), wk D (cW g a (c_oldest_s st v)) A H0 H1 locs1 → W p l e R s m args below meth c H1 locs1 cells slots Q (F0 m (pc + 3) ls rest)) : W p l e R s m args below meth c H locs cells slots Q (F0 m pc ls (.int v :: .ref (a 5) :: rest)) := r_put (ty := .int) E I 5 1 1 rfl rfl rfl in1 tyX1 tyX1_ok nmX1 (by decide) fl1_20 rfl (by decide +kernel) rfl rfl (Nat.le_of_ble_eq_true rfl) hdg kk
theorem in3 : ∀ w ∈ u_ws RX3 TX3 2, w ∈ TB := tb_sub inX3 (by decide +kernel)
theorem pl3 : plainName RX3 = true := by decide
theorem fl3_11 : Cond.fieldLink RX3 11 (TX3 0).1 (TX3 0).2.1 (TX3 0).2.2.1 ∈ TB := tb 74 (by decide +kernel) (by decide +kernel)
theorem g3_11 (E : en p m c cc nL s args RX3 D g) (I : wk D (cW g a st) A H0 H locs) (hdg : decode cc pc = .ok (.getfield 11, 3)) (kk : W p l e R s m args below meth c H locs cells slots Q (F0 m (pc + 3) ls (.ref (a 12) :: rest))) : W p l e R s m args below meth c H locs cells slots Q (F0 m pc ls (.ref (a 6) :: rest)) := r_get E I 6 3 0 rfl rfl in3 (by decide) fl3_11 rfl hdg kk
theorem in0 : ∀ w ∈ u_ws RX0 TX0 11, w ∈ TB := tb_sub inX0 (by decide +kernel)
theorem pl0 : plainName RX0 = true := by decide
theorem fl0_9 : Cond.fieldLink RX0 9 (TX0 0).1 (TX0 0).2.1 (TX0 0).2.2.1 ∈ TB := tb 89 (by decide +kernel) (by decide +kernel)
theorem g0_9 (E : en p m c cc nL s args RX0 D g) (I : wk D (cW g a st) A H0 H locs) (hdg : decode cc pc = .ok (.getfield 9, 3)) (kk : W p l e R s m args below meth c H locs cells slots Q (F0 m (pc + 3) ls (.ref (a 13) :: rest))) : W p l e R s m args below meth c H locs cells slots Q (F0 m pc ls (.ref (a 7) :: rest)) := r_get E I 7 0 0 rfl rfl in0 (by decide) fl0_9 rfl hdg kk
theorem fl0_17 : Cond.fieldLink RX0 17 (TX0 5).1 (TX0 5).2.1 (TX0 5).2.2.1 ∈ TB := tb 94 (by decide +kernel) (by decide +kernel)
theorem g0_17 (E : en p m c cc nL s args RX0 D g) (I : wk D (cW g a st) A H0 H locs) (hdg : decode cc pc = .ok (.getfield 17, 3)) (kk : W p l e R s m args below meth c H locs cells slots Q (F0 m (pc + 3) ls (.ref (a 14) :: rest))) : W p l e R s m args below meth c H locs cells slots Q (F0 m pc ls (.ref (a 7) :: rest)) := r_get E I 7 0 5 rfl rfl in0 (by decide) fl0_17 rfl hdg kk
theorem fl0_20 : Cond.fieldLink RX0 20 (TX0 6).1 (TX0 6).2.1 (TX0 6).2.2.1 ∈ TB := tb 95 (by decide +kernel) (by decide +kernel)
theorem g0_20 (E : en p m c cc nL s args RX0 D g) (I : wk D (cW g a st) A H0 H locs) (hdg : decode cc pc = .ok (.getfield 20, 3)) (kk : W p l e R s m args below meth c H locs cells slots Q (F0 m (pc + 3) ls (.ref (a 15) :: rest))) : W p l e R s m args below meth c H locs cells slots Q (F0 m pc ls (.ref (a 7) :: rest)) := r_get E I 7 0 6 rfl rfl in0 (by decide) fl0_20 rfl hdg kk
theorem fl0_25 : Cond.fieldLink RX0 25 (TX0 7).1 (TX0 7).2.1 (TX0 7).2.2.1 ∈ TB := tb 96 (by decide +kernel) (by decide +kernel)
theorem g0_25 (E : en p m c cc nL s args RX0 D g) (I : wk D (cW g a st) A H0 H locs) (hdg : decode cc pc = .ok (.getfield 25, 3)) (kk : W p l e R s m args below meth c H locs cells slots Q (F0 m (pc + 3) ls (.ref (a 16) :: rest))) : W p l e R s m args below meth c H locs cells slots Q (F0 m pc ls (.ref (a 7) :: rest)) := r_get E I 7 0 7 rfl rfl in0 (by decide) fl0_25 rfl hdg kk
theorem fl0_28 : Cond.fieldLink RX0 28 (TX0 8).1 (TX0 8).2.1 (TX0 8).2.2.1 ∈ TB := tb 97 (by decide +kernel) (by decide +kernel)
theorem g0_28 (E : en p m c cc nL s args RX0 D g) (I : wk D (cW g a st) A H0 H locs) (hdg : decode cc pc = .ok (.getfield 28, 3)) (kk : W p l e R s m args below meth c H locs cells slots Q (F0 m (pc + 3) ls (.ref (a 17) :: rest))) : W p l e R s m args below meth c H locs cells slots Q (F0 m pc ls (.ref (a 7) :: rest)) := r_get E I 7 0 8 rfl rfl in0 (by decide) fl0_28 rfl hdg kk
theorem fl0_31 : Cond.fieldLink RX0 31 (TX0 9).1 (TX0 9).2.1 (TX0 9).2.2.1 ∈ TB := tb 98 (by decide +kernel) (by decide +kernel)
theorem g0_31 (E : en p m c cc nL s args RX0 D g) (I : wk D (cW g a st) A H0 H locs) (hdg : decode cc pc = .ok (.getfield 31, 3)) (kk : W p l e R s m args below meth c H locs cells slots Q (F0 m (pc + 3) ls (.ref (a 18) :: rest))) : W p l e R s m args below meth c H locs cells slots Q (F0 m pc ls (.ref (a 7) :: rest)) := r_get E I 7 0 9 rfl rfl in0 (by decide) fl0_31 rfl hdg kk
theorem fl0_34 : Cond.fieldLink RX0 34 (TX0 10).1 (TX0 10).2.1 (TX0 10).2.2.1 ∈ TB := tb 99 (by decide +kernel) (by decide +kernel)
theorem g0_34 (E : en p m c cc nL s args RX0 D g) (I : wk D (cW g a st) A H0 H locs) (hdg : decode cc pc = .ok (.getfield 34, 3)) (kk : W p l e R s m args below meth c H locs cells slots Q (F0 m (pc + 3) ls (.ref (a 19) :: rest))) : W p l e R s m args below meth c H locs cells slots Q (F0 m pc ls (.ref (a 7) :: rest)) := r_get E I 7 0 10 rfl rfl in0 (by decide) fl0_34 rfl hdg kk
theorem fl0_37 : Cond.fieldLink RX0 37 (TX0 4).1 (TX0 4).2.1 (TX0 4).2.2.1 ∈ TB := tb 93 (by decide +kernel) (by decide +kernel)
theorem g0_37 (E : en p m c cc nL s args RX0 D g) (I : wk D (cW g a st) A H0 H locs) {v : Int32} (hv : c_eprep st = v) (hdg : decode cc pc = .ok (.getfield 37, 3)) (kk : W p l e R s m args below meth c H locs cells slots Q (F0 m (pc + 3) ls (.int v :: rest))) : W p l e R s m args below meth c H locs cells slots Q (F0 m pc ls (.ref (a 7) :: rest)) := by
  subst hv
  exact r_get E I 7 0 4 rfl rfl in0 (by decide) fl0_37 rfl hdg kk
theorem p0_37 (E : en p m c cc nL s args RX0 D g) (I : wk D (cW g a st) A H0 H locs) {v : Int32} (hz : zok v = true) (hdg : decode cc pc = .ok (.putfield 37, 3)) (kk : ∀ (H1 : Heap) (locs1 : List Loc), wk D (cW g a (c_eprep_s st v)) A H0 H1 locs1 → W p l e R s m args below meth c H1 locs1 cells slots Q (F0 m (pc + 3) ls rest)) : W p l e R s m args below meth c H locs cells slots Q (F0 m pc ls (.int v :: .ref (a 7) :: rest)) := r_put (ty := .boolean) E I 7 0 4 rfl rfl rfl in0 tyX0 tyX0_ok nmX0 (by decide) fl0_37 rfl (by decide +kernel) (zok_n hz) (by simp only [zok, Bool.or_eq_true, beq_iff_eq] at hz; rcases hz with rfl | rfl <;> rfl) (Nat.le_of_ble_eq_true rfl) hdg kk
theorem fl0_41 : Cond.fieldLink RX0 41 (TX0 1).1 (TX0 1).2.1 (TX0 1).2.2.1 ∈ TB := tb 90 (by decide +kernel) (by decide +kernel)
theorem g0_41 (E : en p m c cc nL s args RX0 D g) (I : wk D (cW g a st) A H0 H locs) {v : Int32} (hv : c_used st = v) (hdg : decode cc pc = .ok (.getfield 41, 3)) (kk : W p l e R s m args below meth c H locs cells slots Q (F0 m (pc + 3) ls (.int v :: rest))) : W p l e R s m args below meth c H locs cells slots Q (F0 m pc ls (.ref (a 7) :: rest)) := by
  subst hv
  exact r_get E I 7 0 1 rfl rfl in0 (by decide) fl0_41 rfl hdg kk
theorem p0_41 (E : en p m c cc nL s args RX0 D g) (I : wk D (cW g a st) A H0 H locs) {v : Int32} (hdg : decode cc pc = .ok (.putfield 41, 3)) (kk : ∀ (H1 : Heap) (locs1 : List Loc), wk D (cW g a (c_used_s st v)) A H0 H1 locs1 → W p l e R s m args below meth c H1 locs1 cells slots Q (F0 m (pc + 3) ls rest)) : W p l e R s m args below meth c H locs cells slots Q (F0 m pc ls (.int v :: .ref (a 7) :: rest)) := r_put (ty := .int) E I 7 0 1 rfl rfl rfl in0 tyX0 tyX0_ok nmX0 (by decide) fl0_41 rfl (by decide +kernel) rfl rfl (Nat.le_of_ble_eq_true rfl) hdg kk
theorem fl0_45 : Cond.fieldLink RX0 45 (TX0 3).1 (TX0 3).2.1 (TX0 3).2.2.1 ∈ TB := tb 92 (by decide +kernel) (by decide +kernel)
theorem g0_45 (E : en p m c cc nL s args RX0 D g) (I : wk D (cW g a st) A H0 H locs) {v : Int32} (hv : c_canBeEmpty st = v) (hdg : decode cc pc = .ok (.getfield 45, 3)) (kk : W p l e R s m args below meth c H locs cells slots Q (F0 m (pc + 3) ls (.int v :: rest))) : W p l e R s m args below meth c H locs cells slots Q (F0 m pc ls (.ref (a 7) :: rest)) := by
  subst hv
  exact r_get E I 7 0 3 rfl rfl in0 (by decide) fl0_45 rfl hdg kk
theorem p0_45 (E : en p m c cc nL s args RX0 D g) (I : wk D (cW g a st) A H0 H locs) {v : Int32} (hz : zok v = true) (hdg : decode cc pc = .ok (.putfield 45, 3)) (kk : ∀ (H1 : Heap) (locs1 : List Loc), wk D (cW g a (c_canBeEmpty_s st v)) A H0 H1 locs1 → W p l e R s m args below meth c H1 locs1 cells slots Q (F0 m (pc + 3) ls rest)) : W p l e R s m args below meth c H locs cells slots Q (F0 m pc ls (.int v :: .ref (a 7) :: rest)) := r_put (ty := .boolean) E I 7 0 3 rfl rfl rfl in0 tyX0 tyX0_ok nmX0 (by decide) fl0_45 rfl (by decide +kernel) (zok_n hz) (by simp only [zok, Bool.or_eq_true, beq_iff_eq] at hz; rcases hz with rfl | rfl <;> rfl) (Nat.le_of_ble_eq_true rfl) hdg kk
theorem fl0_48 : Cond.fieldLink RX0 48 (TX0 2).1 (TX0 2).2.1 (TX0 2).2.2.1 ∈ TB := tb 91 (by decide +kernel) (by decide +kernel)
theorem g0_48 (E : en p m c cc nL s args RX0 D g) (I : wk D (cW g a st) A H0 H locs) {v : Int32} (hv : c_most st = v) (hdg : decode cc pc = .ok (.getfield 48, 3)) (kk : W p l e R s m args below meth c H locs cells slots Q (F0 m (pc + 3) ls (.int v :: rest))) : W p l e R s m args below meth c H locs cells slots Q (F0 m pc ls (.ref (a 7) :: rest)) := by
  subst hv
  exact r_get E I 7 0 2 rfl rfl in0 (by decide) fl0_48 rfl hdg kk
theorem p0_48 (E : en p m c cc nL s args RX0 D g) (I : wk D (cW g a st) A H0 H locs) {v : Int32} (hdg : decode cc pc = .ok (.putfield 48, 3)) (kk : ∀ (H1 : Heap) (locs1 : List Loc), wk D (cW g a (c_most_s st v)) A H0 H1 locs1 → W p l e R s m args below meth c H1 locs1 cells slots Q (F0 m (pc + 3) ls rest)) : W p l e R s m args below meth c H locs cells slots Q (F0 m pc ls (.int v :: .ref (a 7) :: rest)) := r_put (ty := .int) E I 7 0 2 rfl rfl rfl in0 tyX0 tyX0_ok nmX0 (by decide) fl0_48 rfl (by decide +kernel) rfl rfl (Nat.le_of_ble_eq_true rfl) hdg kk
theorem in2 : ∀ w ∈ u_ws RX2 TX2 6, w ∈ TB := tb_sub inX2 (by decide +kernel)
theorem pl2 : plainName RX2 = true := by decide
theorem fl2_9 : Cond.fieldLink RX2 9 (TX2 0).1 (TX2 0).2.1 (TX2 0).2.2.1 ∈ TB := tb 130 (by decide +kernel) (by decide +kernel)
theorem g2_9 (E : en p m c cc nL s args RX2 D g) (I : wk D (cW g a st) A H0 H locs) (hdg : decode cc pc = .ok (.getfield 9, 3)) (kk : W p l e R s m args below meth c H locs cells slots Q (F0 m (pc + 3) ls (.ref (a 20) :: rest))) : W p l e R s m args below meth c H locs cells slots Q (F0 m pc ls (.ref (a 8) :: rest)) := r_get E I 8 2 0 rfl rfl in2 (by decide) fl2_9 rfl hdg kk
theorem fl2_15 : Cond.fieldLink RX2 15 (TX2 1).1 (TX2 1).2.1 (TX2 1).2.2.1 ∈ TB := tb 131 (by decide +kernel) (by decide +kernel)
theorem g2_15 (E : en p m c cc nL s args RX2 D g) (I : wk D (cW g a st) A H0 H locs) (hdg : decode cc pc = .ok (.getfield 15, 3)) (kk : W p l e R s m args below meth c H locs cells slots Q (F0 m (pc + 3) ls (.ref (a 21) :: rest))) : W p l e R s m args below meth c H locs cells slots Q (F0 m pc ls (.ref (a 8) :: rest)) := r_get E I 8 2 1 rfl rfl in2 (by decide) fl2_15 rfl hdg kk
theorem fl2_18 : Cond.fieldLink RX2 18 (TX2 2).1 (TX2 2).2.1 (TX2 2).2.2.1 ∈ TB := tb 132 (by decide +kernel) (by decide +kernel)
theorem g2_18 (E : en p m c cc nL s args RX2 D g) (I : wk D (cW g a st) A H0 H locs) (hdg : decode cc pc = .ok (.getfield 18, 3)) (kk : W p l e R s m args below meth c H locs cells slots Q (F0 m (pc + 3) ls (.ref (a 22) :: rest))) : W p l e R s m args below meth c H locs cells slots Q (F0 m pc ls (.ref (a 8) :: rest)) := r_get E I 8 2 2 rfl rfl in2 (by decide) fl2_18 rfl hdg kk
theorem fl2_21 : Cond.fieldLink RX2 21 (TX2 5).1 (TX2 5).2.1 (TX2 5).2.2.1 ∈ TB := tb 135 (by decide +kernel) (by decide +kernel)
theorem g2_21 (E : en p m c cc nL s args RX2 D g) (I : wk D (cW g a st) A H0 H locs) (hdg : decode cc pc = .ok (.getfield 21, 3)) (kk : W p l e R s m args below meth c H locs cells slots Q (F0 m (pc + 3) ls (.ref (a 23) :: rest))) : W p l e R s m args below meth c H locs cells slots Q (F0 m pc ls (.ref (a 8) :: rest)) := r_get E I 8 2 5 rfl rfl in2 (by decide) fl2_21 rfl hdg kk
theorem fl2_24 : Cond.fieldLink RX2 24 (TX2 4).1 (TX2 4).2.1 (TX2 4).2.2.1 ∈ TB := tb 134 (by decide +kernel) (by decide +kernel)
theorem g2_24 (E : en p m c cc nL s args RX2 D g) (I : wk D (cW g a st) A H0 H locs) {v : Int32} (hv : c_lprep st = v) (hdg : decode cc pc = .ok (.getfield 24, 3)) (kk : W p l e R s m args below meth c H locs cells slots Q (F0 m (pc + 3) ls (.int v :: rest))) : W p l e R s m args below meth c H locs cells slots Q (F0 m pc ls (.ref (a 8) :: rest)) := by
  subst hv
  exact r_get E I 8 2 4 rfl rfl in2 (by decide) fl2_24 rfl hdg kk
theorem p2_24 (E : en p m c cc nL s args RX2 D g) (I : wk D (cW g a st) A H0 H locs) {v : Int32} (hz : zok v = true) (hdg : decode cc pc = .ok (.putfield 24, 3)) (kk : ∀ (H1 : Heap) (locs1 : List Loc), wk D (cW g a (c_lprep_s st v)) A H0 H1 locs1 → W p l e R s m args below meth c H1 locs1 cells slots Q (F0 m (pc + 3) ls rest)) : W p l e R s m args below meth c H locs cells slots Q (F0 m pc ls (.int v :: .ref (a 8) :: rest)) := r_put (ty := .boolean) E I 8 2 4 rfl rfl rfl in2 tyX2 tyX2_ok nmX2 (by decide) fl2_24 rfl (by decide +kernel) (zok_n hz) (by simp only [zok, Bool.or_eq_true, beq_iff_eq] at hz; rcases hz with rfl | rfl <;> rfl) (Nat.le_of_ble_eq_true rfl) hdg kk
theorem fl2_28 : Cond.fieldLink RX2 28 (TX2 3).1 (TX2 3).2.1 (TX2 3).2.2.1 ∈ TB := tb 133 (by decide +kernel) (by decide +kernel)
theorem g2_28 (E : en p m c cc nL s args RX2 D g) (I : wk D (cW g a st) A H0 H locs) {v : Int32} (hv : c_found st = v) (hdg : decode cc pc = .ok (.getfield 28, 3)) (kk : W p l e R s m args below meth c H locs cells slots Q (F0 m (pc + 3) ls (.int v :: rest))) : W p l e R s m args below meth c H locs cells slots Q (F0 m pc ls (.ref (a 8) :: rest)) := by
  subst hv
  exact r_get E I 8 2 3 rfl rfl in2 (by decide) fl2_28 rfl hdg kk
theorem p2_28 (E : en p m c cc nL s args RX2 D g) (I : wk D (cW g a st) A H0 H locs) {v : Int32} (hdg : decode cc pc = .ok (.putfield 28, 3)) (kk : ∀ (H1 : Heap) (locs1 : List Loc), wk D (cW g a (c_found_s st v)) A H0 H1 locs1 → W p l e R s m args below meth c H1 locs1 cells slots Q (F0 m (pc + 3) ls rest)) : W p l e R s m args below meth c H locs cells slots Q (F0 m pc ls (.int v :: .ref (a 8) :: rest)) := r_put (ty := .int) E I 8 2 3 rfl rfl rfl in2 tyX2 tyX2_ok nmX2 (by decide) fl2_28 rfl (by decide +kernel) rfl rfl (Nat.le_of_ble_eq_true rfl) hdg kk
theorem c_ld1 {own : String} (E : en p m c cc nL s args own D g) (I : wk D (cW g a st) A H0 H locs) {f : Nat → Int32} (hf : c_state st = f) {i : Int32} (hin : ib i 26 = true) (hdg : decode cc pc = .ok (.iaload, 1)) (kk : W p l e R s m args below meth c H locs cells slots Q (F0 m (pc + 1) ls (.int (f i.toNatClampNeg) :: rest))) : W p l e R s m args below meth c H locs cells slots Q (F0 m pc ls (.int i :: .ref (a 1) :: rest)) := by
  subst hf
  exact r_iald E I 1 rfl hin hdg kk
theorem c_st1 {own : String} (E : en p m c cc nL s args own D g) (I : wk D (cW g a st) A H0 H locs) {f : Nat → Int32} (hf : c_state st = f) {i : Int32} {x : Int32} (hin : ib i 26 = true) (hdg : decode cc pc = .ok (.iastore, 1)) (kk : ∀ (H1 : Heap) (locs1 : List Loc), wk D (cW g a (c_state_s st (upd f i.toNatClampNeg x))) A H0 H1 locs1 → W p l e R s m args below meth c H1 locs1 cells slots Q (F0 m (pc + 1) ls rest)) : W p l e R s m args below meth c H locs cells slots Q (F0 m pc ls (.int x :: .int i :: .ref (a 1) :: rest)) := by
  subst hf
  exact r_iast E I 1 rfl rfl hin hdg kk
theorem c_ld2 {own : String} (E : en p m c cc nL s args own D g) (I : wk D (cW g a st) A H0 H locs) {f : Nat → Int32} (hf : c_draft st = f) {i : Int32} (hin : ib i 8 = true) (hdg : decode cc pc = .ok (.iaload, 1)) (kk : W p l e R s m args below meth c H locs cells slots Q (F0 m (pc + 1) ls (.int (f i.toNatClampNeg) :: rest))) : W p l e R s m args below meth c H locs cells slots Q (F0 m pc ls (.int i :: .ref (a 2) :: rest)) := by
  subst hf
  exact r_iald E I 2 rfl hin hdg kk
theorem c_st2 {own : String} (E : en p m c cc nL s args own D g) (I : wk D (cW g a st) A H0 H locs) {f : Nat → Int32} (hf : c_draft st = f) {i : Int32} {x : Int32} (hin : ib i 8 = true) (hdg : decode cc pc = .ok (.iastore, 1)) (kk : ∀ (H1 : Heap) (locs1 : List Loc), wk D (cW g a (c_draft_s st (upd f i.toNatClampNeg x))) A H0 H1 locs1 → W p l e R s m args below meth c H1 locs1 cells slots Q (F0 m (pc + 1) ls rest)) : W p l e R s m args below meth c H locs cells slots Q (F0 m pc ls (.int x :: .int i :: .ref (a 2) :: rest)) := by
  subst hf
  exact r_iast E I 2 rfl rfl hin hdg kk
theorem c_al3 {own : String} (E : en p m c cc nL s args own D g) (I : wk D (cW g a st) A H0 H locs) {i : Int32} (hin : ib i 2 = true) (hdg : decode cc pc = .ok (.aaload, 1)) (kk : W p l e R s m args below meth c H locs cells slots Q (F0 m (pc + 1) ls (.ref (a (9 + i.toNatClampNeg)) :: rest))) : W p l e R s m args below meth c H locs cells slots Q (F0 m pc ls (.int i :: .ref (a 3) :: rest)) := r_aald E I 3 3 rfl rfl hin (if_pos (ib_lt hin)) hdg kk
theorem c_at3 {j : Nat} (hj : j < 2) : (cW g a st)[9 + j]? = some (a (9 + j), .inl (g 0, 24, .inl (c_snaps st j))) := match j, hj with
  | 0, _ => rfl
  | 1, _ => rfl
  | j + 2, h => by omega
theorem c_sa3 {j : Nat} (hj : j < 2) {f : Nat → Int32} : (cW g a st).set (9 + j) (a (9 + j), .inl (g 0, 24, .inl f)) = cW g a (c_snaps_s st (va_up (c_snaps st) j f)) := match j, hj with
  | 0, _ => rfl
  | 1, _ => rfl
  | j + 2, h => by omega
theorem c_ld3 {own : String} (E : en p m c cc nL s args own D g) (I : wk D (cW g a st) A H0 H locs) {f : Nat → Nat → Int32} (hf : c_snaps st = f) {j : Nat} (hj : j < 2) {i : Int32} (hin : ib i 24 = true) (hdg : decode cc pc = .ok (.iaload, 1)) (kk : W p l e R s m args below meth c H locs cells slots Q (F0 m (pc + 1) ls (.int (f j i.toNatClampNeg) :: rest))) : W p l e R s m args below meth c H locs cells slots Q (F0 m pc ls (.int i :: .ref (a (9 + j)) :: rest)) := by
  subst hf
  exact r_iald E I (9 + j) (c_at3 hj) hin hdg kk
theorem c_st3 {own : String} (E : en p m c cc nL s args own D g) (I : wk D (cW g a st) A H0 H locs) {f : Nat → Nat → Int32} (hf : c_snaps st = f) {j : Nat} (hj : j < 2) {i : Int32} {x : Int32} (hin : ib i 24 = true) (hdg : decode cc pc = .ok (.iastore, 1)) (kk : ∀ (H1 : Heap) (locs1 : List Loc), wk D (cW g a (c_snaps_s st (va_up f j (upd (f j) i.toNatClampNeg x)))) A H0 H1 locs1 → W p l e R s m args below meth c H1 locs1 cells slots Q (F0 m (pc + 1) ls rest)) : W p l e R s m args below meth c H locs cells slots Q (F0 m pc ls (.int x :: .int i :: .ref (a (9 + j)) :: rest)) := by
  subst hf
  exact r_iast E I (9 + j) (c_at3 hj) (c_sa3 hj) hin hdg kk
theorem c_ld4 {own : String} (E : en p m c cc nL s args own D g) (I : wk D (cW g a st) A H0 H locs) {f : Nat → Int32} (hf : c_taken st = f) {i : Int32} (hin : ib i 2 = true) (hdg : decode cc pc = .ok (.baload, 1)) (kk : W p l e R s m args below meth c H locs cells slots Q (F0 m (pc + 1) ls (.int (f i.toNatClampNeg) :: rest))) : W p l e R s m args below meth c H locs cells slots Q (F0 m pc ls (.int i :: .ref (a 4) :: rest)) := by
  subst hf
  exact r_zald E I 4 rfl hin hdg kk
theorem c_st4 {own : String} (E : en p m c cc nL s args own D g) (I : wk D (cW g a st) A H0 H locs) {f : Nat → Int32} (hf : c_taken st = f) {i : Int32} {x : Int32} (hin : ib i 2 = true) (hdg : decode cc pc = .ok (.bastore, 1)) (kk : ∀ (H1 : Heap) (locs1 : List Loc), wk D (cW g a (c_taken_s st (upd f i.toNatClampNeg (vp_nar .boolean x)))) A H0 H1 locs1 → W p l e R s m args below meth c H1 locs1 cells slots Q (F0 m (pc + 1) ls rest)) : W p l e R s m args below meth c H locs cells slots Q (F0 m pc ls (.int x :: .int i :: .ref (a 4) :: rest)) := by
  subst hf
  exact r_zast E I 4 rfl rfl hin hdg kk
theorem c_al11 {own : String} (E : en p m c cc nL s args own D g) (I : wk D (cW g a st) A H0 H locs) {i : Int32} (hin : ib i 6 = true) (hdg : decode cc pc = .ok (.aaload, 1)) (kk : W p l e R s m args below meth c H locs cells slots Q (F0 m (pc + 1) ls (.ref (a (24 + i.toNatClampNeg)) :: rest))) : W p l e R s m args below meth c H locs cells slots Q (F0 m pc ls (.int i :: .ref (a 11) :: rest)) := r_aald E I 11 3 rfl rfl hin (if_pos (ib_lt hin)) hdg kk
theorem c_at11 {j : Nat} (hj : j < 6) : (cW g a st)[24 + j]? = some (a (24 + j), .inl (g 0, 26, .inl (c_kept st j))) := match j, hj with
  | 0, _ => rfl
  | 1, _ => rfl
  | 2, _ => rfl
  | 3, _ => rfl
  | 4, _ => rfl
  | 5, _ => rfl
  | j + 6, h => by omega
theorem c_sa11 {j : Nat} (hj : j < 6) {f : Nat → Int32} : (cW g a st).set (24 + j) (a (24 + j), .inl (g 0, 26, .inl f)) = cW g a (c_kept_s st (va_up (c_kept st) j f)) := match j, hj with
  | 0, _ => rfl
  | 1, _ => rfl
  | 2, _ => rfl
  | 3, _ => rfl
  | 4, _ => rfl
  | 5, _ => rfl
  | j + 6, h => by omega
theorem c_ld11 {own : String} (E : en p m c cc nL s args own D g) (I : wk D (cW g a st) A H0 H locs) {f : Nat → Nat → Int32} (hf : c_kept st = f) {j : Nat} (hj : j < 6) {i : Int32} (hin : ib i 26 = true) (hdg : decode cc pc = .ok (.iaload, 1)) (kk : W p l e R s m args below meth c H locs cells slots Q (F0 m (pc + 1) ls (.int (f j i.toNatClampNeg) :: rest))) : W p l e R s m args below meth c H locs cells slots Q (F0 m pc ls (.int i :: .ref (a (24 + j)) :: rest)) := by
  subst hf
  exact r_iald E I (24 + j) (c_at11 hj) hin hdg kk
theorem c_st11 {own : String} (E : en p m c cc nL s args own D g) (I : wk D (cW g a st) A H0 H locs) {f : Nat → Nat → Int32} (hf : c_kept st = f) {j : Nat} (hj : j < 6) {i : Int32} {x : Int32} (hin : ib i 26 = true) (hdg : decode cc pc = .ok (.iastore, 1)) (kk : ∀ (H1 : Heap) (locs1 : List Loc), wk D (cW g a (c_kept_s st (va_up f j (upd (f j) i.toNatClampNeg x)))) A H0 H1 locs1 → W p l e R s m args below meth c H1 locs1 cells slots Q (F0 m (pc + 1) ls rest)) : W p l e R s m args below meth c H locs cells slots Q (F0 m pc ls (.int x :: .int i :: .ref (a (24 + j)) :: rest)) := by
  subst hf
  exact r_iast E I (24 + j) (c_at11 hj) (c_sa11 hj) hin hdg kk
theorem c_ld12 {own : String} (E : en p m c cc nL s args own D g) (I : wk D (cW g a st) A H0 H locs) {f : Nat → Int32} (hf : c_codes st = f) {i : Int32} (hin : ib i 60 = true) (hdg : decode cc pc = .ok (.iaload, 1)) (kk : W p l e R s m args below meth c H locs cells slots Q (F0 m (pc + 1) ls (.int (f i.toNatClampNeg) :: rest))) : W p l e R s m args below meth c H locs cells slots Q (F0 m pc ls (.int i :: .ref (a 12) :: rest)) := by
  subst hf
  exact r_iald E I 12 rfl hin hdg kk
theorem c_st12 {own : String} (E : en p m c cc nL s args own D g) (I : wk D (cW g a st) A H0 H locs) {f : Nat → Int32} (hf : c_codes st = f) {i : Int32} {x : Int32} (hin : ib i 60 = true) (hdg : decode cc pc = .ok (.iastore, 1)) (kk : ∀ (H1 : Heap) (locs1 : List Loc), wk D (cW g a (c_codes_s st (upd f i.toNatClampNeg x))) A H0 H1 locs1 → W p l e R s m args below meth c H1 locs1 cells slots Q (F0 m (pc + 1) ls rest)) : W p l e R s m args below meth c H locs cells slots Q (F0 m pc ls (.int x :: .int i :: .ref (a 12) :: rest)) := by
  subst hf
  exact r_iast E I 12 rfl rfl hin hdg kk
theorem c_ld13 {own : String} (E : en p m c cc nL s args own D g) (I : wk D (cW g a st) A H0 H locs) {f : Nat → Int32} (hf : c_weight st = f) {i : Int32} (hin : ib i 4 = true) (hdg : decode cc pc = .ok (.iaload, 1)) (kk : W p l e R s m args below meth c H locs cells slots Q (F0 m (pc + 1) ls (.int (f i.toNatClampNeg) :: rest))) : W p l e R s m args below meth c H locs cells slots Q (F0 m pc ls (.int i :: .ref (a 13) :: rest)) := by
  subst hf
  exact r_iald E I 13 rfl hin hdg kk
theorem c_st13 {own : String} (E : en p m c cc nL s args own D g) (I : wk D (cW g a st) A H0 H locs) {f : Nat → Int32} (hf : c_weight st = f) {i : Int32} {x : Int32} (hin : ib i 4 = true) (hdg : decode cc pc = .ok (.iastore, 1)) (kk : ∀ (H1 : Heap) (locs1 : List Loc), wk D (cW g a (c_weight_s st (upd f i.toNatClampNeg x))) A H0 H1 locs1 → W p l e R s m args below meth c H1 locs1 cells slots Q (F0 m (pc + 1) ls rest)) : W p l e R s m args below meth c H locs cells slots Q (F0 m pc ls (.int x :: .int i :: .ref (a 13) :: rest)) := by
  subst hf
  exact r_iast E I 13 rfl rfl hin hdg kk
theorem c_al14 {own : String} (E : en p m c cc nL s args own D g) (I : wk D (cW g a st) A H0 H locs) {i : Int32} (hin : ib i 5 = true) (hdg : decode cc pc = .ok (.aaload, 1)) (kk : W p l e R s m args below meth c H locs cells slots Q (F0 m (pc + 1) ls (.ref (a (30 + i.toNatClampNeg)) :: rest))) : W p l e R s m args below meth c H locs cells slots Q (F0 m pc ls (.int i :: .ref (a 14) :: rest)) := r_aald E I 14 3 rfl rfl hin (if_pos (ib_lt hin)) hdg kk
theorem c_at14 {j : Nat} (hj : j < 5) : (cW g a st)[30 + j]? = some (a (30 + j), .inl (g 0, 220, .inl (c_rows st j))) := match j, hj with
  | 0, _ => rfl
  | 1, _ => rfl
  | 2, _ => rfl
  | 3, _ => rfl
  | 4, _ => rfl
  | j + 5, h => by omega
theorem c_sa14 {j : Nat} (hj : j < 5) {f : Nat → Int32} : (cW g a st).set (30 + j) (a (30 + j), .inl (g 0, 220, .inl f)) = cW g a (c_rows_s st (va_up (c_rows st) j f)) := match j, hj with
  | 0, _ => rfl
  | 1, _ => rfl
  | 2, _ => rfl
  | 3, _ => rfl
  | 4, _ => rfl
  | j + 5, h => by omega
theorem c_ld14 {own : String} (E : en p m c cc nL s args own D g) (I : wk D (cW g a st) A H0 H locs) {f : Nat → Nat → Int32} (hf : c_rows st = f) {j : Nat} (hj : j < 5) {i : Int32} (hin : ib i 220 = true) (hdg : decode cc pc = .ok (.iaload, 1)) (kk : W p l e R s m args below meth c H locs cells slots Q (F0 m (pc + 1) ls (.int (f j i.toNatClampNeg) :: rest))) : W p l e R s m args below meth c H locs cells slots Q (F0 m pc ls (.int i :: .ref (a (30 + j)) :: rest)) := by
  subst hf
  exact r_iald E I (30 + j) (c_at14 hj) hin hdg kk
theorem c_st14 {own : String} (E : en p m c cc nL s args own D g) (I : wk D (cW g a st) A H0 H locs) {f : Nat → Nat → Int32} (hf : c_rows st = f) {j : Nat} (hj : j < 5) {i : Int32} {x : Int32} (hin : ib i 220 = true) (hdg : decode cc pc = .ok (.iastore, 1)) (kk : ∀ (H1 : Heap) (locs1 : List Loc), wk D (cW g a (c_rows_s st (va_up f j (upd (f j) i.toNatClampNeg x)))) A H0 H1 locs1 → W p l e R s m args below meth c H1 locs1 cells slots Q (F0 m (pc + 1) ls rest)) : W p l e R s m args below meth c H locs cells slots Q (F0 m pc ls (.int x :: .int i :: .ref (a (30 + j)) :: rest)) := by
  subst hf
  exact r_iast E I (30 + j) (c_at14 hj) (c_sa14 hj) hin hdg kk
theorem c_ld15 {own : String} (E : en p m c cc nL s args own D g) (I : wk D (cW g a st) A H0 H locs) {f : Nat → Int32} (hf : c_size st = f) {i : Int32} (hin : ib i 5 = true) (hdg : decode cc pc = .ok (.iaload, 1)) (kk : W p l e R s m args below meth c H locs cells slots Q (F0 m (pc + 1) ls (.int (f i.toNatClampNeg) :: rest))) : W p l e R s m args below meth c H locs cells slots Q (F0 m pc ls (.int i :: .ref (a 15) :: rest)) := by
  subst hf
  exact r_iald E I 15 rfl hin hdg kk
theorem c_st15 {own : String} (E : en p m c cc nL s args own D g) (I : wk D (cW g a st) A H0 H locs) {f : Nat → Int32} (hf : c_size st = f) {i : Int32} {x : Int32} (hin : ib i 5 = true) (hdg : decode cc pc = .ok (.iastore, 1)) (kk : ∀ (H1 : Heap) (locs1 : List Loc), wk D (cW g a (c_size_s st (upd f i.toNatClampNeg x))) A H0 H1 locs1 → W p l e R s m args below meth c H1 locs1 cells slots Q (F0 m (pc + 1) ls rest)) : W p l e R s m args below meth c H locs cells slots Q (F0 m pc ls (.int x :: .int i :: .ref (a 15) :: rest)) := by
  subst hf
  exact r_iast E I 15 rfl rfl hin hdg kk
theorem c_al16 {own : String} (E : en p m c cc nL s args own D g) (I : wk D (cW g a st) A H0 H locs) {i : Int32} (hin : ib i 5 = true) (hdg : decode cc pc = .ok (.aaload, 1)) (kk : W p l e R s m args below meth c H locs cells slots Q (F0 m (pc + 1) ls (.ref (a (35 + i.toNatClampNeg)) :: rest))) : W p l e R s m args below meth c H locs cells slots Q (F0 m pc ls (.int i :: .ref (a 16) :: rest)) := r_aald E I 16 4 rfl rfl hin (if_pos (ib_lt hin)) hdg kk
theorem c_at16 {j : Nat} (hj : j < 5) : (cW g a st)[35 + j]? = some (a (35 + j), .inl (g 1, 16, .inr (.inl (c_exactly st j)))) := match j, hj with
  | 0, _ => rfl
  | 1, _ => rfl
  | 2, _ => rfl
  | 3, _ => rfl
  | 4, _ => rfl
  | j + 5, h => by omega
theorem c_sa16 {j : Nat} (hj : j < 5) {f : Nat → Int64} : (cW g a st).set (35 + j) (a (35 + j), .inl (g 1, 16, .inr (.inl f))) = cW g a (c_exactly_s st (va_up (c_exactly st) j f)) := match j, hj with
  | 0, _ => rfl
  | 1, _ => rfl
  | 2, _ => rfl
  | 3, _ => rfl
  | 4, _ => rfl
  | j + 5, h => by omega
theorem c_ld16 {own : String} (E : en p m c cc nL s args own D g) (I : wk D (cW g a st) A H0 H locs) {f : Nat → Nat → Int64} (hf : c_exactly st = f) {j : Nat} (hj : j < 5) {i : Int32} (hin : ib i 16 = true) (hdg : decode cc pc = .ok (.laload, 1)) (kk : W p l e R s m args below meth c H locs cells slots Q (F0 m (pc + 1) ls (.long (f j i.toNatClampNeg) :: rest))) : W p l e R s m args below meth c H locs cells slots Q (F0 m pc ls (.int i :: .ref (a (35 + j)) :: rest)) := by
  subst hf
  exact r_lald E I (35 + j) (c_at16 hj) hin hdg kk
theorem c_st16 {own : String} (E : en p m c cc nL s args own D g) (I : wk D (cW g a st) A H0 H locs) {f : Nat → Nat → Int64} (hf : c_exactly st = f) {j : Nat} (hj : j < 5) {i : Int32} {x : Int64} (hin : ib i 16 = true) (hdg : decode cc pc = .ok (.lastore, 1)) (kk : ∀ (H1 : Heap) (locs1 : List Loc), wk D (cW g a (c_exactly_s st (va_up f j (vp_updL (f j) i.toNatClampNeg x)))) A H0 H1 locs1 → W p l e R s m args below meth c H1 locs1 cells slots Q (F0 m (pc + 1) ls rest)) : W p l e R s m args below meth c H locs cells slots Q (F0 m pc ls (.long x :: .int i :: .ref (a (35 + j)) :: rest)) := by
  subst hf
  exact r_last E I (35 + j) (c_at16 hj) (c_sa16 hj) hin hdg kk
theorem c_al17 {own : String} (E : en p m c cc nL s args own D g) (I : wk D (cW g a st) A H0 H locs) {i : Int32} (hin : ib i 5 = true) (hdg : decode cc pc = .ok (.aaload, 1)) (kk : W p l e R s m args below meth c H locs cells slots Q (F0 m (pc + 1) ls (.ref (a (40 + i.toNatClampNeg)) :: rest))) : W p l e R s m args below meth c H locs cells slots Q (F0 m pc ls (.int i :: .ref (a 17) :: rest)) := r_aald E I 17 4 rfl rfl hin (if_pos (ib_lt hin)) hdg kk
theorem c_at17 {j : Nat} (hj : j < 5) : (cW g a st)[40 + j]? = some (a (40 + j), .inl (g 1, 16, .inr (.inl (c_within st j)))) := match j, hj with
  | 0, _ => rfl
  | 1, _ => rfl
  | 2, _ => rfl
  | 3, _ => rfl
  | 4, _ => rfl
  | j + 5, h => by omega
theorem c_sa17 {j : Nat} (hj : j < 5) {f : Nat → Int64} : (cW g a st).set (40 + j) (a (40 + j), .inl (g 1, 16, .inr (.inl f))) = cW g a (c_within_s st (va_up (c_within st) j f)) := match j, hj with
  | 0, _ => rfl
  | 1, _ => rfl
  | 2, _ => rfl
  | 3, _ => rfl
  | 4, _ => rfl
  | j + 5, h => by omega
theorem c_ld17 {own : String} (E : en p m c cc nL s args own D g) (I : wk D (cW g a st) A H0 H locs) {f : Nat → Nat → Int64} (hf : c_within st = f) {j : Nat} (hj : j < 5) {i : Int32} (hin : ib i 16 = true) (hdg : decode cc pc = .ok (.laload, 1)) (kk : W p l e R s m args below meth c H locs cells slots Q (F0 m (pc + 1) ls (.long (f j i.toNatClampNeg) :: rest))) : W p l e R s m args below meth c H locs cells slots Q (F0 m pc ls (.int i :: .ref (a (40 + j)) :: rest)) := by
  subst hf
  exact r_lald E I (40 + j) (c_at17 hj) hin hdg kk
theorem c_st17 {own : String} (E : en p m c cc nL s args own D g) (I : wk D (cW g a st) A H0 H locs) {f : Nat → Nat → Int64} (hf : c_within st = f) {j : Nat} (hj : j < 5) {i : Int32} {x : Int64} (hin : ib i 16 = true) (hdg : decode cc pc = .ok (.lastore, 1)) (kk : ∀ (H1 : Heap) (locs1 : List Loc), wk D (cW g a (c_within_s st (va_up f j (vp_updL (f j) i.toNatClampNeg x)))) A H0 H1 locs1 → W p l e R s m args below meth c H1 locs1 cells slots Q (F0 m (pc + 1) ls rest)) : W p l e R s m args below meth c H locs cells slots Q (F0 m pc ls (.long x :: .int i :: .ref (a (40 + j)) :: rest)) := by
  subst hf
  exact r_last E I (40 + j) (c_at17 hj) (c_sa17 hj) hin hdg kk
theorem c_al18 {own : String} (E : en p m c cc nL s args own D g) (I : wk D (cW g a st) A H0 H locs) {i : Int32} (hin : ib i 5 = true) (hdg : decode cc pc = .ok (.aaload, 1)) (kk : W p l e R s m args below meth c H locs cells slots Q (F0 m (pc + 1) ls (.ref (a (45 + i.toNatClampNeg)) :: rest))) : W p l e R s m args below meth c H locs cells slots Q (F0 m pc ls (.int i :: .ref (a 18) :: rest)) := r_aald E I 18 4 rfl rfl hin (if_pos (ib_lt hin)) hdg kk
theorem c_at18 {j : Nat} (hj : j < 5) : (cW g a st)[45 + j]? = some (a (45 + j), .inl (g 1, 16, .inr (.inl (c_eways st j)))) := match j, hj with
  | 0, _ => rfl
  | 1, _ => rfl
  | 2, _ => rfl
  | 3, _ => rfl
  | 4, _ => rfl
  | j + 5, h => by omega
theorem c_sa18 {j : Nat} (hj : j < 5) {f : Nat → Int64} : (cW g a st).set (45 + j) (a (45 + j), .inl (g 1, 16, .inr (.inl f))) = cW g a (c_eways_s st (va_up (c_eways st) j f)) := match j, hj with
  | 0, _ => rfl
  | 1, _ => rfl
  | 2, _ => rfl
  | 3, _ => rfl
  | 4, _ => rfl
  | j + 5, h => by omega
theorem c_ld18 {own : String} (E : en p m c cc nL s args own D g) (I : wk D (cW g a st) A H0 H locs) {f : Nat → Nat → Int64} (hf : c_eways st = f) {j : Nat} (hj : j < 5) {i : Int32} (hin : ib i 16 = true) (hdg : decode cc pc = .ok (.laload, 1)) (kk : W p l e R s m args below meth c H locs cells slots Q (F0 m (pc + 1) ls (.long (f j i.toNatClampNeg) :: rest))) : W p l e R s m args below meth c H locs cells slots Q (F0 m pc ls (.int i :: .ref (a (45 + j)) :: rest)) := by
  subst hf
  exact r_lald E I (45 + j) (c_at18 hj) hin hdg kk
theorem c_st18 {own : String} (E : en p m c cc nL s args own D g) (I : wk D (cW g a st) A H0 H locs) {f : Nat → Nat → Int64} (hf : c_eways st = f) {j : Nat} (hj : j < 5) {i : Int32} {x : Int64} (hin : ib i 16 = true) (hdg : decode cc pc = .ok (.lastore, 1)) (kk : ∀ (H1 : Heap) (locs1 : List Loc), wk D (cW g a (c_eways_s st (va_up f j (vp_updL (f j) i.toNatClampNeg x)))) A H0 H1 locs1 → W p l e R s m args below meth c H1 locs1 cells slots Q (F0 m (pc + 1) ls rest)) : W p l e R s m args below meth c H locs cells slots Q (F0 m pc ls (.long x :: .int i :: .ref (a (45 + j)) :: rest)) := by
  subst hf
  exact r_last E I (45 + j) (c_at18 hj) (c_sa18 hj) hin hdg kk
theorem c_ld19 {own : String} (E : en p m c cc nL s args own D g) (I : wk D (cW g a st) A H0 H locs) {f : Nat → Int32} (hf : c_choice st = f) {i : Int32} (hin : ib i 4 = true) (hdg : decode cc pc = .ok (.iaload, 1)) (kk : W p l e R s m args below meth c H locs cells slots Q (F0 m (pc + 1) ls (.int (f i.toNatClampNeg) :: rest))) : W p l e R s m args below meth c H locs cells slots Q (F0 m pc ls (.int i :: .ref (a 19) :: rest)) := by
  subst hf
  exact r_iald E I 19 rfl hin hdg kk
theorem c_st19 {own : String} (E : en p m c cc nL s args own D g) (I : wk D (cW g a st) A H0 H locs) {f : Nat → Int32} (hf : c_choice st = f) {i : Int32} {x : Int32} (hin : ib i 4 = true) (hdg : decode cc pc = .ok (.iastore, 1)) (kk : ∀ (H1 : Heap) (locs1 : List Loc), wk D (cW g a (c_choice_s st (upd f i.toNatClampNeg x))) A H0 H1 locs1 → W p l e R s m args below meth c H1 locs1 cells slots Q (F0 m (pc + 1) ls rest)) : W p l e R s m args below meth c H locs cells slots Q (F0 m pc ls (.int x :: .int i :: .ref (a 19) :: rest)) := by
  subst hf
  exact r_iast E I 19 rfl rfl hin hdg kk
theorem c_ld20 {own : String} (E : en p m c cc nL s args own D g) (I : wk D (cW g a st) A H0 H locs) {f : Nat → Int32} (hf : c_difference st = f) {i : Int32} (hin : ib i 4 = true) (hdg : decode cc pc = .ok (.iaload, 1)) (kk : W p l e R s m args below meth c H locs cells slots Q (F0 m (pc + 1) ls (.int (f i.toNatClampNeg) :: rest))) : W p l e R s m args below meth c H locs cells slots Q (F0 m pc ls (.int i :: .ref (a 20) :: rest)) := by
  subst hf
  exact r_iald E I 20 rfl hin hdg kk
theorem c_st20 {own : String} (E : en p m c cc nL s args own D g) (I : wk D (cW g a st) A H0 H locs) {f : Nat → Int32} (hf : c_difference st = f) {i : Int32} {x : Int32} (hin : ib i 4 = true) (hdg : decode cc pc = .ok (.iastore, 1)) (kk : ∀ (H1 : Heap) (locs1 : List Loc), wk D (cW g a (c_difference_s st (upd f i.toNatClampNeg x))) A H0 H1 locs1 → W p l e R s m args below meth c H1 locs1 cells slots Q (F0 m (pc + 1) ls rest)) : W p l e R s m args below meth c H locs cells slots Q (F0 m pc ls (.int x :: .int i :: .ref (a 20) :: rest)) := by
  subst hf
  exact r_iast E I 20 rfl rfl hin hdg kk
theorem c_ld21 {own : String} (E : en p m c cc nL s args own D g) (I : wk D (cW g a st) A H0 H locs) {f : Nat → Int32} (hf : c_row st = f) {i : Int32} (hin : ib i 4 = true) (hdg : decode cc pc = .ok (.iaload, 1)) (kk : W p l e R s m args below meth c H locs cells slots Q (F0 m (pc + 1) ls (.int (f i.toNatClampNeg) :: rest))) : W p l e R s m args below meth c H locs cells slots Q (F0 m pc ls (.int i :: .ref (a 21) :: rest)) := by
  subst hf
  exact r_iald E I 21 rfl hin hdg kk
theorem c_st21 {own : String} (E : en p m c cc nL s args own D g) (I : wk D (cW g a st) A H0 H locs) {f : Nat → Int32} (hf : c_row st = f) {i : Int32} {x : Int32} (hin : ib i 4 = true) (hdg : decode cc pc = .ok (.iastore, 1)) (kk : ∀ (H1 : Heap) (locs1 : List Loc), wk D (cW g a (c_row_s st (upd f i.toNatClampNeg x))) A H0 H1 locs1 → W p l e R s m args below meth c H1 locs1 cells slots Q (F0 m (pc + 1) ls rest)) : W p l e R s m args below meth c H locs cells slots Q (F0 m pc ls (.int x :: .int i :: .ref (a 21) :: rest)) := by
  subst hf
  exact r_iast E I 21 rfl rfl hin hdg kk
theorem c_ld22 {own : String} (E : en p m c cc nL s args own D g) (I : wk D (cW g a st) A H0 H locs) {f : Nat → Int32} (hf : c_numbers st = f) {i : Int32} (hin : ib i 120 = true) (hdg : decode cc pc = .ok (.iaload, 1)) (kk : W p l e R s m args below meth c H locs cells slots Q (F0 m (pc + 1) ls (.int (f i.toNatClampNeg) :: rest))) : W p l e R s m args below meth c H locs cells slots Q (F0 m pc ls (.int i :: .ref (a 22) :: rest)) := by
  subst hf
  exact r_iald E I 22 rfl hin hdg kk
theorem c_st22 {own : String} (E : en p m c cc nL s args own D g) (I : wk D (cW g a st) A H0 H locs) {f : Nat → Int32} (hf : c_numbers st = f) {i : Int32} {x : Int32} (hin : ib i 120 = true) (hdg : decode cc pc = .ok (.iastore, 1)) (kk : ∀ (H1 : Heap) (locs1 : List Loc), wk D (cW g a (c_numbers_s st (upd f i.toNatClampNeg x))) A H0 H1 locs1 → W p l e R s m args below meth c H1 locs1 cells slots Q (F0 m (pc + 1) ls rest)) : W p l e R s m args below meth c H locs cells slots Q (F0 m pc ls (.int x :: .int i :: .ref (a 22) :: rest)) := by
  subst hf
  exact r_iast E I 22 rfl rfl hin hdg kk
theorem c_ld23 {own : String} (E : en p m c cc nL s args own D g) (I : wk D (cW g a st) A H0 H locs) {f : Nat → Int32} (hf : c_lways st = f) {i : Int32} (hin : ib i 2401 = true) (hdg : decode cc pc = .ok (.iaload, 1)) (kk : W p l e R s m args below meth c H locs cells slots Q (F0 m (pc + 1) ls (.int (f i.toNatClampNeg) :: rest))) : W p l e R s m args below meth c H locs cells slots Q (F0 m pc ls (.int i :: .ref (a 23) :: rest)) := by
  subst hf
  exact r_iald E I 23 rfl hin hdg kk
theorem c_st23 {own : String} (E : en p m c cc nL s args own D g) (I : wk D (cW g a st) A H0 H locs) {f : Nat → Int32} (hf : c_lways st = f) {i : Int32} {x : Int32} (hin : ib i 2401 = true) (hdg : decode cc pc = .ok (.iastore, 1)) (kk : ∀ (H1 : Heap) (locs1 : List Loc), wk D (cW g a (c_lways_s st (upd f i.toNatClampNeg x))) A H0 H1 locs1 → W p l e R s m args below meth c H1 locs1 cells slots Q (F0 m (pc + 1) ls rest)) : W p l e R s m args below meth c H locs cells slots Q (F0 m pc ls (.int x :: .int i :: .ref (a 23) :: rest)) := by
  subst hf
  exact r_iast E I 23 rfl rfl hin hdg kk
end RWcW
end
section
theorem k0_51 : cfV RX0 51 yX0_solve cX0_solve 8 none 2 := ⟨⟨tb 375 (by decide +kernel) (by decide +kernel), tb 28 (by decide +kernel) (by decide +kernel), tb 378 (by decide +kernel) (by decide +kernel), by decide +kernel⟩, tb 377 (by decide +kernel) (by decide +kernel), tb 8 (by decide +kernel) (by decide +kernel)⟩
theorem k0_55 : cfV RX0 55 yX0_fillWays cX0_fillWays 3 none 0 := ⟨⟨tb 397 (by decide +kernel) (by decide +kernel), tb 28 (by decide +kernel) (by decide +kernel), tb 400 (by decide +kernel) (by decide +kernel), by decide +kernel⟩, tb 399 (by decide +kernel) (by decide +kernel), tb 12 (by decide +kernel) (by decide +kernel)⟩
theorem k0_58 : cfV RX0 58 yX0_bySetsWith cX0_bySetsWith 10 (some .long) 2 := ⟨⟨tb 423 (by decide +kernel) (by decide +kernel), tb 28 (by decide +kernel) (by decide +kernel), tb 426 (by decide +kernel) (by decide +kernel), by decide +kernel⟩, tb 425 (by decide +kernel) (by decide +kernel), tb 14 (by decide +kernel) (by decide +kernel)⟩
theorem k0_62 : cfS RX0 62 yX0_setOf cX0_setOf 3 (some .int) 1 := ⟨⟨tb 387 (by decide +kernel) (by decide +kernel), tb 28 (by decide +kernel) (by decide +kernel), tb 389 (by decide +kernel) (by decide +kernel), by decide +kernel⟩, tb 388 (by decide +kernel) (by decide +kernel)⟩
theorem k0_66 : cfS RX0 66 yX0_numberIn cX0_numberIn 2 (some .int) 2 := ⟨⟨tb 390 (by decide +kernel) (by decide +kernel), tb 28 (by decide +kernel) (by decide +kernel), tb 392 (by decide +kernel) (by decide +kernel), by decide +kernel⟩, tb 391 (by decide +kernel) (by decide +kernel)⟩
theorem k0_70 : cfV RX0 70 yX0_top cX0_top 2 (some .int) 1 := ⟨⟨tb 379 (by decide +kernel) (by decide +kernel), tb 28 (by decide +kernel) (by decide +kernel), tb 382 (by decide +kernel) (by decide +kernel), by decide +kernel⟩, tb 381 (by decide +kernel) (by decide +kernel), tb 9 (by decide +kernel) (by decide +kernel)⟩
theorem k0_73 : cfV RX0 73 yX0_solveLast cX0_solveLast 6 none 3 := ⟨⟨tb 383 (by decide +kernel) (by decide +kernel), tb 28 (by decide +kernel) (by decide +kernel), tb 386 (by decide +kernel) (by decide +kernel), by decide +kernel⟩, tb 385 (by decide +kernel) (by decide +kernel), tb 10 (by decide +kernel) (by decide +kernel)⟩
theorem k0_77 : cfV RX0 77 yX0_fillWithin cX0_fillWithin 4 none 1 := ⟨⟨tb 393 (by decide +kernel) (by decide +kernel), tb 28 (by decide +kernel) (by decide +kernel), tb 396 (by decide +kernel) (by decide +kernel), by decide +kernel⟩, tb 395 (by decide +kernel) (by decide +kernel), tb 11 (by decide +kernel) (by decide +kernel)⟩
theorem k0_81 : cfV RX0 81 yX0_waysFrom cX0_waysFrom 6 (some .long) 2 := ⟨⟨tb 401 (by decide +kernel) (by decide +kernel), tb 28 (by decide +kernel) (by decide +kernel), tb 404 (by decide +kernel) (by decide +kernel), by decide +kernel⟩, tb 403 (by decide +kernel) (by decide +kernel), tb 13 (by decide +kernel) (by decide +kernel)⟩
theorem k0_84 : cfS RX0 84 yJ6_bitCount_0f7a4 cJ6_bitCount_0f7a4 1 (some .int) 1 := ⟨⟨tb 427 (by decide +kernel) (by decide +kernel), tb 38 (by decide +kernel) (by decide +kernel), tb 429 (by decide +kernel) (by decide +kernel), by decide +kernel⟩, tb 428 (by decide +kernel) (by decide +kernel)⟩
theorem k2_32 : cfV RX2 32 yX2_look cX2_look 6 none 4 := ⟨⟨tb 445 (by decide +kernel) (by decide +kernel), tb 29 (by decide +kernel) (by decide +kernel), tb 448 (by decide +kernel) (by decide +kernel), by decide +kernel⟩, tb 447 (by decide +kernel) (by decide +kernel), tb 15 (by decide +kernel) (by decide +kernel)⟩
theorem k2_36 : cfV RX2 36 yX2_number cX2_number 3 (some .int) 2 := ⟨⟨tb 461 (by decide +kernel) (by decide +kernel), tb 29 (by decide +kernel) (by decide +kernel), tb 464 (by decide +kernel) (by decide +kernel), by decide +kernel⟩, tb 462 (by decide +kernel) (by decide +kernel), tb 463 (by decide +kernel) (by decide +kernel)⟩
theorem k2_45 : cfV RX2 45 yX2_solves cX2_solves 5 (some .boolean) 4 := ⟨⟨tb 449 (by decide +kernel) (by decide +kernel), tb 29 (by decide +kernel) (by decide +kernel), tb 452 (by decide +kernel) (by decide +kernel), by decide +kernel⟩, tb 451 (by decide +kernel) (by decide +kernel), tb 16 (by decide +kernel) (by decide +kernel)⟩
theorem k2_49 : cfV RX2 49 yX2_setRow cX2_setRow 5 none 4 := ⟨⟨tb 453 (by decide +kernel) (by decide +kernel), tb 29 (by decide +kernel) (by decide +kernel), tb 456 (by decide +kernel) (by decide +kernel), by decide +kernel⟩, tb 455 (by decide +kernel) (by decide +kernel), tb 17 (by decide +kernel) (by decide +kernel)⟩
theorem k2_52 : cfV RX2 52 yX2_isAtMostRow cX2_isAtMostRow 3 (some .boolean) 1 := ⟨⟨tb 457 (by decide +kernel) (by decide +kernel), tb 29 (by decide +kernel) (by decide +kernel), tb 460 (by decide +kernel) (by decide +kernel), by decide +kernel⟩, tb 459 (by decide +kernel) (by decide +kernel), tb 18 (by decide +kernel) (by decide +kernel)⟩
theorem k4_136 : cfV RX4 136 yX1_size cX1_size 1 (some .int) 0 := ⟨⟨tb 497 (by decide +kernel) (by decide +kernel), tb 26 (by decide +kernel) (by decide +kernel), tb 500 (by decide +kernel) (by decide +kernel), by decide +kernel⟩, tb 498 (by decide +kernel) (by decide +kernel), tb 499 (by decide +kernel) (by decide +kernel)⟩
theorem k4_142 : cfV RX4 142 yX4_forgetTables cX4_forgetTables 1 none 0 := ⟨⟨tb 293 (by decide +kernel) (by decide +kernel), tb 25 (by decide +kernel) (by decide +kernel), tb 296 (by decide +kernel) (by decide +kernel), by decide +kernel⟩, tb 295 (by decide +kernel) (by decide +kernel), tb 3 (by decide +kernel) (by decide +kernel)⟩
theorem k4_145 : cfV RX4 145 yX4_restOf cX4_restOf 2 (some .int) 1 := ⟨⟨tb 363 (by decide +kernel) (by decide +kernel), tb 25 (by decide +kernel) (by decide +kernel), tb 366 (by decide +kernel) (by decide +kernel), by decide +kernel⟩, tb 365 (by decide +kernel) (by decide +kernel), tb 7 (by decide +kernel) (by decide +kernel)⟩
theorem k4_148 : cfV RX4 148 yX0_prepare cX0_prepare 3 none 1 := ⟨⟨tb 371 (by decide +kernel) (by decide +kernel), tb 28 (by decide +kernel) (by decide +kernel), tb 374 (by decide +kernel) (by decide +kernel), by decide +kernel⟩, tb 372 (by decide +kernel) (by decide +kernel), tb 373 (by decide +kernel) (by decide +kernel)⟩
theorem k4_151 : cfV RX4 151 yX0_solutionsOf cX0_solutionsOf 2 (some .int) 1 := ⟨⟨tb 405 (by decide +kernel) (by decide +kernel), tb 28 (by decide +kernel) (by decide +kernel), tb 408 (by decide +kernel) (by decide +kernel), by decide +kernel⟩, tb 406 (by decide +kernel) (by decide +kernel), tb 407 (by decide +kernel) (by decide +kernel)⟩
theorem k4_154 : cfV RX4 154 yX0_bySets cX0_bySets 1 (some .long) 0 := ⟨⟨tb 419 (by decide +kernel) (by decide +kernel), tb 28 (by decide +kernel) (by decide +kernel), tb 422 (by decide +kernel) (by decide +kernel), by decide +kernel⟩, tb 420 (by decide +kernel) (by decide +kernel), tb 421 (by decide +kernel) (by decide +kernel)⟩
theorem k4_158 : cfV RX4 158 yX0_byConstants cX0_byConstants 1 (some .long) 0 := ⟨⟨tb 433 (by decide +kernel) (by decide +kernel), tb 28 (by decide +kernel) (by decide +kernel), tb 436 (by decide +kernel) (by decide +kernel), by decide +kernel⟩, tb 434 (by decide +kernel) (by decide +kernel), tb 435 (by decide +kernel) (by decide +kernel)⟩
theorem k4_166 : cfV RX4 166 yX2_prepare cX2_prepare 6 none 1 := ⟨⟨tb 441 (by decide +kernel) (by decide +kernel), tb 29 (by decide +kernel) (by decide +kernel), tb 444 (by decide +kernel) (by decide +kernel), by decide +kernel⟩, tb 442 (by decide +kernel) (by decide +kernel), tb 443 (by decide +kernel) (by decide +kernel)⟩
theorem k4_167 : cfV RX4 167 yX2_number cX2_number 3 (some .int) 2 := ⟨⟨tb 509 (by decide +kernel) (by decide +kernel), tb 29 (by decide +kernel) (by decide +kernel), tb 464 (by decide +kernel) (by decide +kernel), by decide +kernel⟩, tb 462 (by decide +kernel) (by decide +kernel), tb 463 (by decide +kernel) (by decide +kernel)⟩
theorem k4_174 : cfV RX4 174 yX4_factorsOf cX4_factorsOf 4 (some .int) 1 := ⟨⟨tb 348 (by decide +kernel) (by decide +kernel), tb 25 (by decide +kernel) (by decide +kernel), tb 351 (by decide +kernel) (by decide +kernel), by decide +kernel⟩, tb 350 (by decide +kernel) (by decide +kernel), tb 6 (by decide +kernel) (by decide +kernel)⟩
theorem k4_177 : cfV RX4 177 yX4_unlikeVariables cX4_unlikeVariables 3 (some .int) 0 := ⟨⟨tb 466 (by decide +kernel) (by decide +kernel), tb 25 (by decide +kernel) (by decide +kernel), tb 469 (by decide +kernel) (by decide +kernel), by decide +kernel⟩, tb 468 (by decide +kernel) (by decide +kernel), tb 19 (by decide +kernel) (by decide +kernel)⟩
theorem k4_180 : cfV RX4 180 yX2_size cX2_size 1 (some .int) 0 := ⟨⟨tb 474 (by decide +kernel) (by decide +kernel), tb 29 (by decide +kernel) (by decide +kernel), tb 477 (by decide +kernel) (by decide +kernel), by decide +kernel⟩, tb 475 (by decide +kernel) (by decide +kernel), tb 476 (by decide +kernel) (by decide +kernel)⟩
theorem k4_181 : cfV RX4 181 yX2_greatestSum cX2_greatestSum 4 (some .int) 0 := ⟨⟨tb 478 (by decide +kernel) (by decide +kernel), tb 29 (by decide +kernel) (by decide +kernel), tb 481 (by decide +kernel) (by decide +kernel), by decide +kernel⟩, tb 479 (by decide +kernel) (by decide +kernel), tb 480 (by decide +kernel) (by decide +kernel)⟩
theorem k4_184 : cfV RX4 184 yX4_restsBelowZero cX4_restsBelowZero 3 (some .int) 0 := ⟨⟨tb 485 (by decide +kernel) (by decide +kernel), tb 25 (by decide +kernel) (by decide +kernel), tb 488 (by decide +kernel) (by decide +kernel), by decide +kernel⟩, tb 487 (by decide +kernel) (by decide +kernel), tb 21 (by decide +kernel) (by decide +kernel)⟩
theorem k4_187 : cfV RX4 187 yX4_patternsAreSame cX4_patternsAreSame 2 (some .boolean) 0 := ⟨⟨tb 489 (by decide +kernel) (by decide +kernel), tb 25 (by decide +kernel) (by decide +kernel), tb 492 (by decide +kernel) (by decide +kernel), by decide +kernel⟩, tb 491 (by decide +kernel) (by decide +kernel), tb 22 (by decide +kernel) (by decide +kernel)⟩
theorem k4_190 : cfV RX4 190 yX4_commonFactors cX4_commonFactors 4 (some .int) 0 := ⟨⟨tb 493 (by decide +kernel) (by decide +kernel), tb 25 (by decide +kernel) (by decide +kernel), tb 496 (by decide +kernel) (by decide +kernel), by decide +kernel⟩, tb 495 (by decide +kernel) (by decide +kernel), tb 23 (by decide +kernel) (by decide +kernel)⟩
theorem k4_197 : cfV RX4 197 yX4_hasVariable cX4_hasVariable 3 (some .boolean) 2 := ⟨⟨tb 470 (by decide +kernel) (by decide +kernel), tb 25 (by decide +kernel) (by decide +kernel), tb 473 (by decide +kernel) (by decide +kernel), by decide +kernel⟩, tb 472 (by decide +kernel) (by decide +kernel), tb 20 (by decide +kernel) (by decide +kernel)⟩
theorem k4_267 : cfV RX4 267 yX0_forget cX0_forget 1 none 0 := ⟨⟨tb 297 (by decide +kernel) (by decide +kernel), tb 28 (by decide +kernel) (by decide +kernel), tb 300 (by decide +kernel) (by decide +kernel), by decide +kernel⟩, tb 298 (by decide +kernel) (by decide +kernel), tb 299 (by decide +kernel) (by decide +kernel)⟩
theorem k4_270 : cfV RX4 270 yX2_forget cX2_forget 1 none 0 := ⟨⟨tb 301 (by decide +kernel) (by decide +kernel), tb 29 (by decide +kernel) (by decide +kernel), tb 304 (by decide +kernel) (by decide +kernel), by decide +kernel⟩, tb 302 (by decide +kernel) (by decide +kernel), tb 303 (by decide +kernel) (by decide +kernel)⟩
theorem k4_271 : cfV RX4 271 yX1_keep cX1_keep 2 none 1 := ⟨⟨tb 286 (by decide +kernel) (by decide +kernel), tb 26 (by decide +kernel) (by decide +kernel), tb 289 (by decide +kernel) (by decide +kernel), by decide +kernel⟩, tb 287 (by decide +kernel) (by decide +kernel), tb 288 (by decide +kernel) (by decide +kernel)⟩
theorem k4_274 : cfV RX4 274 yX4_draftFits cX4_draftFits 4 (some .boolean) 1 := ⟨⟨tb 328 (by decide +kernel) (by decide +kernel), tb 25 (by decide +kernel) (by decide +kernel), tb 331 (by decide +kernel) (by decide +kernel), by decide +kernel⟩, tb 330 (by decide +kernel) (by decide +kernel), tb 5 (by decide +kernel) (by decide +kernel)⟩
theorem k4_53 : cfS RX4 53 yX4_needIndex cX4_needIndex 2 none 2 := ⟨⟨tb 188 (by decide +kernel) (by decide +kernel), tb 25 (by decide +kernel) (by decide +kernel), tb 190 (by decide +kernel) (by decide +kernel), by decide +kernel⟩, tb 189 (by decide +kernel) (by decide +kernel)⟩
theorem k4_57 : cfS RX4 57 yX4_needNumber cX4_needNumber 3 none 3 := ⟨⟨tb 259 (by decide +kernel) (by decide +kernel), tb 25 (by decide +kernel) (by decide +kernel), tb 261 (by decide +kernel) (by decide +kernel), by decide +kernel⟩, tb 260 (by decide +kernel) (by decide +kernel)⟩
theorem k4_61 : cfV RX4 61 yX4_change cX4_change 4 (some .int) 2 := ⟨⟨tb 278 (by decide +kernel) (by decide +kernel), tb 25 (by decide +kernel) (by decide +kernel), tb 281 (by decide +kernel) (by decide +kernel), by decide +kernel⟩, tb 280 (by decide +kernel) (by decide +kernel), tb 1 (by decide +kernel) (by decide +kernel)⟩
theorem k4_65 : cfV RX4 65 yX4_putDraft cX4_putDraft 3 (some .int) 1 := ⟨⟨tb 324 (by decide +kernel) (by decide +kernel), tb 25 (by decide +kernel) (by decide +kernel), tb 327 (by decide +kernel) (by decide +kernel), by decide +kernel⟩, tb 326 (by decide +kernel) (by decide +kernel), tb 4 (by decide +kernel) (by decide +kernel)⟩
theorem k4_87 : cfV RX4 87 yX4_keepState cX4_keepState 1 none 0 := ⟨⟨tb 282 (by decide +kernel) (by decide +kernel), tb 25 (by decide +kernel) (by decide +kernel), tb 285 (by decide +kernel) (by decide +kernel), by decide +kernel⟩, tb 284 (by decide +kernel) (by decide +kernel), tb 2 (by decide +kernel) (by decide +kernel)⟩
theorem kL_14 : cfV RL 14 yX4_least cX4_least 3 (some .int) 2 := ⟨⟨tb 504 (by decide +kernel) (by decide +kernel), tb 25 (by decide +kernel) (by decide +kernel), tb 507 (by decide +kernel) (by decide +kernel), by decide +kernel⟩, tb 505 (by decide +kernel) (by decide +kernel), tb 506 (by decide +kernel) (by decide +kernel)⟩
theorem kL_20 : cfV RL 20 yX4_count cX4_count 2 (some .int) 1 := ⟨⟨tb 437 (by decide +kernel) (by decide +kernel), tb 25 (by decide +kernel) (by decide +kernel), tb 440 (by decide +kernel) (by decide +kernel), by decide +kernel⟩, tb 438 (by decide +kernel) (by decide +kernel), tb 439 (by decide +kernel) (by decide +kernel)⟩
theorem kL_24 : cfS RL 24 yL_at cL_at 2 (some .int) 2 := ⟨⟨tb 181 (by decide +kernel) (by decide +kernel), tb 24 (by decide +kernel) (by decide +kernel), tb 183 (by decide +kernel) (by decide +kernel), by decide +kernel⟩, tb 182 (by decide +kernel) (by decide +kernel)⟩
theorem kL_27 : cfV RL 27 yX4_constant cX4_constant 4 (some .int) 3 := ⟨⟨tb 184 (by decide +kernel) (by decide +kernel), tb 25 (by decide +kernel) (by decide +kernel), tb 187 (by decide +kernel) (by decide +kernel), by decide +kernel⟩, tb 185 (by decide +kernel) (by decide +kernel), tb 186 (by decide +kernel) (by decide +kernel)⟩
theorem kL_31 : cfV RL 31 yX4_times cX4_times 3 (some .int) 2 := ⟨⟨tb 305 (by decide +kernel) (by decide +kernel), tb 25 (by decide +kernel) (by decide +kernel), tb 308 (by decide +kernel) (by decide +kernel), by decide +kernel⟩, tb 306 (by decide +kernel) (by decide +kernel), tb 307 (by decide +kernel) (by decide +kernel)⟩
theorem kL_34 : cfV RL 34 yX4_variable cX4_variable 4 (some .int) 3 := ⟨⟨tb 309 (by decide +kernel) (by decide +kernel), tb 25 (by decide +kernel) (by decide +kernel), tb 312 (by decide +kernel) (by decide +kernel), by decide +kernel⟩, tb 310 (by decide +kernel) (by decide +kernel), tb 311 (by decide +kernel) (by decide +kernel)⟩
theorem kL_37 : cfV RL 37 yX4_cancel cX4_cancel 8 (some .int) 2 := ⟨⟨tb 313 (by decide +kernel) (by decide +kernel), tb 25 (by decide +kernel) (by decide +kernel), tb 316 (by decide +kernel) (by decide +kernel), by decide +kernel⟩, tb 314 (by decide +kernel) (by decide +kernel), tb 315 (by decide +kernel) (by decide +kernel)⟩
theorem kL_40 : cfV RL 40 yX4_multiply cX4_multiply 4 (some .int) 2 := ⟨⟨tb 320 (by decide +kernel) (by decide +kernel), tb 25 (by decide +kernel) (by decide +kernel), tb 323 (by decide +kernel) (by decide +kernel), by decide +kernel⟩, tb 321 (by decide +kernel) (by decide +kernel), tb 322 (by decide +kernel) (by decide +kernel)⟩
theorem kL_43 : cfV RL 43 yX4_set cX4_set 3 (some .int) 2 := ⟨⟨tb 352 (by decide +kernel) (by decide +kernel), tb 25 (by decide +kernel) (by decide +kernel), tb 355 (by decide +kernel) (by decide +kernel), by decide +kernel⟩, tb 353 (by decide +kernel) (by decide +kernel), tb 354 (by decide +kernel) (by decide +kernel)⟩
theorem kL_46 : cfV RL 46 yX4_rest cX4_rest 2 (some .int) 1 := ⟨⟨tb 359 (by decide +kernel) (by decide +kernel), tb 25 (by decide +kernel) (by decide +kernel), tb 362 (by decide +kernel) (by decide +kernel), by decide +kernel⟩, tb 360 (by decide +kernel) (by decide +kernel), tb 361 (by decide +kernel) (by decide +kernel)⟩
theorem kL_49 : cfV RL 49 yX4_solutions cX4_solutions 2 (some .int) 1 := ⟨⟨tb 367 (by decide +kernel) (by decide +kernel), tb 25 (by decide +kernel) (by decide +kernel), tb 370 (by decide +kernel) (by decide +kernel), by decide +kernel⟩, tb 368 (by decide +kernel) (by decide +kernel), tb 369 (by decide +kernel) (by decide +kernel)⟩
theorem kL_51 : cfS RL 51 yL_matchers cL_matchers 10 (some .long) 2 := ⟨⟨tb 412 (by decide +kernel) (by decide +kernel), tb 24 (by decide +kernel) (by decide +kernel), tb 414 (by decide +kernel) (by decide +kernel), by decide +kernel⟩, tb 413 (by decide +kernel) (by decide +kernel)⟩
theorem kL_55 : cfV RL 55 yX4_matchers cX4_matchers 2 (some .long) 1 := ⟨⟨tb 415 (by decide +kernel) (by decide +kernel), tb 25 (by decide +kernel) (by decide +kernel), tb 418 (by decide +kernel) (by decide +kernel), by decide +kernel⟩, tb 416 (by decide +kernel) (by decide +kernel), tb 417 (by decide +kernel) (by decide +kernel)⟩
theorem kL_58 : cfS RL 58 yL_least cL_least 12 (some .boolean) 2 := ⟨⟨tb 501 (by decide +kernel) (by decide +kernel), tb 24 (by decide +kernel) (by decide +kernel), tb 503 (by decide +kernel) (by decide +kernel), by decide +kernel⟩, tb 502 (by decide +kernel) (by decide +kernel)⟩
theorem kL_8 : cfS RL 8 yL_solutions cL_solutions 10 (some .int) 4 := ⟨⟨tb 409 (by decide +kernel) (by decide +kernel), tb 24 (by decide +kernel) (by decide +kernel), tb 411 (by decide +kernel) (by decide +kernel), by decide +kernel⟩, tb 410 (by decide +kernel) (by decide +kernel)⟩
theorem kcJ_265 : Cond.constant RJ6 265 (1431655765) ∈ TB := tb 430 (by decide +kernel) (by decide +kernel)
theorem kcJ_266 : Cond.constant RJ6 266 (858993459) ∈ TB := tb 431 (by decide +kernel) (by decide +kernel)
theorem kcJ_267 : Cond.constant RJ6 267 (252645135) ∈ TB := tb 432 (by decide +kernel) (by decide +kernel)
theorem ka1_23 : Cond.methodLink RX1 23 arraycopyName ∈ TB := tb 290 (by decide +kernel) (by decide +kernel)
theorem ka2_59 : Cond.methodLink RX2 59 arraycopyName ∈ TB := tb 465 (by decide +kernel) (by decide +kernel)
theorem aw_nat : Cond.native arraycopyName ∈ TB := tb 292 (by decide +kernel) (by decide +kernel)
theorem aw_stat : Cond.static arraycopyName ∈ TB := tb 291 (by decide +kernel) (by decide +kernel)
theorem aw_ini : Cond.initialized "java/lang/System" ∈ TB := tb 35 (by decide +kernel) (by decide +kernel)
theorem kx2_40 : Cond.methodLink RX2 40 Lib.Math.max.name ∈ TB ∧ Cond.static Lib.Math.max.name ∈ TB ∧ Cond.initialized "java/lang/Math" ∈ TB ∧ Cond.code Lib.Math.max.name Lib.Math.max.code 2 (some .int) ∈ TB := ⟨tb 482 (by decide +kernel) (by decide +kernel), tb 483 (by decide +kernel) (by decide +kernel), tb 36 (by decide +kernel) (by decide +kernel), tb 484 (by decide +kernel) (by decide +kernel)⟩
theorem kx4_90 : Cond.methodLink RX4 90 Lib.Math.min.name ∈ TB ∧ Cond.static Lib.Math.min.name ∈ TB ∧ Cond.initialized "java/lang/Math" ∈ TB ∧ Cond.code Lib.Math.min.name Lib.Math.min.code 2 (some .int) ∈ TB := ⟨tb 317 (by decide +kernel) (by decide +kernel), tb 318 (by decide +kernel) (by decide +kernel), tb 36 (by decide +kernel) (by decide +kernel), tb 319 (by decide +kernel) (by decide +kernel)⟩
end
section
/-! the pure pictures of the methods of the class, by program out of their bytecode -/
def f4_needIndex (x90 : Int32) (x91 : Int32) : Nat ⊕ Unit := (if x90 < 0 then .inl 0 else (if x90 < x91 then .inr () else .inl 0))
def f4_needNumber (x90 : Int32) (x91 : Int32) (x92 : Int32) : Nat ⊕ Unit := (if x90 < x91 then .inl 1 else (if x90 ≤ x92 then .inr () else .inl 1))
def f1_keep (st : CS) : Option CS := (if ib (((c_oldest st) + (c_held st)) - ((c_oldest st) + (c_held st)) / (6 : Int32) * (6 : Int32)) 6 = true then (if (6 : Int32) ≤ (c_held st) then some (c_oldest_s (c_kept_s st (va_up (c_kept st) (((c_oldest st) + (c_held st)) - ((c_oldest st) + (c_held st)) / (6 : Int32) * (6 : Int32)).toNatClampNeg (va_cpy (c_state st) ((c_kept st) (((c_oldest st) + (c_held st)) - ((c_oldest st) + (c_held st)) / (6 : Int32) * (6 : Int32)).toNatClampNeg) (0 : Int32).toNatClampNeg (0 : Int32).toNatClampNeg (26 : Int32).toNatClampNeg))) (((c_oldest st) + (1 : Int32)) - ((c_oldest st) + (1 : Int32)) / (6 : Int32) * (6 : Int32))) else some (c_held_s (c_kept_s st (va_up (c_kept st) (((c_oldest st) + (c_held st)) - ((c_oldest st) + (c_held st)) / (6 : Int32) * (6 : Int32)).toNatClampNeg (va_cpy (c_state st) ((c_kept st) (((c_oldest st) + (c_held st)) - ((c_oldest st) + (c_held st)) / (6 : Int32) * (6 : Int32)).toNatClampNeg) (0 : Int32).toNatClampNeg (0 : Int32).toNatClampNeg (26 : Int32).toNatClampNeg))) ((c_held st) + (1 : Int32)))) else none)
def f0_forget (st : CS) : CS := (c_eprep_s st (0 : Int32))
def f2_forget (st : CS) : CS := (c_lprep_s st (0 : Int32))
def f4_forgetTables (st : CS) : CS := (f2_forget (f0_forget st))
def f4_keepState (st : CS) : Option CS := (bi1 (f1_keep st) fun st2 => some (f4_forgetTables st2))
def f4_change (st : CS) (x91 : Int32) (x92 : Int32) : Option (CS × Int32) := (bi1 (f4_keepState st) fun st2 => (if ib x91 26 = true then (if ib x91 26 = true then some ((c_state_s st2 (upd (c_state st2) x91.toNatClampNeg x92)), ((c_state st2) x91.toNatClampNeg)) else none) else none))
def f4_constant (st : CS) (x91 : Int32) (x92 : Int32) (x93 : Int32) : Option (CS × (Nat ⊕ Int32)) := (bt0 st (f4_needIndex x91 (3 : Int32)) fun (u2 : Unit) => (bt0 st (f4_needIndex x92 (4 : Int32)) fun (u4 : Unit) => (bt0 st (f4_needNumber x93 (0 : Int32) (9 : Int32)) fun (u6 : Unit) => (bi2 (f4_change st ((x91 * (8 : Int32)) + x92) x93) fun st8 r9 => some (st8, .inr r9)))))
def f4_variable (st : CS) (x91 : Int32) (x92 : Int32) (x93 : Int32) : Option (CS × (Nat ⊕ Int32)) := (bt0 st (f4_needIndex x91 (2 : Int32)) fun (u2 : Unit) => (bt0 st (f4_needIndex x92 (4 : Int32)) fun (u4 : Unit) => (bt0 st (f4_needNumber x93 (0 : Int32) (5 : Int32)) fun (u6 : Unit) => (bi2 (f4_change st (((x91 * (8 : Int32)) + (4 : Int32)) + x92) x93) fun st8 r9 => some (st8, .inr r9)))))
def f4_draftFits_b13 (qs4 : CS) (q5 : Int32) (z : Int32) : Option ((Int32) ⊕ ((Unit) ⊕ (Unit))) := (if (8 : Int32) ≤ z then some (.inr (.inl ())) else (if ib z 8 = true then (if ((c_draft qs4) z.toNatClampNeg) ≤ (if (4 : Int32) ≤ z then q5 else (9 : Int32)) then some (.inl (z + 1)) else some (.inr (.inr ()))) else none))
def f4_draftFits (st : CS) (x91 : Int32) : Option Int32 := (bi1 (wh (f4_draftFits_b13 st (if x91 = (2 : Int32) then (0 : Int32) else (5 : Int32))) FU (0 : Int32)) fun w19 => Sum.elim (fun w20 => some (1 : Int32)) (fun w21 => some (0 : Int32)) w19)
def f4_factorsOf_b4 (qs1 : CS) (q2 : Int32) (z : Int32 × Int32) : Option ((Int32 × Int32) ⊕ (Int32)) := (if (8 : Int32) ≤ z.2 then some (.inr z.1) else (if ib ((q2 * (8 : Int32)) + z.2) 26 = true then (lq (z.1 + ((c_state qs1) ((q2 * (8 : Int32)) + z.2).toNatClampNeg)) fun x9 => some (.inl (x9, (z.2 + 1)))) else none))
def f4_factorsOf (st : CS) (x91 : Int32) : Option Int32 := (bi1 (wh (f4_factorsOf_b4 st x91) FU ((0 : Int32), (0 : Int32))) fun w14 => some w14)
def f4_putDraft_b25 (q7 : Int32) (z : CS × Int32) : Option ((CS × Int32) ⊕ (CS)) := (if (8 : Int32) ≤ z.2 then some (.inr z.1) else (if ib z.2 8 = true then (if ib ((q7 * (8 : Int32)) + z.2) 26 = true then some (.inl ((c_state_s z.1 (upd (c_state z.1) ((q7 * (8 : Int32)) + z.2).toNatClampNeg ((c_draft z.1) z.2.toNatClampNeg))), (z.2 + 1))) else none) else none))
def f4_putDraft (st : CS) (x91 : Int32) : Option (CS × (Nat ⊕ Int32)) := (bi1 (f4_draftFits st x91) fun r2 => (if r2 = 0 then some (st, .inl 2) else (bi1 (f4_keepState st) fun st5 => (bi1 (wh (f4_putDraft_b25 x91) FU (st5, (0 : Int32))) fun w19 => (bi1 (f4_factorsOf w19 x91) fun r18 => some (w19, .inr r18))))))
def f4_multiply_b12 (q6 : Int32) (q7 : Int32) (z : CS × Int32) : Option ((CS × Int32) ⊕ (CS)) := (if (8 : Int32) ≤ z.2 then some (.inr z.1) else (if ib ((q6 * (8 : Int32)) + z.2) 26 = true then (if ib ((q7 * (8 : Int32)) + z.2) 26 = true then (if ib z.2 8 = true then some (.inl ((c_draft_s z.1 (upd (c_draft z.1) z.2.toNatClampNeg (((c_state z.1) ((q6 * (8 : Int32)) + z.2).toNatClampNeg) + ((c_state z.1) ((q7 * (8 : Int32)) + z.2).toNatClampNeg)))), (z.2 + 1))) else none) else none) else none))
def f4_multiply (st : CS) (x91 : Int32) (x92 : Int32) : Option (CS × (Nat ⊕ Int32)) := (bt0 st (f4_needIndex x91 (3 : Int32)) fun (u2 : Unit) => (bt0 st (f4_needIndex x92 (3 : Int32)) fun (u4 : Unit) => (bi1 (wh (f4_multiply_b12 x91 x92) FU (st, (0 : Int32))) fun w21 => (bt2 (f4_putDraft w21 x91) fun st19 r20 => some (st19, .inr r20)))))
def f4_cancel_b19 (q8 : Int32) (q9 : Int32) (z : CS × Int32 × Int32) : Option ((CS × Int32 × Int32) ⊕ (CS × Int32)) := (if (8 : Int32) ≤ z.2.2 then some (.inr (z.1, z.2.1)) else (if ib ((q8 * (8 : Int32)) + z.2.2) 26 = true then (if ib ((q9 * (8 : Int32)) + z.2.2) 26 = true then (lq (if ((c_state z.1) ((q9 * (8 : Int32)) + z.2.2).toNatClampNeg) < ((c_state z.1) ((q8 * (8 : Int32)) + z.2.2).toNatClampNeg) then ((c_state z.1) ((q9 * (8 : Int32)) + z.2.2).toNatClampNeg) else ((c_state z.1) ((q8 * (8 : Int32)) + z.2.2).toNatClampNeg)) fun x17 => (if ib ((q8 * (8 : Int32)) + z.2.2) 26 = true then (if ib ((q9 * (8 : Int32)) + z.2.2) 26 = true then some (.inl ((c_state_s (c_state_s z.1 (upd (c_state z.1) ((q8 * (8 : Int32)) + z.2.2).toNatClampNeg (((c_state z.1) ((q8 * (8 : Int32)) + z.2.2).toNatClampNeg) - x17))) (upd (upd (c_state z.1) ((q8 * (8 : Int32)) + z.2.2).toNatClampNeg (((c_state z.1) ((q8 * (8 : Int32)) + z.2.2).toNatClampNeg) - x17)) ((q9 * (8 : Int32)) + z.2.2).toNatClampNeg (((c_state z.1) ((q9 * (8 : Int32)) + z.2.2).toNatClampNeg) - x17))), (z.2.1 + x17), (z.2.2 + 1))) else none) else none)) else none) else none))
def f4_cancel (st : CS) (x91 : Int32) (x92 : Int32) : Option (CS × (Nat ⊕ Int32)) := (bt0 st (f4_needIndex x91 (3 : Int32)) fun (u2 : Unit) => (bt0 st (f4_needIndex x92 (3 : Int32)) fun (u4 : Unit) => (bi1 (f4_keepState st) fun st6 => (bi1 (wh (f4_cancel_b19 x91 x92) FU (st6, (0 : Int32), (0 : Int32))) fun w25 => some (w25.1, .inr w25.2)))))
def f4_set (st : CS) (x91 : Int32) (x92 : Int32) : Option (CS × (Nat ⊕ Int32)) := (bt0 st (f4_needIndex x91 (2 : Int32)) fun (u2 : Unit) => (bt0 st (f4_needNumber x92 (0 : Int32) (if x91 = 0 then (1 : Int32) else (9 : Int32))) fun (u7 : Unit) => (bi2 (f4_change st ((24 : Int32) + x91) x92) fun st9 r10 => some (st9, .inr r10))))
def f4_times (st : CS) (x91 : Int32) (x92 : Int32) : Option (CS × (Nat ⊕ Int32)) := (bt0 st (f4_needIndex x91 (3 : Int32)) fun (u2 : Unit) => (bt0 st (f4_needIndex x92 (8 : Int32)) fun (u4 : Unit) => (if ib ((x91 * (8 : Int32)) + x92) 26 = true then some (st, .inr ((c_state st) ((x91 * (8 : Int32)) + x92).toNatClampNeg)) else none)))
def f4_restOf (st : CS) (x91 : Int32) : Option Int32 := (if ib ((16 : Int32) + x91) 26 = true then (if ib ((0 : Int32) + x91) 26 = true then some (((c_state st) ((16 : Int32) + x91).toNatClampNeg) - ((c_state st) ((0 : Int32) + x91).toNatClampNeg)) else none) else none)
def f4_rest (st : CS) (x91 : Int32) : Option (CS × (Nat ⊕ Int32)) := (bt0 st (f4_needIndex x91 (4 : Int32)) fun (u2 : Unit) => (bi1 (f4_restOf st x91) fun r4 => some (st, .inr r4)))
def f0_top (st : CS) (x91 : Int32) : Option Int32 := (if ib x91 4 = true then (if ((c_weight st) x91.toNatClampNeg) ≤ 0 then some (0 : Int32) else some (c_most st)) else none)
def f0_numberIn (x90 : Int32) (x91 : Int32) : Int32 := ((x90 >>> (((4 : Int32) * ((3 : Int32) - x91)) &&& 31)) &&& (15 : Int32))
def f0_setOf_b4 (q1 : Int32) (z : Int32 × Int32) : Option ((Int32 × Int32) ⊕ (Int32)) := (if (4 : Int32) ≤ z.2 then some (.inr z.1) else (lq (z.1 ||| (if (f0_numberIn q1 z.2) ≤ 0 then (0 : Int32) else ((1 : Int32) <<< (z.2 &&& 31)))) fun x10 => some (.inl (x10, (z.2 + 1)))))
def f0_setOf (x90 : Int32) : Option Int32 := (bi1 (wh (f0_setOf_b4 x90) FU ((0 : Int32), (0 : Int32))) fun w16 => some w16)
def f0_solveLast_j79 (st11 : CS) (x12 : Int32) (x13 : Int32) : Option CS := (if ib x12 5 = true then (if ib x12 5 = true then (if ib x12 5 = true then (bi1 (f0_setOf x13) fun r18 => (if ib r18 16 = true then (if ib r18 16 = true then some (c_exactly_s (c_size_s st11 (upd (c_size st11) x12.toNatClampNeg (((c_size st11) x12.toNatClampNeg) + (1 : Int32)))) (va_up (c_exactly st11) x12.toNatClampNeg (vp_updL ((c_exactly st11) x12.toNatClampNeg) r18.toNatClampNeg (((c_exactly st11) x12.toNatClampNeg r18.toNatClampNeg) + (1 : Int64))))) else none) else none)) else none) else none) else none)
def f0_solveLast_j21 (st2 : CS) (x3 : Int32) (x4 : Int32) (x5 : Int32) (y6 : Int32) : Option CS := (if (c_most st2) < y6 then some st2 else (if (((c_weight st2) (3 : Int32).toNatClampNeg) * y6) = x5 then (if ib x3 5 = true then (if (220 : Int32) ≤ ((c_size st2) x3.toNatClampNeg) then f0_solveLast_j79 st2 x3 (x4 ||| y6) else (if ib x3 5 = true then (if ib x3 5 = true then (if ib ((c_size st2) x3.toNatClampNeg) 220 = true then f0_solveLast_j79 (c_rows_s st2 (va_up (c_rows st2) x3.toNatClampNeg (upd ((c_rows st2) x3.toNatClampNeg) ((c_size st2) x3.toNatClampNeg).toNatClampNeg (x4 ||| y6)))) x3 (x4 ||| y6) else none) else none) else none)) else none) else some st2))
def f0_solveLast (st : CS) (x91 : Int32) (x92 : Int32) (x93 : Int32) : Option CS := (if ((c_weight st) (3 : Int32).toNatClampNeg) ≤ 0 then f0_solveLast_j21 st x91 x92 x93 (0 : Int32) else (if ((c_weight st) (3 : Int32).toNatClampNeg) = 0 then none else f0_solveLast_j21 st x91 x92 x93 (x93 / ((c_weight st) (3 : Int32).toNatClampNeg))))
def f0_fillWithin_b2 (q2 : Int32) (z : CS × Int32) : Option ((CS × Int32) ⊕ (CS)) := (if (16 : Int32) ≤ z.2 then some (.inr z.1) else (if ib q2 5 = true then (if ib q2 5 = true then (if ib z.2 16 = true then (if ib z.2 16 = true then some (.inl ((c_within_s z.1 (va_up (c_within z.1) q2.toNatClampNeg (vp_updL ((c_within z.1) q2.toNatClampNeg) z.2.toNatClampNeg ((c_exactly z.1) q2.toNatClampNeg z.2.toNatClampNeg)))), (z.2 + 1))) else none) else none) else none) else none))
def f0_fillWithin_b39 (q21 : Int32) (q22 : Int32) (z : CS × Int32) : Option ((CS × Int32) ⊕ (CS)) := (if (16 : Int32) ≤ z.2 then some (.inr z.1) else (if ((z.2 >>> (q22 &&& 31)) &&& (1 : Int32)) = (1 : Int32) then (if ib q21 5 = true then (if ib z.2 16 = true then (if ib q21 5 = true then (if ib (z.2 ^^^ ((1 : Int32) <<< (q22 &&& 31))) 16 = true then (if ib z.2 16 = true then some (.inl ((c_within_s z.1 (va_up (c_within z.1) q21.toNatClampNeg (vp_updL ((c_within z.1) q21.toNatClampNeg) z.2.toNatClampNeg (((c_within z.1) q21.toNatClampNeg z.2.toNatClampNeg) + ((c_within z.1) q21.toNatClampNeg (z.2 ^^^ ((1 : Int32) <<< (q22 &&& 31))).toNatClampNeg))))), (z.2 + 1))) else none) else none) else none) else none) else none) else some (.inl (z.1, (z.2 + 1)))))
def f0_fillWithin_b32 (q15 : Int32) (z : CS × Int32) : Option ((CS × Int32) ⊕ (CS)) := (if (4 : Int32) ≤ z.2 then some (.inr z.1) else (bi1 (wh (f0_fillWithin_b39 q15 z.2) FU (z.1, (0 : Int32))) fun w36 => some (.inl (w36, (z.2 + 1)))))
def f0_fillWithin (st : CS) (x91 : Int32) : Option CS := (bi1 (wh (f0_fillWithin_b2 x91) FU (st, (0 : Int32))) fun w41 => (bi1 (wh (f0_fillWithin_b32 x91) FU (w41, (0 : Int32))) fun w40 => some w40))
def f0_solve_b9 (q3 : Int32) (q4 : Int32) (z : CS × Int32) : Option ((CS × Int32) ⊕ (CS)) := (if (16 : Int32) ≤ z.2 then some (.inr z.1) else (if ib q3 5 = true then (if ib z.2 16 = true then some (.inl ((c_exactly_s z.1 (va_up (c_exactly z.1) q3.toNatClampNeg (vp_updL ((c_exactly z.1) q3.toNatClampNeg) z.2.toNatClampNeg (0 : Int64)))), (z.2 + 1))) else none) else none))
def f0_solve_b109 (q37 : Int32) (q38 : Int32) (q39 : Int32) (q40 : Int32) (q41 : Int32) (q42 : Int32) (z : CS × Int32) : Option ((CS × Int32) ⊕ (CS)) := (bi1 (f0_top z.1 (2 : Int32)) fun r47 => (if r47 < z.2 then some (.inr z.1) else (if q42 < (((c_weight z.1) (2 : Int32).toNatClampNeg) * z.2) then some (.inr z.1) else (bi1 (f0_solveLast z.1 q37 (((q39 <<< ((12 : Int32) &&& 31)) ||| (q41 <<< ((8 : Int32) &&& 31))) ||| (z.2 <<< ((4 : Int32) &&& 31))) (q42 - (((c_weight z.1) (2 : Int32).toNatClampNeg) * z.2))) fun st51 => some (.inl (st51, (z.2 + 1)))))))
def f0_solve_b68 (q25 : Int32) (q26 : Int32) (q27 : Int32) (q28 : Int32) (z : CS × Int32) : Option ((CS × Int32) ⊕ (CS)) := (bi1 (f0_top z.1 (1 : Int32)) fun r33 => (if r33 < z.2 then some (.inr z.1) else (if q28 < (((c_weight z.1) (1 : Int32).toNatClampNeg) * z.2) then some (.inr z.1) else (bi1 (wh (f0_solve_b109 q25 q26 q27 q28 z.2 (q28 - (((c_weight z.1) (1 : Int32).toNatClampNeg) * z.2))) FU (z.1, (0 : Int32))) fun w55 => some (.inl (w55, (z.2 + 1)))))))
def f0_solve_b32 (q15 : Int32) (q16 : Int32) (z : CS × Int32) : Option ((CS × Int32) ⊕ (CS)) := (bi1 (f0_top z.1 (0 : Int32)) fun r21 => (if r21 < z.2 then some (.inr z.1) else (if q16 < (((c_weight z.1) (0 : Int32).toNatClampNeg) * z.2) then some (.inr z.1) else (bi1 (wh (f0_solve_b68 q15 q16 z.2 (q16 - (((c_weight z.1) (0 : Int32).toNatClampNeg) * z.2))) FU (z.1, (0 : Int32))) fun w59 => some (.inl (w59, (z.2 + 1)))))))
def f0_solve (st : CS) (x91 : Int32) (x92 : Int32) : Option CS := (if ib x91 5 = true then (bi1 (wh (f0_solve_b9 x91 x92) FU ((c_size_s st (upd (c_size st) x91.toNatClampNeg (0 : Int32))), (0 : Int32))) fun w66 => (bi1 (wh (f0_solve_b32 x91 x92) FU (w66, (0 : Int32))) fun w65 => (bi1 (f0_fillWithin w65 x91) fun st64 => some st64))) else none)
def f0_waysFrom_b5 (qs1 : CS) (q2 : Int32) (q3 : Int32) (z : Int64 × Int32) : Option ((Int64 × Int32) ⊕ (Int64)) := (if (16 : Int32) ≤ z.2 then some (.inr z.1) else (if ib q2 5 = true then (if ib z.2 16 = true then (if ib (q2 + (1 : Int32)) 5 = true then (if ib (q3 ||| z.2) 16 = true then (lq (z.1 + (((c_exactly qs1) q2.toNatClampNeg z.2.toNatClampNeg) * ((c_eways qs1) (q2 + (1 : Int32)).toNatClampNeg (q3 ||| z.2).toNatClampNeg))) fun x13 => some (.inl (x13, (z.2 + 1)))) else none) else none) else none) else none))
def f0_waysFrom (st : CS) (x91 : Int32) (x92 : Int32) : Option Int64 := (bi1 (wh (f0_waysFrom_b5 st x91 x92) FU ((0 : Int64), (0 : Int32))) fun w18 => some w18)
def f0_fillWays_b2 (z : CS × Int32) : Option ((CS × Int32) ⊕ (CS)) := (if (16 : Int32) ≤ z.2 then some (.inr z.1) else (if (c_canBeEmpty z.1) = 0 then (if ib z.2 16 = true then some (.inl ((c_eways_s z.1 (va_up (c_eways z.1) (4 : Int32).toNatClampNeg (vp_updL ((c_eways z.1) (4 : Int32).toNatClampNeg) z.2.toNatClampNeg (if z.2 = (c_used z.1) then (1 : Int64) else (0 : Int64))))), (z.2 + 1))) else none) else (if ib z.2 16 = true then some (.inl ((c_eways_s z.1 (va_up (c_eways z.1) (4 : Int32).toNatClampNeg (vp_updL ((c_eways z.1) (4 : Int32).toNatClampNeg) z.2.toNatClampNeg (1 : Int64)))), (z.2 + 1))) else none)))
def f0_fillWays_b50 (q22 : Int32) (z : CS × Int32) : Option ((CS × Int32) ⊕ (CS)) := (if (16 : Int32) ≤ z.2 then some (.inr z.1) else (if ib q22 5 = true then (bi1 (f0_waysFrom z.1 q22 z.2) fun r29 => (if ib z.2 16 = true then some (.inl ((c_eways_s z.1 (va_up (c_eways z.1) q22.toNatClampNeg (vp_updL ((c_eways z.1) q22.toNatClampNeg) z.2.toNatClampNeg r29))), (z.2 + 1))) else none)) else none))
def f0_fillWays_b44 (z : CS × Int32) : Option ((CS × Int32) ⊕ (CS)) := (if z.2 < 0 then some (.inr z.1) else (bi1 (wh (f0_fillWays_b50 z.2) FU (z.1, (0 : Int32))) fun w34 => some (.inl (w34, (z.2 + (-1))))))
def f0_fillWays (st : CS) : Option CS := (bi1 (wh (f0_fillWays_b2) FU (st, (0 : Int32))) fun w39 => (bi1 (wh (f0_fillWays_b44) FU (w39, (3 : Int32))) fun w38 => some w38))
def f0_prepare_b15 (z : CS × Int32) : Option ((CS × Int32) ⊕ (CS)) := (if (4 : Int32) ≤ z.2 then some (.inr z.1) else (if ib ((4 : Int32) + z.2) 26 = true then (if ib z.2 4 = true then (if ib z.2 4 = true then some (.inl ((c_used_s (c_weight_s z.1 (upd (c_weight z.1) z.2.toNatClampNeg ((c_state z.1) ((4 : Int32) + z.2).toNatClampNeg))) ((c_used z.1) ||| (if ((upd (c_weight z.1) z.2.toNatClampNeg ((c_state z.1) ((4 : Int32) + z.2).toNatClampNeg)) z.2.toNatClampNeg) ≤ 0 then (0 : Int32) else ((1 : Int32) <<< (z.2 &&& 31))))), (z.2 + 1))) else none) else none) else none))
def f0_prepare_b89 (z : CS × Int32) : Option ((CS × Int32) ⊕ (CS)) := (if (4 : Int32) ≤ z.2 then some (.inr z.1) else (if ib ((16 : Int32) + z.2) 26 = true then (if ib ((0 : Int32) + z.2) 26 = true then (bi1 (f0_solve z.1 z.2 (((c_state z.1) ((16 : Int32) + z.2).toNatClampNeg) - ((c_state z.1) ((0 : Int32) + z.2).toNatClampNeg))) fun st28 => some (.inl (st28, (z.2 + 1)))) else none) else none))
def f0_prepare (st : CS) : Option CS := (if (c_eprep st) = 0 then (bi1 (wh (f0_prepare_b15) FU ((c_used_s st (0 : Int32)), (0 : Int32))) fun w36 => (bi1 (wh (f0_prepare_b89) FU ((c_most_s (c_canBeEmpty_s w36 (if ((c_state w36) (24 : Int32).toNatClampNeg) = (1 : Int32) then (1 : Int32) else (0 : Int32))) ((c_state w36) (25 : Int32).toNatClampNeg)), (0 : Int32))) fun w34 => (bi1 (f0_fillWays w34) fun st33 => some (c_eprep_s st33 (1 : Int32))))) else some st)
def f0_solutionsOf (st : CS) (x91 : Int32) : Option Int32 := (if ib x91 5 = true then some ((c_size st) x91.toNatClampNeg) else none)
def f4_solutions (st : CS) (x91 : Int32) : Option (CS × (Nat ⊕ Int32)) := (bt0 st (f4_needIndex x91 (4 : Int32)) fun (u2 : Unit) => (bi1 (f0_prepare st) fun st4 => (bi1 (f0_solutionsOf st4 x91) fun r6 => some (st4, .inr r6))))
def fJ_bitCount (x90 : Int32) : Int32 := (lq (x90 - (((x90).toUInt32 >>> (((1 : Int32)).toUInt32 &&& Int32.toUInt32 31)).toInt32 &&& (1431655765 : Int32))) fun x1 => (lq ((x1 &&& (858993459 : Int32)) + (((x1).toUInt32 >>> (((2 : Int32)).toUInt32 &&& Int32.toUInt32 31)).toInt32 &&& (858993459 : Int32))) fun x3 => (lq ((x3 + ((x3).toUInt32 >>> (((4 : Int32)).toUInt32 &&& Int32.toUInt32 31)).toInt32) &&& (252645135 : Int32)) fun x5 => (lq (x5 + ((x5).toUInt32 >>> (((8 : Int32)).toUInt32 &&& Int32.toUInt32 31)).toInt32) fun x7 => (lq (x7 + ((x7).toUInt32 >>> (((16 : Int32)).toUInt32 &&& Int32.toUInt32 31)).toInt32) fun x9 => (x9 &&& (63 : Int32)))))))
def f0_bySetsWith_b62 (qs14 : CS) (q15 : Int32) (q16 : Int32) (q17 : Int64) (q18 : Int32) (z : Int64 × Int32) : Option ((Int64 × Int32) ⊕ (Int64)) := (if (4 : Int32) ≤ z.2 then some (.inr z.1) else (if ib (if z.2 = q15 then q16 else z.2) 5 = true then (if ib ((c_used qs14) &&& (q18 ^^^ (-1 : Int32))) 16 = true then (lq (z.1 * ((c_within qs14) (if z.2 = q15 then q16 else z.2).toNatClampNeg ((c_used qs14) &&& (q18 ^^^ (-1 : Int32))).toNatClampNeg)) fun x29 => some (.inl (x29, (z.2 + 1)))) else none) else none))
def f0_bySetsWith_j49 (qs1 : CS) (q2 : Int32) (q3 : Int32) (x10 : Int64) (x11 : Int32) (y12 : Int32) : Option ((Int64 × Int32) ⊕ (Int64)) := (if y12 = 0 then some (.inl (x10, (x11 + 1))) else (bi1 (wh (f0_bySetsWith_b62 qs1 q2 q3 x10 x11) FU ((1 : Int64), (0 : Int32))) fun w36 => (if ((fJ_bitCount x11) - (fJ_bitCount x11) / (2 : Int32) * (2 : Int32)) = 0 then some (.inl ((x10 + w36), (x11 + 1))) else some (.inl ((x10 + (-w36)), (x11 + 1))))))
def f0_bySetsWith_b5 (qs1 : CS) (q2 : Int32) (q3 : Int32) (z : Int64 × Int32) : Option ((Int64 × Int32) ⊕ (Int64)) := (if (16 : Int32) ≤ z.2 then some (.inr z.1) else (if (c_canBeEmpty qs1) = 0 then (if (z.2 &&& (c_used qs1)) = z.2 then f0_bySetsWith_j49 qs1 q2 q3 z.1 z.2 (1 : Int32) else f0_bySetsWith_j49 qs1 q2 q3 z.1 z.2 (0 : Int32)) else (if z.2 = 0 then f0_bySetsWith_j49 qs1 q2 q3 z.1 z.2 (1 : Int32) else f0_bySetsWith_j49 qs1 q2 q3 z.1 z.2 (0 : Int32))))
def f0_bySetsWith (st : CS) (x91 : Int32) (x92 : Int32) : Option Int64 := (bi1 (wh (f0_bySetsWith_b5 st x91 x92) FU ((0 : Int64), (0 : Int32))) fun w43 => some w43)
def f0_bySets (st : CS) : Option Int64 := (bi1 (f0_bySetsWith st (4 : Int32) (4 : Int32)) fun r2 => some r2)
def f0_byConstants (st : CS) : Option Int64 := some ((c_eways st) (0 : Int32).toNatClampNeg (0 : Int32).toNatClampNeg)
def f4_matchers (st : CS) (x91 : Int32) : Option (CS × (Nat ⊕ Int64)) := (bt0 st (f4_needNumber x91 (0 : Int32) (1 : Int32)) fun (u2 : Unit) => (bi1 (f0_prepare st) fun st4 => (if x91 = 0 then (bi1 (f0_bySets st4) fun r9 => some (st4, .inr r9)) else (bi1 (f0_byConstants st4) fun r7 => some (st4, .inr r7)))))
def f2_solves (st : CS) (x91 : Int32) (x92 : Int32) (x93 : Int32) (x94 : Int32) : Option Int32 := (if ((((((c_difference st) (0 : Int32).toNatClampNeg) * x91) + (((c_difference st) (1 : Int32).toNatClampNeg) * x92)) + (((c_difference st) (2 : Int32).toNatClampNeg) * x93)) + (((c_difference st) (3 : Int32).toNatClampNeg) * x94)) = 0 then some (1 : Int32) else some (0 : Int32))
def f2_setRow (st : CS) (x91 : Int32) (x92 : Int32) (x93 : Int32) (x94 : Int32) : Option CS := some (c_row_s (c_row_s (c_row_s (c_row_s st (upd (c_row st) (0 : Int32).toNatClampNeg x91)) (upd (upd (c_row st) (0 : Int32).toNatClampNeg x91) (1 : Int32).toNatClampNeg x92)) (upd (upd (upd (c_row st) (0 : Int32).toNatClampNeg x91) (1 : Int32).toNatClampNeg x92) (2 : Int32).toNatClampNeg x93)) (upd (upd (upd (upd (c_row st) (0 : Int32).toNatClampNeg x91) (1 : Int32).toNatClampNeg x92) (2 : Int32).toNatClampNeg x93) (3 : Int32).toNatClampNeg x94))
def f2_number (st : CS) (x91 : Int32) (x92 : Int32) : Option Int32 := (if x91 < 0 then some (-1 : Int32) else (if (c_found st) ≤ x91 then some (-1 : Int32) else (if ib ((x91 * (4 : Int32)) + x92) 120 = true then some ((c_numbers st) ((x91 * (4 : Int32)) + x92).toNatClampNeg) else none)))
def f2_isAtMostRow_b2 (qs1 : CS) (q2 : Int32) (z : Int32) : Option ((Int32) ⊕ ((Unit) ⊕ (Unit))) := (if (4 : Int32) ≤ z then some (.inr (.inl ())) else (bi1 (f2_number qs1 q2 z) fun r8 => (if ib z 4 = true then (if r8 ≤ ((c_row qs1) z.toNatClampNeg) then some (.inl (z + 1)) else some (.inr (.inr ()))) else none)))
def f2_isAtMostRow (st : CS) (x91 : Int32) : Option Int32 := (bi1 (wh (f2_isAtMostRow_b2 st x91) FU (0 : Int32)) fun w14 => Sum.elim (fun w15 => some (1 : Int32)) (fun w16 => some (0 : Int32)) w14)
def f2_look_b36 (qs7 : CS) (z : Int32) : Option ((Int32) ⊕ ((Unit) ⊕ (Unit))) := (if (c_found qs7) ≤ z then some (.inr (.inl ())) else (bi1 (f2_isAtMostRow qs7 z) fun r13 => (if r13 = 0 then some (.inl (z + 1)) else some (.inr (.inr ())))))
def f2_look (st : CS) (x91 : Int32) (x92 : Int32) (x93 : Int32) (x94 : Int32) : Option CS := (bi1 (f2_solves st x91 x92 x93 x94) fun r2 => (if r2 = 0 then some st else (if (((x91 + x92) + x93) + x94) = 0 then some st else (bi1 (f2_setRow st x91 x92 x93 x94) fun st6 => (bi1 (wh (f2_look_b36 st6) FU (0 : Int32)) fun w20 => Sum.elim (fun w21 => (if (30 : Int32) ≤ (c_found st6) then some st6 else (if cg (0 : Int32) ((c_found st6) * (4 : Int32)) (4 : Int32) 4 120 = true then some (c_found_s (c_numbers_s st6 (va_cpy (c_row st6) (c_numbers st6) (0 : Int32).toNatClampNeg ((c_found st6) * (4 : Int32)).toNatClampNeg (4 : Int32).toNatClampNeg)) ((c_found st6) + (1 : Int32))) else none))) (fun w22 => some st6) w20)))))
def f2_prepare_b10 (z : CS × Int32) : Option ((CS × Int32) ⊕ (CS)) := (if (4 : Int32) ≤ z.2 then some (.inr z.1) else (if ib ((0 : Int32) + ((4 : Int32) + z.2)) 26 = true then (if ib ((8 : Int32) + ((4 : Int32) + z.2)) 26 = true then (if ib z.2 4 = true then some (.inl ((c_difference_s z.1 (upd (c_difference z.1) z.2.toNatClampNeg (((c_state z.1) ((0 : Int32) + ((4 : Int32) + z.2)).toNatClampNeg) - ((c_state z.1) ((8 : Int32) + ((4 : Int32) + z.2)).toNatClampNeg)))), (z.2 + 1))) else none) else none) else none))
def f2_prepare_b74 (q32 : Int32) (q33 : Int32) (q34 : Int32) (z : CS × Int32) : Option ((CS × Int32) ⊕ (CS)) := (if (5 : Int32) < z.2 then some (.inr z.1) else (bi1 (f2_look z.1 q32 q33 q34 z.2) fun st40 => some (.inl (st40, (z.2 + 1)))))
def f2_prepare_b65 (q25 : Int32) (q26 : Int32) (z : CS × Int32) : Option ((CS × Int32) ⊕ (CS)) := (if (5 : Int32) < z.2 then some (.inr z.1) else (bi1 (wh (f2_prepare_b74 q25 q26 z.2) FU (z.1, (0 : Int32))) fun w44 => some (.inl (w44, (z.2 + 1)))))
def f2_prepare_b57 (q19 : Int32) (z : CS × Int32) : Option ((CS × Int32) ⊕ (CS)) := (if (5 : Int32) < z.2 then some (.inr z.1) else (bi1 (wh (f2_prepare_b65 q19 z.2) FU (z.1, (0 : Int32))) fun w48 => some (.inl (w48, (z.2 + 1)))))
def f2_prepare_b50 (z : CS × Int32) : Option ((CS × Int32) ⊕ (CS)) := (if (5 : Int32) < z.2 then some (.inr z.1) else (bi1 (wh (f2_prepare_b57 z.2) FU (z.1, (0 : Int32))) fun w52 => some (.inl (w52, (z.2 + 1)))))
def f2_prepare (st : CS) : Option CS := (if (c_lprep st) = 0 then (bi1 (wh (f2_prepare_b10) FU (st, (0 : Int32))) fun w57 => (bi1 (wh (f2_prepare_b50) FU ((c_found_s w57 (0 : Int32)), (0 : Int32))) fun w56 => some (c_lprep_s w56 (1 : Int32)))) else some st)
def f4_least (st : CS) (x91 : Int32) (x92 : Int32) : Option (CS × (Nat ⊕ Int32)) := (bt0 st (f4_needIndex x92 (4 : Int32)) fun (u2 : Unit) => (if 0 ≤ x91 then (bi1 (f2_prepare st) fun st5 => (bi1 (f2_number st5 x91 x92) fun r7 => some (st5, .inr r7))) else some (st, .inl 1)))
def f4_hasVariable (st : CS) (x91 : Int32) (x92 : Int32) : Option Int32 := (if ib (((x91 * (8 : Int32)) + (4 : Int32)) + x92) 26 = true then (if ((c_state st) (((x91 * (8 : Int32)) + (4 : Int32)) + x92).toNatClampNeg) ≤ 0 then some (0 : Int32) else some (1 : Int32)) else none)
def f4_unlikeVariables_b4 (qs1 : CS) (z : Int32 × Int32) : Option ((Int32 × Int32) ⊕ (Int32)) := (if (4 : Int32) ≤ z.2 then some (.inr z.1) else (bi1 (f4_hasVariable qs1 (0 : Int32) z.2) fun r8 => some (.inl ((z.1 + (if r8 = 0 then (0 : Int32) else (1 : Int32))), (z.2 + 1)))))
def f4_unlikeVariables (st : CS) : Option Int32 := (bi1 (wh (f4_unlikeVariables_b4 st) FU ((0 : Int32), (0 : Int32))) fun w16 => some w16)
def f2_size (st : CS) : Int32 := (c_found st)
def f2_greatestSum_b4 (qs1 : CS) (z : Int32 × Int32) : Option ((Int32 × Int32) ⊕ (Int32)) := (if (c_found qs1) ≤ z.2 then some (.inr z.1) else (bi1 (f2_number qs1 z.2 (0 : Int32)) fun r8 => (bi1 (f2_number qs1 z.2 (1 : Int32)) fun r10 => (bi1 (f2_number qs1 z.2 (2 : Int32)) fun r12 => (bi1 (f2_number qs1 z.2 (3 : Int32)) fun r14 => (lq (if z.1 < (((r8 + r10) + r12) + r14) then (((r8 + r10) + r12) + r14) else z.1) fun x15 => some (.inl (x15, (z.2 + 1)))))))))
def f2_greatestSum (st : CS) : Option Int32 := (bi1 (wh (f2_greatestSum_b4 st) FU ((0 : Int32), (0 : Int32))) fun w20 => some w20)
def f4_restsBelowZero_b4 (qs1 : CS) (z : Int32 × Int32) : Option ((Int32 × Int32) ⊕ (Int32)) := (if (4 : Int32) ≤ z.2 then some (.inr z.1) else (bi1 (f4_restOf qs1 z.2) fun r8 => some (.inl ((z.1 + (if 0 ≤ r8 then (0 : Int32) else (1 : Int32))), (z.2 + 1)))))
def f4_restsBelowZero (st : CS) : Option Int32 := (bi1 (wh (f4_restsBelowZero_b4 st) FU ((0 : Int32), (0 : Int32))) fun w16 => some w16)
def f4_patternsAreSame_b2 (qs1 : CS) (z : Int32) : Option ((Int32) ⊕ ((Unit) ⊕ (Unit))) := (if (8 : Int32) ≤ z then some (.inr (.inl ())) else (if ib ((0 : Int32) + z) 26 = true then (if ib ((8 : Int32) + z) 26 = true then (if ((c_state qs1) ((0 : Int32) + z).toNatClampNeg) = ((c_state qs1) ((8 : Int32) + z).toNatClampNeg) then some (.inl (z + 1)) else some (.inr (.inr ()))) else none) else none))
def f4_patternsAreSame (st : CS) : Option Int32 := (bi1 (wh (f4_patternsAreSame_b2 st) FU (0 : Int32)) fun w12 => Sum.elim (fun w13 => some (1 : Int32)) (fun w14 => some (0 : Int32)) w12)
def f4_commonFactors_b4 (qs1 : CS) (z : Int32 × Int32) : Option ((Int32 × Int32) ⊕ (Int32)) := (if (8 : Int32) ≤ z.2 then some (.inr z.1) else (if ib ((0 : Int32) + z.2) 26 = true then (if ib ((8 : Int32) + z.2) 26 = true then (lq (if ((c_state qs1) ((8 : Int32) + z.2).toNatClampNeg) < ((c_state qs1) ((0 : Int32) + z.2).toNatClampNeg) then ((c_state qs1) ((8 : Int32) + z.2).toNatClampNeg) else ((c_state qs1) ((0 : Int32) + z.2).toNatClampNeg)) fun x9 => (if ib ((16 : Int32) + z.2) 26 = true then (lq (z.1 + (if ((c_state qs1) ((16 : Int32) + z.2).toNatClampNeg) < x9 then ((c_state qs1) ((16 : Int32) + z.2).toNatClampNeg) else x9)) fun x12 => some (.inl (x12, (z.2 + 1)))) else none)) else none) else none))
def f4_commonFactors (st : CS) : Option Int32 := (bi1 (wh (f4_commonFactors_b4 st) FU ((0 : Int32), (0 : Int32))) fun w17 => some w17)
def f1_size (st : CS) : Int32 := (c_held st)
def f4_count (st : CS) (x91 : Int32) : Option (CS × (Nat ⊕ Int32)) := (bt0 st (f4_needNumber x91 (0 : Int32) (10 : Int32)) fun (u2 : Unit) => (bi1 (f2_prepare st) fun st4 => (if x91 = 0 then (bi1 (f4_factorsOf st4 x91) fun r7 => some (st4, .inr r7)) else (if x91 = 1 then (bi1 (f4_factorsOf st4 x91) fun r10 => some (st4, .inr r10)) else (if x91 = 2 then (bi1 (f4_factorsOf st4 x91) fun r13 => some (st4, .inr r13)) else (if x91 = 3 then (bi1 (f4_unlikeVariables st4) fun r16 => some (st4, .inr r16)) else (if x91 = 4 then some (st4, .inr (f2_size st4)) else (if x91 = 5 then (bi1 (f2_greatestSum st4) fun r20 => some (st4, .inr r20)) else (if x91 = 6 then (bi1 (f4_restsBelowZero st4) fun r23 => some (st4, .inr r23)) else (if x91 = 7 then (bi1 (f4_patternsAreSame st4) fun r26 => some (st4, .inr (if r26 = 0 then (0 : Int32) else (1 : Int32)))) else (if x91 = 8 then (bi1 (f4_commonFactors st4) fun r33 => some (st4, .inr r33)) else (if x91 = 9 then some (st4, .inr ((if ((c_taken st4) (0 : Int32).toNatClampNeg) = 0 then (0 : Int32) else (1 : Int32)) + (if ((c_taken st4) (1 : Int32).toNatClampNeg) = 0 then (0 : Int32) else (1 : Int32)))) else some (st4, .inr (f1_size st4))))))))))))))
end
section
set_option maxHeartbeats 4000000 in
set_option maxRecDepth 100000 in
theorem c4_needIndex {l : Launch} {D : va_G} {g : Nat → ClassId} {x90 : Int32} {x91 : Int32} {u' : Unit} (h : f4_needIndex x90 x91 = .inr u') : ct l yX4_needIndex cX4_needIndex 2 none (rmk 0 0) D g [] [] [.int x90, .int x91] none := by
  refine ct_of ⟨rfl, rfl⟩ (by decide) (Nat.le_of_ble_eq_true rfl) ?_
  intro p e s m args below meth c ls Q A H0 H locs E I hl K
  have E : en p m c cX4_needIndex 2 s args RX4 D g := E
  have hx := E.1.1
  have hb := E.1.2.1
  have hl : lv_has ls 2 [(0, .int x90), (1, .int x91)] := hl
  have K : ∀ (pc : Nat) (ls : Array Slot) (H : Heap) (locs : List Loc), wk D [] A H0 H locs → decode cX4_needIndex pc = .ok (.return_, 1) → W p l e (rmk 0 0) s m args below meth c H locs 0 0 Q (F0 m pc ls []) := fun pc ls H locs I hd => K pc ls H locs I hd
  have h : ((if x90 < 0 then .inl 0 else (if x90 < x91 then .inr () else .inl 0)) : Nat ⊕ Unit) = .inr u' := h
  refine lv_iload_n hx hb dX4_needIndex_0 rfl (lv_at hl 0 rfl) ?_
  refine lv_if_lt (tgt := 9) hx hb dX4_needIndex_1 (by decide) (fun hc1 => ?_) (fun hc1 => ?_)
  · have h := ifp hc1 h
    cases h
  · have h := ifn hc1 h
    refine lv_iload_n hx hb dX4_needIndex_4 rfl (lv_at hl 0 rfl) ?_
    refine lv_iload_n hx hb dX4_needIndex_5 rfl (lv_at hl 1 rfl) ?_
    refine lv_icmp_lt (tgt := 20) hx hb dX4_needIndex_6 (by decide) (fun hc2 => ?_) (fun hc2 => ?_)
    · have h := ifp hc2 h
      cases h
      exact K _ _ _ _ I dX4_needIndex_20
    · have h := ifn hc2 h
      cases h
set_option maxHeartbeats 4000000 in
set_option maxRecDepth 100000 in
theorem c4_needNumber {l : Launch} {D : va_G} {g : Nat → ClassId} {x90 : Int32} {x91 : Int32} {x92 : Int32} {u' : Unit} (h : f4_needNumber x90 x91 x92 = .inr u') : ct l yX4_needNumber cX4_needNumber 3 none (rmk 0 0) D g [] [] [.int x90, .int x91, .int x92] none := by
  refine ct_of ⟨rfl, rfl⟩ (by decide) (Nat.le_of_ble_eq_true rfl) ?_
  intro p e s m args below meth c ls Q A H0 H locs E I hl K
  have E : en p m c cX4_needNumber 3 s args RX4 D g := E
  have hx := E.1.1
  have hb := E.1.2.1
  have hl : lv_has ls 3 [(0, .int x90), (1, .int x91), (2, .int x92)] := hl
  have K : ∀ (pc : Nat) (ls : Array Slot) (H : Heap) (locs : List Loc), wk D [] A H0 H locs → decode cX4_needNumber pc = .ok (.return_, 1) → W p l e (rmk 0 0) s m args below meth c H locs 0 0 Q (F0 m pc ls []) := fun pc ls H locs I hd => K pc ls H locs I hd
  have h : ((if x90 < x91 then .inl 1 else (if x90 ≤ x92 then .inr () else .inl 1)) : Nat ⊕ Unit) = .inr u' := h
  refine lv_iload_n hx hb dX4_needNumber_0 rfl (lv_at hl 0 rfl) ?_
  refine lv_iload_n hx hb dX4_needNumber_1 rfl (lv_at hl 1 rfl) ?_
  refine lv_icmp_lt (tgt := 10) hx hb dX4_needNumber_2 (by decide) (fun hc1 => ?_) (fun hc1 => ?_)
  · have h := ifp hc1 h
    cases h
  · have h := ifn hc1 h
    refine lv_iload_n hx hb dX4_needNumber_5 rfl (lv_at hl 0 rfl) ?_
    refine lv_iload_n hx hb dX4_needNumber_6 rfl (lv_at hl 2 rfl) ?_
    refine lv_icmp_le (tgt := 21) hx hb dX4_needNumber_7 (by decide) (fun hc2 => ?_) (fun hc2 => ?_)
    · have h := ifp hc2 h
      cases h
      exact K _ _ _ _ I dX4_needNumber_21
    · have h := ifn hc2 h
      cases h
set_option maxHeartbeats 4000000 in
set_option maxRecDepth 100000 in
theorem c1_keep {l : Launch} {D : va_G} {g : Nat → ClassId} {a : Nat → Nat} {st : CS} {o : CS} (h : f1_keep st = some o) : ct l yX1_keep cX1_keep 2 none (rmk 1 38) D g (cW g a st) (cW g a o) [.ref (a 5), .ref (a 1)] none := by
  refine ct_of ⟨rfl, rfl⟩ (by decide) (Nat.le_of_ble_eq_true rfl) ?_
  intro p e s m args below meth c ls Q A H0 H locs E I hl K
  have E : en p m c cX1_keep 2 s args RX1 D g := E
  have hx := E.1.1
  have hb := E.1.2.1
  have hl : lv_has ls 2 [(0, .ref (a 5)), (1, .ref (a 1))] := hl
  have K : ∀ (pc : Nat) (ls : Array Slot) (H : Heap) (locs : List Loc), wk D (cW g a o) A H0 H locs → decode cX1_keep pc = .ok (.return_, 1) → W p l e (rmk 1 38) s m args below meth c H locs 0 0 Q (F0 m pc ls []) := fun pc ls H locs I hd => K pc ls H locs I hd
  have h : ((if ib (((c_oldest st) + (c_held st)) - ((c_oldest st) + (c_held st)) / (6 : Int32) * (6 : Int32)) 6 = true then (if (6 : Int32) ≤ (c_held st) then some (c_oldest_s (c_kept_s st (va_up (c_kept st) (((c_oldest st) + (c_held st)) - ((c_oldest st) + (c_held st)) / (6 : Int32) * (6 : Int32)).toNatClampNeg (va_cpy (c_state st) ((c_kept st) (((c_oldest st) + (c_held st)) - ((c_oldest st) + (c_held st)) / (6 : Int32) * (6 : Int32)).toNatClampNeg) (0 : Int32).toNatClampNeg (0 : Int32).toNatClampNeg (26 : Int32).toNatClampNeg))) (((c_oldest st) + (1 : Int32)) - ((c_oldest st) + (1 : Int32)) / (6 : Int32) * (6 : Int32))) else some (c_held_s (c_kept_s st (va_up (c_kept st) (((c_oldest st) + (c_held st)) - ((c_oldest st) + (c_held st)) / (6 : Int32) * (6 : Int32)).toNatClampNeg (va_cpy (c_state st) ((c_kept st) (((c_oldest st) + (c_held st)) - ((c_oldest st) + (c_held st)) / (6 : Int32) * (6 : Int32)).toNatClampNeg) (0 : Int32).toNatClampNeg (0 : Int32).toNatClampNeg (26 : Int32).toNatClampNeg))) ((c_held st) + (1 : Int32)))) else none) : Option CS) = some o := h
  refine lv_aload_n hx hb dX1_keep_0 rfl (lv_at hl 1 rfl) ?_
  refine lv_iconst (v := (0 : Int32)) hx hb dX1_keep_1 (by decide) ?_
  refine lv_aload_n hx hb dX1_keep_2 rfl (lv_at hl 0 rfl) ?_
  refine g1_13 E I dX1_keep_3 ?_
  refine lv_aload_n hx hb dX1_keep_6 rfl (lv_at hl 0 rfl) ?_
  refine g1_20 E I (v := (c_oldest st)) rfl dX1_keep_7 ?_
  refine lv_aload_n hx hb dX1_keep_10 rfl (lv_at hl 0 rfl) ?_
  refine g1_16 E I (v := (c_held st)) rfl dX1_keep_11 ?_
  refine lv_iadd hx hb dX1_keep_14 ?_
  refine lv_bipush (v := (6 : Int32)) hx hb dX1_keep_15 (by decide) ?_
  refine lv_irem hx hb dX1_keep_17 (by decide) ?_
  obtain ⟨hc1, h⟩ := gd h
  refine c_al11 E I hc1 dX1_keep_18 ?_
  refine lv_iconst (v := (0 : Int32)) hx hb dX1_keep_19 (by decide) ?_
  refine lv_bipush (v := (26 : Int32)) hx hb dX1_keep_20 (by decide) ?_
  refine r_copy (ws' := (cW g a (c_kept_s st (va_up (c_kept st) (((c_oldest st) + (c_held st)) - ((c_oldest st) + (c_held st)) / (6 : Int32) * (6 : Int32)).toNatClampNeg (va_cpy (c_state st) ((c_kept st) (((c_oldest st) + (c_held st)) - ((c_oldest st) + (c_held st)) / (6 : Int32) * (6 : Int32)).toNatClampNeg) (0 : Int32).toNatClampNeg (0 : Int32).toNatClampNeg (26 : Int32).toNatClampNeg))))) (f := (c_state st)) (h := ((c_kept st) (((c_oldest st) + (c_held st)) - ((c_oldest st) + (c_held st)) / (6 : Int32) * (6 : Int32)).toNatClampNeg)) (rest := []) E I 1 (24 + (((c_oldest st) + (c_held st)) - ((c_oldest st) + (c_held st)) / (6 : Int32) * (6 : Int32)).toNatClampNeg) hl.1 ka1_23 aw_nat aw_stat aw_ini rfl (c_at11 (ib_lt hc1)) (by decide) (c_sa11 (ib_lt hc1)) (Nat.le_of_ble_eq_true rfl) (Nat.le_of_ble_eq_true rfl) dX1_keep_22 (fun H locs I => ?_)
  refine lv_aload_n hx hb dX1_keep_25 rfl (lv_at hl 0 rfl) ?_
  refine g1_16 E I (v := (c_held st)) rfl dX1_keep_26 ?_
  refine lv_bipush (v := (6 : Int32)) hx hb dX1_keep_29 (by decide) ?_
  refine lv_icmp_ge (tgt := 47) hx hb dX1_keep_31 (by decide) (fun hc2 => ?_) (fun hc2 => ?_)
  · have h := ifp hc2 h
    refine lv_aload_n hx hb dX1_keep_47 rfl (lv_at hl 0 rfl) ?_
    refine lv_aload_n hx hb dX1_keep_48 rfl (lv_at hl 0 rfl) ?_
    refine g1_20 E I (v := (c_oldest st)) rfl dX1_keep_49 ?_
    refine lv_iconst (v := (1 : Int32)) hx hb dX1_keep_52 (by decide) ?_
    refine lv_iadd hx hb dX1_keep_53 ?_
    refine lv_bipush (v := (6 : Int32)) hx hb dX1_keep_54 (by decide) ?_
    refine lv_irem hx hb dX1_keep_56 (by decide) ?_
    refine p1_20 E I dX1_keep_57 (fun H locs I => ?_)
    cases h
    exact K _ _ _ _ I dX1_keep_60
  · have h := ifn hc2 h
    refine lv_aload_n hx hb dX1_keep_34 rfl (lv_at hl 0 rfl) ?_
    refine lv_dup hx hb dX1_keep_35 rfl ?_
    refine g1_16 E I (v := (c_held st)) rfl dX1_keep_36 ?_
    refine lv_iconst (v := (1 : Int32)) hx hb dX1_keep_39 (by decide) ?_
    refine lv_iadd hx hb dX1_keep_40 ?_
    refine p1_16 E I dX1_keep_41 (fun H locs I => ?_)
    refine lv_goto (tgt := 60) hx hb dX1_keep_44 (by decide) ?_
    cases h
    exact K _ _ _ _ I dX1_keep_60
set_option maxHeartbeats 4000000 in
set_option maxRecDepth 100000 in
theorem c0_forget {l : Launch} {D : va_G} {g : Nat → ClassId} {a : Nat → Nat} {st : CS} {o : CS} (h : f0_forget st = o) : ct l yX0_forget cX0_forget 1 none (rmk 0 0) D g (cW g a st) (cW g a o) [.ref (a 7)] none := by
  refine ct_of ⟨rfl, rfl⟩ (by decide) (Nat.le_of_ble_eq_true rfl) ?_
  intro p e s m args below meth c ls Q A H0 H locs E I hl K
  have E : en p m c cX0_forget 1 s args RX0 D g := E
  have hx := E.1.1
  have hb := E.1.2.1
  have hl : lv_has ls 1 [(0, .ref (a 7))] := hl
  have K : ∀ (pc : Nat) (ls : Array Slot) (H : Heap) (locs : List Loc), wk D (cW g a o) A H0 H locs → decode cX0_forget pc = .ok (.return_, 1) → W p l e (rmk 0 0) s m args below meth c H locs 0 0 Q (F0 m pc ls []) := fun pc ls H locs I hd => K pc ls H locs I hd
  have h : ((c_eprep_s st (0 : Int32)) : CS) = o := h
  refine lv_aload_n hx hb dX0_forget_0 rfl (lv_at hl 0 rfl) ?_
  refine lv_iconst (v := (0 : Int32)) hx hb dX0_forget_1 (by decide) ?_
  refine p0_37 E I rfl dX0_forget_2 (fun H locs I => ?_)
  cases h
  exact K _ _ _ _ I dX0_forget_5
set_option maxHeartbeats 4000000 in
set_option maxRecDepth 100000 in
theorem c2_forget {l : Launch} {D : va_G} {g : Nat → ClassId} {a : Nat → Nat} {st : CS} {o : CS} (h : f2_forget st = o) : ct l yX2_forget cX2_forget 1 none (rmk 0 0) D g (cW g a st) (cW g a o) [.ref (a 8)] none := by
  refine ct_of ⟨rfl, rfl⟩ (by decide) (Nat.le_of_ble_eq_true rfl) ?_
  intro p e s m args below meth c ls Q A H0 H locs E I hl K
  have E : en p m c cX2_forget 1 s args RX2 D g := E
  have hx := E.1.1
  have hb := E.1.2.1
  have hl : lv_has ls 1 [(0, .ref (a 8))] := hl
  have K : ∀ (pc : Nat) (ls : Array Slot) (H : Heap) (locs : List Loc), wk D (cW g a o) A H0 H locs → decode cX2_forget pc = .ok (.return_, 1) → W p l e (rmk 0 0) s m args below meth c H locs 0 0 Q (F0 m pc ls []) := fun pc ls H locs I hd => K pc ls H locs I hd
  have h : ((c_lprep_s st (0 : Int32)) : CS) = o := h
  refine lv_aload_n hx hb dX2_forget_0 rfl (lv_at hl 0 rfl) ?_
  refine lv_iconst (v := (0 : Int32)) hx hb dX2_forget_1 (by decide) ?_
  refine p2_24 E I rfl dX2_forget_2 (fun H locs I => ?_)
  cases h
  exact K _ _ _ _ I dX2_forget_5
set_option maxHeartbeats 4000000 in
set_option maxRecDepth 100000 in
theorem c4_forgetTables {l : Launch} {D : va_G} {g : Nat → ClassId} {a : Nat → Nat} {st : CS} {o : CS} (h : f4_forgetTables st = o) : ct l yX4_forgetTables cX4_forgetTables 1 none (rmk 1 20) D g (cW g a st) (cW g a o) [.ref (a 0)] none := by
  refine ct_of ⟨rfl, rfl⟩ (by decide) (Nat.le_of_ble_eq_true rfl) ?_
  intro p e s m args below meth c ls Q A H0 H locs E I hl K
  have E : en p m c cX4_forgetTables 1 s args RX4 D g := E
  have hx := E.1.1
  have hb := E.1.2.1
  have hl : lv_has ls 1 [(0, .ref (a 0))] := hl
  have K : ∀ (pc : Nat) (ls : Array Slot) (H : Heap) (locs : List Loc), wk D (cW g a o) A H0 H locs → decode cX4_forgetTables pc = .ok (.return_, 1) → W p l e (rmk 1 20) s m args below meth c H locs 0 0 Q (F0 m pc ls []) := fun pc ls H locs I hd => K pc ls H locs I hd
  have h : ((f2_forget (f0_forget st)) : CS) = o := h
  refine lv_aload_n hx hb dX4_forgetTables_0 rfl (lv_at hl 0 rfl) ?_
  refine g4_42 E I dX4_forgetTables_1 ?_
  refine r_callV0 (As := []) (rest := []) (ws' := (cW g a (f0_forget st))) (q0 := 7) E I hl.1 k4_267 (c0_forget rfl) cW_k rfl rfl rfl rfl (Nat.le_of_ble_eq_true rfl) ⟨Nat.le_of_ble_eq_true rfl, Nat.le_of_ble_eq_true rfl⟩ ⟨Nat.zero_le _, Nat.zero_le _⟩ dX4_forgetTables_4 (fun H locs I => ?_)
  refine lv_aload_n hx hb dX4_forgetTables_7 rfl (lv_at hl 0 rfl) ?_
  refine g4_49 E I dX4_forgetTables_8 ?_
  refine r_callV0 (As := []) (rest := []) (ws' := (cW g a (f2_forget (f0_forget st)))) (q0 := 8) E I hl.1 k4_270 (c2_forget rfl) cW_k rfl rfl rfl rfl (Nat.le_of_ble_eq_true rfl) ⟨Nat.le_of_ble_eq_true rfl, Nat.le_of_ble_eq_true rfl⟩ ⟨Nat.zero_le _, Nat.zero_le _⟩ dX4_forgetTables_11 (fun H locs I => ?_)
  cases h
  exact K _ _ _ _ I dX4_forgetTables_14
set_option maxHeartbeats 4000000 in
set_option maxRecDepth 100000 in
theorem c4_keepState {l : Launch} {D : va_G} {g : Nat → ClassId} {a : Nat → Nat} {st : CS} {o : CS} (h : f4_keepState st = some o) : ct l yX4_keepState cX4_keepState 1 none (rmk 2 59) D g (cW g a st) (cW g a o) [.ref (a 0)] none := by
  refine ct_of ⟨rfl, rfl⟩ (by decide) (Nat.le_of_ble_eq_true rfl) ?_
  intro p e s m args below meth c ls Q A H0 H locs E I hl K
  have E : en p m c cX4_keepState 1 s args RX4 D g := E
  have hx := E.1.1
  have hb := E.1.2.1
  have hl : lv_has ls 1 [(0, .ref (a 0))] := hl
  have K : ∀ (pc : Nat) (ls : Array Slot) (H : Heap) (locs : List Loc), wk D (cW g a o) A H0 H locs → decode cX4_keepState pc = .ok (.return_, 1) → W p l e (rmk 2 59) s m args below meth c H locs 0 0 Q (F0 m pc ls []) := fun pc ls H locs I hd => K pc ls H locs I hd
  have h : ((bi1 (f1_keep st) fun st2 => some (f4_forgetTables st2)) : Option CS) = some o := h
  refine lv_aload_n hx hb dX4_keepState_0 rfl (lv_at hl 0 rfl) ?_
  refine g4_28 E I dX4_keepState_1 ?_
  refine lv_aload_n hx hb dX4_keepState_4 rfl (lv_at hl 0 rfl) ?_
  refine g4_9 E I dX4_keepState_5 ?_
  obtain ⟨st2, hc1, h⟩ := bx1 h
  refine r_callV0 (As := [.ref (a 1)]) (rest := []) (ws' := (cW g a st2)) (q0 := 5) E I hl.1 k4_271 (c1_keep hc1) cW_k rfl rfl rfl rfl (Nat.le_of_ble_eq_true rfl) ⟨Nat.le_of_ble_eq_true rfl, Nat.le_of_ble_eq_true rfl⟩ ⟨Nat.zero_le _, Nat.zero_le _⟩ dX4_keepState_8 (fun H locs I => ?_)
  refine lv_aload_n hx hb dX4_keepState_11 rfl (lv_at hl 0 rfl) ?_
  refine r_callV0 (As := []) (rest := []) (ws' := (cW g a (f4_forgetTables st2))) (q0 := 0) E I hl.1 k4_142 (c4_forgetTables rfl) cW_k rfl rfl rfl rfl (Nat.le_of_ble_eq_true rfl) ⟨Nat.le_of_ble_eq_true rfl, Nat.le_of_ble_eq_true rfl⟩ ⟨Nat.zero_le _, Nat.zero_le _⟩ dX4_keepState_12 (fun H locs I => ?_)
  cases h
  exact K _ _ _ _ I dX4_keepState_15
set_option maxHeartbeats 4000000 in
set_option maxRecDepth 100000 in
theorem c4_change {l : Launch} {D : va_G} {g : Nat → ClassId} {a : Nat → Nat} {st : CS} {x91 : Int32} {x92 : Int32} {o : CS × Int32} (h : f4_change st x91 x92 = some o) : ct l yX4_change cX4_change 4 (some .int) (rmk 3 79) D g (cW g a st) (cW g a o.1) [.ref (a 0), .int x91, .int x92] (some (.int o.2)) := by
  refine ct_of ⟨rfl, rfl⟩ (by decide) (Nat.le_of_ble_eq_true rfl) ?_
  intro p e s m args below meth c ls Q A H0 H locs E I hl K
  have E : en p m c cX4_change 4 s args RX4 D g := E
  have hx := E.1.1
  have hb := E.1.2.1
  have hl : lv_has ls 4 [(0, .ref (a 0)), (1, .int x91), (2, .int x92)] := hl
  have K : ∀ (pc : Nat) (ls : Array Slot) (H : Heap) (locs : List Loc), wk D (cW g a o.1) A H0 H locs → decode cX4_change pc = .ok (.ireturn, 1) → W p l e (rmk 3 79) s m args below meth c H locs 0 0 Q (F0 m pc ls [.int o.2]) := fun pc ls H locs I hd => K pc ls H locs I hd
  have h : ((bi1 (f4_keepState st) fun st2 => (if ib x91 26 = true then (if ib x91 26 = true then some ((c_state_s st2 (upd (c_state st2) x91.toNatClampNeg x92)), ((c_state st2) x91.toNatClampNeg)) else none) else none)) : Option (CS × Int32)) = some o := h
  refine lv_aload_n hx hb dX4_change_0 rfl (lv_at hl 0 rfl) ?_
  obtain ⟨st2, hc1, h⟩ := bx1 h
  refine r_callV0 (As := []) (rest := []) (ws' := (cW g a st2)) (q0 := 0) E I hl.1 k4_87 (c4_keepState hc1) cW_k rfl rfl rfl rfl (Nat.le_of_ble_eq_true rfl) ⟨Nat.le_of_ble_eq_true rfl, Nat.le_of_ble_eq_true rfl⟩ ⟨Nat.zero_le _, Nat.zero_le _⟩ dX4_change_1 (fun H locs I => ?_)
  refine lv_aload_n hx hb dX4_change_4 rfl (lv_at hl 0 rfl) ?_
  refine g4_9 E I dX4_change_5 ?_
  refine lv_iload_n hx hb dX4_change_8 rfl (lv_at hl 1 rfl) ?_
  obtain ⟨hc3, h⟩ := gd h
  refine c_ld1 E I (f := (c_state st2)) rfl hc3 dX4_change_9 ?_
  refine lv_istore_n (lv' := [(3, .int ((c_state st2) x91.toNatClampNeg)), (0, .ref (a 0)), (1, .int x91), (2, .int x92)]) hx hb dX4_change_10 rfl hl (by decide) rfl (fun ls hl => ?_)
  refine lv_aload_n hx hb dX4_change_11 rfl (lv_at hl 1 rfl) ?_
  refine g4_9 E I dX4_change_12 ?_
  refine lv_iload_n hx hb dX4_change_15 rfl (lv_at hl 2 rfl) ?_
  refine lv_iload_n hx hb dX4_change_16 rfl (lv_at hl 3 rfl) ?_
  obtain ⟨hc4, h⟩ := gd h
  refine c_st1 E I (f := (c_state st2)) rfl hc4 dX4_change_17 (fun H locs I => ?_)
  refine lv_iload_n hx hb dX4_change_18 rfl (lv_at hl 0 rfl) ?_
  cases h
  exact K _ _ _ _ I dX4_change_19
set_option maxHeartbeats 4000000 in
set_option maxRecDepth 100000 in
theorem c4_constant {l : Launch} {D : va_G} {g : Nat → ClassId} {a : Nat → Nat} {st : CS} {x91 : Int32} {x92 : Int32} {x93 : Int32} {st' : CS} {r' : Int32} (h : f4_constant st x91 x92 x93 = some (st', .inr r')) : ct l yX4_constant cX4_constant 4 (some .int) (rmk 4 102) D g (cW g a st) (cW g a st') [.ref (a 0), .int x91, .int x92, .int x93] (some (.int r')) := by
  refine ct_of ⟨rfl, rfl⟩ (by decide) (Nat.le_of_ble_eq_true rfl) ?_
  intro p e s m args below meth c ls Q A H0 H locs E I hl K
  have E : en p m c cX4_constant 4 s args RX4 D g := E
  have hx := E.1.1
  have hb := E.1.2.1
  have hl : lv_has ls 4 [(0, .ref (a 0)), (1, .int x91), (2, .int x92), (3, .int x93)] := hl
  have K : ∀ (pc : Nat) (ls : Array Slot) (H : Heap) (locs : List Loc), wk D (cW g a st') A H0 H locs → decode cX4_constant pc = .ok (.ireturn, 1) → W p l e (rmk 4 102) s m args below meth c H locs 0 0 Q (F0 m pc ls [.int r']) := fun pc ls H locs I hd => K pc ls H locs I hd
  have h : ((bt0 st (f4_needIndex x91 (3 : Int32)) fun (u2 : Unit) => (bt0 st (f4_needIndex x92 (4 : Int32)) fun (u4 : Unit) => (bt0 st (f4_needNumber x93 (0 : Int32) (9 : Int32)) fun (u6 : Unit) => (bi2 (f4_change st ((x91 * (8 : Int32)) + x92) x93) fun st8 r9 => some (st8, .inr r9))))) : Option (CS × (Nat ⊕ Int32))) = some (st', .inr r') := h
  refine lv_iload_n hx hb dX4_constant_0 rfl (lv_at hl 1 rfl) ?_
  refine lv_iconst (v := (3 : Int32)) hx hb dX4_constant_1 (by decide) ?_
  obtain ⟨u2, hc1, h⟩ := bt0n h
  refine r_callS0 (As := [.int x91, .int (3 : Int32)]) (rest := []) E I hl.1 k4_53 (c4_needIndex hc1) rfl rfl (Nat.le_of_ble_eq_true rfl) ⟨Nat.le_of_ble_eq_true rfl, Nat.le_of_ble_eq_true rfl⟩ ⟨Nat.zero_le _, Nat.zero_le _⟩ dX4_constant_2 (fun H locs I => ?_)
  refine lv_iload_n hx hb dX4_constant_5 rfl (lv_at hl 2 rfl) ?_
  refine lv_iconst (v := (4 : Int32)) hx hb dX4_constant_6 (by decide) ?_
  obtain ⟨u4, hc3, h⟩ := bt0n h
  refine r_callS0 (As := [.int x92, .int (4 : Int32)]) (rest := []) E I hl.1 k4_53 (c4_needIndex hc3) rfl rfl (Nat.le_of_ble_eq_true rfl) ⟨Nat.le_of_ble_eq_true rfl, Nat.le_of_ble_eq_true rfl⟩ ⟨Nat.zero_le _, Nat.zero_le _⟩ dX4_constant_7 (fun H locs I => ?_)
  refine lv_iload_n hx hb dX4_constant_10 rfl (lv_at hl 3 rfl) ?_
  refine lv_iconst (v := (0 : Int32)) hx hb dX4_constant_11 (by decide) ?_
  refine lv_bipush (v := (9 : Int32)) hx hb dX4_constant_12 (by decide) ?_
  obtain ⟨u6, hc5, h⟩ := bt0n h
  refine r_callS0 (As := [.int x93, .int (0 : Int32), .int (9 : Int32)]) (rest := []) E I hl.1 k4_57 (c4_needNumber hc5) rfl rfl (Nat.le_of_ble_eq_true rfl) ⟨Nat.le_of_ble_eq_true rfl, Nat.le_of_ble_eq_true rfl⟩ ⟨Nat.zero_le _, Nat.zero_le _⟩ dX4_constant_14 (fun H locs I => ?_)
  refine lv_aload_n hx hb dX4_constant_17 rfl (lv_at hl 0 rfl) ?_
  refine lv_iload_n hx hb dX4_constant_18 rfl (lv_at hl 1 rfl) ?_
  refine lv_bipush (v := (8 : Int32)) hx hb dX4_constant_19 (by decide) ?_
  refine lv_imul hx hb dX4_constant_21 ?_
  refine lv_iload_n hx hb dX4_constant_22 rfl (lv_at hl 2 rfl) ?_
  refine lv_iadd hx hb dX4_constant_23 ?_
  refine lv_iload_n hx hb dX4_constant_24 rfl (lv_at hl 3 rfl) ?_
  obtain ⟨st8, r9, hc7, h⟩ := bx2 h
  refine r_callV1 (As := [.int ((x91 * (8 : Int32)) + x92), .int x93]) (rest := []) (ws' := (cW g a st8)) (q0 := 0) E I hl.1 k4_61 (c4_change hc7) cW_k rfl rfl rfl rfl (Nat.le_of_ble_eq_true rfl) ⟨Nat.le_of_ble_eq_true rfl, Nat.le_of_ble_eq_true rfl⟩ ⟨Nat.zero_le _, Nat.zero_le _⟩ dX4_constant_25 (fun H locs I => ?_)
  cases h
  exact K _ _ _ _ I dX4_constant_28
set_option maxHeartbeats 4000000 in
set_option maxRecDepth 100000 in
theorem c4_variable {l : Launch} {D : va_G} {g : Nat → ClassId} {a : Nat → Nat} {st : CS} {x91 : Int32} {x92 : Int32} {x93 : Int32} {st' : CS} {r' : Int32} (h : f4_variable st x91 x92 x93 = some (st', .inr r')) : ct l yX4_variable cX4_variable 4 (some .int) (rmk 4 102) D g (cW g a st) (cW g a st') [.ref (a 0), .int x91, .int x92, .int x93] (some (.int r')) := by
  refine ct_of ⟨rfl, rfl⟩ (by decide) (Nat.le_of_ble_eq_true rfl) ?_
  intro p e s m args below meth c ls Q A H0 H locs E I hl K
  have E : en p m c cX4_variable 4 s args RX4 D g := E
  have hx := E.1.1
  have hb := E.1.2.1
  have hl : lv_has ls 4 [(0, .ref (a 0)), (1, .int x91), (2, .int x92), (3, .int x93)] := hl
  have K : ∀ (pc : Nat) (ls : Array Slot) (H : Heap) (locs : List Loc), wk D (cW g a st') A H0 H locs → decode cX4_variable pc = .ok (.ireturn, 1) → W p l e (rmk 4 102) s m args below meth c H locs 0 0 Q (F0 m pc ls [.int r']) := fun pc ls H locs I hd => K pc ls H locs I hd
  have h : ((bt0 st (f4_needIndex x91 (2 : Int32)) fun (u2 : Unit) => (bt0 st (f4_needIndex x92 (4 : Int32)) fun (u4 : Unit) => (bt0 st (f4_needNumber x93 (0 : Int32) (5 : Int32)) fun (u6 : Unit) => (bi2 (f4_change st (((x91 * (8 : Int32)) + (4 : Int32)) + x92) x93) fun st8 r9 => some (st8, .inr r9))))) : Option (CS × (Nat ⊕ Int32))) = some (st', .inr r') := h
  refine lv_iload_n hx hb dX4_variable_0 rfl (lv_at hl 1 rfl) ?_
  refine lv_iconst (v := (2 : Int32)) hx hb dX4_variable_1 (by decide) ?_
  obtain ⟨u2, hc1, h⟩ := bt0n h
  refine r_callS0 (As := [.int x91, .int (2 : Int32)]) (rest := []) E I hl.1 k4_53 (c4_needIndex hc1) rfl rfl (Nat.le_of_ble_eq_true rfl) ⟨Nat.le_of_ble_eq_true rfl, Nat.le_of_ble_eq_true rfl⟩ ⟨Nat.zero_le _, Nat.zero_le _⟩ dX4_variable_2 (fun H locs I => ?_)
  refine lv_iload_n hx hb dX4_variable_5 rfl (lv_at hl 2 rfl) ?_
  refine lv_iconst (v := (4 : Int32)) hx hb dX4_variable_6 (by decide) ?_
  obtain ⟨u4, hc3, h⟩ := bt0n h
  refine r_callS0 (As := [.int x92, .int (4 : Int32)]) (rest := []) E I hl.1 k4_53 (c4_needIndex hc3) rfl rfl (Nat.le_of_ble_eq_true rfl) ⟨Nat.le_of_ble_eq_true rfl, Nat.le_of_ble_eq_true rfl⟩ ⟨Nat.zero_le _, Nat.zero_le _⟩ dX4_variable_7 (fun H locs I => ?_)
  refine lv_iload_n hx hb dX4_variable_10 rfl (lv_at hl 3 rfl) ?_
  refine lv_iconst (v := (0 : Int32)) hx hb dX4_variable_11 (by decide) ?_
  refine lv_iconst (v := (5 : Int32)) hx hb dX4_variable_12 (by decide) ?_
  obtain ⟨u6, hc5, h⟩ := bt0n h
  refine r_callS0 (As := [.int x93, .int (0 : Int32), .int (5 : Int32)]) (rest := []) E I hl.1 k4_57 (c4_needNumber hc5) rfl rfl (Nat.le_of_ble_eq_true rfl) ⟨Nat.le_of_ble_eq_true rfl, Nat.le_of_ble_eq_true rfl⟩ ⟨Nat.zero_le _, Nat.zero_le _⟩ dX4_variable_13 (fun H locs I => ?_)
  refine lv_aload_n hx hb dX4_variable_16 rfl (lv_at hl 0 rfl) ?_
  refine lv_iload_n hx hb dX4_variable_17 rfl (lv_at hl 1 rfl) ?_
  refine lv_bipush (v := (8 : Int32)) hx hb dX4_variable_18 (by decide) ?_
  refine lv_imul hx hb dX4_variable_20 ?_
  refine lv_iconst (v := (4 : Int32)) hx hb dX4_variable_21 (by decide) ?_
  refine lv_iadd hx hb dX4_variable_22 ?_
  refine lv_iload_n hx hb dX4_variable_23 rfl (lv_at hl 2 rfl) ?_
  refine lv_iadd hx hb dX4_variable_24 ?_
  refine lv_iload_n hx hb dX4_variable_25 rfl (lv_at hl 3 rfl) ?_
  obtain ⟨st8, r9, hc7, h⟩ := bx2 h
  refine r_callV1 (As := [.int (((x91 * (8 : Int32)) + (4 : Int32)) + x92), .int x93]) (rest := []) (ws' := (cW g a st8)) (q0 := 0) E I hl.1 k4_61 (c4_change hc7) cW_k rfl rfl rfl rfl (Nat.le_of_ble_eq_true rfl) ⟨Nat.le_of_ble_eq_true rfl, Nat.le_of_ble_eq_true rfl⟩ ⟨Nat.zero_le _, Nat.zero_le _⟩ dX4_variable_26 (fun H locs I => ?_)
  cases h
  exact K _ _ _ _ I dX4_variable_29
set_option maxHeartbeats 4000000 in
set_option maxRecDepth 100000 in
theorem c4_draftFits {l : Launch} {D : va_G} {g : Nat → ClassId} {a : Nat → Nat} {st : CS} {x91 : Int32} {o : Int32} (h : f4_draftFits st x91 = some o) : ct l yX4_draftFits cX4_draftFits 4 (some .boolean) (rmk 0 0) D g (cW g a st) (cW g a st) [.ref (a 0), .int x91] (some (.int o)) := by
  refine ct_of ⟨rfl, rfl⟩ (by decide) (Nat.le_of_ble_eq_true rfl) ?_
  intro p e s m args below meth c ls Q A H0 H locs E I hl K
  have E : en p m c cX4_draftFits 4 s args RX4 D g := E
  have hx := E.1.1
  have hb := E.1.2.1
  have hl : lv_has ls 4 [(0, .ref (a 0)), (1, .int x91)] := hl
  have K : ∀ (pc : Nat) (ls : Array Slot) (H : Heap) (locs : List Loc), wk D (cW g a st) A H0 H locs → decode cX4_draftFits pc = .ok (.ireturn, 1) → zok o = true → W p l e (rmk 0 0) s m args below meth c H locs 0 0 Q (F0 m pc ls [.int o]) := fun pc ls H locs I hd hz => K pc ls H locs I ⟨hd, hz⟩
  have h : ((bi1 (wh (f4_draftFits_b13 st (if x91 = (2 : Int32) then (0 : Int32) else (5 : Int32))) FU (0 : Int32)) fun w19 => Sum.elim (fun w20 => some (1 : Int32)) (fun w21 => some (0 : Int32)) w19) : Option Int32) = some o := h
  refine lv_iload_n hx hb dX4_draftFits_0 rfl (lv_at hl 1 rfl) ?_
  refine lv_iconst (v := (2 : Int32)) hx hb dX4_draftFits_1 (by decide) ?_
  have J2 : ∀ (v1 : Int32) (H : Heap) (locs : List Loc), v1 = (if x91 = (2 : Int32) then (0 : Int32) else (5 : Int32)) → wk D (cW g a st) A H0 H locs → W p l e (rmk 0 0) s m args below meth c H locs 0 0 Q (F0 m 10 ls [.int v1]) := by
    intro v1 H locs hv3 I
    subst hv3
    refine lv_istore_n (lv' := [(2, .int (if x91 = (2 : Int32) then (0 : Int32) else (5 : Int32))), (0, .ref (a 0)), (1, .int x91)]) hx hb dX4_draftFits_10 rfl hl (by decide) rfl (fun ls hl => ?_)
    refine lv_iconst (v := (0 : Int32)) hx hb dX4_draftFits_11 (by decide) ?_
    refine lv_istore_n (lv' := [(3, .int (0 : Int32)), (2, .int (if x91 = (2 : Int32) then (0 : Int32) else (5 : Int32))), (0, .ref (a 0)), (1, .int x91)]) hx hb dX4_draftFits_12 rfl hl (by decide) rfl (fun ls hl => ?_)
    obtain ⟨z16, hw17, h⟩ := bx1 h
    refine wh_W (P := fun (z : Int32) => ∀ (H : Heap) (locs : List Loc) (ls : Array Slot), wk D (cW g a st) A H0 H locs → lv_has ls 4 [(0, .ref (a 0)), (2, .int (if x91 = (2 : Int32) then (0 : Int32) else (5 : Int32))), (3, .int z)] → W p l e (rmk 0 0) s m args below meth c H locs 0 0 Q (F0 m 13 ls [])) (X := Sum.elim (fun (z : Unit) => ∀ (H : Heap) (locs : List Loc) (ls : Array Slot), wk D (cW g a st) A H0 H locs → lv_has ls 4 [] → W p l e (rmk 0 0) s m args below meth c H locs 0 0 Q (F0 m 47 ls [])) (fun (z : Unit) => ∀ (H : Heap) (locs : List Loc) (ls : Array Slot), wk D (cW g a st) A H0 H locs → lv_has ls 4 [] → W p l e (rmk 0 0) s m args below meth c H locs 0 0 Q (F0 m 39 ls []))) ?_ FU _ _ hw17 ?_ _ _ _ I (lv_sub hl [2, 1, 0] rfl)
    · intro x6 o7 h hk8 H locs ls I hl
      have h : ((if (8 : Int32) ≤ x6 then some (.inr (.inl ())) else (if ib x6 8 = true then (if ((c_draft st) x6.toNatClampNeg) ≤ (if (4 : Int32) ≤ x6 then (if x91 = (2 : Int32) then (0 : Int32) else (5 : Int32)) else (9 : Int32)) then some (.inl (x6 + 1)) else some (.inr (.inr ()))) else none)) : Option ((Int32) ⊕ ((Unit) ⊕ (Unit)))) = some o7 := h
      have I : wk D (cW g a st) A H0 H locs := I
      have hl : lv_has ls 4 [(0, .ref (a 0)), (2, .int (if x91 = (2 : Int32) then (0 : Int32) else (5 : Int32))), (3, .int x6)] := hl
      refine lv_iload_n hx hb dX4_draftFits_13 rfl (lv_at hl 2 rfl) ?_
      refine lv_bipush (v := (8 : Int32)) hx hb dX4_draftFits_14 (by decide) ?_
      refine lv_icmp_ge (tgt := 47) hx hb dX4_draftFits_16 (by decide) (fun hc9 => ?_) (fun hc9 => ?_)
      · have h := ifp hc9 h
        cases h
        exact hk8 _ _ _ I (lv_sub hl [] rfl)
      · have h := ifn hc9 h
        refine lv_aload_n hx hb dX4_draftFits_19 rfl (lv_at hl 0 rfl) ?_
        refine g4_13 E I dX4_draftFits_20 ?_
        refine lv_iload_n hx hb dX4_draftFits_23 rfl (lv_at hl 2 rfl) ?_
        obtain ⟨hc10, h⟩ := gd h
        refine c_ld2 E I (f := (c_draft st)) rfl hc10 dX4_draftFits_24 ?_
        refine lv_iload_n hx hb dX4_draftFits_25 rfl (lv_at hl 2 rfl) ?_
        refine lv_iconst (v := (4 : Int32)) hx hb dX4_draftFits_26 (by decide) ?_
        have J12 : ∀ (v11 : Int32) (H : Heap) (locs : List Loc), v11 = (if (4 : Int32) ≤ x6 then (if x91 = (2 : Int32) then (0 : Int32) else (5 : Int32)) else (9 : Int32)) → wk D (cW g a st) A H0 H locs → W p l e (rmk 0 0) s m args below meth c H locs 0 0 Q (F0 m 36 ls [.int v11, .int ((c_draft st) x6.toNatClampNeg)]) := by
          intro v11 H locs hv13 I
          subst hv13
          refine lv_icmp_le (tgt := 41) hx hb dX4_draftFits_36 (by decide) (fun hc14 => ?_) (fun hc14 => ?_)
          · have h := ifp hc14 h
            refine lv_iinc (v := (x6 + 1)) (lv' := [(3, .int (x6 + 1)), (0, .ref (a 0)), (2, .int (if x91 = (2 : Int32) then (0 : Int32) else (5 : Int32)))]) hx hb dX4_draftFits_41 hl (k := 2) rfl rfl (by decide) rfl (fun ls hl => ?_)
            refine lv_goto (tgt := 13) hx hb dX4_draftFits_44 (by decide) ?_
            cases h
            exact hk8 _ _ _ I (lv_sub hl [1, 2, 0] rfl)
          · have h := ifn hc14 h
            cases h
            exact hk8 _ _ _ I (lv_sub hl [] rfl)
        refine lv_icmp_ge (tgt := 35) hx hb dX4_draftFits_27 (by decide) (fun hc15 => ?_) (fun hc15 => ?_)
        · refine lv_iload_n hx hb dX4_draftFits_35 rfl (lv_at hl 1 rfl) ?_
          exact J12 _ _ _ (by rw [if_pos hc15]) I
        · refine lv_bipush (v := (9 : Int32)) hx hb dX4_draftFits_30 (by decide) ?_
          refine lv_goto (tgt := 36) hx hb dX4_draftFits_32 (by decide) ?_
          exact J12 _ _ _ (by rw [if_neg hc15]) I
    · rcases z16 with z18 | z18
      · intro H locs ls I hl
        have h : (some (1 : Int32) : Option Int32) = some o := h
        have I : wk D (cW g a st) A H0 H locs := I
        have hl : lv_has ls 4 [] := hl
        refine lv_iconst (v := (1 : Int32)) hx hb dX4_draftFits_47 (by decide) ?_
        cases h
        exact K _ _ _ _ I dX4_draftFits_48 rfl
      · intro H locs ls I hl
        have h : (some (0 : Int32) : Option Int32) = some o := h
        have I : wk D (cW g a st) A H0 H locs := I
        have hl : lv_has ls 4 [] := hl
        refine lv_iconst (v := (0 : Int32)) hx hb dX4_draftFits_39 (by decide) ?_
        cases h
        exact K _ _ _ _ I dX4_draftFits_40 rfl
  refine lv_icmp_ne (tgt := 9) hx hb dX4_draftFits_2 (by decide) (fun hc22 => ?_) (fun hc22 => ?_)
  · refine lv_iconst (v := (5 : Int32)) hx hb dX4_draftFits_9 (by decide) ?_
    exact J2 _ _ _ (by rw [if_neg hc22]) I
  · refine lv_iconst (v := (0 : Int32)) hx hb dX4_draftFits_5 (by decide) ?_
    refine lv_goto (tgt := 10) hx hb dX4_draftFits_6 (by decide) ?_
    exact J2 _ _ _ (by rw [if_pos hc22]) I
set_option maxHeartbeats 4000000 in
set_option maxRecDepth 100000 in
theorem c4_factorsOf {l : Launch} {D : va_G} {g : Nat → ClassId} {a : Nat → Nat} {st : CS} {x91 : Int32} {o : Int32} (h : f4_factorsOf st x91 = some o) : ct l yX4_factorsOf cX4_factorsOf 4 (some .int) (rmk 0 0) D g (cW g a st) (cW g a st) [.ref (a 0), .int x91] (some (.int o)) := by
  refine ct_of ⟨rfl, rfl⟩ (by decide) (Nat.le_of_ble_eq_true rfl) ?_
  intro p e s m args below meth c ls Q A H0 H locs E I hl K
  have E : en p m c cX4_factorsOf 4 s args RX4 D g := E
  have hx := E.1.1
  have hb := E.1.2.1
  have hl : lv_has ls 4 [(0, .ref (a 0)), (1, .int x91)] := hl
  have K : ∀ (pc : Nat) (ls : Array Slot) (H : Heap) (locs : List Loc), wk D (cW g a st) A H0 H locs → decode cX4_factorsOf pc = .ok (.ireturn, 1) → W p l e (rmk 0 0) s m args below meth c H locs 0 0 Q (F0 m pc ls [.int o]) := fun pc ls H locs I hd => K pc ls H locs I hd
  have h : ((bi1 (wh (f4_factorsOf_b4 st x91) FU ((0 : Int32), (0 : Int32))) fun w14 => some w14) : Option Int32) = some o := h
  refine lv_iconst (v := (0 : Int32)) hx hb dX4_factorsOf_0 (by decide) ?_
  refine lv_istore_n (lv' := [(2, .int (0 : Int32)), (0, .ref (a 0)), (1, .int x91)]) hx hb dX4_factorsOf_1 rfl hl (by decide) rfl (fun ls hl => ?_)
  refine lv_iconst (v := (0 : Int32)) hx hb dX4_factorsOf_2 (by decide) ?_
  refine lv_istore_n (lv' := [(3, .int (0 : Int32)), (2, .int (0 : Int32)), (0, .ref (a 0)), (1, .int x91)]) hx hb dX4_factorsOf_3 rfl hl (by decide) rfl (fun ls hl => ?_)
  obtain ⟨z11, hw12, h⟩ := bx1 h
  refine wh_W (P := fun (z : Int32 × Int32) => ∀ (H : Heap) (locs : List Loc) (ls : Array Slot), wk D (cW g a st) A H0 H locs → lv_has ls 4 [(0, .ref (a 0)), (1, .int x91), (2, .int z.1), (3, .int z.2)] → W p l e (rmk 0 0) s m args below meth c H locs 0 0 Q (F0 m 4 ls [])) (X := fun (z : Int32) => ∀ (H : Heap) (locs : List Loc) (ls : Array Slot), wk D (cW g a st) A H0 H locs → lv_has ls 4 [(2, .int z)] → W p l e (rmk 0 0) s m args below meth c H locs 0 0 Q (F0 m 30 ls [])) ?_ FU _ _ hw12 ?_ _ _ _ I (lv_sub hl [2, 3, 1, 0] rfl)
  · intro z o5 h hk6 H locs ls I hl
    obtain ⟨x3, x4⟩ := z
    have h : ((if (8 : Int32) ≤ x4 then some (.inr x3) else (if ib ((x91 * (8 : Int32)) + x4) 26 = true then (lq (x3 + ((c_state st) ((x91 * (8 : Int32)) + x4).toNatClampNeg)) fun x9 => some (.inl (x9, (x4 + 1)))) else none)) : Option ((Int32 × Int32) ⊕ (Int32))) = some o5 := h
    have I : wk D (cW g a st) A H0 H locs := I
    have hl : lv_has ls 4 [(0, .ref (a 0)), (1, .int x91), (2, .int x3), (3, .int x4)] := hl
    refine lv_iload_n hx hb dX4_factorsOf_4 rfl (lv_at hl 3 rfl) ?_
    refine lv_bipush (v := (8 : Int32)) hx hb dX4_factorsOf_5 (by decide) ?_
    refine lv_icmp_ge (tgt := 30) hx hb dX4_factorsOf_7 (by decide) (fun hc7 => ?_) (fun hc7 => ?_)
    · have h := ifp hc7 h
      cases h
      exact hk6 _ _ _ I (lv_sub hl [2] rfl)
    · have h := ifn hc7 h
      refine lv_iload_n hx hb dX4_factorsOf_10 rfl (lv_at hl 2 rfl) ?_
      refine lv_aload_n hx hb dX4_factorsOf_11 rfl (lv_at hl 0 rfl) ?_
      refine g4_9 E I dX4_factorsOf_12 ?_
      refine lv_iload_n hx hb dX4_factorsOf_15 rfl (lv_at hl 1 rfl) ?_
      refine lv_bipush (v := (8 : Int32)) hx hb dX4_factorsOf_16 (by decide) ?_
      refine lv_imul hx hb dX4_factorsOf_18 ?_
      refine lv_iload_n hx hb dX4_factorsOf_19 rfl (lv_at hl 3 rfl) ?_
      refine lv_iadd hx hb dX4_factorsOf_20 ?_
      obtain ⟨hc8, h⟩ := gd h
      refine c_ld1 E I (f := (c_state st)) rfl hc8 dX4_factorsOf_21 ?_
      refine lv_iadd hx hb dX4_factorsOf_22 ?_
      obtain ⟨x9, hx10, h⟩ := lqx h
      refine lv_istore_n (x := (x3 + ((c_state st) ((x91 * (8 : Int32)) + x4).toNatClampNeg))) (lv' := [(2, .int x9), (0, .ref (a 0)), (1, .int x91), (3, .int x4)]) hx hb dX4_factorsOf_23 rfl hl (by decide) (by subst hx10; rfl) (fun ls hl => ?_)
      refine lv_iinc (v := (x4 + 1)) (lv' := [(3, .int (x4 + 1)), (2, .int x9), (0, .ref (a 0)), (1, .int x91)]) hx hb dX4_factorsOf_24 hl (k := 3) rfl rfl (by decide) rfl (fun ls hl => ?_)
      refine lv_goto (tgt := 4) hx hb dX4_factorsOf_27 (by decide) ?_
      cases h
      exact hk6 _ _ _ I (lv_sub hl [2, 3, 1, 0] rfl)
  · obtain ⟨x13, rfl⟩ : ∃ y, y = z11 := ⟨_, rfl⟩
    intro H locs ls I hl
    have h : (some x13 : Option Int32) = some o := h
    have I : wk D (cW g a st) A H0 H locs := I
    have hl : lv_has ls 4 [(2, .int x13)] := hl
    refine lv_iload_n hx hb dX4_factorsOf_30 rfl (lv_at hl 0 rfl) ?_
    cases h
    exact K _ _ _ _ I dX4_factorsOf_31
set_option maxHeartbeats 4000000 in
set_option maxRecDepth 100000 in
theorem c4_putDraft {l : Launch} {D : va_G} {g : Nat → ClassId} {a : Nat → Nat} {st : CS} {x91 : Int32} {st' : CS} {r' : Int32} (h : f4_putDraft st x91 = some (st', .inr r')) : ct l yX4_putDraft cX4_putDraft 3 (some .int) (rmk 3 79) D g (cW g a st) (cW g a st') [.ref (a 0), .int x91] (some (.int r')) := by
  refine ct_of ⟨rfl, rfl⟩ (by decide) (Nat.le_of_ble_eq_true rfl) ?_
  intro p e s m args below meth c ls Q A H0 H locs E I hl K
  have E : en p m c cX4_putDraft 3 s args RX4 D g := E
  have hx := E.1.1
  have hb := E.1.2.1
  have hl : lv_has ls 3 [(0, .ref (a 0)), (1, .int x91)] := hl
  have K : ∀ (pc : Nat) (ls : Array Slot) (H : Heap) (locs : List Loc), wk D (cW g a st') A H0 H locs → decode cX4_putDraft pc = .ok (.ireturn, 1) → W p l e (rmk 3 79) s m args below meth c H locs 0 0 Q (F0 m pc ls [.int r']) := fun pc ls H locs I hd => K pc ls H locs I hd
  have h : ((bi1 (f4_draftFits st x91) fun r2 => (if r2 = 0 then some (st, .inl 2) else (bi1 (f4_keepState st) fun st5 => (bi1 (wh (f4_putDraft_b25 x91) FU (st5, (0 : Int32))) fun w19 => (bi1 (f4_factorsOf w19 x91) fun r18 => some (w19, .inr r18)))))) : Option (CS × (Nat ⊕ Int32))) = some (st', .inr r') := h
  refine lv_aload_n hx hb dX4_putDraft_0 rfl (lv_at hl 0 rfl) ?_
  refine lv_iload_n hx hb dX4_putDraft_1 rfl (lv_at hl 1 rfl) ?_
  obtain ⟨r2, hc1, h⟩ := bx1 h
  refine r_callV1 (As := [.int x91]) (rest := []) (ws' := (cW g a st)) (q0 := 0) E I hl.1 k4_274 (c4_draftFits hc1) cW_k rfl rfl rfl rfl (Nat.le_of_ble_eq_true rfl) ⟨Nat.le_of_ble_eq_true rfl, Nat.le_of_ble_eq_true rfl⟩ ⟨Nat.zero_le _, Nat.zero_le _⟩ dX4_putDraft_2 (fun H locs I => ?_)
  refine lv_if_ne (tgt := 19) hx hb dX4_putDraft_5 (by decide) (fun hc3 => ?_) (fun hc3 => ?_)
  · have h := ifn hc3 h
    refine lv_aload_n hx hb dX4_putDraft_19 rfl (lv_at hl 0 rfl) ?_
    obtain ⟨st5, hc4, h⟩ := bx1 h
    refine r_callV0 (As := []) (rest := []) (ws' := (cW g a st5)) (q0 := 0) E I hl.1 k4_87 (c4_keepState hc4) cW_k rfl rfl rfl rfl (Nat.le_of_ble_eq_true rfl) ⟨Nat.le_of_ble_eq_true rfl, Nat.le_of_ble_eq_true rfl⟩ ⟨Nat.zero_le _, Nat.zero_le _⟩ dX4_putDraft_20 (fun H locs I => ?_)
    refine lv_iconst (v := (0 : Int32)) hx hb dX4_putDraft_23 (by decide) ?_
    refine lv_istore_n (lv' := [(2, .int (0 : Int32)), (0, .ref (a 0)), (1, .int x91)]) hx hb dX4_putDraft_24 rfl hl (by decide) rfl (fun ls hl => ?_)
    obtain ⟨z14, hw15, h⟩ := bx1 h
    refine wh_W (P := fun (z : CS × Int32) => ∀ (H : Heap) (locs : List Loc) (ls : Array Slot), wk D (cW g a z.1) A H0 H locs → lv_has ls 3 [(0, .ref (a 0)), (1, .int x91), (2, .int z.2)] → W p l e (rmk 3 79) s m args below meth c H locs 0 0 Q (F0 m 25 ls [])) (X := fun (z : CS) => ∀ (H : Heap) (locs : List Loc) (ls : Array Slot), wk D (cW g a z) A H0 H locs → lv_has ls 3 [(0, .ref (a 0)), (1, .int x91)] → W p l e (rmk 3 79) s m args below meth c H locs 0 0 Q (F0 m 54 ls [])) ?_ FU _ _ hw15 ?_ _ _ _ I (lv_sub hl [1, 2, 0] rfl)
    · intro z o9 h hk10 H locs ls I hl
      obtain ⟨st6, x8⟩ := z
      have h : ((if (8 : Int32) ≤ x8 then some (.inr st6) else (if ib x8 8 = true then (if ib ((x91 * (8 : Int32)) + x8) 26 = true then some (.inl ((c_state_s st6 (upd (c_state st6) ((x91 * (8 : Int32)) + x8).toNatClampNeg ((c_draft st6) x8.toNatClampNeg))), (x8 + 1))) else none) else none)) : Option ((CS × Int32) ⊕ (CS))) = some o9 := h
      have I : wk D (cW g a st6) A H0 H locs := I
      have hl : lv_has ls 3 [(0, .ref (a 0)), (1, .int x91), (2, .int x8)] := hl
      refine lv_iload_n hx hb dX4_putDraft_25 rfl (lv_at hl 2 rfl) ?_
      refine lv_bipush (v := (8 : Int32)) hx hb dX4_putDraft_26 (by decide) ?_
      refine lv_icmp_ge (tgt := 54) hx hb dX4_putDraft_28 (by decide) (fun hc11 => ?_) (fun hc11 => ?_)
      · have h := ifp hc11 h
        cases h
        exact hk10 _ _ _ I (lv_sub hl [0, 1] rfl)
      · have h := ifn hc11 h
        refine lv_aload_n hx hb dX4_putDraft_31 rfl (lv_at hl 0 rfl) ?_
        refine g4_9 E I dX4_putDraft_32 ?_
        refine lv_iload_n hx hb dX4_putDraft_35 rfl (lv_at hl 1 rfl) ?_
        refine lv_bipush (v := (8 : Int32)) hx hb dX4_putDraft_36 (by decide) ?_
        refine lv_imul hx hb dX4_putDraft_38 ?_
        refine lv_iload_n hx hb dX4_putDraft_39 rfl (lv_at hl 2 rfl) ?_
        refine lv_iadd hx hb dX4_putDraft_40 ?_
        refine lv_aload_n hx hb dX4_putDraft_41 rfl (lv_at hl 0 rfl) ?_
        refine g4_13 E I dX4_putDraft_42 ?_
        refine lv_iload_n hx hb dX4_putDraft_45 rfl (lv_at hl 2 rfl) ?_
        obtain ⟨hc12, h⟩ := gd h
        refine c_ld2 E I (f := (c_draft st6)) rfl hc12 dX4_putDraft_46 ?_
        obtain ⟨hc13, h⟩ := gd h
        refine c_st1 E I (f := (c_state st6)) rfl hc13 dX4_putDraft_47 (fun H locs I => ?_)
        refine lv_iinc (v := (x8 + 1)) (lv' := [(2, .int (x8 + 1)), (0, .ref (a 0)), (1, .int x91)]) hx hb dX4_putDraft_48 hl (k := 2) rfl rfl (by decide) rfl (fun ls hl => ?_)
        refine lv_goto (tgt := 25) hx hb dX4_putDraft_51 (by decide) ?_
        cases h
        exact hk10 _ _ _ I (lv_sub hl [1, 2, 0] rfl)
    · obtain ⟨st16, rfl⟩ : ∃ y, y = z14 := ⟨_, rfl⟩
      intro H locs ls I hl
      have h : ((bi1 (f4_factorsOf st16 x91) fun r18 => some (st16, .inr r18)) : Option (CS × (Nat ⊕ Int32))) = some (st', .inr r') := h
      have I : wk D (cW g a st16) A H0 H locs := I
      have hl : lv_has ls 3 [(0, .ref (a 0)), (1, .int x91)] := hl
      refine lv_aload_n hx hb dX4_putDraft_54 rfl (lv_at hl 0 rfl) ?_
      refine lv_iload_n hx hb dX4_putDraft_55 rfl (lv_at hl 1 rfl) ?_
      obtain ⟨r18, hc17, h⟩ := bx1 h
      refine r_callV1 (As := [.int x91]) (rest := []) (ws' := (cW g a st16)) (q0 := 0) E I hl.1 k4_174 (c4_factorsOf hc17) cW_k rfl rfl rfl rfl (Nat.le_of_ble_eq_true rfl) ⟨Nat.le_of_ble_eq_true rfl, Nat.le_of_ble_eq_true rfl⟩ ⟨Nat.zero_le _, Nat.zero_le _⟩ dX4_putDraft_56 (fun H locs I => ?_)
      cases h
      exact K _ _ _ _ I dX4_putDraft_59
  · have h := ifp hc3 h
    cases h
set_option maxHeartbeats 4000000 in
set_option maxRecDepth 100000 in
theorem c4_multiply {l : Launch} {D : va_G} {g : Nat → ClassId} {a : Nat → Nat} {st : CS} {x91 : Int32} {x92 : Int32} {st' : CS} {r' : Int32} (h : f4_multiply st x91 x92 = some (st', .inr r')) : ct l yX4_multiply cX4_multiply 4 (some .int) (rmk 4 101) D g (cW g a st) (cW g a st') [.ref (a 0), .int x91, .int x92] (some (.int r')) := by
  refine ct_of ⟨rfl, rfl⟩ (by decide) (Nat.le_of_ble_eq_true rfl) ?_
  intro p e s m args below meth c ls Q A H0 H locs E I hl K
  have E : en p m c cX4_multiply 4 s args RX4 D g := E
  have hx := E.1.1
  have hb := E.1.2.1
  have hl : lv_has ls 4 [(0, .ref (a 0)), (1, .int x91), (2, .int x92)] := hl
  have K : ∀ (pc : Nat) (ls : Array Slot) (H : Heap) (locs : List Loc), wk D (cW g a st') A H0 H locs → decode cX4_multiply pc = .ok (.ireturn, 1) → W p l e (rmk 4 101) s m args below meth c H locs 0 0 Q (F0 m pc ls [.int r']) := fun pc ls H locs I hd => K pc ls H locs I hd
  have h : ((bt0 st (f4_needIndex x91 (3 : Int32)) fun (u2 : Unit) => (bt0 st (f4_needIndex x92 (3 : Int32)) fun (u4 : Unit) => (bi1 (wh (f4_multiply_b12 x91 x92) FU (st, (0 : Int32))) fun w21 => (bt2 (f4_putDraft w21 x91) fun st19 r20 => some (st19, .inr r20))))) : Option (CS × (Nat ⊕ Int32))) = some (st', .inr r') := h
  refine lv_iload_n hx hb dX4_multiply_0 rfl (lv_at hl 1 rfl) ?_
  refine lv_iconst (v := (3 : Int32)) hx hb dX4_multiply_1 (by decide) ?_
  obtain ⟨u2, hc1, h⟩ := bt0n h
  refine r_callS0 (As := [.int x91, .int (3 : Int32)]) (rest := []) E I hl.1 k4_53 (c4_needIndex hc1) rfl rfl (Nat.le_of_ble_eq_true rfl) ⟨Nat.le_of_ble_eq_true rfl, Nat.le_of_ble_eq_true rfl⟩ ⟨Nat.zero_le _, Nat.zero_le _⟩ dX4_multiply_2 (fun H locs I => ?_)
  refine lv_iload_n hx hb dX4_multiply_5 rfl (lv_at hl 2 rfl) ?_
  refine lv_iconst (v := (3 : Int32)) hx hb dX4_multiply_6 (by decide) ?_
  obtain ⟨u4, hc3, h⟩ := bt0n h
  refine r_callS0 (As := [.int x92, .int (3 : Int32)]) (rest := []) E I hl.1 k4_53 (c4_needIndex hc3) rfl rfl (Nat.le_of_ble_eq_true rfl) ⟨Nat.le_of_ble_eq_true rfl, Nat.le_of_ble_eq_true rfl⟩ ⟨Nat.zero_le _, Nat.zero_le _⟩ dX4_multiply_7 (fun H locs I => ?_)
  refine lv_iconst (v := (0 : Int32)) hx hb dX4_multiply_10 (by decide) ?_
  refine lv_istore_n (lv' := [(3, .int (0 : Int32)), (0, .ref (a 0)), (1, .int x91), (2, .int x92)]) hx hb dX4_multiply_11 rfl hl (by decide) rfl (fun ls hl => ?_)
  obtain ⟨z15, hw16, h⟩ := bx1 h
  refine wh_W (P := fun (z : CS × Int32) => ∀ (H : Heap) (locs : List Loc) (ls : Array Slot), wk D (cW g a z.1) A H0 H locs → lv_has ls 4 [(0, .ref (a 0)), (1, .int x91), (2, .int x92), (3, .int z.2)] → W p l e (rmk 4 101) s m args below meth c H locs 0 0 Q (F0 m 12 ls [])) (X := fun (z : CS) => ∀ (H : Heap) (locs : List Loc) (ls : Array Slot), wk D (cW g a z) A H0 H locs → lv_has ls 4 [(0, .ref (a 0)), (1, .int x91)] → W p l e (rmk 4 101) s m args below meth c H locs 0 0 Q (F0 m 53 ls [])) ?_ FU _ _ hw16 ?_ _ _ _ I (lv_sub hl [1, 2, 3, 0] rfl)
  · intro z o9 h hk10 H locs ls I hl
    obtain ⟨st5, x8⟩ := z
    have h : ((if (8 : Int32) ≤ x8 then some (.inr st5) else (if ib ((x91 * (8 : Int32)) + x8) 26 = true then (if ib ((x92 * (8 : Int32)) + x8) 26 = true then (if ib x8 8 = true then some (.inl ((c_draft_s st5 (upd (c_draft st5) x8.toNatClampNeg (((c_state st5) ((x91 * (8 : Int32)) + x8).toNatClampNeg) + ((c_state st5) ((x92 * (8 : Int32)) + x8).toNatClampNeg)))), (x8 + 1))) else none) else none) else none)) : Option ((CS × Int32) ⊕ (CS))) = some o9 := h
    have I : wk D (cW g a st5) A H0 H locs := I
    have hl : lv_has ls 4 [(0, .ref (a 0)), (1, .int x91), (2, .int x92), (3, .int x8)] := hl
    refine lv_iload_n hx hb dX4_multiply_12 rfl (lv_at hl 3 rfl) ?_
    refine lv_bipush (v := (8 : Int32)) hx hb dX4_multiply_13 (by decide) ?_
    refine lv_icmp_ge (tgt := 53) hx hb dX4_multiply_15 (by decide) (fun hc11 => ?_) (fun hc11 => ?_)
    · have h := ifp hc11 h
      cases h
      exact hk10 _ _ _ I (lv_sub hl [0, 1] rfl)
    · have h := ifn hc11 h
      refine lv_aload_n hx hb dX4_multiply_18 rfl (lv_at hl 0 rfl) ?_
      refine g4_13 E I dX4_multiply_19 ?_
      refine lv_iload_n hx hb dX4_multiply_22 rfl (lv_at hl 3 rfl) ?_
      refine lv_aload_n hx hb dX4_multiply_23 rfl (lv_at hl 0 rfl) ?_
      refine g4_9 E I dX4_multiply_24 ?_
      refine lv_iload_n hx hb dX4_multiply_27 rfl (lv_at hl 1 rfl) ?_
      refine lv_bipush (v := (8 : Int32)) hx hb dX4_multiply_28 (by decide) ?_
      refine lv_imul hx hb dX4_multiply_30 ?_
      refine lv_iload_n hx hb dX4_multiply_31 rfl (lv_at hl 3 rfl) ?_
      refine lv_iadd hx hb dX4_multiply_32 ?_
      obtain ⟨hc12, h⟩ := gd h
      refine c_ld1 E I (f := (c_state st5)) rfl hc12 dX4_multiply_33 ?_
      refine lv_aload_n hx hb dX4_multiply_34 rfl (lv_at hl 0 rfl) ?_
      refine g4_9 E I dX4_multiply_35 ?_
      refine lv_iload_n hx hb dX4_multiply_38 rfl (lv_at hl 2 rfl) ?_
      refine lv_bipush (v := (8 : Int32)) hx hb dX4_multiply_39 (by decide) ?_
      refine lv_imul hx hb dX4_multiply_41 ?_
      refine lv_iload_n hx hb dX4_multiply_42 rfl (lv_at hl 3 rfl) ?_
      refine lv_iadd hx hb dX4_multiply_43 ?_
      obtain ⟨hc13, h⟩ := gd h
      refine c_ld1 E I (f := (c_state st5)) rfl hc13 dX4_multiply_44 ?_
      refine lv_iadd hx hb dX4_multiply_45 ?_
      obtain ⟨hc14, h⟩ := gd h
      refine c_st2 E I (f := (c_draft st5)) rfl hc14 dX4_multiply_46 (fun H locs I => ?_)
      refine lv_iinc (v := (x8 + 1)) (lv' := [(3, .int (x8 + 1)), (0, .ref (a 0)), (1, .int x91), (2, .int x92)]) hx hb dX4_multiply_47 hl (k := 3) rfl rfl (by decide) rfl (fun ls hl => ?_)
      refine lv_goto (tgt := 12) hx hb dX4_multiply_50 (by decide) ?_
      cases h
      exact hk10 _ _ _ I (lv_sub hl [1, 2, 3, 0] rfl)
  · obtain ⟨st17, rfl⟩ : ∃ y, y = z15 := ⟨_, rfl⟩
    intro H locs ls I hl
    have h : ((bt2 (f4_putDraft st17 x91) fun st19 r20 => some (st19, .inr r20)) : Option (CS × (Nat ⊕ Int32))) = some (st', .inr r') := h
    have I : wk D (cW g a st17) A H0 H locs := I
    have hl : lv_has ls 4 [(0, .ref (a 0)), (1, .int x91)] := hl
    refine lv_aload_n hx hb dX4_multiply_53 rfl (lv_at hl 0 rfl) ?_
    refine lv_iload_n hx hb dX4_multiply_54 rfl (lv_at hl 1 rfl) ?_
    obtain ⟨st19, r20, hc18, h⟩ := bt2n h
    refine r_callV1 (As := [.int x91]) (rest := []) (ws' := (cW g a st19)) (q0 := 0) E I hl.1 k4_65 (c4_putDraft hc18) cW_k rfl rfl rfl rfl (Nat.le_of_ble_eq_true rfl) ⟨Nat.le_of_ble_eq_true rfl, Nat.le_of_ble_eq_true rfl⟩ ⟨Nat.zero_le _, Nat.zero_le _⟩ dX4_multiply_55 (fun H locs I => ?_)
    cases h
    exact K _ _ _ _ I dX4_multiply_58
set_option maxHeartbeats 4000000 in
set_option maxRecDepth 100000 in
theorem c4_cancel {l : Launch} {D : va_G} {g : Nat → ClassId} {a : Nat → Nat} {st : CS} {x91 : Int32} {x92 : Int32} {st' : CS} {r' : Int32} (h : f4_cancel st x91 x92 = some (st', .inr r')) : ct l yX4_cancel cX4_cancel 8 (some .int) (rmk 3 79) D g (cW g a st) (cW g a st') [.ref (a 0), .int x91, .int x92] (some (.int r')) := by
  refine ct_of ⟨rfl, rfl⟩ (by decide) (Nat.le_of_ble_eq_true rfl) ?_
  intro p e s m args below meth c ls Q A H0 H locs E I hl K
  have E : en p m c cX4_cancel 8 s args RX4 D g := E
  have hx := E.1.1
  have hb := E.1.2.1
  have hl : lv_has ls 8 [(0, .ref (a 0)), (1, .int x91), (2, .int x92)] := hl
  have K : ∀ (pc : Nat) (ls : Array Slot) (H : Heap) (locs : List Loc), wk D (cW g a st') A H0 H locs → decode cX4_cancel pc = .ok (.ireturn, 1) → W p l e (rmk 3 79) s m args below meth c H locs 0 0 Q (F0 m pc ls [.int r']) := fun pc ls H locs I hd => K pc ls H locs I hd
  have h : ((bt0 st (f4_needIndex x91 (3 : Int32)) fun (u2 : Unit) => (bt0 st (f4_needIndex x92 (3 : Int32)) fun (u4 : Unit) => (bi1 (f4_keepState st) fun st6 => (bi1 (wh (f4_cancel_b19 x91 x92) FU (st6, (0 : Int32), (0 : Int32))) fun w25 => some (w25.1, .inr w25.2))))) : Option (CS × (Nat ⊕ Int32))) = some (st', .inr r') := h
  refine lv_iload_n hx hb dX4_cancel_0 rfl (lv_at hl 1 rfl) ?_
  refine lv_iconst (v := (3 : Int32)) hx hb dX4_cancel_1 (by decide) ?_
  obtain ⟨u2, hc1, h⟩ := bt0n h
  refine r_callS0 (As := [.int x91, .int (3 : Int32)]) (rest := []) E I hl.1 k4_53 (c4_needIndex hc1) rfl rfl (Nat.le_of_ble_eq_true rfl) ⟨Nat.le_of_ble_eq_true rfl, Nat.le_of_ble_eq_true rfl⟩ ⟨Nat.zero_le _, Nat.zero_le _⟩ dX4_cancel_2 (fun H locs I => ?_)
  refine lv_iload_n hx hb dX4_cancel_5 rfl (lv_at hl 2 rfl) ?_
  refine lv_iconst (v := (3 : Int32)) hx hb dX4_cancel_6 (by decide) ?_
  obtain ⟨u4, hc3, h⟩ := bt0n h
  refine r_callS0 (As := [.int x92, .int (3 : Int32)]) (rest := []) E I hl.1 k4_53 (c4_needIndex hc3) rfl rfl (Nat.le_of_ble_eq_true rfl) ⟨Nat.le_of_ble_eq_true rfl, Nat.le_of_ble_eq_true rfl⟩ ⟨Nat.zero_le _, Nat.zero_le _⟩ dX4_cancel_7 (fun H locs I => ?_)
  refine lv_aload_n hx hb dX4_cancel_10 rfl (lv_at hl 0 rfl) ?_
  obtain ⟨st6, hc5, h⟩ := bx1 h
  refine r_callV0 (As := []) (rest := []) (ws' := (cW g a st6)) (q0 := 0) E I hl.1 k4_87 (c4_keepState hc5) cW_k rfl rfl rfl rfl (Nat.le_of_ble_eq_true rfl) ⟨Nat.le_of_ble_eq_true rfl, Nat.le_of_ble_eq_true rfl⟩ ⟨Nat.zero_le _, Nat.zero_le _⟩ dX4_cancel_11 (fun H locs I => ?_)
  refine lv_iconst (v := (0 : Int32)) hx hb dX4_cancel_14 (by decide) ?_
  refine lv_istore_n (lv' := [(3, .int (0 : Int32)), (0, .ref (a 0)), (1, .int x91), (2, .int x92)]) hx hb dX4_cancel_15 rfl hl (by decide) rfl (fun ls hl => ?_)
  refine lv_iconst (v := (0 : Int32)) hx hb dX4_cancel_16 (by decide) ?_
  refine lv_istore (lv' := [(4, .int (0 : Int32)), (3, .int (0 : Int32)), (0, .ref (a 0)), (1, .int x91), (2, .int x92)]) hx hb dX4_cancel_17 hl (by decide) rfl (fun ls hl => ?_)
  obtain ⟨z21, hw22, h⟩ := bx1 h
  refine wh_W (P := fun (z : CS × Int32 × Int32) => ∀ (H : Heap) (locs : List Loc) (ls : Array Slot), wk D (cW g a z.1) A H0 H locs → lv_has ls 8 [(0, .ref (a 0)), (1, .int x91), (2, .int x92), (3, .int z.2.1), (4, .int z.2.2)] → W p l e (rmk 3 79) s m args below meth c H locs 0 0 Q (F0 m 19 ls [])) (X := fun (z : CS × Int32) => ∀ (H : Heap) (locs : List Loc) (ls : Array Slot), wk D (cW g a z.1) A H0 H locs → lv_has ls 8 [(3, .int z.2)] → W p l e (rmk 3 79) s m args below meth c H locs 0 0 Q (F0 m 108 ls [])) ?_ FU _ _ hw22 ?_ _ _ _ I (lv_sub hl [2, 3, 4, 1, 0] rfl)
  · intro z o12 h hk13 H locs ls I hl
    obtain ⟨st7, x10, x11⟩ := z
    have h : ((if (8 : Int32) ≤ x11 then some (.inr (st7, x10)) else (if ib ((x91 * (8 : Int32)) + x11) 26 = true then (if ib ((x92 * (8 : Int32)) + x11) 26 = true then (lq (if ((c_state st7) ((x92 * (8 : Int32)) + x11).toNatClampNeg) < ((c_state st7) ((x91 * (8 : Int32)) + x11).toNatClampNeg) then ((c_state st7) ((x92 * (8 : Int32)) + x11).toNatClampNeg) else ((c_state st7) ((x91 * (8 : Int32)) + x11).toNatClampNeg)) fun x17 => (if ib ((x91 * (8 : Int32)) + x11) 26 = true then (if ib ((x92 * (8 : Int32)) + x11) 26 = true then some (.inl ((c_state_s (c_state_s st7 (upd (c_state st7) ((x91 * (8 : Int32)) + x11).toNatClampNeg (((c_state st7) ((x91 * (8 : Int32)) + x11).toNatClampNeg) - x17))) (upd (upd (c_state st7) ((x91 * (8 : Int32)) + x11).toNatClampNeg (((c_state st7) ((x91 * (8 : Int32)) + x11).toNatClampNeg) - x17)) ((x92 * (8 : Int32)) + x11).toNatClampNeg (((c_state st7) ((x92 * (8 : Int32)) + x11).toNatClampNeg) - x17))), (x10 + x17), (x11 + 1))) else none) else none)) else none) else none)) : Option ((CS × Int32 × Int32) ⊕ (CS × Int32))) = some o12 := h
    have I : wk D (cW g a st7) A H0 H locs := I
    have hl : lv_has ls 8 [(0, .ref (a 0)), (1, .int x91), (2, .int x92), (3, .int x10), (4, .int x11)] := hl
    refine lv_iload hx hb dX4_cancel_19 (lv_at hl 4 rfl) ?_
    refine lv_bipush (v := (8 : Int32)) hx hb dX4_cancel_21 (by decide) ?_
    refine lv_icmp_ge (tgt := 108) hx hb dX4_cancel_23 (by decide) (fun hc14 => ?_) (fun hc14 => ?_)
    · have h := ifp hc14 h
      cases h
      exact hk13 _ _ _ I (lv_sub hl [3] rfl)
    · have h := ifn hc14 h
      refine lv_aload_n hx hb dX4_cancel_26 rfl (lv_at hl 0 rfl) ?_
      refine g4_9 E I dX4_cancel_27 ?_
      refine lv_iload_n hx hb dX4_cancel_30 rfl (lv_at hl 1 rfl) ?_
      refine lv_bipush (v := (8 : Int32)) hx hb dX4_cancel_31 (by decide) ?_
      refine lv_imul hx hb dX4_cancel_33 ?_
      refine lv_iload hx hb dX4_cancel_34 (lv_at hl 4 rfl) ?_
      refine lv_iadd hx hb dX4_cancel_36 ?_
      obtain ⟨hc15, h⟩ := gd h
      refine c_ld1 E I (f := (c_state st7)) rfl hc15 dX4_cancel_37 ?_
      refine lv_istore (lv' := [(5, .int ((c_state st7) ((x91 * (8 : Int32)) + x11).toNatClampNeg)), (0, .ref (a 0)), (1, .int x91), (2, .int x92), (3, .int x10), (4, .int x11)]) hx hb dX4_cancel_38 hl (by decide) rfl (fun ls hl => ?_)
      refine lv_aload_n hx hb dX4_cancel_40 rfl (lv_at hl 1 rfl) ?_
      refine g4_9 E I dX4_cancel_41 ?_
      refine lv_iload_n hx hb dX4_cancel_44 rfl (lv_at hl 3 rfl) ?_
      refine lv_bipush (v := (8 : Int32)) hx hb dX4_cancel_45 (by decide) ?_
      refine lv_imul hx hb dX4_cancel_47 ?_
      refine lv_iload hx hb dX4_cancel_48 (lv_at hl 5 rfl) ?_
      refine lv_iadd hx hb dX4_cancel_50 ?_
      obtain ⟨hc16, h⟩ := gd h
      refine c_ld1 E I (f := (c_state st7)) rfl hc16 dX4_cancel_51 ?_
      refine lv_istore (lv' := [(6, .int ((c_state st7) ((x92 * (8 : Int32)) + x11).toNatClampNeg)), (5, .int ((c_state st7) ((x91 * (8 : Int32)) + x11).toNatClampNeg)), (0, .ref (a 0)), (1, .int x91), (2, .int x92), (3, .int x10), (4, .int x11)]) hx hb dX4_cancel_52 hl (by decide) rfl (fun ls hl => ?_)
      refine lv_iload hx hb dX4_cancel_54 (lv_at hl 1 rfl) ?_
      refine lv_iload hx hb dX4_cancel_56 (lv_at hl 0 rfl) ?_
      refine r_mmin E hl.1 kx4_90 (Nat.le_of_ble_eq_true rfl) (Nat.le_of_ble_eq_true rfl) dX4_cancel_58 ?_
      obtain ⟨x17, hx18, h⟩ := lqx h
      refine lv_istore (x := (if ((c_state st7) ((x92 * (8 : Int32)) + x11).toNatClampNeg) < ((c_state st7) ((x91 * (8 : Int32)) + x11).toNatClampNeg) then ((c_state st7) ((x92 * (8 : Int32)) + x11).toNatClampNeg) else ((c_state st7) ((x91 * (8 : Int32)) + x11).toNatClampNeg))) (lv' := [(7, .int x17), (6, .int ((c_state st7) ((x92 * (8 : Int32)) + x11).toNatClampNeg)), (5, .int ((c_state st7) ((x91 * (8 : Int32)) + x11).toNatClampNeg)), (0, .ref (a 0)), (1, .int x91), (2, .int x92), (3, .int x10), (4, .int x11)]) hx hb dX4_cancel_61 hl (by decide) (by subst hx18; rfl) (fun ls hl => ?_)
      refine lv_aload_n hx hb dX4_cancel_63 rfl (lv_at hl 3 rfl) ?_
      refine g4_9 E I dX4_cancel_64 ?_
      refine lv_iload_n hx hb dX4_cancel_67 rfl (lv_at hl 4 rfl) ?_
      refine lv_bipush (v := (8 : Int32)) hx hb dX4_cancel_68 (by decide) ?_
      refine lv_imul hx hb dX4_cancel_70 ?_
      refine lv_iload hx hb dX4_cancel_71 (lv_at hl 7 rfl) ?_
      refine lv_iadd hx hb dX4_cancel_73 ?_
      refine lv_iload hx hb dX4_cancel_74 (lv_at hl 2 rfl) ?_
      refine lv_iload hx hb dX4_cancel_76 (lv_at hl 0 rfl) ?_
      refine lv_isub hx hb dX4_cancel_78 ?_
      obtain ⟨hc19, h⟩ := gd h
      refine c_st1 E I (f := (c_state st7)) rfl hc19 dX4_cancel_79 (fun H locs I => ?_)
      refine lv_aload_n hx hb dX4_cancel_80 rfl (lv_at hl 3 rfl) ?_
      refine g4_9 E I dX4_cancel_81 ?_
      refine lv_iload_n hx hb dX4_cancel_84 rfl (lv_at hl 5 rfl) ?_
      refine lv_bipush (v := (8 : Int32)) hx hb dX4_cancel_85 (by decide) ?_
      refine lv_imul hx hb dX4_cancel_87 ?_
      refine lv_iload hx hb dX4_cancel_88 (lv_at hl 7 rfl) ?_
      refine lv_iadd hx hb dX4_cancel_90 ?_
      refine lv_iload hx hb dX4_cancel_91 (lv_at hl 1 rfl) ?_
      refine lv_iload hx hb dX4_cancel_93 (lv_at hl 0 rfl) ?_
      refine lv_isub hx hb dX4_cancel_95 ?_
      obtain ⟨hc20, h⟩ := gd h
      refine c_st1 E I (f := (upd (c_state st7) ((x91 * (8 : Int32)) + x11).toNatClampNeg (((c_state st7) ((x91 * (8 : Int32)) + x11).toNatClampNeg) - x17))) rfl hc20 dX4_cancel_96 (fun H locs I => ?_)
      refine lv_iload_n hx hb dX4_cancel_97 rfl (lv_at hl 6 rfl) ?_
      refine lv_iload hx hb dX4_cancel_98 (lv_at hl 0 rfl) ?_
      refine lv_iadd hx hb dX4_cancel_100 ?_
      refine lv_istore_n (lv' := [(3, .int (x10 + x17)), (7, .int x17), (6, .int ((c_state st7) ((x92 * (8 : Int32)) + x11).toNatClampNeg)), (5, .int ((c_state st7) ((x91 * (8 : Int32)) + x11).toNatClampNeg)), (0, .ref (a 0)), (1, .int x91), (2, .int x92), (4, .int x11)]) hx hb dX4_cancel_101 rfl hl (by decide) rfl (fun ls hl => ?_)
      refine lv_iinc (v := (x11 + 1)) (lv' := [(4, .int (x11 + 1)), (3, .int (x10 + x17)), (7, .int x17), (6, .int ((c_state st7) ((x92 * (8 : Int32)) + x11).toNatClampNeg)), (5, .int ((c_state st7) ((x91 * (8 : Int32)) + x11).toNatClampNeg)), (0, .ref (a 0)), (1, .int x91), (2, .int x92)]) hx hb dX4_cancel_102 hl (k := 7) rfl rfl (by decide) rfl (fun ls hl => ?_)
      refine lv_goto (tgt := 19) hx hb dX4_cancel_105 (by decide) ?_
      cases h
      exact hk13 _ _ _ I (lv_sub hl [5, 6, 7, 1, 0] rfl)
  · obtain ⟨st23, x24⟩ := z21
    intro H locs ls I hl
    have h : (some (st23, .inr x24) : Option (CS × (Nat ⊕ Int32))) = some (st', .inr r') := h
    have I : wk D (cW g a st23) A H0 H locs := I
    have hl : lv_has ls 8 [(3, .int x24)] := hl
    refine lv_iload_n hx hb dX4_cancel_108 rfl (lv_at hl 0 rfl) ?_
    cases h
    exact K _ _ _ _ I dX4_cancel_109
set_option maxHeartbeats 4000000 in
set_option maxRecDepth 100000 in
theorem c4_set {l : Launch} {D : va_G} {g : Nat → ClassId} {a : Nat → Nat} {st : CS} {x91 : Int32} {x92 : Int32} {st' : CS} {r' : Int32} (h : f4_set st x91 x92 = some (st', .inr r')) : ct l yX4_set cX4_set 3 (some .int) (rmk 4 102) D g (cW g a st) (cW g a st') [.ref (a 0), .int x91, .int x92] (some (.int r')) := by
  refine ct_of ⟨rfl, rfl⟩ (by decide) (Nat.le_of_ble_eq_true rfl) ?_
  intro p e s m args below meth c ls Q A H0 H locs E I hl K
  have E : en p m c cX4_set 3 s args RX4 D g := E
  have hx := E.1.1
  have hb := E.1.2.1
  have hl : lv_has ls 3 [(0, .ref (a 0)), (1, .int x91), (2, .int x92)] := hl
  have K : ∀ (pc : Nat) (ls : Array Slot) (H : Heap) (locs : List Loc), wk D (cW g a st') A H0 H locs → decode cX4_set pc = .ok (.ireturn, 1) → W p l e (rmk 4 102) s m args below meth c H locs 0 0 Q (F0 m pc ls [.int r']) := fun pc ls H locs I hd => K pc ls H locs I hd
  have h : ((bt0 st (f4_needIndex x91 (2 : Int32)) fun (u2 : Unit) => (bt0 st (f4_needNumber x92 (0 : Int32) (if x91 = 0 then (1 : Int32) else (9 : Int32))) fun (u7 : Unit) => (bi2 (f4_change st ((24 : Int32) + x91) x92) fun st9 r10 => some (st9, .inr r10)))) : Option (CS × (Nat ⊕ Int32))) = some (st', .inr r') := h
  refine lv_iload_n hx hb dX4_set_0 rfl (lv_at hl 1 rfl) ?_
  refine lv_iconst (v := (2 : Int32)) hx hb dX4_set_1 (by decide) ?_
  obtain ⟨u2, hc1, h⟩ := bt0n h
  refine r_callS0 (As := [.int x91, .int (2 : Int32)]) (rest := []) E I hl.1 k4_53 (c4_needIndex hc1) rfl rfl (Nat.le_of_ble_eq_true rfl) ⟨Nat.le_of_ble_eq_true rfl, Nat.le_of_ble_eq_true rfl⟩ ⟨Nat.zero_le _, Nat.zero_le _⟩ dX4_set_2 (fun H locs I => ?_)
  refine lv_iload_n hx hb dX4_set_5 rfl (lv_at hl 2 rfl) ?_
  refine lv_iconst (v := (0 : Int32)) hx hb dX4_set_6 (by decide) ?_
  refine lv_iload_n hx hb dX4_set_7 rfl (lv_at hl 1 rfl) ?_
  have J4 : ∀ (v3 : Int32) (H : Heap) (locs : List Loc), v3 = (if x91 = 0 then (1 : Int32) else (9 : Int32)) → wk D (cW g a st) A H0 H locs → W p l e (rmk 4 102) s m args below meth c H locs 0 0 Q (F0 m 17 ls [.int v3, .int (0 : Int32), .int x92]) := by
    intro v3 H locs hv5 I
    subst hv5
    obtain ⟨u7, hc6, h⟩ := bt0n h
    refine r_callS0 (As := [.int x92, .int (0 : Int32), .int (if x91 = 0 then (1 : Int32) else (9 : Int32))]) (rest := []) E I hl.1 k4_57 (c4_needNumber hc6) rfl rfl (Nat.le_of_ble_eq_true rfl) ⟨Nat.le_of_ble_eq_true rfl, Nat.le_of_ble_eq_true rfl⟩ ⟨Nat.zero_le _, Nat.zero_le _⟩ dX4_set_17 (fun H locs I => ?_)
    refine lv_aload_n hx hb dX4_set_20 rfl (lv_at hl 0 rfl) ?_
    refine lv_bipush (v := (24 : Int32)) hx hb dX4_set_21 (by decide) ?_
    refine lv_iload_n hx hb dX4_set_23 rfl (lv_at hl 1 rfl) ?_
    refine lv_iadd hx hb dX4_set_24 ?_
    refine lv_iload_n hx hb dX4_set_25 rfl (lv_at hl 2 rfl) ?_
    obtain ⟨st9, r10, hc8, h⟩ := bx2 h
    refine r_callV1 (As := [.int ((24 : Int32) + x91), .int x92]) (rest := []) (ws' := (cW g a st9)) (q0 := 0) E I hl.1 k4_61 (c4_change hc8) cW_k rfl rfl rfl rfl (Nat.le_of_ble_eq_true rfl) ⟨Nat.le_of_ble_eq_true rfl, Nat.le_of_ble_eq_true rfl⟩ ⟨Nat.zero_le _, Nat.zero_le _⟩ dX4_set_26 (fun H locs I => ?_)
    cases h
    exact K _ _ _ _ I dX4_set_29
  refine lv_if_ne (tgt := 15) hx hb dX4_set_8 (by decide) (fun hc11 => ?_) (fun hc11 => ?_)
  · refine lv_bipush (v := (9 : Int32)) hx hb dX4_set_15 (by decide) ?_
    exact J4 _ _ _ (by rw [if_neg hc11]) I
  · refine lv_iconst (v := (1 : Int32)) hx hb dX4_set_11 (by decide) ?_
    refine lv_goto (tgt := 17) hx hb dX4_set_12 (by decide) ?_
    exact J4 _ _ _ (by rw [if_pos hc11]) I
set_option maxHeartbeats 4000000 in
set_option maxRecDepth 100000 in
theorem c4_times {l : Launch} {D : va_G} {g : Nat → ClassId} {a : Nat → Nat} {st : CS} {x91 : Int32} {x92 : Int32} {st' : CS} {r' : Int32} (h : f4_times st x91 x92 = some (st', .inr r')) : ct l yX4_times cX4_times 3 (some .int) (rmk 1 21) D g (cW g a st) (cW g a st') [.ref (a 0), .int x91, .int x92] (some (.int r')) := by
  refine ct_of ⟨rfl, rfl⟩ (by decide) (Nat.le_of_ble_eq_true rfl) ?_
  intro p e s m args below meth c ls Q A H0 H locs E I hl K
  have E : en p m c cX4_times 3 s args RX4 D g := E
  have hx := E.1.1
  have hb := E.1.2.1
  have hl : lv_has ls 3 [(0, .ref (a 0)), (1, .int x91), (2, .int x92)] := hl
  have K : ∀ (pc : Nat) (ls : Array Slot) (H : Heap) (locs : List Loc), wk D (cW g a st') A H0 H locs → decode cX4_times pc = .ok (.ireturn, 1) → W p l e (rmk 1 21) s m args below meth c H locs 0 0 Q (F0 m pc ls [.int r']) := fun pc ls H locs I hd => K pc ls H locs I hd
  have h : ((bt0 st (f4_needIndex x91 (3 : Int32)) fun (u2 : Unit) => (bt0 st (f4_needIndex x92 (8 : Int32)) fun (u4 : Unit) => (if ib ((x91 * (8 : Int32)) + x92) 26 = true then some (st, .inr ((c_state st) ((x91 * (8 : Int32)) + x92).toNatClampNeg)) else none))) : Option (CS × (Nat ⊕ Int32))) = some (st', .inr r') := h
  refine lv_iload_n hx hb dX4_times_0 rfl (lv_at hl 1 rfl) ?_
  refine lv_iconst (v := (3 : Int32)) hx hb dX4_times_1 (by decide) ?_
  obtain ⟨u2, hc1, h⟩ := bt0n h
  refine r_callS0 (As := [.int x91, .int (3 : Int32)]) (rest := []) E I hl.1 k4_53 (c4_needIndex hc1) rfl rfl (Nat.le_of_ble_eq_true rfl) ⟨Nat.le_of_ble_eq_true rfl, Nat.le_of_ble_eq_true rfl⟩ ⟨Nat.zero_le _, Nat.zero_le _⟩ dX4_times_2 (fun H locs I => ?_)
  refine lv_iload_n hx hb dX4_times_5 rfl (lv_at hl 2 rfl) ?_
  refine lv_bipush (v := (8 : Int32)) hx hb dX4_times_6 (by decide) ?_
  obtain ⟨u4, hc3, h⟩ := bt0n h
  refine r_callS0 (As := [.int x92, .int (8 : Int32)]) (rest := []) E I hl.1 k4_53 (c4_needIndex hc3) rfl rfl (Nat.le_of_ble_eq_true rfl) ⟨Nat.le_of_ble_eq_true rfl, Nat.le_of_ble_eq_true rfl⟩ ⟨Nat.zero_le _, Nat.zero_le _⟩ dX4_times_8 (fun H locs I => ?_)
  refine lv_aload_n hx hb dX4_times_11 rfl (lv_at hl 0 rfl) ?_
  refine g4_9 E I dX4_times_12 ?_
  refine lv_iload_n hx hb dX4_times_15 rfl (lv_at hl 1 rfl) ?_
  refine lv_bipush (v := (8 : Int32)) hx hb dX4_times_16 (by decide) ?_
  refine lv_imul hx hb dX4_times_18 ?_
  refine lv_iload_n hx hb dX4_times_19 rfl (lv_at hl 2 rfl) ?_
  refine lv_iadd hx hb dX4_times_20 ?_
  obtain ⟨hc5, h⟩ := gd h
  refine c_ld1 E I (f := (c_state st)) rfl hc5 dX4_times_21 ?_
  cases h
  exact K _ _ _ _ I dX4_times_22
set_option maxHeartbeats 4000000 in
set_option maxRecDepth 100000 in
theorem c4_restOf {l : Launch} {D : va_G} {g : Nat → ClassId} {a : Nat → Nat} {st : CS} {x91 : Int32} {o : Int32} (h : f4_restOf st x91 = some o) : ct l yX4_restOf cX4_restOf 2 (some .int) (rmk 0 0) D g (cW g a st) (cW g a st) [.ref (a 0), .int x91] (some (.int o)) := by
  refine ct_of ⟨rfl, rfl⟩ (by decide) (Nat.le_of_ble_eq_true rfl) ?_
  intro p e s m args below meth c ls Q A H0 H locs E I hl K
  have E : en p m c cX4_restOf 2 s args RX4 D g := E
  have hx := E.1.1
  have hb := E.1.2.1
  have hl : lv_has ls 2 [(0, .ref (a 0)), (1, .int x91)] := hl
  have K : ∀ (pc : Nat) (ls : Array Slot) (H : Heap) (locs : List Loc), wk D (cW g a st) A H0 H locs → decode cX4_restOf pc = .ok (.ireturn, 1) → W p l e (rmk 0 0) s m args below meth c H locs 0 0 Q (F0 m pc ls [.int o]) := fun pc ls H locs I hd => K pc ls H locs I hd
  have h : ((if ib ((16 : Int32) + x91) 26 = true then (if ib ((0 : Int32) + x91) 26 = true then some (((c_state st) ((16 : Int32) + x91).toNatClampNeg) - ((c_state st) ((0 : Int32) + x91).toNatClampNeg)) else none) else none) : Option Int32) = some o := h
  refine lv_aload_n hx hb dX4_restOf_0 rfl (lv_at hl 0 rfl) ?_
  refine g4_9 E I dX4_restOf_1 ?_
  refine lv_bipush (v := (16 : Int32)) hx hb dX4_restOf_4 (by decide) ?_
  refine lv_iload_n hx hb dX4_restOf_6 rfl (lv_at hl 1 rfl) ?_
  refine lv_iadd hx hb dX4_restOf_7 ?_
  obtain ⟨hc1, h⟩ := gd h
  refine c_ld1 E I (f := (c_state st)) rfl hc1 dX4_restOf_8 ?_
  refine lv_aload_n hx hb dX4_restOf_9 rfl (lv_at hl 0 rfl) ?_
  refine g4_9 E I dX4_restOf_10 ?_
  refine lv_iconst (v := (0 : Int32)) hx hb dX4_restOf_13 (by decide) ?_
  refine lv_iload_n hx hb dX4_restOf_14 rfl (lv_at hl 1 rfl) ?_
  refine lv_iadd hx hb dX4_restOf_15 ?_
  obtain ⟨hc2, h⟩ := gd h
  refine c_ld1 E I (f := (c_state st)) rfl hc2 dX4_restOf_16 ?_
  refine lv_isub hx hb dX4_restOf_17 ?_
  cases h
  exact K _ _ _ _ I dX4_restOf_18
set_option maxHeartbeats 4000000 in
set_option maxRecDepth 100000 in
theorem c4_rest {l : Launch} {D : va_G} {g : Nat → ClassId} {a : Nat → Nat} {st : CS} {x91 : Int32} {st' : CS} {r' : Int32} (h : f4_rest st x91 = some (st', .inr r')) : ct l yX4_rest cX4_rest 2 (some .int) (rmk 1 21) D g (cW g a st) (cW g a st') [.ref (a 0), .int x91] (some (.int r')) := by
  refine ct_of ⟨rfl, rfl⟩ (by decide) (Nat.le_of_ble_eq_true rfl) ?_
  intro p e s m args below meth c ls Q A H0 H locs E I hl K
  have E : en p m c cX4_rest 2 s args RX4 D g := E
  have hx := E.1.1
  have hb := E.1.2.1
  have hl : lv_has ls 2 [(0, .ref (a 0)), (1, .int x91)] := hl
  have K : ∀ (pc : Nat) (ls : Array Slot) (H : Heap) (locs : List Loc), wk D (cW g a st') A H0 H locs → decode cX4_rest pc = .ok (.ireturn, 1) → W p l e (rmk 1 21) s m args below meth c H locs 0 0 Q (F0 m pc ls [.int r']) := fun pc ls H locs I hd => K pc ls H locs I hd
  have h : ((bt0 st (f4_needIndex x91 (4 : Int32)) fun (u2 : Unit) => (bi1 (f4_restOf st x91) fun r4 => some (st, .inr r4))) : Option (CS × (Nat ⊕ Int32))) = some (st', .inr r') := h
  refine lv_iload_n hx hb dX4_rest_0 rfl (lv_at hl 1 rfl) ?_
  refine lv_iconst (v := (4 : Int32)) hx hb dX4_rest_1 (by decide) ?_
  obtain ⟨u2, hc1, h⟩ := bt0n h
  refine r_callS0 (As := [.int x91, .int (4 : Int32)]) (rest := []) E I hl.1 k4_53 (c4_needIndex hc1) rfl rfl (Nat.le_of_ble_eq_true rfl) ⟨Nat.le_of_ble_eq_true rfl, Nat.le_of_ble_eq_true rfl⟩ ⟨Nat.zero_le _, Nat.zero_le _⟩ dX4_rest_2 (fun H locs I => ?_)
  refine lv_aload_n hx hb dX4_rest_5 rfl (lv_at hl 0 rfl) ?_
  refine lv_iload_n hx hb dX4_rest_6 rfl (lv_at hl 1 rfl) ?_
  obtain ⟨r4, hc3, h⟩ := bx1 h
  refine r_callV1 (As := [.int x91]) (rest := []) (ws' := (cW g a st)) (q0 := 0) E I hl.1 k4_145 (c4_restOf hc3) cW_k rfl rfl rfl rfl (Nat.le_of_ble_eq_true rfl) ⟨Nat.le_of_ble_eq_true rfl, Nat.le_of_ble_eq_true rfl⟩ ⟨Nat.zero_le _, Nat.zero_le _⟩ dX4_rest_7 (fun H locs I => ?_)
  cases h
  exact K _ _ _ _ I dX4_rest_10
set_option maxHeartbeats 4000000 in
set_option maxRecDepth 100000 in
theorem c0_top {l : Launch} {D : va_G} {g : Nat → ClassId} {a : Nat → Nat} {st : CS} {x91 : Int32} {o : Int32} (h : f0_top st x91 = some o) : ct l yX0_top cX0_top 2 (some .int) (rmk 0 0) D g (cW g a st) (cW g a st) [.ref (a 7), .int x91] (some (.int o)) := by
  refine ct_of ⟨rfl, rfl⟩ (by decide) (Nat.le_of_ble_eq_true rfl) ?_
  intro p e s m args below meth c ls Q A H0 H locs E I hl K
  have E : en p m c cX0_top 2 s args RX0 D g := E
  have hx := E.1.1
  have hb := E.1.2.1
  have hl : lv_has ls 2 [(0, .ref (a 7)), (1, .int x91)] := hl
  have K : ∀ (pc : Nat) (ls : Array Slot) (H : Heap) (locs : List Loc), wk D (cW g a st) A H0 H locs → decode cX0_top pc = .ok (.ireturn, 1) → W p l e (rmk 0 0) s m args below meth c H locs 0 0 Q (F0 m pc ls [.int o]) := fun pc ls H locs I hd => K pc ls H locs I hd
  have h : ((if ib x91 4 = true then (if ((c_weight st) x91.toNatClampNeg) ≤ 0 then some (0 : Int32) else some (c_most st)) else none) : Option Int32) = some o := h
  refine lv_aload_n hx hb dX0_top_0 rfl (lv_at hl 0 rfl) ?_
  refine g0_9 E I dX0_top_1 ?_
  refine lv_iload_n hx hb dX0_top_4 rfl (lv_at hl 1 rfl) ?_
  obtain ⟨hc1, h⟩ := gd h
  refine c_ld13 E I (f := (c_weight st)) rfl hc1 dX0_top_5 ?_
  refine lv_if_le (tgt := 16) hx hb dX0_top_6 (by decide) (fun hc2 => ?_) (fun hc2 => ?_)
  · have h := ifp hc2 h
    refine lv_iconst (v := (0 : Int32)) hx hb dX0_top_16 (by decide) ?_
    cases h
    exact K _ _ _ _ I dX0_top_17
  · have h := ifn hc2 h
    refine lv_aload_n hx hb dX0_top_9 rfl (lv_at hl 0 rfl) ?_
    refine g0_48 E I (v := (c_most st)) rfl dX0_top_10 ?_
    refine lv_goto (tgt := 17) hx hb dX0_top_13 (by decide) ?_
    cases h
    exact K _ _ _ _ I dX0_top_17
set_option maxHeartbeats 4000000 in
set_option maxRecDepth 100000 in
theorem c0_numberIn {l : Launch} {D : va_G} {g : Nat → ClassId} {x90 : Int32} {x91 : Int32} {o : Int32} (h : f0_numberIn x90 x91 = o) : ct l yX0_numberIn cX0_numberIn 2 (some .int) (rmk 0 0) D g [] [] [.int x90, .int x91] (some (.int o)) := by
  refine ct_of ⟨rfl, rfl⟩ (by decide) (Nat.le_of_ble_eq_true rfl) ?_
  intro p e s m args below meth c ls Q A H0 H locs E I hl K
  have E : en p m c cX0_numberIn 2 s args RX0 D g := E
  have hx := E.1.1
  have hb := E.1.2.1
  have hl : lv_has ls 2 [(0, .int x90), (1, .int x91)] := hl
  have K : ∀ (pc : Nat) (ls : Array Slot) (H : Heap) (locs : List Loc), wk D [] A H0 H locs → decode cX0_numberIn pc = .ok (.ireturn, 1) → W p l e (rmk 0 0) s m args below meth c H locs 0 0 Q (F0 m pc ls [.int o]) := fun pc ls H locs I hd => K pc ls H locs I hd
  have h : (((x90 >>> (((4 : Int32) * ((3 : Int32) - x91)) &&& 31)) &&& (15 : Int32)) : Int32) = o := h
  refine lv_iload_n hx hb dX0_numberIn_0 rfl (lv_at hl 0 rfl) ?_
  refine lv_iconst (v := (4 : Int32)) hx hb dX0_numberIn_1 (by decide) ?_
  refine lv_iconst (v := (3 : Int32)) hx hb dX0_numberIn_2 (by decide) ?_
  refine lv_iload_n hx hb dX0_numberIn_3 rfl (lv_at hl 1 rfl) ?_
  refine lv_isub hx hb dX0_numberIn_4 ?_
  refine lv_imul hx hb dX0_numberIn_5 ?_
  refine lv_ishr hx hb dX0_numberIn_6 ?_
  refine lv_bipush (v := (15 : Int32)) hx hb dX0_numberIn_7 (by decide) ?_
  refine lv_iand hx hb dX0_numberIn_9 ?_
  cases h
  exact K _ _ _ _ I dX0_numberIn_10
set_option maxHeartbeats 4000000 in
set_option maxRecDepth 100000 in
theorem c0_setOf {l : Launch} {D : va_G} {g : Nat → ClassId} {x90 : Int32} {o : Int32} (h : f0_setOf x90 = some o) : ct l yX0_setOf cX0_setOf 3 (some .int) (rmk 1 21) D g [] [] [.int x90] (some (.int o)) := by
  refine ct_of ⟨rfl, rfl⟩ (by decide) (Nat.le_of_ble_eq_true rfl) ?_
  intro p e s m args below meth c ls Q A H0 H locs E I hl K
  have E : en p m c cX0_setOf 3 s args RX0 D g := E
  have hx := E.1.1
  have hb := E.1.2.1
  have hl : lv_has ls 3 [(0, .int x90)] := hl
  have K : ∀ (pc : Nat) (ls : Array Slot) (H : Heap) (locs : List Loc), wk D [] A H0 H locs → decode cX0_setOf pc = .ok (.ireturn, 1) → W p l e (rmk 1 21) s m args below meth c H locs 0 0 Q (F0 m pc ls [.int o]) := fun pc ls H locs I hd => K pc ls H locs I hd
  have h : ((bi1 (wh (f0_setOf_b4 x90) FU ((0 : Int32), (0 : Int32))) fun w16 => some w16) : Option Int32) = some o := h
  refine lv_iconst (v := (0 : Int32)) hx hb dX0_setOf_0 (by decide) ?_
  refine lv_istore_n (lv' := [(1, .int (0 : Int32)), (0, .int x90)]) hx hb dX0_setOf_1 rfl hl (by decide) rfl (fun ls hl => ?_)
  refine lv_iconst (v := (0 : Int32)) hx hb dX0_setOf_2 (by decide) ?_
  refine lv_istore_n (lv' := [(2, .int (0 : Int32)), (1, .int (0 : Int32)), (0, .int x90)]) hx hb dX0_setOf_3 rfl hl (by decide) rfl (fun ls hl => ?_)
  obtain ⟨z13, hw14, h⟩ := bx1 h
  refine wh_W (P := fun (z : Int32 × Int32) => ∀ (H : Heap) (locs : List Loc) (ls : Array Slot), wk D [] A H0 H locs → lv_has ls 3 [(0, .int x90), (1, .int z.1), (2, .int z.2)] → W p l e (rmk 1 21) s m args below meth c H locs 0 0 Q (F0 m 4 ls [])) (X := fun (z : Int32) => ∀ (H : Heap) (locs : List Loc) (ls : Array Slot), wk D [] A H0 H locs → lv_has ls 3 [(1, .int z)] → W p l e (rmk 1 21) s m args below meth c H locs 0 0 Q (F0 m 33 ls [])) ?_ FU _ _ hw14 ?_ _ _ _ I (lv_sub hl [2, 1, 0] rfl)
  · intro z o4 h hk5 H locs ls I hl
    obtain ⟨x2, x3⟩ := z
    have h : ((if (4 : Int32) ≤ x3 then some (.inr x2) else (lq (x2 ||| (if (f0_numberIn x90 x3) ≤ 0 then (0 : Int32) else ((1 : Int32) <<< (x3 &&& 31)))) fun x10 => some (.inl (x10, (x3 + 1))))) : Option ((Int32 × Int32) ⊕ (Int32))) = some o4 := h
    have I : wk D [] A H0 H locs := I
    have hl : lv_has ls 3 [(0, .int x90), (1, .int x2), (2, .int x3)] := hl
    refine lv_iload_n hx hb dX0_setOf_4 rfl (lv_at hl 2 rfl) ?_
    refine lv_iconst (v := (4 : Int32)) hx hb dX0_setOf_5 (by decide) ?_
    refine lv_icmp_ge (tgt := 33) hx hb dX0_setOf_6 (by decide) (fun hc6 => ?_) (fun hc6 => ?_)
    · have h := ifp hc6 h
      cases h
      exact hk5 _ _ _ I (lv_sub hl [1] rfl)
    · have h := ifn hc6 h
      refine lv_iload_n hx hb dX0_setOf_9 rfl (lv_at hl 1 rfl) ?_
      refine lv_iload_n hx hb dX0_setOf_10 rfl (lv_at hl 0 rfl) ?_
      refine lv_iload_n hx hb dX0_setOf_11 rfl (lv_at hl 2 rfl) ?_
      refine r_callS1 (As := [.int x90, .int x3]) (rest := [.int x2]) E I hl.1 k0_66 (c0_numberIn rfl) rfl rfl (Nat.le_of_ble_eq_true rfl) ⟨Nat.le_of_ble_eq_true rfl, Nat.le_of_ble_eq_true rfl⟩ ⟨Nat.zero_le _, Nat.zero_le _⟩ dX0_setOf_12 (fun H locs I => ?_)
      have J8 : ∀ (v7 : Int32) (H : Heap) (locs : List Loc), v7 = (if (f0_numberIn x90 x3) ≤ 0 then (0 : Int32) else ((1 : Int32) <<< (x3 &&& 31))) → wk D [] A H0 H locs → W p l e (rmk 1 21) s m args below meth c H locs 0 0 Q (F0 m 25 ls [.int v7, .int x2]) := by
        intro v7 H locs hv9 I
        subst hv9
        refine lv_ior hx hb dX0_setOf_25 ?_
        obtain ⟨x10, hx11, h⟩ := lqx h
        refine lv_istore_n (x := (x2 ||| (if (f0_numberIn x90 x3) ≤ 0 then (0 : Int32) else ((1 : Int32) <<< (x3 &&& 31))))) (lv' := [(1, .int x10), (0, .int x90), (2, .int x3)]) hx hb dX0_setOf_26 rfl hl (by decide) (by subst hx11; rfl) (fun ls hl => ?_)
        refine lv_iinc (v := (x3 + 1)) (lv' := [(2, .int (x3 + 1)), (1, .int x10), (0, .int x90)]) hx hb dX0_setOf_27 hl (k := 2) rfl rfl (by decide) rfl (fun ls hl => ?_)
        refine lv_goto (tgt := 4) hx hb dX0_setOf_30 (by decide) ?_
        cases h
        exact hk5 _ _ _ I (lv_sub hl [2, 1, 0] rfl)
      refine lv_if_le (tgt := 24) hx hb dX0_setOf_15 (by decide) (fun hc12 => ?_) (fun hc12 => ?_)
      · refine lv_iconst (v := (0 : Int32)) hx hb dX0_setOf_24 (by decide) ?_
        exact J8 _ _ _ (by rw [if_pos hc12]) I
      · refine lv_iconst (v := (1 : Int32)) hx hb dX0_setOf_18 (by decide) ?_
        refine lv_iload_n hx hb dX0_setOf_19 rfl (lv_at hl 2 rfl) ?_
        refine lv_ishl hx hb dX0_setOf_20 ?_
        refine lv_goto (tgt := 25) hx hb dX0_setOf_21 (by decide) ?_
        exact J8 _ _ _ (by rw [if_neg hc12]) I
  · obtain ⟨x15, rfl⟩ : ∃ y, y = z13 := ⟨_, rfl⟩
    intro H locs ls I hl
    have h : (some x15 : Option Int32) = some o := h
    have I : wk D [] A H0 H locs := I
    have hl : lv_has ls 3 [(1, .int x15)] := hl
    refine lv_iload_n hx hb dX0_setOf_33 rfl (lv_at hl 0 rfl) ?_
    cases h
    exact K _ _ _ _ I dX0_setOf_34
set_option maxHeartbeats 4000000 in
set_option maxRecDepth 100000 in
theorem c0_solveLast {l : Launch} {D : va_G} {g : Nat → ClassId} {a : Nat → Nat} {st : CS} {x91 : Int32} {x92 : Int32} {x93 : Int32} {o : CS} (h : f0_solveLast st x91 x92 x93 = some o) : ct l yX0_solveLast cX0_solveLast 6 none (rmk 2 43) D g (cW g a st) (cW g a o) [.ref (a 7), .int x91, .int x92, .int x93] none := by
  refine ct_of ⟨rfl, rfl⟩ (by decide) (Nat.le_of_ble_eq_true rfl) ?_
  intro p e s m args below meth c ls Q A H0 H locs E I hl K
  have E : en p m c cX0_solveLast 6 s args RX0 D g := E
  have hx := E.1.1
  have hb := E.1.2.1
  have hl : lv_has ls 6 [(0, .ref (a 7)), (1, .int x91), (2, .int x92), (3, .int x93)] := hl
  have K : ∀ (pc : Nat) (ls : Array Slot) (H : Heap) (locs : List Loc), wk D (cW g a o) A H0 H locs → decode cX0_solveLast pc = .ok (.return_, 1) → W p l e (rmk 2 43) s m args below meth c H locs 0 0 Q (F0 m pc ls []) := fun pc ls H locs I hd => K pc ls H locs I hd
  have h : ((if ((c_weight st) (3 : Int32).toNatClampNeg) ≤ 0 then f0_solveLast_j21 st x91 x92 x93 (0 : Int32) else (if ((c_weight st) (3 : Int32).toNatClampNeg) = 0 then none else f0_solveLast_j21 st x91 x92 x93 (x93 / ((c_weight st) (3 : Int32).toNatClampNeg)))) : Option CS) = some o := h
  refine lv_aload_n hx hb dX0_solveLast_0 rfl (lv_at hl 0 rfl) ?_
  refine g0_9 E I dX0_solveLast_1 ?_
  refine lv_iconst (v := (3 : Int32)) hx hb dX0_solveLast_4 (by decide) ?_
  refine c_ld13 E I (f := (c_weight st)) rfl (by decide) dX0_solveLast_5 ?_
  have J1 : ∀ (st2 : CS) (x3 : Int32) (x4 : Int32) (x5 : Int32) (y6 : Int32), f0_solveLast_j21 st2 x3 x4 x5 y6 = some o → ∀ (H : Heap) (locs : List Loc) (ls : Array Slot), wk D (cW g a st2) A H0 H locs → lv_has ls 6 [(0, .ref (a 7)), (1, .int x3), (2, .int x4), (3, .int x5)] → W p l e (rmk 2 43) s m args below meth c H locs 0 0 Q (F0 m 21 ls [.int y6]) := by
    intro st2 x3 x4 x5 y6 h H locs ls I hl
    have h : ((if (c_most st2) < y6 then some st2 else (if (((c_weight st2) (3 : Int32).toNatClampNeg) * y6) = x5 then (if ib x3 5 = true then (if (220 : Int32) ≤ ((c_size st2) x3.toNatClampNeg) then f0_solveLast_j79 st2 x3 (x4 ||| y6) else (if ib x3 5 = true then (if ib x3 5 = true then (if ib ((c_size st2) x3.toNatClampNeg) 220 = true then f0_solveLast_j79 (c_rows_s st2 (va_up (c_rows st2) x3.toNatClampNeg (upd ((c_rows st2) x3.toNatClampNeg) ((c_size st2) x3.toNatClampNeg).toNatClampNeg (x4 ||| y6)))) x3 (x4 ||| y6) else none) else none) else none)) else none) else some st2)) : Option CS) = some o := h
    refine lv_istore (lv' := [(4, .int y6), (0, .ref (a 7)), (1, .int x3), (2, .int x4), (3, .int x5)]) hx hb dX0_solveLast_21 hl (by decide) rfl (fun ls hl => ?_)
    refine lv_iload hx hb dX0_solveLast_23 (lv_at hl 0 rfl) ?_
    refine lv_aload_n hx hb dX0_solveLast_25 rfl (lv_at hl 1 rfl) ?_
    refine g0_48 E I (v := (c_most st2)) rfl dX0_solveLast_26 ?_
    refine lv_icmp_gt (tgt := 45) hx hb dX0_solveLast_29 (by decide) (fun hc7 => ?_) (fun hc7 => ?_)
    · have h := ifp hc7 h
      cases h
      exact K _ _ _ _ I dX0_solveLast_45
    · have h := ifn hc7 h
      refine lv_aload_n hx hb dX0_solveLast_32 rfl (lv_at hl 1 rfl) ?_
      refine g0_9 E I dX0_solveLast_33 ?_
      refine lv_iconst (v := (3 : Int32)) hx hb dX0_solveLast_36 (by decide) ?_
      refine c_ld13 E I (f := (c_weight st2)) rfl (by decide) dX0_solveLast_37 ?_
      refine lv_iload hx hb dX0_solveLast_38 (lv_at hl 0 rfl) ?_
      refine lv_imul hx hb dX0_solveLast_40 ?_
      refine lv_iload_n hx hb dX0_solveLast_41 rfl (lv_at hl 4 rfl) ?_
      refine lv_icmp_eq (tgt := 46) hx hb dX0_solveLast_42 (by decide) (fun hc8 => ?_) (fun hc8 => ?_)
      · have h := ifp hc8 h
        refine lv_iload_n hx hb dX0_solveLast_46 rfl (lv_at hl 3 rfl) ?_
        refine lv_iload hx hb dX0_solveLast_47 (lv_at hl 0 rfl) ?_
        refine lv_ior hx hb dX0_solveLast_49 ?_
        refine lv_istore (lv' := [(5, .int (x4 ||| y6)), (4, .int y6), (0, .ref (a 7)), (1, .int x3), (2, .int x4), (3, .int x5)]) hx hb dX0_solveLast_50 hl (by decide) rfl (fun ls hl => ?_)
        refine lv_aload_n hx hb dX0_solveLast_52 rfl (lv_at hl 2 rfl) ?_
        refine g0_20 E I dX0_solveLast_53 ?_
        refine lv_iload_n hx hb dX0_solveLast_56 rfl (lv_at hl 3 rfl) ?_
        obtain ⟨hc9, h⟩ := gd h
        refine c_ld15 E I (f := (c_size st2)) rfl hc9 dX0_solveLast_57 ?_
        refine lv_sipush (v := (220 : Int32)) hx hb dX0_solveLast_58 (by decide) ?_
        have J10 : ∀ (st11 : CS) (x12 : Int32) (x13 : Int32), f0_solveLast_j79 st11 x12 x13 = some o → ∀ (H : Heap) (locs : List Loc) (ls : Array Slot), wk D (cW g a st11) A H0 H locs → lv_has ls 6 [(0, .ref (a 7)), (1, .int x12), (5, .int x13)] → W p l e (rmk 2 43) s m args below meth c H locs 0 0 Q (F0 m 79 ls []) := by
          intro st11 x12 x13 h H locs ls I hl
          have h : ((if ib x12 5 = true then (if ib x12 5 = true then (if ib x12 5 = true then (bi1 (f0_setOf x13) fun r18 => (if ib r18 16 = true then (if ib r18 16 = true then some (c_exactly_s (c_size_s st11 (upd (c_size st11) x12.toNatClampNeg (((c_size st11) x12.toNatClampNeg) + (1 : Int32)))) (va_up (c_exactly st11) x12.toNatClampNeg (vp_updL ((c_exactly st11) x12.toNatClampNeg) r18.toNatClampNeg (((c_exactly st11) x12.toNatClampNeg r18.toNatClampNeg) + (1 : Int64))))) else none) else none)) else none) else none) else none) : Option CS) = some o := h
          refine lv_aload_n hx hb dX0_solveLast_79 rfl (lv_at hl 0 rfl) ?_
          refine g0_20 E I dX0_solveLast_80 ?_
          refine lv_iload_n hx hb dX0_solveLast_83 rfl (lv_at hl 1 rfl) ?_
          refine lv_dup2_11 hx hb dX0_solveLast_84 rfl rfl ?_
          obtain ⟨hc14, h⟩ := gd h
          refine c_ld15 E I (f := (c_size st11)) rfl hc14 dX0_solveLast_85 ?_
          refine lv_iconst (v := (1 : Int32)) hx hb dX0_solveLast_86 (by decide) ?_
          refine lv_iadd hx hb dX0_solveLast_87 ?_
          obtain ⟨hc15, h⟩ := gd h
          refine c_st15 E I (f := (c_size st11)) rfl hc15 dX0_solveLast_88 (fun H locs I => ?_)
          refine lv_aload_n hx hb dX0_solveLast_89 rfl (lv_at hl 0 rfl) ?_
          refine g0_25 E I dX0_solveLast_90 ?_
          refine lv_iload_n hx hb dX0_solveLast_93 rfl (lv_at hl 1 rfl) ?_
          obtain ⟨hc16, h⟩ := gd h
          refine c_al16 E I hc16 dX0_solveLast_94 ?_
          refine lv_iload hx hb dX0_solveLast_95 (lv_at hl 2 rfl) ?_
          obtain ⟨r18, hc17, h⟩ := bx1 h
          refine r_callS1 (As := [.int x13]) (rest := [.ref (a (35 + x12.toNatClampNeg))]) E I hl.1 k0_62 (c0_setOf hc17) rfl rfl (Nat.le_of_ble_eq_true rfl) ⟨Nat.le_of_ble_eq_true rfl, Nat.le_of_ble_eq_true rfl⟩ ⟨Nat.zero_le _, Nat.zero_le _⟩ dX0_solveLast_97 (fun H locs I => ?_)
          refine lv_dup2_11 hx hb dX0_solveLast_100 rfl rfl ?_
          obtain ⟨hc19, h⟩ := gd h
          refine c_ld16 E I (f := (c_exactly st11)) rfl (ib_lt hc16) hc19 dX0_solveLast_101 ?_
          refine lv_lconst (v := (1 : Int64)) hx hb dX0_solveLast_102 (by decide) ?_
          refine lv_ladd hx hb dX0_solveLast_103 ?_
          obtain ⟨hc20, h⟩ := gd h
          refine c_st16 E I (f := (c_exactly st11)) rfl (ib_lt hc16) hc20 dX0_solveLast_104 (fun H locs I => ?_)
          cases h
          exact K _ _ _ _ I dX0_solveLast_105
        refine lv_icmp_ge (tgt := 79) hx hb dX0_solveLast_61 (by decide) (fun hc21 => ?_) (fun hc21 => ?_)
        · have h := ifp hc21 h
          exact J10 _ _ _ h _ _ _ I (lv_sub hl [2, 3, 0] rfl)
        · have h := ifn hc21 h
          refine lv_aload_n hx hb dX0_solveLast_64 rfl (lv_at hl 2 rfl) ?_
          refine g0_17 E I dX0_solveLast_65 ?_
          refine lv_iload_n hx hb dX0_solveLast_68 rfl (lv_at hl 3 rfl) ?_
          obtain ⟨hc22, h⟩ := gd h
          refine c_al14 E I hc22 dX0_solveLast_69 ?_
          refine lv_aload_n hx hb dX0_solveLast_70 rfl (lv_at hl 2 rfl) ?_
          refine g0_20 E I dX0_solveLast_71 ?_
          refine lv_iload_n hx hb dX0_solveLast_74 rfl (lv_at hl 3 rfl) ?_
          obtain ⟨hc23, h⟩ := gd h
          refine c_ld15 E I (f := (c_size st2)) rfl hc23 dX0_solveLast_75 ?_
          refine lv_iload hx hb dX0_solveLast_76 (lv_at hl 0 rfl) ?_
          obtain ⟨hc24, h⟩ := gd h
          refine c_st14 E I (f := (c_rows st2)) rfl (ib_lt hc22) hc24 dX0_solveLast_78 (fun H locs I => ?_)
          exact J10 _ _ _ h _ _ _ I (lv_sub hl [2, 3, 0] rfl)
      · have h := ifn hc8 h
        cases h
        exact K _ _ _ _ I dX0_solveLast_45
  refine lv_if_le (tgt := 20) hx hb dX0_solveLast_6 (by decide) (fun hc25 => ?_) (fun hc25 => ?_)
  · have h := ifp hc25 h
    refine lv_iconst (v := (0 : Int32)) hx hb dX0_solveLast_20 (by decide) ?_
    exact J1 _ _ _ _ _ h _ _ _ I (lv_sub hl [0, 1, 2, 3] rfl)
  · have h := ifn hc25 h
    refine lv_iload_n hx hb dX0_solveLast_9 rfl (lv_at hl 3 rfl) ?_
    refine lv_aload_n hx hb dX0_solveLast_10 rfl (lv_at hl 0 rfl) ?_
    refine g0_9 E I dX0_solveLast_11 ?_
    refine lv_iconst (v := (3 : Int32)) hx hb dX0_solveLast_14 (by decide) ?_
    refine c_ld13 E I (f := (c_weight st)) rfl (by decide) dX0_solveLast_15 ?_
    obtain ⟨hz26, h⟩ := gz h
    refine lv_idiv hx hb dX0_solveLast_16 hz26 ?_
    refine lv_goto (tgt := 21) hx hb dX0_solveLast_17 (by decide) ?_
    exact J1 _ _ _ _ _ h _ _ _ I (lv_sub hl [0, 1, 2, 3] rfl)
set_option maxHeartbeats 4000000 in
set_option maxRecDepth 100000 in
theorem c0_fillWithin {l : Launch} {D : va_G} {g : Nat → ClassId} {a : Nat → Nat} {st : CS} {x91 : Int32} {o : CS} (h : f0_fillWithin st x91 = some o) : ct l yX0_fillWithin cX0_fillWithin 4 none (rmk 0 0) D g (cW g a st) (cW g a o) [.ref (a 7), .int x91] none := by
  refine ct_of ⟨rfl, rfl⟩ (by decide) (Nat.le_of_ble_eq_true rfl) ?_
  intro p e s m args below meth c ls Q A H0 H locs E I hl K
  have E : en p m c cX0_fillWithin 4 s args RX0 D g := E
  have hx := E.1.1
  have hb := E.1.2.1
  have hl : lv_has ls 4 [(0, .ref (a 7)), (1, .int x91)] := hl
  have K : ∀ (pc : Nat) (ls : Array Slot) (H : Heap) (locs : List Loc), wk D (cW g a o) A H0 H locs → decode cX0_fillWithin pc = .ok (.return_, 1) → W p l e (rmk 0 0) s m args below meth c H locs 0 0 Q (F0 m pc ls []) := fun pc ls H locs I hd => K pc ls H locs I hd
  have h : ((bi1 (wh (f0_fillWithin_b2 x91) FU (st, (0 : Int32))) fun w41 => (bi1 (wh (f0_fillWithin_b32 x91) FU (w41, (0 : Int32))) fun w40 => some w40)) : Option CS) = some o := h
  refine lv_iconst (v := (0 : Int32)) hx hb dX0_fillWithin_0 (by decide) ?_
  refine lv_istore_n (lv' := [(2, .int (0 : Int32)), (0, .ref (a 7)), (1, .int x91)]) hx hb dX0_fillWithin_1 rfl hl (by decide) rfl (fun ls hl => ?_)
  obtain ⟨z11, hw12, h⟩ := bx1 h
  refine wh_W (P := fun (z : CS × Int32) => ∀ (H : Heap) (locs : List Loc) (ls : Array Slot), wk D (cW g a z.1) A H0 H locs → lv_has ls 4 [(0, .ref (a 7)), (1, .int x91), (2, .int z.2)] → W p l e (rmk 0 0) s m args below meth c H locs 0 0 Q (F0 m 2 ls [])) (X := fun (z : CS) => ∀ (H : Heap) (locs : List Loc) (ls : Array Slot), wk D (cW g a z) A H0 H locs → lv_has ls 4 [(0, .ref (a 7)), (1, .int x91)] → W p l e (rmk 0 0) s m args below meth c H locs 0 0 Q (F0 m 30 ls [])) ?_ FU _ _ hw12 ?_ _ _ _ I (lv_sub hl [1, 2, 0] rfl)
  · intro z o4 h hk5 H locs ls I hl
    obtain ⟨st1, x3⟩ := z
    have h : ((if (16 : Int32) ≤ x3 then some (.inr st1) else (if ib x91 5 = true then (if ib x91 5 = true then (if ib x3 16 = true then (if ib x3 16 = true then some (.inl ((c_within_s st1 (va_up (c_within st1) x91.toNatClampNeg (vp_updL ((c_within st1) x91.toNatClampNeg) x3.toNatClampNeg ((c_exactly st1) x91.toNatClampNeg x3.toNatClampNeg)))), (x3 + 1))) else none) else none) else none) else none)) : Option ((CS × Int32) ⊕ (CS))) = some o4 := h
    have I : wk D (cW g a st1) A H0 H locs := I
    have hl : lv_has ls 4 [(0, .ref (a 7)), (1, .int x91), (2, .int x3)] := hl
    refine lv_iload_n hx hb dX0_fillWithin_2 rfl (lv_at hl 2 rfl) ?_
    refine lv_bipush (v := (16 : Int32)) hx hb dX0_fillWithin_3 (by decide) ?_
    refine lv_icmp_ge (tgt := 30) hx hb dX0_fillWithin_5 (by decide) (fun hc6 => ?_) (fun hc6 => ?_)
    · have h := ifp hc6 h
      cases h
      exact hk5 _ _ _ I (lv_sub hl [0, 1] rfl)
    · have h := ifn hc6 h
      refine lv_aload_n hx hb dX0_fillWithin_8 rfl (lv_at hl 0 rfl) ?_
      refine g0_28 E I dX0_fillWithin_9 ?_
      refine lv_iload_n hx hb dX0_fillWithin_12 rfl (lv_at hl 1 rfl) ?_
      obtain ⟨hc7, h⟩ := gd h
      refine c_al17 E I hc7 dX0_fillWithin_13 ?_
      refine lv_iload_n hx hb dX0_fillWithin_14 rfl (lv_at hl 2 rfl) ?_
      refine lv_aload_n hx hb dX0_fillWithin_15 rfl (lv_at hl 0 rfl) ?_
      refine g0_25 E I dX0_fillWithin_16 ?_
      refine lv_iload_n hx hb dX0_fillWithin_19 rfl (lv_at hl 1 rfl) ?_
      obtain ⟨hc8, h⟩ := gd h
      refine c_al16 E I hc8 dX0_fillWithin_20 ?_
      refine lv_iload_n hx hb dX0_fillWithin_21 rfl (lv_at hl 2 rfl) ?_
      obtain ⟨hc9, h⟩ := gd h
      refine c_ld16 E I (f := (c_exactly st1)) rfl (ib_lt hc8) hc9 dX0_fillWithin_22 ?_
      obtain ⟨hc10, h⟩ := gd h
      refine c_st17 E I (f := (c_within st1)) rfl (ib_lt hc7) hc10 dX0_fillWithin_23 (fun H locs I => ?_)
      refine lv_iinc (v := (x3 + 1)) (lv' := [(2, .int (x3 + 1)), (0, .ref (a 7)), (1, .int x91)]) hx hb dX0_fillWithin_24 hl (k := 2) rfl rfl (by decide) rfl (fun ls hl => ?_)
      refine lv_goto (tgt := 2) hx hb dX0_fillWithin_27 (by decide) ?_
      cases h
      exact hk5 _ _ _ I (lv_sub hl [1, 2, 0] rfl)
  · obtain ⟨st13, rfl⟩ : ∃ y, y = z11 := ⟨_, rfl⟩
    intro H locs ls I hl
    have h : ((bi1 (wh (f0_fillWithin_b32 x91) FU (st13, (0 : Int32))) fun w40 => some w40) : Option CS) = some o := h
    have I : wk D (cW g a st13) A H0 H locs := I
    have hl : lv_has ls 4 [(0, .ref (a 7)), (1, .int x91)] := hl
    refine lv_iconst (v := (0 : Int32)) hx hb dX0_fillWithin_30 (by decide) ?_
    refine lv_istore_n (lv' := [(2, .int (0 : Int32)), (0, .ref (a 7)), (1, .int x91)]) hx hb dX0_fillWithin_31 rfl hl (by decide) rfl (fun ls hl => ?_)
    obtain ⟨z37, hw38, h⟩ := bx1 h
    refine wh_W (P := fun (z : CS × Int32) => ∀ (H : Heap) (locs : List Loc) (ls : Array Slot), wk D (cW g a z.1) A H0 H locs → lv_has ls 4 [(0, .ref (a 7)), (1, .int x91), (2, .int z.2)] → W p l e (rmk 0 0) s m args below meth c H locs 0 0 Q (F0 m 32 ls [])) (X := fun (z : CS) => ∀ (H : Heap) (locs : List Loc) (ls : Array Slot), wk D (cW g a z) A H0 H locs → lv_has ls 4 [] → W p l e (rmk 0 0) s m args below meth c H locs 0 0 Q (F0 m 89 ls [])) ?_ FU _ _ hw38 ?_ _ _ _ I (lv_sub hl [1, 2, 0] rfl)
    · intro z o17 h hk18 H locs ls I hl
      obtain ⟨st14, x16⟩ := z
      have h : ((if (4 : Int32) ≤ x16 then some (.inr st14) else (bi1 (wh (f0_fillWithin_b39 x91 x16) FU (st14, (0 : Int32))) fun w36 => some (.inl (w36, (x16 + 1))))) : Option ((CS × Int32) ⊕ (CS))) = some o17 := h
      have I : wk D (cW g a st14) A H0 H locs := I
      have hl : lv_has ls 4 [(0, .ref (a 7)), (1, .int x91), (2, .int x16)] := hl
      refine lv_iload_n hx hb dX0_fillWithin_32 rfl (lv_at hl 2 rfl) ?_
      refine lv_iconst (v := (4 : Int32)) hx hb dX0_fillWithin_33 (by decide) ?_
      refine lv_icmp_ge (tgt := 89) hx hb dX0_fillWithin_34 (by decide) (fun hc19 => ?_) (fun hc19 => ?_)
      · have h := ifp hc19 h
        cases h
        exact hk18 _ _ _ I (lv_sub hl [] rfl)
      · have h := ifn hc19 h
        refine lv_iconst (v := (0 : Int32)) hx hb dX0_fillWithin_37 (by decide) ?_
        refine lv_istore_n (lv' := [(3, .int (0 : Int32)), (0, .ref (a 7)), (1, .int x91), (2, .int x16)]) hx hb dX0_fillWithin_38 rfl hl (by decide) rfl (fun ls hl => ?_)
        obtain ⟨z33, hw34, h⟩ := bx1 h
        refine wh_W (P := fun (z : CS × Int32) => ∀ (H : Heap) (locs : List Loc) (ls : Array Slot), wk D (cW g a z.1) A H0 H locs → lv_has ls 4 [(0, .ref (a 7)), (1, .int x91), (2, .int x16), (3, .int z.2)] → W p l e (rmk 0 0) s m args below meth c H locs 0 0 Q (F0 m 39 ls [])) (X := fun (z : CS) => ∀ (H : Heap) (locs : List Loc) (ls : Array Slot), wk D (cW g a z) A H0 H locs → lv_has ls 4 [(0, .ref (a 7)), (1, .int x91), (2, .int x16)] → W p l e (rmk 0 0) s m args below meth c H locs 0 0 Q (F0 m 83 ls [])) ?_ FU _ _ hw34 ?_ _ _ _ I (lv_sub hl [1, 2, 3, 0] rfl)
        · intro z o24 h hk25 H locs ls I hl
          obtain ⟨st20, x23⟩ := z
          have h : ((if (16 : Int32) ≤ x23 then some (.inr st20) else (if ((x23 >>> (x16 &&& 31)) &&& (1 : Int32)) = (1 : Int32) then (if ib x91 5 = true then (if ib x23 16 = true then (if ib x91 5 = true then (if ib (x23 ^^^ ((1 : Int32) <<< (x16 &&& 31))) 16 = true then (if ib x23 16 = true then some (.inl ((c_within_s st20 (va_up (c_within st20) x91.toNatClampNeg (vp_updL ((c_within st20) x91.toNatClampNeg) x23.toNatClampNeg (((c_within st20) x91.toNatClampNeg x23.toNatClampNeg) + ((c_within st20) x91.toNatClampNeg (x23 ^^^ ((1 : Int32) <<< (x16 &&& 31))).toNatClampNeg))))), (x23 + 1))) else none) else none) else none) else none) else none) else some (.inl (st20, (x23 + 1))))) : Option ((CS × Int32) ⊕ (CS))) = some o24 := h
          have I : wk D (cW g a st20) A H0 H locs := I
          have hl : lv_has ls 4 [(0, .ref (a 7)), (1, .int x91), (2, .int x16), (3, .int x23)] := hl
          refine lv_iload_n hx hb dX0_fillWithin_39 rfl (lv_at hl 3 rfl) ?_
          refine lv_bipush (v := (16 : Int32)) hx hb dX0_fillWithin_40 (by decide) ?_
          refine lv_icmp_ge (tgt := 83) hx hb dX0_fillWithin_42 (by decide) (fun hc26 => ?_) (fun hc26 => ?_)
          · have h := ifp hc26 h
            cases h
            exact hk25 _ _ _ I (lv_sub hl [0, 1, 2] rfl)
          · have h := ifn hc26 h
            refine lv_iload_n hx hb dX0_fillWithin_45 rfl (lv_at hl 3 rfl) ?_
            refine lv_iload_n hx hb dX0_fillWithin_46 rfl (lv_at hl 2 rfl) ?_
            refine lv_ishr hx hb dX0_fillWithin_47 ?_
            refine lv_iconst (v := (1 : Int32)) hx hb dX0_fillWithin_48 (by decide) ?_
            refine lv_iand hx hb dX0_fillWithin_49 ?_
            refine lv_iconst (v := (1 : Int32)) hx hb dX0_fillWithin_50 (by decide) ?_
            refine lv_icmp_ne (tgt := 77) hx hb dX0_fillWithin_51 (by decide) (fun hc27 => ?_) (fun hc27 => ?_)
            · have h := ifn hc27 h
              refine lv_iinc (v := (x23 + 1)) (lv' := [(3, .int (x23 + 1)), (0, .ref (a 7)), (1, .int x91), (2, .int x16)]) hx hb dX0_fillWithin_77 hl (k := 3) rfl rfl (by decide) rfl (fun ls hl => ?_)
              refine lv_goto (tgt := 39) hx hb dX0_fillWithin_80 (by decide) ?_
              cases h
              exact hk25 _ _ _ I (lv_sub hl [1, 2, 3, 0] rfl)
            · have h := ifp hc27 h
              refine lv_aload_n hx hb dX0_fillWithin_54 rfl (lv_at hl 0 rfl) ?_
              refine g0_28 E I dX0_fillWithin_55 ?_
              refine lv_iload_n hx hb dX0_fillWithin_58 rfl (lv_at hl 1 rfl) ?_
              obtain ⟨hc28, h⟩ := gd h
              refine c_al17 E I hc28 dX0_fillWithin_59 ?_
              refine lv_iload_n hx hb dX0_fillWithin_60 rfl (lv_at hl 3 rfl) ?_
              refine lv_dup2_11 hx hb dX0_fillWithin_61 rfl rfl ?_
              obtain ⟨hc29, h⟩ := gd h
              refine c_ld17 E I (f := (c_within st20)) rfl (ib_lt hc28) hc29 dX0_fillWithin_62 ?_
              refine lv_aload_n hx hb dX0_fillWithin_63 rfl (lv_at hl 0 rfl) ?_
              refine g0_28 E I dX0_fillWithin_64 ?_
              refine lv_iload_n hx hb dX0_fillWithin_67 rfl (lv_at hl 1 rfl) ?_
              obtain ⟨hc30, h⟩ := gd h
              refine c_al17 E I hc30 dX0_fillWithin_68 ?_
              refine lv_iload_n hx hb dX0_fillWithin_69 rfl (lv_at hl 3 rfl) ?_
              refine lv_iconst (v := (1 : Int32)) hx hb dX0_fillWithin_70 (by decide) ?_
              refine lv_iload_n hx hb dX0_fillWithin_71 rfl (lv_at hl 2 rfl) ?_
              refine lv_ishl hx hb dX0_fillWithin_72 ?_
              refine lv_ixor hx hb dX0_fillWithin_73 ?_
              obtain ⟨hc31, h⟩ := gd h
              refine c_ld17 E I (f := (c_within st20)) rfl (ib_lt hc30) hc31 dX0_fillWithin_74 ?_
              refine lv_ladd hx hb dX0_fillWithin_75 ?_
              obtain ⟨hc32, h⟩ := gd h
              refine c_st17 E I (f := (c_within st20)) rfl (ib_lt hc28) hc32 dX0_fillWithin_76 (fun H locs I => ?_)
              refine lv_iinc (v := (x23 + 1)) (lv' := [(3, .int (x23 + 1)), (0, .ref (a 7)), (1, .int x91), (2, .int x16)]) hx hb dX0_fillWithin_77 hl (k := 3) rfl rfl (by decide) rfl (fun ls hl => ?_)
              refine lv_goto (tgt := 39) hx hb dX0_fillWithin_80 (by decide) ?_
              cases h
              exact hk25 _ _ _ I (lv_sub hl [1, 2, 3, 0] rfl)
        · obtain ⟨st35, rfl⟩ : ∃ y, y = z33 := ⟨_, rfl⟩
          intro H locs ls I hl
          have h : (some (.inl (st35, (x16 + 1))) : Option ((CS × Int32) ⊕ (CS))) = some o17 := h
          have I : wk D (cW g a st35) A H0 H locs := I
          have hl : lv_has ls 4 [(0, .ref (a 7)), (1, .int x91), (2, .int x16)] := hl
          refine lv_iinc (v := (x16 + 1)) (lv' := [(2, .int (x16 + 1)), (0, .ref (a 7)), (1, .int x91)]) hx hb dX0_fillWithin_83 hl (k := 2) rfl rfl (by decide) rfl (fun ls hl => ?_)
          refine lv_goto (tgt := 32) hx hb dX0_fillWithin_86 (by decide) ?_
          cases h
          exact hk18 _ _ _ I (lv_sub hl [1, 2, 0] rfl)
    · obtain ⟨st39, rfl⟩ : ∃ y, y = z37 := ⟨_, rfl⟩
      intro H locs ls I hl
      have h : (some st39 : Option CS) = some o := h
      have I : wk D (cW g a st39) A H0 H locs := I
      have hl : lv_has ls 4 [] := hl
      cases h
      exact K _ _ _ _ I dX0_fillWithin_89
set_option maxHeartbeats 4000000 in
set_option maxRecDepth 100000 in
theorem c0_solve {l : Launch} {D : va_G} {g : Nat → ClassId} {a : Nat → Nat} {st : CS} {x91 : Int32} {x92 : Int32} {o : CS} (h : f0_solve st x91 x92 = some o) : ct l yX0_solve cX0_solve 8 none (rmk 3 68) D g (cW g a st) (cW g a o) [.ref (a 7), .int x91, .int x92] none := by
  refine ct_of ⟨rfl, rfl⟩ (by decide) (Nat.le_of_ble_eq_true rfl) ?_
  intro p e s m args below meth c ls Q A H0 H locs E I hl K
  have E : en p m c cX0_solve 8 s args RX0 D g := E
  have hx := E.1.1
  have hb := E.1.2.1
  have hl : lv_has ls 8 [(0, .ref (a 7)), (1, .int x91), (2, .int x92)] := hl
  have K : ∀ (pc : Nat) (ls : Array Slot) (H : Heap) (locs : List Loc), wk D (cW g a o) A H0 H locs → decode cX0_solve pc = .ok (.return_, 1) → W p l e (rmk 3 68) s m args below meth c H locs 0 0 Q (F0 m pc ls []) := fun pc ls H locs I hd => K pc ls H locs I hd
  have h : ((if ib x91 5 = true then (bi1 (wh (f0_solve_b9 x91 x92) FU ((c_size_s st (upd (c_size st) x91.toNatClampNeg (0 : Int32))), (0 : Int32))) fun w66 => (bi1 (wh (f0_solve_b32 x91 x92) FU (w66, (0 : Int32))) fun w65 => (bi1 (f0_fillWithin w65 x91) fun st64 => some st64))) else none) : Option CS) = some o := h
  refine lv_aload_n hx hb dX0_solve_0 rfl (lv_at hl 0 rfl) ?_
  refine g0_20 E I dX0_solve_1 ?_
  refine lv_iload_n hx hb dX0_solve_4 rfl (lv_at hl 1 rfl) ?_
  refine lv_iconst (v := (0 : Int32)) hx hb dX0_solve_5 (by decide) ?_
  obtain ⟨hc1, h⟩ := gd h
  refine c_st15 E I (f := (c_size st)) rfl hc1 dX0_solve_6 (fun H locs I => ?_)
  refine lv_iconst (v := (0 : Int32)) hx hb dX0_solve_7 (by decide) ?_
  refine lv_istore_n (lv' := [(3, .int (0 : Int32)), (0, .ref (a 7)), (1, .int x91), (2, .int x92)]) hx hb dX0_solve_8 rfl hl (by decide) rfl (fun ls hl => ?_)
  obtain ⟨z11, hw12, h⟩ := bx1 h
  refine wh_W (P := fun (z : CS × Int32) => ∀ (H : Heap) (locs : List Loc) (ls : Array Slot), wk D (cW g a z.1) A H0 H locs → lv_has ls 8 [(0, .ref (a 7)), (1, .int x91), (2, .int x92), (3, .int z.2)] → W p l e (rmk 3 68) s m args below meth c H locs 0 0 Q (F0 m 9 ls [])) (X := fun (z : CS) => ∀ (H : Heap) (locs : List Loc) (ls : Array Slot), wk D (cW g a z) A H0 H locs → lv_has ls 8 [(0, .ref (a 7)), (1, .int x91), (2, .int x92)] → W p l e (rmk 3 68) s m args below meth c H locs 0 0 Q (F0 m 30 ls [])) ?_ FU _ _ hw12 ?_ _ _ _ I (lv_sub hl [1, 2, 3, 0] rfl)
  · intro z o6 h hk7 H locs ls I hl
    obtain ⟨st2, x5⟩ := z
    have h : ((if (16 : Int32) ≤ x5 then some (.inr st2) else (if ib x91 5 = true then (if ib x5 16 = true then some (.inl ((c_exactly_s st2 (va_up (c_exactly st2) x91.toNatClampNeg (vp_updL ((c_exactly st2) x91.toNatClampNeg) x5.toNatClampNeg (0 : Int64)))), (x5 + 1))) else none) else none)) : Option ((CS × Int32) ⊕ (CS))) = some o6 := h
    have I : wk D (cW g a st2) A H0 H locs := I
    have hl : lv_has ls 8 [(0, .ref (a 7)), (1, .int x91), (2, .int x92), (3, .int x5)] := hl
    refine lv_iload_n hx hb dX0_solve_9 rfl (lv_at hl 3 rfl) ?_
    refine lv_bipush (v := (16 : Int32)) hx hb dX0_solve_10 (by decide) ?_
    refine lv_icmp_ge (tgt := 30) hx hb dX0_solve_12 (by decide) (fun hc8 => ?_) (fun hc8 => ?_)
    · have h := ifp hc8 h
      cases h
      exact hk7 _ _ _ I (lv_sub hl [0, 1, 2] rfl)
    · have h := ifn hc8 h
      refine lv_aload_n hx hb dX0_solve_15 rfl (lv_at hl 0 rfl) ?_
      refine g0_25 E I dX0_solve_16 ?_
      refine lv_iload_n hx hb dX0_solve_19 rfl (lv_at hl 1 rfl) ?_
      obtain ⟨hc9, h⟩ := gd h
      refine c_al16 E I hc9 dX0_solve_20 ?_
      refine lv_iload_n hx hb dX0_solve_21 rfl (lv_at hl 3 rfl) ?_
      refine lv_lconst (v := (0 : Int64)) hx hb dX0_solve_22 (by decide) ?_
      obtain ⟨hc10, h⟩ := gd h
      refine c_st16 E I (f := (c_exactly st2)) rfl (ib_lt hc9) hc10 dX0_solve_23 (fun H locs I => ?_)
      refine lv_iinc (v := (x5 + 1)) (lv' := [(3, .int (x5 + 1)), (0, .ref (a 7)), (1, .int x91), (2, .int x92)]) hx hb dX0_solve_24 hl (k := 3) rfl rfl (by decide) rfl (fun ls hl => ?_)
      refine lv_goto (tgt := 9) hx hb dX0_solve_27 (by decide) ?_
      cases h
      exact hk7 _ _ _ I (lv_sub hl [1, 2, 3, 0] rfl)
  · obtain ⟨st13, rfl⟩ : ∃ y, y = z11 := ⟨_, rfl⟩
    intro H locs ls I hl
    have h : ((bi1 (wh (f0_solve_b32 x91 x92) FU (st13, (0 : Int32))) fun w65 => (bi1 (f0_fillWithin w65 x91) fun st64 => some st64)) : Option CS) = some o := h
    have I : wk D (cW g a st13) A H0 H locs := I
    have hl : lv_has ls 8 [(0, .ref (a 7)), (1, .int x91), (2, .int x92)] := hl
    refine lv_iconst (v := (0 : Int32)) hx hb dX0_solve_30 (by decide) ?_
    refine lv_istore_n (lv' := [(3, .int (0 : Int32)), (0, .ref (a 7)), (1, .int x91), (2, .int x92)]) hx hb dX0_solve_31 rfl hl (by decide) rfl (fun ls hl => ?_)
    obtain ⟨z60, hw61, h⟩ := bx1 h
    refine wh_W (P := fun (z : CS × Int32) => ∀ (H : Heap) (locs : List Loc) (ls : Array Slot), wk D (cW g a z.1) A H0 H locs → lv_has ls 8 [(0, .ref (a 7)), (1, .int x91), (2, .int x92), (3, .int z.2)] → W p l e (rmk 3 68) s m args below meth c H locs 0 0 Q (F0 m 32 ls [])) (X := fun (z : CS) => ∀ (H : Heap) (locs : List Loc) (ls : Array Slot), wk D (cW g a z) A H0 H locs → lv_has ls 8 [(0, .ref (a 7)), (1, .int x91)] → W p l e (rmk 3 68) s m args below meth c H locs 0 0 Q (F0 m 183 ls [])) ?_ FU _ _ hw61 ?_ _ _ _ I (lv_sub hl [1, 2, 3, 0] rfl)
    · intro z o18 h hk19 H locs ls I hl
      obtain ⟨st14, x17⟩ := z
      have h : ((bi1 (f0_top st14 (0 : Int32)) fun r21 => (if r21 < x17 then some (.inr st14) else (if x92 < (((c_weight st14) (0 : Int32).toNatClampNeg) * x17) then some (.inr st14) else (bi1 (wh (f0_solve_b68 x91 x92 x17 (x92 - (((c_weight st14) (0 : Int32).toNatClampNeg) * x17))) FU (st14, (0 : Int32))) fun w59 => some (.inl (w59, (x17 + 1))))))) : Option ((CS × Int32) ⊕ (CS))) = some o18 := h
      have I : wk D (cW g a st14) A H0 H locs := I
      have hl : lv_has ls 8 [(0, .ref (a 7)), (1, .int x91), (2, .int x92), (3, .int x17)] := hl
      refine lv_iload_n hx hb dX0_solve_32 rfl (lv_at hl 3 rfl) ?_
      refine lv_aload_n hx hb dX0_solve_33 rfl (lv_at hl 0 rfl) ?_
      refine lv_iconst (v := (0 : Int32)) hx hb dX0_solve_34 (by decide) ?_
      obtain ⟨r21, hc20, h⟩ := bx1 h
      refine r_callV1 (As := [.int (0 : Int32)]) (rest := [.int x17]) (ws' := (cW g a st14)) (q0 := 7) E I hl.1 k0_70 (c0_top hc20) cW_k rfl rfl rfl rfl (Nat.le_of_ble_eq_true rfl) ⟨Nat.le_of_ble_eq_true rfl, Nat.le_of_ble_eq_true rfl⟩ ⟨Nat.zero_le _, Nat.zero_le _⟩ dX0_solve_35 (fun H locs I => ?_)
      refine lv_icmp_gt (tgt := 183) hx hb dX0_solve_38 (by decide) (fun hc22 => ?_) (fun hc22 => ?_)
      · have h := ifp hc22 h
        cases h
        exact hk19 _ _ _ I (lv_sub hl [0, 1] rfl)
      · have h := ifn hc22 h
        refine lv_aload_n hx hb dX0_solve_41 rfl (lv_at hl 0 rfl) ?_
        refine g0_9 E I dX0_solve_42 ?_
        refine lv_iconst (v := (0 : Int32)) hx hb dX0_solve_45 (by decide) ?_
        refine c_ld13 E I (f := (c_weight st14)) rfl (by decide) dX0_solve_46 ?_
        refine lv_iload_n hx hb dX0_solve_47 rfl (lv_at hl 3 rfl) ?_
        refine lv_imul hx hb dX0_solve_48 ?_
        refine lv_iload_n hx hb dX0_solve_49 rfl (lv_at hl 2 rfl) ?_
        refine lv_icmp_gt (tgt := 183) hx hb dX0_solve_50 (by decide) (fun hc23 => ?_) (fun hc23 => ?_)
        · have h := ifp hc23 h
          cases h
          exact hk19 _ _ _ I (lv_sub hl [0, 1] rfl)
        · have h := ifn hc23 h
          refine lv_iload_n hx hb dX0_solve_53 rfl (lv_at hl 2 rfl) ?_
          refine lv_aload_n hx hb dX0_solve_54 rfl (lv_at hl 0 rfl) ?_
          refine g0_9 E I dX0_solve_55 ?_
          refine lv_iconst (v := (0 : Int32)) hx hb dX0_solve_58 (by decide) ?_
          refine c_ld13 E I (f := (c_weight st14)) rfl (by decide) dX0_solve_59 ?_
          refine lv_iload_n hx hb dX0_solve_60 rfl (lv_at hl 3 rfl) ?_
          refine lv_imul hx hb dX0_solve_61 ?_
          refine lv_isub hx hb dX0_solve_62 ?_
          refine lv_istore (lv' := [(4, .int (x92 - (((c_weight st14) (0 : Int32).toNatClampNeg) * x17))), (0, .ref (a 7)), (1, .int x91), (2, .int x92), (3, .int x17)]) hx hb dX0_solve_63 hl (by decide) rfl (fun ls hl => ?_)
          refine lv_iconst (v := (0 : Int32)) hx hb dX0_solve_65 (by decide) ?_
          refine lv_istore (lv' := [(5, .int (0 : Int32)), (4, .int (x92 - (((c_weight st14) (0 : Int32).toNatClampNeg) * x17))), (0, .ref (a 7)), (1, .int x91), (2, .int x92), (3, .int x17)]) hx hb dX0_solve_66 hl (by decide) rfl (fun ls hl => ?_)
          obtain ⟨z56, hw57, h⟩ := bx1 h
          refine wh_W (P := fun (z : CS × Int32) => ∀ (H : Heap) (locs : List Loc) (ls : Array Slot), wk D (cW g a z.1) A H0 H locs → lv_has ls 8 [(0, .ref (a 7)), (1, .int x91), (2, .int x92), (3, .int x17), (4, .int (x92 - (((c_weight st14) (0 : Int32).toNatClampNeg) * x17))), (5, .int z.2)] → W p l e (rmk 3 68) s m args below meth c H locs 0 0 Q (F0 m 68 ls [])) (X := fun (z : CS) => ∀ (H : Heap) (locs : List Loc) (ls : Array Slot), wk D (cW g a z) A H0 H locs → lv_has ls 8 [(0, .ref (a 7)), (1, .int x91), (2, .int x92), (3, .int x17)] → W p l e (rmk 3 68) s m args below meth c H locs 0 0 Q (F0 m 177 ls [])) ?_ FU _ _ hw57 ?_ _ _ _ I (lv_sub hl [2, 3, 4, 5, 1, 0] rfl)
          · intro z o30 h hk31 H locs ls I hl
            obtain ⟨st24, x29⟩ := z
            have h : ((bi1 (f0_top st24 (1 : Int32)) fun r33 => (if r33 < x29 then some (.inr st24) else (if (x92 - (((c_weight st14) (0 : Int32).toNatClampNeg) * x17)) < (((c_weight st24) (1 : Int32).toNatClampNeg) * x29) then some (.inr st24) else (bi1 (wh (f0_solve_b109 x91 x92 x17 (x92 - (((c_weight st14) (0 : Int32).toNatClampNeg) * x17)) x29 ((x92 - (((c_weight st14) (0 : Int32).toNatClampNeg) * x17)) - (((c_weight st24) (1 : Int32).toNatClampNeg) * x29))) FU (st24, (0 : Int32))) fun w55 => some (.inl (w55, (x29 + 1))))))) : Option ((CS × Int32) ⊕ (CS))) = some o30 := h
            have I : wk D (cW g a st24) A H0 H locs := I
            have hl : lv_has ls 8 [(0, .ref (a 7)), (1, .int x91), (2, .int x92), (3, .int x17), (4, .int (x92 - (((c_weight st14) (0 : Int32).toNatClampNeg) * x17))), (5, .int x29)] := hl
            refine lv_iload hx hb dX0_solve_68 (lv_at hl 5 rfl) ?_
            refine lv_aload_n hx hb dX0_solve_70 rfl (lv_at hl 0 rfl) ?_
            refine lv_iconst (v := (1 : Int32)) hx hb dX0_solve_71 (by decide) ?_
            obtain ⟨r33, hc32, h⟩ := bx1 h
            refine r_callV1 (As := [.int (1 : Int32)]) (rest := [.int x29]) (ws' := (cW g a st24)) (q0 := 7) E I hl.1 k0_70 (c0_top hc32) cW_k rfl rfl rfl rfl (Nat.le_of_ble_eq_true rfl) ⟨Nat.le_of_ble_eq_true rfl, Nat.le_of_ble_eq_true rfl⟩ ⟨Nat.zero_le _, Nat.zero_le _⟩ dX0_solve_72 (fun H locs I => ?_)
            refine lv_icmp_gt (tgt := 177) hx hb dX0_solve_75 (by decide) (fun hc34 => ?_) (fun hc34 => ?_)
            · have h := ifp hc34 h
              cases h
              exact hk31 _ _ _ I (lv_sub hl [0, 1, 2, 3] rfl)
            · have h := ifn hc34 h
              refine lv_aload_n hx hb dX0_solve_78 rfl (lv_at hl 0 rfl) ?_
              refine g0_9 E I dX0_solve_79 ?_
              refine lv_iconst (v := (1 : Int32)) hx hb dX0_solve_82 (by decide) ?_
              refine c_ld13 E I (f := (c_weight st24)) rfl (by decide) dX0_solve_83 ?_
              refine lv_iload hx hb dX0_solve_84 (lv_at hl 5 rfl) ?_
              refine lv_imul hx hb dX0_solve_86 ?_
              refine lv_iload hx hb dX0_solve_87 (lv_at hl 4 rfl) ?_
              refine lv_icmp_gt (tgt := 177) hx hb dX0_solve_89 (by decide) (fun hc35 => ?_) (fun hc35 => ?_)
              · have h := ifp hc35 h
                cases h
                exact hk31 _ _ _ I (lv_sub hl [0, 1, 2, 3] rfl)
              · have h := ifn hc35 h
                refine lv_iload hx hb dX0_solve_92 (lv_at hl 4 rfl) ?_
                refine lv_aload_n hx hb dX0_solve_94 rfl (lv_at hl 0 rfl) ?_
                refine g0_9 E I dX0_solve_95 ?_
                refine lv_iconst (v := (1 : Int32)) hx hb dX0_solve_98 (by decide) ?_
                refine c_ld13 E I (f := (c_weight st24)) rfl (by decide) dX0_solve_99 ?_
                refine lv_iload hx hb dX0_solve_100 (lv_at hl 5 rfl) ?_
                refine lv_imul hx hb dX0_solve_102 ?_
                refine lv_isub hx hb dX0_solve_103 ?_
                refine lv_istore (lv' := [(6, .int ((x92 - (((c_weight st14) (0 : Int32).toNatClampNeg) * x17)) - (((c_weight st24) (1 : Int32).toNatClampNeg) * x29))), (0, .ref (a 7)), (1, .int x91), (2, .int x92), (3, .int x17), (4, .int (x92 - (((c_weight st14) (0 : Int32).toNatClampNeg) * x17))), (5, .int x29)]) hx hb dX0_solve_104 hl (by decide) rfl (fun ls hl => ?_)
                refine lv_iconst (v := (0 : Int32)) hx hb dX0_solve_106 (by decide) ?_
                refine lv_istore (lv' := [(7, .int (0 : Int32)), (6, .int ((x92 - (((c_weight st14) (0 : Int32).toNatClampNeg) * x17)) - (((c_weight st24) (1 : Int32).toNatClampNeg) * x29))), (0, .ref (a 7)), (1, .int x91), (2, .int x92), (3, .int x17), (4, .int (x92 - (((c_weight st14) (0 : Int32).toNatClampNeg) * x17))), (5, .int x29)]) hx hb dX0_solve_107 hl (by decide) rfl (fun ls hl => ?_)
                obtain ⟨z52, hw53, h⟩ := bx1 h
                refine wh_W (P := fun (z : CS × Int32) => ∀ (H : Heap) (locs : List Loc) (ls : Array Slot), wk D (cW g a z.1) A H0 H locs → lv_has ls 8 [(0, .ref (a 7)), (1, .int x91), (2, .int x92), (3, .int x17), (4, .int (x92 - (((c_weight st14) (0 : Int32).toNatClampNeg) * x17))), (5, .int x29), (6, .int ((x92 - (((c_weight st14) (0 : Int32).toNatClampNeg) * x17)) - (((c_weight st24) (1 : Int32).toNatClampNeg) * x29))), (7, .int z.2)] → W p l e (rmk 3 68) s m args below meth c H locs 0 0 Q (F0 m 109 ls [])) (X := fun (z : CS) => ∀ (H : Heap) (locs : List Loc) (ls : Array Slot), wk D (cW g a z) A H0 H locs → lv_has ls 8 [(0, .ref (a 7)), (1, .int x91), (2, .int x92), (3, .int x17), (4, .int (x92 - (((c_weight st14) (0 : Int32).toNatClampNeg) * x17))), (5, .int x29)] → W p l e (rmk 3 68) s m args below meth c H locs 0 0 Q (F0 m 171 ls [])) ?_ FU _ _ hw53 ?_ _ _ _ I (lv_sub hl [2, 3, 4, 5, 6, 7, 1, 0] rfl)
                · intro z o44 h hk45 H locs ls I hl
                  obtain ⟨st36, x43⟩ := z
                  have h : ((bi1 (f0_top st36 (2 : Int32)) fun r47 => (if r47 < x43 then some (.inr st36) else (if ((x92 - (((c_weight st14) (0 : Int32).toNatClampNeg) * x17)) - (((c_weight st24) (1 : Int32).toNatClampNeg) * x29)) < (((c_weight st36) (2 : Int32).toNatClampNeg) * x43) then some (.inr st36) else (bi1 (f0_solveLast st36 x91 (((x17 <<< ((12 : Int32) &&& 31)) ||| (x29 <<< ((8 : Int32) &&& 31))) ||| (x43 <<< ((4 : Int32) &&& 31))) (((x92 - (((c_weight st14) (0 : Int32).toNatClampNeg) * x17)) - (((c_weight st24) (1 : Int32).toNatClampNeg) * x29)) - (((c_weight st36) (2 : Int32).toNatClampNeg) * x43))) fun st51 => some (.inl (st51, (x43 + 1))))))) : Option ((CS × Int32) ⊕ (CS))) = some o44 := h
                  have I : wk D (cW g a st36) A H0 H locs := I
                  have hl : lv_has ls 8 [(0, .ref (a 7)), (1, .int x91), (2, .int x92), (3, .int x17), (4, .int (x92 - (((c_weight st14) (0 : Int32).toNatClampNeg) * x17))), (5, .int x29), (6, .int ((x92 - (((c_weight st14) (0 : Int32).toNatClampNeg) * x17)) - (((c_weight st24) (1 : Int32).toNatClampNeg) * x29))), (7, .int x43)] := hl
                  refine lv_iload hx hb dX0_solve_109 (lv_at hl 7 rfl) ?_
                  refine lv_aload_n hx hb dX0_solve_111 rfl (lv_at hl 0 rfl) ?_
                  refine lv_iconst (v := (2 : Int32)) hx hb dX0_solve_112 (by decide) ?_
                  obtain ⟨r47, hc46, h⟩ := bx1 h
                  refine r_callV1 (As := [.int (2 : Int32)]) (rest := [.int x43]) (ws' := (cW g a st36)) (q0 := 7) E I hl.1 k0_70 (c0_top hc46) cW_k rfl rfl rfl rfl (Nat.le_of_ble_eq_true rfl) ⟨Nat.le_of_ble_eq_true rfl, Nat.le_of_ble_eq_true rfl⟩ ⟨Nat.zero_le _, Nat.zero_le _⟩ dX0_solve_113 (fun H locs I => ?_)
                  refine lv_icmp_gt (tgt := 171) hx hb dX0_solve_116 (by decide) (fun hc48 => ?_) (fun hc48 => ?_)
                  · have h := ifp hc48 h
                    cases h
                    exact hk45 _ _ _ I (lv_sub hl [0, 1, 2, 3, 4, 5] rfl)
                  · have h := ifn hc48 h
                    refine lv_aload_n hx hb dX0_solve_119 rfl (lv_at hl 0 rfl) ?_
                    refine g0_9 E I dX0_solve_120 ?_
                    refine lv_iconst (v := (2 : Int32)) hx hb dX0_solve_123 (by decide) ?_
                    refine c_ld13 E I (f := (c_weight st36)) rfl (by decide) dX0_solve_124 ?_
                    refine lv_iload hx hb dX0_solve_125 (lv_at hl 7 rfl) ?_
                    refine lv_imul hx hb dX0_solve_127 ?_
                    refine lv_iload hx hb dX0_solve_128 (lv_at hl 6 rfl) ?_
                    refine lv_icmp_gt (tgt := 171) hx hb dX0_solve_130 (by decide) (fun hc49 => ?_) (fun hc49 => ?_)
                    · have h := ifp hc49 h
                      cases h
                      exact hk45 _ _ _ I (lv_sub hl [0, 1, 2, 3, 4, 5] rfl)
                    · have h := ifn hc49 h
                      refine lv_aload_n hx hb dX0_solve_133 rfl (lv_at hl 0 rfl) ?_
                      refine lv_iload_n hx hb dX0_solve_134 rfl (lv_at hl 1 rfl) ?_
                      refine lv_iload_n hx hb dX0_solve_135 rfl (lv_at hl 3 rfl) ?_
                      refine lv_bipush (v := (12 : Int32)) hx hb dX0_solve_136 (by decide) ?_
                      refine lv_ishl hx hb dX0_solve_138 ?_
                      refine lv_iload hx hb dX0_solve_139 (lv_at hl 5 rfl) ?_
                      refine lv_bipush (v := (8 : Int32)) hx hb dX0_solve_141 (by decide) ?_
                      refine lv_ishl hx hb dX0_solve_143 ?_
                      refine lv_ior hx hb dX0_solve_144 ?_
                      refine lv_iload hx hb dX0_solve_145 (lv_at hl 7 rfl) ?_
                      refine lv_iconst (v := (4 : Int32)) hx hb dX0_solve_147 (by decide) ?_
                      refine lv_ishl hx hb dX0_solve_148 ?_
                      refine lv_ior hx hb dX0_solve_149 ?_
                      refine lv_iload hx hb dX0_solve_150 (lv_at hl 6 rfl) ?_
                      refine lv_aload_n hx hb dX0_solve_152 rfl (lv_at hl 0 rfl) ?_
                      refine g0_9 E I dX0_solve_153 ?_
                      refine lv_iconst (v := (2 : Int32)) hx hb dX0_solve_156 (by decide) ?_
                      refine c_ld13 E I (f := (c_weight st36)) rfl (by decide) dX0_solve_157 ?_
                      refine lv_iload hx hb dX0_solve_158 (lv_at hl 7 rfl) ?_
                      refine lv_imul hx hb dX0_solve_160 ?_
                      refine lv_isub hx hb dX0_solve_161 ?_
                      obtain ⟨st51, hc50, h⟩ := bx1 h
                      refine r_callV0 (As := [.int x91, .int (((x17 <<< ((12 : Int32) &&& 31)) ||| (x29 <<< ((8 : Int32) &&& 31))) ||| (x43 <<< ((4 : Int32) &&& 31))), .int (((x92 - (((c_weight st14) (0 : Int32).toNatClampNeg) * x17)) - (((c_weight st24) (1 : Int32).toNatClampNeg) * x29)) - (((c_weight st36) (2 : Int32).toNatClampNeg) * x43))]) (rest := []) (ws' := (cW g a st51)) (q0 := 7) E I hl.1 k0_73 (c0_solveLast hc50) cW_k rfl rfl rfl rfl (Nat.le_of_ble_eq_true rfl) ⟨Nat.le_of_ble_eq_true rfl, Nat.le_of_ble_eq_true rfl⟩ ⟨Nat.zero_le _, Nat.zero_le _⟩ dX0_solve_162 (fun H locs I => ?_)
                      refine lv_iinc (v := (x43 + 1)) (lv' := [(7, .int (x43 + 1)), (0, .ref (a 7)), (1, .int x91), (2, .int x92), (3, .int x17), (4, .int (x92 - (((c_weight st14) (0 : Int32).toNatClampNeg) * x17))), (5, .int x29), (6, .int ((x92 - (((c_weight st14) (0 : Int32).toNatClampNeg) * x17)) - (((c_weight st24) (1 : Int32).toNatClampNeg) * x29)))]) hx hb dX0_solve_165 hl (k := 7) rfl rfl (by decide) rfl (fun ls hl => ?_)
                      refine lv_goto (tgt := 109) hx hb dX0_solve_168 (by decide) ?_
                      cases h
                      exact hk45 _ _ _ I (lv_sub hl [1, 2, 3, 4, 5, 6, 7, 0] rfl)
                · obtain ⟨st54, rfl⟩ : ∃ y, y = z52 := ⟨_, rfl⟩
                  intro H locs ls I hl
                  have h : (some (.inl (st54, (x29 + 1))) : Option ((CS × Int32) ⊕ (CS))) = some o30 := h
                  have I : wk D (cW g a st54) A H0 H locs := I
                  have hl : lv_has ls 8 [(0, .ref (a 7)), (1, .int x91), (2, .int x92), (3, .int x17), (4, .int (x92 - (((c_weight st14) (0 : Int32).toNatClampNeg) * x17))), (5, .int x29)] := hl
                  refine lv_iinc (v := (x29 + 1)) (lv' := [(5, .int (x29 + 1)), (0, .ref (a 7)), (1, .int x91), (2, .int x92), (3, .int x17), (4, .int (x92 - (((c_weight st14) (0 : Int32).toNatClampNeg) * x17)))]) hx hb dX0_solve_171 hl (k := 5) rfl rfl (by decide) rfl (fun ls hl => ?_)
                  refine lv_goto (tgt := 68) hx hb dX0_solve_174 (by decide) ?_
                  cases h
                  exact hk31 _ _ _ I (lv_sub hl [1, 2, 3, 4, 5, 0] rfl)
          · obtain ⟨st58, rfl⟩ : ∃ y, y = z56 := ⟨_, rfl⟩
            intro H locs ls I hl
            have h : (some (.inl (st58, (x17 + 1))) : Option ((CS × Int32) ⊕ (CS))) = some o18 := h
            have I : wk D (cW g a st58) A H0 H locs := I
            have hl : lv_has ls 8 [(0, .ref (a 7)), (1, .int x91), (2, .int x92), (3, .int x17)] := hl
            refine lv_iinc (v := (x17 + 1)) (lv' := [(3, .int (x17 + 1)), (0, .ref (a 7)), (1, .int x91), (2, .int x92)]) hx hb dX0_solve_177 hl (k := 3) rfl rfl (by decide) rfl (fun ls hl => ?_)
            refine lv_goto (tgt := 32) hx hb dX0_solve_180 (by decide) ?_
            cases h
            exact hk19 _ _ _ I (lv_sub hl [1, 2, 3, 0] rfl)
    · obtain ⟨st62, rfl⟩ : ∃ y, y = z60 := ⟨_, rfl⟩
      intro H locs ls I hl
      have h : ((bi1 (f0_fillWithin st62 x91) fun st64 => some st64) : Option CS) = some o := h
      have I : wk D (cW g a st62) A H0 H locs := I
      have hl : lv_has ls 8 [(0, .ref (a 7)), (1, .int x91)] := hl
      refine lv_aload_n hx hb dX0_solve_183 rfl (lv_at hl 0 rfl) ?_
      refine lv_iload_n hx hb dX0_solve_184 rfl (lv_at hl 1 rfl) ?_
      obtain ⟨st64, hc63, h⟩ := bx1 h
      refine r_callV0 (As := [.int x91]) (rest := []) (ws' := (cW g a st64)) (q0 := 7) E I hl.1 k0_77 (c0_fillWithin hc63) cW_k rfl rfl rfl rfl (Nat.le_of_ble_eq_true rfl) ⟨Nat.le_of_ble_eq_true rfl, Nat.le_of_ble_eq_true rfl⟩ ⟨Nat.zero_le _, Nat.zero_le _⟩ dX0_solve_185 (fun H locs I => ?_)
      cases h
      exact K _ _ _ _ I dX0_solve_188
set_option maxHeartbeats 4000000 in
set_option maxRecDepth 100000 in
theorem c0_waysFrom {l : Launch} {D : va_G} {g : Nat → ClassId} {a : Nat → Nat} {st : CS} {x91 : Int32} {x92 : Int32} {o : Int64} (h : f0_waysFrom st x91 x92 = some o) : ct l yX0_waysFrom cX0_waysFrom 6 (some .long) (rmk 0 0) D g (cW g a st) (cW g a st) [.ref (a 7), .int x91, .int x92] (some (.long o)) := by
  refine ct_of ⟨rfl, rfl⟩ (by decide) (Nat.le_of_ble_eq_true rfl) ?_
  intro p e s m args below meth c ls Q A H0 H locs E I hl K
  have E : en p m c cX0_waysFrom 6 s args RX0 D g := E
  have hx := E.1.1
  have hb := E.1.2.1
  have hl : lv_has ls 6 [(0, .ref (a 7)), (1, .int x91), (2, .int x92)] := hl
  have K : ∀ (pc : Nat) (ls : Array Slot) (H : Heap) (locs : List Loc), wk D (cW g a st) A H0 H locs → decode cX0_waysFrom pc = .ok (.lreturn, 1) → W p l e (rmk 0 0) s m args below meth c H locs 0 0 Q (F0 m pc ls [.long o]) := fun pc ls H locs I hd => K pc ls H locs I hd
  have h : ((bi1 (wh (f0_waysFrom_b5 st x91 x92) FU ((0 : Int64), (0 : Int32))) fun w18 => some w18) : Option Int64) = some o := h
  refine lv_lconst (v := (0 : Int64)) hx hb dX0_waysFrom_0 (by decide) ?_
  refine lv_lstore_n (lv' := [(3, .long (0 : Int64)), (0, .ref (a 7)), (1, .int x91), (2, .int x92)]) hx hb dX0_waysFrom_1 rfl hl (by decide) rfl (fun ls hl => ?_)
  refine lv_iconst (v := (0 : Int32)) hx hb dX0_waysFrom_2 (by decide) ?_
  refine lv_istore (lv' := [(5, .int (0 : Int32)), (3, .long (0 : Int64)), (0, .ref (a 7)), (1, .int x91), (2, .int x92)]) hx hb dX0_waysFrom_3 hl (by decide) rfl (fun ls hl => ?_)
  obtain ⟨z15, hw16, h⟩ := bx1 h
  refine wh_W (P := fun (z : Int64 × Int32) => ∀ (H : Heap) (locs : List Loc) (ls : Array Slot), wk D (cW g a st) A H0 H locs → lv_has ls 6 [(0, .ref (a 7)), (1, .int x91), (2, .int x92), (3, .long z.1), (5, .int z.2)] → W p l e (rmk 0 0) s m args below meth c H locs 0 0 Q (F0 m 5 ls [])) (X := fun (z : Int64) => ∀ (H : Heap) (locs : List Loc) (ls : Array Slot), wk D (cW g a st) A H0 H locs → lv_has ls 6 [(3, .long z)] → W p l e (rmk 0 0) s m args below meth c H locs 0 0 Q (F0 m 44 ls [])) ?_ FU _ _ hw16 ?_ _ _ _ I (lv_sub hl [2, 3, 4, 1, 0] rfl)
  · intro z o6 h hk7 H locs ls I hl
    obtain ⟨x4, x5⟩ := z
    have h : ((if (16 : Int32) ≤ x5 then some (.inr x4) else (if ib x91 5 = true then (if ib x5 16 = true then (if ib (x91 + (1 : Int32)) 5 = true then (if ib (x92 ||| x5) 16 = true then (lq (x4 + (((c_exactly st) x91.toNatClampNeg x5.toNatClampNeg) * ((c_eways st) (x91 + (1 : Int32)).toNatClampNeg (x92 ||| x5).toNatClampNeg))) fun x13 => some (.inl (x13, (x5 + 1)))) else none) else none) else none) else none)) : Option ((Int64 × Int32) ⊕ (Int64))) = some o6 := h
    have I : wk D (cW g a st) A H0 H locs := I
    have hl : lv_has ls 6 [(0, .ref (a 7)), (1, .int x91), (2, .int x92), (3, .long x4), (5, .int x5)] := hl
    refine lv_iload hx hb dX0_waysFrom_5 (lv_at hl 4 rfl) ?_
    refine lv_bipush (v := (16 : Int32)) hx hb dX0_waysFrom_7 (by decide) ?_
    refine lv_icmp_ge (tgt := 44) hx hb dX0_waysFrom_9 (by decide) (fun hc8 => ?_) (fun hc8 => ?_)
    · have h := ifp hc8 h
      cases h
      exact hk7 _ _ _ I (lv_sub hl [3] rfl)
    · have h := ifn hc8 h
      refine lv_lload_n hx hb dX0_waysFrom_12 rfl (lv_at hl 3 rfl) ?_
      refine lv_aload_n hx hb dX0_waysFrom_13 rfl (lv_at hl 0 rfl) ?_
      refine g0_25 E I dX0_waysFrom_14 ?_
      refine lv_iload_n hx hb dX0_waysFrom_17 rfl (lv_at hl 1 rfl) ?_
      obtain ⟨hc9, h⟩ := gd h
      refine c_al16 E I hc9 dX0_waysFrom_18 ?_
      refine lv_iload hx hb dX0_waysFrom_19 (lv_at hl 4 rfl) ?_
      obtain ⟨hc10, h⟩ := gd h
      refine c_ld16 E I (f := (c_exactly st)) rfl (ib_lt hc9) hc10 dX0_waysFrom_21 ?_
      refine lv_aload_n hx hb dX0_waysFrom_22 rfl (lv_at hl 0 rfl) ?_
      refine g0_31 E I dX0_waysFrom_23 ?_
      refine lv_iload_n hx hb dX0_waysFrom_26 rfl (lv_at hl 1 rfl) ?_
      refine lv_iconst (v := (1 : Int32)) hx hb dX0_waysFrom_27 (by decide) ?_
      refine lv_iadd hx hb dX0_waysFrom_28 ?_
      obtain ⟨hc11, h⟩ := gd h
      refine c_al18 E I hc11 dX0_waysFrom_29 ?_
      refine lv_iload_n hx hb dX0_waysFrom_30 rfl (lv_at hl 2 rfl) ?_
      refine lv_iload hx hb dX0_waysFrom_31 (lv_at hl 4 rfl) ?_
      refine lv_ior hx hb dX0_waysFrom_33 ?_
      obtain ⟨hc12, h⟩ := gd h
      refine c_ld18 E I (f := (c_eways st)) rfl (ib_lt hc11) hc12 dX0_waysFrom_34 ?_
      refine lv_lmul hx hb dX0_waysFrom_35 ?_
      refine lv_ladd hx hb dX0_waysFrom_36 ?_
      obtain ⟨x13, hx14, h⟩ := lqx h
      refine lv_lstore_n (x := (x4 + (((c_exactly st) x91.toNatClampNeg x5.toNatClampNeg) * ((c_eways st) (x91 + (1 : Int32)).toNatClampNeg (x92 ||| x5).toNatClampNeg)))) (lv' := [(3, .long x13), (0, .ref (a 7)), (1, .int x91), (2, .int x92), (5, .int x5)]) hx hb dX0_waysFrom_37 rfl hl (by decide) (by subst hx14; rfl) (fun ls hl => ?_)
      refine lv_iinc (v := (x5 + 1)) (lv' := [(5, .int (x5 + 1)), (3, .long x13), (0, .ref (a 7)), (1, .int x91), (2, .int x92)]) hx hb dX0_waysFrom_38 hl (k := 4) rfl rfl (by decide) rfl (fun ls hl => ?_)
      refine lv_goto (tgt := 5) hx hb dX0_waysFrom_41 (by decide) ?_
      cases h
      exact hk7 _ _ _ I (lv_sub hl [2, 3, 4, 1, 0] rfl)
  · obtain ⟨x17, rfl⟩ : ∃ y, y = z15 := ⟨_, rfl⟩
    intro H locs ls I hl
    have h : (some x17 : Option Int64) = some o := h
    have I : wk D (cW g a st) A H0 H locs := I
    have hl : lv_has ls 6 [(3, .long x17)] := hl
    refine lv_lload_n hx hb dX0_waysFrom_44 rfl (lv_at hl 0 rfl) ?_
    cases h
    exact K _ _ _ _ I dX0_waysFrom_45
set_option maxHeartbeats 4000000 in
set_option maxRecDepth 100000 in
theorem c0_fillWays {l : Launch} {D : va_G} {g : Nat → ClassId} {a : Nat → Nat} {st : CS} {o : CS} (h : f0_fillWays st = some o) : ct l yX0_fillWays cX0_fillWays 3 none (rmk 1 25) D g (cW g a st) (cW g a o) [.ref (a 7)] none := by
  refine ct_of ⟨rfl, rfl⟩ (by decide) (Nat.le_of_ble_eq_true rfl) ?_
  intro p e s m args below meth c ls Q A H0 H locs E I hl K
  have E : en p m c cX0_fillWays 3 s args RX0 D g := E
  have hx := E.1.1
  have hb := E.1.2.1
  have hl : lv_has ls 3 [(0, .ref (a 7))] := hl
  have K : ∀ (pc : Nat) (ls : Array Slot) (H : Heap) (locs : List Loc), wk D (cW g a o) A H0 H locs → decode cX0_fillWays pc = .ok (.return_, 1) → W p l e (rmk 1 25) s m args below meth c H locs 0 0 Q (F0 m pc ls []) := fun pc ls H locs I hd => K pc ls H locs I hd
  have h : ((bi1 (wh (f0_fillWays_b2) FU (st, (0 : Int32))) fun w39 => (bi1 (wh (f0_fillWays_b44) FU (w39, (3 : Int32))) fun w38 => some w38)) : Option CS) = some o := h
  refine lv_iconst (v := (0 : Int32)) hx hb dX0_fillWays_0 (by decide) ?_
  refine lv_istore_n (lv' := [(1, .int (0 : Int32)), (0, .ref (a 7))]) hx hb dX0_fillWays_1 rfl hl (by decide) rfl (fun ls hl => ?_)
  obtain ⟨z13, hw14, h⟩ := bx1 h
  refine wh_W (P := fun (z : CS × Int32) => ∀ (H : Heap) (locs : List Loc) (ls : Array Slot), wk D (cW g a z.1) A H0 H locs → lv_has ls 3 [(0, .ref (a 7)), (1, .int z.2)] → W p l e (rmk 1 25) s m args below meth c H locs 0 0 Q (F0 m 2 ls [])) (X := fun (z : CS) => ∀ (H : Heap) (locs : List Loc) (ls : Array Slot), wk D (cW g a z) A H0 H locs → lv_has ls 3 [(0, .ref (a 7))] → W p l e (rmk 1 25) s m args below meth c H locs 0 0 Q (F0 m 42 ls [])) ?_ FU _ _ hw14 ?_ _ _ _ I (lv_sub hl [1, 0] rfl)
  · intro z o3 h hk4 H locs ls I hl
    obtain ⟨st1, x2⟩ := z
    have h : ((if (16 : Int32) ≤ x2 then some (.inr st1) else (if (c_canBeEmpty st1) = 0 then (if ib x2 16 = true then some (.inl ((c_eways_s st1 (va_up (c_eways st1) (4 : Int32).toNatClampNeg (vp_updL ((c_eways st1) (4 : Int32).toNatClampNeg) x2.toNatClampNeg (if x2 = (c_used st1) then (1 : Int64) else (0 : Int64))))), (x2 + 1))) else none) else (if ib x2 16 = true then some (.inl ((c_eways_s st1 (va_up (c_eways st1) (4 : Int32).toNatClampNeg (vp_updL ((c_eways st1) (4 : Int32).toNatClampNeg) x2.toNatClampNeg (1 : Int64)))), (x2 + 1))) else none))) : Option ((CS × Int32) ⊕ (CS))) = some o3 := h
    have I : wk D (cW g a st1) A H0 H locs := I
    have hl : lv_has ls 3 [(0, .ref (a 7)), (1, .int x2)] := hl
    refine lv_iload_n hx hb dX0_fillWays_2 rfl (lv_at hl 1 rfl) ?_
    refine lv_bipush (v := (16 : Int32)) hx hb dX0_fillWays_3 (by decide) ?_
    refine lv_icmp_ge (tgt := 42) hx hb dX0_fillWays_5 (by decide) (fun hc5 => ?_) (fun hc5 => ?_)
    · have h := ifp hc5 h
      cases h
      exact hk4 _ _ _ I (lv_sub hl [0] rfl)
    · have h := ifn hc5 h
      refine lv_aload_n hx hb dX0_fillWays_8 rfl (lv_at hl 0 rfl) ?_
      refine g0_31 E I dX0_fillWays_9 ?_
      refine lv_iconst (v := (4 : Int32)) hx hb dX0_fillWays_12 (by decide) ?_
      refine c_al18 E I (by decide) dX0_fillWays_13 ?_
      refine lv_iload_n hx hb dX0_fillWays_14 rfl (lv_at hl 1 rfl) ?_
      refine lv_aload_n hx hb dX0_fillWays_15 rfl (lv_at hl 0 rfl) ?_
      refine g0_45 E I (v := (c_canBeEmpty st1)) rfl dX0_fillWays_16 ?_
      refine lv_if_ne (tgt := 30) hx hb dX0_fillWays_19 (by decide) (fun hc6 => ?_) (fun hc6 => ?_)
      · have h := ifn hc6 h
        refine lv_lconst (v := (1 : Int64)) hx hb dX0_fillWays_30 (by decide) ?_
        refine lv_goto (tgt := 35) hx hb dX0_fillWays_31 (by decide) ?_
        obtain ⟨hc7, h⟩ := gd h
        refine c_st18 E I (f := (c_eways st1)) rfl (ib_lt (show ib (4 : Int32) 5 = true by decide)) hc7 dX0_fillWays_35 (fun H locs I => ?_)
        refine lv_iinc (v := (x2 + 1)) (lv' := [(1, .int (x2 + 1)), (0, .ref (a 7))]) hx hb dX0_fillWays_36 hl (k := 1) rfl rfl (by decide) rfl (fun ls hl => ?_)
        refine lv_goto (tgt := 2) hx hb dX0_fillWays_39 (by decide) ?_
        cases h
        exact hk4 _ _ _ I (lv_sub hl [1, 0] rfl)
      · have h := ifp hc6 h
        refine lv_iload_n hx hb dX0_fillWays_22 rfl (lv_at hl 1 rfl) ?_
        refine lv_aload_n hx hb dX0_fillWays_23 rfl (lv_at hl 0 rfl) ?_
        refine g0_41 E I (v := (c_used st1)) rfl dX0_fillWays_24 ?_
        have J9 : ∀ (v8 : Int64) (H : Heap) (locs : List Loc), v8 = (if x2 = (c_used st1) then (1 : Int64) else (0 : Int64)) → wk D (cW g a st1) A H0 H locs → W p l e (rmk 1 25) s m args below meth c H locs 0 0 Q (F0 m 35 ls [.long v8, .int x2, .ref (a (45 + (4 : Int32).toNatClampNeg))]) := by
          intro v8 H locs hv10 I
          subst hv10
          obtain ⟨hc11, h⟩ := gd h
          refine c_st18 E I (f := (c_eways st1)) rfl (ib_lt (show ib (4 : Int32) 5 = true by decide)) hc11 dX0_fillWays_35 (fun H locs I => ?_)
          refine lv_iinc (v := (x2 + 1)) (lv' := [(1, .int (x2 + 1)), (0, .ref (a 7))]) hx hb dX0_fillWays_36 hl (k := 1) rfl rfl (by decide) rfl (fun ls hl => ?_)
          refine lv_goto (tgt := 2) hx hb dX0_fillWays_39 (by decide) ?_
          cases h
          exact hk4 _ _ _ I (lv_sub hl [1, 0] rfl)
        refine lv_icmp_ne (tgt := 34) hx hb dX0_fillWays_27 (by decide) (fun hc12 => ?_) (fun hc12 => ?_)
        · refine lv_lconst (v := (0 : Int64)) hx hb dX0_fillWays_34 (by decide) ?_
          exact J9 _ _ _ (by rw [if_neg hc12]) I
        · refine lv_lconst (v := (1 : Int64)) hx hb dX0_fillWays_30 (by decide) ?_
          refine lv_goto (tgt := 35) hx hb dX0_fillWays_31 (by decide) ?_
          exact J9 _ _ _ (by rw [if_pos hc12]) I
  · obtain ⟨st15, rfl⟩ : ∃ y, y = z13 := ⟨_, rfl⟩
    intro H locs ls I hl
    have h : ((bi1 (wh (f0_fillWays_b44) FU (st15, (3 : Int32))) fun w38 => some w38) : Option CS) = some o := h
    have I : wk D (cW g a st15) A H0 H locs := I
    have hl : lv_has ls 3 [(0, .ref (a 7))] := hl
    refine lv_iconst (v := (3 : Int32)) hx hb dX0_fillWays_42 (by decide) ?_
    refine lv_istore_n (lv' := [(1, .int (3 : Int32)), (0, .ref (a 7))]) hx hb dX0_fillWays_43 rfl hl (by decide) rfl (fun ls hl => ?_)
    obtain ⟨z35, hw36, h⟩ := bx1 h
    refine wh_W (P := fun (z : CS × Int32) => ∀ (H : Heap) (locs : List Loc) (ls : Array Slot), wk D (cW g a z.1) A H0 H locs → lv_has ls 3 [(0, .ref (a 7)), (1, .int z.2)] → W p l e (rmk 1 25) s m args below meth c H locs 0 0 Q (F0 m 44 ls [])) (X := fun (z : CS) => ∀ (H : Heap) (locs : List Loc) (ls : Array Slot), wk D (cW g a z) A H0 H locs → lv_has ls 3 [] → W p l e (rmk 1 25) s m args below meth c H locs 0 0 Q (F0 m 82 ls [])) ?_ FU _ _ hw36 ?_ _ _ _ I (lv_sub hl [1, 0] rfl)
    · intro z o18 h hk19 H locs ls I hl
      obtain ⟨st16, x17⟩ := z
      have h : ((if x17 < 0 then some (.inr st16) else (bi1 (wh (f0_fillWays_b50 x17) FU (st16, (0 : Int32))) fun w34 => some (.inl (w34, (x17 + (-1)))))) : Option ((CS × Int32) ⊕ (CS))) = some o18 := h
      have I : wk D (cW g a st16) A H0 H locs := I
      have hl : lv_has ls 3 [(0, .ref (a 7)), (1, .int x17)] := hl
      refine lv_iload_n hx hb dX0_fillWays_44 rfl (lv_at hl 1 rfl) ?_
      refine lv_if_lt (tgt := 82) hx hb dX0_fillWays_45 (by decide) (fun hc20 => ?_) (fun hc20 => ?_)
      · have h := ifp hc20 h
        cases h
        exact hk19 _ _ _ I (lv_sub hl [] rfl)
      · have h := ifn hc20 h
        refine lv_iconst (v := (0 : Int32)) hx hb dX0_fillWays_48 (by decide) ?_
        refine lv_istore_n (lv' := [(2, .int (0 : Int32)), (0, .ref (a 7)), (1, .int x17)]) hx hb dX0_fillWays_49 rfl hl (by decide) rfl (fun ls hl => ?_)
        obtain ⟨z31, hw32, h⟩ := bx1 h
        refine wh_W (P := fun (z : CS × Int32) => ∀ (H : Heap) (locs : List Loc) (ls : Array Slot), wk D (cW g a z.1) A H0 H locs → lv_has ls 3 [(0, .ref (a 7)), (1, .int x17), (2, .int z.2)] → W p l e (rmk 1 25) s m args below meth c H locs 0 0 Q (F0 m 50 ls [])) (X := fun (z : CS) => ∀ (H : Heap) (locs : List Loc) (ls : Array Slot), wk D (cW g a z) A H0 H locs → lv_has ls 3 [(0, .ref (a 7)), (1, .int x17)] → W p l e (rmk 1 25) s m args below meth c H locs 0 0 Q (F0 m 76 ls [])) ?_ FU _ _ hw32 ?_ _ _ _ I (lv_sub hl [1, 2, 0] rfl)
        · intro z o24 h hk25 H locs ls I hl
          obtain ⟨st21, x23⟩ := z
          have h : ((if (16 : Int32) ≤ x23 then some (.inr st21) else (if ib x17 5 = true then (bi1 (f0_waysFrom st21 x17 x23) fun r29 => (if ib x23 16 = true then some (.inl ((c_eways_s st21 (va_up (c_eways st21) x17.toNatClampNeg (vp_updL ((c_eways st21) x17.toNatClampNeg) x23.toNatClampNeg r29))), (x23 + 1))) else none)) else none)) : Option ((CS × Int32) ⊕ (CS))) = some o24 := h
          have I : wk D (cW g a st21) A H0 H locs := I
          have hl : lv_has ls 3 [(0, .ref (a 7)), (1, .int x17), (2, .int x23)] := hl
          refine lv_iload_n hx hb dX0_fillWays_50 rfl (lv_at hl 2 rfl) ?_
          refine lv_bipush (v := (16 : Int32)) hx hb dX0_fillWays_51 (by decide) ?_
          refine lv_icmp_ge (tgt := 76) hx hb dX0_fillWays_53 (by decide) (fun hc26 => ?_) (fun hc26 => ?_)
          · have h := ifp hc26 h
            cases h
            exact hk25 _ _ _ I (lv_sub hl [0, 1] rfl)
          · have h := ifn hc26 h
            refine lv_aload_n hx hb dX0_fillWays_56 rfl (lv_at hl 0 rfl) ?_
            refine g0_31 E I dX0_fillWays_57 ?_
            refine lv_iload_n hx hb dX0_fillWays_60 rfl (lv_at hl 1 rfl) ?_
            obtain ⟨hc27, h⟩ := gd h
            refine c_al18 E I hc27 dX0_fillWays_61 ?_
            refine lv_iload_n hx hb dX0_fillWays_62 rfl (lv_at hl 2 rfl) ?_
            refine lv_aload_n hx hb dX0_fillWays_63 rfl (lv_at hl 0 rfl) ?_
            refine lv_iload_n hx hb dX0_fillWays_64 rfl (lv_at hl 1 rfl) ?_
            refine lv_iload_n hx hb dX0_fillWays_65 rfl (lv_at hl 2 rfl) ?_
            obtain ⟨r29, hc28, h⟩ := bx1 h
            refine r_callV1 (As := [.int x17, .int x23]) (rest := [.int x23, .ref (a (45 + x17.toNatClampNeg))]) (ws' := (cW g a st21)) (q0 := 7) E I hl.1 k0_81 (c0_waysFrom hc28) cW_k rfl rfl rfl rfl (Nat.le_of_ble_eq_true rfl) ⟨Nat.le_of_ble_eq_true rfl, Nat.le_of_ble_eq_true rfl⟩ ⟨Nat.zero_le _, Nat.zero_le _⟩ dX0_fillWays_66 (fun H locs I => ?_)
            obtain ⟨hc30, h⟩ := gd h
            refine c_st18 E I (f := (c_eways st21)) rfl (ib_lt hc27) hc30 dX0_fillWays_69 (fun H locs I => ?_)
            refine lv_iinc (v := (x23 + 1)) (lv' := [(2, .int (x23 + 1)), (0, .ref (a 7)), (1, .int x17)]) hx hb dX0_fillWays_70 hl (k := 2) rfl rfl (by decide) rfl (fun ls hl => ?_)
            refine lv_goto (tgt := 50) hx hb dX0_fillWays_73 (by decide) ?_
            cases h
            exact hk25 _ _ _ I (lv_sub hl [1, 2, 0] rfl)
        · obtain ⟨st33, rfl⟩ : ∃ y, y = z31 := ⟨_, rfl⟩
          intro H locs ls I hl
          have h : (some (.inl (st33, (x17 + (-1)))) : Option ((CS × Int32) ⊕ (CS))) = some o18 := h
          have I : wk D (cW g a st33) A H0 H locs := I
          have hl : lv_has ls 3 [(0, .ref (a 7)), (1, .int x17)] := hl
          refine lv_iinc (v := (x17 + (-1))) (lv' := [(1, .int (x17 + (-1))), (0, .ref (a 7))]) hx hb dX0_fillWays_76 hl (k := 1) rfl rfl (by decide) rfl (fun ls hl => ?_)
          refine lv_goto (tgt := 44) hx hb dX0_fillWays_79 (by decide) ?_
          cases h
          exact hk19 _ _ _ I (lv_sub hl [1, 0] rfl)
    · obtain ⟨st37, rfl⟩ : ∃ y, y = z35 := ⟨_, rfl⟩
      intro H locs ls I hl
      have h : (some st37 : Option CS) = some o := h
      have I : wk D (cW g a st37) A H0 H locs := I
      have hl : lv_has ls 3 [] := hl
      cases h
      exact K _ _ _ _ I dX0_fillWays_82
set_option maxHeartbeats 4000000 in
set_option maxRecDepth 100000 in
theorem c0_prepare {l : Launch} {D : va_G} {g : Nat → ClassId} {a : Nat → Nat} {st : CS} {o : CS} (h : f0_prepare st = some o) : ct l yX0_prepare cX0_prepare 3 none (rmk 4 95) D g (cW g a st) (cW g a o) [.ref (a 7), .ref (a 1)] none := by
  refine ct_of ⟨rfl, rfl⟩ (by decide) (Nat.le_of_ble_eq_true rfl) ?_
  intro p e s m args below meth c ls Q A H0 H locs E I hl K
  have E : en p m c cX0_prepare 3 s args RX0 D g := E
  have hx := E.1.1
  have hb := E.1.2.1
  have hl : lv_has ls 3 [(0, .ref (a 7)), (1, .ref (a 1))] := hl
  have K : ∀ (pc : Nat) (ls : Array Slot) (H : Heap) (locs : List Loc), wk D (cW g a o) A H0 H locs → decode cX0_prepare pc = .ok (.return_, 1) → W p l e (rmk 4 95) s m args below meth c H locs 0 0 Q (F0 m pc ls []) := fun pc ls H locs I hd => K pc ls H locs I hd
  have h : ((if (c_eprep st) = 0 then (bi1 (wh (f0_prepare_b15) FU ((c_used_s st (0 : Int32)), (0 : Int32))) fun w36 => (bi1 (wh (f0_prepare_b89) FU ((c_most_s (c_canBeEmpty_s w36 (if ((c_state w36) (24 : Int32).toNatClampNeg) = (1 : Int32) then (1 : Int32) else (0 : Int32))) ((c_state w36) (25 : Int32).toNatClampNeg)), (0 : Int32))) fun w34 => (bi1 (f0_fillWays w34) fun st33 => some (c_eprep_s st33 (1 : Int32))))) else some st) : Option CS) = some o := h
  refine lv_aload_n hx hb dX0_prepare_0 rfl (lv_at hl 0 rfl) ?_
  refine g0_37 E I (v := (c_eprep st)) rfl dX0_prepare_1 ?_
  refine lv_if_eq (tgt := 8) hx hb dX0_prepare_4 (by decide) (fun hc1 => ?_) (fun hc1 => ?_)
  · have h := ifp hc1 h
    refine lv_aload_n hx hb dX0_prepare_8 rfl (lv_at hl 0 rfl) ?_
    refine lv_iconst (v := (0 : Int32)) hx hb dX0_prepare_9 (by decide) ?_
    refine p0_41 E I dX0_prepare_10 (fun H locs I => ?_)
    refine lv_iconst (v := (0 : Int32)) hx hb dX0_prepare_13 (by decide) ?_
    refine lv_istore_n (lv' := [(2, .int (0 : Int32)), (0, .ref (a 7)), (1, .ref (a 1))]) hx hb dX0_prepare_14 rfl hl (by decide) rfl (fun ls hl => ?_)
    obtain ⟨z14, hw15, h⟩ := bx1 h
    refine wh_W (P := fun (z : CS × Int32) => ∀ (H : Heap) (locs : List Loc) (ls : Array Slot), wk D (cW g a z.1) A H0 H locs → lv_has ls 3 [(0, .ref (a 7)), (1, .ref (a 1)), (2, .int z.2)] → W p l e (rmk 4 95) s m args below meth c H locs 0 0 Q (F0 m 15 ls [])) (X := fun (z : CS) => ∀ (H : Heap) (locs : List Loc) (ls : Array Slot), wk D (cW g a z) A H0 H locs → lv_has ls 3 [(0, .ref (a 7)), (1, .ref (a 1))] → W p l e (rmk 4 95) s m args below meth c H locs 0 0 Q (F0 m 62 ls [])) ?_ FU _ _ hw15 ?_ _ _ _ I (lv_sub hl [1, 2, 0] rfl)
    · intro z o4 h hk5 H locs ls I hl
      obtain ⟨st2, x3⟩ := z
      have h : ((if (4 : Int32) ≤ x3 then some (.inr st2) else (if ib ((4 : Int32) + x3) 26 = true then (if ib x3 4 = true then (if ib x3 4 = true then some (.inl ((c_used_s (c_weight_s st2 (upd (c_weight st2) x3.toNatClampNeg ((c_state st2) ((4 : Int32) + x3).toNatClampNeg))) ((c_used st2) ||| (if ((upd (c_weight st2) x3.toNatClampNeg ((c_state st2) ((4 : Int32) + x3).toNatClampNeg)) x3.toNatClampNeg) ≤ 0 then (0 : Int32) else ((1 : Int32) <<< (x3 &&& 31))))), (x3 + 1))) else none) else none) else none)) : Option ((CS × Int32) ⊕ (CS))) = some o4 := h
      have I : wk D (cW g a st2) A H0 H locs := I
      have hl : lv_has ls 3 [(0, .ref (a 7)), (1, .ref (a 1)), (2, .int x3)] := hl
      refine lv_iload_n hx hb dX0_prepare_15 rfl (lv_at hl 2 rfl) ?_
      refine lv_iconst (v := (4 : Int32)) hx hb dX0_prepare_16 (by decide) ?_
      refine lv_icmp_ge (tgt := 62) hx hb dX0_prepare_17 (by decide) (fun hc6 => ?_) (fun hc6 => ?_)
      · have h := ifp hc6 h
        cases h
        exact hk5 _ _ _ I (lv_sub hl [0, 1] rfl)
      · have h := ifn hc6 h
        refine lv_aload_n hx hb dX0_prepare_20 rfl (lv_at hl 0 rfl) ?_
        refine g0_9 E I dX0_prepare_21 ?_
        refine lv_iload_n hx hb dX0_prepare_24 rfl (lv_at hl 2 rfl) ?_
        refine lv_aload_n hx hb dX0_prepare_25 rfl (lv_at hl 1 rfl) ?_
        refine lv_iconst (v := (4 : Int32)) hx hb dX0_prepare_26 (by decide) ?_
        refine lv_iload_n hx hb dX0_prepare_27 rfl (lv_at hl 2 rfl) ?_
        refine lv_iadd hx hb dX0_prepare_28 ?_
        obtain ⟨hc7, h⟩ := gd h
        refine c_ld1 E I (f := (c_state st2)) rfl hc7 dX0_prepare_29 ?_
        obtain ⟨hc8, h⟩ := gd h
        refine c_st13 E I (f := (c_weight st2)) rfl hc8 dX0_prepare_30 (fun H locs I => ?_)
        refine lv_aload_n hx hb dX0_prepare_31 rfl (lv_at hl 0 rfl) ?_
        refine lv_dup hx hb dX0_prepare_32 rfl ?_
        refine g0_41 E I (v := (c_used st2)) rfl dX0_prepare_33 ?_
        refine lv_aload_n hx hb dX0_prepare_36 rfl (lv_at hl 0 rfl) ?_
        refine g0_9 E I dX0_prepare_37 ?_
        refine lv_iload_n hx hb dX0_prepare_40 rfl (lv_at hl 2 rfl) ?_
        obtain ⟨hc9, h⟩ := gd h
        refine c_ld13 E I (f := (upd (c_weight st2) x3.toNatClampNeg ((c_state st2) ((4 : Int32) + x3).toNatClampNeg))) rfl hc9 dX0_prepare_41 ?_
        have J11 : ∀ (v10 : Int32) (H : Heap) (locs : List Loc), v10 = (if ((upd (c_weight st2) x3.toNatClampNeg ((c_state st2) ((4 : Int32) + x3).toNatClampNeg)) x3.toNatClampNeg) ≤ 0 then (0 : Int32) else ((1 : Int32) <<< (x3 &&& 31))) → wk D (cW g a (c_weight_s st2 (upd (c_weight st2) x3.toNatClampNeg ((c_state st2) ((4 : Int32) + x3).toNatClampNeg)))) A H0 H locs → W p l e (rmk 4 95) s m args below meth c H locs 0 0 Q (F0 m 52 ls [.int v10, .int (c_used st2), .ref (a 7)]) := by
          intro v10 H locs hv12 I
          subst hv12
          refine lv_ior hx hb dX0_prepare_52 ?_
          refine p0_41 E I dX0_prepare_53 (fun H locs I => ?_)
          refine lv_iinc (v := (x3 + 1)) (lv' := [(2, .int (x3 + 1)), (0, .ref (a 7)), (1, .ref (a 1))]) hx hb dX0_prepare_56 hl (k := 2) rfl rfl (by decide) rfl (fun ls hl => ?_)
          refine lv_goto (tgt := 15) hx hb dX0_prepare_59 (by decide) ?_
          cases h
          exact hk5 _ _ _ I (lv_sub hl [1, 2, 0] rfl)
        refine lv_if_le (tgt := 51) hx hb dX0_prepare_42 (by decide) (fun hc13 => ?_) (fun hc13 => ?_)
        · refine lv_iconst (v := (0 : Int32)) hx hb dX0_prepare_51 (by decide) ?_
          exact J11 _ _ _ (by rw [if_pos hc13]) I
        · refine lv_iconst (v := (1 : Int32)) hx hb dX0_prepare_45 (by decide) ?_
          refine lv_iload_n hx hb dX0_prepare_46 rfl (lv_at hl 2 rfl) ?_
          refine lv_ishl hx hb dX0_prepare_47 ?_
          refine lv_goto (tgt := 52) hx hb dX0_prepare_48 (by decide) ?_
          exact J11 _ _ _ (by rw [if_neg hc13]) I
    · obtain ⟨st16, rfl⟩ : ∃ y, y = z14 := ⟨_, rfl⟩
      intro H locs ls I hl
      have h : ((bi1 (wh (f0_prepare_b89) FU ((c_most_s (c_canBeEmpty_s st16 (if ((c_state st16) (24 : Int32).toNatClampNeg) = (1 : Int32) then (1 : Int32) else (0 : Int32))) ((c_state st16) (25 : Int32).toNatClampNeg)), (0 : Int32))) fun w34 => (bi1 (f0_fillWays w34) fun st33 => some (c_eprep_s st33 (1 : Int32)))) : Option CS) = some o := h
      have I : wk D (cW g a st16) A H0 H locs := I
      have hl : lv_has ls 3 [(0, .ref (a 7)), (1, .ref (a 1))] := hl
      refine lv_aload_n hx hb dX0_prepare_62 rfl (lv_at hl 0 rfl) ?_
      refine lv_aload_n hx hb dX0_prepare_63 rfl (lv_at hl 1 rfl) ?_
      refine lv_bipush (v := (24 : Int32)) hx hb dX0_prepare_64 (by decide) ?_
      refine c_ld1 E I (f := (c_state st16)) rfl (by decide) dX0_prepare_66 ?_
      refine lv_iconst (v := (1 : Int32)) hx hb dX0_prepare_67 (by decide) ?_
      have J18 : ∀ (v17 : Int32) (H : Heap) (locs : List Loc), v17 = (if ((c_state st16) (24 : Int32).toNatClampNeg) = (1 : Int32) then (1 : Int32) else (0 : Int32)) → wk D (cW g a st16) A H0 H locs → W p l e (rmk 4 95) s m args below meth c H locs 0 0 Q (F0 m 76 ls [.int v17, .ref (a 7)]) := by
        intro v17 H locs hv19 I
        subst hv19
        refine p0_45 E I (by repeat' split <;> rfl) dX0_prepare_76 (fun H locs I => ?_)
        refine lv_aload_n hx hb dX0_prepare_79 rfl (lv_at hl 0 rfl) ?_
        refine lv_aload_n hx hb dX0_prepare_80 rfl (lv_at hl 1 rfl) ?_
        refine lv_bipush (v := (25 : Int32)) hx hb dX0_prepare_81 (by decide) ?_
        refine c_ld1 E I (f := (c_state st16)) rfl (by decide) dX0_prepare_83 ?_
        refine p0_48 E I dX0_prepare_84 (fun H locs I => ?_)
        refine lv_iconst (v := (0 : Int32)) hx hb dX0_prepare_87 (by decide) ?_
        refine lv_istore_n (lv' := [(2, .int (0 : Int32)), (0, .ref (a 7)), (1, .ref (a 1))]) hx hb dX0_prepare_88 rfl hl (by decide) rfl (fun ls hl => ?_)
        obtain ⟨z29, hw30, h⟩ := bx1 h
        refine wh_W (P := fun (z : CS × Int32) => ∀ (H : Heap) (locs : List Loc) (ls : Array Slot), wk D (cW g a z.1) A H0 H locs → lv_has ls 3 [(0, .ref (a 7)), (1, .ref (a 1)), (2, .int z.2)] → W p l e (rmk 4 95) s m args below meth c H locs 0 0 Q (F0 m 89 ls [])) (X := fun (z : CS) => ∀ (H : Heap) (locs : List Loc) (ls : Array Slot), wk D (cW g a z) A H0 H locs → lv_has ls 3 [(0, .ref (a 7))] → W p l e (rmk 4 95) s m args below meth c H locs 0 0 Q (F0 m 117 ls [])) ?_ FU _ _ hw30 ?_ _ _ _ I (lv_sub hl [1, 2, 0] rfl)
        · intro z o22 h hk23 H locs ls I hl
          obtain ⟨st20, x21⟩ := z
          have h : ((if (4 : Int32) ≤ x21 then some (.inr st20) else (if ib ((16 : Int32) + x21) 26 = true then (if ib ((0 : Int32) + x21) 26 = true then (bi1 (f0_solve st20 x21 (((c_state st20) ((16 : Int32) + x21).toNatClampNeg) - ((c_state st20) ((0 : Int32) + x21).toNatClampNeg))) fun st28 => some (.inl (st28, (x21 + 1)))) else none) else none)) : Option ((CS × Int32) ⊕ (CS))) = some o22 := h
          have I : wk D (cW g a st20) A H0 H locs := I
          have hl : lv_has ls 3 [(0, .ref (a 7)), (1, .ref (a 1)), (2, .int x21)] := hl
          refine lv_iload_n hx hb dX0_prepare_89 rfl (lv_at hl 2 rfl) ?_
          refine lv_iconst (v := (4 : Int32)) hx hb dX0_prepare_90 (by decide) ?_
          refine lv_icmp_ge (tgt := 117) hx hb dX0_prepare_91 (by decide) (fun hc24 => ?_) (fun hc24 => ?_)
          · have h := ifp hc24 h
            cases h
            exact hk23 _ _ _ I (lv_sub hl [0] rfl)
          · have h := ifn hc24 h
            refine lv_aload_n hx hb dX0_prepare_94 rfl (lv_at hl 0 rfl) ?_
            refine lv_iload_n hx hb dX0_prepare_95 rfl (lv_at hl 2 rfl) ?_
            refine lv_aload_n hx hb dX0_prepare_96 rfl (lv_at hl 1 rfl) ?_
            refine lv_bipush (v := (16 : Int32)) hx hb dX0_prepare_97 (by decide) ?_
            refine lv_iload_n hx hb dX0_prepare_99 rfl (lv_at hl 2 rfl) ?_
            refine lv_iadd hx hb dX0_prepare_100 ?_
            obtain ⟨hc25, h⟩ := gd h
            refine c_ld1 E I (f := (c_state st20)) rfl hc25 dX0_prepare_101 ?_
            refine lv_aload_n hx hb dX0_prepare_102 rfl (lv_at hl 1 rfl) ?_
            refine lv_iconst (v := (0 : Int32)) hx hb dX0_prepare_103 (by decide) ?_
            refine lv_iload_n hx hb dX0_prepare_104 rfl (lv_at hl 2 rfl) ?_
            refine lv_iadd hx hb dX0_prepare_105 ?_
            obtain ⟨hc26, h⟩ := gd h
            refine c_ld1 E I (f := (c_state st20)) rfl hc26 dX0_prepare_106 ?_
            refine lv_isub hx hb dX0_prepare_107 ?_
            obtain ⟨st28, hc27, h⟩ := bx1 h
            refine r_callV0 (As := [.int x21, .int (((c_state st20) ((16 : Int32) + x21).toNatClampNeg) - ((c_state st20) ((0 : Int32) + x21).toNatClampNeg))]) (rest := []) (ws' := (cW g a st28)) (q0 := 7) E I hl.1 k0_51 (c0_solve hc27) cW_k rfl rfl rfl rfl (Nat.le_of_ble_eq_true rfl) ⟨Nat.le_of_ble_eq_true rfl, Nat.le_of_ble_eq_true rfl⟩ ⟨Nat.zero_le _, Nat.zero_le _⟩ dX0_prepare_108 (fun H locs I => ?_)
            refine lv_iinc (v := (x21 + 1)) (lv' := [(2, .int (x21 + 1)), (0, .ref (a 7)), (1, .ref (a 1))]) hx hb dX0_prepare_111 hl (k := 2) rfl rfl (by decide) rfl (fun ls hl => ?_)
            refine lv_goto (tgt := 89) hx hb dX0_prepare_114 (by decide) ?_
            cases h
            exact hk23 _ _ _ I (lv_sub hl [1, 2, 0] rfl)
        · obtain ⟨st31, rfl⟩ : ∃ y, y = z29 := ⟨_, rfl⟩
          intro H locs ls I hl
          have h : ((bi1 (f0_fillWays st31) fun st33 => some (c_eprep_s st33 (1 : Int32))) : Option CS) = some o := h
          have I : wk D (cW g a st31) A H0 H locs := I
          have hl : lv_has ls 3 [(0, .ref (a 7))] := hl
          refine lv_aload_n hx hb dX0_prepare_117 rfl (lv_at hl 0 rfl) ?_
          obtain ⟨st33, hc32, h⟩ := bx1 h
          refine r_callV0 (As := []) (rest := []) (ws' := (cW g a st33)) (q0 := 7) E I hl.1 k0_55 (c0_fillWays hc32) cW_k rfl rfl rfl rfl (Nat.le_of_ble_eq_true rfl) ⟨Nat.le_of_ble_eq_true rfl, Nat.le_of_ble_eq_true rfl⟩ ⟨Nat.zero_le _, Nat.zero_le _⟩ dX0_prepare_118 (fun H locs I => ?_)
          refine lv_aload_n hx hb dX0_prepare_121 rfl (lv_at hl 0 rfl) ?_
          refine lv_iconst (v := (1 : Int32)) hx hb dX0_prepare_122 (by decide) ?_
          refine p0_37 E I rfl dX0_prepare_123 (fun H locs I => ?_)
          cases h
          exact K _ _ _ _ I dX0_prepare_126
      refine lv_icmp_ne (tgt := 75) hx hb dX0_prepare_68 (by decide) (fun hc35 => ?_) (fun hc35 => ?_)
      · refine lv_iconst (v := (0 : Int32)) hx hb dX0_prepare_75 (by decide) ?_
        exact J18 _ _ _ (by rw [if_neg hc35]) I
      · refine lv_iconst (v := (1 : Int32)) hx hb dX0_prepare_71 (by decide) ?_
        refine lv_goto (tgt := 76) hx hb dX0_prepare_72 (by decide) ?_
        exact J18 _ _ _ (by rw [if_pos hc35]) I
  · have h := ifn hc1 h
    cases h
    exact K _ _ _ _ I dX0_prepare_7
set_option maxHeartbeats 4000000 in
set_option maxRecDepth 100000 in
theorem c0_solutionsOf {l : Launch} {D : va_G} {g : Nat → ClassId} {a : Nat → Nat} {st : CS} {x91 : Int32} {o : Int32} (h : f0_solutionsOf st x91 = some o) : ct l yX0_solutionsOf cX0_solutionsOf 2 (some .int) (rmk 0 0) D g (cW g a st) (cW g a st) [.ref (a 7), .int x91] (some (.int o)) := by
  refine ct_of ⟨rfl, rfl⟩ (by decide) (Nat.le_of_ble_eq_true rfl) ?_
  intro p e s m args below meth c ls Q A H0 H locs E I hl K
  have E : en p m c cX0_solutionsOf 2 s args RX0 D g := E
  have hx := E.1.1
  have hb := E.1.2.1
  have hl : lv_has ls 2 [(0, .ref (a 7)), (1, .int x91)] := hl
  have K : ∀ (pc : Nat) (ls : Array Slot) (H : Heap) (locs : List Loc), wk D (cW g a st) A H0 H locs → decode cX0_solutionsOf pc = .ok (.ireturn, 1) → W p l e (rmk 0 0) s m args below meth c H locs 0 0 Q (F0 m pc ls [.int o]) := fun pc ls H locs I hd => K pc ls H locs I hd
  have h : ((if ib x91 5 = true then some ((c_size st) x91.toNatClampNeg) else none) : Option Int32) = some o := h
  refine lv_aload_n hx hb dX0_solutionsOf_0 rfl (lv_at hl 0 rfl) ?_
  refine g0_20 E I dX0_solutionsOf_1 ?_
  refine lv_iload_n hx hb dX0_solutionsOf_4 rfl (lv_at hl 1 rfl) ?_
  obtain ⟨hc1, h⟩ := gd h
  refine c_ld15 E I (f := (c_size st)) rfl hc1 dX0_solutionsOf_5 ?_
  cases h
  exact K _ _ _ _ I dX0_solutionsOf_6
set_option maxHeartbeats 4000000 in
set_option maxRecDepth 100000 in
theorem c4_solutions {l : Launch} {D : va_G} {g : Nat → ClassId} {a : Nat → Nat} {st : CS} {x91 : Int32} {st' : CS} {r' : Int32} (h : f4_solutions st x91 = some (st', .inr r')) : ct l yX4_solutions cX4_solutions 2 (some .int) (rmk 5 117) D g (cW g a st) (cW g a st') [.ref (a 0), .int x91] (some (.int r')) := by
  refine ct_of ⟨rfl, rfl⟩ (by decide) (Nat.le_of_ble_eq_true rfl) ?_
  intro p e s m args below meth c ls Q A H0 H locs E I hl K
  have E : en p m c cX4_solutions 2 s args RX4 D g := E
  have hx := E.1.1
  have hb := E.1.2.1
  have hl : lv_has ls 2 [(0, .ref (a 0)), (1, .int x91)] := hl
  have K : ∀ (pc : Nat) (ls : Array Slot) (H : Heap) (locs : List Loc), wk D (cW g a st') A H0 H locs → decode cX4_solutions pc = .ok (.ireturn, 1) → W p l e (rmk 5 117) s m args below meth c H locs 0 0 Q (F0 m pc ls [.int r']) := fun pc ls H locs I hd => K pc ls H locs I hd
  have h : ((bt0 st (f4_needIndex x91 (4 : Int32)) fun (u2 : Unit) => (bi1 (f0_prepare st) fun st4 => (bi1 (f0_solutionsOf st4 x91) fun r6 => some (st4, .inr r6)))) : Option (CS × (Nat ⊕ Int32))) = some (st', .inr r') := h
  refine lv_iload_n hx hb dX4_solutions_0 rfl (lv_at hl 1 rfl) ?_
  refine lv_iconst (v := (4 : Int32)) hx hb dX4_solutions_1 (by decide) ?_
  obtain ⟨u2, hc1, h⟩ := bt0n h
  refine r_callS0 (As := [.int x91, .int (4 : Int32)]) (rest := []) E I hl.1 k4_53 (c4_needIndex hc1) rfl rfl (Nat.le_of_ble_eq_true rfl) ⟨Nat.le_of_ble_eq_true rfl, Nat.le_of_ble_eq_true rfl⟩ ⟨Nat.zero_le _, Nat.zero_le _⟩ dX4_solutions_2 (fun H locs I => ?_)
  refine lv_aload_n hx hb dX4_solutions_5 rfl (lv_at hl 0 rfl) ?_
  refine g4_42 E I dX4_solutions_6 ?_
  refine lv_aload_n hx hb dX4_solutions_9 rfl (lv_at hl 0 rfl) ?_
  refine g4_9 E I dX4_solutions_10 ?_
  obtain ⟨st4, hc3, h⟩ := bx1 h
  refine r_callV0 (As := [.ref (a 1)]) (rest := []) (ws' := (cW g a st4)) (q0 := 7) E I hl.1 k4_148 (c0_prepare hc3) cW_k rfl rfl rfl rfl (Nat.le_of_ble_eq_true rfl) ⟨Nat.le_of_ble_eq_true rfl, Nat.le_of_ble_eq_true rfl⟩ ⟨Nat.zero_le _, Nat.zero_le _⟩ dX4_solutions_13 (fun H locs I => ?_)
  refine lv_aload_n hx hb dX4_solutions_16 rfl (lv_at hl 0 rfl) ?_
  refine g4_42 E I dX4_solutions_17 ?_
  refine lv_iload_n hx hb dX4_solutions_20 rfl (lv_at hl 1 rfl) ?_
  obtain ⟨r6, hc5, h⟩ := bx1 h
  refine r_callV1 (As := [.int x91]) (rest := []) (ws' := (cW g a st4)) (q0 := 7) E I hl.1 k4_151 (c0_solutionsOf hc5) cW_k rfl rfl rfl rfl (Nat.le_of_ble_eq_true rfl) ⟨Nat.le_of_ble_eq_true rfl, Nat.le_of_ble_eq_true rfl⟩ ⟨Nat.zero_le _, Nat.zero_le _⟩ dX4_solutions_21 (fun H locs I => ?_)
  cases h
  exact K _ _ _ _ I dX4_solutions_24
set_option maxHeartbeats 4000000 in
set_option maxRecDepth 100000 in
theorem cJ_bitCount {l : Launch} {D : va_G} {g : Nat → ClassId} {x90 : Int32} {o : Int32} (h : fJ_bitCount x90 = o) : ct l yJ6_bitCount_0f7a4 cJ6_bitCount_0f7a4 1 (some .int) (rmk 0 0) D g [] [] [.int x90] (some (.int o)) := by
  refine ct_of ⟨rfl, rfl⟩ (by decide) (Nat.le_of_ble_eq_true rfl) ?_
  intro p e s m args below meth c ls Q A H0 H locs E I hl K
  have E : en p m c cJ6_bitCount_0f7a4 1 s args RJ6 D g := E
  have hx := E.1.1
  have hb := E.1.2.1
  have hl : lv_has ls 1 [(0, .int x90)] := hl
  have K : ∀ (pc : Nat) (ls : Array Slot) (H : Heap) (locs : List Loc), wk D [] A H0 H locs → decode cJ6_bitCount_0f7a4 pc = .ok (.ireturn, 1) → W p l e (rmk 0 0) s m args below meth c H locs 0 0 Q (F0 m pc ls [.int o]) := fun pc ls H locs I hd => K pc ls H locs I hd
  have h : ((lq (x90 - (((x90).toUInt32 >>> (((1 : Int32)).toUInt32 &&& Int32.toUInt32 31)).toInt32 &&& (1431655765 : Int32))) fun x1 => (lq ((x1 &&& (858993459 : Int32)) + (((x1).toUInt32 >>> (((2 : Int32)).toUInt32 &&& Int32.toUInt32 31)).toInt32 &&& (858993459 : Int32))) fun x3 => (lq ((x3 + ((x3).toUInt32 >>> (((4 : Int32)).toUInt32 &&& Int32.toUInt32 31)).toInt32) &&& (252645135 : Int32)) fun x5 => (lq (x5 + ((x5).toUInt32 >>> (((8 : Int32)).toUInt32 &&& Int32.toUInt32 31)).toInt32) fun x7 => (lq (x7 + ((x7).toUInt32 >>> (((16 : Int32)).toUInt32 &&& Int32.toUInt32 31)).toInt32) fun x9 => (x9 &&& (63 : Int32))))))) : Int32) = o := h
  refine lv_iload_n hx hb dJ6_bitCount_0f7a4_0 rfl (lv_at hl 0 rfl) ?_
  refine lv_iload_n hx hb dJ6_bitCount_0f7a4_1 rfl (lv_at hl 0 rfl) ?_
  refine lv_iconst (v := (1 : Int32)) hx hb dJ6_bitCount_0f7a4_2 (by decide) ?_
  refine lv_iushr (v := ((x90).toUInt32 >>> (((1 : Int32)).toUInt32 &&& Int32.toUInt32 31)).toInt32) hx hb dJ6_bitCount_0f7a4_3 rfl ?_
  refine lv_ldcw (v := (1431655765 : Int32)) hx hb E.1.2.2.2.1 (E.1.2.2.2.2 _ kcJ_265) dJ6_bitCount_0f7a4_4 ?_
  refine lv_iand hx hb dJ6_bitCount_0f7a4_7 ?_
  refine lv_isub hx hb dJ6_bitCount_0f7a4_8 ?_
  obtain ⟨x1, hx2, h⟩ := lqx h
  refine lv_istore_n (x := (x90 - (((x90).toUInt32 >>> (((1 : Int32)).toUInt32 &&& Int32.toUInt32 31)).toInt32 &&& (1431655765 : Int32)))) (lv' := [(0, .int x1)]) hx hb dJ6_bitCount_0f7a4_9 rfl hl (by decide) (by subst hx2; rfl) (fun ls hl => ?_)
  refine lv_iload_n hx hb dJ6_bitCount_0f7a4_10 rfl (lv_at hl 0 rfl) ?_
  refine lv_ldcw (v := (858993459 : Int32)) hx hb E.1.2.2.2.1 (E.1.2.2.2.2 _ kcJ_266) dJ6_bitCount_0f7a4_11 ?_
  refine lv_iand hx hb dJ6_bitCount_0f7a4_14 ?_
  refine lv_iload_n hx hb dJ6_bitCount_0f7a4_15 rfl (lv_at hl 0 rfl) ?_
  refine lv_iconst (v := (2 : Int32)) hx hb dJ6_bitCount_0f7a4_16 (by decide) ?_
  refine lv_iushr (v := ((x1).toUInt32 >>> (((2 : Int32)).toUInt32 &&& Int32.toUInt32 31)).toInt32) hx hb dJ6_bitCount_0f7a4_17 rfl ?_
  refine lv_ldcw (v := (858993459 : Int32)) hx hb E.1.2.2.2.1 (E.1.2.2.2.2 _ kcJ_266) dJ6_bitCount_0f7a4_18 ?_
  refine lv_iand hx hb dJ6_bitCount_0f7a4_21 ?_
  refine lv_iadd hx hb dJ6_bitCount_0f7a4_22 ?_
  obtain ⟨x3, hx4, h⟩ := lqx h
  refine lv_istore_n (x := ((x1 &&& (858993459 : Int32)) + (((x1).toUInt32 >>> (((2 : Int32)).toUInt32 &&& Int32.toUInt32 31)).toInt32 &&& (858993459 : Int32)))) (lv' := [(0, .int x3)]) hx hb dJ6_bitCount_0f7a4_23 rfl hl (by decide) (by subst hx4; rfl) (fun ls hl => ?_)
  refine lv_iload_n hx hb dJ6_bitCount_0f7a4_24 rfl (lv_at hl 0 rfl) ?_
  refine lv_iload_n hx hb dJ6_bitCount_0f7a4_25 rfl (lv_at hl 0 rfl) ?_
  refine lv_iconst (v := (4 : Int32)) hx hb dJ6_bitCount_0f7a4_26 (by decide) ?_
  refine lv_iushr (v := ((x3).toUInt32 >>> (((4 : Int32)).toUInt32 &&& Int32.toUInt32 31)).toInt32) hx hb dJ6_bitCount_0f7a4_27 rfl ?_
  refine lv_iadd hx hb dJ6_bitCount_0f7a4_28 ?_
  refine lv_ldcw (v := (252645135 : Int32)) hx hb E.1.2.2.2.1 (E.1.2.2.2.2 _ kcJ_267) dJ6_bitCount_0f7a4_29 ?_
  refine lv_iand hx hb dJ6_bitCount_0f7a4_32 ?_
  obtain ⟨x5, hx6, h⟩ := lqx h
  refine lv_istore_n (x := ((x3 + ((x3).toUInt32 >>> (((4 : Int32)).toUInt32 &&& Int32.toUInt32 31)).toInt32) &&& (252645135 : Int32))) (lv' := [(0, .int x5)]) hx hb dJ6_bitCount_0f7a4_33 rfl hl (by decide) (by subst hx6; rfl) (fun ls hl => ?_)
  refine lv_iload_n hx hb dJ6_bitCount_0f7a4_34 rfl (lv_at hl 0 rfl) ?_
  refine lv_iload_n hx hb dJ6_bitCount_0f7a4_35 rfl (lv_at hl 0 rfl) ?_
  refine lv_bipush (v := (8 : Int32)) hx hb dJ6_bitCount_0f7a4_36 (by decide) ?_
  refine lv_iushr (v := ((x5).toUInt32 >>> (((8 : Int32)).toUInt32 &&& Int32.toUInt32 31)).toInt32) hx hb dJ6_bitCount_0f7a4_38 rfl ?_
  refine lv_iadd hx hb dJ6_bitCount_0f7a4_39 ?_
  obtain ⟨x7, hx8, h⟩ := lqx h
  refine lv_istore_n (x := (x5 + ((x5).toUInt32 >>> (((8 : Int32)).toUInt32 &&& Int32.toUInt32 31)).toInt32)) (lv' := [(0, .int x7)]) hx hb dJ6_bitCount_0f7a4_40 rfl hl (by decide) (by subst hx8; rfl) (fun ls hl => ?_)
  refine lv_iload_n hx hb dJ6_bitCount_0f7a4_41 rfl (lv_at hl 0 rfl) ?_
  refine lv_iload_n hx hb dJ6_bitCount_0f7a4_42 rfl (lv_at hl 0 rfl) ?_
  refine lv_bipush (v := (16 : Int32)) hx hb dJ6_bitCount_0f7a4_43 (by decide) ?_
  refine lv_iushr (v := ((x7).toUInt32 >>> (((16 : Int32)).toUInt32 &&& Int32.toUInt32 31)).toInt32) hx hb dJ6_bitCount_0f7a4_45 rfl ?_
  refine lv_iadd hx hb dJ6_bitCount_0f7a4_46 ?_
  obtain ⟨x9, hx10, h⟩ := lqx h
  refine lv_istore_n (x := (x7 + ((x7).toUInt32 >>> (((16 : Int32)).toUInt32 &&& Int32.toUInt32 31)).toInt32)) (lv' := [(0, .int x9)]) hx hb dJ6_bitCount_0f7a4_47 rfl hl (by decide) (by subst hx10; rfl) (fun ls hl => ?_)
  refine lv_iload_n hx hb dJ6_bitCount_0f7a4_48 rfl (lv_at hl 0 rfl) ?_
  refine lv_bipush (v := (63 : Int32)) hx hb dJ6_bitCount_0f7a4_49 (by decide) ?_
  refine lv_iand hx hb dJ6_bitCount_0f7a4_51 ?_
  cases h
  exact K _ _ _ _ I dJ6_bitCount_0f7a4_52
set_option maxHeartbeats 4000000 in
set_option maxRecDepth 100000 in
theorem c0_bySetsWith {l : Launch} {D : va_G} {g : Nat → ClassId} {a : Nat → Nat} {st : CS} {x91 : Int32} {x92 : Int32} {o : Int64} (h : f0_bySetsWith st x91 x92 = some o) : ct l yX0_bySetsWith cX0_bySetsWith 10 (some .long) (rmk 1 20) D g (cW g a st) (cW g a st) [.ref (a 7), .int x91, .int x92] (some (.long o)) := by
  refine ct_of ⟨rfl, rfl⟩ (by decide) (Nat.le_of_ble_eq_true rfl) ?_
  intro p e s m args below meth c ls Q A H0 H locs E I hl K
  have E : en p m c cX0_bySetsWith 10 s args RX0 D g := E
  have hx := E.1.1
  have hb := E.1.2.1
  have hl : lv_has ls 10 [(0, .ref (a 7)), (1, .int x91), (2, .int x92)] := hl
  have K : ∀ (pc : Nat) (ls : Array Slot) (H : Heap) (locs : List Loc), wk D (cW g a st) A H0 H locs → decode cX0_bySetsWith pc = .ok (.lreturn, 1) → W p l e (rmk 1 20) s m args below meth c H locs 0 0 Q (F0 m pc ls [.long o]) := fun pc ls H locs I hd => K pc ls H locs I hd
  have h : ((bi1 (wh (f0_bySetsWith_b5 st x91 x92) FU ((0 : Int64), (0 : Int32))) fun w43 => some w43) : Option Int64) = some o := h
  refine lv_lconst (v := (0 : Int64)) hx hb dX0_bySetsWith_0 (by decide) ?_
  refine lv_lstore_n (lv' := [(3, .long (0 : Int64)), (0, .ref (a 7)), (1, .int x91), (2, .int x92)]) hx hb dX0_bySetsWith_1 rfl hl (by decide) rfl (fun ls hl => ?_)
  refine lv_iconst (v := (0 : Int32)) hx hb dX0_bySetsWith_2 (by decide) ?_
  refine lv_istore (lv' := [(5, .int (0 : Int32)), (3, .long (0 : Int64)), (0, .ref (a 7)), (1, .int x91), (2, .int x92)]) hx hb dX0_bySetsWith_3 hl (by decide) rfl (fun ls hl => ?_)
  obtain ⟨z40, hw41, h⟩ := bx1 h
  refine wh_W (P := fun (z : Int64 × Int32) => ∀ (H : Heap) (locs : List Loc) (ls : Array Slot), wk D (cW g a st) A H0 H locs → lv_has ls 10 [(0, .ref (a 7)), (1, .int x91), (2, .int x92), (3, .long z.1), (5, .int z.2)] → W p l e (rmk 1 20) s m args below meth c H locs 0 0 Q (F0 m 5 ls [])) (X := fun (z : Int64) => ∀ (H : Heap) (locs : List Loc) (ls : Array Slot), wk D (cW g a st) A H0 H locs → lv_has ls 10 [(3, .long z)] → W p l e (rmk 1 20) s m args below meth c H locs 0 0 Q (F0 m 133 ls [])) ?_ FU _ _ hw41 ?_ _ _ _ I (lv_sub hl [2, 3, 4, 1, 0] rfl)
  · intro z o6 h hk7 H locs ls I hl
    obtain ⟨x4, x5⟩ := z
    have h : ((if (16 : Int32) ≤ x5 then some (.inr x4) else (if (c_canBeEmpty st) = 0 then (if (x5 &&& (c_used st)) = x5 then f0_bySetsWith_j49 st x91 x92 x4 x5 (1 : Int32) else f0_bySetsWith_j49 st x91 x92 x4 x5 (0 : Int32)) else (if x5 = 0 then f0_bySetsWith_j49 st x91 x92 x4 x5 (1 : Int32) else f0_bySetsWith_j49 st x91 x92 x4 x5 (0 : Int32)))) : Option ((Int64 × Int32) ⊕ (Int64))) = some o6 := h
    have I : wk D (cW g a st) A H0 H locs := I
    have hl : lv_has ls 10 [(0, .ref (a 7)), (1, .int x91), (2, .int x92), (3, .long x4), (5, .int x5)] := hl
    refine lv_iload hx hb dX0_bySetsWith_5 (lv_at hl 4 rfl) ?_
    refine lv_bipush (v := (16 : Int32)) hx hb dX0_bySetsWith_7 (by decide) ?_
    refine lv_icmp_ge (tgt := 133) hx hb dX0_bySetsWith_9 (by decide) (fun hc8 => ?_) (fun hc8 => ?_)
    · have h := ifp hc8 h
      cases h
      exact hk7 _ _ _ I (lv_sub hl [3] rfl)
    · have h := ifn hc8 h
      refine lv_aload_n hx hb dX0_bySetsWith_12 rfl (lv_at hl 0 rfl) ?_
      refine g0_45 E I (v := (c_canBeEmpty st)) rfl dX0_bySetsWith_13 ?_
      have J9 : ∀ (x10 : Int64) (x11 : Int32) (y12 : Int32), f0_bySetsWith_j49 st x91 x92 x10 x11 y12 = some o6 → ∀ (H : Heap) (locs : List Loc) (ls : Array Slot), wk D (cW g a st) A H0 H locs → lv_has ls 10 [(0, .ref (a 7)), (1, .int x91), (2, .int x92), (3, .long x10), (5, .int x11)] → W p l e (rmk 1 20) s m args below meth c H locs 0 0 Q (F0 m 49 ls [.int y12]) := by
        intro x10 x11 y12 h H locs ls I hl
        have h : ((if y12 = 0 then some (.inl (x10, (x11 + 1))) else (bi1 (wh (f0_bySetsWith_b62 st x91 x92 x10 x11) FU ((1 : Int64), (0 : Int32))) fun w36 => (if ((fJ_bitCount x11) - (fJ_bitCount x11) / (2 : Int32) * (2 : Int32)) = 0 then some (.inl ((x10 + w36), (x11 + 1))) else some (.inl ((x10 + (-w36)), (x11 + 1)))))) : Option ((Int64 × Int32) ⊕ (Int64))) = some o6 := h
        refine lv_istore (lv' := [(6, .int y12), (0, .ref (a 7)), (1, .int x91), (2, .int x92), (3, .long x10), (5, .int x11)]) hx hb dX0_bySetsWith_49 hl (by decide) rfl (fun ls hl => ?_)
        refine lv_iload hx hb dX0_bySetsWith_51 (lv_at hl 0 rfl) ?_
        refine lv_if_eq (tgt := 127) hx hb dX0_bySetsWith_53 (by decide) (fun hc13 => ?_) (fun hc13 => ?_)
        · have h := ifp hc13 h
          refine lv_iinc (v := (x11 + 1)) (lv' := [(5, .int (x11 + 1)), (6, .int y12), (0, .ref (a 7)), (1, .int x91), (2, .int x92), (3, .long x10)]) hx hb dX0_bySetsWith_127 hl (k := 5) rfl rfl (by decide) rfl (fun ls hl => ?_)
          refine lv_goto (tgt := 5) hx hb dX0_bySetsWith_130 (by decide) ?_
          cases h
          exact hk7 _ _ _ I (lv_sub hl [2, 3, 4, 5, 0] rfl)
        · have h := ifn hc13 h
          refine lv_lconst (v := (1 : Int64)) hx hb dX0_bySetsWith_56 (by decide) ?_
          refine lv_lstore (lv' := [(7, .long (1 : Int64)), (6, .int y12), (0, .ref (a 7)), (1, .int x91), (2, .int x92), (3, .long x10), (5, .int x11)]) hx hb dX0_bySetsWith_57 hl (by decide) rfl (fun ls hl => ?_)
          refine lv_iconst (v := (0 : Int32)) hx hb dX0_bySetsWith_59 (by decide) ?_
          refine lv_istore (lv' := [(9, .int (0 : Int32)), (7, .long (1 : Int64)), (6, .int y12), (0, .ref (a 7)), (1, .int x91), (2, .int x92), (3, .long x10), (5, .int x11)]) hx hb dX0_bySetsWith_60 hl (by decide) rfl (fun ls hl => ?_)
          obtain ⟨z32, hw33, h⟩ := bx1 h
          refine wh_W (P := fun (z : Int64 × Int32) => ∀ (H : Heap) (locs : List Loc) (ls : Array Slot), wk D (cW g a st) A H0 H locs → lv_has ls 10 [(0, .ref (a 7)), (1, .int x91), (2, .int x92), (3, .long x10), (5, .int x11), (7, .long z.1), (9, .int z.2)] → W p l e (rmk 1 20) s m args below meth c H locs 0 0 Q (F0 m 62 ls [])) (X := fun (z : Int64) => ∀ (H : Heap) (locs : List Loc) (ls : Array Slot), wk D (cW g a st) A H0 H locs → lv_has ls 10 [(0, .ref (a 7)), (1, .int x91), (2, .int x92), (3, .long x10), (5, .int x11), (7, .long z)] → W p l e (rmk 1 20) s m args below meth c H locs 0 0 Q (F0 m 106 ls [])) ?_ FU _ _ hw33 ?_ _ _ _ I (lv_sub hl [3, 4, 5, 6, 7, 1, 0] rfl)
          · intro z o21 h hk22 H locs ls I hl
            obtain ⟨x19, x20⟩ := z
            have h : ((if (4 : Int32) ≤ x20 then some (.inr x19) else (if ib (if x20 = x91 then x92 else x20) 5 = true then (if ib ((c_used st) &&& (x11 ^^^ (-1 : Int32))) 16 = true then (lq (x19 * ((c_within st) (if x20 = x91 then x92 else x20).toNatClampNeg ((c_used st) &&& (x11 ^^^ (-1 : Int32))).toNatClampNeg)) fun x29 => some (.inl (x29, (x20 + 1)))) else none) else none)) : Option ((Int64 × Int32) ⊕ (Int64))) = some o21 := h
            have I : wk D (cW g a st) A H0 H locs := I
            have hl : lv_has ls 10 [(0, .ref (a 7)), (1, .int x91), (2, .int x92), (3, .long x10), (5, .int x11), (7, .long x19), (9, .int x20)] := hl
            refine lv_iload hx hb dX0_bySetsWith_62 (lv_at hl 6 rfl) ?_
            refine lv_iconst (v := (4 : Int32)) hx hb dX0_bySetsWith_64 (by decide) ?_
            refine lv_icmp_ge (tgt := 106) hx hb dX0_bySetsWith_65 (by decide) (fun hc23 => ?_) (fun hc23 => ?_)
            · have h := ifp hc23 h
              cases h
              exact hk22 _ _ _ I (lv_sub hl [0, 1, 2, 3, 4, 5] rfl)
            · have h := ifn hc23 h
              refine lv_lload hx hb dX0_bySetsWith_68 (lv_at hl 5 rfl) ?_
              refine lv_aload_n hx hb dX0_bySetsWith_70 rfl (lv_at hl 0 rfl) ?_
              refine g0_28 E I dX0_bySetsWith_71 ?_
              refine lv_iload hx hb dX0_bySetsWith_74 (lv_at hl 6 rfl) ?_
              refine lv_iload_n hx hb dX0_bySetsWith_76 rfl (lv_at hl 1 rfl) ?_
              have J25 : ∀ (v24 : Int32) (H : Heap) (locs : List Loc), v24 = (if x20 = x91 then x92 else x20) → wk D (cW g a st) A H0 H locs → W p l e (rmk 1 20) s m args below meth c H locs 0 0 Q (F0 m 86 ls [.int v24, .ref (a 17), .long x19]) := by
                intro v24 H locs hv26 I
                subst hv26
                obtain ⟨hc27, h⟩ := gd h
                refine c_al17 E I hc27 dX0_bySetsWith_86 ?_
                refine lv_aload_n hx hb dX0_bySetsWith_87 rfl (lv_at hl 0 rfl) ?_
                refine g0_41 E I (v := (c_used st)) rfl dX0_bySetsWith_88 ?_
                refine lv_iload hx hb dX0_bySetsWith_91 (lv_at hl 4 rfl) ?_
                refine lv_iconst (v := (-1 : Int32)) hx hb dX0_bySetsWith_93 (by decide) ?_
                refine lv_ixor hx hb dX0_bySetsWith_94 ?_
                refine lv_iand hx hb dX0_bySetsWith_95 ?_
                obtain ⟨hc28, h⟩ := gd h
                refine c_ld17 E I (f := (c_within st)) rfl (ib_lt hc27) hc28 dX0_bySetsWith_96 ?_
                refine lv_lmul hx hb dX0_bySetsWith_97 ?_
                obtain ⟨x29, hx30, h⟩ := lqx h
                refine lv_lstore (x := (x19 * ((c_within st) (if x20 = x91 then x92 else x20).toNatClampNeg ((c_used st) &&& (x11 ^^^ (-1 : Int32))).toNatClampNeg))) (lv' := [(7, .long x29), (0, .ref (a 7)), (1, .int x91), (2, .int x92), (3, .long x10), (5, .int x11), (9, .int x20)]) hx hb dX0_bySetsWith_98 hl (by decide) (by subst hx30; rfl) (fun ls hl => ?_)
                refine lv_iinc (v := (x20 + 1)) (lv' := [(9, .int (x20 + 1)), (7, .long x29), (0, .ref (a 7)), (1, .int x91), (2, .int x92), (3, .long x10), (5, .int x11)]) hx hb dX0_bySetsWith_100 hl (k := 6) rfl rfl (by decide) rfl (fun ls hl => ?_)
                refine lv_goto (tgt := 62) hx hb dX0_bySetsWith_103 (by decide) ?_
                cases h
                exact hk22 _ _ _ I (lv_sub hl [2, 3, 4, 5, 6, 1, 0] rfl)
              refine lv_icmp_ne (tgt := 84) hx hb dX0_bySetsWith_77 (by decide) (fun hc31 => ?_) (fun hc31 => ?_)
              · refine lv_iload hx hb dX0_bySetsWith_84 (lv_at hl 6 rfl) ?_
                exact J25 _ _ _ (by rw [if_neg hc31]) I
              · refine lv_iload_n hx hb dX0_bySetsWith_80 rfl (lv_at hl 2 rfl) ?_
                refine lv_goto (tgt := 86) hx hb dX0_bySetsWith_81 (by decide) ?_
                exact J25 _ _ _ (by rw [if_pos hc31]) I
          · obtain ⟨x34, rfl⟩ : ∃ y, y = z32 := ⟨_, rfl⟩
            intro H locs ls I hl
            have h : ((if ((fJ_bitCount x11) - (fJ_bitCount x11) / (2 : Int32) * (2 : Int32)) = 0 then some (.inl ((x10 + x34), (x11 + 1))) else some (.inl ((x10 + (-x34)), (x11 + 1)))) : Option ((Int64 × Int32) ⊕ (Int64))) = some o6 := h
            have I : wk D (cW g a st) A H0 H locs := I
            have hl : lv_has ls 10 [(0, .ref (a 7)), (1, .int x91), (2, .int x92), (3, .long x10), (5, .int x11), (7, .long x34)] := hl
            refine lv_lload_n hx hb dX0_bySetsWith_106 rfl (lv_at hl 3 rfl) ?_
            refine lv_iload hx hb dX0_bySetsWith_107 (lv_at hl 4 rfl) ?_
            refine r_callS1 (As := [.int x11]) (rest := [.long x10]) E I hl.1 k0_84 (cJ_bitCount rfl) rfl rfl (Nat.le_of_ble_eq_true rfl) ⟨Nat.le_of_ble_eq_true rfl, Nat.le_of_ble_eq_true rfl⟩ ⟨Nat.zero_le _, Nat.zero_le _⟩ dX0_bySetsWith_109 (fun H locs I => ?_)
            refine lv_iconst (v := (2 : Int32)) hx hb dX0_bySetsWith_112 (by decide) ?_
            refine lv_irem hx hb dX0_bySetsWith_113 (by decide) ?_
            refine lv_if_ne (tgt := 122) hx hb dX0_bySetsWith_114 (by decide) (fun hc35 => ?_) (fun hc35 => ?_)
            · have h := ifn hc35 h
              refine lv_lload hx hb dX0_bySetsWith_122 (lv_at hl 5 rfl) ?_
              refine lv_lneg hx hb dX0_bySetsWith_124 ?_
              refine lv_ladd hx hb dX0_bySetsWith_125 ?_
              refine lv_lstore_n (lv' := [(3, .long (x10 + (-x34))), (0, .ref (a 7)), (1, .int x91), (2, .int x92), (5, .int x11), (7, .long x34)]) hx hb dX0_bySetsWith_126 rfl hl (by decide) rfl (fun ls hl => ?_)
              refine lv_iinc (v := (x11 + 1)) (lv' := [(5, .int (x11 + 1)), (3, .long (x10 + (-x34))), (0, .ref (a 7)), (1, .int x91), (2, .int x92), (7, .long x34)]) hx hb dX0_bySetsWith_127 hl (k := 4) rfl rfl (by decide) rfl (fun ls hl => ?_)
              refine lv_goto (tgt := 5) hx hb dX0_bySetsWith_130 (by decide) ?_
              cases h
              exact hk7 _ _ _ I (lv_sub hl [2, 3, 4, 1, 0] rfl)
            · have h := ifp hc35 h
              refine lv_lload hx hb dX0_bySetsWith_117 (lv_at hl 5 rfl) ?_
              refine lv_goto (tgt := 125) hx hb dX0_bySetsWith_119 (by decide) ?_
              refine lv_ladd hx hb dX0_bySetsWith_125 ?_
              refine lv_lstore_n (lv' := [(3, .long (x10 + x34)), (0, .ref (a 7)), (1, .int x91), (2, .int x92), (5, .int x11), (7, .long x34)]) hx hb dX0_bySetsWith_126 rfl hl (by decide) rfl (fun ls hl => ?_)
              refine lv_iinc (v := (x11 + 1)) (lv' := [(5, .int (x11 + 1)), (3, .long (x10 + x34)), (0, .ref (a 7)), (1, .int x91), (2, .int x92), (7, .long x34)]) hx hb dX0_bySetsWith_127 hl (k := 4) rfl rfl (by decide) rfl (fun ls hl => ?_)
              refine lv_goto (tgt := 5) hx hb dX0_bySetsWith_130 (by decide) ?_
              cases h
              exact hk7 _ _ _ I (lv_sub hl [2, 3, 4, 1, 0] rfl)
      refine lv_if_eq (tgt := 32) hx hb dX0_bySetsWith_16 (by decide) (fun hc37 => ?_) (fun hc37 => ?_)
      · have h := ifp hc37 h
        refine lv_iload hx hb dX0_bySetsWith_32 (lv_at hl 4 rfl) ?_
        refine lv_aload_n hx hb dX0_bySetsWith_34 rfl (lv_at hl 0 rfl) ?_
        refine g0_41 E I (v := (c_used st)) rfl dX0_bySetsWith_35 ?_
        refine lv_iand hx hb dX0_bySetsWith_38 ?_
        refine lv_iload hx hb dX0_bySetsWith_39 (lv_at hl 4 rfl) ?_
        refine lv_icmp_ne (tgt := 48) hx hb dX0_bySetsWith_41 (by decide) (fun hc38 => ?_) (fun hc38 => ?_)
        · have h := ifn hc38 h
          refine lv_iconst (v := (0 : Int32)) hx hb dX0_bySetsWith_48 (by decide) ?_
          exact J9 _ _ _ h _ _ _ I (lv_sub hl [0, 1, 2, 3, 4] rfl)
        · have h := ifp hc38 h
          refine lv_iconst (v := (1 : Int32)) hx hb dX0_bySetsWith_44 (by decide) ?_
          refine lv_goto (tgt := 49) hx hb dX0_bySetsWith_45 (by decide) ?_
          exact J9 _ _ _ h _ _ _ I (lv_sub hl [0, 1, 2, 3, 4] rfl)
      · have h := ifn hc37 h
        refine lv_iload hx hb dX0_bySetsWith_19 (lv_at hl 4 rfl) ?_
        refine lv_if_ne (tgt := 28) hx hb dX0_bySetsWith_21 (by decide) (fun hc39 => ?_) (fun hc39 => ?_)
        · have h := ifn hc39 h
          refine lv_iconst (v := (0 : Int32)) hx hb dX0_bySetsWith_28 (by decide) ?_
          refine lv_goto (tgt := 49) hx hb dX0_bySetsWith_29 (by decide) ?_
          exact J9 _ _ _ h _ _ _ I (lv_sub hl [0, 1, 2, 3, 4] rfl)
        · have h := ifp hc39 h
          refine lv_iconst (v := (1 : Int32)) hx hb dX0_bySetsWith_24 (by decide) ?_
          refine lv_goto (tgt := 49) hx hb dX0_bySetsWith_25 (by decide) ?_
          exact J9 _ _ _ h _ _ _ I (lv_sub hl [0, 1, 2, 3, 4] rfl)
  · obtain ⟨x42, rfl⟩ : ∃ y, y = z40 := ⟨_, rfl⟩
    intro H locs ls I hl
    have h : (some x42 : Option Int64) = some o := h
    have I : wk D (cW g a st) A H0 H locs := I
    have hl : lv_has ls 10 [(3, .long x42)] := hl
    refine lv_lload_n hx hb dX0_bySetsWith_133 rfl (lv_at hl 0 rfl) ?_
    cases h
    exact K _ _ _ _ I dX0_bySetsWith_134
set_option maxHeartbeats 4000000 in
set_option maxRecDepth 100000 in
theorem c0_bySets {l : Launch} {D : va_G} {g : Nat → ClassId} {a : Nat → Nat} {st : CS} {o : Int64} (h : f0_bySets st = some o) : ct l yX0_bySets cX0_bySets 1 (some .long) (rmk 2 49) D g (cW g a st) (cW g a st) [.ref (a 7)] (some (.long o)) := by
  refine ct_of ⟨rfl, rfl⟩ (by decide) (Nat.le_of_ble_eq_true rfl) ?_
  intro p e s m args below meth c ls Q A H0 H locs E I hl K
  have E : en p m c cX0_bySets 1 s args RX0 D g := E
  have hx := E.1.1
  have hb := E.1.2.1
  have hl : lv_has ls 1 [(0, .ref (a 7))] := hl
  have K : ∀ (pc : Nat) (ls : Array Slot) (H : Heap) (locs : List Loc), wk D (cW g a st) A H0 H locs → decode cX0_bySets pc = .ok (.lreturn, 1) → W p l e (rmk 2 49) s m args below meth c H locs 0 0 Q (F0 m pc ls [.long o]) := fun pc ls H locs I hd => K pc ls H locs I hd
  have h : ((bi1 (f0_bySetsWith st (4 : Int32) (4 : Int32)) fun r2 => some r2) : Option Int64) = some o := h
  refine lv_aload_n hx hb dX0_bySets_0 rfl (lv_at hl 0 rfl) ?_
  refine lv_iconst (v := (4 : Int32)) hx hb dX0_bySets_1 (by decide) ?_
  refine lv_iconst (v := (4 : Int32)) hx hb dX0_bySets_2 (by decide) ?_
  obtain ⟨r2, hc1, h⟩ := bx1 h
  refine r_callV1 (As := [.int (4 : Int32), .int (4 : Int32)]) (rest := []) (ws' := (cW g a st)) (q0 := 7) E I hl.1 k0_58 (c0_bySetsWith hc1) cW_k rfl rfl rfl rfl (Nat.le_of_ble_eq_true rfl) ⟨Nat.le_of_ble_eq_true rfl, Nat.le_of_ble_eq_true rfl⟩ ⟨Nat.zero_le _, Nat.zero_le _⟩ dX0_bySets_3 (fun H locs I => ?_)
  cases h
  exact K _ _ _ _ I dX0_bySets_6
set_option maxHeartbeats 4000000 in
set_option maxRecDepth 100000 in
theorem c0_byConstants {l : Launch} {D : va_G} {g : Nat → ClassId} {a : Nat → Nat} {st : CS} {o : Int64} (h : f0_byConstants st = some o) : ct l yX0_byConstants cX0_byConstants 1 (some .long) (rmk 0 0) D g (cW g a st) (cW g a st) [.ref (a 7)] (some (.long o)) := by
  refine ct_of ⟨rfl, rfl⟩ (by decide) (Nat.le_of_ble_eq_true rfl) ?_
  intro p e s m args below meth c ls Q A H0 H locs E I hl K
  have E : en p m c cX0_byConstants 1 s args RX0 D g := E
  have hx := E.1.1
  have hb := E.1.2.1
  have hl : lv_has ls 1 [(0, .ref (a 7))] := hl
  have K : ∀ (pc : Nat) (ls : Array Slot) (H : Heap) (locs : List Loc), wk D (cW g a st) A H0 H locs → decode cX0_byConstants pc = .ok (.lreturn, 1) → W p l e (rmk 0 0) s m args below meth c H locs 0 0 Q (F0 m pc ls [.long o]) := fun pc ls H locs I hd => K pc ls H locs I hd
  have h : (some ((c_eways st) (0 : Int32).toNatClampNeg (0 : Int32).toNatClampNeg) : Option Int64) = some o := h
  refine lv_aload_n hx hb dX0_byConstants_0 rfl (lv_at hl 0 rfl) ?_
  refine g0_31 E I dX0_byConstants_1 ?_
  refine lv_iconst (v := (0 : Int32)) hx hb dX0_byConstants_4 (by decide) ?_
  refine c_al18 E I (by decide) dX0_byConstants_5 ?_
  refine lv_iconst (v := (0 : Int32)) hx hb dX0_byConstants_6 (by decide) ?_
  refine c_ld18 E I (f := (c_eways st)) rfl (ib_lt (show ib (0 : Int32) 5 = true by decide)) (by decide) dX0_byConstants_7 ?_
  cases h
  exact K _ _ _ _ I dX0_byConstants_8
set_option maxHeartbeats 4000000 in
set_option maxRecDepth 100000 in
theorem c4_matchers {l : Launch} {D : va_G} {g : Nat → ClassId} {a : Nat → Nat} {st : CS} {x91 : Int32} {st' : CS} {r' : Int64} (h : f4_matchers st x91 = some (st', .inr r')) : ct l yX4_matchers cX4_matchers 2 (some .long) (rmk 5 117) D g (cW g a st) (cW g a st') [.ref (a 0), .int x91] (some (.long r')) := by
  refine ct_of ⟨rfl, rfl⟩ (by decide) (Nat.le_of_ble_eq_true rfl) ?_
  intro p e s m args below meth c ls Q A H0 H locs E I hl K
  have E : en p m c cX4_matchers 2 s args RX4 D g := E
  have hx := E.1.1
  have hb := E.1.2.1
  have hl : lv_has ls 2 [(0, .ref (a 0)), (1, .int x91)] := hl
  have K : ∀ (pc : Nat) (ls : Array Slot) (H : Heap) (locs : List Loc), wk D (cW g a st') A H0 H locs → decode cX4_matchers pc = .ok (.lreturn, 1) → W p l e (rmk 5 117) s m args below meth c H locs 0 0 Q (F0 m pc ls [.long r']) := fun pc ls H locs I hd => K pc ls H locs I hd
  have h : ((bt0 st (f4_needNumber x91 (0 : Int32) (1 : Int32)) fun (u2 : Unit) => (bi1 (f0_prepare st) fun st4 => (if x91 = 0 then (bi1 (f0_bySets st4) fun r9 => some (st4, .inr r9)) else (bi1 (f0_byConstants st4) fun r7 => some (st4, .inr r7))))) : Option (CS × (Nat ⊕ Int64))) = some (st', .inr r') := h
  refine lv_iload_n hx hb dX4_matchers_0 rfl (lv_at hl 1 rfl) ?_
  refine lv_iconst (v := (0 : Int32)) hx hb dX4_matchers_1 (by decide) ?_
  refine lv_iconst (v := (1 : Int32)) hx hb dX4_matchers_2 (by decide) ?_
  obtain ⟨u2, hc1, h⟩ := bt0n h
  refine r_callS0 (As := [.int x91, .int (0 : Int32), .int (1 : Int32)]) (rest := []) E I hl.1 k4_57 (c4_needNumber hc1) rfl rfl (Nat.le_of_ble_eq_true rfl) ⟨Nat.le_of_ble_eq_true rfl, Nat.le_of_ble_eq_true rfl⟩ ⟨Nat.zero_le _, Nat.zero_le _⟩ dX4_matchers_3 (fun H locs I => ?_)
  refine lv_aload_n hx hb dX4_matchers_6 rfl (lv_at hl 0 rfl) ?_
  refine g4_42 E I dX4_matchers_7 ?_
  refine lv_aload_n hx hb dX4_matchers_10 rfl (lv_at hl 0 rfl) ?_
  refine g4_9 E I dX4_matchers_11 ?_
  obtain ⟨st4, hc3, h⟩ := bx1 h
  refine r_callV0 (As := [.ref (a 1)]) (rest := []) (ws' := (cW g a st4)) (q0 := 7) E I hl.1 k4_148 (c0_prepare hc3) cW_k rfl rfl rfl rfl (Nat.le_of_ble_eq_true rfl) ⟨Nat.le_of_ble_eq_true rfl, Nat.le_of_ble_eq_true rfl⟩ ⟨Nat.zero_le _, Nat.zero_le _⟩ dX4_matchers_14 (fun H locs I => ?_)
  refine lv_iload_n hx hb dX4_matchers_17 rfl (lv_at hl 1 rfl) ?_
  refine lv_if_ne (tgt := 31) hx hb dX4_matchers_18 (by decide) (fun hc5 => ?_) (fun hc5 => ?_)
  · have h := ifn hc5 h
    refine lv_aload_n hx hb dX4_matchers_31 rfl (lv_at hl 0 rfl) ?_
    refine g4_42 E I dX4_matchers_32 ?_
    obtain ⟨r7, hc6, h⟩ := bx1 h
    refine r_callV1 (As := []) (rest := []) (ws' := (cW g a st4)) (q0 := 7) E I hl.1 k4_158 (c0_byConstants hc6) cW_k rfl rfl rfl rfl (Nat.le_of_ble_eq_true rfl) ⟨Nat.le_of_ble_eq_true rfl, Nat.le_of_ble_eq_true rfl⟩ ⟨Nat.zero_le _, Nat.zero_le _⟩ dX4_matchers_35 (fun H locs I => ?_)
    cases h
    exact K _ _ _ _ I dX4_matchers_38
  · have h := ifp hc5 h
    refine lv_aload_n hx hb dX4_matchers_21 rfl (lv_at hl 0 rfl) ?_
    refine g4_42 E I dX4_matchers_22 ?_
    obtain ⟨r9, hc8, h⟩ := bx1 h
    refine r_callV1 (As := []) (rest := []) (ws' := (cW g a st4)) (q0 := 7) E I hl.1 k4_154 (c0_bySets hc8) cW_k rfl rfl rfl rfl (Nat.le_of_ble_eq_true rfl) ⟨Nat.le_of_ble_eq_true rfl, Nat.le_of_ble_eq_true rfl⟩ ⟨Nat.zero_le _, Nat.zero_le _⟩ dX4_matchers_25 (fun H locs I => ?_)
    refine lv_goto (tgt := 38) hx hb dX4_matchers_28 (by decide) ?_
    cases h
    exact K _ _ _ _ I dX4_matchers_38
set_option maxHeartbeats 4000000 in
set_option maxRecDepth 100000 in
theorem c2_solves {l : Launch} {D : va_G} {g : Nat → ClassId} {a : Nat → Nat} {st : CS} {x91 : Int32} {x92 : Int32} {x93 : Int32} {x94 : Int32} {o : Int32} (h : f2_solves st x91 x92 x93 x94 = some o) : ct l yX2_solves cX2_solves 5 (some .boolean) (rmk 0 0) D g (cW g a st) (cW g a st) [.ref (a 8), .int x91, .int x92, .int x93, .int x94] (some (.int o)) := by
  refine ct_of ⟨rfl, rfl⟩ (by decide) (Nat.le_of_ble_eq_true rfl) ?_
  intro p e s m args below meth c ls Q A H0 H locs E I hl K
  have E : en p m c cX2_solves 5 s args RX2 D g := E
  have hx := E.1.1
  have hb := E.1.2.1
  have hl : lv_has ls 5 [(0, .ref (a 8)), (1, .int x91), (2, .int x92), (3, .int x93), (4, .int x94)] := hl
  have K : ∀ (pc : Nat) (ls : Array Slot) (H : Heap) (locs : List Loc), wk D (cW g a st) A H0 H locs → decode cX2_solves pc = .ok (.ireturn, 1) → zok o = true → W p l e (rmk 0 0) s m args below meth c H locs 0 0 Q (F0 m pc ls [.int o]) := fun pc ls H locs I hd hz => K pc ls H locs I ⟨hd, hz⟩
  have h : ((if ((((((c_difference st) (0 : Int32).toNatClampNeg) * x91) + (((c_difference st) (1 : Int32).toNatClampNeg) * x92)) + (((c_difference st) (2 : Int32).toNatClampNeg) * x93)) + (((c_difference st) (3 : Int32).toNatClampNeg) * x94)) = 0 then some (1 : Int32) else some (0 : Int32)) : Option Int32) = some o := h
  refine lv_aload_n hx hb dX2_solves_0 rfl (lv_at hl 0 rfl) ?_
  refine g2_9 E I dX2_solves_1 ?_
  refine lv_iconst (v := (0 : Int32)) hx hb dX2_solves_4 (by decide) ?_
  refine c_ld20 E I (f := (c_difference st)) rfl (by decide) dX2_solves_5 ?_
  refine lv_iload_n hx hb dX2_solves_6 rfl (lv_at hl 1 rfl) ?_
  refine lv_imul hx hb dX2_solves_7 ?_
  refine lv_aload_n hx hb dX2_solves_8 rfl (lv_at hl 0 rfl) ?_
  refine g2_9 E I dX2_solves_9 ?_
  refine lv_iconst (v := (1 : Int32)) hx hb dX2_solves_12 (by decide) ?_
  refine c_ld20 E I (f := (c_difference st)) rfl (by decide) dX2_solves_13 ?_
  refine lv_iload_n hx hb dX2_solves_14 rfl (lv_at hl 2 rfl) ?_
  refine lv_imul hx hb dX2_solves_15 ?_
  refine lv_iadd hx hb dX2_solves_16 ?_
  refine lv_aload_n hx hb dX2_solves_17 rfl (lv_at hl 0 rfl) ?_
  refine g2_9 E I dX2_solves_18 ?_
  refine lv_iconst (v := (2 : Int32)) hx hb dX2_solves_21 (by decide) ?_
  refine c_ld20 E I (f := (c_difference st)) rfl (by decide) dX2_solves_22 ?_
  refine lv_iload_n hx hb dX2_solves_23 rfl (lv_at hl 3 rfl) ?_
  refine lv_imul hx hb dX2_solves_24 ?_
  refine lv_iadd hx hb dX2_solves_25 ?_
  refine lv_aload_n hx hb dX2_solves_26 rfl (lv_at hl 0 rfl) ?_
  refine g2_9 E I dX2_solves_27 ?_
  refine lv_iconst (v := (3 : Int32)) hx hb dX2_solves_30 (by decide) ?_
  refine c_ld20 E I (f := (c_difference st)) rfl (by decide) dX2_solves_31 ?_
  refine lv_iload hx hb dX2_solves_32 (lv_at hl 4 rfl) ?_
  refine lv_imul hx hb dX2_solves_34 ?_
  refine lv_iadd hx hb dX2_solves_35 ?_
  refine lv_if_ne (tgt := 43) hx hb dX2_solves_36 (by decide) (fun hc1 => ?_) (fun hc1 => ?_)
  · have h := ifn hc1 h
    refine lv_iconst (v := (0 : Int32)) hx hb dX2_solves_43 (by decide) ?_
    cases h
    exact K _ _ _ _ I dX2_solves_44 rfl
  · have h := ifp hc1 h
    refine lv_iconst (v := (1 : Int32)) hx hb dX2_solves_39 (by decide) ?_
    refine lv_goto (tgt := 44) hx hb dX2_solves_40 (by decide) ?_
    cases h
    exact K _ _ _ _ I dX2_solves_44 rfl
set_option maxHeartbeats 4000000 in
set_option maxRecDepth 100000 in
theorem c2_setRow {l : Launch} {D : va_G} {g : Nat → ClassId} {a : Nat → Nat} {st : CS} {x91 : Int32} {x92 : Int32} {x93 : Int32} {x94 : Int32} {o : CS} (h : f2_setRow st x91 x92 x93 x94 = some o) : ct l yX2_setRow cX2_setRow 5 none (rmk 0 0) D g (cW g a st) (cW g a o) [.ref (a 8), .int x91, .int x92, .int x93, .int x94] none := by
  refine ct_of ⟨rfl, rfl⟩ (by decide) (Nat.le_of_ble_eq_true rfl) ?_
  intro p e s m args below meth c ls Q A H0 H locs E I hl K
  have E : en p m c cX2_setRow 5 s args RX2 D g := E
  have hx := E.1.1
  have hb := E.1.2.1
  have hl : lv_has ls 5 [(0, .ref (a 8)), (1, .int x91), (2, .int x92), (3, .int x93), (4, .int x94)] := hl
  have K : ∀ (pc : Nat) (ls : Array Slot) (H : Heap) (locs : List Loc), wk D (cW g a o) A H0 H locs → decode cX2_setRow pc = .ok (.return_, 1) → W p l e (rmk 0 0) s m args below meth c H locs 0 0 Q (F0 m pc ls []) := fun pc ls H locs I hd => K pc ls H locs I hd
  have h : (some (c_row_s (c_row_s (c_row_s (c_row_s st (upd (c_row st) (0 : Int32).toNatClampNeg x91)) (upd (upd (c_row st) (0 : Int32).toNatClampNeg x91) (1 : Int32).toNatClampNeg x92)) (upd (upd (upd (c_row st) (0 : Int32).toNatClampNeg x91) (1 : Int32).toNatClampNeg x92) (2 : Int32).toNatClampNeg x93)) (upd (upd (upd (upd (c_row st) (0 : Int32).toNatClampNeg x91) (1 : Int32).toNatClampNeg x92) (2 : Int32).toNatClampNeg x93) (3 : Int32).toNatClampNeg x94)) : Option CS) = some o := h
  refine lv_aload_n hx hb dX2_setRow_0 rfl (lv_at hl 0 rfl) ?_
  refine g2_15 E I dX2_setRow_1 ?_
  refine lv_iconst (v := (0 : Int32)) hx hb dX2_setRow_4 (by decide) ?_
  refine lv_iload_n hx hb dX2_setRow_5 rfl (lv_at hl 1 rfl) ?_
  refine c_st21 E I (f := (c_row st)) rfl (by decide) dX2_setRow_6 (fun H locs I => ?_)
  refine lv_aload_n hx hb dX2_setRow_7 rfl (lv_at hl 0 rfl) ?_
  refine g2_15 E I dX2_setRow_8 ?_
  refine lv_iconst (v := (1 : Int32)) hx hb dX2_setRow_11 (by decide) ?_
  refine lv_iload_n hx hb dX2_setRow_12 rfl (lv_at hl 2 rfl) ?_
  refine c_st21 E I (f := (upd (c_row st) (0 : Int32).toNatClampNeg x91)) rfl (by decide) dX2_setRow_13 (fun H locs I => ?_)
  refine lv_aload_n hx hb dX2_setRow_14 rfl (lv_at hl 0 rfl) ?_
  refine g2_15 E I dX2_setRow_15 ?_
  refine lv_iconst (v := (2 : Int32)) hx hb dX2_setRow_18 (by decide) ?_
  refine lv_iload_n hx hb dX2_setRow_19 rfl (lv_at hl 3 rfl) ?_
  refine c_st21 E I (f := (upd (upd (c_row st) (0 : Int32).toNatClampNeg x91) (1 : Int32).toNatClampNeg x92)) rfl (by decide) dX2_setRow_20 (fun H locs I => ?_)
  refine lv_aload_n hx hb dX2_setRow_21 rfl (lv_at hl 0 rfl) ?_
  refine g2_15 E I dX2_setRow_22 ?_
  refine lv_iconst (v := (3 : Int32)) hx hb dX2_setRow_25 (by decide) ?_
  refine lv_iload hx hb dX2_setRow_26 (lv_at hl 4 rfl) ?_
  refine c_st21 E I (f := (upd (upd (upd (c_row st) (0 : Int32).toNatClampNeg x91) (1 : Int32).toNatClampNeg x92) (2 : Int32).toNatClampNeg x93)) rfl (by decide) dX2_setRow_28 (fun H locs I => ?_)
  cases h
  exact K _ _ _ _ I dX2_setRow_29
set_option maxHeartbeats 4000000 in
set_option maxRecDepth 100000 in
theorem c2_number {l : Launch} {D : va_G} {g : Nat → ClassId} {a : Nat → Nat} {st : CS} {x91 : Int32} {x92 : Int32} {o : Int32} (h : f2_number st x91 x92 = some o) : ct l yX2_number cX2_number 3 (some .int) (rmk 0 0) D g (cW g a st) (cW g a st) [.ref (a 8), .int x91, .int x92] (some (.int o)) := by
  refine ct_of ⟨rfl, rfl⟩ (by decide) (Nat.le_of_ble_eq_true rfl) ?_
  intro p e s m args below meth c ls Q A H0 H locs E I hl K
  have E : en p m c cX2_number 3 s args RX2 D g := E
  have hx := E.1.1
  have hb := E.1.2.1
  have hl : lv_has ls 3 [(0, .ref (a 8)), (1, .int x91), (2, .int x92)] := hl
  have K : ∀ (pc : Nat) (ls : Array Slot) (H : Heap) (locs : List Loc), wk D (cW g a st) A H0 H locs → decode cX2_number pc = .ok (.ireturn, 1) → W p l e (rmk 0 0) s m args below meth c H locs 0 0 Q (F0 m pc ls [.int o]) := fun pc ls H locs I hd => K pc ls H locs I hd
  have h : ((if x91 < 0 then some (-1 : Int32) else (if (c_found st) ≤ x91 then some (-1 : Int32) else (if ib ((x91 * (4 : Int32)) + x92) 120 = true then some ((c_numbers st) ((x91 * (4 : Int32)) + x92).toNatClampNeg) else none))) : Option Int32) = some o := h
  refine lv_iload_n hx hb dX2_number_0 rfl (lv_at hl 1 rfl) ?_
  refine lv_if_lt (tgt := 25) hx hb dX2_number_1 (by decide) (fun hc1 => ?_) (fun hc1 => ?_)
  · have h := ifp hc1 h
    refine lv_iconst (v := (-1 : Int32)) hx hb dX2_number_25 (by decide) ?_
    cases h
    exact K _ _ _ _ I dX2_number_26
  · have h := ifn hc1 h
    refine lv_iload_n hx hb dX2_number_4 rfl (lv_at hl 1 rfl) ?_
    refine lv_aload_n hx hb dX2_number_5 rfl (lv_at hl 0 rfl) ?_
    refine g2_28 E I (v := (c_found st)) rfl dX2_number_6 ?_
    refine lv_icmp_ge (tgt := 25) hx hb dX2_number_9 (by decide) (fun hc2 => ?_) (fun hc2 => ?_)
    · have h := ifp hc2 h
      refine lv_iconst (v := (-1 : Int32)) hx hb dX2_number_25 (by decide) ?_
      cases h
      exact K _ _ _ _ I dX2_number_26
    · have h := ifn hc2 h
      refine lv_aload_n hx hb dX2_number_12 rfl (lv_at hl 0 rfl) ?_
      refine g2_18 E I dX2_number_13 ?_
      refine lv_iload_n hx hb dX2_number_16 rfl (lv_at hl 1 rfl) ?_
      refine lv_iconst (v := (4 : Int32)) hx hb dX2_number_17 (by decide) ?_
      refine lv_imul hx hb dX2_number_18 ?_
      refine lv_iload_n hx hb dX2_number_19 rfl (lv_at hl 2 rfl) ?_
      refine lv_iadd hx hb dX2_number_20 ?_
      obtain ⟨hc3, h⟩ := gd h
      refine c_ld22 E I (f := (c_numbers st)) rfl hc3 dX2_number_21 ?_
      refine lv_goto (tgt := 26) hx hb dX2_number_22 (by decide) ?_
      cases h
      exact K _ _ _ _ I dX2_number_26
set_option maxHeartbeats 4000000 in
set_option maxRecDepth 100000 in
theorem c2_isAtMostRow {l : Launch} {D : va_G} {g : Nat → ClassId} {a : Nat → Nat} {st : CS} {x91 : Int32} {o : Int32} (h : f2_isAtMostRow st x91 = some o) : ct l yX2_isAtMostRow cX2_isAtMostRow 3 (some .boolean) (rmk 1 22) D g (cW g a st) (cW g a st) [.ref (a 8), .int x91] (some (.int o)) := by
  refine ct_of ⟨rfl, rfl⟩ (by decide) (Nat.le_of_ble_eq_true rfl) ?_
  intro p e s m args below meth c ls Q A H0 H locs E I hl K
  have E : en p m c cX2_isAtMostRow 3 s args RX2 D g := E
  have hx := E.1.1
  have hb := E.1.2.1
  have hl : lv_has ls 3 [(0, .ref (a 8)), (1, .int x91)] := hl
  have K : ∀ (pc : Nat) (ls : Array Slot) (H : Heap) (locs : List Loc), wk D (cW g a st) A H0 H locs → decode cX2_isAtMostRow pc = .ok (.ireturn, 1) → zok o = true → W p l e (rmk 1 22) s m args below meth c H locs 0 0 Q (F0 m pc ls [.int o]) := fun pc ls H locs I hd hz => K pc ls H locs I ⟨hd, hz⟩
  have h : ((bi1 (wh (f2_isAtMostRow_b2 st x91) FU (0 : Int32)) fun w14 => Sum.elim (fun w15 => some (1 : Int32)) (fun w16 => some (0 : Int32)) w14) : Option Int32) = some o := h
  refine lv_iconst (v := (0 : Int32)) hx hb dX2_isAtMostRow_0 (by decide) ?_
  refine lv_istore_n (lv' := [(2, .int (0 : Int32)), (0, .ref (a 8)), (1, .int x91)]) hx hb dX2_isAtMostRow_1 rfl hl (by decide) rfl (fun ls hl => ?_)
  obtain ⟨z11, hw12, h⟩ := bx1 h
  refine wh_W (P := fun (z : Int32) => ∀ (H : Heap) (locs : List Loc) (ls : Array Slot), wk D (cW g a st) A H0 H locs → lv_has ls 3 [(0, .ref (a 8)), (1, .int x91), (2, .int z)] → W p l e (rmk 1 22) s m args below meth c H locs 0 0 Q (F0 m 2 ls [])) (X := Sum.elim (fun (z : Unit) => ∀ (H : Heap) (locs : List Loc) (ls : Array Slot), wk D (cW g a st) A H0 H locs → lv_has ls 3 [] → W p l e (rmk 1 22) s m args below meth c H locs 0 0 Q (F0 m 30 ls [])) (fun (z : Unit) => ∀ (H : Heap) (locs : List Loc) (ls : Array Slot), wk D (cW g a st) A H0 H locs → lv_has ls 3 [] → W p l e (rmk 1 22) s m args below meth c H locs 0 0 Q (F0 m 22 ls []))) ?_ FU _ _ hw12 ?_ _ _ _ I (lv_sub hl [1, 2, 0] rfl)
  · intro x3 o4 h hk5 H locs ls I hl
    have h : ((if (4 : Int32) ≤ x3 then some (.inr (.inl ())) else (bi1 (f2_number st x91 x3) fun r8 => (if ib x3 4 = true then (if r8 ≤ ((c_row st) x3.toNatClampNeg) then some (.inl (x3 + 1)) else some (.inr (.inr ()))) else none))) : Option ((Int32) ⊕ ((Unit) ⊕ (Unit)))) = some o4 := h
    have I : wk D (cW g a st) A H0 H locs := I
    have hl : lv_has ls 3 [(0, .ref (a 8)), (1, .int x91), (2, .int x3)] := hl
    refine lv_iload_n hx hb dX2_isAtMostRow_2 rfl (lv_at hl 2 rfl) ?_
    refine lv_iconst (v := (4 : Int32)) hx hb dX2_isAtMostRow_3 (by decide) ?_
    refine lv_icmp_ge (tgt := 30) hx hb dX2_isAtMostRow_4 (by decide) (fun hc6 => ?_) (fun hc6 => ?_)
    · have h := ifp hc6 h
      cases h
      exact hk5 _ _ _ I (lv_sub hl [] rfl)
    · have h := ifn hc6 h
      refine lv_aload_n hx hb dX2_isAtMostRow_7 rfl (lv_at hl 0 rfl) ?_
      refine lv_iload_n hx hb dX2_isAtMostRow_8 rfl (lv_at hl 1 rfl) ?_
      refine lv_iload_n hx hb dX2_isAtMostRow_9 rfl (lv_at hl 2 rfl) ?_
      obtain ⟨r8, hc7, h⟩ := bx1 h
      refine r_callV1 (As := [.int x91, .int x3]) (rest := []) (ws' := (cW g a st)) (q0 := 8) E I hl.1 k2_36 (c2_number hc7) cW_k rfl rfl rfl rfl (Nat.le_of_ble_eq_true rfl) ⟨Nat.le_of_ble_eq_true rfl, Nat.le_of_ble_eq_true rfl⟩ ⟨Nat.zero_le _, Nat.zero_le _⟩ dX2_isAtMostRow_10 (fun H locs I => ?_)
      refine lv_aload_n hx hb dX2_isAtMostRow_13 rfl (lv_at hl 0 rfl) ?_
      refine g2_15 E I dX2_isAtMostRow_14 ?_
      refine lv_iload_n hx hb dX2_isAtMostRow_17 rfl (lv_at hl 2 rfl) ?_
      obtain ⟨hc9, h⟩ := gd h
      refine c_ld21 E I (f := (c_row st)) rfl hc9 dX2_isAtMostRow_18 ?_
      refine lv_icmp_le (tgt := 24) hx hb dX2_isAtMostRow_19 (by decide) (fun hc10 => ?_) (fun hc10 => ?_)
      · have h := ifp hc10 h
        refine lv_iinc (v := (x3 + 1)) (lv' := [(2, .int (x3 + 1)), (0, .ref (a 8)), (1, .int x91)]) hx hb dX2_isAtMostRow_24 hl (k := 2) rfl rfl (by decide) rfl (fun ls hl => ?_)
        refine lv_goto (tgt := 2) hx hb dX2_isAtMostRow_27 (by decide) ?_
        cases h
        exact hk5 _ _ _ I (lv_sub hl [1, 2, 0] rfl)
      · have h := ifn hc10 h
        cases h
        exact hk5 _ _ _ I (lv_sub hl [] rfl)
  · rcases z11 with z13 | z13
    · intro H locs ls I hl
      have h : (some (1 : Int32) : Option Int32) = some o := h
      have I : wk D (cW g a st) A H0 H locs := I
      have hl : lv_has ls 3 [] := hl
      refine lv_iconst (v := (1 : Int32)) hx hb dX2_isAtMostRow_30 (by decide) ?_
      cases h
      exact K _ _ _ _ I dX2_isAtMostRow_31 rfl
    · intro H locs ls I hl
      have h : (some (0 : Int32) : Option Int32) = some o := h
      have I : wk D (cW g a st) A H0 H locs := I
      have hl : lv_has ls 3 [] := hl
      refine lv_iconst (v := (0 : Int32)) hx hb dX2_isAtMostRow_22 (by decide) ?_
      cases h
      exact K _ _ _ _ I dX2_isAtMostRow_23 rfl
set_option maxHeartbeats 4000000 in
set_option maxRecDepth 100000 in
theorem c2_look {l : Launch} {D : va_G} {g : Nat → ClassId} {a : Nat → Nat} {st : CS} {x91 : Int32} {x92 : Int32} {x93 : Int32} {x94 : Int32} {o : CS} (h : f2_look st x91 x92 x93 x94 = some o) : ct l yX2_look cX2_look 6 none (rmk 2 44) D g (cW g a st) (cW g a o) [.ref (a 8), .int x91, .int x92, .int x93, .int x94] none := by
  refine ct_of ⟨rfl, rfl⟩ (by decide) (Nat.le_of_ble_eq_true rfl) ?_
  intro p e s m args below meth c ls Q A H0 H locs E I hl K
  have E : en p m c cX2_look 6 s args RX2 D g := E
  have hx := E.1.1
  have hb := E.1.2.1
  have hl : lv_has ls 6 [(0, .ref (a 8)), (1, .int x91), (2, .int x92), (3, .int x93), (4, .int x94)] := hl
  have K : ∀ (pc : Nat) (ls : Array Slot) (H : Heap) (locs : List Loc), wk D (cW g a o) A H0 H locs → decode cX2_look pc = .ok (.return_, 1) → W p l e (rmk 2 44) s m args below meth c H locs 0 0 Q (F0 m pc ls []) := fun pc ls H locs I hd => K pc ls H locs I hd
  have h : ((bi1 (f2_solves st x91 x92 x93 x94) fun r2 => (if r2 = 0 then some st else (if (((x91 + x92) + x93) + x94) = 0 then some st else (bi1 (f2_setRow st x91 x92 x93 x94) fun st6 => (bi1 (wh (f2_look_b36 st6) FU (0 : Int32)) fun w20 => Sum.elim (fun w21 => (if (30 : Int32) ≤ (c_found st6) then some st6 else (if cg (0 : Int32) ((c_found st6) * (4 : Int32)) (4 : Int32) 4 120 = true then some (c_found_s (c_numbers_s st6 (va_cpy (c_row st6) (c_numbers st6) (0 : Int32).toNatClampNeg ((c_found st6) * (4 : Int32)).toNatClampNeg (4 : Int32).toNatClampNeg)) ((c_found st6) + (1 : Int32))) else none))) (fun w22 => some st6) w20))))) : Option CS) = some o := h
  refine lv_aload_n hx hb dX2_look_0 rfl (lv_at hl 0 rfl) ?_
  refine lv_iload_n hx hb dX2_look_1 rfl (lv_at hl 1 rfl) ?_
  refine lv_iload_n hx hb dX2_look_2 rfl (lv_at hl 2 rfl) ?_
  refine lv_iload_n hx hb dX2_look_3 rfl (lv_at hl 3 rfl) ?_
  refine lv_iload hx hb dX2_look_4 (lv_at hl 4 rfl) ?_
  obtain ⟨r2, hc1, h⟩ := bx1 h
  refine r_callV1 (As := [.int x91, .int x92, .int x93, .int x94]) (rest := []) (ws' := (cW g a st)) (q0 := 8) E I hl.1 k2_45 (c2_solves hc1) cW_k rfl rfl rfl rfl (Nat.le_of_ble_eq_true rfl) ⟨Nat.le_of_ble_eq_true rfl, Nat.le_of_ble_eq_true rfl⟩ ⟨Nat.zero_le _, Nat.zero_le _⟩ dX2_look_6 (fun H locs I => ?_)
  refine lv_if_eq (tgt := 23) hx hb dX2_look_9 (by decide) (fun hc3 => ?_) (fun hc3 => ?_)
  · have h := ifp hc3 h
    cases h
    exact K _ _ _ _ I dX2_look_23
  · have h := ifn hc3 h
    refine lv_iload_n hx hb dX2_look_12 rfl (lv_at hl 1 rfl) ?_
    refine lv_iload_n hx hb dX2_look_13 rfl (lv_at hl 2 rfl) ?_
    refine lv_iadd hx hb dX2_look_14 ?_
    refine lv_iload_n hx hb dX2_look_15 rfl (lv_at hl 3 rfl) ?_
    refine lv_iadd hx hb dX2_look_16 ?_
    refine lv_iload hx hb dX2_look_17 (lv_at hl 4 rfl) ?_
    refine lv_iadd hx hb dX2_look_19 ?_
    refine lv_if_ne (tgt := 24) hx hb dX2_look_20 (by decide) (fun hc4 => ?_) (fun hc4 => ?_)
    · have h := ifn hc4 h
      refine lv_aload_n hx hb dX2_look_24 rfl (lv_at hl 0 rfl) ?_
      refine lv_iload_n hx hb dX2_look_25 rfl (lv_at hl 1 rfl) ?_
      refine lv_iload_n hx hb dX2_look_26 rfl (lv_at hl 2 rfl) ?_
      refine lv_iload_n hx hb dX2_look_27 rfl (lv_at hl 3 rfl) ?_
      refine lv_iload hx hb dX2_look_28 (lv_at hl 4 rfl) ?_
      obtain ⟨st6, hc5, h⟩ := bx1 h
      refine r_callV0 (As := [.int x91, .int x92, .int x93, .int x94]) (rest := []) (ws' := (cW g a st6)) (q0 := 8) E I hl.1 k2_49 (c2_setRow hc5) cW_k rfl rfl rfl rfl (Nat.le_of_ble_eq_true rfl) ⟨Nat.le_of_ble_eq_true rfl, Nat.le_of_ble_eq_true rfl⟩ ⟨Nat.zero_le _, Nat.zero_le _⟩ dX2_look_30 (fun H locs I => ?_)
      refine lv_iconst (v := (0 : Int32)) hx hb dX2_look_33 (by decide) ?_
      refine lv_istore (lv' := [(5, .int (0 : Int32)), (0, .ref (a 8)), (1, .int x91), (2, .int x92), (3, .int x93), (4, .int x94)]) hx hb dX2_look_34 hl (by decide) rfl (fun ls hl => ?_)
      obtain ⟨z15, hw16, h⟩ := bx1 h
      refine wh_W (P := fun (z : Int32) => ∀ (H : Heap) (locs : List Loc) (ls : Array Slot), wk D (cW g a st6) A H0 H locs → lv_has ls 6 [(0, .ref (a 8)), (5, .int z)] → W p l e (rmk 2 44) s m args below meth c H locs 0 0 Q (F0 m 36 ls [])) (X := Sum.elim (fun (z : Unit) => ∀ (H : Heap) (locs : List Loc) (ls : Array Slot), wk D (cW g a st6) A H0 H locs → lv_has ls 6 [(0, .ref (a 8))] → W p l e (rmk 2 44) s m args below meth c H locs 0 0 Q (F0 m 61 ls [])) (fun (z : Unit) => ∀ (H : Heap) (locs : List Loc) (ls : Array Slot), wk D (cW g a st6) A H0 H locs → lv_has ls 6 [] → W p l e (rmk 2 44) s m args below meth c H locs 0 0 Q (F0 m 54 ls []))) ?_ FU _ _ hw16 ?_ _ _ _ I (lv_sub hl [1, 0] rfl)
      · intro x8 o9 h hk10 H locs ls I hl
        have h : ((if (c_found st6) ≤ x8 then some (.inr (.inl ())) else (bi1 (f2_isAtMostRow st6 x8) fun r13 => (if r13 = 0 then some (.inl (x8 + 1)) else some (.inr (.inr ()))))) : Option ((Int32) ⊕ ((Unit) ⊕ (Unit)))) = some o9 := h
        have I : wk D (cW g a st6) A H0 H locs := I
        have hl : lv_has ls 6 [(0, .ref (a 8)), (5, .int x8)] := hl
        refine lv_iload hx hb dX2_look_36 (lv_at hl 1 rfl) ?_
        refine lv_aload_n hx hb dX2_look_38 rfl (lv_at hl 0 rfl) ?_
        refine g2_28 E I (v := (c_found st6)) rfl dX2_look_39 ?_
        refine lv_icmp_ge (tgt := 61) hx hb dX2_look_42 (by decide) (fun hc11 => ?_) (fun hc11 => ?_)
        · have h := ifp hc11 h
          cases h
          exact hk10 _ _ _ I (lv_sub hl [0] rfl)
        · have h := ifn hc11 h
          refine lv_aload_n hx hb dX2_look_45 rfl (lv_at hl 0 rfl) ?_
          refine lv_iload hx hb dX2_look_46 (lv_at hl 1 rfl) ?_
          obtain ⟨r13, hc12, h⟩ := bx1 h
          refine r_callV1 (As := [.int x8]) (rest := []) (ws' := (cW g a st6)) (q0 := 8) E I hl.1 k2_52 (c2_isAtMostRow hc12) cW_k rfl rfl rfl rfl (Nat.le_of_ble_eq_true rfl) ⟨Nat.le_of_ble_eq_true rfl, Nat.le_of_ble_eq_true rfl⟩ ⟨Nat.zero_le _, Nat.zero_le _⟩ dX2_look_48 (fun H locs I => ?_)
          refine lv_if_eq (tgt := 55) hx hb dX2_look_51 (by decide) (fun hc14 => ?_) (fun hc14 => ?_)
          · have h := ifp hc14 h
            refine lv_iinc (v := (x8 + 1)) (lv' := [(5, .int (x8 + 1)), (0, .ref (a 8))]) hx hb dX2_look_55 hl (k := 1) rfl rfl (by decide) rfl (fun ls hl => ?_)
            refine lv_goto (tgt := 36) hx hb dX2_look_58 (by decide) ?_
            cases h
            exact hk10 _ _ _ I (lv_sub hl [1, 0] rfl)
          · have h := ifn hc14 h
            cases h
            exact hk10 _ _ _ I (lv_sub hl [] rfl)
      · rcases z15 with z19 | z19
        · intro H locs ls I hl
          have h : ((if (30 : Int32) ≤ (c_found st6) then some st6 else (if cg (0 : Int32) ((c_found st6) * (4 : Int32)) (4 : Int32) 4 120 = true then some (c_found_s (c_numbers_s st6 (va_cpy (c_row st6) (c_numbers st6) (0 : Int32).toNatClampNeg ((c_found st6) * (4 : Int32)).toNatClampNeg (4 : Int32).toNatClampNeg)) ((c_found st6) + (1 : Int32))) else none)) : Option CS) = some o := h
          have I : wk D (cW g a st6) A H0 H locs := I
          have hl : lv_has ls 6 [(0, .ref (a 8))] := hl
          refine lv_aload_n hx hb dX2_look_61 rfl (lv_at hl 0 rfl) ?_
          refine g2_28 E I (v := (c_found st6)) rfl dX2_look_62 ?_
          refine lv_bipush (v := (30 : Int32)) hx hb dX2_look_65 (by decide) ?_
          refine lv_icmp_ge (tgt := 99) hx hb dX2_look_67 (by decide) (fun hc17 => ?_) (fun hc17 => ?_)
          · have h := ifp hc17 h
            cases h
            exact K _ _ _ _ I dX2_look_99
          · have h := ifn hc17 h
            refine lv_aload_n hx hb dX2_look_70 rfl (lv_at hl 0 rfl) ?_
            refine g2_15 E I dX2_look_71 ?_
            refine lv_iconst (v := (0 : Int32)) hx hb dX2_look_74 (by decide) ?_
            refine lv_aload_n hx hb dX2_look_75 rfl (lv_at hl 0 rfl) ?_
            refine g2_18 E I dX2_look_76 ?_
            refine lv_aload_n hx hb dX2_look_79 rfl (lv_at hl 0 rfl) ?_
            refine g2_28 E I (v := (c_found st6)) rfl dX2_look_80 ?_
            refine lv_iconst (v := (4 : Int32)) hx hb dX2_look_83 (by decide) ?_
            refine lv_imul hx hb dX2_look_84 ?_
            refine lv_iconst (v := (4 : Int32)) hx hb dX2_look_85 (by decide) ?_
            obtain ⟨hc18, h⟩ := gd h
            refine r_copy (ws' := (cW g a (c_numbers_s st6 (va_cpy (c_row st6) (c_numbers st6) (0 : Int32).toNatClampNeg ((c_found st6) * (4 : Int32)).toNatClampNeg (4 : Int32).toNatClampNeg)))) (f := (c_row st6)) (h := (c_numbers st6)) (rest := []) E I 21 22 hl.1 ka2_59 aw_nat aw_stat aw_ini rfl rfl hc18 rfl (Nat.le_of_ble_eq_true rfl) (Nat.le_of_ble_eq_true rfl) dX2_look_86 (fun H locs I => ?_)
            refine lv_aload_n hx hb dX2_look_89 rfl (lv_at hl 0 rfl) ?_
            refine lv_dup hx hb dX2_look_90 rfl ?_
            refine g2_28 E I (v := (c_found st6)) rfl dX2_look_91 ?_
            refine lv_iconst (v := (1 : Int32)) hx hb dX2_look_94 (by decide) ?_
            refine lv_iadd hx hb dX2_look_95 ?_
            refine p2_28 E I dX2_look_96 (fun H locs I => ?_)
            cases h
            exact K _ _ _ _ I dX2_look_99
        · intro H locs ls I hl
          have h : (some st6 : Option CS) = some o := h
          have I : wk D (cW g a st6) A H0 H locs := I
          have hl : lv_has ls 6 [] := hl
          cases h
          exact K _ _ _ _ I dX2_look_54
    · have h := ifp hc4 h
      cases h
      exact K _ _ _ _ I dX2_look_23
set_option maxHeartbeats 4000000 in
set_option maxRecDepth 100000 in
theorem c2_prepare {l : Launch} {D : va_G} {g : Nat → ClassId} {a : Nat → Nat} {st : CS} {o : CS} (h : f2_prepare st = some o) : ct l yX2_prepare cX2_prepare 6 none (rmk 3 69) D g (cW g a st) (cW g a o) [.ref (a 8), .ref (a 1)] none := by
  refine ct_of ⟨rfl, rfl⟩ (by decide) (Nat.le_of_ble_eq_true rfl) ?_
  intro p e s m args below meth c ls Q A H0 H locs E I hl K
  have E : en p m c cX2_prepare 6 s args RX2 D g := E
  have hx := E.1.1
  have hb := E.1.2.1
  have hl : lv_has ls 6 [(0, .ref (a 8)), (1, .ref (a 1))] := hl
  have K : ∀ (pc : Nat) (ls : Array Slot) (H : Heap) (locs : List Loc), wk D (cW g a o) A H0 H locs → decode cX2_prepare pc = .ok (.return_, 1) → W p l e (rmk 3 69) s m args below meth c H locs 0 0 Q (F0 m pc ls []) := fun pc ls H locs I hd => K pc ls H locs I hd
  have h : ((if (c_lprep st) = 0 then (bi1 (wh (f2_prepare_b10) FU (st, (0 : Int32))) fun w57 => (bi1 (wh (f2_prepare_b50) FU ((c_found_s w57 (0 : Int32)), (0 : Int32))) fun w56 => some (c_lprep_s w56 (1 : Int32)))) else some st) : Option CS) = some o := h
  refine lv_aload_n hx hb dX2_prepare_0 rfl (lv_at hl 0 rfl) ?_
  refine g2_24 E I (v := (c_lprep st)) rfl dX2_prepare_1 ?_
  refine lv_if_eq (tgt := 8) hx hb dX2_prepare_4 (by decide) (fun hc1 => ?_) (fun hc1 => ?_)
  · have h := ifp hc1 h
    refine lv_iconst (v := (0 : Int32)) hx hb dX2_prepare_8 (by decide) ?_
    refine lv_istore_n (lv' := [(2, .int (0 : Int32)), (0, .ref (a 8)), (1, .ref (a 1))]) hx hb dX2_prepare_9 rfl hl (by decide) rfl (fun ls hl => ?_)
    obtain ⟨z10, hw11, h⟩ := bx1 h
    refine wh_W (P := fun (z : CS × Int32) => ∀ (H : Heap) (locs : List Loc) (ls : Array Slot), wk D (cW g a z.1) A H0 H locs → lv_has ls 6 [(0, .ref (a 8)), (1, .ref (a 1)), (2, .int z.2)] → W p l e (rmk 3 69) s m args below meth c H locs 0 0 Q (F0 m 10 ls [])) (X := fun (z : CS) => ∀ (H : Heap) (locs : List Loc) (ls : Array Slot), wk D (cW g a z) A H0 H locs → lv_has ls 6 [(0, .ref (a 8))] → W p l e (rmk 3 69) s m args below meth c H locs 0 0 Q (F0 m 43 ls [])) ?_ FU _ _ hw11 ?_ _ _ _ I (lv_sub hl [1, 2, 0] rfl)
    · intro z o4 h hk5 H locs ls I hl
      obtain ⟨st2, x3⟩ := z
      have h : ((if (4 : Int32) ≤ x3 then some (.inr st2) else (if ib ((0 : Int32) + ((4 : Int32) + x3)) 26 = true then (if ib ((8 : Int32) + ((4 : Int32) + x3)) 26 = true then (if ib x3 4 = true then some (.inl ((c_difference_s st2 (upd (c_difference st2) x3.toNatClampNeg (((c_state st2) ((0 : Int32) + ((4 : Int32) + x3)).toNatClampNeg) - ((c_state st2) ((8 : Int32) + ((4 : Int32) + x3)).toNatClampNeg)))), (x3 + 1))) else none) else none) else none)) : Option ((CS × Int32) ⊕ (CS))) = some o4 := h
      have I : wk D (cW g a st2) A H0 H locs := I
      have hl : lv_has ls 6 [(0, .ref (a 8)), (1, .ref (a 1)), (2, .int x3)] := hl
      refine lv_iload_n hx hb dX2_prepare_10 rfl (lv_at hl 2 rfl) ?_
      refine lv_iconst (v := (4 : Int32)) hx hb dX2_prepare_11 (by decide) ?_
      refine lv_icmp_ge (tgt := 43) hx hb dX2_prepare_12 (by decide) (fun hc6 => ?_) (fun hc6 => ?_)
      · have h := ifp hc6 h
        cases h
        exact hk5 _ _ _ I (lv_sub hl [0] rfl)
      · have h := ifn hc6 h
        refine lv_iconst (v := (4 : Int32)) hx hb dX2_prepare_15 (by decide) ?_
        refine lv_iload_n hx hb dX2_prepare_16 rfl (lv_at hl 2 rfl) ?_
        refine lv_iadd hx hb dX2_prepare_17 ?_
        refine lv_istore_n (lv' := [(3, .int ((4 : Int32) + x3)), (0, .ref (a 8)), (1, .ref (a 1)), (2, .int x3)]) hx hb dX2_prepare_18 rfl hl (by decide) rfl (fun ls hl => ?_)
        refine lv_aload_n hx hb dX2_prepare_19 rfl (lv_at hl 1 rfl) ?_
        refine g2_9 E I dX2_prepare_20 ?_
        refine lv_iload_n hx hb dX2_prepare_23 rfl (lv_at hl 3 rfl) ?_
        refine lv_aload_n hx hb dX2_prepare_24 rfl (lv_at hl 2 rfl) ?_
        refine lv_iconst (v := (0 : Int32)) hx hb dX2_prepare_25 (by decide) ?_
        refine lv_iload_n hx hb dX2_prepare_26 rfl (lv_at hl 0 rfl) ?_
        refine lv_iadd hx hb dX2_prepare_27 ?_
        obtain ⟨hc7, h⟩ := gd h
        refine c_ld1 E I (f := (c_state st2)) rfl hc7 dX2_prepare_28 ?_
        refine lv_aload_n hx hb dX2_prepare_29 rfl (lv_at hl 2 rfl) ?_
        refine lv_bipush (v := (8 : Int32)) hx hb dX2_prepare_30 (by decide) ?_
        refine lv_iload_n hx hb dX2_prepare_32 rfl (lv_at hl 0 rfl) ?_
        refine lv_iadd hx hb dX2_prepare_33 ?_
        obtain ⟨hc8, h⟩ := gd h
        refine c_ld1 E I (f := (c_state st2)) rfl hc8 dX2_prepare_34 ?_
        refine lv_isub hx hb dX2_prepare_35 ?_
        obtain ⟨hc9, h⟩ := gd h
        refine c_st20 E I (f := (c_difference st2)) rfl hc9 dX2_prepare_36 (fun H locs I => ?_)
        refine lv_iinc (v := (x3 + 1)) (lv' := [(2, .int (x3 + 1)), (3, .int ((4 : Int32) + x3)), (0, .ref (a 8)), (1, .ref (a 1))]) hx hb dX2_prepare_37 hl (k := 3) rfl rfl (by decide) rfl (fun ls hl => ?_)
        refine lv_goto (tgt := 10) hx hb dX2_prepare_40 (by decide) ?_
        cases h
        exact hk5 _ _ _ I (lv_sub hl [2, 3, 0] rfl)
    · obtain ⟨st12, rfl⟩ : ∃ y, y = z10 := ⟨_, rfl⟩
      intro H locs ls I hl
      have h : ((bi1 (wh (f2_prepare_b50) FU ((c_found_s st12 (0 : Int32)), (0 : Int32))) fun w56 => some (c_lprep_s w56 (1 : Int32))) : Option CS) = some o := h
      have I : wk D (cW g a st12) A H0 H locs := I
      have hl : lv_has ls 6 [(0, .ref (a 8))] := hl
      refine lv_aload_n hx hb dX2_prepare_43 rfl (lv_at hl 0 rfl) ?_
      refine lv_iconst (v := (0 : Int32)) hx hb dX2_prepare_44 (by decide) ?_
      refine p2_28 E I dX2_prepare_45 (fun H locs I => ?_)
      refine lv_iconst (v := (0 : Int32)) hx hb dX2_prepare_48 (by decide) ?_
      refine lv_istore_n (lv' := [(2, .int (0 : Int32)), (0, .ref (a 8))]) hx hb dX2_prepare_49 rfl hl (by decide) rfl (fun ls hl => ?_)
      obtain ⟨z53, hw54, h⟩ := bx1 h
      refine wh_W (P := fun (z : CS × Int32) => ∀ (H : Heap) (locs : List Loc) (ls : Array Slot), wk D (cW g a z.1) A H0 H locs → lv_has ls 6 [(0, .ref (a 8)), (2, .int z.2)] → W p l e (rmk 3 69) s m args below meth c H locs 0 0 Q (F0 m 50 ls [])) (X := fun (z : CS) => ∀ (H : Heap) (locs : List Loc) (ls : Array Slot), wk D (cW g a z) A H0 H locs → lv_has ls 6 [(0, .ref (a 8))] → W p l e (rmk 3 69) s m args below meth c H locs 0 0 Q (F0 m 114 ls [])) ?_ FU _ _ hw54 ?_ _ _ _ I (lv_sub hl [1, 0] rfl)
      · intro z o15 h hk16 H locs ls I hl
        obtain ⟨st13, x14⟩ := z
        have h : ((if (5 : Int32) < x14 then some (.inr st13) else (bi1 (wh (f2_prepare_b57 x14) FU (st13, (0 : Int32))) fun w52 => some (.inl (w52, (x14 + 1))))) : Option ((CS × Int32) ⊕ (CS))) = some o15 := h
        have I : wk D (cW g a st13) A H0 H locs := I
        have hl : lv_has ls 6 [(0, .ref (a 8)), (2, .int x14)] := hl
        refine lv_iload_n hx hb dX2_prepare_50 rfl (lv_at hl 1 rfl) ?_
        refine lv_iconst (v := (5 : Int32)) hx hb dX2_prepare_51 (by decide) ?_
        refine lv_icmp_gt (tgt := 114) hx hb dX2_prepare_52 (by decide) (fun hc17 => ?_) (fun hc17 => ?_)
        · have h := ifp hc17 h
          cases h
          exact hk16 _ _ _ I (lv_sub hl [0] rfl)
        · have h := ifn hc17 h
          refine lv_iconst (v := (0 : Int32)) hx hb dX2_prepare_55 (by decide) ?_
          refine lv_istore_n (lv' := [(3, .int (0 : Int32)), (0, .ref (a 8)), (2, .int x14)]) hx hb dX2_prepare_56 rfl hl (by decide) rfl (fun ls hl => ?_)
          obtain ⟨z49, hw50, h⟩ := bx1 h
          refine wh_W (P := fun (z : CS × Int32) => ∀ (H : Heap) (locs : List Loc) (ls : Array Slot), wk D (cW g a z.1) A H0 H locs → lv_has ls 6 [(0, .ref (a 8)), (2, .int x14), (3, .int z.2)] → W p l e (rmk 3 69) s m args below meth c H locs 0 0 Q (F0 m 57 ls [])) (X := fun (z : CS) => ∀ (H : Heap) (locs : List Loc) (ls : Array Slot), wk D (cW g a z) A H0 H locs → lv_has ls 6 [(0, .ref (a 8)), (2, .int x14)] → W p l e (rmk 3 69) s m args below meth c H locs 0 0 Q (F0 m 108 ls [])) ?_ FU _ _ hw50 ?_ _ _ _ I (lv_sub hl [1, 2, 0] rfl)
          · intro z o21 h hk22 H locs ls I hl
            obtain ⟨st18, x20⟩ := z
            have h : ((if (5 : Int32) < x20 then some (.inr st18) else (bi1 (wh (f2_prepare_b65 x14 x20) FU (st18, (0 : Int32))) fun w48 => some (.inl (w48, (x20 + 1))))) : Option ((CS × Int32) ⊕ (CS))) = some o21 := h
            have I : wk D (cW g a st18) A H0 H locs := I
            have hl : lv_has ls 6 [(0, .ref (a 8)), (2, .int x14), (3, .int x20)] := hl
            refine lv_iload_n hx hb dX2_prepare_57 rfl (lv_at hl 2 rfl) ?_
            refine lv_iconst (v := (5 : Int32)) hx hb dX2_prepare_58 (by decide) ?_
            refine lv_icmp_gt (tgt := 108) hx hb dX2_prepare_59 (by decide) (fun hc23 => ?_) (fun hc23 => ?_)
            · have h := ifp hc23 h
              cases h
              exact hk22 _ _ _ I (lv_sub hl [0, 1] rfl)
            · have h := ifn hc23 h
              refine lv_iconst (v := (0 : Int32)) hx hb dX2_prepare_62 (by decide) ?_
              refine lv_istore (lv' := [(4, .int (0 : Int32)), (0, .ref (a 8)), (2, .int x14), (3, .int x20)]) hx hb dX2_prepare_63 hl (by decide) rfl (fun ls hl => ?_)
              obtain ⟨z45, hw46, h⟩ := bx1 h
              refine wh_W (P := fun (z : CS × Int32) => ∀ (H : Heap) (locs : List Loc) (ls : Array Slot), wk D (cW g a z.1) A H0 H locs → lv_has ls 6 [(0, .ref (a 8)), (2, .int x14), (3, .int x20), (4, .int z.2)] → W p l e (rmk 3 69) s m args below meth c H locs 0 0 Q (F0 m 65 ls [])) (X := fun (z : CS) => ∀ (H : Heap) (locs : List Loc) (ls : Array Slot), wk D (cW g a z) A H0 H locs → lv_has ls 6 [(0, .ref (a 8)), (2, .int x14), (3, .int x20)] → W p l e (rmk 3 69) s m args below meth c H locs 0 0 Q (F0 m 102 ls [])) ?_ FU _ _ hw46 ?_ _ _ _ I (lv_sub hl [1, 2, 3, 0] rfl)
              · intro z o28 h hk29 H locs ls I hl
                obtain ⟨st24, x27⟩ := z
                have h : ((if (5 : Int32) < x27 then some (.inr st24) else (bi1 (wh (f2_prepare_b74 x14 x20 x27) FU (st24, (0 : Int32))) fun w44 => some (.inl (w44, (x27 + 1))))) : Option ((CS × Int32) ⊕ (CS))) = some o28 := h
                have I : wk D (cW g a st24) A H0 H locs := I
                have hl : lv_has ls 6 [(0, .ref (a 8)), (2, .int x14), (3, .int x20), (4, .int x27)] := hl
                refine lv_iload hx hb dX2_prepare_65 (lv_at hl 3 rfl) ?_
                refine lv_iconst (v := (5 : Int32)) hx hb dX2_prepare_67 (by decide) ?_
                refine lv_icmp_gt (tgt := 102) hx hb dX2_prepare_68 (by decide) (fun hc30 => ?_) (fun hc30 => ?_)
                · have h := ifp hc30 h
                  cases h
                  exact hk29 _ _ _ I (lv_sub hl [0, 1, 2] rfl)
                · have h := ifn hc30 h
                  refine lv_iconst (v := (0 : Int32)) hx hb dX2_prepare_71 (by decide) ?_
                  refine lv_istore (lv' := [(5, .int (0 : Int32)), (0, .ref (a 8)), (2, .int x14), (3, .int x20), (4, .int x27)]) hx hb dX2_prepare_72 hl (by decide) rfl (fun ls hl => ?_)
                  obtain ⟨z41, hw42, h⟩ := bx1 h
                  refine wh_W (P := fun (z : CS × Int32) => ∀ (H : Heap) (locs : List Loc) (ls : Array Slot), wk D (cW g a z.1) A H0 H locs → lv_has ls 6 [(0, .ref (a 8)), (2, .int x14), (3, .int x20), (4, .int x27), (5, .int z.2)] → W p l e (rmk 3 69) s m args below meth c H locs 0 0 Q (F0 m 74 ls [])) (X := fun (z : CS) => ∀ (H : Heap) (locs : List Loc) (ls : Array Slot), wk D (cW g a z) A H0 H locs → lv_has ls 6 [(0, .ref (a 8)), (2, .int x14), (3, .int x20), (4, .int x27)] → W p l e (rmk 3 69) s m args below meth c H locs 0 0 Q (F0 m 96 ls [])) ?_ FU _ _ hw42 ?_ _ _ _ I (lv_sub hl [1, 2, 3, 4, 0] rfl)
                  · intro z o36 h hk37 H locs ls I hl
                    obtain ⟨st31, x35⟩ := z
                    have h : ((if (5 : Int32) < x35 then some (.inr st31) else (bi1 (f2_look st31 x14 x20 x27 x35) fun st40 => some (.inl (st40, (x35 + 1))))) : Option ((CS × Int32) ⊕ (CS))) = some o36 := h
                    have I : wk D (cW g a st31) A H0 H locs := I
                    have hl : lv_has ls 6 [(0, .ref (a 8)), (2, .int x14), (3, .int x20), (4, .int x27), (5, .int x35)] := hl
                    refine lv_iload hx hb dX2_prepare_74 (lv_at hl 4 rfl) ?_
                    refine lv_iconst (v := (5 : Int32)) hx hb dX2_prepare_76 (by decide) ?_
                    refine lv_icmp_gt (tgt := 96) hx hb dX2_prepare_77 (by decide) (fun hc38 => ?_) (fun hc38 => ?_)
                    · have h := ifp hc38 h
                      cases h
                      exact hk37 _ _ _ I (lv_sub hl [0, 1, 2, 3] rfl)
                    · have h := ifn hc38 h
                      refine lv_aload_n hx hb dX2_prepare_80 rfl (lv_at hl 0 rfl) ?_
                      refine lv_iload_n hx hb dX2_prepare_81 rfl (lv_at hl 1 rfl) ?_
                      refine lv_iload_n hx hb dX2_prepare_82 rfl (lv_at hl 2 rfl) ?_
                      refine lv_iload hx hb dX2_prepare_83 (lv_at hl 3 rfl) ?_
                      refine lv_iload hx hb dX2_prepare_85 (lv_at hl 4 rfl) ?_
                      obtain ⟨st40, hc39, h⟩ := bx1 h
                      refine r_callV0 (As := [.int x14, .int x20, .int x27, .int x35]) (rest := []) (ws' := (cW g a st40)) (q0 := 8) E I hl.1 k2_32 (c2_look hc39) cW_k rfl rfl rfl rfl (Nat.le_of_ble_eq_true rfl) ⟨Nat.le_of_ble_eq_true rfl, Nat.le_of_ble_eq_true rfl⟩ ⟨Nat.zero_le _, Nat.zero_le _⟩ dX2_prepare_87 (fun H locs I => ?_)
                      refine lv_iinc (v := (x35 + 1)) (lv' := [(5, .int (x35 + 1)), (0, .ref (a 8)), (2, .int x14), (3, .int x20), (4, .int x27)]) hx hb dX2_prepare_90 hl (k := 4) rfl rfl (by decide) rfl (fun ls hl => ?_)
                      refine lv_goto (tgt := 74) hx hb dX2_prepare_93 (by decide) ?_
                      cases h
                      exact hk37 _ _ _ I (lv_sub hl [1, 2, 3, 4, 0] rfl)
                  · obtain ⟨st43, rfl⟩ : ∃ y, y = z41 := ⟨_, rfl⟩
                    intro H locs ls I hl
                    have h : (some (.inl (st43, (x27 + 1))) : Option ((CS × Int32) ⊕ (CS))) = some o28 := h
                    have I : wk D (cW g a st43) A H0 H locs := I
                    have hl : lv_has ls 6 [(0, .ref (a 8)), (2, .int x14), (3, .int x20), (4, .int x27)] := hl
                    refine lv_iinc (v := (x27 + 1)) (lv' := [(4, .int (x27 + 1)), (0, .ref (a 8)), (2, .int x14), (3, .int x20)]) hx hb dX2_prepare_96 hl (k := 3) rfl rfl (by decide) rfl (fun ls hl => ?_)
                    refine lv_goto (tgt := 65) hx hb dX2_prepare_99 (by decide) ?_
                    cases h
                    exact hk29 _ _ _ I (lv_sub hl [1, 2, 3, 0] rfl)
              · obtain ⟨st47, rfl⟩ : ∃ y, y = z45 := ⟨_, rfl⟩
                intro H locs ls I hl
                have h : (some (.inl (st47, (x20 + 1))) : Option ((CS × Int32) ⊕ (CS))) = some o21 := h
                have I : wk D (cW g a st47) A H0 H locs := I
                have hl : lv_has ls 6 [(0, .ref (a 8)), (2, .int x14), (3, .int x20)] := hl
                refine lv_iinc (v := (x20 + 1)) (lv' := [(3, .int (x20 + 1)), (0, .ref (a 8)), (2, .int x14)]) hx hb dX2_prepare_102 hl (k := 2) rfl rfl (by decide) rfl (fun ls hl => ?_)
                refine lv_goto (tgt := 57) hx hb dX2_prepare_105 (by decide) ?_
                cases h
                exact hk22 _ _ _ I (lv_sub hl [1, 2, 0] rfl)
          · obtain ⟨st51, rfl⟩ : ∃ y, y = z49 := ⟨_, rfl⟩
            intro H locs ls I hl
            have h : (some (.inl (st51, (x14 + 1))) : Option ((CS × Int32) ⊕ (CS))) = some o15 := h
            have I : wk D (cW g a st51) A H0 H locs := I
            have hl : lv_has ls 6 [(0, .ref (a 8)), (2, .int x14)] := hl
            refine lv_iinc (v := (x14 + 1)) (lv' := [(2, .int (x14 + 1)), (0, .ref (a 8))]) hx hb dX2_prepare_108 hl (k := 1) rfl rfl (by decide) rfl (fun ls hl => ?_)
            refine lv_goto (tgt := 50) hx hb dX2_prepare_111 (by decide) ?_
            cases h
            exact hk16 _ _ _ I (lv_sub hl [1, 0] rfl)
      · obtain ⟨st55, rfl⟩ : ∃ y, y = z53 := ⟨_, rfl⟩
        intro H locs ls I hl
        have h : (some (c_lprep_s st55 (1 : Int32)) : Option CS) = some o := h
        have I : wk D (cW g a st55) A H0 H locs := I
        have hl : lv_has ls 6 [(0, .ref (a 8))] := hl
        refine lv_aload_n hx hb dX2_prepare_114 rfl (lv_at hl 0 rfl) ?_
        refine lv_iconst (v := (1 : Int32)) hx hb dX2_prepare_115 (by decide) ?_
        refine p2_24 E I rfl dX2_prepare_116 (fun H locs I => ?_)
        cases h
        exact K _ _ _ _ I dX2_prepare_119
  · have h := ifn hc1 h
    cases h
    exact K _ _ _ _ I dX2_prepare_7
set_option maxHeartbeats 4000000 in
set_option maxRecDepth 100000 in
theorem c4_least {l : Launch} {D : va_G} {g : Nat → ClassId} {a : Nat → Nat} {st : CS} {x91 : Int32} {x92 : Int32} {st' : CS} {r' : Int32} (h : f4_least st x91 x92 = some (st', .inr r')) : ct l yX4_least cX4_least 3 (some .int) (rmk 4 94) D g (cW g a st) (cW g a st') [.ref (a 0), .int x91, .int x92] (some (.int r')) := by
  refine ct_of ⟨rfl, rfl⟩ (by decide) (Nat.le_of_ble_eq_true rfl) ?_
  intro p e s m args below meth c ls Q A H0 H locs E I hl K
  have E : en p m c cX4_least 3 s args RX4 D g := E
  have hx := E.1.1
  have hb := E.1.2.1
  have hl : lv_has ls 3 [(0, .ref (a 0)), (1, .int x91), (2, .int x92)] := hl
  have K : ∀ (pc : Nat) (ls : Array Slot) (H : Heap) (locs : List Loc), wk D (cW g a st') A H0 H locs → decode cX4_least pc = .ok (.ireturn, 1) → W p l e (rmk 4 94) s m args below meth c H locs 0 0 Q (F0 m pc ls [.int r']) := fun pc ls H locs I hd => K pc ls H locs I hd
  have h : ((bt0 st (f4_needIndex x92 (4 : Int32)) fun (u2 : Unit) => (if 0 ≤ x91 then (bi1 (f2_prepare st) fun st5 => (bi1 (f2_number st5 x91 x92) fun r7 => some (st5, .inr r7))) else some (st, .inl 1))) : Option (CS × (Nat ⊕ Int32))) = some (st', .inr r') := h
  refine lv_iload_n hx hb dX4_least_0 rfl (lv_at hl 2 rfl) ?_
  refine lv_iconst (v := (4 : Int32)) hx hb dX4_least_1 (by decide) ?_
  obtain ⟨u2, hc1, h⟩ := bt0n h
  refine r_callS0 (As := [.int x92, .int (4 : Int32)]) (rest := []) E I hl.1 k4_53 (c4_needIndex hc1) rfl rfl (Nat.le_of_ble_eq_true rfl) ⟨Nat.le_of_ble_eq_true rfl, Nat.le_of_ble_eq_true rfl⟩ ⟨Nat.zero_le _, Nat.zero_le _⟩ dX4_least_2 (fun H locs I => ?_)
  refine lv_iload_n hx hb dX4_least_5 rfl (lv_at hl 1 rfl) ?_
  refine lv_if_ge (tgt := 19) hx hb dX4_least_6 (by decide) (fun hc3 => ?_) (fun hc3 => ?_)
  · have h := ifp hc3 h
    refine lv_aload_n hx hb dX4_least_19 rfl (lv_at hl 0 rfl) ?_
    refine g4_49 E I dX4_least_20 ?_
    refine lv_aload_n hx hb dX4_least_23 rfl (lv_at hl 0 rfl) ?_
    refine g4_9 E I dX4_least_24 ?_
    obtain ⟨st5, hc4, h⟩ := bx1 h
    refine r_callV0 (As := [.ref (a 1)]) (rest := []) (ws' := (cW g a st5)) (q0 := 8) E I hl.1 k4_166 (c2_prepare hc4) cW_k rfl rfl rfl rfl (Nat.le_of_ble_eq_true rfl) ⟨Nat.le_of_ble_eq_true rfl, Nat.le_of_ble_eq_true rfl⟩ ⟨Nat.zero_le _, Nat.zero_le _⟩ dX4_least_27 (fun H locs I => ?_)
    refine lv_aload_n hx hb dX4_least_30 rfl (lv_at hl 0 rfl) ?_
    refine g4_49 E I dX4_least_31 ?_
    refine lv_iload_n hx hb dX4_least_34 rfl (lv_at hl 1 rfl) ?_
    refine lv_iload_n hx hb dX4_least_35 rfl (lv_at hl 2 rfl) ?_
    obtain ⟨r7, hc6, h⟩ := bx1 h
    refine r_callV1 (As := [.int x91, .int x92]) (rest := []) (ws' := (cW g a st5)) (q0 := 8) E I hl.1 k4_167 (c2_number hc6) cW_k rfl rfl rfl rfl (Nat.le_of_ble_eq_true rfl) ⟨Nat.le_of_ble_eq_true rfl, Nat.le_of_ble_eq_true rfl⟩ ⟨Nat.zero_le _, Nat.zero_le _⟩ dX4_least_36 (fun H locs I => ?_)
    cases h
    exact K _ _ _ _ I dX4_least_39
  · have h := ifn hc3 h
    cases h
set_option maxHeartbeats 4000000 in
set_option maxRecDepth 100000 in
theorem c4_hasVariable {l : Launch} {D : va_G} {g : Nat → ClassId} {a : Nat → Nat} {st : CS} {x91 : Int32} {x92 : Int32} {o : Int32} (h : f4_hasVariable st x91 x92 = some o) : ct l yX4_hasVariable cX4_hasVariable 3 (some .boolean) (rmk 0 0) D g (cW g a st) (cW g a st) [.ref (a 0), .int x91, .int x92] (some (.int o)) := by
  refine ct_of ⟨rfl, rfl⟩ (by decide) (Nat.le_of_ble_eq_true rfl) ?_
  intro p e s m args below meth c ls Q A H0 H locs E I hl K
  have E : en p m c cX4_hasVariable 3 s args RX4 D g := E
  have hx := E.1.1
  have hb := E.1.2.1
  have hl : lv_has ls 3 [(0, .ref (a 0)), (1, .int x91), (2, .int x92)] := hl
  have K : ∀ (pc : Nat) (ls : Array Slot) (H : Heap) (locs : List Loc), wk D (cW g a st) A H0 H locs → decode cX4_hasVariable pc = .ok (.ireturn, 1) → zok o = true → W p l e (rmk 0 0) s m args below meth c H locs 0 0 Q (F0 m pc ls [.int o]) := fun pc ls H locs I hd hz => K pc ls H locs I ⟨hd, hz⟩
  have h : ((if ib (((x91 * (8 : Int32)) + (4 : Int32)) + x92) 26 = true then (if ((c_state st) (((x91 * (8 : Int32)) + (4 : Int32)) + x92).toNatClampNeg) ≤ 0 then some (0 : Int32) else some (1 : Int32)) else none) : Option Int32) = some o := h
  refine lv_aload_n hx hb dX4_hasVariable_0 rfl (lv_at hl 0 rfl) ?_
  refine g4_9 E I dX4_hasVariable_1 ?_
  refine lv_iload_n hx hb dX4_hasVariable_4 rfl (lv_at hl 1 rfl) ?_
  refine lv_bipush (v := (8 : Int32)) hx hb dX4_hasVariable_5 (by decide) ?_
  refine lv_imul hx hb dX4_hasVariable_7 ?_
  refine lv_iconst (v := (4 : Int32)) hx hb dX4_hasVariable_8 (by decide) ?_
  refine lv_iadd hx hb dX4_hasVariable_9 ?_
  refine lv_iload_n hx hb dX4_hasVariable_10 rfl (lv_at hl 2 rfl) ?_
  refine lv_iadd hx hb dX4_hasVariable_11 ?_
  obtain ⟨hc1, h⟩ := gd h
  refine c_ld1 E I (f := (c_state st)) rfl hc1 dX4_hasVariable_12 ?_
  refine lv_if_le (tgt := 20) hx hb dX4_hasVariable_13 (by decide) (fun hc2 => ?_) (fun hc2 => ?_)
  · have h := ifp hc2 h
    refine lv_iconst (v := (0 : Int32)) hx hb dX4_hasVariable_20 (by decide) ?_
    cases h
    exact K _ _ _ _ I dX4_hasVariable_21 rfl
  · have h := ifn hc2 h
    refine lv_iconst (v := (1 : Int32)) hx hb dX4_hasVariable_16 (by decide) ?_
    refine lv_goto (tgt := 21) hx hb dX4_hasVariable_17 (by decide) ?_
    cases h
    exact K _ _ _ _ I dX4_hasVariable_21 rfl
set_option maxHeartbeats 4000000 in
set_option maxRecDepth 100000 in
theorem c4_unlikeVariables {l : Launch} {D : va_G} {g : Nat → ClassId} {a : Nat → Nat} {st : CS} {o : Int32} (h : f4_unlikeVariables st = some o) : ct l yX4_unlikeVariables cX4_unlikeVariables 3 (some .int) (rmk 1 22) D g (cW g a st) (cW g a st) [.ref (a 0)] (some (.int o)) := by
  refine ct_of ⟨rfl, rfl⟩ (by decide) (Nat.le_of_ble_eq_true rfl) ?_
  intro p e s m args below meth c ls Q A H0 H locs E I hl K
  have E : en p m c cX4_unlikeVariables 3 s args RX4 D g := E
  have hx := E.1.1
  have hb := E.1.2.1
  have hl : lv_has ls 3 [(0, .ref (a 0))] := hl
  have K : ∀ (pc : Nat) (ls : Array Slot) (H : Heap) (locs : List Loc), wk D (cW g a st) A H0 H locs → decode cX4_unlikeVariables pc = .ok (.ireturn, 1) → W p l e (rmk 1 22) s m args below meth c H locs 0 0 Q (F0 m pc ls [.int o]) := fun pc ls H locs I hd => K pc ls H locs I hd
  have h : ((bi1 (wh (f4_unlikeVariables_b4 st) FU ((0 : Int32), (0 : Int32))) fun w16 => some w16) : Option Int32) = some o := h
  refine lv_iconst (v := (0 : Int32)) hx hb dX4_unlikeVariables_0 (by decide) ?_
  refine lv_istore_n (lv' := [(1, .int (0 : Int32)), (0, .ref (a 0))]) hx hb dX4_unlikeVariables_1 rfl hl (by decide) rfl (fun ls hl => ?_)
  refine lv_iconst (v := (0 : Int32)) hx hb dX4_unlikeVariables_2 (by decide) ?_
  refine lv_istore_n (lv' := [(2, .int (0 : Int32)), (1, .int (0 : Int32)), (0, .ref (a 0))]) hx hb dX4_unlikeVariables_3 rfl hl (by decide) rfl (fun ls hl => ?_)
  obtain ⟨z13, hw14, h⟩ := bx1 h
  refine wh_W (P := fun (z : Int32 × Int32) => ∀ (H : Heap) (locs : List Loc) (ls : Array Slot), wk D (cW g a st) A H0 H locs → lv_has ls 3 [(0, .ref (a 0)), (1, .int z.1), (2, .int z.2)] → W p l e (rmk 1 22) s m args below meth c H locs 0 0 Q (F0 m 4 ls [])) (X := fun (z : Int32) => ∀ (H : Heap) (locs : List Loc) (ls : Array Slot), wk D (cW g a st) A H0 H locs → lv_has ls 3 [(1, .int z)] → W p l e (rmk 1 22) s m args below meth c H locs 0 0 Q (F0 m 32 ls [])) ?_ FU _ _ hw14 ?_ _ _ _ I (lv_sub hl [2, 1, 0] rfl)
  · intro z o4 h hk5 H locs ls I hl
    obtain ⟨x2, x3⟩ := z
    have h : ((if (4 : Int32) ≤ x3 then some (.inr x2) else (bi1 (f4_hasVariable st (0 : Int32) x3) fun r8 => some (.inl ((x2 + (if r8 = 0 then (0 : Int32) else (1 : Int32))), (x3 + 1))))) : Option ((Int32 × Int32) ⊕ (Int32))) = some o4 := h
    have I : wk D (cW g a st) A H0 H locs := I
    have hl : lv_has ls 3 [(0, .ref (a 0)), (1, .int x2), (2, .int x3)] := hl
    refine lv_iload_n hx hb dX4_unlikeVariables_4 rfl (lv_at hl 2 rfl) ?_
    refine lv_iconst (v := (4 : Int32)) hx hb dX4_unlikeVariables_5 (by decide) ?_
    refine lv_icmp_ge (tgt := 32) hx hb dX4_unlikeVariables_6 (by decide) (fun hc6 => ?_) (fun hc6 => ?_)
    · have h := ifp hc6 h
      cases h
      exact hk5 _ _ _ I (lv_sub hl [1] rfl)
    · have h := ifn hc6 h
      refine lv_iload_n hx hb dX4_unlikeVariables_9 rfl (lv_at hl 1 rfl) ?_
      refine lv_aload_n hx hb dX4_unlikeVariables_10 rfl (lv_at hl 0 rfl) ?_
      refine lv_iconst (v := (0 : Int32)) hx hb dX4_unlikeVariables_11 (by decide) ?_
      refine lv_iload_n hx hb dX4_unlikeVariables_12 rfl (lv_at hl 2 rfl) ?_
      obtain ⟨r8, hc7, h⟩ := bx1 h
      refine r_callV1 (As := [.int (0 : Int32), .int x3]) (rest := [.int x2]) (ws' := (cW g a st)) (q0 := 0) E I hl.1 k4_197 (c4_hasVariable hc7) cW_k rfl rfl rfl rfl (Nat.le_of_ble_eq_true rfl) ⟨Nat.le_of_ble_eq_true rfl, Nat.le_of_ble_eq_true rfl⟩ ⟨Nat.zero_le _, Nat.zero_le _⟩ dX4_unlikeVariables_13 (fun H locs I => ?_)
      have J10 : ∀ (v9 : Int32) (H : Heap) (locs : List Loc), v9 = (if r8 = 0 then (0 : Int32) else (1 : Int32)) → wk D (cW g a st) A H0 H locs → W p l e (rmk 1 22) s m args below meth c H locs 0 0 Q (F0 m 24 ls [.int v9, .int x2]) := by
        intro v9 H locs hv11 I
        subst hv11
        refine lv_iadd hx hb dX4_unlikeVariables_24 ?_
        refine lv_istore_n (lv' := [(1, .int (x2 + (if r8 = 0 then (0 : Int32) else (1 : Int32)))), (0, .ref (a 0)), (2, .int x3)]) hx hb dX4_unlikeVariables_25 rfl hl (by decide) rfl (fun ls hl => ?_)
        refine lv_iinc (v := (x3 + 1)) (lv' := [(2, .int (x3 + 1)), (1, .int (x2 + (if r8 = 0 then (0 : Int32) else (1 : Int32)))), (0, .ref (a 0))]) hx hb dX4_unlikeVariables_26 hl (k := 2) rfl rfl (by decide) rfl (fun ls hl => ?_)
        refine lv_goto (tgt := 4) hx hb dX4_unlikeVariables_29 (by decide) ?_
        cases h
        exact hk5 _ _ _ I (lv_sub hl [2, 1, 0] rfl)
      refine lv_if_eq (tgt := 23) hx hb dX4_unlikeVariables_16 (by decide) (fun hc12 => ?_) (fun hc12 => ?_)
      · refine lv_iconst (v := (0 : Int32)) hx hb dX4_unlikeVariables_23 (by decide) ?_
        exact J10 _ _ _ (by rw [if_pos hc12]) I
      · refine lv_iconst (v := (1 : Int32)) hx hb dX4_unlikeVariables_19 (by decide) ?_
        refine lv_goto (tgt := 24) hx hb dX4_unlikeVariables_20 (by decide) ?_
        exact J10 _ _ _ (by rw [if_neg hc12]) I
  · obtain ⟨x15, rfl⟩ : ∃ y, y = z13 := ⟨_, rfl⟩
    intro H locs ls I hl
    have h : (some x15 : Option Int32) = some o := h
    have I : wk D (cW g a st) A H0 H locs := I
    have hl : lv_has ls 3 [(1, .int x15)] := hl
    refine lv_iload_n hx hb dX4_unlikeVariables_32 rfl (lv_at hl 0 rfl) ?_
    cases h
    exact K _ _ _ _ I dX4_unlikeVariables_33
set_option maxHeartbeats 4000000 in
set_option maxRecDepth 100000 in
theorem c2_size {l : Launch} {D : va_G} {g : Nat → ClassId} {a : Nat → Nat} {st : CS} {o : Int32} (h : f2_size st = o) : ct l yX2_size cX2_size 1 (some .int) (rmk 0 0) D g (cW g a st) (cW g a st) [.ref (a 8)] (some (.int o)) := by
  refine ct_of ⟨rfl, rfl⟩ (by decide) (Nat.le_of_ble_eq_true rfl) ?_
  intro p e s m args below meth c ls Q A H0 H locs E I hl K
  have E : en p m c cX2_size 1 s args RX2 D g := E
  have hx := E.1.1
  have hb := E.1.2.1
  have hl : lv_has ls 1 [(0, .ref (a 8))] := hl
  have K : ∀ (pc : Nat) (ls : Array Slot) (H : Heap) (locs : List Loc), wk D (cW g a st) A H0 H locs → decode cX2_size pc = .ok (.ireturn, 1) → W p l e (rmk 0 0) s m args below meth c H locs 0 0 Q (F0 m pc ls [.int o]) := fun pc ls H locs I hd => K pc ls H locs I hd
  have h : ((c_found st) : Int32) = o := h
  refine lv_aload_n hx hb dX2_size_0 rfl (lv_at hl 0 rfl) ?_
  refine g2_28 E I (v := (c_found st)) rfl dX2_size_1 ?_
  cases h
  exact K _ _ _ _ I dX2_size_4
set_option maxHeartbeats 4000000 in
set_option maxRecDepth 100000 in
theorem c2_greatestSum {l : Launch} {D : va_G} {g : Nat → ClassId} {a : Nat → Nat} {st : CS} {o : Int32} (h : f2_greatestSum st = some o) : ct l yX2_greatestSum cX2_greatestSum 4 (some .int) (rmk 1 22) D g (cW g a st) (cW g a st) [.ref (a 8)] (some (.int o)) := by
  refine ct_of ⟨rfl, rfl⟩ (by decide) (Nat.le_of_ble_eq_true rfl) ?_
  intro p e s m args below meth c ls Q A H0 H locs E I hl K
  have E : en p m c cX2_greatestSum 4 s args RX2 D g := E
  have hx := E.1.1
  have hb := E.1.2.1
  have hl : lv_has ls 4 [(0, .ref (a 8))] := hl
  have K : ∀ (pc : Nat) (ls : Array Slot) (H : Heap) (locs : List Loc), wk D (cW g a st) A H0 H locs → decode cX2_greatestSum pc = .ok (.ireturn, 1) → W p l e (rmk 1 22) s m args below meth c H locs 0 0 Q (F0 m pc ls [.int o]) := fun pc ls H locs I hd => K pc ls H locs I hd
  have h : ((bi1 (wh (f2_greatestSum_b4 st) FU ((0 : Int32), (0 : Int32))) fun w20 => some w20) : Option Int32) = some o := h
  refine lv_iconst (v := (0 : Int32)) hx hb dX2_greatestSum_0 (by decide) ?_
  refine lv_istore_n (lv' := [(1, .int (0 : Int32)), (0, .ref (a 8))]) hx hb dX2_greatestSum_1 rfl hl (by decide) rfl (fun ls hl => ?_)
  refine lv_iconst (v := (0 : Int32)) hx hb dX2_greatestSum_2 (by decide) ?_
  refine lv_istore_n (lv' := [(2, .int (0 : Int32)), (1, .int (0 : Int32)), (0, .ref (a 8))]) hx hb dX2_greatestSum_3 rfl hl (by decide) rfl (fun ls hl => ?_)
  obtain ⟨z17, hw18, h⟩ := bx1 h
  refine wh_W (P := fun (z : Int32 × Int32) => ∀ (H : Heap) (locs : List Loc) (ls : Array Slot), wk D (cW g a st) A H0 H locs → lv_has ls 4 [(0, .ref (a 8)), (1, .int z.1), (2, .int z.2)] → W p l e (rmk 1 22) s m args below meth c H locs 0 0 Q (F0 m 4 ls [])) (X := fun (z : Int32) => ∀ (H : Heap) (locs : List Loc) (ls : Array Slot), wk D (cW g a st) A H0 H locs → lv_has ls 4 [(1, .int z)] → W p l e (rmk 1 22) s m args below meth c H locs 0 0 Q (F0 m 52 ls [])) ?_ FU _ _ hw18 ?_ _ _ _ I (lv_sub hl [2, 1, 0] rfl)
  · intro z o4 h hk5 H locs ls I hl
    obtain ⟨x2, x3⟩ := z
    have h : ((if (c_found st) ≤ x3 then some (.inr x2) else (bi1 (f2_number st x3 (0 : Int32)) fun r8 => (bi1 (f2_number st x3 (1 : Int32)) fun r10 => (bi1 (f2_number st x3 (2 : Int32)) fun r12 => (bi1 (f2_number st x3 (3 : Int32)) fun r14 => (lq (if x2 < (((r8 + r10) + r12) + r14) then (((r8 + r10) + r12) + r14) else x2) fun x15 => some (.inl (x15, (x3 + 1))))))))) : Option ((Int32 × Int32) ⊕ (Int32))) = some o4 := h
    have I : wk D (cW g a st) A H0 H locs := I
    have hl : lv_has ls 4 [(0, .ref (a 8)), (1, .int x2), (2, .int x3)] := hl
    refine lv_iload_n hx hb dX2_greatestSum_4 rfl (lv_at hl 2 rfl) ?_
    refine lv_aload_n hx hb dX2_greatestSum_5 rfl (lv_at hl 0 rfl) ?_
    refine g2_28 E I (v := (c_found st)) rfl dX2_greatestSum_6 ?_
    refine lv_icmp_ge (tgt := 52) hx hb dX2_greatestSum_9 (by decide) (fun hc6 => ?_) (fun hc6 => ?_)
    · have h := ifp hc6 h
      cases h
      exact hk5 _ _ _ I (lv_sub hl [1] rfl)
    · have h := ifn hc6 h
      refine lv_aload_n hx hb dX2_greatestSum_12 rfl (lv_at hl 0 rfl) ?_
      refine lv_iload_n hx hb dX2_greatestSum_13 rfl (lv_at hl 2 rfl) ?_
      refine lv_iconst (v := (0 : Int32)) hx hb dX2_greatestSum_14 (by decide) ?_
      obtain ⟨r8, hc7, h⟩ := bx1 h
      refine r_callV1 (As := [.int x3, .int (0 : Int32)]) (rest := []) (ws' := (cW g a st)) (q0 := 8) E I hl.1 k2_36 (c2_number hc7) cW_k rfl rfl rfl rfl (Nat.le_of_ble_eq_true rfl) ⟨Nat.le_of_ble_eq_true rfl, Nat.le_of_ble_eq_true rfl⟩ ⟨Nat.zero_le _, Nat.zero_le _⟩ dX2_greatestSum_15 (fun H locs I => ?_)
      refine lv_aload_n hx hb dX2_greatestSum_18 rfl (lv_at hl 0 rfl) ?_
      refine lv_iload_n hx hb dX2_greatestSum_19 rfl (lv_at hl 2 rfl) ?_
      refine lv_iconst (v := (1 : Int32)) hx hb dX2_greatestSum_20 (by decide) ?_
      obtain ⟨r10, hc9, h⟩ := bx1 h
      refine r_callV1 (As := [.int x3, .int (1 : Int32)]) (rest := [.int r8]) (ws' := (cW g a st)) (q0 := 8) E I hl.1 k2_36 (c2_number hc9) cW_k rfl rfl rfl rfl (Nat.le_of_ble_eq_true rfl) ⟨Nat.le_of_ble_eq_true rfl, Nat.le_of_ble_eq_true rfl⟩ ⟨Nat.zero_le _, Nat.zero_le _⟩ dX2_greatestSum_21 (fun H locs I => ?_)
      refine lv_iadd hx hb dX2_greatestSum_24 ?_
      refine lv_aload_n hx hb dX2_greatestSum_25 rfl (lv_at hl 0 rfl) ?_
      refine lv_iload_n hx hb dX2_greatestSum_26 rfl (lv_at hl 2 rfl) ?_
      refine lv_iconst (v := (2 : Int32)) hx hb dX2_greatestSum_27 (by decide) ?_
      obtain ⟨r12, hc11, h⟩ := bx1 h
      refine r_callV1 (As := [.int x3, .int (2 : Int32)]) (rest := [.int (r8 + r10)]) (ws' := (cW g a st)) (q0 := 8) E I hl.1 k2_36 (c2_number hc11) cW_k rfl rfl rfl rfl (Nat.le_of_ble_eq_true rfl) ⟨Nat.le_of_ble_eq_true rfl, Nat.le_of_ble_eq_true rfl⟩ ⟨Nat.zero_le _, Nat.zero_le _⟩ dX2_greatestSum_28 (fun H locs I => ?_)
      refine lv_iadd hx hb dX2_greatestSum_31 ?_
      refine lv_aload_n hx hb dX2_greatestSum_32 rfl (lv_at hl 0 rfl) ?_
      refine lv_iload_n hx hb dX2_greatestSum_33 rfl (lv_at hl 2 rfl) ?_
      refine lv_iconst (v := (3 : Int32)) hx hb dX2_greatestSum_34 (by decide) ?_
      obtain ⟨r14, hc13, h⟩ := bx1 h
      refine r_callV1 (As := [.int x3, .int (3 : Int32)]) (rest := [.int ((r8 + r10) + r12)]) (ws' := (cW g a st)) (q0 := 8) E I hl.1 k2_36 (c2_number hc13) cW_k rfl rfl rfl rfl (Nat.le_of_ble_eq_true rfl) ⟨Nat.le_of_ble_eq_true rfl, Nat.le_of_ble_eq_true rfl⟩ ⟨Nat.zero_le _, Nat.zero_le _⟩ dX2_greatestSum_35 (fun H locs I => ?_)
      refine lv_iadd hx hb dX2_greatestSum_38 ?_
      refine lv_istore_n (lv' := [(3, .int (((r8 + r10) + r12) + r14)), (0, .ref (a 8)), (1, .int x2), (2, .int x3)]) hx hb dX2_greatestSum_39 rfl hl (by decide) rfl (fun ls hl => ?_)
      refine lv_iload_n hx hb dX2_greatestSum_40 rfl (lv_at hl 2 rfl) ?_
      refine lv_iload_n hx hb dX2_greatestSum_41 rfl (lv_at hl 0 rfl) ?_
      refine r_mmax E hl.1 kx2_40 (Nat.le_of_ble_eq_true rfl) (Nat.le_of_ble_eq_true rfl) dX2_greatestSum_42 ?_
      obtain ⟨x15, hx16, h⟩ := lqx h
      refine lv_istore_n (x := (if x2 < (((r8 + r10) + r12) + r14) then (((r8 + r10) + r12) + r14) else x2)) (lv' := [(1, .int x15), (3, .int (((r8 + r10) + r12) + r14)), (0, .ref (a 8)), (2, .int x3)]) hx hb dX2_greatestSum_45 rfl hl (by decide) (by subst hx16; rfl) (fun ls hl => ?_)
      refine lv_iinc (v := (x3 + 1)) (lv' := [(2, .int (x3 + 1)), (1, .int x15), (3, .int (((r8 + r10) + r12) + r14)), (0, .ref (a 8))]) hx hb dX2_greatestSum_46 hl (k := 3) rfl rfl (by decide) rfl (fun ls hl => ?_)
      refine lv_goto (tgt := 4) hx hb dX2_greatestSum_49 (by decide) ?_
      cases h
      exact hk5 _ _ _ I (lv_sub hl [3, 1, 0] rfl)
  · obtain ⟨x19, rfl⟩ : ∃ y, y = z17 := ⟨_, rfl⟩
    intro H locs ls I hl
    have h : (some x19 : Option Int32) = some o := h
    have I : wk D (cW g a st) A H0 H locs := I
    have hl : lv_has ls 4 [(1, .int x19)] := hl
    refine lv_iload_n hx hb dX2_greatestSum_52 rfl (lv_at hl 0 rfl) ?_
    cases h
    exact K _ _ _ _ I dX2_greatestSum_53
set_option maxHeartbeats 4000000 in
set_option maxRecDepth 100000 in
theorem c4_restsBelowZero {l : Launch} {D : va_G} {g : Nat → ClassId} {a : Nat → Nat} {st : CS} {o : Int32} (h : f4_restsBelowZero st = some o) : ct l yX4_restsBelowZero cX4_restsBelowZero 3 (some .int) (rmk 1 21) D g (cW g a st) (cW g a st) [.ref (a 0)] (some (.int o)) := by
  refine ct_of ⟨rfl, rfl⟩ (by decide) (Nat.le_of_ble_eq_true rfl) ?_
  intro p e s m args below meth c ls Q A H0 H locs E I hl K
  have E : en p m c cX4_restsBelowZero 3 s args RX4 D g := E
  have hx := E.1.1
  have hb := E.1.2.1
  have hl : lv_has ls 3 [(0, .ref (a 0))] := hl
  have K : ∀ (pc : Nat) (ls : Array Slot) (H : Heap) (locs : List Loc), wk D (cW g a st) A H0 H locs → decode cX4_restsBelowZero pc = .ok (.ireturn, 1) → W p l e (rmk 1 21) s m args below meth c H locs 0 0 Q (F0 m pc ls [.int o]) := fun pc ls H locs I hd => K pc ls H locs I hd
  have h : ((bi1 (wh (f4_restsBelowZero_b4 st) FU ((0 : Int32), (0 : Int32))) fun w16 => some w16) : Option Int32) = some o := h
  refine lv_iconst (v := (0 : Int32)) hx hb dX4_restsBelowZero_0 (by decide) ?_
  refine lv_istore_n (lv' := [(1, .int (0 : Int32)), (0, .ref (a 0))]) hx hb dX4_restsBelowZero_1 rfl hl (by decide) rfl (fun ls hl => ?_)
  refine lv_iconst (v := (0 : Int32)) hx hb dX4_restsBelowZero_2 (by decide) ?_
  refine lv_istore_n (lv' := [(2, .int (0 : Int32)), (1, .int (0 : Int32)), (0, .ref (a 0))]) hx hb dX4_restsBelowZero_3 rfl hl (by decide) rfl (fun ls hl => ?_)
  obtain ⟨z13, hw14, h⟩ := bx1 h
  refine wh_W (P := fun (z : Int32 × Int32) => ∀ (H : Heap) (locs : List Loc) (ls : Array Slot), wk D (cW g a st) A H0 H locs → lv_has ls 3 [(0, .ref (a 0)), (1, .int z.1), (2, .int z.2)] → W p l e (rmk 1 21) s m args below meth c H locs 0 0 Q (F0 m 4 ls [])) (X := fun (z : Int32) => ∀ (H : Heap) (locs : List Loc) (ls : Array Slot), wk D (cW g a st) A H0 H locs → lv_has ls 3 [(1, .int z)] → W p l e (rmk 1 21) s m args below meth c H locs 0 0 Q (F0 m 31 ls [])) ?_ FU _ _ hw14 ?_ _ _ _ I (lv_sub hl [2, 1, 0] rfl)
  · intro z o4 h hk5 H locs ls I hl
    obtain ⟨x2, x3⟩ := z
    have h : ((if (4 : Int32) ≤ x3 then some (.inr x2) else (bi1 (f4_restOf st x3) fun r8 => some (.inl ((x2 + (if 0 ≤ r8 then (0 : Int32) else (1 : Int32))), (x3 + 1))))) : Option ((Int32 × Int32) ⊕ (Int32))) = some o4 := h
    have I : wk D (cW g a st) A H0 H locs := I
    have hl : lv_has ls 3 [(0, .ref (a 0)), (1, .int x2), (2, .int x3)] := hl
    refine lv_iload_n hx hb dX4_restsBelowZero_4 rfl (lv_at hl 2 rfl) ?_
    refine lv_iconst (v := (4 : Int32)) hx hb dX4_restsBelowZero_5 (by decide) ?_
    refine lv_icmp_ge (tgt := 31) hx hb dX4_restsBelowZero_6 (by decide) (fun hc6 => ?_) (fun hc6 => ?_)
    · have h := ifp hc6 h
      cases h
      exact hk5 _ _ _ I (lv_sub hl [1] rfl)
    · have h := ifn hc6 h
      refine lv_iload_n hx hb dX4_restsBelowZero_9 rfl (lv_at hl 1 rfl) ?_
      refine lv_aload_n hx hb dX4_restsBelowZero_10 rfl (lv_at hl 0 rfl) ?_
      refine lv_iload_n hx hb dX4_restsBelowZero_11 rfl (lv_at hl 2 rfl) ?_
      obtain ⟨r8, hc7, h⟩ := bx1 h
      refine r_callV1 (As := [.int x3]) (rest := [.int x2]) (ws' := (cW g a st)) (q0 := 0) E I hl.1 k4_145 (c4_restOf hc7) cW_k rfl rfl rfl rfl (Nat.le_of_ble_eq_true rfl) ⟨Nat.le_of_ble_eq_true rfl, Nat.le_of_ble_eq_true rfl⟩ ⟨Nat.zero_le _, Nat.zero_le _⟩ dX4_restsBelowZero_12 (fun H locs I => ?_)
      have J10 : ∀ (v9 : Int32) (H : Heap) (locs : List Loc), v9 = (if 0 ≤ r8 then (0 : Int32) else (1 : Int32)) → wk D (cW g a st) A H0 H locs → W p l e (rmk 1 21) s m args below meth c H locs 0 0 Q (F0 m 23 ls [.int v9, .int x2]) := by
        intro v9 H locs hv11 I
        subst hv11
        refine lv_iadd hx hb dX4_restsBelowZero_23 ?_
        refine lv_istore_n (lv' := [(1, .int (x2 + (if 0 ≤ r8 then (0 : Int32) else (1 : Int32)))), (0, .ref (a 0)), (2, .int x3)]) hx hb dX4_restsBelowZero_24 rfl hl (by decide) rfl (fun ls hl => ?_)
        refine lv_iinc (v := (x3 + 1)) (lv' := [(2, .int (x3 + 1)), (1, .int (x2 + (if 0 ≤ r8 then (0 : Int32) else (1 : Int32)))), (0, .ref (a 0))]) hx hb dX4_restsBelowZero_25 hl (k := 2) rfl rfl (by decide) rfl (fun ls hl => ?_)
        refine lv_goto (tgt := 4) hx hb dX4_restsBelowZero_28 (by decide) ?_
        cases h
        exact hk5 _ _ _ I (lv_sub hl [2, 1, 0] rfl)
      refine lv_if_ge (tgt := 22) hx hb dX4_restsBelowZero_15 (by decide) (fun hc12 => ?_) (fun hc12 => ?_)
      · refine lv_iconst (v := (0 : Int32)) hx hb dX4_restsBelowZero_22 (by decide) ?_
        exact J10 _ _ _ (by rw [if_pos hc12]) I
      · refine lv_iconst (v := (1 : Int32)) hx hb dX4_restsBelowZero_18 (by decide) ?_
        refine lv_goto (tgt := 23) hx hb dX4_restsBelowZero_19 (by decide) ?_
        exact J10 _ _ _ (by rw [if_neg hc12]) I
  · obtain ⟨x15, rfl⟩ : ∃ y, y = z13 := ⟨_, rfl⟩
    intro H locs ls I hl
    have h : (some x15 : Option Int32) = some o := h
    have I : wk D (cW g a st) A H0 H locs := I
    have hl : lv_has ls 3 [(1, .int x15)] := hl
    refine lv_iload_n hx hb dX4_restsBelowZero_31 rfl (lv_at hl 0 rfl) ?_
    cases h
    exact K _ _ _ _ I dX4_restsBelowZero_32
set_option maxHeartbeats 4000000 in
set_option maxRecDepth 100000 in
theorem c4_patternsAreSame {l : Launch} {D : va_G} {g : Nat → ClassId} {a : Nat → Nat} {st : CS} {o : Int32} (h : f4_patternsAreSame st = some o) : ct l yX4_patternsAreSame cX4_patternsAreSame 2 (some .boolean) (rmk 0 0) D g (cW g a st) (cW g a st) [.ref (a 0)] (some (.int o)) := by
  refine ct_of ⟨rfl, rfl⟩ (by decide) (Nat.le_of_ble_eq_true rfl) ?_
  intro p e s m args below meth c ls Q A H0 H locs E I hl K
  have E : en p m c cX4_patternsAreSame 2 s args RX4 D g := E
  have hx := E.1.1
  have hb := E.1.2.1
  have hl : lv_has ls 2 [(0, .ref (a 0))] := hl
  have K : ∀ (pc : Nat) (ls : Array Slot) (H : Heap) (locs : List Loc), wk D (cW g a st) A H0 H locs → decode cX4_patternsAreSame pc = .ok (.ireturn, 1) → zok o = true → W p l e (rmk 0 0) s m args below meth c H locs 0 0 Q (F0 m pc ls [.int o]) := fun pc ls H locs I hd hz => K pc ls H locs I ⟨hd, hz⟩
  have h : ((bi1 (wh (f4_patternsAreSame_b2 st) FU (0 : Int32)) fun w12 => Sum.elim (fun w13 => some (1 : Int32)) (fun w14 => some (0 : Int32)) w12) : Option Int32) = some o := h
  refine lv_iconst (v := (0 : Int32)) hx hb dX4_patternsAreSame_0 (by decide) ?_
  refine lv_istore_n (lv' := [(1, .int (0 : Int32)), (0, .ref (a 0))]) hx hb dX4_patternsAreSame_1 rfl hl (by decide) rfl (fun ls hl => ?_)
  obtain ⟨z9, hw10, h⟩ := bx1 h
  refine wh_W (P := fun (z : Int32) => ∀ (H : Heap) (locs : List Loc) (ls : Array Slot), wk D (cW g a st) A H0 H locs → lv_has ls 2 [(0, .ref (a 0)), (1, .int z)] → W p l e (rmk 0 0) s m args below meth c H locs 0 0 Q (F0 m 2 ls [])) (X := Sum.elim (fun (z : Unit) => ∀ (H : Heap) (locs : List Loc) (ls : Array Slot), wk D (cW g a st) A H0 H locs → lv_has ls 2 [] → W p l e (rmk 0 0) s m args below meth c H locs 0 0 Q (F0 m 36 ls [])) (fun (z : Unit) => ∀ (H : Heap) (locs : List Loc) (ls : Array Slot), wk D (cW g a st) A H0 H locs → lv_has ls 2 [] → W p l e (rmk 0 0) s m args below meth c H locs 0 0 Q (F0 m 28 ls []))) ?_ FU _ _ hw10 ?_ _ _ _ I (lv_sub hl [1, 0] rfl)
  · intro x2 o3 h hk4 H locs ls I hl
    have h : ((if (8 : Int32) ≤ x2 then some (.inr (.inl ())) else (if ib ((0 : Int32) + x2) 26 = true then (if ib ((8 : Int32) + x2) 26 = true then (if ((c_state st) ((0 : Int32) + x2).toNatClampNeg) = ((c_state st) ((8 : Int32) + x2).toNatClampNeg) then some (.inl (x2 + 1)) else some (.inr (.inr ()))) else none) else none)) : Option ((Int32) ⊕ ((Unit) ⊕ (Unit)))) = some o3 := h
    have I : wk D (cW g a st) A H0 H locs := I
    have hl : lv_has ls 2 [(0, .ref (a 0)), (1, .int x2)] := hl
    refine lv_iload_n hx hb dX4_patternsAreSame_2 rfl (lv_at hl 1 rfl) ?_
    refine lv_bipush (v := (8 : Int32)) hx hb dX4_patternsAreSame_3 (by decide) ?_
    refine lv_icmp_ge (tgt := 36) hx hb dX4_patternsAreSame_5 (by decide) (fun hc5 => ?_) (fun hc5 => ?_)
    · have h := ifp hc5 h
      cases h
      exact hk4 _ _ _ I (lv_sub hl [] rfl)
    · have h := ifn hc5 h
      refine lv_aload_n hx hb dX4_patternsAreSame_8 rfl (lv_at hl 0 rfl) ?_
      refine g4_9 E I dX4_patternsAreSame_9 ?_
      refine lv_iconst (v := (0 : Int32)) hx hb dX4_patternsAreSame_12 (by decide) ?_
      refine lv_iload_n hx hb dX4_patternsAreSame_13 rfl (lv_at hl 1 rfl) ?_
      refine lv_iadd hx hb dX4_patternsAreSame_14 ?_
      obtain ⟨hc6, h⟩ := gd h
      refine c_ld1 E I (f := (c_state st)) rfl hc6 dX4_patternsAreSame_15 ?_
      refine lv_aload_n hx hb dX4_patternsAreSame_16 rfl (lv_at hl 0 rfl) ?_
      refine g4_9 E I dX4_patternsAreSame_17 ?_
      refine lv_bipush (v := (8 : Int32)) hx hb dX4_patternsAreSame_20 (by decide) ?_
      refine lv_iload_n hx hb dX4_patternsAreSame_22 rfl (lv_at hl 1 rfl) ?_
      refine lv_iadd hx hb dX4_patternsAreSame_23 ?_
      obtain ⟨hc7, h⟩ := gd h
      refine c_ld1 E I (f := (c_state st)) rfl hc7 dX4_patternsAreSame_24 ?_
      refine lv_icmp_eq (tgt := 30) hx hb dX4_patternsAreSame_25 (by decide) (fun hc8 => ?_) (fun hc8 => ?_)
      · have h := ifp hc8 h
        refine lv_iinc (v := (x2 + 1)) (lv' := [(1, .int (x2 + 1)), (0, .ref (a 0))]) hx hb dX4_patternsAreSame_30 hl (k := 1) rfl rfl (by decide) rfl (fun ls hl => ?_)
        refine lv_goto (tgt := 2) hx hb dX4_patternsAreSame_33 (by decide) ?_
        cases h
        exact hk4 _ _ _ I (lv_sub hl [1, 0] rfl)
      · have h := ifn hc8 h
        cases h
        exact hk4 _ _ _ I (lv_sub hl [] rfl)
  · rcases z9 with z11 | z11
    · intro H locs ls I hl
      have h : (some (1 : Int32) : Option Int32) = some o := h
      have I : wk D (cW g a st) A H0 H locs := I
      have hl : lv_has ls 2 [] := hl
      refine lv_iconst (v := (1 : Int32)) hx hb dX4_patternsAreSame_36 (by decide) ?_
      cases h
      exact K _ _ _ _ I dX4_patternsAreSame_37 rfl
    · intro H locs ls I hl
      have h : (some (0 : Int32) : Option Int32) = some o := h
      have I : wk D (cW g a st) A H0 H locs := I
      have hl : lv_has ls 2 [] := hl
      refine lv_iconst (v := (0 : Int32)) hx hb dX4_patternsAreSame_28 (by decide) ?_
      cases h
      exact K _ _ _ _ I dX4_patternsAreSame_29 rfl
set_option maxHeartbeats 4000000 in
set_option maxRecDepth 100000 in
theorem c4_commonFactors {l : Launch} {D : va_G} {g : Nat → ClassId} {a : Nat → Nat} {st : CS} {o : Int32} (h : f4_commonFactors st = some o) : ct l yX4_commonFactors cX4_commonFactors 4 (some .int) (rmk 1 21) D g (cW g a st) (cW g a st) [.ref (a 0)] (some (.int o)) := by
  refine ct_of ⟨rfl, rfl⟩ (by decide) (Nat.le_of_ble_eq_true rfl) ?_
  intro p e s m args below meth c ls Q A H0 H locs E I hl K
  have E : en p m c cX4_commonFactors 4 s args RX4 D g := E
  have hx := E.1.1
  have hb := E.1.2.1
  have hl : lv_has ls 4 [(0, .ref (a 0))] := hl
  have K : ∀ (pc : Nat) (ls : Array Slot) (H : Heap) (locs : List Loc), wk D (cW g a st) A H0 H locs → decode cX4_commonFactors pc = .ok (.ireturn, 1) → W p l e (rmk 1 21) s m args below meth c H locs 0 0 Q (F0 m pc ls [.int o]) := fun pc ls H locs I hd => K pc ls H locs I hd
  have h : ((bi1 (wh (f4_commonFactors_b4 st) FU ((0 : Int32), (0 : Int32))) fun w17 => some w17) : Option Int32) = some o := h
  refine lv_iconst (v := (0 : Int32)) hx hb dX4_commonFactors_0 (by decide) ?_
  refine lv_istore_n (lv' := [(1, .int (0 : Int32)), (0, .ref (a 0))]) hx hb dX4_commonFactors_1 rfl hl (by decide) rfl (fun ls hl => ?_)
  refine lv_iconst (v := (0 : Int32)) hx hb dX4_commonFactors_2 (by decide) ?_
  refine lv_istore_n (lv' := [(2, .int (0 : Int32)), (1, .int (0 : Int32)), (0, .ref (a 0))]) hx hb dX4_commonFactors_3 rfl hl (by decide) rfl (fun ls hl => ?_)
  obtain ⟨z14, hw15, h⟩ := bx1 h
  refine wh_W (P := fun (z : Int32 × Int32) => ∀ (H : Heap) (locs : List Loc) (ls : Array Slot), wk D (cW g a st) A H0 H locs → lv_has ls 4 [(0, .ref (a 0)), (1, .int z.1), (2, .int z.2)] → W p l e (rmk 1 21) s m args below meth c H locs 0 0 Q (F0 m 4 ls [])) (X := fun (z : Int32) => ∀ (H : Heap) (locs : List Loc) (ls : Array Slot), wk D (cW g a st) A H0 H locs → lv_has ls 4 [(1, .int z)] → W p l e (rmk 1 21) s m args below meth c H locs 0 0 Q (F0 m 53 ls [])) ?_ FU _ _ hw15 ?_ _ _ _ I (lv_sub hl [2, 1, 0] rfl)
  · intro z o4 h hk5 H locs ls I hl
    obtain ⟨x2, x3⟩ := z
    have h : ((if (8 : Int32) ≤ x3 then some (.inr x2) else (if ib ((0 : Int32) + x3) 26 = true then (if ib ((8 : Int32) + x3) 26 = true then (lq (if ((c_state st) ((8 : Int32) + x3).toNatClampNeg) < ((c_state st) ((0 : Int32) + x3).toNatClampNeg) then ((c_state st) ((8 : Int32) + x3).toNatClampNeg) else ((c_state st) ((0 : Int32) + x3).toNatClampNeg)) fun x9 => (if ib ((16 : Int32) + x3) 26 = true then (lq (x2 + (if ((c_state st) ((16 : Int32) + x3).toNatClampNeg) < x9 then ((c_state st) ((16 : Int32) + x3).toNatClampNeg) else x9)) fun x12 => some (.inl (x12, (x3 + 1)))) else none)) else none) else none)) : Option ((Int32 × Int32) ⊕ (Int32))) = some o4 := h
    have I : wk D (cW g a st) A H0 H locs := I
    have hl : lv_has ls 4 [(0, .ref (a 0)), (1, .int x2), (2, .int x3)] := hl
    refine lv_iload_n hx hb dX4_commonFactors_4 rfl (lv_at hl 2 rfl) ?_
    refine lv_bipush (v := (8 : Int32)) hx hb dX4_commonFactors_5 (by decide) ?_
    refine lv_icmp_ge (tgt := 53) hx hb dX4_commonFactors_7 (by decide) (fun hc6 => ?_) (fun hc6 => ?_)
    · have h := ifp hc6 h
      cases h
      exact hk5 _ _ _ I (lv_sub hl [1] rfl)
    · have h := ifn hc6 h
      refine lv_aload_n hx hb dX4_commonFactors_10 rfl (lv_at hl 0 rfl) ?_
      refine g4_9 E I dX4_commonFactors_11 ?_
      refine lv_iconst (v := (0 : Int32)) hx hb dX4_commonFactors_14 (by decide) ?_
      refine lv_iload_n hx hb dX4_commonFactors_15 rfl (lv_at hl 2 rfl) ?_
      refine lv_iadd hx hb dX4_commonFactors_16 ?_
      obtain ⟨hc7, h⟩ := gd h
      refine c_ld1 E I (f := (c_state st)) rfl hc7 dX4_commonFactors_17 ?_
      refine lv_aload_n hx hb dX4_commonFactors_18 rfl (lv_at hl 0 rfl) ?_
      refine g4_9 E I dX4_commonFactors_19 ?_
      refine lv_bipush (v := (8 : Int32)) hx hb dX4_commonFactors_22 (by decide) ?_
      refine lv_iload_n hx hb dX4_commonFactors_24 rfl (lv_at hl 2 rfl) ?_
      refine lv_iadd hx hb dX4_commonFactors_25 ?_
      obtain ⟨hc8, h⟩ := gd h
      refine c_ld1 E I (f := (c_state st)) rfl hc8 dX4_commonFactors_26 ?_
      refine r_mmin E hl.1 kx4_90 (Nat.le_of_ble_eq_true rfl) (Nat.le_of_ble_eq_true rfl) dX4_commonFactors_27 ?_
      obtain ⟨x9, hx10, h⟩ := lqx h
      refine lv_istore_n (x := (if ((c_state st) ((8 : Int32) + x3).toNatClampNeg) < ((c_state st) ((0 : Int32) + x3).toNatClampNeg) then ((c_state st) ((8 : Int32) + x3).toNatClampNeg) else ((c_state st) ((0 : Int32) + x3).toNatClampNeg))) (lv' := [(3, .int x9), (0, .ref (a 0)), (1, .int x2), (2, .int x3)]) hx hb dX4_commonFactors_30 rfl hl (by decide) (by subst hx10; rfl) (fun ls hl => ?_)
      refine lv_iload_n hx hb dX4_commonFactors_31 rfl (lv_at hl 2 rfl) ?_
      refine lv_iload_n hx hb dX4_commonFactors_32 rfl (lv_at hl 0 rfl) ?_
      refine lv_aload_n hx hb dX4_commonFactors_33 rfl (lv_at hl 1 rfl) ?_
      refine g4_9 E I dX4_commonFactors_34 ?_
      refine lv_bipush (v := (16 : Int32)) hx hb dX4_commonFactors_37 (by decide) ?_
      refine lv_iload_n hx hb dX4_commonFactors_39 rfl (lv_at hl 3 rfl) ?_
      refine lv_iadd hx hb dX4_commonFactors_40 ?_
      obtain ⟨hc11, h⟩ := gd h
      refine c_ld1 E I (f := (c_state st)) rfl hc11 dX4_commonFactors_41 ?_
      refine r_mmin E hl.1 kx4_90 (Nat.le_of_ble_eq_true rfl) (Nat.le_of_ble_eq_true rfl) dX4_commonFactors_42 ?_
      refine lv_iadd hx hb dX4_commonFactors_45 ?_
      obtain ⟨x12, hx13, h⟩ := lqx h
      refine lv_istore_n (x := (x2 + (if ((c_state st) ((16 : Int32) + x3).toNatClampNeg) < x9 then ((c_state st) ((16 : Int32) + x3).toNatClampNeg) else x9))) (lv' := [(1, .int x12), (3, .int x9), (0, .ref (a 0)), (2, .int x3)]) hx hb dX4_commonFactors_46 rfl hl (by decide) (by subst hx13; rfl) (fun ls hl => ?_)
      refine lv_iinc (v := (x3 + 1)) (lv' := [(2, .int (x3 + 1)), (1, .int x12), (3, .int x9), (0, .ref (a 0))]) hx hb dX4_commonFactors_47 hl (k := 3) rfl rfl (by decide) rfl (fun ls hl => ?_)
      refine lv_goto (tgt := 4) hx hb dX4_commonFactors_50 (by decide) ?_
      cases h
      exact hk5 _ _ _ I (lv_sub hl [3, 1, 0] rfl)
  · obtain ⟨x16, rfl⟩ : ∃ y, y = z14 := ⟨_, rfl⟩
    intro H locs ls I hl
    have h : (some x16 : Option Int32) = some o := h
    have I : wk D (cW g a st) A H0 H locs := I
    have hl : lv_has ls 4 [(1, .int x16)] := hl
    refine lv_iload_n hx hb dX4_commonFactors_53 rfl (lv_at hl 0 rfl) ?_
    cases h
    exact K _ _ _ _ I dX4_commonFactors_54
set_option maxHeartbeats 4000000 in
set_option maxRecDepth 100000 in
theorem c1_size {l : Launch} {D : va_G} {g : Nat → ClassId} {a : Nat → Nat} {st : CS} {o : Int32} (h : f1_size st = o) : ct l yX1_size cX1_size 1 (some .int) (rmk 0 0) D g (cW g a st) (cW g a st) [.ref (a 5)] (some (.int o)) := by
  refine ct_of ⟨rfl, rfl⟩ (by decide) (Nat.le_of_ble_eq_true rfl) ?_
  intro p e s m args below meth c ls Q A H0 H locs E I hl K
  have E : en p m c cX1_size 1 s args RX1 D g := E
  have hx := E.1.1
  have hb := E.1.2.1
  have hl : lv_has ls 1 [(0, .ref (a 5))] := hl
  have K : ∀ (pc : Nat) (ls : Array Slot) (H : Heap) (locs : List Loc), wk D (cW g a st) A H0 H locs → decode cX1_size pc = .ok (.ireturn, 1) → W p l e (rmk 0 0) s m args below meth c H locs 0 0 Q (F0 m pc ls [.int o]) := fun pc ls H locs I hd => K pc ls H locs I hd
  have h : ((c_held st) : Int32) = o := h
  refine lv_aload_n hx hb dX1_size_0 rfl (lv_at hl 0 rfl) ?_
  refine g1_16 E I (v := (c_held st)) rfl dX1_size_1 ?_
  cases h
  exact K _ _ _ _ I dX1_size_4
set_option maxHeartbeats 4000000 in
set_option maxRecDepth 100000 in
theorem c4_count {l : Launch} {D : va_G} {g : Nat → ClassId} {a : Nat → Nat} {st : CS} {x91 : Int32} {st' : CS} {r' : Int32} (h : f4_count st x91 = some (st', .inr r')) : ct l yX4_count cX4_count 2 (some .int) (rmk 4 94) D g (cW g a st) (cW g a st') [.ref (a 0), .int x91] (some (.int r')) := by
  refine ct_of ⟨rfl, rfl⟩ (by decide) (Nat.le_of_ble_eq_true rfl) ?_
  intro p e s m args below meth c ls Q A H0 H locs E I hl K
  have E : en p m c cX4_count 2 s args RX4 D g := E
  have hx := E.1.1
  have hb := E.1.2.1
  have hl : lv_has ls 2 [(0, .ref (a 0)), (1, .int x91)] := hl
  have K : ∀ (pc : Nat) (ls : Array Slot) (H : Heap) (locs : List Loc), wk D (cW g a st') A H0 H locs → decode cX4_count pc = .ok (.ireturn, 1) → W p l e (rmk 4 94) s m args below meth c H locs 0 0 Q (F0 m pc ls [.int r']) := fun pc ls H locs I hd => K pc ls H locs I hd
  have h : ((bt0 st (f4_needNumber x91 (0 : Int32) (10 : Int32)) fun (u2 : Unit) => (bi1 (f2_prepare st) fun st4 => (if x91 = 0 then (bi1 (f4_factorsOf st4 x91) fun r7 => some (st4, .inr r7)) else (if x91 = 1 then (bi1 (f4_factorsOf st4 x91) fun r10 => some (st4, .inr r10)) else (if x91 = 2 then (bi1 (f4_factorsOf st4 x91) fun r13 => some (st4, .inr r13)) else (if x91 = 3 then (bi1 (f4_unlikeVariables st4) fun r16 => some (st4, .inr r16)) else (if x91 = 4 then some (st4, .inr (f2_size st4)) else (if x91 = 5 then (bi1 (f2_greatestSum st4) fun r20 => some (st4, .inr r20)) else (if x91 = 6 then (bi1 (f4_restsBelowZero st4) fun r23 => some (st4, .inr r23)) else (if x91 = 7 then (bi1 (f4_patternsAreSame st4) fun r26 => some (st4, .inr (if r26 = 0 then (0 : Int32) else (1 : Int32)))) else (if x91 = 8 then (bi1 (f4_commonFactors st4) fun r33 => some (st4, .inr r33)) else (if x91 = 9 then some (st4, .inr ((if ((c_taken st4) (0 : Int32).toNatClampNeg) = 0 then (0 : Int32) else (1 : Int32)) + (if ((c_taken st4) (1 : Int32).toNatClampNeg) = 0 then (0 : Int32) else (1 : Int32)))) else some (st4, .inr (f1_size st4)))))))))))))) : Option (CS × (Nat ⊕ Int32))) = some (st', .inr r') := h
  refine lv_iload_n hx hb dX4_count_0 rfl (lv_at hl 1 rfl) ?_
  refine lv_iconst (v := (0 : Int32)) hx hb dX4_count_1 (by decide) ?_
  refine lv_bipush (v := (10 : Int32)) hx hb dX4_count_2 (by decide) ?_
  obtain ⟨u2, hc1, h⟩ := bt0n h
  refine r_callS0 (As := [.int x91, .int (0 : Int32), .int (10 : Int32)]) (rest := []) E I hl.1 k4_57 (c4_needNumber hc1) rfl rfl (Nat.le_of_ble_eq_true rfl) ⟨Nat.le_of_ble_eq_true rfl, Nat.le_of_ble_eq_true rfl⟩ ⟨Nat.zero_le _, Nat.zero_le _⟩ dX4_count_4 (fun H locs I => ?_)
  refine lv_aload_n hx hb dX4_count_7 rfl (lv_at hl 0 rfl) ?_
  refine g4_49 E I dX4_count_8 ?_
  refine lv_aload_n hx hb dX4_count_11 rfl (lv_at hl 0 rfl) ?_
  refine g4_9 E I dX4_count_12 ?_
  obtain ⟨st4, hc3, h⟩ := bx1 h
  refine r_callV0 (As := [.ref (a 1)]) (rest := []) (ws' := (cW g a st4)) (q0 := 8) E I hl.1 k4_166 (c2_prepare hc3) cW_k rfl rfl rfl rfl (Nat.le_of_ble_eq_true rfl) ⟨Nat.le_of_ble_eq_true rfl, Nat.le_of_ble_eq_true rfl⟩ ⟨Nat.zero_le _, Nat.zero_le _⟩ dX4_count_15 (fun H locs I => ?_)
  refine lv_iload_n hx hb dX4_count_18 rfl (lv_at hl 1 rfl) ?_
  by_cases hk5 : x91 = 0
  · have h := ifp hk5 h
    refine lv_tableIn (tgt := 72) hx hb dX4_count_19 (by rw [hk5]; decide) (by rw [hk5]; decide) (by rw [hk5]; rfl) (by decide) ?_
    refine lv_aload_n hx hb dX4_count_72 rfl (lv_at hl 0 rfl) ?_
    refine lv_iload_n hx hb dX4_count_73 rfl (lv_at hl 1 rfl) ?_
    obtain ⟨r7, hc6, h⟩ := bx1 h
    refine r_callV1 (As := [.int x91]) (rest := []) (ws' := (cW g a st4)) (q0 := 0) E I hl.1 k4_174 (c4_factorsOf hc6) cW_k rfl rfl rfl rfl (Nat.le_of_ble_eq_true rfl) ⟨Nat.le_of_ble_eq_true rfl, Nat.le_of_ble_eq_true rfl⟩ ⟨Nat.zero_le _, Nat.zero_le _⟩ dX4_count_74 (fun H locs I => ?_)
    cases h
    exact K _ _ _ _ I dX4_count_77
  · have h := ifn hk5 h
    by_cases hk8 : x91 = 1
    · have h := ifp hk8 h
      refine lv_tableIn (tgt := 72) hx hb dX4_count_19 (by rw [hk8]; decide) (by rw [hk8]; decide) (by rw [hk8]; rfl) (by decide) ?_
      refine lv_aload_n hx hb dX4_count_72 rfl (lv_at hl 0 rfl) ?_
      refine lv_iload_n hx hb dX4_count_73 rfl (lv_at hl 1 rfl) ?_
      obtain ⟨r10, hc9, h⟩ := bx1 h
      refine r_callV1 (As := [.int x91]) (rest := []) (ws' := (cW g a st4)) (q0 := 0) E I hl.1 k4_174 (c4_factorsOf hc9) cW_k rfl rfl rfl rfl (Nat.le_of_ble_eq_true rfl) ⟨Nat.le_of_ble_eq_true rfl, Nat.le_of_ble_eq_true rfl⟩ ⟨Nat.zero_le _, Nat.zero_le _⟩ dX4_count_74 (fun H locs I => ?_)
      cases h
      exact K _ _ _ _ I dX4_count_77
    · have h := ifn hk8 h
      by_cases hk11 : x91 = 2
      · have h := ifp hk11 h
        refine lv_tableIn (tgt := 72) hx hb dX4_count_19 (by rw [hk11]; decide) (by rw [hk11]; decide) (by rw [hk11]; rfl) (by decide) ?_
        refine lv_aload_n hx hb dX4_count_72 rfl (lv_at hl 0 rfl) ?_
        refine lv_iload_n hx hb dX4_count_73 rfl (lv_at hl 1 rfl) ?_
        obtain ⟨r13, hc12, h⟩ := bx1 h
        refine r_callV1 (As := [.int x91]) (rest := []) (ws' := (cW g a st4)) (q0 := 0) E I hl.1 k4_174 (c4_factorsOf hc12) cW_k rfl rfl rfl rfl (Nat.le_of_ble_eq_true rfl) ⟨Nat.le_of_ble_eq_true rfl, Nat.le_of_ble_eq_true rfl⟩ ⟨Nat.zero_le _, Nat.zero_le _⟩ dX4_count_74 (fun H locs I => ?_)
        cases h
        exact K _ _ _ _ I dX4_count_77
      · have h := ifn hk11 h
        by_cases hk14 : x91 = 3
        · have h := ifp hk14 h
          refine lv_tableIn (tgt := 78) hx hb dX4_count_19 (by rw [hk14]; decide) (by rw [hk14]; decide) (by rw [hk14]; rfl) (by decide) ?_
          refine lv_aload_n hx hb dX4_count_78 rfl (lv_at hl 0 rfl) ?_
          obtain ⟨r16, hc15, h⟩ := bx1 h
          refine r_callV1 (As := []) (rest := []) (ws' := (cW g a st4)) (q0 := 0) E I hl.1 k4_177 (c4_unlikeVariables hc15) cW_k rfl rfl rfl rfl (Nat.le_of_ble_eq_true rfl) ⟨Nat.le_of_ble_eq_true rfl, Nat.le_of_ble_eq_true rfl⟩ ⟨Nat.zero_le _, Nat.zero_le _⟩ dX4_count_79 (fun H locs I => ?_)
          cases h
          exact K _ _ _ _ I dX4_count_82
        · have h := ifn hk14 h
          by_cases hk17 : x91 = 4
          · have h := ifp hk17 h
            refine lv_tableIn (tgt := 83) hx hb dX4_count_19 (by rw [hk17]; decide) (by rw [hk17]; decide) (by rw [hk17]; rfl) (by decide) ?_
            refine lv_aload_n hx hb dX4_count_83 rfl (lv_at hl 0 rfl) ?_
            refine g4_49 E I dX4_count_84 ?_
            refine r_callV1 (As := []) (rest := []) (ws' := (cW g a st4)) (q0 := 8) E I hl.1 k4_180 (c2_size rfl) cW_k rfl rfl rfl rfl (Nat.le_of_ble_eq_true rfl) ⟨Nat.le_of_ble_eq_true rfl, Nat.le_of_ble_eq_true rfl⟩ ⟨Nat.zero_le _, Nat.zero_le _⟩ dX4_count_87 (fun H locs I => ?_)
            cases h
            exact K _ _ _ _ I dX4_count_90
          · have h := ifn hk17 h
            by_cases hk18 : x91 = 5
            · have h := ifp hk18 h
              refine lv_tableIn (tgt := 91) hx hb dX4_count_19 (by rw [hk18]; decide) (by rw [hk18]; decide) (by rw [hk18]; rfl) (by decide) ?_
              refine lv_aload_n hx hb dX4_count_91 rfl (lv_at hl 0 rfl) ?_
              refine g4_49 E I dX4_count_92 ?_
              obtain ⟨r20, hc19, h⟩ := bx1 h
              refine r_callV1 (As := []) (rest := []) (ws' := (cW g a st4)) (q0 := 8) E I hl.1 k4_181 (c2_greatestSum hc19) cW_k rfl rfl rfl rfl (Nat.le_of_ble_eq_true rfl) ⟨Nat.le_of_ble_eq_true rfl, Nat.le_of_ble_eq_true rfl⟩ ⟨Nat.zero_le _, Nat.zero_le _⟩ dX4_count_95 (fun H locs I => ?_)
              cases h
              exact K _ _ _ _ I dX4_count_98
            · have h := ifn hk18 h
              by_cases hk21 : x91 = 6
              · have h := ifp hk21 h
                refine lv_tableIn (tgt := 99) hx hb dX4_count_19 (by rw [hk21]; decide) (by rw [hk21]; decide) (by rw [hk21]; rfl) (by decide) ?_
                refine lv_aload_n hx hb dX4_count_99 rfl (lv_at hl 0 rfl) ?_
                obtain ⟨r23, hc22, h⟩ := bx1 h
                refine r_callV1 (As := []) (rest := []) (ws' := (cW g a st4)) (q0 := 0) E I hl.1 k4_184 (c4_restsBelowZero hc22) cW_k rfl rfl rfl rfl (Nat.le_of_ble_eq_true rfl) ⟨Nat.le_of_ble_eq_true rfl, Nat.le_of_ble_eq_true rfl⟩ ⟨Nat.zero_le _, Nat.zero_le _⟩ dX4_count_100 (fun H locs I => ?_)
                cases h
                exact K _ _ _ _ I dX4_count_103
              · have h := ifn hk21 h
                by_cases hk24 : x91 = 7
                · have h := ifp hk24 h
                  refine lv_tableIn (tgt := 104) hx hb dX4_count_19 (by rw [hk24]; decide) (by rw [hk24]; decide) (by rw [hk24]; rfl) (by decide) ?_
                  refine lv_aload_n hx hb dX4_count_104 rfl (lv_at hl 0 rfl) ?_
                  obtain ⟨r26, hc25, h⟩ := bx1 h
                  refine r_callV1 (As := []) (rest := []) (ws' := (cW g a st4)) (q0 := 0) E I hl.1 k4_187 (c4_patternsAreSame hc25) cW_k rfl rfl rfl rfl (Nat.le_of_ble_eq_true rfl) ⟨Nat.le_of_ble_eq_true rfl, Nat.le_of_ble_eq_true rfl⟩ ⟨Nat.zero_le _, Nat.zero_le _⟩ dX4_count_105 (fun H locs I => ?_)
                  have J28 : ∀ (v27 : Int32) (H : Heap) (locs : List Loc), v27 = (if r26 = 0 then (0 : Int32) else (1 : Int32)) → wk D (cW g a st4) A H0 H locs → W p l e (rmk 4 94) s m args below meth c H locs 0 0 Q (F0 m 116 ls [.int v27]) := by
                    intro v27 H locs hv29 I
                    subst hv29
                    cases h
                    exact K _ _ _ _ I dX4_count_116
                  refine lv_if_eq (tgt := 115) hx hb dX4_count_108 (by decide) (fun hc30 => ?_) (fun hc30 => ?_)
                  · refine lv_iconst (v := (0 : Int32)) hx hb dX4_count_115 (by decide) ?_
                    exact J28 _ _ _ (by rw [if_pos hc30]) I
                  · refine lv_iconst (v := (1 : Int32)) hx hb dX4_count_111 (by decide) ?_
                    refine lv_goto (tgt := 116) hx hb dX4_count_112 (by decide) ?_
                    exact J28 _ _ _ (by rw [if_neg hc30]) I
                · have h := ifn hk24 h
                  by_cases hk31 : x91 = 8
                  · have h := ifp hk31 h
                    refine lv_tableIn (tgt := 117) hx hb dX4_count_19 (by rw [hk31]; decide) (by rw [hk31]; decide) (by rw [hk31]; rfl) (by decide) ?_
                    refine lv_aload_n hx hb dX4_count_117 rfl (lv_at hl 0 rfl) ?_
                    obtain ⟨r33, hc32, h⟩ := bx1 h
                    refine r_callV1 (As := []) (rest := []) (ws' := (cW g a st4)) (q0 := 0) E I hl.1 k4_190 (c4_commonFactors hc32) cW_k rfl rfl rfl rfl (Nat.le_of_ble_eq_true rfl) ⟨Nat.le_of_ble_eq_true rfl, Nat.le_of_ble_eq_true rfl⟩ ⟨Nat.zero_le _, Nat.zero_le _⟩ dX4_count_118 (fun H locs I => ?_)
                    cases h
                    exact K _ _ _ _ I dX4_count_121
                  · have h := ifn hk31 h
                    by_cases hk34 : x91 = 9
                    · have h := ifp hk34 h
                      refine lv_tableIn (tgt := 122) hx hb dX4_count_19 (by rw [hk34]; decide) (by rw [hk34]; decide) (by rw [hk34]; rfl) (by decide) ?_
                      refine lv_aload_n hx hb dX4_count_122 rfl (lv_at hl 0 rfl) ?_
                      refine g4_21 E I dX4_count_123 ?_
                      refine lv_iconst (v := (0 : Int32)) hx hb dX4_count_126 (by decide) ?_
                      refine c_ld4 E I (f := (c_taken st4)) rfl (by decide) dX4_count_127 ?_
                      have J36 : ∀ (v35 : Int32) (H : Heap) (locs : List Loc), v35 = (if ((c_taken st4) (0 : Int32).toNatClampNeg) = 0 then (0 : Int32) else (1 : Int32)) → wk D (cW g a st4) A H0 H locs → W p l e (rmk 4 94) s m args below meth c H locs 0 0 Q (F0 m 136 ls [.int v35]) := by
                        intro v35 H locs hv37 I
                        subst hv37
                        refine lv_aload_n hx hb dX4_count_136 rfl (lv_at hl 0 rfl) ?_
                        refine g4_21 E I dX4_count_137 ?_
                        refine lv_iconst (v := (1 : Int32)) hx hb dX4_count_140 (by decide) ?_
                        refine c_ld4 E I (f := (c_taken st4)) rfl (by decide) dX4_count_141 ?_
                        have J39 : ∀ (v38 : Int32) (H : Heap) (locs : List Loc), v38 = (if ((c_taken st4) (1 : Int32).toNatClampNeg) = 0 then (0 : Int32) else (1 : Int32)) → wk D (cW g a st4) A H0 H locs → W p l e (rmk 4 94) s m args below meth c H locs 0 0 Q (F0 m 150 ls [.int v38, .int (if ((c_taken st4) (0 : Int32).toNatClampNeg) = 0 then (0 : Int32) else (1 : Int32))]) := by
                          intro v38 H locs hv40 I
                          subst hv40
                          refine lv_iadd hx hb dX4_count_150 ?_
                          cases h
                          exact K _ _ _ _ I dX4_count_151
                        refine lv_if_eq (tgt := 149) hx hb dX4_count_142 (by decide) (fun hc41 => ?_) (fun hc41 => ?_)
                        · refine lv_iconst (v := (0 : Int32)) hx hb dX4_count_149 (by decide) ?_
                          exact J39 _ _ _ (by rw [if_pos hc41]) I
                        · refine lv_iconst (v := (1 : Int32)) hx hb dX4_count_145 (by decide) ?_
                          refine lv_goto (tgt := 150) hx hb dX4_count_146 (by decide) ?_
                          exact J39 _ _ _ (by rw [if_neg hc41]) I
                      refine lv_if_eq (tgt := 135) hx hb dX4_count_128 (by decide) (fun hc42 => ?_) (fun hc42 => ?_)
                      · refine lv_iconst (v := (0 : Int32)) hx hb dX4_count_135 (by decide) ?_
                        exact J36 _ _ _ (by rw [if_pos hc42]) I
                      · refine lv_iconst (v := (1 : Int32)) hx hb dX4_count_131 (by decide) ?_
                        refine lv_goto (tgt := 136) hx hb dX4_count_132 (by decide) ?_
                        exact J36 _ _ _ (by rw [if_neg hc42]) I
                    · have h := ifn hk34 h
                      refine lv_tableOut (tgt := 152) hx hb dX4_count_19 (sw_out9 (fun k hk => by rcases (show k = 0 ∨ k = 1 ∨ k = 2 ∨ k = 3 ∨ k = 4 ∨ k = 5 ∨ k = 6 ∨ k = 7 ∨ k = 8 ∨ k = 9 by omega) with rfl | rfl | rfl | rfl | rfl | rfl | rfl | rfl | rfl | rfl <;> assumption)) (by decide) ?_
                      refine lv_aload_n hx hb dX4_count_152 rfl (lv_at hl 0 rfl) ?_
                      refine g4_28 E I dX4_count_153 ?_
                      refine r_callV1 (As := []) (rest := []) (ws' := (cW g a st4)) (q0 := 5) E I hl.1 k4_136 (c1_size rfl) cW_k rfl rfl rfl rfl (Nat.le_of_ble_eq_true rfl) ⟨Nat.le_of_ble_eq_true rfl, Nat.le_of_ble_eq_true rfl⟩ ⟨Nat.zero_le _, Nat.zero_le _⟩ dX4_count_156 (fun H locs I => ?_)
                      cases h
                      exact K _ _ _ _ I dX4_count_159
end
