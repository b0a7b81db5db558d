section
-- ===== PART A: goes FIRST, ahead of the names: the tables' words, and 'selects' of the private methods out of them =====
/-- a private method of a class that the tables say can be made, by its rows of tables_1 -/
def lw_okq (q : MethodName × Nat) : Prop := (q.1.cls ≠ "java/lang/invoke/MethodHandle" ∧ q.1.cls ≠ "java/lang/invoke/VarHandle") ∧ Cond.instantiable q.1.cls q.2 ∈ tables_1 ∧ Cond.privateMethod q.1 ∈ tables_1 ∧ Cond.instanceMethod q.1 ∈ tables_1
theorem lw_p0 : lw_okq (⟨"FactorMatch", "factorsOf", "(I)I"⟩, 8) := ⟨⟨by decide +kernel, by decide +kernel⟩, List.mem_of_getElem? (i := 18) (by decide +kernel), List.mem_of_getElem? (i := 191) (by decide +kernel), List.mem_of_getElem? (i := 192) (by decide +kernel)⟩
theorem lw_p1 : lw_okq (⟨"FactorMatch", "restsBelowZero", "()I"⟩, 8) := ⟨⟨by decide +kernel, by decide +kernel⟩, List.mem_of_getElem? (i := 18) (by decide +kernel), List.mem_of_getElem? (i := 195) (by decide +kernel), List.mem_of_getElem? (i := 196) (by decide +kernel)⟩
theorem lw_p2 : lw_okq (⟨"FactorMatch", "restOf", "(I)I"⟩, 8) := ⟨⟨by decide +kernel, by decide +kernel⟩, List.mem_of_getElem? (i := 18) (by decide +kernel), List.mem_of_getElem? (i := 199) (by decide +kernel), List.mem_of_getElem? (i := 200) (by decide +kernel)⟩
theorem lw_p3 : lw_okq (⟨"java/lang/Throwable", "fillInStackTrace", "(I)Ljava/lang/Throwable;"⟩, 6) := ⟨⟨by decide +kernel, by decide +kernel⟩, List.mem_of_getElem? (i := 253) (by decide +kernel), List.mem_of_getElem? (i := 251) (by decide +kernel), List.mem_of_getElem? (i := 252) (by decide +kernel)⟩
theorem lw_p4 : lw_okq (⟨"FactorMatch$Leasts", "look", "(IIII)V"⟩, 6) := ⟨⟨by decide +kernel, by decide +kernel⟩, List.mem_of_getElem? (i := 104) (by decide +kernel), List.mem_of_getElem? (i := 287) (by decide +kernel), List.mem_of_getElem? (i := 288) (by decide +kernel)⟩
theorem lw_p5 : lw_okq (⟨"FactorMatch$Leasts", "solves", "(IIII)Z"⟩, 6) := ⟨⟨by decide +kernel, by decide +kernel⟩, List.mem_of_getElem? (i := 104) (by decide +kernel), List.mem_of_getElem? (i := 291) (by decide +kernel), List.mem_of_getElem? (i := 292) (by decide +kernel)⟩
theorem lw_p6 : lw_okq (⟨"FactorMatch$Leasts", "setRow", "(IIII)V"⟩, 6) := ⟨⟨by decide +kernel, by decide +kernel⟩, List.mem_of_getElem? (i := 104) (by decide +kernel), List.mem_of_getElem? (i := 295) (by decide +kernel), List.mem_of_getElem? (i := 296) (by decide +kernel)⟩
theorem lw_p7 : lw_okq (⟨"FactorMatch$Leasts", "isAtMostRow", "(I)Z"⟩, 6) := ⟨⟨by decide +kernel, by decide +kernel⟩, List.mem_of_getElem? (i := 104) (by decide +kernel), List.mem_of_getElem? (i := 299) (by decide +kernel), List.mem_of_getElem? (i := 300) (by decide +kernel)⟩
theorem lw_p8 : lw_okq (⟨"FactorMatch", "unlikeVariables", "()I"⟩, 8) := ⟨⟨by decide +kernel, by decide +kernel⟩, List.mem_of_getElem? (i := 18) (by decide +kernel), List.mem_of_getElem? (i := 310) (by decide +kernel), List.mem_of_getElem? (i := 311) (by decide +kernel)⟩
theorem lw_p9 : lw_okq (⟨"FactorMatch", "hasVariable", "(II)Z"⟩, 8) := ⟨⟨by decide +kernel, by decide +kernel⟩, List.mem_of_getElem? (i := 18) (by decide +kernel), List.mem_of_getElem? (i := 314) (by decide +kernel), List.mem_of_getElem? (i := 315) (by decide +kernel)⟩
theorem lw_p10 : lw_okq (⟨"FactorMatch", "patternsAreSame", "()Z"⟩, 8) := ⟨⟨by decide +kernel, by decide +kernel⟩, List.mem_of_getElem? (i := 18) (by decide +kernel), List.mem_of_getElem? (i := 329) (by decide +kernel), List.mem_of_getElem? (i := 330) (by decide +kernel)⟩
theorem lw_p11 : lw_okq (⟨"FactorMatch", "commonFactors", "()I"⟩, 8) := ⟨⟨by decide +kernel, by decide +kernel⟩, List.mem_of_getElem? (i := 18) (by decide +kernel), List.mem_of_getElem? (i := 333) (by decide +kernel), List.mem_of_getElem? (i := 334) (by decide +kernel)⟩
theorem lw_p12 : lw_okq (⟨"FactorMatch$Equations", "solve", "(II)V"⟩, 11) := ⟨⟨by decide +kernel, by decide +kernel⟩, List.mem_of_getElem? (i := 60) (by decide +kernel), List.mem_of_getElem? (i := 375) (by decide +kernel), List.mem_of_getElem? (i := 376) (by decide +kernel)⟩
theorem lw_p13 : lw_okq (⟨"FactorMatch$Equations", "top", "(I)I"⟩, 11) := ⟨⟨by decide +kernel, by decide +kernel⟩, List.mem_of_getElem? (i := 60) (by decide +kernel), List.mem_of_getElem? (i := 379) (by decide +kernel), List.mem_of_getElem? (i := 380) (by decide +kernel)⟩
theorem lw_p14 : lw_okq (⟨"FactorMatch$Equations", "solveLast", "(III)V"⟩, 11) := ⟨⟨by decide +kernel, by decide +kernel⟩, List.mem_of_getElem? (i := 60) (by decide +kernel), List.mem_of_getElem? (i := 383) (by decide +kernel), List.mem_of_getElem? (i := 384) (by decide +kernel)⟩
theorem lw_p15 : lw_okq (⟨"FactorMatch$Equations", "fillWithin", "(I)V"⟩, 11) := ⟨⟨by decide +kernel, by decide +kernel⟩, List.mem_of_getElem? (i := 60) (by decide +kernel), List.mem_of_getElem? (i := 393) (by decide +kernel), List.mem_of_getElem? (i := 394) (by decide +kernel)⟩
def lw_privs_1 : List (MethodName × Nat) := [(⟨"FactorMatch", "factorsOf", "(I)I"⟩, 8), (⟨"FactorMatch", "restsBelowZero", "()I"⟩, 8), (⟨"FactorMatch", "restOf", "(I)I"⟩, 8), (⟨"java/lang/Throwable", "fillInStackTrace", "(I)Ljava/lang/Throwable;"⟩, 6), (⟨"FactorMatch$Leasts", "look", "(IIII)V"⟩, 6), (⟨"FactorMatch$Leasts", "solves", "(IIII)Z"⟩, 6), (⟨"FactorMatch$Leasts", "setRow", "(IIII)V"⟩, 6), (⟨"FactorMatch$Leasts", "isAtMostRow", "(I)Z"⟩, 6), (⟨"FactorMatch", "unlikeVariables", "()I"⟩, 8), (⟨"FactorMatch", "hasVariable", "(II)Z"⟩, 8), (⟨"FactorMatch", "patternsAreSame", "()Z"⟩, 8), (⟨"FactorMatch", "commonFactors", "()I"⟩, 8), (⟨"FactorMatch$Equations", "solve", "(II)V"⟩, 11), (⟨"FactorMatch$Equations", "top", "(I)I"⟩, 11), (⟨"FactorMatch$Equations", "solveLast", "(III)V"⟩, 11), (⟨"FactorMatch$Equations", "fillWithin", "(I)V"⟩, 11)]
theorem lw_r1 : ∀ q ∈ lw_privs_1, lw_okq q := List.forall_mem_cons.mpr ⟨lw_p0, List.forall_mem_cons.mpr ⟨lw_p1, List.forall_mem_cons.mpr ⟨lw_p2, List.forall_mem_cons.mpr ⟨lw_p3, List.forall_mem_cons.mpr ⟨lw_p4, List.forall_mem_cons.mpr ⟨lw_p5, List.forall_mem_cons.mpr ⟨lw_p6, List.forall_mem_cons.mpr ⟨lw_p7, List.forall_mem_cons.mpr ⟨lw_p8, List.forall_mem_cons.mpr ⟨lw_p9, List.forall_mem_cons.mpr ⟨lw_p10, List.forall_mem_cons.mpr ⟨lw_p11, List.forall_mem_cons.mpr ⟨lw_p12, List.forall_mem_cons.mpr ⟨lw_p13, List.forall_mem_cons.mpr ⟨lw_p14, List.forall_mem_cons.mpr ⟨lw_p15, fun _ h => absurd h List.not_mem_nil⟩⟩⟩⟩⟩⟩⟩⟩⟩⟩⟩⟩⟩⟩⟩⟩
theorem lw_p16 : lw_okq (⟨"FactorMatch$Equations", "fillWays", "()V"⟩, 11) := ⟨⟨by decide +kernel, by decide +kernel⟩, List.mem_of_getElem? (i := 60) (by decide +kernel), List.mem_of_getElem? (i := 397) (by decide +kernel), List.mem_of_getElem? (i := 398) (by decide +kernel)⟩
theorem lw_p17 : lw_okq (⟨"FactorMatch$Equations", "waysFrom", "(II)J"⟩, 11) := ⟨⟨by decide +kernel, by decide +kernel⟩, List.mem_of_getElem? (i := 60) (by decide +kernel), List.mem_of_getElem? (i := 401) (by decide +kernel), List.mem_of_getElem? (i := 402) (by decide +kernel)⟩
theorem lw_p18 : lw_okq (⟨"FactorMatch$Equations", "bySetsWith", "(II)J"⟩, 11) := ⟨⟨by decide +kernel, by decide +kernel⟩, List.mem_of_getElem? (i := 60) (by decide +kernel), List.mem_of_getElem? (i := 417) (by decide +kernel), List.mem_of_getElem? (i := 418) (by decide +kernel)⟩
theorem lw_p19 : lw_okq (⟨"FactorMatch", "mixMatchers", "(J)J"⟩, 8) := ⟨⟨by decide +kernel, by decide +kernel⟩, List.mem_of_getElem? (i := 18) (by decide +kernel), List.mem_of_getElem? (i := 439) (by decide +kernel), List.mem_of_getElem? (i := 440) (by decide +kernel)⟩
theorem lw_p20 : lw_okq (⟨"FactorMatch", "valueOf", "(II)I"⟩, 8) := ⟨⟨by decide +kernel, by decide +kernel⟩, List.mem_of_getElem? (i := 18) (by decide +kernel), List.mem_of_getElem? (i := 447) (by decide +kernel), List.mem_of_getElem? (i := 448) (by decide +kernel)⟩
theorem lw_p21 : lw_okq (⟨"FactorMatch", "hasForeignVariable", "()Z"⟩, 8) := ⟨⟨by decide +kernel, by decide +kernel⟩, List.mem_of_getElem? (i := 18) (by decide +kernel), List.mem_of_getElem? (i := 455) (by decide +kernel), List.mem_of_getElem? (i := 456) (by decide +kernel)⟩
theorem lw_p22 : lw_okq (⟨"FactorMatch", "rewritten", "(I)I"⟩, 8) := ⟨⟨by decide +kernel, by decide +kernel⟩, List.mem_of_getElem? (i := 18) (by decide +kernel), List.mem_of_getElem? (i := 460) (by decide +kernel), List.mem_of_getElem? (i := 461) (by decide +kernel)⟩
theorem lw_p23 : lw_okq (⟨"FactorMatch", "mixLeasts", "(J)J"⟩, 8) := ⟨⟨by decide +kernel, by decide +kernel⟩, List.mem_of_getElem? (i := 18) (by decide +kernel), List.mem_of_getElem? (i := 464) (by decide +kernel), List.mem_of_getElem? (i := 465) (by decide +kernel)⟩
theorem lw_p24 : lw_okq (⟨"FactorMatch$Leasts", "addSums", "(IIII)V"⟩, 6) := ⟨⟨by decide +kernel, by decide +kernel⟩, List.mem_of_getElem? (i := 104) (by decide +kernel), List.mem_of_getElem? (i := 473) (by decide +kernel), List.mem_of_getElem? (i := 474) (by decide +kernel)⟩
theorem lw_p25 : lw_okq (⟨"FactorMatch$Leasts", "placeOf", "(IIII)I"⟩, 6) := ⟨⟨by decide +kernel, by decide +kernel⟩, List.mem_of_getElem? (i := 104) (by decide +kernel), List.mem_of_getElem? (i := 477) (by decide +kernel), List.mem_of_getElem? (i := 478) (by decide +kernel)⟩
theorem lw_p26 : lw_okq (⟨"FactorMatch$Leasts", "addWays", "(II)V"⟩, 6) := ⟨⟨by decide +kernel, by decide +kernel⟩, List.mem_of_getElem? (i := 104) (by decide +kernel), List.mem_of_getElem? (i := 481) (by decide +kernel), List.mem_of_getElem? (i := 482) (by decide +kernel)⟩
theorem lw_p27 : lw_okq (⟨"FactorMatch", "change", "(II)I"⟩, 8) := ⟨⟨by decide +kernel, by decide +kernel⟩, List.mem_of_getElem? (i := 18) (by decide +kernel), List.mem_of_getElem? (i := 506) (by decide +kernel), List.mem_of_getElem? (i := 507) (by decide +kernel)⟩
theorem lw_p28 : lw_okq (⟨"FactorMatch", "keepState", "()V"⟩, 8) := ⟨⟨by decide +kernel, by decide +kernel⟩, List.mem_of_getElem? (i := 18) (by decide +kernel), List.mem_of_getElem? (i := 510) (by decide +kernel), List.mem_of_getElem? (i := 511) (by decide +kernel)⟩
theorem lw_p29 : lw_okq (⟨"FactorMatch", "forgetTables", "()V"⟩, 8) := ⟨⟨by decide +kernel, by decide +kernel⟩, List.mem_of_getElem? (i := 18) (by decide +kernel), List.mem_of_getElem? (i := 519) (by decide +kernel), List.mem_of_getElem? (i := 520) (by decide +kernel)⟩
theorem lw_p30 : lw_okq (⟨"FactorMatch", "putDraft", "(I)I"⟩, 8) := ⟨⟨by decide +kernel, by decide +kernel⟩, List.mem_of_getElem? (i := 18) (by decide +kernel), List.mem_of_getElem? (i := 546) (by decide +kernel), List.mem_of_getElem? (i := 547) (by decide +kernel)⟩
theorem lw_p31 : lw_okq (⟨"FactorMatch", "draftFits", "(I)Z"⟩, 8) := ⟨⟨by decide +kernel, by decide +kernel⟩, List.mem_of_getElem? (i := 18) (by decide +kernel), List.mem_of_getElem? (i := 550) (by decide +kernel), List.mem_of_getElem? (i := 551) (by decide +kernel)⟩
def lw_privs_2 : List (MethodName × Nat) := [(⟨"FactorMatch$Equations", "fillWays", "()V"⟩, 11), (⟨"FactorMatch$Equations", "waysFrom", "(II)J"⟩, 11), (⟨"FactorMatch$Equations", "bySetsWith", "(II)J"⟩, 11), (⟨"FactorMatch", "mixMatchers", "(J)J"⟩, 8), (⟨"FactorMatch", "valueOf", "(II)I"⟩, 8), (⟨"FactorMatch", "hasForeignVariable", "()Z"⟩, 8), (⟨"FactorMatch", "rewritten", "(I)I"⟩, 8), (⟨"FactorMatch", "mixLeasts", "(J)J"⟩, 8), (⟨"FactorMatch$Leasts", "addSums", "(IIII)V"⟩, 6), (⟨"FactorMatch$Leasts", "placeOf", "(IIII)I"⟩, 6), (⟨"FactorMatch$Leasts", "addWays", "(II)V"⟩, 6), (⟨"FactorMatch", "change", "(II)I"⟩, 8), (⟨"FactorMatch", "keepState", "()V"⟩, 8), (⟨"FactorMatch", "forgetTables", "()V"⟩, 8), (⟨"FactorMatch", "putDraft", "(I)I"⟩, 8), (⟨"FactorMatch", "draftFits", "(I)Z"⟩, 8)]
theorem lw_r2 : ∀ q ∈ lw_privs_2, lw_okq q := List.forall_mem_cons.mpr ⟨lw_p16, List.forall_mem_cons.mpr ⟨lw_p17, List.forall_mem_cons.mpr ⟨lw_p18, List.forall_mem_cons.mpr ⟨lw_p19, List.forall_mem_cons.mpr ⟨lw_p20, List.forall_mem_cons.mpr ⟨lw_p21, List.forall_mem_cons.mpr ⟨lw_p22, List.forall_mem_cons.mpr ⟨lw_p23, List.forall_mem_cons.mpr ⟨lw_p24, List.forall_mem_cons.mpr ⟨lw_p25, List.forall_mem_cons.mpr ⟨lw_p26, List.forall_mem_cons.mpr ⟨lw_p27, List.forall_mem_cons.mpr ⟨lw_p28, List.forall_mem_cons.mpr ⟨lw_p29, List.forall_mem_cons.mpr ⟨lw_p30, List.forall_mem_cons.mpr ⟨lw_p31, fun _ h => absurd h List.not_mem_nil⟩⟩⟩⟩⟩⟩⟩⟩⟩⟩⟩⟩⟩⟩⟩⟩
theorem lw_p32 : lw_okq (⟨"FactorMatch", "needMatcher", "(I)V"⟩, 8) := ⟨⟨by decide +kernel, by decide +kernel⟩, List.mem_of_getElem? (i := 18) (by decide +kernel), List.mem_of_getElem? (i := 577) (by decide +kernel), List.mem_of_getElem? (i := 578) (by decide +kernel)⟩
theorem lw_p33 : lw_okq (⟨"FactorMatch", "factorsOfAll", "()I"⟩, 8) := ⟨⟨by decide +kernel, by decide +kernel⟩, List.mem_of_getElem? (i := 18) (by decide +kernel), List.mem_of_getElem? (i := 638) (by decide +kernel), List.mem_of_getElem? (i := 639) (by decide +kernel)⟩
theorem lw_p34 : lw_okq (⟨"FactorMatchModel", "save", "()V"⟩, 19) := ⟨⟨by decide +kernel, by decide +kernel⟩, List.mem_of_getElem? (i := 732) (by decide +kernel), List.mem_of_getElem? (i := 813) (by decide +kernel), List.mem_of_getElem? (i := 814) (by decide +kernel)⟩
theorem lw_p35 : lw_okq (⟨"FactorMatchModel", "of", "(II)I"⟩, 19) := ⟨⟨by decide +kernel, by decide +kernel⟩, List.mem_of_getElem? (i := 732) (by decide +kernel), List.mem_of_getElem? (i := 817) (by decide +kernel), List.mem_of_getElem? (i := 818) (by decide +kernel)⟩
theorem lw_p36 : lw_okq (⟨"FactorMatchModel", "variableOf", "(II)I"⟩, 19) := ⟨⟨by decide +kernel, by decide +kernel⟩, List.mem_of_getElem? (i := 732) (by decide +kernel), List.mem_of_getElem? (i := 828) (by decide +kernel), List.mem_of_getElem? (i := 829) (by decide +kernel)⟩
theorem lw_p37 : lw_okq (⟨"FactorMatchModel", "canMultiply", "(II)Z"⟩, 19) := ⟨⟨by decide +kernel, by decide +kernel⟩, List.mem_of_getElem? (i := 732) (by decide +kernel), List.mem_of_getElem? (i := 836) (by decide +kernel), List.mem_of_getElem? (i := 837) (by decide +kernel)⟩
theorem lw_p38 : lw_okq (⟨"FactorMatchModel", "factorsOf", "(I)I"⟩, 19) := ⟨⟨by decide +kernel, by decide +kernel⟩, List.mem_of_getElem? (i := 732) (by decide +kernel), List.mem_of_getElem? (i := 843) (by decide +kernel), List.mem_of_getElem? (i := 844) (by decide +kernel)⟩
theorem lw_p39 : lw_okq (⟨"FactorMatchModel", "isMatcher", "(I)Z"⟩, 19) := ⟨⟨by decide +kernel, by decide +kernel⟩, List.mem_of_getElem? (i := 732) (by decide +kernel), List.mem_of_getElem? (i := 851) (by decide +kernel), List.mem_of_getElem? (i := 852) (by decide +kernel)⟩
theorem lw_p40 : lw_okq (⟨"FactorMatchModel", "matchersNow", "()J"⟩, 19) := ⟨⟨by decide +kernel, by decide +kernel⟩, List.mem_of_getElem? (i := 732) (by decide +kernel), List.mem_of_getElem? (i := 855) (by decide +kernel), List.mem_of_getElem? (i := 856) (by decide +kernel)⟩
theorem lw_p41 : lw_okq (⟨"FactorMatchModel", "listAll", "(II)V"⟩, 19) := ⟨⟨by decide +kernel, by decide +kernel⟩, List.mem_of_getElem? (i := 732) (by decide +kernel), List.mem_of_getElem? (i := 859) (by decide +kernel), List.mem_of_getElem? (i := 860) (by decide +kernel)⟩
theorem lw_p42 : lw_okq (⟨"FactorMatchModel", "restOf", "(I)I"⟩, 19) := ⟨⟨by decide +kernel, by decide +kernel⟩, List.mem_of_getElem? (i := 732) (by decide +kernel), List.mem_of_getElem? (i := 863) (by decide +kernel), List.mem_of_getElem? (i := 864) (by decide +kernel)⟩
theorem lw_p43 : lw_okq (⟨"FactorMatchModel", "list", "(II)V"⟩, 19) := ⟨⟨by decide +kernel, by decide +kernel⟩, List.mem_of_getElem? (i := 732) (by decide +kernel), List.mem_of_getElem? (i := 867) (by decide +kernel), List.mem_of_getElem? (i := 868) (by decide +kernel)⟩
theorem lw_p44 : lw_okq (⟨"FactorMatchModel", "greatest", "(II)I"⟩, 19) := ⟨⟨by decide +kernel, by decide +kernel⟩, List.mem_of_getElem? (i := 732) (by decide +kernel), List.mem_of_getElem? (i := 871) (by decide +kernel), List.mem_of_getElem? (i := 872) (by decide +kernel)⟩
theorem lw_p45 : lw_okq (⟨"FactorMatchModel", "listOne", "(IIIII)V"⟩, 19) := ⟨⟨by decide +kernel, by decide +kernel⟩, List.mem_of_getElem? (i := 732) (by decide +kernel), List.mem_of_getElem? (i := 875) (by decide +kernel), List.mem_of_getElem? (i := 876) (by decide +kernel)⟩
theorem lw_p46 : lw_okq (⟨"FactorMatchModel", "layWays", "()V"⟩, 19) := ⟨⟨by decide +kernel, by decide +kernel⟩, List.mem_of_getElem? (i := 732) (by decide +kernel), List.mem_of_getElem? (i := 879) (by decide +kernel), List.mem_of_getElem? (i := 880) (by decide +kernel)⟩
theorem lw_p47 : lw_okq (⟨"FactorMatchModel", "patternMask", "()I"⟩, 19) := ⟨⟨by decide +kernel, by decide +kernel⟩, List.mem_of_getElem? (i := 732) (by decide +kernel), List.mem_of_getElem? (i := 883) (by decide +kernel), List.mem_of_getElem? (i := 884) (by decide +kernel)⟩
def lw_privs_3 : List (MethodName × Nat) := [(⟨"FactorMatch", "needMatcher", "(I)V"⟩, 8), (⟨"FactorMatch", "factorsOfAll", "()I"⟩, 8), (⟨"FactorMatchModel", "save", "()V"⟩, 19), (⟨"FactorMatchModel", "of", "(II)I"⟩, 19), (⟨"FactorMatchModel", "variableOf", "(II)I"⟩, 19), (⟨"FactorMatchModel", "canMultiply", "(II)Z"⟩, 19), (⟨"FactorMatchModel", "factorsOf", "(I)I"⟩, 19), (⟨"FactorMatchModel", "isMatcher", "(I)Z"⟩, 19), (⟨"FactorMatchModel", "matchersNow", "()J"⟩, 19), (⟨"FactorMatchModel", "listAll", "(II)V"⟩, 19), (⟨"FactorMatchModel", "restOf", "(I)I"⟩, 19), (⟨"FactorMatchModel", "list", "(II)V"⟩, 19), (⟨"FactorMatchModel", "greatest", "(II)I"⟩, 19), (⟨"FactorMatchModel", "listOne", "(IIIII)V"⟩, 19), (⟨"FactorMatchModel", "layWays", "()V"⟩, 19), (⟨"FactorMatchModel", "patternMask", "()I"⟩, 19)]
theorem lw_r3 : ∀ q ∈ lw_privs_3, lw_okq q := List.forall_mem_cons.mpr ⟨lw_p32, List.forall_mem_cons.mpr ⟨lw_p33, List.forall_mem_cons.mpr ⟨lw_p34, List.forall_mem_cons.mpr ⟨lw_p35, List.forall_mem_cons.mpr ⟨lw_p36, List.forall_mem_cons.mpr ⟨lw_p37, List.forall_mem_cons.mpr ⟨lw_p38, List.forall_mem_cons.mpr ⟨lw_p39, List.forall_mem_cons.mpr ⟨lw_p40, List.forall_mem_cons.mpr ⟨lw_p41, List.forall_mem_cons.mpr ⟨lw_p42, List.forall_mem_cons.mpr ⟨lw_p43, List.forall_mem_cons.mpr ⟨lw_p44, List.forall_mem_cons.mpr ⟨lw_p45, List.forall_mem_cons.mpr ⟨lw_p46, List.forall_mem_cons.mpr ⟨lw_p47, fun _ h => absurd h List.not_mem_nil⟩⟩⟩⟩⟩⟩⟩⟩⟩⟩⟩⟩⟩⟩⟩⟩
theorem lw_p48 : lw_okq (⟨"FactorMatchModel", "layMatcher", "(I)V"⟩, 19) := ⟨⟨by decide +kernel, by decide +kernel⟩, List.mem_of_getElem? (i := 732) (by decide +kernel), List.mem_of_getElem? (i := 887) (by decide +kernel), List.mem_of_getElem? (i := 888) (by decide +kernel)⟩
theorem lw_p49 : lw_okq (⟨"FactorMatchModel", "isStrange", "()Z"⟩, 19) := ⟨⟨by decide +kernel, by decide +kernel⟩, List.mem_of_getElem? (i := 732) (by decide +kernel), List.mem_of_getElem? (i := 894) (by decide +kernel), List.mem_of_getElem? (i := 895) (by decide +kernel)⟩
theorem lw_p50 : lw_okq (⟨"FactorMatchModel", "isTooMuch", "()Z"⟩, 19) := ⟨⟨by decide +kernel, by decide +kernel⟩, List.mem_of_getElem? (i := 732) (by decide +kernel), List.mem_of_getElem? (i := 898) (by decide +kernel), List.mem_of_getElem? (i := 899) (by decide +kernel)⟩
theorem lw_p51 : lw_okq (⟨"FactorMatchModel", "rewritten", "(I)I"⟩, 19) := ⟨⟨by decide +kernel, by decide +kernel⟩, List.mem_of_getElem? (i := 732) (by decide +kernel), List.mem_of_getElem? (i := 902) (by decide +kernel), List.mem_of_getElem? (i := 903) (by decide +kernel)⟩
theorem lw_p52 : lw_okq (⟨"FactorMatchModel", "rightUpTo", "()I"⟩, 19) := ⟨⟨by decide +kernel, by decide +kernel⟩, List.mem_of_getElem? (i := 732) (by decide +kernel), List.mem_of_getElem? (i := 926) (by decide +kernel), List.mem_of_getElem? (i := 927) (by decide +kernel)⟩
theorem lw_p53 : lw_okq (⟨"FactorMatchModel", "takes", "(I)Z"⟩, 19) := ⟨⟨by decide +kernel, by decide +kernel⟩, List.mem_of_getElem? (i := 732) (by decide +kernel), List.mem_of_getElem? (i := 930) (by decide +kernel), List.mem_of_getElem? (i := 931) (by decide +kernel)⟩
theorem lw_p54 : lw_okq (⟨"FactorMatchModel", "areWithin", "(I)Z"⟩, 19) := ⟨⟨by decide +kernel, by decide +kernel⟩, List.mem_of_getElem? (i := 732) (by decide +kernel), List.mem_of_getElem? (i := 941) (by decide +kernel), List.mem_of_getElem? (i := 942) (by decide +kernel)⟩
theorem lw_p55 : lw_okq (⟨"FactorMatchModel", "allFactors", "()I"⟩, 19) := ⟨⟨by decide +kernel, by decide +kernel⟩, List.mem_of_getElem? (i := 732) (by decide +kernel), List.mem_of_getElem? (i := 952) (by decide +kernel), List.mem_of_getElem? (i := 953) (by decide +kernel)⟩
theorem lw_p56 : lw_okq (⟨"FactorMatchModel", "solutionsOf", "(I)I"⟩, 19) := ⟨⟨by decide +kernel, by decide +kernel⟩, List.mem_of_getElem? (i := 732) (by decide +kernel), List.mem_of_getElem? (i := 976) (by decide +kernel), List.mem_of_getElem? (i := 977) (by decide +kernel)⟩
theorem lw_p57 : lw_okq (⟨"FactorMatchModel", "matchersBy", "(I)J"⟩, 19) := ⟨⟨by decide +kernel, by decide +kernel⟩, List.mem_of_getElem? (i := 732) (by decide +kernel), List.mem_of_getElem? (i := 984) (by decide +kernel), List.mem_of_getElem? (i := 985) (by decide +kernel)⟩
theorem lw_p58 : lw_okq (⟨"FactorMatchModel", "matchersBySets", "()J"⟩, 19) := ⟨⟨by decide +kernel, by decide +kernel⟩, List.mem_of_getElem? (i := 732) (by decide +kernel), List.mem_of_getElem? (i := 988) (by decide +kernel), List.mem_of_getElem? (i := 989) (by decide +kernel)⟩
theorem lw_p59 : lw_okq (⟨"FactorMatchModel", "withEmpty", "(I)J"⟩, 19) := ⟨⟨by decide +kernel, by decide +kernel⟩, List.mem_of_getElem? (i := 732) (by decide +kernel), List.mem_of_getElem? (i := 992) (by decide +kernel), List.mem_of_getElem? (i := 993) (by decide +kernel)⟩
theorem lw_p60 : lw_okq (⟨"FactorMatchModel", "valueOf", "(II)I"⟩, 19) := ⟨⟨by decide +kernel, by decide +kernel⟩, List.mem_of_getElem? (i := 732) (by decide +kernel), List.mem_of_getElem? (i := 1003) (by decide +kernel), List.mem_of_getElem? (i := 1004) (by decide +kernel)⟩
theorem lw_p61 : lw_okq (⟨"FactorMatchModel", "leastAt", "(II)I"⟩, 19) := ⟨⟨by decide +kernel, by decide +kernel⟩, List.mem_of_getElem? (i := 732) (by decide +kernel), List.mem_of_getElem? (i := 1011) (by decide +kernel), List.mem_of_getElem? (i := 1012) (by decide +kernel)⟩
theorem lw_p62 : lw_okq (⟨"FactorMatchModel", "layLeast", "()V"⟩, 19) := ⟨⟨by decide +kernel, by decide +kernel⟩, List.mem_of_getElem? (i := 732) (by decide +kernel), List.mem_of_getElem? (i := 1015) (by decide +kernel), List.mem_of_getElem? (i := 1016) (by decide +kernel)⟩
theorem lw_p63 : lw_okq (⟨"FactorMatchModel", "fulfils", "(I)Z"⟩, 19) := ⟨⟨by decide +kernel, by decide +kernel⟩, List.mem_of_getElem? (i := 732) (by decide +kernel), List.mem_of_getElem? (i := 1019) (by decide +kernel), List.mem_of_getElem? (i := 1020) (by decide +kernel)⟩
def lw_privs_4 : List (MethodName × Nat) := [(⟨"FactorMatchModel", "layMatcher", "(I)V"⟩, 19), (⟨"FactorMatchModel", "isStrange", "()Z"⟩, 19), (⟨"FactorMatchModel", "isTooMuch", "()Z"⟩, 19), (⟨"FactorMatchModel", "rewritten", "(I)I"⟩, 19), (⟨"FactorMatchModel", "rightUpTo", "()I"⟩, 19), (⟨"FactorMatchModel", "takes", "(I)Z"⟩, 19), (⟨"FactorMatchModel", "areWithin", "(I)Z"⟩, 19), (⟨"FactorMatchModel", "allFactors", "()I"⟩, 19), (⟨"FactorMatchModel", "solutionsOf", "(I)I"⟩, 19), (⟨"FactorMatchModel", "matchersBy", "(I)J"⟩, 19), (⟨"FactorMatchModel", "matchersBySets", "()J"⟩, 19), (⟨"FactorMatchModel", "withEmpty", "(I)J"⟩, 19), (⟨"FactorMatchModel", "valueOf", "(II)I"⟩, 19), (⟨"FactorMatchModel", "leastAt", "(II)I"⟩, 19), (⟨"FactorMatchModel", "layLeast", "()V"⟩, 19), (⟨"FactorMatchModel", "fulfils", "(I)Z"⟩, 19)]
theorem lw_r4 : ∀ q ∈ lw_privs_4, lw_okq q := List.forall_mem_cons.mpr ⟨lw_p48, List.forall_mem_cons.mpr ⟨lw_p49, List.forall_mem_cons.mpr ⟨lw_p50, List.forall_mem_cons.mpr ⟨lw_p51, List.forall_mem_cons.mpr ⟨lw_p52, List.forall_mem_cons.mpr ⟨lw_p53, List.forall_mem_cons.mpr ⟨lw_p54, List.forall_mem_cons.mpr ⟨lw_p55, List.forall_mem_cons.mpr ⟨lw_p56, List.forall_mem_cons.mpr ⟨lw_p57, List.forall_mem_cons.mpr ⟨lw_p58, List.forall_mem_cons.mpr ⟨lw_p59, List.forall_mem_cons.mpr ⟨lw_p60, List.forall_mem_cons.mpr ⟨lw_p61, List.forall_mem_cons.mpr ⟨lw_p62, List.forall_mem_cons.mpr ⟨lw_p63, fun _ h => absurd h List.not_mem_nil⟩⟩⟩⟩⟩⟩⟩⟩⟩⟩⟩⟩⟩⟩⟩⟩
theorem lw_p64 : lw_okq (⟨"FactorMatchModel", "differenceOf", "(I)I"⟩, 19) := ⟨⟨by decide +kernel, by decide +kernel⟩, List.mem_of_getElem? (i := 732) (by decide +kernel), List.mem_of_getElem? (i := 1023) (by decide +kernel), List.mem_of_getElem? (i := 1024) (by decide +kernel)⟩
theorem lw_p65 : lw_okq (⟨"FactorMatchModel", "isLeast", "(I)Z"⟩, 19) := ⟨⟨by decide +kernel, by decide +kernel⟩, List.mem_of_getElem? (i := 732) (by decide +kernel), List.mem_of_getElem? (i := 1030) (by decide +kernel), List.mem_of_getElem? (i := 1031) (by decide +kernel)⟩
theorem lw_p66 : lw_okq (⟨"FactorMatchModel", "isAbove", "(II)Z"⟩, 19) := ⟨⟨by decide +kernel, by decide +kernel⟩, List.mem_of_getElem? (i := 732) (by decide +kernel), List.mem_of_getElem? (i := 1034) (by decide +kernel), List.mem_of_getElem? (i := 1035) (by decide +kernel)⟩
theorem lw_p67 : lw_okq (⟨"FactorMatchModel", "sumsTo", "(IIII)I"⟩, 19) := ⟨⟨by decide +kernel, by decide +kernel⟩, List.mem_of_getElem? (i := 732) (by decide +kernel), List.mem_of_getElem? (i := 1045) (by decide +kernel), List.mem_of_getElem? (i := 1046) (by decide +kernel)⟩
theorem lw_p68 : lw_okq (⟨"FactorMatchModel", "counted", "(I)I"⟩, 19) := ⟨⟨by decide +kernel, by decide +kernel⟩, List.mem_of_getElem? (i := 732) (by decide +kernel), List.mem_of_getElem? (i := 1053) (by decide +kernel), List.mem_of_getElem? (i := 1054) (by decide +kernel)⟩
theorem lw_p69 : lw_okq (⟨"FactorMatchModel", "leastCount", "()I"⟩, 19) := ⟨⟨by decide +kernel, by decide +kernel⟩, List.mem_of_getElem? (i := 732) (by decide +kernel), List.mem_of_getElem? (i := 1057) (by decide +kernel), List.mem_of_getElem? (i := 1058) (by decide +kernel)⟩
theorem lw_p70 : lw_okq (⟨"FactorMatchModel", "greatestLeast", "()I"⟩, 19) := ⟨⟨by decide +kernel, by decide +kernel⟩, List.mem_of_getElem? (i := 732) (by decide +kernel), List.mem_of_getElem? (i := 1061) (by decide +kernel), List.mem_of_getElem? (i := 1062) (by decide +kernel)⟩
theorem lw_p71 : lw_okq (⟨"FactorMatchModel", "negativeRests", "()I"⟩, 19) := ⟨⟨by decide +kernel, by decide +kernel⟩, List.mem_of_getElem? (i := 732) (by decide +kernel), List.mem_of_getElem? (i := 1065) (by decide +kernel), List.mem_of_getElem? (i := 1066) (by decide +kernel)⟩
theorem lw_p72 : lw_okq (⟨"FactorMatchModel", "areSame", "()Z"⟩, 19) := ⟨⟨by decide +kernel, by decide +kernel⟩, List.mem_of_getElem? (i := 732) (by decide +kernel), List.mem_of_getElem? (i := 1069) (by decide +kernel), List.mem_of_getElem? (i := 1070) (by decide +kernel)⟩
theorem lw_p73 : lw_okq (⟨"FactorMatchModel", "inCommon", "()I"⟩, 19) := ⟨⟨by decide +kernel, by decide +kernel⟩, List.mem_of_getElem? (i := 732) (by decide +kernel), List.mem_of_getElem? (i := 1073) (by decide +kernel), List.mem_of_getElem? (i := 1074) (by decide +kernel)⟩
theorem lw_p74 : lw_okq (⟨"FactorMatchModel", "moreThen", "(II)J"⟩, 19) := ⟨⟨by decide +kernel, by decide +kernel⟩, List.mem_of_getElem? (i := 732) (by decide +kernel), List.mem_of_getElem? (i := 1085) (by decide +kernel), List.mem_of_getElem? (i := 1086) (by decide +kernel)⟩
theorem lw_p75 : lw_okq (⟨"FactorMatchModel", "rewrittenThen", "(II)I"⟩, 19) := ⟨⟨by decide +kernel, by decide +kernel⟩, List.mem_of_getElem? (i := 732) (by decide +kernel), List.mem_of_getElem? (i := 1093) (by decide +kernel), List.mem_of_getElem? (i := 1094) (by decide +kernel)⟩
theorem lw_p76 : lw_okq (⟨"FactorMatchModel", "shortestNow", "(I)I"⟩, 19) := ⟨⟨by decide +kernel, by decide +kernel⟩, List.mem_of_getElem? (i := 732) (by decide +kernel), List.mem_of_getElem? (i := 1101) (by decide +kernel), List.mem_of_getElem? (i := 1102) (by decide +kernel)⟩
theorem lw_p77 : lw_okq (⟨"FactorMatchModel", "factorsOfValue", "(I)I"⟩, 19) := ⟨⟨by decide +kernel, by decide +kernel⟩, List.mem_of_getElem? (i := 732) (by decide +kernel), List.mem_of_getElem? (i := 1105) (by decide +kernel), List.mem_of_getElem? (i := 1106) (by decide +kernel)⟩
theorem lw_p78 : lw_okq (⟨"FactorMatchModel", "share", "()D"⟩, 19) := ⟨⟨by decide +kernel, by decide +kernel⟩, List.mem_of_getElem? (i := 732) (by decide +kernel), List.mem_of_getElem? (i := 1113) (by decide +kernel), List.mem_of_getElem? (i := 1114) (by decide +kernel)⟩
theorem lw_p79 : lw_okq (⟨"FactorMatchModel", "mix", "(J)V"⟩, 19) := ⟨⟨by decide +kernel, by decide +kernel⟩, List.mem_of_getElem? (i := 732) (by decide +kernel), List.mem_of_getElem? (i := 1122) (by decide +kernel), List.mem_of_getElem? (i := 1123) (by decide +kernel)⟩
def lw_privs_5 : List (MethodName × Nat) := [(⟨"FactorMatchModel", "differenceOf", "(I)I"⟩, 19), (⟨"FactorMatchModel", "isLeast", "(I)Z"⟩, 19), (⟨"FactorMatchModel", "isAbove", "(II)Z"⟩, 19), (⟨"FactorMatchModel", "sumsTo", "(IIII)I"⟩, 19), (⟨"FactorMatchModel", "counted", "(I)I"⟩, 19), (⟨"FactorMatchModel", "leastCount", "()I"⟩, 19), (⟨"FactorMatchModel", "greatestLeast", "()I"⟩, 19), (⟨"FactorMatchModel", "negativeRests", "()I"⟩, 19), (⟨"FactorMatchModel", "areSame", "()Z"⟩, 19), (⟨"FactorMatchModel", "inCommon", "()I"⟩, 19), (⟨"FactorMatchModel", "moreThen", "(II)J"⟩, 19), (⟨"FactorMatchModel", "rewrittenThen", "(II)I"⟩, 19), (⟨"FactorMatchModel", "shortestNow", "(I)I"⟩, 19), (⟨"FactorMatchModel", "factorsOfValue", "(I)I"⟩, 19), (⟨"FactorMatchModel", "share", "()D"⟩, 19), (⟨"FactorMatchModel", "mix", "(J)V"⟩, 19)]
theorem lw_r5 : ∀ q ∈ lw_privs_5, lw_okq q := List.forall_mem_cons.mpr ⟨lw_p64, List.forall_mem_cons.mpr ⟨lw_p65, List.forall_mem_cons.mpr ⟨lw_p66, List.forall_mem_cons.mpr ⟨lw_p67, List.forall_mem_cons.mpr ⟨lw_p68, List.forall_mem_cons.mpr ⟨lw_p69, List.forall_mem_cons.mpr ⟨lw_p70, List.forall_mem_cons.mpr ⟨lw_p71, List.forall_mem_cons.mpr ⟨lw_p72, List.forall_mem_cons.mpr ⟨lw_p73, List.forall_mem_cons.mpr ⟨lw_p74, List.forall_mem_cons.mpr ⟨lw_p75, List.forall_mem_cons.mpr ⟨lw_p76, List.forall_mem_cons.mpr ⟨lw_p77, List.forall_mem_cons.mpr ⟨lw_p78, List.forall_mem_cons.mpr ⟨lw_p79, fun _ h => absurd h List.not_mem_nil⟩⟩⟩⟩⟩⟩⟩⟩⟩⟩⟩⟩⟩⟩⟩⟩
theorem lw_p80 : lw_okq (⟨"FactorMatchModel", "mixMatcher", "(I)V"⟩, 19) := ⟨⟨by decide +kernel, by decide +kernel⟩, List.mem_of_getElem? (i := 732) (by decide +kernel), List.mem_of_getElem? (i := 1127) (by decide +kernel), List.mem_of_getElem? (i := 1128) (by decide +kernel)⟩
def lw_privs_6 : List (MethodName × Nat) := [(⟨"FactorMatchModel", "mixMatcher", "(I)V"⟩, 19)]
theorem lw_r6 : ∀ q ∈ lw_privs_6, lw_okq q := List.forall_mem_cons.mpr ⟨lw_p80, fun _ h => absurd h List.not_mem_nil⟩
def lw_privs : List (MethodName × Nat) := lw_privs_1 ++ (lw_privs_2 ++ (lw_privs_3 ++ (lw_privs_4 ++ (lw_privs_5 ++ (lw_privs_6)))))
def lw_tbl : List Cond := k2_sels lw_privs ++ tables_1
theorem lw_privs_ok : ∀ q ∈ lw_privs, lw_okq q := by
  show ∀ q ∈ lw_privs_1 ++ (lw_privs_2 ++ (lw_privs_3 ++ (lw_privs_4 ++ (lw_privs_5 ++ (lw_privs_6))))), lw_okq q
  exact List.forall_mem_append.mpr ⟨lw_r1, List.forall_mem_append.mpr ⟨lw_r2, List.forall_mem_append.mpr ⟨lw_r3, List.forall_mem_append.mpr ⟨lw_r4, List.forall_mem_append.mpr ⟨lw_r5, lw_r6⟩⟩⟩⟩⟩
/-- the streams that the claim lets the run draw from -/
abbrev lw_cs : List Choice := [Jvm.Choice.named "NaN.bits"]
theorem lw_bits : nanBits ∈ lw_cs := by first | decide | exact List.mem_cons_self | simp [lw_cs, nanBits]
end
section
/-! ===== BEGIN words of one list among another's, by their places ===== -/
theorem goodIn_r {big : List Cond} (ws : List Cond) (ps : List Nat) (hp : ws = ps.filterMap (fun i => big[i]?)) (h : ws.all goodWord = true) : GoodIn big ws := by
  intro w hw
  have h1 := List.all_eq_true.mp h w hw
  rw [hp] at hw
  obtain ⟨i, -, hi⟩ := List.mem_filterMap.mp hw
  have hm : w ∈ big := by first | exact List.mem_of_getElem? hi | exact List.getElem?_mem hi
  exact ⟨hm, good_of_word h1⟩
theorem goodIn_app {big a b : List Cond} (ha : GoodIn big a) (hb : GoodIn big b) : GoodIn big (a ++ b) := fun w h => (List.mem_append.mp h).elim (ha w) (hb w)
theorem goodIn_ca {big a b : List Cond} {c : Cond} (ha : GoodIn big (c :: a)) (hb : GoodIn big b) : GoodIn big (c :: (a ++ b)) := fun w h => (List.mem_cons.mp h).elim (fun e => ha w (List.mem_cons.mpr (Or.inl e))) (fun h => (List.mem_append.mp h).elim (fun h => ha w (List.mem_cons.mpr (Or.inr h))) (hb w))
theorem goodIn_sub {big ws : List Cond} (hm : ∀ w ∈ ws, w ∈ big) (h : ws.all goodWord = true) : GoodIn big ws := fun w hw => ⟨hm w hw, good_of_word (List.all_eq_true.mp h w hw)⟩
/-! ===== END ===== -/

/-! ===== BEGIN new T[n][m]: the outer array a place, the inner ones among the pooled ===== -/
/-- f, but v at every address of l -/
def vr_up {α : Type} (f : Nat → α) (l : List Nat) (v : α) : Nat → α := fun a => if a ∈ l then v else f a
theorem vr_up_in {α : Type} {f : Nat → α} {l : List Nat} {v : α} {a : Nat} (h : a ∈ l) : vr_up f l v a = v := if_pos h
theorem vr_up_ne {α : Type} {f : Nat → α} {l : List Nat} {v : α} {a : Nat} (h : a ∉ l) : vr_up f l v a = f a := if_neg h
theorem vr_rows {L l : List Nat} {f : Nat → va_E} {e : va_E} (h : ∀ a, a ∈ l → a ∉ L) : va_pl L f ++ l.map (fun a => (a, e)) = va_pl (L ++ l) (vr_up f l e) := by
  unfold va_pl
  rw [List.map_append]
  congr 1
  · apply List.map_congr_left
    intro a ha
    rw [vr_up_ne (fun q => h a q ha)]
  · apply List.map_congr_left
    intro a ha
    rw [vr_up_in ha]
theorem vr_lay {X rows : va_W} {x : Nat × va_E} {pl : va_W} {D : va_G} {cl : List vw_C} {H : Heap} (hP : va_P D cl (((X ++ pl) ++ [x]) ++ rows) H) : va_P D cl ((X ++ [x]) ++ (pl ++ rows)) H := by
  rw [List.append_assoc (X ++ pl)] at hP
  have h := va_P.swap hP
  rw [← List.append_assoc X] at h
  have h2 := va_P.swap h
  rw [List.append_assoc (X ++ [x])] at h2
  exact h2
theorem vr_layD {X rows : va_W} {x : Nat × va_E} {pl : va_W} {A : Nat → Prop} (hD : va_D A (((X ++ pl) ++ [x]) ++ rows)) : va_D A ((X ++ [x]) ++ (pl ++ rows)) := by
  rw [List.append_assoc (X ++ pl)] at hD
  have h := va_D.swap hD
  rw [← List.append_assoc X] at h
  have h2 := va_D.swap h
  rw [List.append_assoc (X ++ [x])] at h2
  exact h2
theorem vr_outer (c : ClassId) (N h0 : Nat) : ∀ i : Nat, Jvm.Free.Multi.outerC c N h0 i = arrV c N (fun j => va_rf (if j < i then some (h0 + 1 + j) else none))
  | 0 => by
    show ({ cls := c, slots := Array.replicate N .null, vm := .none } : Cell) = _
    rw [arrV_new]
    refine congrArg (arrV c N) (funext fun j => ?_)
    simp [va_rf]
  | i + 1 => by
    show (Jvm.Free.Multi.outerC c N h0 i).setSlot i (.ref (h0 + 1 + i)) = _
    rw [vr_outer c N h0 i, arrV_store]
    refine congrArg (arrV c N) (funext fun j => ?_)
    by_cases e : j = i
    · subst e
      simp [updV, va_rf]
    · by_cases h : j < i
      · simp [updV, e, h, Nat.lt_succ_of_lt h]
      · simp [updV, e, h, show ¬ j < i + 1 by omega]
section VGM
variable {p : Program} {l : Launch} {e : Env} {R : Room} {s : State} {m : MethodId} {args : Array Value} {below : List Frame} {meth : Method} {c : Code} {H : Heap} {locs : List Loc} {cells slots : Nat} {Q : State → Prop}
variable {cc : ByteArray} {pc : Nat} {ls : Array Slot} {rest : List Value} {D : va_G} {cl : List vw_C} {A : Nat → Prop} {a : Nat} {tys : List (ClassId × FieldType)} {ws : va_W} {H0 : Heap}
def va_AOA (ty : FieldType) (U : State) : Prop := (Cond.arrayOver (.array ty)).before #[] U = true
theorem va_AOA.use {ty : FieldType} {A : Array Value} {U : State} (h : va_AOA ty U) : (Cond.arrayOver (.array ty)).before A U = true := h
theorem va_mna {X : va_W} {L : List Nat} {f : Nat → va_E} {cc : ByteArray} (hexec : p.tables.exec = Jvm.exec) (hb : c.code = cc) {own : String} {index : Nat} {ty : FieldType} {cy : ClassId} (hown : s.vm.findClass own = some m.cls) (hclink : (Cond.classLink own index ("[" ++ (FieldType.array ty).toString)).before args s = true) (hover : va_AOA ty s) (harr : (Cond.arrayClass ty).before args s = true) (hcy : s.vm.findClass (FieldType.array ty).toString = some cy)
    (hK : va_K D cl tys s) (hP : va_P D cl (X ++ va_pl L f) H) (hD : va_D A (X ++ va_pl L f)) (hS : va_S A H0 H locs) (hA : ∀ q, H0.size ≤ q → A q) {n k : Int32} {N' K' : Nat} {z : vp_A} (hn : ¬ n < 0) (hk : ¬ k < 0) (hN : n.toNatClampNeg = N') (hM : k.toNatClampNeg = K')
    (hb1 : N' * 4 ≤ 536870912) (hb2 : K' * componentBytes ty ≤ 536870912) (hb3 : K' ≤ 536870912) (hdf : fits ty (defaultValue ty) = true) (hdd : (defaultValue ty).isDefault = true) (hcells : cells + (1 + N') ≤ R.cells) (hslots : slots + (N' + N' * K') ≤ R.slots) (hz : ∀ c : ClassId, Jvm.Free.Multi.innerC c K' (defaultValue ty) = vp_cell c z) (hdg : decode cc pc = .ok (.multianewarray index 2, 4))
    (kk : ∀ (q : Nat) (r : Nat → Nat) (cA : ClassId) (H1 : Heap), (∀ i j : Nat, i < N' → j < N' → r i = r j → i = j) → (∀ i : Nat, i < N' → r i ∉ L) → va_K D cl (tys ++ [(cA, .array ty)]) s →
      va_P D cl ((X ++ [(q, .inl (cA, N', .inr (.inr (.inr (.inr (fun i => if i < N' then some (r i) else none))))))]) ++ va_pl (L ++ (List.range N').map r) (vr_up f ((List.range N').map r) (.inl (cy, z)))) H1 → va_D A ((X ++ [(q, .inl (cA, N', .inr (.inr (.inr (.inr (fun i => if i < N' then some (r i) else none))))))]) ++ va_pl (L ++ (List.range N').map r) (vr_up f ((List.range N').map r) (.inl (cy, z)))) → va_S A H0 H1 locs →
      W p l e R s m args below meth c H1 locs (cells + 1 + N') (slots + N' + N' * K') Q (F0 m (pc + 4) ls (.ref q :: rest))) : W p l e R s m args below meth c H locs cells slots Q (F0 m pc ls (.int k :: .int n :: rest)) := by
  subst hN
  subst hM
  intro T hT Xs
  obtain ⟨vm₁, cA, comp, -, fA, fC, hO, -, X', step⟩ := Xs.multianewarray2F hexec hown hclink (va_AOA.use hover) harr (g := F0 m pc ls (.int k :: .int n :: rest)) rfl (by rw [hb]; exact hdg) rfl hn hk hb1 hb2 hb3 hdf hdd hcells hslots
  have ec : some cy = some comp := hcy.symm.trans fC
  cases ec
  generalize hF : Jvm.Free.Multi.fill (T.setVm vm₁) cA cy n.toNatClampNeg k.toNatClampNeg (defaultValue ty) n.toNatClampNeg = F at X' step
  have hTh : (T.setVm vm₁).heap = H := hT
  obtain ⟨f1, f2, -, -⟩ := Jvm.Free.Multi.fill_facts (T.setVm vm₁) cA cy n.toNatClampNeg k.toNatClampNeg (defaultValue ty) n.toNatClampNeg
  rw [hF, hTh] at f1 f2
  have hold : ∀ x : Nat, x < H.size → F.heap[x]? = H[x]? := fun x hx => by
    have := Jvm.Free.Multi.fill_old (T.setVm vm₁) cA cy n.toNatClampNeg k.toNatClampNeg (defaultValue ty) (a := x) (by rw [hTh]; exact hx) n.toNatClampNeg
    rw [hF, hTh] at this
    exact this
  have hrow : ∀ j : Nat, j < n.toNatClampNeg → F.heap[H.size + 1 + j]? = some (vp_cell cy z) := fun j hj => by
    have := Jvm.Free.Multi.fill_inner (T.setVm vm₁) cA cy n.toNatClampNeg k.toNatClampNeg (defaultValue ty) n.toNatClampNeg j hj
    rw [hF, hTh, hz] at this
    exact this
  have hout : Jvm.Free.Multi.outerC cA n.toNatClampNeg H.size n.toNatClampNeg = vp_cell cA (n.toNatClampNeg, .inr (.inr (.inr (.inr (fun i => if i < n.toNatClampNeg then some (H.size + 1 + i) else none))))) := by
    rw [vp_cell_q]
    exact vr_outer cA n.toNatClampNeg H.size n.toNatClampNeg
  rw [hout] at f2
  have hlt : ∀ a, a ∈ L → a < H.size := fun a ha => by
    obtain ⟨k9, hk9⟩ := va_pl_get (X := X) (f := f) ha
    exact (hP k9 _ hk9).lt
  have hnl : ∀ i : Nat, i < n.toNatClampNeg → H.size + 1 + i ∉ L := fun i _ h => by
    have := hlt _ h
    omega
  have hnm : ∀ a, a ∈ (List.range n.toNatClampNeg).map (fun i => H.size + 1 + i) → a ∉ L := fun a ha h => by
    obtain ⟨i, -, rfl⟩ := List.mem_map.mp ha
    have := hlt _ h
    omega
  have hP0 : va_P D cl (X ++ va_pl L f) F.heap := hP.kept (fun k9 x hx => hold x.1 ((hP k9 x hx).lt))
  have hP1 : va_P D cl ((X ++ va_pl L f) ++ [(H.size, .inl (cA, n.toNatClampNeg, .inr (.inr (.inr (.inr (fun i => if i < n.toNatClampNeg then some (H.size + 1 + i) else none))))))]) F.heap := hP0.app (fun k9 x hx => by
    have h0 : k9 < 1 := (List.getElem?_eq_some_iff.mp hx).1
    rw [show k9 = 0 by omega] at hx
    cases hx
    exact f2)
  have hP2 : va_P D cl (((X ++ va_pl L f) ++ [(H.size, .inl (cA, n.toNatClampNeg, .inr (.inr (.inr (.inr (fun i => if i < n.toNatClampNeg then some (H.size + 1 + i) else none))))))]) ++ ((List.range n.toNatClampNeg).map (fun i => H.size + 1 + i)).map (fun a => (a, .inl (cy, z)))) F.heap := hP1.app (fun k9 x hx => by
    obtain ⟨a, ha, rfl⟩ := List.mem_map.mp (List.mem_of_getElem? hx)
    obtain ⟨i, hi, rfl⟩ := List.mem_map.mp ha
    exact hrow i (List.mem_range.mp hi))
  have hD2 : va_D A (((X ++ va_pl L f) ++ [(H.size, .inl (cA, n.toNatClampNeg, .inr (.inr (.inr (.inr (fun i => if i < n.toNatClampNeg then some (H.size + 1 + i) else none))))))]) ++ ((List.range n.toNatClampNeg).map (fun i => H.size + 1 + i)).map (fun a => (a, .inl (cy, z)))) := by
    have hD1 := hD.push (e := .inl (cA, n.toNatClampNeg, .inr (.inr (.inr (.inr (fun i => if i < n.toNatClampNeg then some (H.size + 1 + i) else none)))))) hP rfl (hA _ hS.1)
    generalize hW1 : (X ++ va_pl L f) ++ [(H.size, .inl (cA, n.toNatClampNeg, .inr (.inr (.inr (.inr (fun i => if i < n.toNatClampNeg then some (H.size + 1 + i) else none))))))] = W1 at hD1 hP1 ⊢
    have hle : ∀ (k9 : Nat) (x : Nat × va_E), W1[k9]? = some x → x.1 ≤ H.size := fun k9 x hx => by
      rw [← hW1] at hx
      by_cases hl : k9 < (X ++ va_pl L f).length
      · rw [List.getElem?_append_left hl] at hx
        exact Nat.le_of_lt ((hP k9 x hx).lt)
      · rw [List.getElem?_append_right (by omega)] at hx
        have h0 : k9 - (X ++ va_pl L f).length < 1 := (List.getElem?_eq_some_iff.mp hx).1
        rw [show k9 - (X ++ va_pl L f).length = 0 by omega] at hx
        cases hx
        exact Nat.le_refl _
    have hr : ∀ (k9 : Nat) (x : Nat × va_E), (((List.range n.toNatClampNeg).map (fun i => H.size + 1 + i)).map (fun a => ((a, .inl (cy, z)) : Nat × va_E)))[k9]? = some x → x.1 = H.size + 1 + k9 := fun k9 x hx => by
      rw [List.getElem?_map, List.getElem?_map] at hx
      by_cases h9 : k9 < n.toNatClampNeg
      · rw [List.getElem?_range h9] at hx
        cases hx
        rfl
      · have hn0 : (List.range n.toNatClampNeg)[k9]? = none := List.getElem?_eq_none (by rw [List.length_range]; omega)
        rw [hn0] at hx
        cases hx
    refine ⟨fun i j x y hi hj hxy => ?_, fun k9 x hx => ?_⟩
    · by_cases h1 : i < W1.length <;> by_cases h2 : j < W1.length
      · rw [List.getElem?_append_left h1] at hi
        rw [List.getElem?_append_left h2] at hj
        exact hD1.1 i j x y hi hj hxy
      · rw [List.getElem?_append_left h1] at hi
        rw [List.getElem?_append_right (by omega)] at hj
        have := hle _ _ hi
        have := hr _ _ hj
        omega
      · rw [List.getElem?_append_right (by omega)] at hi
        rw [List.getElem?_append_left h2] at hj
        have := hle _ _ hj
        have := hr _ _ hi
        omega
      · rw [List.getElem?_append_right (by omega)] at hi hj
        have := hr _ _ hi
        have := hr _ _ hj
        omega
    · by_cases h1 : k9 < W1.length
      · rw [List.getElem?_append_left h1] at hx
        exact hD1.2 k9 x hx
      · rw [List.getElem?_append_right (by omega)] at hx
        have := hr _ _ hx
        exact hA _ (by have := hS.1; omega)
  have hAr : ArrOfT s cA (.array ty) := fun N9 z9 => by
    obtain ⟨-, k9, hk9, cm9, hkk9⟩ := (hO 0 0 0).1
    exact ⟨(fun q hq => by cases hq), k9, hk9, cm9, hkk9⟩
  have hK2 : va_K D cl (tys ++ [(cA, .array ty)]) s := ⟨hK.1, fun k9 x hx => by
    by_cases hl : k9 < tys.length
    · rw [List.getElem?_append_left hl] at hx
      exact hK.2 k9 x hx
    · rw [List.getElem?_append_right (by omega)] at hx
      have h0 : k9 - tys.length < 1 := (List.getElem?_eq_some_iff.mp hx).1
      rw [show k9 - tys.length = 0 by omega] at hx
      cases hx
      exact ⟨hAr, fA⟩⟩
  obtain ⟨t, a1, b1⟩ := kk H.size (fun i => H.size + 1 + i) cA F.heap (fun i j _ _ h => by have h9 : H.size + 1 + i = H.size + 1 + j := h; omega) hnl hK2 (by rw [← vr_rows hnm]; exact vr_lay hP2) (by rw [← vr_rows hnm]; exact vr_layD hD2) ⟨by rw [f1]; have := hS.1; omega, fun x h1 h2 => (hold x (Nat.lt_of_lt_of_le h1 hS.1)).trans (hS.2.1 x h1 h2), hS.2.2⟩ F rfl X'
  refine ⟨t, step t ?_, b1⟩
  have e : T.heap.size = H.size := by rw [hT]
  rw [e]
  exact a1
end VGM
/-! ===== END ===== -/

/-! ===== BEGIN exceptions that leave a method, and their catching by the caller (launches without stack traces) ===== -/
section VXA
/-! The laws vx_back, vx_callV, vx_callS, vx_callSW, vx_throw0, vx_throwS follow proofs of the library, with one case more: JvmDerived/Free/Laws.lean (Back.of_free), Shelf42/LK1.lean (callV, callS), Shelf/KitTraced.lean (throwNew0V, throwNewS). -/
/-- where a method has thrown q: the class by its name, the cell, what was written, the world -/
def vx_T (XC : String → State → State → Prop) (st : State) (q : Addr) (t : State) (mc ms : Nat) (free : Addr → Prop) : Prop :=
  ∃ (E : String) (ce : Cell) (L : List Loc), XC E st t ∧ t.heap[q]? = some ce ∧ ce.vm = .none ∧ st.vm.findClass E = some ce.cls ∧ st.WarmedH t.vm ∧ st.sameButNew ({ t with vm := st.vm } : State) L mc ms ∧ ∀ z ∈ L, free z.base
def vx_Q (Qc : Array Value → State → Outcome → State → Prop) (XC : String → State → State → Prop) (mc ms : Nat) (free : Addr → Prop) : Array Value → State → Outcome → State → Prop := fun a st o t =>
  (Qc a st o t ∧ ∃ L, FrameEnd st o t L mc ms ∧ ∀ q ∈ L, free q.base) ∨ ∃ q, o = .threw q ∧ vx_T XC st q t mc ms free
/-- a callee that returns or throws -/
def vx_Met (l : Launch) (y : MethodName) (ws : List Cond) (rm : Room) (Pc : Array Value → State → Prop) (Qc : Array Value → State → Outcome → State → Prop) (XC : String → State → State → Prop) (mc ms : Nat) (free : Addr → Prop) : Prop :=
  MetFree l y (headSpec ws rm) Pc (fun _ _ _ _ _ => True) (vx_Q Qc XC mc ms free)
def vx_Post (XC : String → State → State → Prop) (mc ms : Nat) (free : Addr → Prop) : Pt → Array Value → Addr → Pt → Prop := fun A a q B =>
  ∃ (g : JFrame) (mk : MethodId) (t : State) (L : List Loc) (E : String) (ce : Cell), B.U.heap = t.heap ∧ B.U.vm = t.vm ∧ XC E (A.U.calling g mk a) t ∧ t.heap[q]? = some ce ∧ ce.vm = .none ∧ A.U.vm.findClass E = some ce.cls ∧ B.locs = A.locs ++ L ∧ (∀ z ∈ L, free z.base) ∧ B.cells = A.cells + mc ∧ B.slots = A.slots + ms
def vx_Back (l : Launch) (R : Room) (p : Program) (e : Env) (below : List Frame) (s : State) (sargs : Array Value) (y : MethodName) (len W9 : Nat)
    (Pre : Pt → Array Value → Prop) (Post : Pt → Array Value → Option Value → Pt → Prop) (PostX : Pt → Array Value → Addr → Pt → Prop) : Prop :=
  ∀ (m : MethodId) (meth : Method) (c : Code) (A : Pt) (g : JFrame) (ig : Instr) (mk : MethodId) (a : Array Value),
    Stand p l e R s m sargs below meth c A.U A.locs A.cells A.slots → g.method = m → g.locals.size = c.maxLocals → decode c.code g.pc = .ok (ig, len) →
    2 * g.monitorRoom + (g.stack.map fun v => v.category).sum ≤ W9 → A.U.methodNamed? y = some mk → Pre A a →
    (∃ (v : Option Value) (B : Pt), Stand p l e R s m sargs below meth c B.U B.locs B.cells B.slots ∧ Post A a v B ∧
      Steps p.tables e below (doInvoke e (A.U.setTop g) [] mk a).1 (B.U.setTop { g with pc := g.pc + len, stack := v.toList ++ g.stack })) ∨
    (∃ (q : Addr) (B : Pt), Stand p l e R s m sargs below meth c B.U B.locs B.cells B.slots ∧ PostX A a q B ∧
      Steps p.tables e below (doInvoke e (A.U.setTop g) [] mk a).1 ((B.U.setTop g).pushFrame (.throwing q)))
section Payer
variable {l : Launch} {R : Room} {p : Program} {e : Env} {below : List Frame} {s : State} {sargs : Array Value} {y : MethodName} {len W9 : Nat}
theorem vx_back {ws : List Cond} {rm : Room} {Pc : Array Value → State → Prop} {Qc : Array Value → State → Outcome → State → Prop} {XC : String → State → State → Prop} {mc ms : Nat} {free : Addr → Prop} {bytes : ByteArray} {maxL : Nat} {ret : Option FieldType}
    (hM : vx_Met l y ws rm Pc Qc XC mc ms free) (hblind : FrameBlind Pc) (hrc : rm.cells = mc) (hrs : rm.slots = ms)
    (hframes : rm.frames + 1 ≤ R.frames) (hlocals : W9 + (maxL + 11) + rm.locals ≤ R.locals)
    (hws : ∀ w ∈ ws, ∀ a' U, s.WarmedH U.vm → w.before a' U = true) (hcode : Cond.code y bytes maxL ret ∈ ws) (hinit : ∀ a' U, s.WarmedH U.vm → (Cond.initialized y.cls).before a' U = true) :
    vx_Back l R p e below s sargs y len W9 (PreOf R mc ms Pc) (PostOf Qc mc ms free) (vx_Post XC mc ms free) := by
  intro m meth c A g ig mk a X hg hsize hdg hW hn hp
  have h1 : (headSpec ws rm).pre.before a A.U = true := atoms_intro fun w hw => hws w hw _ _ X.warmed
  have h2 : (Cond.code y bytes maxL ret).before a A.U = true := hws _ hcode _ _ X.warmed
  have h3 : (Cond.initialized y.cls).before a A.U = true := hinit _ _ X.warmed
  have h4 : A.cells + (headSpec ws rm).room.cells ≤ R.cells := by rw [show (headSpec ws rm).room.cells = mc from hrc]; exact hp.1
  have h5 : A.slots + (headSpec ws rm).room.slots ≤ R.slots := by rw [show (headSpec ws rm).room.slots = ms from hrs]; exact hp.2.1
  have hPc : Pc a (A.U.calling g mk a) := hblind _ _ _ _ hp.2.2
  obtain ⟨U, Ls, c0, s0⟩ := A
  dsimp only [Pt.U, Pt.locs, Pt.cells, Pt.slots] at h1 h2 h3 h4 h5 X hn hPc ⊢
  obtain ⟨methY, cY, hmY, hcY, -, hlY, -, -, -, -⟩ := Cond.code_spec hn h2
  obtain ⟨kY, hkY, -⟩ := className_of_methodNamed hn
  have hinitY : kY.init = .initialized := Cond.initialized_spec (findClass_of_methodNamed hn) hkY h3
  have h : At U g.method c below := by rw [hg]; exact X.here
  have hlocals9 : W9 + (maxL + 11) + (headSpec ws rm).room.locals ≤ R.locals := hlocals
  have happ : (headSpec ws rm).appliesLoose y e.platform (U.calling g mk a) = true :=
    Spec.appliesLoose_calling (g := g) h hdg hn hkY hinitY
      (X.room_calling (g := g) (R' := (headSpec ws rm).room) hsize hmY hcY hframes (by rw [hlY]; omega) h4 h5) h1
  obtain ⟨mid, hmid⟩ := h.above
  have hfr : (U.setTop g).frames = (.java g :: mid) ++ below := by rw [State.frames_setTop' g h.top, hmid]; rfl
  obtain ⟨o, s₂, hsteps, -, hend, hq⟩ := Steps.callFree hM p X.admits X.cas X.clock (acts := []) hfr happ hPc trivial
  have hq' : vx_Q Qc XC mc ms free a (U.calling g mk a) o s₂ := hq
  rw [State.frames_setTop' g h.top] at hend
  obtain ⟨g₀, hg0⟩ := Option.isSome_iff_exists.mp h.top
  obtain ⟨r, hr⟩ := State.topJava?_eq_some.mp hg0
  have hr' : (({ U with heap := s₂.heap, slotsUsed := s₂.slotsUsed } : State).setVm s₂.vm).frames = .java g₀ :: r := hr
  rcases hq' with ⟨hqc, L, hfe, hL⟩ | ⟨q, rfl, E, ce, L, hx, hce, hcv, hcl, hW₂, hsm, hL⟩
  · obtain ⟨⟨v, rfl⟩, hW₂, e2, q2, q3, q4, q5, q6⟩ := id hfe
    have e3 : s₂ = ({ (U.calling g mk a).setFrames s₂.frames with heap := s₂.heap, slotsUsed := s₂.slotsUsed } : State).setVm s₂.vm := by
      have : s₂ = ({ s₂ with vm := (U.calling g mk a).vm } : State).setVm s₂.vm := rfl
      rw [e2] at this
      exact this
    obtain ⟨c₂, i₂, len₂, hc₂, hd₂, hf₂⟩ := hend
    have hW' : U.WarmedH s₂.vm := hW₂
    have hcc : c₂ = c := by
      have h1 : s₂.code? g.method = U.code? g.method := by
        rw [State.code?_eq, State.code?_eq, hW'.alike.method?]
      exact Option.some.inj (hc₂.symm.trans (h1.trans h.code))
    subst hcc
    have hlen : len₂ = len := by rw [hdg] at hd₂; cases hd₂; rfl
    subst hlen
    have hs₂ : s₂ = (({ U with heap := s₂.heap, slotsUsed := s₂.slotsUsed } : State).setVm s₂.vm).setTop { g with pc := g.pc + len₂, stack := v.toList ++ g.stack } := by
      refine e3.trans ?_
      rw [hf₂, State.calling_eq h.top, State.setFrames_setFrames, State.setTop_of_frames _ hr', hr]
      rfl
    have hsame : U.sameButNew ({ U with heap := s₂.heap, slotsUsed := s₂.slotsUsed } : State) L mc ms := by
      refine ⟨?_, q2, q3, q4, q5, q6⟩
      obtain ⟨t, ht, -⟩ := State.frames_cons hr
      show ({ U with heap := s₂.heap, slotsUsed := s₂.slotsUsed } : State) = { U.setFrames U.frames with heap := s₂.heap, slotsUsed := s₂.slotsUsed }
      rw [State.setFrames_self ht]
    subst hg
    refine Or.inl ⟨v, ⟨(({ U with heap := s₂.heap, slotsUsed := s₂.slotsUsed } : State).setVm s₂.vm), Ls ++ L, c0 + mc, s0 + ms⟩,
      ⟨X.admits, X.cas, X.clock, X.frames, X.room, X.hears, X.method, X.code, (X.here.setHeapUsed s₂.heap s₂.slotsUsed).setVm hW'.alike, X.tail, State.WarmedH.trans X.warmed hW', X.limits, X.bytes, X.same.trans (hsame.setVm s.vm)⟩,
      ⟨g, mk, s₂, L, rfl, rfl, hqc, rfl, hL, rfl, rfl⟩, ?_⟩
    show Steps p.tables e below _ ((({ U with heap := s₂.heap, slotsUsed := s₂.slotsUsed } : State).setVm s₂.vm).setTop { g with pc := g.pc + len₂, stack := v.toList ++ g.stack })
    rw [← hs₂]
    exact hsteps
  · obtain ⟨e2, q2, q3, q4, q5, q6⟩ := id hsm
    have e3 : s₂ = ({ (U.calling g mk a).setFrames s₂.frames with heap := s₂.heap, slotsUsed := s₂.slotsUsed } : State).setVm s₂.vm := by
      have : s₂ = ({ s₂ with vm := (U.calling g mk a).vm } : State).setVm s₂.vm := rfl
      rw [e2] at this
      exact this
    have hf₂ : s₂.frames = .throwing q :: .java g :: U.frames.tail := hend
    have hW' : U.WarmedH s₂.vm := hW₂
    have hs₂ : s₂ = ((({ U with heap := s₂.heap, slotsUsed := s₂.slotsUsed } : State).setVm s₂.vm).setTop g).pushFrame (.throwing q) := by
      refine e3.trans ?_
      rw [hf₂, State.calling_eq h.top, State.setFrames_setFrames, State.pushFrame, State.frames_setTop _ hr', State.setTop_of_frames _ hr', State.setFrames_setFrames, hr]
      rfl
    have hsame : U.sameButNew ({ U with heap := s₂.heap, slotsUsed := s₂.slotsUsed } : State) L mc ms := by
      refine ⟨?_, q2, q3, q4, q5, q6⟩
      obtain ⟨t, ht, -⟩ := State.frames_cons hr
      show ({ U with heap := s₂.heap, slotsUsed := s₂.slotsUsed } : State) = { U.setFrames U.frames with heap := s₂.heap, slotsUsed := s₂.slotsUsed }
      rw [State.setFrames_self ht]
    subst hg
    refine Or.inr ⟨q, ⟨(({ U with heap := s₂.heap, slotsUsed := s₂.slotsUsed } : State).setVm s₂.vm), Ls ++ L, c0 + mc, s0 + ms⟩,
      ⟨X.admits, X.cas, X.clock, X.frames, X.room, X.hears, X.method, X.code, (X.here.setHeapUsed s₂.heap s₂.slotsUsed).setVm hW'.alike, X.tail, State.WarmedH.trans X.warmed hW', X.limits, X.bytes, X.same.trans (hsame.setVm s.vm)⟩,
      ⟨g, mk, s₂, L, E, ce, rfl, rfl, hx, hce, hcv, hcl, rfl, hL, rfl, rfl⟩, ?_⟩
    show Steps p.tables e below _ (((({ U with heap := s₂.heap, slotsUsed := s₂.slotsUsed } : State).setVm s₂.vm).setTop g).pushFrame (.throwing q))
    rw [← hs₂]
    exact hsteps
end Payer
section Calls
variable {p : Program} {l : Launch} {e : Env} {R : Room} {s : State} {m : MethodId} {args : Array Value} {below : List Frame} {meth : Method} {c : Code} {T : State} {locs : List Loc} {cells slots : Nat}
theorem vx_callV (X : Stand p l e R s m args below meth c T locs cells slots) (hexec : p.tables.exec = Jvm.exec) {own C : String} {index : Nat} {y : MethodName} {bytes : ByteArray} {maxL : Nat} {ret : Option FieldType}
    (hown : s.vm.findClass own = some m.cls) (hlink : (Cond.methodLink own index y).before args s = true) (hinst : (Cond.instanceMethod y).before args s = true) (hsel : (Cond.selects C y y).before args s = true)
    (hcode : (Cond.code y bytes maxL ret).before args s = true) (hy : y.cls ≠ "java/lang/invoke/MethodHandle" ∧ y.cls ≠ "java/lang/invoke/VarHandle")
    {W9 : Nat} {Pre : Pt → Array Value → Prop} {Post : Pt → Array Value → Option Value → Pt → Prop} {PostX : Pt → Array Value → Addr → Pt → Prop} (hK : vx_Back l R p e below s args y 3 W9 Pre Post PostX)
    {b : Addr} {cellB : Cell} (hcell : T.heap[b]? = some cellB) (hobj : cellB.vm.isStatics = false) (hcls : s.vm.findClass C = some cellB.cls)
    {g : JFrame} (hg : g.method = m) (hsize : g.locals.size = c.maxLocals) {argsL rest : List Value} (hlen : ∀ sig, parseMethodDescriptor y.desc = some sig → argsL.length = sig.parameters.length)
    (hstack : g.stack = argsL.reverse ++ .ref b :: rest) (hW : 2 * g.monitorRoom + (rest.map fun v => v.category).sum ≤ W9) (hdg : decode c.code g.pc = .ok (.invokevirtual index, 3))
    (hpre : ∀ vm₁, s.WarmedH vm₁ → Pre ⟨T.setVm vm₁, locs, cells, slots⟩ (Value.ref b :: argsL).toArray) :
    (∃ (v : Option Value) (vm₁ : Vm) (B : Pt), s.WarmedH vm₁ ∧ Stand p l e R s m args below meth c B.U B.locs B.cells B.slots ∧ Post ⟨T.setVm vm₁, locs, cells, slots⟩ (Value.ref b :: argsL).toArray v B ∧
      ∀ target, Steps p.tables e below (B.U.setTop { g with pc := g.pc + 3, stack := v.toList ++ rest }) target → Steps p.tables e below (T.setTop g) target) ∨
    (∃ (q : Addr) (vm₁ : Vm) (B : Pt), s.WarmedH vm₁ ∧ Stand p l e R s m args below meth c B.U B.locs B.cells B.slots ∧ PostX ⟨T.setVm vm₁, locs, cells, slots⟩ (Value.ref b :: argsL).toArray q B ∧
      Steps p.tables e below (T.setTop g) ((B.U.setTop { g with stack := rest }).pushFrame (.throwing q))) := by
  obtain ⟨mk, methM, hnamed, hmethM, hstM, habM⟩ := Cond.instanceMethod_spec hinst
  obtain ⟨methM', cM, hmethM', -, -, -, -, -, -, hsigM⟩ := Cond.code_spec hnamed hcode
  cases hmethM.symm.trans hmethM'
  obtain ⟨c2, r2, m2, q1, q2, q3, q4, kP, hkP, hkPi⟩ := Cond.selects_spec hsel
  cases hcls.symm.trans q1
  cases (State.methodFound?_of_named hnamed hy).symm.trans q2
  cases hnamed.symm.trans q3
  have hselP : selectMethod e.platform s.vm cellB.cls mk = .method mk := by rw [Launch.admits_selectMethod X.admits]; exact q4
  obtain ⟨vm₁, X₁, hstep₁⟩ := X.invokevirtual hexec hown hlink hnamed hmethM hstM hkP hkPi hy (a := b) (cell := cellB) hcell
    (fun z h => by rw [h] at hobj; cases hobj) hselP hmethM habM hkP hkPi (g := g) hg (argsL := argsL) (rest := rest) (hlen _ hsigM) hstack hdg
  rcases hK m meth c ⟨T.setVm vm₁, locs, cells, slots⟩ { g with stack := rest } (.invokevirtual index) mk (Value.ref b :: argsL).toArray X₁ hg hsize hdg hW (X₁.named hnamed) (hpre vm₁ X₁.warmed) with ⟨v, B, X', hpost, hsteps⟩ | ⟨q, B, X', hpost, hsteps⟩
  · exact Or.inl ⟨v, vm₁, B, X₁.warmed, X', hpost, fun target h => hstep₁ _ fun acts => by rw [doInvoke_state]; exact hsteps.trans h⟩
  · exact Or.inr ⟨q, vm₁, B, X₁.warmed, X', hpost, hstep₁ _ fun acts => by rw [doInvoke_state]; exact hsteps⟩
theorem vx_callS (X : Stand p l e R s m args below meth c T locs cells slots) (hexec : p.tables.exec = Jvm.exec) {own : String} {index : Nat} {y : MethodName} {bytes : ByteArray} {maxL : Nat} {ret : Option FieldType}
    (hown : s.vm.findClass own = some m.cls) (hlink : (Cond.methodLink own index y).before args s = true) (hstat : (Cond.static y).before args s = true) (hinit : (Cond.initialized y.cls).before args s = true)
    (hcode : (Cond.code y bytes maxL ret).before args s = true) (hy : y.cls ≠ "java/lang/invoke/MethodHandle" ∧ y.cls ≠ "java/lang/invoke/VarHandle")
    {W9 : Nat} {Pre : Pt → Array Value → Prop} {Post : Pt → Array Value → Option Value → Pt → Prop} {PostX : Pt → Array Value → Addr → Pt → Prop} (hK : vx_Back l R p e below s args y 3 W9 Pre Post PostX)
    {g : JFrame} (hg : g.method = m) (hsize : g.locals.size = c.maxLocals) {argsL rest : List Value} (hlen : ∀ sig, parseMethodDescriptor y.desc = some sig → argsL.length = sig.parameters.length)
    (hstack : g.stack = argsL.reverse ++ rest) (hW : 2 * g.monitorRoom + (rest.map fun v => v.category).sum ≤ W9) (hdg : decode c.code g.pc = .ok (.invokestatic index, 3))
    (hpre : ∀ vm₁, s.WarmedH vm₁ → Pre ⟨T.setVm vm₁, locs, cells, slots⟩ argsL.toArray) :
    (∃ (v : Option Value) (vm₁ : Vm) (B : Pt), s.WarmedH vm₁ ∧ Stand p l e R s m args below meth c B.U B.locs B.cells B.slots ∧ Post ⟨T.setVm vm₁, locs, cells, slots⟩ argsL.toArray v B ∧
      ∀ target, Steps p.tables e below (B.U.setTop { g with pc := g.pc + 3, stack := v.toList ++ rest }) target → Steps p.tables e below (T.setTop g) target) ∨
    (∃ (q : Addr) (vm₁ : Vm) (B : Pt), s.WarmedH vm₁ ∧ Stand p l e R s m args below meth c B.U B.locs B.cells B.slots ∧ PostX ⟨T.setVm vm₁, locs, cells, slots⟩ argsL.toArray q B ∧
      Steps p.tables e below (T.setTop g) ((B.U.setTop { g with stack := rest }).pushFrame (.throwing q))) := by
  obtain ⟨mk, hnamed⟩ := Cond.code_named hcode
  obtain ⟨methM, cM, hmethM, -, -, -, -, -, -, hsigM⟩ := Cond.code_spec hnamed hcode
  have hstatic : methM.isStatic = true := Cond.static_spec hnamed hmethM hstat
  obtain ⟨kP, hkP, -⟩ := className_of_methodNamed hnamed
  have hinitP : kP.init = .initialized := Cond.initialized_spec (findClass_of_methodNamed hnamed) hkP hinit
  obtain ⟨vm₁, X₁, hstep₁⟩ := X.invokestatic hexec hown hlink hnamed hmethM hstatic hkP hinitP hy (g := g) hg (argsL := argsL) (rest := rest) (hlen _ hsigM) hstack hdg
  rcases hK m meth c ⟨T.setVm vm₁, locs, cells, slots⟩ { g with stack := rest } (.invokestatic index) mk argsL.toArray X₁ hg hsize hdg hW (X₁.named hnamed) (hpre vm₁ X₁.warmed) with ⟨v, B, X', hpost, hsteps⟩ | ⟨q, B, X', hpost, hsteps⟩
  · exact Or.inl ⟨v, vm₁, B, X₁.warmed, X', hpost, fun target h => hstep₁ _ fun acts => by rw [doInvoke_state]; exact hsteps.trans h⟩
  · exact Or.inr ⟨q, vm₁, B, X₁.warmed, X', hpost, hstep₁ _ fun acts => by rw [doInvoke_state]; exact hsteps⟩
end Calls
theorem vx_cls {s : State} {T : State} {vm₁ : Vm} {E : String} {k : ClassId} (hW : s.WarmedH vm₁) (h : (T.setVm vm₁).vm.findClass E = some k) : s.vm.findClass E = some k := by
  have h1 : vm₁.findClass E = some k := h
  rw [hW.alike.findClass] at h1
  exact h1
/-- the method's frame g, with q thrown over it -/
def vx_W (p : Program) (l : Launch) (e : Env) (R : Room) (s : State) (m : MethodId) (args : Array Value) (below : List Frame) (meth : Method) (c : Code) (H : Heap) (locs : List Loc) (cells slots : Nat) (Q : State → Prop) (g : JFrame) (q : Addr) : Prop :=
  ∀ T : State, T.heap = H → Stand p l e R s m args below meth c T locs cells slots → ∃ t, Steps p.tables e below ((T.setTop g).pushFrame (.throwing q)) t ∧ Q t
def vx_Run (p : Program) (l : Launch) (e : Env) (R : Room) (s : State) (m : MethodId) (args : Array Value) (below : List Frame) (meth : Method) (c : Code) (H : Heap) (locs : List Loc) (cells slots mc ms : Nat) (g : JFrame) (rest : List Value) (Qa : State → Outcome → State → Prop) (XC : String → State → State → Prop) (free : Addr → Prop) : Prop :=
  ∀ T : State, T.heap = H → Stand p l e R s m args below meth c T locs cells slots →
    (∃ (v : Option Value) (st₀ t T' : State) (L : List Loc), st₀.heap = H ∧ Stand p l e R s m args below meth c T' (locs ++ L) (cells + mc) (slots + ms) ∧ (∀ q ∈ L, free q.base) ∧ T'.heap = t.heap ∧ T'.vm = t.vm ∧ Qa st₀ (.returned v) t ∧
      Goes p e below T g T' { g with pc := g.pc + 3, stack := v.toList ++ rest }) ∨
    (∃ (q : Addr) (st₀ t T' : State) (L : List Loc) (E : String) (ce : Cell), st₀.heap = H ∧ Stand p l e R s m args below meth c T' (locs ++ L) (cells + mc) (slots + ms) ∧ (∀ z ∈ L, free z.base) ∧ T'.heap = t.heap ∧ T'.vm = t.vm ∧ XC E st₀ t ∧ t.heap[q]? = some ce ∧ ce.vm = .none ∧ s.vm.findClass E = some ce.cls ∧
      Steps p.tables e below (T.setTop g) ((T'.setTop { g with stack := rest }).pushFrame (.throwing q)))
def vx_X {S : Type} (px : S → Prop) (B : String → S → State → Prop) (A : Nat → Prop) : String → State → State → Prop := fun E st t => ∃ u : S, px u ∧ B E u t ∧ va_F A st t
section Runs
variable {p : Program} {l : Launch} {e : Env} {R : Room} {s : State} {m : MethodId} {args : Array Value} {below : List Frame} {meth : Method} {c : Code} {H : Heap} {locs : List Loc} {cells slots : Nat}
variable {y : MethodName} {bytes cc : ByteArray} {maxL nL mc ms n index : Nat} {ret : Option FieldType} {ws : List Cond} {rm : Room} {Pc : Array Value → State → Prop} {Qc : Array Value → State → Outcome → State → Prop} {XC : String → State → State → Prop} {free : Addr → Prop} {Ts : List Cond} {own C : String} {b : Addr} {As rest : List Value} {g : JFrame}
theorem vx_callBack (cb : CallB R s args own index y bytes maxL ret ws rm mc ms n) (hM : vx_Met l y ws rm Pc Qc XC mc ms free) (hbl : FrameBlind Pc) : vx_Back l R p e below s args y 3 8 (PreOf R mc ms Pc) (PostOf Qc mc ms free) (vx_Post XC mc ms free) := by
  obtain ⟨hrc, hrs, hfr, hlo, hws, hcw, -, hini, -⟩ := cb
  exact vx_back (bytes := bytes) (maxL := maxL) (ret := ret) hM hbl hrc hrs hfr hlo hws hcw (fun a' U hW => word_at hW (Or.inl (by first | rfl | simp [Cond.onTables, Cond.keeps, Cond.steady])) hini)
theorem vx_runV (S : CallFix p m c cc nL s args Ts own) (hM : vx_Met l y ws rm Pc Qc XC mc ms free) (cw : CallW R s args own C index y bytes maxL ret ws rm mc ms n) (hp : PreV s H C b Pc As)
    (hg : g.method = m) (hn : As.length = n) (hsize : g.locals.size = nL) (hstack : g.stack = As.reverse ++ .ref b :: rest) (hW : 2 * g.monitorRoom + (rest.map fun v => v.category).sum ≤ 8) (hdg : decode cc g.pc = .ok (.invokevirtual index, 3)) (hf : cells + mc ≤ R.cells ∧ slots + ms ≤ R.slots) :
    vx_Run p l e R s m args below meth c H locs cells slots mc ms g rest (Qc (Value.ref b :: As).toArray) XC free := by
  have hK : vx_Back l R p e below s args y 3 8 (PreOf R mc ms Pc) (PostOf Qc mc ms free) (vx_Post XC mc ms free) := vx_callBack cw.1 hM hp.1
  obtain ⟨⟨-, -, -, -, -, -, hcode, -, hy, hlen, hl⟩, hin, hse⟩ := cw
  obtain ⟨hx, hb, hml, ho, -⟩ := S
  obtain ⟨-, ⟨cellB, hcB, hoB, hclB⟩, hPc⟩ := hp
  intro T hT X
  rcases vx_callV X hx (C := C) (bytes := bytes) (maxL := maxL) (ret := ret) ho hl hin hse hcode hy hK (by rw [hT]; exact hcB) hoB hclB hg (hsize.trans hml.symm) (argsL := As) (rest := rest) (fun sig h => hn.trans (hlen sig h)) hstack hW (by rw [hb]; exact hdg)
    (fun vm₁ hW₁ => ⟨hf.1, hf.2, hPc (T.setVm vm₁) hT hW₁⟩) with ⟨v, vm₁, ⟨U', l2, c2, s2⟩, hW₁, X', ⟨g', mk, t, L, e1, e2, hq, h1, hL, h2, h3⟩, st⟩ | ⟨q, vm₁, ⟨U', l2, c2, s2⟩, hW₁, X', ⟨g', mk, t, L, E, ce, e1, e2, hq, hce, hcv, hcl, h1, hL, h2, h3⟩, st⟩
  · dsimp only [Pt.U, Pt.locs, Pt.cells, Pt.slots] at X' e1 e2 h1 h2 h3 st
    subst h1; subst h2; subst h3
    exact Or.inl ⟨v, (T.setVm vm₁).calling g' mk (Value.ref b :: As).toArray, t, U', L, hT, X', hL, e1, e2, hq, st⟩
  · dsimp only [Pt.U, Pt.locs, Pt.cells, Pt.slots] at X' e1 e2 h1 h2 h3 st hcl
    subst h1; subst h2; subst h3
    exact Or.inr ⟨q, (T.setVm vm₁).calling g' mk (Value.ref b :: As).toArray, t, U', L, E, ce, hT, X', hL, e1, e2, hq, hce, hcv, vx_cls hW₁ hcl, st⟩
theorem vx_runS (S : CallFix p m c cc nL s args Ts own) (hM : vx_Met l y ws rm Pc Qc XC mc ms free) (cw : CallB R s args own index y bytes maxL ret ws rm mc ms n ∧ (Cond.static y).before args s = true) (hp : PreS s H Pc As)
    (hg : g.method = m) (hn : As.length = n) (hsize : g.locals.size = nL) (hstack : g.stack = As.reverse ++ rest) (hW : 2 * g.monitorRoom + (rest.map fun v => v.category).sum ≤ 8) (hdg : decode cc g.pc = .ok (.invokestatic index, 3)) (hf : cells + mc ≤ R.cells ∧ slots + ms ≤ R.slots) :
    vx_Run p l e R s m args below meth c H locs cells slots mc ms g rest (Qc As.toArray) XC free := by
  have hK : vx_Back l R p e below s args y 3 8 (PreOf R mc ms Pc) (PostOf Qc mc ms free) (vx_Post XC mc ms free) := vx_callBack cw.1 hM hp.1
  obtain ⟨⟨-, -, -, -, -, -, hcode, hini, hy, hlen, hl⟩, hstt⟩ := cw
  obtain ⟨hx, hb, hml, ho, -⟩ := S
  intro T hT X
  rcases vx_callS X hx (bytes := bytes) (maxL := maxL) (ret := ret) ho hl hstt hini hcode hy hK hg (hsize.trans hml.symm) (argsL := As) (rest := rest) (fun sig h => hn.trans (hlen sig h)) hstack hW (by rw [hb]; exact hdg)
    (fun vm₁ hW₁ => ⟨hf.1, hf.2, hp.2 (T.setVm vm₁) hT hW₁⟩) with ⟨v, vm₁, ⟨U', l2, c2, s2⟩, hW₁, X', ⟨g', mk, t, L, e1, e2, hq, h1, hL, h2, h3⟩, st⟩ | ⟨q, vm₁, ⟨U', l2, c2, s2⟩, hW₁, X', ⟨g', mk, t, L, E, ce, e1, e2, hq, hce, hcv, hcl, h1, hL, h2, h3⟩, st⟩
  · dsimp only [Pt.U, Pt.locs, Pt.cells, Pt.slots] at X' e1 e2 h1 h2 h3 st
    subst h1; subst h2; subst h3
    exact Or.inl ⟨v, (T.setVm vm₁).calling g' mk As.toArray, t, U', L, hT, X', hL, e1, e2, hq, st⟩
  · dsimp only [Pt.U, Pt.locs, Pt.cells, Pt.slots] at X' e1 e2 h1 h2 h3 st hcl
    subst h1; subst h2; subst h3
    exact Or.inr ⟨q, (T.setVm vm₁).calling g' mk As.toArray, t, U', L, E, ce, hT, X', hL, e1, e2, hq, hce, hcv, vx_cls hW₁ hcl, st⟩
end Runs
section Rows
variable {p : Program} {l : Launch} {e : Env} {R : Room} {s : State} {m : MethodId} {args : Array Value} {below : List Frame} {meth : Method} {c : Code} {H : Heap} {locs : List Loc} {cells slots : Nat} {Q : State → Prop}
variable {mc ms : Nat} {free : Addr → Prop} {A0 A1 : Nat → Prop} {H0 : Heap} {a : Array Value} {pc : Nat} {ls : Array Slot} {st0 rest : List Value}
theorem vx_keep {st₀ t T' : State} {L : List Loc} (h0 : st₀.heap = H) (e1 : T'.heap = t.heap) (hS : va_S A0 H0 H locs) (hA : ∀ q, q < H.size → A1 q → A0 q) (hf : ∀ q, free q → A0 q) (hL : ∀ q ∈ L, free q.base) (hF : va_F A1 st₀ t) :
    H.size ≤ T'.heap.size ∧ (∀ q : Nat, q < H.size → ¬ A1 q → T'.heap[q]? = H[q]?) ∧ va_S A0 H0 T'.heap (locs ++ L) := by
  obtain ⟨hz, hk⟩ := hF
  rw [h0] at hz hk
  exact ⟨by rw [e1]; exact hz, fun q h1 h2 => by rw [e1]; exact hk q h1 h2,
    ⟨Nat.le_trans hS.1 (by rw [e1]; exact hz), fun q h1 h2 => by rw [e1, hk q (Nat.lt_of_lt_of_le h1 hS.1) (fun z => h2 (hA q (Nat.lt_of_lt_of_le h1 hS.1) z))]; exact hS.2.1 q h1 h2, fun q hq => by
      rcases List.mem_append.mp hq with h | h
      · exact hS.2.2 q h
      · exact hf _ (hL q h)⟩⟩
theorem vx_calli {S SX : Type} {post : Int32 → S → Prop} {px : SX → Prop} {B : S → State → Prop} {BX : String → SX → State → Prop} {AX : Nat → Prop} (hr : vx_Run p l e R s m args below meth c H locs cells slots mc ms (F0 m pc ls st0) rest (va_Qi post B A1 a) (vx_X px BX AX) free) (hS : va_S A0 H0 H locs) (hA : ∀ q, q < H.size → A1 q → A0 q) (hf : ∀ q, free q → A0 q) (hAX : ∀ q, q < H.size → AX q → A0 q)
    (kx : ∀ (E : String) (ce : Cell) (q9 : Addr) (u : SX) (t : State) (H1 : Heap) (locs1 : List Loc), t.heap = H1 → s.vm.Alike t.vm → px u → BX E u t → H.size ≤ H1.size → (∀ q : Nat, q < H.size → ¬ AX q → H1[q]? = H[q]?) → va_S A0 H0 H1 locs1 → H1[q9]? = some ce → ce.vm = .none → s.vm.findClass E = some ce.cls → vx_W p l e R s m args below meth c H1 locs1 (cells + mc) (slots + ms) Q (F0 m pc ls rest) q9)
    (kk : ∀ (r : Int32) (u : S) (t : State) (H1 : Heap) (locs1 : List Loc), t.heap = H1 → s.vm.Alike t.vm → post r u → B u t → H.size ≤ H1.size → (∀ q : Nat, q < H.size → ¬ A1 q → H1[q]? = H[q]?) → va_S A0 H0 H1 locs1 → W p l e R s m args below meth c H1 locs1 (cells + mc) (slots + ms) Q (F0 m (pc + 3) ls (.int r :: rest))) : W p l e R s m args below meth c H locs cells slots Q (F0 m pc ls st0) := by
  intro T hT X
  rcases hr T hT X with ⟨v, st₀, t, T', L, h0, X', hL, e1, e2, ⟨⟨r, u, hv, hp, hb⟩, hF⟩, st⟩ | ⟨q, st₀, t, T', L, E, ce, h0, X', hL, e1, e2, ⟨u, hp, hb, hF⟩, hce, hcv, hcl, st⟩
  · cases hv
    obtain ⟨k1, k2, k3⟩ := vx_keep h0 e1 hS hA hf hL hF
    obtain ⟨t2, a1, b1⟩ := kk r u t T'.heap (locs ++ L) e1.symm (by rw [← e2]; exact X'.warmed.alike) hp hb k1 k2 k3 T' rfl X'
    exact ⟨t2, st t2 a1, b1⟩
  · obtain ⟨k1, k2, k3⟩ := vx_keep h0 e1 hS hAX hf hL hF
    obtain ⟨t2, a1, b1⟩ := kx E ce q u t T'.heap (locs ++ L) e1.symm (by rw [← e2]; exact X'.warmed.alike) hp hb k1 k2 k3 (by rw [e1]; exact hce) hcv hcl T' rfl X'
    exact ⟨t2, st.trans a1, b1⟩
theorem vx_calll {S SX : Type} {post : Int64 → S → Prop} {px : SX → Prop} {B : S → State → Prop} {BX : String → SX → State → Prop} {AX : Nat → Prop} (hr : vx_Run p l e R s m args below meth c H locs cells slots mc ms (F0 m pc ls st0) rest (va_Ql post B A1 a) (vx_X px BX AX) free) (hS : va_S A0 H0 H locs) (hA : ∀ q, q < H.size → A1 q → A0 q) (hf : ∀ q, free q → A0 q) (hAX : ∀ q, q < H.size → AX q → A0 q)
    (kx : ∀ (E : String) (ce : Cell) (q9 : Addr) (u : SX) (t : State) (H1 : Heap) (locs1 : List Loc), t.heap = H1 → s.vm.Alike t.vm → px u → BX E u t → H.size ≤ H1.size → (∀ q : Nat, q < H.size → ¬ AX q → H1[q]? = H[q]?) → va_S A0 H0 H1 locs1 → H1[q9]? = some ce → ce.vm = .none → s.vm.findClass E = some ce.cls → vx_W p l e R s m args below meth c H1 locs1 (cells + mc) (slots + ms) Q (F0 m pc ls rest) q9)
    (kk : ∀ (r : Int64) (u : S) (t : State) (H1 : Heap) (locs1 : List Loc), t.heap = H1 → s.vm.Alike t.vm → post r u → B u t → H.size ≤ H1.size → (∀ q : Nat, q < H.size → ¬ A1 q → H1[q]? = H[q]?) → va_S A0 H0 H1 locs1 → W p l e R s m args below meth c H1 locs1 (cells + mc) (slots + ms) Q (F0 m (pc + 3) ls (.long r :: rest))) : W p l e R s m args below meth c H locs cells slots Q (F0 m pc ls st0) := by
  intro T hT X
  rcases hr T hT X with ⟨v, st₀, t, T', L, h0, X', hL, e1, e2, ⟨⟨r, u, hv, hp, hb⟩, hF⟩, st⟩ | ⟨q, st₀, t, T', L, E, ce, h0, X', hL, e1, e2, ⟨u, hp, hb, hF⟩, hce, hcv, hcl, st⟩
  · cases hv
    obtain ⟨k1, k2, k3⟩ := vx_keep h0 e1 hS hA hf hL hF
    obtain ⟨t2, a1, b1⟩ := kk r u t T'.heap (locs ++ L) e1.symm (by rw [← e2]; exact X'.warmed.alike) hp hb k1 k2 k3 T' rfl X'
    exact ⟨t2, st t2 a1, b1⟩
  · obtain ⟨k1, k2, k3⟩ := vx_keep h0 e1 hS hAX hf hL hF
    obtain ⟨t2, a1, b1⟩ := kx E ce q u t T'.heap (locs ++ L) e1.symm (by rw [← e2]; exact X'.warmed.alike) hp hb k1 k2 k3 (by rw [e1]; exact hce) hcv hcl T' rfl X'
    exact ⟨t2, st.trans a1, b1⟩
theorem vx_callf {S SX : Type} {post : UInt32 → S → Prop} {px : SX → Prop} {B : S → State → Prop} {BX : String → SX → State → Prop} {AX : Nat → Prop} (hr : vx_Run p l e R s m args below meth c H locs cells slots mc ms (F0 m pc ls st0) rest (va_Qf post B A1 a) (vx_X px BX AX) free) (hS : va_S A0 H0 H locs) (hA : ∀ q, q < H.size → A1 q → A0 q) (hf : ∀ q, free q → A0 q) (hAX : ∀ q, q < H.size → AX q → A0 q)
    (kx : ∀ (E : String) (ce : Cell) (q9 : Addr) (u : SX) (t : State) (H1 : Heap) (locs1 : List Loc), t.heap = H1 → s.vm.Alike t.vm → px u → BX E u t → H.size ≤ H1.size → (∀ q : Nat, q < H.size → ¬ AX q → H1[q]? = H[q]?) → va_S A0 H0 H1 locs1 → H1[q9]? = some ce → ce.vm = .none → s.vm.findClass E = some ce.cls → vx_W p l e R s m args below meth c H1 locs1 (cells + mc) (slots + ms) Q (F0 m pc ls rest) q9)
    (kk : ∀ (r : UInt32) (u : S) (t : State) (H1 : Heap) (locs1 : List Loc), t.heap = H1 → s.vm.Alike t.vm → post r u → B u t → H.size ≤ H1.size → (∀ q : Nat, q < H.size → ¬ A1 q → H1[q]? = H[q]?) → va_S A0 H0 H1 locs1 → W p l e R s m args below meth c H1 locs1 (cells + mc) (slots + ms) Q (F0 m (pc + 3) ls (.float r :: rest))) : W p l e R s m args below meth c H locs cells slots Q (F0 m pc ls st0) := by
  intro T hT X
  rcases hr T hT X with ⟨v, st₀, t, T', L, h0, X', hL, e1, e2, ⟨⟨r, u, hv, hp, hb⟩, hF⟩, st⟩ | ⟨q, st₀, t, T', L, E, ce, h0, X', hL, e1, e2, ⟨u, hp, hb, hF⟩, hce, hcv, hcl, st⟩
  · cases hv
    obtain ⟨k1, k2, k3⟩ := vx_keep h0 e1 hS hA hf hL hF
    obtain ⟨t2, a1, b1⟩ := kk r u t T'.heap (locs ++ L) e1.symm (by rw [← e2]; exact X'.warmed.alike) hp hb k1 k2 k3 T' rfl X'
    exact ⟨t2, st t2 a1, b1⟩
  · obtain ⟨k1, k2, k3⟩ := vx_keep h0 e1 hS hAX hf hL hF
    obtain ⟨t2, a1, b1⟩ := kx E ce q u t T'.heap (locs ++ L) e1.symm (by rw [← e2]; exact X'.warmed.alike) hp hb k1 k2 k3 (by rw [e1]; exact hce) hcv hcl T' rfl X'
    exact ⟨t2, st.trans a1, b1⟩
theorem vx_calld {S SX : Type} {post : UInt64 → S → Prop} {px : SX → Prop} {B : S → State → Prop} {BX : String → SX → State → Prop} {AX : Nat → Prop} (hr : vx_Run p l e R s m args below meth c H locs cells slots mc ms (F0 m pc ls st0) rest (va_Qd post B A1 a) (vx_X px BX AX) free) (hS : va_S A0 H0 H locs) (hA : ∀ q, q < H.size → A1 q → A0 q) (hf : ∀ q, free q → A0 q) (hAX : ∀ q, q < H.size → AX q → A0 q)
    (kx : ∀ (E : String) (ce : Cell) (q9 : Addr) (u : SX) (t : State) (H1 : Heap) (locs1 : List Loc), t.heap = H1 → s.vm.Alike t.vm → px u → BX E u t → H.size ≤ H1.size → (∀ q : Nat, q < H.size → ¬ AX q → H1[q]? = H[q]?) → va_S A0 H0 H1 locs1 → H1[q9]? = some ce → ce.vm = .none → s.vm.findClass E = some ce.cls → vx_W p l e R s m args below meth c H1 locs1 (cells + mc) (slots + ms) Q (F0 m pc ls rest) q9)
    (kk : ∀ (r : UInt64) (u : S) (t : State) (H1 : Heap) (locs1 : List Loc), t.heap = H1 → s.vm.Alike t.vm → post r u → B u t → H.size ≤ H1.size → (∀ q : Nat, q < H.size → ¬ A1 q → H1[q]? = H[q]?) → va_S A0 H0 H1 locs1 → W p l e R s m args below meth c H1 locs1 (cells + mc) (slots + ms) Q (F0 m (pc + 3) ls (.double r :: rest))) : W p l e R s m args below meth c H locs cells slots Q (F0 m pc ls st0) := by
  intro T hT X
  rcases hr T hT X with ⟨v, st₀, t, T', L, h0, X', hL, e1, e2, ⟨⟨r, u, hv, hp, hb⟩, hF⟩, st⟩ | ⟨q, st₀, t, T', L, E, ce, h0, X', hL, e1, e2, ⟨u, hp, hb, hF⟩, hce, hcv, hcl, st⟩
  · cases hv
    obtain ⟨k1, k2, k3⟩ := vx_keep h0 e1 hS hA hf hL hF
    obtain ⟨t2, a1, b1⟩ := kk r u t T'.heap (locs ++ L) e1.symm (by rw [← e2]; exact X'.warmed.alike) hp hb k1 k2 k3 T' rfl X'
    exact ⟨t2, st t2 a1, b1⟩
  · obtain ⟨k1, k2, k3⟩ := vx_keep h0 e1 hS hAX hf hL hF
    obtain ⟨t2, a1, b1⟩ := kx E ce q u t T'.heap (locs ++ L) e1.symm (by rw [← e2]; exact X'.warmed.alike) hp hb k1 k2 k3 (by rw [e1]; exact hce) hcv hcl T' rfl X'
    exact ⟨t2, st.trans a1, b1⟩
theorem vx_callv {S SX : Type} {post : S → Prop} {px : SX → Prop} {B : S → State → Prop} {BX : String → SX → State → Prop} {AX : Nat → Prop} (hr : vx_Run p l e R s m args below meth c H locs cells slots mc ms (F0 m pc ls st0) rest (va_Qv post B A1 a) (vx_X px BX AX) free) (hS : va_S A0 H0 H locs) (hA : ∀ q, q < H.size → A1 q → A0 q) (hf : ∀ q, free q → A0 q) (hAX : ∀ q, q < H.size → AX q → A0 q)
    (kx : ∀ (E : String) (ce : Cell) (q9 : Addr) (u : SX) (t : State) (H1 : Heap) (locs1 : List Loc), t.heap = H1 → s.vm.Alike t.vm → px u → BX E u t → H.size ≤ H1.size → (∀ q : Nat, q < H.size → ¬ AX q → H1[q]? = H[q]?) → va_S A0 H0 H1 locs1 → H1[q9]? = some ce → ce.vm = .none → s.vm.findClass E = some ce.cls → vx_W p l e R s m args below meth c H1 locs1 (cells + mc) (slots + ms) Q (F0 m pc ls rest) q9)
    (kk : ∀ (u : S) (t : State) (H1 : Heap) (locs1 : List Loc), t.heap = H1 → s.vm.Alike t.vm → post u → B u t → H.size ≤ H1.size → (∀ q : Nat, q < H.size → ¬ A1 q → H1[q]? = H[q]?) → va_S A0 H0 H1 locs1 → W p l e R s m args below meth c H1 locs1 (cells + mc) (slots + ms) Q (F0 m (pc + 3) ls (rest))) : W p l e R s m args below meth c H locs cells slots Q (F0 m pc ls st0) := by
  intro T hT X
  rcases hr T hT X with ⟨v, st₀, t, T', L, h0, X', hL, e1, e2, ⟨⟨u, hv, hp, hb⟩, hF⟩, st⟩ | ⟨q, st₀, t, T', L, E, ce, h0, X', hL, e1, e2, ⟨u, hp, hb, hF⟩, hce, hcv, hcl, st⟩
  · cases hv
    obtain ⟨k1, k2, k3⟩ := vx_keep h0 e1 hS hA hf hL hF
    obtain ⟨t2, a1, b1⟩ := kk u t T'.heap (locs ++ L) e1.symm (by rw [← e2]; exact X'.warmed.alike) hp hb k1 k2 k3 T' rfl X'
    exact ⟨t2, st t2 a1, b1⟩
  · obtain ⟨k1, k2, k3⟩ := vx_keep h0 e1 hS hAX hf hL hF
    obtain ⟨t2, a1, b1⟩ := kx E ce q u t T'.heap (locs ++ L) e1.symm (by rw [← e2]; exact X'.warmed.alike) hp hb k1 k2 k3 (by rw [e1]; exact hce) hcv hcl T' rfl X'
    exact ⟨t2, st.trans a1, b1⟩
/-- caught by the row x of this method's table; the rows ahead don't take it -/
theorem vx_catch {own name : String} {E : String} {ce : Cell} {q : Addr} (hown : s.vm.findClass own = some m.cls) (pre : List ExceptionTableEntry) (x : ExceptionTableEntry) (suf : List ExceptionTableEntry) (hsplit : c.exceptionTable.toList = pre ++ x :: suf)
    (hpass : ∀ z ∈ pre, covers z pc = false ∨ (z.catchType ≠ 0 ∧ ∃ nm : String, (Cond.classLink own z.catchType nm).before args s = true ∧ va_Nc E nm s)) (hx : covers x pc = true) (h0 : x.catchType ≠ 0)
    (hlink : (Cond.classLink own x.catchType name).before args s = true) (hcast : (Cond.castable E name).before args s = true) (hcell : H[q]? = some ce) (hv : ce.vm = .none) (hcl : s.vm.findClass E = some ce.cls)
    (kk : W p l e R s m args below meth c H locs cells slots Q (F0 m x.handlerPc ls [.ref q])) : vx_W p l e R s m args below meth c H locs cells slots Q (F0 m pc ls rest) q := by
  intro T hT X
  have hpl : e.platform.magicAccessors = ({} : Platform).magicAccessors := by rw [X.admits.platform]
  obtain ⟨c3, c4, hc3, hc4, hasg⟩ := Cond.castable_spec hcast
  cases Option.some.inj (hc3.symm.trans hcl)
  obtain ⟨c5, hc5, hcl5⟩ := Cond.classLink_spec hown hlink e.platform hpl
  cases Option.some.inj (hc4.symm.trans hc5)
  obtain ⟨vm', X', st⟩ := X.thenCaughtThrough q (g := F0 m pc ls rest) rfl (Steps.refl _) (by rw [hT]; exact hcell) (by rw [hv]; rfl) (by obtain ⟨k9, h9, -⟩ := Vm.findClass_spec hcl; exact ⟨k9, h9⟩) pre x suf hsplit
    (fun z hz => by
      rcases hpass z hz with h | ⟨hz0, nm, hl1, hn1⟩
      · exact Or.inl h
      · obtain ⟨c6, hc6, hcl6⟩ := Cond.classLink_spec hown hl1 e.platform hpl
        obtain ⟨a8, b8, h1, h2, h3⟩ := hn1
        cases Option.some.inj (h1.symm.trans hcl)
        cases Option.some.inj (h2.symm.trans hc6)
        exact Or.inr ⟨hz0, _, hcl6, h3⟩) hx (Or.inr ⟨h0, c4, hcl5, hasg⟩)
  obtain ⟨t, a1, b1⟩ := kk (T.setVm vm') hT X'
  exact ⟨t, st.trans a1, b1⟩
end Rows
section Ends
variable {p : Program} {l : Launch} {e : Env} {R : Room} {s : State} {m : MethodId} {args : Array Value} {below : List Frame} {meth : Method} {c : Code} {H : Heap} {locs : List Loc} {cells slots : Nat} {Q : State → Prop}
variable {mc ms : Nat} {free : Addr → Prop} {A0 A1 : Nat → Prop} {H0 : Heap} {a : Array Value} {ls : Array Slot} {st0 rest : List Value}
variable {Qc : Array Value → State → Outcome → State → Prop} {XC : String → State → State → Prop}
/-- what a body that may throw owes at its end -/
def vx_MQ (below : List Frame) (Qc : Array Value → State → Outcome → State → Prop) (XC : String → State → State → Prop) (a : Array Value) (s : State) (mc ms : Nat) (free : Addr → Prop) : State → Prop := fun t =>
  ∃ o, t.status = .running ∧ Ended t below o ∧ vx_Q Qc XC mc ms free a s o t
theorem vx_ret {g : JFrame} {mc ms : Nat} (k : W p l e R s m args below meth c H locs cells slots (MQ below Qc args s mc ms free) g) : W p l e R s m args below meth c H locs cells slots (vx_MQ below Qc XC args s mc ms free) g := by
  intro T hT X
  obtain ⟨t, a1, o, b1, b2, b3, b4⟩ := k T hT X
  exact ⟨t, a1, o, b1, b2, Or.inl ⟨b3, b4⟩⟩
/-- not caught here: it goes on to the caller -/
theorem vx_widen {g : JFrame} {q : Addr} {k n : Nat} (h1 : cells ≤ k) (h2 : slots ≤ n) (kk : vx_W p l e R s m args below meth c H locs k n Q g q) : vx_W p l e R s m args below meth c H locs cells slots Q g q := fun T hT X => kk T hT (stand_widen X h1 h2)
theorem vx_out {pc : Nat} {E : String} {ce : Cell} {q : Addr} {mc ms : Nat} (hout : ∀ x ∈ c.exceptionTable.toList, covers x pc = false) (hlocks : meth.locks = false) (hcell : H[q]? = some ce) (hv : ce.vm = .none) (hcl : s.vm.findClass E = some ce.cls)
    (hx : ∀ t : State, t.heap = H → s.vm.Alike t.vm → XC E s t) (hf : ∀ z ∈ locs, free z.base) (hc : cells ≤ mc) (hs : slots ≤ ms) :
    vx_W p l e R s m args below meth c H locs cells slots (vx_MQ below Qc XC args s mc ms free) (F0 m pc ls rest) q := by
  intro T hT X
  obtain ⟨st1, hrun, hend, hW, hsm⟩ := X.leaveThrown q (g := F0 m pc ls rest) rfl rfl rfl hout hlocks
  have hcell9 : (T.setFrames (.throwing q :: below)).heap[q]? = some ce := by
    show T.heap[q]? = some ce
    rw [hT]; exact hcell
  exact ⟨_, st1, .threw q, hrun, hend, Or.inr ⟨q, rfl, E, ce, locs, hx _ hT hW.alike, hcell9, hv, hcl, hW, hsm.mono hc hs, hf⟩⟩
theorem vx_frame {U : State} {k n : Nat} (h : s.sameButNew ({ U with vm := s.vm } : State) locs k n) : s.heap.size ≤ U.heap.size ∧ ∀ q : Nat, q < s.heap.size → (∀ z ∈ locs, z.base ≠ q) → U.heap[q]? = s.heap[q]? := by
  obtain ⟨-, h2, -, -, -, h6⟩ := h
  refine ⟨h2, fun q hq hz => ?_⟩
  obtain ⟨c9, e1, e2, e3, e4⟩ := h6 q _ (Array.getElem?_eq_getElem hq)
  have hs : c9.slots = (s.heap[q]).slots := Array.ext_getElem? fun i => e4 i fun hm => hz _ hm rfl
  have h9 : c9 = s.heap[q] := by
    rw [hs] at e2
    exact e2
  have e5 : U.heap[q]? = some c9 := e1
  rw [e5, h9, Array.getElem?_eq_getElem hq]
/-- the words of a throw but the four that speak of the heap -/
def vx_no (w : Cond) : Bool := decide (w ≠ .isRef (.static Bundle.tN "UNASSIGNED_STACK" Bundle.steD)) && decide (w ≠ .isRef (.static Bundle.tN "SUPPRESSED_SENTINEL" Bundle.listD)) && decide (w ≠ .laysStatic Bundle.tN "UNASSIGNED_STACK" Bundle.steD) && decide (w ≠ .laysStatic Bundle.tN "SUPPRESSED_SENTINEL" Bundle.listD)
def vx_at0 (own : String) (ic : Nat) (X : String) (names : List String) : List Cond := (Bundle.ownAtoms0 own ic X names).filter vx_no
def vx_atS (own : String) (ic : Nat) (X : String) (names : List String) : List Cond := (Bundle.ownAtoms own ic X names).filter vx_no
/-- a word that the tables alone decide, or a good one -/
def vx_ot (w : Cond) : Bool := w.onTables || goodWord w
theorem vx_ot_at {args a' : Array Value} {s U : State} {w : Cond} (hW : s.WarmedH U.vm) (hvm : s.vm = U.vm) (hg : vx_ot w = true) (h : w.before args s = true) : w.before a' U = true := by
  simp only [vx_ot, Bool.or_eq_true] at hg
  rcases hg with hg | hg
  · exact va_tabs hg hvm h
  · exact word_at hW (good_of_word hg) h
/-- a list's words: the good ones out of the method's own list, the others by premises of their own -/
theorem vx_hat {args : Array Value} {s : State} {L B : List Cond} (h1 : ∀ w ∈ L.filter goodWord, w.before args s = true) (h2 : ∀ w ∈ L.filter (fun w => !goodWord w), w ∈ B) (h3 : ∀ w ∈ B, w.before args s = true) : ∀ w ∈ L, w.before args s = true := by
  intro w hw
  by_cases g : goodWord w = true
  · exact h1 w (List.mem_filter.mpr ⟨hw, g⟩)
  · refine h3 w (h2 w (List.mem_filter.mpr ⟨hw, ?_⟩))
    show (!goodWord w) = true
    cases hgw : goodWord w
    · rfl
    · exact absurd hgw g
theorem vx_c {args : Array Value} {s : State} {w : Cond} {B : List Cond} (h : w.before args s = true) (t : ∀ w ∈ B, w.before args s = true) : ∀ w' ∈ w :: B, w'.before args s = true := fun w' h' => (List.mem_cons.mp h').elim (fun e => by rw [e]; exact h) (t w')
theorem vx_n {args : Array Value} {s : State} : ∀ w ∈ ([] : List Cond), w.before args s = true := fun _ h => nomatch h
theorem vx_own {args : Array Value} {s : State} {L : List Cond} (h1 : ∀ w ∈ L.filter vx_no, w.before args s = true)
    (hU : (Cond.isRef (.static Bundle.tN "UNASSIGNED_STACK" Bundle.steD)).before args s = true) (hN : (Cond.isRef (.static Bundle.tN "SUPPRESSED_SENTINEL" Bundle.listD)).before args s = true)
    (lU : (Cond.laysStatic Bundle.tN "UNASSIGNED_STACK" Bundle.steD).before args s = true) (lN : (Cond.laysStatic Bundle.tN "SUPPRESSED_SENTINEL" Bundle.listD).before args s = true) : ∀ w ∈ L, w.before args s = true := by
  intro w hw
  by_cases e1 : w = .isRef (.static Bundle.tN "UNASSIGNED_STACK" Bundle.steD)
  · rw [e1]; exact hU
  · by_cases e2 : w = .isRef (.static Bundle.tN "SUPPRESSED_SENTINEL" Bundle.listD)
    · rw [e2]; exact hN
    · by_cases e3 : w = .laysStatic Bundle.tN "UNASSIGNED_STACK" Bundle.steD
      · rw [e3]; exact lU
      · by_cases e4 : w = .laysStatic Bundle.tN "SUPPRESSED_SENTINEL" Bundle.listD
        · rw [e4]; exact lN
        · exact h1 w (List.mem_filter.mpr ⟨hw, by unfold vx_no; rw [decide_eq_true e1, decide_eq_true e2, decide_eq_true e3, decide_eq_true e4]; rfl⟩)
/-- where a static field lies, its class's statics cell in H -/
def vx_L (C n d : String) (A : Nat → Prop) (U : State) (H : Heap) : Prop := ∃ (c : ClassId) (k : Class) (i : Nat) (f : Field) (a : Nat) (cell : Cell), U.vm.findClass C = some c ∧ U.fieldFound? C n d = some (c, k, i, f) ∧ f.isStatic = true ∧ k.statics = some a ∧ H[a]? = some cell ∧ cell.vm.isStatics = true ∧ cell.cls = c ∧ f.slot < cell.slots.size ∧ k.staticTypes[f.slot]? = some f.type ∧ ¬ A a
theorem vx_L.moved {C n d : String} {A : Nat → Prop} {u U : State} {H : Heap} (hvm : u.vm.Alike U.vm) (h : vx_L C n d A u H) : vx_L C n d A U H := by
  obtain ⟨c, k, i, f, a, cell, h1, h2, h3, h4, h5, h6, h7, h8, h9, h10⟩ := h
  obtain ⟨k', hi', he⟩ := State.fieldFound?_setVm hvm h2
  exact ⟨c, k', i, f, a, cell, by rw [hvm.findClass]; exact h1, hi', h3, by rw [he]; exact h4, h5, h6, h7, h8, by rw [he]; exact h9, h10⟩
theorem vx_L.kept {C n d : String} {A : Nat → Prop} {U : State} {H H1 : Heap} (h : vx_L C n d A U H) (hq : ∀ a : Nat, a < H.size → ¬ A a → H1[a]? = H[a]?) : vx_L C n d A U H1 := by
  obtain ⟨c, k, i, f, a, cell, h1, h2, h3, h4, h5, h6, h7, h8, h9, h10⟩ := h
  exact ⟨c, k, i, f, a, cell, h1, h2, h3, h4, by rw [hq a (Array.getElem?_eq_some_iff.mp h5).1 h10]; exact h5, h6, h7, h8, h9, h10⟩
theorem vx_L.narrow {C n d : String} {A B : Nat → Prop} {U : State} {H : Heap} (h : vx_L C n d A U H) (hAB : ∀ q, B q → A q) : vx_L C n d B U H := by
  obtain ⟨c, k, i, f, a, cell, h1, h2, h3, h4, h5, h6, h7, h8, h9, h10⟩ := h
  exact ⟨c, k, i, f, a, cell, h1, h2, h3, h4, h5, h6, h7, h8, h9, fun z => h10 (hAB _ z)⟩
theorem vx_L.word {C n d : String} {A : Nat → Prop} {s : State} {args : Array Value} (h : vx_L C n d A s s.heap) : (Cond.laysStatic C n d).before args s = true := by
  obtain ⟨c, k, i, f, a, cell, h1, h2, h3, h4, h5, h6, h7, h8, h9, -⟩ := h
  show (Cond.laysStatic C n d).holds args s none s [] = true
  exact Cond.laysStatic_of h1 h2 h3 h4 h5 h6 h7 h8 h9
/-- .. and what it holds: null or some reference -/
def vx_Zq (C n d : String) (A : Nat → Prop) (U : State) (H : Heap) : Prop := va_Zq C n d A U H ∧ vx_L C n d A U H
theorem vx_Zq.moved {C n d : String} {A : Nat → Prop} {u U : State} {H : Heap} (hvm : u.vm.Alike U.vm) (h : vx_Zq C n d A u H) : vx_Zq C n d A U H := ⟨va_Zq.moved hvm h.1, vx_L.moved hvm h.2⟩
theorem vx_Zq.kept {C n d : String} {A : Nat → Prop} {U : State} {H H1 : Heap} (h : vx_Zq C n d A U H) (hq : ∀ a : Nat, a < H.size → ¬ A a → H1[a]? = H[a]?) : vx_Zq C n d A U H1 := ⟨va_Zq.kept h.1 hq, vx_L.kept h.2 hq⟩
theorem vx_Zq.narrow {C n d : String} {A B : Nat → Prop} {U : State} {H : Heap} (h : vx_Zq C n d A U H) (hAB : ∀ q, B q → A q) : vx_Zq C n d B U H := ⟨va_Zq.narrow h.1 hAB, vx_L.narrow h.2 hAB⟩
theorem vx_Zqof {args : Array Value} {s : State} {C n d : String} {A : Nat → Prop} (hl : (Cond.laysStatic C n d).before args s = true) (hini : (Cond.initialized C).before args s = true) (h : (Cond.isRef (.static C n d)).before args s = true) (hA : ∀ a : Nat, a < s.heap.size → ¬ A a) : vx_Zq C n d A s s.heap := by
  refine ⟨va_Zqof hl hini h hA, ?_⟩
  obtain ⟨c, k, i, f, a, cell, h1, h2, h3, h4, h5, h6, h7, h8, h9⟩ := Cond.laysStatic_spec hl
  exact ⟨c, k, i, f, a, cell, h1, h2, h3, h4, h5, h6, h7, h8, h9, hA a (Array.getElem?_eq_some_iff.mp h5).1⟩
theorem vx_isRef {C n d : String} {v : Value} {A : Nat → Prop} {s : State} {args : Array Value} (h : va_Z C n d v A s s.heap) (hv : v.isRef = true) : (Cond.isRef (.static C n d)).before args s = true := by
  obtain ⟨cf, kf, fi, f, a, cell, h1, h2, h3, h4, h5, h6, h7, -⟩ := h
  have he : (Term.static C n d).eval args s none [] s = some v := by
    simp [Term.eval, State.fieldNamed?, h1, h2, h4, h5, h6, h7]
  simp only [Cond.before, Cond.holds, Cond.value, he]
  cases v <;> simp_all [Value.isRef]
theorem vx_isRefq {C n d : String} {A : Nat → Prop} {s : State} {args : Array Value} (h : va_Zq C n d A s s.heap) : (Cond.isRef (.static C n d)).before args s = true := by
  rcases h with h | ⟨t, h⟩
  · exact vx_isRef h rfl
  · exact vx_isRef h rfl
/-- the same frame, seen from here: as if the method were called anew in this heap -/
theorem vx_rebase {T : State} (X : Stand p l e R s m args below meth c T locs cells slots) {R' : Room} (hf : R'.frames ≤ R.frames) (hl : R'.locals ≤ R.locals) (hc : cells + R'.cells ≤ R.cells) (hs : slots + R'.slots ≤ R.slots) :
    Stand p l e R' ((T.setVm s.vm).setFrames (.invoking m args :: below)) m args below meth c T [] 0 0 := by
  have htop : (T.setVm s.vm).topJava?.isSome := X.here.top
  have hF : ((T.setVm s.vm).setFrames (.invoking m args :: below)).frames = .invoking m args :: below := State.frames_setFrames _ (State.cur_lt_of_top htop)
  obtain ⟨g₀, hg0⟩ := Option.isSome_iff_exists.mp htop
  obtain ⟨r, hr⟩ := State.topJava?_eq_some.mp hg0
  have hl9 : e.platform.stackLimits (T.setVm s.vm).me = e.platform.stackLimits s.me := X.limits
  have hb9 : (T.setVm s.vm).me.stackBytes = s.me.stackBytes := X.bytes
  refine ⟨X.admits, X.cas, X.clock, hF, ?_, X.hears, X.method, X.code, X.here, X.tail, X.warmed, ?_, ?_, ?_⟩
  · have h := X.room
    have hU : ((T.setVm s.vm).setFrames (.invoking m args :: below)).localsInUse = s.localsInUse := by
      rw [State.localsInUse_invoking hF (meth := meth) (c := c) X.method X.code, State.localsInUse_invoking X.frames X.method X.code]
    simp only [State.hasRoom, Bool.and_eq_true, decide_eq_true_eq] at h ⊢
    obtain ⟨⟨⟨⟨h1, h2, h3, h4, h5, h6⟩, h7⟩, h8⟩, h9⟩ := h
    rw [X.frames, List.length_cons] at h2 h3
    have q1 := X.heapSize
    have q2 := X.used
    simp only [hF, hU, List.length_cons, State.stackLimits_setFrames, State.stackBytes_setFrames, hl9, hb9]
    refine ⟨⟨⟨⟨by omega, by omega, by omega, by omega, by omega, h6⟩, ?_⟩, ?_⟩, X.book⟩
    · show T.heap.size + R'.cells ≤ e.platform.maxCells
      omega
    · show T.slotsUsed + R'.slots ≤ e.platform.maxSlots
      omega
  · rw [State.stackLimits_setFrames]; rfl
  · rw [State.stackBytes_setFrames]; rfl
  · refine ⟨?_, Nat.le_refl _, Nat.le_refl _, ?_, ?_, fun a c9 h9 => ⟨c9, h9, rfl, rfl, fun _ _ => rfl⟩⟩
    · obtain ⟨t, ht, -⟩ := State.frames_cons hr
      show T.setVm s.vm = { ((T.setVm s.vm).setFrames (.invoking m args :: below)).setFrames (T.setVm s.vm).frames with heap := T.heap, slotsUsed := T.slotsUsed }
      rw [State.setFrames_setFrames, State.setFrames_self ht]
      rfl
    · show T.slotsUsed = T.slotsUsed + ((T.heap.toList.drop T.heap.size).map (·.slots.size)).sum
      rw [List.drop_eq_nil_of_le (Nat.le_of_eq Array.length_toList)]
      rfl
    · show ((T.heap.toList.drop T.heap.size).map (·.slots.size)).sum ≤ 0
      rw [List.drop_eq_nil_of_le (Nat.le_of_eq Array.length_toList)]
      exact Nat.le_refl _
/-- 'throw new E()': new; dup; invokespecial; athrow -/
theorem vx_throw0 {cc : ByteArray} {pc : Nat} (hexec : p.tables.exec = Jvm.exec) (hb : c.code = cc) (hl : l.stackTraces = false) {own cls : String} {names : List String} {ik ic mc ms : Nat} {A : Nat → Prop}
    (hown : s.vm.findClass own = some m.cls) (hcls : Bundle.fit cls = true) (hnames : ∀ n ∈ names, Bundle.fit n = true)
    (hk : (Cond.classLink own ik cls).before args s = true) (hini : (Cond.initialized cls).before args s = true) (hat : ∀ w ∈ vx_at0 own ic cls names, w.before args s = true)
    (hgood : ∀ w ∈ Cond.classLink own ik cls :: Cond.initialized cls :: vx_at0 own ic cls names, vx_ot w = true)
    (hU : vx_Zq Bundle.tN "UNASSIGNED_STACK" Bundle.steD A s s.heap) (hN : vx_Zq Bundle.tN "SUPPRESSED_SENTINEL" Bundle.listD A s s.heap) (hS : va_S A s.heap H locs) (hsize : ls.size = c.maxLocals)
    (d0 : decode cc pc = .ok (.new ik, 3)) (d3 : decode cc (pc + 3) = .ok (.dup, 1)) (d4 : decode cc (pc + 4) = .ok (.invokespecial ic, 3)) (d7 : decode cc (pc + 7) = .ok (.athrow, 1))
    (hout : ∀ x ∈ c.exceptionTable.toList, covers x (pc + 7) = false)
    (hRframes : names.length + 3 < R.frames) (hRlocals : (rest.map fun v => v.category).sum + (13 * (names.length + 1) + 42) ≤ R.locals) (hRcells : cells + 1 ≤ R.cells) (hRslots : slots + 6 ≤ R.slots) (hlocks : meth.locks = false)
    (hx : ∀ t : State, s.vm.Alike t.vm → H.size ≤ t.heap.size → (∀ q : Nat, q < H.size → t.heap[q]? = H[q]?) → XC cls s t)
    (hf : ∀ z ∈ locs, free z.base) (hc : cells + 1 ≤ mc) (hs : slots + 6 ≤ ms) :
    W p l e R s m args below meth c H locs cells slots (vx_MQ below Qc XC args s mc ms free) (F0 m pc ls rest) := by
  intro T hT X
  have htr : e.platform.stackTraces = false := (show e.platform.stackTraces = l.stackTraces by rw [X.admits.platform]).trans hl
  have Y := vx_rebase X (R' := { frames := R.frames, locals := R.locals, cells := 1, slots := 6 }) (Nat.le_refl _) (Nat.le_refl _) hRcells hRslots
  obtain ⟨s', hA⟩ : ∃ z, z = (T.setVm s.vm).setFrames (.invoking m args :: below) := ⟨_, rfl⟩
  rw [← hA] at Y
  have hvm : s'.vm = s.vm := by rw [hA]; rfl
  have hhp : s'.heap = H := by rw [hA]; exact hT
  have hW0 : s.WarmedH s'.vm := by rw [hvm]; exact State.WarmedH.refl s
  have hat' : ∀ w ∈ vx_at0 own ic cls names, w.before args s' = true := fun w hw => vx_ot_at hW0 hvm.symm (hgood w (List.mem_cons_of_mem _ (List.mem_cons_of_mem _ hw))) (hat w hw)
  have hk' : (Cond.classLink own ik cls).before args s' = true := vx_ot_at hW0 hvm.symm (hgood _ List.mem_cons_self) hk
  have hini' : (Cond.initialized cls).before args s' = true := vx_ot_at hW0 hvm.symm (hgood _ (List.mem_cons_of_mem _ List.mem_cons_self)) hini
  have hU' : vx_Zq Bundle.tN "UNASSIGNED_STACK" Bundle.steD A s' s'.heap := by rw [hhp]; exact vx_Zq.moved hW0.alike (hU.kept hS.2.1)
  have hN' : vx_Zq Bundle.tN "SUPPRESSED_SENTINEL" Bundle.listD A s' s'.heap := by rw [hhp]; exact vx_Zq.moved hW0.alike (hN.kept hS.2.1)
  have h : ∀ w ∈ Bundle.ownAtoms0 own ic cls names, w.before args s' = true := vx_own hat' (vx_isRefq hU'.1) (vx_isRefq hN'.1) hU'.2.word hN'.2.word
  have hown' : s'.vm.findClass own = some m.cls := by rw [hvm]; exact hown
  have hins : (Cond.instantiable cls 6).before args s' = true := h _ (by simp [Bundle.ownAtoms0])
  obtain ⟨vm₁, cX, kX, hfX, hkX, -, -, X₁, st1⟩ := Y.newCold hexec (own := own) (C := cls) (index := ik) (n := 6) hown' hk' hins hini'
    (g := F0 m pc ls rest) rfl (by rw [hb]; exact d0) (Nat.le_refl _) (Nat.le_refl _)
  generalize hT1 : (T.setVm vm₁).pushCell { cls := cX, slots := kX.instanceTypes.map defaultValue, vm := .none } = T1 at X₁ st1
  have hcat : (Value.ref T.heap.size).category = 1 := rfl
  have hcellA : T1.heap[T.heap.size]? = some (freshCell cX kX) := by rw [← hT1]; exact State.heap_pushCell_size _ _
  have d3' : decode c.code (pc + 3) = .ok (.dup, 1) := by rw [hb]; exact d3
  obtain ⟨U, hsteps, hrun, hend, hW, hsame, ce, hce, hO⟩ := X₁.ctorThrow0 hexec htr (own := own) (cls := cls) (names := names) (ic := ic) hown' hcls hnames h (fun x hx => nomatch hx) hfX hkX hcellA (by rw [hhp, hT]; exact Nat.le_refl _)
    (g := { method := m, pc := pc + 4, locals := ls, stack := .ref T.heap.size :: .ref T.heap.size :: rest, locked := none }) rfl hsize rfl rfl (rest := rest) rfl
    (by rw [hb]; exact d4) (by rw [hb]; exact d7) hout hRframes (by simp only [List.map_cons, List.sum_cons, hcat]; omega) hlocks
  obtain ⟨f1, f2⟩ := vx_frame hsame
  rw [hhp] at f1 f2
  have hWs : s.WarmedH U.vm := State.WarmedH.trans hW0 hW
  have hcl : s.vm.findClass cls = some ce.cls := by
    have h9 := hO.cls
    rw [hvm] at h9
    exact h9
  have hall : s.sameButNew ({ U with vm := s.vm } : State) locs mc ms := by
    subst hA
    obtain ⟨e1, e2⟩ := hsame
    rw [State.setFrames_setFrames] at e1
    have h2 : (T.setVm s.vm).sameButNew ({ U with vm := s.vm } : State) [] (0 + 1) (0 + 6) := ⟨e1, e2⟩
    have h3 := X.same.trans h2
    rw [List.append_nil] at h3
    exact h3.mono hc hs
  refine ⟨U, ?_, .threw T.heap.size, hrun, hend, Or.inr ⟨T.heap.size, rfl, cls, ce, locs, hx U hWs.alike f1 (fun q hq => f2 q hq (fun z hz => nomatch hz)), hce, hO.vm, hcl, hWs, hall, hf⟩⟩
  refine st1 _ ?_
  show Steps p.tables e below (T1.setTop { method := m, pc := pc + 3, locals := ls, stack := .ref T.heap.size :: rest, locked := none }) _
  jvm_step X₁.here [X₁.here.top, hexec, d3', Value.category]
  exact hsteps
/-- 'throw new E("text")': new; dup; ldc; invokespecial; athrow -/
theorem vx_throwS {cc : ByteArray} {pc : Nat} (hexec : p.tables.exec = Jvm.exec) (hb : c.code = cc) (hl : l.stackTraces = false) {own cls text : String} {names : List String} {ik is ic mc ms sa : Nat} {A : Nat → Prop}
    (hown : s.vm.findClass own = some m.cls) (hcls : Bundle.fit cls = true) (hnames : ∀ n ∈ names, Bundle.fit n = true)
    (hk : (Cond.classLink own ik cls).before args s = true) (hini : (Cond.initialized cls).before args s = true) (hstr : vk_R own is text sa s) (hat : ∀ w ∈ vx_atS own ic cls names, w.before args s = true)
    (hgood : ∀ w ∈ Cond.classLink own ik cls :: Cond.initialized cls :: vx_atS own ic cls names, vx_ot w = true)
    (hU : vx_Zq Bundle.tN "UNASSIGNED_STACK" Bundle.steD A s s.heap) (hN : vx_Zq Bundle.tN "SUPPRESSED_SENTINEL" Bundle.listD A s s.heap) (hS : va_S A s.heap H locs) (hsize : ls.size = c.maxLocals)
    (d0 : decode cc pc = .ok (.new ik, 3)) (d3 : decode cc (pc + 3) = .ok (.dup, 1)) (d4 : decode cc (pc + 4) = .ok (.ldc is, 2)) (d6 : decode cc (pc + 6) = .ok (.invokespecial ic, 3)) (d9 : decode cc (pc + 9) = .ok (.athrow, 1))
    (hout : ∀ x ∈ c.exceptionTable.toList, covers x (pc + 9) = false)
    (hRframes : names.length + 3 < R.frames) (hRlocals : (rest.map fun v => v.category).sum + (13 * (names.length + 1) + 43) ≤ R.locals) (hRcells : cells + 1 ≤ R.cells) (hRslots : slots + 6 ≤ R.slots) (hlocks : meth.locks = false)
    (hx : ∀ t : State, s.vm.Alike t.vm → H.size ≤ t.heap.size → (∀ q : Nat, q < H.size → t.heap[q]? = H[q]?) → XC cls s t)
    (hf : ∀ z ∈ locs, free z.base) (hc : cells + 1 ≤ mc) (hs : slots + 6 ≤ ms) :
    W p l e R s m args below meth c H locs cells slots (vx_MQ below Qc XC args s mc ms free) (F0 m pc ls rest) := by
  intro T hT X
  have htr : e.platform.stackTraces = false := (show e.platform.stackTraces = l.stackTraces by rw [X.admits.platform]).trans hl
  have Y := vx_rebase X (R' := { frames := R.frames, locals := R.locals, cells := 1, slots := 6 }) (Nat.le_refl _) (Nat.le_refl _) hRcells hRslots
  obtain ⟨s', hA⟩ : ∃ z, z = (T.setVm s.vm).setFrames (.invoking m args :: below) := ⟨_, rfl⟩
  rw [← hA] at Y
  have hvm : s'.vm = s.vm := by rw [hA]; rfl
  have hhp : s'.heap = H := by rw [hA]; exact hT
  have hW0 : s.WarmedH s'.vm := by rw [hvm]; exact State.WarmedH.refl s
  have hat' : ∀ w ∈ vx_atS own ic cls names, w.before args s' = true := fun w hw => vx_ot_at hW0 hvm.symm (hgood w (List.mem_cons_of_mem _ (List.mem_cons_of_mem _ hw))) (hat w hw)
  have hk' : (Cond.classLink own ik cls).before args s' = true := vx_ot_at hW0 hvm.symm (hgood _ List.mem_cons_self) hk
  have hini' : (Cond.initialized cls).before args s' = true := vx_ot_at hW0 hvm.symm (hgood _ (List.mem_cons_of_mem _ List.mem_cons_self)) hini
  have hU' : vx_Zq Bundle.tN "UNASSIGNED_STACK" Bundle.steD A s' s'.heap := by rw [hhp]; exact vx_Zq.moved hW0.alike (hU.kept hS.2.1)
  have hN' : vx_Zq Bundle.tN "SUPPRESSED_SENTINEL" Bundle.listD A s' s'.heap := by rw [hhp]; exact vx_Zq.moved hW0.alike (hN.kept hS.2.1)
  have h : ∀ w ∈ Bundle.ownAtoms own ic cls names, w.before args s' = true := vx_own hat' (vx_isRefq hU'.1) (vx_isRefq hN'.1) hU'.2.word hN'.2.word
  have hown' : s'.vm.findClass own = some m.cls := by rw [hvm]; exact hown
  have hins : (Cond.instantiable cls 6).before args s' = true := h _ (by simp [Bundle.ownAtoms])
  obtain ⟨vm₁, cX, kX, hfX, hkX, -, -, X₁, st1⟩ := Y.newCold hexec (own := own) (C := cls) (index := ik) (n := 6) hown' hk' hins hini'
    (g := F0 m pc ls rest) rfl (by rw [hb]; exact d0) (Nat.le_refl _) (Nat.le_refl _)
  generalize hT1 : (T.setVm vm₁).pushCell { cls := cX, slots := kX.instanceTypes.map defaultValue, vm := .none } = T1 at X₁ st1
  have hcat : (Value.ref T.heap.size).category = 1 := rfl
  have hcellA : T1.heap[T.heap.size]? = some (freshCell cX kX) := by rw [← hT1]; exact State.heap_pushCell_size _ _
  have d3' : decode c.code (pc + 3) = .ok (.dup, 1) := by rw [hb]; exact d3
  have d4' : decode c.code (pc + 4) = .ok (.ldc is, 2) := by rw [hb]; exact d4
  have hstr' : vk_R own is text sa s' := vk_R.warm hW0 hstr
  obtain ⟨U, hsteps, hrun, hend, hW, hsame, ce, hce, hO⟩ := X₁.ctorThrowS hexec htr (own := own) (cls := cls) (names := names) (ic := ic) hown' hcls hnames h (fun x hx => nomatch hx) hfX hkX hcellA (by rw [hhp, hT]; exact Nat.le_refl _) (msg := .ref sa) rfl
    (g := { method := m, pc := pc + 6, locals := ls, stack := .ref sa :: .ref T.heap.size :: .ref T.heap.size :: rest, locked := none }) rfl hsize rfl rfl (rest := rest) rfl
    (by rw [hb]; exact d6) (by rw [hb]; exact d9) hout hRframes (by simp only [List.map_cons, List.sum_cons, hcat]; omega) hlocks
  obtain ⟨f1, f2⟩ := vx_frame hsame
  rw [hhp] at f1 f2
  have hWs : s.WarmedH U.vm := State.WarmedH.trans hW0 hW
  have hcl : s.vm.findClass cls = some ce.cls := by
    have h9 := hO.cls
    rw [hvm] at h9
    exact h9
  have hall : s.sameButNew ({ U with vm := s.vm } : State) locs mc ms := by
    subst hA
    obtain ⟨e1, e2⟩ := hsame
    rw [State.setFrames_setFrames] at e1
    have h2 : (T.setVm s.vm).sameButNew ({ U with vm := s.vm } : State) [] (0 + 1) (0 + 6) := ⟨e1, e2⟩
    have h3 := X.same.trans h2
    rw [List.append_nil] at h3
    exact h3.mono hc hs
  refine ⟨U, ?_, .threw T.heap.size, hrun, hend, Or.inr ⟨T.heap.size, rfl, cls, ce, locs, hx U hWs.alike f1 (fun q hq => f2 q hq (fun z hz => nomatch hz)), hce, hO.vm, hcl, hWs, hall, hf⟩⟩
  refine st1 _ ?_
  show Steps p.tables e below (T1.setTop { method := m, pc := pc + 3, locals := ls, stack := .ref T.heap.size :: rest, locked := none }) _
  jvm_step X₁.here [X₁.here.top, hexec, d3', Value.category]
  exact X₁.ldcString hexec (own := own) (text := text) (index := is) (a := sa) hown' hstr'.1 hstr'.2
    (g := { method := m, pc := pc + 4, locals := ls, stack := .ref T.heap.size :: .ref T.heap.size :: rest, locked := none }) rfl d4' _ hsteps
/-- 'throw new E("text")', the text by a wide index -/
theorem vx_throwSW {cc : ByteArray} {pc : Nat} (hexec : p.tables.exec = Jvm.exec) (hb : c.code = cc) (hl : l.stackTraces = false) {own cls text : String} {names : List String} {ik is ic mc ms sa : Nat} {A : Nat → Prop}
    (hown : s.vm.findClass own = some m.cls) (hcls : Bundle.fit cls = true) (hnames : ∀ n ∈ names, Bundle.fit n = true)
    (hk : (Cond.classLink own ik cls).before args s = true) (hini : (Cond.initialized cls).before args s = true) (hstr : vk_R own is text sa s) (hat : ∀ w ∈ vx_atS own ic cls names, w.before args s = true)
    (hgood : ∀ w ∈ Cond.classLink own ik cls :: Cond.initialized cls :: vx_atS own ic cls names, vx_ot w = true)
    (hU : vx_Zq Bundle.tN "UNASSIGNED_STACK" Bundle.steD A s s.heap) (hN : vx_Zq Bundle.tN "SUPPRESSED_SENTINEL" Bundle.listD A s s.heap) (hS : va_S A s.heap H locs) (hsize : ls.size = c.maxLocals)
    (d0 : decode cc pc = .ok (.new ik, 3)) (d3 : decode cc (pc + 3) = .ok (.dup, 1)) (d4 : decode cc (pc + 4) = .ok (.ldc_w is, 3)) (d7 : decode cc (pc + 7) = .ok (.invokespecial ic, 3)) (d10 : decode cc (pc + 10) = .ok (.athrow, 1))
    (hout : ∀ x ∈ c.exceptionTable.toList, covers x (pc + 10) = false)
    (hRframes : names.length + 3 < R.frames) (hRlocals : (rest.map fun v => v.category).sum + (13 * (names.length + 1) + 43) ≤ R.locals) (hRcells : cells + 1 ≤ R.cells) (hRslots : slots + 6 ≤ R.slots) (hlocks : meth.locks = false)
    (hx : ∀ t : State, s.vm.Alike t.vm → H.size ≤ t.heap.size → (∀ q : Nat, q < H.size → t.heap[q]? = H[q]?) → XC cls s t)
    (hf : ∀ z ∈ locs, free z.base) (hc : cells + 1 ≤ mc) (hs : slots + 6 ≤ ms) :
    W p l e R s m args below meth c H locs cells slots (vx_MQ below Qc XC args s mc ms free) (F0 m pc ls rest) := by
  intro T hT X
  have htr : e.platform.stackTraces = false := (show e.platform.stackTraces = l.stackTraces by rw [X.admits.platform]).trans hl
  have Y := vx_rebase X (R' := { frames := R.frames, locals := R.locals, cells := 1, slots := 6 }) (Nat.le_refl _) (Nat.le_refl _) hRcells hRslots
  obtain ⟨s', hA⟩ : ∃ z, z = (T.setVm s.vm).setFrames (.invoking m args :: below) := ⟨_, rfl⟩
  rw [← hA] at Y
  have hvm : s'.vm = s.vm := by rw [hA]; rfl
  have hhp : s'.heap = H := by rw [hA]; exact hT
  have hW0 : s.WarmedH s'.vm := by rw [hvm]; exact State.WarmedH.refl s
  have hat' : ∀ w ∈ vx_atS own ic cls names, w.before args s' = true := fun w hw => vx_ot_at hW0 hvm.symm (hgood w (List.mem_cons_of_mem _ (List.mem_cons_of_mem _ hw))) (hat w hw)
  have hk' : (Cond.classLink own ik cls).before args s' = true := vx_ot_at hW0 hvm.symm (hgood _ List.mem_cons_self) hk
  have hini' : (Cond.initialized cls).before args s' = true := vx_ot_at hW0 hvm.symm (hgood _ (List.mem_cons_of_mem _ List.mem_cons_self)) hini
  have hU' : vx_Zq Bundle.tN "UNASSIGNED_STACK" Bundle.steD A s' s'.heap := by rw [hhp]; exact vx_Zq.moved hW0.alike (hU.kept hS.2.1)
  have hN' : vx_Zq Bundle.tN "SUPPRESSED_SENTINEL" Bundle.listD A s' s'.heap := by rw [hhp]; exact vx_Zq.moved hW0.alike (hN.kept hS.2.1)
  have h : ∀ w ∈ Bundle.ownAtoms own ic cls names, w.before args s' = true := vx_own hat' (vx_isRefq hU'.1) (vx_isRefq hN'.1) hU'.2.word hN'.2.word
  have hown' : s'.vm.findClass own = some m.cls := by rw [hvm]; exact hown
  have hins : (Cond.instantiable cls 6).before args s' = true := h _ (by simp [Bundle.ownAtoms])
  obtain ⟨vm₁, cX, kX, hfX, hkX, -, -, X₁, st1⟩ := Y.newCold hexec (own := own) (C := cls) (index := ik) (n := 6) hown' hk' hins hini'
    (g := F0 m pc ls rest) rfl (by rw [hb]; exact d0) (Nat.le_refl _) (Nat.le_refl _)
  generalize hT1 : (T.setVm vm₁).pushCell { cls := cX, slots := kX.instanceTypes.map defaultValue, vm := .none } = T1 at X₁ st1
  have hcat : (Value.ref T.heap.size).category = 1 := rfl
  have hcellA : T1.heap[T.heap.size]? = some (freshCell cX kX) := by rw [← hT1]; exact State.heap_pushCell_size _ _
  have d3' : decode c.code (pc + 3) = .ok (.dup, 1) := by rw [hb]; exact d3
  have d4' : decode c.code (pc + 4) = .ok (.ldc_w is, 3) := by rw [hb]; exact d4
  have hstr' : vk_R own is text sa s' := vk_R.warm hW0 hstr
  obtain ⟨U, hsteps, hrun, hend, hW, hsame, ce, hce, hO⟩ := X₁.ctorThrowS hexec htr (own := own) (cls := cls) (names := names) (ic := ic) hown' hcls hnames h (fun x hx => nomatch hx) hfX hkX hcellA (by rw [hhp, hT]; exact Nat.le_refl _) (msg := .ref sa) rfl
    (g := { method := m, pc := pc + 7, locals := ls, stack := .ref sa :: .ref T.heap.size :: .ref T.heap.size :: rest, locked := none }) rfl hsize rfl rfl (rest := rest) rfl
    (by rw [hb]; exact d7) (by rw [hb]; exact d10) hout hRframes (by simp only [List.map_cons, List.sum_cons, hcat]; omega) hlocks
  obtain ⟨f1, f2⟩ := vx_frame hsame
  rw [hhp] at f1 f2
  have hWs : s.WarmedH U.vm := State.WarmedH.trans hW0 hW
  have hcl : s.vm.findClass cls = some ce.cls := by
    have h9 := hO.cls
    rw [hvm] at h9
    exact h9
  have hall : s.sameButNew ({ U with vm := s.vm } : State) locs mc ms := by
    subst hA
    obtain ⟨e1, e2⟩ := hsame
    rw [State.setFrames_setFrames] at e1
    have h2 : (T.setVm s.vm).sameButNew ({ U with vm := s.vm } : State) [] (0 + 1) (0 + 6) := ⟨e1, e2⟩
    have h3 := X.same.trans h2
    rw [List.append_nil] at h3
    exact h3.mono hc hs
  refine ⟨U, ?_, .threw T.heap.size, hrun, hend, Or.inr ⟨T.heap.size, rfl, cls, ce, locs, hx U hWs.alike f1 (fun q hq => f2 q hq (fun z hz => nomatch hz)), hce, hO.vm, hcl, hWs, hall, hf⟩⟩
  refine st1 _ ?_
  show Steps p.tables e below (T1.setTop { method := m, pc := pc + 3, locals := ls, stack := .ref T.heap.size :: rest, locked := none }) _
  jvm_step X₁.here [X₁.here.top, hexec, d3', Value.category]
  exact X₁.ldcStringW hexec (own := own) (text := text) (index := is) (a := sa) hown' hstr'.1 hstr'.2
    (g := { method := m, pc := pc + 4, locals := ls, stack := .ref T.heap.size :: .ref T.heap.size :: rest, locked := none }) rfl d4' _ hsteps
end Ends
section Bodies
variable {l : Launch}
theorem vx_ofW {y : MethodName} {ws ws' : List Cond} {rm : Room} {Pc : Array Value → State → Prop} {Qc : Array Value → State → Outcome → State → Prop} {XC : String → State → State → Prop} {mc ms : Nat} {free : Addr → Prop} {cc : ByteArray} {maxL : Nat} {ret : Option FieldType}
    (hy : plainName y.cls = true) (hw : ws = Cond.code y cc maxL ret :: ws')
    (body : ∀ p e s m args below meth c s₁, BodyLoose p l y (headSpec ws rm) cc maxL ret e s m args below meth c s₁ → c.maxLocals = maxL → (∀ x ∈ c.exceptionTable.toList, False) → Pc args s →
      W p l e (headSpec ws rm).room s m args below meth c s.heap [] 0 0 (vx_MQ below Qc XC args s mc ms free) (entryFrame m args maxL)) : vx_Met l y ws rm Pc Qc XC mc ms free := by
  refine MetFree.of_bodyS (code := cc) (maxLocals := maxL) (ret := ret) hy ?_ ?_
  · intro args s m h hn
    obtain ⟨meth, c, h1, h2, h3, h4, h5, h6, -, -⟩ := Cond.code_spec hn (atoms_spec (ws := ws) h _ (by rw [hw]; exact List.mem_cons_self))
    exact ⟨meth, c, h1, h2, h3, h4, h5, h6⟩
  · intro p e s m args below meth c s₁ B hml hP _
    have hh0 : s₁.heap = s.heap := by rw [B.state]; rfl
    have ht : ∀ x ∈ c.exceptionTable.toList, False := by
      obtain ⟨meth9, c9, h1, h2, -, -, -, -, h7, -⟩ := Cond.code_spec B.named (atoms_spec (ws := ws) B.pre _ (by rw [hw]; exact List.mem_cons_self))
      cases Option.some.inj (h1.symm.trans B.method)
      cases Option.some.inj (h2.symm.trans (Stand.of_body B).code)
      intro x hx
      rw [Array.isEmpty_iff.mp h7] at hx
      cases hx
    obtain ⟨t, a1, o, b1, b2, b3⟩ := body p e s m args below meth c s₁ B hml ht hP s₁ hh0 (Stand.of_body B)
    exact ⟨t, o, a1, b1, b2, b3⟩
/-- the table of a body with handlers -/
theorem vx_table {p : Program} {x y : MethodName} {S : Spec} {cc bytes : ByteArray} {maxL maxL' : Nat} {ret ret' : Option FieldType} {e : Env} {s s₁ : State} {m : MethodId} {args : Array Value} {below : List Frame} {meth : Method} {c : Code} {hh : List (Nat × Nat × Nat × Nat)}
    (B : BodyLoose p l y S cc maxL ret e s m args below meth c s₁) (h : (Cond.codeWith y bytes maxL' ret' hh).before args s = true) : c.exceptionTable.toList = tableOf hh := by
  obtain ⟨m9, meth9, c9, hn9, h1, h2, -, -, h6, -⟩ := Cond.codeWith_spec h
  cases Option.some.inj (hn9.symm.trans B.named)
  cases Option.some.inj (h1.symm.trans B.method)
  cases Option.some.inj (h2.symm.trans (Stand.of_body B).code)
  rw [← h6, table_eq]
end Bodies
end VXA
/-! ===== END ===== -/
/-! ===== BEGIN a static call of a method with an exception table ===== -/
section VXS
variable {p : Program} {l : Launch} {e : Env} {R : Room} {s : State} {m : MethodId} {args : Array Value} {below : List Frame} {meth : Method} {c : Code} {T : State} {H : Heap} {locs : List Loc} {cells slots : Nat}
abbrev vx_CSW (R : Room) (s : State) (args : Array Value) (own : String) (index : Nat) (y : MethodName) (bytes : ByteArray) (maxL : Nat) (ret : Option FieldType) (hh : List (Nat × Nat × Nat × Nat)) (ws : List Cond) (rm : Room) (mc ms n : Nat) : Prop :=
  (rm.cells = mc ∧ rm.slots = ms ∧ rm.frames + 1 ≤ R.frames ∧ 8 + (maxL + 11) + rm.locals ≤ R.locals ∧ (∀ w ∈ ws, ∀ (a' : Array Value) (U : State), s.WarmedH U.vm → w.before a' U = true) ∧ Cond.codeWith y bytes maxL ret hh ∈ ws) ∧
  (Cond.codeWith y bytes maxL ret hh).before args s = true ∧ (Cond.initialized y.cls).before args s = true ∧ (y.cls ≠ "java/lang/invoke/MethodHandle" ∧ y.cls ≠ "java/lang/invoke/VarHandle") ∧
  (∀ sig, parseMethodDescriptor y.desc = some sig → n = sig.parameters.length) ∧ (Cond.methodLink own index y).before args s = true ∧ (Cond.static y).before args s = true
theorem vx_cwSW {own : String} {index maxL mc ms : Nat} {y : MethodName} {bytes : ByteArray} {ret : Option FieldType} {hh : List (Nat × Nat × Nat × Nat)} {Ts ws ws' : List Cond} {rm : Room} (n : Nat) (ht : ∀ w ∈ Ts, w.before args s = true) (hT : GoodIn Ts (va_wsS own index y ws)) (hw : ws = Cond.codeWith y bytes maxL ret hh :: ws') (hrc : rm.cells = mc) (hrs : rm.slots = ms)
    (hd : y.cls ≠ "java/lang/invoke/MethodHandle" ∧ y.cls ≠ "java/lang/invoke/VarHandle" ∧ (parseMethodDescriptor y.desc).map (fun d => d.parameters.length) = some n) (hR : rm.frames + 1 ≤ R.frames ∧ 8 + (maxL + 11) + rm.locals ≤ R.locals) :
    vx_CSW R s args own index y bytes maxL ret hh ws rm mc ms n := by
  have ok : ∀ w ∈ va_wsS own index y ws, w.before args s = true := fun w h => ht w (hT w h).1
  have hG : GoodIn Ts ws := fun w h => hT w (by unfold va_wsS; exact List.mem_append_right _ h)
  have hc : Cond.codeWith y bytes maxL ret hh ∈ ws := by rw [hw]; exact List.mem_cons_self
  refine ⟨⟨hrc, hrs, hR.1, hR.2, pay_in ht hG, hc⟩, ht _ (hG _ hc).1, ok _ (by simp [va_wsS]), ⟨hd.1, hd.2.1⟩, fun sig h => ?_, ok _ (by simp [va_wsS]), ok _ (by simp [va_wsS])⟩
  have h2 := hd.2.2
  rw [h] at h2
  exact (Option.some.inj h2).symm
theorem vx_callSW (X : Stand p l e R s m args below meth c T locs cells slots) (hexec : p.tables.exec = Jvm.exec) {own : String} {index : Nat} {y : MethodName} {bytes : ByteArray} {maxL : Nat} {ret : Option FieldType} {hh : List (Nat × Nat × Nat × Nat)}
    (hown : s.vm.findClass own = some m.cls) (hlink : (Cond.methodLink own index y).before args s = true) (hstat : (Cond.static y).before args s = true) (hinit : (Cond.initialized y.cls).before args s = true)
    (hcode : (Cond.codeWith y bytes maxL ret hh).before args s = true) (hy : y.cls ≠ "java/lang/invoke/MethodHandle" ∧ y.cls ≠ "java/lang/invoke/VarHandle")
    {W9 : Nat} {Pre : Pt → Array Value → Prop} {Post : Pt → Array Value → Option Value → Pt → Prop} (hK : Back l R p e below s args y 3 W9 Pre Post)
    {g : JFrame} (hg : g.method = m) (hsize : g.locals.size = c.maxLocals) {argsL rest : List Value} (hlen : ∀ sig, parseMethodDescriptor y.desc = some sig → argsL.length = sig.parameters.length)
    (hstack : g.stack = argsL.reverse ++ rest) (hW : 2 * g.monitorRoom + (rest.map fun v => v.category).sum ≤ W9) (hdg : decode c.code g.pc = .ok (.invokestatic index, 3))
    (hpre : ∀ vm₁, s.WarmedH vm₁ → Pre ⟨T.setVm vm₁, locs, cells, slots⟩ argsL.toArray) :
    ∃ (v : Option Value) (vm₁ : Vm) (B : Pt), s.WarmedH vm₁ ∧ Stand p l e R s m args below meth c B.U B.locs B.cells B.slots ∧ Post ⟨T.setVm vm₁, locs, cells, slots⟩ argsL.toArray v B ∧
      ∀ target, Steps p.tables e below (B.U.setTop { g with pc := g.pc + 3, stack := v.toList ++ rest }) target → Steps p.tables e below (T.setTop g) target := by
  obtain ⟨mk, methM, cM, hnamed, hmethM, -, -, -, -, -, -, hsigM⟩ := Cond.codeWith_spec hcode
  have hstatic : methM.isStatic = true := Cond.static_spec hnamed hmethM hstat
  obtain ⟨kP, hkP, -⟩ := className_of_methodNamed hnamed
  have hinitP : kP.init = .initialized := Cond.initialized_spec (findClass_of_methodNamed hnamed) hkP hinit
  obtain ⟨vm₁, X₁, hstep₁⟩ := X.invokestatic hexec hown hlink hnamed hmethM hstatic hkP hinitP hy (g := g) hg (argsL := argsL) (rest := rest) (hlen _ hsigM) hstack hdg
  obtain ⟨v, B, X', hpost, hsteps⟩ := hK m meth c ⟨T.setVm vm₁, locs, cells, slots⟩ { g with stack := rest } (.invokestatic index) mk argsL.toArray X₁ hg hsize hdg hW (X₁.named hnamed) (hpre vm₁ X₁.warmed)
  exact ⟨v, vm₁, B, X₁.warmed, X', hpost, fun target h => hstep₁ _ fun acts => by rw [doInvoke_state]; exact hsteps.trans h⟩
theorem vx_runSW {y : MethodName} {bytes cc : ByteArray} {maxL nL mc ms n index : Nat} {ret : Option FieldType} {hh : List (Nat × Nat × Nat × Nat)} {ws : List Cond} {rm : Room} {Pc : Array Value → State → Prop} {Qc : Array Value → State → Outcome → State → Prop} {free : Addr → Prop} {Ts : List Cond} {own : String} {As rest : List Value} {g : JFrame}
    (S : CallFix p m c cc nL s args Ts own) (hM : Met l y ws rm Pc Qc mc ms free) (cw : vx_CSW R s args own index y bytes maxL ret hh ws rm mc ms n) (hp : PreS s H Pc As)
    (hg : g.method = m) (hn : As.length = n) (hsize : g.locals.size = nL) (hstack : g.stack = As.reverse ++ rest) (hW : 2 * g.monitorRoom + (rest.map fun v => v.category).sum ≤ 8) (hdg : decode cc g.pc = .ok (.invokestatic index, 3)) (hf : cells + mc ≤ R.cells ∧ slots + ms ≤ R.slots) :
    va_Run p l e R s m args below meth c H locs cells slots mc ms g rest (Qc As.toArray) (free) := by
  obtain ⟨⟨hrc, hrs, hfr, hlo, hws, hcw⟩, hcode, hini, hy, hlen, hl, hstt⟩ := cw
  have hK : Back l R p e below s args y 3 8 (PreOf R mc ms Pc) (PostOf Qc mc ms free) := va_backW (hh := hh) (bytes := bytes) (maxL := maxL) (ret := ret) hM hp.1 hrc hrs hfr hlo hws hcw (fun a' U hW => word_at hW (Or.inl (by first | rfl | simp [Cond.onTables, Cond.keeps, Cond.steady])) hini)
  obtain ⟨hx, hb, hml, ho, -⟩ := S
  intro T hT X
  obtain ⟨v, vm₁, ⟨U', l2, c2, s2⟩, hW₁, X', ⟨g', mk, t, L, e1, e2, hq, h1, hL, h2, h3⟩, st⟩ := vx_callSW X hx (hh := hh) (bytes := bytes) (maxL := maxL) (ret := ret) ho hl hstt hini hcode hy hK hg (hsize.trans hml.symm) (argsL := As) (rest := rest) (fun sig h => hn.trans (hlen sig h)) hstack hW (by rw [hb]; exact hdg)
    (fun vm₁ hW₁ => ⟨hf.1, hf.2, hp.2 (T.setVm vm₁) hT hW₁⟩)
  dsimp only [Pt.U, Pt.locs, Pt.cells, Pt.slots] at X' e1 e2 h1 h2 h3 st
  subst h1; subst h2; subst h3
  exact ⟨v, (T.setVm vm₁).calling g' mk As.toArray, t, U', L, hT, X', hL, e1, e2, hq, st⟩
/-- not caught here, past rows that name other classes: it goes on to the caller -/
theorem vx_outP {p : Program} {l : Launch} {e : Env} {R : Room} {s : State} {m : MethodId} {args : Array Value} {below : List Frame} {meth : Method} {c : Code} {H : Heap} {locs : List Loc} {cells slots : Nat} {free : Addr → Prop} {ls : Array Slot} {rest : List Value} {Qc : Array Value → State → Outcome → State → Prop} {XC : String → State → State → Prop}
    {pc : Nat} {own E : String} {ce : Cell} {q : Addr} {mc ms : Nat} (hown : s.vm.findClass own = some m.cls) (hlocks : meth.locks = false)
    (hpass : ∀ z ∈ c.exceptionTable.toList, covers z pc = false ∨ (z.catchType ≠ 0 ∧ ∃ nm : String, (Cond.classLink own z.catchType nm).before args s = true ∧ va_Nc E nm s)) (hcell : H[q]? = some ce) (hv : ce.vm = .none) (hcl : s.vm.findClass E = some ce.cls)
    (hx : ∀ t : State, t.heap = H → s.vm.Alike t.vm → XC E s t) (hf : ∀ z ∈ locs, free z.base) (hc : cells ≤ mc) (hs : slots ≤ ms) :
    vx_W p l e R s m args below meth c H locs cells slots (vx_MQ below Qc XC args s mc ms free) (F0 m pc ls rest) q := by
  intro T hT X
  have hpl : e.platform.magicAccessors = ({} : Platform).magicAccessors := by rw [X.admits.platform]
  obtain ⟨vm', hW', X', st⟩ := X.outThrough hlocks q (g := F0 m pc ls rest) rfl rfl rfl (cell := ce) (by rw [hT]; exact hcell) (by rw [hv]; rfl)
    (by obtain ⟨k9, h9, -⟩ := Vm.findClass_spec hcl; exact ⟨k9, h9⟩) (fun z hz => by
      rcases hpass z hz with h | ⟨hz0, nm, hl1, hn1⟩
      · exact Or.inl h
      · obtain ⟨c6, hc6, hcl6⟩ := Cond.classLink_spec hown hl1 e.platform hpl
        obtain ⟨a8, b8, h1, h2, h3⟩ := hn1
        cases Option.some.inj (h1.symm.trans hcl)
        cases Option.some.inj (h2.symm.trans hc6)
        exact Or.inr ⟨hz0, _, hcl6, h3⟩)
  obtain ⟨g₀, hfr⟩ := X'.frames_eq
  have hcell9 : ((T.setVm vm').setFrames (.throwing q :: below)).heap[q]? = some ce := by
    show T.heap[q]? = some ce
    rw [hT]; exact hcell
  have hend : Ended ((T.setVm vm').setFrames (.throwing q :: below)) below (.threw q) := State.frames_setFrames _ (State.cur_lt_of_frames hfr)
  refine ⟨(T.setVm vm').setFrames (.throwing q :: below), ?_, .threw q, X'.here.running, hend, Or.inr ⟨q, rfl, E, ce, locs, hx _ hT (X'.ends _).1.alike, hcell9, hv, hcl, (X'.ends _).1, (X'.ends _).2.mono hc hs, hf⟩⟩
  rw [X.pushThrowing_eq]
  exact st
/-- a thing of a world lies in the heap -/
theorem vx_lt {D : va_G} {cl : List vw_C} {ws : va_W} {H1 : Heap} (h : va_P D cl ws H1) {k : Nat} {q : Nat × va_E} (hk : ws[k]? = some q) : q.1 < H1.size := (h k q hk).lt
end VXS
/-! ===== END ===== -/
/-! ===== BEGIN methods with a table of their own: called by a name, returning or throwing ===== -/
section VXH
/-! vx_backW, vx_callVX, vx_callSX, vx_callVW, vx_runVW, vx_runVX, vx_runSX, vx_ofWH follow the same proofs as their sisters above (Free/Laws.lean, Shelf42/LK1.lean); vx_outP calls Shelf42/NT130.lean (outThrough). -/
section
variable {l : Launch} {R : Room} {p : Program} {e : Env} {below : List Frame} {s : State} {sargs : Array Value} {y : MethodName} {len W9 : Nat}
theorem vx_backW {ws : List Cond} {rm : Room} {Pc : Array Value → State → Prop} {Qc : Array Value → State → Outcome → State → Prop} {XC : String → State → State → Prop} {mc ms : Nat} {free : Addr → Prop} {bytes : ByteArray} {maxL : Nat} {ret : Option FieldType} {hh : List (Nat × Nat × Nat × Nat)}
    (hM : vx_Met l y ws rm Pc Qc XC mc ms free) (hblind : FrameBlind Pc) (hrc : rm.cells = mc) (hrs : rm.slots = ms)
    (hframes : rm.frames + 1 ≤ R.frames) (hlocals : W9 + (maxL + 11) + rm.locals ≤ R.locals)
    (hws : ∀ w ∈ ws, ∀ a' U, s.WarmedH U.vm → w.before a' U = true) (hcode : Cond.codeWith y bytes maxL ret hh ∈ ws) (hinit : ∀ a' U, s.WarmedH U.vm → (Cond.initialized y.cls).before a' U = true) :
    vx_Back l R p e below s sargs y len W9 (PreOf R mc ms Pc) (PostOf Qc mc ms free) (vx_Post XC mc ms free) := by
  intro m meth c A g ig mk a X hg hsize hdg hW hn hp
  have h1 : (headSpec ws rm).pre.before a A.U = true := atoms_intro fun w hw => hws w hw _ _ X.warmed
  have h2 : (Cond.codeWith y bytes maxL ret hh).before a A.U = true := hws _ hcode _ _ X.warmed
  have h3 : (Cond.initialized y.cls).before a A.U = true := hinit _ _ X.warmed
  have h4 : A.cells + (headSpec ws rm).room.cells ≤ R.cells := by rw [show (headSpec ws rm).room.cells = mc from hrc]; exact hp.1
  have h5 : A.slots + (headSpec ws rm).room.slots ≤ R.slots := by rw [show (headSpec ws rm).room.slots = ms from hrs]; exact hp.2.1
  have hPc : Pc a (A.U.calling g mk a) := hblind _ _ _ _ hp.2.2
  obtain ⟨U, Ls, c0, s0⟩ := A
  dsimp only [Pt.U, Pt.locs, Pt.cells, Pt.slots] at h1 h2 h3 h4 h5 X hn hPc ⊢
  obtain ⟨m9, methY, cY, hn9, hmY, hcY, -, hlY, -⟩ := Cond.codeWith_spec h2
  cases Option.some.inj (hn9.symm.trans hn)
  obtain ⟨kY, hkY, -⟩ := className_of_methodNamed hn
  have hinitY : kY.init = .initialized := Cond.initialized_spec (findClass_of_methodNamed hn) hkY h3
  have h : At U g.method c below := by rw [hg]; exact X.here
  have hlocals9 : W9 + (maxL + 11) + (headSpec ws rm).room.locals ≤ R.locals := hlocals
  have happ : (headSpec ws rm).appliesLoose y e.platform (U.calling g mk a) = true :=
    Spec.appliesLoose_calling (g := g) h hdg hn hkY hinitY
      (X.room_calling (g := g) (R' := (headSpec ws rm).room) hsize hmY hcY hframes (by rw [hlY]; omega) h4 h5) h1
  obtain ⟨mid, hmid⟩ := h.above
  have hfr : (U.setTop g).frames = (.java g :: mid) ++ below := by rw [State.frames_setTop' g h.top, hmid]; rfl
  obtain ⟨o, s₂, hsteps, -, hend, hq⟩ := Steps.callFree hM p X.admits X.cas X.clock (acts := []) hfr happ hPc trivial
  have hq' : vx_Q Qc XC mc ms free a (U.calling g mk a) o s₂ := hq
  rw [State.frames_setTop' g h.top] at hend
  obtain ⟨g₀, hg0⟩ := Option.isSome_iff_exists.mp h.top
  obtain ⟨r, hr⟩ := State.topJava?_eq_some.mp hg0
  have hr' : (({ U with heap := s₂.heap, slotsUsed := s₂.slotsUsed } : State).setVm s₂.vm).frames = .java g₀ :: r := hr
  rcases hq' with ⟨hqc, L, hfe, hL⟩ | ⟨q, rfl, E, ce, L, hx, hce, hcv, hcl, hW₂, hsm, hL⟩
  · obtain ⟨⟨v, rfl⟩, hW₂, e2, q2, q3, q4, q5, q6⟩ := id hfe
    have e3 : s₂ = ({ (U.calling g mk a).setFrames s₂.frames with heap := s₂.heap, slotsUsed := s₂.slotsUsed } : State).setVm s₂.vm := by
      have : s₂ = ({ s₂ with vm := (U.calling g mk a).vm } : State).setVm s₂.vm := rfl
      rw [e2] at this
      exact this
    obtain ⟨c₂, i₂, len₂, hc₂, hd₂, hf₂⟩ := hend
    have hW' : U.WarmedH s₂.vm := hW₂
    have hcc : c₂ = c := by
      have h1 : s₂.code? g.method = U.code? g.method := by
        rw [State.code?_eq, State.code?_eq, hW'.alike.method?]
      exact Option.some.inj (hc₂.symm.trans (h1.trans h.code))
    subst hcc
    have hlen : len₂ = len := by rw [hdg] at hd₂; cases hd₂; rfl
    subst hlen
    have hs₂ : s₂ = (({ U with heap := s₂.heap, slotsUsed := s₂.slotsUsed } : State).setVm s₂.vm).setTop { g with pc := g.pc + len₂, stack := v.toList ++ g.stack } := by
      refine e3.trans ?_
      rw [hf₂, State.calling_eq h.top, State.setFrames_setFrames, State.setTop_of_frames _ hr', hr]
      rfl
    have hsame : U.sameButNew ({ U with heap := s₂.heap, slotsUsed := s₂.slotsUsed } : State) L mc ms := by
      refine ⟨?_, q2, q3, q4, q5, q6⟩
      obtain ⟨t, ht, -⟩ := State.frames_cons hr
      show ({ U with heap := s₂.heap, slotsUsed := s₂.slotsUsed } : State) = { U.setFrames U.frames with heap := s₂.heap, slotsUsed := s₂.slotsUsed }
      rw [State.setFrames_self ht]
    subst hg
    refine Or.inl ⟨v, ⟨(({ U with heap := s₂.heap, slotsUsed := s₂.slotsUsed } : State).setVm s₂.vm), Ls ++ L, c0 + mc, s0 + ms⟩,
      ⟨X.admits, X.cas, X.clock, X.frames, X.room, X.hears, X.method, X.code, (X.here.setHeapUsed s₂.heap s₂.slotsUsed).setVm hW'.alike, X.tail, State.WarmedH.trans X.warmed hW', X.limits, X.bytes, X.same.trans (hsame.setVm s.vm)⟩,
      ⟨g, mk, s₂, L, rfl, rfl, hqc, rfl, hL, rfl, rfl⟩, ?_⟩
    show Steps p.tables e below _ ((({ U with heap := s₂.heap, slotsUsed := s₂.slotsUsed } : State).setVm s₂.vm).setTop { g with pc := g.pc + len₂, stack := v.toList ++ g.stack })
    rw [← hs₂]
    exact hsteps
  · obtain ⟨e2, q2, q3, q4, q5, q6⟩ := id hsm
    have e3 : s₂ = ({ (U.calling g mk a).setFrames s₂.frames with heap := s₂.heap, slotsUsed := s₂.slotsUsed } : State).setVm s₂.vm := by
      have : s₂ = ({ s₂ with vm := (U.calling g mk a).vm } : State).setVm s₂.vm := rfl
      rw [e2] at this
      exact this
    have hf₂ : s₂.frames = .throwing q :: .java g :: U.frames.tail := hend
    have hW' : U.WarmedH s₂.vm := hW₂
    have hs₂ : s₂ = ((({ U with heap := s₂.heap, slotsUsed := s₂.slotsUsed } : State).setVm s₂.vm).setTop g).pushFrame (.throwing q) := by
      refine e3.trans ?_
      rw [hf₂, State.calling_eq h.top, State.setFrames_setFrames, State.pushFrame, State.frames_setTop _ hr', State.setTop_of_frames _ hr', State.setFrames_setFrames, hr]
      rfl
    have hsame : U.sameButNew ({ U with heap := s₂.heap, slotsUsed := s₂.slotsUsed } : State) L mc ms := by
      refine ⟨?_, q2, q3, q4, q5, q6⟩
      obtain ⟨t, ht, -⟩ := State.frames_cons hr
      show ({ U with heap := s₂.heap, slotsUsed := s₂.slotsUsed } : State) = { U.setFrames U.frames with heap := s₂.heap, slotsUsed := s₂.slotsUsed }
      rw [State.setFrames_self ht]
    subst hg
    refine Or.inr ⟨q, ⟨(({ U with heap := s₂.heap, slotsUsed := s₂.slotsUsed } : State).setVm s₂.vm), Ls ++ L, c0 + mc, s0 + ms⟩,
      ⟨X.admits, X.cas, X.clock, X.frames, X.room, X.hears, X.method, X.code, (X.here.setHeapUsed s₂.heap s₂.slotsUsed).setVm hW'.alike, X.tail, State.WarmedH.trans X.warmed hW', X.limits, X.bytes, X.same.trans (hsame.setVm s.vm)⟩,
      ⟨g, mk, s₂, L, E, ce, rfl, rfl, hx, hce, hcv, hcl, rfl, hL, rfl, rfl⟩, ?_⟩
    show Steps p.tables e below _ (((({ U with heap := s₂.heap, slotsUsed := s₂.slotsUsed } : State).setVm s₂.vm).setTop g).pushFrame (.throwing q))
    rw [← hs₂]
    exact hsteps
end
variable {p : Program} {l : Launch} {e : Env} {R : Room} {s : State} {m : MethodId} {args : Array Value} {below : List Frame} {meth : Method} {c : Code} {T : State} {H : Heap} {locs : List Loc} {cells slots : Nat}
theorem vx_callVX (X : Stand p l e R s m args below meth c T locs cells slots) (hexec : p.tables.exec = Jvm.exec) {own C : String} {index : Nat} {y : MethodName} {bytes : ByteArray} {maxL : Nat} {ret : Option FieldType} {hh : List (Nat × Nat × Nat × Nat)}
    (hown : s.vm.findClass own = some m.cls) (hlink : (Cond.methodLink own index y).before args s = true) (hinst : (Cond.instanceMethod y).before args s = true) (hsel : (Cond.selects C y y).before args s = true)
    (hcode : (Cond.codeWith y bytes maxL ret hh).before args s = true) (hy : y.cls ≠ "java/lang/invoke/MethodHandle" ∧ y.cls ≠ "java/lang/invoke/VarHandle")
    {W9 : Nat} {Pre : Pt → Array Value → Prop} {Post : Pt → Array Value → Option Value → Pt → Prop} {PostX : Pt → Array Value → Addr → Pt → Prop} (hK : vx_Back l R p e below s args y 3 W9 Pre Post PostX)
    {b : Addr} {cellB : Cell} (hcell : T.heap[b]? = some cellB) (hobj : cellB.vm.isStatics = false) (hcls : s.vm.findClass C = some cellB.cls)
    {g : JFrame} (hg : g.method = m) (hsize : g.locals.size = c.maxLocals) {argsL rest : List Value} (hlen : ∀ sig, parseMethodDescriptor y.desc = some sig → argsL.length = sig.parameters.length)
    (hstack : g.stack = argsL.reverse ++ .ref b :: rest) (hW : 2 * g.monitorRoom + (rest.map fun v => v.category).sum ≤ W9) (hdg : decode c.code g.pc = .ok (.invokevirtual index, 3))
    (hpre : ∀ vm₁, s.WarmedH vm₁ → Pre ⟨T.setVm vm₁, locs, cells, slots⟩ (Value.ref b :: argsL).toArray) :
    (∃ (v : Option Value) (vm₁ : Vm) (B : Pt), s.WarmedH vm₁ ∧ Stand p l e R s m args below meth c B.U B.locs B.cells B.slots ∧ Post ⟨T.setVm vm₁, locs, cells, slots⟩ (Value.ref b :: argsL).toArray v B ∧
      ∀ target, Steps p.tables e below (B.U.setTop { g with pc := g.pc + 3, stack := v.toList ++ rest }) target → Steps p.tables e below (T.setTop g) target) ∨
    (∃ (q : Addr) (vm₁ : Vm) (B : Pt), s.WarmedH vm₁ ∧ Stand p l e R s m args below meth c B.U B.locs B.cells B.slots ∧ PostX ⟨T.setVm vm₁, locs, cells, slots⟩ (Value.ref b :: argsL).toArray q B ∧
      Steps p.tables e below (T.setTop g) ((B.U.setTop { g with stack := rest }).pushFrame (.throwing q))) := by
  obtain ⟨mk, methM, hnamed, hmethM, hstM, habM⟩ := Cond.instanceMethod_spec hinst
  obtain ⟨m8, methM', cM, hn8, hmethM', -, -, -, -, -, -, hsigM⟩ := Cond.codeWith_spec hcode
  cases Option.some.inj (hn8.symm.trans hnamed)
  cases hmethM.symm.trans hmethM'
  obtain ⟨c2, r2, m2, q1, q2, q3, q4, kP, hkP, hkPi⟩ := Cond.selects_spec hsel
  cases hcls.symm.trans q1
  cases (State.methodFound?_of_named hnamed hy).symm.trans q2
  cases hnamed.symm.trans q3
  have hselP : selectMethod e.platform s.vm cellB.cls mk = .method mk := by rw [Launch.admits_selectMethod X.admits]; exact q4
  obtain ⟨vm₁, X₁, hstep₁⟩ := X.invokevirtual hexec hown hlink hnamed hmethM hstM hkP hkPi hy (a := b) (cell := cellB) hcell
    (fun z h => by rw [h] at hobj; cases hobj) hselP hmethM habM hkP hkPi (g := g) hg (argsL := argsL) (rest := rest) (hlen _ hsigM) hstack hdg
  rcases hK m meth c ⟨T.setVm vm₁, locs, cells, slots⟩ { g with stack := rest } (.invokevirtual index) mk (Value.ref b :: argsL).toArray X₁ hg hsize hdg hW (X₁.named hnamed) (hpre vm₁ X₁.warmed) with ⟨v, B, X', hpost, hsteps⟩ | ⟨q, B, X', hpost, hsteps⟩
  · exact Or.inl ⟨v, vm₁, B, X₁.warmed, X', hpost, fun target h => hstep₁ _ fun acts => by rw [doInvoke_state]; exact hsteps.trans h⟩
  · exact Or.inr ⟨q, vm₁, B, X₁.warmed, X', hpost, hstep₁ _ fun acts => by rw [doInvoke_state]; exact hsteps⟩
theorem vx_callSX (X : Stand p l e R s m args below meth c T locs cells slots) (hexec : p.tables.exec = Jvm.exec) {own : String} {index : Nat} {y : MethodName} {bytes : ByteArray} {maxL : Nat} {ret : Option FieldType} {hh : List (Nat × Nat × Nat × Nat)}
    (hown : s.vm.findClass own = some m.cls) (hlink : (Cond.methodLink own index y).before args s = true) (hstat : (Cond.static y).before args s = true) (hinit : (Cond.initialized y.cls).before args s = true)
    (hcode : (Cond.codeWith y bytes maxL ret hh).before args s = true) (hy : y.cls ≠ "java/lang/invoke/MethodHandle" ∧ y.cls ≠ "java/lang/invoke/VarHandle")
    {W9 : Nat} {Pre : Pt → Array Value → Prop} {Post : Pt → Array Value → Option Value → Pt → Prop} {PostX : Pt → Array Value → Addr → Pt → Prop} (hK : vx_Back l R p e below s args y 3 W9 Pre Post PostX)
    {g : JFrame} (hg : g.method = m) (hsize : g.locals.size = c.maxLocals) {argsL rest : List Value} (hlen : ∀ sig, parseMethodDescriptor y.desc = some sig → argsL.length = sig.parameters.length)
    (hstack : g.stack = argsL.reverse ++ rest) (hW : 2 * g.monitorRoom + (rest.map fun v => v.category).sum ≤ W9) (hdg : decode c.code g.pc = .ok (.invokestatic index, 3))
    (hpre : ∀ vm₁, s.WarmedH vm₁ → Pre ⟨T.setVm vm₁, locs, cells, slots⟩ argsL.toArray) :
    (∃ (v : Option Value) (vm₁ : Vm) (B : Pt), s.WarmedH vm₁ ∧ Stand p l e R s m args below meth c B.U B.locs B.cells B.slots ∧ Post ⟨T.setVm vm₁, locs, cells, slots⟩ argsL.toArray v B ∧
      ∀ target, Steps p.tables e below (B.U.setTop { g with pc := g.pc + 3, stack := v.toList ++ rest }) target → Steps p.tables e below (T.setTop g) target) ∨
    (∃ (q : Addr) (vm₁ : Vm) (B : Pt), s.WarmedH vm₁ ∧ Stand p l e R s m args below meth c B.U B.locs B.cells B.slots ∧ PostX ⟨T.setVm vm₁, locs, cells, slots⟩ argsL.toArray q B ∧
      Steps p.tables e below (T.setTop g) ((B.U.setTop { g with stack := rest }).pushFrame (.throwing q))) := by
  obtain ⟨mk, methM, cM, hnamed, hmethM, -, -, -, -, -, -, hsigM⟩ := Cond.codeWith_spec hcode
  have hstatic : methM.isStatic = true := Cond.static_spec hnamed hmethM hstat
  obtain ⟨kP, hkP, -⟩ := className_of_methodNamed hnamed
  have hinitP : kP.init = .initialized := Cond.initialized_spec (findClass_of_methodNamed hnamed) hkP hinit
  obtain ⟨vm₁, X₁, hstep₁⟩ := X.invokestatic hexec hown hlink hnamed hmethM hstatic hkP hinitP hy (g := g) hg (argsL := argsL) (rest := rest) (hlen _ hsigM) hstack hdg
  rcases hK m meth c ⟨T.setVm vm₁, locs, cells, slots⟩ { g with stack := rest } (.invokestatic index) mk argsL.toArray X₁ hg hsize hdg hW (X₁.named hnamed) (hpre vm₁ X₁.warmed) with ⟨v, B, X', hpost, hsteps⟩ | ⟨q, B, X', hpost, hsteps⟩
  · exact Or.inl ⟨v, vm₁, B, X₁.warmed, X', hpost, fun target h => hstep₁ _ fun acts => by rw [doInvoke_state]; exact hsteps.trans h⟩
  · exact Or.inr ⟨q, vm₁, B, X₁.warmed, X', hpost, hstep₁ _ fun acts => by rw [doInvoke_state]; exact hsteps⟩
theorem vx_callVW (X : Stand p l e R s m args below meth c T locs cells slots) (hexec : p.tables.exec = Jvm.exec) {own C : String} {index : Nat} {y : MethodName} {bytes : ByteArray} {maxL : Nat} {ret : Option FieldType} {hh : List (Nat × Nat × Nat × Nat)}
    (hown : s.vm.findClass own = some m.cls) (hlink : (Cond.methodLink own index y).before args s = true) (hinst : (Cond.instanceMethod y).before args s = true) (hsel : (Cond.selects C y y).before args s = true)
    (hcode : (Cond.codeWith y bytes maxL ret hh).before args s = true) (hy : y.cls ≠ "java/lang/invoke/MethodHandle" ∧ y.cls ≠ "java/lang/invoke/VarHandle")
    {W9 : Nat} {Pre : Pt → Array Value → Prop} {Post : Pt → Array Value → Option Value → Pt → Prop} (hK : Back l R p e below s args y 3 W9 Pre Post)
    {b : Addr} {cellB : Cell} (hcell : T.heap[b]? = some cellB) (hobj : cellB.vm.isStatics = false) (hcls : s.vm.findClass C = some cellB.cls)
    {g : JFrame} (hg : g.method = m) (hsize : g.locals.size = c.maxLocals) {argsL rest : List Value} (hlen : ∀ sig, parseMethodDescriptor y.desc = some sig → argsL.length = sig.parameters.length)
    (hstack : g.stack = argsL.reverse ++ .ref b :: rest) (hW : 2 * g.monitorRoom + (rest.map fun v => v.category).sum ≤ W9) (hdg : decode c.code g.pc = .ok (.invokevirtual index, 3))
    (hpre : ∀ vm₁, s.WarmedH vm₁ → Pre ⟨T.setVm vm₁, locs, cells, slots⟩ (Value.ref b :: argsL).toArray) :
    ∃ (v : Option Value) (vm₁ : Vm) (B : Pt), s.WarmedH vm₁ ∧ Stand p l e R s m args below meth c B.U B.locs B.cells B.slots ∧ Post ⟨T.setVm vm₁, locs, cells, slots⟩ (Value.ref b :: argsL).toArray v B ∧
      ∀ target, Steps p.tables e below (B.U.setTop { g with pc := g.pc + 3, stack := v.toList ++ rest }) target → Steps p.tables e below (T.setTop g) target := by
  obtain ⟨mk, methM, hnamed, hmethM, hstM, habM⟩ := Cond.instanceMethod_spec hinst
  obtain ⟨m8, methM', cM, hn8, hmethM', -, -, -, -, -, -, hsigM⟩ := Cond.codeWith_spec hcode
  cases Option.some.inj (hn8.symm.trans hnamed)
  cases hmethM.symm.trans hmethM'
  obtain ⟨c2, r2, m2, q1, q2, q3, q4, kP, hkP, hkPi⟩ := Cond.selects_spec hsel
  cases hcls.symm.trans q1
  cases (State.methodFound?_of_named hnamed hy).symm.trans q2
  cases hnamed.symm.trans q3
  have hselP : selectMethod e.platform s.vm cellB.cls mk = .method mk := by rw [Launch.admits_selectMethod X.admits]; exact q4
  obtain ⟨vm₁, X₁, hstep₁⟩ := X.invokevirtual hexec hown hlink hnamed hmethM hstM hkP hkPi hy (a := b) (cell := cellB) hcell
    (fun z h => by rw [h] at hobj; cases hobj) hselP hmethM habM hkP hkPi (g := g) hg (argsL := argsL) (rest := rest) (hlen _ hsigM) hstack hdg
  obtain ⟨v, B, X', hpost, hsteps⟩ := hK m meth c ⟨T.setVm vm₁, locs, cells, slots⟩ { g with stack := rest } (.invokevirtual index) mk (Value.ref b :: argsL).toArray X₁ hg hsize hdg hW (X₁.named hnamed) (hpre vm₁ X₁.warmed)
  exact ⟨v, vm₁, B, X₁.warmed, X', hpost, fun target h => hstep₁ _ fun acts => by rw [doInvoke_state]; exact hsteps.trans h⟩
abbrev vx_CVW (R : Room) (s : State) (args : Array Value) (own C : String) (index : Nat) (y : MethodName) (bytes : ByteArray) (maxL : Nat) (ret : Option FieldType) (hh : List (Nat × Nat × Nat × Nat)) (ws : List Cond) (rm : Room) (mc ms n : Nat) : Prop :=
  (rm.cells = mc ∧ rm.slots = ms ∧ rm.frames + 1 ≤ R.frames ∧ 8 + (maxL + 11) + rm.locals ≤ R.locals ∧ (∀ w ∈ ws, ∀ (a' : Array Value) (U : State), s.WarmedH U.vm → w.before a' U = true) ∧ Cond.codeWith y bytes maxL ret hh ∈ ws) ∧
  (Cond.codeWith y bytes maxL ret hh).before args s = true ∧ (Cond.initialized y.cls).before args s = true ∧ (y.cls ≠ "java/lang/invoke/MethodHandle" ∧ y.cls ≠ "java/lang/invoke/VarHandle") ∧
  (∀ sig, parseMethodDescriptor y.desc = some sig → n = sig.parameters.length) ∧ (Cond.methodLink own index y).before args s = true ∧ (Cond.instanceMethod y).before args s = true ∧ (Cond.selects C y y).before args s = true
theorem vx_cwVW {own C : String} {index maxL mc ms : Nat} {y : MethodName} {bytes : ByteArray} {ret : Option FieldType} {hh : List (Nat × Nat × Nat × Nat)} {Ts ws ws' : List Cond} {rm : Room} (n : Nat) (ht : ∀ w ∈ Ts, w.before args s = true) (hT : GoodIn Ts (wsV own index C y ws)) (hw : ws = Cond.codeWith y bytes maxL ret hh :: ws') (hrc : rm.cells = mc) (hrs : rm.slots = ms)
    (hd : y.cls = C ∧ y.cls ≠ "java/lang/invoke/MethodHandle" ∧ y.cls ≠ "java/lang/invoke/VarHandle" ∧ (parseMethodDescriptor y.desc).map (fun d => d.parameters.length) = some n) (hR : rm.frames + 1 ≤ R.frames ∧ 8 + (maxL + 11) + rm.locals ≤ R.locals) :
    vx_CVW R s args own C index y bytes maxL ret hh ws rm mc ms n := by
  obtain ⟨hC, hd⟩ := hd
  subst hC
  have ok : ∀ w ∈ wsV own index y.cls y ws, w.before args s = true := fun w h => ht w (hT w h).1
  have hG : GoodIn Ts ws := fun w h => hT w (by unfold wsV; exact List.mem_append_right _ h)
  have hc : Cond.codeWith y bytes maxL ret hh ∈ ws := by rw [hw]; exact List.mem_cons_self
  refine ⟨⟨hrc, hrs, hR.1, hR.2, pay_in ht hG, hc⟩, ht _ (hG _ hc).1, ok _ (by simp [wsV]), ⟨hd.1, hd.2.1⟩, fun sig h => ?_, ok _ (by simp [wsV]), ok _ (by simp [wsV]), ok _ (by simp [wsV])⟩
  have h2 := hd.2.2
  rw [h] at h2
  exact (Option.some.inj h2).symm
theorem vx_runVW {y : MethodName} {bytes cc : ByteArray} {maxL nL mc ms n index : Nat} {ret : Option FieldType} {hh : List (Nat × Nat × Nat × Nat)} {ws : List Cond} {rm : Room} {Pc : Array Value → State → Prop} {Qc : Array Value → State → Outcome → State → Prop} {free : Addr → Prop} {Ts : List Cond} {own C : String} {b : Addr} {As rest : List Value} {g : JFrame}
    (S : CallFix p m c cc nL s args Ts own) (hM : Met l y ws rm Pc Qc mc ms free) (cw : vx_CVW R s args own C index y bytes maxL ret hh ws rm mc ms n) (hp : PreV s H C b Pc As)
    (hg : g.method = m) (hn : As.length = n) (hsize : g.locals.size = nL) (hstack : g.stack = As.reverse ++ .ref b :: rest) (hW : 2 * g.monitorRoom + (rest.map fun v => v.category).sum ≤ 8) (hdg : decode cc g.pc = .ok (.invokevirtual index, 3)) (hf : cells + mc ≤ R.cells ∧ slots + ms ≤ R.slots) :
    va_Run p l e R s m args below meth c H locs cells slots mc ms g rest (Qc (Value.ref b :: As).toArray) free := by
  obtain ⟨⟨hrc, hrs, hfr, hlo, hws, hcw⟩, hcode, hini, hy, hlen, hl, hin, hse⟩ := cw
  have hK : Back l R p e below s args y 3 8 (PreOf R mc ms Pc) (PostOf Qc mc ms free) := va_backW (hh := hh) (bytes := bytes) (maxL := maxL) (ret := ret) hM hp.1 hrc hrs hfr hlo hws hcw (fun a' U hW => word_at hW (Or.inl (by first | rfl | simp [Cond.onTables, Cond.keeps, Cond.steady])) hini)
  obtain ⟨hx, hb, hml, ho, -⟩ := S
  obtain ⟨-, ⟨cellB, hcB, hoB, hclB⟩, hPc⟩ := hp
  intro T hT X
  obtain ⟨v, vm₁, ⟨U', l2, c2, s2⟩, hW₁, X', ⟨g', mk, t, L, e1, e2, hq, h1, hL, h2, h3⟩, st⟩ := vx_callVW X hx (C := C) (hh := hh) (bytes := bytes) (maxL := maxL) (ret := ret) ho hl hin hse hcode hy hK (by rw [hT]; exact hcB) hoB hclB hg (hsize.trans hml.symm) (argsL := As) (rest := rest) (fun sig h => hn.trans (hlen sig h)) hstack hW (by rw [hb]; exact hdg)
    (fun vm₁ hW₁ => ⟨hf.1, hf.2, hPc (T.setVm vm₁) hT hW₁⟩)
  dsimp only [Pt.U, Pt.locs, Pt.cells, Pt.slots] at X' e1 e2 h1 h2 h3 st
  subst h1; subst h2; subst h3
  exact ⟨v, (T.setVm vm₁).calling g' mk (Value.ref b :: As).toArray, t, U', L, hT, X', hL, e1, e2, hq, st⟩
section
variable {y : MethodName} {bytes cc : ByteArray} {maxL nL mc ms n index : Nat} {ret : Option FieldType} {ws : List Cond} {rm : Room} {Pc : Array Value → State → Prop} {Qc : Array Value → State → Outcome → State → Prop} {XC : String → State → State → Prop} {free : Addr → Prop} {Ts : List Cond} {own C : String} {b : Addr} {As rest : List Value} {g : JFrame}
theorem vx_runVX {hh : List (Nat × Nat × Nat × Nat)} (S : CallFix p m c cc nL s args Ts own) (hM : vx_Met l y ws rm Pc Qc XC mc ms free) (cw : vx_CVW R s args own C index y bytes maxL ret hh ws rm mc ms n) (hp : PreV s H C b Pc As)
    (hg : g.method = m) (hn : As.length = n) (hsize : g.locals.size = nL) (hstack : g.stack = As.reverse ++ .ref b :: rest) (hW : 2 * g.monitorRoom + (rest.map fun v => v.category).sum ≤ 8) (hdg : decode cc g.pc = .ok (.invokevirtual index, 3)) (hf : cells + mc ≤ R.cells ∧ slots + ms ≤ R.slots) :
    vx_Run p l e R s m args below meth c H locs cells slots mc ms g rest (Qc (Value.ref b :: As).toArray) XC free := by
  obtain ⟨⟨hrc, hrs, hfr, hlo, hws, hcw⟩, hcode, hini, hy, hlen, hl, hin, hse⟩ := cw
  have hK : vx_Back l R p e below s args y 3 8 (PreOf R mc ms Pc) (PostOf Qc mc ms free) (vx_Post XC mc ms free) := vx_backW (hh := hh) (bytes := bytes) (maxL := maxL) (ret := ret) hM hp.1 hrc hrs hfr hlo hws hcw (fun a' U hW => word_at hW (Or.inl (by first | rfl | simp [Cond.onTables, Cond.keeps, Cond.steady])) hini)
  obtain ⟨hx, hb, hml, ho, -⟩ := S
  obtain ⟨-, ⟨cellB, hcB, hoB, hclB⟩, hPc⟩ := hp
  intro T hT X
  rcases vx_callVX X hx (C := C) (hh := hh) (bytes := bytes) (maxL := maxL) (ret := ret) ho hl hin hse hcode hy hK (by rw [hT]; exact hcB) hoB hclB hg (hsize.trans hml.symm) (argsL := As) (rest := rest) (fun sig h => hn.trans (hlen sig h)) hstack hW (by rw [hb]; exact hdg)
    (fun vm₁ hW₁ => ⟨hf.1, hf.2, hPc (T.setVm vm₁) hT hW₁⟩) with ⟨v, vm₁, ⟨U', l2, c2, s2⟩, hW₁, X', ⟨g', mk, t, L, e1, e2, hq, h1, hL, h2, h3⟩, st⟩ | ⟨q, vm₁, ⟨U', l2, c2, s2⟩, hW₁, X', ⟨g', mk, t, L, E, ce, e1, e2, hq, hce, hcv, hcl, h1, hL, h2, h3⟩, st⟩
  · dsimp only [Pt.U, Pt.locs, Pt.cells, Pt.slots] at X' e1 e2 h1 h2 h3 st
    subst h1; subst h2; subst h3
    exact Or.inl ⟨v, (T.setVm vm₁).calling g' mk (Value.ref b :: As).toArray, t, U', L, hT, X', hL, e1, e2, hq, st⟩
  · dsimp only [Pt.U, Pt.locs, Pt.cells, Pt.slots] at X' e1 e2 h1 h2 h3 st hcl
    subst h1; subst h2; subst h3
    exact Or.inr ⟨q, (T.setVm vm₁).calling g' mk (Value.ref b :: As).toArray, t, U', L, E, ce, hT, X', hL, e1, e2, hq, hce, hcv, vx_cls hW₁ hcl, st⟩
theorem vx_runSX {hh : List (Nat × Nat × Nat × Nat)} (S : CallFix p m c cc nL s args Ts own) (hM : vx_Met l y ws rm Pc Qc XC mc ms free) (cw : vx_CSW R s args own index y bytes maxL ret hh ws rm mc ms n) (hp : PreS s H Pc As)
    (hg : g.method = m) (hn : As.length = n) (hsize : g.locals.size = nL) (hstack : g.stack = As.reverse ++ rest) (hW : 2 * g.monitorRoom + (rest.map fun v => v.category).sum ≤ 8) (hdg : decode cc g.pc = .ok (.invokestatic index, 3)) (hf : cells + mc ≤ R.cells ∧ slots + ms ≤ R.slots) :
    vx_Run p l e R s m args below meth c H locs cells slots mc ms g rest (Qc As.toArray) XC free := by
  obtain ⟨⟨hrc, hrs, hfr, hlo, hws, hcw⟩, hcode, hini, hy, hlen, hl, hstt⟩ := cw
  have hK : vx_Back l R p e below s args y 3 8 (PreOf R mc ms Pc) (PostOf Qc mc ms free) (vx_Post XC mc ms free) := vx_backW (hh := hh) (bytes := bytes) (maxL := maxL) (ret := ret) hM hp.1 hrc hrs hfr hlo hws hcw (fun a' U hW => word_at hW (Or.inl (by first | rfl | simp [Cond.onTables, Cond.keeps, Cond.steady])) hini)
  obtain ⟨hx, hb, hml, ho, -⟩ := S
  intro T hT X
  rcases vx_callSX X hx (hh := hh) (bytes := bytes) (maxL := maxL) (ret := ret) ho hl hstt hini hcode hy hK hg (hsize.trans hml.symm) (argsL := As) (rest := rest) (fun sig h => hn.trans (hlen sig h)) hstack hW (by rw [hb]; exact hdg)
    (fun vm₁ hW₁ => ⟨hf.1, hf.2, hp.2 (T.setVm vm₁) hT hW₁⟩) with ⟨v, vm₁, ⟨U', l2, c2, s2⟩, hW₁, X', ⟨g', mk, t, L, e1, e2, hq, h1, hL, h2, h3⟩, st⟩ | ⟨q, vm₁, ⟨U', l2, c2, s2⟩, hW₁, X', ⟨g', mk, t, L, E, ce, e1, e2, hq, hce, hcv, hcl, h1, hL, h2, h3⟩, st⟩
  · dsimp only [Pt.U, Pt.locs, Pt.cells, Pt.slots] at X' e1 e2 h1 h2 h3 st
    subst h1; subst h2; subst h3
    exact Or.inl ⟨v, (T.setVm vm₁).calling g' mk As.toArray, t, U', L, hT, X', hL, e1, e2, hq, st⟩
  · dsimp only [Pt.U, Pt.locs, Pt.cells, Pt.slots] at X' e1 e2 h1 h2 h3 st hcl
    subst h1; subst h2; subst h3
    exact Or.inr ⟨q, (T.setVm vm₁).calling g' mk As.toArray, t, U', L, E, ce, hT, X', hL, e1, e2, hq, hce, hcv, vx_cls hW₁ hcl, st⟩
end
end VXH
theorem vx_ofWH {l : Launch} {y : MethodName} {ws ws' : List Cond} {rm : Room} {Pc : Array Value → State → Prop} {Qc : Array Value → State → Outcome → State → Prop} {XC : String → State → State → Prop} {mc ms : Nat} {free : Addr → Prop} {cc : ByteArray} {maxL : Nat} {ret : Option FieldType} {hh : List (Nat × Nat × Nat × Nat)}
    (hy : plainName y.cls = true) (hw : ws = Cond.codeWith y cc maxL ret hh :: ws')
    (body : ∀ p e s m args below meth c s₁, BodyLoose p l y (headSpec ws rm) cc maxL ret e s m args below meth c s₁ → c.maxLocals = maxL → Pc args s →
      W p l e (headSpec ws rm).room s m args below meth c s.heap [] 0 0 (vx_MQ below Qc XC args s mc ms free) (entryFrame m args maxL)) : vx_Met l y ws rm Pc Qc XC mc ms free := by
  refine MetFree.of_bodyS (code := cc) (maxLocals := maxL) (ret := ret) hy ?_ ?_
  · intro args s m h hn
    obtain ⟨m9, meth, c, hn9, h1, h2, h3, h4, -, h5, h6, -⟩ := Cond.codeWith_spec (atoms_spec (ws := ws) h _ (by rw [hw]; exact List.mem_cons_self))
    cases hn.symm.trans hn9
    exact ⟨meth, c, h1, h2, h3, h4, h5, h6⟩
  · intro p e s m args below meth c s₁ B hml hP _
    have hh0 : s₁.heap = s.heap := by rw [B.state]; rfl
    obtain ⟨t, a1, o, b1, b2, b3⟩ := body p e s m args below meth c s₁ B hml hP s₁ hh0 (Stand.of_body B)
    exact ⟨t, o, a1, b1, b2, b3⟩
/-! ===== END ===== -/

/-! ===== BEGIN printed: names, fields, word lists, decode rows ===== -/
def RX0 : String := "FactorMatch$Equations"
def TX0 : u_T := fun k => match k with
  | 0 => ("FactorMatch$Equations", "weight", "[I", true)
  | 1 => ("FactorMatch$Equations", "used", "I", false)
  | 2 => ("FactorMatch$Equations", "most", "I", false)
  | 3 => ("FactorMatch$Equations", "canBeEmpty", "Z", false)
  | 4 => ("FactorMatch$Equations", "prepared", "Z", false)
  | 5 => ("FactorMatch$Equations", "rows", "[[I", true)
  | 6 => ("FactorMatch$Equations", "size", "[I", true)
  | 7 => ("FactorMatch$Equations", "exactly", "[[J", true)
  | 8 => ("FactorMatch$Equations", "within", "[[J", true)
  | 9 => ("FactorMatch$Equations", "ways", "[[J", true)
  | _ => ("FactorMatch$Equations", "choice", "[I", true)
def tyX0 : Nat → FieldType := fun k => match k with
  | 0 => .array .int
  | 1 => .int
  | 2 => .int
  | 3 => .boolean
  | 4 => .boolean
  | 5 => .array (.array .int)
  | 6 => .array .int
  | 7 => .array (.array .long)
  | 8 => .array (.array .long)
  | 9 => .array (.array .long)
  | _ => .array .int
abbrev wsX00 : List Cond := u_ws RX0 TX0 11
theorem nmX0 : ∀ a, a < 11 → ∀ b, b < 11 → a ≠ b → (TX0 a).2.1 ≠ (TX0 b).2.1 := by decide +kernel
theorem tyX0_ok : ∀ k, k < 11 → parseFieldDescriptor (TX0 k).2.2.1 = some (tyX0 k) := by decide +kernel
abbrev cX0_init : ByteArray := prog_2_method_1_code
def yX0_init : MethodName := ⟨RX0, "<init>", "()V"⟩
abbrev cX0_forget : ByteArray := prog_2_method_2_code
def yX0_forget : MethodName := ⟨RX0, "forget", "()V"⟩
abbrev cX0_prepare : ByteArray := prog_2_method_3_code
def yX0_prepare : MethodName := ⟨RX0, "prepare", "([I)V"⟩
abbrev cX0_solutionsOf : ByteArray := prog_2_method_4_code
def yX0_solutionsOf : MethodName := ⟨RX0, "solutionsOf", "(I)I"⟩
abbrev cX0_bySets : ByteArray := prog_2_method_5_code
def yX0_bySets : MethodName := ⟨RX0, "bySets", "()J"⟩
abbrev cX0_bySetsIfRest : ByteArray := prog_2_method_6_code
def yX0_bySetsIfRest : MethodName := ⟨RX0, "bySetsIfRest", "(II)J"⟩
abbrev cX0_byConstants : ByteArray := prog_2_method_7_code
def yX0_byConstants : MethodName := ⟨RX0, "byConstants", "()J"⟩
abbrev cX0_choose : ByteArray := prog_2_method_8_code
def yX0_choose : MethodName := ⟨RX0, "choose", "(I)Z"⟩
abbrev cX0_chosen : ByteArray := prog_2_method_9_code
def yX0_chosen : MethodName := ⟨RX0, "chosen", "(II)I"⟩
abbrev cX0_numberIn : ByteArray := prog_2_method_10_code
def yX0_numberIn : MethodName := ⟨RX0, "numberIn", "(II)I"⟩
abbrev cX0_setOf : ByteArray := prog_2_method_11_code
def yX0_setOf : MethodName := ⟨RX0, "setOf", "(I)I"⟩
abbrev cX0_solve : ByteArray := prog_2_method_12_code
def yX0_solve : MethodName := ⟨RX0, "solve", "(II)V"⟩
abbrev cX0_solveLast : ByteArray := prog_2_method_13_code
def yX0_solveLast : MethodName := ⟨RX0, "solveLast", "(III)V"⟩
abbrev cX0_top : ByteArray := prog_2_method_14_code
def yX0_top : MethodName := ⟨RX0, "top", "(I)I"⟩
abbrev cX0_fillWithin : ByteArray := prog_2_method_15_code
def yX0_fillWithin : MethodName := ⟨RX0, "fillWithin", "(I)V"⟩
abbrev cX0_fillWays : ByteArray := prog_2_method_16_code
def yX0_fillWays : MethodName := ⟨RX0, "fillWays", "()V"⟩
abbrev cX0_waysFrom : ByteArray := prog_2_method_17_code
def yX0_waysFrom : MethodName := ⟨RX0, "waysFrom", "(II)J"⟩
abbrev cX0_bySetsWith : ByteArray := prog_2_method_18_code
def yX0_bySetsWith : MethodName := ⟨RX0, "bySetsWith", "(II)J"⟩
def RX1 : String := "FactorMatch$History"
def TX1 : u_T := fun k => match k with
  | 0 => ("FactorMatch$History", "kept", "[[I", true)
  | 1 => ("FactorMatch$History", "oldest", "I", false)
  | _ => ("FactorMatch$History", "held", "I", false)
def tyX1 : Nat → FieldType := fun k => match k with
  | 0 => .array (.array .int)
  | 1 => .int
  | _ => .int
abbrev wsX10 : List Cond := u_ws RX1 TX1 3
theorem nmX1 : ∀ a, a < 3 → ∀ b, b < 3 → a ≠ b → (TX1 a).2.1 ≠ (TX1 b).2.1 := by decide +kernel
theorem tyX1_ok : ∀ k, k < 3 → parseFieldDescriptor (TX1 k).2.2.1 = some (tyX1 k) := by decide +kernel
abbrev cX1_init : ByteArray := prog_3_method_1_code
def yX1_init : MethodName := ⟨RX1, "<init>", "()V"⟩
abbrev cX1_size : ByteArray := prog_3_method_2_code
def yX1_size : MethodName := ⟨RX1, "size", "()I"⟩
abbrev cX1_keep : ByteArray := prog_3_method_3_code
def yX1_keep : MethodName := ⟨RX1, "keep", "([I)V"⟩
abbrev cX1_giveBack : ByteArray := prog_3_method_4_code
def yX1_giveBack : MethodName := ⟨RX1, "giveBack", "([I)V"⟩
def RX2 : String := "FactorMatch$Leasts"
def TX2 : u_T := fun k => match k with
  | 0 => ("FactorMatch$Leasts", "difference", "[I", true)
  | 1 => ("FactorMatch$Leasts", "row", "[I", true)
  | 2 => ("FactorMatch$Leasts", "numbers", "[I", true)
  | 3 => ("FactorMatch$Leasts", "found", "I", false)
  | 4 => ("FactorMatch$Leasts", "prepared", "Z", false)
  | _ => ("FactorMatch$Leasts", "ways", "[I", true)
def tyX2 : Nat → FieldType := fun k => match k with
  | 0 => .array .int
  | 1 => .array .int
  | 2 => .array .int
  | 3 => .int
  | 4 => .boolean
  | _ => .array .int
abbrev wsX20 : List Cond := u_ws RX2 TX2 6
theorem nmX2 : ∀ a, a < 6 → ∀ b, b < 6 → a ≠ b → (TX2 a).2.1 ≠ (TX2 b).2.1 := by decide +kernel
theorem tyX2_ok : ∀ k, k < 6 → parseFieldDescriptor (TX2 k).2.2.1 = some (tyX2 k) := by decide +kernel
abbrev cX2_init : ByteArray := prog_4_method_1_code
def yX2_init : MethodName := ⟨RX2, "<init>", "()V"⟩
abbrev cX2_forget : ByteArray := prog_4_method_2_code
def yX2_forget : MethodName := ⟨RX2, "forget", "()V"⟩
abbrev cX2_prepare : ByteArray := prog_4_method_3_code
def yX2_prepare : MethodName := ⟨RX2, "prepare", "([I)V"⟩
abbrev cX2_size : ByteArray := prog_4_method_4_code
def yX2_size : MethodName := ⟨RX2, "size", "()I"⟩
abbrev cX2_number : ByteArray := prog_4_method_5_code
def yX2_number : MethodName := ⟨RX2, "number", "(II)I"⟩
abbrev cX2_greatestSum : ByteArray := prog_4_method_6_code
def yX2_greatestSum : MethodName := ⟨RX2, "greatestSum", "()I"⟩
abbrev cX2_waysToSum : ByteArray := prog_4_method_7_code
def yX2_waysToSum : MethodName := ⟨RX2, "waysToSum", "(IIII)I"⟩
abbrev cX2_setRow : ByteArray := prog_4_method_8_code
def yX2_setRow : MethodName := ⟨RX2, "setRow", "(IIII)V"⟩
abbrev cX2_solves : ByteArray := prog_4_method_9_code
def yX2_solves : MethodName := ⟨RX2, "solves", "(IIII)Z"⟩
abbrev cX2_look : ByteArray := prog_4_method_10_code
def yX2_look : MethodName := ⟨RX2, "look", "(IIII)V"⟩
abbrev cX2_isAtMostRow : ByteArray := prog_4_method_11_code
def yX2_isAtMostRow : MethodName := ⟨RX2, "isAtMostRow", "(I)Z"⟩
abbrev cX2_placeOf : ByteArray := prog_4_method_12_code
def yX2_placeOf : MethodName := ⟨RX2, "placeOf", "(IIII)I"⟩
abbrev cX2_addSums : ByteArray := prog_4_method_13_code
def yX2_addSums : MethodName := ⟨RX2, "addSums", "(IIII)V"⟩
abbrev cX2_addWays : ByteArray := prog_4_method_14_code
def yX2_addWays : MethodName := ⟨RX2, "addWays", "(II)V"⟩
def RX3 : String := "FactorMatch$Text"
def TX3 : u_T := fun k => match k with
  | 0 => ("FactorMatch$Text", "codes", "[I", true)
  | _ => ("FactorMatch$Text", "length", "I", false)
def tyX3 : Nat → FieldType := fun k => match k with
  | 0 => .array .int
  | _ => .int
abbrev wsX30 : List Cond := u_ws RX3 TX3 2
theorem nmX3 : ∀ a, a < 2 → ∀ b, b < 2 → a ≠ b → (TX3 a).2.1 ≠ (TX3 b).2.1 := by decide +kernel
theorem tyX3_ok : ∀ k, k < 2 → parseFieldDescriptor (TX3 k).2.2.1 = some (tyX3 k) := by decide +kernel
abbrev cX3_init : ByteArray := prog_5_method_1_code
def yX3_init : MethodName := ⟨RX3, "<init>", "()V"⟩
abbrev cX3_size : ByteArray := prog_5_method_2_code
def yX3_size : MethodName := ⟨RX3, "size", "()I"⟩
abbrev cX3_isFull : ByteArray := prog_5_method_3_code
def yX3_isFull : MethodName := ⟨RX3, "isFull", "()Z"⟩
abbrev cX3_put : ByteArray := prog_5_method_4_code
def yX3_put : MethodName := ⟨RX3, "put", "(I)V"⟩
abbrev cX3_empty : ByteArray := prog_5_method_5_code
def yX3_empty : MethodName := ⟨RX3, "empty", "()V"⟩
abbrev cX3_codeAt : ByteArray := prog_5_method_6_code
def yX3_codeAt : MethodName := ⟨RX3, "codeAt", "(I)I"⟩
abbrev cX3_errorPlace : ByteArray := prog_5_method_7_code
def yX3_errorPlace : MethodName := ⟨RX3, "errorPlace", "()I"⟩
abbrev cX3_isProduct : ByteArray := prog_5_method_8_code
def yX3_isProduct : MethodName := ⟨RX3, "isProduct", "()Z"⟩
abbrev cX3_tell : ByteArray := prog_5_method_9_code
def yX3_tell : MethodName := ⟨RX3, "tell", "([I)V"⟩
abbrev cX3_next : ByteArray := prog_5_method_10_code
def yX3_next : MethodName := ⟨RX3, "next", "(II)I"⟩
abbrev cX3_isTimes : ByteArray := prog_5_method_11_code
def yX3_isTimes : MethodName := ⟨RX3, "isTimes", "(I)Z"⟩
abbrev cX3_factorOf : ByteArray := prog_5_method_12_code
def yX3_factorOf : MethodName := ⟨RX3, "factorOf", "(I)I"⟩
def RX4 : String := "FactorMatch"
def TX4 : u_T := fun k => match k with
  | 0 => ("FactorMatch", "state", "[I", true)
  | 1 => ("FactorMatch", "draft", "[I", true)
  | 2 => ("FactorMatch", "snapshots", "[[I", true)
  | 3 => ("FactorMatch", "taken", "[Z", true)
  | 4 => ("FactorMatch", "history", "LFactorMatch$History;", true)
  | 5 => ("FactorMatch", "text", "LFactorMatch$Text;", true)
  | 6 => ("FactorMatch", "equations", "LFactorMatch$Equations;", true)
  | _ => ("FactorMatch", "leasts", "LFactorMatch$Leasts;", true)
def tyX4 : Nat → FieldType := fun k => match k with
  | 0 => .array .int
  | 1 => .array .int
  | 2 => .array (.array .int)
  | 3 => .array .boolean
  | 4 => .object "FactorMatch$History"
  | 5 => .object "FactorMatch$Text"
  | 6 => .object "FactorMatch$Equations"
  | _ => .object "FactorMatch$Leasts"
abbrev wsX40 : List Cond := u_ws RX4 TX4 8
theorem nmX4 : ∀ a, a < 8 → ∀ b, b < 8 → a ≠ b → (TX4 a).2.1 ≠ (TX4 b).2.1 := by decide +kernel
theorem tyX4_ok : ∀ k, k < 8 → parseFieldDescriptor (TX4 k).2.2.1 = some (tyX4 k) := by decide +kernel
abbrev cX4_init : ByteArray := prog_1_method_1_code
def yX4_init : MethodName := ⟨RX4, "<init>", "()V"⟩
abbrev cX4_constant : ByteArray := prog_1_method_2_code
def yX4_constant : MethodName := ⟨RX4, "constant", "(III)I"⟩
abbrev cX4_variable : ByteArray := prog_1_method_3_code
def yX4_variable : MethodName := ⟨RX4, "variable", "(III)I"⟩
abbrev cX4_multiply : ByteArray := prog_1_method_4_code
def yX4_multiply : MethodName := ⟨RX4, "multiply", "(II)I"⟩
abbrev cX4_rewrite : ByteArray := prog_1_method_5_code
def yX4_rewrite : MethodName := ⟨RX4, "rewrite", "(I)I"⟩
abbrev cX4_cancel : ByteArray := prog_1_method_6_code
def yX4_cancel : MethodName := ⟨RX4, "cancel", "(II)I"⟩
abbrev cX4_set : ByteArray := prog_1_method_7_code
def yX4_set : MethodName := ⟨RX4, "set", "(II)I"⟩
abbrev cX4_append : ByteArray := prog_1_method_8_code
def yX4_append : MethodName := ⟨RX4, "append", "(I)I"⟩
abbrev cX4_clearBuffer : ByteArray := prog_1_method_9_code
def yX4_clearBuffer : MethodName := ⟨RX4, "clearBuffer", "()I"⟩
abbrev cX4_firstError : ByteArray := prog_1_method_10_code
def yX4_firstError : MethodName := ⟨RX4, "firstError", "()I"⟩
abbrev cX4_read : ByteArray := prog_1_method_11_code
def yX4_read : MethodName := ⟨RX4, "read", "(I)I"⟩
abbrev cX4_take : ByteArray := prog_1_method_12_code
def yX4_take : MethodName := ⟨RX4, "take", "(I)I"⟩
abbrev cX4_restore : ByteArray := prog_1_method_13_code
def yX4_restore : MethodName := ⟨RX4, "restore", "(I)I"⟩
abbrev cX4_undo : ByteArray := prog_1_method_14_code
def yX4_undo : MethodName := ⟨RX4, "undo", "()I"⟩
abbrev cX4_times : ByteArray := prog_1_method_15_code
def yX4_times : MethodName := ⟨RX4, "times", "(II)I"⟩
abbrev cX4_rest : ByteArray := prog_1_method_16_code
def yX4_rest : MethodName := ⟨RX4, "rest", "(I)I"⟩
abbrev cX4_solutions : ByteArray := prog_1_method_17_code
def yX4_solutions : MethodName := ⟨RX4, "solutions", "(I)I"⟩
abbrev cX4_matchers : ByteArray := prog_1_method_18_code
def yX4_matchers : MethodName := ⟨RX4, "matchers", "(I)J"⟩
abbrev cX4_value : ByteArray := prog_1_method_19_code
def yX4_value : MethodName := ⟨RX4, "value", "(III)I"⟩
abbrev cX4_least : ByteArray := prog_1_method_20_code
def yX4_least : MethodName := ⟨RX4, "least", "(II)I"⟩
abbrev cX4_sums : ByteArray := prog_1_method_21_code
def yX4_sums : MethodName := ⟨RX4, "sums", "(IIII)I"⟩
abbrev cX4_count : ByteArray := prog_1_method_22_code
def yX4_count : MethodName := ⟨RX4, "count", "(I)I"⟩
abbrev cX4_setting : ByteArray := prog_1_method_23_code
def yX4_setting : MethodName := ⟨RX4, "setting", "(I)I"⟩
abbrev cX4_ifMore : ByteArray := prog_1_method_24_code
def yX4_ifMore : MethodName := ⟨RX4, "ifMore", "(II)J"⟩
abbrev cX4_ifRewritten : ByteArray := prog_1_method_25_code
def yX4_ifRewritten : MethodName := ⟨RX4, "ifRewritten", "(II)I"⟩
abbrev cX4_shortest : ByteArray := prog_1_method_26_code
def yX4_shortest : MethodName := ⟨RX4, "shortest", "(I)I"⟩
abbrev cX4_openShare : ByteArray := prog_1_method_27_code
def yX4_openShare : MethodName := ⟨RX4, "openShare", "()D"⟩
abbrev cX4_digest : ByteArray := prog_1_method_28_code
def yX4_digest : MethodName := ⟨RX4, "digest", "()J"⟩
abbrev cX4_mix : ByteArray := prog_1_method_29_code
def yX4_mix : MethodName := ⟨RX4, "mix", "(JJ)J"⟩
abbrev cX4_mixMatchers : ByteArray := prog_1_method_30_code
def yX4_mixMatchers : MethodName := ⟨RX4, "mixMatchers", "(J)J"⟩
abbrev cX4_mixLeasts : ByteArray := prog_1_method_31_code
def yX4_mixLeasts : MethodName := ⟨RX4, "mixLeasts", "(J)J"⟩
abbrev cX4_bitsOfShare : ByteArray := prog_1_method_32_code
def yX4_bitsOfShare : MethodName := ⟨RX4, "bitsOfShare", "(D)J"⟩
abbrev cX4_needIndex : ByteArray := prog_1_method_33_code
def yX4_needIndex : MethodName := ⟨RX4, "needIndex", "(II)V"⟩
abbrev cX4_needNumber : ByteArray := prog_1_method_34_code
def yX4_needNumber : MethodName := ⟨RX4, "needNumber", "(III)V"⟩
abbrev cX4_needMatcher : ByteArray := prog_1_method_35_code
def yX4_needMatcher : MethodName := ⟨RX4, "needMatcher", "(I)V"⟩
abbrev cX4_forgetTables : ByteArray := prog_1_method_36_code
def yX4_forgetTables : MethodName := ⟨RX4, "forgetTables", "()V"⟩
abbrev cX4_keepState : ByteArray := prog_1_method_37_code
def yX4_keepState : MethodName := ⟨RX4, "keepState", "()V"⟩
abbrev cX4_change : ByteArray := prog_1_method_38_code
def yX4_change : MethodName := ⟨RX4, "change", "(II)I"⟩
abbrev cX4_putDraft : ByteArray := prog_1_method_39_code
def yX4_putDraft : MethodName := ⟨RX4, "putDraft", "(I)I"⟩
abbrev cX4_draftFits : ByteArray := prog_1_method_40_code
def yX4_draftFits : MethodName := ⟨RX4, "draftFits", "(I)Z"⟩
abbrev cX4_factorsOf : ByteArray := prog_1_method_41_code
def yX4_factorsOf : MethodName := ⟨RX4, "factorsOf", "(I)I"⟩
abbrev cX4_factorsOfAll : ByteArray := prog_1_method_42_code
def yX4_factorsOfAll : MethodName := ⟨RX4, "factorsOfAll", "()I"⟩
abbrev cX4_restOf : ByteArray := prog_1_method_43_code
def yX4_restOf : MethodName := ⟨RX4, "restOf", "(I)I"⟩
abbrev cX4_hasVariable : ByteArray := prog_1_method_44_code
def yX4_hasVariable : MethodName := ⟨RX4, "hasVariable", "(II)Z"⟩
abbrev cX4_unlikeVariables : ByteArray := prog_1_method_45_code
def yX4_unlikeVariables : MethodName := ⟨RX4, "unlikeVariables", "()I"⟩
abbrev cX4_restsBelowZero : ByteArray := prog_1_method_46_code
def yX4_restsBelowZero : MethodName := ⟨RX4, "restsBelowZero", "()I"⟩
abbrev cX4_patternsAreSame : ByteArray := prog_1_method_47_code
def yX4_patternsAreSame : MethodName := ⟨RX4, "patternsAreSame", "()Z"⟩
abbrev cX4_commonFactors : ByteArray := prog_1_method_48_code
def yX4_commonFactors : MethodName := ⟨RX4, "commonFactors", "()I"⟩
abbrev cX4_valueOf : ByteArray := prog_1_method_49_code
def yX4_valueOf : MethodName := ⟨RX4, "valueOf", "(II)I"⟩
abbrev cX4_hasForeignVariable : ByteArray := prog_1_method_50_code
def yX4_hasForeignVariable : MethodName := ⟨RX4, "hasForeignVariable", "()Z"⟩
abbrev cX4_rewritten : ByteArray := prog_1_method_51_code
def yX4_rewritten : MethodName := ⟨RX4, "rewritten", "(I)I"⟩
def RX5 : String := "FactorMatchModel"
def TX5 : u_T := fun k => match k with
  | 0 => ("FactorMatchModel", "z", "[I", true)
  | 1 => ("FactorMatchModel", "states", "I", false)
  | 2 => ("FactorMatchModel", "history", "[I", true)
  | 3 => ("FactorMatchModel", "snaps", "[I", true)
  | 4 => ("FactorMatchModel", "taken", "[I", true)
  | 5 => ("FactorMatchModel", "length", "I", false)
  | 6 => ("FactorMatchModel", "text", "[I", true)
  | 7 => ("FactorMatchModel", "thrown", "I", false)
  | 8 => ("FactorMatchModel", "listed", "[I", true)
  | 9 => ("FactorMatchModel", "many", "[I", true)
  | 10 => ("FactorMatchModel", "bySupport", "[I", true)
  | 11 => ("FactorMatchModel", "waysOn", "[J", true)
  | 12 => ("FactorMatchModel", "values", "[I", true)
  | 13 => ("FactorMatchModel", "leastOnes", "[I", true)
  | 14 => ("FactorMatchModel", "leastMany", "I", false)
  | 15 => ("FactorMatchModel", "sumsOf", "[I", true)
  | 16 => ("FactorMatchModel", "readTimes", "[I", true)
  | 17 => ("FactorMatchModel", "last", "I", false)
  | _ => ("FactorMatchModel", "hash", "J", false)
def tyX5 : Nat → FieldType := fun k => match k with
  | 0 => .array .int
  | 1 => .int
  | 2 => .array .int
  | 3 => .array .int
  | 4 => .array .int
  | 5 => .int
  | 6 => .array .int
  | 7 => .int
  | 8 => .array .int
  | 9 => .array .int
  | 10 => .array .int
  | 11 => .array .long
  | 12 => .array .int
  | 13 => .array .int
  | 14 => .int
  | 15 => .array .int
  | 16 => .array .int
  | 17 => .int
  | _ => .long
abbrev wsX50 : List Cond := u_ws RX5 TX5 19
theorem nmX5 : ∀ a, a < 19 → ∀ b, b < 19 → a ≠ b → (TX5 a).2.1 ≠ (TX5 b).2.1 := by decide +kernel
theorem tyX5_ok : ∀ k, k < 19 → parseFieldDescriptor (TX5 k).2.2.1 = some (tyX5 k) := by decide +kernel
abbrev cX5_init : ByteArray := prog_7_method_1_code
def yX5_init : MethodName := ⟨RX5, "<init>", "()V"⟩
abbrev cX5_thrown : ByteArray := prog_7_method_2_code
def yX5_thrown : MethodName := ⟨RX5, "thrown", "()I"⟩
abbrev cX5_within : ByteArray := prog_7_method_3_code
def yX5_within : MethodName := ⟨RX5, "within", "(III)Z"⟩
abbrev cX5_save : ByteArray := prog_7_method_4_code
def yX5_save : MethodName := ⟨RX5, "save", "()V"⟩
abbrev cX5_of : ByteArray := prog_7_method_5_code
def yX5_of : MethodName := ⟨RX5, "of", "(II)I"⟩
abbrev cX5_variableOf : ByteArray := prog_7_method_6_code
def yX5_variableOf : MethodName := ⟨RX5, "variableOf", "(II)I"⟩
abbrev cX5_isProduct : ByteArray := prog_7_method_7_code
def yX5_isProduct : MethodName := ⟨RX5, "isProduct", "(I)Z"⟩
abbrev cX5_isConstant : ByteArray := prog_7_method_8_code
def yX5_isConstant : MethodName := ⟨RX5, "isConstant", "(I)Z"⟩
abbrev cX5_isVariable : ByteArray := prog_7_method_9_code
def yX5_isVariable : MethodName := ⟨RX5, "isVariable", "(I)Z"⟩
abbrev cX5_factorsOf : ByteArray := prog_7_method_10_code
def yX5_factorsOf : MethodName := ⟨RX5, "factorsOf", "(I)I"⟩
abbrev cX5_restOf : ByteArray := prog_7_method_11_code
def yX5_restOf : MethodName := ⟨RX5, "restOf", "(I)I"⟩
abbrev cX5_greatest : ByteArray := prog_7_method_12_code
def yX5_greatest : MethodName := ⟨RX5, "greatest", "(II)I"⟩
abbrev cX5_listOne : ByteArray := prog_7_method_13_code
def yX5_listOne : MethodName := ⟨RX5, "listOne", "(IIIII)V"⟩
abbrev cX5_list : ByteArray := prog_7_method_14_code
def yX5_list : MethodName := ⟨RX5, "list", "(II)V"⟩
abbrev cX5_listAll : ByteArray := prog_7_method_15_code
def yX5_listAll : MethodName := ⟨RX5, "listAll", "(II)V"⟩
abbrev cX5_patternMask : ByteArray := prog_7_method_16_code
def yX5_patternMask : MethodName := ⟨RX5, "patternMask", "()I"⟩
abbrev cX5_layWays : ByteArray := prog_7_method_17_code
def yX5_layWays : MethodName := ⟨RX5, "layWays", "()V"⟩
abbrev cX5_matchersNow : ByteArray := prog_7_method_18_code
def yX5_matchersNow : MethodName := ⟨RX5, "matchersNow", "()J"⟩
abbrev cX5_withEmpty : ByteArray := prog_7_method_19_code
def yX5_withEmpty : MethodName := ⟨RX5, "withEmpty", "(I)J"⟩
abbrev cX5_ones : ByteArray := prog_7_method_20_code
def yX5_ones : MethodName := ⟨RX5, "ones", "(I)I"⟩
abbrev cX5_matchersBySets : ByteArray := prog_7_method_21_code
def yX5_matchersBySets : MethodName := ⟨RX5, "matchersBySets", "()J"⟩
abbrev cX5_isMatcher : ByteArray := prog_7_method_22_code
def yX5_isMatcher : MethodName := ⟨RX5, "isMatcher", "(I)Z"⟩
abbrev cX5_supportOf : ByteArray := prog_7_method_23_code
def yX5_supportOf : MethodName := ⟨RX5, "supportOf", "(I)I"⟩
abbrev cX5_layMatcher : ByteArray := prog_7_method_24_code
def yX5_layMatcher : MethodName := ⟨RX5, "layMatcher", "(I)V"⟩
abbrev cX5_valueOf : ByteArray := prog_7_method_25_code
def yX5_valueOf : MethodName := ⟨RX5, "valueOf", "(II)I"⟩
abbrev cX5_isStrange : ByteArray := prog_7_method_26_code
def yX5_isStrange : MethodName := ⟨RX5, "isStrange", "()Z"⟩
abbrev cX5_rewritten : ByteArray := prog_7_method_27_code
def yX5_rewritten : MethodName := ⟨RX5, "rewritten", "(I)I"⟩
abbrev cX5_isTooMuch : ByteArray := prog_7_method_28_code
def yX5_isTooMuch : MethodName := ⟨RX5, "isTooMuch", "()Z"⟩
abbrev cX5_digit : ByteArray := prog_7_method_29_code
def yX5_digit : MethodName := ⟨RX5, "digit", "(II)I"⟩
abbrev cX5_differenceOf : ByteArray := prog_7_method_30_code
def yX5_differenceOf : MethodName := ⟨RX5, "differenceOf", "(I)I"⟩
abbrev cX5_fulfils : ByteArray := prog_7_method_31_code
def yX5_fulfils : MethodName := ⟨RX5, "fulfils", "(I)Z"⟩
abbrev cX5_isAbove : ByteArray := prog_7_method_32_code
def yX5_isAbove : MethodName := ⟨RX5, "isAbove", "(II)Z"⟩
abbrev cX5_isLeast : ByteArray := prog_7_method_33_code
def yX5_isLeast : MethodName := ⟨RX5, "isLeast", "(I)Z"⟩
abbrev cX5_layLeast : ByteArray := prog_7_method_34_code
def yX5_layLeast : MethodName := ⟨RX5, "layLeast", "()V"⟩
abbrev cX5_sumsTo : ByteArray := prog_7_method_35_code
def yX5_sumsTo : MethodName := ⟨RX5, "sumsTo", "(IIII)I"⟩
abbrev cX5_greatestLeast : ByteArray := prog_7_method_36_code
def yX5_greatestLeast : MethodName := ⟨RX5, "greatestLeast", "()I"⟩
abbrev cX5_constant : ByteArray := prog_7_method_37_code
def yX5_constant : MethodName := ⟨RX5, "constant", "(III)I"⟩
abbrev cX5_variable : ByteArray := prog_7_method_38_code
def yX5_variable : MethodName := ⟨RX5, "variable", "(III)I"⟩
abbrev cX5_limit : ByteArray := prog_7_method_39_code
def yX5_limit : MethodName := ⟨RX5, "limit", "(II)I"⟩
abbrev cX5_canMultiply : ByteArray := prog_7_method_40_code
def yX5_canMultiply : MethodName := ⟨RX5, "canMultiply", "(II)Z"⟩
abbrev cX5_multiply : ByteArray := prog_7_method_41_code
def yX5_multiply : MethodName := ⟨RX5, "multiply", "(II)I"⟩
abbrev cX5_rewrite : ByteArray := prog_7_method_42_code
def yX5_rewrite : MethodName := ⟨RX5, "rewrite", "(I)I"⟩
abbrev cX5_cancel : ByteArray := prog_7_method_43_code
def yX5_cancel : MethodName := ⟨RX5, "cancel", "(II)I"⟩
abbrev cX5_set : ByteArray := prog_7_method_44_code
def yX5_set : MethodName := ⟨RX5, "set", "(II)I"⟩
abbrev cX5_append : ByteArray := prog_7_method_45_code
def yX5_append : MethodName := ⟨RX5, "append", "(I)I"⟩
abbrev cX5_clearBuffer : ByteArray := prog_7_method_46_code
def yX5_clearBuffer : MethodName := ⟨RX5, "clearBuffer", "()I"⟩
abbrev cX5_factorFor : ByteArray := prog_7_method_47_code
def yX5_factorFor : MethodName := ⟨RX5, "factorFor", "(I)I"⟩
abbrev cX5_takes : ByteArray := prog_7_method_48_code
def yX5_takes : MethodName := ⟨RX5, "takes", "(I)Z"⟩
abbrev cX5_rightUpTo : ByteArray := prog_7_method_49_code
def yX5_rightUpTo : MethodName := ⟨RX5, "rightUpTo", "()I"⟩
abbrev cX5_firstError : ByteArray := prog_7_method_50_code
def yX5_firstError : MethodName := ⟨RX5, "firstError", "()I"⟩
abbrev cX5_areWithin : ByteArray := prog_7_method_51_code
def yX5_areWithin : MethodName := ⟨RX5, "areWithin", "(I)Z"⟩
abbrev cX5_read : ByteArray := prog_7_method_52_code
def yX5_read : MethodName := ⟨RX5, "read", "(I)I"⟩
abbrev cX5_isSnapshot : ByteArray := prog_7_method_53_code
def yX5_isSnapshot : MethodName := ⟨RX5, "isSnapshot", "(I)Z"⟩
abbrev cX5_allFactors : ByteArray := prog_7_method_54_code
def yX5_allFactors : MethodName := ⟨RX5, "allFactors", "()I"⟩
abbrev cX5_take : ByteArray := prog_7_method_55_code
def yX5_take : MethodName := ⟨RX5, "take", "(I)I"⟩
abbrev cX5_restore : ByteArray := prog_7_method_56_code
def yX5_restore : MethodName := ⟨RX5, "restore", "(I)I"⟩
abbrev cX5_undo : ByteArray := prog_7_method_57_code
def yX5_undo : MethodName := ⟨RX5, "undo", "()I"⟩
abbrev cX5_times : ByteArray := prog_7_method_58_code
def yX5_times : MethodName := ⟨RX5, "times", "(II)I"⟩
abbrev cX5_rest : ByteArray := prog_7_method_59_code
def yX5_rest : MethodName := ⟨RX5, "rest", "(I)I"⟩
abbrev cX5_solutionsOf : ByteArray := prog_7_method_60_code
def yX5_solutionsOf : MethodName := ⟨RX5, "solutionsOf", "(I)I"⟩
abbrev cX5_solutions : ByteArray := prog_7_method_61_code
def yX5_solutions : MethodName := ⟨RX5, "solutions", "(I)I"⟩
abbrev cX5_matchersBy : ByteArray := prog_7_method_62_code
def yX5_matchersBy : MethodName := ⟨RX5, "matchersBy", "(I)J"⟩
abbrev cX5_matchers : ByteArray := prog_7_method_63_code
def yX5_matchers : MethodName := ⟨RX5, "matchers", "(I)J"⟩
abbrev cX5_value : ByteArray := prog_7_method_64_code
def yX5_value : MethodName := ⟨RX5, "value", "(III)I"⟩
abbrev cX5_leastAt : ByteArray := prog_7_method_65_code
def yX5_leastAt : MethodName := ⟨RX5, "leastAt", "(II)I"⟩
abbrev cX5_least : ByteArray := prog_7_method_66_code
def yX5_least : MethodName := ⟨RX5, "least", "(II)I"⟩
abbrev cX5_isSmall : ByteArray := prog_7_method_67_code
def yX5_isSmall : MethodName := ⟨RX5, "isSmall", "(I)Z"⟩
abbrev cX5_sums : ByteArray := prog_7_method_68_code
def yX5_sums : MethodName := ⟨RX5, "sums", "(IIII)I"⟩
abbrev cX5_negativeRests : ByteArray := prog_7_method_69_code
def yX5_negativeRests : MethodName := ⟨RX5, "negativeRests", "()I"⟩
abbrev cX5_areSame : ByteArray := prog_7_method_70_code
def yX5_areSame : MethodName := ⟨RX5, "areSame", "()Z"⟩
abbrev cX5_inCommon : ByteArray := prog_7_method_71_code
def yX5_inCommon : MethodName := ⟨RX5, "inCommon", "()I"⟩
abbrev cX5_leastCount : ByteArray := prog_7_method_72_code
def yX5_leastCount : MethodName := ⟨RX5, "leastCount", "()I"⟩
abbrev cX5_counted : ByteArray := prog_7_method_73_code
def yX5_counted : MethodName := ⟨RX5, "counted", "(I)I"⟩
abbrev cX5_count : ByteArray := prog_7_method_74_code
def yX5_count : MethodName := ⟨RX5, "count", "(I)I"⟩
abbrev cX5_setting : ByteArray := prog_7_method_75_code
def yX5_setting : MethodName := ⟨RX5, "setting", "(I)I"⟩
abbrev cX5_moreThen : ByteArray := prog_7_method_76_code
def yX5_moreThen : MethodName := ⟨RX5, "moreThen", "(II)J"⟩
abbrev cX5_ifMore : ByteArray := prog_7_method_77_code
def yX5_ifMore : MethodName := ⟨RX5, "ifMore", "(II)J"⟩
abbrev cX5_rewrittenThen : ByteArray := prog_7_method_78_code
def yX5_rewrittenThen : MethodName := ⟨RX5, "rewrittenThen", "(II)I"⟩
abbrev cX5_ifRewritten : ByteArray := prog_7_method_79_code
def yX5_ifRewritten : MethodName := ⟨RX5, "ifRewritten", "(II)I"⟩
abbrev cX5_factorsOfValue : ByteArray := prog_7_method_80_code
def yX5_factorsOfValue : MethodName := ⟨RX5, "factorsOfValue", "(I)I"⟩
abbrev cX5_shortestNow : ByteArray := prog_7_method_81_code
def yX5_shortestNow : MethodName := ⟨RX5, "shortestNow", "(I)I"⟩
abbrev cX5_shortest : ByteArray := prog_7_method_82_code
def yX5_shortest : MethodName := ⟨RX5, "shortest", "(I)I"⟩
abbrev cX5_share : ByteArray := prog_7_method_83_code
def yX5_share : MethodName := ⟨RX5, "share", "()D"⟩
abbrev cX5_openShare : ByteArray := prog_7_method_84_code
def yX5_openShare : MethodName := ⟨RX5, "openShare", "()D"⟩
abbrev cX5_mix : ByteArray := prog_7_method_85_code
def yX5_mix : MethodName := ⟨RX5, "mix", "(J)V"⟩
abbrev cX5_mixMatcher : ByteArray := prog_7_method_86_code
def yX5_mixMatcher : MethodName := ⟨RX5, "mixMatcher", "(I)V"⟩
abbrev cX5_digest : ByteArray := prog_7_method_87_code
def yX5_digest : MethodName := ⟨RX5, "digest", "()J"⟩
def RJxe99ae : String := "java/lang/Double"
def TJxe99ae : u_T := fun k => match k with
  | _ => ("", "", "", false)
def tyJxe99ae : Nat → FieldType := fun k => match k with
  | _ => .int
abbrev wsJxe99ae0 : List Cond := u_ws RJxe99ae TJxe99ae 0
theorem nmJxe99ae : ∀ a, a < 0 → ∀ b, b < 0 → a ≠ b → (TJxe99ae a).2.1 ≠ (TJxe99ae b).2.1 := by decide +kernel
theorem tyJxe99ae_ok : ∀ k, k < 0 → parseFieldDescriptor (TJxe99ae k).2.2.1 = some (tyJxe99ae k) := by decide +kernel
abbrev cJxe99ae_isNaN_b9ae7 : ByteArray := prog_8_method_6_code
def yJxe99ae_isNaN_b9ae7 : MethodName := ⟨RJxe99ae, "isNaN", "(D)Z"⟩
abbrev cJxe99ae_doubleToLongBits_ccdee : ByteArray := prog_8_method_23_code
def yJxe99ae_doubleToLongBits_ccdee : MethodName := ⟨RJxe99ae, "doubleToLongBits", "(D)J"⟩
def RJ6 : String := "java/lang/Integer"
def TJ6 : u_T := fun k => match k with
  | _ => ("", "", "", false)
def tyJ6 : Nat → FieldType := fun k => match k with
  | _ => .int
abbrev wsJ60 : List Cond := u_ws RJ6 TJ6 0
theorem nmJ6 : ∀ a, a < 0 → ∀ b, b < 0 → a ≠ b → (TJ6 a).2.1 ≠ (TJ6 b).2.1 := by decide +kernel
theorem tyJ6_ok : ∀ k, k < 0 → parseFieldDescriptor (TJ6 k).2.2.1 = some (tyJ6 k) := by decide +kernel
abbrev cJ6_bitCount_0f7a4 : ByteArray := prog_13_method_49_code
def yJ6_bitCount_0f7a4 : MethodName := ⟨RJ6, "bitCount", "(I)I"⟩
def RJ9 : String := "java/lang/Math"
def TJ9 : u_T := fun k => match k with
  | _ => ("", "", "", false)
def tyJ9 : Nat → FieldType := fun k => match k with
  | _ => .int
abbrev wsJ90 : List Cond := u_ws RJ9 TJ9 0
theorem nmJ9 : ∀ a, a < 0 → ∀ b, b < 0 → a ≠ b → (TJ9 a).2.1 ≠ (TJ9 b).2.1 := by decide +kernel
theorem tyJ9_ok : ∀ k, k < 0 → parseFieldDescriptor (TJ9 k).2.2.1 = some (tyJ9 k) := by decide +kernel
abbrev cJ9_max_7cf53 : ByteArray := prog_14_method_65_code
def yJ9_max_7cf53 : MethodName := ⟨RJ9, "max", "(II)I"⟩
abbrev cJ9_min_7cf53 : ByteArray := prog_14_method_69_code
def yJ9_min_7cf53 : MethodName := ⟨RJ9, "min", "(II)I"⟩
def RJ0 : String := "java/lang/String"
def TJ0 : u_T := fun k => match k with
  | _ => ("", "", "", false)
def tyJ0 : Nat → FieldType := fun k => match k with
  | _ => .int
abbrev wsJ00 : List Cond := u_ws RJ0 TJ0 0
theorem nmJ0 : ∀ a, a < 0 → ∀ b, b < 0 → a ≠ b → (TJ0 a).2.1 ≠ (TJ0 b).2.1 := by decide +kernel
theorem tyJ0_ok : ∀ k, k < 0 → parseFieldDescriptor (TJ0 k).2.2.1 = some (tyJ0 k) := by decide +kernel
def RJ10 : String := "java/lang/System"
def TJ10 : u_T := fun k => match k with
  | _ => ("", "", "", false)
def tyJ10 : Nat → FieldType := fun k => match k with
  | _ => .int
abbrev wsJ100 : List Cond := u_ws RJ10 TJ10 0
theorem nmJ10 : ∀ a, a < 0 → ∀ b, b < 0 → a ≠ b → (TJ10 a).2.1 ≠ (TJ10 b).2.1 := by decide +kernel
theorem tyJ10_ok : ∀ k, k < 0 → parseFieldDescriptor (TJ10 k).2.2.1 = some (tyJ10 k) := by decide +kernel
def RL : String := "FactorMatchLaw"
abbrev cL_constant : ByteArray := method_3_code
def yL_constant : MethodName := ⟨RL, "constant", "(LFactorMatch;III[J)I"⟩
abbrev cL_variable : ByteArray := method_4_code
def yL_variable : MethodName := ⟨RL, "variable", "(LFactorMatch;III[J)I"⟩
abbrev cL_multiply : ByteArray := method_5_code
def yL_multiply : MethodName := ⟨RL, "multiply", "(LFactorMatch;II[J)I"⟩
abbrev cL_rewrite : ByteArray := method_6_code
def yL_rewrite : MethodName := ⟨RL, "rewrite", "(LFactorMatch;I[J)I"⟩
abbrev cL_cancel : ByteArray := method_7_code
def yL_cancel : MethodName := ⟨RL, "cancel", "(LFactorMatch;II[J)I"⟩
abbrev cL_set : ByteArray := method_8_code
def yL_set : MethodName := ⟨RL, "set", "(LFactorMatch;II[J)I"⟩
abbrev cL_append : ByteArray := method_9_code
def yL_append : MethodName := ⟨RL, "append", "(LFactorMatch;I[J)I"⟩
abbrev cL_read : ByteArray := method_10_code
def yL_read : MethodName := ⟨RL, "read", "(LFactorMatch;I[J)I"⟩
abbrev cL_take : ByteArray := method_11_code
def yL_take : MethodName := ⟨RL, "take", "(LFactorMatch;I[J)I"⟩
abbrev cL_restore : ByteArray := method_12_code
def yL_restore : MethodName := ⟨RL, "restore", "(LFactorMatch;I[J)I"⟩
abbrev cL_undo : ByteArray := method_13_code
def yL_undo : MethodName := ⟨RL, "undo", "(LFactorMatch;[J)I"⟩
abbrev cL_times : ByteArray := method_14_code
def yL_times : MethodName := ⟨RL, "times", "(LFactorMatch;II[J)I"⟩
abbrev cL_rest : ByteArray := method_15_code
def yL_rest : MethodName := ⟨RL, "rest", "(LFactorMatch;I[J)I"⟩
abbrev cL_solutions : ByteArray := method_16_code
def yL_solutions : MethodName := ⟨RL, "solutions", "(LFactorMatch;I[J)I"⟩
abbrev cL_matchers : ByteArray := method_17_code
def yL_matchers : MethodName := ⟨RL, "matchers", "(LFactorMatch;I[J)I"⟩
abbrev cL_value : ByteArray := method_18_code
def yL_value : MethodName := ⟨RL, "value", "(LFactorMatch;III[J)I"⟩
abbrev cL_least : ByteArray := method_19_code
def yL_least : MethodName := ⟨RL, "least", "(LFactorMatch;II[J)I"⟩
abbrev cL_sums : ByteArray := method_20_code
def yL_sums : MethodName := ⟨RL, "sums", "(LFactorMatch;IIII[J)I"⟩
abbrev cL_count : ByteArray := method_21_code
def yL_count : MethodName := ⟨RL, "count", "(LFactorMatch;I[J)I"⟩
abbrev cL_setting : ByteArray := method_22_code
def yL_setting : MethodName := ⟨RL, "setting", "(LFactorMatch;I[J)I"⟩
abbrev cL_ifMore : ByteArray := method_23_code
def yL_ifMore : MethodName := ⟨RL, "ifMore", "(LFactorMatch;II[J)I"⟩
abbrev cL_ifRewritten : ByteArray := method_24_code
def yL_ifRewritten : MethodName := ⟨RL, "ifRewritten", "(LFactorMatch;II[J)I"⟩
abbrev cL_shortest : ByteArray := method_25_code
def yL_shortest : MethodName := ⟨RL, "shortest", "(LFactorMatch;I[J)I"⟩
abbrev cL_law : ByteArray := code
def yL_law : MethodName := ⟨RL, "law", "([I)Z"⟩
theorem inX0 : ∀ w ∈ wsX00, w ∈ lw_tbl := by decide +kernel
theorem inX1 : ∀ w ∈ wsX10, w ∈ lw_tbl := by decide +kernel
theorem inX2 : ∀ w ∈ wsX20, w ∈ lw_tbl := by decide +kernel
theorem inX3 : ∀ w ∈ wsX30, w ∈ lw_tbl := by decide +kernel
theorem inX4 : ∀ w ∈ wsX40, w ∈ lw_tbl := by decide +kernel
theorem inX5 : ∀ w ∈ wsX50, w ∈ lw_tbl := by decide +kernel
theorem inJxe99ae : ∀ w ∈ wsJxe99ae0, w ∈ lw_tbl := by decide +kernel
theorem inJ6 : ∀ w ∈ wsJ60, w ∈ lw_tbl := by decide +kernel
theorem inJ9 : ∀ w ∈ wsJ90, w ∈ lw_tbl := by decide +kernel
theorem inJ0 : ∀ w ∈ wsJ00, w ∈ lw_tbl := by decide +kernel
theorem inJ10 : ∀ w ∈ wsJ100, w ∈ lw_tbl := by decide +kernel
abbrev vwCl : List vw_C := [(RX0, TX0, 11), (RX1, TX1, 3), (RX2, TX2, 6), (RX3, TX3, 2), (RX4, TX4, 8), (RX5, TX5, 19)]
end
section
theorem dX0_init_0 : decode cX0_init 0 = .ok (.aload_n 0, 1) := by decide +kernel
theorem dX0_init_1 : decode cX0_init 1 = .ok (.invokespecial 3, 3) := by decide +kernel
theorem dX0_init_4 : decode cX0_init 4 = .ok (.aload_n 0, 1) := by decide +kernel
theorem dX0_init_5 : decode cX0_init 5 = .ok (.iconst 4, 1) := by decide +kernel
theorem dX0_init_6 : decode cX0_init 6 = .ok (.newarray .int, 2) := by decide +kernel
theorem dX0_init_8 : decode cX0_init 8 = .ok (.putfield 9, 3) := by decide +kernel
theorem dX0_init_11 : decode cX0_init 11 = .ok (.aload_n 0, 1) := by decide +kernel
theorem dX0_init_12 : decode cX0_init 12 = .ok (.iconst 5, 1) := by decide +kernel
theorem dX0_init_13 : decode cX0_init 13 = .ok (.sipush 220, 3) := by decide +kernel
theorem dX0_init_16 : decode cX0_init 16 = .ok (.multianewarray 15 2, 4) := by decide +kernel
theorem dX0_init_20 : decode cX0_init 20 = .ok (.putfield 17, 3) := by decide +kernel
theorem dX0_init_23 : decode cX0_init 23 = .ok (.aload_n 0, 1) := by decide +kernel
theorem dX0_init_24 : decode cX0_init 24 = .ok (.iconst 5, 1) := by decide +kernel
theorem dX0_init_25 : decode cX0_init 25 = .ok (.newarray .int, 2) := by decide +kernel
theorem dX0_init_27 : decode cX0_init 27 = .ok (.putfield 20, 3) := by decide +kernel
theorem dX0_init_30 : decode cX0_init 30 = .ok (.aload_n 0, 1) := by decide +kernel
theorem dX0_init_31 : decode cX0_init 31 = .ok (.iconst 5, 1) := by decide +kernel
theorem dX0_init_32 : decode cX0_init 32 = .ok (.bipush 16, 2) := by decide +kernel
theorem dX0_init_34 : decode cX0_init 34 = .ok (.multianewarray 23 2, 4) := by decide +kernel
theorem dX0_init_38 : decode cX0_init 38 = .ok (.putfield 25, 3) := by decide +kernel
theorem dX0_init_41 : decode cX0_init 41 = .ok (.aload_n 0, 1) := by decide +kernel
theorem dX0_init_42 : decode cX0_init 42 = .ok (.iconst 5, 1) := by decide +kernel
theorem dX0_init_43 : decode cX0_init 43 = .ok (.bipush 16, 2) := by decide +kernel
theorem dX0_init_45 : decode cX0_init 45 = .ok (.multianewarray 23 2, 4) := by decide +kernel
theorem dX0_init_49 : decode cX0_init 49 = .ok (.putfield 28, 3) := by decide +kernel
theorem dX0_init_52 : decode cX0_init 52 = .ok (.aload_n 0, 1) := by decide +kernel
theorem dX0_init_53 : decode cX0_init 53 = .ok (.iconst 5, 1) := by decide +kernel
theorem dX0_init_54 : decode cX0_init 54 = .ok (.bipush 16, 2) := by decide +kernel
theorem dX0_init_56 : decode cX0_init 56 = .ok (.multianewarray 23 2, 4) := by decide +kernel
theorem dX0_init_60 : decode cX0_init 60 = .ok (.putfield 31, 3) := by decide +kernel
theorem dX0_init_63 : decode cX0_init 63 = .ok (.aload_n 0, 1) := by decide +kernel
theorem dX0_init_64 : decode cX0_init 64 = .ok (.iconst 4, 1) := by decide +kernel
theorem dX0_init_65 : decode cX0_init 65 = .ok (.newarray .int, 2) := by decide +kernel
theorem dX0_init_67 : decode cX0_init 67 = .ok (.putfield 34, 3) := by decide +kernel
theorem dX0_init_70 : decode cX0_init 70 = .ok (.return_, 1) := by decide +kernel
theorem dX0_forget_0 : decode cX0_forget 0 = .ok (.aload_n 0, 1) := by decide +kernel
theorem dX0_forget_1 : decode cX0_forget 1 = .ok (.iconst 0, 1) := by decide +kernel
theorem dX0_forget_2 : decode cX0_forget 2 = .ok (.putfield 37, 3) := by decide +kernel
theorem dX0_forget_5 : decode cX0_forget 5 = .ok (.return_, 1) := by decide +kernel
theorem dX0_prepare_0 : decode cX0_prepare 0 = .ok (.aload_n 0, 1) := by decide +kernel
theorem dX0_prepare_1 : decode cX0_prepare 1 = .ok (.getfield 37, 3) := by decide +kernel
theorem dX0_prepare_4 : decode cX0_prepare 4 = .ok (.ifCond .eq 4, 3) := by decide +kernel
theorem dX0_prepare_7 : decode cX0_prepare 7 = .ok (.return_, 1) := by decide +kernel
theorem dX0_prepare_8 : decode cX0_prepare 8 = .ok (.aload_n 0, 1) := by decide +kernel
theorem dX0_prepare_9 : decode cX0_prepare 9 = .ok (.iconst 0, 1) := by decide +kernel
theorem dX0_prepare_10 : decode cX0_prepare 10 = .ok (.putfield 41, 3) := by decide +kernel
theorem dX0_prepare_13 : decode cX0_prepare 13 = .ok (.iconst 0, 1) := by decide +kernel
theorem dX0_prepare_14 : decode cX0_prepare 14 = .ok (.istore_n 2, 1) := by decide +kernel
theorem dX0_prepare_15 : decode cX0_prepare 15 = .ok (.iload_n 2, 1) := by decide +kernel
theorem dX0_prepare_16 : decode cX0_prepare 16 = .ok (.iconst 4, 1) := by decide +kernel
theorem dX0_prepare_17 : decode cX0_prepare 17 = .ok (.if_icmp .ge 45, 3) := by decide +kernel
theorem dX0_prepare_20 : decode cX0_prepare 20 = .ok (.aload_n 0, 1) := by decide +kernel
theorem dX0_prepare_21 : decode cX0_prepare 21 = .ok (.getfield 9, 3) := by decide +kernel
theorem dX0_prepare_24 : decode cX0_prepare 24 = .ok (.iload_n 2, 1) := by decide +kernel
theorem dX0_prepare_25 : decode cX0_prepare 25 = .ok (.aload_n 1, 1) := by decide +kernel
theorem dX0_prepare_26 : decode cX0_prepare 26 = .ok (.iconst 4, 1) := by decide +kernel
theorem dX0_prepare_27 : decode cX0_prepare 27 = .ok (.iload_n 2, 1) := by decide +kernel
theorem dX0_prepare_28 : decode cX0_prepare 28 = .ok (.iadd, 1) := by decide +kernel
theorem dX0_prepare_29 : decode cX0_prepare 29 = .ok (.iaload, 1) := by decide +kernel
theorem dX0_prepare_30 : decode cX0_prepare 30 = .ok (.iastore, 1) := by decide +kernel
theorem dX0_prepare_31 : decode cX0_prepare 31 = .ok (.aload_n 0, 1) := by decide +kernel
theorem dX0_prepare_32 : decode cX0_prepare 32 = .ok (.dup, 1) := by decide +kernel
theorem dX0_prepare_33 : decode cX0_prepare 33 = .ok (.getfield 41, 3) := by decide +kernel
theorem dX0_prepare_36 : decode cX0_prepare 36 = .ok (.aload_n 0, 1) := by decide +kernel
theorem dX0_prepare_37 : decode cX0_prepare 37 = .ok (.getfield 9, 3) := by decide +kernel
theorem dX0_prepare_40 : decode cX0_prepare 40 = .ok (.iload_n 2, 1) := by decide +kernel
theorem dX0_prepare_41 : decode cX0_prepare 41 = .ok (.iaload, 1) := by decide +kernel
theorem dX0_prepare_42 : decode cX0_prepare 42 = .ok (.ifCond .le 9, 3) := by decide +kernel
theorem dX0_prepare_45 : decode cX0_prepare 45 = .ok (.iconst 1, 1) := by decide +kernel
theorem dX0_prepare_46 : decode cX0_prepare 46 = .ok (.iload_n 2, 1) := by decide +kernel
theorem dX0_prepare_47 : decode cX0_prepare 47 = .ok (.ishl, 1) := by decide +kernel
theorem dX0_prepare_48 : decode cX0_prepare 48 = .ok (.goto 4, 3) := by decide +kernel
theorem dX0_prepare_51 : decode cX0_prepare 51 = .ok (.iconst 0, 1) := by decide +kernel
theorem dX0_prepare_52 : decode cX0_prepare 52 = .ok (.ior, 1) := by decide +kernel
theorem dX0_prepare_53 : decode cX0_prepare 53 = .ok (.putfield 41, 3) := by decide +kernel
theorem dX0_prepare_56 : decode cX0_prepare 56 = .ok (.iinc 2 1, 3) := by decide +kernel
theorem dX0_prepare_59 : decode cX0_prepare 59 = .ok (.goto (-44), 3) := by decide +kernel
theorem dX0_prepare_62 : decode cX0_prepare 62 = .ok (.aload_n 0, 1) := by decide +kernel
theorem dX0_prepare_63 : decode cX0_prepare 63 = .ok (.aload_n 1, 1) := by decide +kernel
theorem dX0_prepare_64 : decode cX0_prepare 64 = .ok (.bipush 24, 2) := by decide +kernel
theorem dX0_prepare_66 : decode cX0_prepare 66 = .ok (.iaload, 1) := by decide +kernel
theorem dX0_prepare_67 : decode cX0_prepare 67 = .ok (.iconst 1, 1) := by decide +kernel
theorem dX0_prepare_68 : decode cX0_prepare 68 = .ok (.if_icmp .ne 7, 3) := by decide +kernel
theorem dX0_prepare_71 : decode cX0_prepare 71 = .ok (.iconst 1, 1) := by decide +kernel
theorem dX0_prepare_72 : decode cX0_prepare 72 = .ok (.goto 4, 3) := by decide +kernel
theorem dX0_prepare_75 : decode cX0_prepare 75 = .ok (.iconst 0, 1) := by decide +kernel
theorem dX0_prepare_76 : decode cX0_prepare 76 = .ok (.putfield 45, 3) := by decide +kernel
theorem dX0_prepare_79 : decode cX0_prepare 79 = .ok (.aload_n 0, 1) := by decide +kernel
theorem dX0_prepare_80 : decode cX0_prepare 80 = .ok (.aload_n 1, 1) := by decide +kernel
theorem dX0_prepare_81 : decode cX0_prepare 81 = .ok (.bipush 25, 2) := by decide +kernel
theorem dX0_prepare_83 : decode cX0_prepare 83 = .ok (.iaload, 1) := by decide +kernel
theorem dX0_prepare_84 : decode cX0_prepare 84 = .ok (.putfield 48, 3) := by decide +kernel
theorem dX0_prepare_87 : decode cX0_prepare 87 = .ok (.iconst 0, 1) := by decide +kernel
theorem dX0_prepare_88 : decode cX0_prepare 88 = .ok (.istore_n 2, 1) := by decide +kernel
theorem dX0_prepare_89 : decode cX0_prepare 89 = .ok (.iload_n 2, 1) := by decide +kernel
theorem dX0_prepare_90 : decode cX0_prepare 90 = .ok (.iconst 4, 1) := by decide +kernel
theorem dX0_prepare_91 : decode cX0_prepare 91 = .ok (.if_icmp .ge 26, 3) := by decide +kernel
theorem dX0_prepare_94 : decode cX0_prepare 94 = .ok (.aload_n 0, 1) := by decide +kernel
theorem dX0_prepare_95 : decode cX0_prepare 95 = .ok (.iload_n 2, 1) := by decide +kernel
theorem dX0_prepare_96 : decode cX0_prepare 96 = .ok (.aload_n 1, 1) := by decide +kernel
theorem dX0_prepare_97 : decode cX0_prepare 97 = .ok (.bipush 16, 2) := by decide +kernel
theorem dX0_prepare_99 : decode cX0_prepare 99 = .ok (.iload_n 2, 1) := by decide +kernel
theorem dX0_prepare_100 : decode cX0_prepare 100 = .ok (.iadd, 1) := by decide +kernel
theorem dX0_prepare_101 : decode cX0_prepare 101 = .ok (.iaload, 1) := by decide +kernel
theorem dX0_prepare_102 : decode cX0_prepare 102 = .ok (.aload_n 1, 1) := by decide +kernel
theorem dX0_prepare_103 : decode cX0_prepare 103 = .ok (.iconst 0, 1) := by decide +kernel
theorem dX0_prepare_104 : decode cX0_prepare 104 = .ok (.iload_n 2, 1) := by decide +kernel
theorem dX0_prepare_105 : decode cX0_prepare 105 = .ok (.iadd, 1) := by decide +kernel
theorem dX0_prepare_106 : decode cX0_prepare 106 = .ok (.iaload, 1) := by decide +kernel
theorem dX0_prepare_107 : decode cX0_prepare 107 = .ok (.isub, 1) := by decide +kernel
theorem dX0_prepare_108 : decode cX0_prepare 108 = .ok (.invokevirtual 51, 3) := by decide +kernel
theorem dX0_prepare_111 : decode cX0_prepare 111 = .ok (.iinc 2 1, 3) := by decide +kernel
theorem dX0_prepare_114 : decode cX0_prepare 114 = .ok (.goto (-25), 3) := by decide +kernel
theorem dX0_prepare_117 : decode cX0_prepare 117 = .ok (.aload_n 0, 1) := by decide +kernel
theorem dX0_prepare_118 : decode cX0_prepare 118 = .ok (.invokevirtual 55, 3) := by decide +kernel
theorem dX0_prepare_121 : decode cX0_prepare 121 = .ok (.aload_n 0, 1) := by decide +kernel
theorem dX0_prepare_122 : decode cX0_prepare 122 = .ok (.iconst 1, 1) := by decide +kernel
theorem dX0_prepare_123 : decode cX0_prepare 123 = .ok (.putfield 37, 3) := by decide +kernel
theorem dX0_prepare_126 : decode cX0_prepare 126 = .ok (.return_, 1) := by decide +kernel
theorem dX0_solutionsOf_0 : decode cX0_solutionsOf 0 = .ok (.aload_n 0, 1) := by decide +kernel
theorem dX0_solutionsOf_1 : decode cX0_solutionsOf 1 = .ok (.getfield 20, 3) := by decide +kernel
theorem dX0_solutionsOf_4 : decode cX0_solutionsOf 4 = .ok (.iload_n 1, 1) := by decide +kernel
theorem dX0_solutionsOf_5 : decode cX0_solutionsOf 5 = .ok (.iaload, 1) := by decide +kernel
theorem dX0_solutionsOf_6 : decode cX0_solutionsOf 6 = .ok (.ireturn, 1) := by decide +kernel
theorem dX0_bySets_0 : decode cX0_bySets 0 = .ok (.aload_n 0, 1) := by decide +kernel
theorem dX0_bySets_1 : decode cX0_bySets 1 = .ok (.iconst 4, 1) := by decide +kernel
theorem dX0_bySets_2 : decode cX0_bySets 2 = .ok (.iconst 4, 1) := by decide +kernel
theorem dX0_bySets_3 : decode cX0_bySets 3 = .ok (.invokevirtual 58, 3) := by decide +kernel
theorem dX0_bySets_6 : decode cX0_bySets 6 = .ok (.lreturn, 1) := by decide +kernel
theorem dX0_bySetsIfRest_0 : decode cX0_bySetsIfRest 0 = .ok (.aload_n 0, 1) := by decide +kernel
theorem dX0_bySetsIfRest_1 : decode cX0_bySetsIfRest 1 = .ok (.iconst 4, 1) := by decide +kernel
theorem dX0_bySetsIfRest_2 : decode cX0_bySetsIfRest 2 = .ok (.iload_n 2, 1) := by decide +kernel
theorem dX0_bySetsIfRest_3 : decode cX0_bySetsIfRest 3 = .ok (.invokevirtual 51, 3) := by decide +kernel
theorem dX0_bySetsIfRest_6 : decode cX0_bySetsIfRest 6 = .ok (.aload_n 0, 1) := by decide +kernel
theorem dX0_bySetsIfRest_7 : decode cX0_bySetsIfRest 7 = .ok (.iload_n 1, 1) := by decide +kernel
theorem dX0_bySetsIfRest_8 : decode cX0_bySetsIfRest 8 = .ok (.iconst 4, 1) := by decide +kernel
theorem dX0_bySetsIfRest_9 : decode cX0_bySetsIfRest 9 = .ok (.invokevirtual 58, 3) := by decide +kernel
theorem dX0_bySetsIfRest_12 : decode cX0_bySetsIfRest 12 = .ok (.lreturn, 1) := by decide +kernel
theorem dX0_byConstants_0 : decode cX0_byConstants 0 = .ok (.aload_n 0, 1) := by decide +kernel
theorem dX0_byConstants_1 : decode cX0_byConstants 1 = .ok (.getfield 31, 3) := by decide +kernel
theorem dX0_byConstants_4 : decode cX0_byConstants 4 = .ok (.iconst 0, 1) := by decide +kernel
theorem dX0_byConstants_5 : decode cX0_byConstants 5 = .ok (.aaload, 1) := by decide +kernel
theorem dX0_byConstants_6 : decode cX0_byConstants 6 = .ok (.iconst 0, 1) := by decide +kernel
theorem dX0_byConstants_7 : decode cX0_byConstants 7 = .ok (.laload, 1) := by decide +kernel
theorem dX0_byConstants_8 : decode cX0_byConstants 8 = .ok (.lreturn, 1) := by decide +kernel
theorem dX0_choose_0 : decode cX0_choose 0 = .ok (.iload_n 1, 1) := by decide +kernel
theorem dX0_choose_1 : decode cX0_choose 1 = .ok (.ifCond .lt 17, 3) := by decide +kernel
theorem dX0_choose_4 : decode cX0_choose 4 = .ok (.iload_n 1, 1) := by decide +kernel
theorem dX0_choose_5 : decode cX0_choose 5 = .ok (.i2l, 1) := by decide +kernel
theorem dX0_choose_6 : decode cX0_choose 6 = .ok (.aload_n 0, 1) := by decide +kernel
theorem dX0_choose_7 : decode cX0_choose 7 = .ok (.getfield 31, 3) := by decide +kernel
theorem dX0_choose_10 : decode cX0_choose 10 = .ok (.iconst 0, 1) := by decide +kernel
theorem dX0_choose_11 : decode cX0_choose 11 = .ok (.aaload, 1) := by decide +kernel
theorem dX0_choose_12 : decode cX0_choose 12 = .ok (.iconst 0, 1) := by decide +kernel
theorem dX0_choose_13 : decode cX0_choose 13 = .ok (.laload, 1) := by decide +kernel
theorem dX0_choose_14 : decode cX0_choose 14 = .ok (.lcmp, 1) := by decide +kernel
theorem dX0_choose_15 : decode cX0_choose 15 = .ok (.ifCond .lt 5, 3) := by decide +kernel
theorem dX0_choose_18 : decode cX0_choose 18 = .ok (.iconst 0, 1) := by decide +kernel
theorem dX0_choose_19 : decode cX0_choose 19 = .ok (.ireturn, 1) := by decide +kernel
theorem dX0_choose_20 : decode cX0_choose 20 = .ok (.iload_n 1, 1) := by decide +kernel
theorem dX0_choose_21 : decode cX0_choose 21 = .ok (.i2l, 1) := by decide +kernel
theorem dX0_choose_22 : decode cX0_choose 22 = .ok (.lstore_n 2, 1) := by decide +kernel
theorem dX0_choose_23 : decode cX0_choose 23 = .ok (.iconst 0, 1) := by decide +kernel
theorem dX0_choose_24 : decode cX0_choose 24 = .ok (.istore 4, 2) := by decide +kernel
theorem dX0_choose_26 : decode cX0_choose 26 = .ok (.iconst 0, 1) := by decide +kernel
theorem dX0_choose_27 : decode cX0_choose 27 = .ok (.istore 5, 2) := by decide +kernel
theorem dX0_choose_29 : decode cX0_choose 29 = .ok (.iload 5, 2) := by decide +kernel
theorem dX0_choose_31 : decode cX0_choose 31 = .ok (.iconst 4, 1) := by decide +kernel
theorem dX0_choose_32 : decode cX0_choose 32 = .ok (.if_icmp .ge 112, 3) := by decide +kernel
theorem dX0_choose_35 : decode cX0_choose 35 = .ok (.iconst 0, 1) := by decide +kernel
theorem dX0_choose_36 : decode cX0_choose 36 = .ok (.istore 6, 2) := by decide +kernel
theorem dX0_choose_38 : decode cX0_choose 38 = .ok (.iload 6, 2) := by decide +kernel
theorem dX0_choose_40 : decode cX0_choose 40 = .ok (.aload_n 0, 1) := by decide +kernel
theorem dX0_choose_41 : decode cX0_choose 41 = .ok (.getfield 20, 3) := by decide +kernel
theorem dX0_choose_44 : decode cX0_choose 44 = .ok (.iload 5, 2) := by decide +kernel
theorem dX0_choose_46 : decode cX0_choose 46 = .ok (.iaload, 1) := by decide +kernel
theorem dX0_choose_47 : decode cX0_choose 47 = .ok (.if_icmp .ge 91, 3) := by decide +kernel
theorem dX0_choose_50 : decode cX0_choose 50 = .ok (.iload 6, 2) := by decide +kernel
theorem dX0_choose_52 : decode cX0_choose 52 = .ok (.sipush 220, 3) := by decide +kernel
theorem dX0_choose_55 : decode cX0_choose 55 = .ok (.if_icmp .ge 83, 3) := by decide +kernel
theorem dX0_choose_58 : decode cX0_choose 58 = .ok (.iload 4, 2) := by decide +kernel
theorem dX0_choose_60 : decode cX0_choose 60 = .ok (.aload_n 0, 1) := by decide +kernel
theorem dX0_choose_61 : decode cX0_choose 61 = .ok (.getfield 17, 3) := by decide +kernel
theorem dX0_choose_64 : decode cX0_choose 64 = .ok (.iload 5, 2) := by decide +kernel
theorem dX0_choose_66 : decode cX0_choose 66 = .ok (.aaload, 1) := by decide +kernel
theorem dX0_choose_67 : decode cX0_choose 67 = .ok (.iload 6, 2) := by decide +kernel
theorem dX0_choose_69 : decode cX0_choose 69 = .ok (.iaload, 1) := by decide +kernel
theorem dX0_choose_70 : decode cX0_choose 70 = .ok (.invokestatic 62, 3) := by decide +kernel
theorem dX0_choose_73 : decode cX0_choose 73 = .ok (.ior, 1) := by decide +kernel
theorem dX0_choose_74 : decode cX0_choose 74 = .ok (.istore 7, 2) := by decide +kernel
theorem dX0_choose_76 : decode cX0_choose 76 = .ok (.lload_n 2, 1) := by decide +kernel
theorem dX0_choose_77 : decode cX0_choose 77 = .ok (.aload_n 0, 1) := by decide +kernel
theorem dX0_choose_78 : decode cX0_choose 78 = .ok (.getfield 31, 3) := by decide +kernel
theorem dX0_choose_81 : decode cX0_choose 81 = .ok (.iload 5, 2) := by decide +kernel
theorem dX0_choose_83 : decode cX0_choose 83 = .ok (.iconst 1, 1) := by decide +kernel
theorem dX0_choose_84 : decode cX0_choose 84 = .ok (.iadd, 1) := by decide +kernel
theorem dX0_choose_85 : decode cX0_choose 85 = .ok (.aaload, 1) := by decide +kernel
theorem dX0_choose_86 : decode cX0_choose 86 = .ok (.iload 7, 2) := by decide +kernel
theorem dX0_choose_88 : decode cX0_choose 88 = .ok (.laload, 1) := by decide +kernel
theorem dX0_choose_89 : decode cX0_choose 89 = .ok (.lcmp, 1) := by decide +kernel
theorem dX0_choose_90 : decode cX0_choose 90 = .ok (.ifCond .ge 27, 3) := by decide +kernel
theorem dX0_choose_93 : decode cX0_choose 93 = .ok (.aload_n 0, 1) := by decide +kernel
theorem dX0_choose_94 : decode cX0_choose 94 = .ok (.getfield 34, 3) := by decide +kernel
theorem dX0_choose_97 : decode cX0_choose 97 = .ok (.iload 5, 2) := by decide +kernel
theorem dX0_choose_99 : decode cX0_choose 99 = .ok (.aload_n 0, 1) := by decide +kernel
theorem dX0_choose_100 : decode cX0_choose 100 = .ok (.getfield 17, 3) := by decide +kernel
theorem dX0_choose_103 : decode cX0_choose 103 = .ok (.iload 5, 2) := by decide +kernel
theorem dX0_choose_105 : decode cX0_choose 105 = .ok (.aaload, 1) := by decide +kernel
theorem dX0_choose_106 : decode cX0_choose 106 = .ok (.iload 6, 2) := by decide +kernel
theorem dX0_choose_108 : decode cX0_choose 108 = .ok (.iaload, 1) := by decide +kernel
theorem dX0_choose_109 : decode cX0_choose 109 = .ok (.iastore, 1) := by decide +kernel
theorem dX0_choose_110 : decode cX0_choose 110 = .ok (.iload 7, 2) := by decide +kernel
theorem dX0_choose_112 : decode cX0_choose 112 = .ok (.istore 4, 2) := by decide +kernel
theorem dX0_choose_114 : decode cX0_choose 114 = .ok (.goto 24, 3) := by decide +kernel
theorem dX0_choose_117 : decode cX0_choose 117 = .ok (.lload_n 2, 1) := by decide +kernel
theorem dX0_choose_118 : decode cX0_choose 118 = .ok (.aload_n 0, 1) := by decide +kernel
theorem dX0_choose_119 : decode cX0_choose 119 = .ok (.getfield 31, 3) := by decide +kernel
theorem dX0_choose_122 : decode cX0_choose 122 = .ok (.iload 5, 2) := by decide +kernel
theorem dX0_choose_124 : decode cX0_choose 124 = .ok (.iconst 1, 1) := by decide +kernel
theorem dX0_choose_125 : decode cX0_choose 125 = .ok (.iadd, 1) := by decide +kernel
theorem dX0_choose_126 : decode cX0_choose 126 = .ok (.aaload, 1) := by decide +kernel
theorem dX0_choose_127 : decode cX0_choose 127 = .ok (.iload 7, 2) := by decide +kernel
theorem dX0_choose_129 : decode cX0_choose 129 = .ok (.laload, 1) := by decide +kernel
theorem dX0_choose_130 : decode cX0_choose 130 = .ok (.lsub, 1) := by decide +kernel
theorem dX0_choose_131 : decode cX0_choose 131 = .ok (.lstore_n 2, 1) := by decide +kernel
theorem dX0_choose_132 : decode cX0_choose 132 = .ok (.iinc 6 1, 3) := by decide +kernel
theorem dX0_choose_135 : decode cX0_choose 135 = .ok (.goto (-97), 3) := by decide +kernel
theorem dX0_choose_138 : decode cX0_choose 138 = .ok (.iinc 5 1, 3) := by decide +kernel
theorem dX0_choose_141 : decode cX0_choose 141 = .ok (.goto (-112), 3) := by decide +kernel
theorem dX0_choose_144 : decode cX0_choose 144 = .ok (.iconst 1, 1) := by decide +kernel
theorem dX0_choose_145 : decode cX0_choose 145 = .ok (.ireturn, 1) := by decide +kernel
theorem dX0_chosen_0 : decode cX0_chosen 0 = .ok (.aload_n 0, 1) := by decide +kernel
theorem dX0_chosen_1 : decode cX0_chosen 1 = .ok (.getfield 34, 3) := by decide +kernel
theorem dX0_chosen_4 : decode cX0_chosen 4 = .ok (.iload_n 2, 1) := by decide +kernel
theorem dX0_chosen_5 : decode cX0_chosen 5 = .ok (.iaload, 1) := by decide +kernel
theorem dX0_chosen_6 : decode cX0_chosen 6 = .ok (.iload_n 1, 1) := by decide +kernel
theorem dX0_chosen_7 : decode cX0_chosen 7 = .ok (.invokestatic 66, 3) := by decide +kernel
theorem dX0_chosen_10 : decode cX0_chosen 10 = .ok (.ireturn, 1) := by decide +kernel
theorem dX0_numberIn_0 : decode cX0_numberIn 0 = .ok (.iload_n 0, 1) := by decide +kernel
theorem dX0_numberIn_1 : decode cX0_numberIn 1 = .ok (.iconst 4, 1) := by decide +kernel
theorem dX0_numberIn_2 : decode cX0_numberIn 2 = .ok (.iconst 3, 1) := by decide +kernel
theorem dX0_numberIn_3 : decode cX0_numberIn 3 = .ok (.iload_n 1, 1) := by decide +kernel
theorem dX0_numberIn_4 : decode cX0_numberIn 4 = .ok (.isub, 1) := by decide +kernel
theorem dX0_numberIn_5 : decode cX0_numberIn 5 = .ok (.imul, 1) := by decide +kernel
theorem dX0_numberIn_6 : decode cX0_numberIn 6 = .ok (.ishr, 1) := by decide +kernel
theorem dX0_numberIn_7 : decode cX0_numberIn 7 = .ok (.bipush 15, 2) := by decide +kernel
theorem dX0_numberIn_9 : decode cX0_numberIn 9 = .ok (.iand, 1) := by decide +kernel
theorem dX0_numberIn_10 : decode cX0_numberIn 10 = .ok (.ireturn, 1) := by decide +kernel
theorem dX0_setOf_0 : decode cX0_setOf 0 = .ok (.iconst 0, 1) := by decide +kernel
theorem dX0_setOf_1 : decode cX0_setOf 1 = .ok (.istore_n 1, 1) := by decide +kernel
theorem dX0_setOf_2 : decode cX0_setOf 2 = .ok (.iconst 0, 1) := by decide +kernel
theorem dX0_setOf_3 : decode cX0_setOf 3 = .ok (.istore_n 2, 1) := by decide +kernel
theorem dX0_setOf_4 : decode cX0_setOf 4 = .ok (.iload_n 2, 1) := by decide +kernel
theorem dX0_setOf_5 : decode cX0_setOf 5 = .ok (.iconst 4, 1) := by decide +kernel
theorem dX0_setOf_6 : decode cX0_setOf 6 = .ok (.if_icmp .ge 27, 3) := by decide +kernel
theorem dX0_setOf_9 : decode cX0_setOf 9 = .ok (.iload_n 1, 1) := by decide +kernel
theorem dX0_setOf_10 : decode cX0_setOf 10 = .ok (.iload_n 0, 1) := by decide +kernel
theorem dX0_setOf_11 : decode cX0_setOf 11 = .ok (.iload_n 2, 1) := by decide +kernel
theorem dX0_setOf_12 : decode cX0_setOf 12 = .ok (.invokestatic 66, 3) := by decide +kernel
theorem dX0_setOf_15 : decode cX0_setOf 15 = .ok (.ifCond .le 9, 3) := by decide +kernel
theorem dX0_setOf_18 : decode cX0_setOf 18 = .ok (.iconst 1, 1) := by decide +kernel
theorem dX0_setOf_19 : decode cX0_setOf 19 = .ok (.iload_n 2, 1) := by decide +kernel
theorem dX0_setOf_20 : decode cX0_setOf 20 = .ok (.ishl, 1) := by decide +kernel
theorem dX0_setOf_21 : decode cX0_setOf 21 = .ok (.goto 4, 3) := by decide +kernel
theorem dX0_setOf_24 : decode cX0_setOf 24 = .ok (.iconst 0, 1) := by decide +kernel
theorem dX0_setOf_25 : decode cX0_setOf 25 = .ok (.ior, 1) := by decide +kernel
theorem dX0_setOf_26 : decode cX0_setOf 26 = .ok (.istore_n 1, 1) := by decide +kernel
theorem dX0_setOf_27 : decode cX0_setOf 27 = .ok (.iinc 2 1, 3) := by decide +kernel
theorem dX0_setOf_30 : decode cX0_setOf 30 = .ok (.goto (-26), 3) := by decide +kernel
theorem dX0_setOf_33 : decode cX0_setOf 33 = .ok (.iload_n 1, 1) := by decide +kernel
theorem dX0_setOf_34 : decode cX0_setOf 34 = .ok (.ireturn, 1) := by decide +kernel
theorem dX0_solve_0 : decode cX0_solve 0 = .ok (.aload_n 0, 1) := by decide +kernel
theorem dX0_solve_1 : decode cX0_solve 1 = .ok (.getfield 20, 3) := by decide +kernel
theorem dX0_solve_4 : decode cX0_solve 4 = .ok (.iload_n 1, 1) := by decide +kernel
theorem dX0_solve_5 : decode cX0_solve 5 = .ok (.iconst 0, 1) := by decide +kernel
theorem dX0_solve_6 : decode cX0_solve 6 = .ok (.iastore, 1) := by decide +kernel
theorem dX0_solve_7 : decode cX0_solve 7 = .ok (.iconst 0, 1) := by decide +kernel
theorem dX0_solve_8 : decode cX0_solve 8 = .ok (.istore_n 3, 1) := by decide +kernel
theorem dX0_solve_9 : decode cX0_solve 9 = .ok (.iload_n 3, 1) := by decide +kernel
theorem dX0_solve_10 : decode cX0_solve 10 = .ok (.bipush 16, 2) := by decide +kernel
theorem dX0_solve_12 : decode cX0_solve 12 = .ok (.if_icmp .ge 18, 3) := by decide +kernel
theorem dX0_solve_15 : decode cX0_solve 15 = .ok (.aload_n 0, 1) := by decide +kernel
theorem dX0_solve_16 : decode cX0_solve 16 = .ok (.getfield 25, 3) := by decide +kernel
theorem dX0_solve_19 : decode cX0_solve 19 = .ok (.iload_n 1, 1) := by decide +kernel
theorem dX0_solve_20 : decode cX0_solve 20 = .ok (.aaload, 1) := by decide +kernel
theorem dX0_solve_21 : decode cX0_solve 21 = .ok (.iload_n 3, 1) := by decide +kernel
theorem dX0_solve_22 : decode cX0_solve 22 = .ok (.lconst 0, 1) := by decide +kernel
theorem dX0_solve_23 : decode cX0_solve 23 = .ok (.lastore, 1) := by decide +kernel
theorem dX0_solve_24 : decode cX0_solve 24 = .ok (.iinc 3 1, 3) := by decide +kernel
theorem dX0_solve_27 : decode cX0_solve 27 = .ok (.goto (-18), 3) := by decide +kernel
theorem dX0_solve_30 : decode cX0_solve 30 = .ok (.iconst 0, 1) := by decide +kernel
theorem dX0_solve_31 : decode cX0_solve 31 = .ok (.istore_n 3, 1) := by decide +kernel
theorem dX0_solve_32 : decode cX0_solve 32 = .ok (.iload_n 3, 1) := by decide +kernel
theorem dX0_solve_33 : decode cX0_solve 33 = .ok (.aload_n 0, 1) := by decide +kernel
theorem dX0_solve_34 : decode cX0_solve 34 = .ok (.iconst 0, 1) := by decide +kernel
theorem dX0_solve_35 : decode cX0_solve 35 = .ok (.invokevirtual 70, 3) := by decide +kernel
theorem dX0_solve_38 : decode cX0_solve 38 = .ok (.if_icmp .gt 145, 3) := by decide +kernel
theorem dX0_solve_41 : decode cX0_solve 41 = .ok (.aload_n 0, 1) := by decide +kernel
theorem dX0_solve_42 : decode cX0_solve 42 = .ok (.getfield 9, 3) := by decide +kernel
theorem dX0_solve_45 : decode cX0_solve 45 = .ok (.iconst 0, 1) := by decide +kernel
theorem dX0_solve_46 : decode cX0_solve 46 = .ok (.iaload, 1) := by decide +kernel
theorem dX0_solve_47 : decode cX0_solve 47 = .ok (.iload_n 3, 1) := by decide +kernel
theorem dX0_solve_48 : decode cX0_solve 48 = .ok (.imul, 1) := by decide +kernel
theorem dX0_solve_49 : decode cX0_solve 49 = .ok (.iload_n 2, 1) := by decide +kernel
theorem dX0_solve_50 : decode cX0_solve 50 = .ok (.if_icmp .gt 133, 3) := by decide +kernel
theorem dX0_solve_53 : decode cX0_solve 53 = .ok (.iload_n 2, 1) := by decide +kernel
theorem dX0_solve_54 : decode cX0_solve 54 = .ok (.aload_n 0, 1) := by decide +kernel
theorem dX0_solve_55 : decode cX0_solve 55 = .ok (.getfield 9, 3) := by decide +kernel
theorem dX0_solve_58 : decode cX0_solve 58 = .ok (.iconst 0, 1) := by decide +kernel
theorem dX0_solve_59 : decode cX0_solve 59 = .ok (.iaload, 1) := by decide +kernel
theorem dX0_solve_60 : decode cX0_solve 60 = .ok (.iload_n 3, 1) := by decide +kernel
theorem dX0_solve_61 : decode cX0_solve 61 = .ok (.imul, 1) := by decide +kernel
theorem dX0_solve_62 : decode cX0_solve 62 = .ok (.isub, 1) := by decide +kernel
theorem dX0_solve_63 : decode cX0_solve 63 = .ok (.istore 4, 2) := by decide +kernel
theorem dX0_solve_65 : decode cX0_solve 65 = .ok (.iconst 0, 1) := by decide +kernel
theorem dX0_solve_66 : decode cX0_solve 66 = .ok (.istore 5, 2) := by decide +kernel
theorem dX0_solve_68 : decode cX0_solve 68 = .ok (.iload 5, 2) := by decide +kernel
theorem dX0_solve_70 : decode cX0_solve 70 = .ok (.aload_n 0, 1) := by decide +kernel
theorem dX0_solve_71 : decode cX0_solve 71 = .ok (.iconst 1, 1) := by decide +kernel
theorem dX0_solve_72 : decode cX0_solve 72 = .ok (.invokevirtual 70, 3) := by decide +kernel
theorem dX0_solve_75 : decode cX0_solve 75 = .ok (.if_icmp .gt 102, 3) := by decide +kernel
theorem dX0_solve_78 : decode cX0_solve 78 = .ok (.aload_n 0, 1) := by decide +kernel
theorem dX0_solve_79 : decode cX0_solve 79 = .ok (.getfield 9, 3) := by decide +kernel
theorem dX0_solve_82 : decode cX0_solve 82 = .ok (.iconst 1, 1) := by decide +kernel
theorem dX0_solve_83 : decode cX0_solve 83 = .ok (.iaload, 1) := by decide +kernel
theorem dX0_solve_84 : decode cX0_solve 84 = .ok (.iload 5, 2) := by decide +kernel
theorem dX0_solve_86 : decode cX0_solve 86 = .ok (.imul, 1) := by decide +kernel
theorem dX0_solve_87 : decode cX0_solve 87 = .ok (.iload 4, 2) := by decide +kernel
theorem dX0_solve_89 : decode cX0_solve 89 = .ok (.if_icmp .gt 88, 3) := by decide +kernel
theorem dX0_solve_92 : decode cX0_solve 92 = .ok (.iload 4, 2) := by decide +kernel
theorem dX0_solve_94 : decode cX0_solve 94 = .ok (.aload_n 0, 1) := by decide +kernel
theorem dX0_solve_95 : decode cX0_solve 95 = .ok (.getfield 9, 3) := by decide +kernel
theorem dX0_solve_98 : decode cX0_solve 98 = .ok (.iconst 1, 1) := by decide +kernel
theorem dX0_solve_99 : decode cX0_solve 99 = .ok (.iaload, 1) := by decide +kernel
theorem dX0_solve_100 : decode cX0_solve 100 = .ok (.iload 5, 2) := by decide +kernel
theorem dX0_solve_102 : decode cX0_solve 102 = .ok (.imul, 1) := by decide +kernel
theorem dX0_solve_103 : decode cX0_solve 103 = .ok (.isub, 1) := by decide +kernel
theorem dX0_solve_104 : decode cX0_solve 104 = .ok (.istore 6, 2) := by decide +kernel
theorem dX0_solve_106 : decode cX0_solve 106 = .ok (.iconst 0, 1) := by decide +kernel
theorem dX0_solve_107 : decode cX0_solve 107 = .ok (.istore 7, 2) := by decide +kernel
theorem dX0_solve_109 : decode cX0_solve 109 = .ok (.iload 7, 2) := by decide +kernel
theorem dX0_solve_111 : decode cX0_solve 111 = .ok (.aload_n 0, 1) := by decide +kernel
theorem dX0_solve_112 : decode cX0_solve 112 = .ok (.iconst 2, 1) := by decide +kernel
theorem dX0_solve_113 : decode cX0_solve 113 = .ok (.invokevirtual 70, 3) := by decide +kernel
theorem dX0_solve_116 : decode cX0_solve 116 = .ok (.if_icmp .gt 55, 3) := by decide +kernel
theorem dX0_solve_119 : decode cX0_solve 119 = .ok (.aload_n 0, 1) := by decide +kernel
theorem dX0_solve_120 : decode cX0_solve 120 = .ok (.getfield 9, 3) := by decide +kernel
theorem dX0_solve_123 : decode cX0_solve 123 = .ok (.iconst 2, 1) := by decide +kernel
theorem dX0_solve_124 : decode cX0_solve 124 = .ok (.iaload, 1) := by decide +kernel
theorem dX0_solve_125 : decode cX0_solve 125 = .ok (.iload 7, 2) := by decide +kernel
theorem dX0_solve_127 : decode cX0_solve 127 = .ok (.imul, 1) := by decide +kernel
theorem dX0_solve_128 : decode cX0_solve 128 = .ok (.iload 6, 2) := by decide +kernel
theorem dX0_solve_130 : decode cX0_solve 130 = .ok (.if_icmp .gt 41, 3) := by decide +kernel
theorem dX0_solve_133 : decode cX0_solve 133 = .ok (.aload_n 0, 1) := by decide +kernel
theorem dX0_solve_134 : decode cX0_solve 134 = .ok (.iload_n 1, 1) := by decide +kernel
theorem dX0_solve_135 : decode cX0_solve 135 = .ok (.iload_n 3, 1) := by decide +kernel
theorem dX0_solve_136 : decode cX0_solve 136 = .ok (.bipush 12, 2) := by decide +kernel
theorem dX0_solve_138 : decode cX0_solve 138 = .ok (.ishl, 1) := by decide +kernel
theorem dX0_solve_139 : decode cX0_solve 139 = .ok (.iload 5, 2) := by decide +kernel
theorem dX0_solve_141 : decode cX0_solve 141 = .ok (.bipush 8, 2) := by decide +kernel
theorem dX0_solve_143 : decode cX0_solve 143 = .ok (.ishl, 1) := by decide +kernel
theorem dX0_solve_144 : decode cX0_solve 144 = .ok (.ior, 1) := by decide +kernel
theorem dX0_solve_145 : decode cX0_solve 145 = .ok (.iload 7, 2) := by decide +kernel
theorem dX0_solve_147 : decode cX0_solve 147 = .ok (.iconst 4, 1) := by decide +kernel
theorem dX0_solve_148 : decode cX0_solve 148 = .ok (.ishl, 1) := by decide +kernel
theorem dX0_solve_149 : decode cX0_solve 149 = .ok (.ior, 1) := by decide +kernel
theorem dX0_solve_150 : decode cX0_solve 150 = .ok (.iload 6, 2) := by decide +kernel
theorem dX0_solve_152 : decode cX0_solve 152 = .ok (.aload_n 0, 1) := by decide +kernel
theorem dX0_solve_153 : decode cX0_solve 153 = .ok (.getfield 9, 3) := by decide +kernel
theorem dX0_solve_156 : decode cX0_solve 156 = .ok (.iconst 2, 1) := by decide +kernel
theorem dX0_solve_157 : decode cX0_solve 157 = .ok (.iaload, 1) := by decide +kernel
theorem dX0_solve_158 : decode cX0_solve 158 = .ok (.iload 7, 2) := by decide +kernel
theorem dX0_solve_160 : decode cX0_solve 160 = .ok (.imul, 1) := by decide +kernel
theorem dX0_solve_161 : decode cX0_solve 161 = .ok (.isub, 1) := by decide +kernel
theorem dX0_solve_162 : decode cX0_solve 162 = .ok (.invokevirtual 73, 3) := by decide +kernel
theorem dX0_solve_165 : decode cX0_solve 165 = .ok (.iinc 7 1, 3) := by decide +kernel
theorem dX0_solve_168 : decode cX0_solve 168 = .ok (.goto (-59), 3) := by decide +kernel
theorem dX0_solve_171 : decode cX0_solve 171 = .ok (.iinc 5 1, 3) := by decide +kernel
theorem dX0_solve_174 : decode cX0_solve 174 = .ok (.goto (-106), 3) := by decide +kernel
theorem dX0_solve_177 : decode cX0_solve 177 = .ok (.iinc 3 1, 3) := by decide +kernel
theorem dX0_solve_180 : decode cX0_solve 180 = .ok (.goto (-148), 3) := by decide +kernel
theorem dX0_solve_183 : decode cX0_solve 183 = .ok (.aload_n 0, 1) := by decide +kernel
theorem dX0_solve_184 : decode cX0_solve 184 = .ok (.iload_n 1, 1) := by decide +kernel
theorem dX0_solve_185 : decode cX0_solve 185 = .ok (.invokevirtual 77, 3) := by decide +kernel
theorem dX0_solve_188 : decode cX0_solve 188 = .ok (.return_, 1) := by decide +kernel
theorem dX0_solveLast_0 : decode cX0_solveLast 0 = .ok (.aload_n 0, 1) := by decide +kernel
theorem dX0_solveLast_1 : decode cX0_solveLast 1 = .ok (.getfield 9, 3) := by decide +kernel
theorem dX0_solveLast_4 : decode cX0_solveLast 4 = .ok (.iconst 3, 1) := by decide +kernel
theorem dX0_solveLast_5 : decode cX0_solveLast 5 = .ok (.iaload, 1) := by decide +kernel
theorem dX0_solveLast_6 : decode cX0_solveLast 6 = .ok (.ifCond .le 14, 3) := by decide +kernel
theorem dX0_solveLast_9 : decode cX0_solveLast 9 = .ok (.iload_n 3, 1) := by decide +kernel
theorem dX0_solveLast_10 : decode cX0_solveLast 10 = .ok (.aload_n 0, 1) := by decide +kernel
theorem dX0_solveLast_11 : decode cX0_solveLast 11 = .ok (.getfield 9, 3) := by decide +kernel
theorem dX0_solveLast_14 : decode cX0_solveLast 14 = .ok (.iconst 3, 1) := by decide +kernel
theorem dX0_solveLast_15 : decode cX0_solveLast 15 = .ok (.iaload, 1) := by decide +kernel
theorem dX0_solveLast_16 : decode cX0_solveLast 16 = .ok (.idiv, 1) := by decide +kernel
theorem dX0_solveLast_17 : decode cX0_solveLast 17 = .ok (.goto 4, 3) := by decide +kernel
theorem dX0_solveLast_20 : decode cX0_solveLast 20 = .ok (.iconst 0, 1) := by decide +kernel
theorem dX0_solveLast_21 : decode cX0_solveLast 21 = .ok (.istore 4, 2) := by decide +kernel
theorem dX0_solveLast_23 : decode cX0_solveLast 23 = .ok (.iload 4, 2) := by decide +kernel
theorem dX0_solveLast_25 : decode cX0_solveLast 25 = .ok (.aload_n 0, 1) := by decide +kernel
theorem dX0_solveLast_26 : decode cX0_solveLast 26 = .ok (.getfield 48, 3) := by decide +kernel
theorem dX0_solveLast_29 : decode cX0_solveLast 29 = .ok (.if_icmp .gt 16, 3) := by decide +kernel
theorem dX0_solveLast_32 : decode cX0_solveLast 32 = .ok (.aload_n 0, 1) := by decide +kernel
theorem dX0_solveLast_33 : decode cX0_solveLast 33 = .ok (.getfield 9, 3) := by decide +kernel
theorem dX0_solveLast_36 : decode cX0_solveLast 36 = .ok (.iconst 3, 1) := by decide +kernel
theorem dX0_solveLast_37 : decode cX0_solveLast 37 = .ok (.iaload, 1) := by decide +kernel
theorem dX0_solveLast_38 : decode cX0_solveLast 38 = .ok (.iload 4, 2) := by decide +kernel
theorem dX0_solveLast_40 : decode cX0_solveLast 40 = .ok (.imul, 1) := by decide +kernel
theorem dX0_solveLast_41 : decode cX0_solveLast 41 = .ok (.iload_n 3, 1) := by decide +kernel
theorem dX0_solveLast_42 : decode cX0_solveLast 42 = .ok (.if_icmp .eq 4, 3) := by decide +kernel
theorem dX0_solveLast_45 : decode cX0_solveLast 45 = .ok (.return_, 1) := by decide +kernel
theorem dX0_solveLast_46 : decode cX0_solveLast 46 = .ok (.iload_n 2, 1) := by decide +kernel
theorem dX0_solveLast_47 : decode cX0_solveLast 47 = .ok (.iload 4, 2) := by decide +kernel
theorem dX0_solveLast_49 : decode cX0_solveLast 49 = .ok (.ior, 1) := by decide +kernel
theorem dX0_solveLast_50 : decode cX0_solveLast 50 = .ok (.istore 5, 2) := by decide +kernel
theorem dX0_solveLast_52 : decode cX0_solveLast 52 = .ok (.aload_n 0, 1) := by decide +kernel
theorem dX0_solveLast_53 : decode cX0_solveLast 53 = .ok (.getfield 20, 3) := by decide +kernel
theorem dX0_solveLast_56 : decode cX0_solveLast 56 = .ok (.iload_n 1, 1) := by decide +kernel
theorem dX0_solveLast_57 : decode cX0_solveLast 57 = .ok (.iaload, 1) := by decide +kernel
theorem dX0_solveLast_58 : decode cX0_solveLast 58 = .ok (.sipush 220, 3) := by decide +kernel
theorem dX0_solveLast_61 : decode cX0_solveLast 61 = .ok (.if_icmp .ge 18, 3) := by decide +kernel
theorem dX0_solveLast_64 : decode cX0_solveLast 64 = .ok (.aload_n 0, 1) := by decide +kernel
theorem dX0_solveLast_65 : decode cX0_solveLast 65 = .ok (.getfield 17, 3) := by decide +kernel
theorem dX0_solveLast_68 : decode cX0_solveLast 68 = .ok (.iload_n 1, 1) := by decide +kernel
theorem dX0_solveLast_69 : decode cX0_solveLast 69 = .ok (.aaload, 1) := by decide +kernel
theorem dX0_solveLast_70 : decode cX0_solveLast 70 = .ok (.aload_n 0, 1) := by decide +kernel
theorem dX0_solveLast_71 : decode cX0_solveLast 71 = .ok (.getfield 20, 3) := by decide +kernel
theorem dX0_solveLast_74 : decode cX0_solveLast 74 = .ok (.iload_n 1, 1) := by decide +kernel
theorem dX0_solveLast_75 : decode cX0_solveLast 75 = .ok (.iaload, 1) := by decide +kernel
theorem dX0_solveLast_76 : decode cX0_solveLast 76 = .ok (.iload 5, 2) := by decide +kernel
theorem dX0_solveLast_78 : decode cX0_solveLast 78 = .ok (.iastore, 1) := by decide +kernel
theorem dX0_solveLast_79 : decode cX0_solveLast 79 = .ok (.aload_n 0, 1) := by decide +kernel
theorem dX0_solveLast_80 : decode cX0_solveLast 80 = .ok (.getfield 20, 3) := by decide +kernel
theorem dX0_solveLast_83 : decode cX0_solveLast 83 = .ok (.iload_n 1, 1) := by decide +kernel
theorem dX0_solveLast_84 : decode cX0_solveLast 84 = .ok (.dup2, 1) := by decide +kernel
theorem dX0_solveLast_85 : decode cX0_solveLast 85 = .ok (.iaload, 1) := by decide +kernel
theorem dX0_solveLast_86 : decode cX0_solveLast 86 = .ok (.iconst 1, 1) := by decide +kernel
theorem dX0_solveLast_87 : decode cX0_solveLast 87 = .ok (.iadd, 1) := by decide +kernel
theorem dX0_solveLast_88 : decode cX0_solveLast 88 = .ok (.iastore, 1) := by decide +kernel
theorem dX0_solveLast_89 : decode cX0_solveLast 89 = .ok (.aload_n 0, 1) := by decide +kernel
theorem dX0_solveLast_90 : decode cX0_solveLast 90 = .ok (.getfield 25, 3) := by decide +kernel
theorem dX0_solveLast_93 : decode cX0_solveLast 93 = .ok (.iload_n 1, 1) := by decide +kernel
theorem dX0_solveLast_94 : decode cX0_solveLast 94 = .ok (.aaload, 1) := by decide +kernel
theorem dX0_solveLast_95 : decode cX0_solveLast 95 = .ok (.iload 5, 2) := by decide +kernel
theorem dX0_solveLast_97 : decode cX0_solveLast 97 = .ok (.invokestatic 62, 3) := by decide +kernel
theorem dX0_solveLast_100 : decode cX0_solveLast 100 = .ok (.dup2, 1) := by decide +kernel
theorem dX0_solveLast_101 : decode cX0_solveLast 101 = .ok (.laload, 1) := by decide +kernel
theorem dX0_solveLast_102 : decode cX0_solveLast 102 = .ok (.lconst 1, 1) := by decide +kernel
theorem dX0_solveLast_103 : decode cX0_solveLast 103 = .ok (.ladd, 1) := by decide +kernel
theorem dX0_solveLast_104 : decode cX0_solveLast 104 = .ok (.lastore, 1) := by decide +kernel
theorem dX0_solveLast_105 : decode cX0_solveLast 105 = .ok (.return_, 1) := by decide +kernel
theorem dX0_top_0 : decode cX0_top 0 = .ok (.aload_n 0, 1) := by decide +kernel
theorem dX0_top_1 : decode cX0_top 1 = .ok (.getfield 9, 3) := by decide +kernel
theorem dX0_top_4 : decode cX0_top 4 = .ok (.iload_n 1, 1) := by decide +kernel
theorem dX0_top_5 : decode cX0_top 5 = .ok (.iaload, 1) := by decide +kernel
theorem dX0_top_6 : decode cX0_top 6 = .ok (.ifCond .le 10, 3) := by decide +kernel
theorem dX0_top_9 : decode cX0_top 9 = .ok (.aload_n 0, 1) := by decide +kernel
theorem dX0_top_10 : decode cX0_top 10 = .ok (.getfield 48, 3) := by decide +kernel
theorem dX0_top_13 : decode cX0_top 13 = .ok (.goto 4, 3) := by decide +kernel
theorem dX0_top_16 : decode cX0_top 16 = .ok (.iconst 0, 1) := by decide +kernel
theorem dX0_top_17 : decode cX0_top 17 = .ok (.ireturn, 1) := by decide +kernel
theorem dX0_fillWithin_0 : decode cX0_fillWithin 0 = .ok (.iconst 0, 1) := by decide +kernel
theorem dX0_fillWithin_1 : decode cX0_fillWithin 1 = .ok (.istore_n 2, 1) := by decide +kernel
theorem dX0_fillWithin_2 : decode cX0_fillWithin 2 = .ok (.iload_n 2, 1) := by decide +kernel
theorem dX0_fillWithin_3 : decode cX0_fillWithin 3 = .ok (.bipush 16, 2) := by decide +kernel
theorem dX0_fillWithin_5 : decode cX0_fillWithin 5 = .ok (.if_icmp .ge 25, 3) := by decide +kernel
theorem dX0_fillWithin_8 : decode cX0_fillWithin 8 = .ok (.aload_n 0, 1) := by decide +kernel
theorem dX0_fillWithin_9 : decode cX0_fillWithin 9 = .ok (.getfield 28, 3) := by decide +kernel
theorem dX0_fillWithin_12 : decode cX0_fillWithin 12 = .ok (.iload_n 1, 1) := by decide +kernel
theorem dX0_fillWithin_13 : decode cX0_fillWithin 13 = .ok (.aaload, 1) := by decide +kernel
theorem dX0_fillWithin_14 : decode cX0_fillWithin 14 = .ok (.iload_n 2, 1) := by decide +kernel
theorem dX0_fillWithin_15 : decode cX0_fillWithin 15 = .ok (.aload_n 0, 1) := by decide +kernel
theorem dX0_fillWithin_16 : decode cX0_fillWithin 16 = .ok (.getfield 25, 3) := by decide +kernel
theorem dX0_fillWithin_19 : decode cX0_fillWithin 19 = .ok (.iload_n 1, 1) := by decide +kernel
theorem dX0_fillWithin_20 : decode cX0_fillWithin 20 = .ok (.aaload, 1) := by decide +kernel
theorem dX0_fillWithin_21 : decode cX0_fillWithin 21 = .ok (.iload_n 2, 1) := by decide +kernel
theorem dX0_fillWithin_22 : decode cX0_fillWithin 22 = .ok (.laload, 1) := by decide +kernel
theorem dX0_fillWithin_23 : decode cX0_fillWithin 23 = .ok (.lastore, 1) := by decide +kernel
theorem dX0_fillWithin_24 : decode cX0_fillWithin 24 = .ok (.iinc 2 1, 3) := by decide +kernel
theorem dX0_fillWithin_27 : decode cX0_fillWithin 27 = .ok (.goto (-25), 3) := by decide +kernel
theorem dX0_fillWithin_30 : decode cX0_fillWithin 30 = .ok (.iconst 0, 1) := by decide +kernel
theorem dX0_fillWithin_31 : decode cX0_fillWithin 31 = .ok (.istore_n 2, 1) := by decide +kernel
theorem dX0_fillWithin_32 : decode cX0_fillWithin 32 = .ok (.iload_n 2, 1) := by decide +kernel
theorem dX0_fillWithin_33 : decode cX0_fillWithin 33 = .ok (.iconst 4, 1) := by decide +kernel
theorem dX0_fillWithin_34 : decode cX0_fillWithin 34 = .ok (.if_icmp .ge 55, 3) := by decide +kernel
theorem dX0_fillWithin_37 : decode cX0_fillWithin 37 = .ok (.iconst 0, 1) := by decide +kernel
theorem dX0_fillWithin_38 : decode cX0_fillWithin 38 = .ok (.istore_n 3, 1) := by decide +kernel
theorem dX0_fillWithin_39 : decode cX0_fillWithin 39 = .ok (.iload_n 3, 1) := by decide +kernel
theorem dX0_fillWithin_40 : decode cX0_fillWithin 40 = .ok (.bipush 16, 2) := by decide +kernel
theorem dX0_fillWithin_42 : decode cX0_fillWithin 42 = .ok (.if_icmp .ge 41, 3) := by decide +kernel
theorem dX0_fillWithin_45 : decode cX0_fillWithin 45 = .ok (.iload_n 3, 1) := by decide +kernel
theorem dX0_fillWithin_46 : decode cX0_fillWithin 46 = .ok (.iload_n 2, 1) := by decide +kernel
theorem dX0_fillWithin_47 : decode cX0_fillWithin 47 = .ok (.ishr, 1) := by decide +kernel
theorem dX0_fillWithin_48 : decode cX0_fillWithin 48 = .ok (.iconst 1, 1) := by decide +kernel
theorem dX0_fillWithin_49 : decode cX0_fillWithin 49 = .ok (.iand, 1) := by decide +kernel
theorem dX0_fillWithin_50 : decode cX0_fillWithin 50 = .ok (.iconst 1, 1) := by decide +kernel
theorem dX0_fillWithin_51 : decode cX0_fillWithin 51 = .ok (.if_icmp .ne 26, 3) := by decide +kernel
theorem dX0_fillWithin_54 : decode cX0_fillWithin 54 = .ok (.aload_n 0, 1) := by decide +kernel
theorem dX0_fillWithin_55 : decode cX0_fillWithin 55 = .ok (.getfield 28, 3) := by decide +kernel
theorem dX0_fillWithin_58 : decode cX0_fillWithin 58 = .ok (.iload_n 1, 1) := by decide +kernel
theorem dX0_fillWithin_59 : decode cX0_fillWithin 59 = .ok (.aaload, 1) := by decide +kernel
theorem dX0_fillWithin_60 : decode cX0_fillWithin 60 = .ok (.iload_n 3, 1) := by decide +kernel
theorem dX0_fillWithin_61 : decode cX0_fillWithin 61 = .ok (.dup2, 1) := by decide +kernel
theorem dX0_fillWithin_62 : decode cX0_fillWithin 62 = .ok (.laload, 1) := by decide +kernel
theorem dX0_fillWithin_63 : decode cX0_fillWithin 63 = .ok (.aload_n 0, 1) := by decide +kernel
theorem dX0_fillWithin_64 : decode cX0_fillWithin 64 = .ok (.getfield 28, 3) := by decide +kernel
theorem dX0_fillWithin_67 : decode cX0_fillWithin 67 = .ok (.iload_n 1, 1) := by decide +kernel
theorem dX0_fillWithin_68 : decode cX0_fillWithin 68 = .ok (.aaload, 1) := by decide +kernel
theorem dX0_fillWithin_69 : decode cX0_fillWithin 69 = .ok (.iload_n 3, 1) := by decide +kernel
theorem dX0_fillWithin_70 : decode cX0_fillWithin 70 = .ok (.iconst 1, 1) := by decide +kernel
theorem dX0_fillWithin_71 : decode cX0_fillWithin 71 = .ok (.iload_n 2, 1) := by decide +kernel
theorem dX0_fillWithin_72 : decode cX0_fillWithin 72 = .ok (.ishl, 1) := by decide +kernel
theorem dX0_fillWithin_73 : decode cX0_fillWithin 73 = .ok (.ixor, 1) := by decide +kernel
theorem dX0_fillWithin_74 : decode cX0_fillWithin 74 = .ok (.laload, 1) := by decide +kernel
theorem dX0_fillWithin_75 : decode cX0_fillWithin 75 = .ok (.ladd, 1) := by decide +kernel
theorem dX0_fillWithin_76 : decode cX0_fillWithin 76 = .ok (.lastore, 1) := by decide +kernel
theorem dX0_fillWithin_77 : decode cX0_fillWithin 77 = .ok (.iinc 3 1, 3) := by decide +kernel
theorem dX0_fillWithin_80 : decode cX0_fillWithin 80 = .ok (.goto (-41), 3) := by decide +kernel
theorem dX0_fillWithin_83 : decode cX0_fillWithin 83 = .ok (.iinc 2 1, 3) := by decide +kernel
theorem dX0_fillWithin_86 : decode cX0_fillWithin 86 = .ok (.goto (-54), 3) := by decide +kernel
theorem dX0_fillWithin_89 : decode cX0_fillWithin 89 = .ok (.return_, 1) := by decide +kernel
theorem dX0_fillWays_0 : decode cX0_fillWays 0 = .ok (.iconst 0, 1) := by decide +kernel
theorem dX0_fillWays_1 : decode cX0_fillWays 1 = .ok (.istore_n 1, 1) := by decide +kernel
theorem dX0_fillWays_2 : decode cX0_fillWays 2 = .ok (.iload_n 1, 1) := by decide +kernel
theorem dX0_fillWays_3 : decode cX0_fillWays 3 = .ok (.bipush 16, 2) := by decide +kernel
theorem dX0_fillWays_5 : decode cX0_fillWays 5 = .ok (.if_icmp .ge 37, 3) := by decide +kernel
theorem dX0_fillWays_8 : decode cX0_fillWays 8 = .ok (.aload_n 0, 1) := by decide +kernel
theorem dX0_fillWays_9 : decode cX0_fillWays 9 = .ok (.getfield 31, 3) := by decide +kernel
theorem dX0_fillWays_12 : decode cX0_fillWays 12 = .ok (.iconst 4, 1) := by decide +kernel
theorem dX0_fillWays_13 : decode cX0_fillWays 13 = .ok (.aaload, 1) := by decide +kernel
theorem dX0_fillWays_14 : decode cX0_fillWays 14 = .ok (.iload_n 1, 1) := by decide +kernel
theorem dX0_fillWays_15 : decode cX0_fillWays 15 = .ok (.aload_n 0, 1) := by decide +kernel
theorem dX0_fillWays_16 : decode cX0_fillWays 16 = .ok (.getfield 45, 3) := by decide +kernel
theorem dX0_fillWays_19 : decode cX0_fillWays 19 = .ok (.ifCond .ne 11, 3) := by decide +kernel
theorem dX0_fillWays_22 : decode cX0_fillWays 22 = .ok (.iload_n 1, 1) := by decide +kernel
theorem dX0_fillWays_23 : decode cX0_fillWays 23 = .ok (.aload_n 0, 1) := by decide +kernel
theorem dX0_fillWays_24 : decode cX0_fillWays 24 = .ok (.getfield 41, 3) := by decide +kernel
theorem dX0_fillWays_27 : decode cX0_fillWays 27 = .ok (.if_icmp .ne 7, 3) := by decide +kernel
theorem dX0_fillWays_30 : decode cX0_fillWays 30 = .ok (.lconst 1, 1) := by decide +kernel
theorem dX0_fillWays_31 : decode cX0_fillWays 31 = .ok (.goto 4, 3) := by decide +kernel
theorem dX0_fillWays_34 : decode cX0_fillWays 34 = .ok (.lconst 0, 1) := by decide +kernel
theorem dX0_fillWays_35 : decode cX0_fillWays 35 = .ok (.lastore, 1) := by decide +kernel
theorem dX0_fillWays_36 : decode cX0_fillWays 36 = .ok (.iinc 1 1, 3) := by decide +kernel
theorem dX0_fillWays_39 : decode cX0_fillWays 39 = .ok (.goto (-37), 3) := by decide +kernel
theorem dX0_fillWays_42 : decode cX0_fillWays 42 = .ok (.iconst 3, 1) := by decide +kernel
theorem dX0_fillWays_43 : decode cX0_fillWays 43 = .ok (.istore_n 1, 1) := by decide +kernel
theorem dX0_fillWays_44 : decode cX0_fillWays 44 = .ok (.iload_n 1, 1) := by decide +kernel
theorem dX0_fillWays_45 : decode cX0_fillWays 45 = .ok (.ifCond .lt 37, 3) := by decide +kernel
theorem dX0_fillWays_48 : decode cX0_fillWays 48 = .ok (.iconst 0, 1) := by decide +kernel
theorem dX0_fillWays_49 : decode cX0_fillWays 49 = .ok (.istore_n 2, 1) := by decide +kernel
theorem dX0_fillWays_50 : decode cX0_fillWays 50 = .ok (.iload_n 2, 1) := by decide +kernel
theorem dX0_fillWays_51 : decode cX0_fillWays 51 = .ok (.bipush 16, 2) := by decide +kernel
theorem dX0_fillWays_53 : decode cX0_fillWays 53 = .ok (.if_icmp .ge 23, 3) := by decide +kernel
theorem dX0_fillWays_56 : decode cX0_fillWays 56 = .ok (.aload_n 0, 1) := by decide +kernel
theorem dX0_fillWays_57 : decode cX0_fillWays 57 = .ok (.getfield 31, 3) := by decide +kernel
theorem dX0_fillWays_60 : decode cX0_fillWays 60 = .ok (.iload_n 1, 1) := by decide +kernel
theorem dX0_fillWays_61 : decode cX0_fillWays 61 = .ok (.aaload, 1) := by decide +kernel
theorem dX0_fillWays_62 : decode cX0_fillWays 62 = .ok (.iload_n 2, 1) := by decide +kernel
theorem dX0_fillWays_63 : decode cX0_fillWays 63 = .ok (.aload_n 0, 1) := by decide +kernel
theorem dX0_fillWays_64 : decode cX0_fillWays 64 = .ok (.iload_n 1, 1) := by decide +kernel
theorem dX0_fillWays_65 : decode cX0_fillWays 65 = .ok (.iload_n 2, 1) := by decide +kernel
theorem dX0_fillWays_66 : decode cX0_fillWays 66 = .ok (.invokevirtual 81, 3) := by decide +kernel
theorem dX0_fillWays_69 : decode cX0_fillWays 69 = .ok (.lastore, 1) := by decide +kernel
theorem dX0_fillWays_70 : decode cX0_fillWays 70 = .ok (.iinc 2 1, 3) := by decide +kernel
theorem dX0_fillWays_73 : decode cX0_fillWays 73 = .ok (.goto (-23), 3) := by decide +kernel
theorem dX0_fillWays_76 : decode cX0_fillWays 76 = .ok (.iinc 1 (-1), 3) := by decide +kernel
theorem dX0_fillWays_79 : decode cX0_fillWays 79 = .ok (.goto (-35), 3) := by decide +kernel
theorem dX0_fillWays_82 : decode cX0_fillWays 82 = .ok (.return_, 1) := by decide +kernel
theorem dX0_waysFrom_0 : decode cX0_waysFrom 0 = .ok (.lconst 0, 1) := by decide +kernel
theorem dX0_waysFrom_1 : decode cX0_waysFrom 1 = .ok (.lstore_n 3, 1) := by decide +kernel
theorem dX0_waysFrom_2 : decode cX0_waysFrom 2 = .ok (.iconst 0, 1) := by decide +kernel
theorem dX0_waysFrom_3 : decode cX0_waysFrom 3 = .ok (.istore 5, 2) := by decide +kernel
theorem dX0_waysFrom_5 : decode cX0_waysFrom 5 = .ok (.iload 5, 2) := by decide +kernel
theorem dX0_waysFrom_7 : decode cX0_waysFrom 7 = .ok (.bipush 16, 2) := by decide +kernel
theorem dX0_waysFrom_9 : decode cX0_waysFrom 9 = .ok (.if_icmp .ge 35, 3) := by decide +kernel
theorem dX0_waysFrom_12 : decode cX0_waysFrom 12 = .ok (.lload_n 3, 1) := by decide +kernel
theorem dX0_waysFrom_13 : decode cX0_waysFrom 13 = .ok (.aload_n 0, 1) := by decide +kernel
theorem dX0_waysFrom_14 : decode cX0_waysFrom 14 = .ok (.getfield 25, 3) := by decide +kernel
theorem dX0_waysFrom_17 : decode cX0_waysFrom 17 = .ok (.iload_n 1, 1) := by decide +kernel
theorem dX0_waysFrom_18 : decode cX0_waysFrom 18 = .ok (.aaload, 1) := by decide +kernel
theorem dX0_waysFrom_19 : decode cX0_waysFrom 19 = .ok (.iload 5, 2) := by decide +kernel
theorem dX0_waysFrom_21 : decode cX0_waysFrom 21 = .ok (.laload, 1) := by decide +kernel
theorem dX0_waysFrom_22 : decode cX0_waysFrom 22 = .ok (.aload_n 0, 1) := by decide +kernel
theorem dX0_waysFrom_23 : decode cX0_waysFrom 23 = .ok (.getfield 31, 3) := by decide +kernel
theorem dX0_waysFrom_26 : decode cX0_waysFrom 26 = .ok (.iload_n 1, 1) := by decide +kernel
theorem dX0_waysFrom_27 : decode cX0_waysFrom 27 = .ok (.iconst 1, 1) := by decide +kernel
theorem dX0_waysFrom_28 : decode cX0_waysFrom 28 = .ok (.iadd, 1) := by decide +kernel
theorem dX0_waysFrom_29 : decode cX0_waysFrom 29 = .ok (.aaload, 1) := by decide +kernel
theorem dX0_waysFrom_30 : decode cX0_waysFrom 30 = .ok (.iload_n 2, 1) := by decide +kernel
theorem dX0_waysFrom_31 : decode cX0_waysFrom 31 = .ok (.iload 5, 2) := by decide +kernel
theorem dX0_waysFrom_33 : decode cX0_waysFrom 33 = .ok (.ior, 1) := by decide +kernel
theorem dX0_waysFrom_34 : decode cX0_waysFrom 34 = .ok (.laload, 1) := by decide +kernel
theorem dX0_waysFrom_35 : decode cX0_waysFrom 35 = .ok (.lmul, 1) := by decide +kernel
theorem dX0_waysFrom_36 : decode cX0_waysFrom 36 = .ok (.ladd, 1) := by decide +kernel
theorem dX0_waysFrom_37 : decode cX0_waysFrom 37 = .ok (.lstore_n 3, 1) := by decide +kernel
theorem dX0_waysFrom_38 : decode cX0_waysFrom 38 = .ok (.iinc 5 1, 3) := by decide +kernel
theorem dX0_waysFrom_41 : decode cX0_waysFrom 41 = .ok (.goto (-36), 3) := by decide +kernel
theorem dX0_waysFrom_44 : decode cX0_waysFrom 44 = .ok (.lload_n 3, 1) := by decide +kernel
theorem dX0_waysFrom_45 : decode cX0_waysFrom 45 = .ok (.lreturn, 1) := by decide +kernel
theorem dX0_bySetsWith_0 : decode cX0_bySetsWith 0 = .ok (.lconst 0, 1) := by decide +kernel
theorem dX0_bySetsWith_1 : decode cX0_bySetsWith 1 = .ok (.lstore_n 3, 1) := by decide +kernel
theorem dX0_bySetsWith_2 : decode cX0_bySetsWith 2 = .ok (.iconst 0, 1) := by decide +kernel
theorem dX0_bySetsWith_3 : decode cX0_bySetsWith 3 = .ok (.istore 5, 2) := by decide +kernel
theorem dX0_bySetsWith_5 : decode cX0_bySetsWith 5 = .ok (.iload 5, 2) := by decide +kernel
theorem dX0_bySetsWith_7 : decode cX0_bySetsWith 7 = .ok (.bipush 16, 2) := by decide +kernel
theorem dX0_bySetsWith_9 : decode cX0_bySetsWith 9 = .ok (.if_icmp .ge 124, 3) := by decide +kernel
theorem dX0_bySetsWith_12 : decode cX0_bySetsWith 12 = .ok (.aload_n 0, 1) := by decide +kernel
theorem dX0_bySetsWith_13 : decode cX0_bySetsWith 13 = .ok (.getfield 45, 3) := by decide +kernel
theorem dX0_bySetsWith_16 : decode cX0_bySetsWith 16 = .ok (.ifCond .eq 16, 3) := by decide +kernel
theorem dX0_bySetsWith_19 : decode cX0_bySetsWith 19 = .ok (.iload 5, 2) := by decide +kernel
theorem dX0_bySetsWith_21 : decode cX0_bySetsWith 21 = .ok (.ifCond .ne 7, 3) := by decide +kernel
theorem dX0_bySetsWith_24 : decode cX0_bySetsWith 24 = .ok (.iconst 1, 1) := by decide +kernel
theorem dX0_bySetsWith_25 : decode cX0_bySetsWith 25 = .ok (.goto 24, 3) := by decide +kernel
theorem dX0_bySetsWith_28 : decode cX0_bySetsWith 28 = .ok (.iconst 0, 1) := by decide +kernel
theorem dX0_bySetsWith_29 : decode cX0_bySetsWith 29 = .ok (.goto 20, 3) := by decide +kernel
theorem dX0_bySetsWith_32 : decode cX0_bySetsWith 32 = .ok (.iload 5, 2) := by decide +kernel
theorem dX0_bySetsWith_34 : decode cX0_bySetsWith 34 = .ok (.aload_n 0, 1) := by decide +kernel
theorem dX0_bySetsWith_35 : decode cX0_bySetsWith 35 = .ok (.getfield 41, 3) := by decide +kernel
theorem dX0_bySetsWith_38 : decode cX0_bySetsWith 38 = .ok (.iand, 1) := by decide +kernel
theorem dX0_bySetsWith_39 : decode cX0_bySetsWith 39 = .ok (.iload 5, 2) := by decide +kernel
theorem dX0_bySetsWith_41 : decode cX0_bySetsWith 41 = .ok (.if_icmp .ne 7, 3) := by decide +kernel
theorem dX0_bySetsWith_44 : decode cX0_bySetsWith 44 = .ok (.iconst 1, 1) := by decide +kernel
theorem dX0_bySetsWith_45 : decode cX0_bySetsWith 45 = .ok (.goto 4, 3) := by decide +kernel
theorem dX0_bySetsWith_48 : decode cX0_bySetsWith 48 = .ok (.iconst 0, 1) := by decide +kernel
theorem dX0_bySetsWith_49 : decode cX0_bySetsWith 49 = .ok (.istore 6, 2) := by decide +kernel
theorem dX0_bySetsWith_51 : decode cX0_bySetsWith 51 = .ok (.iload 6, 2) := by decide +kernel
theorem dX0_bySetsWith_53 : decode cX0_bySetsWith 53 = .ok (.ifCond .eq 74, 3) := by decide +kernel
theorem dX0_bySetsWith_56 : decode cX0_bySetsWith 56 = .ok (.lconst 1, 1) := by decide +kernel
theorem dX0_bySetsWith_57 : decode cX0_bySetsWith 57 = .ok (.lstore 7, 2) := by decide +kernel
theorem dX0_bySetsWith_59 : decode cX0_bySetsWith 59 = .ok (.iconst 0, 1) := by decide +kernel
theorem dX0_bySetsWith_60 : decode cX0_bySetsWith 60 = .ok (.istore 9, 2) := by decide +kernel
theorem dX0_bySetsWith_62 : decode cX0_bySetsWith 62 = .ok (.iload 9, 2) := by decide +kernel
theorem dX0_bySetsWith_64 : decode cX0_bySetsWith 64 = .ok (.iconst 4, 1) := by decide +kernel
theorem dX0_bySetsWith_65 : decode cX0_bySetsWith 65 = .ok (.if_icmp .ge 41, 3) := by decide +kernel
theorem dX0_bySetsWith_68 : decode cX0_bySetsWith 68 = .ok (.lload 7, 2) := by decide +kernel
theorem dX0_bySetsWith_70 : decode cX0_bySetsWith 70 = .ok (.aload_n 0, 1) := by decide +kernel
theorem dX0_bySetsWith_71 : decode cX0_bySetsWith 71 = .ok (.getfield 28, 3) := by decide +kernel
theorem dX0_bySetsWith_74 : decode cX0_bySetsWith 74 = .ok (.iload 9, 2) := by decide +kernel
theorem dX0_bySetsWith_76 : decode cX0_bySetsWith 76 = .ok (.iload_n 1, 1) := by decide +kernel
theorem dX0_bySetsWith_77 : decode cX0_bySetsWith 77 = .ok (.if_icmp .ne 7, 3) := by decide +kernel
theorem dX0_bySetsWith_80 : decode cX0_bySetsWith 80 = .ok (.iload_n 2, 1) := by decide +kernel
theorem dX0_bySetsWith_81 : decode cX0_bySetsWith 81 = .ok (.goto 5, 3) := by decide +kernel
theorem dX0_bySetsWith_84 : decode cX0_bySetsWith 84 = .ok (.iload 9, 2) := by decide +kernel
theorem dX0_bySetsWith_86 : decode cX0_bySetsWith 86 = .ok (.aaload, 1) := by decide +kernel
theorem dX0_bySetsWith_87 : decode cX0_bySetsWith 87 = .ok (.aload_n 0, 1) := by decide +kernel
theorem dX0_bySetsWith_88 : decode cX0_bySetsWith 88 = .ok (.getfield 41, 3) := by decide +kernel
theorem dX0_bySetsWith_91 : decode cX0_bySetsWith 91 = .ok (.iload 5, 2) := by decide +kernel
theorem dX0_bySetsWith_93 : decode cX0_bySetsWith 93 = .ok (.iconst (-1), 1) := by decide +kernel
theorem dX0_bySetsWith_94 : decode cX0_bySetsWith 94 = .ok (.ixor, 1) := by decide +kernel
theorem dX0_bySetsWith_95 : decode cX0_bySetsWith 95 = .ok (.iand, 1) := by decide +kernel
theorem dX0_bySetsWith_96 : decode cX0_bySetsWith 96 = .ok (.laload, 1) := by decide +kernel
theorem dX0_bySetsWith_97 : decode cX0_bySetsWith 97 = .ok (.lmul, 1) := by decide +kernel
theorem dX0_bySetsWith_98 : decode cX0_bySetsWith 98 = .ok (.lstore 7, 2) := by decide +kernel
theorem dX0_bySetsWith_100 : decode cX0_bySetsWith 100 = .ok (.iinc 9 1, 3) := by decide +kernel
theorem dX0_bySetsWith_103 : decode cX0_bySetsWith 103 = .ok (.goto (-41), 3) := by decide +kernel
theorem dX0_bySetsWith_106 : decode cX0_bySetsWith 106 = .ok (.lload_n 3, 1) := by decide +kernel
theorem dX0_bySetsWith_107 : decode cX0_bySetsWith 107 = .ok (.iload 5, 2) := by decide +kernel
theorem dX0_bySetsWith_109 : decode cX0_bySetsWith 109 = .ok (.invokestatic 84, 3) := by decide +kernel
theorem dX0_bySetsWith_112 : decode cX0_bySetsWith 112 = .ok (.iconst 2, 1) := by decide +kernel
theorem dX0_bySetsWith_113 : decode cX0_bySetsWith 113 = .ok (.irem, 1) := by decide +kernel
theorem dX0_bySetsWith_114 : decode cX0_bySetsWith 114 = .ok (.ifCond .ne 8, 3) := by decide +kernel
theorem dX0_bySetsWith_117 : decode cX0_bySetsWith 117 = .ok (.lload 7, 2) := by decide +kernel
theorem dX0_bySetsWith_119 : decode cX0_bySetsWith 119 = .ok (.goto 6, 3) := by decide +kernel
theorem dX0_bySetsWith_122 : decode cX0_bySetsWith 122 = .ok (.lload 7, 2) := by decide +kernel
theorem dX0_bySetsWith_124 : decode cX0_bySetsWith 124 = .ok (.lneg, 1) := by decide +kernel
theorem dX0_bySetsWith_125 : decode cX0_bySetsWith 125 = .ok (.ladd, 1) := by decide +kernel
theorem dX0_bySetsWith_126 : decode cX0_bySetsWith 126 = .ok (.lstore_n 3, 1) := by decide +kernel
theorem dX0_bySetsWith_127 : decode cX0_bySetsWith 127 = .ok (.iinc 5 1, 3) := by decide +kernel
theorem dX0_bySetsWith_130 : decode cX0_bySetsWith 130 = .ok (.goto (-125), 3) := by decide +kernel
theorem dX0_bySetsWith_133 : decode cX0_bySetsWith 133 = .ok (.lload_n 3, 1) := by decide +kernel
theorem dX0_bySetsWith_134 : decode cX0_bySetsWith 134 = .ok (.lreturn, 1) := by decide +kernel
theorem dX1_init_0 : decode cX1_init 0 = .ok (.aload_n 0, 1) := by decide +kernel
theorem dX1_init_1 : decode cX1_init 1 = .ok (.invokespecial 3, 3) := by decide +kernel
theorem dX1_init_4 : decode cX1_init 4 = .ok (.aload_n 0, 1) := by decide +kernel
theorem dX1_init_5 : decode cX1_init 5 = .ok (.bipush 6, 2) := by decide +kernel
theorem dX1_init_7 : decode cX1_init 7 = .ok (.bipush 26, 2) := by decide +kernel
theorem dX1_init_9 : decode cX1_init 9 = .ok (.multianewarray 11 2, 4) := by decide +kernel
theorem dX1_init_13 : decode cX1_init 13 = .ok (.putfield 13, 3) := by decide +kernel
theorem dX1_init_16 : decode cX1_init 16 = .ok (.return_, 1) := by decide +kernel
theorem dX1_size_0 : decode cX1_size 0 = .ok (.aload_n 0, 1) := by decide +kernel
theorem dX1_size_1 : decode cX1_size 1 = .ok (.getfield 16, 3) := by decide +kernel
theorem dX1_size_4 : decode cX1_size 4 = .ok (.ireturn, 1) := by decide +kernel
theorem dX1_keep_0 : decode cX1_keep 0 = .ok (.aload_n 1, 1) := by decide +kernel
theorem dX1_keep_1 : decode cX1_keep 1 = .ok (.iconst 0, 1) := by decide +kernel
theorem dX1_keep_2 : decode cX1_keep 2 = .ok (.aload_n 0, 1) := by decide +kernel
theorem dX1_keep_3 : decode cX1_keep 3 = .ok (.getfield 13, 3) := by decide +kernel
theorem dX1_keep_6 : decode cX1_keep 6 = .ok (.aload_n 0, 1) := by decide +kernel
theorem dX1_keep_7 : decode cX1_keep 7 = .ok (.getfield 20, 3) := by decide +kernel
theorem dX1_keep_10 : decode cX1_keep 10 = .ok (.aload_n 0, 1) := by decide +kernel
theorem dX1_keep_11 : decode cX1_keep 11 = .ok (.getfield 16, 3) := by decide +kernel
theorem dX1_keep_14 : decode cX1_keep 14 = .ok (.iadd, 1) := by decide +kernel
theorem dX1_keep_15 : decode cX1_keep 15 = .ok (.bipush 6, 2) := by decide +kernel
theorem dX1_keep_17 : decode cX1_keep 17 = .ok (.irem, 1) := by decide +kernel
theorem dX1_keep_18 : decode cX1_keep 18 = .ok (.aaload, 1) := by decide +kernel
theorem dX1_keep_19 : decode cX1_keep 19 = .ok (.iconst 0, 1) := by decide +kernel
theorem dX1_keep_20 : decode cX1_keep 20 = .ok (.bipush 26, 2) := by decide +kernel
theorem dX1_keep_22 : decode cX1_keep 22 = .ok (.invokestatic 23, 3) := by decide +kernel
theorem dX1_keep_25 : decode cX1_keep 25 = .ok (.aload_n 0, 1) := by decide +kernel
theorem dX1_keep_26 : decode cX1_keep 26 = .ok (.getfield 16, 3) := by decide +kernel
theorem dX1_keep_29 : decode cX1_keep 29 = .ok (.bipush 6, 2) := by decide +kernel
theorem dX1_keep_31 : decode cX1_keep 31 = .ok (.if_icmp .ge 16, 3) := by decide +kernel
theorem dX1_keep_34 : decode cX1_keep 34 = .ok (.aload_n 0, 1) := by decide +kernel
theorem dX1_keep_35 : decode cX1_keep 35 = .ok (.dup, 1) := by decide +kernel
theorem dX1_keep_36 : decode cX1_keep 36 = .ok (.getfield 16, 3) := by decide +kernel
theorem dX1_keep_39 : decode cX1_keep 39 = .ok (.iconst 1, 1) := by decide +kernel
theorem dX1_keep_40 : decode cX1_keep 40 = .ok (.iadd, 1) := by decide +kernel
theorem dX1_keep_41 : decode cX1_keep 41 = .ok (.putfield 16, 3) := by decide +kernel
theorem dX1_keep_44 : decode cX1_keep 44 = .ok (.goto 16, 3) := by decide +kernel
theorem dX1_keep_47 : decode cX1_keep 47 = .ok (.aload_n 0, 1) := by decide +kernel
theorem dX1_keep_48 : decode cX1_keep 48 = .ok (.aload_n 0, 1) := by decide +kernel
theorem dX1_keep_49 : decode cX1_keep 49 = .ok (.getfield 20, 3) := by decide +kernel
theorem dX1_keep_52 : decode cX1_keep 52 = .ok (.iconst 1, 1) := by decide +kernel
theorem dX1_keep_53 : decode cX1_keep 53 = .ok (.iadd, 1) := by decide +kernel
theorem dX1_keep_54 : decode cX1_keep 54 = .ok (.bipush 6, 2) := by decide +kernel
theorem dX1_keep_56 : decode cX1_keep 56 = .ok (.irem, 1) := by decide +kernel
theorem dX1_keep_57 : decode cX1_keep 57 = .ok (.putfield 20, 3) := by decide +kernel
theorem dX1_keep_60 : decode cX1_keep 60 = .ok (.return_, 1) := by decide +kernel
theorem dX1_giveBack_0 : decode cX1_giveBack 0 = .ok (.aload_n 0, 1) := by decide +kernel
theorem dX1_giveBack_1 : decode cX1_giveBack 1 = .ok (.getfield 16, 3) := by decide +kernel
theorem dX1_giveBack_4 : decode cX1_giveBack 4 = .ok (.ifCond .le 38, 3) := by decide +kernel
theorem dX1_giveBack_7 : decode cX1_giveBack 7 = .ok (.aload_n 0, 1) := by decide +kernel
theorem dX1_giveBack_8 : decode cX1_giveBack 8 = .ok (.dup, 1) := by decide +kernel
theorem dX1_giveBack_9 : decode cX1_giveBack 9 = .ok (.getfield 16, 3) := by decide +kernel
theorem dX1_giveBack_12 : decode cX1_giveBack 12 = .ok (.iconst 1, 1) := by decide +kernel
theorem dX1_giveBack_13 : decode cX1_giveBack 13 = .ok (.isub, 1) := by decide +kernel
theorem dX1_giveBack_14 : decode cX1_giveBack 14 = .ok (.putfield 16, 3) := by decide +kernel
theorem dX1_giveBack_17 : decode cX1_giveBack 17 = .ok (.aload_n 0, 1) := by decide +kernel
theorem dX1_giveBack_18 : decode cX1_giveBack 18 = .ok (.getfield 13, 3) := by decide +kernel
theorem dX1_giveBack_21 : decode cX1_giveBack 21 = .ok (.aload_n 0, 1) := by decide +kernel
theorem dX1_giveBack_22 : decode cX1_giveBack 22 = .ok (.getfield 20, 3) := by decide +kernel
theorem dX1_giveBack_25 : decode cX1_giveBack 25 = .ok (.aload_n 0, 1) := by decide +kernel
theorem dX1_giveBack_26 : decode cX1_giveBack 26 = .ok (.getfield 16, 3) := by decide +kernel
theorem dX1_giveBack_29 : decode cX1_giveBack 29 = .ok (.iadd, 1) := by decide +kernel
theorem dX1_giveBack_30 : decode cX1_giveBack 30 = .ok (.bipush 6, 2) := by decide +kernel
theorem dX1_giveBack_32 : decode cX1_giveBack 32 = .ok (.irem, 1) := by decide +kernel
theorem dX1_giveBack_33 : decode cX1_giveBack 33 = .ok (.aaload, 1) := by decide +kernel
theorem dX1_giveBack_34 : decode cX1_giveBack 34 = .ok (.iconst 0, 1) := by decide +kernel
theorem dX1_giveBack_35 : decode cX1_giveBack 35 = .ok (.aload_n 1, 1) := by decide +kernel
theorem dX1_giveBack_36 : decode cX1_giveBack 36 = .ok (.iconst 0, 1) := by decide +kernel
theorem dX1_giveBack_37 : decode cX1_giveBack 37 = .ok (.bipush 26, 2) := by decide +kernel
theorem dX1_giveBack_39 : decode cX1_giveBack 39 = .ok (.invokestatic 23, 3) := by decide +kernel
theorem dX1_giveBack_42 : decode cX1_giveBack 42 = .ok (.return_, 1) := by decide +kernel
theorem dX2_init_0 : decode cX2_init 0 = .ok (.aload_n 0, 1) := by decide +kernel
theorem dX2_init_1 : decode cX2_init 1 = .ok (.invokespecial 3, 3) := by decide +kernel
theorem dX2_init_4 : decode cX2_init 4 = .ok (.aload_n 0, 1) := by decide +kernel
theorem dX2_init_5 : decode cX2_init 5 = .ok (.iconst 4, 1) := by decide +kernel
theorem dX2_init_6 : decode cX2_init 6 = .ok (.newarray .int, 2) := by decide +kernel
theorem dX2_init_8 : decode cX2_init 8 = .ok (.putfield 9, 3) := by decide +kernel
theorem dX2_init_11 : decode cX2_init 11 = .ok (.aload_n 0, 1) := by decide +kernel
theorem dX2_init_12 : decode cX2_init 12 = .ok (.iconst 4, 1) := by decide +kernel
theorem dX2_init_13 : decode cX2_init 13 = .ok (.newarray .int, 2) := by decide +kernel
theorem dX2_init_15 : decode cX2_init 15 = .ok (.putfield 15, 3) := by decide +kernel
theorem dX2_init_18 : decode cX2_init 18 = .ok (.aload_n 0, 1) := by decide +kernel
theorem dX2_init_19 : decode cX2_init 19 = .ok (.bipush 120, 2) := by decide +kernel
theorem dX2_init_21 : decode cX2_init 21 = .ok (.newarray .int, 2) := by decide +kernel
theorem dX2_init_23 : decode cX2_init 23 = .ok (.putfield 18, 3) := by decide +kernel
theorem dX2_init_26 : decode cX2_init 26 = .ok (.aload_n 0, 1) := by decide +kernel
theorem dX2_init_27 : decode cX2_init 27 = .ok (.sipush 2401, 3) := by decide +kernel
theorem dX2_init_30 : decode cX2_init 30 = .ok (.newarray .int, 2) := by decide +kernel
theorem dX2_init_32 : decode cX2_init 32 = .ok (.putfield 21, 3) := by decide +kernel
theorem dX2_init_35 : decode cX2_init 35 = .ok (.return_, 1) := by decide +kernel
theorem dX2_forget_0 : decode cX2_forget 0 = .ok (.aload_n 0, 1) := by decide +kernel
theorem dX2_forget_1 : decode cX2_forget 1 = .ok (.iconst 0, 1) := by decide +kernel
theorem dX2_forget_2 : decode cX2_forget 2 = .ok (.putfield 24, 3) := by decide +kernel
theorem dX2_forget_5 : decode cX2_forget 5 = .ok (.return_, 1) := by decide +kernel
theorem dX2_prepare_0 : decode cX2_prepare 0 = .ok (.aload_n 0, 1) := by decide +kernel
theorem dX2_prepare_1 : decode cX2_prepare 1 = .ok (.getfield 24, 3) := by decide +kernel
theorem dX2_prepare_4 : decode cX2_prepare 4 = .ok (.ifCond .eq 4, 3) := by decide +kernel
theorem dX2_prepare_7 : decode cX2_prepare 7 = .ok (.return_, 1) := by decide +kernel
theorem dX2_prepare_8 : decode cX2_prepare 8 = .ok (.iconst 0, 1) := by decide +kernel
theorem dX2_prepare_9 : decode cX2_prepare 9 = .ok (.istore_n 2, 1) := by decide +kernel
theorem dX2_prepare_10 : decode cX2_prepare 10 = .ok (.iload_n 2, 1) := by decide +kernel
theorem dX2_prepare_11 : decode cX2_prepare 11 = .ok (.iconst 4, 1) := by decide +kernel
theorem dX2_prepare_12 : decode cX2_prepare 12 = .ok (.if_icmp .ge 31, 3) := by decide +kernel
theorem dX2_prepare_15 : decode cX2_prepare 15 = .ok (.iconst 4, 1) := by decide +kernel
theorem dX2_prepare_16 : decode cX2_prepare 16 = .ok (.iload_n 2, 1) := by decide +kernel
theorem dX2_prepare_17 : decode cX2_prepare 17 = .ok (.iadd, 1) := by decide +kernel
theorem dX2_prepare_18 : decode cX2_prepare 18 = .ok (.istore_n 3, 1) := by decide +kernel
theorem dX2_prepare_19 : decode cX2_prepare 19 = .ok (.aload_n 0, 1) := by decide +kernel
theorem dX2_prepare_20 : decode cX2_prepare 20 = .ok (.getfield 9, 3) := by decide +kernel
theorem dX2_prepare_23 : decode cX2_prepare 23 = .ok (.iload_n 2, 1) := by decide +kernel
theorem dX2_prepare_24 : decode cX2_prepare 24 = .ok (.aload_n 1, 1) := by decide +kernel
theorem dX2_prepare_25 : decode cX2_prepare 25 = .ok (.iconst 0, 1) := by decide +kernel
theorem dX2_prepare_26 : decode cX2_prepare 26 = .ok (.iload_n 3, 1) := by decide +kernel
theorem dX2_prepare_27 : decode cX2_prepare 27 = .ok (.iadd, 1) := by decide +kernel
theorem dX2_prepare_28 : decode cX2_prepare 28 = .ok (.iaload, 1) := by decide +kernel
theorem dX2_prepare_29 : decode cX2_prepare 29 = .ok (.aload_n 1, 1) := by decide +kernel
theorem dX2_prepare_30 : decode cX2_prepare 30 = .ok (.bipush 8, 2) := by decide +kernel
theorem dX2_prepare_32 : decode cX2_prepare 32 = .ok (.iload_n 3, 1) := by decide +kernel
theorem dX2_prepare_33 : decode cX2_prepare 33 = .ok (.iadd, 1) := by decide +kernel
theorem dX2_prepare_34 : decode cX2_prepare 34 = .ok (.iaload, 1) := by decide +kernel
theorem dX2_prepare_35 : decode cX2_prepare 35 = .ok (.isub, 1) := by decide +kernel
theorem dX2_prepare_36 : decode cX2_prepare 36 = .ok (.iastore, 1) := by decide +kernel
theorem dX2_prepare_37 : decode cX2_prepare 37 = .ok (.iinc 2 1, 3) := by decide +kernel
theorem dX2_prepare_40 : decode cX2_prepare 40 = .ok (.goto (-30), 3) := by decide +kernel
theorem dX2_prepare_43 : decode cX2_prepare 43 = .ok (.aload_n 0, 1) := by decide +kernel
theorem dX2_prepare_44 : decode cX2_prepare 44 = .ok (.iconst 0, 1) := by decide +kernel
theorem dX2_prepare_45 : decode cX2_prepare 45 = .ok (.putfield 28, 3) := by decide +kernel
theorem dX2_prepare_48 : decode cX2_prepare 48 = .ok (.iconst 0, 1) := by decide +kernel
theorem dX2_prepare_49 : decode cX2_prepare 49 = .ok (.istore_n 2, 1) := by decide +kernel
theorem dX2_prepare_50 : decode cX2_prepare 50 = .ok (.iload_n 2, 1) := by decide +kernel
theorem dX2_prepare_51 : decode cX2_prepare 51 = .ok (.iconst 5, 1) := by decide +kernel
theorem dX2_prepare_52 : decode cX2_prepare 52 = .ok (.if_icmp .gt 62, 3) := by decide +kernel
theorem dX2_prepare_55 : decode cX2_prepare 55 = .ok (.iconst 0, 1) := by decide +kernel
theorem dX2_prepare_56 : decode cX2_prepare 56 = .ok (.istore_n 3, 1) := by decide +kernel
theorem dX2_prepare_57 : decode cX2_prepare 57 = .ok (.iload_n 3, 1) := by decide +kernel
theorem dX2_prepare_58 : decode cX2_prepare 58 = .ok (.iconst 5, 1) := by decide +kernel
theorem dX2_prepare_59 : decode cX2_prepare 59 = .ok (.if_icmp .gt 49, 3) := by decide +kernel
theorem dX2_prepare_62 : decode cX2_prepare 62 = .ok (.iconst 0, 1) := by decide +kernel
theorem dX2_prepare_63 : decode cX2_prepare 63 = .ok (.istore 4, 2) := by decide +kernel
theorem dX2_prepare_65 : decode cX2_prepare 65 = .ok (.iload 4, 2) := by decide +kernel
theorem dX2_prepare_67 : decode cX2_prepare 67 = .ok (.iconst 5, 1) := by decide +kernel
theorem dX2_prepare_68 : decode cX2_prepare 68 = .ok (.if_icmp .gt 34, 3) := by decide +kernel
theorem dX2_prepare_71 : decode cX2_prepare 71 = .ok (.iconst 0, 1) := by decide +kernel
theorem dX2_prepare_72 : decode cX2_prepare 72 = .ok (.istore 5, 2) := by decide +kernel
theorem dX2_prepare_74 : decode cX2_prepare 74 = .ok (.iload 5, 2) := by decide +kernel
theorem dX2_prepare_76 : decode cX2_prepare 76 = .ok (.iconst 5, 1) := by decide +kernel
theorem dX2_prepare_77 : decode cX2_prepare 77 = .ok (.if_icmp .gt 19, 3) := by decide +kernel
theorem dX2_prepare_80 : decode cX2_prepare 80 = .ok (.aload_n 0, 1) := by decide +kernel
theorem dX2_prepare_81 : decode cX2_prepare 81 = .ok (.iload_n 2, 1) := by decide +kernel
theorem dX2_prepare_82 : decode cX2_prepare 82 = .ok (.iload_n 3, 1) := by decide +kernel
theorem dX2_prepare_83 : decode cX2_prepare 83 = .ok (.iload 4, 2) := by decide +kernel
theorem dX2_prepare_85 : decode cX2_prepare 85 = .ok (.iload 5, 2) := by decide +kernel
theorem dX2_prepare_87 : decode cX2_prepare 87 = .ok (.invokevirtual 32, 3) := by decide +kernel
theorem dX2_prepare_90 : decode cX2_prepare 90 = .ok (.iinc 5 1, 3) := by decide +kernel
theorem dX2_prepare_93 : decode cX2_prepare 93 = .ok (.goto (-19), 3) := by decide +kernel
theorem dX2_prepare_96 : decode cX2_prepare 96 = .ok (.iinc 4 1, 3) := by decide +kernel
theorem dX2_prepare_99 : decode cX2_prepare 99 = .ok (.goto (-34), 3) := by decide +kernel
theorem dX2_prepare_102 : decode cX2_prepare 102 = .ok (.iinc 3 1, 3) := by decide +kernel
theorem dX2_prepare_105 : decode cX2_prepare 105 = .ok (.goto (-48), 3) := by decide +kernel
theorem dX2_prepare_108 : decode cX2_prepare 108 = .ok (.iinc 2 1, 3) := by decide +kernel
theorem dX2_prepare_111 : decode cX2_prepare 111 = .ok (.goto (-61), 3) := by decide +kernel
theorem dX2_prepare_114 : decode cX2_prepare 114 = .ok (.aload_n 0, 1) := by decide +kernel
theorem dX2_prepare_115 : decode cX2_prepare 115 = .ok (.iconst 1, 1) := by decide +kernel
theorem dX2_prepare_116 : decode cX2_prepare 116 = .ok (.putfield 24, 3) := by decide +kernel
theorem dX2_prepare_119 : decode cX2_prepare 119 = .ok (.return_, 1) := by decide +kernel
theorem dX2_size_0 : decode cX2_size 0 = .ok (.aload_n 0, 1) := by decide +kernel
theorem dX2_size_1 : decode cX2_size 1 = .ok (.getfield 28, 3) := by decide +kernel
theorem dX2_size_4 : decode cX2_size 4 = .ok (.ireturn, 1) := by decide +kernel
theorem dX2_number_0 : decode cX2_number 0 = .ok (.iload_n 1, 1) := by decide +kernel
theorem dX2_number_1 : decode cX2_number 1 = .ok (.ifCond .lt 24, 3) := by decide +kernel
theorem dX2_number_4 : decode cX2_number 4 = .ok (.iload_n 1, 1) := by decide +kernel
theorem dX2_number_5 : decode cX2_number 5 = .ok (.aload_n 0, 1) := by decide +kernel
theorem dX2_number_6 : decode cX2_number 6 = .ok (.getfield 28, 3) := by decide +kernel
theorem dX2_number_9 : decode cX2_number 9 = .ok (.if_icmp .ge 16, 3) := by decide +kernel
theorem dX2_number_12 : decode cX2_number 12 = .ok (.aload_n 0, 1) := by decide +kernel
theorem dX2_number_13 : decode cX2_number 13 = .ok (.getfield 18, 3) := by decide +kernel
theorem dX2_number_16 : decode cX2_number 16 = .ok (.iload_n 1, 1) := by decide +kernel
theorem dX2_number_17 : decode cX2_number 17 = .ok (.iconst 4, 1) := by decide +kernel
theorem dX2_number_18 : decode cX2_number 18 = .ok (.imul, 1) := by decide +kernel
theorem dX2_number_19 : decode cX2_number 19 = .ok (.iload_n 2, 1) := by decide +kernel
theorem dX2_number_20 : decode cX2_number 20 = .ok (.iadd, 1) := by decide +kernel
theorem dX2_number_21 : decode cX2_number 21 = .ok (.iaload, 1) := by decide +kernel
theorem dX2_number_22 : decode cX2_number 22 = .ok (.goto 4, 3) := by decide +kernel
theorem dX2_number_25 : decode cX2_number 25 = .ok (.iconst (-1), 1) := by decide +kernel
theorem dX2_number_26 : decode cX2_number 26 = .ok (.ireturn, 1) := by decide +kernel
theorem dX2_greatestSum_0 : decode cX2_greatestSum 0 = .ok (.iconst 0, 1) := by decide +kernel
theorem dX2_greatestSum_1 : decode cX2_greatestSum 1 = .ok (.istore_n 1, 1) := by decide +kernel
theorem dX2_greatestSum_2 : decode cX2_greatestSum 2 = .ok (.iconst 0, 1) := by decide +kernel
theorem dX2_greatestSum_3 : decode cX2_greatestSum 3 = .ok (.istore_n 2, 1) := by decide +kernel
theorem dX2_greatestSum_4 : decode cX2_greatestSum 4 = .ok (.iload_n 2, 1) := by decide +kernel
theorem dX2_greatestSum_5 : decode cX2_greatestSum 5 = .ok (.aload_n 0, 1) := by decide +kernel
theorem dX2_greatestSum_6 : decode cX2_greatestSum 6 = .ok (.getfield 28, 3) := by decide +kernel
theorem dX2_greatestSum_9 : decode cX2_greatestSum 9 = .ok (.if_icmp .ge 43, 3) := by decide +kernel
theorem dX2_greatestSum_12 : decode cX2_greatestSum 12 = .ok (.aload_n 0, 1) := by decide +kernel
theorem dX2_greatestSum_13 : decode cX2_greatestSum 13 = .ok (.iload_n 2, 1) := by decide +kernel
theorem dX2_greatestSum_14 : decode cX2_greatestSum 14 = .ok (.iconst 0, 1) := by decide +kernel
theorem dX2_greatestSum_15 : decode cX2_greatestSum 15 = .ok (.invokevirtual 36, 3) := by decide +kernel
theorem dX2_greatestSum_18 : decode cX2_greatestSum 18 = .ok (.aload_n 0, 1) := by decide +kernel
theorem dX2_greatestSum_19 : decode cX2_greatestSum 19 = .ok (.iload_n 2, 1) := by decide +kernel
theorem dX2_greatestSum_20 : decode cX2_greatestSum 20 = .ok (.iconst 1, 1) := by decide +kernel
theorem dX2_greatestSum_21 : decode cX2_greatestSum 21 = .ok (.invokevirtual 36, 3) := by decide +kernel
theorem dX2_greatestSum_24 : decode cX2_greatestSum 24 = .ok (.iadd, 1) := by decide +kernel
theorem dX2_greatestSum_25 : decode cX2_greatestSum 25 = .ok (.aload_n 0, 1) := by decide +kernel
theorem dX2_greatestSum_26 : decode cX2_greatestSum 26 = .ok (.iload_n 2, 1) := by decide +kernel
theorem dX2_greatestSum_27 : decode cX2_greatestSum 27 = .ok (.iconst 2, 1) := by decide +kernel
theorem dX2_greatestSum_28 : decode cX2_greatestSum 28 = .ok (.invokevirtual 36, 3) := by decide +kernel
theorem dX2_greatestSum_31 : decode cX2_greatestSum 31 = .ok (.iadd, 1) := by decide +kernel
theorem dX2_greatestSum_32 : decode cX2_greatestSum 32 = .ok (.aload_n 0, 1) := by decide +kernel
theorem dX2_greatestSum_33 : decode cX2_greatestSum 33 = .ok (.iload_n 2, 1) := by decide +kernel
theorem dX2_greatestSum_34 : decode cX2_greatestSum 34 = .ok (.iconst 3, 1) := by decide +kernel
theorem dX2_greatestSum_35 : decode cX2_greatestSum 35 = .ok (.invokevirtual 36, 3) := by decide +kernel
theorem dX2_greatestSum_38 : decode cX2_greatestSum 38 = .ok (.iadd, 1) := by decide +kernel
theorem dX2_greatestSum_39 : decode cX2_greatestSum 39 = .ok (.istore_n 3, 1) := by decide +kernel
theorem dX2_greatestSum_40 : decode cX2_greatestSum 40 = .ok (.iload_n 1, 1) := by decide +kernel
theorem dX2_greatestSum_41 : decode cX2_greatestSum 41 = .ok (.iload_n 3, 1) := by decide +kernel
theorem dX2_greatestSum_42 : decode cX2_greatestSum 42 = .ok (.invokestatic 40, 3) := by decide +kernel
theorem dX2_greatestSum_45 : decode cX2_greatestSum 45 = .ok (.istore_n 1, 1) := by decide +kernel
theorem dX2_greatestSum_46 : decode cX2_greatestSum 46 = .ok (.iinc 2 1, 3) := by decide +kernel
theorem dX2_greatestSum_49 : decode cX2_greatestSum 49 = .ok (.goto (-45), 3) := by decide +kernel
theorem dX2_greatestSum_52 : decode cX2_greatestSum 52 = .ok (.iload_n 1, 1) := by decide +kernel
theorem dX2_greatestSum_53 : decode cX2_greatestSum 53 = .ok (.ireturn, 1) := by decide +kernel
theorem dX2_waysToSum_0 : decode cX2_waysToSum 0 = .ok (.aload_n 0, 1) := by decide +kernel
theorem dX2_waysToSum_1 : decode cX2_waysToSum 1 = .ok (.iload_n 1, 1) := by decide +kernel
theorem dX2_waysToSum_2 : decode cX2_waysToSum 2 = .ok (.iload_n 2, 1) := by decide +kernel
theorem dX2_waysToSum_3 : decode cX2_waysToSum 3 = .ok (.iload_n 3, 1) := by decide +kernel
theorem dX2_waysToSum_4 : decode cX2_waysToSum 4 = .ok (.iload 4, 2) := by decide +kernel
theorem dX2_waysToSum_6 : decode cX2_waysToSum 6 = .ok (.invokevirtual 45, 3) := by decide +kernel
theorem dX2_waysToSum_9 : decode cX2_waysToSum 9 = .ok (.ifCond .ne 5, 3) := by decide +kernel
theorem dX2_waysToSum_12 : decode cX2_waysToSum 12 = .ok (.iconst 0, 1) := by decide +kernel
theorem dX2_waysToSum_13 : decode cX2_waysToSum 13 = .ok (.ireturn, 1) := by decide +kernel
theorem dX2_waysToSum_14 : decode cX2_waysToSum 14 = .ok (.aload_n 0, 1) := by decide +kernel
theorem dX2_waysToSum_15 : decode cX2_waysToSum 15 = .ok (.iload_n 1, 1) := by decide +kernel
theorem dX2_waysToSum_16 : decode cX2_waysToSum 16 = .ok (.iload_n 2, 1) := by decide +kernel
theorem dX2_waysToSum_17 : decode cX2_waysToSum 17 = .ok (.iload_n 3, 1) := by decide +kernel
theorem dX2_waysToSum_18 : decode cX2_waysToSum 18 = .ok (.iload 4, 2) := by decide +kernel
theorem dX2_waysToSum_20 : decode cX2_waysToSum 20 = .ok (.invokevirtual 49, 3) := by decide +kernel
theorem dX2_waysToSum_23 : decode cX2_waysToSum 23 = .ok (.iload_n 1, 1) := by decide +kernel
theorem dX2_waysToSum_24 : decode cX2_waysToSum 24 = .ok (.iconst 1, 1) := by decide +kernel
theorem dX2_waysToSum_25 : decode cX2_waysToSum 25 = .ok (.iadd, 1) := by decide +kernel
theorem dX2_waysToSum_26 : decode cX2_waysToSum 26 = .ok (.iload_n 2, 1) := by decide +kernel
theorem dX2_waysToSum_27 : decode cX2_waysToSum 27 = .ok (.iconst 1, 1) := by decide +kernel
theorem dX2_waysToSum_28 : decode cX2_waysToSum 28 = .ok (.iadd, 1) := by decide +kernel
theorem dX2_waysToSum_29 : decode cX2_waysToSum 29 = .ok (.imul, 1) := by decide +kernel
theorem dX2_waysToSum_30 : decode cX2_waysToSum 30 = .ok (.iload_n 3, 1) := by decide +kernel
theorem dX2_waysToSum_31 : decode cX2_waysToSum 31 = .ok (.iconst 1, 1) := by decide +kernel
theorem dX2_waysToSum_32 : decode cX2_waysToSum 32 = .ok (.iadd, 1) := by decide +kernel
theorem dX2_waysToSum_33 : decode cX2_waysToSum 33 = .ok (.imul, 1) := by decide +kernel
theorem dX2_waysToSum_34 : decode cX2_waysToSum 34 = .ok (.iload 4, 2) := by decide +kernel
theorem dX2_waysToSum_36 : decode cX2_waysToSum 36 = .ok (.iconst 1, 1) := by decide +kernel
theorem dX2_waysToSum_37 : decode cX2_waysToSum 37 = .ok (.iadd, 1) := by decide +kernel
theorem dX2_waysToSum_38 : decode cX2_waysToSum 38 = .ok (.imul, 1) := by decide +kernel
theorem dX2_waysToSum_39 : decode cX2_waysToSum 39 = .ok (.istore 5, 2) := by decide +kernel
theorem dX2_waysToSum_41 : decode cX2_waysToSum 41 = .ok (.iconst 0, 1) := by decide +kernel
theorem dX2_waysToSum_42 : decode cX2_waysToSum 42 = .ok (.istore 6, 2) := by decide +kernel
theorem dX2_waysToSum_44 : decode cX2_waysToSum 44 = .ok (.iload 6, 2) := by decide +kernel
theorem dX2_waysToSum_46 : decode cX2_waysToSum 46 = .ok (.iload 5, 2) := by decide +kernel
theorem dX2_waysToSum_48 : decode cX2_waysToSum 48 = .ok (.if_icmp .ge 34, 3) := by decide +kernel
theorem dX2_waysToSum_51 : decode cX2_waysToSum 51 = .ok (.iload 6, 2) := by decide +kernel
theorem dX2_waysToSum_53 : decode cX2_waysToSum 53 = .ok (.sipush 2401, 3) := by decide +kernel
theorem dX2_waysToSum_56 : decode cX2_waysToSum 56 = .ok (.if_icmp .ge 26, 3) := by decide +kernel
theorem dX2_waysToSum_59 : decode cX2_waysToSum 59 = .ok (.aload_n 0, 1) := by decide +kernel
theorem dX2_waysToSum_60 : decode cX2_waysToSum 60 = .ok (.getfield 21, 3) := by decide +kernel
theorem dX2_waysToSum_63 : decode cX2_waysToSum 63 = .ok (.iload 6, 2) := by decide +kernel
theorem dX2_waysToSum_65 : decode cX2_waysToSum 65 = .ok (.iload 6, 2) := by decide +kernel
theorem dX2_waysToSum_67 : decode cX2_waysToSum 67 = .ok (.ifCond .ne 7, 3) := by decide +kernel
theorem dX2_waysToSum_70 : decode cX2_waysToSum 70 = .ok (.iconst 1, 1) := by decide +kernel
theorem dX2_waysToSum_71 : decode cX2_waysToSum 71 = .ok (.goto 4, 3) := by decide +kernel
theorem dX2_waysToSum_74 : decode cX2_waysToSum 74 = .ok (.iconst 0, 1) := by decide +kernel
theorem dX2_waysToSum_75 : decode cX2_waysToSum 75 = .ok (.iastore, 1) := by decide +kernel
theorem dX2_waysToSum_76 : decode cX2_waysToSum 76 = .ok (.iinc 6 1, 3) := by decide +kernel
theorem dX2_waysToSum_79 : decode cX2_waysToSum 79 = .ok (.goto (-35), 3) := by decide +kernel
theorem dX2_waysToSum_82 : decode cX2_waysToSum 82 = .ok (.iconst 0, 1) := by decide +kernel
theorem dX2_waysToSum_83 : decode cX2_waysToSum 83 = .ok (.istore 6, 2) := by decide +kernel
theorem dX2_waysToSum_85 : decode cX2_waysToSum 85 = .ok (.iload 6, 2) := by decide +kernel
theorem dX2_waysToSum_87 : decode cX2_waysToSum 87 = .ok (.aload_n 0, 1) := by decide +kernel
theorem dX2_waysToSum_88 : decode cX2_waysToSum 88 = .ok (.getfield 28, 3) := by decide +kernel
theorem dX2_waysToSum_91 : decode cX2_waysToSum 91 = .ok (.if_icmp .ge 50, 3) := by decide +kernel
theorem dX2_waysToSum_94 : decode cX2_waysToSum 94 = .ok (.aload_n 0, 1) := by decide +kernel
theorem dX2_waysToSum_95 : decode cX2_waysToSum 95 = .ok (.iload 6, 2) := by decide +kernel
theorem dX2_waysToSum_97 : decode cX2_waysToSum 97 = .ok (.invokevirtual 52, 3) := by decide +kernel
theorem dX2_waysToSum_100 : decode cX2_waysToSum 100 = .ok (.ifCond .eq 35, 3) := by decide +kernel
theorem dX2_waysToSum_103 : decode cX2_waysToSum 103 = .ok (.aload_n 0, 1) := by decide +kernel
theorem dX2_waysToSum_104 : decode cX2_waysToSum 104 = .ok (.aload_n 0, 1) := by decide +kernel
theorem dX2_waysToSum_105 : decode cX2_waysToSum 105 = .ok (.iload 6, 2) := by decide +kernel
theorem dX2_waysToSum_107 : decode cX2_waysToSum 107 = .ok (.iconst 0, 1) := by decide +kernel
theorem dX2_waysToSum_108 : decode cX2_waysToSum 108 = .ok (.invokevirtual 36, 3) := by decide +kernel
theorem dX2_waysToSum_111 : decode cX2_waysToSum 111 = .ok (.aload_n 0, 1) := by decide +kernel
theorem dX2_waysToSum_112 : decode cX2_waysToSum 112 = .ok (.iload 6, 2) := by decide +kernel
theorem dX2_waysToSum_114 : decode cX2_waysToSum 114 = .ok (.iconst 1, 1) := by decide +kernel
theorem dX2_waysToSum_115 : decode cX2_waysToSum 115 = .ok (.invokevirtual 36, 3) := by decide +kernel
theorem dX2_waysToSum_118 : decode cX2_waysToSum 118 = .ok (.aload_n 0, 1) := by decide +kernel
theorem dX2_waysToSum_119 : decode cX2_waysToSum 119 = .ok (.iload 6, 2) := by decide +kernel
theorem dX2_waysToSum_121 : decode cX2_waysToSum 121 = .ok (.iconst 2, 1) := by decide +kernel
theorem dX2_waysToSum_122 : decode cX2_waysToSum 122 = .ok (.invokevirtual 36, 3) := by decide +kernel
theorem dX2_waysToSum_125 : decode cX2_waysToSum 125 = .ok (.aload_n 0, 1) := by decide +kernel
theorem dX2_waysToSum_126 : decode cX2_waysToSum 126 = .ok (.iload 6, 2) := by decide +kernel
theorem dX2_waysToSum_128 : decode cX2_waysToSum 128 = .ok (.iconst 3, 1) := by decide +kernel
theorem dX2_waysToSum_129 : decode cX2_waysToSum 129 = .ok (.invokevirtual 36, 3) := by decide +kernel
theorem dX2_waysToSum_132 : decode cX2_waysToSum 132 = .ok (.invokevirtual 56, 3) := by decide +kernel
theorem dX2_waysToSum_135 : decode cX2_waysToSum 135 = .ok (.iinc 6 1, 3) := by decide +kernel
theorem dX2_waysToSum_138 : decode cX2_waysToSum 138 = .ok (.goto (-53), 3) := by decide +kernel
theorem dX2_waysToSum_141 : decode cX2_waysToSum 141 = .ok (.iload 5, 2) := by decide +kernel
theorem dX2_waysToSum_143 : decode cX2_waysToSum 143 = .ok (.ifCond .le 23, 3) := by decide +kernel
theorem dX2_waysToSum_146 : decode cX2_waysToSum 146 = .ok (.iload 5, 2) := by decide +kernel
theorem dX2_waysToSum_148 : decode cX2_waysToSum 148 = .ok (.sipush 2401, 3) := by decide +kernel
theorem dX2_waysToSum_151 : decode cX2_waysToSum 151 = .ok (.if_icmp .gt 15, 3) := by decide +kernel
theorem dX2_waysToSum_154 : decode cX2_waysToSum 154 = .ok (.aload_n 0, 1) := by decide +kernel
theorem dX2_waysToSum_155 : decode cX2_waysToSum 155 = .ok (.getfield 21, 3) := by decide +kernel
theorem dX2_waysToSum_158 : decode cX2_waysToSum 158 = .ok (.iload 5, 2) := by decide +kernel
theorem dX2_waysToSum_160 : decode cX2_waysToSum 160 = .ok (.iconst 1, 1) := by decide +kernel
theorem dX2_waysToSum_161 : decode cX2_waysToSum 161 = .ok (.isub, 1) := by decide +kernel
theorem dX2_waysToSum_162 : decode cX2_waysToSum 162 = .ok (.iaload, 1) := by decide +kernel
theorem dX2_waysToSum_163 : decode cX2_waysToSum 163 = .ok (.goto 4, 3) := by decide +kernel
theorem dX2_waysToSum_166 : decode cX2_waysToSum 166 = .ok (.iconst 0, 1) := by decide +kernel
theorem dX2_waysToSum_167 : decode cX2_waysToSum 167 = .ok (.ireturn, 1) := by decide +kernel
theorem dX2_setRow_0 : decode cX2_setRow 0 = .ok (.aload_n 0, 1) := by decide +kernel
theorem dX2_setRow_1 : decode cX2_setRow 1 = .ok (.getfield 15, 3) := by decide +kernel
theorem dX2_setRow_4 : decode cX2_setRow 4 = .ok (.iconst 0, 1) := by decide +kernel
theorem dX2_setRow_5 : decode cX2_setRow 5 = .ok (.iload_n 1, 1) := by decide +kernel
theorem dX2_setRow_6 : decode cX2_setRow 6 = .ok (.iastore, 1) := by decide +kernel
theorem dX2_setRow_7 : decode cX2_setRow 7 = .ok (.aload_n 0, 1) := by decide +kernel
theorem dX2_setRow_8 : decode cX2_setRow 8 = .ok (.getfield 15, 3) := by decide +kernel
theorem dX2_setRow_11 : decode cX2_setRow 11 = .ok (.iconst 1, 1) := by decide +kernel
theorem dX2_setRow_12 : decode cX2_setRow 12 = .ok (.iload_n 2, 1) := by decide +kernel
theorem dX2_setRow_13 : decode cX2_setRow 13 = .ok (.iastore, 1) := by decide +kernel
theorem dX2_setRow_14 : decode cX2_setRow 14 = .ok (.aload_n 0, 1) := by decide +kernel
theorem dX2_setRow_15 : decode cX2_setRow 15 = .ok (.getfield 15, 3) := by decide +kernel
theorem dX2_setRow_18 : decode cX2_setRow 18 = .ok (.iconst 2, 1) := by decide +kernel
theorem dX2_setRow_19 : decode cX2_setRow 19 = .ok (.iload_n 3, 1) := by decide +kernel
theorem dX2_setRow_20 : decode cX2_setRow 20 = .ok (.iastore, 1) := by decide +kernel
theorem dX2_setRow_21 : decode cX2_setRow 21 = .ok (.aload_n 0, 1) := by decide +kernel
theorem dX2_setRow_22 : decode cX2_setRow 22 = .ok (.getfield 15, 3) := by decide +kernel
theorem dX2_setRow_25 : decode cX2_setRow 25 = .ok (.iconst 3, 1) := by decide +kernel
theorem dX2_setRow_26 : decode cX2_setRow 26 = .ok (.iload 4, 2) := by decide +kernel
theorem dX2_setRow_28 : decode cX2_setRow 28 = .ok (.iastore, 1) := by decide +kernel
theorem dX2_setRow_29 : decode cX2_setRow 29 = .ok (.return_, 1) := by decide +kernel
theorem dX2_solves_0 : decode cX2_solves 0 = .ok (.aload_n 0, 1) := by decide +kernel
theorem dX2_solves_1 : decode cX2_solves 1 = .ok (.getfield 9, 3) := by decide +kernel
theorem dX2_solves_4 : decode cX2_solves 4 = .ok (.iconst 0, 1) := by decide +kernel
theorem dX2_solves_5 : decode cX2_solves 5 = .ok (.iaload, 1) := by decide +kernel
theorem dX2_solves_6 : decode cX2_solves 6 = .ok (.iload_n 1, 1) := by decide +kernel
theorem dX2_solves_7 : decode cX2_solves 7 = .ok (.imul, 1) := by decide +kernel
theorem dX2_solves_8 : decode cX2_solves 8 = .ok (.aload_n 0, 1) := by decide +kernel
theorem dX2_solves_9 : decode cX2_solves 9 = .ok (.getfield 9, 3) := by decide +kernel
theorem dX2_solves_12 : decode cX2_solves 12 = .ok (.iconst 1, 1) := by decide +kernel
theorem dX2_solves_13 : decode cX2_solves 13 = .ok (.iaload, 1) := by decide +kernel
theorem dX2_solves_14 : decode cX2_solves 14 = .ok (.iload_n 2, 1) := by decide +kernel
theorem dX2_solves_15 : decode cX2_solves 15 = .ok (.imul, 1) := by decide +kernel
theorem dX2_solves_16 : decode cX2_solves 16 = .ok (.iadd, 1) := by decide +kernel
theorem dX2_solves_17 : decode cX2_solves 17 = .ok (.aload_n 0, 1) := by decide +kernel
theorem dX2_solves_18 : decode cX2_solves 18 = .ok (.getfield 9, 3) := by decide +kernel
theorem dX2_solves_21 : decode cX2_solves 21 = .ok (.iconst 2, 1) := by decide +kernel
theorem dX2_solves_22 : decode cX2_solves 22 = .ok (.iaload, 1) := by decide +kernel
theorem dX2_solves_23 : decode cX2_solves 23 = .ok (.iload_n 3, 1) := by decide +kernel
theorem dX2_solves_24 : decode cX2_solves 24 = .ok (.imul, 1) := by decide +kernel
theorem dX2_solves_25 : decode cX2_solves 25 = .ok (.iadd, 1) := by decide +kernel
theorem dX2_solves_26 : decode cX2_solves 26 = .ok (.aload_n 0, 1) := by decide +kernel
theorem dX2_solves_27 : decode cX2_solves 27 = .ok (.getfield 9, 3) := by decide +kernel
theorem dX2_solves_30 : decode cX2_solves 30 = .ok (.iconst 3, 1) := by decide +kernel
theorem dX2_solves_31 : decode cX2_solves 31 = .ok (.iaload, 1) := by decide +kernel
theorem dX2_solves_32 : decode cX2_solves 32 = .ok (.iload 4, 2) := by decide +kernel
theorem dX2_solves_34 : decode cX2_solves 34 = .ok (.imul, 1) := by decide +kernel
theorem dX2_solves_35 : decode cX2_solves 35 = .ok (.iadd, 1) := by decide +kernel
theorem dX2_solves_36 : decode cX2_solves 36 = .ok (.ifCond .ne 7, 3) := by decide +kernel
theorem dX2_solves_39 : decode cX2_solves 39 = .ok (.iconst 1, 1) := by decide +kernel
theorem dX2_solves_40 : decode cX2_solves 40 = .ok (.goto 4, 3) := by decide +kernel
theorem dX2_solves_43 : decode cX2_solves 43 = .ok (.iconst 0, 1) := by decide +kernel
theorem dX2_solves_44 : decode cX2_solves 44 = .ok (.ireturn, 1) := by decide +kernel
theorem dX2_look_0 : decode cX2_look 0 = .ok (.aload_n 0, 1) := by decide +kernel
theorem dX2_look_1 : decode cX2_look 1 = .ok (.iload_n 1, 1) := by decide +kernel
theorem dX2_look_2 : decode cX2_look 2 = .ok (.iload_n 2, 1) := by decide +kernel
theorem dX2_look_3 : decode cX2_look 3 = .ok (.iload_n 3, 1) := by decide +kernel
theorem dX2_look_4 : decode cX2_look 4 = .ok (.iload 4, 2) := by decide +kernel
theorem dX2_look_6 : decode cX2_look 6 = .ok (.invokevirtual 45, 3) := by decide +kernel
theorem dX2_look_9 : decode cX2_look 9 = .ok (.ifCond .eq 14, 3) := by decide +kernel
theorem dX2_look_12 : decode cX2_look 12 = .ok (.iload_n 1, 1) := by decide +kernel
theorem dX2_look_13 : decode cX2_look 13 = .ok (.iload_n 2, 1) := by decide +kernel
theorem dX2_look_14 : decode cX2_look 14 = .ok (.iadd, 1) := by decide +kernel
theorem dX2_look_15 : decode cX2_look 15 = .ok (.iload_n 3, 1) := by decide +kernel
theorem dX2_look_16 : decode cX2_look 16 = .ok (.iadd, 1) := by decide +kernel
theorem dX2_look_17 : decode cX2_look 17 = .ok (.iload 4, 2) := by decide +kernel
theorem dX2_look_19 : decode cX2_look 19 = .ok (.iadd, 1) := by decide +kernel
theorem dX2_look_20 : decode cX2_look 20 = .ok (.ifCond .ne 4, 3) := by decide +kernel
theorem dX2_look_23 : decode cX2_look 23 = .ok (.return_, 1) := by decide +kernel
theorem dX2_look_24 : decode cX2_look 24 = .ok (.aload_n 0, 1) := by decide +kernel
theorem dX2_look_25 : decode cX2_look 25 = .ok (.iload_n 1, 1) := by decide +kernel
theorem dX2_look_26 : decode cX2_look 26 = .ok (.iload_n 2, 1) := by decide +kernel
theorem dX2_look_27 : decode cX2_look 27 = .ok (.iload_n 3, 1) := by decide +kernel
theorem dX2_look_28 : decode cX2_look 28 = .ok (.iload 4, 2) := by decide +kernel
theorem dX2_look_30 : decode cX2_look 30 = .ok (.invokevirtual 49, 3) := by decide +kernel
theorem dX2_look_33 : decode cX2_look 33 = .ok (.iconst 0, 1) := by decide +kernel
theorem dX2_look_34 : decode cX2_look 34 = .ok (.istore 5, 2) := by decide +kernel
theorem dX2_look_36 : decode cX2_look 36 = .ok (.iload 5, 2) := by decide +kernel
theorem dX2_look_38 : decode cX2_look 38 = .ok (.aload_n 0, 1) := by decide +kernel
theorem dX2_look_39 : decode cX2_look 39 = .ok (.getfield 28, 3) := by decide +kernel
theorem dX2_look_42 : decode cX2_look 42 = .ok (.if_icmp .ge 19, 3) := by decide +kernel
theorem dX2_look_45 : decode cX2_look 45 = .ok (.aload_n 0, 1) := by decide +kernel
theorem dX2_look_46 : decode cX2_look 46 = .ok (.iload 5, 2) := by decide +kernel
theorem dX2_look_48 : decode cX2_look 48 = .ok (.invokevirtual 52, 3) := by decide +kernel
theorem dX2_look_51 : decode cX2_look 51 = .ok (.ifCond .eq 4, 3) := by decide +kernel
theorem dX2_look_54 : decode cX2_look 54 = .ok (.return_, 1) := by decide +kernel
theorem dX2_look_55 : decode cX2_look 55 = .ok (.iinc 5 1, 3) := by decide +kernel
theorem dX2_look_58 : decode cX2_look 58 = .ok (.goto (-22), 3) := by decide +kernel
theorem dX2_look_61 : decode cX2_look 61 = .ok (.aload_n 0, 1) := by decide +kernel
theorem dX2_look_62 : decode cX2_look 62 = .ok (.getfield 28, 3) := by decide +kernel
theorem dX2_look_65 : decode cX2_look 65 = .ok (.bipush 30, 2) := by decide +kernel
theorem dX2_look_67 : decode cX2_look 67 = .ok (.if_icmp .ge 32, 3) := by decide +kernel
theorem dX2_look_70 : decode cX2_look 70 = .ok (.aload_n 0, 1) := by decide +kernel
theorem dX2_look_71 : decode cX2_look 71 = .ok (.getfield 15, 3) := by decide +kernel
theorem dX2_look_74 : decode cX2_look 74 = .ok (.iconst 0, 1) := by decide +kernel
theorem dX2_look_75 : decode cX2_look 75 = .ok (.aload_n 0, 1) := by decide +kernel
theorem dX2_look_76 : decode cX2_look 76 = .ok (.getfield 18, 3) := by decide +kernel
theorem dX2_look_79 : decode cX2_look 79 = .ok (.aload_n 0, 1) := by decide +kernel
theorem dX2_look_80 : decode cX2_look 80 = .ok (.getfield 28, 3) := by decide +kernel
theorem dX2_look_83 : decode cX2_look 83 = .ok (.iconst 4, 1) := by decide +kernel
theorem dX2_look_84 : decode cX2_look 84 = .ok (.imul, 1) := by decide +kernel
theorem dX2_look_85 : decode cX2_look 85 = .ok (.iconst 4, 1) := by decide +kernel
theorem dX2_look_86 : decode cX2_look 86 = .ok (.invokestatic 59, 3) := by decide +kernel
theorem dX2_look_89 : decode cX2_look 89 = .ok (.aload_n 0, 1) := by decide +kernel
theorem dX2_look_90 : decode cX2_look 90 = .ok (.dup, 1) := by decide +kernel
theorem dX2_look_91 : decode cX2_look 91 = .ok (.getfield 28, 3) := by decide +kernel
theorem dX2_look_94 : decode cX2_look 94 = .ok (.iconst 1, 1) := by decide +kernel
theorem dX2_look_95 : decode cX2_look 95 = .ok (.iadd, 1) := by decide +kernel
theorem dX2_look_96 : decode cX2_look 96 = .ok (.putfield 28, 3) := by decide +kernel
theorem dX2_look_99 : decode cX2_look 99 = .ok (.return_, 1) := by decide +kernel
theorem dX2_isAtMostRow_0 : decode cX2_isAtMostRow 0 = .ok (.iconst 0, 1) := by decide +kernel
theorem dX2_isAtMostRow_1 : decode cX2_isAtMostRow 1 = .ok (.istore_n 2, 1) := by decide +kernel
theorem dX2_isAtMostRow_2 : decode cX2_isAtMostRow 2 = .ok (.iload_n 2, 1) := by decide +kernel
theorem dX2_isAtMostRow_3 : decode cX2_isAtMostRow 3 = .ok (.iconst 4, 1) := by decide +kernel
theorem dX2_isAtMostRow_4 : decode cX2_isAtMostRow 4 = .ok (.if_icmp .ge 26, 3) := by decide +kernel
theorem dX2_isAtMostRow_7 : decode cX2_isAtMostRow 7 = .ok (.aload_n 0, 1) := by decide +kernel
theorem dX2_isAtMostRow_8 : decode cX2_isAtMostRow 8 = .ok (.iload_n 1, 1) := by decide +kernel
theorem dX2_isAtMostRow_9 : decode cX2_isAtMostRow 9 = .ok (.iload_n 2, 1) := by decide +kernel
theorem dX2_isAtMostRow_10 : decode cX2_isAtMostRow 10 = .ok (.invokevirtual 36, 3) := by decide +kernel
theorem dX2_isAtMostRow_13 : decode cX2_isAtMostRow 13 = .ok (.aload_n 0, 1) := by decide +kernel
theorem dX2_isAtMostRow_14 : decode cX2_isAtMostRow 14 = .ok (.getfield 15, 3) := by decide +kernel
theorem dX2_isAtMostRow_17 : decode cX2_isAtMostRow 17 = .ok (.iload_n 2, 1) := by decide +kernel
theorem dX2_isAtMostRow_18 : decode cX2_isAtMostRow 18 = .ok (.iaload, 1) := by decide +kernel
theorem dX2_isAtMostRow_19 : decode cX2_isAtMostRow 19 = .ok (.if_icmp .le 5, 3) := by decide +kernel
theorem dX2_isAtMostRow_22 : decode cX2_isAtMostRow 22 = .ok (.iconst 0, 1) := by decide +kernel
theorem dX2_isAtMostRow_23 : decode cX2_isAtMostRow 23 = .ok (.ireturn, 1) := by decide +kernel
theorem dX2_isAtMostRow_24 : decode cX2_isAtMostRow 24 = .ok (.iinc 2 1, 3) := by decide +kernel
theorem dX2_isAtMostRow_27 : decode cX2_isAtMostRow 27 = .ok (.goto (-25), 3) := by decide +kernel
theorem dX2_isAtMostRow_30 : decode cX2_isAtMostRow 30 = .ok (.iconst 1, 1) := by decide +kernel
theorem dX2_isAtMostRow_31 : decode cX2_isAtMostRow 31 = .ok (.ireturn, 1) := by decide +kernel
theorem dX2_placeOf_0 : decode cX2_placeOf 0 = .ok (.iload_n 1, 1) := by decide +kernel
theorem dX2_placeOf_1 : decode cX2_placeOf 1 = .ok (.aload_n 0, 1) := by decide +kernel
theorem dX2_placeOf_2 : decode cX2_placeOf 2 = .ok (.getfield 15, 3) := by decide +kernel
theorem dX2_placeOf_5 : decode cX2_placeOf 5 = .ok (.iconst 1, 1) := by decide +kernel
theorem dX2_placeOf_6 : decode cX2_placeOf 6 = .ok (.iaload, 1) := by decide +kernel
theorem dX2_placeOf_7 : decode cX2_placeOf 7 = .ok (.iconst 1, 1) := by decide +kernel
theorem dX2_placeOf_8 : decode cX2_placeOf 8 = .ok (.iadd, 1) := by decide +kernel
theorem dX2_placeOf_9 : decode cX2_placeOf 9 = .ok (.imul, 1) := by decide +kernel
theorem dX2_placeOf_10 : decode cX2_placeOf 10 = .ok (.iload_n 2, 1) := by decide +kernel
theorem dX2_placeOf_11 : decode cX2_placeOf 11 = .ok (.iadd, 1) := by decide +kernel
theorem dX2_placeOf_12 : decode cX2_placeOf 12 = .ok (.aload_n 0, 1) := by decide +kernel
theorem dX2_placeOf_13 : decode cX2_placeOf 13 = .ok (.getfield 15, 3) := by decide +kernel
theorem dX2_placeOf_16 : decode cX2_placeOf 16 = .ok (.iconst 2, 1) := by decide +kernel
theorem dX2_placeOf_17 : decode cX2_placeOf 17 = .ok (.iaload, 1) := by decide +kernel
theorem dX2_placeOf_18 : decode cX2_placeOf 18 = .ok (.iconst 1, 1) := by decide +kernel
theorem dX2_placeOf_19 : decode cX2_placeOf 19 = .ok (.iadd, 1) := by decide +kernel
theorem dX2_placeOf_20 : decode cX2_placeOf 20 = .ok (.imul, 1) := by decide +kernel
theorem dX2_placeOf_21 : decode cX2_placeOf 21 = .ok (.iload_n 3, 1) := by decide +kernel
theorem dX2_placeOf_22 : decode cX2_placeOf 22 = .ok (.iadd, 1) := by decide +kernel
theorem dX2_placeOf_23 : decode cX2_placeOf 23 = .ok (.aload_n 0, 1) := by decide +kernel
theorem dX2_placeOf_24 : decode cX2_placeOf 24 = .ok (.getfield 15, 3) := by decide +kernel
theorem dX2_placeOf_27 : decode cX2_placeOf 27 = .ok (.iconst 3, 1) := by decide +kernel
theorem dX2_placeOf_28 : decode cX2_placeOf 28 = .ok (.iaload, 1) := by decide +kernel
theorem dX2_placeOf_29 : decode cX2_placeOf 29 = .ok (.iconst 1, 1) := by decide +kernel
theorem dX2_placeOf_30 : decode cX2_placeOf 30 = .ok (.iadd, 1) := by decide +kernel
theorem dX2_placeOf_31 : decode cX2_placeOf 31 = .ok (.imul, 1) := by decide +kernel
theorem dX2_placeOf_32 : decode cX2_placeOf 32 = .ok (.iload 4, 2) := by decide +kernel
theorem dX2_placeOf_34 : decode cX2_placeOf 34 = .ok (.iadd, 1) := by decide +kernel
theorem dX2_placeOf_35 : decode cX2_placeOf 35 = .ok (.ireturn, 1) := by decide +kernel
theorem dX2_addSums_0 : decode cX2_addSums 0 = .ok (.aload_n 0, 1) := by decide +kernel
theorem dX2_addSums_1 : decode cX2_addSums 1 = .ok (.iload_n 1, 1) := by decide +kernel
theorem dX2_addSums_2 : decode cX2_addSums 2 = .ok (.iload_n 2, 1) := by decide +kernel
theorem dX2_addSums_3 : decode cX2_addSums 3 = .ok (.iload_n 3, 1) := by decide +kernel
theorem dX2_addSums_4 : decode cX2_addSums 4 = .ok (.iload 4, 2) := by decide +kernel
theorem dX2_addSums_6 : decode cX2_addSums 6 = .ok (.invokevirtual 65, 3) := by decide +kernel
theorem dX2_addSums_9 : decode cX2_addSums 9 = .ok (.istore 5, 2) := by decide +kernel
theorem dX2_addSums_11 : decode cX2_addSums 11 = .ok (.iload_n 1, 1) := by decide +kernel
theorem dX2_addSums_12 : decode cX2_addSums 12 = .ok (.istore 6, 2) := by decide +kernel
theorem dX2_addSums_14 : decode cX2_addSums 14 = .ok (.iload 6, 2) := by decide +kernel
theorem dX2_addSums_16 : decode cX2_addSums 16 = .ok (.aload_n 0, 1) := by decide +kernel
theorem dX2_addSums_17 : decode cX2_addSums 17 = .ok (.getfield 15, 3) := by decide +kernel
theorem dX2_addSums_20 : decode cX2_addSums 20 = .ok (.iconst 0, 1) := by decide +kernel
theorem dX2_addSums_21 : decode cX2_addSums 21 = .ok (.iaload, 1) := by decide +kernel
theorem dX2_addSums_22 : decode cX2_addSums 22 = .ok (.if_icmp .gt 88, 3) := by decide +kernel
theorem dX2_addSums_25 : decode cX2_addSums 25 = .ok (.iload_n 2, 1) := by decide +kernel
theorem dX2_addSums_26 : decode cX2_addSums 26 = .ok (.istore 7, 2) := by decide +kernel
theorem dX2_addSums_28 : decode cX2_addSums 28 = .ok (.iload 7, 2) := by decide +kernel
theorem dX2_addSums_30 : decode cX2_addSums 30 = .ok (.aload_n 0, 1) := by decide +kernel
theorem dX2_addSums_31 : decode cX2_addSums 31 = .ok (.getfield 15, 3) := by decide +kernel
theorem dX2_addSums_34 : decode cX2_addSums 34 = .ok (.iconst 1, 1) := by decide +kernel
theorem dX2_addSums_35 : decode cX2_addSums 35 = .ok (.iaload, 1) := by decide +kernel
theorem dX2_addSums_36 : decode cX2_addSums 36 = .ok (.if_icmp .gt 68, 3) := by decide +kernel
theorem dX2_addSums_39 : decode cX2_addSums 39 = .ok (.iload_n 3, 1) := by decide +kernel
theorem dX2_addSums_40 : decode cX2_addSums 40 = .ok (.istore 8, 2) := by decide +kernel
theorem dX2_addSums_42 : decode cX2_addSums 42 = .ok (.iload 8, 2) := by decide +kernel
theorem dX2_addSums_44 : decode cX2_addSums 44 = .ok (.aload_n 0, 1) := by decide +kernel
theorem dX2_addSums_45 : decode cX2_addSums 45 = .ok (.getfield 15, 3) := by decide +kernel
theorem dX2_addSums_48 : decode cX2_addSums 48 = .ok (.iconst 2, 1) := by decide +kernel
theorem dX2_addSums_49 : decode cX2_addSums 49 = .ok (.iaload, 1) := by decide +kernel
theorem dX2_addSums_50 : decode cX2_addSums 50 = .ok (.if_icmp .gt 48, 3) := by decide +kernel
theorem dX2_addSums_53 : decode cX2_addSums 53 = .ok (.iload 4, 2) := by decide +kernel
theorem dX2_addSums_55 : decode cX2_addSums 55 = .ok (.istore 9, 2) := by decide +kernel
theorem dX2_addSums_57 : decode cX2_addSums 57 = .ok (.iload 9, 2) := by decide +kernel
theorem dX2_addSums_59 : decode cX2_addSums 59 = .ok (.aload_n 0, 1) := by decide +kernel
theorem dX2_addSums_60 : decode cX2_addSums 60 = .ok (.getfield 15, 3) := by decide +kernel
theorem dX2_addSums_63 : decode cX2_addSums 63 = .ok (.iconst 3, 1) := by decide +kernel
theorem dX2_addSums_64 : decode cX2_addSums 64 = .ok (.iaload, 1) := by decide +kernel
theorem dX2_addSums_65 : decode cX2_addSums 65 = .ok (.if_icmp .gt 27, 3) := by decide +kernel
theorem dX2_addSums_68 : decode cX2_addSums 68 = .ok (.aload_n 0, 1) := by decide +kernel
theorem dX2_addSums_69 : decode cX2_addSums 69 = .ok (.aload_n 0, 1) := by decide +kernel
theorem dX2_addSums_70 : decode cX2_addSums 70 = .ok (.iload 6, 2) := by decide +kernel
theorem dX2_addSums_72 : decode cX2_addSums 72 = .ok (.iload 7, 2) := by decide +kernel
theorem dX2_addSums_74 : decode cX2_addSums 74 = .ok (.iload 8, 2) := by decide +kernel
theorem dX2_addSums_76 : decode cX2_addSums 76 = .ok (.iload 9, 2) := by decide +kernel
theorem dX2_addSums_78 : decode cX2_addSums 78 = .ok (.invokevirtual 65, 3) := by decide +kernel
theorem dX2_addSums_81 : decode cX2_addSums 81 = .ok (.iload 5, 2) := by decide +kernel
theorem dX2_addSums_83 : decode cX2_addSums 83 = .ok (.invokevirtual 69, 3) := by decide +kernel
theorem dX2_addSums_86 : decode cX2_addSums 86 = .ok (.iinc 9 1, 3) := by decide +kernel
theorem dX2_addSums_89 : decode cX2_addSums 89 = .ok (.goto (-32), 3) := by decide +kernel
theorem dX2_addSums_92 : decode cX2_addSums 92 = .ok (.iinc 8 1, 3) := by decide +kernel
theorem dX2_addSums_95 : decode cX2_addSums 95 = .ok (.goto (-53), 3) := by decide +kernel
theorem dX2_addSums_98 : decode cX2_addSums 98 = .ok (.iinc 7 1, 3) := by decide +kernel
theorem dX2_addSums_101 : decode cX2_addSums 101 = .ok (.goto (-73), 3) := by decide +kernel
theorem dX2_addSums_104 : decode cX2_addSums 104 = .ok (.iinc 6 1, 3) := by decide +kernel
theorem dX2_addSums_107 : decode cX2_addSums 107 = .ok (.goto (-93), 3) := by decide +kernel
theorem dX2_addSums_110 : decode cX2_addSums 110 = .ok (.return_, 1) := by decide +kernel
theorem dX2_addWays_0 : decode cX2_addWays 0 = .ok (.iload_n 2, 1) := by decide +kernel
theorem dX2_addWays_1 : decode cX2_addWays 1 = .ok (.ifCond .lt 32, 3) := by decide +kernel
theorem dX2_addWays_4 : decode cX2_addWays 4 = .ok (.iload_n 2, 1) := by decide +kernel
theorem dX2_addWays_5 : decode cX2_addWays 5 = .ok (.iload_n 1, 1) := by decide +kernel
theorem dX2_addWays_6 : decode cX2_addWays 6 = .ok (.if_icmp .gt 27, 3) := by decide +kernel
theorem dX2_addWays_9 : decode cX2_addWays 9 = .ok (.iload_n 1, 1) := by decide +kernel
theorem dX2_addWays_10 : decode cX2_addWays 10 = .ok (.sipush 2401, 3) := by decide +kernel
theorem dX2_addWays_13 : decode cX2_addWays 13 = .ok (.if_icmp .ge 20, 3) := by decide +kernel
theorem dX2_addWays_16 : decode cX2_addWays 16 = .ok (.aload_n 0, 1) := by decide +kernel
theorem dX2_addWays_17 : decode cX2_addWays 17 = .ok (.getfield 21, 3) := by decide +kernel
theorem dX2_addWays_20 : decode cX2_addWays 20 = .ok (.iload_n 1, 1) := by decide +kernel
theorem dX2_addWays_21 : decode cX2_addWays 21 = .ok (.dup2, 1) := by decide +kernel
theorem dX2_addWays_22 : decode cX2_addWays 22 = .ok (.iaload, 1) := by decide +kernel
theorem dX2_addWays_23 : decode cX2_addWays 23 = .ok (.aload_n 0, 1) := by decide +kernel
theorem dX2_addWays_24 : decode cX2_addWays 24 = .ok (.getfield 21, 3) := by decide +kernel
theorem dX2_addWays_27 : decode cX2_addWays 27 = .ok (.iload_n 1, 1) := by decide +kernel
theorem dX2_addWays_28 : decode cX2_addWays 28 = .ok (.iload_n 2, 1) := by decide +kernel
theorem dX2_addWays_29 : decode cX2_addWays 29 = .ok (.isub, 1) := by decide +kernel
theorem dX2_addWays_30 : decode cX2_addWays 30 = .ok (.iaload, 1) := by decide +kernel
theorem dX2_addWays_31 : decode cX2_addWays 31 = .ok (.iadd, 1) := by decide +kernel
theorem dX2_addWays_32 : decode cX2_addWays 32 = .ok (.iastore, 1) := by decide +kernel
theorem dX2_addWays_33 : decode cX2_addWays 33 = .ok (.return_, 1) := by decide +kernel
theorem dX3_init_0 : decode cX3_init 0 = .ok (.aload_n 0, 1) := by decide +kernel
theorem dX3_init_1 : decode cX3_init 1 = .ok (.invokespecial 3, 3) := by decide +kernel
theorem dX3_init_4 : decode cX3_init 4 = .ok (.aload_n 0, 1) := by decide +kernel
theorem dX3_init_5 : decode cX3_init 5 = .ok (.bipush 60, 2) := by decide +kernel
theorem dX3_init_7 : decode cX3_init 7 = .ok (.newarray .int, 2) := by decide +kernel
theorem dX3_init_9 : decode cX3_init 9 = .ok (.putfield 11, 3) := by decide +kernel
theorem dX3_init_12 : decode cX3_init 12 = .ok (.return_, 1) := by decide +kernel
theorem dX3_size_0 : decode cX3_size 0 = .ok (.aload_n 0, 1) := by decide +kernel
theorem dX3_size_1 : decode cX3_size 1 = .ok (.getfield 15, 3) := by decide +kernel
theorem dX3_size_4 : decode cX3_size 4 = .ok (.ireturn, 1) := by decide +kernel
theorem dX3_isFull_0 : decode cX3_isFull 0 = .ok (.aload_n 0, 1) := by decide +kernel
theorem dX3_isFull_1 : decode cX3_isFull 1 = .ok (.getfield 15, 3) := by decide +kernel
theorem dX3_isFull_4 : decode cX3_isFull 4 = .ok (.bipush 60, 2) := by decide +kernel
theorem dX3_isFull_6 : decode cX3_isFull 6 = .ok (.if_icmp .lt 7, 3) := by decide +kernel
theorem dX3_isFull_9 : decode cX3_isFull 9 = .ok (.iconst 1, 1) := by decide +kernel
theorem dX3_isFull_10 : decode cX3_isFull 10 = .ok (.goto 4, 3) := by decide +kernel
theorem dX3_isFull_13 : decode cX3_isFull 13 = .ok (.iconst 0, 1) := by decide +kernel
theorem dX3_isFull_14 : decode cX3_isFull 14 = .ok (.ireturn, 1) := by decide +kernel
theorem dX3_put_0 : decode cX3_put 0 = .ok (.aload_n 0, 1) := by decide +kernel
theorem dX3_put_1 : decode cX3_put 1 = .ok (.getfield 15, 3) := by decide +kernel
theorem dX3_put_4 : decode cX3_put 4 = .ok (.bipush 60, 2) := by decide +kernel
theorem dX3_put_6 : decode cX3_put 6 = .ok (.if_icmp .ge 23, 3) := by decide +kernel
theorem dX3_put_9 : decode cX3_put 9 = .ok (.aload_n 0, 1) := by decide +kernel
theorem dX3_put_10 : decode cX3_put 10 = .ok (.getfield 11, 3) := by decide +kernel
theorem dX3_put_13 : decode cX3_put 13 = .ok (.aload_n 0, 1) := by decide +kernel
theorem dX3_put_14 : decode cX3_put 14 = .ok (.getfield 15, 3) := by decide +kernel
theorem dX3_put_17 : decode cX3_put 17 = .ok (.iload_n 1, 1) := by decide +kernel
theorem dX3_put_18 : decode cX3_put 18 = .ok (.iastore, 1) := by decide +kernel
theorem dX3_put_19 : decode cX3_put 19 = .ok (.aload_n 0, 1) := by decide +kernel
theorem dX3_put_20 : decode cX3_put 20 = .ok (.dup, 1) := by decide +kernel
theorem dX3_put_21 : decode cX3_put 21 = .ok (.getfield 15, 3) := by decide +kernel
theorem dX3_put_24 : decode cX3_put 24 = .ok (.iconst 1, 1) := by decide +kernel
theorem dX3_put_25 : decode cX3_put 25 = .ok (.iadd, 1) := by decide +kernel
theorem dX3_put_26 : decode cX3_put 26 = .ok (.putfield 15, 3) := by decide +kernel
theorem dX3_put_29 : decode cX3_put 29 = .ok (.return_, 1) := by decide +kernel
theorem dX3_empty_0 : decode cX3_empty 0 = .ok (.aload_n 0, 1) := by decide +kernel
theorem dX3_empty_1 : decode cX3_empty 1 = .ok (.iconst 0, 1) := by decide +kernel
theorem dX3_empty_2 : decode cX3_empty 2 = .ok (.putfield 15, 3) := by decide +kernel
theorem dX3_empty_5 : decode cX3_empty 5 = .ok (.return_, 1) := by decide +kernel
theorem dX3_codeAt_0 : decode cX3_codeAt 0 = .ok (.iload_n 1, 1) := by decide +kernel
theorem dX3_codeAt_1 : decode cX3_codeAt 1 = .ok (.ifCond .lt 20, 3) := by decide +kernel
theorem dX3_codeAt_4 : decode cX3_codeAt 4 = .ok (.iload_n 1, 1) := by decide +kernel
theorem dX3_codeAt_5 : decode cX3_codeAt 5 = .ok (.aload_n 0, 1) := by decide +kernel
theorem dX3_codeAt_6 : decode cX3_codeAt 6 = .ok (.getfield 15, 3) := by decide +kernel
theorem dX3_codeAt_9 : decode cX3_codeAt 9 = .ok (.if_icmp .ge 12, 3) := by decide +kernel
theorem dX3_codeAt_12 : decode cX3_codeAt 12 = .ok (.aload_n 0, 1) := by decide +kernel
theorem dX3_codeAt_13 : decode cX3_codeAt 13 = .ok (.getfield 11, 3) := by decide +kernel
theorem dX3_codeAt_16 : decode cX3_codeAt 16 = .ok (.iload_n 1, 1) := by decide +kernel
theorem dX3_codeAt_17 : decode cX3_codeAt 17 = .ok (.iaload, 1) := by decide +kernel
theorem dX3_codeAt_18 : decode cX3_codeAt 18 = .ok (.goto 4, 3) := by decide +kernel
theorem dX3_codeAt_21 : decode cX3_codeAt 21 = .ok (.iconst (-1), 1) := by decide +kernel
theorem dX3_codeAt_22 : decode cX3_codeAt 22 = .ok (.ireturn, 1) := by decide +kernel
theorem dX3_errorPlace_0 : decode cX3_errorPlace 0 = .ok (.iconst 0, 1) := by decide +kernel
theorem dX3_errorPlace_1 : decode cX3_errorPlace 1 = .ok (.istore_n 1, 1) := by decide +kernel
theorem dX3_errorPlace_2 : decode cX3_errorPlace 2 = .ok (.iconst 0, 1) := by decide +kernel
theorem dX3_errorPlace_3 : decode cX3_errorPlace 3 = .ok (.istore_n 2, 1) := by decide +kernel
theorem dX3_errorPlace_4 : decode cX3_errorPlace 4 = .ok (.iload_n 2, 1) := by decide +kernel
theorem dX3_errorPlace_5 : decode cX3_errorPlace 5 = .ok (.aload_n 0, 1) := by decide +kernel
theorem dX3_errorPlace_6 : decode cX3_errorPlace 6 = .ok (.getfield 15, 3) := by decide +kernel
theorem dX3_errorPlace_9 : decode cX3_errorPlace 9 = .ok (.if_icmp .ge 26, 3) := by decide +kernel
theorem dX3_errorPlace_12 : decode cX3_errorPlace 12 = .ok (.iload_n 1, 1) := by decide +kernel
theorem dX3_errorPlace_13 : decode cX3_errorPlace 13 = .ok (.aload_n 0, 1) := by decide +kernel
theorem dX3_errorPlace_14 : decode cX3_errorPlace 14 = .ok (.iload_n 2, 1) := by decide +kernel
theorem dX3_errorPlace_15 : decode cX3_errorPlace 15 = .ok (.invokevirtual 19, 3) := by decide +kernel
theorem dX3_errorPlace_18 : decode cX3_errorPlace 18 = .ok (.invokestatic 23, 3) := by decide +kernel
theorem dX3_errorPlace_21 : decode cX3_errorPlace 21 = .ok (.istore_n 1, 1) := by decide +kernel
theorem dX3_errorPlace_22 : decode cX3_errorPlace 22 = .ok (.iload_n 1, 1) := by decide +kernel
theorem dX3_errorPlace_23 : decode cX3_errorPlace 23 = .ok (.iconst 4, 1) := by decide +kernel
theorem dX3_errorPlace_24 : decode cX3_errorPlace 24 = .ok (.if_icmp .ne 5, 3) := by decide +kernel
theorem dX3_errorPlace_27 : decode cX3_errorPlace 27 = .ok (.iload_n 2, 1) := by decide +kernel
theorem dX3_errorPlace_28 : decode cX3_errorPlace 28 = .ok (.ireturn, 1) := by decide +kernel
theorem dX3_errorPlace_29 : decode cX3_errorPlace 29 = .ok (.iinc 2 1, 3) := by decide +kernel
theorem dX3_errorPlace_32 : decode cX3_errorPlace 32 = .ok (.goto (-28), 3) := by decide +kernel
theorem dX3_errorPlace_35 : decode cX3_errorPlace 35 = .ok (.aload_n 0, 1) := by decide +kernel
theorem dX3_errorPlace_36 : decode cX3_errorPlace 36 = .ok (.getfield 15, 3) := by decide +kernel
theorem dX3_errorPlace_39 : decode cX3_errorPlace 39 = .ok (.ireturn, 1) := by decide +kernel
theorem dX3_isProduct_0 : decode cX3_isProduct 0 = .ok (.aload_n 0, 1) := by decide +kernel
theorem dX3_isProduct_1 : decode cX3_isProduct 1 = .ok (.getfield 15, 3) := by decide +kernel
theorem dX3_isProduct_4 : decode cX3_isProduct 4 = .ok (.ifCond .le 18, 3) := by decide +kernel
theorem dX3_isProduct_7 : decode cX3_isProduct 7 = .ok (.aload_n 0, 1) := by decide +kernel
theorem dX3_isProduct_8 : decode cX3_isProduct 8 = .ok (.invokevirtual 27, 3) := by decide +kernel
theorem dX3_isProduct_11 : decode cX3_isProduct 11 = .ok (.aload_n 0, 1) := by decide +kernel
theorem dX3_isProduct_12 : decode cX3_isProduct 12 = .ok (.getfield 15, 3) := by decide +kernel
theorem dX3_isProduct_15 : decode cX3_isProduct 15 = .ok (.if_icmp .ne 7, 3) := by decide +kernel
theorem dX3_isProduct_18 : decode cX3_isProduct 18 = .ok (.iconst 1, 1) := by decide +kernel
theorem dX3_isProduct_19 : decode cX3_isProduct 19 = .ok (.goto 4, 3) := by decide +kernel
theorem dX3_isProduct_22 : decode cX3_isProduct 22 = .ok (.iconst 0, 1) := by decide +kernel
theorem dX3_isProduct_23 : decode cX3_isProduct 23 = .ok (.ireturn, 1) := by decide +kernel
theorem dX3_tell_0 : decode cX3_tell 0 = .ok (.iconst 0, 1) := by decide +kernel
theorem dX3_tell_1 : decode cX3_tell 1 = .ok (.istore_n 2, 1) := by decide +kernel
theorem dX3_tell_2 : decode cX3_tell 2 = .ok (.iload_n 2, 1) := by decide +kernel
theorem dX3_tell_3 : decode cX3_tell 3 = .ok (.bipush 8, 2) := by decide +kernel
theorem dX3_tell_5 : decode cX3_tell 5 = .ok (.if_icmp .ge 13, 3) := by decide +kernel
theorem dX3_tell_8 : decode cX3_tell 8 = .ok (.aload_n 1, 1) := by decide +kernel
theorem dX3_tell_9 : decode cX3_tell 9 = .ok (.iload_n 2, 1) := by decide +kernel
theorem dX3_tell_10 : decode cX3_tell 10 = .ok (.iconst 0, 1) := by decide +kernel
theorem dX3_tell_11 : decode cX3_tell 11 = .ok (.iastore, 1) := by decide +kernel
theorem dX3_tell_12 : decode cX3_tell 12 = .ok (.iinc 2 1, 3) := by decide +kernel
theorem dX3_tell_15 : decode cX3_tell 15 = .ok (.goto (-13), 3) := by decide +kernel
theorem dX3_tell_18 : decode cX3_tell 18 = .ok (.iconst 0, 1) := by decide +kernel
theorem dX3_tell_19 : decode cX3_tell 19 = .ok (.istore_n 2, 1) := by decide +kernel
theorem dX3_tell_20 : decode cX3_tell 20 = .ok (.iload_n 2, 1) := by decide +kernel
theorem dX3_tell_21 : decode cX3_tell 21 = .ok (.aload_n 0, 1) := by decide +kernel
theorem dX3_tell_22 : decode cX3_tell 22 = .ok (.getfield 15, 3) := by decide +kernel
theorem dX3_tell_25 : decode cX3_tell 25 = .ok (.if_icmp .ge 55, 3) := by decide +kernel
theorem dX3_tell_28 : decode cX3_tell 28 = .ok (.aload_n 0, 1) := by decide +kernel
theorem dX3_tell_29 : decode cX3_tell 29 = .ok (.iload_n 2, 1) := by decide +kernel
theorem dX3_tell_30 : decode cX3_tell 30 = .ok (.invokevirtual 19, 3) := by decide +kernel
theorem dX3_tell_33 : decode cX3_tell 33 = .ok (.invokestatic 31, 3) := by decide +kernel
theorem dX3_tell_36 : decode cX3_tell 36 = .ok (.istore_n 3, 1) := by decide +kernel
theorem dX3_tell_37 : decode cX3_tell 37 = .ok (.iload_n 3, 1) := by decide +kernel
theorem dX3_tell_38 : decode cX3_tell 38 = .ok (.iconst (-1), 1) := by decide +kernel
theorem dX3_tell_39 : decode cX3_tell 39 = .ok (.if_icmp .eq 35, 3) := by decide +kernel
theorem dX3_tell_42 : decode cX3_tell 42 = .ok (.aload_n 0, 1) := by decide +kernel
theorem dX3_tell_43 : decode cX3_tell 43 = .ok (.iload_n 2, 1) := by decide +kernel
theorem dX3_tell_44 : decode cX3_tell 44 = .ok (.iconst 1, 1) := by decide +kernel
theorem dX3_tell_45 : decode cX3_tell 45 = .ok (.iadd, 1) := by decide +kernel
theorem dX3_tell_46 : decode cX3_tell 46 = .ok (.invokevirtual 19, 3) := by decide +kernel
theorem dX3_tell_49 : decode cX3_tell 49 = .ok (.istore 4, 2) := by decide +kernel
theorem dX3_tell_51 : decode cX3_tell 51 = .ok (.aload_n 1, 1) := by decide +kernel
theorem dX3_tell_52 : decode cX3_tell 52 = .ok (.iload_n 3, 1) := by decide +kernel
theorem dX3_tell_53 : decode cX3_tell 53 = .ok (.dup2, 1) := by decide +kernel
theorem dX3_tell_54 : decode cX3_tell 54 = .ok (.iaload, 1) := by decide +kernel
theorem dX3_tell_55 : decode cX3_tell 55 = .ok (.iload 4, 2) := by decide +kernel
theorem dX3_tell_57 : decode cX3_tell 57 = .ok (.invokestatic 34, 3) := by decide +kernel
theorem dX3_tell_60 : decode cX3_tell 60 = .ok (.ifCond .eq 11, 3) := by decide +kernel
theorem dX3_tell_63 : decode cX3_tell 63 = .ok (.iload 4, 2) := by decide +kernel
theorem dX3_tell_65 : decode cX3_tell 65 = .ok (.bipush 48, 2) := by decide +kernel
theorem dX3_tell_67 : decode cX3_tell 67 = .ok (.isub, 1) := by decide +kernel
theorem dX3_tell_68 : decode cX3_tell 68 = .ok (.goto 4, 3) := by decide +kernel
theorem dX3_tell_71 : decode cX3_tell 71 = .ok (.iconst 1, 1) := by decide +kernel
theorem dX3_tell_72 : decode cX3_tell 72 = .ok (.iadd, 1) := by decide +kernel
theorem dX3_tell_73 : decode cX3_tell 73 = .ok (.iastore, 1) := by decide +kernel
theorem dX3_tell_74 : decode cX3_tell 74 = .ok (.iinc 2 1, 3) := by decide +kernel
theorem dX3_tell_77 : decode cX3_tell 77 = .ok (.goto (-57), 3) := by decide +kernel
theorem dX3_tell_80 : decode cX3_tell 80 = .ok (.return_, 1) := by decide +kernel
theorem dX3_next_0 : decode cX3_next 0 = .ok (.iload_n 1, 1) := by decide +kernel
theorem dX3_next_1 : decode cX3_next 1 = .ok (.invokestatic 31, 3) := by decide +kernel
theorem dX3_next_4 : decode cX3_next 4 = .ok (.iconst (-1), 1) := by decide +kernel
theorem dX3_next_5 : decode cX3_next 5 = .ok (.if_icmp .eq 14, 3) := by decide +kernel
theorem dX3_next_8 : decode cX3_next 8 = .ok (.iload_n 0, 1) := by decide +kernel
theorem dX3_next_9 : decode cX3_next 9 = .ok (.iconst 1, 1) := by decide +kernel
theorem dX3_next_10 : decode cX3_next 10 = .ok (.if_icmp .ne 7, 3) := by decide +kernel
theorem dX3_next_13 : decode cX3_next 13 = .ok (.iconst 4, 1) := by decide +kernel
theorem dX3_next_14 : decode cX3_next 14 = .ok (.goto 4, 3) := by decide +kernel
theorem dX3_next_17 : decode cX3_next 17 = .ok (.iconst 2, 1) := by decide +kernel
theorem dX3_next_18 : decode cX3_next 18 = .ok (.ireturn, 1) := by decide +kernel
theorem dX3_next_19 : decode cX3_next 19 = .ok (.iload_n 1, 1) := by decide +kernel
theorem dX3_next_20 : decode cX3_next 20 = .ok (.bipush 49, 2) := by decide +kernel
theorem dX3_next_22 : decode cX3_next 22 = .ok (.if_icmp .ne 13, 3) := by decide +kernel
theorem dX3_next_25 : decode cX3_next 25 = .ok (.iload_n 0, 1) := by decide +kernel
theorem dX3_next_26 : decode cX3_next 26 = .ok (.ifCond .ne 7, 3) := by decide +kernel
theorem dX3_next_29 : decode cX3_next 29 = .ok (.iconst 1, 1) := by decide +kernel
theorem dX3_next_30 : decode cX3_next 30 = .ok (.goto 4, 3) := by decide +kernel
theorem dX3_next_33 : decode cX3_next 33 = .ok (.iconst 4, 1) := by decide +kernel
theorem dX3_next_34 : decode cX3_next 34 = .ok (.ireturn, 1) := by decide +kernel
theorem dX3_next_35 : decode cX3_next 35 = .ok (.iload_n 1, 1) := by decide +kernel
theorem dX3_next_36 : decode cX3_next 36 = .ok (.invokestatic 34, 3) := by decide +kernel
theorem dX3_next_39 : decode cX3_next 39 = .ok (.ifCond .eq 12, 3) := by decide +kernel
theorem dX3_next_42 : decode cX3_next 42 = .ok (.iload_n 0, 1) := by decide +kernel
theorem dX3_next_43 : decode cX3_next 43 = .ok (.iconst 2, 1) := by decide +kernel
theorem dX3_next_44 : decode cX3_next 44 = .ok (.if_icmp .ne 7, 3) := by decide +kernel
theorem dX3_next_47 : decode cX3_next 47 = .ok (.iconst 3, 1) := by decide +kernel
theorem dX3_next_48 : decode cX3_next 48 = .ok (.goto 4, 3) := by decide +kernel
theorem dX3_next_51 : decode cX3_next 51 = .ok (.iconst 4, 1) := by decide +kernel
theorem dX3_next_52 : decode cX3_next 52 = .ok (.ireturn, 1) := by decide +kernel
theorem dX3_isTimes_0 : decode cX3_isTimes 0 = .ok (.iload_n 0, 1) := by decide +kernel
theorem dX3_isTimes_1 : decode cX3_isTimes 1 = .ok (.bipush 50, 2) := by decide +kernel
theorem dX3_isTimes_3 : decode cX3_isTimes 3 = .ok (.if_icmp .lt 13, 3) := by decide +kernel
theorem dX3_isTimes_6 : decode cX3_isTimes 6 = .ok (.iload_n 0, 1) := by decide +kernel
theorem dX3_isTimes_7 : decode cX3_isTimes 7 = .ok (.bipush 57, 2) := by decide +kernel
theorem dX3_isTimes_9 : decode cX3_isTimes 9 = .ok (.if_icmp .gt 7, 3) := by decide +kernel
theorem dX3_isTimes_12 : decode cX3_isTimes 12 = .ok (.iconst 1, 1) := by decide +kernel
theorem dX3_isTimes_13 : decode cX3_isTimes 13 = .ok (.goto 4, 3) := by decide +kernel
theorem dX3_isTimes_16 : decode cX3_isTimes 16 = .ok (.iconst 0, 1) := by decide +kernel
theorem dX3_isTimes_17 : decode cX3_isTimes 17 = .ok (.ireturn, 1) := by decide +kernel
theorem dX3_factorOf_0 : decode cX3_factorOf 0 = .ok (.iload_n 0, 1) := by decide +kernel
theorem dX3_factorOf_1 : decode cX3_factorOf 1 = .ok (.bipush 97, 2) := by decide +kernel
theorem dX3_factorOf_3 : decode cX3_factorOf 3 = .ok (.if_icmp .lt 14, 3) := by decide +kernel
theorem dX3_factorOf_6 : decode cX3_factorOf 6 = .ok (.iload_n 0, 1) := by decide +kernel
theorem dX3_factorOf_7 : decode cX3_factorOf 7 = .ok (.bipush 100, 2) := by decide +kernel
theorem dX3_factorOf_9 : decode cX3_factorOf 9 = .ok (.if_icmp .gt 8, 3) := by decide +kernel
theorem dX3_factorOf_12 : decode cX3_factorOf 12 = .ok (.iload_n 0, 1) := by decide +kernel
theorem dX3_factorOf_13 : decode cX3_factorOf 13 = .ok (.bipush 97, 2) := by decide +kernel
theorem dX3_factorOf_15 : decode cX3_factorOf 15 = .ok (.isub, 1) := by decide +kernel
theorem dX3_factorOf_16 : decode cX3_factorOf 16 = .ok (.ireturn, 1) := by decide +kernel
theorem dX3_factorOf_17 : decode cX3_factorOf 17 = .ok (.iload_n 0, 1) := by decide +kernel
theorem dX3_factorOf_18 : decode cX3_factorOf 18 = .ok (.bipush 119, 2) := by decide +kernel
theorem dX3_factorOf_20 : decode cX3_factorOf 20 = .ok (.if_icmp .lt 18, 3) := by decide +kernel
theorem dX3_factorOf_23 : decode cX3_factorOf 23 = .ok (.iload_n 0, 1) := by decide +kernel
theorem dX3_factorOf_24 : decode cX3_factorOf 24 = .ok (.bipush 122, 2) := by decide +kernel
theorem dX3_factorOf_26 : decode cX3_factorOf 26 = .ok (.if_icmp .gt 12, 3) := by decide +kernel
theorem dX3_factorOf_29 : decode cX3_factorOf 29 = .ok (.iconst 4, 1) := by decide +kernel
theorem dX3_factorOf_30 : decode cX3_factorOf 30 = .ok (.iload_n 0, 1) := by decide +kernel
theorem dX3_factorOf_31 : decode cX3_factorOf 31 = .ok (.iadd, 1) := by decide +kernel
theorem dX3_factorOf_32 : decode cX3_factorOf 32 = .ok (.bipush 119, 2) := by decide +kernel
theorem dX3_factorOf_34 : decode cX3_factorOf 34 = .ok (.isub, 1) := by decide +kernel
theorem dX3_factorOf_35 : decode cX3_factorOf 35 = .ok (.goto 4, 3) := by decide +kernel
theorem dX3_factorOf_38 : decode cX3_factorOf 38 = .ok (.iconst (-1), 1) := by decide +kernel
theorem dX3_factorOf_39 : decode cX3_factorOf 39 = .ok (.ireturn, 1) := by decide +kernel
theorem dX4_init_0 : decode cX4_init 0 = .ok (.aload_n 0, 1) := by decide +kernel
theorem dX4_init_1 : decode cX4_init 1 = .ok (.invokespecial 3, 3) := by decide +kernel
theorem dX4_init_4 : decode cX4_init 4 = .ok (.aload_n 0, 1) := by decide +kernel
theorem dX4_init_5 : decode cX4_init 5 = .ok (.bipush 26, 2) := by decide +kernel
theorem dX4_init_7 : decode cX4_init 7 = .ok (.newarray .int, 2) := by decide +kernel
theorem dX4_init_9 : decode cX4_init 9 = .ok (.putfield 9, 3) := by decide +kernel
theorem dX4_init_12 : decode cX4_init 12 = .ok (.aload_n 0, 1) := by decide +kernel
theorem dX4_init_13 : decode cX4_init 13 = .ok (.bipush 8, 2) := by decide +kernel
theorem dX4_init_15 : decode cX4_init 15 = .ok (.newarray .int, 2) := by decide +kernel
theorem dX4_init_17 : decode cX4_init 17 = .ok (.putfield 13, 3) := by decide +kernel
theorem dX4_init_20 : decode cX4_init 20 = .ok (.aload_n 0, 1) := by decide +kernel
theorem dX4_init_21 : decode cX4_init 21 = .ok (.iconst 2, 1) := by decide +kernel
theorem dX4_init_22 : decode cX4_init 22 = .ok (.bipush 24, 2) := by decide +kernel
theorem dX4_init_24 : decode cX4_init 24 = .ok (.multianewarray 16 2, 4) := by decide +kernel
theorem dX4_init_28 : decode cX4_init 28 = .ok (.putfield 18, 3) := by decide +kernel
theorem dX4_init_31 : decode cX4_init 31 = .ok (.aload_n 0, 1) := by decide +kernel
theorem dX4_init_32 : decode cX4_init 32 = .ok (.iconst 2, 1) := by decide +kernel
theorem dX4_init_33 : decode cX4_init 33 = .ok (.newarray .boolean, 2) := by decide +kernel
theorem dX4_init_35 : decode cX4_init 35 = .ok (.putfield 21, 3) := by decide +kernel
theorem dX4_init_38 : decode cX4_init 38 = .ok (.aload_n 0, 1) := by decide +kernel
theorem dX4_init_39 : decode cX4_init 39 = .ok (.new 25, 3) := by decide +kernel
theorem dX4_init_42 : decode cX4_init 42 = .ok (.dup, 1) := by decide +kernel
theorem dX4_init_43 : decode cX4_init 43 = .ok (.invokespecial 27, 3) := by decide +kernel
theorem dX4_init_46 : decode cX4_init 46 = .ok (.putfield 28, 3) := by decide +kernel
theorem dX4_init_49 : decode cX4_init 49 = .ok (.aload_n 0, 1) := by decide +kernel
theorem dX4_init_50 : decode cX4_init 50 = .ok (.new 32, 3) := by decide +kernel
theorem dX4_init_53 : decode cX4_init 53 = .ok (.dup, 1) := by decide +kernel
theorem dX4_init_54 : decode cX4_init 54 = .ok (.invokespecial 34, 3) := by decide +kernel
theorem dX4_init_57 : decode cX4_init 57 = .ok (.putfield 35, 3) := by decide +kernel
theorem dX4_init_60 : decode cX4_init 60 = .ok (.aload_n 0, 1) := by decide +kernel
theorem dX4_init_61 : decode cX4_init 61 = .ok (.new 39, 3) := by decide +kernel
theorem dX4_init_64 : decode cX4_init 64 = .ok (.dup, 1) := by decide +kernel
theorem dX4_init_65 : decode cX4_init 65 = .ok (.invokespecial 41, 3) := by decide +kernel
theorem dX4_init_68 : decode cX4_init 68 = .ok (.putfield 42, 3) := by decide +kernel
theorem dX4_init_71 : decode cX4_init 71 = .ok (.aload_n 0, 1) := by decide +kernel
theorem dX4_init_72 : decode cX4_init 72 = .ok (.new 46, 3) := by decide +kernel
theorem dX4_init_75 : decode cX4_init 75 = .ok (.dup, 1) := by decide +kernel
theorem dX4_init_76 : decode cX4_init 76 = .ok (.invokespecial 48, 3) := by decide +kernel
theorem dX4_init_79 : decode cX4_init 79 = .ok (.putfield 49, 3) := by decide +kernel
theorem dX4_init_82 : decode cX4_init 82 = .ok (.aload_n 0, 1) := by decide +kernel
theorem dX4_init_83 : decode cX4_init 83 = .ok (.getfield 9, 3) := by decide +kernel
theorem dX4_init_86 : decode cX4_init 86 = .ok (.bipush 24, 2) := by decide +kernel
theorem dX4_init_88 : decode cX4_init 88 = .ok (.iconst 1, 1) := by decide +kernel
theorem dX4_init_89 : decode cX4_init 89 = .ok (.iastore, 1) := by decide +kernel
theorem dX4_init_90 : decode cX4_init 90 = .ok (.aload_n 0, 1) := by decide +kernel
theorem dX4_init_91 : decode cX4_init 91 = .ok (.getfield 9, 3) := by decide +kernel
theorem dX4_init_94 : decode cX4_init 94 = .ok (.bipush 25, 2) := by decide +kernel
theorem dX4_init_96 : decode cX4_init 96 = .ok (.bipush 9, 2) := by decide +kernel
theorem dX4_init_98 : decode cX4_init 98 = .ok (.iastore, 1) := by decide +kernel
theorem dX4_init_99 : decode cX4_init 99 = .ok (.return_, 1) := by decide +kernel
theorem dX4_constant_0 : decode cX4_constant 0 = .ok (.iload_n 1, 1) := by decide +kernel
theorem dX4_constant_1 : decode cX4_constant 1 = .ok (.iconst 3, 1) := by decide +kernel
theorem dX4_constant_2 : decode cX4_constant 2 = .ok (.invokestatic 53, 3) := by decide +kernel
theorem dX4_constant_5 : decode cX4_constant 5 = .ok (.iload_n 2, 1) := by decide +kernel
theorem dX4_constant_6 : decode cX4_constant 6 = .ok (.iconst 4, 1) := by decide +kernel
theorem dX4_constant_7 : decode cX4_constant 7 = .ok (.invokestatic 53, 3) := by decide +kernel
theorem dX4_constant_10 : decode cX4_constant 10 = .ok (.iload_n 3, 1) := by decide +kernel
theorem dX4_constant_11 : decode cX4_constant 11 = .ok (.iconst 0, 1) := by decide +kernel
theorem dX4_constant_12 : decode cX4_constant 12 = .ok (.bipush 9, 2) := by decide +kernel
theorem dX4_constant_14 : decode cX4_constant 14 = .ok (.invokestatic 57, 3) := by decide +kernel
theorem dX4_constant_17 : decode cX4_constant 17 = .ok (.aload_n 0, 1) := by decide +kernel
theorem dX4_constant_18 : decode cX4_constant 18 = .ok (.iload_n 1, 1) := by decide +kernel
theorem dX4_constant_19 : decode cX4_constant 19 = .ok (.bipush 8, 2) := by decide +kernel
theorem dX4_constant_21 : decode cX4_constant 21 = .ok (.imul, 1) := by decide +kernel
theorem dX4_constant_22 : decode cX4_constant 22 = .ok (.iload_n 2, 1) := by decide +kernel
theorem dX4_constant_23 : decode cX4_constant 23 = .ok (.iadd, 1) := by decide +kernel
theorem dX4_constant_24 : decode cX4_constant 24 = .ok (.iload_n 3, 1) := by decide +kernel
theorem dX4_constant_25 : decode cX4_constant 25 = .ok (.invokevirtual 61, 3) := by decide +kernel
theorem dX4_constant_28 : decode cX4_constant 28 = .ok (.ireturn, 1) := by decide +kernel
theorem dX4_variable_0 : decode cX4_variable 0 = .ok (.iload_n 1, 1) := by decide +kernel
theorem dX4_variable_1 : decode cX4_variable 1 = .ok (.iconst 2, 1) := by decide +kernel
theorem dX4_variable_2 : decode cX4_variable 2 = .ok (.invokestatic 53, 3) := by decide +kernel
theorem dX4_variable_5 : decode cX4_variable 5 = .ok (.iload_n 2, 1) := by decide +kernel
theorem dX4_variable_6 : decode cX4_variable 6 = .ok (.iconst 4, 1) := by decide +kernel
theorem dX4_variable_7 : decode cX4_variable 7 = .ok (.invokestatic 53, 3) := by decide +kernel
theorem dX4_variable_10 : decode cX4_variable 10 = .ok (.iload_n 3, 1) := by decide +kernel
theorem dX4_variable_11 : decode cX4_variable 11 = .ok (.iconst 0, 1) := by decide +kernel
theorem dX4_variable_12 : decode cX4_variable 12 = .ok (.iconst 5, 1) := by decide +kernel
theorem dX4_variable_13 : decode cX4_variable 13 = .ok (.invokestatic 57, 3) := by decide +kernel
theorem dX4_variable_16 : decode cX4_variable 16 = .ok (.aload_n 0, 1) := by decide +kernel
theorem dX4_variable_17 : decode cX4_variable 17 = .ok (.iload_n 1, 1) := by decide +kernel
theorem dX4_variable_18 : decode cX4_variable 18 = .ok (.bipush 8, 2) := by decide +kernel
theorem dX4_variable_20 : decode cX4_variable 20 = .ok (.imul, 1) := by decide +kernel
theorem dX4_variable_21 : decode cX4_variable 21 = .ok (.iconst 4, 1) := by decide +kernel
theorem dX4_variable_22 : decode cX4_variable 22 = .ok (.iadd, 1) := by decide +kernel
theorem dX4_variable_23 : decode cX4_variable 23 = .ok (.iload_n 2, 1) := by decide +kernel
theorem dX4_variable_24 : decode cX4_variable 24 = .ok (.iadd, 1) := by decide +kernel
theorem dX4_variable_25 : decode cX4_variable 25 = .ok (.iload_n 3, 1) := by decide +kernel
theorem dX4_variable_26 : decode cX4_variable 26 = .ok (.invokevirtual 61, 3) := by decide +kernel
theorem dX4_variable_29 : decode cX4_variable 29 = .ok (.ireturn, 1) := by decide +kernel
theorem dX4_multiply_0 : decode cX4_multiply 0 = .ok (.iload_n 1, 1) := by decide +kernel
theorem dX4_multiply_1 : decode cX4_multiply 1 = .ok (.iconst 3, 1) := by decide +kernel
theorem dX4_multiply_2 : decode cX4_multiply 2 = .ok (.invokestatic 53, 3) := by decide +kernel
theorem dX4_multiply_5 : decode cX4_multiply 5 = .ok (.iload_n 2, 1) := by decide +kernel
theorem dX4_multiply_6 : decode cX4_multiply 6 = .ok (.iconst 3, 1) := by decide +kernel
theorem dX4_multiply_7 : decode cX4_multiply 7 = .ok (.invokestatic 53, 3) := by decide +kernel
theorem dX4_multiply_10 : decode cX4_multiply 10 = .ok (.iconst 0, 1) := by decide +kernel
theorem dX4_multiply_11 : decode cX4_multiply 11 = .ok (.istore_n 3, 1) := by decide +kernel
theorem dX4_multiply_12 : decode cX4_multiply 12 = .ok (.iload_n 3, 1) := by decide +kernel
theorem dX4_multiply_13 : decode cX4_multiply 13 = .ok (.bipush 8, 2) := by decide +kernel
theorem dX4_multiply_15 : decode cX4_multiply 15 = .ok (.if_icmp .ge 38, 3) := by decide +kernel
theorem dX4_multiply_18 : decode cX4_multiply 18 = .ok (.aload_n 0, 1) := by decide +kernel
theorem dX4_multiply_19 : decode cX4_multiply 19 = .ok (.getfield 13, 3) := by decide +kernel
theorem dX4_multiply_22 : decode cX4_multiply 22 = .ok (.iload_n 3, 1) := by decide +kernel
theorem dX4_multiply_23 : decode cX4_multiply 23 = .ok (.aload_n 0, 1) := by decide +kernel
theorem dX4_multiply_24 : decode cX4_multiply 24 = .ok (.getfield 9, 3) := by decide +kernel
theorem dX4_multiply_27 : decode cX4_multiply 27 = .ok (.iload_n 1, 1) := by decide +kernel
theorem dX4_multiply_28 : decode cX4_multiply 28 = .ok (.bipush 8, 2) := by decide +kernel
theorem dX4_multiply_30 : decode cX4_multiply 30 = .ok (.imul, 1) := by decide +kernel
theorem dX4_multiply_31 : decode cX4_multiply 31 = .ok (.iload_n 3, 1) := by decide +kernel
theorem dX4_multiply_32 : decode cX4_multiply 32 = .ok (.iadd, 1) := by decide +kernel
theorem dX4_multiply_33 : decode cX4_multiply 33 = .ok (.iaload, 1) := by decide +kernel
theorem dX4_multiply_34 : decode cX4_multiply 34 = .ok (.aload_n 0, 1) := by decide +kernel
theorem dX4_multiply_35 : decode cX4_multiply 35 = .ok (.getfield 9, 3) := by decide +kernel
theorem dX4_multiply_38 : decode cX4_multiply 38 = .ok (.iload_n 2, 1) := by decide +kernel
theorem dX4_multiply_39 : decode cX4_multiply 39 = .ok (.bipush 8, 2) := by decide +kernel
theorem dX4_multiply_41 : decode cX4_multiply 41 = .ok (.imul, 1) := by decide +kernel
theorem dX4_multiply_42 : decode cX4_multiply 42 = .ok (.iload_n 3, 1) := by decide +kernel
theorem dX4_multiply_43 : decode cX4_multiply 43 = .ok (.iadd, 1) := by decide +kernel
theorem dX4_multiply_44 : decode cX4_multiply 44 = .ok (.iaload, 1) := by decide +kernel
theorem dX4_multiply_45 : decode cX4_multiply 45 = .ok (.iadd, 1) := by decide +kernel
theorem dX4_multiply_46 : decode cX4_multiply 46 = .ok (.iastore, 1) := by decide +kernel
theorem dX4_multiply_47 : decode cX4_multiply 47 = .ok (.iinc 3 1, 3) := by decide +kernel
theorem dX4_multiply_50 : decode cX4_multiply 50 = .ok (.goto (-38), 3) := by decide +kernel
theorem dX4_multiply_53 : decode cX4_multiply 53 = .ok (.aload_n 0, 1) := by decide +kernel
theorem dX4_multiply_54 : decode cX4_multiply 54 = .ok (.iload_n 1, 1) := by decide +kernel
theorem dX4_multiply_55 : decode cX4_multiply 55 = .ok (.invokevirtual 65, 3) := by decide +kernel
theorem dX4_multiply_58 : decode cX4_multiply 58 = .ok (.ireturn, 1) := by decide +kernel
theorem dX4_rewrite_0 : decode cX4_rewrite 0 = .ok (.aload_n 0, 1) := by decide +kernel
theorem dX4_rewrite_1 : decode cX4_rewrite 1 = .ok (.iload_n 1, 1) := by decide +kernel
theorem dX4_rewrite_2 : decode cX4_rewrite 2 = .ok (.invokevirtual 69, 3) := by decide +kernel
theorem dX4_rewrite_5 : decode cX4_rewrite 5 = .ok (.aload_n 0, 1) := by decide +kernel
theorem dX4_rewrite_6 : decode cX4_rewrite 6 = .ok (.invokevirtual 73, 3) := by decide +kernel
theorem dX4_rewrite_9 : decode cX4_rewrite 9 = .ok (.ifCond .eq 13, 3) := by decide +kernel
theorem dX4_rewrite_12 : decode cX4_rewrite 12 = .ok (.new 77, 3) := by decide +kernel
theorem dX4_rewrite_15 : decode cX4_rewrite 15 = .ok (.dup, 1) := by decide +kernel
theorem dX4_rewrite_16 : decode cX4_rewrite 16 = .ok (.ldc 79, 2) := by decide +kernel
theorem dX4_rewrite_18 : decode cX4_rewrite 18 = .ok (.invokespecial 81, 3) := by decide +kernel
theorem dX4_rewrite_21 : decode cX4_rewrite 21 = .ok (.athrow, 1) := by decide +kernel
theorem dX4_rewrite_22 : decode cX4_rewrite 22 = .ok (.iconst 0, 1) := by decide +kernel
theorem dX4_rewrite_23 : decode cX4_rewrite 23 = .ok (.istore_n 2, 1) := by decide +kernel
theorem dX4_rewrite_24 : decode cX4_rewrite 24 = .ok (.iload_n 2, 1) := by decide +kernel
theorem dX4_rewrite_25 : decode cX4_rewrite 25 = .ok (.bipush 8, 2) := by decide +kernel
theorem dX4_rewrite_27 : decode cX4_rewrite 27 = .ok (.if_icmp .ge 29, 3) := by decide +kernel
theorem dX4_rewrite_30 : decode cX4_rewrite 30 = .ok (.aload_n 0, 1) := by decide +kernel
theorem dX4_rewrite_31 : decode cX4_rewrite 31 = .ok (.getfield 13, 3) := by decide +kernel
theorem dX4_rewrite_34 : decode cX4_rewrite 34 = .ok (.iload_n 2, 1) := by decide +kernel
theorem dX4_rewrite_35 : decode cX4_rewrite 35 = .ok (.iload_n 2, 1) := by decide +kernel
theorem dX4_rewrite_36 : decode cX4_rewrite 36 = .ok (.iconst 4, 1) := by decide +kernel
theorem dX4_rewrite_37 : decode cX4_rewrite 37 = .ok (.if_icmp .ge 11, 3) := by decide +kernel
theorem dX4_rewrite_40 : decode cX4_rewrite 40 = .ok (.aload_n 0, 1) := by decide +kernel
theorem dX4_rewrite_41 : decode cX4_rewrite 41 = .ok (.iload_n 2, 1) := by decide +kernel
theorem dX4_rewrite_42 : decode cX4_rewrite 42 = .ok (.invokevirtual 84, 3) := by decide +kernel
theorem dX4_rewrite_45 : decode cX4_rewrite 45 = .ok (.goto 4, 3) := by decide +kernel
theorem dX4_rewrite_48 : decode cX4_rewrite 48 = .ok (.iconst 0, 1) := by decide +kernel
theorem dX4_rewrite_49 : decode cX4_rewrite 49 = .ok (.iastore, 1) := by decide +kernel
theorem dX4_rewrite_50 : decode cX4_rewrite 50 = .ok (.iinc 2 1, 3) := by decide +kernel
theorem dX4_rewrite_53 : decode cX4_rewrite 53 = .ok (.goto (-29), 3) := by decide +kernel
theorem dX4_rewrite_56 : decode cX4_rewrite 56 = .ok (.aload_n 0, 1) := by decide +kernel
theorem dX4_rewrite_57 : decode cX4_rewrite 57 = .ok (.iconst 2, 1) := by decide +kernel
theorem dX4_rewrite_58 : decode cX4_rewrite 58 = .ok (.invokevirtual 65, 3) := by decide +kernel
theorem dX4_rewrite_61 : decode cX4_rewrite 61 = .ok (.ireturn, 1) := by decide +kernel
theorem dX4_cancel_0 : decode cX4_cancel 0 = .ok (.iload_n 1, 1) := by decide +kernel
theorem dX4_cancel_1 : decode cX4_cancel 1 = .ok (.iconst 3, 1) := by decide +kernel
theorem dX4_cancel_2 : decode cX4_cancel 2 = .ok (.invokestatic 53, 3) := by decide +kernel
theorem dX4_cancel_5 : decode cX4_cancel 5 = .ok (.iload_n 2, 1) := by decide +kernel
theorem dX4_cancel_6 : decode cX4_cancel 6 = .ok (.iconst 3, 1) := by decide +kernel
theorem dX4_cancel_7 : decode cX4_cancel 7 = .ok (.invokestatic 53, 3) := by decide +kernel
theorem dX4_cancel_10 : decode cX4_cancel 10 = .ok (.aload_n 0, 1) := by decide +kernel
theorem dX4_cancel_11 : decode cX4_cancel 11 = .ok (.invokevirtual 87, 3) := by decide +kernel
theorem dX4_cancel_14 : decode cX4_cancel 14 = .ok (.iconst 0, 1) := by decide +kernel
theorem dX4_cancel_15 : decode cX4_cancel 15 = .ok (.istore_n 3, 1) := by decide +kernel
theorem dX4_cancel_16 : decode cX4_cancel 16 = .ok (.iconst 0, 1) := by decide +kernel
theorem dX4_cancel_17 : decode cX4_cancel 17 = .ok (.istore 4, 2) := by decide +kernel
theorem dX4_cancel_19 : decode cX4_cancel 19 = .ok (.iload 4, 2) := by decide +kernel
theorem dX4_cancel_21 : decode cX4_cancel 21 = .ok (.bipush 8, 2) := by decide +kernel
theorem dX4_cancel_23 : decode cX4_cancel 23 = .ok (.if_icmp .ge 85, 3) := by decide +kernel
theorem dX4_cancel_26 : decode cX4_cancel 26 = .ok (.aload_n 0, 1) := by decide +kernel
theorem dX4_cancel_27 : decode cX4_cancel 27 = .ok (.getfield 9, 3) := by decide +kernel
theorem dX4_cancel_30 : decode cX4_cancel 30 = .ok (.iload_n 1, 1) := by decide +kernel
theorem dX4_cancel_31 : decode cX4_cancel 31 = .ok (.bipush 8, 2) := by decide +kernel
theorem dX4_cancel_33 : decode cX4_cancel 33 = .ok (.imul, 1) := by decide +kernel
theorem dX4_cancel_34 : decode cX4_cancel 34 = .ok (.iload 4, 2) := by decide +kernel
theorem dX4_cancel_36 : decode cX4_cancel 36 = .ok (.iadd, 1) := by decide +kernel
theorem dX4_cancel_37 : decode cX4_cancel 37 = .ok (.iaload, 1) := by decide +kernel
theorem dX4_cancel_38 : decode cX4_cancel 38 = .ok (.istore 5, 2) := by decide +kernel
theorem dX4_cancel_40 : decode cX4_cancel 40 = .ok (.aload_n 0, 1) := by decide +kernel
theorem dX4_cancel_41 : decode cX4_cancel 41 = .ok (.getfield 9, 3) := by decide +kernel
theorem dX4_cancel_44 : decode cX4_cancel 44 = .ok (.iload_n 2, 1) := by decide +kernel
theorem dX4_cancel_45 : decode cX4_cancel 45 = .ok (.bipush 8, 2) := by decide +kernel
theorem dX4_cancel_47 : decode cX4_cancel 47 = .ok (.imul, 1) := by decide +kernel
theorem dX4_cancel_48 : decode cX4_cancel 48 = .ok (.iload 4, 2) := by decide +kernel
theorem dX4_cancel_50 : decode cX4_cancel 50 = .ok (.iadd, 1) := by decide +kernel
theorem dX4_cancel_51 : decode cX4_cancel 51 = .ok (.iaload, 1) := by decide +kernel
theorem dX4_cancel_52 : decode cX4_cancel 52 = .ok (.istore 6, 2) := by decide +kernel
theorem dX4_cancel_54 : decode cX4_cancel 54 = .ok (.iload 5, 2) := by decide +kernel
theorem dX4_cancel_56 : decode cX4_cancel 56 = .ok (.iload 6, 2) := by decide +kernel
theorem dX4_cancel_58 : decode cX4_cancel 58 = .ok (.invokestatic 90, 3) := by decide +kernel
theorem dX4_cancel_61 : decode cX4_cancel 61 = .ok (.istore 7, 2) := by decide +kernel
theorem dX4_cancel_63 : decode cX4_cancel 63 = .ok (.aload_n 0, 1) := by decide +kernel
theorem dX4_cancel_64 : decode cX4_cancel 64 = .ok (.getfield 9, 3) := by decide +kernel
theorem dX4_cancel_67 : decode cX4_cancel 67 = .ok (.iload_n 1, 1) := by decide +kernel
theorem dX4_cancel_68 : decode cX4_cancel 68 = .ok (.bipush 8, 2) := by decide +kernel
theorem dX4_cancel_70 : decode cX4_cancel 70 = .ok (.imul, 1) := by decide +kernel
theorem dX4_cancel_71 : decode cX4_cancel 71 = .ok (.iload 4, 2) := by decide +kernel
theorem dX4_cancel_73 : decode cX4_cancel 73 = .ok (.iadd, 1) := by decide +kernel
theorem dX4_cancel_74 : decode cX4_cancel 74 = .ok (.iload 5, 2) := by decide +kernel
theorem dX4_cancel_76 : decode cX4_cancel 76 = .ok (.iload 7, 2) := by decide +kernel
theorem dX4_cancel_78 : decode cX4_cancel 78 = .ok (.isub, 1) := by decide +kernel
theorem dX4_cancel_79 : decode cX4_cancel 79 = .ok (.iastore, 1) := by decide +kernel
theorem dX4_cancel_80 : decode cX4_cancel 80 = .ok (.aload_n 0, 1) := by decide +kernel
theorem dX4_cancel_81 : decode cX4_cancel 81 = .ok (.getfield 9, 3) := by decide +kernel
theorem dX4_cancel_84 : decode cX4_cancel 84 = .ok (.iload_n 2, 1) := by decide +kernel
theorem dX4_cancel_85 : decode cX4_cancel 85 = .ok (.bipush 8, 2) := by decide +kernel
theorem dX4_cancel_87 : decode cX4_cancel 87 = .ok (.imul, 1) := by decide +kernel
theorem dX4_cancel_88 : decode cX4_cancel 88 = .ok (.iload 4, 2) := by decide +kernel
theorem dX4_cancel_90 : decode cX4_cancel 90 = .ok (.iadd, 1) := by decide +kernel
theorem dX4_cancel_91 : decode cX4_cancel 91 = .ok (.iload 6, 2) := by decide +kernel
theorem dX4_cancel_93 : decode cX4_cancel 93 = .ok (.iload 7, 2) := by decide +kernel
theorem dX4_cancel_95 : decode cX4_cancel 95 = .ok (.isub, 1) := by decide +kernel
theorem dX4_cancel_96 : decode cX4_cancel 96 = .ok (.iastore, 1) := by decide +kernel
theorem dX4_cancel_97 : decode cX4_cancel 97 = .ok (.iload_n 3, 1) := by decide +kernel
theorem dX4_cancel_98 : decode cX4_cancel 98 = .ok (.iload 7, 2) := by decide +kernel
theorem dX4_cancel_100 : decode cX4_cancel 100 = .ok (.iadd, 1) := by decide +kernel
theorem dX4_cancel_101 : decode cX4_cancel 101 = .ok (.istore_n 3, 1) := by decide +kernel
theorem dX4_cancel_102 : decode cX4_cancel 102 = .ok (.iinc 4 1, 3) := by decide +kernel
theorem dX4_cancel_105 : decode cX4_cancel 105 = .ok (.goto (-86), 3) := by decide +kernel
theorem dX4_cancel_108 : decode cX4_cancel 108 = .ok (.iload_n 3, 1) := by decide +kernel
theorem dX4_cancel_109 : decode cX4_cancel 109 = .ok (.ireturn, 1) := by decide +kernel
theorem dX4_set_0 : decode cX4_set 0 = .ok (.iload_n 1, 1) := by decide +kernel
theorem dX4_set_1 : decode cX4_set 1 = .ok (.iconst 2, 1) := by decide +kernel
theorem dX4_set_2 : decode cX4_set 2 = .ok (.invokestatic 53, 3) := by decide +kernel
theorem dX4_set_5 : decode cX4_set 5 = .ok (.iload_n 2, 1) := by decide +kernel
theorem dX4_set_6 : decode cX4_set 6 = .ok (.iconst 0, 1) := by decide +kernel
theorem dX4_set_7 : decode cX4_set 7 = .ok (.iload_n 1, 1) := by decide +kernel
theorem dX4_set_8 : decode cX4_set 8 = .ok (.ifCond .ne 7, 3) := by decide +kernel
theorem dX4_set_11 : decode cX4_set 11 = .ok (.iconst 1, 1) := by decide +kernel
theorem dX4_set_12 : decode cX4_set 12 = .ok (.goto 5, 3) := by decide +kernel
theorem dX4_set_15 : decode cX4_set 15 = .ok (.bipush 9, 2) := by decide +kernel
theorem dX4_set_17 : decode cX4_set 17 = .ok (.invokestatic 57, 3) := by decide +kernel
theorem dX4_set_20 : decode cX4_set 20 = .ok (.aload_n 0, 1) := by decide +kernel
theorem dX4_set_21 : decode cX4_set 21 = .ok (.bipush 24, 2) := by decide +kernel
theorem dX4_set_23 : decode cX4_set 23 = .ok (.iload_n 1, 1) := by decide +kernel
theorem dX4_set_24 : decode cX4_set 24 = .ok (.iadd, 1) := by decide +kernel
theorem dX4_set_25 : decode cX4_set 25 = .ok (.iload_n 2, 1) := by decide +kernel
theorem dX4_set_26 : decode cX4_set 26 = .ok (.invokevirtual 61, 3) := by decide +kernel
theorem dX4_set_29 : decode cX4_set 29 = .ok (.ireturn, 1) := by decide +kernel
theorem dX4_append_0 : decode cX4_append 0 = .ok (.iload_n 1, 1) := by decide +kernel
theorem dX4_append_1 : decode cX4_append 1 = .ok (.bipush 33, 2) := by decide +kernel
theorem dX4_append_3 : decode cX4_append 3 = .ok (.bipush 126, 2) := by decide +kernel
theorem dX4_append_5 : decode cX4_append 5 = .ok (.invokestatic 57, 3) := by decide +kernel
theorem dX4_append_8 : decode cX4_append 8 = .ok (.aload_n 0, 1) := by decide +kernel
theorem dX4_append_9 : decode cX4_append 9 = .ok (.getfield 35, 3) := by decide +kernel
theorem dX4_append_12 : decode cX4_append 12 = .ok (.invokevirtual 95, 3) := by decide +kernel
theorem dX4_append_15 : decode cX4_append 15 = .ok (.ifCond .eq 13, 3) := by decide +kernel
theorem dX4_append_18 : decode cX4_append 18 = .ok (.new 77, 3) := by decide +kernel
theorem dX4_append_21 : decode cX4_append 21 = .ok (.dup, 1) := by decide +kernel
theorem dX4_append_22 : decode cX4_append 22 = .ok (.ldc 98, 2) := by decide +kernel
theorem dX4_append_24 : decode cX4_append 24 = .ok (.invokespecial 81, 3) := by decide +kernel
theorem dX4_append_27 : decode cX4_append 27 = .ok (.athrow, 1) := by decide +kernel
theorem dX4_append_28 : decode cX4_append 28 = .ok (.aload_n 0, 1) := by decide +kernel
theorem dX4_append_29 : decode cX4_append 29 = .ok (.getfield 35, 3) := by decide +kernel
theorem dX4_append_32 : decode cX4_append 32 = .ok (.iload_n 1, 1) := by decide +kernel
theorem dX4_append_33 : decode cX4_append 33 = .ok (.invokevirtual 100, 3) := by decide +kernel
theorem dX4_append_36 : decode cX4_append 36 = .ok (.aload_n 0, 1) := by decide +kernel
theorem dX4_append_37 : decode cX4_append 37 = .ok (.getfield 35, 3) := by decide +kernel
theorem dX4_append_40 : decode cX4_append 40 = .ok (.invokevirtual 103, 3) := by decide +kernel
theorem dX4_append_43 : decode cX4_append 43 = .ok (.ireturn, 1) := by decide +kernel
theorem dX4_clearBuffer_0 : decode cX4_clearBuffer 0 = .ok (.aload_n 0, 1) := by decide +kernel
theorem dX4_clearBuffer_1 : decode cX4_clearBuffer 1 = .ok (.getfield 35, 3) := by decide +kernel
theorem dX4_clearBuffer_4 : decode cX4_clearBuffer 4 = .ok (.invokevirtual 103, 3) := by decide +kernel
theorem dX4_clearBuffer_7 : decode cX4_clearBuffer 7 = .ok (.istore_n 1, 1) := by decide +kernel
theorem dX4_clearBuffer_8 : decode cX4_clearBuffer 8 = .ok (.aload_n 0, 1) := by decide +kernel
theorem dX4_clearBuffer_9 : decode cX4_clearBuffer 9 = .ok (.getfield 35, 3) := by decide +kernel
theorem dX4_clearBuffer_12 : decode cX4_clearBuffer 12 = .ok (.invokevirtual 107, 3) := by decide +kernel
theorem dX4_clearBuffer_15 : decode cX4_clearBuffer 15 = .ok (.iload_n 1, 1) := by decide +kernel
theorem dX4_clearBuffer_16 : decode cX4_clearBuffer 16 = .ok (.ireturn, 1) := by decide +kernel
theorem dX4_firstError_0 : decode cX4_firstError 0 = .ok (.aload_n 0, 1) := by decide +kernel
theorem dX4_firstError_1 : decode cX4_firstError 1 = .ok (.getfield 35, 3) := by decide +kernel
theorem dX4_firstError_4 : decode cX4_firstError 4 = .ok (.invokevirtual 110, 3) := by decide +kernel
theorem dX4_firstError_7 : decode cX4_firstError 7 = .ok (.ireturn, 1) := by decide +kernel
theorem dX4_read_0 : decode cX4_read 0 = .ok (.iload_n 1, 1) := by decide +kernel
theorem dX4_read_1 : decode cX4_read 1 = .ok (.iconst 3, 1) := by decide +kernel
theorem dX4_read_2 : decode cX4_read 2 = .ok (.invokestatic 53, 3) := by decide +kernel
theorem dX4_read_5 : decode cX4_read 5 = .ok (.aload_n 0, 1) := by decide +kernel
theorem dX4_read_6 : decode cX4_read 6 = .ok (.getfield 35, 3) := by decide +kernel
theorem dX4_read_9 : decode cX4_read 9 = .ok (.invokevirtual 113, 3) := by decide +kernel
theorem dX4_read_12 : decode cX4_read 12 = .ok (.ifCond .ne 13, 3) := by decide +kernel
theorem dX4_read_15 : decode cX4_read 15 = .ok (.new 116, 3) := by decide +kernel
theorem dX4_read_18 : decode cX4_read 18 = .ok (.dup, 1) := by decide +kernel
theorem dX4_read_19 : decode cX4_read 19 = .ok (.ldc 118, 2) := by decide +kernel
theorem dX4_read_21 : decode cX4_read 21 = .ok (.invokespecial 120, 3) := by decide +kernel
theorem dX4_read_24 : decode cX4_read 24 = .ok (.athrow, 1) := by decide +kernel
theorem dX4_read_25 : decode cX4_read 25 = .ok (.aload_n 0, 1) := by decide +kernel
theorem dX4_read_26 : decode cX4_read 26 = .ok (.getfield 35, 3) := by decide +kernel
theorem dX4_read_29 : decode cX4_read 29 = .ok (.aload_n 0, 1) := by decide +kernel
theorem dX4_read_30 : decode cX4_read 30 = .ok (.getfield 13, 3) := by decide +kernel
theorem dX4_read_33 : decode cX4_read 33 = .ok (.invokevirtual 121, 3) := by decide +kernel
theorem dX4_read_36 : decode cX4_read 36 = .ok (.aload_n 0, 1) := by decide +kernel
theorem dX4_read_37 : decode cX4_read 37 = .ok (.iload_n 1, 1) := by decide +kernel
theorem dX4_read_38 : decode cX4_read 38 = .ok (.invokevirtual 65, 3) := by decide +kernel
theorem dX4_read_41 : decode cX4_read 41 = .ok (.istore_n 2, 1) := by decide +kernel
theorem dX4_read_42 : decode cX4_read 42 = .ok (.aload_n 0, 1) := by decide +kernel
theorem dX4_read_43 : decode cX4_read 43 = .ok (.getfield 35, 3) := by decide +kernel
theorem dX4_read_46 : decode cX4_read 46 = .ok (.invokevirtual 107, 3) := by decide +kernel
theorem dX4_read_49 : decode cX4_read 49 = .ok (.iload_n 2, 1) := by decide +kernel
theorem dX4_read_50 : decode cX4_read 50 = .ok (.ireturn, 1) := by decide +kernel
theorem dX4_take_0 : decode cX4_take 0 = .ok (.iload_n 1, 1) := by decide +kernel
theorem dX4_take_1 : decode cX4_take 1 = .ok (.iconst 2, 1) := by decide +kernel
theorem dX4_take_2 : decode cX4_take 2 = .ok (.invokestatic 53, 3) := by decide +kernel
theorem dX4_take_5 : decode cX4_take 5 = .ok (.aload_n 0, 1) := by decide +kernel
theorem dX4_take_6 : decode cX4_take 6 = .ok (.getfield 9, 3) := by decide +kernel
theorem dX4_take_9 : decode cX4_take 9 = .ok (.iconst 0, 1) := by decide +kernel
theorem dX4_take_10 : decode cX4_take 10 = .ok (.aload_n 0, 1) := by decide +kernel
theorem dX4_take_11 : decode cX4_take 11 = .ok (.getfield 18, 3) := by decide +kernel
theorem dX4_take_14 : decode cX4_take 14 = .ok (.iload_n 1, 1) := by decide +kernel
theorem dX4_take_15 : decode cX4_take 15 = .ok (.aaload, 1) := by decide +kernel
theorem dX4_take_16 : decode cX4_take 16 = .ok (.iconst 0, 1) := by decide +kernel
theorem dX4_take_17 : decode cX4_take 17 = .ok (.bipush 24, 2) := by decide +kernel
theorem dX4_take_19 : decode cX4_take 19 = .ok (.invokestatic 125, 3) := by decide +kernel
theorem dX4_take_22 : decode cX4_take 22 = .ok (.aload_n 0, 1) := by decide +kernel
theorem dX4_take_23 : decode cX4_take 23 = .ok (.getfield 21, 3) := by decide +kernel
theorem dX4_take_26 : decode cX4_take 26 = .ok (.iload_n 1, 1) := by decide +kernel
theorem dX4_take_27 : decode cX4_take 27 = .ok (.iconst 1, 1) := by decide +kernel
theorem dX4_take_28 : decode cX4_take 28 = .ok (.bastore, 1) := by decide +kernel
theorem dX4_take_29 : decode cX4_take 29 = .ok (.aload_n 0, 1) := by decide +kernel
theorem dX4_take_30 : decode cX4_take 30 = .ok (.invokevirtual 131, 3) := by decide +kernel
theorem dX4_take_33 : decode cX4_take 33 = .ok (.ireturn, 1) := by decide +kernel
theorem dX4_restore_0 : decode cX4_restore 0 = .ok (.iload_n 1, 1) := by decide +kernel
theorem dX4_restore_1 : decode cX4_restore 1 = .ok (.iconst 2, 1) := by decide +kernel
theorem dX4_restore_2 : decode cX4_restore 2 = .ok (.invokestatic 53, 3) := by decide +kernel
theorem dX4_restore_5 : decode cX4_restore 5 = .ok (.aload_n 0, 1) := by decide +kernel
theorem dX4_restore_6 : decode cX4_restore 6 = .ok (.getfield 21, 3) := by decide +kernel
theorem dX4_restore_9 : decode cX4_restore 9 = .ok (.iload_n 1, 1) := by decide +kernel
theorem dX4_restore_10 : decode cX4_restore 10 = .ok (.baload, 1) := by decide +kernel
theorem dX4_restore_11 : decode cX4_restore 11 = .ok (.ifCond .ne 13, 3) := by decide +kernel
theorem dX4_restore_14 : decode cX4_restore 14 = .ok (.new 77, 3) := by decide +kernel
theorem dX4_restore_17 : decode cX4_restore 17 = .ok (.dup, 1) := by decide +kernel
theorem dX4_restore_18 : decode cX4_restore 18 = .ok (.ldc 134, 2) := by decide +kernel
theorem dX4_restore_20 : decode cX4_restore 20 = .ok (.invokespecial 81, 3) := by decide +kernel
theorem dX4_restore_23 : decode cX4_restore 23 = .ok (.athrow, 1) := by decide +kernel
theorem dX4_restore_24 : decode cX4_restore 24 = .ok (.aload_n 0, 1) := by decide +kernel
theorem dX4_restore_25 : decode cX4_restore 25 = .ok (.invokevirtual 87, 3) := by decide +kernel
theorem dX4_restore_28 : decode cX4_restore 28 = .ok (.aload_n 0, 1) := by decide +kernel
theorem dX4_restore_29 : decode cX4_restore 29 = .ok (.getfield 18, 3) := by decide +kernel
theorem dX4_restore_32 : decode cX4_restore 32 = .ok (.iload_n 1, 1) := by decide +kernel
theorem dX4_restore_33 : decode cX4_restore 33 = .ok (.aaload, 1) := by decide +kernel
theorem dX4_restore_34 : decode cX4_restore 34 = .ok (.iconst 0, 1) := by decide +kernel
theorem dX4_restore_35 : decode cX4_restore 35 = .ok (.aload_n 0, 1) := by decide +kernel
theorem dX4_restore_36 : decode cX4_restore 36 = .ok (.getfield 9, 3) := by decide +kernel
theorem dX4_restore_39 : decode cX4_restore 39 = .ok (.iconst 0, 1) := by decide +kernel
theorem dX4_restore_40 : decode cX4_restore 40 = .ok (.bipush 24, 2) := by decide +kernel
theorem dX4_restore_42 : decode cX4_restore 42 = .ok (.invokestatic 125, 3) := by decide +kernel
theorem dX4_restore_45 : decode cX4_restore 45 = .ok (.aload_n 0, 1) := by decide +kernel
theorem dX4_restore_46 : decode cX4_restore 46 = .ok (.invokevirtual 131, 3) := by decide +kernel
theorem dX4_restore_49 : decode cX4_restore 49 = .ok (.ireturn, 1) := by decide +kernel
theorem dX4_undo_0 : decode cX4_undo 0 = .ok (.aload_n 0, 1) := by decide +kernel
theorem dX4_undo_1 : decode cX4_undo 1 = .ok (.getfield 28, 3) := by decide +kernel
theorem dX4_undo_4 : decode cX4_undo 4 = .ok (.invokevirtual 136, 3) := by decide +kernel
theorem dX4_undo_7 : decode cX4_undo 7 = .ok (.ifCond .ne 13, 3) := by decide +kernel
theorem dX4_undo_10 : decode cX4_undo 10 = .ok (.new 77, 3) := by decide +kernel
theorem dX4_undo_13 : decode cX4_undo 13 = .ok (.dup, 1) := by decide +kernel
theorem dX4_undo_14 : decode cX4_undo 14 = .ok (.ldc 137, 2) := by decide +kernel
theorem dX4_undo_16 : decode cX4_undo 16 = .ok (.invokespecial 81, 3) := by decide +kernel
theorem dX4_undo_19 : decode cX4_undo 19 = .ok (.athrow, 1) := by decide +kernel
theorem dX4_undo_20 : decode cX4_undo 20 = .ok (.aload_n 0, 1) := by decide +kernel
theorem dX4_undo_21 : decode cX4_undo 21 = .ok (.getfield 28, 3) := by decide +kernel
theorem dX4_undo_24 : decode cX4_undo 24 = .ok (.aload_n 0, 1) := by decide +kernel
theorem dX4_undo_25 : decode cX4_undo 25 = .ok (.getfield 9, 3) := by decide +kernel
theorem dX4_undo_28 : decode cX4_undo 28 = .ok (.invokevirtual 139, 3) := by decide +kernel
theorem dX4_undo_31 : decode cX4_undo 31 = .ok (.aload_n 0, 1) := by decide +kernel
theorem dX4_undo_32 : decode cX4_undo 32 = .ok (.invokevirtual 142, 3) := by decide +kernel
theorem dX4_undo_35 : decode cX4_undo 35 = .ok (.aload_n 0, 1) := by decide +kernel
theorem dX4_undo_36 : decode cX4_undo 36 = .ok (.getfield 28, 3) := by decide +kernel
theorem dX4_undo_39 : decode cX4_undo 39 = .ok (.invokevirtual 136, 3) := by decide +kernel
theorem dX4_undo_42 : decode cX4_undo 42 = .ok (.ireturn, 1) := by decide +kernel
theorem dX4_times_0 : decode cX4_times 0 = .ok (.iload_n 1, 1) := by decide +kernel
theorem dX4_times_1 : decode cX4_times 1 = .ok (.iconst 3, 1) := by decide +kernel
theorem dX4_times_2 : decode cX4_times 2 = .ok (.invokestatic 53, 3) := by decide +kernel
theorem dX4_times_5 : decode cX4_times 5 = .ok (.iload_n 2, 1) := by decide +kernel
theorem dX4_times_6 : decode cX4_times 6 = .ok (.bipush 8, 2) := by decide +kernel
theorem dX4_times_8 : decode cX4_times 8 = .ok (.invokestatic 53, 3) := by decide +kernel
theorem dX4_times_11 : decode cX4_times 11 = .ok (.aload_n 0, 1) := by decide +kernel
theorem dX4_times_12 : decode cX4_times 12 = .ok (.getfield 9, 3) := by decide +kernel
theorem dX4_times_15 : decode cX4_times 15 = .ok (.iload_n 1, 1) := by decide +kernel
theorem dX4_times_16 : decode cX4_times 16 = .ok (.bipush 8, 2) := by decide +kernel
theorem dX4_times_18 : decode cX4_times 18 = .ok (.imul, 1) := by decide +kernel
theorem dX4_times_19 : decode cX4_times 19 = .ok (.iload_n 2, 1) := by decide +kernel
theorem dX4_times_20 : decode cX4_times 20 = .ok (.iadd, 1) := by decide +kernel
theorem dX4_times_21 : decode cX4_times 21 = .ok (.iaload, 1) := by decide +kernel
theorem dX4_times_22 : decode cX4_times 22 = .ok (.ireturn, 1) := by decide +kernel
theorem dX4_rest_0 : decode cX4_rest 0 = .ok (.iload_n 1, 1) := by decide +kernel
theorem dX4_rest_1 : decode cX4_rest 1 = .ok (.iconst 4, 1) := by decide +kernel
theorem dX4_rest_2 : decode cX4_rest 2 = .ok (.invokestatic 53, 3) := by decide +kernel
theorem dX4_rest_5 : decode cX4_rest 5 = .ok (.aload_n 0, 1) := by decide +kernel
theorem dX4_rest_6 : decode cX4_rest 6 = .ok (.iload_n 1, 1) := by decide +kernel
theorem dX4_rest_7 : decode cX4_rest 7 = .ok (.invokevirtual 145, 3) := by decide +kernel
theorem dX4_rest_10 : decode cX4_rest 10 = .ok (.ireturn, 1) := by decide +kernel
theorem dX4_solutions_0 : decode cX4_solutions 0 = .ok (.iload_n 1, 1) := by decide +kernel
theorem dX4_solutions_1 : decode cX4_solutions 1 = .ok (.iconst 4, 1) := by decide +kernel
theorem dX4_solutions_2 : decode cX4_solutions 2 = .ok (.invokestatic 53, 3) := by decide +kernel
theorem dX4_solutions_5 : decode cX4_solutions 5 = .ok (.aload_n 0, 1) := by decide +kernel
theorem dX4_solutions_6 : decode cX4_solutions 6 = .ok (.getfield 42, 3) := by decide +kernel
theorem dX4_solutions_9 : decode cX4_solutions 9 = .ok (.aload_n 0, 1) := by decide +kernel
theorem dX4_solutions_10 : decode cX4_solutions 10 = .ok (.getfield 9, 3) := by decide +kernel
theorem dX4_solutions_13 : decode cX4_solutions 13 = .ok (.invokevirtual 148, 3) := by decide +kernel
theorem dX4_solutions_16 : decode cX4_solutions 16 = .ok (.aload_n 0, 1) := by decide +kernel
theorem dX4_solutions_17 : decode cX4_solutions 17 = .ok (.getfield 42, 3) := by decide +kernel
theorem dX4_solutions_20 : decode cX4_solutions 20 = .ok (.iload_n 1, 1) := by decide +kernel
theorem dX4_solutions_21 : decode cX4_solutions 21 = .ok (.invokevirtual 151, 3) := by decide +kernel
theorem dX4_solutions_24 : decode cX4_solutions 24 = .ok (.ireturn, 1) := by decide +kernel
theorem dX4_matchers_0 : decode cX4_matchers 0 = .ok (.iload_n 1, 1) := by decide +kernel
theorem dX4_matchers_1 : decode cX4_matchers 1 = .ok (.iconst 0, 1) := by decide +kernel
theorem dX4_matchers_2 : decode cX4_matchers 2 = .ok (.iconst 1, 1) := by decide +kernel
theorem dX4_matchers_3 : decode cX4_matchers 3 = .ok (.invokestatic 57, 3) := by decide +kernel
theorem dX4_matchers_6 : decode cX4_matchers 6 = .ok (.aload_n 0, 1) := by decide +kernel
theorem dX4_matchers_7 : decode cX4_matchers 7 = .ok (.getfield 42, 3) := by decide +kernel
theorem dX4_matchers_10 : decode cX4_matchers 10 = .ok (.aload_n 0, 1) := by decide +kernel
theorem dX4_matchers_11 : decode cX4_matchers 11 = .ok (.getfield 9, 3) := by decide +kernel
theorem dX4_matchers_14 : decode cX4_matchers 14 = .ok (.invokevirtual 148, 3) := by decide +kernel
theorem dX4_matchers_17 : decode cX4_matchers 17 = .ok (.iload_n 1, 1) := by decide +kernel
theorem dX4_matchers_18 : decode cX4_matchers 18 = .ok (.ifCond .ne 13, 3) := by decide +kernel
theorem dX4_matchers_21 : decode cX4_matchers 21 = .ok (.aload_n 0, 1) := by decide +kernel
theorem dX4_matchers_22 : decode cX4_matchers 22 = .ok (.getfield 42, 3) := by decide +kernel
theorem dX4_matchers_25 : decode cX4_matchers 25 = .ok (.invokevirtual 154, 3) := by decide +kernel
theorem dX4_matchers_28 : decode cX4_matchers 28 = .ok (.goto 10, 3) := by decide +kernel
theorem dX4_matchers_31 : decode cX4_matchers 31 = .ok (.aload_n 0, 1) := by decide +kernel
theorem dX4_matchers_32 : decode cX4_matchers 32 = .ok (.getfield 42, 3) := by decide +kernel
theorem dX4_matchers_35 : decode cX4_matchers 35 = .ok (.invokevirtual 158, 3) := by decide +kernel
theorem dX4_matchers_38 : decode cX4_matchers 38 = .ok (.lreturn, 1) := by decide +kernel
theorem dX4_value_0 : decode cX4_value 0 = .ok (.iload_n 2, 1) := by decide +kernel
theorem dX4_value_1 : decode cX4_value 1 = .ok (.iconst 4, 1) := by decide +kernel
theorem dX4_value_2 : decode cX4_value 2 = .ok (.invokestatic 53, 3) := by decide +kernel
theorem dX4_value_5 : decode cX4_value 5 = .ok (.iload_n 3, 1) := by decide +kernel
theorem dX4_value_6 : decode cX4_value 6 = .ok (.iconst 4, 1) := by decide +kernel
theorem dX4_value_7 : decode cX4_value 7 = .ok (.invokestatic 53, 3) := by decide +kernel
theorem dX4_value_10 : decode cX4_value 10 = .ok (.aload_n 0, 1) := by decide +kernel
theorem dX4_value_11 : decode cX4_value 11 = .ok (.iload_n 1, 1) := by decide +kernel
theorem dX4_value_12 : decode cX4_value 12 = .ok (.invokevirtual 69, 3) := by decide +kernel
theorem dX4_value_15 : decode cX4_value 15 = .ok (.aload_n 0, 1) := by decide +kernel
theorem dX4_value_16 : decode cX4_value 16 = .ok (.iload_n 2, 1) := by decide +kernel
theorem dX4_value_17 : decode cX4_value 17 = .ok (.iload_n 3, 1) := by decide +kernel
theorem dX4_value_18 : decode cX4_value 18 = .ok (.invokevirtual 161, 3) := by decide +kernel
theorem dX4_value_21 : decode cX4_value 21 = .ok (.ireturn, 1) := by decide +kernel
theorem dX4_least_0 : decode cX4_least 0 = .ok (.iload_n 2, 1) := by decide +kernel
theorem dX4_least_1 : decode cX4_least 1 = .ok (.iconst 4, 1) := by decide +kernel
theorem dX4_least_2 : decode cX4_least 2 = .ok (.invokestatic 53, 3) := by decide +kernel
theorem dX4_least_5 : decode cX4_least 5 = .ok (.iload_n 1, 1) := by decide +kernel
theorem dX4_least_6 : decode cX4_least 6 = .ok (.ifCond .ge 13, 3) := by decide +kernel
theorem dX4_least_9 : decode cX4_least 9 = .ok (.new 116, 3) := by decide +kernel
theorem dX4_least_12 : decode cX4_least 12 = .ok (.dup, 1) := by decide +kernel
theorem dX4_least_13 : decode cX4_least 13 = .ok (.ldc 164, 2) := by decide +kernel
theorem dX4_least_15 : decode cX4_least 15 = .ok (.invokespecial 120, 3) := by decide +kernel
theorem dX4_least_18 : decode cX4_least 18 = .ok (.athrow, 1) := by decide +kernel
theorem dX4_least_19 : decode cX4_least 19 = .ok (.aload_n 0, 1) := by decide +kernel
theorem dX4_least_20 : decode cX4_least 20 = .ok (.getfield 49, 3) := by decide +kernel
theorem dX4_least_23 : decode cX4_least 23 = .ok (.aload_n 0, 1) := by decide +kernel
theorem dX4_least_24 : decode cX4_least 24 = .ok (.getfield 9, 3) := by decide +kernel
theorem dX4_least_27 : decode cX4_least 27 = .ok (.invokevirtual 166, 3) := by decide +kernel
theorem dX4_least_30 : decode cX4_least 30 = .ok (.aload_n 0, 1) := by decide +kernel
theorem dX4_least_31 : decode cX4_least 31 = .ok (.getfield 49, 3) := by decide +kernel
theorem dX4_least_34 : decode cX4_least 34 = .ok (.iload_n 1, 1) := by decide +kernel
theorem dX4_least_35 : decode cX4_least 35 = .ok (.iload_n 2, 1) := by decide +kernel
theorem dX4_least_36 : decode cX4_least 36 = .ok (.invokevirtual 167, 3) := by decide +kernel
theorem dX4_least_39 : decode cX4_least 39 = .ok (.ireturn, 1) := by decide +kernel
theorem dX4_sums_0 : decode cX4_sums 0 = .ok (.iload_n 1, 1) := by decide +kernel
theorem dX4_sums_1 : decode cX4_sums 1 = .ok (.iconst 0, 1) := by decide +kernel
theorem dX4_sums_2 : decode cX4_sums 2 = .ok (.bipush 6, 2) := by decide +kernel
theorem dX4_sums_4 : decode cX4_sums 4 = .ok (.invokestatic 57, 3) := by decide +kernel
theorem dX4_sums_7 : decode cX4_sums 7 = .ok (.iload_n 2, 1) := by decide +kernel
theorem dX4_sums_8 : decode cX4_sums 8 = .ok (.iconst 0, 1) := by decide +kernel
theorem dX4_sums_9 : decode cX4_sums 9 = .ok (.bipush 6, 2) := by decide +kernel
theorem dX4_sums_11 : decode cX4_sums 11 = .ok (.invokestatic 57, 3) := by decide +kernel
theorem dX4_sums_14 : decode cX4_sums 14 = .ok (.iload_n 3, 1) := by decide +kernel
theorem dX4_sums_15 : decode cX4_sums 15 = .ok (.iconst 0, 1) := by decide +kernel
theorem dX4_sums_16 : decode cX4_sums 16 = .ok (.bipush 6, 2) := by decide +kernel
theorem dX4_sums_18 : decode cX4_sums 18 = .ok (.invokestatic 57, 3) := by decide +kernel
theorem dX4_sums_21 : decode cX4_sums 21 = .ok (.iload 4, 2) := by decide +kernel
theorem dX4_sums_23 : decode cX4_sums 23 = .ok (.iconst 0, 1) := by decide +kernel
theorem dX4_sums_24 : decode cX4_sums 24 = .ok (.bipush 6, 2) := by decide +kernel
theorem dX4_sums_26 : decode cX4_sums 26 = .ok (.invokestatic 57, 3) := by decide +kernel
theorem dX4_sums_29 : decode cX4_sums 29 = .ok (.aload_n 0, 1) := by decide +kernel
theorem dX4_sums_30 : decode cX4_sums 30 = .ok (.getfield 49, 3) := by decide +kernel
theorem dX4_sums_33 : decode cX4_sums 33 = .ok (.aload_n 0, 1) := by decide +kernel
theorem dX4_sums_34 : decode cX4_sums 34 = .ok (.getfield 9, 3) := by decide +kernel
theorem dX4_sums_37 : decode cX4_sums 37 = .ok (.invokevirtual 166, 3) := by decide +kernel
theorem dX4_sums_40 : decode cX4_sums 40 = .ok (.aload_n 0, 1) := by decide +kernel
theorem dX4_sums_41 : decode cX4_sums 41 = .ok (.getfield 49, 3) := by decide +kernel
theorem dX4_sums_44 : decode cX4_sums 44 = .ok (.iload_n 1, 1) := by decide +kernel
theorem dX4_sums_45 : decode cX4_sums 45 = .ok (.iload_n 2, 1) := by decide +kernel
theorem dX4_sums_46 : decode cX4_sums 46 = .ok (.iload_n 3, 1) := by decide +kernel
theorem dX4_sums_47 : decode cX4_sums 47 = .ok (.iload 4, 2) := by decide +kernel
theorem dX4_sums_49 : decode cX4_sums 49 = .ok (.invokevirtual 170, 3) := by decide +kernel
theorem dX4_sums_52 : decode cX4_sums 52 = .ok (.ireturn, 1) := by decide +kernel
theorem dX4_count_0 : decode cX4_count 0 = .ok (.iload_n 1, 1) := by decide +kernel
theorem dX4_count_1 : decode cX4_count 1 = .ok (.iconst 0, 1) := by decide +kernel
theorem dX4_count_2 : decode cX4_count 2 = .ok (.bipush 10, 2) := by decide +kernel
theorem dX4_count_4 : decode cX4_count 4 = .ok (.invokestatic 57, 3) := by decide +kernel
theorem dX4_count_7 : decode cX4_count 7 = .ok (.aload_n 0, 1) := by decide +kernel
theorem dX4_count_8 : decode cX4_count 8 = .ok (.getfield 49, 3) := by decide +kernel
theorem dX4_count_11 : decode cX4_count 11 = .ok (.aload_n 0, 1) := by decide +kernel
theorem dX4_count_12 : decode cX4_count 12 = .ok (.getfield 9, 3) := by decide +kernel
theorem dX4_count_15 : decode cX4_count 15 = .ok (.invokevirtual 166, 3) := by decide +kernel
theorem dX4_count_18 : decode cX4_count 18 = .ok (.iload_n 1, 1) := by decide +kernel
theorem dX4_count_19 : decode cX4_count 19 = .ok (.tableswitch 133 0 9 #[53, 53, 53, 59, 64, 72, 80, 85, 98, 103], 53) := by decide +kernel
theorem dX4_count_72 : decode cX4_count 72 = .ok (.aload_n 0, 1) := by decide +kernel
theorem dX4_count_73 : decode cX4_count 73 = .ok (.iload_n 1, 1) := by decide +kernel
theorem dX4_count_74 : decode cX4_count 74 = .ok (.invokevirtual 174, 3) := by decide +kernel
theorem dX4_count_77 : decode cX4_count 77 = .ok (.ireturn, 1) := by decide +kernel
theorem dX4_count_78 : decode cX4_count 78 = .ok (.aload_n 0, 1) := by decide +kernel
theorem dX4_count_79 : decode cX4_count 79 = .ok (.invokevirtual 177, 3) := by decide +kernel
theorem dX4_count_82 : decode cX4_count 82 = .ok (.ireturn, 1) := by decide +kernel
theorem dX4_count_83 : decode cX4_count 83 = .ok (.aload_n 0, 1) := by decide +kernel
theorem dX4_count_84 : decode cX4_count 84 = .ok (.getfield 49, 3) := by decide +kernel
theorem dX4_count_87 : decode cX4_count 87 = .ok (.invokevirtual 180, 3) := by decide +kernel
theorem dX4_count_90 : decode cX4_count 90 = .ok (.ireturn, 1) := by decide +kernel
theorem dX4_count_91 : decode cX4_count 91 = .ok (.aload_n 0, 1) := by decide +kernel
theorem dX4_count_92 : decode cX4_count 92 = .ok (.getfield 49, 3) := by decide +kernel
theorem dX4_count_95 : decode cX4_count 95 = .ok (.invokevirtual 181, 3) := by decide +kernel
theorem dX4_count_98 : decode cX4_count 98 = .ok (.ireturn, 1) := by decide +kernel
theorem dX4_count_99 : decode cX4_count 99 = .ok (.aload_n 0, 1) := by decide +kernel
theorem dX4_count_100 : decode cX4_count 100 = .ok (.invokevirtual 184, 3) := by decide +kernel
theorem dX4_count_103 : decode cX4_count 103 = .ok (.ireturn, 1) := by decide +kernel
theorem dX4_count_104 : decode cX4_count 104 = .ok (.aload_n 0, 1) := by decide +kernel
theorem dX4_count_105 : decode cX4_count 105 = .ok (.invokevirtual 187, 3) := by decide +kernel
theorem dX4_count_108 : decode cX4_count 108 = .ok (.ifCond .eq 7, 3) := by decide +kernel
theorem dX4_count_111 : decode cX4_count 111 = .ok (.iconst 1, 1) := by decide +kernel
theorem dX4_count_112 : decode cX4_count 112 = .ok (.goto 4, 3) := by decide +kernel
theorem dX4_count_115 : decode cX4_count 115 = .ok (.iconst 0, 1) := by decide +kernel
theorem dX4_count_116 : decode cX4_count 116 = .ok (.ireturn, 1) := by decide +kernel
theorem dX4_count_117 : decode cX4_count 117 = .ok (.aload_n 0, 1) := by decide +kernel
theorem dX4_count_118 : decode cX4_count 118 = .ok (.invokevirtual 190, 3) := by decide +kernel
theorem dX4_count_121 : decode cX4_count 121 = .ok (.ireturn, 1) := by decide +kernel
theorem dX4_count_122 : decode cX4_count 122 = .ok (.aload_n 0, 1) := by decide +kernel
theorem dX4_count_123 : decode cX4_count 123 = .ok (.getfield 21, 3) := by decide +kernel
theorem dX4_count_126 : decode cX4_count 126 = .ok (.iconst 0, 1) := by decide +kernel
theorem dX4_count_127 : decode cX4_count 127 = .ok (.baload, 1) := by decide +kernel
theorem dX4_count_128 : decode cX4_count 128 = .ok (.ifCond .eq 7, 3) := by decide +kernel
theorem dX4_count_131 : decode cX4_count 131 = .ok (.iconst 1, 1) := by decide +kernel
theorem dX4_count_132 : decode cX4_count 132 = .ok (.goto 4, 3) := by decide +kernel
theorem dX4_count_135 : decode cX4_count 135 = .ok (.iconst 0, 1) := by decide +kernel
theorem dX4_count_136 : decode cX4_count 136 = .ok (.aload_n 0, 1) := by decide +kernel
theorem dX4_count_137 : decode cX4_count 137 = .ok (.getfield 21, 3) := by decide +kernel
theorem dX4_count_140 : decode cX4_count 140 = .ok (.iconst 1, 1) := by decide +kernel
theorem dX4_count_141 : decode cX4_count 141 = .ok (.baload, 1) := by decide +kernel
theorem dX4_count_142 : decode cX4_count 142 = .ok (.ifCond .eq 7, 3) := by decide +kernel
theorem dX4_count_145 : decode cX4_count 145 = .ok (.iconst 1, 1) := by decide +kernel
theorem dX4_count_146 : decode cX4_count 146 = .ok (.goto 4, 3) := by decide +kernel
theorem dX4_count_149 : decode cX4_count 149 = .ok (.iconst 0, 1) := by decide +kernel
theorem dX4_count_150 : decode cX4_count 150 = .ok (.iadd, 1) := by decide +kernel
theorem dX4_count_151 : decode cX4_count 151 = .ok (.ireturn, 1) := by decide +kernel
theorem dX4_count_152 : decode cX4_count 152 = .ok (.aload_n 0, 1) := by decide +kernel
theorem dX4_count_153 : decode cX4_count 153 = .ok (.getfield 28, 3) := by decide +kernel
theorem dX4_count_156 : decode cX4_count 156 = .ok (.invokevirtual 136, 3) := by decide +kernel
theorem dX4_count_159 : decode cX4_count 159 = .ok (.ireturn, 1) := by decide +kernel
theorem dX4_setting_0 : decode cX4_setting 0 = .ok (.iload_n 1, 1) := by decide +kernel
theorem dX4_setting_1 : decode cX4_setting 1 = .ok (.iconst 2, 1) := by decide +kernel
theorem dX4_setting_2 : decode cX4_setting 2 = .ok (.invokestatic 53, 3) := by decide +kernel
theorem dX4_setting_5 : decode cX4_setting 5 = .ok (.aload_n 0, 1) := by decide +kernel
theorem dX4_setting_6 : decode cX4_setting 6 = .ok (.getfield 9, 3) := by decide +kernel
theorem dX4_setting_9 : decode cX4_setting 9 = .ok (.bipush 24, 2) := by decide +kernel
theorem dX4_setting_11 : decode cX4_setting 11 = .ok (.iload_n 1, 1) := by decide +kernel
theorem dX4_setting_12 : decode cX4_setting 12 = .ok (.iadd, 1) := by decide +kernel
theorem dX4_setting_13 : decode cX4_setting 13 = .ok (.iaload, 1) := by decide +kernel
theorem dX4_setting_14 : decode cX4_setting 14 = .ok (.ireturn, 1) := by decide +kernel
theorem dX4_ifMore_0 : decode cX4_ifMore 0 = .ok (.iload_n 1, 1) := by decide +kernel
theorem dX4_ifMore_1 : decode cX4_ifMore 1 = .ok (.iconst 4, 1) := by decide +kernel
theorem dX4_ifMore_2 : decode cX4_ifMore 2 = .ok (.invokestatic 53, 3) := by decide +kernel
theorem dX4_ifMore_5 : decode cX4_ifMore 5 = .ok (.iload_n 2, 1) := by decide +kernel
theorem dX4_ifMore_6 : decode cX4_ifMore 6 = .ok (.bipush (-9), 2) := by decide +kernel
theorem dX4_ifMore_8 : decode cX4_ifMore 8 = .ok (.bipush 9, 2) := by decide +kernel
theorem dX4_ifMore_10 : decode cX4_ifMore 10 = .ok (.invokestatic 57, 3) := by decide +kernel
theorem dX4_ifMore_13 : decode cX4_ifMore 13 = .ok (.aload_n 0, 1) := by decide +kernel
theorem dX4_ifMore_14 : decode cX4_ifMore 14 = .ok (.getfield 42, 3) := by decide +kernel
theorem dX4_ifMore_17 : decode cX4_ifMore 17 = .ok (.aload_n 0, 1) := by decide +kernel
theorem dX4_ifMore_18 : decode cX4_ifMore 18 = .ok (.getfield 9, 3) := by decide +kernel
theorem dX4_ifMore_21 : decode cX4_ifMore 21 = .ok (.invokevirtual 148, 3) := by decide +kernel
theorem dX4_ifMore_24 : decode cX4_ifMore 24 = .ok (.aload_n 0, 1) := by decide +kernel
theorem dX4_ifMore_25 : decode cX4_ifMore 25 = .ok (.getfield 42, 3) := by decide +kernel
theorem dX4_ifMore_28 : decode cX4_ifMore 28 = .ok (.iload_n 1, 1) := by decide +kernel
theorem dX4_ifMore_29 : decode cX4_ifMore 29 = .ok (.aload_n 0, 1) := by decide +kernel
theorem dX4_ifMore_30 : decode cX4_ifMore 30 = .ok (.iload_n 1, 1) := by decide +kernel
theorem dX4_ifMore_31 : decode cX4_ifMore 31 = .ok (.invokevirtual 145, 3) := by decide +kernel
theorem dX4_ifMore_34 : decode cX4_ifMore 34 = .ok (.iload_n 2, 1) := by decide +kernel
theorem dX4_ifMore_35 : decode cX4_ifMore 35 = .ok (.iadd, 1) := by decide +kernel
theorem dX4_ifMore_36 : decode cX4_ifMore 36 = .ok (.invokevirtual 193, 3) := by decide +kernel
theorem dX4_ifMore_39 : decode cX4_ifMore 39 = .ok (.lreturn, 1) := by decide +kernel
theorem dX4_ifRewritten_0 : decode cX4_ifRewritten 0 = .ok (.iload_n 2, 1) := by decide +kernel
theorem dX4_ifRewritten_1 : decode cX4_ifRewritten 1 = .ok (.iconst 4, 1) := by decide +kernel
theorem dX4_ifRewritten_2 : decode cX4_ifRewritten 2 = .ok (.invokestatic 53, 3) := by decide +kernel
theorem dX4_ifRewritten_5 : decode cX4_ifRewritten 5 = .ok (.aload_n 0, 1) := by decide +kernel
theorem dX4_ifRewritten_6 : decode cX4_ifRewritten 6 = .ok (.iload_n 1, 1) := by decide +kernel
theorem dX4_ifRewritten_7 : decode cX4_ifRewritten 7 = .ok (.invokevirtual 69, 3) := by decide +kernel
theorem dX4_ifRewritten_10 : decode cX4_ifRewritten 10 = .ok (.aload_n 0, 1) := by decide +kernel
theorem dX4_ifRewritten_11 : decode cX4_ifRewritten 11 = .ok (.invokevirtual 73, 3) := by decide +kernel
theorem dX4_ifRewritten_14 : decode cX4_ifRewritten 14 = .ok (.ifCond .eq 7, 3) := by decide +kernel
theorem dX4_ifRewritten_17 : decode cX4_ifRewritten 17 = .ok (.iconst (-1), 1) := by decide +kernel
theorem dX4_ifRewritten_18 : decode cX4_ifRewritten 18 = .ok (.goto 8, 3) := by decide +kernel
theorem dX4_ifRewritten_21 : decode cX4_ifRewritten 21 = .ok (.aload_n 0, 1) := by decide +kernel
theorem dX4_ifRewritten_22 : decode cX4_ifRewritten 22 = .ok (.iload_n 2, 1) := by decide +kernel
theorem dX4_ifRewritten_23 : decode cX4_ifRewritten 23 = .ok (.invokevirtual 84, 3) := by decide +kernel
theorem dX4_ifRewritten_26 : decode cX4_ifRewritten 26 = .ok (.ireturn, 1) := by decide +kernel
theorem dX4_shortest_0 : decode cX4_shortest 0 = .ok (.iload_n 1, 1) := by decide +kernel
theorem dX4_shortest_1 : decode cX4_shortest 1 = .ok (.iconst 4, 1) := by decide +kernel
theorem dX4_shortest_2 : decode cX4_shortest 2 = .ok (.invokestatic 53, 3) := by decide +kernel
theorem dX4_shortest_5 : decode cX4_shortest 5 = .ok (.aload_n 0, 1) := by decide +kernel
theorem dX4_shortest_6 : decode cX4_shortest 6 = .ok (.iconst 0, 1) := by decide +kernel
theorem dX4_shortest_7 : decode cX4_shortest 7 = .ok (.iload_n 1, 1) := by decide +kernel
theorem dX4_shortest_8 : decode cX4_shortest 8 = .ok (.invokevirtual 197, 3) := by decide +kernel
theorem dX4_shortest_11 : decode cX4_shortest 11 = .ok (.ifCond .ne 5, 3) := by decide +kernel
theorem dX4_shortest_14 : decode cX4_shortest 14 = .ok (.iconst (-1), 1) := by decide +kernel
theorem dX4_shortest_15 : decode cX4_shortest 15 = .ok (.ireturn, 1) := by decide +kernel
theorem dX4_shortest_16 : decode cX4_shortest 16 = .ok (.aload_n 0, 1) := by decide +kernel
theorem dX4_shortest_17 : decode cX4_shortest 17 = .ok (.getfield 42, 3) := by decide +kernel
theorem dX4_shortest_20 : decode cX4_shortest 20 = .ok (.aload_n 0, 1) := by decide +kernel
theorem dX4_shortest_21 : decode cX4_shortest 21 = .ok (.getfield 9, 3) := by decide +kernel
theorem dX4_shortest_24 : decode cX4_shortest 24 = .ok (.invokevirtual 148, 3) := by decide +kernel
theorem dX4_shortest_27 : decode cX4_shortest 27 = .ok (.iconst (-1), 1) := by decide +kernel
theorem dX4_shortest_28 : decode cX4_shortest 28 = .ok (.istore_n 2, 1) := by decide +kernel
theorem dX4_shortest_29 : decode cX4_shortest 29 = .ok (.iconst 0, 1) := by decide +kernel
theorem dX4_shortest_30 : decode cX4_shortest 30 = .ok (.istore_n 3, 1) := by decide +kernel
theorem dX4_shortest_31 : decode cX4_shortest 31 = .ok (.iconst 0, 1) := by decide +kernel
theorem dX4_shortest_32 : decode cX4_shortest 32 = .ok (.istore 4, 2) := by decide +kernel
theorem dX4_shortest_34 : decode cX4_shortest 34 = .ok (.iload 4, 2) := by decide +kernel
theorem dX4_shortest_36 : decode cX4_shortest 36 = .ok (.bipush 20, 2) := by decide +kernel
theorem dX4_shortest_38 : decode cX4_shortest 38 = .ok (.if_icmp .ge 71, 3) := by decide +kernel
theorem dX4_shortest_41 : decode cX4_shortest 41 = .ok (.aload_n 0, 1) := by decide +kernel
theorem dX4_shortest_42 : decode cX4_shortest 42 = .ok (.getfield 42, 3) := by decide +kernel
theorem dX4_shortest_45 : decode cX4_shortest 45 = .ok (.iload 4, 2) := by decide +kernel
theorem dX4_shortest_47 : decode cX4_shortest 47 = .ok (.invokevirtual 201, 3) := by decide +kernel
theorem dX4_shortest_50 : decode cX4_shortest 50 = .ok (.ifCond .eq 59, 3) := by decide +kernel
theorem dX4_shortest_53 : decode cX4_shortest 53 = .ok (.iconst 0, 1) := by decide +kernel
theorem dX4_shortest_54 : decode cX4_shortest 54 = .ok (.istore 5, 2) := by decide +kernel
theorem dX4_shortest_56 : decode cX4_shortest 56 = .ok (.iconst 0, 1) := by decide +kernel
theorem dX4_shortest_57 : decode cX4_shortest 57 = .ok (.istore 6, 2) := by decide +kernel
theorem dX4_shortest_59 : decode cX4_shortest 59 = .ok (.iload 6, 2) := by decide +kernel
theorem dX4_shortest_61 : decode cX4_shortest 61 = .ok (.iconst 4, 1) := by decide +kernel
theorem dX4_shortest_62 : decode cX4_shortest 62 = .ok (.if_icmp .ge 24, 3) := by decide +kernel
theorem dX4_shortest_65 : decode cX4_shortest 65 = .ok (.iload 5, 2) := by decide +kernel
theorem dX4_shortest_67 : decode cX4_shortest 67 = .ok (.aload_n 0, 1) := by decide +kernel
theorem dX4_shortest_68 : decode cX4_shortest 68 = .ok (.getfield 42, 3) := by decide +kernel
theorem dX4_shortest_71 : decode cX4_shortest 71 = .ok (.iload_n 1, 1) := by decide +kernel
theorem dX4_shortest_72 : decode cX4_shortest 72 = .ok (.iload 6, 2) := by decide +kernel
theorem dX4_shortest_74 : decode cX4_shortest 74 = .ok (.invokevirtual 205, 3) := by decide +kernel
theorem dX4_shortest_77 : decode cX4_shortest 77 = .ok (.iadd, 1) := by decide +kernel
theorem dX4_shortest_78 : decode cX4_shortest 78 = .ok (.istore 5, 2) := by decide +kernel
theorem dX4_shortest_80 : decode cX4_shortest 80 = .ok (.iinc 6 1, 3) := by decide +kernel
theorem dX4_shortest_83 : decode cX4_shortest 83 = .ok (.goto (-24), 3) := by decide +kernel
theorem dX4_shortest_86 : decode cX4_shortest 86 = .ok (.iload_n 2, 1) := by decide +kernel
theorem dX4_shortest_87 : decode cX4_shortest 87 = .ok (.iconst (-1), 1) := by decide +kernel
theorem dX4_shortest_88 : decode cX4_shortest 88 = .ok (.if_icmp .eq 9, 3) := by decide +kernel
theorem dX4_shortest_91 : decode cX4_shortest 91 = .ok (.iload 5, 2) := by decide +kernel
theorem dX4_shortest_93 : decode cX4_shortest 93 = .ok (.iload_n 3, 1) := by decide +kernel
theorem dX4_shortest_94 : decode cX4_shortest 94 = .ok (.if_icmp .ge 9, 3) := by decide +kernel
theorem dX4_shortest_97 : decode cX4_shortest 97 = .ok (.iload 4, 2) := by decide +kernel
theorem dX4_shortest_99 : decode cX4_shortest 99 = .ok (.istore_n 2, 1) := by decide +kernel
theorem dX4_shortest_100 : decode cX4_shortest 100 = .ok (.iload 5, 2) := by decide +kernel
theorem dX4_shortest_102 : decode cX4_shortest 102 = .ok (.istore_n 3, 1) := by decide +kernel
theorem dX4_shortest_103 : decode cX4_shortest 103 = .ok (.iinc 4 1, 3) := by decide +kernel
theorem dX4_shortest_106 : decode cX4_shortest 106 = .ok (.goto (-72), 3) := by decide +kernel
theorem dX4_shortest_109 : decode cX4_shortest 109 = .ok (.iload_n 2, 1) := by decide +kernel
theorem dX4_shortest_110 : decode cX4_shortest 110 = .ok (.ireturn, 1) := by decide +kernel
theorem dX4_openShare_0 : decode cX4_openShare 0 = .ok (.aload_n 0, 1) := by decide +kernel
theorem dX4_openShare_1 : decode cX4_openShare 1 = .ok (.iconst 2, 1) := by decide +kernel
theorem dX4_openShare_2 : decode cX4_openShare 2 = .ok (.invokevirtual 174, 3) := by decide +kernel
theorem dX4_openShare_5 : decode cX4_openShare 5 = .ok (.istore_n 1, 1) := by decide +kernel
theorem dX4_openShare_6 : decode cX4_openShare 6 = .ok (.iload_n 1, 1) := by decide +kernel
theorem dX4_openShare_7 : decode cX4_openShare 7 = .ok (.ifCond .eq 10, 3) := by decide +kernel
theorem dX4_openShare_10 : decode cX4_openShare 10 = .ok (.aload_n 0, 1) := by decide +kernel
theorem dX4_openShare_11 : decode cX4_openShare 11 = .ok (.invokevirtual 184, 3) := by decide +kernel
theorem dX4_openShare_14 : decode cX4_openShare 14 = .ok (.ifCond .le 5, 3) := by decide +kernel
theorem dX4_openShare_17 : decode cX4_openShare 17 = .ok (.dconst 0, 1) := by decide +kernel
theorem dX4_openShare_18 : decode cX4_openShare 18 = .ok (.dreturn, 1) := by decide +kernel
theorem dX4_openShare_19 : decode cX4_openShare 19 = .ok (.iconst 0, 1) := by decide +kernel
theorem dX4_openShare_20 : decode cX4_openShare 20 = .ok (.istore_n 2, 1) := by decide +kernel
theorem dX4_openShare_21 : decode cX4_openShare 21 = .ok (.iconst 0, 1) := by decide +kernel
theorem dX4_openShare_22 : decode cX4_openShare 22 = .ok (.istore_n 3, 1) := by decide +kernel
theorem dX4_openShare_23 : decode cX4_openShare 23 = .ok (.iload_n 3, 1) := by decide +kernel
theorem dX4_openShare_24 : decode cX4_openShare 24 = .ok (.iconst 4, 1) := by decide +kernel
theorem dX4_openShare_25 : decode cX4_openShare 25 = .ok (.if_icmp .ge 17, 3) := by decide +kernel
theorem dX4_openShare_28 : decode cX4_openShare 28 = .ok (.iload_n 2, 1) := by decide +kernel
theorem dX4_openShare_29 : decode cX4_openShare 29 = .ok (.aload_n 0, 1) := by decide +kernel
theorem dX4_openShare_30 : decode cX4_openShare 30 = .ok (.iload_n 3, 1) := by decide +kernel
theorem dX4_openShare_31 : decode cX4_openShare 31 = .ok (.invokevirtual 145, 3) := by decide +kernel
theorem dX4_openShare_34 : decode cX4_openShare 34 = .ok (.iadd, 1) := by decide +kernel
theorem dX4_openShare_35 : decode cX4_openShare 35 = .ok (.istore_n 2, 1) := by decide +kernel
theorem dX4_openShare_36 : decode cX4_openShare 36 = .ok (.iinc 3 1, 3) := by decide +kernel
theorem dX4_openShare_39 : decode cX4_openShare 39 = .ok (.goto (-16), 3) := by decide +kernel
theorem dX4_openShare_42 : decode cX4_openShare 42 = .ok (.iload_n 2, 1) := by decide +kernel
theorem dX4_openShare_43 : decode cX4_openShare 43 = .ok (.i2d, 1) := by decide +kernel
theorem dX4_openShare_44 : decode cX4_openShare 44 = .ok (.iload_n 1, 1) := by decide +kernel
theorem dX4_openShare_45 : decode cX4_openShare 45 = .ok (.i2d, 1) := by decide +kernel
theorem dX4_openShare_46 : decode cX4_openShare 46 = .ok (.ddiv, 1) := by decide +kernel
theorem dX4_openShare_47 : decode cX4_openShare 47 = .ok (.dreturn, 1) := by decide +kernel
theorem dX4_digest_0 : decode cX4_digest 0 = .ok (.ldc2_w 208, 3) := by decide +kernel
theorem dX4_digest_3 : decode cX4_digest 3 = .ok (.lstore_n 1, 1) := by decide +kernel
theorem dX4_digest_4 : decode cX4_digest 4 = .ok (.iconst 0, 1) := by decide +kernel
theorem dX4_digest_5 : decode cX4_digest 5 = .ok (.istore_n 3, 1) := by decide +kernel
theorem dX4_digest_6 : decode cX4_digest 6 = .ok (.iload_n 3, 1) := by decide +kernel
theorem dX4_digest_7 : decode cX4_digest 7 = .ok (.bipush 10, 2) := by decide +kernel
theorem dX4_digest_9 : decode cX4_digest 9 = .ok (.if_icmp .gt 20, 3) := by decide +kernel
theorem dX4_digest_12 : decode cX4_digest 12 = .ok (.lload_n 1, 1) := by decide +kernel
theorem dX4_digest_13 : decode cX4_digest 13 = .ok (.aload_n 0, 1) := by decide +kernel
theorem dX4_digest_14 : decode cX4_digest 14 = .ok (.iload_n 3, 1) := by decide +kernel
theorem dX4_digest_15 : decode cX4_digest 15 = .ok (.invokevirtual 210, 3) := by decide +kernel
theorem dX4_digest_18 : decode cX4_digest 18 = .ok (.i2l, 1) := by decide +kernel
theorem dX4_digest_19 : decode cX4_digest 19 = .ok (.invokestatic 213, 3) := by decide +kernel
theorem dX4_digest_22 : decode cX4_digest 22 = .ok (.lstore_n 1, 1) := by decide +kernel
theorem dX4_digest_23 : decode cX4_digest 23 = .ok (.iinc 3 1, 3) := by decide +kernel
theorem dX4_digest_26 : decode cX4_digest 26 = .ok (.goto (-20), 3) := by decide +kernel
theorem dX4_digest_29 : decode cX4_digest 29 = .ok (.lload_n 1, 1) := by decide +kernel
theorem dX4_digest_30 : decode cX4_digest 30 = .ok (.aload_n 0, 1) := by decide +kernel
theorem dX4_digest_31 : decode cX4_digest 31 = .ok (.getfield 9, 3) := by decide +kernel
theorem dX4_digest_34 : decode cX4_digest 34 = .ok (.bipush 24, 2) := by decide +kernel
theorem dX4_digest_36 : decode cX4_digest 36 = .ok (.iaload, 1) := by decide +kernel
theorem dX4_digest_37 : decode cX4_digest 37 = .ok (.i2l, 1) := by decide +kernel
theorem dX4_digest_38 : decode cX4_digest 38 = .ok (.invokestatic 213, 3) := by decide +kernel
theorem dX4_digest_41 : decode cX4_digest 41 = .ok (.lstore_n 1, 1) := by decide +kernel
theorem dX4_digest_42 : decode cX4_digest 42 = .ok (.lload_n 1, 1) := by decide +kernel
theorem dX4_digest_43 : decode cX4_digest 43 = .ok (.aload_n 0, 1) := by decide +kernel
theorem dX4_digest_44 : decode cX4_digest 44 = .ok (.getfield 9, 3) := by decide +kernel
theorem dX4_digest_47 : decode cX4_digest 47 = .ok (.bipush 25, 2) := by decide +kernel
theorem dX4_digest_49 : decode cX4_digest 49 = .ok (.iaload, 1) := by decide +kernel
theorem dX4_digest_50 : decode cX4_digest 50 = .ok (.i2l, 1) := by decide +kernel
theorem dX4_digest_51 : decode cX4_digest 51 = .ok (.invokestatic 213, 3) := by decide +kernel
theorem dX4_digest_54 : decode cX4_digest 54 = .ok (.lstore_n 1, 1) := by decide +kernel
theorem dX4_digest_55 : decode cX4_digest 55 = .ok (.iconst 0, 1) := by decide +kernel
theorem dX4_digest_56 : decode cX4_digest 56 = .ok (.istore_n 3, 1) := by decide +kernel
theorem dX4_digest_57 : decode cX4_digest 57 = .ok (.iload_n 3, 1) := by decide +kernel
theorem dX4_digest_58 : decode cX4_digest 58 = .ok (.bipush 24, 2) := by decide +kernel
theorem dX4_digest_60 : decode cX4_digest 60 = .ok (.if_icmp .ge 21, 3) := by decide +kernel
theorem dX4_digest_63 : decode cX4_digest 63 = .ok (.lload_n 1, 1) := by decide +kernel
theorem dX4_digest_64 : decode cX4_digest 64 = .ok (.aload_n 0, 1) := by decide +kernel
theorem dX4_digest_65 : decode cX4_digest 65 = .ok (.getfield 9, 3) := by decide +kernel
theorem dX4_digest_68 : decode cX4_digest 68 = .ok (.iload_n 3, 1) := by decide +kernel
theorem dX4_digest_69 : decode cX4_digest 69 = .ok (.iaload, 1) := by decide +kernel
theorem dX4_digest_70 : decode cX4_digest 70 = .ok (.i2l, 1) := by decide +kernel
theorem dX4_digest_71 : decode cX4_digest 71 = .ok (.invokestatic 213, 3) := by decide +kernel
theorem dX4_digest_74 : decode cX4_digest 74 = .ok (.lstore_n 1, 1) := by decide +kernel
theorem dX4_digest_75 : decode cX4_digest 75 = .ok (.iinc 3 1, 3) := by decide +kernel
theorem dX4_digest_78 : decode cX4_digest 78 = .ok (.goto (-21), 3) := by decide +kernel
theorem dX4_digest_81 : decode cX4_digest 81 = .ok (.iconst 0, 1) := by decide +kernel
theorem dX4_digest_82 : decode cX4_digest 82 = .ok (.istore_n 3, 1) := by decide +kernel
theorem dX4_digest_83 : decode cX4_digest 83 = .ok (.iload_n 3, 1) := by decide +kernel
theorem dX4_digest_84 : decode cX4_digest 84 = .ok (.iconst 4, 1) := by decide +kernel
theorem dX4_digest_85 : decode cX4_digest 85 = .ok (.if_icmp .ge 42, 3) := by decide +kernel
theorem dX4_digest_88 : decode cX4_digest 88 = .ok (.lload_n 1, 1) := by decide +kernel
theorem dX4_digest_89 : decode cX4_digest 89 = .ok (.aload_n 0, 1) := by decide +kernel
theorem dX4_digest_90 : decode cX4_digest 90 = .ok (.iload_n 3, 1) := by decide +kernel
theorem dX4_digest_91 : decode cX4_digest 91 = .ok (.invokevirtual 145, 3) := by decide +kernel
theorem dX4_digest_94 : decode cX4_digest 94 = .ok (.i2l, 1) := by decide +kernel
theorem dX4_digest_95 : decode cX4_digest 95 = .ok (.invokestatic 213, 3) := by decide +kernel
theorem dX4_digest_98 : decode cX4_digest 98 = .ok (.lstore_n 1, 1) := by decide +kernel
theorem dX4_digest_99 : decode cX4_digest 99 = .ok (.lload_n 1, 1) := by decide +kernel
theorem dX4_digest_100 : decode cX4_digest 100 = .ok (.aload_n 0, 1) := by decide +kernel
theorem dX4_digest_101 : decode cX4_digest 101 = .ok (.iload_n 3, 1) := by decide +kernel
theorem dX4_digest_102 : decode cX4_digest 102 = .ok (.invokevirtual 217, 3) := by decide +kernel
theorem dX4_digest_105 : decode cX4_digest 105 = .ok (.i2l, 1) := by decide +kernel
theorem dX4_digest_106 : decode cX4_digest 106 = .ok (.invokestatic 213, 3) := by decide +kernel
theorem dX4_digest_109 : decode cX4_digest 109 = .ok (.lstore_n 1, 1) := by decide +kernel
theorem dX4_digest_110 : decode cX4_digest 110 = .ok (.lload_n 1, 1) := by decide +kernel
theorem dX4_digest_111 : decode cX4_digest 111 = .ok (.aload_n 0, 1) := by decide +kernel
theorem dX4_digest_112 : decode cX4_digest 112 = .ok (.iload_n 3, 1) := by decide +kernel
theorem dX4_digest_113 : decode cX4_digest 113 = .ok (.iconst 1, 1) := by decide +kernel
theorem dX4_digest_114 : decode cX4_digest 114 = .ok (.invokevirtual 220, 3) := by decide +kernel
theorem dX4_digest_117 : decode cX4_digest 117 = .ok (.invokestatic 213, 3) := by decide +kernel
theorem dX4_digest_120 : decode cX4_digest 120 = .ok (.lstore_n 1, 1) := by decide +kernel
theorem dX4_digest_121 : decode cX4_digest 121 = .ok (.iinc 3 1, 3) := by decide +kernel
theorem dX4_digest_124 : decode cX4_digest 124 = .ok (.goto (-41), 3) := by decide +kernel
theorem dX4_digest_127 : decode cX4_digest 127 = .ok (.lload_n 1, 1) := by decide +kernel
theorem dX4_digest_128 : decode cX4_digest 128 = .ok (.aload_n 0, 1) := by decide +kernel
theorem dX4_digest_129 : decode cX4_digest 129 = .ok (.iconst 0, 1) := by decide +kernel
theorem dX4_digest_130 : decode cX4_digest 130 = .ok (.invokevirtual 223, 3) := by decide +kernel
theorem dX4_digest_133 : decode cX4_digest 133 = .ok (.invokestatic 213, 3) := by decide +kernel
theorem dX4_digest_136 : decode cX4_digest 136 = .ok (.lstore_n 1, 1) := by decide +kernel
theorem dX4_digest_137 : decode cX4_digest 137 = .ok (.lload_n 1, 1) := by decide +kernel
theorem dX4_digest_138 : decode cX4_digest 138 = .ok (.aload_n 0, 1) := by decide +kernel
theorem dX4_digest_139 : decode cX4_digest 139 = .ok (.iconst 1, 1) := by decide +kernel
theorem dX4_digest_140 : decode cX4_digest 140 = .ok (.invokevirtual 223, 3) := by decide +kernel
theorem dX4_digest_143 : decode cX4_digest 143 = .ok (.invokestatic 213, 3) := by decide +kernel
theorem dX4_digest_146 : decode cX4_digest 146 = .ok (.lstore_n 1, 1) := by decide +kernel
theorem dX4_digest_147 : decode cX4_digest 147 = .ok (.aload_n 0, 1) := by decide +kernel
theorem dX4_digest_148 : decode cX4_digest 148 = .ok (.lload_n 1, 1) := by decide +kernel
theorem dX4_digest_149 : decode cX4_digest 149 = .ok (.invokevirtual 227, 3) := by decide +kernel
theorem dX4_digest_152 : decode cX4_digest 152 = .ok (.lstore_n 1, 1) := by decide +kernel
theorem dX4_digest_153 : decode cX4_digest 153 = .ok (.aload_n 0, 1) := by decide +kernel
theorem dX4_digest_154 : decode cX4_digest 154 = .ok (.lload_n 1, 1) := by decide +kernel
theorem dX4_digest_155 : decode cX4_digest 155 = .ok (.invokevirtual 231, 3) := by decide +kernel
theorem dX4_digest_158 : decode cX4_digest 158 = .ok (.lstore_n 1, 1) := by decide +kernel
theorem dX4_digest_159 : decode cX4_digest 159 = .ok (.iconst 0, 1) := by decide +kernel
theorem dX4_digest_160 : decode cX4_digest 160 = .ok (.istore_n 3, 1) := by decide +kernel
theorem dX4_digest_161 : decode cX4_digest 161 = .ok (.iload_n 3, 1) := by decide +kernel
theorem dX4_digest_162 : decode cX4_digest 162 = .ok (.iconst 4, 1) := by decide +kernel
theorem dX4_digest_163 : decode cX4_digest 163 = .ok (.if_icmp .ge 20, 3) := by decide +kernel
theorem dX4_digest_166 : decode cX4_digest 166 = .ok (.lload_n 1, 1) := by decide +kernel
theorem dX4_digest_167 : decode cX4_digest 167 = .ok (.aload_n 0, 1) := by decide +kernel
theorem dX4_digest_168 : decode cX4_digest 168 = .ok (.iload_n 3, 1) := by decide +kernel
theorem dX4_digest_169 : decode cX4_digest 169 = .ok (.invokevirtual 234, 3) := by decide +kernel
theorem dX4_digest_172 : decode cX4_digest 172 = .ok (.i2l, 1) := by decide +kernel
theorem dX4_digest_173 : decode cX4_digest 173 = .ok (.invokestatic 213, 3) := by decide +kernel
theorem dX4_digest_176 : decode cX4_digest 176 = .ok (.lstore_n 1, 1) := by decide +kernel
theorem dX4_digest_177 : decode cX4_digest 177 = .ok (.iinc 3 1, 3) := by decide +kernel
theorem dX4_digest_180 : decode cX4_digest 180 = .ok (.goto (-19), 3) := by decide +kernel
theorem dX4_digest_183 : decode cX4_digest 183 = .ok (.lload_n 1, 1) := by decide +kernel
theorem dX4_digest_184 : decode cX4_digest 184 = .ok (.aload_n 0, 1) := by decide +kernel
theorem dX4_digest_185 : decode cX4_digest 185 = .ok (.invokevirtual 237, 3) := by decide +kernel
theorem dX4_digest_188 : decode cX4_digest 188 = .ok (.invokestatic 241, 3) := by decide +kernel
theorem dX4_digest_191 : decode cX4_digest 191 = .ok (.invokestatic 213, 3) := by decide +kernel
theorem dX4_digest_194 : decode cX4_digest 194 = .ok (.lstore_n 1, 1) := by decide +kernel
theorem dX4_digest_195 : decode cX4_digest 195 = .ok (.lload_n 1, 1) := by decide +kernel
theorem dX4_digest_196 : decode cX4_digest 196 = .ok (.aload_n 0, 1) := by decide +kernel
theorem dX4_digest_197 : decode cX4_digest 197 = .ok (.getfield 35, 3) := by decide +kernel
theorem dX4_digest_200 : decode cX4_digest 200 = .ok (.invokevirtual 103, 3) := by decide +kernel
theorem dX4_digest_203 : decode cX4_digest 203 = .ok (.i2l, 1) := by decide +kernel
theorem dX4_digest_204 : decode cX4_digest 204 = .ok (.invokestatic 213, 3) := by decide +kernel
theorem dX4_digest_207 : decode cX4_digest 207 = .ok (.lstore_n 1, 1) := by decide +kernel
theorem dX4_digest_208 : decode cX4_digest 208 = .ok (.iconst 0, 1) := by decide +kernel
theorem dX4_digest_209 : decode cX4_digest 209 = .ok (.istore_n 3, 1) := by decide +kernel
theorem dX4_digest_210 : decode cX4_digest 210 = .ok (.iload_n 3, 1) := by decide +kernel
theorem dX4_digest_211 : decode cX4_digest 211 = .ok (.aload_n 0, 1) := by decide +kernel
theorem dX4_digest_212 : decode cX4_digest 212 = .ok (.getfield 35, 3) := by decide +kernel
theorem dX4_digest_215 : decode cX4_digest 215 = .ok (.invokevirtual 103, 3) := by decide +kernel
theorem dX4_digest_218 : decode cX4_digest 218 = .ok (.if_icmp .ge 23, 3) := by decide +kernel
theorem dX4_digest_221 : decode cX4_digest 221 = .ok (.lload_n 1, 1) := by decide +kernel
theorem dX4_digest_222 : decode cX4_digest 222 = .ok (.aload_n 0, 1) := by decide +kernel
theorem dX4_digest_223 : decode cX4_digest 223 = .ok (.getfield 35, 3) := by decide +kernel
theorem dX4_digest_226 : decode cX4_digest 226 = .ok (.iload_n 3, 1) := by decide +kernel
theorem dX4_digest_227 : decode cX4_digest 227 = .ok (.invokevirtual 245, 3) := by decide +kernel
theorem dX4_digest_230 : decode cX4_digest 230 = .ok (.i2l, 1) := by decide +kernel
theorem dX4_digest_231 : decode cX4_digest 231 = .ok (.invokestatic 213, 3) := by decide +kernel
theorem dX4_digest_234 : decode cX4_digest 234 = .ok (.lstore_n 1, 1) := by decide +kernel
theorem dX4_digest_235 : decode cX4_digest 235 = .ok (.iinc 3 1, 3) := by decide +kernel
theorem dX4_digest_238 : decode cX4_digest 238 = .ok (.goto (-28), 3) := by decide +kernel
theorem dX4_digest_241 : decode cX4_digest 241 = .ok (.lload_n 1, 1) := by decide +kernel
theorem dX4_digest_242 : decode cX4_digest 242 = .ok (.lreturn, 1) := by decide +kernel
theorem dX4_mix_0 : decode cX4_mix 0 = .ok (.ldc2_w 248, 3) := by decide +kernel
theorem dX4_mix_3 : decode cX4_mix 3 = .ok (.lload_n 0, 1) := by decide +kernel
theorem dX4_mix_4 : decode cX4_mix 4 = .ok (.lmul, 1) := by decide +kernel
theorem dX4_mix_5 : decode cX4_mix 5 = .ok (.lload_n 2, 1) := by decide +kernel
theorem dX4_mix_6 : decode cX4_mix 6 = .ok (.ladd, 1) := by decide +kernel
theorem dX4_mix_7 : decode cX4_mix 7 = .ok (.lreturn, 1) := by decide +kernel
theorem dX4_mixMatchers_0 : decode cX4_mixMatchers 0 = .ok (.lload_n 1, 1) := by decide +kernel
theorem dX4_mixMatchers_1 : decode cX4_mixMatchers 1 = .ok (.lstore_n 3, 1) := by decide +kernel
theorem dX4_mixMatchers_2 : decode cX4_mixMatchers 2 = .ok (.aload_n 0, 1) := by decide +kernel
theorem dX4_mixMatchers_3 : decode cX4_mixMatchers 3 = .ok (.getfield 42, 3) := by decide +kernel
theorem dX4_mixMatchers_6 : decode cX4_mixMatchers 6 = .ok (.aload_n 0, 1) := by decide +kernel
theorem dX4_mixMatchers_7 : decode cX4_mixMatchers 7 = .ok (.getfield 9, 3) := by decide +kernel
theorem dX4_mixMatchers_10 : decode cX4_mixMatchers 10 = .ok (.invokevirtual 148, 3) := by decide +kernel
theorem dX4_mixMatchers_13 : decode cX4_mixMatchers 13 = .ok (.iconst 0, 1) := by decide +kernel
theorem dX4_mixMatchers_14 : decode cX4_mixMatchers 14 = .ok (.istore 5, 2) := by decide +kernel
theorem dX4_mixMatchers_16 : decode cX4_mixMatchers 16 = .ok (.iload 5, 2) := by decide +kernel
theorem dX4_mixMatchers_18 : decode cX4_mixMatchers 18 = .ok (.iconst 3, 1) := by decide +kernel
theorem dX4_mixMatchers_19 : decode cX4_mixMatchers 19 = .ok (.if_icmp .ge 105, 3) := by decide +kernel
theorem dX4_mixMatchers_22 : decode cX4_mixMatchers 22 = .ok (.aload_n 0, 1) := by decide +kernel
theorem dX4_mixMatchers_23 : decode cX4_mixMatchers 23 = .ok (.getfield 42, 3) := by decide +kernel
theorem dX4_mixMatchers_26 : decode cX4_mixMatchers 26 = .ok (.iload 5, 2) := by decide +kernel
theorem dX4_mixMatchers_28 : decode cX4_mixMatchers 28 = .ok (.invokevirtual 201, 3) := by decide +kernel
theorem dX4_mixMatchers_31 : decode cX4_mixMatchers 31 = .ok (.ifCond .eq 93, 3) := by decide +kernel
theorem dX4_mixMatchers_34 : decode cX4_mixMatchers 34 = .ok (.iconst 0, 1) := by decide +kernel
theorem dX4_mixMatchers_35 : decode cX4_mixMatchers 35 = .ok (.istore 6, 2) := by decide +kernel
theorem dX4_mixMatchers_37 : decode cX4_mixMatchers 37 = .ok (.iload 6, 2) := by decide +kernel
theorem dX4_mixMatchers_39 : decode cX4_mixMatchers 39 = .ok (.iconst 4, 1) := by decide +kernel
theorem dX4_mixMatchers_40 : decode cX4_mixMatchers 40 = .ok (.if_icmp .ge 38, 3) := by decide +kernel
theorem dX4_mixMatchers_43 : decode cX4_mixMatchers 43 = .ok (.iconst 0, 1) := by decide +kernel
theorem dX4_mixMatchers_44 : decode cX4_mixMatchers 44 = .ok (.istore 7, 2) := by decide +kernel
theorem dX4_mixMatchers_46 : decode cX4_mixMatchers 46 = .ok (.iload 7, 2) := by decide +kernel
theorem dX4_mixMatchers_48 : decode cX4_mixMatchers 48 = .ok (.iconst 4, 1) := by decide +kernel
theorem dX4_mixMatchers_49 : decode cX4_mixMatchers 49 = .ok (.if_icmp .ge 23, 3) := by decide +kernel
theorem dX4_mixMatchers_52 : decode cX4_mixMatchers 52 = .ok (.lload_n 3, 1) := by decide +kernel
theorem dX4_mixMatchers_53 : decode cX4_mixMatchers 53 = .ok (.aload_n 0, 1) := by decide +kernel
theorem dX4_mixMatchers_54 : decode cX4_mixMatchers 54 = .ok (.iload 6, 2) := by decide +kernel
theorem dX4_mixMatchers_56 : decode cX4_mixMatchers 56 = .ok (.iload 7, 2) := by decide +kernel
theorem dX4_mixMatchers_58 : decode cX4_mixMatchers 58 = .ok (.invokevirtual 161, 3) := by decide +kernel
theorem dX4_mixMatchers_61 : decode cX4_mixMatchers 61 = .ok (.i2l, 1) := by decide +kernel
theorem dX4_mixMatchers_62 : decode cX4_mixMatchers 62 = .ok (.invokestatic 213, 3) := by decide +kernel
theorem dX4_mixMatchers_65 : decode cX4_mixMatchers 65 = .ok (.lstore_n 3, 1) := by decide +kernel
theorem dX4_mixMatchers_66 : decode cX4_mixMatchers 66 = .ok (.iinc 7 1, 3) := by decide +kernel
theorem dX4_mixMatchers_69 : decode cX4_mixMatchers 69 = .ok (.goto (-23), 3) := by decide +kernel
theorem dX4_mixMatchers_72 : decode cX4_mixMatchers 72 = .ok (.iinc 6 1, 3) := by decide +kernel
theorem dX4_mixMatchers_75 : decode cX4_mixMatchers 75 = .ok (.goto (-38), 3) := by decide +kernel
theorem dX4_mixMatchers_78 : decode cX4_mixMatchers 78 = .ok (.iconst 0, 1) := by decide +kernel
theorem dX4_mixMatchers_79 : decode cX4_mixMatchers 79 = .ok (.istore 6, 2) := by decide +kernel
theorem dX4_mixMatchers_81 : decode cX4_mixMatchers 81 = .ok (.iload 6, 2) := by decide +kernel
theorem dX4_mixMatchers_83 : decode cX4_mixMatchers 83 = .ok (.iconst 4, 1) := by decide +kernel
theorem dX4_mixMatchers_84 : decode cX4_mixMatchers 84 = .ok (.if_icmp .ge 34, 3) := by decide +kernel
theorem dX4_mixMatchers_87 : decode cX4_mixMatchers 87 = .ok (.lload_n 3, 1) := by decide +kernel
theorem dX4_mixMatchers_88 : decode cX4_mixMatchers 88 = .ok (.aload_n 0, 1) := by decide +kernel
theorem dX4_mixMatchers_89 : decode cX4_mixMatchers 89 = .ok (.invokevirtual 73, 3) := by decide +kernel
theorem dX4_mixMatchers_92 : decode cX4_mixMatchers 92 = .ok (.ifCond .eq 9, 3) := by decide +kernel
theorem dX4_mixMatchers_95 : decode cX4_mixMatchers 95 = .ok (.ldc2_w 250, 3) := by decide +kernel
theorem dX4_mixMatchers_98 : decode cX4_mixMatchers 98 = .ok (.goto 10, 3) := by decide +kernel
theorem dX4_mixMatchers_101 : decode cX4_mixMatchers 101 = .ok (.aload_n 0, 1) := by decide +kernel
theorem dX4_mixMatchers_102 : decode cX4_mixMatchers 102 = .ok (.iload 6, 2) := by decide +kernel
theorem dX4_mixMatchers_104 : decode cX4_mixMatchers 104 = .ok (.invokevirtual 84, 3) := by decide +kernel
theorem dX4_mixMatchers_107 : decode cX4_mixMatchers 107 = .ok (.i2l, 1) := by decide +kernel
theorem dX4_mixMatchers_108 : decode cX4_mixMatchers 108 = .ok (.invokestatic 213, 3) := by decide +kernel
theorem dX4_mixMatchers_111 : decode cX4_mixMatchers 111 = .ok (.lstore_n 3, 1) := by decide +kernel
theorem dX4_mixMatchers_112 : decode cX4_mixMatchers 112 = .ok (.iinc 6 1, 3) := by decide +kernel
theorem dX4_mixMatchers_115 : decode cX4_mixMatchers 115 = .ok (.goto (-34), 3) := by decide +kernel
theorem dX4_mixMatchers_118 : decode cX4_mixMatchers 118 = .ok (.iinc 5 1, 3) := by decide +kernel
theorem dX4_mixMatchers_121 : decode cX4_mixMatchers 121 = .ok (.goto (-105), 3) := by decide +kernel
theorem dX4_mixMatchers_124 : decode cX4_mixMatchers 124 = .ok (.lload_n 3, 1) := by decide +kernel
theorem dX4_mixMatchers_125 : decode cX4_mixMatchers 125 = .ok (.lreturn, 1) := by decide +kernel
theorem dX4_mixLeasts_0 : decode cX4_mixLeasts 0 = .ok (.lload_n 1, 1) := by decide +kernel
theorem dX4_mixLeasts_1 : decode cX4_mixLeasts 1 = .ok (.lstore_n 3, 1) := by decide +kernel
theorem dX4_mixLeasts_2 : decode cX4_mixLeasts 2 = .ok (.aload_n 0, 1) := by decide +kernel
theorem dX4_mixLeasts_3 : decode cX4_mixLeasts 3 = .ok (.getfield 49, 3) := by decide +kernel
theorem dX4_mixLeasts_6 : decode cX4_mixLeasts 6 = .ok (.aload_n 0, 1) := by decide +kernel
theorem dX4_mixLeasts_7 : decode cX4_mixLeasts 7 = .ok (.getfield 9, 3) := by decide +kernel
theorem dX4_mixLeasts_10 : decode cX4_mixLeasts 10 = .ok (.invokevirtual 166, 3) := by decide +kernel
theorem dX4_mixLeasts_13 : decode cX4_mixLeasts 13 = .ok (.iconst 0, 1) := by decide +kernel
theorem dX4_mixLeasts_14 : decode cX4_mixLeasts 14 = .ok (.istore 5, 2) := by decide +kernel
theorem dX4_mixLeasts_16 : decode cX4_mixLeasts 16 = .ok (.iload 5, 2) := by decide +kernel
theorem dX4_mixLeasts_18 : decode cX4_mixLeasts 18 = .ok (.iconst 4, 1) := by decide +kernel
theorem dX4_mixLeasts_19 : decode cX4_mixLeasts 19 = .ok (.if_icmp .ge 41, 3) := by decide +kernel
theorem dX4_mixLeasts_22 : decode cX4_mixLeasts 22 = .ok (.iconst 0, 1) := by decide +kernel
theorem dX4_mixLeasts_23 : decode cX4_mixLeasts 23 = .ok (.istore 6, 2) := by decide +kernel
theorem dX4_mixLeasts_25 : decode cX4_mixLeasts 25 = .ok (.iload 6, 2) := by decide +kernel
theorem dX4_mixLeasts_27 : decode cX4_mixLeasts 27 = .ok (.iconst 4, 1) := by decide +kernel
theorem dX4_mixLeasts_28 : decode cX4_mixLeasts 28 = .ok (.if_icmp .ge 26, 3) := by decide +kernel
theorem dX4_mixLeasts_31 : decode cX4_mixLeasts 31 = .ok (.lload_n 3, 1) := by decide +kernel
theorem dX4_mixLeasts_32 : decode cX4_mixLeasts 32 = .ok (.aload_n 0, 1) := by decide +kernel
theorem dX4_mixLeasts_33 : decode cX4_mixLeasts 33 = .ok (.getfield 49, 3) := by decide +kernel
theorem dX4_mixLeasts_36 : decode cX4_mixLeasts 36 = .ok (.iload 5, 2) := by decide +kernel
theorem dX4_mixLeasts_38 : decode cX4_mixLeasts 38 = .ok (.iload 6, 2) := by decide +kernel
theorem dX4_mixLeasts_40 : decode cX4_mixLeasts 40 = .ok (.invokevirtual 167, 3) := by decide +kernel
theorem dX4_mixLeasts_43 : decode cX4_mixLeasts 43 = .ok (.i2l, 1) := by decide +kernel
theorem dX4_mixLeasts_44 : decode cX4_mixLeasts 44 = .ok (.invokestatic 213, 3) := by decide +kernel
theorem dX4_mixLeasts_47 : decode cX4_mixLeasts 47 = .ok (.lstore_n 3, 1) := by decide +kernel
theorem dX4_mixLeasts_48 : decode cX4_mixLeasts 48 = .ok (.iinc 6 1, 3) := by decide +kernel
theorem dX4_mixLeasts_51 : decode cX4_mixLeasts 51 = .ok (.goto (-26), 3) := by decide +kernel
theorem dX4_mixLeasts_54 : decode cX4_mixLeasts 54 = .ok (.iinc 5 1, 3) := by decide +kernel
theorem dX4_mixLeasts_57 : decode cX4_mixLeasts 57 = .ok (.goto (-41), 3) := by decide +kernel
theorem dX4_mixLeasts_60 : decode cX4_mixLeasts 60 = .ok (.lload_n 3, 1) := by decide +kernel
theorem dX4_mixLeasts_61 : decode cX4_mixLeasts 61 = .ok (.aload_n 0, 1) := by decide +kernel
theorem dX4_mixLeasts_62 : decode cX4_mixLeasts 62 = .ok (.getfield 49, 3) := by decide +kernel
theorem dX4_mixLeasts_65 : decode cX4_mixLeasts 65 = .ok (.iconst 2, 1) := by decide +kernel
theorem dX4_mixLeasts_66 : decode cX4_mixLeasts 66 = .ok (.iconst 2, 1) := by decide +kernel
theorem dX4_mixLeasts_67 : decode cX4_mixLeasts 67 = .ok (.iconst 2, 1) := by decide +kernel
theorem dX4_mixLeasts_68 : decode cX4_mixLeasts 68 = .ok (.iconst 2, 1) := by decide +kernel
theorem dX4_mixLeasts_69 : decode cX4_mixLeasts 69 = .ok (.invokevirtual 170, 3) := by decide +kernel
theorem dX4_mixLeasts_72 : decode cX4_mixLeasts 72 = .ok (.i2l, 1) := by decide +kernel
theorem dX4_mixLeasts_73 : decode cX4_mixLeasts 73 = .ok (.invokestatic 213, 3) := by decide +kernel
theorem dX4_mixLeasts_76 : decode cX4_mixLeasts 76 = .ok (.lreturn, 1) := by decide +kernel
theorem dX4_bitsOfShare_0 : decode cX4_bitsOfShare 0 = .ok (.dload_n 0, 1) := by decide +kernel
theorem dX4_bitsOfShare_1 : decode cX4_bitsOfShare 1 = .ok (.dconst 0, 1) := by decide +kernel
theorem dX4_bitsOfShare_2 : decode cX4_bitsOfShare 2 = .ok (.dcmp .l, 1) := by decide +kernel
theorem dX4_bitsOfShare_3 : decode cX4_bitsOfShare 3 = .ok (.ifCond .gt 5, 3) := by decide +kernel
theorem dX4_bitsOfShare_6 : decode cX4_bitsOfShare 6 = .ok (.lconst 0, 1) := by decide +kernel
theorem dX4_bitsOfShare_7 : decode cX4_bitsOfShare 7 = .ok (.lreturn, 1) := by decide +kernel
theorem dX4_bitsOfShare_8 : decode cX4_bitsOfShare 8 = .ok (.dload_n 0, 1) := by decide +kernel
theorem dX4_bitsOfShare_9 : decode cX4_bitsOfShare 9 = .ok (.dstore_n 2, 1) := by decide +kernel
theorem dX4_bitsOfShare_10 : decode cX4_bitsOfShare 10 = .ok (.ldc2_w 252, 3) := by decide +kernel
theorem dX4_bitsOfShare_13 : decode cX4_bitsOfShare 13 = .ok (.lstore 4, 2) := by decide +kernel
theorem dX4_bitsOfShare_15 : decode cX4_bitsOfShare 15 = .ok (.iconst 0, 1) := by decide +kernel
theorem dX4_bitsOfShare_16 : decode cX4_bitsOfShare 16 = .ok (.istore 6, 2) := by decide +kernel
theorem dX4_bitsOfShare_18 : decode cX4_bitsOfShare 18 = .ok (.iload 6, 2) := by decide +kernel
theorem dX4_bitsOfShare_20 : decode cX4_bitsOfShare 20 = .ok (.bipush 64, 2) := by decide +kernel
theorem dX4_bitsOfShare_22 : decode cX4_bitsOfShare 22 = .ok (.if_icmp .ge 27, 3) := by decide +kernel
theorem dX4_bitsOfShare_25 : decode cX4_bitsOfShare 25 = .ok (.dload_n 2, 1) := by decide +kernel
theorem dX4_bitsOfShare_26 : decode cX4_bitsOfShare 26 = .ok (.dconst 1, 1) := by decide +kernel
theorem dX4_bitsOfShare_27 : decode cX4_bitsOfShare 27 = .ok (.dcmp .g, 1) := by decide +kernel
theorem dX4_bitsOfShare_28 : decode cX4_bitsOfShare 28 = .ok (.ifCond .ge 21, 3) := by decide +kernel
theorem dX4_bitsOfShare_31 : decode cX4_bitsOfShare 31 = .ok (.dload_n 2, 1) := by decide +kernel
theorem dX4_bitsOfShare_32 : decode cX4_bitsOfShare 32 = .ok (.ldc2_w 254, 3) := by decide +kernel
theorem dX4_bitsOfShare_35 : decode cX4_bitsOfShare 35 = .ok (.dmul, 1) := by decide +kernel
theorem dX4_bitsOfShare_36 : decode cX4_bitsOfShare 36 = .ok (.dstore_n 2, 1) := by decide +kernel
theorem dX4_bitsOfShare_37 : decode cX4_bitsOfShare 37 = .ok (.lload 4, 2) := by decide +kernel
theorem dX4_bitsOfShare_39 : decode cX4_bitsOfShare 39 = .ok (.lconst 1, 1) := by decide +kernel
theorem dX4_bitsOfShare_40 : decode cX4_bitsOfShare 40 = .ok (.lsub, 1) := by decide +kernel
theorem dX4_bitsOfShare_41 : decode cX4_bitsOfShare 41 = .ok (.lstore 4, 2) := by decide +kernel
theorem dX4_bitsOfShare_43 : decode cX4_bitsOfShare 43 = .ok (.iinc 6 1, 3) := by decide +kernel
theorem dX4_bitsOfShare_46 : decode cX4_bitsOfShare 46 = .ok (.goto (-28), 3) := by decide +kernel
theorem dX4_bitsOfShare_49 : decode cX4_bitsOfShare 49 = .ok (.dload_n 2, 1) := by decide +kernel
theorem dX4_bitsOfShare_50 : decode cX4_bitsOfShare 50 = .ok (.dconst 1, 1) := by decide +kernel
theorem dX4_bitsOfShare_51 : decode cX4_bitsOfShare 51 = .ok (.dsub, 1) := by decide +kernel
theorem dX4_bitsOfShare_52 : decode cX4_bitsOfShare 52 = .ok (.ldc2_w 256, 3) := by decide +kernel
theorem dX4_bitsOfShare_55 : decode cX4_bitsOfShare 55 = .ok (.dmul, 1) := by decide +kernel
theorem dX4_bitsOfShare_56 : decode cX4_bitsOfShare 56 = .ok (.d2l, 1) := by decide +kernel
theorem dX4_bitsOfShare_57 : decode cX4_bitsOfShare 57 = .ok (.lstore 6, 2) := by decide +kernel
theorem dX4_bitsOfShare_59 : decode cX4_bitsOfShare 59 = .ok (.lload 4, 2) := by decide +kernel
theorem dX4_bitsOfShare_61 : decode cX4_bitsOfShare 61 = .ok (.bipush 52, 2) := by decide +kernel
theorem dX4_bitsOfShare_63 : decode cX4_bitsOfShare 63 = .ok (.lshl, 1) := by decide +kernel
theorem dX4_bitsOfShare_64 : decode cX4_bitsOfShare 64 = .ok (.lload 6, 2) := by decide +kernel
theorem dX4_bitsOfShare_66 : decode cX4_bitsOfShare 66 = .ok (.lor, 1) := by decide +kernel
theorem dX4_bitsOfShare_67 : decode cX4_bitsOfShare 67 = .ok (.lreturn, 1) := by decide +kernel
theorem dX4_needIndex_0 : decode cX4_needIndex 0 = .ok (.iload_n 0, 1) := by decide +kernel
theorem dX4_needIndex_1 : decode cX4_needIndex 1 = .ok (.ifCond .lt 8, 3) := by decide +kernel
theorem dX4_needIndex_4 : decode cX4_needIndex 4 = .ok (.iload_n 0, 1) := by decide +kernel
theorem dX4_needIndex_5 : decode cX4_needIndex 5 = .ok (.iload_n 1, 1) := by decide +kernel
theorem dX4_needIndex_6 : decode cX4_needIndex 6 = .ok (.if_icmp .lt 14, 3) := by decide +kernel
theorem dX4_needIndex_9 : decode cX4_needIndex 9 = .ok (.new 258, 3) := by decide +kernel
theorem dX4_needIndex_12 : decode cX4_needIndex 12 = .ok (.dup, 1) := by decide +kernel
theorem dX4_needIndex_13 : decode cX4_needIndex 13 = .ok (.ldc_w 260, 3) := by decide +kernel
theorem dX4_needIndex_16 : decode cX4_needIndex 16 = .ok (.invokespecial 262, 3) := by decide +kernel
theorem dX4_needIndex_19 : decode cX4_needIndex 19 = .ok (.athrow, 1) := by decide +kernel
theorem dX4_needIndex_20 : decode cX4_needIndex 20 = .ok (.return_, 1) := by decide +kernel
theorem dX4_needNumber_0 : decode cX4_needNumber 0 = .ok (.iload_n 0, 1) := by decide +kernel
theorem dX4_needNumber_1 : decode cX4_needNumber 1 = .ok (.iload_n 1, 1) := by decide +kernel
theorem dX4_needNumber_2 : decode cX4_needNumber 2 = .ok (.if_icmp .lt 8, 3) := by decide +kernel
theorem dX4_needNumber_5 : decode cX4_needNumber 5 = .ok (.iload_n 0, 1) := by decide +kernel
theorem dX4_needNumber_6 : decode cX4_needNumber 6 = .ok (.iload_n 2, 1) := by decide +kernel
theorem dX4_needNumber_7 : decode cX4_needNumber 7 = .ok (.if_icmp .le 14, 3) := by decide +kernel
theorem dX4_needNumber_10 : decode cX4_needNumber 10 = .ok (.new 116, 3) := by decide +kernel
theorem dX4_needNumber_13 : decode cX4_needNumber 13 = .ok (.dup, 1) := by decide +kernel
theorem dX4_needNumber_14 : decode cX4_needNumber 14 = .ok (.ldc_w 263, 3) := by decide +kernel
theorem dX4_needNumber_17 : decode cX4_needNumber 17 = .ok (.invokespecial 120, 3) := by decide +kernel
theorem dX4_needNumber_20 : decode cX4_needNumber 20 = .ok (.athrow, 1) := by decide +kernel
theorem dX4_needNumber_21 : decode cX4_needNumber 21 = .ok (.return_, 1) := by decide +kernel
theorem dX4_needMatcher_0 : decode cX4_needMatcher 0 = .ok (.aload_n 0, 1) := by decide +kernel
theorem dX4_needMatcher_1 : decode cX4_needMatcher 1 = .ok (.getfield 42, 3) := by decide +kernel
theorem dX4_needMatcher_4 : decode cX4_needMatcher 4 = .ok (.aload_n 0, 1) := by decide +kernel
theorem dX4_needMatcher_5 : decode cX4_needMatcher 5 = .ok (.getfield 9, 3) := by decide +kernel
theorem dX4_needMatcher_8 : decode cX4_needMatcher 8 = .ok (.invokevirtual 148, 3) := by decide +kernel
theorem dX4_needMatcher_11 : decode cX4_needMatcher 11 = .ok (.aload_n 0, 1) := by decide +kernel
theorem dX4_needMatcher_12 : decode cX4_needMatcher 12 = .ok (.getfield 42, 3) := by decide +kernel
theorem dX4_needMatcher_15 : decode cX4_needMatcher 15 = .ok (.iload_n 1, 1) := by decide +kernel
theorem dX4_needMatcher_16 : decode cX4_needMatcher 16 = .ok (.invokevirtual 201, 3) := by decide +kernel
theorem dX4_needMatcher_19 : decode cX4_needMatcher 19 = .ok (.ifCond .ne 14, 3) := by decide +kernel
theorem dX4_needMatcher_22 : decode cX4_needMatcher 22 = .ok (.new 116, 3) := by decide +kernel
theorem dX4_needMatcher_25 : decode cX4_needMatcher 25 = .ok (.dup, 1) := by decide +kernel
theorem dX4_needMatcher_26 : decode cX4_needMatcher 26 = .ok (.ldc_w 265, 3) := by decide +kernel
theorem dX4_needMatcher_29 : decode cX4_needMatcher 29 = .ok (.invokespecial 120, 3) := by decide +kernel
theorem dX4_needMatcher_32 : decode cX4_needMatcher 32 = .ok (.athrow, 1) := by decide +kernel
theorem dX4_needMatcher_33 : decode cX4_needMatcher 33 = .ok (.return_, 1) := by decide +kernel
theorem dX4_forgetTables_0 : decode cX4_forgetTables 0 = .ok (.aload_n 0, 1) := by decide +kernel
theorem dX4_forgetTables_1 : decode cX4_forgetTables 1 = .ok (.getfield 42, 3) := by decide +kernel
theorem dX4_forgetTables_4 : decode cX4_forgetTables 4 = .ok (.invokevirtual 267, 3) := by decide +kernel
theorem dX4_forgetTables_7 : decode cX4_forgetTables 7 = .ok (.aload_n 0, 1) := by decide +kernel
theorem dX4_forgetTables_8 : decode cX4_forgetTables 8 = .ok (.getfield 49, 3) := by decide +kernel
theorem dX4_forgetTables_11 : decode cX4_forgetTables 11 = .ok (.invokevirtual 270, 3) := by decide +kernel
theorem dX4_forgetTables_14 : decode cX4_forgetTables 14 = .ok (.return_, 1) := by decide +kernel
theorem dX4_keepState_0 : decode cX4_keepState 0 = .ok (.aload_n 0, 1) := by decide +kernel
theorem dX4_keepState_1 : decode cX4_keepState 1 = .ok (.getfield 28, 3) := by decide +kernel
theorem dX4_keepState_4 : decode cX4_keepState 4 = .ok (.aload_n 0, 1) := by decide +kernel
theorem dX4_keepState_5 : decode cX4_keepState 5 = .ok (.getfield 9, 3) := by decide +kernel
theorem dX4_keepState_8 : decode cX4_keepState 8 = .ok (.invokevirtual 271, 3) := by decide +kernel
theorem dX4_keepState_11 : decode cX4_keepState 11 = .ok (.aload_n 0, 1) := by decide +kernel
theorem dX4_keepState_12 : decode cX4_keepState 12 = .ok (.invokevirtual 142, 3) := by decide +kernel
theorem dX4_keepState_15 : decode cX4_keepState 15 = .ok (.return_, 1) := by decide +kernel
theorem dX4_change_0 : decode cX4_change 0 = .ok (.aload_n 0, 1) := by decide +kernel
theorem dX4_change_1 : decode cX4_change 1 = .ok (.invokevirtual 87, 3) := by decide +kernel
theorem dX4_change_4 : decode cX4_change 4 = .ok (.aload_n 0, 1) := by decide +kernel
theorem dX4_change_5 : decode cX4_change 5 = .ok (.getfield 9, 3) := by decide +kernel
theorem dX4_change_8 : decode cX4_change 8 = .ok (.iload_n 1, 1) := by decide +kernel
theorem dX4_change_9 : decode cX4_change 9 = .ok (.iaload, 1) := by decide +kernel
theorem dX4_change_10 : decode cX4_change 10 = .ok (.istore_n 3, 1) := by decide +kernel
theorem dX4_change_11 : decode cX4_change 11 = .ok (.aload_n 0, 1) := by decide +kernel
theorem dX4_change_12 : decode cX4_change 12 = .ok (.getfield 9, 3) := by decide +kernel
theorem dX4_change_15 : decode cX4_change 15 = .ok (.iload_n 1, 1) := by decide +kernel
theorem dX4_change_16 : decode cX4_change 16 = .ok (.iload_n 2, 1) := by decide +kernel
theorem dX4_change_17 : decode cX4_change 17 = .ok (.iastore, 1) := by decide +kernel
theorem dX4_change_18 : decode cX4_change 18 = .ok (.iload_n 3, 1) := by decide +kernel
theorem dX4_change_19 : decode cX4_change 19 = .ok (.ireturn, 1) := by decide +kernel
theorem dX4_putDraft_0 : decode cX4_putDraft 0 = .ok (.aload_n 0, 1) := by decide +kernel
theorem dX4_putDraft_1 : decode cX4_putDraft 1 = .ok (.iload_n 1, 1) := by decide +kernel
theorem dX4_putDraft_2 : decode cX4_putDraft 2 = .ok (.invokevirtual 274, 3) := by decide +kernel
theorem dX4_putDraft_5 : decode cX4_putDraft 5 = .ok (.ifCond .ne 14, 3) := by decide +kernel
theorem dX4_putDraft_8 : decode cX4_putDraft 8 = .ok (.new 77, 3) := by decide +kernel
theorem dX4_putDraft_11 : decode cX4_putDraft 11 = .ok (.dup, 1) := by decide +kernel
theorem dX4_putDraft_12 : decode cX4_putDraft 12 = .ok (.ldc_w 277, 3) := by decide +kernel
theorem dX4_putDraft_15 : decode cX4_putDraft 15 = .ok (.invokespecial 81, 3) := by decide +kernel
theorem dX4_putDraft_18 : decode cX4_putDraft 18 = .ok (.athrow, 1) := by decide +kernel
theorem dX4_putDraft_19 : decode cX4_putDraft 19 = .ok (.aload_n 0, 1) := by decide +kernel
theorem dX4_putDraft_20 : decode cX4_putDraft 20 = .ok (.invokevirtual 87, 3) := by decide +kernel
theorem dX4_putDraft_23 : decode cX4_putDraft 23 = .ok (.iconst 0, 1) := by decide +kernel
theorem dX4_putDraft_24 : decode cX4_putDraft 24 = .ok (.istore_n 2, 1) := by decide +kernel
theorem dX4_putDraft_25 : decode cX4_putDraft 25 = .ok (.iload_n 2, 1) := by decide +kernel
theorem dX4_putDraft_26 : decode cX4_putDraft 26 = .ok (.bipush 8, 2) := by decide +kernel
theorem dX4_putDraft_28 : decode cX4_putDraft 28 = .ok (.if_icmp .ge 26, 3) := by decide +kernel
theorem dX4_putDraft_31 : decode cX4_putDraft 31 = .ok (.aload_n 0, 1) := by decide +kernel
theorem dX4_putDraft_32 : decode cX4_putDraft 32 = .ok (.getfield 9, 3) := by decide +kernel
theorem dX4_putDraft_35 : decode cX4_putDraft 35 = .ok (.iload_n 1, 1) := by decide +kernel
theorem dX4_putDraft_36 : decode cX4_putDraft 36 = .ok (.bipush 8, 2) := by decide +kernel
theorem dX4_putDraft_38 : decode cX4_putDraft 38 = .ok (.imul, 1) := by decide +kernel
theorem dX4_putDraft_39 : decode cX4_putDraft 39 = .ok (.iload_n 2, 1) := by decide +kernel
theorem dX4_putDraft_40 : decode cX4_putDraft 40 = .ok (.iadd, 1) := by decide +kernel
theorem dX4_putDraft_41 : decode cX4_putDraft 41 = .ok (.aload_n 0, 1) := by decide +kernel
theorem dX4_putDraft_42 : decode cX4_putDraft 42 = .ok (.getfield 13, 3) := by decide +kernel
theorem dX4_putDraft_45 : decode cX4_putDraft 45 = .ok (.iload_n 2, 1) := by decide +kernel
theorem dX4_putDraft_46 : decode cX4_putDraft 46 = .ok (.iaload, 1) := by decide +kernel
theorem dX4_putDraft_47 : decode cX4_putDraft 47 = .ok (.iastore, 1) := by decide +kernel
theorem dX4_putDraft_48 : decode cX4_putDraft 48 = .ok (.iinc 2 1, 3) := by decide +kernel
theorem dX4_putDraft_51 : decode cX4_putDraft 51 = .ok (.goto (-26), 3) := by decide +kernel
theorem dX4_putDraft_54 : decode cX4_putDraft 54 = .ok (.aload_n 0, 1) := by decide +kernel
theorem dX4_putDraft_55 : decode cX4_putDraft 55 = .ok (.iload_n 1, 1) := by decide +kernel
theorem dX4_putDraft_56 : decode cX4_putDraft 56 = .ok (.invokevirtual 174, 3) := by decide +kernel
theorem dX4_putDraft_59 : decode cX4_putDraft 59 = .ok (.ireturn, 1) := by decide +kernel
theorem dX4_draftFits_0 : decode cX4_draftFits 0 = .ok (.iload_n 1, 1) := by decide +kernel
theorem dX4_draftFits_1 : decode cX4_draftFits 1 = .ok (.iconst 2, 1) := by decide +kernel
theorem dX4_draftFits_2 : decode cX4_draftFits 2 = .ok (.if_icmp .ne 7, 3) := by decide +kernel
theorem dX4_draftFits_5 : decode cX4_draftFits 5 = .ok (.iconst 0, 1) := by decide +kernel
theorem dX4_draftFits_6 : decode cX4_draftFits 6 = .ok (.goto 4, 3) := by decide +kernel
theorem dX4_draftFits_9 : decode cX4_draftFits 9 = .ok (.iconst 5, 1) := by decide +kernel
theorem dX4_draftFits_10 : decode cX4_draftFits 10 = .ok (.istore_n 2, 1) := by decide +kernel
theorem dX4_draftFits_11 : decode cX4_draftFits 11 = .ok (.iconst 0, 1) := by decide +kernel
theorem dX4_draftFits_12 : decode cX4_draftFits 12 = .ok (.istore_n 3, 1) := by decide +kernel
theorem dX4_draftFits_13 : decode cX4_draftFits 13 = .ok (.iload_n 3, 1) := by decide +kernel
theorem dX4_draftFits_14 : decode cX4_draftFits 14 = .ok (.bipush 8, 2) := by decide +kernel
theorem dX4_draftFits_16 : decode cX4_draftFits 16 = .ok (.if_icmp .ge 31, 3) := by decide +kernel
theorem dX4_draftFits_19 : decode cX4_draftFits 19 = .ok (.aload_n 0, 1) := by decide +kernel
theorem dX4_draftFits_20 : decode cX4_draftFits 20 = .ok (.getfield 13, 3) := by decide +kernel
theorem dX4_draftFits_23 : decode cX4_draftFits 23 = .ok (.iload_n 3, 1) := by decide +kernel
theorem dX4_draftFits_24 : decode cX4_draftFits 24 = .ok (.iaload, 1) := by decide +kernel
theorem dX4_draftFits_25 : decode cX4_draftFits 25 = .ok (.iload_n 3, 1) := by decide +kernel
theorem dX4_draftFits_26 : decode cX4_draftFits 26 = .ok (.iconst 4, 1) := by decide +kernel
theorem dX4_draftFits_27 : decode cX4_draftFits 27 = .ok (.if_icmp .ge 8, 3) := by decide +kernel
theorem dX4_draftFits_30 : decode cX4_draftFits 30 = .ok (.bipush 9, 2) := by decide +kernel
theorem dX4_draftFits_32 : decode cX4_draftFits 32 = .ok (.goto 4, 3) := by decide +kernel
theorem dX4_draftFits_35 : decode cX4_draftFits 35 = .ok (.iload_n 2, 1) := by decide +kernel
theorem dX4_draftFits_36 : decode cX4_draftFits 36 = .ok (.if_icmp .le 5, 3) := by decide +kernel
theorem dX4_draftFits_39 : decode cX4_draftFits 39 = .ok (.iconst 0, 1) := by decide +kernel
theorem dX4_draftFits_40 : decode cX4_draftFits 40 = .ok (.ireturn, 1) := by decide +kernel
theorem dX4_draftFits_41 : decode cX4_draftFits 41 = .ok (.iinc 3 1, 3) := by decide +kernel
theorem dX4_draftFits_44 : decode cX4_draftFits 44 = .ok (.goto (-31), 3) := by decide +kernel
theorem dX4_draftFits_47 : decode cX4_draftFits 47 = .ok (.iconst 1, 1) := by decide +kernel
theorem dX4_draftFits_48 : decode cX4_draftFits 48 = .ok (.ireturn, 1) := by decide +kernel
theorem dX4_factorsOf_0 : decode cX4_factorsOf 0 = .ok (.iconst 0, 1) := by decide +kernel
theorem dX4_factorsOf_1 : decode cX4_factorsOf 1 = .ok (.istore_n 2, 1) := by decide +kernel
theorem dX4_factorsOf_2 : decode cX4_factorsOf 2 = .ok (.iconst 0, 1) := by decide +kernel
theorem dX4_factorsOf_3 : decode cX4_factorsOf 3 = .ok (.istore_n 3, 1) := by decide +kernel
theorem dX4_factorsOf_4 : decode cX4_factorsOf 4 = .ok (.iload_n 3, 1) := by decide +kernel
theorem dX4_factorsOf_5 : decode cX4_factorsOf 5 = .ok (.bipush 8, 2) := by decide +kernel
theorem dX4_factorsOf_7 : decode cX4_factorsOf 7 = .ok (.if_icmp .ge 23, 3) := by decide +kernel
theorem dX4_factorsOf_10 : decode cX4_factorsOf 10 = .ok (.iload_n 2, 1) := by decide +kernel
theorem dX4_factorsOf_11 : decode cX4_factorsOf 11 = .ok (.aload_n 0, 1) := by decide +kernel
theorem dX4_factorsOf_12 : decode cX4_factorsOf 12 = .ok (.getfield 9, 3) := by decide +kernel
theorem dX4_factorsOf_15 : decode cX4_factorsOf 15 = .ok (.iload_n 1, 1) := by decide +kernel
theorem dX4_factorsOf_16 : decode cX4_factorsOf 16 = .ok (.bipush 8, 2) := by decide +kernel
theorem dX4_factorsOf_18 : decode cX4_factorsOf 18 = .ok (.imul, 1) := by decide +kernel
theorem dX4_factorsOf_19 : decode cX4_factorsOf 19 = .ok (.iload_n 3, 1) := by decide +kernel
theorem dX4_factorsOf_20 : decode cX4_factorsOf 20 = .ok (.iadd, 1) := by decide +kernel
theorem dX4_factorsOf_21 : decode cX4_factorsOf 21 = .ok (.iaload, 1) := by decide +kernel
theorem dX4_factorsOf_22 : decode cX4_factorsOf 22 = .ok (.iadd, 1) := by decide +kernel
theorem dX4_factorsOf_23 : decode cX4_factorsOf 23 = .ok (.istore_n 2, 1) := by decide +kernel
theorem dX4_factorsOf_24 : decode cX4_factorsOf 24 = .ok (.iinc 3 1, 3) := by decide +kernel
theorem dX4_factorsOf_27 : decode cX4_factorsOf 27 = .ok (.goto (-23), 3) := by decide +kernel
theorem dX4_factorsOf_30 : decode cX4_factorsOf 30 = .ok (.iload_n 2, 1) := by decide +kernel
theorem dX4_factorsOf_31 : decode cX4_factorsOf 31 = .ok (.ireturn, 1) := by decide +kernel
theorem dX4_factorsOfAll_0 : decode cX4_factorsOfAll 0 = .ok (.aload_n 0, 1) := by decide +kernel
theorem dX4_factorsOfAll_1 : decode cX4_factorsOfAll 1 = .ok (.iconst 0, 1) := by decide +kernel
theorem dX4_factorsOfAll_2 : decode cX4_factorsOfAll 2 = .ok (.invokevirtual 174, 3) := by decide +kernel
theorem dX4_factorsOfAll_5 : decode cX4_factorsOfAll 5 = .ok (.aload_n 0, 1) := by decide +kernel
theorem dX4_factorsOfAll_6 : decode cX4_factorsOfAll 6 = .ok (.iconst 1, 1) := by decide +kernel
theorem dX4_factorsOfAll_7 : decode cX4_factorsOfAll 7 = .ok (.invokevirtual 174, 3) := by decide +kernel
theorem dX4_factorsOfAll_10 : decode cX4_factorsOfAll 10 = .ok (.iadd, 1) := by decide +kernel
theorem dX4_factorsOfAll_11 : decode cX4_factorsOfAll 11 = .ok (.aload_n 0, 1) := by decide +kernel
theorem dX4_factorsOfAll_12 : decode cX4_factorsOfAll 12 = .ok (.iconst 2, 1) := by decide +kernel
theorem dX4_factorsOfAll_13 : decode cX4_factorsOfAll 13 = .ok (.invokevirtual 174, 3) := by decide +kernel
theorem dX4_factorsOfAll_16 : decode cX4_factorsOfAll 16 = .ok (.iadd, 1) := by decide +kernel
theorem dX4_factorsOfAll_17 : decode cX4_factorsOfAll 17 = .ok (.ireturn, 1) := by decide +kernel
theorem dX4_restOf_0 : decode cX4_restOf 0 = .ok (.aload_n 0, 1) := by decide +kernel
theorem dX4_restOf_1 : decode cX4_restOf 1 = .ok (.getfield 9, 3) := by decide +kernel
theorem dX4_restOf_4 : decode cX4_restOf 4 = .ok (.bipush 16, 2) := by decide +kernel
theorem dX4_restOf_6 : decode cX4_restOf 6 = .ok (.iload_n 1, 1) := by decide +kernel
theorem dX4_restOf_7 : decode cX4_restOf 7 = .ok (.iadd, 1) := by decide +kernel
theorem dX4_restOf_8 : decode cX4_restOf 8 = .ok (.iaload, 1) := by decide +kernel
theorem dX4_restOf_9 : decode cX4_restOf 9 = .ok (.aload_n 0, 1) := by decide +kernel
theorem dX4_restOf_10 : decode cX4_restOf 10 = .ok (.getfield 9, 3) := by decide +kernel
theorem dX4_restOf_13 : decode cX4_restOf 13 = .ok (.iconst 0, 1) := by decide +kernel
theorem dX4_restOf_14 : decode cX4_restOf 14 = .ok (.iload_n 1, 1) := by decide +kernel
theorem dX4_restOf_15 : decode cX4_restOf 15 = .ok (.iadd, 1) := by decide +kernel
theorem dX4_restOf_16 : decode cX4_restOf 16 = .ok (.iaload, 1) := by decide +kernel
theorem dX4_restOf_17 : decode cX4_restOf 17 = .ok (.isub, 1) := by decide +kernel
theorem dX4_restOf_18 : decode cX4_restOf 18 = .ok (.ireturn, 1) := by decide +kernel
theorem dX4_hasVariable_0 : decode cX4_hasVariable 0 = .ok (.aload_n 0, 1) := by decide +kernel
theorem dX4_hasVariable_1 : decode cX4_hasVariable 1 = .ok (.getfield 9, 3) := by decide +kernel
theorem dX4_hasVariable_4 : decode cX4_hasVariable 4 = .ok (.iload_n 1, 1) := by decide +kernel
theorem dX4_hasVariable_5 : decode cX4_hasVariable 5 = .ok (.bipush 8, 2) := by decide +kernel
theorem dX4_hasVariable_7 : decode cX4_hasVariable 7 = .ok (.imul, 1) := by decide +kernel
theorem dX4_hasVariable_8 : decode cX4_hasVariable 8 = .ok (.iconst 4, 1) := by decide +kernel
theorem dX4_hasVariable_9 : decode cX4_hasVariable 9 = .ok (.iadd, 1) := by decide +kernel
theorem dX4_hasVariable_10 : decode cX4_hasVariable 10 = .ok (.iload_n 2, 1) := by decide +kernel
theorem dX4_hasVariable_11 : decode cX4_hasVariable 11 = .ok (.iadd, 1) := by decide +kernel
theorem dX4_hasVariable_12 : decode cX4_hasVariable 12 = .ok (.iaload, 1) := by decide +kernel
theorem dX4_hasVariable_13 : decode cX4_hasVariable 13 = .ok (.ifCond .le 7, 3) := by decide +kernel
theorem dX4_hasVariable_16 : decode cX4_hasVariable 16 = .ok (.iconst 1, 1) := by decide +kernel
theorem dX4_hasVariable_17 : decode cX4_hasVariable 17 = .ok (.goto 4, 3) := by decide +kernel
theorem dX4_hasVariable_20 : decode cX4_hasVariable 20 = .ok (.iconst 0, 1) := by decide +kernel
theorem dX4_hasVariable_21 : decode cX4_hasVariable 21 = .ok (.ireturn, 1) := by decide +kernel
theorem dX4_unlikeVariables_0 : decode cX4_unlikeVariables 0 = .ok (.iconst 0, 1) := by decide +kernel
theorem dX4_unlikeVariables_1 : decode cX4_unlikeVariables 1 = .ok (.istore_n 1, 1) := by decide +kernel
theorem dX4_unlikeVariables_2 : decode cX4_unlikeVariables 2 = .ok (.iconst 0, 1) := by decide +kernel
theorem dX4_unlikeVariables_3 : decode cX4_unlikeVariables 3 = .ok (.istore_n 2, 1) := by decide +kernel
theorem dX4_unlikeVariables_4 : decode cX4_unlikeVariables 4 = .ok (.iload_n 2, 1) := by decide +kernel
theorem dX4_unlikeVariables_5 : decode cX4_unlikeVariables 5 = .ok (.iconst 4, 1) := by decide +kernel
theorem dX4_unlikeVariables_6 : decode cX4_unlikeVariables 6 = .ok (.if_icmp .ge 26, 3) := by decide +kernel
theorem dX4_unlikeVariables_9 : decode cX4_unlikeVariables 9 = .ok (.iload_n 1, 1) := by decide +kernel
theorem dX4_unlikeVariables_10 : decode cX4_unlikeVariables 10 = .ok (.aload_n 0, 1) := by decide +kernel
theorem dX4_unlikeVariables_11 : decode cX4_unlikeVariables 11 = .ok (.iconst 0, 1) := by decide +kernel
theorem dX4_unlikeVariables_12 : decode cX4_unlikeVariables 12 = .ok (.iload_n 2, 1) := by decide +kernel
theorem dX4_unlikeVariables_13 : decode cX4_unlikeVariables 13 = .ok (.invokevirtual 197, 3) := by decide +kernel
theorem dX4_unlikeVariables_16 : decode cX4_unlikeVariables 16 = .ok (.ifCond .eq 7, 3) := by decide +kernel
theorem dX4_unlikeVariables_19 : decode cX4_unlikeVariables 19 = .ok (.iconst 1, 1) := by decide +kernel
theorem dX4_unlikeVariables_20 : decode cX4_unlikeVariables 20 = .ok (.goto 4, 3) := by decide +kernel
theorem dX4_unlikeVariables_23 : decode cX4_unlikeVariables 23 = .ok (.iconst 0, 1) := by decide +kernel
theorem dX4_unlikeVariables_24 : decode cX4_unlikeVariables 24 = .ok (.iadd, 1) := by decide +kernel
theorem dX4_unlikeVariables_25 : decode cX4_unlikeVariables 25 = .ok (.istore_n 1, 1) := by decide +kernel
theorem dX4_unlikeVariables_26 : decode cX4_unlikeVariables 26 = .ok (.iinc 2 1, 3) := by decide +kernel
theorem dX4_unlikeVariables_29 : decode cX4_unlikeVariables 29 = .ok (.goto (-25), 3) := by decide +kernel
theorem dX4_unlikeVariables_32 : decode cX4_unlikeVariables 32 = .ok (.iload_n 1, 1) := by decide +kernel
theorem dX4_unlikeVariables_33 : decode cX4_unlikeVariables 33 = .ok (.ireturn, 1) := by decide +kernel
theorem dX4_restsBelowZero_0 : decode cX4_restsBelowZero 0 = .ok (.iconst 0, 1) := by decide +kernel
theorem dX4_restsBelowZero_1 : decode cX4_restsBelowZero 1 = .ok (.istore_n 1, 1) := by decide +kernel
theorem dX4_restsBelowZero_2 : decode cX4_restsBelowZero 2 = .ok (.iconst 0, 1) := by decide +kernel
theorem dX4_restsBelowZero_3 : decode cX4_restsBelowZero 3 = .ok (.istore_n 2, 1) := by decide +kernel
theorem dX4_restsBelowZero_4 : decode cX4_restsBelowZero 4 = .ok (.iload_n 2, 1) := by decide +kernel
theorem dX4_restsBelowZero_5 : decode cX4_restsBelowZero 5 = .ok (.iconst 4, 1) := by decide +kernel
theorem dX4_restsBelowZero_6 : decode cX4_restsBelowZero 6 = .ok (.if_icmp .ge 25, 3) := by decide +kernel
theorem dX4_restsBelowZero_9 : decode cX4_restsBelowZero 9 = .ok (.iload_n 1, 1) := by decide +kernel
theorem dX4_restsBelowZero_10 : decode cX4_restsBelowZero 10 = .ok (.aload_n 0, 1) := by decide +kernel
theorem dX4_restsBelowZero_11 : decode cX4_restsBelowZero 11 = .ok (.iload_n 2, 1) := by decide +kernel
theorem dX4_restsBelowZero_12 : decode cX4_restsBelowZero 12 = .ok (.invokevirtual 145, 3) := by decide +kernel
theorem dX4_restsBelowZero_15 : decode cX4_restsBelowZero 15 = .ok (.ifCond .ge 7, 3) := by decide +kernel
theorem dX4_restsBelowZero_18 : decode cX4_restsBelowZero 18 = .ok (.iconst 1, 1) := by decide +kernel
theorem dX4_restsBelowZero_19 : decode cX4_restsBelowZero 19 = .ok (.goto 4, 3) := by decide +kernel
theorem dX4_restsBelowZero_22 : decode cX4_restsBelowZero 22 = .ok (.iconst 0, 1) := by decide +kernel
theorem dX4_restsBelowZero_23 : decode cX4_restsBelowZero 23 = .ok (.iadd, 1) := by decide +kernel
theorem dX4_restsBelowZero_24 : decode cX4_restsBelowZero 24 = .ok (.istore_n 1, 1) := by decide +kernel
theorem dX4_restsBelowZero_25 : decode cX4_restsBelowZero 25 = .ok (.iinc 2 1, 3) := by decide +kernel
theorem dX4_restsBelowZero_28 : decode cX4_restsBelowZero 28 = .ok (.goto (-24), 3) := by decide +kernel
theorem dX4_restsBelowZero_31 : decode cX4_restsBelowZero 31 = .ok (.iload_n 1, 1) := by decide +kernel
theorem dX4_restsBelowZero_32 : decode cX4_restsBelowZero 32 = .ok (.ireturn, 1) := by decide +kernel
theorem dX4_patternsAreSame_0 : decode cX4_patternsAreSame 0 = .ok (.iconst 0, 1) := by decide +kernel
theorem dX4_patternsAreSame_1 : decode cX4_patternsAreSame 1 = .ok (.istore_n 1, 1) := by decide +kernel
theorem dX4_patternsAreSame_2 : decode cX4_patternsAreSame 2 = .ok (.iload_n 1, 1) := by decide +kernel
theorem dX4_patternsAreSame_3 : decode cX4_patternsAreSame 3 = .ok (.bipush 8, 2) := by decide +kernel
theorem dX4_patternsAreSame_5 : decode cX4_patternsAreSame 5 = .ok (.if_icmp .ge 31, 3) := by decide +kernel
theorem dX4_patternsAreSame_8 : decode cX4_patternsAreSame 8 = .ok (.aload_n 0, 1) := by decide +kernel
theorem dX4_patternsAreSame_9 : decode cX4_patternsAreSame 9 = .ok (.getfield 9, 3) := by decide +kernel
theorem dX4_patternsAreSame_12 : decode cX4_patternsAreSame 12 = .ok (.iconst 0, 1) := by decide +kernel
theorem dX4_patternsAreSame_13 : decode cX4_patternsAreSame 13 = .ok (.iload_n 1, 1) := by decide +kernel
theorem dX4_patternsAreSame_14 : decode cX4_patternsAreSame 14 = .ok (.iadd, 1) := by decide +kernel
theorem dX4_patternsAreSame_15 : decode cX4_patternsAreSame 15 = .ok (.iaload, 1) := by decide +kernel
theorem dX4_patternsAreSame_16 : decode cX4_patternsAreSame 16 = .ok (.aload_n 0, 1) := by decide +kernel
theorem dX4_patternsAreSame_17 : decode cX4_patternsAreSame 17 = .ok (.getfield 9, 3) := by decide +kernel
theorem dX4_patternsAreSame_20 : decode cX4_patternsAreSame 20 = .ok (.bipush 8, 2) := by decide +kernel
theorem dX4_patternsAreSame_22 : decode cX4_patternsAreSame 22 = .ok (.iload_n 1, 1) := by decide +kernel
theorem dX4_patternsAreSame_23 : decode cX4_patternsAreSame 23 = .ok (.iadd, 1) := by decide +kernel
theorem dX4_patternsAreSame_24 : decode cX4_patternsAreSame 24 = .ok (.iaload, 1) := by decide +kernel
theorem dX4_patternsAreSame_25 : decode cX4_patternsAreSame 25 = .ok (.if_icmp .eq 5, 3) := by decide +kernel
theorem dX4_patternsAreSame_28 : decode cX4_patternsAreSame 28 = .ok (.iconst 0, 1) := by decide +kernel
theorem dX4_patternsAreSame_29 : decode cX4_patternsAreSame 29 = .ok (.ireturn, 1) := by decide +kernel
theorem dX4_patternsAreSame_30 : decode cX4_patternsAreSame 30 = .ok (.iinc 1 1, 3) := by decide +kernel
theorem dX4_patternsAreSame_33 : decode cX4_patternsAreSame 33 = .ok (.goto (-31), 3) := by decide +kernel
theorem dX4_patternsAreSame_36 : decode cX4_patternsAreSame 36 = .ok (.iconst 1, 1) := by decide +kernel
theorem dX4_patternsAreSame_37 : decode cX4_patternsAreSame 37 = .ok (.ireturn, 1) := by decide +kernel
theorem dX4_commonFactors_0 : decode cX4_commonFactors 0 = .ok (.iconst 0, 1) := by decide +kernel
theorem dX4_commonFactors_1 : decode cX4_commonFactors 1 = .ok (.istore_n 1, 1) := by decide +kernel
theorem dX4_commonFactors_2 : decode cX4_commonFactors 2 = .ok (.iconst 0, 1) := by decide +kernel
theorem dX4_commonFactors_3 : decode cX4_commonFactors 3 = .ok (.istore_n 2, 1) := by decide +kernel
theorem dX4_commonFactors_4 : decode cX4_commonFactors 4 = .ok (.iload_n 2, 1) := by decide +kernel
theorem dX4_commonFactors_5 : decode cX4_commonFactors 5 = .ok (.bipush 8, 2) := by decide +kernel
theorem dX4_commonFactors_7 : decode cX4_commonFactors 7 = .ok (.if_icmp .ge 46, 3) := by decide +kernel
theorem dX4_commonFactors_10 : decode cX4_commonFactors 10 = .ok (.aload_n 0, 1) := by decide +kernel
theorem dX4_commonFactors_11 : decode cX4_commonFactors 11 = .ok (.getfield 9, 3) := by decide +kernel
theorem dX4_commonFactors_14 : decode cX4_commonFactors 14 = .ok (.iconst 0, 1) := by decide +kernel
theorem dX4_commonFactors_15 : decode cX4_commonFactors 15 = .ok (.iload_n 2, 1) := by decide +kernel
theorem dX4_commonFactors_16 : decode cX4_commonFactors 16 = .ok (.iadd, 1) := by decide +kernel
theorem dX4_commonFactors_17 : decode cX4_commonFactors 17 = .ok (.iaload, 1) := by decide +kernel
theorem dX4_commonFactors_18 : decode cX4_commonFactors 18 = .ok (.aload_n 0, 1) := by decide +kernel
theorem dX4_commonFactors_19 : decode cX4_commonFactors 19 = .ok (.getfield 9, 3) := by decide +kernel
theorem dX4_commonFactors_22 : decode cX4_commonFactors 22 = .ok (.bipush 8, 2) := by decide +kernel
theorem dX4_commonFactors_24 : decode cX4_commonFactors 24 = .ok (.iload_n 2, 1) := by decide +kernel
theorem dX4_commonFactors_25 : decode cX4_commonFactors 25 = .ok (.iadd, 1) := by decide +kernel
theorem dX4_commonFactors_26 : decode cX4_commonFactors 26 = .ok (.iaload, 1) := by decide +kernel
theorem dX4_commonFactors_27 : decode cX4_commonFactors 27 = .ok (.invokestatic 90, 3) := by decide +kernel
theorem dX4_commonFactors_30 : decode cX4_commonFactors 30 = .ok (.istore_n 3, 1) := by decide +kernel
theorem dX4_commonFactors_31 : decode cX4_commonFactors 31 = .ok (.iload_n 1, 1) := by decide +kernel
theorem dX4_commonFactors_32 : decode cX4_commonFactors 32 = .ok (.iload_n 3, 1) := by decide +kernel
theorem dX4_commonFactors_33 : decode cX4_commonFactors 33 = .ok (.aload_n 0, 1) := by decide +kernel
theorem dX4_commonFactors_34 : decode cX4_commonFactors 34 = .ok (.getfield 9, 3) := by decide +kernel
theorem dX4_commonFactors_37 : decode cX4_commonFactors 37 = .ok (.bipush 16, 2) := by decide +kernel
theorem dX4_commonFactors_39 : decode cX4_commonFactors 39 = .ok (.iload_n 2, 1) := by decide +kernel
theorem dX4_commonFactors_40 : decode cX4_commonFactors 40 = .ok (.iadd, 1) := by decide +kernel
theorem dX4_commonFactors_41 : decode cX4_commonFactors 41 = .ok (.iaload, 1) := by decide +kernel
theorem dX4_commonFactors_42 : decode cX4_commonFactors 42 = .ok (.invokestatic 90, 3) := by decide +kernel
theorem dX4_commonFactors_45 : decode cX4_commonFactors 45 = .ok (.iadd, 1) := by decide +kernel
theorem dX4_commonFactors_46 : decode cX4_commonFactors 46 = .ok (.istore_n 1, 1) := by decide +kernel
theorem dX4_commonFactors_47 : decode cX4_commonFactors 47 = .ok (.iinc 2 1, 3) := by decide +kernel
theorem dX4_commonFactors_50 : decode cX4_commonFactors 50 = .ok (.goto (-46), 3) := by decide +kernel
theorem dX4_commonFactors_53 : decode cX4_commonFactors 53 = .ok (.iload_n 1, 1) := by decide +kernel
theorem dX4_commonFactors_54 : decode cX4_commonFactors 54 = .ok (.ireturn, 1) := by decide +kernel
theorem dX4_valueOf_0 : decode cX4_valueOf 0 = .ok (.aload_n 0, 1) := by decide +kernel
theorem dX4_valueOf_1 : decode cX4_valueOf 1 = .ok (.iconst 0, 1) := by decide +kernel
theorem dX4_valueOf_2 : decode cX4_valueOf 2 = .ok (.iload_n 1, 1) := by decide +kernel
theorem dX4_valueOf_3 : decode cX4_valueOf 3 = .ok (.invokevirtual 197, 3) := by decide +kernel
theorem dX4_valueOf_6 : decode cX4_valueOf 6 = .ok (.ifCond .eq 15, 3) := by decide +kernel
theorem dX4_valueOf_9 : decode cX4_valueOf 9 = .ok (.aload_n 0, 1) := by decide +kernel
theorem dX4_valueOf_10 : decode cX4_valueOf 10 = .ok (.getfield 42, 3) := by decide +kernel
theorem dX4_valueOf_13 : decode cX4_valueOf 13 = .ok (.iload_n 1, 1) := by decide +kernel
theorem dX4_valueOf_14 : decode cX4_valueOf 14 = .ok (.iload_n 2, 1) := by decide +kernel
theorem dX4_valueOf_15 : decode cX4_valueOf 15 = .ok (.invokevirtual 205, 3) := by decide +kernel
theorem dX4_valueOf_18 : decode cX4_valueOf 18 = .ok (.goto 4, 3) := by decide +kernel
theorem dX4_valueOf_21 : decode cX4_valueOf 21 = .ok (.iconst (-1), 1) := by decide +kernel
theorem dX4_valueOf_22 : decode cX4_valueOf 22 = .ok (.ireturn, 1) := by decide +kernel
theorem dX4_hasForeignVariable_0 : decode cX4_hasForeignVariable 0 = .ok (.iconst 0, 1) := by decide +kernel
theorem dX4_hasForeignVariable_1 : decode cX4_hasForeignVariable 1 = .ok (.istore_n 1, 1) := by decide +kernel
theorem dX4_hasForeignVariable_2 : decode cX4_hasForeignVariable 2 = .ok (.iload_n 1, 1) := by decide +kernel
theorem dX4_hasForeignVariable_3 : decode cX4_hasForeignVariable 3 = .ok (.iconst 4, 1) := by decide +kernel
theorem dX4_hasForeignVariable_4 : decode cX4_hasForeignVariable 4 = .ok (.if_icmp .ge 29, 3) := by decide +kernel
theorem dX4_hasForeignVariable_7 : decode cX4_hasForeignVariable 7 = .ok (.aload_n 0, 1) := by decide +kernel
theorem dX4_hasForeignVariable_8 : decode cX4_hasForeignVariable 8 = .ok (.iconst 1, 1) := by decide +kernel
theorem dX4_hasForeignVariable_9 : decode cX4_hasForeignVariable 9 = .ok (.iload_n 1, 1) := by decide +kernel
theorem dX4_hasForeignVariable_10 : decode cX4_hasForeignVariable 10 = .ok (.invokevirtual 197, 3) := by decide +kernel
theorem dX4_hasForeignVariable_13 : decode cX4_hasForeignVariable 13 = .ok (.ifCond .eq 14, 3) := by decide +kernel
theorem dX4_hasForeignVariable_16 : decode cX4_hasForeignVariable 16 = .ok (.aload_n 0, 1) := by decide +kernel
theorem dX4_hasForeignVariable_17 : decode cX4_hasForeignVariable 17 = .ok (.iconst 0, 1) := by decide +kernel
theorem dX4_hasForeignVariable_18 : decode cX4_hasForeignVariable 18 = .ok (.iload_n 1, 1) := by decide +kernel
theorem dX4_hasForeignVariable_19 : decode cX4_hasForeignVariable 19 = .ok (.invokevirtual 197, 3) := by decide +kernel
theorem dX4_hasForeignVariable_22 : decode cX4_hasForeignVariable 22 = .ok (.ifCond .ne 5, 3) := by decide +kernel
theorem dX4_hasForeignVariable_25 : decode cX4_hasForeignVariable 25 = .ok (.iconst 1, 1) := by decide +kernel
theorem dX4_hasForeignVariable_26 : decode cX4_hasForeignVariable 26 = .ok (.ireturn, 1) := by decide +kernel
theorem dX4_hasForeignVariable_27 : decode cX4_hasForeignVariable 27 = .ok (.iinc 1 1, 3) := by decide +kernel
theorem dX4_hasForeignVariable_30 : decode cX4_hasForeignVariable 30 = .ok (.goto (-28), 3) := by decide +kernel
theorem dX4_hasForeignVariable_33 : decode cX4_hasForeignVariable 33 = .ok (.iconst 0, 1) := by decide +kernel
theorem dX4_hasForeignVariable_34 : decode cX4_hasForeignVariable 34 = .ok (.ireturn, 1) := by decide +kernel
theorem dX4_rewritten_0 : decode cX4_rewritten 0 = .ok (.aload_n 0, 1) := by decide +kernel
theorem dX4_rewritten_1 : decode cX4_rewritten 1 = .ok (.getfield 9, 3) := by decide +kernel
theorem dX4_rewritten_4 : decode cX4_rewritten 4 = .ok (.bipush 8, 2) := by decide +kernel
theorem dX4_rewritten_6 : decode cX4_rewritten 6 = .ok (.iload_n 1, 1) := by decide +kernel
theorem dX4_rewritten_7 : decode cX4_rewritten 7 = .ok (.iadd, 1) := by decide +kernel
theorem dX4_rewritten_8 : decode cX4_rewritten 8 = .ok (.iaload, 1) := by decide +kernel
theorem dX4_rewritten_9 : decode cX4_rewritten 9 = .ok (.istore_n 2, 1) := by decide +kernel
theorem dX4_rewritten_10 : decode cX4_rewritten 10 = .ok (.iconst 0, 1) := by decide +kernel
theorem dX4_rewritten_11 : decode cX4_rewritten 11 = .ok (.istore_n 3, 1) := by decide +kernel
theorem dX4_rewritten_12 : decode cX4_rewritten 12 = .ok (.iload_n 3, 1) := by decide +kernel
theorem dX4_rewritten_13 : decode cX4_rewritten 13 = .ok (.iconst 4, 1) := by decide +kernel
theorem dX4_rewritten_14 : decode cX4_rewritten 14 = .ok (.if_icmp .ge 31, 3) := by decide +kernel
theorem dX4_rewritten_17 : decode cX4_rewritten 17 = .ok (.iload_n 2, 1) := by decide +kernel
theorem dX4_rewritten_18 : decode cX4_rewritten 18 = .ok (.aload_n 0, 1) := by decide +kernel
theorem dX4_rewritten_19 : decode cX4_rewritten 19 = .ok (.getfield 9, 3) := by decide +kernel
theorem dX4_rewritten_22 : decode cX4_rewritten 22 = .ok (.bipush 12, 2) := by decide +kernel
theorem dX4_rewritten_24 : decode cX4_rewritten 24 = .ok (.iload_n 3, 1) := by decide +kernel
theorem dX4_rewritten_25 : decode cX4_rewritten 25 = .ok (.iadd, 1) := by decide +kernel
theorem dX4_rewritten_26 : decode cX4_rewritten 26 = .ok (.iaload, 1) := by decide +kernel
theorem dX4_rewritten_27 : decode cX4_rewritten 27 = .ok (.aload_n 0, 1) := by decide +kernel
theorem dX4_rewritten_28 : decode cX4_rewritten 28 = .ok (.getfield 42, 3) := by decide +kernel
theorem dX4_rewritten_31 : decode cX4_rewritten 31 = .ok (.iload_n 3, 1) := by decide +kernel
theorem dX4_rewritten_32 : decode cX4_rewritten 32 = .ok (.iload_n 1, 1) := by decide +kernel
theorem dX4_rewritten_33 : decode cX4_rewritten 33 = .ok (.invokevirtual 205, 3) := by decide +kernel
theorem dX4_rewritten_36 : decode cX4_rewritten 36 = .ok (.imul, 1) := by decide +kernel
theorem dX4_rewritten_37 : decode cX4_rewritten 37 = .ok (.iadd, 1) := by decide +kernel
theorem dX4_rewritten_38 : decode cX4_rewritten 38 = .ok (.istore_n 2, 1) := by decide +kernel
theorem dX4_rewritten_39 : decode cX4_rewritten 39 = .ok (.iinc 3 1, 3) := by decide +kernel
theorem dX4_rewritten_42 : decode cX4_rewritten 42 = .ok (.goto (-30), 3) := by decide +kernel
theorem dX4_rewritten_45 : decode cX4_rewritten 45 = .ok (.iload_n 2, 1) := by decide +kernel
theorem dX4_rewritten_46 : decode cX4_rewritten 46 = .ok (.ireturn, 1) := by decide +kernel
theorem dJxe99ae_isNaN_b9ae7_0 : decode cJxe99ae_isNaN_b9ae7 0 = .ok (.dload_n 0, 1) := by decide +kernel
theorem dJxe99ae_isNaN_b9ae7_1 : decode cJxe99ae_isNaN_b9ae7 1 = .ok (.dload_n 0, 1) := by decide +kernel
theorem dJxe99ae_isNaN_b9ae7_2 : decode cJxe99ae_isNaN_b9ae7 2 = .ok (.dcmp .l, 1) := by decide +kernel
theorem dJxe99ae_isNaN_b9ae7_3 : decode cJxe99ae_isNaN_b9ae7 3 = .ok (.ifCond .eq 7, 3) := by decide +kernel
theorem dJxe99ae_isNaN_b9ae7_6 : decode cJxe99ae_isNaN_b9ae7 6 = .ok (.iconst 1, 1) := by decide +kernel
theorem dJxe99ae_isNaN_b9ae7_7 : decode cJxe99ae_isNaN_b9ae7 7 = .ok (.goto 4, 3) := by decide +kernel
theorem dJxe99ae_isNaN_b9ae7_10 : decode cJxe99ae_isNaN_b9ae7 10 = .ok (.iconst 0, 1) := by decide +kernel
theorem dJxe99ae_isNaN_b9ae7_11 : decode cJxe99ae_isNaN_b9ae7 11 = .ok (.ireturn, 1) := by decide +kernel
theorem dJxe99ae_doubleToLongBits_ccdee_0 : decode cJxe99ae_doubleToLongBits_ccdee 0 = .ok (.dload_n 0, 1) := by decide +kernel
theorem dJxe99ae_doubleToLongBits_ccdee_1 : decode cJxe99ae_doubleToLongBits_ccdee 1 = .ok (.invokestatic 122, 3) := by decide +kernel
theorem dJxe99ae_doubleToLongBits_ccdee_4 : decode cJxe99ae_doubleToLongBits_ccdee 4 = .ok (.ifCond .ne 8, 3) := by decide +kernel
theorem dJxe99ae_doubleToLongBits_ccdee_7 : decode cJxe99ae_doubleToLongBits_ccdee 7 = .ok (.dload_n 0, 1) := by decide +kernel
theorem dJxe99ae_doubleToLongBits_ccdee_8 : decode cJxe99ae_doubleToLongBits_ccdee 8 = .ok (.invokestatic 134, 3) := by decide +kernel
theorem dJxe99ae_doubleToLongBits_ccdee_11 : decode cJxe99ae_doubleToLongBits_ccdee 11 = .ok (.lreturn, 1) := by decide +kernel
theorem dJxe99ae_doubleToLongBits_ccdee_12 : decode cJxe99ae_doubleToLongBits_ccdee 12 = .ok (.ldc2_w 137, 3) := by decide +kernel
theorem dJxe99ae_doubleToLongBits_ccdee_15 : decode cJxe99ae_doubleToLongBits_ccdee 15 = .ok (.lreturn, 1) := by decide +kernel
theorem dJ6_bitCount_0f7a4_0 : decode cJ6_bitCount_0f7a4 0 = .ok (.iload_n 0, 1) := by decide +kernel
theorem dJ6_bitCount_0f7a4_1 : decode cJ6_bitCount_0f7a4 1 = .ok (.iload_n 0, 1) := by decide +kernel
theorem dJ6_bitCount_0f7a4_2 : decode cJ6_bitCount_0f7a4 2 = .ok (.iconst 1, 1) := by decide +kernel
theorem dJ6_bitCount_0f7a4_3 : decode cJ6_bitCount_0f7a4 3 = .ok (.iushr, 1) := by decide +kernel
theorem dJ6_bitCount_0f7a4_4 : decode cJ6_bitCount_0f7a4 4 = .ok (.ldc_w 265, 3) := by decide +kernel
theorem dJ6_bitCount_0f7a4_7 : decode cJ6_bitCount_0f7a4 7 = .ok (.iand, 1) := by decide +kernel
theorem dJ6_bitCount_0f7a4_8 : decode cJ6_bitCount_0f7a4 8 = .ok (.isub, 1) := by decide +kernel
theorem dJ6_bitCount_0f7a4_9 : decode cJ6_bitCount_0f7a4 9 = .ok (.istore_n 0, 1) := by decide +kernel
theorem dJ6_bitCount_0f7a4_10 : decode cJ6_bitCount_0f7a4 10 = .ok (.iload_n 0, 1) := by decide +kernel
theorem dJ6_bitCount_0f7a4_11 : decode cJ6_bitCount_0f7a4 11 = .ok (.ldc_w 266, 3) := by decide +kernel
theorem dJ6_bitCount_0f7a4_14 : decode cJ6_bitCount_0f7a4 14 = .ok (.iand, 1) := by decide +kernel
theorem dJ6_bitCount_0f7a4_15 : decode cJ6_bitCount_0f7a4 15 = .ok (.iload_n 0, 1) := by decide +kernel
theorem dJ6_bitCount_0f7a4_16 : decode cJ6_bitCount_0f7a4 16 = .ok (.iconst 2, 1) := by decide +kernel
theorem dJ6_bitCount_0f7a4_17 : decode cJ6_bitCount_0f7a4 17 = .ok (.iushr, 1) := by decide +kernel
theorem dJ6_bitCount_0f7a4_18 : decode cJ6_bitCount_0f7a4 18 = .ok (.ldc_w 266, 3) := by decide +kernel
theorem dJ6_bitCount_0f7a4_21 : decode cJ6_bitCount_0f7a4 21 = .ok (.iand, 1) := by decide +kernel
theorem dJ6_bitCount_0f7a4_22 : decode cJ6_bitCount_0f7a4 22 = .ok (.iadd, 1) := by decide +kernel
theorem dJ6_bitCount_0f7a4_23 : decode cJ6_bitCount_0f7a4 23 = .ok (.istore_n 0, 1) := by decide +kernel
theorem dJ6_bitCount_0f7a4_24 : decode cJ6_bitCount_0f7a4 24 = .ok (.iload_n 0, 1) := by decide +kernel
theorem dJ6_bitCount_0f7a4_25 : decode cJ6_bitCount_0f7a4 25 = .ok (.iload_n 0, 1) := by decide +kernel
theorem dJ6_bitCount_0f7a4_26 : decode cJ6_bitCount_0f7a4 26 = .ok (.iconst 4, 1) := by decide +kernel
theorem dJ6_bitCount_0f7a4_27 : decode cJ6_bitCount_0f7a4 27 = .ok (.iushr, 1) := by decide +kernel
theorem dJ6_bitCount_0f7a4_28 : decode cJ6_bitCount_0f7a4 28 = .ok (.iadd, 1) := by decide +kernel
theorem dJ6_bitCount_0f7a4_29 : decode cJ6_bitCount_0f7a4 29 = .ok (.ldc_w 267, 3) := by decide +kernel
theorem dJ6_bitCount_0f7a4_32 : decode cJ6_bitCount_0f7a4 32 = .ok (.iand, 1) := by decide +kernel
theorem dJ6_bitCount_0f7a4_33 : decode cJ6_bitCount_0f7a4 33 = .ok (.istore_n 0, 1) := by decide +kernel
theorem dJ6_bitCount_0f7a4_34 : decode cJ6_bitCount_0f7a4 34 = .ok (.iload_n 0, 1) := by decide +kernel
theorem dJ6_bitCount_0f7a4_35 : decode cJ6_bitCount_0f7a4 35 = .ok (.iload_n 0, 1) := by decide +kernel
theorem dJ6_bitCount_0f7a4_36 : decode cJ6_bitCount_0f7a4 36 = .ok (.bipush 8, 2) := by decide +kernel
theorem dJ6_bitCount_0f7a4_38 : decode cJ6_bitCount_0f7a4 38 = .ok (.iushr, 1) := by decide +kernel
theorem dJ6_bitCount_0f7a4_39 : decode cJ6_bitCount_0f7a4 39 = .ok (.iadd, 1) := by decide +kernel
theorem dJ6_bitCount_0f7a4_40 : decode cJ6_bitCount_0f7a4 40 = .ok (.istore_n 0, 1) := by decide +kernel
theorem dJ6_bitCount_0f7a4_41 : decode cJ6_bitCount_0f7a4 41 = .ok (.iload_n 0, 1) := by decide +kernel
theorem dJ6_bitCount_0f7a4_42 : decode cJ6_bitCount_0f7a4 42 = .ok (.iload_n 0, 1) := by decide +kernel
theorem dJ6_bitCount_0f7a4_43 : decode cJ6_bitCount_0f7a4 43 = .ok (.bipush 16, 2) := by decide +kernel
theorem dJ6_bitCount_0f7a4_45 : decode cJ6_bitCount_0f7a4 45 = .ok (.iushr, 1) := by decide +kernel
theorem dJ6_bitCount_0f7a4_46 : decode cJ6_bitCount_0f7a4 46 = .ok (.iadd, 1) := by decide +kernel
theorem dJ6_bitCount_0f7a4_47 : decode cJ6_bitCount_0f7a4 47 = .ok (.istore_n 0, 1) := by decide +kernel
theorem dJ6_bitCount_0f7a4_48 : decode cJ6_bitCount_0f7a4 48 = .ok (.iload_n 0, 1) := by decide +kernel
theorem dJ6_bitCount_0f7a4_49 : decode cJ6_bitCount_0f7a4 49 = .ok (.bipush 63, 2) := by decide +kernel
theorem dJ6_bitCount_0f7a4_51 : decode cJ6_bitCount_0f7a4 51 = .ok (.iand, 1) := by decide +kernel
theorem dJ6_bitCount_0f7a4_52 : decode cJ6_bitCount_0f7a4 52 = .ok (.ireturn, 1) := by decide +kernel
theorem dJ9_max_7cf53_0 : decode cJ9_max_7cf53 0 = .ok (.iload_n 0, 1) := by decide +kernel
theorem dJ9_max_7cf53_1 : decode cJ9_max_7cf53 1 = .ok (.iload_n 1, 1) := by decide +kernel
theorem dJ9_max_7cf53_2 : decode cJ9_max_7cf53 2 = .ok (.if_icmp .lt 7, 3) := by decide +kernel
theorem dJ9_max_7cf53_5 : decode cJ9_max_7cf53 5 = .ok (.iload_n 0, 1) := by decide +kernel
theorem dJ9_max_7cf53_6 : decode cJ9_max_7cf53 6 = .ok (.goto 4, 3) := by decide +kernel
theorem dJ9_max_7cf53_9 : decode cJ9_max_7cf53 9 = .ok (.iload_n 1, 1) := by decide +kernel
theorem dJ9_max_7cf53_10 : decode cJ9_max_7cf53 10 = .ok (.ireturn, 1) := by decide +kernel
theorem dJ9_min_7cf53_0 : decode cJ9_min_7cf53 0 = .ok (.iload_n 0, 1) := by decide +kernel
theorem dJ9_min_7cf53_1 : decode cJ9_min_7cf53 1 = .ok (.iload_n 1, 1) := by decide +kernel
theorem dJ9_min_7cf53_2 : decode cJ9_min_7cf53 2 = .ok (.if_icmp .gt 7, 3) := by decide +kernel
theorem dJ9_min_7cf53_5 : decode cJ9_min_7cf53 5 = .ok (.iload_n 0, 1) := by decide +kernel
theorem dJ9_min_7cf53_6 : decode cJ9_min_7cf53 6 = .ok (.goto 4, 3) := by decide +kernel
theorem dJ9_min_7cf53_9 : decode cJ9_min_7cf53 9 = .ok (.iload_n 1, 1) := by decide +kernel
theorem dJ9_min_7cf53_10 : decode cJ9_min_7cf53 10 = .ok (.ireturn, 1) := by decide +kernel
end
section
theorem dX5_init_0 : decode cX5_init 0 = .ok (.aload_n 0, 1) := by decide +kernel
theorem dX5_init_1 : decode cX5_init 1 = .ok (.invokespecial 1, 3) := by decide +kernel
theorem dX5_init_4 : decode cX5_init 4 = .ok (.aload_n 0, 1) := by decide +kernel
theorem dX5_init_5 : decode cX5_init 5 = .ok (.bipush 26, 2) := by decide +kernel
theorem dX5_init_7 : decode cX5_init 7 = .ok (.newarray .int, 2) := by decide +kernel
theorem dX5_init_9 : decode cX5_init 9 = .ok (.putfield 7, 3) := by decide +kernel
theorem dX5_init_12 : decode cX5_init 12 = .ok (.aload_n 0, 1) := by decide +kernel
theorem dX5_init_13 : decode cX5_init 13 = .ok (.sipush 156, 3) := by decide +kernel
theorem dX5_init_16 : decode cX5_init 16 = .ok (.newarray .int, 2) := by decide +kernel
theorem dX5_init_18 : decode cX5_init 18 = .ok (.putfield 13, 3) := by decide +kernel
theorem dX5_init_21 : decode cX5_init 21 = .ok (.aload_n 0, 1) := by decide +kernel
theorem dX5_init_22 : decode cX5_init 22 = .ok (.bipush 48, 2) := by decide +kernel
theorem dX5_init_24 : decode cX5_init 24 = .ok (.newarray .int, 2) := by decide +kernel
theorem dX5_init_26 : decode cX5_init 26 = .ok (.putfield 16, 3) := by decide +kernel
theorem dX5_init_29 : decode cX5_init 29 = .ok (.aload_n 0, 1) := by decide +kernel
theorem dX5_init_30 : decode cX5_init 30 = .ok (.iconst 2, 1) := by decide +kernel
theorem dX5_init_31 : decode cX5_init 31 = .ok (.newarray .int, 2) := by decide +kernel
theorem dX5_init_33 : decode cX5_init 33 = .ok (.putfield 19, 3) := by decide +kernel
theorem dX5_init_36 : decode cX5_init 36 = .ok (.aload_n 0, 1) := by decide +kernel
theorem dX5_init_37 : decode cX5_init 37 = .ok (.bipush 60, 2) := by decide +kernel
theorem dX5_init_39 : decode cX5_init 39 = .ok (.newarray .int, 2) := by decide +kernel
theorem dX5_init_41 : decode cX5_init 41 = .ok (.putfield 22, 3) := by decide +kernel
theorem dX5_init_44 : decode cX5_init 44 = .ok (.aload_n 0, 1) := by decide +kernel
theorem dX5_init_45 : decode cX5_init 45 = .ok (.sipush 2800, 3) := by decide +kernel
theorem dX5_init_48 : decode cX5_init 48 = .ok (.newarray .int, 2) := by decide +kernel
theorem dX5_init_50 : decode cX5_init 50 = .ok (.putfield 25, 3) := by decide +kernel
theorem dX5_init_53 : decode cX5_init 53 = .ok (.aload_n 0, 1) := by decide +kernel
theorem dX5_init_54 : decode cX5_init 54 = .ok (.iconst 4, 1) := by decide +kernel
theorem dX5_init_55 : decode cX5_init 55 = .ok (.newarray .int, 2) := by decide +kernel
theorem dX5_init_57 : decode cX5_init 57 = .ok (.putfield 28, 3) := by decide +kernel
theorem dX5_init_60 : decode cX5_init 60 = .ok (.aload_n 0, 1) := by decide +kernel
theorem dX5_init_61 : decode cX5_init 61 = .ok (.bipush 64, 2) := by decide +kernel
theorem dX5_init_63 : decode cX5_init 63 = .ok (.newarray .int, 2) := by decide +kernel
theorem dX5_init_65 : decode cX5_init 65 = .ok (.putfield 31, 3) := by decide +kernel
theorem dX5_init_68 : decode cX5_init 68 = .ok (.aload_n 0, 1) := by decide +kernel
theorem dX5_init_69 : decode cX5_init 69 = .ok (.bipush 80, 2) := by decide +kernel
theorem dX5_init_71 : decode cX5_init 71 = .ok (.newarray .long, 2) := by decide +kernel
theorem dX5_init_73 : decode cX5_init 73 = .ok (.putfield 34, 3) := by decide +kernel
theorem dX5_init_76 : decode cX5_init 76 = .ok (.aload_n 0, 1) := by decide +kernel
theorem dX5_init_77 : decode cX5_init 77 = .ok (.bipush 16, 2) := by decide +kernel
theorem dX5_init_79 : decode cX5_init 79 = .ok (.newarray .int, 2) := by decide +kernel
theorem dX5_init_81 : decode cX5_init 81 = .ok (.putfield 38, 3) := by decide +kernel
theorem dX5_init_84 : decode cX5_init 84 = .ok (.aload_n 0, 1) := by decide +kernel
theorem dX5_init_85 : decode cX5_init 85 = .ok (.sipush 400, 3) := by decide +kernel
theorem dX5_init_88 : decode cX5_init 88 = .ok (.newarray .int, 2) := by decide +kernel
theorem dX5_init_90 : decode cX5_init 90 = .ok (.putfield 41, 3) := by decide +kernel
theorem dX5_init_93 : decode cX5_init 93 = .ok (.aload_n 0, 1) := by decide +kernel
theorem dX5_init_94 : decode cX5_init 94 = .ok (.sipush 2401, 3) := by decide +kernel
theorem dX5_init_97 : decode cX5_init 97 = .ok (.newarray .int, 2) := by decide +kernel
theorem dX5_init_99 : decode cX5_init 99 = .ok (.putfield 44, 3) := by decide +kernel
theorem dX5_init_102 : decode cX5_init 102 = .ok (.aload_n 0, 1) := by decide +kernel
theorem dX5_init_103 : decode cX5_init 103 = .ok (.bipush 8, 2) := by decide +kernel
theorem dX5_init_105 : decode cX5_init 105 = .ok (.newarray .int, 2) := by decide +kernel
theorem dX5_init_107 : decode cX5_init 107 = .ok (.putfield 47, 3) := by decide +kernel
theorem dX5_init_110 : decode cX5_init 110 = .ok (.aload_n 0, 1) := by decide +kernel
theorem dX5_init_111 : decode cX5_init 111 = .ok (.getfield 7, 3) := by decide +kernel
theorem dX5_init_114 : decode cX5_init 114 = .ok (.bipush 24, 2) := by decide +kernel
theorem dX5_init_116 : decode cX5_init 116 = .ok (.iconst 1, 1) := by decide +kernel
theorem dX5_init_117 : decode cX5_init 117 = .ok (.iastore, 1) := by decide +kernel
theorem dX5_init_118 : decode cX5_init 118 = .ok (.aload_n 0, 1) := by decide +kernel
theorem dX5_init_119 : decode cX5_init 119 = .ok (.getfield 7, 3) := by decide +kernel
theorem dX5_init_122 : decode cX5_init 122 = .ok (.bipush 25, 2) := by decide +kernel
theorem dX5_init_124 : decode cX5_init 124 = .ok (.bipush 9, 2) := by decide +kernel
theorem dX5_init_126 : decode cX5_init 126 = .ok (.iastore, 1) := by decide +kernel
theorem dX5_init_127 : decode cX5_init 127 = .ok (.return_, 1) := by decide +kernel
theorem dX5_thrown_0 : decode cX5_thrown 0 = .ok (.aload_n 0, 1) := by decide +kernel
theorem dX5_thrown_1 : decode cX5_thrown 1 = .ok (.getfield 50, 3) := by decide +kernel
theorem dX5_thrown_4 : decode cX5_thrown 4 = .ok (.ireturn, 1) := by decide +kernel
theorem dX5_within_0 : decode cX5_within 0 = .ok (.iload_n 0, 1) := by decide +kernel
theorem dX5_within_1 : decode cX5_within 1 = .ok (.iload_n 1, 1) := by decide +kernel
theorem dX5_within_2 : decode cX5_within 2 = .ok (.if_icmp .lt 12, 3) := by decide +kernel
theorem dX5_within_5 : decode cX5_within 5 = .ok (.iload_n 0, 1) := by decide +kernel
theorem dX5_within_6 : decode cX5_within 6 = .ok (.iload_n 2, 1) := by decide +kernel
theorem dX5_within_7 : decode cX5_within 7 = .ok (.if_icmp .gt 7, 3) := by decide +kernel
theorem dX5_within_10 : decode cX5_within 10 = .ok (.iconst 1, 1) := by decide +kernel
theorem dX5_within_11 : decode cX5_within 11 = .ok (.goto 4, 3) := by decide +kernel
theorem dX5_within_14 : decode cX5_within 14 = .ok (.iconst 0, 1) := by decide +kernel
theorem dX5_within_15 : decode cX5_within 15 = .ok (.ireturn, 1) := by decide +kernel
theorem dX5_save_0 : decode cX5_save 0 = .ok (.aload_n 0, 1) := by decide +kernel
theorem dX5_save_1 : decode cX5_save 1 = .ok (.getfield 54, 3) := by decide +kernel
theorem dX5_save_4 : decode cX5_save 4 = .ok (.bipush 6, 2) := by decide +kernel
theorem dX5_save_6 : decode cX5_save 6 = .ok (.if_icmp .ne 44, 3) := by decide +kernel
theorem dX5_save_9 : decode cX5_save 9 = .ok (.bipush 26, 2) := by decide +kernel
theorem dX5_save_11 : decode cX5_save 11 = .ok (.istore_n 1, 1) := by decide +kernel
theorem dX5_save_12 : decode cX5_save 12 = .ok (.iload_n 1, 1) := by decide +kernel
theorem dX5_save_13 : decode cX5_save 13 = .ok (.sipush 156, 3) := by decide +kernel
theorem dX5_save_16 : decode cX5_save 16 = .ok (.if_icmp .ge 24, 3) := by decide +kernel
theorem dX5_save_19 : decode cX5_save 19 = .ok (.aload_n 0, 1) := by decide +kernel
theorem dX5_save_20 : decode cX5_save 20 = .ok (.getfield 13, 3) := by decide +kernel
theorem dX5_save_23 : decode cX5_save 23 = .ok (.iload_n 1, 1) := by decide +kernel
theorem dX5_save_24 : decode cX5_save 24 = .ok (.bipush 26, 2) := by decide +kernel
theorem dX5_save_26 : decode cX5_save 26 = .ok (.isub, 1) := by decide +kernel
theorem dX5_save_27 : decode cX5_save 27 = .ok (.aload_n 0, 1) := by decide +kernel
theorem dX5_save_28 : decode cX5_save 28 = .ok (.getfield 13, 3) := by decide +kernel
theorem dX5_save_31 : decode cX5_save 31 = .ok (.iload_n 1, 1) := by decide +kernel
theorem dX5_save_32 : decode cX5_save 32 = .ok (.iaload, 1) := by decide +kernel
theorem dX5_save_33 : decode cX5_save 33 = .ok (.iastore, 1) := by decide +kernel
theorem dX5_save_34 : decode cX5_save 34 = .ok (.iinc 1 1, 3) := by decide +kernel
theorem dX5_save_37 : decode cX5_save 37 = .ok (.goto (-25), 3) := by decide +kernel
theorem dX5_save_40 : decode cX5_save 40 = .ok (.aload_n 0, 1) := by decide +kernel
theorem dX5_save_41 : decode cX5_save 41 = .ok (.dup, 1) := by decide +kernel
theorem dX5_save_42 : decode cX5_save 42 = .ok (.getfield 54, 3) := by decide +kernel
theorem dX5_save_45 : decode cX5_save 45 = .ok (.iconst 1, 1) := by decide +kernel
theorem dX5_save_46 : decode cX5_save 46 = .ok (.isub, 1) := by decide +kernel
theorem dX5_save_47 : decode cX5_save 47 = .ok (.putfield 54, 3) := by decide +kernel
theorem dX5_save_50 : decode cX5_save 50 = .ok (.iconst 0, 1) := by decide +kernel
theorem dX5_save_51 : decode cX5_save 51 = .ok (.istore_n 1, 1) := by decide +kernel
theorem dX5_save_52 : decode cX5_save 52 = .ok (.iload_n 1, 1) := by decide +kernel
theorem dX5_save_53 : decode cX5_save 53 = .ok (.bipush 26, 2) := by decide +kernel
theorem dX5_save_55 : decode cX5_save 55 = .ok (.if_icmp .ge 29, 3) := by decide +kernel
theorem dX5_save_58 : decode cX5_save 58 = .ok (.aload_n 0, 1) := by decide +kernel
theorem dX5_save_59 : decode cX5_save 59 = .ok (.getfield 13, 3) := by decide +kernel
theorem dX5_save_62 : decode cX5_save 62 = .ok (.bipush 26, 2) := by decide +kernel
theorem dX5_save_64 : decode cX5_save 64 = .ok (.aload_n 0, 1) := by decide +kernel
theorem dX5_save_65 : decode cX5_save 65 = .ok (.getfield 54, 3) := by decide +kernel
theorem dX5_save_68 : decode cX5_save 68 = .ok (.imul, 1) := by decide +kernel
theorem dX5_save_69 : decode cX5_save 69 = .ok (.iload_n 1, 1) := by decide +kernel
theorem dX5_save_70 : decode cX5_save 70 = .ok (.iadd, 1) := by decide +kernel
theorem dX5_save_71 : decode cX5_save 71 = .ok (.aload_n 0, 1) := by decide +kernel
theorem dX5_save_72 : decode cX5_save 72 = .ok (.getfield 7, 3) := by decide +kernel
theorem dX5_save_75 : decode cX5_save 75 = .ok (.iload_n 1, 1) := by decide +kernel
theorem dX5_save_76 : decode cX5_save 76 = .ok (.iaload, 1) := by decide +kernel
theorem dX5_save_77 : decode cX5_save 77 = .ok (.iastore, 1) := by decide +kernel
theorem dX5_save_78 : decode cX5_save 78 = .ok (.iinc 1 1, 3) := by decide +kernel
theorem dX5_save_81 : decode cX5_save 81 = .ok (.goto (-29), 3) := by decide +kernel
theorem dX5_save_84 : decode cX5_save 84 = .ok (.aload_n 0, 1) := by decide +kernel
theorem dX5_save_85 : decode cX5_save 85 = .ok (.dup, 1) := by decide +kernel
theorem dX5_save_86 : decode cX5_save 86 = .ok (.getfield 54, 3) := by decide +kernel
theorem dX5_save_89 : decode cX5_save 89 = .ok (.iconst 1, 1) := by decide +kernel
theorem dX5_save_90 : decode cX5_save 90 = .ok (.iadd, 1) := by decide +kernel
theorem dX5_save_91 : decode cX5_save 91 = .ok (.putfield 54, 3) := by decide +kernel
theorem dX5_save_94 : decode cX5_save 94 = .ok (.return_, 1) := by decide +kernel
theorem dX5_of_0 : decode cX5_of 0 = .ok (.aload_n 0, 1) := by decide +kernel
theorem dX5_of_1 : decode cX5_of 1 = .ok (.getfield 7, 3) := by decide +kernel
theorem dX5_of_4 : decode cX5_of 4 = .ok (.bipush 8, 2) := by decide +kernel
theorem dX5_of_6 : decode cX5_of 6 = .ok (.iload_n 1, 1) := by decide +kernel
theorem dX5_of_7 : decode cX5_of 7 = .ok (.imul, 1) := by decide +kernel
theorem dX5_of_8 : decode cX5_of 8 = .ok (.iload_n 2, 1) := by decide +kernel
theorem dX5_of_9 : decode cX5_of 9 = .ok (.iadd, 1) := by decide +kernel
theorem dX5_of_10 : decode cX5_of 10 = .ok (.iaload, 1) := by decide +kernel
theorem dX5_of_11 : decode cX5_of 11 = .ok (.ireturn, 1) := by decide +kernel
theorem dX5_variableOf_0 : decode cX5_variableOf 0 = .ok (.aload_n 0, 1) := by decide +kernel
theorem dX5_variableOf_1 : decode cX5_variableOf 1 = .ok (.iload_n 1, 1) := by decide +kernel
theorem dX5_variableOf_2 : decode cX5_variableOf 2 = .ok (.iconst 4, 1) := by decide +kernel
theorem dX5_variableOf_3 : decode cX5_variableOf 3 = .ok (.iload_n 2, 1) := by decide +kernel
theorem dX5_variableOf_4 : decode cX5_variableOf 4 = .ok (.iadd, 1) := by decide +kernel
theorem dX5_variableOf_5 : decode cX5_variableOf 5 = .ok (.invokevirtual 57, 3) := by decide +kernel
theorem dX5_variableOf_8 : decode cX5_variableOf 8 = .ok (.ireturn, 1) := by decide +kernel
theorem dX5_isProduct_0 : decode cX5_isProduct 0 = .ok (.iload_n 0, 1) := by decide +kernel
theorem dX5_isProduct_1 : decode cX5_isProduct 1 = .ok (.iconst 0, 1) := by decide +kernel
theorem dX5_isProduct_2 : decode cX5_isProduct 2 = .ok (.iconst 2, 1) := by decide +kernel
theorem dX5_isProduct_3 : decode cX5_isProduct 3 = .ok (.invokestatic 61, 3) := by decide +kernel
theorem dX5_isProduct_6 : decode cX5_isProduct 6 = .ok (.ireturn, 1) := by decide +kernel
theorem dX5_isConstant_0 : decode cX5_isConstant 0 = .ok (.iload_n 0, 1) := by decide +kernel
theorem dX5_isConstant_1 : decode cX5_isConstant 1 = .ok (.iconst 0, 1) := by decide +kernel
theorem dX5_isConstant_2 : decode cX5_isConstant 2 = .ok (.iconst 3, 1) := by decide +kernel
theorem dX5_isConstant_3 : decode cX5_isConstant 3 = .ok (.invokestatic 61, 3) := by decide +kernel
theorem dX5_isConstant_6 : decode cX5_isConstant 6 = .ok (.ireturn, 1) := by decide +kernel
theorem dX5_isVariable_0 : decode cX5_isVariable 0 = .ok (.iload_n 0, 1) := by decide +kernel
theorem dX5_isVariable_1 : decode cX5_isVariable 1 = .ok (.iconst 0, 1) := by decide +kernel
theorem dX5_isVariable_2 : decode cX5_isVariable 2 = .ok (.iconst 3, 1) := by decide +kernel
theorem dX5_isVariable_3 : decode cX5_isVariable 3 = .ok (.invokestatic 61, 3) := by decide +kernel
theorem dX5_isVariable_6 : decode cX5_isVariable 6 = .ok (.ireturn, 1) := by decide +kernel
theorem dX5_factorsOf_0 : decode cX5_factorsOf 0 = .ok (.iconst 0, 1) := by decide +kernel
theorem dX5_factorsOf_1 : decode cX5_factorsOf 1 = .ok (.istore_n 2, 1) := by decide +kernel
theorem dX5_factorsOf_2 : decode cX5_factorsOf 2 = .ok (.iconst 0, 1) := by decide +kernel
theorem dX5_factorsOf_3 : decode cX5_factorsOf 3 = .ok (.istore_n 3, 1) := by decide +kernel
theorem dX5_factorsOf_4 : decode cX5_factorsOf 4 = .ok (.iload_n 3, 1) := by decide +kernel
theorem dX5_factorsOf_5 : decode cX5_factorsOf 5 = .ok (.bipush 8, 2) := by decide +kernel
theorem dX5_factorsOf_7 : decode cX5_factorsOf 7 = .ok (.if_icmp .ge 18, 3) := by decide +kernel
theorem dX5_factorsOf_10 : decode cX5_factorsOf 10 = .ok (.iload_n 2, 1) := by decide +kernel
theorem dX5_factorsOf_11 : decode cX5_factorsOf 11 = .ok (.aload_n 0, 1) := by decide +kernel
theorem dX5_factorsOf_12 : decode cX5_factorsOf 12 = .ok (.iload_n 1, 1) := by decide +kernel
theorem dX5_factorsOf_13 : decode cX5_factorsOf 13 = .ok (.iload_n 3, 1) := by decide +kernel
theorem dX5_factorsOf_14 : decode cX5_factorsOf 14 = .ok (.invokevirtual 57, 3) := by decide +kernel
theorem dX5_factorsOf_17 : decode cX5_factorsOf 17 = .ok (.iadd, 1) := by decide +kernel
theorem dX5_factorsOf_18 : decode cX5_factorsOf 18 = .ok (.istore_n 2, 1) := by decide +kernel
theorem dX5_factorsOf_19 : decode cX5_factorsOf 19 = .ok (.iinc 3 1, 3) := by decide +kernel
theorem dX5_factorsOf_22 : decode cX5_factorsOf 22 = .ok (.goto (-18), 3) := by decide +kernel
theorem dX5_factorsOf_25 : decode cX5_factorsOf 25 = .ok (.iload_n 2, 1) := by decide +kernel
theorem dX5_factorsOf_26 : decode cX5_factorsOf 26 = .ok (.ireturn, 1) := by decide +kernel
theorem dX5_restOf_0 : decode cX5_restOf 0 = .ok (.aload_n 0, 1) := by decide +kernel
theorem dX5_restOf_1 : decode cX5_restOf 1 = .ok (.iconst 2, 1) := by decide +kernel
theorem dX5_restOf_2 : decode cX5_restOf 2 = .ok (.iload_n 1, 1) := by decide +kernel
theorem dX5_restOf_3 : decode cX5_restOf 3 = .ok (.invokevirtual 57, 3) := by decide +kernel
theorem dX5_restOf_6 : decode cX5_restOf 6 = .ok (.aload_n 0, 1) := by decide +kernel
theorem dX5_restOf_7 : decode cX5_restOf 7 = .ok (.iconst 0, 1) := by decide +kernel
theorem dX5_restOf_8 : decode cX5_restOf 8 = .ok (.iload_n 1, 1) := by decide +kernel
theorem dX5_restOf_9 : decode cX5_restOf 9 = .ok (.invokevirtual 57, 3) := by decide +kernel
theorem dX5_restOf_12 : decode cX5_restOf 12 = .ok (.isub, 1) := by decide +kernel
theorem dX5_restOf_13 : decode cX5_restOf 13 = .ok (.ireturn, 1) := by decide +kernel
theorem dX5_greatest_0 : decode cX5_greatest 0 = .ok (.aload_n 0, 1) := by decide +kernel
theorem dX5_greatest_1 : decode cX5_greatest 1 = .ok (.iconst 0, 1) := by decide +kernel
theorem dX5_greatest_2 : decode cX5_greatest 2 = .ok (.iload_n 1, 1) := by decide +kernel
theorem dX5_greatest_3 : decode cX5_greatest 3 = .ok (.invokevirtual 65, 3) := by decide +kernel
theorem dX5_greatest_6 : decode cX5_greatest 6 = .ok (.istore_n 3, 1) := by decide +kernel
theorem dX5_greatest_7 : decode cX5_greatest 7 = .ok (.iload_n 3, 1) := by decide +kernel
theorem dX5_greatest_8 : decode cX5_greatest 8 = .ok (.ifCond .ne 7, 3) := by decide +kernel
theorem dX5_greatest_11 : decode cX5_greatest 11 = .ok (.iconst 0, 1) := by decide +kernel
theorem dX5_greatest_12 : decode cX5_greatest 12 = .ok (.goto 6, 3) := by decide +kernel
theorem dX5_greatest_15 : decode cX5_greatest 15 = .ok (.iload_n 2, 1) := by decide +kernel
theorem dX5_greatest_16 : decode cX5_greatest 16 = .ok (.iload_n 3, 1) := by decide +kernel
theorem dX5_greatest_17 : decode cX5_greatest 17 = .ok (.idiv, 1) := by decide +kernel
theorem dX5_greatest_18 : decode cX5_greatest 18 = .ok (.istore 4, 2) := by decide +kernel
theorem dX5_greatest_20 : decode cX5_greatest 20 = .ok (.iload 4, 2) := by decide +kernel
theorem dX5_greatest_22 : decode cX5_greatest 22 = .ok (.aload_n 0, 1) := by decide +kernel
theorem dX5_greatest_23 : decode cX5_greatest 23 = .ok (.getfield 7, 3) := by decide +kernel
theorem dX5_greatest_26 : decode cX5_greatest 26 = .ok (.bipush 25, 2) := by decide +kernel
theorem dX5_greatest_28 : decode cX5_greatest 28 = .ok (.iaload, 1) := by decide +kernel
theorem dX5_greatest_29 : decode cX5_greatest 29 = .ok (.if_icmp .le 13, 3) := by decide +kernel
theorem dX5_greatest_32 : decode cX5_greatest 32 = .ok (.aload_n 0, 1) := by decide +kernel
theorem dX5_greatest_33 : decode cX5_greatest 33 = .ok (.getfield 7, 3) := by decide +kernel
theorem dX5_greatest_36 : decode cX5_greatest 36 = .ok (.bipush 25, 2) := by decide +kernel
theorem dX5_greatest_38 : decode cX5_greatest 38 = .ok (.iaload, 1) := by decide +kernel
theorem dX5_greatest_39 : decode cX5_greatest 39 = .ok (.goto 5, 3) := by decide +kernel
theorem dX5_greatest_42 : decode cX5_greatest 42 = .ok (.iload 4, 2) := by decide +kernel
theorem dX5_greatest_44 : decode cX5_greatest 44 = .ok (.ireturn, 1) := by decide +kernel
theorem dX5_listOne_0 : decode cX5_listOne 0 = .ok (.aload_n 0, 1) := by decide +kernel
theorem dX5_listOne_1 : decode cX5_listOne 1 = .ok (.iconst 0, 1) := by decide +kernel
theorem dX5_listOne_2 : decode cX5_listOne 2 = .ok (.iconst 3, 1) := by decide +kernel
theorem dX5_listOne_3 : decode cX5_listOne 3 = .ok (.invokevirtual 65, 3) := by decide +kernel
theorem dX5_listOne_6 : decode cX5_listOne 6 = .ok (.istore 6, 2) := by decide +kernel
theorem dX5_listOne_8 : decode cX5_listOne 8 = .ok (.iload 6, 2) := by decide +kernel
theorem dX5_listOne_10 : decode cX5_listOne 10 = .ok (.ifCond .ne 7, 3) := by decide +kernel
theorem dX5_listOne_13 : decode cX5_listOne 13 = .ok (.iconst 0, 1) := by decide +kernel
theorem dX5_listOne_14 : decode cX5_listOne 14 = .ok (.goto 8, 3) := by decide +kernel
theorem dX5_listOne_17 : decode cX5_listOne 17 = .ok (.iload 5, 2) := by decide +kernel
theorem dX5_listOne_19 : decode cX5_listOne 19 = .ok (.iload 6, 2) := by decide +kernel
theorem dX5_listOne_21 : decode cX5_listOne 21 = .ok (.idiv, 1) := by decide +kernel
theorem dX5_listOne_22 : decode cX5_listOne 22 = .ok (.istore 7, 2) := by decide +kernel
theorem dX5_listOne_24 : decode cX5_listOne 24 = .ok (.iload 7, 2) := by decide +kernel
theorem dX5_listOne_26 : decode cX5_listOne 26 = .ok (.iload 6, 2) := by decide +kernel
theorem dX5_listOne_28 : decode cX5_listOne 28 = .ok (.imul, 1) := by decide +kernel
theorem dX5_listOne_29 : decode cX5_listOne 29 = .ok (.iload 5, 2) := by decide +kernel
theorem dX5_listOne_31 : decode cX5_listOne 31 = .ok (.if_icmp .ne 15, 3) := by decide +kernel
theorem dX5_listOne_34 : decode cX5_listOne 34 = .ok (.iload 7, 2) := by decide +kernel
theorem dX5_listOne_36 : decode cX5_listOne 36 = .ok (.aload_n 0, 1) := by decide +kernel
theorem dX5_listOne_37 : decode cX5_listOne 37 = .ok (.getfield 7, 3) := by decide +kernel
theorem dX5_listOne_40 : decode cX5_listOne 40 = .ok (.bipush 25, 2) := by decide +kernel
theorem dX5_listOne_42 : decode cX5_listOne 42 = .ok (.iaload, 1) := by decide +kernel
theorem dX5_listOne_43 : decode cX5_listOne 43 = .ok (.if_icmp .le 4, 3) := by decide +kernel
theorem dX5_listOne_46 : decode cX5_listOne 46 = .ok (.return_, 1) := by decide +kernel
theorem dX5_listOne_47 : decode cX5_listOne 47 = .ok (.iload_n 2, 1) := by decide +kernel
theorem dX5_listOne_48 : decode cX5_listOne 48 = .ok (.ifCond .le 7, 3) := by decide +kernel
theorem dX5_listOne_51 : decode cX5_listOne 51 = .ok (.iconst 1, 1) := by decide +kernel
theorem dX5_listOne_52 : decode cX5_listOne 52 = .ok (.goto 4, 3) := by decide +kernel
theorem dX5_listOne_55 : decode cX5_listOne 55 = .ok (.iconst 0, 1) := by decide +kernel
theorem dX5_listOne_56 : decode cX5_listOne 56 = .ok (.iload_n 3, 1) := by decide +kernel
theorem dX5_listOne_57 : decode cX5_listOne 57 = .ok (.ifCond .le 7, 3) := by decide +kernel
theorem dX5_listOne_60 : decode cX5_listOne 60 = .ok (.iconst 2, 1) := by decide +kernel
theorem dX5_listOne_61 : decode cX5_listOne 61 = .ok (.goto 4, 3) := by decide +kernel
theorem dX5_listOne_64 : decode cX5_listOne 64 = .ok (.iconst 0, 1) := by decide +kernel
theorem dX5_listOne_65 : decode cX5_listOne 65 = .ok (.iadd, 1) := by decide +kernel
theorem dX5_listOne_66 : decode cX5_listOne 66 = .ok (.iload 4, 2) := by decide +kernel
theorem dX5_listOne_68 : decode cX5_listOne 68 = .ok (.ifCond .le 7, 3) := by decide +kernel
theorem dX5_listOne_71 : decode cX5_listOne 71 = .ok (.iconst 4, 1) := by decide +kernel
theorem dX5_listOne_72 : decode cX5_listOne 72 = .ok (.goto 4, 3) := by decide +kernel
theorem dX5_listOne_75 : decode cX5_listOne 75 = .ok (.iconst 0, 1) := by decide +kernel
theorem dX5_listOne_76 : decode cX5_listOne 76 = .ok (.iadd, 1) := by decide +kernel
theorem dX5_listOne_77 : decode cX5_listOne 77 = .ok (.iload 7, 2) := by decide +kernel
theorem dX5_listOne_79 : decode cX5_listOne 79 = .ok (.ifCond .le 8, 3) := by decide +kernel
theorem dX5_listOne_82 : decode cX5_listOne 82 = .ok (.bipush 8, 2) := by decide +kernel
theorem dX5_listOne_84 : decode cX5_listOne 84 = .ok (.goto 4, 3) := by decide +kernel
theorem dX5_listOne_87 : decode cX5_listOne 87 = .ok (.iconst 0, 1) := by decide +kernel
theorem dX5_listOne_88 : decode cX5_listOne 88 = .ok (.iadd, 1) := by decide +kernel
theorem dX5_listOne_89 : decode cX5_listOne 89 = .ok (.istore 8, 2) := by decide +kernel
theorem dX5_listOne_91 : decode cX5_listOne 91 = .ok (.aload_n 0, 1) := by decide +kernel
theorem dX5_listOne_92 : decode cX5_listOne 92 = .ok (.getfield 25, 3) := by decide +kernel
theorem dX5_listOne_95 : decode cX5_listOne 95 = .ok (.sipush 700, 3) := by decide +kernel
theorem dX5_listOne_98 : decode cX5_listOne 98 = .ok (.iload_n 1, 1) := by decide +kernel
theorem dX5_listOne_99 : decode cX5_listOne 99 = .ok (.imul, 1) := by decide +kernel
theorem dX5_listOne_100 : decode cX5_listOne 100 = .ok (.aload_n 0, 1) := by decide +kernel
theorem dX5_listOne_101 : decode cX5_listOne 101 = .ok (.getfield 28, 3) := by decide +kernel
theorem dX5_listOne_104 : decode cX5_listOne 104 = .ok (.iload_n 1, 1) := by decide +kernel
theorem dX5_listOne_105 : decode cX5_listOne 105 = .ok (.iaload, 1) := by decide +kernel
theorem dX5_listOne_106 : decode cX5_listOne 106 = .ok (.iadd, 1) := by decide +kernel
theorem dX5_listOne_107 : decode cX5_listOne 107 = .ok (.sipush 1000, 3) := by decide +kernel
theorem dX5_listOne_110 : decode cX5_listOne 110 = .ok (.iload_n 2, 1) := by decide +kernel
theorem dX5_listOne_111 : decode cX5_listOne 111 = .ok (.imul, 1) := by decide +kernel
theorem dX5_listOne_112 : decode cX5_listOne 112 = .ok (.bipush 100, 2) := by decide +kernel
theorem dX5_listOne_114 : decode cX5_listOne 114 = .ok (.iload_n 3, 1) := by decide +kernel
theorem dX5_listOne_115 : decode cX5_listOne 115 = .ok (.imul, 1) := by decide +kernel
theorem dX5_listOne_116 : decode cX5_listOne 116 = .ok (.iadd, 1) := by decide +kernel
theorem dX5_listOne_117 : decode cX5_listOne 117 = .ok (.bipush 10, 2) := by decide +kernel
theorem dX5_listOne_119 : decode cX5_listOne 119 = .ok (.iload 4, 2) := by decide +kernel
theorem dX5_listOne_121 : decode cX5_listOne 121 = .ok (.imul, 1) := by decide +kernel
theorem dX5_listOne_122 : decode cX5_listOne 122 = .ok (.iadd, 1) := by decide +kernel
theorem dX5_listOne_123 : decode cX5_listOne 123 = .ok (.iload 7, 2) := by decide +kernel
theorem dX5_listOne_125 : decode cX5_listOne 125 = .ok (.iadd, 1) := by decide +kernel
theorem dX5_listOne_126 : decode cX5_listOne 126 = .ok (.iastore, 1) := by decide +kernel
theorem dX5_listOne_127 : decode cX5_listOne 127 = .ok (.aload_n 0, 1) := by decide +kernel
theorem dX5_listOne_128 : decode cX5_listOne 128 = .ok (.getfield 28, 3) := by decide +kernel
theorem dX5_listOne_131 : decode cX5_listOne 131 = .ok (.iload_n 1, 1) := by decide +kernel
theorem dX5_listOne_132 : decode cX5_listOne 132 = .ok (.dup2, 1) := by decide +kernel
theorem dX5_listOne_133 : decode cX5_listOne 133 = .ok (.iaload, 1) := by decide +kernel
theorem dX5_listOne_134 : decode cX5_listOne 134 = .ok (.iconst 1, 1) := by decide +kernel
theorem dX5_listOne_135 : decode cX5_listOne 135 = .ok (.iadd, 1) := by decide +kernel
theorem dX5_listOne_136 : decode cX5_listOne 136 = .ok (.iastore, 1) := by decide +kernel
theorem dX5_listOne_137 : decode cX5_listOne 137 = .ok (.aload_n 0, 1) := by decide +kernel
theorem dX5_listOne_138 : decode cX5_listOne 138 = .ok (.getfield 31, 3) := by decide +kernel
theorem dX5_listOne_141 : decode cX5_listOne 141 = .ok (.bipush 16, 2) := by decide +kernel
theorem dX5_listOne_143 : decode cX5_listOne 143 = .ok (.iload_n 1, 1) := by decide +kernel
theorem dX5_listOne_144 : decode cX5_listOne 144 = .ok (.imul, 1) := by decide +kernel
theorem dX5_listOne_145 : decode cX5_listOne 145 = .ok (.iload 8, 2) := by decide +kernel
theorem dX5_listOne_147 : decode cX5_listOne 147 = .ok (.iadd, 1) := by decide +kernel
theorem dX5_listOne_148 : decode cX5_listOne 148 = .ok (.dup2, 1) := by decide +kernel
theorem dX5_listOne_149 : decode cX5_listOne 149 = .ok (.iaload, 1) := by decide +kernel
theorem dX5_listOne_150 : decode cX5_listOne 150 = .ok (.iconst 1, 1) := by decide +kernel
theorem dX5_listOne_151 : decode cX5_listOne 151 = .ok (.iadd, 1) := by decide +kernel
theorem dX5_listOne_152 : decode cX5_listOne 152 = .ok (.iastore, 1) := by decide +kernel
theorem dX5_listOne_153 : decode cX5_listOne 153 = .ok (.return_, 1) := by decide +kernel
theorem dX5_list_0 : decode cX5_list 0 = .ok (.aload_n 0, 1) := by decide +kernel
theorem dX5_list_1 : decode cX5_list 1 = .ok (.getfield 28, 3) := by decide +kernel
theorem dX5_list_4 : decode cX5_list 4 = .ok (.iload_n 1, 1) := by decide +kernel
theorem dX5_list_5 : decode cX5_list 5 = .ok (.iconst 0, 1) := by decide +kernel
theorem dX5_list_6 : decode cX5_list 6 = .ok (.iastore, 1) := by decide +kernel
theorem dX5_list_7 : decode cX5_list 7 = .ok (.iconst 0, 1) := by decide +kernel
theorem dX5_list_8 : decode cX5_list 8 = .ok (.istore_n 3, 1) := by decide +kernel
theorem dX5_list_9 : decode cX5_list 9 = .ok (.iload_n 3, 1) := by decide +kernel
theorem dX5_list_10 : decode cX5_list 10 = .ok (.bipush 16, 2) := by decide +kernel
theorem dX5_list_12 : decode cX5_list 12 = .ok (.if_icmp .ge 21, 3) := by decide +kernel
theorem dX5_list_15 : decode cX5_list 15 = .ok (.aload_n 0, 1) := by decide +kernel
theorem dX5_list_16 : decode cX5_list 16 = .ok (.getfield 31, 3) := by decide +kernel
theorem dX5_list_19 : decode cX5_list 19 = .ok (.bipush 16, 2) := by decide +kernel
theorem dX5_list_21 : decode cX5_list 21 = .ok (.iload_n 1, 1) := by decide +kernel
theorem dX5_list_22 : decode cX5_list 22 = .ok (.imul, 1) := by decide +kernel
theorem dX5_list_23 : decode cX5_list 23 = .ok (.iload_n 3, 1) := by decide +kernel
theorem dX5_list_24 : decode cX5_list 24 = .ok (.iadd, 1) := by decide +kernel
theorem dX5_list_25 : decode cX5_list 25 = .ok (.iconst 0, 1) := by decide +kernel
theorem dX5_list_26 : decode cX5_list 26 = .ok (.iastore, 1) := by decide +kernel
theorem dX5_list_27 : decode cX5_list 27 = .ok (.iinc 3 1, 3) := by decide +kernel
theorem dX5_list_30 : decode cX5_list 30 = .ok (.goto (-21), 3) := by decide +kernel
theorem dX5_list_33 : decode cX5_list 33 = .ok (.iconst 0, 1) := by decide +kernel
theorem dX5_list_34 : decode cX5_list 34 = .ok (.istore_n 3, 1) := by decide +kernel
theorem dX5_list_35 : decode cX5_list 35 = .ok (.iload_n 2, 1) := by decide +kernel
theorem dX5_list_36 : decode cX5_list 36 = .ok (.ifCond .lt 109, 3) := by decide +kernel
theorem dX5_list_39 : decode cX5_list 39 = .ok (.iload_n 3, 1) := by decide +kernel
theorem dX5_list_40 : decode cX5_list 40 = .ok (.aload_n 0, 1) := by decide +kernel
theorem dX5_list_41 : decode cX5_list 41 = .ok (.iconst 0, 1) := by decide +kernel
theorem dX5_list_42 : decode cX5_list 42 = .ok (.iload_n 2, 1) := by decide +kernel
theorem dX5_list_43 : decode cX5_list 43 = .ok (.invokevirtual 68, 3) := by decide +kernel
theorem dX5_list_46 : decode cX5_list 46 = .ok (.if_icmp .gt 99, 3) := by decide +kernel
theorem dX5_list_49 : decode cX5_list 49 = .ok (.iload_n 2, 1) := by decide +kernel
theorem dX5_list_50 : decode cX5_list 50 = .ok (.iload_n 3, 1) := by decide +kernel
theorem dX5_list_51 : decode cX5_list 51 = .ok (.aload_n 0, 1) := by decide +kernel
theorem dX5_list_52 : decode cX5_list 52 = .ok (.iconst 0, 1) := by decide +kernel
theorem dX5_list_53 : decode cX5_list 53 = .ok (.iconst 0, 1) := by decide +kernel
theorem dX5_list_54 : decode cX5_list 54 = .ok (.invokevirtual 65, 3) := by decide +kernel
theorem dX5_list_57 : decode cX5_list 57 = .ok (.imul, 1) := by decide +kernel
theorem dX5_list_58 : decode cX5_list 58 = .ok (.isub, 1) := by decide +kernel
theorem dX5_list_59 : decode cX5_list 59 = .ok (.istore 4, 2) := by decide +kernel
theorem dX5_list_61 : decode cX5_list 61 = .ok (.iconst 0, 1) := by decide +kernel
theorem dX5_list_62 : decode cX5_list 62 = .ok (.istore 5, 2) := by decide +kernel
theorem dX5_list_64 : decode cX5_list 64 = .ok (.iload 5, 2) := by decide +kernel
theorem dX5_list_66 : decode cX5_list 66 = .ok (.aload_n 0, 1) := by decide +kernel
theorem dX5_list_67 : decode cX5_list 67 = .ok (.iconst 1, 1) := by decide +kernel
theorem dX5_list_68 : decode cX5_list 68 = .ok (.iload 4, 2) := by decide +kernel
theorem dX5_list_70 : decode cX5_list 70 = .ok (.invokevirtual 68, 3) := by decide +kernel
theorem dX5_list_73 : decode cX5_list 73 = .ok (.if_icmp .gt 66, 3) := by decide +kernel
theorem dX5_list_76 : decode cX5_list 76 = .ok (.iload 4, 2) := by decide +kernel
theorem dX5_list_78 : decode cX5_list 78 = .ok (.iload 5, 2) := by decide +kernel
theorem dX5_list_80 : decode cX5_list 80 = .ok (.aload_n 0, 1) := by decide +kernel
theorem dX5_list_81 : decode cX5_list 81 = .ok (.iconst 0, 1) := by decide +kernel
theorem dX5_list_82 : decode cX5_list 82 = .ok (.iconst 1, 1) := by decide +kernel
theorem dX5_list_83 : decode cX5_list 83 = .ok (.invokevirtual 65, 3) := by decide +kernel
theorem dX5_list_86 : decode cX5_list 86 = .ok (.imul, 1) := by decide +kernel
theorem dX5_list_87 : decode cX5_list 87 = .ok (.isub, 1) := by decide +kernel
theorem dX5_list_88 : decode cX5_list 88 = .ok (.istore 6, 2) := by decide +kernel
theorem dX5_list_90 : decode cX5_list 90 = .ok (.iconst 0, 1) := by decide +kernel
theorem dX5_list_91 : decode cX5_list 91 = .ok (.istore 7, 2) := by decide +kernel
theorem dX5_list_93 : decode cX5_list 93 = .ok (.iload 7, 2) := by decide +kernel
theorem dX5_list_95 : decode cX5_list 95 = .ok (.aload_n 0, 1) := by decide +kernel
theorem dX5_list_96 : decode cX5_list 96 = .ok (.iconst 2, 1) := by decide +kernel
theorem dX5_list_97 : decode cX5_list 97 = .ok (.iload 6, 2) := by decide +kernel
theorem dX5_list_99 : decode cX5_list 99 = .ok (.invokevirtual 68, 3) := by decide +kernel
theorem dX5_list_102 : decode cX5_list 102 = .ok (.if_icmp .gt 31, 3) := by decide +kernel
theorem dX5_list_105 : decode cX5_list 105 = .ok (.aload_n 0, 1) := by decide +kernel
theorem dX5_list_106 : decode cX5_list 106 = .ok (.iload_n 1, 1) := by decide +kernel
theorem dX5_list_107 : decode cX5_list 107 = .ok (.iload_n 3, 1) := by decide +kernel
theorem dX5_list_108 : decode cX5_list 108 = .ok (.iload 5, 2) := by decide +kernel
theorem dX5_list_110 : decode cX5_list 110 = .ok (.iload 7, 2) := by decide +kernel
theorem dX5_list_112 : decode cX5_list 112 = .ok (.iload 6, 2) := by decide +kernel
theorem dX5_list_114 : decode cX5_list 114 = .ok (.iload 7, 2) := by decide +kernel
theorem dX5_list_116 : decode cX5_list 116 = .ok (.aload_n 0, 1) := by decide +kernel
theorem dX5_list_117 : decode cX5_list 117 = .ok (.iconst 0, 1) := by decide +kernel
theorem dX5_list_118 : decode cX5_list 118 = .ok (.iconst 2, 1) := by decide +kernel
theorem dX5_list_119 : decode cX5_list 119 = .ok (.invokevirtual 65, 3) := by decide +kernel
theorem dX5_list_122 : decode cX5_list 122 = .ok (.imul, 1) := by decide +kernel
theorem dX5_list_123 : decode cX5_list 123 = .ok (.isub, 1) := by decide +kernel
theorem dX5_list_124 : decode cX5_list 124 = .ok (.invokevirtual 71, 3) := by decide +kernel
theorem dX5_list_127 : decode cX5_list 127 = .ok (.iinc 7 1, 3) := by decide +kernel
theorem dX5_list_130 : decode cX5_list 130 = .ok (.goto (-37), 3) := by decide +kernel
theorem dX5_list_133 : decode cX5_list 133 = .ok (.iinc 5 1, 3) := by decide +kernel
theorem dX5_list_136 : decode cX5_list 136 = .ok (.goto (-72), 3) := by decide +kernel
theorem dX5_list_139 : decode cX5_list 139 = .ok (.iinc 3 1, 3) := by decide +kernel
theorem dX5_list_142 : decode cX5_list 142 = .ok (.goto (-107), 3) := by decide +kernel
theorem dX5_list_145 : decode cX5_list 145 = .ok (.return_, 1) := by decide +kernel
theorem dX5_listAll_0 : decode cX5_listAll 0 = .ok (.iconst 0, 1) := by decide +kernel
theorem dX5_listAll_1 : decode cX5_listAll 1 = .ok (.istore_n 3, 1) := by decide +kernel
theorem dX5_listAll_2 : decode cX5_listAll 2 = .ok (.iload_n 3, 1) := by decide +kernel
theorem dX5_listAll_3 : decode cX5_listAll 3 = .ok (.iconst 4, 1) := by decide +kernel
theorem dX5_listAll_4 : decode cX5_listAll 4 = .ok (.if_icmp .ge 30, 3) := by decide +kernel
theorem dX5_listAll_7 : decode cX5_listAll 7 = .ok (.aload_n 0, 1) := by decide +kernel
theorem dX5_listAll_8 : decode cX5_listAll 8 = .ok (.iload_n 3, 1) := by decide +kernel
theorem dX5_listAll_9 : decode cX5_listAll 9 = .ok (.aload_n 0, 1) := by decide +kernel
theorem dX5_listAll_10 : decode cX5_listAll 10 = .ok (.iload_n 3, 1) := by decide +kernel
theorem dX5_listAll_11 : decode cX5_listAll 11 = .ok (.invokevirtual 75, 3) := by decide +kernel
theorem dX5_listAll_14 : decode cX5_listAll 14 = .ok (.iload_n 3, 1) := by decide +kernel
theorem dX5_listAll_15 : decode cX5_listAll 15 = .ok (.iload_n 1, 1) := by decide +kernel
theorem dX5_listAll_16 : decode cX5_listAll 16 = .ok (.if_icmp .ne 7, 3) := by decide +kernel
theorem dX5_listAll_19 : decode cX5_listAll 19 = .ok (.iload_n 2, 1) := by decide +kernel
theorem dX5_listAll_20 : decode cX5_listAll 20 = .ok (.goto 4, 3) := by decide +kernel
theorem dX5_listAll_23 : decode cX5_listAll 23 = .ok (.iconst 0, 1) := by decide +kernel
theorem dX5_listAll_24 : decode cX5_listAll 24 = .ok (.iadd, 1) := by decide +kernel
theorem dX5_listAll_25 : decode cX5_listAll 25 = .ok (.invokevirtual 79, 3) := by decide +kernel
theorem dX5_listAll_28 : decode cX5_listAll 28 = .ok (.iinc 3 1, 3) := by decide +kernel
theorem dX5_listAll_31 : decode cX5_listAll 31 = .ok (.goto (-29), 3) := by decide +kernel
theorem dX5_listAll_34 : decode cX5_listAll 34 = .ok (.return_, 1) := by decide +kernel
theorem dX5_patternMask_0 : decode cX5_patternMask 0 = .ok (.iconst 0, 1) := by decide +kernel
theorem dX5_patternMask_1 : decode cX5_patternMask 1 = .ok (.istore_n 1, 1) := by decide +kernel
theorem dX5_patternMask_2 : decode cX5_patternMask 2 = .ok (.iconst 0, 1) := by decide +kernel
theorem dX5_patternMask_3 : decode cX5_patternMask 3 = .ok (.istore_n 2, 1) := by decide +kernel
theorem dX5_patternMask_4 : decode cX5_patternMask 4 = .ok (.iload_n 2, 1) := by decide +kernel
theorem dX5_patternMask_5 : decode cX5_patternMask 5 = .ok (.iconst 4, 1) := by decide +kernel
theorem dX5_patternMask_6 : decode cX5_patternMask 6 = .ok (.if_icmp .ge 28, 3) := by decide +kernel
theorem dX5_patternMask_9 : decode cX5_patternMask 9 = .ok (.iload_n 1, 1) := by decide +kernel
theorem dX5_patternMask_10 : decode cX5_patternMask 10 = .ok (.aload_n 0, 1) := by decide +kernel
theorem dX5_patternMask_11 : decode cX5_patternMask 11 = .ok (.iconst 0, 1) := by decide +kernel
theorem dX5_patternMask_12 : decode cX5_patternMask 12 = .ok (.iload_n 2, 1) := by decide +kernel
theorem dX5_patternMask_13 : decode cX5_patternMask 13 = .ok (.invokevirtual 65, 3) := by decide +kernel
theorem dX5_patternMask_16 : decode cX5_patternMask 16 = .ok (.ifCond .le 9, 3) := by decide +kernel
theorem dX5_patternMask_19 : decode cX5_patternMask 19 = .ok (.iconst 1, 1) := by decide +kernel
theorem dX5_patternMask_20 : decode cX5_patternMask 20 = .ok (.iload_n 2, 1) := by decide +kernel
theorem dX5_patternMask_21 : decode cX5_patternMask 21 = .ok (.ishl, 1) := by decide +kernel
theorem dX5_patternMask_22 : decode cX5_patternMask 22 = .ok (.goto 4, 3) := by decide +kernel
theorem dX5_patternMask_25 : decode cX5_patternMask 25 = .ok (.iconst 0, 1) := by decide +kernel
theorem dX5_patternMask_26 : decode cX5_patternMask 26 = .ok (.ior, 1) := by decide +kernel
theorem dX5_patternMask_27 : decode cX5_patternMask 27 = .ok (.istore_n 1, 1) := by decide +kernel
theorem dX5_patternMask_28 : decode cX5_patternMask 28 = .ok (.iinc 2 1, 3) := by decide +kernel
theorem dX5_patternMask_31 : decode cX5_patternMask 31 = .ok (.goto (-27), 3) := by decide +kernel
theorem dX5_patternMask_34 : decode cX5_patternMask 34 = .ok (.iload_n 1, 1) := by decide +kernel
theorem dX5_patternMask_35 : decode cX5_patternMask 35 = .ok (.ireturn, 1) := by decide +kernel
theorem dX5_layWays_0 : decode cX5_layWays 0 = .ok (.aload_n 0, 1) := by decide +kernel
theorem dX5_layWays_1 : decode cX5_layWays 1 = .ok (.getfield 7, 3) := by decide +kernel
theorem dX5_layWays_4 : decode cX5_layWays 4 = .ok (.bipush 24, 2) := by decide +kernel
theorem dX5_layWays_6 : decode cX5_layWays 6 = .ok (.iaload, 1) := by decide +kernel
theorem dX5_layWays_7 : decode cX5_layWays 7 = .ok (.iconst 1, 1) := by decide +kernel
theorem dX5_layWays_8 : decode cX5_layWays 8 = .ok (.if_icmp .ne 7, 3) := by decide +kernel
theorem dX5_layWays_11 : decode cX5_layWays 11 = .ok (.iconst 0, 1) := by decide +kernel
theorem dX5_layWays_12 : decode cX5_layWays 12 = .ok (.goto 7, 3) := by decide +kernel
theorem dX5_layWays_15 : decode cX5_layWays 15 = .ok (.aload_n 0, 1) := by decide +kernel
theorem dX5_layWays_16 : decode cX5_layWays 16 = .ok (.invokevirtual 83, 3) := by decide +kernel
theorem dX5_layWays_19 : decode cX5_layWays 19 = .ok (.istore_n 1, 1) := by decide +kernel
theorem dX5_layWays_20 : decode cX5_layWays 20 = .ok (.iconst 0, 1) := by decide +kernel
theorem dX5_layWays_21 : decode cX5_layWays 21 = .ok (.istore_n 2, 1) := by decide +kernel
theorem dX5_layWays_22 : decode cX5_layWays 22 = .ok (.iload_n 2, 1) := by decide +kernel
theorem dX5_layWays_23 : decode cX5_layWays 23 = .ok (.bipush 16, 2) := by decide +kernel
theorem dX5_layWays_25 : decode cX5_layWays 25 = .ok (.if_icmp .ge 30, 3) := by decide +kernel
theorem dX5_layWays_28 : decode cX5_layWays 28 = .ok (.aload_n 0, 1) := by decide +kernel
theorem dX5_layWays_29 : decode cX5_layWays 29 = .ok (.getfield 34, 3) := by decide +kernel
theorem dX5_layWays_32 : decode cX5_layWays 32 = .ok (.bipush 64, 2) := by decide +kernel
theorem dX5_layWays_34 : decode cX5_layWays 34 = .ok (.iload_n 2, 1) := by decide +kernel
theorem dX5_layWays_35 : decode cX5_layWays 35 = .ok (.iadd, 1) := by decide +kernel
theorem dX5_layWays_36 : decode cX5_layWays 36 = .ok (.iload_n 2, 1) := by decide +kernel
theorem dX5_layWays_37 : decode cX5_layWays 37 = .ok (.iload_n 1, 1) := by decide +kernel
theorem dX5_layWays_38 : decode cX5_layWays 38 = .ok (.iand, 1) := by decide +kernel
theorem dX5_layWays_39 : decode cX5_layWays 39 = .ok (.iload_n 1, 1) := by decide +kernel
theorem dX5_layWays_40 : decode cX5_layWays 40 = .ok (.if_icmp .ne 7, 3) := by decide +kernel
theorem dX5_layWays_43 : decode cX5_layWays 43 = .ok (.lconst 1, 1) := by decide +kernel
theorem dX5_layWays_44 : decode cX5_layWays 44 = .ok (.goto 4, 3) := by decide +kernel
theorem dX5_layWays_47 : decode cX5_layWays 47 = .ok (.lconst 0, 1) := by decide +kernel
theorem dX5_layWays_48 : decode cX5_layWays 48 = .ok (.lastore, 1) := by decide +kernel
theorem dX5_layWays_49 : decode cX5_layWays 49 = .ok (.iinc 2 1, 3) := by decide +kernel
theorem dX5_layWays_52 : decode cX5_layWays 52 = .ok (.goto (-30), 3) := by decide +kernel
theorem dX5_layWays_55 : decode cX5_layWays 55 = .ok (.iconst 3, 1) := by decide +kernel
theorem dX5_layWays_56 : decode cX5_layWays 56 = .ok (.istore_n 2, 1) := by decide +kernel
theorem dX5_layWays_57 : decode cX5_layWays 57 = .ok (.iload_n 2, 1) := by decide +kernel
theorem dX5_layWays_58 : decode cX5_layWays 58 = .ok (.ifCond .lt 91, 3) := by decide +kernel
theorem dX5_layWays_61 : decode cX5_layWays 61 = .ok (.iconst 0, 1) := by decide +kernel
theorem dX5_layWays_62 : decode cX5_layWays 62 = .ok (.istore_n 3, 1) := by decide +kernel
theorem dX5_layWays_63 : decode cX5_layWays 63 = .ok (.iload_n 3, 1) := by decide +kernel
theorem dX5_layWays_64 : decode cX5_layWays 64 = .ok (.bipush 16, 2) := by decide +kernel
theorem dX5_layWays_66 : decode cX5_layWays 66 = .ok (.if_icmp .ge 77, 3) := by decide +kernel
theorem dX5_layWays_69 : decode cX5_layWays 69 = .ok (.lconst 0, 1) := by decide +kernel
theorem dX5_layWays_70 : decode cX5_layWays 70 = .ok (.lstore 4, 2) := by decide +kernel
theorem dX5_layWays_72 : decode cX5_layWays 72 = .ok (.iconst 0, 1) := by decide +kernel
theorem dX5_layWays_73 : decode cX5_layWays 73 = .ok (.istore 6, 2) := by decide +kernel
theorem dX5_layWays_75 : decode cX5_layWays 75 = .ok (.iload 6, 2) := by decide +kernel
theorem dX5_layWays_77 : decode cX5_layWays 77 = .ok (.bipush 16, 2) := by decide +kernel
theorem dX5_layWays_79 : decode cX5_layWays 79 = .ok (.if_icmp .ge 45, 3) := by decide +kernel
theorem dX5_layWays_82 : decode cX5_layWays 82 = .ok (.lload 4, 2) := by decide +kernel
theorem dX5_layWays_84 : decode cX5_layWays 84 = .ok (.aload_n 0, 1) := by decide +kernel
theorem dX5_layWays_85 : decode cX5_layWays 85 = .ok (.getfield 31, 3) := by decide +kernel
theorem dX5_layWays_88 : decode cX5_layWays 88 = .ok (.bipush 16, 2) := by decide +kernel
theorem dX5_layWays_90 : decode cX5_layWays 90 = .ok (.iload_n 2, 1) := by decide +kernel
theorem dX5_layWays_91 : decode cX5_layWays 91 = .ok (.imul, 1) := by decide +kernel
theorem dX5_layWays_92 : decode cX5_layWays 92 = .ok (.iload 6, 2) := by decide +kernel
theorem dX5_layWays_94 : decode cX5_layWays 94 = .ok (.iadd, 1) := by decide +kernel
theorem dX5_layWays_95 : decode cX5_layWays 95 = .ok (.iaload, 1) := by decide +kernel
theorem dX5_layWays_96 : decode cX5_layWays 96 = .ok (.i2l, 1) := by decide +kernel
theorem dX5_layWays_97 : decode cX5_layWays 97 = .ok (.aload_n 0, 1) := by decide +kernel
theorem dX5_layWays_98 : decode cX5_layWays 98 = .ok (.getfield 34, 3) := by decide +kernel
theorem dX5_layWays_101 : decode cX5_layWays 101 = .ok (.bipush 16, 2) := by decide +kernel
theorem dX5_layWays_103 : decode cX5_layWays 103 = .ok (.iload_n 2, 1) := by decide +kernel
theorem dX5_layWays_104 : decode cX5_layWays 104 = .ok (.imul, 1) := by decide +kernel
theorem dX5_layWays_105 : decode cX5_layWays 105 = .ok (.bipush 16, 2) := by decide +kernel
theorem dX5_layWays_107 : decode cX5_layWays 107 = .ok (.iadd, 1) := by decide +kernel
theorem dX5_layWays_108 : decode cX5_layWays 108 = .ok (.iload_n 3, 1) := by decide +kernel
theorem dX5_layWays_109 : decode cX5_layWays 109 = .ok (.iload 6, 2) := by decide +kernel
theorem dX5_layWays_111 : decode cX5_layWays 111 = .ok (.ior, 1) := by decide +kernel
theorem dX5_layWays_112 : decode cX5_layWays 112 = .ok (.iadd, 1) := by decide +kernel
theorem dX5_layWays_113 : decode cX5_layWays 113 = .ok (.laload, 1) := by decide +kernel
theorem dX5_layWays_114 : decode cX5_layWays 114 = .ok (.lmul, 1) := by decide +kernel
theorem dX5_layWays_115 : decode cX5_layWays 115 = .ok (.ladd, 1) := by decide +kernel
theorem dX5_layWays_116 : decode cX5_layWays 116 = .ok (.lstore 4, 2) := by decide +kernel
theorem dX5_layWays_118 : decode cX5_layWays 118 = .ok (.iinc 6 1, 3) := by decide +kernel
theorem dX5_layWays_121 : decode cX5_layWays 121 = .ok (.goto (-46), 3) := by decide +kernel
theorem dX5_layWays_124 : decode cX5_layWays 124 = .ok (.aload_n 0, 1) := by decide +kernel
theorem dX5_layWays_125 : decode cX5_layWays 125 = .ok (.getfield 34, 3) := by decide +kernel
theorem dX5_layWays_128 : decode cX5_layWays 128 = .ok (.bipush 16, 2) := by decide +kernel
theorem dX5_layWays_130 : decode cX5_layWays 130 = .ok (.iload_n 2, 1) := by decide +kernel
theorem dX5_layWays_131 : decode cX5_layWays 131 = .ok (.imul, 1) := by decide +kernel
theorem dX5_layWays_132 : decode cX5_layWays 132 = .ok (.iload_n 3, 1) := by decide +kernel
theorem dX5_layWays_133 : decode cX5_layWays 133 = .ok (.iadd, 1) := by decide +kernel
theorem dX5_layWays_134 : decode cX5_layWays 134 = .ok (.lload 4, 2) := by decide +kernel
theorem dX5_layWays_136 : decode cX5_layWays 136 = .ok (.lastore, 1) := by decide +kernel
theorem dX5_layWays_137 : decode cX5_layWays 137 = .ok (.iinc 3 1, 3) := by decide +kernel
theorem dX5_layWays_140 : decode cX5_layWays 140 = .ok (.goto (-77), 3) := by decide +kernel
theorem dX5_layWays_143 : decode cX5_layWays 143 = .ok (.iinc 2 (-1), 3) := by decide +kernel
theorem dX5_layWays_146 : decode cX5_layWays 146 = .ok (.goto (-89), 3) := by decide +kernel
theorem dX5_layWays_149 : decode cX5_layWays 149 = .ok (.return_, 1) := by decide +kernel
theorem dX5_matchersNow_0 : decode cX5_matchersNow 0 = .ok (.aload_n 0, 1) := by decide +kernel
theorem dX5_matchersNow_1 : decode cX5_matchersNow 1 = .ok (.iconst (-1), 1) := by decide +kernel
theorem dX5_matchersNow_2 : decode cX5_matchersNow 2 = .ok (.iconst 0, 1) := by decide +kernel
theorem dX5_matchersNow_3 : decode cX5_matchersNow 3 = .ok (.invokevirtual 87, 3) := by decide +kernel
theorem dX5_matchersNow_6 : decode cX5_matchersNow 6 = .ok (.aload_n 0, 1) := by decide +kernel
theorem dX5_matchersNow_7 : decode cX5_matchersNow 7 = .ok (.invokevirtual 90, 3) := by decide +kernel
theorem dX5_matchersNow_10 : decode cX5_matchersNow 10 = .ok (.aload_n 0, 1) := by decide +kernel
theorem dX5_matchersNow_11 : decode cX5_matchersNow 11 = .ok (.getfield 34, 3) := by decide +kernel
theorem dX5_matchersNow_14 : decode cX5_matchersNow 14 = .ok (.iconst 0, 1) := by decide +kernel
theorem dX5_matchersNow_15 : decode cX5_matchersNow 15 = .ok (.laload, 1) := by decide +kernel
theorem dX5_matchersNow_16 : decode cX5_matchersNow 16 = .ok (.lreturn, 1) := by decide +kernel
theorem dX5_withEmpty_0 : decode cX5_withEmpty 0 = .ok (.lconst 1, 1) := by decide +kernel
theorem dX5_withEmpty_1 : decode cX5_withEmpty 1 = .ok (.lstore_n 2, 1) := by decide +kernel
theorem dX5_withEmpty_2 : decode cX5_withEmpty 2 = .ok (.iconst 0, 1) := by decide +kernel
theorem dX5_withEmpty_3 : decode cX5_withEmpty 3 = .ok (.istore 4, 2) := by decide +kernel
theorem dX5_withEmpty_5 : decode cX5_withEmpty 5 = .ok (.iload 4, 2) := by decide +kernel
theorem dX5_withEmpty_7 : decode cX5_withEmpty 7 = .ok (.iconst 4, 1) := by decide +kernel
theorem dX5_withEmpty_8 : decode cX5_withEmpty 8 = .ok (.if_icmp .ge 63, 3) := by decide +kernel
theorem dX5_withEmpty_11 : decode cX5_withEmpty 11 = .ok (.iconst 0, 1) := by decide +kernel
theorem dX5_withEmpty_12 : decode cX5_withEmpty 12 = .ok (.istore 5, 2) := by decide +kernel
theorem dX5_withEmpty_14 : decode cX5_withEmpty 14 = .ok (.iconst 0, 1) := by decide +kernel
theorem dX5_withEmpty_15 : decode cX5_withEmpty 15 = .ok (.istore 6, 2) := by decide +kernel
theorem dX5_withEmpty_17 : decode cX5_withEmpty 17 = .ok (.iload 6, 2) := by decide +kernel
theorem dX5_withEmpty_19 : decode cX5_withEmpty 19 = .ok (.bipush 16, 2) := by decide +kernel
theorem dX5_withEmpty_21 : decode cX5_withEmpty 21 = .ok (.if_icmp .ge 38, 3) := by decide +kernel
theorem dX5_withEmpty_24 : decode cX5_withEmpty 24 = .ok (.iload 5, 2) := by decide +kernel
theorem dX5_withEmpty_26 : decode cX5_withEmpty 26 = .ok (.iload 6, 2) := by decide +kernel
theorem dX5_withEmpty_28 : decode cX5_withEmpty 28 = .ok (.iload_n 1, 1) := by decide +kernel
theorem dX5_withEmpty_29 : decode cX5_withEmpty 29 = .ok (.iand, 1) := by decide +kernel
theorem dX5_withEmpty_30 : decode cX5_withEmpty 30 = .ok (.ifCond .ne 19, 3) := by decide +kernel
theorem dX5_withEmpty_33 : decode cX5_withEmpty 33 = .ok (.aload_n 0, 1) := by decide +kernel
theorem dX5_withEmpty_34 : decode cX5_withEmpty 34 = .ok (.getfield 31, 3) := by decide +kernel
theorem dX5_withEmpty_37 : decode cX5_withEmpty 37 = .ok (.bipush 16, 2) := by decide +kernel
theorem dX5_withEmpty_39 : decode cX5_withEmpty 39 = .ok (.iload 4, 2) := by decide +kernel
theorem dX5_withEmpty_41 : decode cX5_withEmpty 41 = .ok (.imul, 1) := by decide +kernel
theorem dX5_withEmpty_42 : decode cX5_withEmpty 42 = .ok (.iload 6, 2) := by decide +kernel
theorem dX5_withEmpty_44 : decode cX5_withEmpty 44 = .ok (.iadd, 1) := by decide +kernel
theorem dX5_withEmpty_45 : decode cX5_withEmpty 45 = .ok (.iaload, 1) := by decide +kernel
theorem dX5_withEmpty_46 : decode cX5_withEmpty 46 = .ok (.goto 4, 3) := by decide +kernel
theorem dX5_withEmpty_49 : decode cX5_withEmpty 49 = .ok (.iconst 0, 1) := by decide +kernel
theorem dX5_withEmpty_50 : decode cX5_withEmpty 50 = .ok (.iadd, 1) := by decide +kernel
theorem dX5_withEmpty_51 : decode cX5_withEmpty 51 = .ok (.istore 5, 2) := by decide +kernel
theorem dX5_withEmpty_53 : decode cX5_withEmpty 53 = .ok (.iinc 6 1, 3) := by decide +kernel
theorem dX5_withEmpty_56 : decode cX5_withEmpty 56 = .ok (.goto (-39), 3) := by decide +kernel
theorem dX5_withEmpty_59 : decode cX5_withEmpty 59 = .ok (.lload_n 2, 1) := by decide +kernel
theorem dX5_withEmpty_60 : decode cX5_withEmpty 60 = .ok (.iload 5, 2) := by decide +kernel
theorem dX5_withEmpty_62 : decode cX5_withEmpty 62 = .ok (.i2l, 1) := by decide +kernel
theorem dX5_withEmpty_63 : decode cX5_withEmpty 63 = .ok (.lmul, 1) := by decide +kernel
theorem dX5_withEmpty_64 : decode cX5_withEmpty 64 = .ok (.lstore_n 2, 1) := by decide +kernel
theorem dX5_withEmpty_65 : decode cX5_withEmpty 65 = .ok (.iinc 4 1, 3) := by decide +kernel
theorem dX5_withEmpty_68 : decode cX5_withEmpty 68 = .ok (.goto (-63), 3) := by decide +kernel
theorem dX5_withEmpty_71 : decode cX5_withEmpty 71 = .ok (.lload_n 2, 1) := by decide +kernel
theorem dX5_withEmpty_72 : decode cX5_withEmpty 72 = .ok (.lreturn, 1) := by decide +kernel
theorem dX5_ones_0 : decode cX5_ones 0 = .ok (.iload_n 0, 1) := by decide +kernel
theorem dX5_ones_1 : decode cX5_ones 1 = .ok (.iconst 1, 1) := by decide +kernel
theorem dX5_ones_2 : decode cX5_ones 2 = .ok (.iand, 1) := by decide +kernel
theorem dX5_ones_3 : decode cX5_ones 3 = .ok (.iload_n 0, 1) := by decide +kernel
theorem dX5_ones_4 : decode cX5_ones 4 = .ok (.iconst 1, 1) := by decide +kernel
theorem dX5_ones_5 : decode cX5_ones 5 = .ok (.ishr, 1) := by decide +kernel
theorem dX5_ones_6 : decode cX5_ones 6 = .ok (.iconst 1, 1) := by decide +kernel
theorem dX5_ones_7 : decode cX5_ones 7 = .ok (.iand, 1) := by decide +kernel
theorem dX5_ones_8 : decode cX5_ones 8 = .ok (.iadd, 1) := by decide +kernel
theorem dX5_ones_9 : decode cX5_ones 9 = .ok (.iload_n 0, 1) := by decide +kernel
theorem dX5_ones_10 : decode cX5_ones 10 = .ok (.iconst 2, 1) := by decide +kernel
theorem dX5_ones_11 : decode cX5_ones 11 = .ok (.ishr, 1) := by decide +kernel
theorem dX5_ones_12 : decode cX5_ones 12 = .ok (.iconst 1, 1) := by decide +kernel
theorem dX5_ones_13 : decode cX5_ones 13 = .ok (.iand, 1) := by decide +kernel
theorem dX5_ones_14 : decode cX5_ones 14 = .ok (.iadd, 1) := by decide +kernel
theorem dX5_ones_15 : decode cX5_ones 15 = .ok (.iload_n 0, 1) := by decide +kernel
theorem dX5_ones_16 : decode cX5_ones 16 = .ok (.iconst 3, 1) := by decide +kernel
theorem dX5_ones_17 : decode cX5_ones 17 = .ok (.ishr, 1) := by decide +kernel
theorem dX5_ones_18 : decode cX5_ones 18 = .ok (.iconst 1, 1) := by decide +kernel
theorem dX5_ones_19 : decode cX5_ones 19 = .ok (.iand, 1) := by decide +kernel
theorem dX5_ones_20 : decode cX5_ones 20 = .ok (.iadd, 1) := by decide +kernel
theorem dX5_ones_21 : decode cX5_ones 21 = .ok (.ireturn, 1) := by decide +kernel
theorem dX5_matchersBySets_0 : decode cX5_matchersBySets 0 = .ok (.aload_n 0, 1) := by decide +kernel
theorem dX5_matchersBySets_1 : decode cX5_matchersBySets 1 = .ok (.iconst (-1), 1) := by decide +kernel
theorem dX5_matchersBySets_2 : decode cX5_matchersBySets 2 = .ok (.iconst 0, 1) := by decide +kernel
theorem dX5_matchersBySets_3 : decode cX5_matchersBySets 3 = .ok (.invokevirtual 87, 3) := by decide +kernel
theorem dX5_matchersBySets_6 : decode cX5_matchersBySets 6 = .ok (.aload_n 0, 1) := by decide +kernel
theorem dX5_matchersBySets_7 : decode cX5_matchersBySets 7 = .ok (.getfield 7, 3) := by decide +kernel
theorem dX5_matchersBySets_10 : decode cX5_matchersBySets 10 = .ok (.bipush 24, 2) := by decide +kernel
theorem dX5_matchersBySets_12 : decode cX5_matchersBySets 12 = .ok (.iaload, 1) := by decide +kernel
theorem dX5_matchersBySets_13 : decode cX5_matchersBySets 13 = .ok (.iconst 1, 1) := by decide +kernel
theorem dX5_matchersBySets_14 : decode cX5_matchersBySets 14 = .ok (.if_icmp .ne 9, 3) := by decide +kernel
theorem dX5_matchersBySets_17 : decode cX5_matchersBySets 17 = .ok (.aload_n 0, 1) := by decide +kernel
theorem dX5_matchersBySets_18 : decode cX5_matchersBySets 18 = .ok (.iconst 0, 1) := by decide +kernel
theorem dX5_matchersBySets_19 : decode cX5_matchersBySets 19 = .ok (.invokevirtual 93, 3) := by decide +kernel
theorem dX5_matchersBySets_22 : decode cX5_matchersBySets 22 = .ok (.lreturn, 1) := by decide +kernel
theorem dX5_matchersBySets_23 : decode cX5_matchersBySets 23 = .ok (.lconst 0, 1) := by decide +kernel
theorem dX5_matchersBySets_24 : decode cX5_matchersBySets 24 = .ok (.lstore_n 1, 1) := by decide +kernel
theorem dX5_matchersBySets_25 : decode cX5_matchersBySets 25 = .ok (.iconst 0, 1) := by decide +kernel
theorem dX5_matchersBySets_26 : decode cX5_matchersBySets 26 = .ok (.istore_n 3, 1) := by decide +kernel
theorem dX5_matchersBySets_27 : decode cX5_matchersBySets 27 = .ok (.iload_n 3, 1) := by decide +kernel
theorem dX5_matchersBySets_28 : decode cX5_matchersBySets 28 = .ok (.bipush 16, 2) := by decide +kernel
theorem dX5_matchersBySets_30 : decode cX5_matchersBySets 30 = .ok (.if_icmp .ge 46, 3) := by decide +kernel
theorem dX5_matchersBySets_33 : decode cX5_matchersBySets 33 = .ok (.iload_n 3, 1) := by decide +kernel
theorem dX5_matchersBySets_34 : decode cX5_matchersBySets 34 = .ok (.aload_n 0, 1) := by decide +kernel
theorem dX5_matchersBySets_35 : decode cX5_matchersBySets 35 = .ok (.invokevirtual 83, 3) := by decide +kernel
theorem dX5_matchersBySets_38 : decode cX5_matchersBySets 38 = .ok (.iconst (-1), 1) := by decide +kernel
theorem dX5_matchersBySets_39 : decode cX5_matchersBySets 39 = .ok (.ixor, 1) := by decide +kernel
theorem dX5_matchersBySets_40 : decode cX5_matchersBySets 40 = .ok (.iand, 1) := by decide +kernel
theorem dX5_matchersBySets_41 : decode cX5_matchersBySets 41 = .ok (.ifCond .ne 29, 3) := by decide +kernel
theorem dX5_matchersBySets_44 : decode cX5_matchersBySets 44 = .ok (.lload_n 1, 1) := by decide +kernel
theorem dX5_matchersBySets_45 : decode cX5_matchersBySets 45 = .ok (.iload_n 3, 1) := by decide +kernel
theorem dX5_matchersBySets_46 : decode cX5_matchersBySets 46 = .ok (.invokestatic 97, 3) := by decide +kernel
theorem dX5_matchersBySets_49 : decode cX5_matchersBySets 49 = .ok (.iconst 2, 1) := by decide +kernel
theorem dX5_matchersBySets_50 : decode cX5_matchersBySets 50 = .ok (.irem, 1) := by decide +kernel
theorem dX5_matchersBySets_51 : decode cX5_matchersBySets 51 = .ok (.ifCond .ne 11, 3) := by decide +kernel
theorem dX5_matchersBySets_54 : decode cX5_matchersBySets 54 = .ok (.aload_n 0, 1) := by decide +kernel
theorem dX5_matchersBySets_55 : decode cX5_matchersBySets 55 = .ok (.iload_n 3, 1) := by decide +kernel
theorem dX5_matchersBySets_56 : decode cX5_matchersBySets 56 = .ok (.invokevirtual 93, 3) := by decide +kernel
theorem dX5_matchersBySets_59 : decode cX5_matchersBySets 59 = .ok (.goto 9, 3) := by decide +kernel
theorem dX5_matchersBySets_62 : decode cX5_matchersBySets 62 = .ok (.aload_n 0, 1) := by decide +kernel
theorem dX5_matchersBySets_63 : decode cX5_matchersBySets 63 = .ok (.iload_n 3, 1) := by decide +kernel
theorem dX5_matchersBySets_64 : decode cX5_matchersBySets 64 = .ok (.invokevirtual 93, 3) := by decide +kernel
theorem dX5_matchersBySets_67 : decode cX5_matchersBySets 67 = .ok (.lneg, 1) := by decide +kernel
theorem dX5_matchersBySets_68 : decode cX5_matchersBySets 68 = .ok (.ladd, 1) := by decide +kernel
theorem dX5_matchersBySets_69 : decode cX5_matchersBySets 69 = .ok (.lstore_n 1, 1) := by decide +kernel
theorem dX5_matchersBySets_70 : decode cX5_matchersBySets 70 = .ok (.iinc 3 1, 3) := by decide +kernel
theorem dX5_matchersBySets_73 : decode cX5_matchersBySets 73 = .ok (.goto (-46), 3) := by decide +kernel
theorem dX5_matchersBySets_76 : decode cX5_matchersBySets 76 = .ok (.lload_n 1, 1) := by decide +kernel
theorem dX5_matchersBySets_77 : decode cX5_matchersBySets 77 = .ok (.lreturn, 1) := by decide +kernel
theorem dX5_isMatcher_0 : decode cX5_isMatcher 0 = .ok (.iload_n 1, 1) := by decide +kernel
theorem dX5_isMatcher_1 : decode cX5_isMatcher 1 = .ok (.ifCond .lt 17, 3) := by decide +kernel
theorem dX5_isMatcher_4 : decode cX5_isMatcher 4 = .ok (.iload_n 1, 1) := by decide +kernel
theorem dX5_isMatcher_5 : decode cX5_isMatcher 5 = .ok (.i2l, 1) := by decide +kernel
theorem dX5_isMatcher_6 : decode cX5_isMatcher 6 = .ok (.aload_n 0, 1) := by decide +kernel
theorem dX5_isMatcher_7 : decode cX5_isMatcher 7 = .ok (.invokevirtual 100, 3) := by decide +kernel
theorem dX5_isMatcher_10 : decode cX5_isMatcher 10 = .ok (.lcmp, 1) := by decide +kernel
theorem dX5_isMatcher_11 : decode cX5_isMatcher 11 = .ok (.ifCond .ge 7, 3) := by decide +kernel
theorem dX5_isMatcher_14 : decode cX5_isMatcher 14 = .ok (.iconst 1, 1) := by decide +kernel
theorem dX5_isMatcher_15 : decode cX5_isMatcher 15 = .ok (.goto 4, 3) := by decide +kernel
theorem dX5_isMatcher_18 : decode cX5_isMatcher 18 = .ok (.iconst 0, 1) := by decide +kernel
theorem dX5_isMatcher_19 : decode cX5_isMatcher 19 = .ok (.ireturn, 1) := by decide +kernel
theorem dX5_supportOf_0 : decode cX5_supportOf 0 = .ok (.iload_n 0, 1) := by decide +kernel
theorem dX5_supportOf_1 : decode cX5_supportOf 1 = .ok (.sipush 1000, 3) := by decide +kernel
theorem dX5_supportOf_4 : decode cX5_supportOf 4 = .ok (.idiv, 1) := by decide +kernel
theorem dX5_supportOf_5 : decode cX5_supportOf 5 = .ok (.ifCond .le 7, 3) := by decide +kernel
theorem dX5_supportOf_8 : decode cX5_supportOf 8 = .ok (.iconst 1, 1) := by decide +kernel
theorem dX5_supportOf_9 : decode cX5_supportOf 9 = .ok (.goto 4, 3) := by decide +kernel
theorem dX5_supportOf_12 : decode cX5_supportOf 12 = .ok (.iconst 0, 1) := by decide +kernel
theorem dX5_supportOf_13 : decode cX5_supportOf 13 = .ok (.iload_n 0, 1) := by decide +kernel
theorem dX5_supportOf_14 : decode cX5_supportOf 14 = .ok (.bipush 100, 2) := by decide +kernel
theorem dX5_supportOf_16 : decode cX5_supportOf 16 = .ok (.idiv, 1) := by decide +kernel
theorem dX5_supportOf_17 : decode cX5_supportOf 17 = .ok (.bipush 10, 2) := by decide +kernel
theorem dX5_supportOf_19 : decode cX5_supportOf 19 = .ok (.irem, 1) := by decide +kernel
theorem dX5_supportOf_20 : decode cX5_supportOf 20 = .ok (.ifCond .le 7, 3) := by decide +kernel
theorem dX5_supportOf_23 : decode cX5_supportOf 23 = .ok (.iconst 2, 1) := by decide +kernel
theorem dX5_supportOf_24 : decode cX5_supportOf 24 = .ok (.goto 4, 3) := by decide +kernel
theorem dX5_supportOf_27 : decode cX5_supportOf 27 = .ok (.iconst 0, 1) := by decide +kernel
theorem dX5_supportOf_28 : decode cX5_supportOf 28 = .ok (.iadd, 1) := by decide +kernel
theorem dX5_supportOf_29 : decode cX5_supportOf 29 = .ok (.iload_n 0, 1) := by decide +kernel
theorem dX5_supportOf_30 : decode cX5_supportOf 30 = .ok (.bipush 10, 2) := by decide +kernel
theorem dX5_supportOf_32 : decode cX5_supportOf 32 = .ok (.idiv, 1) := by decide +kernel
theorem dX5_supportOf_33 : decode cX5_supportOf 33 = .ok (.bipush 10, 2) := by decide +kernel
theorem dX5_supportOf_35 : decode cX5_supportOf 35 = .ok (.irem, 1) := by decide +kernel
theorem dX5_supportOf_36 : decode cX5_supportOf 36 = .ok (.ifCond .le 7, 3) := by decide +kernel
theorem dX5_supportOf_39 : decode cX5_supportOf 39 = .ok (.iconst 4, 1) := by decide +kernel
theorem dX5_supportOf_40 : decode cX5_supportOf 40 = .ok (.goto 4, 3) := by decide +kernel
theorem dX5_supportOf_43 : decode cX5_supportOf 43 = .ok (.iconst 0, 1) := by decide +kernel
theorem dX5_supportOf_44 : decode cX5_supportOf 44 = .ok (.iadd, 1) := by decide +kernel
theorem dX5_supportOf_45 : decode cX5_supportOf 45 = .ok (.iload_n 0, 1) := by decide +kernel
theorem dX5_supportOf_46 : decode cX5_supportOf 46 = .ok (.bipush 10, 2) := by decide +kernel
theorem dX5_supportOf_48 : decode cX5_supportOf 48 = .ok (.irem, 1) := by decide +kernel
theorem dX5_supportOf_49 : decode cX5_supportOf 49 = .ok (.ifCond .le 8, 3) := by decide +kernel
theorem dX5_supportOf_52 : decode cX5_supportOf 52 = .ok (.bipush 8, 2) := by decide +kernel
theorem dX5_supportOf_54 : decode cX5_supportOf 54 = .ok (.goto 4, 3) := by decide +kernel
theorem dX5_supportOf_57 : decode cX5_supportOf 57 = .ok (.iconst 0, 1) := by decide +kernel
theorem dX5_supportOf_58 : decode cX5_supportOf 58 = .ok (.iadd, 1) := by decide +kernel
theorem dX5_supportOf_59 : decode cX5_supportOf 59 = .ok (.ireturn, 1) := by decide +kernel
theorem dX5_layMatcher_0 : decode cX5_layMatcher 0 = .ok (.aload_n 0, 1) := by decide +kernel
theorem dX5_layMatcher_1 : decode cX5_layMatcher 1 = .ok (.iconst (-1), 1) := by decide +kernel
theorem dX5_layMatcher_2 : decode cX5_layMatcher 2 = .ok (.iconst 0, 1) := by decide +kernel
theorem dX5_layMatcher_3 : decode cX5_layMatcher 3 = .ok (.invokevirtual 87, 3) := by decide +kernel
theorem dX5_layMatcher_6 : decode cX5_layMatcher 6 = .ok (.aload_n 0, 1) := by decide +kernel
theorem dX5_layMatcher_7 : decode cX5_layMatcher 7 = .ok (.invokevirtual 90, 3) := by decide +kernel
theorem dX5_layMatcher_10 : decode cX5_layMatcher 10 = .ok (.iload_n 1, 1) := by decide +kernel
theorem dX5_layMatcher_11 : decode cX5_layMatcher 11 = .ok (.i2l, 1) := by decide +kernel
theorem dX5_layMatcher_12 : decode cX5_layMatcher 12 = .ok (.lstore_n 2, 1) := by decide +kernel
theorem dX5_layMatcher_13 : decode cX5_layMatcher 13 = .ok (.iconst 0, 1) := by decide +kernel
theorem dX5_layMatcher_14 : decode cX5_layMatcher 14 = .ok (.istore 4, 2) := by decide +kernel
theorem dX5_layMatcher_16 : decode cX5_layMatcher 16 = .ok (.iconst 0, 1) := by decide +kernel
theorem dX5_layMatcher_17 : decode cX5_layMatcher 17 = .ok (.istore 5, 2) := by decide +kernel
theorem dX5_layMatcher_19 : decode cX5_layMatcher 19 = .ok (.iload 5, 2) := by decide +kernel
theorem dX5_layMatcher_21 : decode cX5_layMatcher 21 = .ok (.iconst 4, 1) := by decide +kernel
theorem dX5_layMatcher_22 : decode cX5_layMatcher 22 = .ok (.if_icmp .ge 191, 3) := by decide +kernel
theorem dX5_layMatcher_25 : decode cX5_layMatcher 25 = .ok (.sipush 700, 3) := by decide +kernel
theorem dX5_layMatcher_28 : decode cX5_layMatcher 28 = .ok (.iload 5, 2) := by decide +kernel
theorem dX5_layMatcher_30 : decode cX5_layMatcher 30 = .ok (.imul, 1) := by decide +kernel
theorem dX5_layMatcher_31 : decode cX5_layMatcher 31 = .ok (.istore 6, 2) := by decide +kernel
theorem dX5_layMatcher_33 : decode cX5_layMatcher 33 = .ok (.aload_n 0, 1) := by decide +kernel
theorem dX5_layMatcher_34 : decode cX5_layMatcher 34 = .ok (.getfield 34, 3) := by decide +kernel
theorem dX5_layMatcher_37 : decode cX5_layMatcher 37 = .ok (.bipush 16, 2) := by decide +kernel
theorem dX5_layMatcher_39 : decode cX5_layMatcher 39 = .ok (.iload 5, 2) := by decide +kernel
theorem dX5_layMatcher_41 : decode cX5_layMatcher 41 = .ok (.imul, 1) := by decide +kernel
theorem dX5_layMatcher_42 : decode cX5_layMatcher 42 = .ok (.bipush 16, 2) := by decide +kernel
theorem dX5_layMatcher_44 : decode cX5_layMatcher 44 = .ok (.iadd, 1) := by decide +kernel
theorem dX5_layMatcher_45 : decode cX5_layMatcher 45 = .ok (.iload 4, 2) := by decide +kernel
theorem dX5_layMatcher_47 : decode cX5_layMatcher 47 = .ok (.aload_n 0, 1) := by decide +kernel
theorem dX5_layMatcher_48 : decode cX5_layMatcher 48 = .ok (.getfield 25, 3) := by decide +kernel
theorem dX5_layMatcher_51 : decode cX5_layMatcher 51 = .ok (.iload 6, 2) := by decide +kernel
theorem dX5_layMatcher_53 : decode cX5_layMatcher 53 = .ok (.iaload, 1) := by decide +kernel
theorem dX5_layMatcher_54 : decode cX5_layMatcher 54 = .ok (.invokestatic 104, 3) := by decide +kernel
theorem dX5_layMatcher_57 : decode cX5_layMatcher 57 = .ok (.ior, 1) := by decide +kernel
theorem dX5_layMatcher_58 : decode cX5_layMatcher 58 = .ok (.iadd, 1) := by decide +kernel
theorem dX5_layMatcher_59 : decode cX5_layMatcher 59 = .ok (.laload, 1) := by decide +kernel
theorem dX5_layMatcher_60 : decode cX5_layMatcher 60 = .ok (.lstore 7, 2) := by decide +kernel
theorem dX5_layMatcher_62 : decode cX5_layMatcher 62 = .ok (.lload_n 2, 1) := by decide +kernel
theorem dX5_layMatcher_63 : decode cX5_layMatcher 63 = .ok (.lload 7, 2) := by decide +kernel
theorem dX5_layMatcher_65 : decode cX5_layMatcher 65 = .ok (.lcmp, 1) := by decide +kernel
theorem dX5_layMatcher_66 : decode cX5_layMatcher 66 = .ok (.ifCond .lt 43, 3) := by decide +kernel
theorem dX5_layMatcher_69 : decode cX5_layMatcher 69 = .ok (.lload_n 2, 1) := by decide +kernel
theorem dX5_layMatcher_70 : decode cX5_layMatcher 70 = .ok (.lload 7, 2) := by decide +kernel
theorem dX5_layMatcher_72 : decode cX5_layMatcher 72 = .ok (.lsub, 1) := by decide +kernel
theorem dX5_layMatcher_73 : decode cX5_layMatcher 73 = .ok (.lstore_n 2, 1) := by decide +kernel
theorem dX5_layMatcher_74 : decode cX5_layMatcher 74 = .ok (.iinc 6 1, 3) := by decide +kernel
theorem dX5_layMatcher_77 : decode cX5_layMatcher 77 = .ok (.aload_n 0, 1) := by decide +kernel
theorem dX5_layMatcher_78 : decode cX5_layMatcher 78 = .ok (.getfield 34, 3) := by decide +kernel
theorem dX5_layMatcher_81 : decode cX5_layMatcher 81 = .ok (.bipush 16, 2) := by decide +kernel
theorem dX5_layMatcher_83 : decode cX5_layMatcher 83 = .ok (.iload 5, 2) := by decide +kernel
theorem dX5_layMatcher_85 : decode cX5_layMatcher 85 = .ok (.imul, 1) := by decide +kernel
theorem dX5_layMatcher_86 : decode cX5_layMatcher 86 = .ok (.bipush 16, 2) := by decide +kernel
theorem dX5_layMatcher_88 : decode cX5_layMatcher 88 = .ok (.iadd, 1) := by decide +kernel
theorem dX5_layMatcher_89 : decode cX5_layMatcher 89 = .ok (.iload 4, 2) := by decide +kernel
theorem dX5_layMatcher_91 : decode cX5_layMatcher 91 = .ok (.aload_n 0, 1) := by decide +kernel
theorem dX5_layMatcher_92 : decode cX5_layMatcher 92 = .ok (.getfield 25, 3) := by decide +kernel
theorem dX5_layMatcher_95 : decode cX5_layMatcher 95 = .ok (.iload 6, 2) := by decide +kernel
theorem dX5_layMatcher_97 : decode cX5_layMatcher 97 = .ok (.iaload, 1) := by decide +kernel
theorem dX5_layMatcher_98 : decode cX5_layMatcher 98 = .ok (.invokestatic 104, 3) := by decide +kernel
theorem dX5_layMatcher_101 : decode cX5_layMatcher 101 = .ok (.ior, 1) := by decide +kernel
theorem dX5_layMatcher_102 : decode cX5_layMatcher 102 = .ok (.iadd, 1) := by decide +kernel
theorem dX5_layMatcher_103 : decode cX5_layMatcher 103 = .ok (.laload, 1) := by decide +kernel
theorem dX5_layMatcher_104 : decode cX5_layMatcher 104 = .ok (.lstore 7, 2) := by decide +kernel
theorem dX5_layMatcher_106 : decode cX5_layMatcher 106 = .ok (.goto (-44), 3) := by decide +kernel
theorem dX5_layMatcher_109 : decode cX5_layMatcher 109 = .ok (.iload 4, 2) := by decide +kernel
theorem dX5_layMatcher_111 : decode cX5_layMatcher 111 = .ok (.aload_n 0, 1) := by decide +kernel
theorem dX5_layMatcher_112 : decode cX5_layMatcher 112 = .ok (.getfield 25, 3) := by decide +kernel
theorem dX5_layMatcher_115 : decode cX5_layMatcher 115 = .ok (.iload 6, 2) := by decide +kernel
theorem dX5_layMatcher_117 : decode cX5_layMatcher 117 = .ok (.iaload, 1) := by decide +kernel
theorem dX5_layMatcher_118 : decode cX5_layMatcher 118 = .ok (.invokestatic 104, 3) := by decide +kernel
theorem dX5_layMatcher_121 : decode cX5_layMatcher 121 = .ok (.ior, 1) := by decide +kernel
theorem dX5_layMatcher_122 : decode cX5_layMatcher 122 = .ok (.istore 4, 2) := by decide +kernel
theorem dX5_layMatcher_124 : decode cX5_layMatcher 124 = .ok (.aload_n 0, 1) := by decide +kernel
theorem dX5_layMatcher_125 : decode cX5_layMatcher 125 = .ok (.getfield 38, 3) := by decide +kernel
theorem dX5_layMatcher_128 : decode cX5_layMatcher 128 = .ok (.iload 5, 2) := by decide +kernel
theorem dX5_layMatcher_130 : decode cX5_layMatcher 130 = .ok (.aload_n 0, 1) := by decide +kernel
theorem dX5_layMatcher_131 : decode cX5_layMatcher 131 = .ok (.getfield 25, 3) := by decide +kernel
theorem dX5_layMatcher_134 : decode cX5_layMatcher 134 = .ok (.iload 6, 2) := by decide +kernel
theorem dX5_layMatcher_136 : decode cX5_layMatcher 136 = .ok (.iaload, 1) := by decide +kernel
theorem dX5_layMatcher_137 : decode cX5_layMatcher 137 = .ok (.sipush 1000, 3) := by decide +kernel
theorem dX5_layMatcher_140 : decode cX5_layMatcher 140 = .ok (.idiv, 1) := by decide +kernel
theorem dX5_layMatcher_141 : decode cX5_layMatcher 141 = .ok (.iastore, 1) := by decide +kernel
theorem dX5_layMatcher_142 : decode cX5_layMatcher 142 = .ok (.aload_n 0, 1) := by decide +kernel
theorem dX5_layMatcher_143 : decode cX5_layMatcher 143 = .ok (.getfield 38, 3) := by decide +kernel
theorem dX5_layMatcher_146 : decode cX5_layMatcher 146 = .ok (.iconst 4, 1) := by decide +kernel
theorem dX5_layMatcher_147 : decode cX5_layMatcher 147 = .ok (.iload 5, 2) := by decide +kernel
theorem dX5_layMatcher_149 : decode cX5_layMatcher 149 = .ok (.iadd, 1) := by decide +kernel
theorem dX5_layMatcher_150 : decode cX5_layMatcher 150 = .ok (.aload_n 0, 1) := by decide +kernel
theorem dX5_layMatcher_151 : decode cX5_layMatcher 151 = .ok (.getfield 25, 3) := by decide +kernel
theorem dX5_layMatcher_154 : decode cX5_layMatcher 154 = .ok (.iload 6, 2) := by decide +kernel
theorem dX5_layMatcher_156 : decode cX5_layMatcher 156 = .ok (.iaload, 1) := by decide +kernel
theorem dX5_layMatcher_157 : decode cX5_layMatcher 157 = .ok (.bipush 100, 2) := by decide +kernel
theorem dX5_layMatcher_159 : decode cX5_layMatcher 159 = .ok (.idiv, 1) := by decide +kernel
theorem dX5_layMatcher_160 : decode cX5_layMatcher 160 = .ok (.bipush 10, 2) := by decide +kernel
theorem dX5_layMatcher_162 : decode cX5_layMatcher 162 = .ok (.irem, 1) := by decide +kernel
theorem dX5_layMatcher_163 : decode cX5_layMatcher 163 = .ok (.iastore, 1) := by decide +kernel
theorem dX5_layMatcher_164 : decode cX5_layMatcher 164 = .ok (.aload_n 0, 1) := by decide +kernel
theorem dX5_layMatcher_165 : decode cX5_layMatcher 165 = .ok (.getfield 38, 3) := by decide +kernel
theorem dX5_layMatcher_168 : decode cX5_layMatcher 168 = .ok (.bipush 8, 2) := by decide +kernel
theorem dX5_layMatcher_170 : decode cX5_layMatcher 170 = .ok (.iload 5, 2) := by decide +kernel
theorem dX5_layMatcher_172 : decode cX5_layMatcher 172 = .ok (.iadd, 1) := by decide +kernel
theorem dX5_layMatcher_173 : decode cX5_layMatcher 173 = .ok (.aload_n 0, 1) := by decide +kernel
theorem dX5_layMatcher_174 : decode cX5_layMatcher 174 = .ok (.getfield 25, 3) := by decide +kernel
theorem dX5_layMatcher_177 : decode cX5_layMatcher 177 = .ok (.iload 6, 2) := by decide +kernel
theorem dX5_layMatcher_179 : decode cX5_layMatcher 179 = .ok (.iaload, 1) := by decide +kernel
theorem dX5_layMatcher_180 : decode cX5_layMatcher 180 = .ok (.bipush 10, 2) := by decide +kernel
theorem dX5_layMatcher_182 : decode cX5_layMatcher 182 = .ok (.idiv, 1) := by decide +kernel
theorem dX5_layMatcher_183 : decode cX5_layMatcher 183 = .ok (.bipush 10, 2) := by decide +kernel
theorem dX5_layMatcher_185 : decode cX5_layMatcher 185 = .ok (.irem, 1) := by decide +kernel
theorem dX5_layMatcher_186 : decode cX5_layMatcher 186 = .ok (.iastore, 1) := by decide +kernel
theorem dX5_layMatcher_187 : decode cX5_layMatcher 187 = .ok (.aload_n 0, 1) := by decide +kernel
theorem dX5_layMatcher_188 : decode cX5_layMatcher 188 = .ok (.getfield 38, 3) := by decide +kernel
theorem dX5_layMatcher_191 : decode cX5_layMatcher 191 = .ok (.bipush 12, 2) := by decide +kernel
theorem dX5_layMatcher_193 : decode cX5_layMatcher 193 = .ok (.iload 5, 2) := by decide +kernel
theorem dX5_layMatcher_195 : decode cX5_layMatcher 195 = .ok (.iadd, 1) := by decide +kernel
theorem dX5_layMatcher_196 : decode cX5_layMatcher 196 = .ok (.aload_n 0, 1) := by decide +kernel
theorem dX5_layMatcher_197 : decode cX5_layMatcher 197 = .ok (.getfield 25, 3) := by decide +kernel
theorem dX5_layMatcher_200 : decode cX5_layMatcher 200 = .ok (.iload 6, 2) := by decide +kernel
theorem dX5_layMatcher_202 : decode cX5_layMatcher 202 = .ok (.iaload, 1) := by decide +kernel
theorem dX5_layMatcher_203 : decode cX5_layMatcher 203 = .ok (.bipush 10, 2) := by decide +kernel
theorem dX5_layMatcher_205 : decode cX5_layMatcher 205 = .ok (.irem, 1) := by decide +kernel
theorem dX5_layMatcher_206 : decode cX5_layMatcher 206 = .ok (.iastore, 1) := by decide +kernel
theorem dX5_layMatcher_207 : decode cX5_layMatcher 207 = .ok (.iinc 5 1, 3) := by decide +kernel
theorem dX5_layMatcher_210 : decode cX5_layMatcher 210 = .ok (.goto (-191), 3) := by decide +kernel
theorem dX5_layMatcher_213 : decode cX5_layMatcher 213 = .ok (.return_, 1) := by decide +kernel
theorem dX5_valueOf_0 : decode cX5_valueOf 0 = .ok (.aload_n 0, 1) := by decide +kernel
theorem dX5_valueOf_1 : decode cX5_valueOf 1 = .ok (.iconst 0, 1) := by decide +kernel
theorem dX5_valueOf_2 : decode cX5_valueOf 2 = .ok (.iload_n 1, 1) := by decide +kernel
theorem dX5_valueOf_3 : decode cX5_valueOf 3 = .ok (.invokevirtual 65, 3) := by decide +kernel
theorem dX5_valueOf_6 : decode cX5_valueOf 6 = .ok (.ifCond .ne 7, 3) := by decide +kernel
theorem dX5_valueOf_9 : decode cX5_valueOf 9 = .ok (.iconst (-1), 1) := by decide +kernel
theorem dX5_valueOf_10 : decode cX5_valueOf 10 = .ok (.goto 13, 3) := by decide +kernel
theorem dX5_valueOf_13 : decode cX5_valueOf 13 = .ok (.aload_n 0, 1) := by decide +kernel
theorem dX5_valueOf_14 : decode cX5_valueOf 14 = .ok (.getfield 38, 3) := by decide +kernel
theorem dX5_valueOf_17 : decode cX5_valueOf 17 = .ok (.iconst 4, 1) := by decide +kernel
theorem dX5_valueOf_18 : decode cX5_valueOf 18 = .ok (.iload_n 1, 1) := by decide +kernel
theorem dX5_valueOf_19 : decode cX5_valueOf 19 = .ok (.imul, 1) := by decide +kernel
theorem dX5_valueOf_20 : decode cX5_valueOf 20 = .ok (.iload_n 2, 1) := by decide +kernel
theorem dX5_valueOf_21 : decode cX5_valueOf 21 = .ok (.iadd, 1) := by decide +kernel
theorem dX5_valueOf_22 : decode cX5_valueOf 22 = .ok (.iaload, 1) := by decide +kernel
theorem dX5_valueOf_23 : decode cX5_valueOf 23 = .ok (.ireturn, 1) := by decide +kernel
theorem dX5_isStrange_0 : decode cX5_isStrange 0 = .ok (.iconst 0, 1) := by decide +kernel
theorem dX5_isStrange_1 : decode cX5_isStrange 1 = .ok (.istore_n 1, 1) := by decide +kernel
theorem dX5_isStrange_2 : decode cX5_isStrange 2 = .ok (.iconst 0, 1) := by decide +kernel
theorem dX5_isStrange_3 : decode cX5_isStrange 3 = .ok (.istore_n 2, 1) := by decide +kernel
theorem dX5_isStrange_4 : decode cX5_isStrange 4 = .ok (.iload_n 2, 1) := by decide +kernel
theorem dX5_isStrange_5 : decode cX5_isStrange 5 = .ok (.iconst 4, 1) := by decide +kernel
theorem dX5_isStrange_6 : decode cX5_isStrange 6 = .ok (.if_icmp .ge 37, 3) := by decide +kernel
theorem dX5_isStrange_9 : decode cX5_isStrange 9 = .ok (.iload_n 1, 1) := by decide +kernel
theorem dX5_isStrange_10 : decode cX5_isStrange 10 = .ok (.ifCond .ne 21, 3) := by decide +kernel
theorem dX5_isStrange_13 : decode cX5_isStrange 13 = .ok (.aload_n 0, 1) := by decide +kernel
theorem dX5_isStrange_14 : decode cX5_isStrange 14 = .ok (.iconst 1, 1) := by decide +kernel
theorem dX5_isStrange_15 : decode cX5_isStrange 15 = .ok (.iload_n 2, 1) := by decide +kernel
theorem dX5_isStrange_16 : decode cX5_isStrange 16 = .ok (.invokevirtual 65, 3) := by decide +kernel
theorem dX5_isStrange_19 : decode cX5_isStrange 19 = .ok (.ifCond .le 16, 3) := by decide +kernel
theorem dX5_isStrange_22 : decode cX5_isStrange 22 = .ok (.aload_n 0, 1) := by decide +kernel
theorem dX5_isStrange_23 : decode cX5_isStrange 23 = .ok (.iconst 0, 1) := by decide +kernel
theorem dX5_isStrange_24 : decode cX5_isStrange 24 = .ok (.iload_n 2, 1) := by decide +kernel
theorem dX5_isStrange_25 : decode cX5_isStrange 25 = .ok (.invokevirtual 65, 3) := by decide +kernel
theorem dX5_isStrange_28 : decode cX5_isStrange 28 = .ok (.ifCond .ne 7, 3) := by decide +kernel
theorem dX5_isStrange_31 : decode cX5_isStrange 31 = .ok (.iconst 1, 1) := by decide +kernel
theorem dX5_isStrange_32 : decode cX5_isStrange 32 = .ok (.goto 4, 3) := by decide +kernel
theorem dX5_isStrange_35 : decode cX5_isStrange 35 = .ok (.iconst 0, 1) := by decide +kernel
theorem dX5_isStrange_36 : decode cX5_isStrange 36 = .ok (.istore_n 1, 1) := by decide +kernel
theorem dX5_isStrange_37 : decode cX5_isStrange 37 = .ok (.iinc 2 1, 3) := by decide +kernel
theorem dX5_isStrange_40 : decode cX5_isStrange 40 = .ok (.goto (-36), 3) := by decide +kernel
theorem dX5_isStrange_43 : decode cX5_isStrange 43 = .ok (.iload_n 1, 1) := by decide +kernel
theorem dX5_isStrange_44 : decode cX5_isStrange 44 = .ok (.ireturn, 1) := by decide +kernel
theorem dX5_rewritten_0 : decode cX5_rewritten 0 = .ok (.aload_n 0, 1) := by decide +kernel
theorem dX5_rewritten_1 : decode cX5_rewritten 1 = .ok (.iconst 1, 1) := by decide +kernel
theorem dX5_rewritten_2 : decode cX5_rewritten 2 = .ok (.iload_n 1, 1) := by decide +kernel
theorem dX5_rewritten_3 : decode cX5_rewritten 3 = .ok (.invokevirtual 57, 3) := by decide +kernel
theorem dX5_rewritten_6 : decode cX5_rewritten 6 = .ok (.istore_n 2, 1) := by decide +kernel
theorem dX5_rewritten_7 : decode cX5_rewritten 7 = .ok (.iconst 0, 1) := by decide +kernel
theorem dX5_rewritten_8 : decode cX5_rewritten 8 = .ok (.istore_n 3, 1) := by decide +kernel
theorem dX5_rewritten_9 : decode cX5_rewritten 9 = .ok (.iload_n 3, 1) := by decide +kernel
theorem dX5_rewritten_10 : decode cX5_rewritten 10 = .ok (.iconst 4, 1) := by decide +kernel
theorem dX5_rewritten_11 : decode cX5_rewritten 11 = .ok (.if_icmp .ge 29, 3) := by decide +kernel
theorem dX5_rewritten_14 : decode cX5_rewritten 14 = .ok (.iload_n 2, 1) := by decide +kernel
theorem dX5_rewritten_15 : decode cX5_rewritten 15 = .ok (.aload_n 0, 1) := by decide +kernel
theorem dX5_rewritten_16 : decode cX5_rewritten 16 = .ok (.iconst 1, 1) := by decide +kernel
theorem dX5_rewritten_17 : decode cX5_rewritten 17 = .ok (.iload_n 3, 1) := by decide +kernel
theorem dX5_rewritten_18 : decode cX5_rewritten 18 = .ok (.invokevirtual 65, 3) := by decide +kernel
theorem dX5_rewritten_21 : decode cX5_rewritten 21 = .ok (.aload_n 0, 1) := by decide +kernel
theorem dX5_rewritten_22 : decode cX5_rewritten 22 = .ok (.getfield 38, 3) := by decide +kernel
theorem dX5_rewritten_25 : decode cX5_rewritten 25 = .ok (.iconst 4, 1) := by decide +kernel
theorem dX5_rewritten_26 : decode cX5_rewritten 26 = .ok (.iload_n 3, 1) := by decide +kernel
theorem dX5_rewritten_27 : decode cX5_rewritten 27 = .ok (.imul, 1) := by decide +kernel
theorem dX5_rewritten_28 : decode cX5_rewritten 28 = .ok (.iload_n 1, 1) := by decide +kernel
theorem dX5_rewritten_29 : decode cX5_rewritten 29 = .ok (.iadd, 1) := by decide +kernel
theorem dX5_rewritten_30 : decode cX5_rewritten 30 = .ok (.iaload, 1) := by decide +kernel
theorem dX5_rewritten_31 : decode cX5_rewritten 31 = .ok (.imul, 1) := by decide +kernel
theorem dX5_rewritten_32 : decode cX5_rewritten 32 = .ok (.iadd, 1) := by decide +kernel
theorem dX5_rewritten_33 : decode cX5_rewritten 33 = .ok (.istore_n 2, 1) := by decide +kernel
theorem dX5_rewritten_34 : decode cX5_rewritten 34 = .ok (.iinc 3 1, 3) := by decide +kernel
theorem dX5_rewritten_37 : decode cX5_rewritten 37 = .ok (.goto (-28), 3) := by decide +kernel
theorem dX5_rewritten_40 : decode cX5_rewritten 40 = .ok (.iload_n 2, 1) := by decide +kernel
theorem dX5_rewritten_41 : decode cX5_rewritten 41 = .ok (.ireturn, 1) := by decide +kernel
theorem dX5_isTooMuch_0 : decode cX5_isTooMuch 0 = .ok (.iconst 0, 1) := by decide +kernel
theorem dX5_isTooMuch_1 : decode cX5_isTooMuch 1 = .ok (.istore_n 1, 1) := by decide +kernel
theorem dX5_isTooMuch_2 : decode cX5_isTooMuch 2 = .ok (.iconst 0, 1) := by decide +kernel
theorem dX5_isTooMuch_3 : decode cX5_isTooMuch 3 = .ok (.istore_n 2, 1) := by decide +kernel
theorem dX5_isTooMuch_4 : decode cX5_isTooMuch 4 = .ok (.iload_n 2, 1) := by decide +kernel
theorem dX5_isTooMuch_5 : decode cX5_isTooMuch 5 = .ok (.iconst 4, 1) := by decide +kernel
theorem dX5_isTooMuch_6 : decode cX5_isTooMuch 6 = .ok (.if_icmp .ge 29, 3) := by decide +kernel
theorem dX5_isTooMuch_9 : decode cX5_isTooMuch 9 = .ok (.iload_n 1, 1) := by decide +kernel
theorem dX5_isTooMuch_10 : decode cX5_isTooMuch 10 = .ok (.ifCond .ne 13, 3) := by decide +kernel
theorem dX5_isTooMuch_13 : decode cX5_isTooMuch 13 = .ok (.aload_n 0, 1) := by decide +kernel
theorem dX5_isTooMuch_14 : decode cX5_isTooMuch 14 = .ok (.iload_n 2, 1) := by decide +kernel
theorem dX5_isTooMuch_15 : decode cX5_isTooMuch 15 = .ok (.invokevirtual 107, 3) := by decide +kernel
theorem dX5_isTooMuch_18 : decode cX5_isTooMuch 18 = .ok (.bipush 9, 2) := by decide +kernel
theorem dX5_isTooMuch_20 : decode cX5_isTooMuch 20 = .ok (.if_icmp .le 7, 3) := by decide +kernel
theorem dX5_isTooMuch_23 : decode cX5_isTooMuch 23 = .ok (.iconst 1, 1) := by decide +kernel
theorem dX5_isTooMuch_24 : decode cX5_isTooMuch 24 = .ok (.goto 4, 3) := by decide +kernel
theorem dX5_isTooMuch_27 : decode cX5_isTooMuch 27 = .ok (.iconst 0, 1) := by decide +kernel
theorem dX5_isTooMuch_28 : decode cX5_isTooMuch 28 = .ok (.istore_n 1, 1) := by decide +kernel
theorem dX5_isTooMuch_29 : decode cX5_isTooMuch 29 = .ok (.iinc 2 1, 3) := by decide +kernel
theorem dX5_isTooMuch_32 : decode cX5_isTooMuch 32 = .ok (.goto (-28), 3) := by decide +kernel
theorem dX5_isTooMuch_35 : decode cX5_isTooMuch 35 = .ok (.iload_n 1, 1) := by decide +kernel
theorem dX5_isTooMuch_36 : decode cX5_isTooMuch 36 = .ok (.ireturn, 1) := by decide +kernel
theorem dX5_digit_0 : decode cX5_digit 0 = .ok (.iload_n 1, 1) := by decide +kernel
theorem dX5_digit_1 : decode cX5_digit 1 = .ok (.ifCond .ne 11, 3) := by decide +kernel
theorem dX5_digit_4 : decode cX5_digit 4 = .ok (.iload_n 0, 1) := by decide +kernel
theorem dX5_digit_5 : decode cX5_digit 5 = .ok (.sipush 1000, 3) := by decide +kernel
theorem dX5_digit_8 : decode cX5_digit 8 = .ok (.idiv, 1) := by decide +kernel
theorem dX5_digit_9 : decode cX5_digit 9 = .ok (.goto 37, 3) := by decide +kernel
theorem dX5_digit_12 : decode cX5_digit 12 = .ok (.iload_n 1, 1) := by decide +kernel
theorem dX5_digit_13 : decode cX5_digit 13 = .ok (.iconst 1, 1) := by decide +kernel
theorem dX5_digit_14 : decode cX5_digit 14 = .ok (.if_icmp .ne 13, 3) := by decide +kernel
theorem dX5_digit_17 : decode cX5_digit 17 = .ok (.iload_n 0, 1) := by decide +kernel
theorem dX5_digit_18 : decode cX5_digit 18 = .ok (.bipush 100, 2) := by decide +kernel
theorem dX5_digit_20 : decode cX5_digit 20 = .ok (.idiv, 1) := by decide +kernel
theorem dX5_digit_21 : decode cX5_digit 21 = .ok (.bipush 10, 2) := by decide +kernel
theorem dX5_digit_23 : decode cX5_digit 23 = .ok (.irem, 1) := by decide +kernel
theorem dX5_digit_24 : decode cX5_digit 24 = .ok (.goto 22, 3) := by decide +kernel
theorem dX5_digit_27 : decode cX5_digit 27 = .ok (.iload_n 1, 1) := by decide +kernel
theorem dX5_digit_28 : decode cX5_digit 28 = .ok (.iconst 2, 1) := by decide +kernel
theorem dX5_digit_29 : decode cX5_digit 29 = .ok (.if_icmp .ne 13, 3) := by decide +kernel
theorem dX5_digit_32 : decode cX5_digit 32 = .ok (.iload_n 0, 1) := by decide +kernel
theorem dX5_digit_33 : decode cX5_digit 33 = .ok (.bipush 10, 2) := by decide +kernel
theorem dX5_digit_35 : decode cX5_digit 35 = .ok (.idiv, 1) := by decide +kernel
theorem dX5_digit_36 : decode cX5_digit 36 = .ok (.bipush 10, 2) := by decide +kernel
theorem dX5_digit_38 : decode cX5_digit 38 = .ok (.irem, 1) := by decide +kernel
theorem dX5_digit_39 : decode cX5_digit 39 = .ok (.goto 7, 3) := by decide +kernel
theorem dX5_digit_42 : decode cX5_digit 42 = .ok (.iload_n 0, 1) := by decide +kernel
theorem dX5_digit_43 : decode cX5_digit 43 = .ok (.bipush 10, 2) := by decide +kernel
theorem dX5_digit_45 : decode cX5_digit 45 = .ok (.irem, 1) := by decide +kernel
theorem dX5_digit_46 : decode cX5_digit 46 = .ok (.ireturn, 1) := by decide +kernel
theorem dX5_differenceOf_0 : decode cX5_differenceOf 0 = .ok (.aload_n 0, 1) := by decide +kernel
theorem dX5_differenceOf_1 : decode cX5_differenceOf 1 = .ok (.iconst 0, 1) := by decide +kernel
theorem dX5_differenceOf_2 : decode cX5_differenceOf 2 = .ok (.iload_n 1, 1) := by decide +kernel
theorem dX5_differenceOf_3 : decode cX5_differenceOf 3 = .ok (.invokevirtual 65, 3) := by decide +kernel
theorem dX5_differenceOf_6 : decode cX5_differenceOf 6 = .ok (.aload_n 0, 1) := by decide +kernel
theorem dX5_differenceOf_7 : decode cX5_differenceOf 7 = .ok (.iconst 1, 1) := by decide +kernel
theorem dX5_differenceOf_8 : decode cX5_differenceOf 8 = .ok (.iload_n 1, 1) := by decide +kernel
theorem dX5_differenceOf_9 : decode cX5_differenceOf 9 = .ok (.invokevirtual 65, 3) := by decide +kernel
theorem dX5_differenceOf_12 : decode cX5_differenceOf 12 = .ok (.isub, 1) := by decide +kernel
theorem dX5_differenceOf_13 : decode cX5_differenceOf 13 = .ok (.ireturn, 1) := by decide +kernel
theorem dX5_fulfils_0 : decode cX5_fulfils 0 = .ok (.iconst 0, 1) := by decide +kernel
theorem dX5_fulfils_1 : decode cX5_fulfils 1 = .ok (.istore_n 2, 1) := by decide +kernel
theorem dX5_fulfils_2 : decode cX5_fulfils 2 = .ok (.iconst 0, 1) := by decide +kernel
theorem dX5_fulfils_3 : decode cX5_fulfils 3 = .ok (.istore_n 3, 1) := by decide +kernel
theorem dX5_fulfils_4 : decode cX5_fulfils 4 = .ok (.iload_n 3, 1) := by decide +kernel
theorem dX5_fulfils_5 : decode cX5_fulfils 5 = .ok (.iconst 4, 1) := by decide +kernel
theorem dX5_fulfils_6 : decode cX5_fulfils 6 = .ok (.if_icmp .ge 23, 3) := by decide +kernel
theorem dX5_fulfils_9 : decode cX5_fulfils 9 = .ok (.iload_n 2, 1) := by decide +kernel
theorem dX5_fulfils_10 : decode cX5_fulfils 10 = .ok (.aload_n 0, 1) := by decide +kernel
theorem dX5_fulfils_11 : decode cX5_fulfils 11 = .ok (.iload_n 3, 1) := by decide +kernel
theorem dX5_fulfils_12 : decode cX5_fulfils 12 = .ok (.invokevirtual 110, 3) := by decide +kernel
theorem dX5_fulfils_15 : decode cX5_fulfils 15 = .ok (.iload_n 1, 1) := by decide +kernel
theorem dX5_fulfils_16 : decode cX5_fulfils 16 = .ok (.iload_n 3, 1) := by decide +kernel
theorem dX5_fulfils_17 : decode cX5_fulfils 17 = .ok (.invokestatic 113, 3) := by decide +kernel
theorem dX5_fulfils_20 : decode cX5_fulfils 20 = .ok (.imul, 1) := by decide +kernel
theorem dX5_fulfils_21 : decode cX5_fulfils 21 = .ok (.iadd, 1) := by decide +kernel
theorem dX5_fulfils_22 : decode cX5_fulfils 22 = .ok (.istore_n 2, 1) := by decide +kernel
theorem dX5_fulfils_23 : decode cX5_fulfils 23 = .ok (.iinc 3 1, 3) := by decide +kernel
theorem dX5_fulfils_26 : decode cX5_fulfils 26 = .ok (.goto (-22), 3) := by decide +kernel
theorem dX5_fulfils_29 : decode cX5_fulfils 29 = .ok (.iload_n 2, 1) := by decide +kernel
theorem dX5_fulfils_30 : decode cX5_fulfils 30 = .ok (.ifCond .ne 7, 3) := by decide +kernel
theorem dX5_fulfils_33 : decode cX5_fulfils 33 = .ok (.iconst 1, 1) := by decide +kernel
theorem dX5_fulfils_34 : decode cX5_fulfils 34 = .ok (.goto 4, 3) := by decide +kernel
theorem dX5_fulfils_37 : decode cX5_fulfils 37 = .ok (.iconst 0, 1) := by decide +kernel
theorem dX5_fulfils_38 : decode cX5_fulfils 38 = .ok (.ireturn, 1) := by decide +kernel
theorem dX5_isAbove_0 : decode cX5_isAbove 0 = .ok (.iconst 1, 1) := by decide +kernel
theorem dX5_isAbove_1 : decode cX5_isAbove 1 = .ok (.istore_n 3, 1) := by decide +kernel
theorem dX5_isAbove_2 : decode cX5_isAbove 2 = .ok (.iconst 0, 1) := by decide +kernel
theorem dX5_isAbove_3 : decode cX5_isAbove 3 = .ok (.istore 4, 2) := by decide +kernel
theorem dX5_isAbove_5 : decode cX5_isAbove 5 = .ok (.iload 4, 2) := by decide +kernel
theorem dX5_isAbove_7 : decode cX5_isAbove 7 = .ok (.iconst 4, 1) := by decide +kernel
theorem dX5_isAbove_8 : decode cX5_isAbove 8 = .ok (.if_icmp .ge 34, 3) := by decide +kernel
theorem dX5_isAbove_11 : decode cX5_isAbove 11 = .ok (.iload_n 3, 1) := by decide +kernel
theorem dX5_isAbove_12 : decode cX5_isAbove 12 = .ok (.ifCond .eq 22, 3) := by decide +kernel
theorem dX5_isAbove_15 : decode cX5_isAbove 15 = .ok (.iload_n 1, 1) := by decide +kernel
theorem dX5_isAbove_16 : decode cX5_isAbove 16 = .ok (.iload 4, 2) := by decide +kernel
theorem dX5_isAbove_18 : decode cX5_isAbove 18 = .ok (.invokestatic 113, 3) := by decide +kernel
theorem dX5_isAbove_21 : decode cX5_isAbove 21 = .ok (.iload_n 2, 1) := by decide +kernel
theorem dX5_isAbove_22 : decode cX5_isAbove 22 = .ok (.iload 4, 2) := by decide +kernel
theorem dX5_isAbove_24 : decode cX5_isAbove 24 = .ok (.invokestatic 113, 3) := by decide +kernel
theorem dX5_isAbove_27 : decode cX5_isAbove 27 = .ok (.if_icmp .lt 7, 3) := by decide +kernel
theorem dX5_isAbove_30 : decode cX5_isAbove 30 = .ok (.iconst 1, 1) := by decide +kernel
theorem dX5_isAbove_31 : decode cX5_isAbove 31 = .ok (.goto 4, 3) := by decide +kernel
theorem dX5_isAbove_34 : decode cX5_isAbove 34 = .ok (.iconst 0, 1) := by decide +kernel
theorem dX5_isAbove_35 : decode cX5_isAbove 35 = .ok (.istore_n 3, 1) := by decide +kernel
theorem dX5_isAbove_36 : decode cX5_isAbove 36 = .ok (.iinc 4 1, 3) := by decide +kernel
theorem dX5_isAbove_39 : decode cX5_isAbove 39 = .ok (.goto (-34), 3) := by decide +kernel
theorem dX5_isAbove_42 : decode cX5_isAbove 42 = .ok (.iload_n 3, 1) := by decide +kernel
theorem dX5_isAbove_43 : decode cX5_isAbove 43 = .ok (.ireturn, 1) := by decide +kernel
theorem dX5_isLeast_0 : decode cX5_isLeast 0 = .ok (.iconst 1, 1) := by decide +kernel
theorem dX5_isLeast_1 : decode cX5_isLeast 1 = .ok (.istore_n 2, 1) := by decide +kernel
theorem dX5_isLeast_2 : decode cX5_isLeast 2 = .ok (.iconst 0, 1) := by decide +kernel
theorem dX5_isLeast_3 : decode cX5_isLeast 3 = .ok (.istore_n 3, 1) := by decide +kernel
theorem dX5_isLeast_4 : decode cX5_isLeast 4 = .ok (.iload_n 3, 1) := by decide +kernel
theorem dX5_isLeast_5 : decode cX5_isLeast 5 = .ok (.aload_n 0, 1) := by decide +kernel
theorem dX5_isLeast_6 : decode cX5_isLeast 6 = .ok (.getfield 116, 3) := by decide +kernel
theorem dX5_isLeast_9 : decode cX5_isLeast 9 = .ok (.if_icmp .ge 33, 3) := by decide +kernel
theorem dX5_isLeast_12 : decode cX5_isLeast 12 = .ok (.iload_n 2, 1) := by decide +kernel
theorem dX5_isLeast_13 : decode cX5_isLeast 13 = .ok (.ifCond .eq 21, 3) := by decide +kernel
theorem dX5_isLeast_16 : decode cX5_isLeast 16 = .ok (.aload_n 0, 1) := by decide +kernel
theorem dX5_isLeast_17 : decode cX5_isLeast 17 = .ok (.iload_n 1, 1) := by decide +kernel
theorem dX5_isLeast_18 : decode cX5_isLeast 18 = .ok (.aload_n 0, 1) := by decide +kernel
theorem dX5_isLeast_19 : decode cX5_isLeast 19 = .ok (.getfield 41, 3) := by decide +kernel
theorem dX5_isLeast_22 : decode cX5_isLeast 22 = .ok (.iload_n 3, 1) := by decide +kernel
theorem dX5_isLeast_23 : decode cX5_isLeast 23 = .ok (.iaload, 1) := by decide +kernel
theorem dX5_isLeast_24 : decode cX5_isLeast 24 = .ok (.invokevirtual 119, 3) := by decide +kernel
theorem dX5_isLeast_27 : decode cX5_isLeast 27 = .ok (.ifCond .ne 7, 3) := by decide +kernel
theorem dX5_isLeast_30 : decode cX5_isLeast 30 = .ok (.iconst 1, 1) := by decide +kernel
theorem dX5_isLeast_31 : decode cX5_isLeast 31 = .ok (.goto 4, 3) := by decide +kernel
theorem dX5_isLeast_34 : decode cX5_isLeast 34 = .ok (.iconst 0, 1) := by decide +kernel
theorem dX5_isLeast_35 : decode cX5_isLeast 35 = .ok (.istore_n 2, 1) := by decide +kernel
theorem dX5_isLeast_36 : decode cX5_isLeast 36 = .ok (.iinc 3 1, 3) := by decide +kernel
theorem dX5_isLeast_39 : decode cX5_isLeast 39 = .ok (.goto (-35), 3) := by decide +kernel
theorem dX5_isLeast_42 : decode cX5_isLeast 42 = .ok (.iload_n 2, 1) := by decide +kernel
theorem dX5_isLeast_43 : decode cX5_isLeast 43 = .ok (.ireturn, 1) := by decide +kernel
theorem dX5_layLeast_0 : decode cX5_layLeast 0 = .ok (.aload_n 0, 1) := by decide +kernel
theorem dX5_layLeast_1 : decode cX5_layLeast 1 = .ok (.iconst 0, 1) := by decide +kernel
theorem dX5_layLeast_2 : decode cX5_layLeast 2 = .ok (.putfield 116, 3) := by decide +kernel
theorem dX5_layLeast_5 : decode cX5_layLeast 5 = .ok (.iconst 1, 1) := by decide +kernel
theorem dX5_layLeast_6 : decode cX5_layLeast 6 = .ok (.istore_n 1, 1) := by decide +kernel
theorem dX5_layLeast_7 : decode cX5_layLeast 7 = .ok (.iload_n 1, 1) := by decide +kernel
theorem dX5_layLeast_8 : decode cX5_layLeast 8 = .ok (.sipush 1296, 3) := by decide +kernel
theorem dX5_layLeast_11 : decode cX5_layLeast 11 = .ok (.if_icmp .ge 82, 3) := by decide +kernel
theorem dX5_layLeast_14 : decode cX5_layLeast 14 = .ok (.sipush 1000, 3) := by decide +kernel
theorem dX5_layLeast_17 : decode cX5_layLeast 17 = .ok (.iload_n 1, 1) := by decide +kernel
theorem dX5_layLeast_18 : decode cX5_layLeast 18 = .ok (.sipush 216, 3) := by decide +kernel
theorem dX5_layLeast_21 : decode cX5_layLeast 21 = .ok (.idiv, 1) := by decide +kernel
theorem dX5_layLeast_22 : decode cX5_layLeast 22 = .ok (.imul, 1) := by decide +kernel
theorem dX5_layLeast_23 : decode cX5_layLeast 23 = .ok (.bipush 100, 2) := by decide +kernel
theorem dX5_layLeast_25 : decode cX5_layLeast 25 = .ok (.iload_n 1, 1) := by decide +kernel
theorem dX5_layLeast_26 : decode cX5_layLeast 26 = .ok (.bipush 36, 2) := by decide +kernel
theorem dX5_layLeast_28 : decode cX5_layLeast 28 = .ok (.idiv, 1) := by decide +kernel
theorem dX5_layLeast_29 : decode cX5_layLeast 29 = .ok (.bipush 6, 2) := by decide +kernel
theorem dX5_layLeast_31 : decode cX5_layLeast 31 = .ok (.irem, 1) := by decide +kernel
theorem dX5_layLeast_32 : decode cX5_layLeast 32 = .ok (.imul, 1) := by decide +kernel
theorem dX5_layLeast_33 : decode cX5_layLeast 33 = .ok (.iadd, 1) := by decide +kernel
theorem dX5_layLeast_34 : decode cX5_layLeast 34 = .ok (.bipush 10, 2) := by decide +kernel
theorem dX5_layLeast_36 : decode cX5_layLeast 36 = .ok (.iload_n 1, 1) := by decide +kernel
theorem dX5_layLeast_37 : decode cX5_layLeast 37 = .ok (.bipush 6, 2) := by decide +kernel
theorem dX5_layLeast_39 : decode cX5_layLeast 39 = .ok (.idiv, 1) := by decide +kernel
theorem dX5_layLeast_40 : decode cX5_layLeast 40 = .ok (.bipush 6, 2) := by decide +kernel
theorem dX5_layLeast_42 : decode cX5_layLeast 42 = .ok (.irem, 1) := by decide +kernel
theorem dX5_layLeast_43 : decode cX5_layLeast 43 = .ok (.imul, 1) := by decide +kernel
theorem dX5_layLeast_44 : decode cX5_layLeast 44 = .ok (.iadd, 1) := by decide +kernel
theorem dX5_layLeast_45 : decode cX5_layLeast 45 = .ok (.iload_n 1, 1) := by decide +kernel
theorem dX5_layLeast_46 : decode cX5_layLeast 46 = .ok (.bipush 6, 2) := by decide +kernel
theorem dX5_layLeast_48 : decode cX5_layLeast 48 = .ok (.irem, 1) := by decide +kernel
theorem dX5_layLeast_49 : decode cX5_layLeast 49 = .ok (.iadd, 1) := by decide +kernel
theorem dX5_layLeast_50 : decode cX5_layLeast 50 = .ok (.istore_n 2, 1) := by decide +kernel
theorem dX5_layLeast_51 : decode cX5_layLeast 51 = .ok (.aload_n 0, 1) := by decide +kernel
theorem dX5_layLeast_52 : decode cX5_layLeast 52 = .ok (.iload_n 2, 1) := by decide +kernel
theorem dX5_layLeast_53 : decode cX5_layLeast 53 = .ok (.invokevirtual 123, 3) := by decide +kernel
theorem dX5_layLeast_56 : decode cX5_layLeast 56 = .ok (.ifCond .eq 31, 3) := by decide +kernel
theorem dX5_layLeast_59 : decode cX5_layLeast 59 = .ok (.aload_n 0, 1) := by decide +kernel
theorem dX5_layLeast_60 : decode cX5_layLeast 60 = .ok (.iload_n 2, 1) := by decide +kernel
theorem dX5_layLeast_61 : decode cX5_layLeast 61 = .ok (.invokevirtual 127, 3) := by decide +kernel
theorem dX5_layLeast_64 : decode cX5_layLeast 64 = .ok (.ifCond .eq 23, 3) := by decide +kernel
theorem dX5_layLeast_67 : decode cX5_layLeast 67 = .ok (.aload_n 0, 1) := by decide +kernel
theorem dX5_layLeast_68 : decode cX5_layLeast 68 = .ok (.getfield 41, 3) := by decide +kernel
theorem dX5_layLeast_71 : decode cX5_layLeast 71 = .ok (.aload_n 0, 1) := by decide +kernel
theorem dX5_layLeast_72 : decode cX5_layLeast 72 = .ok (.getfield 116, 3) := by decide +kernel
theorem dX5_layLeast_75 : decode cX5_layLeast 75 = .ok (.iload_n 2, 1) := by decide +kernel
theorem dX5_layLeast_76 : decode cX5_layLeast 76 = .ok (.iastore, 1) := by decide +kernel
theorem dX5_layLeast_77 : decode cX5_layLeast 77 = .ok (.aload_n 0, 1) := by decide +kernel
theorem dX5_layLeast_78 : decode cX5_layLeast 78 = .ok (.dup, 1) := by decide +kernel
theorem dX5_layLeast_79 : decode cX5_layLeast 79 = .ok (.getfield 116, 3) := by decide +kernel
theorem dX5_layLeast_82 : decode cX5_layLeast 82 = .ok (.iconst 1, 1) := by decide +kernel
theorem dX5_layLeast_83 : decode cX5_layLeast 83 = .ok (.iadd, 1) := by decide +kernel
theorem dX5_layLeast_84 : decode cX5_layLeast 84 = .ok (.putfield 116, 3) := by decide +kernel
theorem dX5_layLeast_87 : decode cX5_layLeast 87 = .ok (.iinc 1 1, 3) := by decide +kernel
theorem dX5_layLeast_90 : decode cX5_layLeast 90 = .ok (.goto (-83), 3) := by decide +kernel
theorem dX5_layLeast_93 : decode cX5_layLeast 93 = .ok (.return_, 1) := by decide +kernel
theorem dX5_sumsTo_0 : decode cX5_sumsTo 0 = .ok (.aload_n 0, 1) := by decide +kernel
theorem dX5_sumsTo_1 : decode cX5_sumsTo 1 = .ok (.invokevirtual 130, 3) := by decide +kernel
theorem dX5_sumsTo_4 : decode cX5_sumsTo 4 = .ok (.iconst 0, 1) := by decide +kernel
theorem dX5_sumsTo_5 : decode cX5_sumsTo 5 = .ok (.istore 5, 2) := by decide +kernel
theorem dX5_sumsTo_7 : decode cX5_sumsTo 7 = .ok (.iload 5, 2) := by decide +kernel
theorem dX5_sumsTo_9 : decode cX5_sumsTo 9 = .ok (.sipush 2401, 3) := by decide +kernel
theorem dX5_sumsTo_12 : decode cX5_sumsTo 12 = .ok (.if_icmp .ge 26, 3) := by decide +kernel
theorem dX5_sumsTo_15 : decode cX5_sumsTo 15 = .ok (.aload_n 0, 1) := by decide +kernel
theorem dX5_sumsTo_16 : decode cX5_sumsTo 16 = .ok (.getfield 44, 3) := by decide +kernel
theorem dX5_sumsTo_19 : decode cX5_sumsTo 19 = .ok (.iload 5, 2) := by decide +kernel
theorem dX5_sumsTo_21 : decode cX5_sumsTo 21 = .ok (.iload 5, 2) := by decide +kernel
theorem dX5_sumsTo_23 : decode cX5_sumsTo 23 = .ok (.ifCond .ne 7, 3) := by decide +kernel
theorem dX5_sumsTo_26 : decode cX5_sumsTo 26 = .ok (.iconst 1, 1) := by decide +kernel
theorem dX5_sumsTo_27 : decode cX5_sumsTo 27 = .ok (.goto 4, 3) := by decide +kernel
theorem dX5_sumsTo_30 : decode cX5_sumsTo 30 = .ok (.iconst 0, 1) := by decide +kernel
theorem dX5_sumsTo_31 : decode cX5_sumsTo 31 = .ok (.iastore, 1) := by decide +kernel
theorem dX5_sumsTo_32 : decode cX5_sumsTo 32 = .ok (.iinc 5 1, 3) := by decide +kernel
theorem dX5_sumsTo_35 : decode cX5_sumsTo 35 = .ok (.goto (-28), 3) := by decide +kernel
theorem dX5_sumsTo_38 : decode cX5_sumsTo 38 = .ok (.iconst 0, 1) := by decide +kernel
theorem dX5_sumsTo_39 : decode cX5_sumsTo 39 = .ok (.istore 5, 2) := by decide +kernel
theorem dX5_sumsTo_41 : decode cX5_sumsTo 41 = .ok (.iload 5, 2) := by decide +kernel
theorem dX5_sumsTo_43 : decode cX5_sumsTo 43 = .ok (.aload_n 0, 1) := by decide +kernel
theorem dX5_sumsTo_44 : decode cX5_sumsTo 44 = .ok (.getfield 116, 3) := by decide +kernel
theorem dX5_sumsTo_47 : decode cX5_sumsTo 47 = .ok (.if_icmp .ge 152, 3) := by decide +kernel
theorem dX5_sumsTo_50 : decode cX5_sumsTo 50 = .ok (.aload_n 0, 1) := by decide +kernel
theorem dX5_sumsTo_51 : decode cX5_sumsTo 51 = .ok (.getfield 41, 3) := by decide +kernel
theorem dX5_sumsTo_54 : decode cX5_sumsTo 54 = .ok (.iload 5, 2) := by decide +kernel
theorem dX5_sumsTo_56 : decode cX5_sumsTo 56 = .ok (.iaload, 1) := by decide +kernel
theorem dX5_sumsTo_57 : decode cX5_sumsTo 57 = .ok (.istore 6, 2) := by decide +kernel
theorem dX5_sumsTo_59 : decode cX5_sumsTo 59 = .ok (.sipush 343, 3) := by decide +kernel
theorem dX5_sumsTo_62 : decode cX5_sumsTo 62 = .ok (.iload 6, 2) := by decide +kernel
theorem dX5_sumsTo_64 : decode cX5_sumsTo 64 = .ok (.iconst 0, 1) := by decide +kernel
theorem dX5_sumsTo_65 : decode cX5_sumsTo 65 = .ok (.invokestatic 113, 3) := by decide +kernel
theorem dX5_sumsTo_68 : decode cX5_sumsTo 68 = .ok (.imul, 1) := by decide +kernel
theorem dX5_sumsTo_69 : decode cX5_sumsTo 69 = .ok (.bipush 49, 2) := by decide +kernel
theorem dX5_sumsTo_71 : decode cX5_sumsTo 71 = .ok (.iload 6, 2) := by decide +kernel
theorem dX5_sumsTo_73 : decode cX5_sumsTo 73 = .ok (.iconst 1, 1) := by decide +kernel
theorem dX5_sumsTo_74 : decode cX5_sumsTo 74 = .ok (.invokestatic 113, 3) := by decide +kernel
theorem dX5_sumsTo_77 : decode cX5_sumsTo 77 = .ok (.imul, 1) := by decide +kernel
theorem dX5_sumsTo_78 : decode cX5_sumsTo 78 = .ok (.iadd, 1) := by decide +kernel
theorem dX5_sumsTo_79 : decode cX5_sumsTo 79 = .ok (.bipush 7, 2) := by decide +kernel
theorem dX5_sumsTo_81 : decode cX5_sumsTo 81 = .ok (.iload 6, 2) := by decide +kernel
theorem dX5_sumsTo_83 : decode cX5_sumsTo 83 = .ok (.iconst 2, 1) := by decide +kernel
theorem dX5_sumsTo_84 : decode cX5_sumsTo 84 = .ok (.invokestatic 113, 3) := by decide +kernel
theorem dX5_sumsTo_87 : decode cX5_sumsTo 87 = .ok (.imul, 1) := by decide +kernel
theorem dX5_sumsTo_88 : decode cX5_sumsTo 88 = .ok (.iadd, 1) := by decide +kernel
theorem dX5_sumsTo_89 : decode cX5_sumsTo 89 = .ok (.iload 6, 2) := by decide +kernel
theorem dX5_sumsTo_91 : decode cX5_sumsTo 91 = .ok (.iconst 3, 1) := by decide +kernel
theorem dX5_sumsTo_92 : decode cX5_sumsTo 92 = .ok (.invokestatic 113, 3) := by decide +kernel
theorem dX5_sumsTo_95 : decode cX5_sumsTo 95 = .ok (.iadd, 1) := by decide +kernel
theorem dX5_sumsTo_96 : decode cX5_sumsTo 96 = .ok (.istore 7, 2) := by decide +kernel
theorem dX5_sumsTo_98 : decode cX5_sumsTo 98 = .ok (.iload 7, 2) := by decide +kernel
theorem dX5_sumsTo_100 : decode cX5_sumsTo 100 = .ok (.istore 8, 2) := by decide +kernel
theorem dX5_sumsTo_102 : decode cX5_sumsTo 102 = .ok (.iload 8, 2) := by decide +kernel
theorem dX5_sumsTo_104 : decode cX5_sumsTo 104 = .ok (.sipush 2401, 3) := by decide +kernel
theorem dX5_sumsTo_107 : decode cX5_sumsTo 107 = .ok (.if_icmp .ge 86, 3) := by decide +kernel
theorem dX5_sumsTo_110 : decode cX5_sumsTo 110 = .ok (.sipush 1000, 3) := by decide +kernel
theorem dX5_sumsTo_113 : decode cX5_sumsTo 113 = .ok (.iload 8, 2) := by decide +kernel
theorem dX5_sumsTo_115 : decode cX5_sumsTo 115 = .ok (.sipush 343, 3) := by decide +kernel
theorem dX5_sumsTo_118 : decode cX5_sumsTo 118 = .ok (.idiv, 1) := by decide +kernel
theorem dX5_sumsTo_119 : decode cX5_sumsTo 119 = .ok (.imul, 1) := by decide +kernel
theorem dX5_sumsTo_120 : decode cX5_sumsTo 120 = .ok (.bipush 100, 2) := by decide +kernel
theorem dX5_sumsTo_122 : decode cX5_sumsTo 122 = .ok (.iload 8, 2) := by decide +kernel
theorem dX5_sumsTo_124 : decode cX5_sumsTo 124 = .ok (.bipush 49, 2) := by decide +kernel
theorem dX5_sumsTo_126 : decode cX5_sumsTo 126 = .ok (.idiv, 1) := by decide +kernel
theorem dX5_sumsTo_127 : decode cX5_sumsTo 127 = .ok (.bipush 7, 2) := by decide +kernel
theorem dX5_sumsTo_129 : decode cX5_sumsTo 129 = .ok (.irem, 1) := by decide +kernel
theorem dX5_sumsTo_130 : decode cX5_sumsTo 130 = .ok (.imul, 1) := by decide +kernel
theorem dX5_sumsTo_131 : decode cX5_sumsTo 131 = .ok (.iadd, 1) := by decide +kernel
theorem dX5_sumsTo_132 : decode cX5_sumsTo 132 = .ok (.bipush 10, 2) := by decide +kernel
theorem dX5_sumsTo_134 : decode cX5_sumsTo 134 = .ok (.iload 8, 2) := by decide +kernel
theorem dX5_sumsTo_136 : decode cX5_sumsTo 136 = .ok (.bipush 7, 2) := by decide +kernel
theorem dX5_sumsTo_138 : decode cX5_sumsTo 138 = .ok (.idiv, 1) := by decide +kernel
theorem dX5_sumsTo_139 : decode cX5_sumsTo 139 = .ok (.bipush 7, 2) := by decide +kernel
theorem dX5_sumsTo_141 : decode cX5_sumsTo 141 = .ok (.irem, 1) := by decide +kernel
theorem dX5_sumsTo_142 : decode cX5_sumsTo 142 = .ok (.imul, 1) := by decide +kernel
theorem dX5_sumsTo_143 : decode cX5_sumsTo 143 = .ok (.iadd, 1) := by decide +kernel
theorem dX5_sumsTo_144 : decode cX5_sumsTo 144 = .ok (.iload 8, 2) := by decide +kernel
theorem dX5_sumsTo_146 : decode cX5_sumsTo 146 = .ok (.bipush 7, 2) := by decide +kernel
theorem dX5_sumsTo_148 : decode cX5_sumsTo 148 = .ok (.irem, 1) := by decide +kernel
theorem dX5_sumsTo_149 : decode cX5_sumsTo 149 = .ok (.iadd, 1) := by decide +kernel
theorem dX5_sumsTo_150 : decode cX5_sumsTo 150 = .ok (.istore 9, 2) := by decide +kernel
theorem dX5_sumsTo_152 : decode cX5_sumsTo 152 = .ok (.aload_n 0, 1) := by decide +kernel
theorem dX5_sumsTo_153 : decode cX5_sumsTo 153 = .ok (.getfield 44, 3) := by decide +kernel
theorem dX5_sumsTo_156 : decode cX5_sumsTo 156 = .ok (.iload 8, 2) := by decide +kernel
theorem dX5_sumsTo_158 : decode cX5_sumsTo 158 = .ok (.dup2, 1) := by decide +kernel
theorem dX5_sumsTo_159 : decode cX5_sumsTo 159 = .ok (.iaload, 1) := by decide +kernel
theorem dX5_sumsTo_160 : decode cX5_sumsTo 160 = .ok (.aload_n 0, 1) := by decide +kernel
theorem dX5_sumsTo_161 : decode cX5_sumsTo 161 = .ok (.iload 9, 2) := by decide +kernel
theorem dX5_sumsTo_163 : decode cX5_sumsTo 163 = .ok (.iload 6, 2) := by decide +kernel
theorem dX5_sumsTo_165 : decode cX5_sumsTo 165 = .ok (.invokevirtual 119, 3) := by decide +kernel
theorem dX5_sumsTo_168 : decode cX5_sumsTo 168 = .ok (.ifCond .eq 16, 3) := by decide +kernel
theorem dX5_sumsTo_171 : decode cX5_sumsTo 171 = .ok (.aload_n 0, 1) := by decide +kernel
theorem dX5_sumsTo_172 : decode cX5_sumsTo 172 = .ok (.getfield 44, 3) := by decide +kernel
theorem dX5_sumsTo_175 : decode cX5_sumsTo 175 = .ok (.iload 8, 2) := by decide +kernel
theorem dX5_sumsTo_177 : decode cX5_sumsTo 177 = .ok (.iload 7, 2) := by decide +kernel
theorem dX5_sumsTo_179 : decode cX5_sumsTo 179 = .ok (.isub, 1) := by decide +kernel
theorem dX5_sumsTo_180 : decode cX5_sumsTo 180 = .ok (.iaload, 1) := by decide +kernel
theorem dX5_sumsTo_181 : decode cX5_sumsTo 181 = .ok (.goto 4, 3) := by decide +kernel
theorem dX5_sumsTo_184 : decode cX5_sumsTo 184 = .ok (.iconst 0, 1) := by decide +kernel
theorem dX5_sumsTo_185 : decode cX5_sumsTo 185 = .ok (.iadd, 1) := by decide +kernel
theorem dX5_sumsTo_186 : decode cX5_sumsTo 186 = .ok (.iastore, 1) := by decide +kernel
theorem dX5_sumsTo_187 : decode cX5_sumsTo 187 = .ok (.iinc 8 1, 3) := by decide +kernel
theorem dX5_sumsTo_190 : decode cX5_sumsTo 190 = .ok (.goto (-88), 3) := by decide +kernel
theorem dX5_sumsTo_193 : decode cX5_sumsTo 193 = .ok (.iinc 5 1, 3) := by decide +kernel
theorem dX5_sumsTo_196 : decode cX5_sumsTo 196 = .ok (.goto (-155), 3) := by decide +kernel
theorem dX5_sumsTo_199 : decode cX5_sumsTo 199 = .ok (.aload_n 0, 1) := by decide +kernel
theorem dX5_sumsTo_200 : decode cX5_sumsTo 200 = .ok (.getfield 44, 3) := by decide +kernel
theorem dX5_sumsTo_203 : decode cX5_sumsTo 203 = .ok (.sipush 343, 3) := by decide +kernel
theorem dX5_sumsTo_206 : decode cX5_sumsTo 206 = .ok (.iload_n 1, 1) := by decide +kernel
theorem dX5_sumsTo_207 : decode cX5_sumsTo 207 = .ok (.imul, 1) := by decide +kernel
theorem dX5_sumsTo_208 : decode cX5_sumsTo 208 = .ok (.bipush 49, 2) := by decide +kernel
theorem dX5_sumsTo_210 : decode cX5_sumsTo 210 = .ok (.iload_n 2, 1) := by decide +kernel
theorem dX5_sumsTo_211 : decode cX5_sumsTo 211 = .ok (.imul, 1) := by decide +kernel
theorem dX5_sumsTo_212 : decode cX5_sumsTo 212 = .ok (.iadd, 1) := by decide +kernel
theorem dX5_sumsTo_213 : decode cX5_sumsTo 213 = .ok (.bipush 7, 2) := by decide +kernel
theorem dX5_sumsTo_215 : decode cX5_sumsTo 215 = .ok (.iload_n 3, 1) := by decide +kernel
theorem dX5_sumsTo_216 : decode cX5_sumsTo 216 = .ok (.imul, 1) := by decide +kernel
theorem dX5_sumsTo_217 : decode cX5_sumsTo 217 = .ok (.iadd, 1) := by decide +kernel
theorem dX5_sumsTo_218 : decode cX5_sumsTo 218 = .ok (.iload 4, 2) := by decide +kernel
theorem dX5_sumsTo_220 : decode cX5_sumsTo 220 = .ok (.iadd, 1) := by decide +kernel
theorem dX5_sumsTo_221 : decode cX5_sumsTo 221 = .ok (.iaload, 1) := by decide +kernel
theorem dX5_sumsTo_222 : decode cX5_sumsTo 222 = .ok (.ireturn, 1) := by decide +kernel
theorem dX5_greatestLeast_0 : decode cX5_greatestLeast 0 = .ok (.aload_n 0, 1) := by decide +kernel
theorem dX5_greatestLeast_1 : decode cX5_greatestLeast 1 = .ok (.invokevirtual 130, 3) := by decide +kernel
theorem dX5_greatestLeast_4 : decode cX5_greatestLeast 4 = .ok (.iconst 0, 1) := by decide +kernel
theorem dX5_greatestLeast_5 : decode cX5_greatestLeast 5 = .ok (.istore_n 1, 1) := by decide +kernel
theorem dX5_greatestLeast_6 : decode cX5_greatestLeast 6 = .ok (.iconst 0, 1) := by decide +kernel
theorem dX5_greatestLeast_7 : decode cX5_greatestLeast 7 = .ok (.istore_n 2, 1) := by decide +kernel
theorem dX5_greatestLeast_8 : decode cX5_greatestLeast 8 = .ok (.iload_n 2, 1) := by decide +kernel
theorem dX5_greatestLeast_9 : decode cX5_greatestLeast 9 = .ok (.aload_n 0, 1) := by decide +kernel
theorem dX5_greatestLeast_10 : decode cX5_greatestLeast 10 = .ok (.getfield 116, 3) := by decide +kernel
theorem dX5_greatestLeast_13 : decode cX5_greatestLeast 13 = .ok (.if_icmp .ge 64, 3) := by decide +kernel
theorem dX5_greatestLeast_16 : decode cX5_greatestLeast 16 = .ok (.aload_n 0, 1) := by decide +kernel
theorem dX5_greatestLeast_17 : decode cX5_greatestLeast 17 = .ok (.getfield 41, 3) := by decide +kernel
theorem dX5_greatestLeast_20 : decode cX5_greatestLeast 20 = .ok (.iload_n 2, 1) := by decide +kernel
theorem dX5_greatestLeast_21 : decode cX5_greatestLeast 21 = .ok (.iaload, 1) := by decide +kernel
theorem dX5_greatestLeast_22 : decode cX5_greatestLeast 22 = .ok (.iconst 0, 1) := by decide +kernel
theorem dX5_greatestLeast_23 : decode cX5_greatestLeast 23 = .ok (.invokestatic 113, 3) := by decide +kernel
theorem dX5_greatestLeast_26 : decode cX5_greatestLeast 26 = .ok (.aload_n 0, 1) := by decide +kernel
theorem dX5_greatestLeast_27 : decode cX5_greatestLeast 27 = .ok (.getfield 41, 3) := by decide +kernel
theorem dX5_greatestLeast_30 : decode cX5_greatestLeast 30 = .ok (.iload_n 2, 1) := by decide +kernel
theorem dX5_greatestLeast_31 : decode cX5_greatestLeast 31 = .ok (.iaload, 1) := by decide +kernel
theorem dX5_greatestLeast_32 : decode cX5_greatestLeast 32 = .ok (.iconst 1, 1) := by decide +kernel
theorem dX5_greatestLeast_33 : decode cX5_greatestLeast 33 = .ok (.invokestatic 113, 3) := by decide +kernel
theorem dX5_greatestLeast_36 : decode cX5_greatestLeast 36 = .ok (.iadd, 1) := by decide +kernel
theorem dX5_greatestLeast_37 : decode cX5_greatestLeast 37 = .ok (.aload_n 0, 1) := by decide +kernel
theorem dX5_greatestLeast_38 : decode cX5_greatestLeast 38 = .ok (.getfield 41, 3) := by decide +kernel
theorem dX5_greatestLeast_41 : decode cX5_greatestLeast 41 = .ok (.iload_n 2, 1) := by decide +kernel
theorem dX5_greatestLeast_42 : decode cX5_greatestLeast 42 = .ok (.iaload, 1) := by decide +kernel
theorem dX5_greatestLeast_43 : decode cX5_greatestLeast 43 = .ok (.iconst 2, 1) := by decide +kernel
theorem dX5_greatestLeast_44 : decode cX5_greatestLeast 44 = .ok (.invokestatic 113, 3) := by decide +kernel
theorem dX5_greatestLeast_47 : decode cX5_greatestLeast 47 = .ok (.iadd, 1) := by decide +kernel
theorem dX5_greatestLeast_48 : decode cX5_greatestLeast 48 = .ok (.aload_n 0, 1) := by decide +kernel
theorem dX5_greatestLeast_49 : decode cX5_greatestLeast 49 = .ok (.getfield 41, 3) := by decide +kernel
theorem dX5_greatestLeast_52 : decode cX5_greatestLeast 52 = .ok (.iload_n 2, 1) := by decide +kernel
theorem dX5_greatestLeast_53 : decode cX5_greatestLeast 53 = .ok (.iaload, 1) := by decide +kernel
theorem dX5_greatestLeast_54 : decode cX5_greatestLeast 54 = .ok (.iconst 3, 1) := by decide +kernel
theorem dX5_greatestLeast_55 : decode cX5_greatestLeast 55 = .ok (.invokestatic 113, 3) := by decide +kernel
theorem dX5_greatestLeast_58 : decode cX5_greatestLeast 58 = .ok (.iadd, 1) := by decide +kernel
theorem dX5_greatestLeast_59 : decode cX5_greatestLeast 59 = .ok (.istore_n 3, 1) := by decide +kernel
theorem dX5_greatestLeast_60 : decode cX5_greatestLeast 60 = .ok (.iload_n 3, 1) := by decide +kernel
theorem dX5_greatestLeast_61 : decode cX5_greatestLeast 61 = .ok (.iload_n 1, 1) := by decide +kernel
theorem dX5_greatestLeast_62 : decode cX5_greatestLeast 62 = .ok (.if_icmp .le 7, 3) := by decide +kernel
theorem dX5_greatestLeast_65 : decode cX5_greatestLeast 65 = .ok (.iload_n 3, 1) := by decide +kernel
theorem dX5_greatestLeast_66 : decode cX5_greatestLeast 66 = .ok (.goto 4, 3) := by decide +kernel
theorem dX5_greatestLeast_69 : decode cX5_greatestLeast 69 = .ok (.iload_n 1, 1) := by decide +kernel
theorem dX5_greatestLeast_70 : decode cX5_greatestLeast 70 = .ok (.istore_n 1, 1) := by decide +kernel
theorem dX5_greatestLeast_71 : decode cX5_greatestLeast 71 = .ok (.iinc 2 1, 3) := by decide +kernel
theorem dX5_greatestLeast_74 : decode cX5_greatestLeast 74 = .ok (.goto (-66), 3) := by decide +kernel
theorem dX5_greatestLeast_77 : decode cX5_greatestLeast 77 = .ok (.iload_n 1, 1) := by decide +kernel
theorem dX5_greatestLeast_78 : decode cX5_greatestLeast 78 = .ok (.ireturn, 1) := by decide +kernel
theorem dX5_constant_0 : decode cX5_constant 0 = .ok (.aload_n 0, 1) := by decide +kernel
theorem dX5_constant_1 : decode cX5_constant 1 = .ok (.iload_n 1, 1) := by decide +kernel
theorem dX5_constant_2 : decode cX5_constant 2 = .ok (.invokestatic 133, 3) := by decide +kernel
theorem dX5_constant_5 : decode cX5_constant 5 = .ok (.ifCond .eq 10, 3) := by decide +kernel
theorem dX5_constant_8 : decode cX5_constant 8 = .ok (.iload_n 2, 1) := by decide +kernel
theorem dX5_constant_9 : decode cX5_constant 9 = .ok (.invokestatic 136, 3) := by decide +kernel
theorem dX5_constant_12 : decode cX5_constant 12 = .ok (.ifCond .ne 7, 3) := by decide +kernel
theorem dX5_constant_15 : decode cX5_constant 15 = .ok (.iconst 1, 1) := by decide +kernel
theorem dX5_constant_16 : decode cX5_constant 16 = .ok (.goto 18, 3) := by decide +kernel
theorem dX5_constant_19 : decode cX5_constant 19 = .ok (.iload_n 3, 1) := by decide +kernel
theorem dX5_constant_20 : decode cX5_constant 20 = .ok (.iconst 0, 1) := by decide +kernel
theorem dX5_constant_21 : decode cX5_constant 21 = .ok (.bipush 9, 2) := by decide +kernel
theorem dX5_constant_23 : decode cX5_constant 23 = .ok (.invokestatic 61, 3) := by decide +kernel
theorem dX5_constant_26 : decode cX5_constant 26 = .ok (.ifCond .eq 7, 3) := by decide +kernel
theorem dX5_constant_29 : decode cX5_constant 29 = .ok (.iconst 0, 1) := by decide +kernel
theorem dX5_constant_30 : decode cX5_constant 30 = .ok (.goto 4, 3) := by decide +kernel
theorem dX5_constant_33 : decode cX5_constant 33 = .ok (.iconst 2, 1) := by decide +kernel
theorem dX5_constant_34 : decode cX5_constant 34 = .ok (.putfield 50, 3) := by decide +kernel
theorem dX5_constant_37 : decode cX5_constant 37 = .ok (.aload_n 0, 1) := by decide +kernel
theorem dX5_constant_38 : decode cX5_constant 38 = .ok (.getfield 50, 3) := by decide +kernel
theorem dX5_constant_41 : decode cX5_constant 41 = .ok (.ifCond .le 5, 3) := by decide +kernel
theorem dX5_constant_44 : decode cX5_constant 44 = .ok (.iconst 0, 1) := by decide +kernel
theorem dX5_constant_45 : decode cX5_constant 45 = .ok (.ireturn, 1) := by decide +kernel
theorem dX5_constant_46 : decode cX5_constant 46 = .ok (.aload_n 0, 1) := by decide +kernel
theorem dX5_constant_47 : decode cX5_constant 47 = .ok (.invokevirtual 139, 3) := by decide +kernel
theorem dX5_constant_50 : decode cX5_constant 50 = .ok (.aload_n 0, 1) := by decide +kernel
theorem dX5_constant_51 : decode cX5_constant 51 = .ok (.iload_n 1, 1) := by decide +kernel
theorem dX5_constant_52 : decode cX5_constant 52 = .ok (.iload_n 2, 1) := by decide +kernel
theorem dX5_constant_53 : decode cX5_constant 53 = .ok (.invokevirtual 57, 3) := by decide +kernel
theorem dX5_constant_56 : decode cX5_constant 56 = .ok (.istore 4, 2) := by decide +kernel
theorem dX5_constant_58 : decode cX5_constant 58 = .ok (.aload_n 0, 1) := by decide +kernel
theorem dX5_constant_59 : decode cX5_constant 59 = .ok (.getfield 7, 3) := by decide +kernel
theorem dX5_constant_62 : decode cX5_constant 62 = .ok (.bipush 8, 2) := by decide +kernel
theorem dX5_constant_64 : decode cX5_constant 64 = .ok (.iload_n 1, 1) := by decide +kernel
theorem dX5_constant_65 : decode cX5_constant 65 = .ok (.imul, 1) := by decide +kernel
theorem dX5_constant_66 : decode cX5_constant 66 = .ok (.iload_n 2, 1) := by decide +kernel
theorem dX5_constant_67 : decode cX5_constant 67 = .ok (.iadd, 1) := by decide +kernel
theorem dX5_constant_68 : decode cX5_constant 68 = .ok (.iload_n 3, 1) := by decide +kernel
theorem dX5_constant_69 : decode cX5_constant 69 = .ok (.iastore, 1) := by decide +kernel
theorem dX5_constant_70 : decode cX5_constant 70 = .ok (.iload 4, 2) := by decide +kernel
theorem dX5_constant_72 : decode cX5_constant 72 = .ok (.ireturn, 1) := by decide +kernel
theorem dX5_variable_0 : decode cX5_variable 0 = .ok (.aload_n 0, 1) := by decide +kernel
theorem dX5_variable_1 : decode cX5_variable 1 = .ok (.iload_n 1, 1) := by decide +kernel
theorem dX5_variable_2 : decode cX5_variable 2 = .ok (.iconst 0, 1) := by decide +kernel
theorem dX5_variable_3 : decode cX5_variable 3 = .ok (.iconst 1, 1) := by decide +kernel
theorem dX5_variable_4 : decode cX5_variable 4 = .ok (.invokestatic 61, 3) := by decide +kernel
theorem dX5_variable_7 : decode cX5_variable 7 = .ok (.ifCond .eq 10, 3) := by decide +kernel
theorem dX5_variable_10 : decode cX5_variable 10 = .ok (.iload_n 2, 1) := by decide +kernel
theorem dX5_variable_11 : decode cX5_variable 11 = .ok (.invokestatic 142, 3) := by decide +kernel
theorem dX5_variable_14 : decode cX5_variable 14 = .ok (.ifCond .ne 7, 3) := by decide +kernel
theorem dX5_variable_17 : decode cX5_variable 17 = .ok (.iconst 1, 1) := by decide +kernel
theorem dX5_variable_18 : decode cX5_variable 18 = .ok (.goto 17, 3) := by decide +kernel
theorem dX5_variable_21 : decode cX5_variable 21 = .ok (.iload_n 3, 1) := by decide +kernel
theorem dX5_variable_22 : decode cX5_variable 22 = .ok (.iconst 0, 1) := by decide +kernel
theorem dX5_variable_23 : decode cX5_variable 23 = .ok (.iconst 5, 1) := by decide +kernel
theorem dX5_variable_24 : decode cX5_variable 24 = .ok (.invokestatic 61, 3) := by decide +kernel
theorem dX5_variable_27 : decode cX5_variable 27 = .ok (.ifCond .eq 7, 3) := by decide +kernel
theorem dX5_variable_30 : decode cX5_variable 30 = .ok (.iconst 0, 1) := by decide +kernel
theorem dX5_variable_31 : decode cX5_variable 31 = .ok (.goto 4, 3) := by decide +kernel
theorem dX5_variable_34 : decode cX5_variable 34 = .ok (.iconst 2, 1) := by decide +kernel
theorem dX5_variable_35 : decode cX5_variable 35 = .ok (.putfield 50, 3) := by decide +kernel
theorem dX5_variable_38 : decode cX5_variable 38 = .ok (.aload_n 0, 1) := by decide +kernel
theorem dX5_variable_39 : decode cX5_variable 39 = .ok (.getfield 50, 3) := by decide +kernel
theorem dX5_variable_42 : decode cX5_variable 42 = .ok (.ifCond .le 5, 3) := by decide +kernel
theorem dX5_variable_45 : decode cX5_variable 45 = .ok (.iconst 0, 1) := by decide +kernel
theorem dX5_variable_46 : decode cX5_variable 46 = .ok (.ireturn, 1) := by decide +kernel
theorem dX5_variable_47 : decode cX5_variable 47 = .ok (.aload_n 0, 1) := by decide +kernel
theorem dX5_variable_48 : decode cX5_variable 48 = .ok (.invokevirtual 139, 3) := by decide +kernel
theorem dX5_variable_51 : decode cX5_variable 51 = .ok (.aload_n 0, 1) := by decide +kernel
theorem dX5_variable_52 : decode cX5_variable 52 = .ok (.iload_n 1, 1) := by decide +kernel
theorem dX5_variable_53 : decode cX5_variable 53 = .ok (.iload_n 2, 1) := by decide +kernel
theorem dX5_variable_54 : decode cX5_variable 54 = .ok (.invokevirtual 65, 3) := by decide +kernel
theorem dX5_variable_57 : decode cX5_variable 57 = .ok (.istore 4, 2) := by decide +kernel
theorem dX5_variable_59 : decode cX5_variable 59 = .ok (.aload_n 0, 1) := by decide +kernel
theorem dX5_variable_60 : decode cX5_variable 60 = .ok (.getfield 7, 3) := by decide +kernel
theorem dX5_variable_63 : decode cX5_variable 63 = .ok (.bipush 8, 2) := by decide +kernel
theorem dX5_variable_65 : decode cX5_variable 65 = .ok (.iload_n 1, 1) := by decide +kernel
theorem dX5_variable_66 : decode cX5_variable 66 = .ok (.imul, 1) := by decide +kernel
theorem dX5_variable_67 : decode cX5_variable 67 = .ok (.iconst 4, 1) := by decide +kernel
theorem dX5_variable_68 : decode cX5_variable 68 = .ok (.iadd, 1) := by decide +kernel
theorem dX5_variable_69 : decode cX5_variable 69 = .ok (.iload_n 2, 1) := by decide +kernel
theorem dX5_variable_70 : decode cX5_variable 70 = .ok (.iadd, 1) := by decide +kernel
theorem dX5_variable_71 : decode cX5_variable 71 = .ok (.iload_n 3, 1) := by decide +kernel
theorem dX5_variable_72 : decode cX5_variable 72 = .ok (.iastore, 1) := by decide +kernel
theorem dX5_variable_73 : decode cX5_variable 73 = .ok (.iload 4, 2) := by decide +kernel
theorem dX5_variable_75 : decode cX5_variable 75 = .ok (.ireturn, 1) := by decide +kernel
theorem dX5_limit_0 : decode cX5_limit 0 = .ok (.iload_n 1, 1) := by decide +kernel
theorem dX5_limit_1 : decode cX5_limit 1 = .ok (.iconst 4, 1) := by decide +kernel
theorem dX5_limit_2 : decode cX5_limit 2 = .ok (.if_icmp .ge 8, 3) := by decide +kernel
theorem dX5_limit_5 : decode cX5_limit 5 = .ok (.bipush 9, 2) := by decide +kernel
theorem dX5_limit_7 : decode cX5_limit 7 = .ok (.goto 13, 3) := by decide +kernel
theorem dX5_limit_10 : decode cX5_limit 10 = .ok (.iload_n 0, 1) := by decide +kernel
theorem dX5_limit_11 : decode cX5_limit 11 = .ok (.iconst 2, 1) := by decide +kernel
theorem dX5_limit_12 : decode cX5_limit 12 = .ok (.if_icmp .ne 7, 3) := by decide +kernel
theorem dX5_limit_15 : decode cX5_limit 15 = .ok (.iconst 0, 1) := by decide +kernel
theorem dX5_limit_16 : decode cX5_limit 16 = .ok (.goto 4, 3) := by decide +kernel
theorem dX5_limit_19 : decode cX5_limit 19 = .ok (.iconst 5, 1) := by decide +kernel
theorem dX5_limit_20 : decode cX5_limit 20 = .ok (.ireturn, 1) := by decide +kernel
theorem dX5_canMultiply_0 : decode cX5_canMultiply 0 = .ok (.iconst 1, 1) := by decide +kernel
theorem dX5_canMultiply_1 : decode cX5_canMultiply 1 = .ok (.istore_n 3, 1) := by decide +kernel
theorem dX5_canMultiply_2 : decode cX5_canMultiply 2 = .ok (.iconst 0, 1) := by decide +kernel
theorem dX5_canMultiply_3 : decode cX5_canMultiply 3 = .ok (.istore 4, 2) := by decide +kernel
theorem dX5_canMultiply_5 : decode cX5_canMultiply 5 = .ok (.iload 4, 2) := by decide +kernel
theorem dX5_canMultiply_7 : decode cX5_canMultiply 7 = .ok (.bipush 8, 2) := by decide +kernel
theorem dX5_canMultiply_9 : decode cX5_canMultiply 9 = .ok (.if_icmp .ge 43, 3) := by decide +kernel
theorem dX5_canMultiply_12 : decode cX5_canMultiply 12 = .ok (.iload_n 3, 1) := by decide +kernel
theorem dX5_canMultiply_13 : decode cX5_canMultiply 13 = .ok (.ifCond .eq 31, 3) := by decide +kernel
theorem dX5_canMultiply_16 : decode cX5_canMultiply 16 = .ok (.aload_n 0, 1) := by decide +kernel
theorem dX5_canMultiply_17 : decode cX5_canMultiply 17 = .ok (.iload_n 1, 1) := by decide +kernel
theorem dX5_canMultiply_18 : decode cX5_canMultiply 18 = .ok (.iload 4, 2) := by decide +kernel
theorem dX5_canMultiply_20 : decode cX5_canMultiply 20 = .ok (.invokevirtual 57, 3) := by decide +kernel
theorem dX5_canMultiply_23 : decode cX5_canMultiply 23 = .ok (.aload_n 0, 1) := by decide +kernel
theorem dX5_canMultiply_24 : decode cX5_canMultiply 24 = .ok (.iload_n 2, 1) := by decide +kernel
theorem dX5_canMultiply_25 : decode cX5_canMultiply 25 = .ok (.iload 4, 2) := by decide +kernel
theorem dX5_canMultiply_27 : decode cX5_canMultiply 27 = .ok (.invokevirtual 57, 3) := by decide +kernel
theorem dX5_canMultiply_30 : decode cX5_canMultiply 30 = .ok (.iadd, 1) := by decide +kernel
theorem dX5_canMultiply_31 : decode cX5_canMultiply 31 = .ok (.iload_n 1, 1) := by decide +kernel
theorem dX5_canMultiply_32 : decode cX5_canMultiply 32 = .ok (.iload 4, 2) := by decide +kernel
theorem dX5_canMultiply_34 : decode cX5_canMultiply 34 = .ok (.invokestatic 145, 3) := by decide +kernel
theorem dX5_canMultiply_37 : decode cX5_canMultiply 37 = .ok (.if_icmp .gt 7, 3) := by decide +kernel
theorem dX5_canMultiply_40 : decode cX5_canMultiply 40 = .ok (.iconst 1, 1) := by decide +kernel
theorem dX5_canMultiply_41 : decode cX5_canMultiply 41 = .ok (.goto 4, 3) := by decide +kernel
theorem dX5_canMultiply_44 : decode cX5_canMultiply 44 = .ok (.iconst 0, 1) := by decide +kernel
theorem dX5_canMultiply_45 : decode cX5_canMultiply 45 = .ok (.istore_n 3, 1) := by decide +kernel
theorem dX5_canMultiply_46 : decode cX5_canMultiply 46 = .ok (.iinc 4 1, 3) := by decide +kernel
theorem dX5_canMultiply_49 : decode cX5_canMultiply 49 = .ok (.goto (-44), 3) := by decide +kernel
theorem dX5_canMultiply_52 : decode cX5_canMultiply 52 = .ok (.iload_n 3, 1) := by decide +kernel
theorem dX5_canMultiply_53 : decode cX5_canMultiply 53 = .ok (.ireturn, 1) := by decide +kernel
theorem dX5_multiply_0 : decode cX5_multiply 0 = .ok (.aload_n 0, 1) := by decide +kernel
theorem dX5_multiply_1 : decode cX5_multiply 1 = .ok (.iload_n 1, 1) := by decide +kernel
theorem dX5_multiply_2 : decode cX5_multiply 2 = .ok (.invokestatic 133, 3) := by decide +kernel
theorem dX5_multiply_5 : decode cX5_multiply 5 = .ok (.ifCond .eq 10, 3) := by decide +kernel
theorem dX5_multiply_8 : decode cX5_multiply 8 = .ok (.iload_n 2, 1) := by decide +kernel
theorem dX5_multiply_9 : decode cX5_multiply 9 = .ok (.invokestatic 133, 3) := by decide +kernel
theorem dX5_multiply_12 : decode cX5_multiply 12 = .ok (.ifCond .ne 7, 3) := by decide +kernel
theorem dX5_multiply_15 : decode cX5_multiply 15 = .ok (.iconst 1, 1) := by decide +kernel
theorem dX5_multiply_16 : decode cX5_multiply 16 = .ok (.goto 17, 3) := by decide +kernel
theorem dX5_multiply_19 : decode cX5_multiply 19 = .ok (.aload_n 0, 1) := by decide +kernel
theorem dX5_multiply_20 : decode cX5_multiply 20 = .ok (.iload_n 1, 1) := by decide +kernel
theorem dX5_multiply_21 : decode cX5_multiply 21 = .ok (.iload_n 2, 1) := by decide +kernel
theorem dX5_multiply_22 : decode cX5_multiply 22 = .ok (.invokevirtual 148, 3) := by decide +kernel
theorem dX5_multiply_25 : decode cX5_multiply 25 = .ok (.ifCond .eq 7, 3) := by decide +kernel
theorem dX5_multiply_28 : decode cX5_multiply 28 = .ok (.iconst 0, 1) := by decide +kernel
theorem dX5_multiply_29 : decode cX5_multiply 29 = .ok (.goto 4, 3) := by decide +kernel
theorem dX5_multiply_32 : decode cX5_multiply 32 = .ok (.iconst 2, 1) := by decide +kernel
theorem dX5_multiply_33 : decode cX5_multiply 33 = .ok (.putfield 50, 3) := by decide +kernel
theorem dX5_multiply_36 : decode cX5_multiply 36 = .ok (.aload_n 0, 1) := by decide +kernel
theorem dX5_multiply_37 : decode cX5_multiply 37 = .ok (.getfield 50, 3) := by decide +kernel
theorem dX5_multiply_40 : decode cX5_multiply 40 = .ok (.ifCond .le 5, 3) := by decide +kernel
theorem dX5_multiply_43 : decode cX5_multiply 43 = .ok (.iconst 0, 1) := by decide +kernel
theorem dX5_multiply_44 : decode cX5_multiply 44 = .ok (.ireturn, 1) := by decide +kernel
theorem dX5_multiply_45 : decode cX5_multiply 45 = .ok (.aload_n 0, 1) := by decide +kernel
theorem dX5_multiply_46 : decode cX5_multiply 46 = .ok (.invokevirtual 139, 3) := by decide +kernel
theorem dX5_multiply_49 : decode cX5_multiply 49 = .ok (.iconst 0, 1) := by decide +kernel
theorem dX5_multiply_50 : decode cX5_multiply 50 = .ok (.istore_n 3, 1) := by decide +kernel
theorem dX5_multiply_51 : decode cX5_multiply 51 = .ok (.iload_n 3, 1) := by decide +kernel
theorem dX5_multiply_52 : decode cX5_multiply 52 = .ok (.bipush 8, 2) := by decide +kernel
theorem dX5_multiply_54 : decode cX5_multiply 54 = .ok (.if_icmp .ge 29, 3) := by decide +kernel
theorem dX5_multiply_57 : decode cX5_multiply 57 = .ok (.aload_n 0, 1) := by decide +kernel
theorem dX5_multiply_58 : decode cX5_multiply 58 = .ok (.getfield 7, 3) := by decide +kernel
theorem dX5_multiply_61 : decode cX5_multiply 61 = .ok (.bipush 8, 2) := by decide +kernel
theorem dX5_multiply_63 : decode cX5_multiply 63 = .ok (.iload_n 1, 1) := by decide +kernel
theorem dX5_multiply_64 : decode cX5_multiply 64 = .ok (.imul, 1) := by decide +kernel
theorem dX5_multiply_65 : decode cX5_multiply 65 = .ok (.iload_n 3, 1) := by decide +kernel
theorem dX5_multiply_66 : decode cX5_multiply 66 = .ok (.iadd, 1) := by decide +kernel
theorem dX5_multiply_67 : decode cX5_multiply 67 = .ok (.dup2, 1) := by decide +kernel
theorem dX5_multiply_68 : decode cX5_multiply 68 = .ok (.iaload, 1) := by decide +kernel
theorem dX5_multiply_69 : decode cX5_multiply 69 = .ok (.aload_n 0, 1) := by decide +kernel
theorem dX5_multiply_70 : decode cX5_multiply 70 = .ok (.iload_n 2, 1) := by decide +kernel
theorem dX5_multiply_71 : decode cX5_multiply 71 = .ok (.iload_n 3, 1) := by decide +kernel
theorem dX5_multiply_72 : decode cX5_multiply 72 = .ok (.invokevirtual 57, 3) := by decide +kernel
theorem dX5_multiply_75 : decode cX5_multiply 75 = .ok (.iadd, 1) := by decide +kernel
theorem dX5_multiply_76 : decode cX5_multiply 76 = .ok (.iastore, 1) := by decide +kernel
theorem dX5_multiply_77 : decode cX5_multiply 77 = .ok (.iinc 3 1, 3) := by decide +kernel
theorem dX5_multiply_80 : decode cX5_multiply 80 = .ok (.goto (-29), 3) := by decide +kernel
theorem dX5_multiply_83 : decode cX5_multiply 83 = .ok (.aload_n 0, 1) := by decide +kernel
theorem dX5_multiply_84 : decode cX5_multiply 84 = .ok (.iload_n 1, 1) := by decide +kernel
theorem dX5_multiply_85 : decode cX5_multiply 85 = .ok (.invokevirtual 151, 3) := by decide +kernel
theorem dX5_multiply_88 : decode cX5_multiply 88 = .ok (.ireturn, 1) := by decide +kernel
theorem dX5_rewrite_0 : decode cX5_rewrite 0 = .ok (.aload_n 0, 1) := by decide +kernel
theorem dX5_rewrite_1 : decode cX5_rewrite 1 = .ok (.aload_n 0, 1) := by decide +kernel
theorem dX5_rewrite_2 : decode cX5_rewrite 2 = .ok (.iload_n 1, 1) := by decide +kernel
theorem dX5_rewrite_3 : decode cX5_rewrite 3 = .ok (.invokevirtual 154, 3) := by decide +kernel
theorem dX5_rewrite_6 : decode cX5_rewrite 6 = .ok (.ifCond .eq 7, 3) := by decide +kernel
theorem dX5_rewrite_9 : decode cX5_rewrite 9 = .ok (.iconst 0, 1) := by decide +kernel
theorem dX5_rewrite_10 : decode cX5_rewrite 10 = .ok (.goto 4, 3) := by decide +kernel
theorem dX5_rewrite_13 : decode cX5_rewrite 13 = .ok (.iconst 1, 1) := by decide +kernel
theorem dX5_rewrite_14 : decode cX5_rewrite 14 = .ok (.putfield 50, 3) := by decide +kernel
theorem dX5_rewrite_17 : decode cX5_rewrite 17 = .ok (.aload_n 0, 1) := by decide +kernel
theorem dX5_rewrite_18 : decode cX5_rewrite 18 = .ok (.getfield 50, 3) := by decide +kernel
theorem dX5_rewrite_21 : decode cX5_rewrite 21 = .ok (.ifCond .ne 31, 3) := by decide +kernel
theorem dX5_rewrite_24 : decode cX5_rewrite 24 = .ok (.aload_n 0, 1) := by decide +kernel
theorem dX5_rewrite_25 : decode cX5_rewrite 25 = .ok (.iload_n 1, 1) := by decide +kernel
theorem dX5_rewrite_26 : decode cX5_rewrite 26 = .ok (.invokevirtual 157, 3) := by decide +kernel
theorem dX5_rewrite_29 : decode cX5_rewrite 29 = .ok (.aload_n 0, 1) := by decide +kernel
theorem dX5_rewrite_30 : decode cX5_rewrite 30 = .ok (.aload_n 0, 1) := by decide +kernel
theorem dX5_rewrite_31 : decode cX5_rewrite 31 = .ok (.invokevirtual 161, 3) := by decide +kernel
theorem dX5_rewrite_34 : decode cX5_rewrite 34 = .ok (.ifCond .ne 10, 3) := by decide +kernel
theorem dX5_rewrite_37 : decode cX5_rewrite 37 = .ok (.aload_n 0, 1) := by decide +kernel
theorem dX5_rewrite_38 : decode cX5_rewrite 38 = .ok (.invokevirtual 165, 3) := by decide +kernel
theorem dX5_rewrite_41 : decode cX5_rewrite 41 = .ok (.ifCond .eq 7, 3) := by decide +kernel
theorem dX5_rewrite_44 : decode cX5_rewrite 44 = .ok (.iconst 2, 1) := by decide +kernel
theorem dX5_rewrite_45 : decode cX5_rewrite 45 = .ok (.goto 4, 3) := by decide +kernel
theorem dX5_rewrite_48 : decode cX5_rewrite 48 = .ok (.iconst 0, 1) := by decide +kernel
theorem dX5_rewrite_49 : decode cX5_rewrite 49 = .ok (.putfield 50, 3) := by decide +kernel
theorem dX5_rewrite_52 : decode cX5_rewrite 52 = .ok (.aload_n 0, 1) := by decide +kernel
theorem dX5_rewrite_53 : decode cX5_rewrite 53 = .ok (.getfield 50, 3) := by decide +kernel
theorem dX5_rewrite_56 : decode cX5_rewrite 56 = .ok (.ifCond .le 5, 3) := by decide +kernel
theorem dX5_rewrite_59 : decode cX5_rewrite 59 = .ok (.iconst 0, 1) := by decide +kernel
theorem dX5_rewrite_60 : decode cX5_rewrite 60 = .ok (.ireturn, 1) := by decide +kernel
theorem dX5_rewrite_61 : decode cX5_rewrite 61 = .ok (.aload_n 0, 1) := by decide +kernel
theorem dX5_rewrite_62 : decode cX5_rewrite 62 = .ok (.invokevirtual 139, 3) := by decide +kernel
theorem dX5_rewrite_65 : decode cX5_rewrite 65 = .ok (.iconst 0, 1) := by decide +kernel
theorem dX5_rewrite_66 : decode cX5_rewrite 66 = .ok (.istore_n 2, 1) := by decide +kernel
theorem dX5_rewrite_67 : decode cX5_rewrite 67 = .ok (.iload_n 2, 1) := by decide +kernel
theorem dX5_rewrite_68 : decode cX5_rewrite 68 = .ok (.iconst 4, 1) := by decide +kernel
theorem dX5_rewrite_69 : decode cX5_rewrite 69 = .ok (.if_icmp .ge 23, 3) := by decide +kernel
theorem dX5_rewrite_72 : decode cX5_rewrite 72 = .ok (.aload_n 0, 1) := by decide +kernel
theorem dX5_rewrite_73 : decode cX5_rewrite 73 = .ok (.getfield 7, 3) := by decide +kernel
theorem dX5_rewrite_76 : decode cX5_rewrite 76 = .ok (.bipush 16, 2) := by decide +kernel
theorem dX5_rewrite_78 : decode cX5_rewrite 78 = .ok (.iload_n 2, 1) := by decide +kernel
theorem dX5_rewrite_79 : decode cX5_rewrite 79 = .ok (.iadd, 1) := by decide +kernel
theorem dX5_rewrite_80 : decode cX5_rewrite 80 = .ok (.aload_n 0, 1) := by decide +kernel
theorem dX5_rewrite_81 : decode cX5_rewrite 81 = .ok (.iload_n 2, 1) := by decide +kernel
theorem dX5_rewrite_82 : decode cX5_rewrite 82 = .ok (.invokevirtual 107, 3) := by decide +kernel
theorem dX5_rewrite_85 : decode cX5_rewrite 85 = .ok (.iastore, 1) := by decide +kernel
theorem dX5_rewrite_86 : decode cX5_rewrite 86 = .ok (.iinc 2 1, 3) := by decide +kernel
theorem dX5_rewrite_89 : decode cX5_rewrite 89 = .ok (.goto (-22), 3) := by decide +kernel
theorem dX5_rewrite_92 : decode cX5_rewrite 92 = .ok (.aload_n 0, 1) := by decide +kernel
theorem dX5_rewrite_93 : decode cX5_rewrite 93 = .ok (.iconst 2, 1) := by decide +kernel
theorem dX5_rewrite_94 : decode cX5_rewrite 94 = .ok (.invokevirtual 151, 3) := by decide +kernel
theorem dX5_rewrite_97 : decode cX5_rewrite 97 = .ok (.ireturn, 1) := by decide +kernel
theorem dX5_cancel_0 : decode cX5_cancel 0 = .ok (.aload_n 0, 1) := by decide +kernel
theorem dX5_cancel_1 : decode cX5_cancel 1 = .ok (.iload_n 1, 1) := by decide +kernel
theorem dX5_cancel_2 : decode cX5_cancel 2 = .ok (.invokestatic 133, 3) := by decide +kernel
theorem dX5_cancel_5 : decode cX5_cancel 5 = .ok (.ifCond .eq 14, 3) := by decide +kernel
theorem dX5_cancel_8 : decode cX5_cancel 8 = .ok (.iload_n 2, 1) := by decide +kernel
theorem dX5_cancel_9 : decode cX5_cancel 9 = .ok (.invokestatic 133, 3) := by decide +kernel
theorem dX5_cancel_12 : decode cX5_cancel 12 = .ok (.ifCond .eq 7, 3) := by decide +kernel
theorem dX5_cancel_15 : decode cX5_cancel 15 = .ok (.iconst 0, 1) := by decide +kernel
theorem dX5_cancel_16 : decode cX5_cancel 16 = .ok (.goto 4, 3) := by decide +kernel
theorem dX5_cancel_19 : decode cX5_cancel 19 = .ok (.iconst 1, 1) := by decide +kernel
theorem dX5_cancel_20 : decode cX5_cancel 20 = .ok (.putfield 50, 3) := by decide +kernel
theorem dX5_cancel_23 : decode cX5_cancel 23 = .ok (.aload_n 0, 1) := by decide +kernel
theorem dX5_cancel_24 : decode cX5_cancel 24 = .ok (.getfield 50, 3) := by decide +kernel
theorem dX5_cancel_27 : decode cX5_cancel 27 = .ok (.ifCond .le 5, 3) := by decide +kernel
theorem dX5_cancel_30 : decode cX5_cancel 30 = .ok (.iconst 0, 1) := by decide +kernel
theorem dX5_cancel_31 : decode cX5_cancel 31 = .ok (.ireturn, 1) := by decide +kernel
theorem dX5_cancel_32 : decode cX5_cancel 32 = .ok (.aload_n 0, 1) := by decide +kernel
theorem dX5_cancel_33 : decode cX5_cancel 33 = .ok (.invokevirtual 139, 3) := by decide +kernel
theorem dX5_cancel_36 : decode cX5_cancel 36 = .ok (.iconst 0, 1) := by decide +kernel
theorem dX5_cancel_37 : decode cX5_cancel 37 = .ok (.istore_n 3, 1) := by decide +kernel
theorem dX5_cancel_38 : decode cX5_cancel 38 = .ok (.iconst 0, 1) := by decide +kernel
theorem dX5_cancel_39 : decode cX5_cancel 39 = .ok (.istore 4, 2) := by decide +kernel
theorem dX5_cancel_41 : decode cX5_cancel 41 = .ok (.iload 4, 2) := by decide +kernel
theorem dX5_cancel_43 : decode cX5_cancel 43 = .ok (.bipush 8, 2) := by decide +kernel
theorem dX5_cancel_45 : decode cX5_cancel 45 = .ok (.if_icmp .ge 93, 3) := by decide +kernel
theorem dX5_cancel_48 : decode cX5_cancel 48 = .ok (.aload_n 0, 1) := by decide +kernel
theorem dX5_cancel_49 : decode cX5_cancel 49 = .ok (.iload_n 1, 1) := by decide +kernel
theorem dX5_cancel_50 : decode cX5_cancel 50 = .ok (.iload 4, 2) := by decide +kernel
theorem dX5_cancel_52 : decode cX5_cancel 52 = .ok (.invokevirtual 57, 3) := by decide +kernel
theorem dX5_cancel_55 : decode cX5_cancel 55 = .ok (.aload_n 0, 1) := by decide +kernel
theorem dX5_cancel_56 : decode cX5_cancel 56 = .ok (.iload_n 2, 1) := by decide +kernel
theorem dX5_cancel_57 : decode cX5_cancel 57 = .ok (.iload 4, 2) := by decide +kernel
theorem dX5_cancel_59 : decode cX5_cancel 59 = .ok (.invokevirtual 57, 3) := by decide +kernel
theorem dX5_cancel_62 : decode cX5_cancel 62 = .ok (.if_icmp .ge 13, 3) := by decide +kernel
theorem dX5_cancel_65 : decode cX5_cancel 65 = .ok (.aload_n 0, 1) := by decide +kernel
theorem dX5_cancel_66 : decode cX5_cancel 66 = .ok (.iload_n 1, 1) := by decide +kernel
theorem dX5_cancel_67 : decode cX5_cancel 67 = .ok (.iload 4, 2) := by decide +kernel
theorem dX5_cancel_69 : decode cX5_cancel 69 = .ok (.invokevirtual 57, 3) := by decide +kernel
theorem dX5_cancel_72 : decode cX5_cancel 72 = .ok (.goto 10, 3) := by decide +kernel
theorem dX5_cancel_75 : decode cX5_cancel 75 = .ok (.aload_n 0, 1) := by decide +kernel
theorem dX5_cancel_76 : decode cX5_cancel 76 = .ok (.iload_n 2, 1) := by decide +kernel
theorem dX5_cancel_77 : decode cX5_cancel 77 = .ok (.iload 4, 2) := by decide +kernel
theorem dX5_cancel_79 : decode cX5_cancel 79 = .ok (.invokevirtual 57, 3) := by decide +kernel
theorem dX5_cancel_82 : decode cX5_cancel 82 = .ok (.istore 5, 2) := by decide +kernel
theorem dX5_cancel_84 : decode cX5_cancel 84 = .ok (.aload_n 0, 1) := by decide +kernel
theorem dX5_cancel_85 : decode cX5_cancel 85 = .ok (.getfield 7, 3) := by decide +kernel
theorem dX5_cancel_88 : decode cX5_cancel 88 = .ok (.bipush 8, 2) := by decide +kernel
theorem dX5_cancel_90 : decode cX5_cancel 90 = .ok (.iload_n 1, 1) := by decide +kernel
theorem dX5_cancel_91 : decode cX5_cancel 91 = .ok (.imul, 1) := by decide +kernel
theorem dX5_cancel_92 : decode cX5_cancel 92 = .ok (.iload 4, 2) := by decide +kernel
theorem dX5_cancel_94 : decode cX5_cancel 94 = .ok (.iadd, 1) := by decide +kernel
theorem dX5_cancel_95 : decode cX5_cancel 95 = .ok (.dup2, 1) := by decide +kernel
theorem dX5_cancel_96 : decode cX5_cancel 96 = .ok (.iaload, 1) := by decide +kernel
theorem dX5_cancel_97 : decode cX5_cancel 97 = .ok (.iload 5, 2) := by decide +kernel
theorem dX5_cancel_99 : decode cX5_cancel 99 = .ok (.isub, 1) := by decide +kernel
theorem dX5_cancel_100 : decode cX5_cancel 100 = .ok (.iastore, 1) := by decide +kernel
theorem dX5_cancel_101 : decode cX5_cancel 101 = .ok (.aload_n 0, 1) := by decide +kernel
theorem dX5_cancel_102 : decode cX5_cancel 102 = .ok (.getfield 7, 3) := by decide +kernel
theorem dX5_cancel_105 : decode cX5_cancel 105 = .ok (.bipush 8, 2) := by decide +kernel
theorem dX5_cancel_107 : decode cX5_cancel 107 = .ok (.iload_n 2, 1) := by decide +kernel
theorem dX5_cancel_108 : decode cX5_cancel 108 = .ok (.imul, 1) := by decide +kernel
theorem dX5_cancel_109 : decode cX5_cancel 109 = .ok (.iload 4, 2) := by decide +kernel
theorem dX5_cancel_111 : decode cX5_cancel 111 = .ok (.iadd, 1) := by decide +kernel
theorem dX5_cancel_112 : decode cX5_cancel 112 = .ok (.dup2, 1) := by decide +kernel
theorem dX5_cancel_113 : decode cX5_cancel 113 = .ok (.iaload, 1) := by decide +kernel
theorem dX5_cancel_114 : decode cX5_cancel 114 = .ok (.iload_n 1, 1) := by decide +kernel
theorem dX5_cancel_115 : decode cX5_cancel 115 = .ok (.iload_n 2, 1) := by decide +kernel
theorem dX5_cancel_116 : decode cX5_cancel 116 = .ok (.if_icmp .ne 7, 3) := by decide +kernel
theorem dX5_cancel_119 : decode cX5_cancel 119 = .ok (.iconst 0, 1) := by decide +kernel
theorem dX5_cancel_120 : decode cX5_cancel 120 = .ok (.goto 5, 3) := by decide +kernel
theorem dX5_cancel_123 : decode cX5_cancel 123 = .ok (.iload 5, 2) := by decide +kernel
theorem dX5_cancel_125 : decode cX5_cancel 125 = .ok (.isub, 1) := by decide +kernel
theorem dX5_cancel_126 : decode cX5_cancel 126 = .ok (.iastore, 1) := by decide +kernel
theorem dX5_cancel_127 : decode cX5_cancel 127 = .ok (.iload_n 3, 1) := by decide +kernel
theorem dX5_cancel_128 : decode cX5_cancel 128 = .ok (.iload 5, 2) := by decide +kernel
theorem dX5_cancel_130 : decode cX5_cancel 130 = .ok (.iadd, 1) := by decide +kernel
theorem dX5_cancel_131 : decode cX5_cancel 131 = .ok (.istore_n 3, 1) := by decide +kernel
theorem dX5_cancel_132 : decode cX5_cancel 132 = .ok (.iinc 4 1, 3) := by decide +kernel
theorem dX5_cancel_135 : decode cX5_cancel 135 = .ok (.goto (-94), 3) := by decide +kernel
theorem dX5_cancel_138 : decode cX5_cancel 138 = .ok (.iload_n 3, 1) := by decide +kernel
theorem dX5_cancel_139 : decode cX5_cancel 139 = .ok (.ireturn, 1) := by decide +kernel
theorem dX5_set_0 : decode cX5_set 0 = .ok (.aload_n 0, 1) := by decide +kernel
theorem dX5_set_1 : decode cX5_set 1 = .ok (.iload_n 1, 1) := by decide +kernel
theorem dX5_set_2 : decode cX5_set 2 = .ok (.iconst 0, 1) := by decide +kernel
theorem dX5_set_3 : decode cX5_set 3 = .ok (.iconst 1, 1) := by decide +kernel
theorem dX5_set_4 : decode cX5_set 4 = .ok (.invokestatic 61, 3) := by decide +kernel
theorem dX5_set_7 : decode cX5_set 7 = .ok (.ifCond .ne 7, 3) := by decide +kernel
theorem dX5_set_10 : decode cX5_set 10 = .ok (.iconst 1, 1) := by decide +kernel
theorem dX5_set_11 : decode cX5_set 11 = .ok (.goto 26, 3) := by decide +kernel
theorem dX5_set_14 : decode cX5_set 14 = .ok (.iload_n 2, 1) := by decide +kernel
theorem dX5_set_15 : decode cX5_set 15 = .ok (.iconst 0, 1) := by decide +kernel
theorem dX5_set_16 : decode cX5_set 16 = .ok (.iload_n 1, 1) := by decide +kernel
theorem dX5_set_17 : decode cX5_set 17 = .ok (.ifCond .ne 7, 3) := by decide +kernel
theorem dX5_set_20 : decode cX5_set 20 = .ok (.iconst 1, 1) := by decide +kernel
theorem dX5_set_21 : decode cX5_set 21 = .ok (.goto 5, 3) := by decide +kernel
theorem dX5_set_24 : decode cX5_set 24 = .ok (.bipush 9, 2) := by decide +kernel
theorem dX5_set_26 : decode cX5_set 26 = .ok (.invokestatic 61, 3) := by decide +kernel
theorem dX5_set_29 : decode cX5_set 29 = .ok (.ifCond .eq 7, 3) := by decide +kernel
theorem dX5_set_32 : decode cX5_set 32 = .ok (.iconst 0, 1) := by decide +kernel
theorem dX5_set_33 : decode cX5_set 33 = .ok (.goto 4, 3) := by decide +kernel
theorem dX5_set_36 : decode cX5_set 36 = .ok (.iconst 2, 1) := by decide +kernel
theorem dX5_set_37 : decode cX5_set 37 = .ok (.putfield 50, 3) := by decide +kernel
theorem dX5_set_40 : decode cX5_set 40 = .ok (.aload_n 0, 1) := by decide +kernel
theorem dX5_set_41 : decode cX5_set 41 = .ok (.getfield 50, 3) := by decide +kernel
theorem dX5_set_44 : decode cX5_set 44 = .ok (.ifCond .le 5, 3) := by decide +kernel
theorem dX5_set_47 : decode cX5_set 47 = .ok (.iconst 0, 1) := by decide +kernel
theorem dX5_set_48 : decode cX5_set 48 = .ok (.ireturn, 1) := by decide +kernel
theorem dX5_set_49 : decode cX5_set 49 = .ok (.aload_n 0, 1) := by decide +kernel
theorem dX5_set_50 : decode cX5_set 50 = .ok (.invokevirtual 139, 3) := by decide +kernel
theorem dX5_set_53 : decode cX5_set 53 = .ok (.aload_n 0, 1) := by decide +kernel
theorem dX5_set_54 : decode cX5_set 54 = .ok (.getfield 7, 3) := by decide +kernel
theorem dX5_set_57 : decode cX5_set 57 = .ok (.bipush 24, 2) := by decide +kernel
theorem dX5_set_59 : decode cX5_set 59 = .ok (.iload_n 1, 1) := by decide +kernel
theorem dX5_set_60 : decode cX5_set 60 = .ok (.iadd, 1) := by decide +kernel
theorem dX5_set_61 : decode cX5_set 61 = .ok (.iaload, 1) := by decide +kernel
theorem dX5_set_62 : decode cX5_set 62 = .ok (.istore_n 3, 1) := by decide +kernel
theorem dX5_set_63 : decode cX5_set 63 = .ok (.aload_n 0, 1) := by decide +kernel
theorem dX5_set_64 : decode cX5_set 64 = .ok (.getfield 7, 3) := by decide +kernel
theorem dX5_set_67 : decode cX5_set 67 = .ok (.bipush 24, 2) := by decide +kernel
theorem dX5_set_69 : decode cX5_set 69 = .ok (.iload_n 1, 1) := by decide +kernel
theorem dX5_set_70 : decode cX5_set 70 = .ok (.iadd, 1) := by decide +kernel
theorem dX5_set_71 : decode cX5_set 71 = .ok (.iload_n 2, 1) := by decide +kernel
theorem dX5_set_72 : decode cX5_set 72 = .ok (.iastore, 1) := by decide +kernel
theorem dX5_set_73 : decode cX5_set 73 = .ok (.iload_n 3, 1) := by decide +kernel
theorem dX5_set_74 : decode cX5_set 74 = .ok (.ireturn, 1) := by decide +kernel
theorem dX5_append_0 : decode cX5_append 0 = .ok (.aload_n 0, 1) := by decide +kernel
theorem dX5_append_1 : decode cX5_append 1 = .ok (.iload_n 1, 1) := by decide +kernel
theorem dX5_append_2 : decode cX5_append 2 = .ok (.bipush 33, 2) := by decide +kernel
theorem dX5_append_4 : decode cX5_append 4 = .ok (.bipush 126, 2) := by decide +kernel
theorem dX5_append_6 : decode cX5_append 6 = .ok (.invokestatic 61, 3) := by decide +kernel
theorem dX5_append_9 : decode cX5_append 9 = .ok (.ifCond .ne 7, 3) := by decide +kernel
theorem dX5_append_12 : decode cX5_append 12 = .ok (.iconst 1, 1) := by decide +kernel
theorem dX5_append_13 : decode cX5_append 13 = .ok (.goto 17, 3) := by decide +kernel
theorem dX5_append_16 : decode cX5_append 16 = .ok (.aload_n 0, 1) := by decide +kernel
theorem dX5_append_17 : decode cX5_append 17 = .ok (.getfield 168, 3) := by decide +kernel
theorem dX5_append_20 : decode cX5_append 20 = .ok (.bipush 60, 2) := by decide +kernel
theorem dX5_append_22 : decode cX5_append 22 = .ok (.if_icmp .ne 7, 3) := by decide +kernel
theorem dX5_append_25 : decode cX5_append 25 = .ok (.iconst 2, 1) := by decide +kernel
theorem dX5_append_26 : decode cX5_append 26 = .ok (.goto 4, 3) := by decide +kernel
theorem dX5_append_29 : decode cX5_append 29 = .ok (.iconst 0, 1) := by decide +kernel
theorem dX5_append_30 : decode cX5_append 30 = .ok (.putfield 50, 3) := by decide +kernel
theorem dX5_append_33 : decode cX5_append 33 = .ok (.aload_n 0, 1) := by decide +kernel
theorem dX5_append_34 : decode cX5_append 34 = .ok (.getfield 50, 3) := by decide +kernel
theorem dX5_append_37 : decode cX5_append 37 = .ok (.ifCond .le 5, 3) := by decide +kernel
theorem dX5_append_40 : decode cX5_append 40 = .ok (.iconst 0, 1) := by decide +kernel
theorem dX5_append_41 : decode cX5_append 41 = .ok (.ireturn, 1) := by decide +kernel
theorem dX5_append_42 : decode cX5_append 42 = .ok (.aload_n 0, 1) := by decide +kernel
theorem dX5_append_43 : decode cX5_append 43 = .ok (.getfield 22, 3) := by decide +kernel
theorem dX5_append_46 : decode cX5_append 46 = .ok (.aload_n 0, 1) := by decide +kernel
theorem dX5_append_47 : decode cX5_append 47 = .ok (.getfield 168, 3) := by decide +kernel
theorem dX5_append_50 : decode cX5_append 50 = .ok (.iload_n 1, 1) := by decide +kernel
theorem dX5_append_51 : decode cX5_append 51 = .ok (.iastore, 1) := by decide +kernel
theorem dX5_append_52 : decode cX5_append 52 = .ok (.aload_n 0, 1) := by decide +kernel
theorem dX5_append_53 : decode cX5_append 53 = .ok (.dup, 1) := by decide +kernel
theorem dX5_append_54 : decode cX5_append 54 = .ok (.getfield 168, 3) := by decide +kernel
theorem dX5_append_57 : decode cX5_append 57 = .ok (.iconst 1, 1) := by decide +kernel
theorem dX5_append_58 : decode cX5_append 58 = .ok (.iadd, 1) := by decide +kernel
theorem dX5_append_59 : decode cX5_append 59 = .ok (.putfield 168, 3) := by decide +kernel
theorem dX5_append_62 : decode cX5_append 62 = .ok (.aload_n 0, 1) := by decide +kernel
theorem dX5_append_63 : decode cX5_append 63 = .ok (.getfield 168, 3) := by decide +kernel
theorem dX5_append_66 : decode cX5_append 66 = .ok (.ireturn, 1) := by decide +kernel
theorem dX5_clearBuffer_0 : decode cX5_clearBuffer 0 = .ok (.aload_n 0, 1) := by decide +kernel
theorem dX5_clearBuffer_1 : decode cX5_clearBuffer 1 = .ok (.iconst 0, 1) := by decide +kernel
theorem dX5_clearBuffer_2 : decode cX5_clearBuffer 2 = .ok (.putfield 50, 3) := by decide +kernel
theorem dX5_clearBuffer_5 : decode cX5_clearBuffer 5 = .ok (.aload_n 0, 1) := by decide +kernel
theorem dX5_clearBuffer_6 : decode cX5_clearBuffer 6 = .ok (.getfield 168, 3) := by decide +kernel
theorem dX5_clearBuffer_9 : decode cX5_clearBuffer 9 = .ok (.istore_n 1, 1) := by decide +kernel
theorem dX5_clearBuffer_10 : decode cX5_clearBuffer 10 = .ok (.aload_n 0, 1) := by decide +kernel
theorem dX5_clearBuffer_11 : decode cX5_clearBuffer 11 = .ok (.iconst 0, 1) := by decide +kernel
theorem dX5_clearBuffer_12 : decode cX5_clearBuffer 12 = .ok (.putfield 168, 3) := by decide +kernel
theorem dX5_clearBuffer_15 : decode cX5_clearBuffer 15 = .ok (.iload_n 1, 1) := by decide +kernel
theorem dX5_clearBuffer_16 : decode cX5_clearBuffer 16 = .ok (.ireturn, 1) := by decide +kernel
theorem dX5_factorFor_0 : decode cX5_factorFor 0 = .ok (.iload_n 0, 1) := by decide +kernel
theorem dX5_factorFor_1 : decode cX5_factorFor 1 = .ok (.bipush 97, 2) := by decide +kernel
theorem dX5_factorFor_3 : decode cX5_factorFor 3 = .ok (.bipush 100, 2) := by decide +kernel
theorem dX5_factorFor_5 : decode cX5_factorFor 5 = .ok (.invokestatic 61, 3) := by decide +kernel
theorem dX5_factorFor_8 : decode cX5_factorFor 8 = .ok (.ifCond .eq 10, 3) := by decide +kernel
theorem dX5_factorFor_11 : decode cX5_factorFor 11 = .ok (.iload_n 0, 1) := by decide +kernel
theorem dX5_factorFor_12 : decode cX5_factorFor 12 = .ok (.bipush 97, 2) := by decide +kernel
theorem dX5_factorFor_14 : decode cX5_factorFor 14 = .ok (.isub, 1) := by decide +kernel
theorem dX5_factorFor_15 : decode cX5_factorFor 15 = .ok (.goto 24, 3) := by decide +kernel
theorem dX5_factorFor_18 : decode cX5_factorFor 18 = .ok (.iload_n 0, 1) := by decide +kernel
theorem dX5_factorFor_19 : decode cX5_factorFor 19 = .ok (.bipush 119, 2) := by decide +kernel
theorem dX5_factorFor_21 : decode cX5_factorFor 21 = .ok (.bipush 122, 2) := by decide +kernel
theorem dX5_factorFor_23 : decode cX5_factorFor 23 = .ok (.invokestatic 61, 3) := by decide +kernel
theorem dX5_factorFor_26 : decode cX5_factorFor 26 = .ok (.ifCond .eq 12, 3) := by decide +kernel
theorem dX5_factorFor_29 : decode cX5_factorFor 29 = .ok (.iload_n 0, 1) := by decide +kernel
theorem dX5_factorFor_30 : decode cX5_factorFor 30 = .ok (.bipush 119, 2) := by decide +kernel
theorem dX5_factorFor_32 : decode cX5_factorFor 32 = .ok (.isub, 1) := by decide +kernel
theorem dX5_factorFor_33 : decode cX5_factorFor 33 = .ok (.iconst 4, 1) := by decide +kernel
theorem dX5_factorFor_34 : decode cX5_factorFor 34 = .ok (.iadd, 1) := by decide +kernel
theorem dX5_factorFor_35 : decode cX5_factorFor 35 = .ok (.goto 4, 3) := by decide +kernel
theorem dX5_factorFor_38 : decode cX5_factorFor 38 = .ok (.iconst (-1), 1) := by decide +kernel
theorem dX5_factorFor_39 : decode cX5_factorFor 39 = .ok (.ireturn, 1) := by decide +kernel
theorem dX5_takes_0 : decode cX5_takes 0 = .ok (.iload_n 1, 1) := by decide +kernel
theorem dX5_takes_1 : decode cX5_takes 1 = .ok (.invokestatic 171, 3) := by decide +kernel
theorem dX5_takes_4 : decode cX5_takes 4 = .ok (.istore_n 2, 1) := by decide +kernel
theorem dX5_takes_5 : decode cX5_takes 5 = .ok (.iload_n 2, 1) := by decide +kernel
theorem dX5_takes_6 : decode cX5_takes 6 = .ok (.iconst (-1), 1) := by decide +kernel
theorem dX5_takes_7 : decode cX5_takes 7 = .ok (.if_icmp .eq 20, 3) := by decide +kernel
theorem dX5_takes_10 : decode cX5_takes 10 = .ok (.aload_n 0, 1) := by decide +kernel
theorem dX5_takes_11 : decode cX5_takes 11 = .ok (.getfield 47, 3) := by decide +kernel
theorem dX5_takes_14 : decode cX5_takes 14 = .ok (.iload_n 2, 1) := by decide +kernel
theorem dX5_takes_15 : decode cX5_takes 15 = .ok (.dup2, 1) := by decide +kernel
theorem dX5_takes_16 : decode cX5_takes 16 = .ok (.iaload, 1) := by decide +kernel
theorem dX5_takes_17 : decode cX5_takes 17 = .ok (.iconst 1, 1) := by decide +kernel
theorem dX5_takes_18 : decode cX5_takes 18 = .ok (.iadd, 1) := by decide +kernel
theorem dX5_takes_19 : decode cX5_takes 19 = .ok (.iastore, 1) := by decide +kernel
theorem dX5_takes_20 : decode cX5_takes 20 = .ok (.aload_n 0, 1) := by decide +kernel
theorem dX5_takes_21 : decode cX5_takes 21 = .ok (.iload_n 2, 1) := by decide +kernel
theorem dX5_takes_22 : decode cX5_takes 22 = .ok (.putfield 174, 3) := by decide +kernel
theorem dX5_takes_25 : decode cX5_takes 25 = .ok (.iconst 1, 1) := by decide +kernel
theorem dX5_takes_26 : decode cX5_takes 26 = .ok (.ireturn, 1) := by decide +kernel
theorem dX5_takes_27 : decode cX5_takes 27 = .ok (.aload_n 0, 1) := by decide +kernel
theorem dX5_takes_28 : decode cX5_takes 28 = .ok (.getfield 174, 3) := by decide +kernel
theorem dX5_takes_31 : decode cX5_takes 31 = .ok (.iconst (-1), 1) := by decide +kernel
theorem dX5_takes_32 : decode cX5_takes 32 = .ok (.if_icmp .eq 18, 3) := by decide +kernel
theorem dX5_takes_35 : decode cX5_takes 35 = .ok (.iload_n 1, 1) := by decide +kernel
theorem dX5_takes_36 : decode cX5_takes 36 = .ok (.bipush 50, 2) := by decide +kernel
theorem dX5_takes_38 : decode cX5_takes 38 = .ok (.bipush 57, 2) := by decide +kernel
theorem dX5_takes_40 : decode cX5_takes 40 = .ok (.invokestatic 61, 3) := by decide +kernel
theorem dX5_takes_43 : decode cX5_takes 43 = .ok (.ifCond .eq 7, 3) := by decide +kernel
theorem dX5_takes_46 : decode cX5_takes 46 = .ok (.iconst 1, 1) := by decide +kernel
theorem dX5_takes_47 : decode cX5_takes 47 = .ok (.goto 4, 3) := by decide +kernel
theorem dX5_takes_50 : decode cX5_takes 50 = .ok (.iconst 0, 1) := by decide +kernel
theorem dX5_takes_51 : decode cX5_takes 51 = .ok (.istore_n 3, 1) := by decide +kernel
theorem dX5_takes_52 : decode cX5_takes 52 = .ok (.iload_n 3, 1) := by decide +kernel
theorem dX5_takes_53 : decode cX5_takes 53 = .ok (.ifCond .eq 19, 3) := by decide +kernel
theorem dX5_takes_56 : decode cX5_takes 56 = .ok (.aload_n 0, 1) := by decide +kernel
theorem dX5_takes_57 : decode cX5_takes 57 = .ok (.getfield 47, 3) := by decide +kernel
theorem dX5_takes_60 : decode cX5_takes 60 = .ok (.aload_n 0, 1) := by decide +kernel
theorem dX5_takes_61 : decode cX5_takes 61 = .ok (.getfield 174, 3) := by decide +kernel
theorem dX5_takes_64 : decode cX5_takes 64 = .ok (.dup2, 1) := by decide +kernel
theorem dX5_takes_65 : decode cX5_takes 65 = .ok (.iaload, 1) := by decide +kernel
theorem dX5_takes_66 : decode cX5_takes 66 = .ok (.iload_n 1, 1) := by decide +kernel
theorem dX5_takes_67 : decode cX5_takes 67 = .ok (.bipush 49, 2) := by decide +kernel
theorem dX5_takes_69 : decode cX5_takes 69 = .ok (.isub, 1) := by decide +kernel
theorem dX5_takes_70 : decode cX5_takes 70 = .ok (.iadd, 1) := by decide +kernel
theorem dX5_takes_71 : decode cX5_takes 71 = .ok (.iastore, 1) := by decide +kernel
theorem dX5_takes_72 : decode cX5_takes 72 = .ok (.aload_n 0, 1) := by decide +kernel
theorem dX5_takes_73 : decode cX5_takes 73 = .ok (.iconst (-1), 1) := by decide +kernel
theorem dX5_takes_74 : decode cX5_takes 74 = .ok (.putfield 174, 3) := by decide +kernel
theorem dX5_takes_77 : decode cX5_takes 77 = .ok (.iload_n 3, 1) := by decide +kernel
theorem dX5_takes_78 : decode cX5_takes 78 = .ok (.ireturn, 1) := by decide +kernel
theorem dX5_rightUpTo_0 : decode cX5_rightUpTo 0 = .ok (.iconst 0, 1) := by decide +kernel
theorem dX5_rightUpTo_1 : decode cX5_rightUpTo 1 = .ok (.istore_n 1, 1) := by decide +kernel
theorem dX5_rightUpTo_2 : decode cX5_rightUpTo 2 = .ok (.iload_n 1, 1) := by decide +kernel
theorem dX5_rightUpTo_3 : decode cX5_rightUpTo 3 = .ok (.bipush 8, 2) := by decide +kernel
theorem dX5_rightUpTo_5 : decode cX5_rightUpTo 5 = .ok (.if_icmp .ge 16, 3) := by decide +kernel
theorem dX5_rightUpTo_8 : decode cX5_rightUpTo 8 = .ok (.aload_n 0, 1) := by decide +kernel
theorem dX5_rightUpTo_9 : decode cX5_rightUpTo 9 = .ok (.getfield 47, 3) := by decide +kernel
theorem dX5_rightUpTo_12 : decode cX5_rightUpTo 12 = .ok (.iload_n 1, 1) := by decide +kernel
theorem dX5_rightUpTo_13 : decode cX5_rightUpTo 13 = .ok (.iconst 0, 1) := by decide +kernel
theorem dX5_rightUpTo_14 : decode cX5_rightUpTo 14 = .ok (.iastore, 1) := by decide +kernel
theorem dX5_rightUpTo_15 : decode cX5_rightUpTo 15 = .ok (.iinc 1 1, 3) := by decide +kernel
theorem dX5_rightUpTo_18 : decode cX5_rightUpTo 18 = .ok (.goto (-16), 3) := by decide +kernel
theorem dX5_rightUpTo_21 : decode cX5_rightUpTo 21 = .ok (.aload_n 0, 1) := by decide +kernel
theorem dX5_rightUpTo_22 : decode cX5_rightUpTo 22 = .ok (.iconst (-1), 1) := by decide +kernel
theorem dX5_rightUpTo_23 : decode cX5_rightUpTo 23 = .ok (.putfield 174, 3) := by decide +kernel
theorem dX5_rightUpTo_26 : decode cX5_rightUpTo 26 = .ok (.aload_n 0, 1) := by decide +kernel
theorem dX5_rightUpTo_27 : decode cX5_rightUpTo 27 = .ok (.getfield 168, 3) := by decide +kernel
theorem dX5_rightUpTo_30 : decode cX5_rightUpTo 30 = .ok (.ifCond .le 16, 3) := by decide +kernel
theorem dX5_rightUpTo_33 : decode cX5_rightUpTo 33 = .ok (.aload_n 0, 1) := by decide +kernel
theorem dX5_rightUpTo_34 : decode cX5_rightUpTo 34 = .ok (.getfield 22, 3) := by decide +kernel
theorem dX5_rightUpTo_37 : decode cX5_rightUpTo 37 = .ok (.iconst 0, 1) := by decide +kernel
theorem dX5_rightUpTo_38 : decode cX5_rightUpTo 38 = .ok (.iaload, 1) := by decide +kernel
theorem dX5_rightUpTo_39 : decode cX5_rightUpTo 39 = .ok (.bipush 49, 2) := by decide +kernel
theorem dX5_rightUpTo_41 : decode cX5_rightUpTo 41 = .ok (.if_icmp .ne 5, 3) := by decide +kernel
theorem dX5_rightUpTo_44 : decode cX5_rightUpTo 44 = .ok (.iconst 1, 1) := by decide +kernel
theorem dX5_rightUpTo_45 : decode cX5_rightUpTo 45 = .ok (.ireturn, 1) := by decide +kernel
theorem dX5_rightUpTo_46 : decode cX5_rightUpTo 46 = .ok (.iconst 0, 1) := by decide +kernel
theorem dX5_rightUpTo_47 : decode cX5_rightUpTo 47 = .ok (.istore_n 1, 1) := by decide +kernel
theorem dX5_rightUpTo_48 : decode cX5_rightUpTo 48 = .ok (.iload_n 1, 1) := by decide +kernel
theorem dX5_rightUpTo_49 : decode cX5_rightUpTo 49 = .ok (.aload_n 0, 1) := by decide +kernel
theorem dX5_rightUpTo_50 : decode cX5_rightUpTo 50 = .ok (.getfield 168, 3) := by decide +kernel
theorem dX5_rightUpTo_53 : decode cX5_rightUpTo 53 = .ok (.if_icmp .ge 22, 3) := by decide +kernel
theorem dX5_rightUpTo_56 : decode cX5_rightUpTo 56 = .ok (.aload_n 0, 1) := by decide +kernel
theorem dX5_rightUpTo_57 : decode cX5_rightUpTo 57 = .ok (.aload_n 0, 1) := by decide +kernel
theorem dX5_rightUpTo_58 : decode cX5_rightUpTo 58 = .ok (.getfield 22, 3) := by decide +kernel
theorem dX5_rightUpTo_61 : decode cX5_rightUpTo 61 = .ok (.iload_n 1, 1) := by decide +kernel
theorem dX5_rightUpTo_62 : decode cX5_rightUpTo 62 = .ok (.iaload, 1) := by decide +kernel
theorem dX5_rightUpTo_63 : decode cX5_rightUpTo 63 = .ok (.invokevirtual 177, 3) := by decide +kernel
theorem dX5_rightUpTo_66 : decode cX5_rightUpTo 66 = .ok (.ifCond .eq 9, 3) := by decide +kernel
theorem dX5_rightUpTo_69 : decode cX5_rightUpTo 69 = .ok (.iinc 1 1, 3) := by decide +kernel
theorem dX5_rightUpTo_72 : decode cX5_rightUpTo 72 = .ok (.goto (-24), 3) := by decide +kernel
theorem dX5_rightUpTo_75 : decode cX5_rightUpTo 75 = .ok (.iload_n 1, 1) := by decide +kernel
theorem dX5_rightUpTo_76 : decode cX5_rightUpTo 76 = .ok (.ireturn, 1) := by decide +kernel
theorem dX5_firstError_0 : decode cX5_firstError 0 = .ok (.aload_n 0, 1) := by decide +kernel
theorem dX5_firstError_1 : decode cX5_firstError 1 = .ok (.iconst 0, 1) := by decide +kernel
theorem dX5_firstError_2 : decode cX5_firstError 2 = .ok (.putfield 50, 3) := by decide +kernel
theorem dX5_firstError_5 : decode cX5_firstError 5 = .ok (.aload_n 0, 1) := by decide +kernel
theorem dX5_firstError_6 : decode cX5_firstError 6 = .ok (.invokevirtual 180, 3) := by decide +kernel
theorem dX5_firstError_9 : decode cX5_firstError 9 = .ok (.ireturn, 1) := by decide +kernel
theorem dX5_areWithin_0 : decode cX5_areWithin 0 = .ok (.iconst 1, 1) := by decide +kernel
theorem dX5_areWithin_1 : decode cX5_areWithin 1 = .ok (.istore_n 2, 1) := by decide +kernel
theorem dX5_areWithin_2 : decode cX5_areWithin 2 = .ok (.iconst 0, 1) := by decide +kernel
theorem dX5_areWithin_3 : decode cX5_areWithin 3 = .ok (.istore_n 3, 1) := by decide +kernel
theorem dX5_areWithin_4 : decode cX5_areWithin 4 = .ok (.iload_n 3, 1) := by decide +kernel
theorem dX5_areWithin_5 : decode cX5_areWithin 5 = .ok (.bipush 8, 2) := by decide +kernel
theorem dX5_areWithin_7 : decode cX5_areWithin 7 = .ok (.if_icmp .ge 33, 3) := by decide +kernel
theorem dX5_areWithin_10 : decode cX5_areWithin 10 = .ok (.iload_n 2, 1) := by decide +kernel
theorem dX5_areWithin_11 : decode cX5_areWithin 11 = .ok (.ifCond .eq 21, 3) := by decide +kernel
theorem dX5_areWithin_14 : decode cX5_areWithin 14 = .ok (.aload_n 0, 1) := by decide +kernel
theorem dX5_areWithin_15 : decode cX5_areWithin 15 = .ok (.getfield 47, 3) := by decide +kernel
theorem dX5_areWithin_18 : decode cX5_areWithin 18 = .ok (.iload_n 3, 1) := by decide +kernel
theorem dX5_areWithin_19 : decode cX5_areWithin 19 = .ok (.iaload, 1) := by decide +kernel
theorem dX5_areWithin_20 : decode cX5_areWithin 20 = .ok (.iload_n 1, 1) := by decide +kernel
theorem dX5_areWithin_21 : decode cX5_areWithin 21 = .ok (.iload_n 3, 1) := by decide +kernel
theorem dX5_areWithin_22 : decode cX5_areWithin 22 = .ok (.invokestatic 145, 3) := by decide +kernel
theorem dX5_areWithin_25 : decode cX5_areWithin 25 = .ok (.if_icmp .gt 7, 3) := by decide +kernel
theorem dX5_areWithin_28 : decode cX5_areWithin 28 = .ok (.iconst 1, 1) := by decide +kernel
theorem dX5_areWithin_29 : decode cX5_areWithin 29 = .ok (.goto 4, 3) := by decide +kernel
theorem dX5_areWithin_32 : decode cX5_areWithin 32 = .ok (.iconst 0, 1) := by decide +kernel
theorem dX5_areWithin_33 : decode cX5_areWithin 33 = .ok (.istore_n 2, 1) := by decide +kernel
theorem dX5_areWithin_34 : decode cX5_areWithin 34 = .ok (.iinc 3 1, 3) := by decide +kernel
theorem dX5_areWithin_37 : decode cX5_areWithin 37 = .ok (.goto (-33), 3) := by decide +kernel
theorem dX5_areWithin_40 : decode cX5_areWithin 40 = .ok (.iload_n 2, 1) := by decide +kernel
theorem dX5_areWithin_41 : decode cX5_areWithin 41 = .ok (.ireturn, 1) := by decide +kernel
theorem dX5_read_0 : decode cX5_read 0 = .ok (.aload_n 0, 1) := by decide +kernel
theorem dX5_read_1 : decode cX5_read 1 = .ok (.invokevirtual 180, 3) := by decide +kernel
theorem dX5_read_4 : decode cX5_read 4 = .ok (.aload_n 0, 1) := by decide +kernel
theorem dX5_read_5 : decode cX5_read 5 = .ok (.getfield 168, 3) := by decide +kernel
theorem dX5_read_8 : decode cX5_read 8 = .ok (.if_icmp .ne 14, 3) := by decide +kernel
theorem dX5_read_11 : decode cX5_read 11 = .ok (.aload_n 0, 1) := by decide +kernel
theorem dX5_read_12 : decode cX5_read 12 = .ok (.getfield 168, 3) := by decide +kernel
theorem dX5_read_15 : decode cX5_read 15 = .ok (.ifCond .le 7, 3) := by decide +kernel
theorem dX5_read_18 : decode cX5_read 18 = .ok (.iconst 1, 1) := by decide +kernel
theorem dX5_read_19 : decode cX5_read 19 = .ok (.goto 4, 3) := by decide +kernel
theorem dX5_read_22 : decode cX5_read 22 = .ok (.iconst 0, 1) := by decide +kernel
theorem dX5_read_23 : decode cX5_read 23 = .ok (.istore_n 2, 1) := by decide +kernel
theorem dX5_read_24 : decode cX5_read 24 = .ok (.aload_n 0, 1) := by decide +kernel
theorem dX5_read_25 : decode cX5_read 25 = .ok (.iload_n 1, 1) := by decide +kernel
theorem dX5_read_26 : decode cX5_read 26 = .ok (.invokestatic 133, 3) := by decide +kernel
theorem dX5_read_29 : decode cX5_read 29 = .ok (.ifCond .ne 7, 3) := by decide +kernel
theorem dX5_read_32 : decode cX5_read 32 = .ok (.iconst 1, 1) := by decide +kernel
theorem dX5_read_33 : decode cX5_read 33 = .ok (.goto 24, 3) := by decide +kernel
theorem dX5_read_36 : decode cX5_read 36 = .ok (.iload_n 2, 1) := by decide +kernel
theorem dX5_read_37 : decode cX5_read 37 = .ok (.ifCond .ne 7, 3) := by decide +kernel
theorem dX5_read_40 : decode cX5_read 40 = .ok (.iconst 2, 1) := by decide +kernel
theorem dX5_read_41 : decode cX5_read 41 = .ok (.goto 16, 3) := by decide +kernel
theorem dX5_read_44 : decode cX5_read 44 = .ok (.aload_n 0, 1) := by decide +kernel
theorem dX5_read_45 : decode cX5_read 45 = .ok (.iload_n 1, 1) := by decide +kernel
theorem dX5_read_46 : decode cX5_read 46 = .ok (.invokevirtual 183, 3) := by decide +kernel
theorem dX5_read_49 : decode cX5_read 49 = .ok (.ifCond .eq 7, 3) := by decide +kernel
theorem dX5_read_52 : decode cX5_read 52 = .ok (.iconst 0, 1) := by decide +kernel
theorem dX5_read_53 : decode cX5_read 53 = .ok (.goto 4, 3) := by decide +kernel
theorem dX5_read_56 : decode cX5_read 56 = .ok (.iconst 3, 1) := by decide +kernel
theorem dX5_read_57 : decode cX5_read 57 = .ok (.putfield 50, 3) := by decide +kernel
theorem dX5_read_60 : decode cX5_read 60 = .ok (.aload_n 0, 1) := by decide +kernel
theorem dX5_read_61 : decode cX5_read 61 = .ok (.getfield 50, 3) := by decide +kernel
theorem dX5_read_64 : decode cX5_read 64 = .ok (.ifCond .le 5, 3) := by decide +kernel
theorem dX5_read_67 : decode cX5_read 67 = .ok (.iconst 0, 1) := by decide +kernel
theorem dX5_read_68 : decode cX5_read 68 = .ok (.ireturn, 1) := by decide +kernel
theorem dX5_read_69 : decode cX5_read 69 = .ok (.aload_n 0, 1) := by decide +kernel
theorem dX5_read_70 : decode cX5_read 70 = .ok (.invokevirtual 139, 3) := by decide +kernel
theorem dX5_read_73 : decode cX5_read 73 = .ok (.aload_n 0, 1) := by decide +kernel
theorem dX5_read_74 : decode cX5_read 74 = .ok (.iconst 0, 1) := by decide +kernel
theorem dX5_read_75 : decode cX5_read 75 = .ok (.putfield 168, 3) := by decide +kernel
theorem dX5_read_78 : decode cX5_read 78 = .ok (.iconst 0, 1) := by decide +kernel
theorem dX5_read_79 : decode cX5_read 79 = .ok (.istore_n 3, 1) := by decide +kernel
theorem dX5_read_80 : decode cX5_read 80 = .ok (.iload_n 3, 1) := by decide +kernel
theorem dX5_read_81 : decode cX5_read 81 = .ok (.bipush 8, 2) := by decide +kernel
theorem dX5_read_83 : decode cX5_read 83 = .ok (.if_icmp .ge 26, 3) := by decide +kernel
theorem dX5_read_86 : decode cX5_read 86 = .ok (.aload_n 0, 1) := by decide +kernel
theorem dX5_read_87 : decode cX5_read 87 = .ok (.getfield 7, 3) := by decide +kernel
theorem dX5_read_90 : decode cX5_read 90 = .ok (.bipush 8, 2) := by decide +kernel
theorem dX5_read_92 : decode cX5_read 92 = .ok (.iload_n 1, 1) := by decide +kernel
theorem dX5_read_93 : decode cX5_read 93 = .ok (.imul, 1) := by decide +kernel
theorem dX5_read_94 : decode cX5_read 94 = .ok (.iload_n 3, 1) := by decide +kernel
theorem dX5_read_95 : decode cX5_read 95 = .ok (.iadd, 1) := by decide +kernel
theorem dX5_read_96 : decode cX5_read 96 = .ok (.aload_n 0, 1) := by decide +kernel
theorem dX5_read_97 : decode cX5_read 97 = .ok (.getfield 47, 3) := by decide +kernel
theorem dX5_read_100 : decode cX5_read 100 = .ok (.iload_n 3, 1) := by decide +kernel
theorem dX5_read_101 : decode cX5_read 101 = .ok (.iaload, 1) := by decide +kernel
theorem dX5_read_102 : decode cX5_read 102 = .ok (.iastore, 1) := by decide +kernel
theorem dX5_read_103 : decode cX5_read 103 = .ok (.iinc 3 1, 3) := by decide +kernel
theorem dX5_read_106 : decode cX5_read 106 = .ok (.goto (-26), 3) := by decide +kernel
theorem dX5_read_109 : decode cX5_read 109 = .ok (.aload_n 0, 1) := by decide +kernel
theorem dX5_read_110 : decode cX5_read 110 = .ok (.iload_n 1, 1) := by decide +kernel
theorem dX5_read_111 : decode cX5_read 111 = .ok (.invokevirtual 151, 3) := by decide +kernel
theorem dX5_read_114 : decode cX5_read 114 = .ok (.ireturn, 1) := by decide +kernel
theorem dX5_isSnapshot_0 : decode cX5_isSnapshot 0 = .ok (.iload_n 0, 1) := by decide +kernel
theorem dX5_isSnapshot_1 : decode cX5_isSnapshot 1 = .ok (.iconst 0, 1) := by decide +kernel
theorem dX5_isSnapshot_2 : decode cX5_isSnapshot 2 = .ok (.iconst 1, 1) := by decide +kernel
theorem dX5_isSnapshot_3 : decode cX5_isSnapshot 3 = .ok (.invokestatic 61, 3) := by decide +kernel
theorem dX5_isSnapshot_6 : decode cX5_isSnapshot 6 = .ok (.ireturn, 1) := by decide +kernel
theorem dX5_allFactors_0 : decode cX5_allFactors 0 = .ok (.aload_n 0, 1) := by decide +kernel
theorem dX5_allFactors_1 : decode cX5_allFactors 1 = .ok (.iconst 0, 1) := by decide +kernel
theorem dX5_allFactors_2 : decode cX5_allFactors 2 = .ok (.invokevirtual 151, 3) := by decide +kernel
theorem dX5_allFactors_5 : decode cX5_allFactors 5 = .ok (.aload_n 0, 1) := by decide +kernel
theorem dX5_allFactors_6 : decode cX5_allFactors 6 = .ok (.iconst 1, 1) := by decide +kernel
theorem dX5_allFactors_7 : decode cX5_allFactors 7 = .ok (.invokevirtual 151, 3) := by decide +kernel
theorem dX5_allFactors_10 : decode cX5_allFactors 10 = .ok (.iadd, 1) := by decide +kernel
theorem dX5_allFactors_11 : decode cX5_allFactors 11 = .ok (.aload_n 0, 1) := by decide +kernel
theorem dX5_allFactors_12 : decode cX5_allFactors 12 = .ok (.iconst 2, 1) := by decide +kernel
theorem dX5_allFactors_13 : decode cX5_allFactors 13 = .ok (.invokevirtual 151, 3) := by decide +kernel
theorem dX5_allFactors_16 : decode cX5_allFactors 16 = .ok (.iadd, 1) := by decide +kernel
theorem dX5_allFactors_17 : decode cX5_allFactors 17 = .ok (.ireturn, 1) := by decide +kernel
theorem dX5_take_0 : decode cX5_take 0 = .ok (.aload_n 0, 1) := by decide +kernel
theorem dX5_take_1 : decode cX5_take 1 = .ok (.iload_n 1, 1) := by decide +kernel
theorem dX5_take_2 : decode cX5_take 2 = .ok (.invokestatic 186, 3) := by decide +kernel
theorem dX5_take_5 : decode cX5_take 5 = .ok (.ifCond .eq 7, 3) := by decide +kernel
theorem dX5_take_8 : decode cX5_take 8 = .ok (.iconst 0, 1) := by decide +kernel
theorem dX5_take_9 : decode cX5_take 9 = .ok (.goto 4, 3) := by decide +kernel
theorem dX5_take_12 : decode cX5_take 12 = .ok (.iconst 1, 1) := by decide +kernel
theorem dX5_take_13 : decode cX5_take 13 = .ok (.putfield 50, 3) := by decide +kernel
theorem dX5_take_16 : decode cX5_take 16 = .ok (.aload_n 0, 1) := by decide +kernel
theorem dX5_take_17 : decode cX5_take 17 = .ok (.getfield 50, 3) := by decide +kernel
theorem dX5_take_20 : decode cX5_take 20 = .ok (.ifCond .le 5, 3) := by decide +kernel
theorem dX5_take_23 : decode cX5_take 23 = .ok (.iconst 0, 1) := by decide +kernel
theorem dX5_take_24 : decode cX5_take 24 = .ok (.ireturn, 1) := by decide +kernel
theorem dX5_take_25 : decode cX5_take 25 = .ok (.aload_n 0, 1) := by decide +kernel
theorem dX5_take_26 : decode cX5_take 26 = .ok (.getfield 19, 3) := by decide +kernel
theorem dX5_take_29 : decode cX5_take 29 = .ok (.iload_n 1, 1) := by decide +kernel
theorem dX5_take_30 : decode cX5_take 30 = .ok (.iconst 1, 1) := by decide +kernel
theorem dX5_take_31 : decode cX5_take 31 = .ok (.iastore, 1) := by decide +kernel
theorem dX5_take_32 : decode cX5_take 32 = .ok (.iconst 0, 1) := by decide +kernel
theorem dX5_take_33 : decode cX5_take 33 = .ok (.istore_n 2, 1) := by decide +kernel
theorem dX5_take_34 : decode cX5_take 34 = .ok (.iload_n 2, 1) := by decide +kernel
theorem dX5_take_35 : decode cX5_take 35 = .ok (.bipush 24, 2) := by decide +kernel
theorem dX5_take_37 : decode cX5_take 37 = .ok (.if_icmp .ge 26, 3) := by decide +kernel
theorem dX5_take_40 : decode cX5_take 40 = .ok (.aload_n 0, 1) := by decide +kernel
theorem dX5_take_41 : decode cX5_take 41 = .ok (.getfield 16, 3) := by decide +kernel
theorem dX5_take_44 : decode cX5_take 44 = .ok (.bipush 24, 2) := by decide +kernel
theorem dX5_take_46 : decode cX5_take 46 = .ok (.iload_n 1, 1) := by decide +kernel
theorem dX5_take_47 : decode cX5_take 47 = .ok (.imul, 1) := by decide +kernel
theorem dX5_take_48 : decode cX5_take 48 = .ok (.iload_n 2, 1) := by decide +kernel
theorem dX5_take_49 : decode cX5_take 49 = .ok (.iadd, 1) := by decide +kernel
theorem dX5_take_50 : decode cX5_take 50 = .ok (.aload_n 0, 1) := by decide +kernel
theorem dX5_take_51 : decode cX5_take 51 = .ok (.getfield 7, 3) := by decide +kernel
theorem dX5_take_54 : decode cX5_take 54 = .ok (.iload_n 2, 1) := by decide +kernel
theorem dX5_take_55 : decode cX5_take 55 = .ok (.iaload, 1) := by decide +kernel
theorem dX5_take_56 : decode cX5_take 56 = .ok (.iastore, 1) := by decide +kernel
theorem dX5_take_57 : decode cX5_take 57 = .ok (.iinc 2 1, 3) := by decide +kernel
theorem dX5_take_60 : decode cX5_take 60 = .ok (.goto (-26), 3) := by decide +kernel
theorem dX5_take_63 : decode cX5_take 63 = .ok (.aload_n 0, 1) := by decide +kernel
theorem dX5_take_64 : decode cX5_take 64 = .ok (.invokevirtual 189, 3) := by decide +kernel
theorem dX5_take_67 : decode cX5_take 67 = .ok (.ireturn, 1) := by decide +kernel
theorem dX5_restore_0 : decode cX5_restore 0 = .ok (.aload_n 0, 1) := by decide +kernel
theorem dX5_restore_1 : decode cX5_restore 1 = .ok (.iload_n 1, 1) := by decide +kernel
theorem dX5_restore_2 : decode cX5_restore 2 = .ok (.invokestatic 186, 3) := by decide +kernel
theorem dX5_restore_5 : decode cX5_restore 5 = .ok (.ifCond .eq 7, 3) := by decide +kernel
theorem dX5_restore_8 : decode cX5_restore 8 = .ok (.iconst 0, 1) := by decide +kernel
theorem dX5_restore_9 : decode cX5_restore 9 = .ok (.goto 4, 3) := by decide +kernel
theorem dX5_restore_12 : decode cX5_restore 12 = .ok (.iconst 1, 1) := by decide +kernel
theorem dX5_restore_13 : decode cX5_restore 13 = .ok (.putfield 50, 3) := by decide +kernel
theorem dX5_restore_16 : decode cX5_restore 16 = .ok (.aload_n 0, 1) := by decide +kernel
theorem dX5_restore_17 : decode cX5_restore 17 = .ok (.getfield 50, 3) := by decide +kernel
theorem dX5_restore_20 : decode cX5_restore 20 = .ok (.ifCond .ne 22, 3) := by decide +kernel
theorem dX5_restore_23 : decode cX5_restore 23 = .ok (.aload_n 0, 1) := by decide +kernel
theorem dX5_restore_24 : decode cX5_restore 24 = .ok (.aload_n 0, 1) := by decide +kernel
theorem dX5_restore_25 : decode cX5_restore 25 = .ok (.getfield 19, 3) := by decide +kernel
theorem dX5_restore_28 : decode cX5_restore 28 = .ok (.iload_n 1, 1) := by decide +kernel
theorem dX5_restore_29 : decode cX5_restore 29 = .ok (.iaload, 1) := by decide +kernel
theorem dX5_restore_30 : decode cX5_restore 30 = .ok (.iconst 1, 1) := by decide +kernel
theorem dX5_restore_31 : decode cX5_restore 31 = .ok (.if_icmp .ne 7, 3) := by decide +kernel
theorem dX5_restore_34 : decode cX5_restore 34 = .ok (.iconst 0, 1) := by decide +kernel
theorem dX5_restore_35 : decode cX5_restore 35 = .ok (.goto 4, 3) := by decide +kernel
theorem dX5_restore_38 : decode cX5_restore 38 = .ok (.iconst 2, 1) := by decide +kernel
theorem dX5_restore_39 : decode cX5_restore 39 = .ok (.putfield 50, 3) := by decide +kernel
theorem dX5_restore_42 : decode cX5_restore 42 = .ok (.aload_n 0, 1) := by decide +kernel
theorem dX5_restore_43 : decode cX5_restore 43 = .ok (.getfield 50, 3) := by decide +kernel
theorem dX5_restore_46 : decode cX5_restore 46 = .ok (.ifCond .le 5, 3) := by decide +kernel
theorem dX5_restore_49 : decode cX5_restore 49 = .ok (.iconst 0, 1) := by decide +kernel
theorem dX5_restore_50 : decode cX5_restore 50 = .ok (.ireturn, 1) := by decide +kernel
theorem dX5_restore_51 : decode cX5_restore 51 = .ok (.aload_n 0, 1) := by decide +kernel
theorem dX5_restore_52 : decode cX5_restore 52 = .ok (.invokevirtual 139, 3) := by decide +kernel
theorem dX5_restore_55 : decode cX5_restore 55 = .ok (.iconst 0, 1) := by decide +kernel
theorem dX5_restore_56 : decode cX5_restore 56 = .ok (.istore_n 2, 1) := by decide +kernel
theorem dX5_restore_57 : decode cX5_restore 57 = .ok (.iload_n 2, 1) := by decide +kernel
theorem dX5_restore_58 : decode cX5_restore 58 = .ok (.bipush 24, 2) := by decide +kernel
theorem dX5_restore_60 : decode cX5_restore 60 = .ok (.if_icmp .ge 26, 3) := by decide +kernel
theorem dX5_restore_63 : decode cX5_restore 63 = .ok (.aload_n 0, 1) := by decide +kernel
theorem dX5_restore_64 : decode cX5_restore 64 = .ok (.getfield 7, 3) := by decide +kernel
theorem dX5_restore_67 : decode cX5_restore 67 = .ok (.iload_n 2, 1) := by decide +kernel
theorem dX5_restore_68 : decode cX5_restore 68 = .ok (.aload_n 0, 1) := by decide +kernel
theorem dX5_restore_69 : decode cX5_restore 69 = .ok (.getfield 16, 3) := by decide +kernel
theorem dX5_restore_72 : decode cX5_restore 72 = .ok (.bipush 24, 2) := by decide +kernel
theorem dX5_restore_74 : decode cX5_restore 74 = .ok (.iload_n 1, 1) := by decide +kernel
theorem dX5_restore_75 : decode cX5_restore 75 = .ok (.imul, 1) := by decide +kernel
theorem dX5_restore_76 : decode cX5_restore 76 = .ok (.iload_n 2, 1) := by decide +kernel
theorem dX5_restore_77 : decode cX5_restore 77 = .ok (.iadd, 1) := by decide +kernel
theorem dX5_restore_78 : decode cX5_restore 78 = .ok (.iaload, 1) := by decide +kernel
theorem dX5_restore_79 : decode cX5_restore 79 = .ok (.iastore, 1) := by decide +kernel
theorem dX5_restore_80 : decode cX5_restore 80 = .ok (.iinc 2 1, 3) := by decide +kernel
theorem dX5_restore_83 : decode cX5_restore 83 = .ok (.goto (-26), 3) := by decide +kernel
theorem dX5_restore_86 : decode cX5_restore 86 = .ok (.aload_n 0, 1) := by decide +kernel
theorem dX5_restore_87 : decode cX5_restore 87 = .ok (.invokevirtual 189, 3) := by decide +kernel
theorem dX5_restore_90 : decode cX5_restore 90 = .ok (.ireturn, 1) := by decide +kernel
theorem dX5_undo_0 : decode cX5_undo 0 = .ok (.aload_n 0, 1) := by decide +kernel
theorem dX5_undo_1 : decode cX5_undo 1 = .ok (.aload_n 0, 1) := by decide +kernel
theorem dX5_undo_2 : decode cX5_undo 2 = .ok (.getfield 54, 3) := by decide +kernel
theorem dX5_undo_5 : decode cX5_undo 5 = .ok (.ifCond .le 7, 3) := by decide +kernel
theorem dX5_undo_8 : decode cX5_undo 8 = .ok (.iconst 0, 1) := by decide +kernel
theorem dX5_undo_9 : decode cX5_undo 9 = .ok (.goto 4, 3) := by decide +kernel
theorem dX5_undo_12 : decode cX5_undo 12 = .ok (.iconst 1, 1) := by decide +kernel
theorem dX5_undo_13 : decode cX5_undo 13 = .ok (.putfield 50, 3) := by decide +kernel
theorem dX5_undo_16 : decode cX5_undo 16 = .ok (.aload_n 0, 1) := by decide +kernel
theorem dX5_undo_17 : decode cX5_undo 17 = .ok (.getfield 50, 3) := by decide +kernel
theorem dX5_undo_20 : decode cX5_undo 20 = .ok (.ifCond .le 5, 3) := by decide +kernel
theorem dX5_undo_23 : decode cX5_undo 23 = .ok (.iconst 0, 1) := by decide +kernel
theorem dX5_undo_24 : decode cX5_undo 24 = .ok (.ireturn, 1) := by decide +kernel
theorem dX5_undo_25 : decode cX5_undo 25 = .ok (.aload_n 0, 1) := by decide +kernel
theorem dX5_undo_26 : decode cX5_undo 26 = .ok (.dup, 1) := by decide +kernel
theorem dX5_undo_27 : decode cX5_undo 27 = .ok (.getfield 54, 3) := by decide +kernel
theorem dX5_undo_30 : decode cX5_undo 30 = .ok (.iconst 1, 1) := by decide +kernel
theorem dX5_undo_31 : decode cX5_undo 31 = .ok (.isub, 1) := by decide +kernel
theorem dX5_undo_32 : decode cX5_undo 32 = .ok (.putfield 54, 3) := by decide +kernel
theorem dX5_undo_35 : decode cX5_undo 35 = .ok (.iconst 0, 1) := by decide +kernel
theorem dX5_undo_36 : decode cX5_undo 36 = .ok (.istore_n 1, 1) := by decide +kernel
theorem dX5_undo_37 : decode cX5_undo 37 = .ok (.iload_n 1, 1) := by decide +kernel
theorem dX5_undo_38 : decode cX5_undo 38 = .ok (.bipush 26, 2) := by decide +kernel
theorem dX5_undo_40 : decode cX5_undo 40 = .ok (.if_icmp .ge 29, 3) := by decide +kernel
theorem dX5_undo_43 : decode cX5_undo 43 = .ok (.aload_n 0, 1) := by decide +kernel
theorem dX5_undo_44 : decode cX5_undo 44 = .ok (.getfield 7, 3) := by decide +kernel
theorem dX5_undo_47 : decode cX5_undo 47 = .ok (.iload_n 1, 1) := by decide +kernel
theorem dX5_undo_48 : decode cX5_undo 48 = .ok (.aload_n 0, 1) := by decide +kernel
theorem dX5_undo_49 : decode cX5_undo 49 = .ok (.getfield 13, 3) := by decide +kernel
theorem dX5_undo_52 : decode cX5_undo 52 = .ok (.bipush 26, 2) := by decide +kernel
theorem dX5_undo_54 : decode cX5_undo 54 = .ok (.aload_n 0, 1) := by decide +kernel
theorem dX5_undo_55 : decode cX5_undo 55 = .ok (.getfield 54, 3) := by decide +kernel
theorem dX5_undo_58 : decode cX5_undo 58 = .ok (.imul, 1) := by decide +kernel
theorem dX5_undo_59 : decode cX5_undo 59 = .ok (.iload_n 1, 1) := by decide +kernel
theorem dX5_undo_60 : decode cX5_undo 60 = .ok (.iadd, 1) := by decide +kernel
theorem dX5_undo_61 : decode cX5_undo 61 = .ok (.iaload, 1) := by decide +kernel
theorem dX5_undo_62 : decode cX5_undo 62 = .ok (.iastore, 1) := by decide +kernel
theorem dX5_undo_63 : decode cX5_undo 63 = .ok (.iinc 1 1, 3) := by decide +kernel
theorem dX5_undo_66 : decode cX5_undo 66 = .ok (.goto (-29), 3) := by decide +kernel
theorem dX5_undo_69 : decode cX5_undo 69 = .ok (.aload_n 0, 1) := by decide +kernel
theorem dX5_undo_70 : decode cX5_undo 70 = .ok (.getfield 54, 3) := by decide +kernel
theorem dX5_undo_73 : decode cX5_undo 73 = .ok (.ireturn, 1) := by decide +kernel
theorem dX5_times_0 : decode cX5_times 0 = .ok (.aload_n 0, 1) := by decide +kernel
theorem dX5_times_1 : decode cX5_times 1 = .ok (.iload_n 1, 1) := by decide +kernel
theorem dX5_times_2 : decode cX5_times 2 = .ok (.invokestatic 133, 3) := by decide +kernel
theorem dX5_times_5 : decode cX5_times 5 = .ok (.ifCond .eq 17, 3) := by decide +kernel
theorem dX5_times_8 : decode cX5_times 8 = .ok (.iload_n 2, 1) := by decide +kernel
theorem dX5_times_9 : decode cX5_times 9 = .ok (.iconst 0, 1) := by decide +kernel
theorem dX5_times_10 : decode cX5_times 10 = .ok (.bipush 7, 2) := by decide +kernel
theorem dX5_times_12 : decode cX5_times 12 = .ok (.invokestatic 61, 3) := by decide +kernel
theorem dX5_times_15 : decode cX5_times 15 = .ok (.ifCond .eq 7, 3) := by decide +kernel
theorem dX5_times_18 : decode cX5_times 18 = .ok (.iconst 0, 1) := by decide +kernel
theorem dX5_times_19 : decode cX5_times 19 = .ok (.goto 4, 3) := by decide +kernel
theorem dX5_times_22 : decode cX5_times 22 = .ok (.iconst 1, 1) := by decide +kernel
theorem dX5_times_23 : decode cX5_times 23 = .ok (.putfield 50, 3) := by decide +kernel
theorem dX5_times_26 : decode cX5_times 26 = .ok (.aload_n 0, 1) := by decide +kernel
theorem dX5_times_27 : decode cX5_times 27 = .ok (.getfield 50, 3) := by decide +kernel
theorem dX5_times_30 : decode cX5_times 30 = .ok (.ifCond .le 7, 3) := by decide +kernel
theorem dX5_times_33 : decode cX5_times 33 = .ok (.iconst 0, 1) := by decide +kernel
theorem dX5_times_34 : decode cX5_times 34 = .ok (.goto 9, 3) := by decide +kernel
theorem dX5_times_37 : decode cX5_times 37 = .ok (.aload_n 0, 1) := by decide +kernel
theorem dX5_times_38 : decode cX5_times 38 = .ok (.iload_n 1, 1) := by decide +kernel
theorem dX5_times_39 : decode cX5_times 39 = .ok (.iload_n 2, 1) := by decide +kernel
theorem dX5_times_40 : decode cX5_times 40 = .ok (.invokevirtual 57, 3) := by decide +kernel
theorem dX5_times_43 : decode cX5_times 43 = .ok (.ireturn, 1) := by decide +kernel
theorem dX5_rest_0 : decode cX5_rest 0 = .ok (.aload_n 0, 1) := by decide +kernel
theorem dX5_rest_1 : decode cX5_rest 1 = .ok (.iload_n 1, 1) := by decide +kernel
theorem dX5_rest_2 : decode cX5_rest 2 = .ok (.invokestatic 136, 3) := by decide +kernel
theorem dX5_rest_5 : decode cX5_rest 5 = .ok (.ifCond .eq 7, 3) := by decide +kernel
theorem dX5_rest_8 : decode cX5_rest 8 = .ok (.iconst 0, 1) := by decide +kernel
theorem dX5_rest_9 : decode cX5_rest 9 = .ok (.goto 4, 3) := by decide +kernel
theorem dX5_rest_12 : decode cX5_rest 12 = .ok (.iconst 1, 1) := by decide +kernel
theorem dX5_rest_13 : decode cX5_rest 13 = .ok (.putfield 50, 3) := by decide +kernel
theorem dX5_rest_16 : decode cX5_rest 16 = .ok (.aload_n 0, 1) := by decide +kernel
theorem dX5_rest_17 : decode cX5_rest 17 = .ok (.getfield 50, 3) := by decide +kernel
theorem dX5_rest_20 : decode cX5_rest 20 = .ok (.ifCond .le 7, 3) := by decide +kernel
theorem dX5_rest_23 : decode cX5_rest 23 = .ok (.iconst 0, 1) := by decide +kernel
theorem dX5_rest_24 : decode cX5_rest 24 = .ok (.goto 8, 3) := by decide +kernel
theorem dX5_rest_27 : decode cX5_rest 27 = .ok (.aload_n 0, 1) := by decide +kernel
theorem dX5_rest_28 : decode cX5_rest 28 = .ok (.iload_n 1, 1) := by decide +kernel
theorem dX5_rest_29 : decode cX5_rest 29 = .ok (.invokevirtual 75, 3) := by decide +kernel
theorem dX5_rest_32 : decode cX5_rest 32 = .ok (.ireturn, 1) := by decide +kernel
theorem dX5_solutionsOf_0 : decode cX5_solutionsOf 0 = .ok (.aload_n 0, 1) := by decide +kernel
theorem dX5_solutionsOf_1 : decode cX5_solutionsOf 1 = .ok (.iload_n 1, 1) := by decide +kernel
theorem dX5_solutionsOf_2 : decode cX5_solutionsOf 2 = .ok (.aload_n 0, 1) := by decide +kernel
theorem dX5_solutionsOf_3 : decode cX5_solutionsOf 3 = .ok (.iload_n 1, 1) := by decide +kernel
theorem dX5_solutionsOf_4 : decode cX5_solutionsOf 4 = .ok (.invokevirtual 75, 3) := by decide +kernel
theorem dX5_solutionsOf_7 : decode cX5_solutionsOf 7 = .ok (.invokevirtual 79, 3) := by decide +kernel
theorem dX5_solutionsOf_10 : decode cX5_solutionsOf 10 = .ok (.aload_n 0, 1) := by decide +kernel
theorem dX5_solutionsOf_11 : decode cX5_solutionsOf 11 = .ok (.getfield 28, 3) := by decide +kernel
theorem dX5_solutionsOf_14 : decode cX5_solutionsOf 14 = .ok (.iload_n 1, 1) := by decide +kernel
theorem dX5_solutionsOf_15 : decode cX5_solutionsOf 15 = .ok (.iaload, 1) := by decide +kernel
theorem dX5_solutionsOf_16 : decode cX5_solutionsOf 16 = .ok (.ireturn, 1) := by decide +kernel
theorem dX5_solutions_0 : decode cX5_solutions 0 = .ok (.aload_n 0, 1) := by decide +kernel
theorem dX5_solutions_1 : decode cX5_solutions 1 = .ok (.iload_n 1, 1) := by decide +kernel
theorem dX5_solutions_2 : decode cX5_solutions 2 = .ok (.invokestatic 136, 3) := by decide +kernel
theorem dX5_solutions_5 : decode cX5_solutions 5 = .ok (.ifCond .eq 7, 3) := by decide +kernel
theorem dX5_solutions_8 : decode cX5_solutions 8 = .ok (.iconst 0, 1) := by decide +kernel
theorem dX5_solutions_9 : decode cX5_solutions 9 = .ok (.goto 4, 3) := by decide +kernel
theorem dX5_solutions_12 : decode cX5_solutions 12 = .ok (.iconst 1, 1) := by decide +kernel
theorem dX5_solutions_13 : decode cX5_solutions 13 = .ok (.putfield 50, 3) := by decide +kernel
theorem dX5_solutions_16 : decode cX5_solutions 16 = .ok (.aload_n 0, 1) := by decide +kernel
theorem dX5_solutions_17 : decode cX5_solutions 17 = .ok (.getfield 50, 3) := by decide +kernel
theorem dX5_solutions_20 : decode cX5_solutions 20 = .ok (.ifCond .le 7, 3) := by decide +kernel
theorem dX5_solutions_23 : decode cX5_solutions 23 = .ok (.iconst 0, 1) := by decide +kernel
theorem dX5_solutions_24 : decode cX5_solutions 24 = .ok (.goto 8, 3) := by decide +kernel
theorem dX5_solutions_27 : decode cX5_solutions 27 = .ok (.aload_n 0, 1) := by decide +kernel
theorem dX5_solutions_28 : decode cX5_solutions 28 = .ok (.iload_n 1, 1) := by decide +kernel
theorem dX5_solutions_29 : decode cX5_solutions 29 = .ok (.invokevirtual 192, 3) := by decide +kernel
theorem dX5_solutions_32 : decode cX5_solutions 32 = .ok (.ireturn, 1) := by decide +kernel
theorem dX5_matchersBy_0 : decode cX5_matchersBy 0 = .ok (.iload_n 1, 1) := by decide +kernel
theorem dX5_matchersBy_1 : decode cX5_matchersBy 1 = .ok (.ifCond .ne 10, 3) := by decide +kernel
theorem dX5_matchersBy_4 : decode cX5_matchersBy 4 = .ok (.aload_n 0, 1) := by decide +kernel
theorem dX5_matchersBy_5 : decode cX5_matchersBy 5 = .ok (.invokevirtual 195, 3) := by decide +kernel
theorem dX5_matchersBy_8 : decode cX5_matchersBy 8 = .ok (.goto 7, 3) := by decide +kernel
theorem dX5_matchersBy_11 : decode cX5_matchersBy 11 = .ok (.aload_n 0, 1) := by decide +kernel
theorem dX5_matchersBy_12 : decode cX5_matchersBy 12 = .ok (.invokevirtual 100, 3) := by decide +kernel
theorem dX5_matchersBy_15 : decode cX5_matchersBy 15 = .ok (.lreturn, 1) := by decide +kernel
theorem dX5_matchers_0 : decode cX5_matchers 0 = .ok (.aload_n 0, 1) := by decide +kernel
theorem dX5_matchers_1 : decode cX5_matchers 1 = .ok (.iload_n 1, 1) := by decide +kernel
theorem dX5_matchers_2 : decode cX5_matchers 2 = .ok (.iconst 0, 1) := by decide +kernel
theorem dX5_matchers_3 : decode cX5_matchers 3 = .ok (.iconst 1, 1) := by decide +kernel
theorem dX5_matchers_4 : decode cX5_matchers 4 = .ok (.invokestatic 61, 3) := by decide +kernel
theorem dX5_matchers_7 : decode cX5_matchers 7 = .ok (.ifCond .eq 7, 3) := by decide +kernel
theorem dX5_matchers_10 : decode cX5_matchers 10 = .ok (.iconst 0, 1) := by decide +kernel
theorem dX5_matchers_11 : decode cX5_matchers 11 = .ok (.goto 4, 3) := by decide +kernel
theorem dX5_matchers_14 : decode cX5_matchers 14 = .ok (.iconst 1, 1) := by decide +kernel
theorem dX5_matchers_15 : decode cX5_matchers 15 = .ok (.putfield 50, 3) := by decide +kernel
theorem dX5_matchers_18 : decode cX5_matchers 18 = .ok (.aload_n 0, 1) := by decide +kernel
theorem dX5_matchers_19 : decode cX5_matchers 19 = .ok (.getfield 50, 3) := by decide +kernel
theorem dX5_matchers_22 : decode cX5_matchers 22 = .ok (.ifCond .le 7, 3) := by decide +kernel
theorem dX5_matchers_25 : decode cX5_matchers 25 = .ok (.lconst 0, 1) := by decide +kernel
theorem dX5_matchers_26 : decode cX5_matchers 26 = .ok (.goto 8, 3) := by decide +kernel
theorem dX5_matchers_29 : decode cX5_matchers 29 = .ok (.aload_n 0, 1) := by decide +kernel
theorem dX5_matchers_30 : decode cX5_matchers 30 = .ok (.iload_n 1, 1) := by decide +kernel
theorem dX5_matchers_31 : decode cX5_matchers 31 = .ok (.invokevirtual 198, 3) := by decide +kernel
theorem dX5_matchers_34 : decode cX5_matchers 34 = .ok (.lreturn, 1) := by decide +kernel
theorem dX5_value_0 : decode cX5_value 0 = .ok (.aload_n 0, 1) := by decide +kernel
theorem dX5_value_1 : decode cX5_value 1 = .ok (.iload_n 2, 1) := by decide +kernel
theorem dX5_value_2 : decode cX5_value 2 = .ok (.invokestatic 142, 3) := by decide +kernel
theorem dX5_value_5 : decode cX5_value 5 = .ok (.ifCond .eq 10, 3) := by decide +kernel
theorem dX5_value_8 : decode cX5_value 8 = .ok (.iload_n 3, 1) := by decide +kernel
theorem dX5_value_9 : decode cX5_value 9 = .ok (.invokestatic 136, 3) := by decide +kernel
theorem dX5_value_12 : decode cX5_value 12 = .ok (.ifCond .ne 7, 3) := by decide +kernel
theorem dX5_value_15 : decode cX5_value 15 = .ok (.iconst 1, 1) := by decide +kernel
theorem dX5_value_16 : decode cX5_value 16 = .ok (.goto 16, 3) := by decide +kernel
theorem dX5_value_19 : decode cX5_value 19 = .ok (.aload_n 0, 1) := by decide +kernel
theorem dX5_value_20 : decode cX5_value 20 = .ok (.iload_n 1, 1) := by decide +kernel
theorem dX5_value_21 : decode cX5_value 21 = .ok (.invokevirtual 154, 3) := by decide +kernel
theorem dX5_value_24 : decode cX5_value 24 = .ok (.ifCond .eq 7, 3) := by decide +kernel
theorem dX5_value_27 : decode cX5_value 27 = .ok (.iconst 0, 1) := by decide +kernel
theorem dX5_value_28 : decode cX5_value 28 = .ok (.goto 4, 3) := by decide +kernel
theorem dX5_value_31 : decode cX5_value 31 = .ok (.iconst 2, 1) := by decide +kernel
theorem dX5_value_32 : decode cX5_value 32 = .ok (.putfield 50, 3) := by decide +kernel
theorem dX5_value_35 : decode cX5_value 35 = .ok (.aload_n 0, 1) := by decide +kernel
theorem dX5_value_36 : decode cX5_value 36 = .ok (.getfield 50, 3) := by decide +kernel
theorem dX5_value_39 : decode cX5_value 39 = .ok (.ifCond .le 5, 3) := by decide +kernel
theorem dX5_value_42 : decode cX5_value 42 = .ok (.iconst 0, 1) := by decide +kernel
theorem dX5_value_43 : decode cX5_value 43 = .ok (.ireturn, 1) := by decide +kernel
theorem dX5_value_44 : decode cX5_value 44 = .ok (.aload_n 0, 1) := by decide +kernel
theorem dX5_value_45 : decode cX5_value 45 = .ok (.iload_n 1, 1) := by decide +kernel
theorem dX5_value_46 : decode cX5_value 46 = .ok (.invokevirtual 157, 3) := by decide +kernel
theorem dX5_value_49 : decode cX5_value 49 = .ok (.aload_n 0, 1) := by decide +kernel
theorem dX5_value_50 : decode cX5_value 50 = .ok (.iload_n 2, 1) := by decide +kernel
theorem dX5_value_51 : decode cX5_value 51 = .ok (.iload_n 3, 1) := by decide +kernel
theorem dX5_value_52 : decode cX5_value 52 = .ok (.invokevirtual 201, 3) := by decide +kernel
theorem dX5_value_55 : decode cX5_value 55 = .ok (.ireturn, 1) := by decide +kernel
theorem dX5_leastAt_0 : decode cX5_leastAt 0 = .ok (.aload_n 0, 1) := by decide +kernel
theorem dX5_leastAt_1 : decode cX5_leastAt 1 = .ok (.invokevirtual 130, 3) := by decide +kernel
theorem dX5_leastAt_4 : decode cX5_leastAt 4 = .ok (.iload_n 1, 1) := by decide +kernel
theorem dX5_leastAt_5 : decode cX5_leastAt 5 = .ok (.aload_n 0, 1) := by decide +kernel
theorem dX5_leastAt_6 : decode cX5_leastAt 6 = .ok (.getfield 116, 3) := by decide +kernel
theorem dX5_leastAt_9 : decode cX5_leastAt 9 = .ok (.if_icmp .ge 16, 3) := by decide +kernel
theorem dX5_leastAt_12 : decode cX5_leastAt 12 = .ok (.aload_n 0, 1) := by decide +kernel
theorem dX5_leastAt_13 : decode cX5_leastAt 13 = .ok (.getfield 41, 3) := by decide +kernel
theorem dX5_leastAt_16 : decode cX5_leastAt 16 = .ok (.iload_n 1, 1) := by decide +kernel
theorem dX5_leastAt_17 : decode cX5_leastAt 17 = .ok (.iaload, 1) := by decide +kernel
theorem dX5_leastAt_18 : decode cX5_leastAt 18 = .ok (.iload_n 2, 1) := by decide +kernel
theorem dX5_leastAt_19 : decode cX5_leastAt 19 = .ok (.invokestatic 113, 3) := by decide +kernel
theorem dX5_leastAt_22 : decode cX5_leastAt 22 = .ok (.goto 4, 3) := by decide +kernel
theorem dX5_leastAt_25 : decode cX5_leastAt 25 = .ok (.iconst (-1), 1) := by decide +kernel
theorem dX5_leastAt_26 : decode cX5_leastAt 26 = .ok (.ireturn, 1) := by decide +kernel
theorem dX5_least_0 : decode cX5_least 0 = .ok (.aload_n 0, 1) := by decide +kernel
theorem dX5_least_1 : decode cX5_least 1 = .ok (.iload_n 2, 1) := by decide +kernel
theorem dX5_least_2 : decode cX5_least 2 = .ok (.invokestatic 142, 3) := by decide +kernel
theorem dX5_least_5 : decode cX5_least 5 = .ok (.ifCond .ne 7, 3) := by decide +kernel
theorem dX5_least_8 : decode cX5_least 8 = .ok (.iconst 1, 1) := by decide +kernel
theorem dX5_least_9 : decode cX5_least 9 = .ok (.goto 12, 3) := by decide +kernel
theorem dX5_least_12 : decode cX5_least 12 = .ok (.iload_n 1, 1) := by decide +kernel
theorem dX5_least_13 : decode cX5_least 13 = .ok (.ifCond .ge 7, 3) := by decide +kernel
theorem dX5_least_16 : decode cX5_least 16 = .ok (.iconst 2, 1) := by decide +kernel
theorem dX5_least_17 : decode cX5_least 17 = .ok (.goto 4, 3) := by decide +kernel
theorem dX5_least_20 : decode cX5_least 20 = .ok (.iconst 0, 1) := by decide +kernel
theorem dX5_least_21 : decode cX5_least 21 = .ok (.putfield 50, 3) := by decide +kernel
theorem dX5_least_24 : decode cX5_least 24 = .ok (.aload_n 0, 1) := by decide +kernel
theorem dX5_least_25 : decode cX5_least 25 = .ok (.getfield 50, 3) := by decide +kernel
theorem dX5_least_28 : decode cX5_least 28 = .ok (.ifCond .le 7, 3) := by decide +kernel
theorem dX5_least_31 : decode cX5_least 31 = .ok (.iconst 0, 1) := by decide +kernel
theorem dX5_least_32 : decode cX5_least 32 = .ok (.goto 9, 3) := by decide +kernel
theorem dX5_least_35 : decode cX5_least 35 = .ok (.aload_n 0, 1) := by decide +kernel
theorem dX5_least_36 : decode cX5_least 36 = .ok (.iload_n 1, 1) := by decide +kernel
theorem dX5_least_37 : decode cX5_least 37 = .ok (.iload_n 2, 1) := by decide +kernel
theorem dX5_least_38 : decode cX5_least 38 = .ok (.invokevirtual 204, 3) := by decide +kernel
theorem dX5_least_41 : decode cX5_least 41 = .ok (.ireturn, 1) := by decide +kernel
theorem dX5_isSmall_0 : decode cX5_isSmall 0 = .ok (.iload_n 0, 1) := by decide +kernel
theorem dX5_isSmall_1 : decode cX5_isSmall 1 = .ok (.iconst 0, 1) := by decide +kernel
theorem dX5_isSmall_2 : decode cX5_isSmall 2 = .ok (.bipush 6, 2) := by decide +kernel
theorem dX5_isSmall_4 : decode cX5_isSmall 4 = .ok (.invokestatic 61, 3) := by decide +kernel
theorem dX5_isSmall_7 : decode cX5_isSmall 7 = .ok (.ireturn, 1) := by decide +kernel
theorem dX5_sums_0 : decode cX5_sums 0 = .ok (.aload_n 0, 1) := by decide +kernel
theorem dX5_sums_1 : decode cX5_sums 1 = .ok (.iload_n 1, 1) := by decide +kernel
theorem dX5_sums_2 : decode cX5_sums 2 = .ok (.invokestatic 207, 3) := by decide +kernel
theorem dX5_sums_5 : decode cX5_sums 5 = .ok (.ifCond .eq 29, 3) := by decide +kernel
theorem dX5_sums_8 : decode cX5_sums 8 = .ok (.iload_n 2, 1) := by decide +kernel
theorem dX5_sums_9 : decode cX5_sums 9 = .ok (.invokestatic 207, 3) := by decide +kernel
theorem dX5_sums_12 : decode cX5_sums 12 = .ok (.ifCond .eq 22, 3) := by decide +kernel
theorem dX5_sums_15 : decode cX5_sums 15 = .ok (.iload_n 3, 1) := by decide +kernel
theorem dX5_sums_16 : decode cX5_sums 16 = .ok (.invokestatic 207, 3) := by decide +kernel
theorem dX5_sums_19 : decode cX5_sums 19 = .ok (.ifCond .eq 15, 3) := by decide +kernel
theorem dX5_sums_22 : decode cX5_sums 22 = .ok (.iload 4, 2) := by decide +kernel
theorem dX5_sums_24 : decode cX5_sums 24 = .ok (.invokestatic 207, 3) := by decide +kernel
theorem dX5_sums_27 : decode cX5_sums 27 = .ok (.ifCond .eq 7, 3) := by decide +kernel
theorem dX5_sums_30 : decode cX5_sums 30 = .ok (.iconst 0, 1) := by decide +kernel
theorem dX5_sums_31 : decode cX5_sums 31 = .ok (.goto 4, 3) := by decide +kernel
theorem dX5_sums_34 : decode cX5_sums 34 = .ok (.iconst 1, 1) := by decide +kernel
theorem dX5_sums_35 : decode cX5_sums 35 = .ok (.putfield 50, 3) := by decide +kernel
theorem dX5_sums_38 : decode cX5_sums 38 = .ok (.aload_n 0, 1) := by decide +kernel
theorem dX5_sums_39 : decode cX5_sums 39 = .ok (.getfield 50, 3) := by decide +kernel
theorem dX5_sums_42 : decode cX5_sums 42 = .ok (.ifCond .le 7, 3) := by decide +kernel
theorem dX5_sums_45 : decode cX5_sums 45 = .ok (.iconst 0, 1) := by decide +kernel
theorem dX5_sums_46 : decode cX5_sums 46 = .ok (.goto 12, 3) := by decide +kernel
theorem dX5_sums_49 : decode cX5_sums 49 = .ok (.aload_n 0, 1) := by decide +kernel
theorem dX5_sums_50 : decode cX5_sums 50 = .ok (.iload_n 1, 1) := by decide +kernel
theorem dX5_sums_51 : decode cX5_sums 51 = .ok (.iload_n 2, 1) := by decide +kernel
theorem dX5_sums_52 : decode cX5_sums 52 = .ok (.iload_n 3, 1) := by decide +kernel
theorem dX5_sums_53 : decode cX5_sums 53 = .ok (.iload 4, 2) := by decide +kernel
theorem dX5_sums_55 : decode cX5_sums 55 = .ok (.invokevirtual 210, 3) := by decide +kernel
theorem dX5_sums_58 : decode cX5_sums 58 = .ok (.ireturn, 1) := by decide +kernel
theorem dX5_negativeRests_0 : decode cX5_negativeRests 0 = .ok (.iconst 0, 1) := by decide +kernel
theorem dX5_negativeRests_1 : decode cX5_negativeRests 1 = .ok (.istore_n 1, 1) := by decide +kernel
theorem dX5_negativeRests_2 : decode cX5_negativeRests 2 = .ok (.iconst 0, 1) := by decide +kernel
theorem dX5_negativeRests_3 : decode cX5_negativeRests 3 = .ok (.istore_n 2, 1) := by decide +kernel
theorem dX5_negativeRests_4 : decode cX5_negativeRests 4 = .ok (.iload_n 2, 1) := by decide +kernel
theorem dX5_negativeRests_5 : decode cX5_negativeRests 5 = .ok (.iconst 4, 1) := by decide +kernel
theorem dX5_negativeRests_6 : decode cX5_negativeRests 6 = .ok (.if_icmp .ge 25, 3) := by decide +kernel
theorem dX5_negativeRests_9 : decode cX5_negativeRests 9 = .ok (.iload_n 1, 1) := by decide +kernel
theorem dX5_negativeRests_10 : decode cX5_negativeRests 10 = .ok (.aload_n 0, 1) := by decide +kernel
theorem dX5_negativeRests_11 : decode cX5_negativeRests 11 = .ok (.iload_n 2, 1) := by decide +kernel
theorem dX5_negativeRests_12 : decode cX5_negativeRests 12 = .ok (.invokevirtual 75, 3) := by decide +kernel
theorem dX5_negativeRests_15 : decode cX5_negativeRests 15 = .ok (.ifCond .ge 7, 3) := by decide +kernel
theorem dX5_negativeRests_18 : decode cX5_negativeRests 18 = .ok (.iconst 1, 1) := by decide +kernel
theorem dX5_negativeRests_19 : decode cX5_negativeRests 19 = .ok (.goto 4, 3) := by decide +kernel
theorem dX5_negativeRests_22 : decode cX5_negativeRests 22 = .ok (.iconst 0, 1) := by decide +kernel
theorem dX5_negativeRests_23 : decode cX5_negativeRests 23 = .ok (.iadd, 1) := by decide +kernel
theorem dX5_negativeRests_24 : decode cX5_negativeRests 24 = .ok (.istore_n 1, 1) := by decide +kernel
theorem dX5_negativeRests_25 : decode cX5_negativeRests 25 = .ok (.iinc 2 1, 3) := by decide +kernel
theorem dX5_negativeRests_28 : decode cX5_negativeRests 28 = .ok (.goto (-24), 3) := by decide +kernel
theorem dX5_negativeRests_31 : decode cX5_negativeRests 31 = .ok (.iload_n 1, 1) := by decide +kernel
theorem dX5_negativeRests_32 : decode cX5_negativeRests 32 = .ok (.ireturn, 1) := by decide +kernel
theorem dX5_areSame_0 : decode cX5_areSame 0 = .ok (.iconst 1, 1) := by decide +kernel
theorem dX5_areSame_1 : decode cX5_areSame 1 = .ok (.istore_n 1, 1) := by decide +kernel
theorem dX5_areSame_2 : decode cX5_areSame 2 = .ok (.iconst 0, 1) := by decide +kernel
theorem dX5_areSame_3 : decode cX5_areSame 3 = .ok (.istore_n 2, 1) := by decide +kernel
theorem dX5_areSame_4 : decode cX5_areSame 4 = .ok (.iload_n 2, 1) := by decide +kernel
theorem dX5_areSame_5 : decode cX5_areSame 5 = .ok (.bipush 8, 2) := by decide +kernel
theorem dX5_areSame_7 : decode cX5_areSame 7 = .ok (.if_icmp .ge 34, 3) := by decide +kernel
theorem dX5_areSame_10 : decode cX5_areSame 10 = .ok (.iload_n 1, 1) := by decide +kernel
theorem dX5_areSame_11 : decode cX5_areSame 11 = .ok (.ifCond .eq 22, 3) := by decide +kernel
theorem dX5_areSame_14 : decode cX5_areSame 14 = .ok (.aload_n 0, 1) := by decide +kernel
theorem dX5_areSame_15 : decode cX5_areSame 15 = .ok (.iconst 0, 1) := by decide +kernel
theorem dX5_areSame_16 : decode cX5_areSame 16 = .ok (.iload_n 2, 1) := by decide +kernel
theorem dX5_areSame_17 : decode cX5_areSame 17 = .ok (.invokevirtual 57, 3) := by decide +kernel
theorem dX5_areSame_20 : decode cX5_areSame 20 = .ok (.aload_n 0, 1) := by decide +kernel
theorem dX5_areSame_21 : decode cX5_areSame 21 = .ok (.iconst 1, 1) := by decide +kernel
theorem dX5_areSame_22 : decode cX5_areSame 22 = .ok (.iload_n 2, 1) := by decide +kernel
theorem dX5_areSame_23 : decode cX5_areSame 23 = .ok (.invokevirtual 57, 3) := by decide +kernel
theorem dX5_areSame_26 : decode cX5_areSame 26 = .ok (.if_icmp .ne 7, 3) := by decide +kernel
theorem dX5_areSame_29 : decode cX5_areSame 29 = .ok (.iconst 1, 1) := by decide +kernel
theorem dX5_areSame_30 : decode cX5_areSame 30 = .ok (.goto 4, 3) := by decide +kernel
theorem dX5_areSame_33 : decode cX5_areSame 33 = .ok (.iconst 0, 1) := by decide +kernel
theorem dX5_areSame_34 : decode cX5_areSame 34 = .ok (.istore_n 1, 1) := by decide +kernel
theorem dX5_areSame_35 : decode cX5_areSame 35 = .ok (.iinc 2 1, 3) := by decide +kernel
theorem dX5_areSame_38 : decode cX5_areSame 38 = .ok (.goto (-34), 3) := by decide +kernel
theorem dX5_areSame_41 : decode cX5_areSame 41 = .ok (.iload_n 1, 1) := by decide +kernel
theorem dX5_areSame_42 : decode cX5_areSame 42 = .ok (.ireturn, 1) := by decide +kernel
theorem dX5_inCommon_0 : decode cX5_inCommon 0 = .ok (.iconst 0, 1) := by decide +kernel
theorem dX5_inCommon_1 : decode cX5_inCommon 1 = .ok (.istore_n 1, 1) := by decide +kernel
theorem dX5_inCommon_2 : decode cX5_inCommon 2 = .ok (.iconst 0, 1) := by decide +kernel
theorem dX5_inCommon_3 : decode cX5_inCommon 3 = .ok (.istore_n 2, 1) := by decide +kernel
theorem dX5_inCommon_4 : decode cX5_inCommon 4 = .ok (.iload_n 2, 1) := by decide +kernel
theorem dX5_inCommon_5 : decode cX5_inCommon 5 = .ok (.bipush 8, 2) := by decide +kernel
theorem dX5_inCommon_7 : decode cX5_inCommon 7 = .ok (.if_icmp .ge 63, 3) := by decide +kernel
theorem dX5_inCommon_10 : decode cX5_inCommon 10 = .ok (.aload_n 0, 1) := by decide +kernel
theorem dX5_inCommon_11 : decode cX5_inCommon 11 = .ok (.iconst 0, 1) := by decide +kernel
theorem dX5_inCommon_12 : decode cX5_inCommon 12 = .ok (.iload_n 2, 1) := by decide +kernel
theorem dX5_inCommon_13 : decode cX5_inCommon 13 = .ok (.invokevirtual 57, 3) := by decide +kernel
theorem dX5_inCommon_16 : decode cX5_inCommon 16 = .ok (.aload_n 0, 1) := by decide +kernel
theorem dX5_inCommon_17 : decode cX5_inCommon 17 = .ok (.iconst 1, 1) := by decide +kernel
theorem dX5_inCommon_18 : decode cX5_inCommon 18 = .ok (.iload_n 2, 1) := by decide +kernel
theorem dX5_inCommon_19 : decode cX5_inCommon 19 = .ok (.invokevirtual 57, 3) := by decide +kernel
theorem dX5_inCommon_22 : decode cX5_inCommon 22 = .ok (.if_icmp .ge 12, 3) := by decide +kernel
theorem dX5_inCommon_25 : decode cX5_inCommon 25 = .ok (.aload_n 0, 1) := by decide +kernel
theorem dX5_inCommon_26 : decode cX5_inCommon 26 = .ok (.iconst 0, 1) := by decide +kernel
theorem dX5_inCommon_27 : decode cX5_inCommon 27 = .ok (.iload_n 2, 1) := by decide +kernel
theorem dX5_inCommon_28 : decode cX5_inCommon 28 = .ok (.invokevirtual 57, 3) := by decide +kernel
theorem dX5_inCommon_31 : decode cX5_inCommon 31 = .ok (.goto 9, 3) := by decide +kernel
theorem dX5_inCommon_34 : decode cX5_inCommon 34 = .ok (.aload_n 0, 1) := by decide +kernel
theorem dX5_inCommon_35 : decode cX5_inCommon 35 = .ok (.iconst 1, 1) := by decide +kernel
theorem dX5_inCommon_36 : decode cX5_inCommon 36 = .ok (.iload_n 2, 1) := by decide +kernel
theorem dX5_inCommon_37 : decode cX5_inCommon 37 = .ok (.invokevirtual 57, 3) := by decide +kernel
theorem dX5_inCommon_40 : decode cX5_inCommon 40 = .ok (.istore_n 3, 1) := by decide +kernel
theorem dX5_inCommon_41 : decode cX5_inCommon 41 = .ok (.iload_n 1, 1) := by decide +kernel
theorem dX5_inCommon_42 : decode cX5_inCommon 42 = .ok (.iload_n 3, 1) := by decide +kernel
theorem dX5_inCommon_43 : decode cX5_inCommon 43 = .ok (.aload_n 0, 1) := by decide +kernel
theorem dX5_inCommon_44 : decode cX5_inCommon 44 = .ok (.iconst 2, 1) := by decide +kernel
theorem dX5_inCommon_45 : decode cX5_inCommon 45 = .ok (.iload_n 2, 1) := by decide +kernel
theorem dX5_inCommon_46 : decode cX5_inCommon 46 = .ok (.invokevirtual 57, 3) := by decide +kernel
theorem dX5_inCommon_49 : decode cX5_inCommon 49 = .ok (.if_icmp .ge 7, 3) := by decide +kernel
theorem dX5_inCommon_52 : decode cX5_inCommon 52 = .ok (.iload_n 3, 1) := by decide +kernel
theorem dX5_inCommon_53 : decode cX5_inCommon 53 = .ok (.goto 9, 3) := by decide +kernel
theorem dX5_inCommon_56 : decode cX5_inCommon 56 = .ok (.aload_n 0, 1) := by decide +kernel
theorem dX5_inCommon_57 : decode cX5_inCommon 57 = .ok (.iconst 2, 1) := by decide +kernel
theorem dX5_inCommon_58 : decode cX5_inCommon 58 = .ok (.iload_n 2, 1) := by decide +kernel
theorem dX5_inCommon_59 : decode cX5_inCommon 59 = .ok (.invokevirtual 57, 3) := by decide +kernel
theorem dX5_inCommon_62 : decode cX5_inCommon 62 = .ok (.iadd, 1) := by decide +kernel
theorem dX5_inCommon_63 : decode cX5_inCommon 63 = .ok (.istore_n 1, 1) := by decide +kernel
theorem dX5_inCommon_64 : decode cX5_inCommon 64 = .ok (.iinc 2 1, 3) := by decide +kernel
theorem dX5_inCommon_67 : decode cX5_inCommon 67 = .ok (.goto (-63), 3) := by decide +kernel
theorem dX5_inCommon_70 : decode cX5_inCommon 70 = .ok (.iload_n 1, 1) := by decide +kernel
theorem dX5_inCommon_71 : decode cX5_inCommon 71 = .ok (.ireturn, 1) := by decide +kernel
theorem dX5_leastCount_0 : decode cX5_leastCount 0 = .ok (.aload_n 0, 1) := by decide +kernel
theorem dX5_leastCount_1 : decode cX5_leastCount 1 = .ok (.invokevirtual 130, 3) := by decide +kernel
theorem dX5_leastCount_4 : decode cX5_leastCount 4 = .ok (.aload_n 0, 1) := by decide +kernel
theorem dX5_leastCount_5 : decode cX5_leastCount 5 = .ok (.getfield 116, 3) := by decide +kernel
theorem dX5_leastCount_8 : decode cX5_leastCount 8 = .ok (.ireturn, 1) := by decide +kernel
theorem dX5_counted_0 : decode cX5_counted 0 = .ok (.iload_n 1, 1) := by decide +kernel
theorem dX5_counted_1 : decode cX5_counted 1 = .ok (.tableswitch 116 0 9 #[55, 55, 55, 61, 69, 74, 79, 84, 97, 102], 55) := by decide +kernel
theorem dX5_counted_56 : decode cX5_counted 56 = .ok (.aload_n 0, 1) := by decide +kernel
theorem dX5_counted_57 : decode cX5_counted 57 = .ok (.iload_n 1, 1) := by decide +kernel
theorem dX5_counted_58 : decode cX5_counted 58 = .ok (.invokevirtual 151, 3) := by decide +kernel
theorem dX5_counted_61 : decode cX5_counted 61 = .ok (.ireturn, 1) := by decide +kernel
theorem dX5_counted_62 : decode cX5_counted 62 = .ok (.aload_n 0, 1) := by decide +kernel
theorem dX5_counted_63 : decode cX5_counted 63 = .ok (.invokevirtual 83, 3) := by decide +kernel
theorem dX5_counted_66 : decode cX5_counted 66 = .ok (.invokestatic 97, 3) := by decide +kernel
theorem dX5_counted_69 : decode cX5_counted 69 = .ok (.ireturn, 1) := by decide +kernel
theorem dX5_counted_70 : decode cX5_counted 70 = .ok (.aload_n 0, 1) := by decide +kernel
theorem dX5_counted_71 : decode cX5_counted 71 = .ok (.invokevirtual 214, 3) := by decide +kernel
theorem dX5_counted_74 : decode cX5_counted 74 = .ok (.ireturn, 1) := by decide +kernel
theorem dX5_counted_75 : decode cX5_counted 75 = .ok (.aload_n 0, 1) := by decide +kernel
theorem dX5_counted_76 : decode cX5_counted 76 = .ok (.invokevirtual 217, 3) := by decide +kernel
theorem dX5_counted_79 : decode cX5_counted 79 = .ok (.ireturn, 1) := by decide +kernel
theorem dX5_counted_80 : decode cX5_counted 80 = .ok (.aload_n 0, 1) := by decide +kernel
theorem dX5_counted_81 : decode cX5_counted 81 = .ok (.invokevirtual 220, 3) := by decide +kernel
theorem dX5_counted_84 : decode cX5_counted 84 = .ok (.ireturn, 1) := by decide +kernel
theorem dX5_counted_85 : decode cX5_counted 85 = .ok (.aload_n 0, 1) := by decide +kernel
theorem dX5_counted_86 : decode cX5_counted 86 = .ok (.invokevirtual 223, 3) := by decide +kernel
theorem dX5_counted_89 : decode cX5_counted 89 = .ok (.ifCond .eq 7, 3) := by decide +kernel
theorem dX5_counted_92 : decode cX5_counted 92 = .ok (.iconst 1, 1) := by decide +kernel
theorem dX5_counted_93 : decode cX5_counted 93 = .ok (.goto 4, 3) := by decide +kernel
theorem dX5_counted_96 : decode cX5_counted 96 = .ok (.iconst 0, 1) := by decide +kernel
theorem dX5_counted_97 : decode cX5_counted 97 = .ok (.ireturn, 1) := by decide +kernel
theorem dX5_counted_98 : decode cX5_counted 98 = .ok (.aload_n 0, 1) := by decide +kernel
theorem dX5_counted_99 : decode cX5_counted 99 = .ok (.invokevirtual 226, 3) := by decide +kernel
theorem dX5_counted_102 : decode cX5_counted 102 = .ok (.ireturn, 1) := by decide +kernel
theorem dX5_counted_103 : decode cX5_counted 103 = .ok (.aload_n 0, 1) := by decide +kernel
theorem dX5_counted_104 : decode cX5_counted 104 = .ok (.getfield 19, 3) := by decide +kernel
theorem dX5_counted_107 : decode cX5_counted 107 = .ok (.iconst 0, 1) := by decide +kernel
theorem dX5_counted_108 : decode cX5_counted 108 = .ok (.iaload, 1) := by decide +kernel
theorem dX5_counted_109 : decode cX5_counted 109 = .ok (.aload_n 0, 1) := by decide +kernel
theorem dX5_counted_110 : decode cX5_counted 110 = .ok (.getfield 19, 3) := by decide +kernel
theorem dX5_counted_113 : decode cX5_counted 113 = .ok (.iconst 1, 1) := by decide +kernel
theorem dX5_counted_114 : decode cX5_counted 114 = .ok (.iaload, 1) := by decide +kernel
theorem dX5_counted_115 : decode cX5_counted 115 = .ok (.iadd, 1) := by decide +kernel
theorem dX5_counted_116 : decode cX5_counted 116 = .ok (.ireturn, 1) := by decide +kernel
theorem dX5_counted_117 : decode cX5_counted 117 = .ok (.aload_n 0, 1) := by decide +kernel
theorem dX5_counted_118 : decode cX5_counted 118 = .ok (.getfield 54, 3) := by decide +kernel
theorem dX5_counted_121 : decode cX5_counted 121 = .ok (.ireturn, 1) := by decide +kernel
theorem dX5_count_0 : decode cX5_count 0 = .ok (.aload_n 0, 1) := by decide +kernel
theorem dX5_count_1 : decode cX5_count 1 = .ok (.iload_n 1, 1) := by decide +kernel
theorem dX5_count_2 : decode cX5_count 2 = .ok (.iconst 0, 1) := by decide +kernel
theorem dX5_count_3 : decode cX5_count 3 = .ok (.bipush 10, 2) := by decide +kernel
theorem dX5_count_5 : decode cX5_count 5 = .ok (.invokestatic 61, 3) := by decide +kernel
theorem dX5_count_8 : decode cX5_count 8 = .ok (.ifCond .eq 7, 3) := by decide +kernel
theorem dX5_count_11 : decode cX5_count 11 = .ok (.iconst 0, 1) := by decide +kernel
theorem dX5_count_12 : decode cX5_count 12 = .ok (.goto 4, 3) := by decide +kernel
theorem dX5_count_15 : decode cX5_count 15 = .ok (.iconst 1, 1) := by decide +kernel
theorem dX5_count_16 : decode cX5_count 16 = .ok (.putfield 50, 3) := by decide +kernel
theorem dX5_count_19 : decode cX5_count 19 = .ok (.aload_n 0, 1) := by decide +kernel
theorem dX5_count_20 : decode cX5_count 20 = .ok (.getfield 50, 3) := by decide +kernel
theorem dX5_count_23 : decode cX5_count 23 = .ok (.ifCond .le 7, 3) := by decide +kernel
theorem dX5_count_26 : decode cX5_count 26 = .ok (.iconst 0, 1) := by decide +kernel
theorem dX5_count_27 : decode cX5_count 27 = .ok (.goto 8, 3) := by decide +kernel
theorem dX5_count_30 : decode cX5_count 30 = .ok (.aload_n 0, 1) := by decide +kernel
theorem dX5_count_31 : decode cX5_count 31 = .ok (.iload_n 1, 1) := by decide +kernel
theorem dX5_count_32 : decode cX5_count 32 = .ok (.invokevirtual 229, 3) := by decide +kernel
theorem dX5_count_35 : decode cX5_count 35 = .ok (.ireturn, 1) := by decide +kernel
theorem dX5_setting_0 : decode cX5_setting 0 = .ok (.aload_n 0, 1) := by decide +kernel
theorem dX5_setting_1 : decode cX5_setting 1 = .ok (.iload_n 1, 1) := by decide +kernel
theorem dX5_setting_2 : decode cX5_setting 2 = .ok (.iconst 0, 1) := by decide +kernel
theorem dX5_setting_3 : decode cX5_setting 3 = .ok (.iconst 1, 1) := by decide +kernel
theorem dX5_setting_4 : decode cX5_setting 4 = .ok (.invokestatic 61, 3) := by decide +kernel
theorem dX5_setting_7 : decode cX5_setting 7 = .ok (.ifCond .eq 7, 3) := by decide +kernel
theorem dX5_setting_10 : decode cX5_setting 10 = .ok (.iconst 0, 1) := by decide +kernel
theorem dX5_setting_11 : decode cX5_setting 11 = .ok (.goto 4, 3) := by decide +kernel
theorem dX5_setting_14 : decode cX5_setting 14 = .ok (.iconst 1, 1) := by decide +kernel
theorem dX5_setting_15 : decode cX5_setting 15 = .ok (.putfield 50, 3) := by decide +kernel
theorem dX5_setting_18 : decode cX5_setting 18 = .ok (.aload_n 0, 1) := by decide +kernel
theorem dX5_setting_19 : decode cX5_setting 19 = .ok (.getfield 50, 3) := by decide +kernel
theorem dX5_setting_22 : decode cX5_setting 22 = .ok (.ifCond .le 7, 3) := by decide +kernel
theorem dX5_setting_25 : decode cX5_setting 25 = .ok (.iconst 0, 1) := by decide +kernel
theorem dX5_setting_26 : decode cX5_setting 26 = .ok (.goto 12, 3) := by decide +kernel
theorem dX5_setting_29 : decode cX5_setting 29 = .ok (.aload_n 0, 1) := by decide +kernel
theorem dX5_setting_30 : decode cX5_setting 30 = .ok (.getfield 7, 3) := by decide +kernel
theorem dX5_setting_33 : decode cX5_setting 33 = .ok (.bipush 24, 2) := by decide +kernel
theorem dX5_setting_35 : decode cX5_setting 35 = .ok (.iload_n 1, 1) := by decide +kernel
theorem dX5_setting_36 : decode cX5_setting 36 = .ok (.iadd, 1) := by decide +kernel
theorem dX5_setting_37 : decode cX5_setting 37 = .ok (.iaload, 1) := by decide +kernel
theorem dX5_setting_38 : decode cX5_setting 38 = .ok (.ireturn, 1) := by decide +kernel
theorem dX5_moreThen_0 : decode cX5_moreThen 0 = .ok (.aload_n 0, 1) := by decide +kernel
theorem dX5_moreThen_1 : decode cX5_moreThen 1 = .ok (.iload_n 1, 1) := by decide +kernel
theorem dX5_moreThen_2 : decode cX5_moreThen 2 = .ok (.iload_n 2, 1) := by decide +kernel
theorem dX5_moreThen_3 : decode cX5_moreThen 3 = .ok (.invokevirtual 87, 3) := by decide +kernel
theorem dX5_moreThen_6 : decode cX5_moreThen 6 = .ok (.aload_n 0, 1) := by decide +kernel
theorem dX5_moreThen_7 : decode cX5_moreThen 7 = .ok (.invokevirtual 90, 3) := by decide +kernel
theorem dX5_moreThen_10 : decode cX5_moreThen 10 = .ok (.aload_n 0, 1) := by decide +kernel
theorem dX5_moreThen_11 : decode cX5_moreThen 11 = .ok (.getfield 34, 3) := by decide +kernel
theorem dX5_moreThen_14 : decode cX5_moreThen 14 = .ok (.iconst 0, 1) := by decide +kernel
theorem dX5_moreThen_15 : decode cX5_moreThen 15 = .ok (.laload, 1) := by decide +kernel
theorem dX5_moreThen_16 : decode cX5_moreThen 16 = .ok (.lreturn, 1) := by decide +kernel
theorem dX5_ifMore_0 : decode cX5_ifMore 0 = .ok (.aload_n 0, 1) := by decide +kernel
theorem dX5_ifMore_1 : decode cX5_ifMore 1 = .ok (.iload_n 1, 1) := by decide +kernel
theorem dX5_ifMore_2 : decode cX5_ifMore 2 = .ok (.invokestatic 136, 3) := by decide +kernel
theorem dX5_ifMore_5 : decode cX5_ifMore 5 = .ok (.ifCond .ne 7, 3) := by decide +kernel
theorem dX5_ifMore_8 : decode cX5_ifMore 8 = .ok (.iconst 1, 1) := by decide +kernel
theorem dX5_ifMore_9 : decode cX5_ifMore 9 = .ok (.goto 19, 3) := by decide +kernel
theorem dX5_ifMore_12 : decode cX5_ifMore 12 = .ok (.iload_n 2, 1) := by decide +kernel
theorem dX5_ifMore_13 : decode cX5_ifMore 13 = .ok (.bipush (-9), 2) := by decide +kernel
theorem dX5_ifMore_15 : decode cX5_ifMore 15 = .ok (.bipush 9, 2) := by decide +kernel
theorem dX5_ifMore_17 : decode cX5_ifMore 17 = .ok (.invokestatic 61, 3) := by decide +kernel
theorem dX5_ifMore_20 : decode cX5_ifMore 20 = .ok (.ifCond .eq 7, 3) := by decide +kernel
theorem dX5_ifMore_23 : decode cX5_ifMore 23 = .ok (.iconst 0, 1) := by decide +kernel
theorem dX5_ifMore_24 : decode cX5_ifMore 24 = .ok (.goto 4, 3) := by decide +kernel
theorem dX5_ifMore_27 : decode cX5_ifMore 27 = .ok (.iconst 2, 1) := by decide +kernel
theorem dX5_ifMore_28 : decode cX5_ifMore 28 = .ok (.putfield 50, 3) := by decide +kernel
theorem dX5_ifMore_31 : decode cX5_ifMore 31 = .ok (.aload_n 0, 1) := by decide +kernel
theorem dX5_ifMore_32 : decode cX5_ifMore 32 = .ok (.getfield 50, 3) := by decide +kernel
theorem dX5_ifMore_35 : decode cX5_ifMore 35 = .ok (.ifCond .le 7, 3) := by decide +kernel
theorem dX5_ifMore_38 : decode cX5_ifMore 38 = .ok (.lconst 0, 1) := by decide +kernel
theorem dX5_ifMore_39 : decode cX5_ifMore 39 = .ok (.goto 9, 3) := by decide +kernel
theorem dX5_ifMore_42 : decode cX5_ifMore 42 = .ok (.aload_n 0, 1) := by decide +kernel
theorem dX5_ifMore_43 : decode cX5_ifMore 43 = .ok (.iload_n 1, 1) := by decide +kernel
theorem dX5_ifMore_44 : decode cX5_ifMore 44 = .ok (.iload_n 2, 1) := by decide +kernel
theorem dX5_ifMore_45 : decode cX5_ifMore 45 = .ok (.invokevirtual 232, 3) := by decide +kernel
theorem dX5_ifMore_48 : decode cX5_ifMore 48 = .ok (.lreturn, 1) := by decide +kernel
theorem dX5_rewrittenThen_0 : decode cX5_rewrittenThen 0 = .ok (.aload_n 0, 1) := by decide +kernel
theorem dX5_rewrittenThen_1 : decode cX5_rewrittenThen 1 = .ok (.iload_n 1, 1) := by decide +kernel
theorem dX5_rewrittenThen_2 : decode cX5_rewrittenThen 2 = .ok (.invokevirtual 157, 3) := by decide +kernel
theorem dX5_rewrittenThen_5 : decode cX5_rewrittenThen 5 = .ok (.aload_n 0, 1) := by decide +kernel
theorem dX5_rewrittenThen_6 : decode cX5_rewrittenThen 6 = .ok (.invokevirtual 161, 3) := by decide +kernel
theorem dX5_rewrittenThen_9 : decode cX5_rewrittenThen 9 = .ok (.ifCond .eq 7, 3) := by decide +kernel
theorem dX5_rewrittenThen_12 : decode cX5_rewrittenThen 12 = .ok (.iconst (-1), 1) := by decide +kernel
theorem dX5_rewrittenThen_13 : decode cX5_rewrittenThen 13 = .ok (.goto 8, 3) := by decide +kernel
theorem dX5_rewrittenThen_16 : decode cX5_rewrittenThen 16 = .ok (.aload_n 0, 1) := by decide +kernel
theorem dX5_rewrittenThen_17 : decode cX5_rewrittenThen 17 = .ok (.iload_n 2, 1) := by decide +kernel
theorem dX5_rewrittenThen_18 : decode cX5_rewrittenThen 18 = .ok (.invokevirtual 107, 3) := by decide +kernel
theorem dX5_rewrittenThen_21 : decode cX5_rewrittenThen 21 = .ok (.ireturn, 1) := by decide +kernel
theorem dX5_ifRewritten_0 : decode cX5_ifRewritten 0 = .ok (.aload_n 0, 1) := by decide +kernel
theorem dX5_ifRewritten_1 : decode cX5_ifRewritten 1 = .ok (.iload_n 2, 1) := by decide +kernel
theorem dX5_ifRewritten_2 : decode cX5_ifRewritten 2 = .ok (.invokestatic 136, 3) := by decide +kernel
theorem dX5_ifRewritten_5 : decode cX5_ifRewritten 5 = .ok (.ifCond .ne 7, 3) := by decide +kernel
theorem dX5_ifRewritten_8 : decode cX5_ifRewritten 8 = .ok (.iconst 1, 1) := by decide +kernel
theorem dX5_ifRewritten_9 : decode cX5_ifRewritten 9 = .ok (.goto 16, 3) := by decide +kernel
theorem dX5_ifRewritten_12 : decode cX5_ifRewritten 12 = .ok (.aload_n 0, 1) := by decide +kernel
theorem dX5_ifRewritten_13 : decode cX5_ifRewritten 13 = .ok (.iload_n 1, 1) := by decide +kernel
theorem dX5_ifRewritten_14 : decode cX5_ifRewritten 14 = .ok (.invokevirtual 154, 3) := by decide +kernel
theorem dX5_ifRewritten_17 : decode cX5_ifRewritten 17 = .ok (.ifCond .eq 7, 3) := by decide +kernel
theorem dX5_ifRewritten_20 : decode cX5_ifRewritten 20 = .ok (.iconst 0, 1) := by decide +kernel
theorem dX5_ifRewritten_21 : decode cX5_ifRewritten 21 = .ok (.goto 4, 3) := by decide +kernel
theorem dX5_ifRewritten_24 : decode cX5_ifRewritten 24 = .ok (.iconst 2, 1) := by decide +kernel
theorem dX5_ifRewritten_25 : decode cX5_ifRewritten 25 = .ok (.putfield 50, 3) := by decide +kernel
theorem dX5_ifRewritten_28 : decode cX5_ifRewritten 28 = .ok (.aload_n 0, 1) := by decide +kernel
theorem dX5_ifRewritten_29 : decode cX5_ifRewritten 29 = .ok (.getfield 50, 3) := by decide +kernel
theorem dX5_ifRewritten_32 : decode cX5_ifRewritten 32 = .ok (.ifCond .le 7, 3) := by decide +kernel
theorem dX5_ifRewritten_35 : decode cX5_ifRewritten 35 = .ok (.iconst 0, 1) := by decide +kernel
theorem dX5_ifRewritten_36 : decode cX5_ifRewritten 36 = .ok (.goto 9, 3) := by decide +kernel
theorem dX5_ifRewritten_39 : decode cX5_ifRewritten 39 = .ok (.aload_n 0, 1) := by decide +kernel
theorem dX5_ifRewritten_40 : decode cX5_ifRewritten 40 = .ok (.iload_n 1, 1) := by decide +kernel
theorem dX5_ifRewritten_41 : decode cX5_ifRewritten 41 = .ok (.iload_n 2, 1) := by decide +kernel
theorem dX5_ifRewritten_42 : decode cX5_ifRewritten 42 = .ok (.invokevirtual 236, 3) := by decide +kernel
theorem dX5_ifRewritten_45 : decode cX5_ifRewritten 45 = .ok (.ireturn, 1) := by decide +kernel
theorem dX5_factorsOfValue_0 : decode cX5_factorsOfValue 0 = .ok (.aload_n 0, 1) := by decide +kernel
theorem dX5_factorsOfValue_1 : decode cX5_factorsOfValue 1 = .ok (.getfield 38, 3) := by decide +kernel
theorem dX5_factorsOfValue_4 : decode cX5_factorsOfValue 4 = .ok (.iconst 4, 1) := by decide +kernel
theorem dX5_factorsOfValue_5 : decode cX5_factorsOfValue 5 = .ok (.iload_n 1, 1) := by decide +kernel
theorem dX5_factorsOfValue_6 : decode cX5_factorsOfValue 6 = .ok (.imul, 1) := by decide +kernel
theorem dX5_factorsOfValue_7 : decode cX5_factorsOfValue 7 = .ok (.iaload, 1) := by decide +kernel
theorem dX5_factorsOfValue_8 : decode cX5_factorsOfValue 8 = .ok (.aload_n 0, 1) := by decide +kernel
theorem dX5_factorsOfValue_9 : decode cX5_factorsOfValue 9 = .ok (.getfield 38, 3) := by decide +kernel
theorem dX5_factorsOfValue_12 : decode cX5_factorsOfValue 12 = .ok (.iconst 4, 1) := by decide +kernel
theorem dX5_factorsOfValue_13 : decode cX5_factorsOfValue 13 = .ok (.iload_n 1, 1) := by decide +kernel
theorem dX5_factorsOfValue_14 : decode cX5_factorsOfValue 14 = .ok (.imul, 1) := by decide +kernel
theorem dX5_factorsOfValue_15 : decode cX5_factorsOfValue 15 = .ok (.iconst 1, 1) := by decide +kernel
theorem dX5_factorsOfValue_16 : decode cX5_factorsOfValue 16 = .ok (.iadd, 1) := by decide +kernel
theorem dX5_factorsOfValue_17 : decode cX5_factorsOfValue 17 = .ok (.iaload, 1) := by decide +kernel
theorem dX5_factorsOfValue_18 : decode cX5_factorsOfValue 18 = .ok (.iadd, 1) := by decide +kernel
theorem dX5_factorsOfValue_19 : decode cX5_factorsOfValue 19 = .ok (.aload_n 0, 1) := by decide +kernel
theorem dX5_factorsOfValue_20 : decode cX5_factorsOfValue 20 = .ok (.getfield 38, 3) := by decide +kernel
theorem dX5_factorsOfValue_23 : decode cX5_factorsOfValue 23 = .ok (.iconst 4, 1) := by decide +kernel
theorem dX5_factorsOfValue_24 : decode cX5_factorsOfValue 24 = .ok (.iload_n 1, 1) := by decide +kernel
theorem dX5_factorsOfValue_25 : decode cX5_factorsOfValue 25 = .ok (.imul, 1) := by decide +kernel
theorem dX5_factorsOfValue_26 : decode cX5_factorsOfValue 26 = .ok (.iconst 2, 1) := by decide +kernel
theorem dX5_factorsOfValue_27 : decode cX5_factorsOfValue 27 = .ok (.iadd, 1) := by decide +kernel
theorem dX5_factorsOfValue_28 : decode cX5_factorsOfValue 28 = .ok (.iaload, 1) := by decide +kernel
theorem dX5_factorsOfValue_29 : decode cX5_factorsOfValue 29 = .ok (.iadd, 1) := by decide +kernel
theorem dX5_factorsOfValue_30 : decode cX5_factorsOfValue 30 = .ok (.aload_n 0, 1) := by decide +kernel
theorem dX5_factorsOfValue_31 : decode cX5_factorsOfValue 31 = .ok (.getfield 38, 3) := by decide +kernel
theorem dX5_factorsOfValue_34 : decode cX5_factorsOfValue 34 = .ok (.iconst 4, 1) := by decide +kernel
theorem dX5_factorsOfValue_35 : decode cX5_factorsOfValue 35 = .ok (.iload_n 1, 1) := by decide +kernel
theorem dX5_factorsOfValue_36 : decode cX5_factorsOfValue 36 = .ok (.imul, 1) := by decide +kernel
theorem dX5_factorsOfValue_37 : decode cX5_factorsOfValue 37 = .ok (.iconst 3, 1) := by decide +kernel
theorem dX5_factorsOfValue_38 : decode cX5_factorsOfValue 38 = .ok (.iadd, 1) := by decide +kernel
theorem dX5_factorsOfValue_39 : decode cX5_factorsOfValue 39 = .ok (.iaload, 1) := by decide +kernel
theorem dX5_factorsOfValue_40 : decode cX5_factorsOfValue 40 = .ok (.iadd, 1) := by decide +kernel
theorem dX5_factorsOfValue_41 : decode cX5_factorsOfValue 41 = .ok (.ireturn, 1) := by decide +kernel
theorem dX5_shortestNow_0 : decode cX5_shortestNow 0 = .ok (.aload_n 0, 1) := by decide +kernel
theorem dX5_shortestNow_1 : decode cX5_shortestNow 1 = .ok (.iconst 0, 1) := by decide +kernel
theorem dX5_shortestNow_2 : decode cX5_shortestNow 2 = .ok (.iload_n 1, 1) := by decide +kernel
theorem dX5_shortestNow_3 : decode cX5_shortestNow 3 = .ok (.invokevirtual 65, 3) := by decide +kernel
theorem dX5_shortestNow_6 : decode cX5_shortestNow 6 = .ok (.ifCond .ne 7, 3) := by decide +kernel
theorem dX5_shortestNow_9 : decode cX5_shortestNow 9 = .ok (.lconst 0, 1) := by decide +kernel
theorem dX5_shortestNow_10 : decode cX5_shortestNow 10 = .ok (.goto 7, 3) := by decide +kernel
theorem dX5_shortestNow_13 : decode cX5_shortestNow 13 = .ok (.aload_n 0, 1) := by decide +kernel
theorem dX5_shortestNow_14 : decode cX5_shortestNow 14 = .ok (.invokevirtual 100, 3) := by decide +kernel
theorem dX5_shortestNow_17 : decode cX5_shortestNow 17 = .ok (.lstore_n 2, 1) := by decide +kernel
theorem dX5_shortestNow_18 : decode cX5_shortestNow 18 = .ok (.iconst (-1), 1) := by decide +kernel
theorem dX5_shortestNow_19 : decode cX5_shortestNow 19 = .ok (.istore 4, 2) := by decide +kernel
theorem dX5_shortestNow_21 : decode cX5_shortestNow 21 = .ok (.iconst 0, 1) := by decide +kernel
theorem dX5_shortestNow_22 : decode cX5_shortestNow 22 = .ok (.istore 5, 2) := by decide +kernel
theorem dX5_shortestNow_24 : decode cX5_shortestNow 24 = .ok (.iconst 0, 1) := by decide +kernel
theorem dX5_shortestNow_25 : decode cX5_shortestNow 25 = .ok (.istore 6, 2) := by decide +kernel
theorem dX5_shortestNow_27 : decode cX5_shortestNow 27 = .ok (.iload 6, 2) := by decide +kernel
theorem dX5_shortestNow_29 : decode cX5_shortestNow 29 = .ok (.bipush 20, 2) := by decide +kernel
theorem dX5_shortestNow_31 : decode cX5_shortestNow 31 = .ok (.if_icmp .ge 77, 3) := by decide +kernel
theorem dX5_shortestNow_34 : decode cX5_shortestNow 34 = .ok (.iload 6, 2) := by decide +kernel
theorem dX5_shortestNow_36 : decode cX5_shortestNow 36 = .ok (.i2l, 1) := by decide +kernel
theorem dX5_shortestNow_37 : decode cX5_shortestNow 37 = .ok (.lload_n 2, 1) := by decide +kernel
theorem dX5_shortestNow_38 : decode cX5_shortestNow 38 = .ok (.lcmp, 1) := by decide +kernel
theorem dX5_shortestNow_39 : decode cX5_shortestNow 39 = .ok (.ifCond .ge 69, 3) := by decide +kernel
theorem dX5_shortestNow_42 : decode cX5_shortestNow 42 = .ok (.aload_n 0, 1) := by decide +kernel
theorem dX5_shortestNow_43 : decode cX5_shortestNow 43 = .ok (.iload 6, 2) := by decide +kernel
theorem dX5_shortestNow_45 : decode cX5_shortestNow 45 = .ok (.invokevirtual 157, 3) := by decide +kernel
theorem dX5_shortestNow_48 : decode cX5_shortestNow 48 = .ok (.iload 4, 2) := by decide +kernel
theorem dX5_shortestNow_50 : decode cX5_shortestNow 50 = .ok (.iconst (-1), 1) := by decide +kernel
theorem dX5_shortestNow_51 : decode cX5_shortestNow 51 = .ok (.if_icmp .eq 13, 3) := by decide +kernel
theorem dX5_shortestNow_54 : decode cX5_shortestNow 54 = .ok (.aload_n 0, 1) := by decide +kernel
theorem dX5_shortestNow_55 : decode cX5_shortestNow 55 = .ok (.iload_n 1, 1) := by decide +kernel
theorem dX5_shortestNow_56 : decode cX5_shortestNow 56 = .ok (.invokevirtual 239, 3) := by decide +kernel
theorem dX5_shortestNow_59 : decode cX5_shortestNow 59 = .ok (.iload 5, 2) := by decide +kernel
theorem dX5_shortestNow_61 : decode cX5_shortestNow 61 = .ok (.if_icmp .ge 7, 3) := by decide +kernel
theorem dX5_shortestNow_64 : decode cX5_shortestNow 64 = .ok (.iconst 1, 1) := by decide +kernel
theorem dX5_shortestNow_65 : decode cX5_shortestNow 65 = .ok (.goto 4, 3) := by decide +kernel
theorem dX5_shortestNow_68 : decode cX5_shortestNow 68 = .ok (.iconst 0, 1) := by decide +kernel
theorem dX5_shortestNow_69 : decode cX5_shortestNow 69 = .ok (.istore 7, 2) := by decide +kernel
theorem dX5_shortestNow_71 : decode cX5_shortestNow 71 = .ok (.iload 7, 2) := by decide +kernel
theorem dX5_shortestNow_73 : decode cX5_shortestNow 73 = .ok (.ifCond .eq 8, 3) := by decide +kernel
theorem dX5_shortestNow_76 : decode cX5_shortestNow 76 = .ok (.iload 6, 2) := by decide +kernel
theorem dX5_shortestNow_78 : decode cX5_shortestNow 78 = .ok (.goto 5, 3) := by decide +kernel
theorem dX5_shortestNow_81 : decode cX5_shortestNow 81 = .ok (.iload 4, 2) := by decide +kernel
theorem dX5_shortestNow_83 : decode cX5_shortestNow 83 = .ok (.istore 4, 2) := by decide +kernel
theorem dX5_shortestNow_85 : decode cX5_shortestNow 85 = .ok (.iload 7, 2) := by decide +kernel
theorem dX5_shortestNow_87 : decode cX5_shortestNow 87 = .ok (.ifCond .eq 11, 3) := by decide +kernel
theorem dX5_shortestNow_90 : decode cX5_shortestNow 90 = .ok (.aload_n 0, 1) := by decide +kernel
theorem dX5_shortestNow_91 : decode cX5_shortestNow 91 = .ok (.iload_n 1, 1) := by decide +kernel
theorem dX5_shortestNow_92 : decode cX5_shortestNow 92 = .ok (.invokevirtual 239, 3) := by decide +kernel
theorem dX5_shortestNow_95 : decode cX5_shortestNow 95 = .ok (.goto 5, 3) := by decide +kernel
theorem dX5_shortestNow_98 : decode cX5_shortestNow 98 = .ok (.iload 5, 2) := by decide +kernel
theorem dX5_shortestNow_100 : decode cX5_shortestNow 100 = .ok (.istore 5, 2) := by decide +kernel
theorem dX5_shortestNow_102 : decode cX5_shortestNow 102 = .ok (.iinc 6 1, 3) := by decide +kernel
theorem dX5_shortestNow_105 : decode cX5_shortestNow 105 = .ok (.goto (-78), 3) := by decide +kernel
theorem dX5_shortestNow_108 : decode cX5_shortestNow 108 = .ok (.iload 4, 2) := by decide +kernel
theorem dX5_shortestNow_110 : decode cX5_shortestNow 110 = .ok (.ireturn, 1) := by decide +kernel
theorem dX5_shortest_0 : decode cX5_shortest 0 = .ok (.aload_n 0, 1) := by decide +kernel
theorem dX5_shortest_1 : decode cX5_shortest 1 = .ok (.iload_n 1, 1) := by decide +kernel
theorem dX5_shortest_2 : decode cX5_shortest 2 = .ok (.invokestatic 142, 3) := by decide +kernel
theorem dX5_shortest_5 : decode cX5_shortest 5 = .ok (.ifCond .eq 7, 3) := by decide +kernel
theorem dX5_shortest_8 : decode cX5_shortest 8 = .ok (.iconst 0, 1) := by decide +kernel
theorem dX5_shortest_9 : decode cX5_shortest 9 = .ok (.goto 4, 3) := by decide +kernel
theorem dX5_shortest_12 : decode cX5_shortest 12 = .ok (.iconst 1, 1) := by decide +kernel
theorem dX5_shortest_13 : decode cX5_shortest 13 = .ok (.putfield 50, 3) := by decide +kernel
theorem dX5_shortest_16 : decode cX5_shortest 16 = .ok (.aload_n 0, 1) := by decide +kernel
theorem dX5_shortest_17 : decode cX5_shortest 17 = .ok (.getfield 50, 3) := by decide +kernel
theorem dX5_shortest_20 : decode cX5_shortest 20 = .ok (.ifCond .le 7, 3) := by decide +kernel
theorem dX5_shortest_23 : decode cX5_shortest 23 = .ok (.iconst 0, 1) := by decide +kernel
theorem dX5_shortest_24 : decode cX5_shortest 24 = .ok (.goto 8, 3) := by decide +kernel
theorem dX5_shortest_27 : decode cX5_shortest 27 = .ok (.aload_n 0, 1) := by decide +kernel
theorem dX5_shortest_28 : decode cX5_shortest 28 = .ok (.iload_n 1, 1) := by decide +kernel
theorem dX5_shortest_29 : decode cX5_shortest 29 = .ok (.invokevirtual 242, 3) := by decide +kernel
theorem dX5_shortest_32 : decode cX5_shortest 32 = .ok (.ireturn, 1) := by decide +kernel
theorem dX5_share_0 : decode cX5_share 0 = .ok (.aload_n 0, 1) := by decide +kernel
theorem dX5_share_1 : decode cX5_share 1 = .ok (.iconst 0, 1) := by decide +kernel
theorem dX5_share_2 : decode cX5_share 2 = .ok (.invokevirtual 75, 3) := by decide +kernel
theorem dX5_share_5 : decode cX5_share 5 = .ok (.aload_n 0, 1) := by decide +kernel
theorem dX5_share_6 : decode cX5_share 6 = .ok (.iconst 1, 1) := by decide +kernel
theorem dX5_share_7 : decode cX5_share 7 = .ok (.invokevirtual 75, 3) := by decide +kernel
theorem dX5_share_10 : decode cX5_share 10 = .ok (.iadd, 1) := by decide +kernel
theorem dX5_share_11 : decode cX5_share 11 = .ok (.aload_n 0, 1) := by decide +kernel
theorem dX5_share_12 : decode cX5_share 12 = .ok (.iconst 2, 1) := by decide +kernel
theorem dX5_share_13 : decode cX5_share 13 = .ok (.invokevirtual 75, 3) := by decide +kernel
theorem dX5_share_16 : decode cX5_share 16 = .ok (.iadd, 1) := by decide +kernel
theorem dX5_share_17 : decode cX5_share 17 = .ok (.aload_n 0, 1) := by decide +kernel
theorem dX5_share_18 : decode cX5_share 18 = .ok (.iconst 3, 1) := by decide +kernel
theorem dX5_share_19 : decode cX5_share 19 = .ok (.invokevirtual 75, 3) := by decide +kernel
theorem dX5_share_22 : decode cX5_share 22 = .ok (.iadd, 1) := by decide +kernel
theorem dX5_share_23 : decode cX5_share 23 = .ok (.istore_n 1, 1) := by decide +kernel
theorem dX5_share_24 : decode cX5_share 24 = .ok (.aload_n 0, 1) := by decide +kernel
theorem dX5_share_25 : decode cX5_share 25 = .ok (.iconst 2, 1) := by decide +kernel
theorem dX5_share_26 : decode cX5_share 26 = .ok (.invokevirtual 151, 3) := by decide +kernel
theorem dX5_share_29 : decode cX5_share 29 = .ok (.ifCond .eq 10, 3) := by decide +kernel
theorem dX5_share_32 : decode cX5_share 32 = .ok (.aload_n 0, 1) := by decide +kernel
theorem dX5_share_33 : decode cX5_share 33 = .ok (.invokevirtual 220, 3) := by decide +kernel
theorem dX5_share_36 : decode cX5_share 36 = .ok (.ifCond .le 7, 3) := by decide +kernel
theorem dX5_share_39 : decode cX5_share 39 = .ok (.dconst 0, 1) := by decide +kernel
theorem dX5_share_40 : decode cX5_share 40 = .ok (.goto 12, 3) := by decide +kernel
theorem dX5_share_43 : decode cX5_share 43 = .ok (.iload_n 1, 1) := by decide +kernel
theorem dX5_share_44 : decode cX5_share 44 = .ok (.i2d, 1) := by decide +kernel
theorem dX5_share_45 : decode cX5_share 45 = .ok (.aload_n 0, 1) := by decide +kernel
theorem dX5_share_46 : decode cX5_share 46 = .ok (.iconst 2, 1) := by decide +kernel
theorem dX5_share_47 : decode cX5_share 47 = .ok (.invokevirtual 151, 3) := by decide +kernel
theorem dX5_share_50 : decode cX5_share 50 = .ok (.i2d, 1) := by decide +kernel
theorem dX5_share_51 : decode cX5_share 51 = .ok (.ddiv, 1) := by decide +kernel
theorem dX5_share_52 : decode cX5_share 52 = .ok (.dreturn, 1) := by decide +kernel
theorem dX5_openShare_0 : decode cX5_openShare 0 = .ok (.aload_n 0, 1) := by decide +kernel
theorem dX5_openShare_1 : decode cX5_openShare 1 = .ok (.iconst 0, 1) := by decide +kernel
theorem dX5_openShare_2 : decode cX5_openShare 2 = .ok (.putfield 50, 3) := by decide +kernel
theorem dX5_openShare_5 : decode cX5_openShare 5 = .ok (.aload_n 0, 1) := by decide +kernel
theorem dX5_openShare_6 : decode cX5_openShare 6 = .ok (.invokevirtual 245, 3) := by decide +kernel
theorem dX5_openShare_9 : decode cX5_openShare 9 = .ok (.dreturn, 1) := by decide +kernel
theorem dX5_mix_0 : decode cX5_mix 0 = .ok (.aload_n 0, 1) := by decide +kernel
theorem dX5_mix_1 : decode cX5_mix 1 = .ok (.ldc2_w 249, 3) := by decide +kernel
theorem dX5_mix_4 : decode cX5_mix 4 = .ok (.aload_n 0, 1) := by decide +kernel
theorem dX5_mix_5 : decode cX5_mix 5 = .ok (.getfield 251, 3) := by decide +kernel
theorem dX5_mix_8 : decode cX5_mix 8 = .ok (.lmul, 1) := by decide +kernel
theorem dX5_mix_9 : decode cX5_mix 9 = .ok (.lload_n 1, 1) := by decide +kernel
theorem dX5_mix_10 : decode cX5_mix 10 = .ok (.ladd, 1) := by decide +kernel
theorem dX5_mix_11 : decode cX5_mix 11 = .ok (.putfield 251, 3) := by decide +kernel
theorem dX5_mix_14 : decode cX5_mix 14 = .ok (.return_, 1) := by decide +kernel
theorem dX5_mixMatcher_0 : decode cX5_mixMatcher 0 = .ok (.aload_n 0, 1) := by decide +kernel
theorem dX5_mixMatcher_1 : decode cX5_mixMatcher 1 = .ok (.iload_n 1, 1) := by decide +kernel
theorem dX5_mixMatcher_2 : decode cX5_mixMatcher 2 = .ok (.invokevirtual 157, 3) := by decide +kernel
theorem dX5_mixMatcher_5 : decode cX5_mixMatcher 5 = .ok (.iconst 0, 1) := by decide +kernel
theorem dX5_mixMatcher_6 : decode cX5_mixMatcher 6 = .ok (.istore_n 2, 1) := by decide +kernel
theorem dX5_mixMatcher_7 : decode cX5_mixMatcher 7 = .ok (.iload_n 2, 1) := by decide +kernel
theorem dX5_mixMatcher_8 : decode cX5_mixMatcher 8 = .ok (.bipush 16, 2) := by decide +kernel
theorem dX5_mixMatcher_10 : decode cX5_mixMatcher 10 = .ok (.if_icmp .ge 24, 3) := by decide +kernel
theorem dX5_mixMatcher_13 : decode cX5_mixMatcher 13 = .ok (.aload_n 0, 1) := by decide +kernel
theorem dX5_mixMatcher_14 : decode cX5_mixMatcher 14 = .ok (.aload_n 0, 1) := by decide +kernel
theorem dX5_mixMatcher_15 : decode cX5_mixMatcher 15 = .ok (.iload_n 2, 1) := by decide +kernel
theorem dX5_mixMatcher_16 : decode cX5_mixMatcher 16 = .ok (.iconst 4, 1) := by decide +kernel
theorem dX5_mixMatcher_17 : decode cX5_mixMatcher 17 = .ok (.idiv, 1) := by decide +kernel
theorem dX5_mixMatcher_18 : decode cX5_mixMatcher 18 = .ok (.iload_n 2, 1) := by decide +kernel
theorem dX5_mixMatcher_19 : decode cX5_mixMatcher 19 = .ok (.iconst 4, 1) := by decide +kernel
theorem dX5_mixMatcher_20 : decode cX5_mixMatcher 20 = .ok (.irem, 1) := by decide +kernel
theorem dX5_mixMatcher_21 : decode cX5_mixMatcher 21 = .ok (.invokevirtual 201, 3) := by decide +kernel
theorem dX5_mixMatcher_24 : decode cX5_mixMatcher 24 = .ok (.i2l, 1) := by decide +kernel
theorem dX5_mixMatcher_25 : decode cX5_mixMatcher 25 = .ok (.invokevirtual 255, 3) := by decide +kernel
theorem dX5_mixMatcher_28 : decode cX5_mixMatcher 28 = .ok (.iinc 2 1, 3) := by decide +kernel
theorem dX5_mixMatcher_31 : decode cX5_mixMatcher 31 = .ok (.goto (-24), 3) := by decide +kernel
theorem dX5_mixMatcher_34 : decode cX5_mixMatcher 34 = .ok (.iconst 0, 1) := by decide +kernel
theorem dX5_mixMatcher_35 : decode cX5_mixMatcher 35 = .ok (.istore_n 2, 1) := by decide +kernel
theorem dX5_mixMatcher_36 : decode cX5_mixMatcher 36 = .ok (.iload_n 2, 1) := by decide +kernel
theorem dX5_mixMatcher_37 : decode cX5_mixMatcher 37 = .ok (.iconst 4, 1) := by decide +kernel
theorem dX5_mixMatcher_38 : decode cX5_mixMatcher 38 = .ok (.if_icmp .ge 32, 3) := by decide +kernel
theorem dX5_mixMatcher_41 : decode cX5_mixMatcher 41 = .ok (.aload_n 0, 1) := by decide +kernel
theorem dX5_mixMatcher_42 : decode cX5_mixMatcher 42 = .ok (.aload_n 0, 1) := by decide +kernel
theorem dX5_mixMatcher_43 : decode cX5_mixMatcher 43 = .ok (.invokevirtual 161, 3) := by decide +kernel
theorem dX5_mixMatcher_46 : decode cX5_mixMatcher 46 = .ok (.ifCond .eq 9, 3) := by decide +kernel
theorem dX5_mixMatcher_49 : decode cX5_mixMatcher 49 = .ok (.ldc2_w 259, 3) := by decide +kernel
theorem dX5_mixMatcher_52 : decode cX5_mixMatcher 52 = .ok (.goto 9, 3) := by decide +kernel
theorem dX5_mixMatcher_55 : decode cX5_mixMatcher 55 = .ok (.aload_n 0, 1) := by decide +kernel
theorem dX5_mixMatcher_56 : decode cX5_mixMatcher 56 = .ok (.iload_n 2, 1) := by decide +kernel
theorem dX5_mixMatcher_57 : decode cX5_mixMatcher 57 = .ok (.invokevirtual 107, 3) := by decide +kernel
theorem dX5_mixMatcher_60 : decode cX5_mixMatcher 60 = .ok (.i2l, 1) := by decide +kernel
theorem dX5_mixMatcher_61 : decode cX5_mixMatcher 61 = .ok (.invokevirtual 255, 3) := by decide +kernel
theorem dX5_mixMatcher_64 : decode cX5_mixMatcher 64 = .ok (.iinc 2 1, 3) := by decide +kernel
theorem dX5_mixMatcher_67 : decode cX5_mixMatcher 67 = .ok (.goto (-31), 3) := by decide +kernel
theorem dX5_mixMatcher_70 : decode cX5_mixMatcher 70 = .ok (.return_, 1) := by decide +kernel
theorem dX5_digest_0 : decode cX5_digest 0 = .ok (.aload_n 0, 1) := by decide +kernel
theorem dX5_digest_1 : decode cX5_digest 1 = .ok (.iconst 0, 1) := by decide +kernel
theorem dX5_digest_2 : decode cX5_digest 2 = .ok (.putfield 50, 3) := by decide +kernel
theorem dX5_digest_5 : decode cX5_digest 5 = .ok (.aload_n 0, 1) := by decide +kernel
theorem dX5_digest_6 : decode cX5_digest 6 = .ok (.ldc2_w 261, 3) := by decide +kernel
theorem dX5_digest_9 : decode cX5_digest 9 = .ok (.putfield 251, 3) := by decide +kernel
theorem dX5_digest_12 : decode cX5_digest 12 = .ok (.iconst 0, 1) := by decide +kernel
theorem dX5_digest_13 : decode cX5_digest 13 = .ok (.istore_n 1, 1) := by decide +kernel
theorem dX5_digest_14 : decode cX5_digest 14 = .ok (.iload_n 1, 1) := by decide +kernel
theorem dX5_digest_15 : decode cX5_digest 15 = .ok (.bipush 11, 2) := by decide +kernel
theorem dX5_digest_17 : decode cX5_digest 17 = .ok (.if_icmp .ge 19, 3) := by decide +kernel
theorem dX5_digest_20 : decode cX5_digest 20 = .ok (.aload_n 0, 1) := by decide +kernel
theorem dX5_digest_21 : decode cX5_digest 21 = .ok (.aload_n 0, 1) := by decide +kernel
theorem dX5_digest_22 : decode cX5_digest 22 = .ok (.iload_n 1, 1) := by decide +kernel
theorem dX5_digest_23 : decode cX5_digest 23 = .ok (.invokevirtual 229, 3) := by decide +kernel
theorem dX5_digest_26 : decode cX5_digest 26 = .ok (.i2l, 1) := by decide +kernel
theorem dX5_digest_27 : decode cX5_digest 27 = .ok (.invokevirtual 255, 3) := by decide +kernel
theorem dX5_digest_30 : decode cX5_digest 30 = .ok (.iinc 1 1, 3) := by decide +kernel
theorem dX5_digest_33 : decode cX5_digest 33 = .ok (.goto (-19), 3) := by decide +kernel
theorem dX5_digest_36 : decode cX5_digest 36 = .ok (.aload_n 0, 1) := by decide +kernel
theorem dX5_digest_37 : decode cX5_digest 37 = .ok (.aload_n 0, 1) := by decide +kernel
theorem dX5_digest_38 : decode cX5_digest 38 = .ok (.getfield 7, 3) := by decide +kernel
theorem dX5_digest_41 : decode cX5_digest 41 = .ok (.bipush 24, 2) := by decide +kernel
theorem dX5_digest_43 : decode cX5_digest 43 = .ok (.iaload, 1) := by decide +kernel
theorem dX5_digest_44 : decode cX5_digest 44 = .ok (.i2l, 1) := by decide +kernel
theorem dX5_digest_45 : decode cX5_digest 45 = .ok (.invokevirtual 255, 3) := by decide +kernel
theorem dX5_digest_48 : decode cX5_digest 48 = .ok (.aload_n 0, 1) := by decide +kernel
theorem dX5_digest_49 : decode cX5_digest 49 = .ok (.aload_n 0, 1) := by decide +kernel
theorem dX5_digest_50 : decode cX5_digest 50 = .ok (.getfield 7, 3) := by decide +kernel
theorem dX5_digest_53 : decode cX5_digest 53 = .ok (.bipush 25, 2) := by decide +kernel
theorem dX5_digest_55 : decode cX5_digest 55 = .ok (.iaload, 1) := by decide +kernel
theorem dX5_digest_56 : decode cX5_digest 56 = .ok (.i2l, 1) := by decide +kernel
theorem dX5_digest_57 : decode cX5_digest 57 = .ok (.invokevirtual 255, 3) := by decide +kernel
theorem dX5_digest_60 : decode cX5_digest 60 = .ok (.iconst 0, 1) := by decide +kernel
theorem dX5_digest_61 : decode cX5_digest 61 = .ok (.istore_n 1, 1) := by decide +kernel
theorem dX5_digest_62 : decode cX5_digest 62 = .ok (.iload_n 1, 1) := by decide +kernel
theorem dX5_digest_63 : decode cX5_digest 63 = .ok (.bipush 24, 2) := by decide +kernel
theorem dX5_digest_65 : decode cX5_digest 65 = .ok (.if_icmp .ge 20, 3) := by decide +kernel
theorem dX5_digest_68 : decode cX5_digest 68 = .ok (.aload_n 0, 1) := by decide +kernel
theorem dX5_digest_69 : decode cX5_digest 69 = .ok (.aload_n 0, 1) := by decide +kernel
theorem dX5_digest_70 : decode cX5_digest 70 = .ok (.getfield 7, 3) := by decide +kernel
theorem dX5_digest_73 : decode cX5_digest 73 = .ok (.iload_n 1, 1) := by decide +kernel
theorem dX5_digest_74 : decode cX5_digest 74 = .ok (.iaload, 1) := by decide +kernel
theorem dX5_digest_75 : decode cX5_digest 75 = .ok (.i2l, 1) := by decide +kernel
theorem dX5_digest_76 : decode cX5_digest 76 = .ok (.invokevirtual 255, 3) := by decide +kernel
theorem dX5_digest_79 : decode cX5_digest 79 = .ok (.iinc 1 1, 3) := by decide +kernel
theorem dX5_digest_82 : decode cX5_digest 82 = .ok (.goto (-20), 3) := by decide +kernel
theorem dX5_digest_85 : decode cX5_digest 85 = .ok (.iconst 0, 1) := by decide +kernel
theorem dX5_digest_86 : decode cX5_digest 86 = .ok (.istore_n 1, 1) := by decide +kernel
theorem dX5_digest_87 : decode cX5_digest 87 = .ok (.iload_n 1, 1) := by decide +kernel
theorem dX5_digest_88 : decode cX5_digest 88 = .ok (.iconst 4, 1) := by decide +kernel
theorem dX5_digest_89 : decode cX5_digest 89 = .ok (.if_icmp .ge 39, 3) := by decide +kernel
theorem dX5_digest_92 : decode cX5_digest 92 = .ok (.aload_n 0, 1) := by decide +kernel
theorem dX5_digest_93 : decode cX5_digest 93 = .ok (.aload_n 0, 1) := by decide +kernel
theorem dX5_digest_94 : decode cX5_digest 94 = .ok (.iload_n 1, 1) := by decide +kernel
theorem dX5_digest_95 : decode cX5_digest 95 = .ok (.invokevirtual 75, 3) := by decide +kernel
theorem dX5_digest_98 : decode cX5_digest 98 = .ok (.i2l, 1) := by decide +kernel
theorem dX5_digest_99 : decode cX5_digest 99 = .ok (.invokevirtual 255, 3) := by decide +kernel
theorem dX5_digest_102 : decode cX5_digest 102 = .ok (.aload_n 0, 1) := by decide +kernel
theorem dX5_digest_103 : decode cX5_digest 103 = .ok (.aload_n 0, 1) := by decide +kernel
theorem dX5_digest_104 : decode cX5_digest 104 = .ok (.iload_n 1, 1) := by decide +kernel
theorem dX5_digest_105 : decode cX5_digest 105 = .ok (.invokevirtual 192, 3) := by decide +kernel
theorem dX5_digest_108 : decode cX5_digest 108 = .ok (.i2l, 1) := by decide +kernel
theorem dX5_digest_109 : decode cX5_digest 109 = .ok (.invokevirtual 255, 3) := by decide +kernel
theorem dX5_digest_112 : decode cX5_digest 112 = .ok (.aload_n 0, 1) := by decide +kernel
theorem dX5_digest_113 : decode cX5_digest 113 = .ok (.aload_n 0, 1) := by decide +kernel
theorem dX5_digest_114 : decode cX5_digest 114 = .ok (.iload_n 1, 1) := by decide +kernel
theorem dX5_digest_115 : decode cX5_digest 115 = .ok (.iconst 1, 1) := by decide +kernel
theorem dX5_digest_116 : decode cX5_digest 116 = .ok (.invokevirtual 232, 3) := by decide +kernel
theorem dX5_digest_119 : decode cX5_digest 119 = .ok (.invokevirtual 255, 3) := by decide +kernel
theorem dX5_digest_122 : decode cX5_digest 122 = .ok (.iinc 1 1, 3) := by decide +kernel
theorem dX5_digest_125 : decode cX5_digest 125 = .ok (.goto (-38), 3) := by decide +kernel
theorem dX5_digest_128 : decode cX5_digest 128 = .ok (.aload_n 0, 1) := by decide +kernel
theorem dX5_digest_129 : decode cX5_digest 129 = .ok (.aload_n 0, 1) := by decide +kernel
theorem dX5_digest_130 : decode cX5_digest 130 = .ok (.iconst 0, 1) := by decide +kernel
theorem dX5_digest_131 : decode cX5_digest 131 = .ok (.invokevirtual 198, 3) := by decide +kernel
theorem dX5_digest_134 : decode cX5_digest 134 = .ok (.invokevirtual 255, 3) := by decide +kernel
theorem dX5_digest_137 : decode cX5_digest 137 = .ok (.aload_n 0, 1) := by decide +kernel
theorem dX5_digest_138 : decode cX5_digest 138 = .ok (.aload_n 0, 1) := by decide +kernel
theorem dX5_digest_139 : decode cX5_digest 139 = .ok (.iconst 1, 1) := by decide +kernel
theorem dX5_digest_140 : decode cX5_digest 140 = .ok (.invokevirtual 198, 3) := by decide +kernel
theorem dX5_digest_143 : decode cX5_digest 143 = .ok (.invokevirtual 255, 3) := by decide +kernel
theorem dX5_digest_146 : decode cX5_digest 146 = .ok (.aload_n 0, 1) := by decide +kernel
theorem dX5_digest_147 : decode cX5_digest 147 = .ok (.invokevirtual 100, 3) := by decide +kernel
theorem dX5_digest_150 : decode cX5_digest 150 = .ok (.lstore_n 1, 1) := by decide +kernel
theorem dX5_digest_151 : decode cX5_digest 151 = .ok (.iconst 0, 1) := by decide +kernel
theorem dX5_digest_152 : decode cX5_digest 152 = .ok (.istore_n 3, 1) := by decide +kernel
theorem dX5_digest_153 : decode cX5_digest 153 = .ok (.iload_n 3, 1) := by decide +kernel
theorem dX5_digest_154 : decode cX5_digest 154 = .ok (.iconst 3, 1) := by decide +kernel
theorem dX5_digest_155 : decode cX5_digest 155 = .ok (.if_icmp .ge 21, 3) := by decide +kernel
theorem dX5_digest_158 : decode cX5_digest 158 = .ok (.iload_n 3, 1) := by decide +kernel
theorem dX5_digest_159 : decode cX5_digest 159 = .ok (.i2l, 1) := by decide +kernel
theorem dX5_digest_160 : decode cX5_digest 160 = .ok (.lload_n 1, 1) := by decide +kernel
theorem dX5_digest_161 : decode cX5_digest 161 = .ok (.lcmp, 1) := by decide +kernel
theorem dX5_digest_162 : decode cX5_digest 162 = .ok (.ifCond .ge 14, 3) := by decide +kernel
theorem dX5_digest_165 : decode cX5_digest 165 = .ok (.aload_n 0, 1) := by decide +kernel
theorem dX5_digest_166 : decode cX5_digest 166 = .ok (.iload_n 3, 1) := by decide +kernel
theorem dX5_digest_167 : decode cX5_digest 167 = .ok (.invokevirtual 263, 3) := by decide +kernel
theorem dX5_digest_170 : decode cX5_digest 170 = .ok (.iinc 3 1, 3) := by decide +kernel
theorem dX5_digest_173 : decode cX5_digest 173 = .ok (.goto (-20), 3) := by decide +kernel
theorem dX5_digest_176 : decode cX5_digest 176 = .ok (.iconst 0, 1) := by decide +kernel
theorem dX5_digest_177 : decode cX5_digest 177 = .ok (.istore_n 3, 1) := by decide +kernel
theorem dX5_digest_178 : decode cX5_digest 178 = .ok (.iload_n 3, 1) := by decide +kernel
theorem dX5_digest_179 : decode cX5_digest 179 = .ok (.bipush 16, 2) := by decide +kernel
theorem dX5_digest_181 : decode cX5_digest 181 = .ok (.if_icmp .ge 24, 3) := by decide +kernel
theorem dX5_digest_184 : decode cX5_digest 184 = .ok (.aload_n 0, 1) := by decide +kernel
theorem dX5_digest_185 : decode cX5_digest 185 = .ok (.aload_n 0, 1) := by decide +kernel
theorem dX5_digest_186 : decode cX5_digest 186 = .ok (.iload_n 3, 1) := by decide +kernel
theorem dX5_digest_187 : decode cX5_digest 187 = .ok (.iconst 4, 1) := by decide +kernel
theorem dX5_digest_188 : decode cX5_digest 188 = .ok (.idiv, 1) := by decide +kernel
theorem dX5_digest_189 : decode cX5_digest 189 = .ok (.iload_n 3, 1) := by decide +kernel
theorem dX5_digest_190 : decode cX5_digest 190 = .ok (.iconst 4, 1) := by decide +kernel
theorem dX5_digest_191 : decode cX5_digest 191 = .ok (.irem, 1) := by decide +kernel
theorem dX5_digest_192 : decode cX5_digest 192 = .ok (.invokevirtual 204, 3) := by decide +kernel
theorem dX5_digest_195 : decode cX5_digest 195 = .ok (.i2l, 1) := by decide +kernel
theorem dX5_digest_196 : decode cX5_digest 196 = .ok (.invokevirtual 255, 3) := by decide +kernel
theorem dX5_digest_199 : decode cX5_digest 199 = .ok (.iinc 3 1, 3) := by decide +kernel
theorem dX5_digest_202 : decode cX5_digest 202 = .ok (.goto (-24), 3) := by decide +kernel
theorem dX5_digest_205 : decode cX5_digest 205 = .ok (.aload_n 0, 1) := by decide +kernel
theorem dX5_digest_206 : decode cX5_digest 206 = .ok (.aload_n 0, 1) := by decide +kernel
theorem dX5_digest_207 : decode cX5_digest 207 = .ok (.iconst 2, 1) := by decide +kernel
theorem dX5_digest_208 : decode cX5_digest 208 = .ok (.iconst 2, 1) := by decide +kernel
theorem dX5_digest_209 : decode cX5_digest 209 = .ok (.iconst 2, 1) := by decide +kernel
theorem dX5_digest_210 : decode cX5_digest 210 = .ok (.iconst 2, 1) := by decide +kernel
theorem dX5_digest_211 : decode cX5_digest 211 = .ok (.invokevirtual 210, 3) := by decide +kernel
theorem dX5_digest_214 : decode cX5_digest 214 = .ok (.i2l, 1) := by decide +kernel
theorem dX5_digest_215 : decode cX5_digest 215 = .ok (.invokevirtual 255, 3) := by decide +kernel
theorem dX5_digest_218 : decode cX5_digest 218 = .ok (.iconst 0, 1) := by decide +kernel
theorem dX5_digest_219 : decode cX5_digest 219 = .ok (.istore_n 3, 1) := by decide +kernel
theorem dX5_digest_220 : decode cX5_digest 220 = .ok (.iload_n 3, 1) := by decide +kernel
theorem dX5_digest_221 : decode cX5_digest 221 = .ok (.iconst 4, 1) := by decide +kernel
theorem dX5_digest_222 : decode cX5_digest 222 = .ok (.if_icmp .ge 19, 3) := by decide +kernel
theorem dX5_digest_225 : decode cX5_digest 225 = .ok (.aload_n 0, 1) := by decide +kernel
theorem dX5_digest_226 : decode cX5_digest 226 = .ok (.aload_n 0, 1) := by decide +kernel
theorem dX5_digest_227 : decode cX5_digest 227 = .ok (.iload_n 3, 1) := by decide +kernel
theorem dX5_digest_228 : decode cX5_digest 228 = .ok (.invokevirtual 242, 3) := by decide +kernel
theorem dX5_digest_231 : decode cX5_digest 231 = .ok (.i2l, 1) := by decide +kernel
theorem dX5_digest_232 : decode cX5_digest 232 = .ok (.invokevirtual 255, 3) := by decide +kernel
theorem dX5_digest_235 : decode cX5_digest 235 = .ok (.iinc 3 1, 3) := by decide +kernel
theorem dX5_digest_238 : decode cX5_digest 238 = .ok (.goto (-18), 3) := by decide +kernel
theorem dX5_digest_241 : decode cX5_digest 241 = .ok (.aload_n 0, 1) := by decide +kernel
theorem dX5_digest_242 : decode cX5_digest 242 = .ok (.aload_n 0, 1) := by decide +kernel
theorem dX5_digest_243 : decode cX5_digest 243 = .ok (.invokevirtual 245, 3) := by decide +kernel
theorem dX5_digest_246 : decode cX5_digest 246 = .ok (.invokestatic 266, 3) := by decide +kernel
theorem dX5_digest_249 : decode cX5_digest 249 = .ok (.invokevirtual 255, 3) := by decide +kernel
theorem dX5_digest_252 : decode cX5_digest 252 = .ok (.aload_n 0, 1) := by decide +kernel
theorem dX5_digest_253 : decode cX5_digest 253 = .ok (.aload_n 0, 1) := by decide +kernel
theorem dX5_digest_254 : decode cX5_digest 254 = .ok (.getfield 168, 3) := by decide +kernel
theorem dX5_digest_257 : decode cX5_digest 257 = .ok (.i2l, 1) := by decide +kernel
theorem dX5_digest_258 : decode cX5_digest 258 = .ok (.invokevirtual 255, 3) := by decide +kernel
theorem dX5_digest_261 : decode cX5_digest 261 = .ok (.iconst 0, 1) := by decide +kernel
theorem dX5_digest_262 : decode cX5_digest 262 = .ok (.istore_n 3, 1) := by decide +kernel
theorem dX5_digest_263 : decode cX5_digest 263 = .ok (.iload_n 3, 1) := by decide +kernel
theorem dX5_digest_264 : decode cX5_digest 264 = .ok (.aload_n 0, 1) := by decide +kernel
theorem dX5_digest_265 : decode cX5_digest 265 = .ok (.getfield 168, 3) := by decide +kernel
theorem dX5_digest_268 : decode cX5_digest 268 = .ok (.if_icmp .ge 20, 3) := by decide +kernel
theorem dX5_digest_271 : decode cX5_digest 271 = .ok (.aload_n 0, 1) := by decide +kernel
theorem dX5_digest_272 : decode cX5_digest 272 = .ok (.aload_n 0, 1) := by decide +kernel
theorem dX5_digest_273 : decode cX5_digest 273 = .ok (.getfield 22, 3) := by decide +kernel
theorem dX5_digest_276 : decode cX5_digest 276 = .ok (.iload_n 3, 1) := by decide +kernel
theorem dX5_digest_277 : decode cX5_digest 277 = .ok (.iaload, 1) := by decide +kernel
theorem dX5_digest_278 : decode cX5_digest 278 = .ok (.i2l, 1) := by decide +kernel
theorem dX5_digest_279 : decode cX5_digest 279 = .ok (.invokevirtual 255, 3) := by decide +kernel
theorem dX5_digest_282 : decode cX5_digest 282 = .ok (.iinc 3 1, 3) := by decide +kernel
theorem dX5_digest_285 : decode cX5_digest 285 = .ok (.goto (-22), 3) := by decide +kernel
theorem dX5_digest_288 : decode cX5_digest 288 = .ok (.aload_n 0, 1) := by decide +kernel
theorem dX5_digest_289 : decode cX5_digest 289 = .ok (.getfield 251, 3) := by decide +kernel
theorem dX5_digest_292 : decode cX5_digest 292 = .ok (.lreturn, 1) := by decide +kernel
end
section
theorem dL_constant_0 : decode cL_constant 0 = .ok (.aload 4, 2) := by decide +kernel
theorem dL_constant_2 : decode cL_constant 2 = .ok (.iconst 0, 1) := by decide +kernel
theorem dL_constant_3 : decode cL_constant 3 = .ok (.aload_n 0, 1) := by decide +kernel
theorem dL_constant_4 : decode cL_constant 4 = .ok (.iload_n 1, 1) := by decide +kernel
theorem dL_constant_5 : decode cL_constant 5 = .ok (.iload_n 2, 1) := by decide +kernel
theorem dL_constant_6 : decode cL_constant 6 = .ok (.iload_n 3, 1) := by decide +kernel
theorem dL_constant_7 : decode cL_constant 7 = .ok (.invokevirtual 7, 3) := by decide +kernel
theorem dL_constant_10 : decode cL_constant 10 = .ok (.i2l, 1) := by decide +kernel
theorem dL_constant_11 : decode cL_constant 11 = .ok (.lastore, 1) := by decide +kernel
theorem dL_constant_12 : decode cL_constant 12 = .ok (.goto 11, 3) := by decide +kernel
theorem dL_constant_15 : decode cL_constant 15 = .ok (.astore 5, 2) := by decide +kernel
theorem dL_constant_17 : decode cL_constant 17 = .ok (.iconst 1, 1) := by decide +kernel
theorem dL_constant_18 : decode cL_constant 18 = .ok (.ireturn, 1) := by decide +kernel
theorem dL_constant_19 : decode cL_constant 19 = .ok (.astore 5, 2) := by decide +kernel
theorem dL_constant_21 : decode cL_constant 21 = .ok (.iconst 2, 1) := by decide +kernel
theorem dL_constant_22 : decode cL_constant 22 = .ok (.ireturn, 1) := by decide +kernel
theorem dL_constant_23 : decode cL_constant 23 = .ok (.iconst 0, 1) := by decide +kernel
theorem dL_constant_24 : decode cL_constant 24 = .ok (.ireturn, 1) := by decide +kernel
theorem dL_variable_0 : decode cL_variable 0 = .ok (.aload 4, 2) := by decide +kernel
theorem dL_variable_2 : decode cL_variable 2 = .ok (.iconst 0, 1) := by decide +kernel
theorem dL_variable_3 : decode cL_variable 3 = .ok (.aload_n 0, 1) := by decide +kernel
theorem dL_variable_4 : decode cL_variable 4 = .ok (.iload_n 1, 1) := by decide +kernel
theorem dL_variable_5 : decode cL_variable 5 = .ok (.iload_n 2, 1) := by decide +kernel
theorem dL_variable_6 : decode cL_variable 6 = .ok (.iload_n 3, 1) := by decide +kernel
theorem dL_variable_7 : decode cL_variable 7 = .ok (.invokevirtual 17, 3) := by decide +kernel
theorem dL_variable_10 : decode cL_variable 10 = .ok (.i2l, 1) := by decide +kernel
theorem dL_variable_11 : decode cL_variable 11 = .ok (.lastore, 1) := by decide +kernel
theorem dL_variable_12 : decode cL_variable 12 = .ok (.goto 11, 3) := by decide +kernel
theorem dL_variable_15 : decode cL_variable 15 = .ok (.astore 5, 2) := by decide +kernel
theorem dL_variable_17 : decode cL_variable 17 = .ok (.iconst 1, 1) := by decide +kernel
theorem dL_variable_18 : decode cL_variable 18 = .ok (.ireturn, 1) := by decide +kernel
theorem dL_variable_19 : decode cL_variable 19 = .ok (.astore 5, 2) := by decide +kernel
theorem dL_variable_21 : decode cL_variable 21 = .ok (.iconst 2, 1) := by decide +kernel
theorem dL_variable_22 : decode cL_variable 22 = .ok (.ireturn, 1) := by decide +kernel
theorem dL_variable_23 : decode cL_variable 23 = .ok (.iconst 0, 1) := by decide +kernel
theorem dL_variable_24 : decode cL_variable 24 = .ok (.ireturn, 1) := by decide +kernel
theorem dL_multiply_0 : decode cL_multiply 0 = .ok (.aload_n 3, 1) := by decide +kernel
theorem dL_multiply_1 : decode cL_multiply 1 = .ok (.iconst 0, 1) := by decide +kernel
theorem dL_multiply_2 : decode cL_multiply 2 = .ok (.aload_n 0, 1) := by decide +kernel
theorem dL_multiply_3 : decode cL_multiply 3 = .ok (.iload_n 1, 1) := by decide +kernel
theorem dL_multiply_4 : decode cL_multiply 4 = .ok (.iload_n 2, 1) := by decide +kernel
theorem dL_multiply_5 : decode cL_multiply 5 = .ok (.invokevirtual 20, 3) := by decide +kernel
theorem dL_multiply_8 : decode cL_multiply 8 = .ok (.i2l, 1) := by decide +kernel
theorem dL_multiply_9 : decode cL_multiply 9 = .ok (.lastore, 1) := by decide +kernel
theorem dL_multiply_10 : decode cL_multiply 10 = .ok (.goto 11, 3) := by decide +kernel
theorem dL_multiply_13 : decode cL_multiply 13 = .ok (.astore 4, 2) := by decide +kernel
theorem dL_multiply_15 : decode cL_multiply 15 = .ok (.iconst 1, 1) := by decide +kernel
theorem dL_multiply_16 : decode cL_multiply 16 = .ok (.ireturn, 1) := by decide +kernel
theorem dL_multiply_17 : decode cL_multiply 17 = .ok (.astore 4, 2) := by decide +kernel
theorem dL_multiply_19 : decode cL_multiply 19 = .ok (.iconst 2, 1) := by decide +kernel
theorem dL_multiply_20 : decode cL_multiply 20 = .ok (.ireturn, 1) := by decide +kernel
theorem dL_multiply_21 : decode cL_multiply 21 = .ok (.iconst 0, 1) := by decide +kernel
theorem dL_multiply_22 : decode cL_multiply 22 = .ok (.ireturn, 1) := by decide +kernel
theorem dL_rewrite_0 : decode cL_rewrite 0 = .ok (.aload_n 2, 1) := by decide +kernel
theorem dL_rewrite_1 : decode cL_rewrite 1 = .ok (.iconst 0, 1) := by decide +kernel
theorem dL_rewrite_2 : decode cL_rewrite 2 = .ok (.aload_n 0, 1) := by decide +kernel
theorem dL_rewrite_3 : decode cL_rewrite 3 = .ok (.iload_n 1, 1) := by decide +kernel
theorem dL_rewrite_4 : decode cL_rewrite 4 = .ok (.invokevirtual 26, 3) := by decide +kernel
theorem dL_rewrite_7 : decode cL_rewrite 7 = .ok (.i2l, 1) := by decide +kernel
theorem dL_rewrite_8 : decode cL_rewrite 8 = .ok (.lastore, 1) := by decide +kernel
theorem dL_rewrite_9 : decode cL_rewrite 9 = .ok (.goto 9, 3) := by decide +kernel
theorem dL_rewrite_12 : decode cL_rewrite 12 = .ok (.astore_n 3, 1) := by decide +kernel
theorem dL_rewrite_13 : decode cL_rewrite 13 = .ok (.iconst 1, 1) := by decide +kernel
theorem dL_rewrite_14 : decode cL_rewrite 14 = .ok (.ireturn, 1) := by decide +kernel
theorem dL_rewrite_15 : decode cL_rewrite 15 = .ok (.astore_n 3, 1) := by decide +kernel
theorem dL_rewrite_16 : decode cL_rewrite 16 = .ok (.iconst 2, 1) := by decide +kernel
theorem dL_rewrite_17 : decode cL_rewrite 17 = .ok (.ireturn, 1) := by decide +kernel
theorem dL_rewrite_18 : decode cL_rewrite 18 = .ok (.iconst 0, 1) := by decide +kernel
theorem dL_rewrite_19 : decode cL_rewrite 19 = .ok (.ireturn, 1) := by decide +kernel
theorem dL_cancel_0 : decode cL_cancel 0 = .ok (.aload_n 3, 1) := by decide +kernel
theorem dL_cancel_1 : decode cL_cancel 1 = .ok (.iconst 0, 1) := by decide +kernel
theorem dL_cancel_2 : decode cL_cancel 2 = .ok (.aload_n 0, 1) := by decide +kernel
theorem dL_cancel_3 : decode cL_cancel 3 = .ok (.iload_n 1, 1) := by decide +kernel
theorem dL_cancel_4 : decode cL_cancel 4 = .ok (.iload_n 2, 1) := by decide +kernel
theorem dL_cancel_5 : decode cL_cancel 5 = .ok (.invokevirtual 30, 3) := by decide +kernel
theorem dL_cancel_8 : decode cL_cancel 8 = .ok (.i2l, 1) := by decide +kernel
theorem dL_cancel_9 : decode cL_cancel 9 = .ok (.lastore, 1) := by decide +kernel
theorem dL_cancel_10 : decode cL_cancel 10 = .ok (.goto 7, 3) := by decide +kernel
theorem dL_cancel_13 : decode cL_cancel 13 = .ok (.astore 4, 2) := by decide +kernel
theorem dL_cancel_15 : decode cL_cancel 15 = .ok (.iconst 1, 1) := by decide +kernel
theorem dL_cancel_16 : decode cL_cancel 16 = .ok (.ireturn, 1) := by decide +kernel
theorem dL_cancel_17 : decode cL_cancel 17 = .ok (.iconst 0, 1) := by decide +kernel
theorem dL_cancel_18 : decode cL_cancel 18 = .ok (.ireturn, 1) := by decide +kernel
theorem dL_set_0 : decode cL_set 0 = .ok (.aload_n 3, 1) := by decide +kernel
theorem dL_set_1 : decode cL_set 1 = .ok (.iconst 0, 1) := by decide +kernel
theorem dL_set_2 : decode cL_set 2 = .ok (.aload_n 0, 1) := by decide +kernel
theorem dL_set_3 : decode cL_set 3 = .ok (.iload_n 1, 1) := by decide +kernel
theorem dL_set_4 : decode cL_set 4 = .ok (.iload_n 2, 1) := by decide +kernel
theorem dL_set_5 : decode cL_set 5 = .ok (.invokevirtual 33, 3) := by decide +kernel
theorem dL_set_8 : decode cL_set 8 = .ok (.i2l, 1) := by decide +kernel
theorem dL_set_9 : decode cL_set 9 = .ok (.lastore, 1) := by decide +kernel
theorem dL_set_10 : decode cL_set 10 = .ok (.goto 11, 3) := by decide +kernel
theorem dL_set_13 : decode cL_set 13 = .ok (.astore 4, 2) := by decide +kernel
theorem dL_set_15 : decode cL_set 15 = .ok (.iconst 1, 1) := by decide +kernel
theorem dL_set_16 : decode cL_set 16 = .ok (.ireturn, 1) := by decide +kernel
theorem dL_set_17 : decode cL_set 17 = .ok (.astore 4, 2) := by decide +kernel
theorem dL_set_19 : decode cL_set 19 = .ok (.iconst 2, 1) := by decide +kernel
theorem dL_set_20 : decode cL_set 20 = .ok (.ireturn, 1) := by decide +kernel
theorem dL_set_21 : decode cL_set 21 = .ok (.iconst 0, 1) := by decide +kernel
theorem dL_set_22 : decode cL_set 22 = .ok (.ireturn, 1) := by decide +kernel
theorem dL_append_0 : decode cL_append 0 = .ok (.aload_n 2, 1) := by decide +kernel
theorem dL_append_1 : decode cL_append 1 = .ok (.iconst 0, 1) := by decide +kernel
theorem dL_append_2 : decode cL_append 2 = .ok (.aload_n 0, 1) := by decide +kernel
theorem dL_append_3 : decode cL_append 3 = .ok (.iload_n 1, 1) := by decide +kernel
theorem dL_append_4 : decode cL_append 4 = .ok (.invokevirtual 36, 3) := by decide +kernel
theorem dL_append_7 : decode cL_append 7 = .ok (.i2l, 1) := by decide +kernel
theorem dL_append_8 : decode cL_append 8 = .ok (.lastore, 1) := by decide +kernel
theorem dL_append_9 : decode cL_append 9 = .ok (.goto 9, 3) := by decide +kernel
theorem dL_append_12 : decode cL_append 12 = .ok (.astore_n 3, 1) := by decide +kernel
theorem dL_append_13 : decode cL_append 13 = .ok (.iconst 1, 1) := by decide +kernel
theorem dL_append_14 : decode cL_append 14 = .ok (.ireturn, 1) := by decide +kernel
theorem dL_append_15 : decode cL_append 15 = .ok (.astore_n 3, 1) := by decide +kernel
theorem dL_append_16 : decode cL_append 16 = .ok (.iconst 2, 1) := by decide +kernel
theorem dL_append_17 : decode cL_append 17 = .ok (.ireturn, 1) := by decide +kernel
theorem dL_append_18 : decode cL_append 18 = .ok (.iconst 0, 1) := by decide +kernel
theorem dL_append_19 : decode cL_append 19 = .ok (.ireturn, 1) := by decide +kernel
theorem dL_read_0 : decode cL_read 0 = .ok (.aload_n 2, 1) := by decide +kernel
theorem dL_read_1 : decode cL_read 1 = .ok (.iconst 0, 1) := by decide +kernel
theorem dL_read_2 : decode cL_read 2 = .ok (.aload_n 0, 1) := by decide +kernel
theorem dL_read_3 : decode cL_read 3 = .ok (.iload_n 1, 1) := by decide +kernel
theorem dL_read_4 : decode cL_read 4 = .ok (.invokevirtual 39, 3) := by decide +kernel
theorem dL_read_7 : decode cL_read 7 = .ok (.i2l, 1) := by decide +kernel
theorem dL_read_8 : decode cL_read 8 = .ok (.lastore, 1) := by decide +kernel
theorem dL_read_9 : decode cL_read 9 = .ok (.goto 12, 3) := by decide +kernel
theorem dL_read_12 : decode cL_read 12 = .ok (.astore_n 3, 1) := by decide +kernel
theorem dL_read_13 : decode cL_read 13 = .ok (.iconst 1, 1) := by decide +kernel
theorem dL_read_14 : decode cL_read 14 = .ok (.ireturn, 1) := by decide +kernel
theorem dL_read_15 : decode cL_read 15 = .ok (.astore_n 3, 1) := by decide +kernel
theorem dL_read_16 : decode cL_read 16 = .ok (.iconst 2, 1) := by decide +kernel
theorem dL_read_17 : decode cL_read 17 = .ok (.ireturn, 1) := by decide +kernel
theorem dL_read_18 : decode cL_read 18 = .ok (.astore_n 3, 1) := by decide +kernel
theorem dL_read_19 : decode cL_read 19 = .ok (.iconst 3, 1) := by decide +kernel
theorem dL_read_20 : decode cL_read 20 = .ok (.ireturn, 1) := by decide +kernel
theorem dL_read_21 : decode cL_read 21 = .ok (.iconst 0, 1) := by decide +kernel
theorem dL_read_22 : decode cL_read 22 = .ok (.ireturn, 1) := by decide +kernel
theorem dL_take_0 : decode cL_take 0 = .ok (.aload_n 2, 1) := by decide +kernel
theorem dL_take_1 : decode cL_take 1 = .ok (.iconst 0, 1) := by decide +kernel
theorem dL_take_2 : decode cL_take 2 = .ok (.aload_n 0, 1) := by decide +kernel
theorem dL_take_3 : decode cL_take 3 = .ok (.iload_n 1, 1) := by decide +kernel
theorem dL_take_4 : decode cL_take 4 = .ok (.invokevirtual 42, 3) := by decide +kernel
theorem dL_take_7 : decode cL_take 7 = .ok (.i2l, 1) := by decide +kernel
theorem dL_take_8 : decode cL_take 8 = .ok (.lastore, 1) := by decide +kernel
theorem dL_take_9 : decode cL_take 9 = .ok (.goto 6, 3) := by decide +kernel
theorem dL_take_12 : decode cL_take 12 = .ok (.astore_n 3, 1) := by decide +kernel
theorem dL_take_13 : decode cL_take 13 = .ok (.iconst 1, 1) := by decide +kernel
theorem dL_take_14 : decode cL_take 14 = .ok (.ireturn, 1) := by decide +kernel
theorem dL_take_15 : decode cL_take 15 = .ok (.iconst 0, 1) := by decide +kernel
theorem dL_take_16 : decode cL_take 16 = .ok (.ireturn, 1) := by decide +kernel
theorem dL_restore_0 : decode cL_restore 0 = .ok (.aload_n 2, 1) := by decide +kernel
theorem dL_restore_1 : decode cL_restore 1 = .ok (.iconst 0, 1) := by decide +kernel
theorem dL_restore_2 : decode cL_restore 2 = .ok (.aload_n 0, 1) := by decide +kernel
theorem dL_restore_3 : decode cL_restore 3 = .ok (.iload_n 1, 1) := by decide +kernel
theorem dL_restore_4 : decode cL_restore 4 = .ok (.invokevirtual 45, 3) := by decide +kernel
theorem dL_restore_7 : decode cL_restore 7 = .ok (.i2l, 1) := by decide +kernel
theorem dL_restore_8 : decode cL_restore 8 = .ok (.lastore, 1) := by decide +kernel
theorem dL_restore_9 : decode cL_restore 9 = .ok (.goto 9, 3) := by decide +kernel
theorem dL_restore_12 : decode cL_restore 12 = .ok (.astore_n 3, 1) := by decide +kernel
theorem dL_restore_13 : decode cL_restore 13 = .ok (.iconst 1, 1) := by decide +kernel
theorem dL_restore_14 : decode cL_restore 14 = .ok (.ireturn, 1) := by decide +kernel
theorem dL_restore_15 : decode cL_restore 15 = .ok (.astore_n 3, 1) := by decide +kernel
theorem dL_restore_16 : decode cL_restore 16 = .ok (.iconst 2, 1) := by decide +kernel
theorem dL_restore_17 : decode cL_restore 17 = .ok (.ireturn, 1) := by decide +kernel
theorem dL_restore_18 : decode cL_restore 18 = .ok (.iconst 0, 1) := by decide +kernel
theorem dL_restore_19 : decode cL_restore 19 = .ok (.ireturn, 1) := by decide +kernel
theorem dL_undo_0 : decode cL_undo 0 = .ok (.aload_n 1, 1) := by decide +kernel
theorem dL_undo_1 : decode cL_undo 1 = .ok (.iconst 0, 1) := by decide +kernel
theorem dL_undo_2 : decode cL_undo 2 = .ok (.aload_n 0, 1) := by decide +kernel
theorem dL_undo_3 : decode cL_undo 3 = .ok (.invokevirtual 48, 3) := by decide +kernel
theorem dL_undo_6 : decode cL_undo 6 = .ok (.i2l, 1) := by decide +kernel
theorem dL_undo_7 : decode cL_undo 7 = .ok (.lastore, 1) := by decide +kernel
theorem dL_undo_8 : decode cL_undo 8 = .ok (.goto 6, 3) := by decide +kernel
theorem dL_undo_11 : decode cL_undo 11 = .ok (.astore_n 2, 1) := by decide +kernel
theorem dL_undo_12 : decode cL_undo 12 = .ok (.iconst 1, 1) := by decide +kernel
theorem dL_undo_13 : decode cL_undo 13 = .ok (.ireturn, 1) := by decide +kernel
theorem dL_undo_14 : decode cL_undo 14 = .ok (.iconst 0, 1) := by decide +kernel
theorem dL_undo_15 : decode cL_undo 15 = .ok (.ireturn, 1) := by decide +kernel
theorem dL_times_0 : decode cL_times 0 = .ok (.aload_n 3, 1) := by decide +kernel
theorem dL_times_1 : decode cL_times 1 = .ok (.iconst 0, 1) := by decide +kernel
theorem dL_times_2 : decode cL_times 2 = .ok (.aload_n 0, 1) := by decide +kernel
theorem dL_times_3 : decode cL_times 3 = .ok (.iload_n 1, 1) := by decide +kernel
theorem dL_times_4 : decode cL_times 4 = .ok (.iload_n 2, 1) := by decide +kernel
theorem dL_times_5 : decode cL_times 5 = .ok (.invokevirtual 52, 3) := by decide +kernel
theorem dL_times_8 : decode cL_times 8 = .ok (.i2l, 1) := by decide +kernel
theorem dL_times_9 : decode cL_times 9 = .ok (.lastore, 1) := by decide +kernel
theorem dL_times_10 : decode cL_times 10 = .ok (.goto 7, 3) := by decide +kernel
theorem dL_times_13 : decode cL_times 13 = .ok (.astore 4, 2) := by decide +kernel
theorem dL_times_15 : decode cL_times 15 = .ok (.iconst 1, 1) := by decide +kernel
theorem dL_times_16 : decode cL_times 16 = .ok (.ireturn, 1) := by decide +kernel
theorem dL_times_17 : decode cL_times 17 = .ok (.iconst 0, 1) := by decide +kernel
theorem dL_times_18 : decode cL_times 18 = .ok (.ireturn, 1) := by decide +kernel
theorem dL_rest_0 : decode cL_rest 0 = .ok (.aload_n 2, 1) := by decide +kernel
theorem dL_rest_1 : decode cL_rest 1 = .ok (.iconst 0, 1) := by decide +kernel
theorem dL_rest_2 : decode cL_rest 2 = .ok (.aload_n 0, 1) := by decide +kernel
theorem dL_rest_3 : decode cL_rest 3 = .ok (.iload_n 1, 1) := by decide +kernel
theorem dL_rest_4 : decode cL_rest 4 = .ok (.invokevirtual 55, 3) := by decide +kernel
theorem dL_rest_7 : decode cL_rest 7 = .ok (.i2l, 1) := by decide +kernel
theorem dL_rest_8 : decode cL_rest 8 = .ok (.lastore, 1) := by decide +kernel
theorem dL_rest_9 : decode cL_rest 9 = .ok (.goto 6, 3) := by decide +kernel
theorem dL_rest_12 : decode cL_rest 12 = .ok (.astore_n 3, 1) := by decide +kernel
theorem dL_rest_13 : decode cL_rest 13 = .ok (.iconst 1, 1) := by decide +kernel
theorem dL_rest_14 : decode cL_rest 14 = .ok (.ireturn, 1) := by decide +kernel
theorem dL_rest_15 : decode cL_rest 15 = .ok (.iconst 0, 1) := by decide +kernel
theorem dL_rest_16 : decode cL_rest 16 = .ok (.ireturn, 1) := by decide +kernel
theorem dL_solutions_0 : decode cL_solutions 0 = .ok (.aload_n 2, 1) := by decide +kernel
theorem dL_solutions_1 : decode cL_solutions 1 = .ok (.iconst 0, 1) := by decide +kernel
theorem dL_solutions_2 : decode cL_solutions 2 = .ok (.aload_n 0, 1) := by decide +kernel
theorem dL_solutions_3 : decode cL_solutions 3 = .ok (.iload_n 1, 1) := by decide +kernel
theorem dL_solutions_4 : decode cL_solutions 4 = .ok (.invokevirtual 58, 3) := by decide +kernel
theorem dL_solutions_7 : decode cL_solutions 7 = .ok (.i2l, 1) := by decide +kernel
theorem dL_solutions_8 : decode cL_solutions 8 = .ok (.lastore, 1) := by decide +kernel
theorem dL_solutions_9 : decode cL_solutions 9 = .ok (.goto 6, 3) := by decide +kernel
theorem dL_solutions_12 : decode cL_solutions 12 = .ok (.astore_n 3, 1) := by decide +kernel
theorem dL_solutions_13 : decode cL_solutions 13 = .ok (.iconst 1, 1) := by decide +kernel
theorem dL_solutions_14 : decode cL_solutions 14 = .ok (.ireturn, 1) := by decide +kernel
theorem dL_solutions_15 : decode cL_solutions 15 = .ok (.iconst 0, 1) := by decide +kernel
theorem dL_solutions_16 : decode cL_solutions 16 = .ok (.ireturn, 1) := by decide +kernel
theorem dL_matchers_0 : decode cL_matchers 0 = .ok (.aload_n 2, 1) := by decide +kernel
theorem dL_matchers_1 : decode cL_matchers 1 = .ok (.iconst 0, 1) := by decide +kernel
theorem dL_matchers_2 : decode cL_matchers 2 = .ok (.aload_n 0, 1) := by decide +kernel
theorem dL_matchers_3 : decode cL_matchers 3 = .ok (.iload_n 1, 1) := by decide +kernel
theorem dL_matchers_4 : decode cL_matchers 4 = .ok (.invokevirtual 61, 3) := by decide +kernel
theorem dL_matchers_7 : decode cL_matchers 7 = .ok (.lastore, 1) := by decide +kernel
theorem dL_matchers_8 : decode cL_matchers 8 = .ok (.goto 6, 3) := by decide +kernel
theorem dL_matchers_11 : decode cL_matchers 11 = .ok (.astore_n 3, 1) := by decide +kernel
theorem dL_matchers_12 : decode cL_matchers 12 = .ok (.iconst 1, 1) := by decide +kernel
theorem dL_matchers_13 : decode cL_matchers 13 = .ok (.ireturn, 1) := by decide +kernel
theorem dL_matchers_14 : decode cL_matchers 14 = .ok (.iconst 0, 1) := by decide +kernel
theorem dL_matchers_15 : decode cL_matchers 15 = .ok (.ireturn, 1) := by decide +kernel
theorem dL_value_0 : decode cL_value 0 = .ok (.aload 4, 2) := by decide +kernel
theorem dL_value_2 : decode cL_value 2 = .ok (.iconst 0, 1) := by decide +kernel
theorem dL_value_3 : decode cL_value 3 = .ok (.aload_n 0, 1) := by decide +kernel
theorem dL_value_4 : decode cL_value 4 = .ok (.iload_n 1, 1) := by decide +kernel
theorem dL_value_5 : decode cL_value 5 = .ok (.iload_n 2, 1) := by decide +kernel
theorem dL_value_6 : decode cL_value 6 = .ok (.iload_n 3, 1) := by decide +kernel
theorem dL_value_7 : decode cL_value 7 = .ok (.invokevirtual 65, 3) := by decide +kernel
theorem dL_value_10 : decode cL_value 10 = .ok (.i2l, 1) := by decide +kernel
theorem dL_value_11 : decode cL_value 11 = .ok (.lastore, 1) := by decide +kernel
theorem dL_value_12 : decode cL_value 12 = .ok (.goto 11, 3) := by decide +kernel
theorem dL_value_15 : decode cL_value 15 = .ok (.astore 5, 2) := by decide +kernel
theorem dL_value_17 : decode cL_value 17 = .ok (.iconst 1, 1) := by decide +kernel
theorem dL_value_18 : decode cL_value 18 = .ok (.ireturn, 1) := by decide +kernel
theorem dL_value_19 : decode cL_value 19 = .ok (.astore 5, 2) := by decide +kernel
theorem dL_value_21 : decode cL_value 21 = .ok (.iconst 2, 1) := by decide +kernel
theorem dL_value_22 : decode cL_value 22 = .ok (.ireturn, 1) := by decide +kernel
theorem dL_value_23 : decode cL_value 23 = .ok (.iconst 0, 1) := by decide +kernel
theorem dL_value_24 : decode cL_value 24 = .ok (.ireturn, 1) := by decide +kernel
theorem dL_least_0 : decode cL_least 0 = .ok (.aload_n 3, 1) := by decide +kernel
theorem dL_least_1 : decode cL_least 1 = .ok (.iconst 0, 1) := by decide +kernel
theorem dL_least_2 : decode cL_least 2 = .ok (.aload_n 0, 1) := by decide +kernel
theorem dL_least_3 : decode cL_least 3 = .ok (.iload_n 1, 1) := by decide +kernel
theorem dL_least_4 : decode cL_least 4 = .ok (.iload_n 2, 1) := by decide +kernel
theorem dL_least_5 : decode cL_least 5 = .ok (.invokevirtual 68, 3) := by decide +kernel
theorem dL_least_8 : decode cL_least 8 = .ok (.i2l, 1) := by decide +kernel
theorem dL_least_9 : decode cL_least 9 = .ok (.lastore, 1) := by decide +kernel
theorem dL_least_10 : decode cL_least 10 = .ok (.goto 11, 3) := by decide +kernel
theorem dL_least_13 : decode cL_least 13 = .ok (.astore 4, 2) := by decide +kernel
theorem dL_least_15 : decode cL_least 15 = .ok (.iconst 1, 1) := by decide +kernel
theorem dL_least_16 : decode cL_least 16 = .ok (.ireturn, 1) := by decide +kernel
theorem dL_least_17 : decode cL_least 17 = .ok (.astore 4, 2) := by decide +kernel
theorem dL_least_19 : decode cL_least 19 = .ok (.iconst 2, 1) := by decide +kernel
theorem dL_least_20 : decode cL_least 20 = .ok (.ireturn, 1) := by decide +kernel
theorem dL_least_21 : decode cL_least 21 = .ok (.iconst 0, 1) := by decide +kernel
theorem dL_least_22 : decode cL_least 22 = .ok (.ireturn, 1) := by decide +kernel
theorem dL_sums_0 : decode cL_sums 0 = .ok (.aload 5, 2) := by decide +kernel
theorem dL_sums_2 : decode cL_sums 2 = .ok (.iconst 0, 1) := by decide +kernel
theorem dL_sums_3 : decode cL_sums 3 = .ok (.aload_n 0, 1) := by decide +kernel
theorem dL_sums_4 : decode cL_sums 4 = .ok (.iload_n 1, 1) := by decide +kernel
theorem dL_sums_5 : decode cL_sums 5 = .ok (.iload_n 2, 1) := by decide +kernel
theorem dL_sums_6 : decode cL_sums 6 = .ok (.iload_n 3, 1) := by decide +kernel
theorem dL_sums_7 : decode cL_sums 7 = .ok (.iload 4, 2) := by decide +kernel
theorem dL_sums_9 : decode cL_sums 9 = .ok (.invokevirtual 71, 3) := by decide +kernel
theorem dL_sums_12 : decode cL_sums 12 = .ok (.i2l, 1) := by decide +kernel
theorem dL_sums_13 : decode cL_sums 13 = .ok (.lastore, 1) := by decide +kernel
theorem dL_sums_14 : decode cL_sums 14 = .ok (.goto 7, 3) := by decide +kernel
theorem dL_sums_17 : decode cL_sums 17 = .ok (.astore 6, 2) := by decide +kernel
theorem dL_sums_19 : decode cL_sums 19 = .ok (.iconst 1, 1) := by decide +kernel
theorem dL_sums_20 : decode cL_sums 20 = .ok (.ireturn, 1) := by decide +kernel
theorem dL_sums_21 : decode cL_sums 21 = .ok (.iconst 0, 1) := by decide +kernel
theorem dL_sums_22 : decode cL_sums 22 = .ok (.ireturn, 1) := by decide +kernel
theorem dL_count_0 : decode cL_count 0 = .ok (.aload_n 2, 1) := by decide +kernel
theorem dL_count_1 : decode cL_count 1 = .ok (.iconst 0, 1) := by decide +kernel
theorem dL_count_2 : decode cL_count 2 = .ok (.aload_n 0, 1) := by decide +kernel
theorem dL_count_3 : decode cL_count 3 = .ok (.iload_n 1, 1) := by decide +kernel
theorem dL_count_4 : decode cL_count 4 = .ok (.invokevirtual 75, 3) := by decide +kernel
theorem dL_count_7 : decode cL_count 7 = .ok (.i2l, 1) := by decide +kernel
theorem dL_count_8 : decode cL_count 8 = .ok (.lastore, 1) := by decide +kernel
theorem dL_count_9 : decode cL_count 9 = .ok (.goto 6, 3) := by decide +kernel
theorem dL_count_12 : decode cL_count 12 = .ok (.astore_n 3, 1) := by decide +kernel
theorem dL_count_13 : decode cL_count 13 = .ok (.iconst 1, 1) := by decide +kernel
theorem dL_count_14 : decode cL_count 14 = .ok (.ireturn, 1) := by decide +kernel
theorem dL_count_15 : decode cL_count 15 = .ok (.iconst 0, 1) := by decide +kernel
theorem dL_count_16 : decode cL_count 16 = .ok (.ireturn, 1) := by decide +kernel
theorem dL_setting_0 : decode cL_setting 0 = .ok (.aload_n 2, 1) := by decide +kernel
theorem dL_setting_1 : decode cL_setting 1 = .ok (.iconst 0, 1) := by decide +kernel
theorem dL_setting_2 : decode cL_setting 2 = .ok (.aload_n 0, 1) := by decide +kernel
theorem dL_setting_3 : decode cL_setting 3 = .ok (.iload_n 1, 1) := by decide +kernel
theorem dL_setting_4 : decode cL_setting 4 = .ok (.invokevirtual 78, 3) := by decide +kernel
theorem dL_setting_7 : decode cL_setting 7 = .ok (.i2l, 1) := by decide +kernel
theorem dL_setting_8 : decode cL_setting 8 = .ok (.lastore, 1) := by decide +kernel
theorem dL_setting_9 : decode cL_setting 9 = .ok (.goto 6, 3) := by decide +kernel
theorem dL_setting_12 : decode cL_setting 12 = .ok (.astore_n 3, 1) := by decide +kernel
theorem dL_setting_13 : decode cL_setting 13 = .ok (.iconst 1, 1) := by decide +kernel
theorem dL_setting_14 : decode cL_setting 14 = .ok (.ireturn, 1) := by decide +kernel
theorem dL_setting_15 : decode cL_setting 15 = .ok (.iconst 0, 1) := by decide +kernel
theorem dL_setting_16 : decode cL_setting 16 = .ok (.ireturn, 1) := by decide +kernel
theorem dL_ifMore_0 : decode cL_ifMore 0 = .ok (.aload_n 3, 1) := by decide +kernel
theorem dL_ifMore_1 : decode cL_ifMore 1 = .ok (.iconst 0, 1) := by decide +kernel
theorem dL_ifMore_2 : decode cL_ifMore 2 = .ok (.aload_n 0, 1) := by decide +kernel
theorem dL_ifMore_3 : decode cL_ifMore 3 = .ok (.iload_n 1, 1) := by decide +kernel
theorem dL_ifMore_4 : decode cL_ifMore 4 = .ok (.iload_n 2, 1) := by decide +kernel
theorem dL_ifMore_5 : decode cL_ifMore 5 = .ok (.invokevirtual 81, 3) := by decide +kernel
theorem dL_ifMore_8 : decode cL_ifMore 8 = .ok (.lastore, 1) := by decide +kernel
theorem dL_ifMore_9 : decode cL_ifMore 9 = .ok (.goto 11, 3) := by decide +kernel
theorem dL_ifMore_12 : decode cL_ifMore 12 = .ok (.astore 4, 2) := by decide +kernel
theorem dL_ifMore_14 : decode cL_ifMore 14 = .ok (.iconst 1, 1) := by decide +kernel
theorem dL_ifMore_15 : decode cL_ifMore 15 = .ok (.ireturn, 1) := by decide +kernel
theorem dL_ifMore_16 : decode cL_ifMore 16 = .ok (.astore 4, 2) := by decide +kernel
theorem dL_ifMore_18 : decode cL_ifMore 18 = .ok (.iconst 2, 1) := by decide +kernel
theorem dL_ifMore_19 : decode cL_ifMore 19 = .ok (.ireturn, 1) := by decide +kernel
theorem dL_ifMore_20 : decode cL_ifMore 20 = .ok (.iconst 0, 1) := by decide +kernel
theorem dL_ifMore_21 : decode cL_ifMore 21 = .ok (.ireturn, 1) := by decide +kernel
theorem dL_ifRewritten_0 : decode cL_ifRewritten 0 = .ok (.aload_n 3, 1) := by decide +kernel
theorem dL_ifRewritten_1 : decode cL_ifRewritten 1 = .ok (.iconst 0, 1) := by decide +kernel
theorem dL_ifRewritten_2 : decode cL_ifRewritten 2 = .ok (.aload_n 0, 1) := by decide +kernel
theorem dL_ifRewritten_3 : decode cL_ifRewritten 3 = .ok (.iload_n 1, 1) := by decide +kernel
theorem dL_ifRewritten_4 : decode cL_ifRewritten 4 = .ok (.iload_n 2, 1) := by decide +kernel
theorem dL_ifRewritten_5 : decode cL_ifRewritten 5 = .ok (.invokevirtual 85, 3) := by decide +kernel
theorem dL_ifRewritten_8 : decode cL_ifRewritten 8 = .ok (.i2l, 1) := by decide +kernel
theorem dL_ifRewritten_9 : decode cL_ifRewritten 9 = .ok (.lastore, 1) := by decide +kernel
theorem dL_ifRewritten_10 : decode cL_ifRewritten 10 = .ok (.goto 11, 3) := by decide +kernel
theorem dL_ifRewritten_13 : decode cL_ifRewritten 13 = .ok (.astore 4, 2) := by decide +kernel
theorem dL_ifRewritten_15 : decode cL_ifRewritten 15 = .ok (.iconst 1, 1) := by decide +kernel
theorem dL_ifRewritten_16 : decode cL_ifRewritten 16 = .ok (.ireturn, 1) := by decide +kernel
theorem dL_ifRewritten_17 : decode cL_ifRewritten 17 = .ok (.astore 4, 2) := by decide +kernel
theorem dL_ifRewritten_19 : decode cL_ifRewritten 19 = .ok (.iconst 2, 1) := by decide +kernel
theorem dL_ifRewritten_20 : decode cL_ifRewritten 20 = .ok (.ireturn, 1) := by decide +kernel
theorem dL_ifRewritten_21 : decode cL_ifRewritten 21 = .ok (.iconst 0, 1) := by decide +kernel
theorem dL_ifRewritten_22 : decode cL_ifRewritten 22 = .ok (.ireturn, 1) := by decide +kernel
theorem dL_shortest_0 : decode cL_shortest 0 = .ok (.aload_n 2, 1) := by decide +kernel
theorem dL_shortest_1 : decode cL_shortest 1 = .ok (.iconst 0, 1) := by decide +kernel
theorem dL_shortest_2 : decode cL_shortest 2 = .ok (.aload_n 0, 1) := by decide +kernel
theorem dL_shortest_3 : decode cL_shortest 3 = .ok (.iload_n 1, 1) := by decide +kernel
theorem dL_shortest_4 : decode cL_shortest 4 = .ok (.invokevirtual 88, 3) := by decide +kernel
theorem dL_shortest_7 : decode cL_shortest 7 = .ok (.i2l, 1) := by decide +kernel
theorem dL_shortest_8 : decode cL_shortest 8 = .ok (.lastore, 1) := by decide +kernel
theorem dL_shortest_9 : decode cL_shortest 9 = .ok (.goto 6, 3) := by decide +kernel
theorem dL_shortest_12 : decode cL_shortest 12 = .ok (.astore_n 3, 1) := by decide +kernel
theorem dL_shortest_13 : decode cL_shortest 13 = .ok (.iconst 1, 1) := by decide +kernel
theorem dL_shortest_14 : decode cL_shortest 14 = .ok (.ireturn, 1) := by decide +kernel
theorem dL_shortest_15 : decode cL_shortest 15 = .ok (.iconst 0, 1) := by decide +kernel
theorem dL_shortest_16 : decode cL_shortest 16 = .ok (.ireturn, 1) := by decide +kernel
theorem dL_law_0 : decode cL_law 0 = .ok (.new 8, 3) := by decide +kernel
theorem dL_law_3 : decode cL_law 3 = .ok (.dup, 1) := by decide +kernel
theorem dL_law_4 : decode cL_law 4 = .ok (.invokespecial 91, 3) := by decide +kernel
theorem dL_law_7 : decode cL_law 7 = .ok (.astore_n 1, 1) := by decide +kernel
theorem dL_law_8 : decode cL_law 8 = .ok (.new 92, 3) := by decide +kernel
theorem dL_law_11 : decode cL_law 11 = .ok (.dup, 1) := by decide +kernel
theorem dL_law_12 : decode cL_law 12 = .ok (.invokespecial 94, 3) := by decide +kernel
theorem dL_law_15 : decode cL_law 15 = .ok (.astore_n 2, 1) := by decide +kernel
theorem dL_law_16 : decode cL_law 16 = .ok (.iconst 1, 1) := by decide +kernel
theorem dL_law_17 : decode cL_law 17 = .ok (.newarray .long, 2) := by decide +kernel
theorem dL_law_19 : decode cL_law 19 = .ok (.astore_n 3, 1) := by decide +kernel
theorem dL_law_20 : decode cL_law 20 = .ok (.iconst 0, 1) := by decide +kernel
theorem dL_law_21 : decode cL_law 21 = .ok (.istore 4, 2) := by decide +kernel
theorem dL_law_23 : decode cL_law 23 = .ok (.iload 4, 2) := by decide +kernel
theorem dL_law_25 : decode cL_law 25 = .ok (.aload_n 0, 1) := by decide +kernel
theorem dL_law_26 : decode cL_law 26 = .ok (.arraylength, 1) := by decide +kernel
theorem dL_law_27 : decode cL_law 27 = .ok (.iconst 5, 1) := by decide +kernel
theorem dL_law_28 : decode cL_law 28 = .ok (.isub, 1) := by decide +kernel
theorem dL_law_29 : decode cL_law 29 = .ok (.if_icmp .gt 1684, 3) := by decide +kernel
theorem dL_law_32 : decode cL_law 32 = .ok (.aload_n 0, 1) := by decide +kernel
theorem dL_law_33 : decode cL_law 33 = .ok (.iload 4, 2) := by decide +kernel
theorem dL_law_35 : decode cL_law 35 = .ok (.iaload, 1) := by decide +kernel
theorem dL_law_36 : decode cL_law 36 = .ok (.bipush 31, 2) := by decide +kernel
theorem dL_law_38 : decode cL_law 38 = .ok (.iand, 1) := by decide +kernel
theorem dL_law_39 : decode cL_law 39 = .ok (.tableswitch 1668 0 26 #[121, 201, 281, 349, 405, 473, 541, 597, 610, 623, 679, 735, 791, 835, 903, 959, 1015, 1070, 1150, 1218, 1310, 1366, 1422, 1489, 1557, 1613, 1654], 121) := by decide +kernel
theorem dL_law_160 : decode cL_law 160 = .ok (.aload_n 1, 1) := by decide +kernel
theorem dL_law_161 : decode cL_law 161 = .ok (.aload_n 0, 1) := by decide +kernel
theorem dL_law_162 : decode cL_law 162 = .ok (.iload 4, 2) := by decide +kernel
theorem dL_law_164 : decode cL_law 164 = .ok (.iconst 1, 1) := by decide +kernel
theorem dL_law_165 : decode cL_law 165 = .ok (.iadd, 1) := by decide +kernel
theorem dL_law_166 : decode cL_law 166 = .ok (.iaload, 1) := by decide +kernel
theorem dL_law_167 : decode cL_law 167 = .ok (.aload_n 0, 1) := by decide +kernel
theorem dL_law_168 : decode cL_law 168 = .ok (.iload 4, 2) := by decide +kernel
theorem dL_law_170 : decode cL_law 170 = .ok (.iconst 2, 1) := by decide +kernel
theorem dL_law_171 : decode cL_law 171 = .ok (.iadd, 1) := by decide +kernel
theorem dL_law_172 : decode cL_law 172 = .ok (.iaload, 1) := by decide +kernel
theorem dL_law_173 : decode cL_law 173 = .ok (.aload_n 0, 1) := by decide +kernel
theorem dL_law_174 : decode cL_law 174 = .ok (.iload 4, 2) := by decide +kernel
theorem dL_law_176 : decode cL_law 176 = .ok (.iconst 3, 1) := by decide +kernel
theorem dL_law_177 : decode cL_law 177 = .ok (.iadd, 1) := by decide +kernel
theorem dL_law_178 : decode cL_law 178 = .ok (.iaload, 1) := by decide +kernel
theorem dL_law_179 : decode cL_law 179 = .ok (.aload_n 3, 1) := by decide +kernel
theorem dL_law_180 : decode cL_law 180 = .ok (.invokestatic 95, 3) := by decide +kernel
theorem dL_law_183 : decode cL_law 183 = .ok (.istore 5, 2) := by decide +kernel
theorem dL_law_185 : decode cL_law 185 = .ok (.aload_n 2, 1) := by decide +kernel
theorem dL_law_186 : decode cL_law 186 = .ok (.aload_n 0, 1) := by decide +kernel
theorem dL_law_187 : decode cL_law 187 = .ok (.iload 4, 2) := by decide +kernel
theorem dL_law_189 : decode cL_law 189 = .ok (.iconst 1, 1) := by decide +kernel
theorem dL_law_190 : decode cL_law 190 = .ok (.iadd, 1) := by decide +kernel
theorem dL_law_191 : decode cL_law 191 = .ok (.iaload, 1) := by decide +kernel
theorem dL_law_192 : decode cL_law 192 = .ok (.aload_n 0, 1) := by decide +kernel
theorem dL_law_193 : decode cL_law 193 = .ok (.iload 4, 2) := by decide +kernel
theorem dL_law_195 : decode cL_law 195 = .ok (.iconst 2, 1) := by decide +kernel
theorem dL_law_196 : decode cL_law 196 = .ok (.iadd, 1) := by decide +kernel
theorem dL_law_197 : decode cL_law 197 = .ok (.iaload, 1) := by decide +kernel
theorem dL_law_198 : decode cL_law 198 = .ok (.aload_n 0, 1) := by decide +kernel
theorem dL_law_199 : decode cL_law 199 = .ok (.iload 4, 2) := by decide +kernel
theorem dL_law_201 : decode cL_law 201 = .ok (.iconst 3, 1) := by decide +kernel
theorem dL_law_202 : decode cL_law 202 = .ok (.iadd, 1) := by decide +kernel
theorem dL_law_203 : decode cL_law 203 = .ok (.iaload, 1) := by decide +kernel
theorem dL_law_204 : decode cL_law 204 = .ok (.invokevirtual 100, 3) := by decide +kernel
theorem dL_law_207 : decode cL_law 207 = .ok (.istore 6, 2) := by decide +kernel
theorem dL_law_209 : decode cL_law 209 = .ok (.aload_n 2, 1) := by decide +kernel
theorem dL_law_210 : decode cL_law 210 = .ok (.invokevirtual 101, 3) := by decide +kernel
theorem dL_law_213 : decode cL_law 213 = .ok (.iload 5, 2) := by decide +kernel
theorem dL_law_215 : decode cL_law 215 = .ok (.if_icmp .eq 5, 3) := by decide +kernel
theorem dL_law_218 : decode cL_law 218 = .ok (.iconst 0, 1) := by decide +kernel
theorem dL_law_219 : decode cL_law 219 = .ok (.ireturn, 1) := by decide +kernel
theorem dL_law_220 : decode cL_law 220 = .ok (.iload 5, 2) := by decide +kernel
theorem dL_law_222 : decode cL_law 222 = .ok (.ifCond .ne 15, 3) := by decide +kernel
theorem dL_law_225 : decode cL_law 225 = .ok (.aload_n 3, 1) := by decide +kernel
theorem dL_law_226 : decode cL_law 226 = .ok (.iconst 0, 1) := by decide +kernel
theorem dL_law_227 : decode cL_law 227 = .ok (.laload, 1) := by decide +kernel
theorem dL_law_228 : decode cL_law 228 = .ok (.iload 6, 2) := by decide +kernel
theorem dL_law_230 : decode cL_law 230 = .ok (.i2l, 1) := by decide +kernel
theorem dL_law_231 : decode cL_law 231 = .ok (.lcmp, 1) := by decide +kernel
theorem dL_law_232 : decode cL_law 232 = .ok (.ifCond .eq 5, 3) := by decide +kernel
theorem dL_law_235 : decode cL_law 235 = .ok (.iconst 0, 1) := by decide +kernel
theorem dL_law_236 : decode cL_law 236 = .ok (.ireturn, 1) := by decide +kernel
theorem dL_law_237 : decode cL_law 237 = .ok (.goto 1470, 3) := by decide +kernel
theorem dL_law_240 : decode cL_law 240 = .ok (.aload_n 1, 1) := by decide +kernel
theorem dL_law_241 : decode cL_law 241 = .ok (.aload_n 0, 1) := by decide +kernel
theorem dL_law_242 : decode cL_law 242 = .ok (.iload 4, 2) := by decide +kernel
theorem dL_law_244 : decode cL_law 244 = .ok (.iconst 1, 1) := by decide +kernel
theorem dL_law_245 : decode cL_law 245 = .ok (.iadd, 1) := by decide +kernel
theorem dL_law_246 : decode cL_law 246 = .ok (.iaload, 1) := by decide +kernel
theorem dL_law_247 : decode cL_law 247 = .ok (.aload_n 0, 1) := by decide +kernel
theorem dL_law_248 : decode cL_law 248 = .ok (.iload 4, 2) := by decide +kernel
theorem dL_law_250 : decode cL_law 250 = .ok (.iconst 2, 1) := by decide +kernel
theorem dL_law_251 : decode cL_law 251 = .ok (.iadd, 1) := by decide +kernel
theorem dL_law_252 : decode cL_law 252 = .ok (.iaload, 1) := by decide +kernel
theorem dL_law_253 : decode cL_law 253 = .ok (.aload_n 0, 1) := by decide +kernel
theorem dL_law_254 : decode cL_law 254 = .ok (.iload 4, 2) := by decide +kernel
theorem dL_law_256 : decode cL_law 256 = .ok (.iconst 3, 1) := by decide +kernel
theorem dL_law_257 : decode cL_law 257 = .ok (.iadd, 1) := by decide +kernel
theorem dL_law_258 : decode cL_law 258 = .ok (.iaload, 1) := by decide +kernel
theorem dL_law_259 : decode cL_law 259 = .ok (.aload_n 3, 1) := by decide +kernel
theorem dL_law_260 : decode cL_law 260 = .ok (.invokestatic 104, 3) := by decide +kernel
theorem dL_law_263 : decode cL_law 263 = .ok (.istore 5, 2) := by decide +kernel
theorem dL_law_265 : decode cL_law 265 = .ok (.aload_n 2, 1) := by decide +kernel
theorem dL_law_266 : decode cL_law 266 = .ok (.aload_n 0, 1) := by decide +kernel
theorem dL_law_267 : decode cL_law 267 = .ok (.iload 4, 2) := by decide +kernel
theorem dL_law_269 : decode cL_law 269 = .ok (.iconst 1, 1) := by decide +kernel
theorem dL_law_270 : decode cL_law 270 = .ok (.iadd, 1) := by decide +kernel
theorem dL_law_271 : decode cL_law 271 = .ok (.iaload, 1) := by decide +kernel
theorem dL_law_272 : decode cL_law 272 = .ok (.aload_n 0, 1) := by decide +kernel
theorem dL_law_273 : decode cL_law 273 = .ok (.iload 4, 2) := by decide +kernel
theorem dL_law_275 : decode cL_law 275 = .ok (.iconst 2, 1) := by decide +kernel
theorem dL_law_276 : decode cL_law 276 = .ok (.iadd, 1) := by decide +kernel
theorem dL_law_277 : decode cL_law 277 = .ok (.iaload, 1) := by decide +kernel
theorem dL_law_278 : decode cL_law 278 = .ok (.aload_n 0, 1) := by decide +kernel
theorem dL_law_279 : decode cL_law 279 = .ok (.iload 4, 2) := by decide +kernel
theorem dL_law_281 : decode cL_law 281 = .ok (.iconst 3, 1) := by decide +kernel
theorem dL_law_282 : decode cL_law 282 = .ok (.iadd, 1) := by decide +kernel
theorem dL_law_283 : decode cL_law 283 = .ok (.iaload, 1) := by decide +kernel
theorem dL_law_284 : decode cL_law 284 = .ok (.invokevirtual 106, 3) := by decide +kernel
theorem dL_law_287 : decode cL_law 287 = .ok (.istore 6, 2) := by decide +kernel
theorem dL_law_289 : decode cL_law 289 = .ok (.aload_n 2, 1) := by decide +kernel
theorem dL_law_290 : decode cL_law 290 = .ok (.invokevirtual 101, 3) := by decide +kernel
theorem dL_law_293 : decode cL_law 293 = .ok (.iload 5, 2) := by decide +kernel
theorem dL_law_295 : decode cL_law 295 = .ok (.if_icmp .eq 5, 3) := by decide +kernel
theorem dL_law_298 : decode cL_law 298 = .ok (.iconst 0, 1) := by decide +kernel
theorem dL_law_299 : decode cL_law 299 = .ok (.ireturn, 1) := by decide +kernel
theorem dL_law_300 : decode cL_law 300 = .ok (.iload 5, 2) := by decide +kernel
theorem dL_law_302 : decode cL_law 302 = .ok (.ifCond .ne 15, 3) := by decide +kernel
theorem dL_law_305 : decode cL_law 305 = .ok (.aload_n 3, 1) := by decide +kernel
theorem dL_law_306 : decode cL_law 306 = .ok (.iconst 0, 1) := by decide +kernel
theorem dL_law_307 : decode cL_law 307 = .ok (.laload, 1) := by decide +kernel
theorem dL_law_308 : decode cL_law 308 = .ok (.iload 6, 2) := by decide +kernel
theorem dL_law_310 : decode cL_law 310 = .ok (.i2l, 1) := by decide +kernel
theorem dL_law_311 : decode cL_law 311 = .ok (.lcmp, 1) := by decide +kernel
theorem dL_law_312 : decode cL_law 312 = .ok (.ifCond .eq 5, 3) := by decide +kernel
theorem dL_law_315 : decode cL_law 315 = .ok (.iconst 0, 1) := by decide +kernel
theorem dL_law_316 : decode cL_law 316 = .ok (.ireturn, 1) := by decide +kernel
theorem dL_law_317 : decode cL_law 317 = .ok (.goto 1390, 3) := by decide +kernel
theorem dL_law_320 : decode cL_law 320 = .ok (.aload_n 1, 1) := by decide +kernel
theorem dL_law_321 : decode cL_law 321 = .ok (.aload_n 0, 1) := by decide +kernel
theorem dL_law_322 : decode cL_law 322 = .ok (.iload 4, 2) := by decide +kernel
theorem dL_law_324 : decode cL_law 324 = .ok (.iconst 1, 1) := by decide +kernel
theorem dL_law_325 : decode cL_law 325 = .ok (.iadd, 1) := by decide +kernel
theorem dL_law_326 : decode cL_law 326 = .ok (.iaload, 1) := by decide +kernel
theorem dL_law_327 : decode cL_law 327 = .ok (.aload_n 0, 1) := by decide +kernel
theorem dL_law_328 : decode cL_law 328 = .ok (.iload 4, 2) := by decide +kernel
theorem dL_law_330 : decode cL_law 330 = .ok (.iconst 2, 1) := by decide +kernel
theorem dL_law_331 : decode cL_law 331 = .ok (.iadd, 1) := by decide +kernel
theorem dL_law_332 : decode cL_law 332 = .ok (.iaload, 1) := by decide +kernel
theorem dL_law_333 : decode cL_law 333 = .ok (.aload_n 3, 1) := by decide +kernel
theorem dL_law_334 : decode cL_law 334 = .ok (.invokestatic 107, 3) := by decide +kernel
theorem dL_law_337 : decode cL_law 337 = .ok (.istore 5, 2) := by decide +kernel
theorem dL_law_339 : decode cL_law 339 = .ok (.aload_n 2, 1) := by decide +kernel
theorem dL_law_340 : decode cL_law 340 = .ok (.aload_n 0, 1) := by decide +kernel
theorem dL_law_341 : decode cL_law 341 = .ok (.iload 4, 2) := by decide +kernel
theorem dL_law_343 : decode cL_law 343 = .ok (.iconst 1, 1) := by decide +kernel
theorem dL_law_344 : decode cL_law 344 = .ok (.iadd, 1) := by decide +kernel
theorem dL_law_345 : decode cL_law 345 = .ok (.iaload, 1) := by decide +kernel
theorem dL_law_346 : decode cL_law 346 = .ok (.aload_n 0, 1) := by decide +kernel
theorem dL_law_347 : decode cL_law 347 = .ok (.iload 4, 2) := by decide +kernel
theorem dL_law_349 : decode cL_law 349 = .ok (.iconst 2, 1) := by decide +kernel
theorem dL_law_350 : decode cL_law 350 = .ok (.iadd, 1) := by decide +kernel
theorem dL_law_351 : decode cL_law 351 = .ok (.iaload, 1) := by decide +kernel
theorem dL_law_352 : decode cL_law 352 = .ok (.invokevirtual 110, 3) := by decide +kernel
theorem dL_law_355 : decode cL_law 355 = .ok (.istore 6, 2) := by decide +kernel
theorem dL_law_357 : decode cL_law 357 = .ok (.aload_n 2, 1) := by decide +kernel
theorem dL_law_358 : decode cL_law 358 = .ok (.invokevirtual 101, 3) := by decide +kernel
theorem dL_law_361 : decode cL_law 361 = .ok (.iload 5, 2) := by decide +kernel
theorem dL_law_363 : decode cL_law 363 = .ok (.if_icmp .eq 5, 3) := by decide +kernel
theorem dL_law_366 : decode cL_law 366 = .ok (.iconst 0, 1) := by decide +kernel
theorem dL_law_367 : decode cL_law 367 = .ok (.ireturn, 1) := by decide +kernel
theorem dL_law_368 : decode cL_law 368 = .ok (.iload 5, 2) := by decide +kernel
theorem dL_law_370 : decode cL_law 370 = .ok (.ifCond .ne 15, 3) := by decide +kernel
theorem dL_law_373 : decode cL_law 373 = .ok (.aload_n 3, 1) := by decide +kernel
theorem dL_law_374 : decode cL_law 374 = .ok (.iconst 0, 1) := by decide +kernel
theorem dL_law_375 : decode cL_law 375 = .ok (.laload, 1) := by decide +kernel
theorem dL_law_376 : decode cL_law 376 = .ok (.iload 6, 2) := by decide +kernel
theorem dL_law_378 : decode cL_law 378 = .ok (.i2l, 1) := by decide +kernel
theorem dL_law_379 : decode cL_law 379 = .ok (.lcmp, 1) := by decide +kernel
theorem dL_law_380 : decode cL_law 380 = .ok (.ifCond .eq 5, 3) := by decide +kernel
theorem dL_law_383 : decode cL_law 383 = .ok (.iconst 0, 1) := by decide +kernel
theorem dL_law_384 : decode cL_law 384 = .ok (.ireturn, 1) := by decide +kernel
theorem dL_law_385 : decode cL_law 385 = .ok (.goto 1322, 3) := by decide +kernel
theorem dL_law_388 : decode cL_law 388 = .ok (.aload_n 1, 1) := by decide +kernel
theorem dL_law_389 : decode cL_law 389 = .ok (.aload_n 0, 1) := by decide +kernel
theorem dL_law_390 : decode cL_law 390 = .ok (.iload 4, 2) := by decide +kernel
theorem dL_law_392 : decode cL_law 392 = .ok (.iconst 1, 1) := by decide +kernel
theorem dL_law_393 : decode cL_law 393 = .ok (.iadd, 1) := by decide +kernel
theorem dL_law_394 : decode cL_law 394 = .ok (.iaload, 1) := by decide +kernel
theorem dL_law_395 : decode cL_law 395 = .ok (.aload_n 3, 1) := by decide +kernel
theorem dL_law_396 : decode cL_law 396 = .ok (.invokestatic 111, 3) := by decide +kernel
theorem dL_law_399 : decode cL_law 399 = .ok (.istore 5, 2) := by decide +kernel
theorem dL_law_401 : decode cL_law 401 = .ok (.aload_n 2, 1) := by decide +kernel
theorem dL_law_402 : decode cL_law 402 = .ok (.aload_n 0, 1) := by decide +kernel
theorem dL_law_403 : decode cL_law 403 = .ok (.iload 4, 2) := by decide +kernel
theorem dL_law_405 : decode cL_law 405 = .ok (.iconst 1, 1) := by decide +kernel
theorem dL_law_406 : decode cL_law 406 = .ok (.iadd, 1) := by decide +kernel
theorem dL_law_407 : decode cL_law 407 = .ok (.iaload, 1) := by decide +kernel
theorem dL_law_408 : decode cL_law 408 = .ok (.invokevirtual 114, 3) := by decide +kernel
theorem dL_law_411 : decode cL_law 411 = .ok (.istore 6, 2) := by decide +kernel
theorem dL_law_413 : decode cL_law 413 = .ok (.aload_n 2, 1) := by decide +kernel
theorem dL_law_414 : decode cL_law 414 = .ok (.invokevirtual 101, 3) := by decide +kernel
theorem dL_law_417 : decode cL_law 417 = .ok (.iload 5, 2) := by decide +kernel
theorem dL_law_419 : decode cL_law 419 = .ok (.if_icmp .eq 5, 3) := by decide +kernel
theorem dL_law_422 : decode cL_law 422 = .ok (.iconst 0, 1) := by decide +kernel
theorem dL_law_423 : decode cL_law 423 = .ok (.ireturn, 1) := by decide +kernel
theorem dL_law_424 : decode cL_law 424 = .ok (.iload 5, 2) := by decide +kernel
theorem dL_law_426 : decode cL_law 426 = .ok (.ifCond .ne 15, 3) := by decide +kernel
theorem dL_law_429 : decode cL_law 429 = .ok (.aload_n 3, 1) := by decide +kernel
theorem dL_law_430 : decode cL_law 430 = .ok (.iconst 0, 1) := by decide +kernel
theorem dL_law_431 : decode cL_law 431 = .ok (.laload, 1) := by decide +kernel
theorem dL_law_432 : decode cL_law 432 = .ok (.iload 6, 2) := by decide +kernel
theorem dL_law_434 : decode cL_law 434 = .ok (.i2l, 1) := by decide +kernel
theorem dL_law_435 : decode cL_law 435 = .ok (.lcmp, 1) := by decide +kernel
theorem dL_law_436 : decode cL_law 436 = .ok (.ifCond .eq 5, 3) := by decide +kernel
theorem dL_law_439 : decode cL_law 439 = .ok (.iconst 0, 1) := by decide +kernel
theorem dL_law_440 : decode cL_law 440 = .ok (.ireturn, 1) := by decide +kernel
theorem dL_law_441 : decode cL_law 441 = .ok (.goto 1266, 3) := by decide +kernel
theorem dL_law_444 : decode cL_law 444 = .ok (.aload_n 1, 1) := by decide +kernel
theorem dL_law_445 : decode cL_law 445 = .ok (.aload_n 0, 1) := by decide +kernel
theorem dL_law_446 : decode cL_law 446 = .ok (.iload 4, 2) := by decide +kernel
theorem dL_law_448 : decode cL_law 448 = .ok (.iconst 1, 1) := by decide +kernel
theorem dL_law_449 : decode cL_law 449 = .ok (.iadd, 1) := by decide +kernel
theorem dL_law_450 : decode cL_law 450 = .ok (.iaload, 1) := by decide +kernel
theorem dL_law_451 : decode cL_law 451 = .ok (.aload_n 0, 1) := by decide +kernel
theorem dL_law_452 : decode cL_law 452 = .ok (.iload 4, 2) := by decide +kernel
theorem dL_law_454 : decode cL_law 454 = .ok (.iconst 2, 1) := by decide +kernel
theorem dL_law_455 : decode cL_law 455 = .ok (.iadd, 1) := by decide +kernel
theorem dL_law_456 : decode cL_law 456 = .ok (.iaload, 1) := by decide +kernel
theorem dL_law_457 : decode cL_law 457 = .ok (.aload_n 3, 1) := by decide +kernel
theorem dL_law_458 : decode cL_law 458 = .ok (.invokestatic 115, 3) := by decide +kernel
theorem dL_law_461 : decode cL_law 461 = .ok (.istore 5, 2) := by decide +kernel
theorem dL_law_463 : decode cL_law 463 = .ok (.aload_n 2, 1) := by decide +kernel
theorem dL_law_464 : decode cL_law 464 = .ok (.aload_n 0, 1) := by decide +kernel
theorem dL_law_465 : decode cL_law 465 = .ok (.iload 4, 2) := by decide +kernel
theorem dL_law_467 : decode cL_law 467 = .ok (.iconst 1, 1) := by decide +kernel
theorem dL_law_468 : decode cL_law 468 = .ok (.iadd, 1) := by decide +kernel
theorem dL_law_469 : decode cL_law 469 = .ok (.iaload, 1) := by decide +kernel
theorem dL_law_470 : decode cL_law 470 = .ok (.aload_n 0, 1) := by decide +kernel
theorem dL_law_471 : decode cL_law 471 = .ok (.iload 4, 2) := by decide +kernel
theorem dL_law_473 : decode cL_law 473 = .ok (.iconst 2, 1) := by decide +kernel
theorem dL_law_474 : decode cL_law 474 = .ok (.iadd, 1) := by decide +kernel
theorem dL_law_475 : decode cL_law 475 = .ok (.iaload, 1) := by decide +kernel
theorem dL_law_476 : decode cL_law 476 = .ok (.invokevirtual 117, 3) := by decide +kernel
theorem dL_law_479 : decode cL_law 479 = .ok (.istore 6, 2) := by decide +kernel
theorem dL_law_481 : decode cL_law 481 = .ok (.aload_n 2, 1) := by decide +kernel
theorem dL_law_482 : decode cL_law 482 = .ok (.invokevirtual 101, 3) := by decide +kernel
theorem dL_law_485 : decode cL_law 485 = .ok (.iload 5, 2) := by decide +kernel
theorem dL_law_487 : decode cL_law 487 = .ok (.if_icmp .eq 5, 3) := by decide +kernel
theorem dL_law_490 : decode cL_law 490 = .ok (.iconst 0, 1) := by decide +kernel
theorem dL_law_491 : decode cL_law 491 = .ok (.ireturn, 1) := by decide +kernel
theorem dL_law_492 : decode cL_law 492 = .ok (.iload 5, 2) := by decide +kernel
theorem dL_law_494 : decode cL_law 494 = .ok (.ifCond .ne 15, 3) := by decide +kernel
theorem dL_law_497 : decode cL_law 497 = .ok (.aload_n 3, 1) := by decide +kernel
theorem dL_law_498 : decode cL_law 498 = .ok (.iconst 0, 1) := by decide +kernel
theorem dL_law_499 : decode cL_law 499 = .ok (.laload, 1) := by decide +kernel
theorem dL_law_500 : decode cL_law 500 = .ok (.iload 6, 2) := by decide +kernel
theorem dL_law_502 : decode cL_law 502 = .ok (.i2l, 1) := by decide +kernel
theorem dL_law_503 : decode cL_law 503 = .ok (.lcmp, 1) := by decide +kernel
theorem dL_law_504 : decode cL_law 504 = .ok (.ifCond .eq 5, 3) := by decide +kernel
theorem dL_law_507 : decode cL_law 507 = .ok (.iconst 0, 1) := by decide +kernel
theorem dL_law_508 : decode cL_law 508 = .ok (.ireturn, 1) := by decide +kernel
theorem dL_law_509 : decode cL_law 509 = .ok (.goto 1198, 3) := by decide +kernel
theorem dL_law_512 : decode cL_law 512 = .ok (.aload_n 1, 1) := by decide +kernel
theorem dL_law_513 : decode cL_law 513 = .ok (.aload_n 0, 1) := by decide +kernel
theorem dL_law_514 : decode cL_law 514 = .ok (.iload 4, 2) := by decide +kernel
theorem dL_law_516 : decode cL_law 516 = .ok (.iconst 1, 1) := by decide +kernel
theorem dL_law_517 : decode cL_law 517 = .ok (.iadd, 1) := by decide +kernel
theorem dL_law_518 : decode cL_law 518 = .ok (.iaload, 1) := by decide +kernel
theorem dL_law_519 : decode cL_law 519 = .ok (.aload_n 0, 1) := by decide +kernel
theorem dL_law_520 : decode cL_law 520 = .ok (.iload 4, 2) := by decide +kernel
theorem dL_law_522 : decode cL_law 522 = .ok (.iconst 2, 1) := by decide +kernel
theorem dL_law_523 : decode cL_law 523 = .ok (.iadd, 1) := by decide +kernel
theorem dL_law_524 : decode cL_law 524 = .ok (.iaload, 1) := by decide +kernel
theorem dL_law_525 : decode cL_law 525 = .ok (.aload_n 3, 1) := by decide +kernel
theorem dL_law_526 : decode cL_law 526 = .ok (.invokestatic 118, 3) := by decide +kernel
theorem dL_law_529 : decode cL_law 529 = .ok (.istore 5, 2) := by decide +kernel
theorem dL_law_531 : decode cL_law 531 = .ok (.aload_n 2, 1) := by decide +kernel
theorem dL_law_532 : decode cL_law 532 = .ok (.aload_n 0, 1) := by decide +kernel
theorem dL_law_533 : decode cL_law 533 = .ok (.iload 4, 2) := by decide +kernel
theorem dL_law_535 : decode cL_law 535 = .ok (.iconst 1, 1) := by decide +kernel
theorem dL_law_536 : decode cL_law 536 = .ok (.iadd, 1) := by decide +kernel
theorem dL_law_537 : decode cL_law 537 = .ok (.iaload, 1) := by decide +kernel
theorem dL_law_538 : decode cL_law 538 = .ok (.aload_n 0, 1) := by decide +kernel
theorem dL_law_539 : decode cL_law 539 = .ok (.iload 4, 2) := by decide +kernel
theorem dL_law_541 : decode cL_law 541 = .ok (.iconst 2, 1) := by decide +kernel
theorem dL_law_542 : decode cL_law 542 = .ok (.iadd, 1) := by decide +kernel
theorem dL_law_543 : decode cL_law 543 = .ok (.iaload, 1) := by decide +kernel
theorem dL_law_544 : decode cL_law 544 = .ok (.invokevirtual 120, 3) := by decide +kernel
theorem dL_law_547 : decode cL_law 547 = .ok (.istore 6, 2) := by decide +kernel
theorem dL_law_549 : decode cL_law 549 = .ok (.aload_n 2, 1) := by decide +kernel
theorem dL_law_550 : decode cL_law 550 = .ok (.invokevirtual 101, 3) := by decide +kernel
theorem dL_law_553 : decode cL_law 553 = .ok (.iload 5, 2) := by decide +kernel
theorem dL_law_555 : decode cL_law 555 = .ok (.if_icmp .eq 5, 3) := by decide +kernel
theorem dL_law_558 : decode cL_law 558 = .ok (.iconst 0, 1) := by decide +kernel
theorem dL_law_559 : decode cL_law 559 = .ok (.ireturn, 1) := by decide +kernel
theorem dL_law_560 : decode cL_law 560 = .ok (.iload 5, 2) := by decide +kernel
theorem dL_law_562 : decode cL_law 562 = .ok (.ifCond .ne 15, 3) := by decide +kernel
theorem dL_law_565 : decode cL_law 565 = .ok (.aload_n 3, 1) := by decide +kernel
theorem dL_law_566 : decode cL_law 566 = .ok (.iconst 0, 1) := by decide +kernel
theorem dL_law_567 : decode cL_law 567 = .ok (.laload, 1) := by decide +kernel
theorem dL_law_568 : decode cL_law 568 = .ok (.iload 6, 2) := by decide +kernel
theorem dL_law_570 : decode cL_law 570 = .ok (.i2l, 1) := by decide +kernel
theorem dL_law_571 : decode cL_law 571 = .ok (.lcmp, 1) := by decide +kernel
theorem dL_law_572 : decode cL_law 572 = .ok (.ifCond .eq 5, 3) := by decide +kernel
theorem dL_law_575 : decode cL_law 575 = .ok (.iconst 0, 1) := by decide +kernel
theorem dL_law_576 : decode cL_law 576 = .ok (.ireturn, 1) := by decide +kernel
theorem dL_law_577 : decode cL_law 577 = .ok (.goto 1130, 3) := by decide +kernel
theorem dL_law_580 : decode cL_law 580 = .ok (.aload_n 1, 1) := by decide +kernel
theorem dL_law_581 : decode cL_law 581 = .ok (.aload_n 0, 1) := by decide +kernel
theorem dL_law_582 : decode cL_law 582 = .ok (.iload 4, 2) := by decide +kernel
theorem dL_law_584 : decode cL_law 584 = .ok (.iconst 1, 1) := by decide +kernel
theorem dL_law_585 : decode cL_law 585 = .ok (.iadd, 1) := by decide +kernel
theorem dL_law_586 : decode cL_law 586 = .ok (.iaload, 1) := by decide +kernel
theorem dL_law_587 : decode cL_law 587 = .ok (.aload_n 3, 1) := by decide +kernel
theorem dL_law_588 : decode cL_law 588 = .ok (.invokestatic 121, 3) := by decide +kernel
theorem dL_law_591 : decode cL_law 591 = .ok (.istore 5, 2) := by decide +kernel
theorem dL_law_593 : decode cL_law 593 = .ok (.aload_n 2, 1) := by decide +kernel
theorem dL_law_594 : decode cL_law 594 = .ok (.aload_n 0, 1) := by decide +kernel
theorem dL_law_595 : decode cL_law 595 = .ok (.iload 4, 2) := by decide +kernel
theorem dL_law_597 : decode cL_law 597 = .ok (.iconst 1, 1) := by decide +kernel
theorem dL_law_598 : decode cL_law 598 = .ok (.iadd, 1) := by decide +kernel
theorem dL_law_599 : decode cL_law 599 = .ok (.iaload, 1) := by decide +kernel
theorem dL_law_600 : decode cL_law 600 = .ok (.invokevirtual 123, 3) := by decide +kernel
theorem dL_law_603 : decode cL_law 603 = .ok (.istore 6, 2) := by decide +kernel
theorem dL_law_605 : decode cL_law 605 = .ok (.aload_n 2, 1) := by decide +kernel
theorem dL_law_606 : decode cL_law 606 = .ok (.invokevirtual 101, 3) := by decide +kernel
theorem dL_law_609 : decode cL_law 609 = .ok (.iload 5, 2) := by decide +kernel
theorem dL_law_611 : decode cL_law 611 = .ok (.if_icmp .eq 5, 3) := by decide +kernel
theorem dL_law_614 : decode cL_law 614 = .ok (.iconst 0, 1) := by decide +kernel
theorem dL_law_615 : decode cL_law 615 = .ok (.ireturn, 1) := by decide +kernel
theorem dL_law_616 : decode cL_law 616 = .ok (.iload 5, 2) := by decide +kernel
theorem dL_law_618 : decode cL_law 618 = .ok (.ifCond .ne 15, 3) := by decide +kernel
theorem dL_law_621 : decode cL_law 621 = .ok (.aload_n 3, 1) := by decide +kernel
theorem dL_law_622 : decode cL_law 622 = .ok (.iconst 0, 1) := by decide +kernel
theorem dL_law_623 : decode cL_law 623 = .ok (.laload, 1) := by decide +kernel
theorem dL_law_624 : decode cL_law 624 = .ok (.iload 6, 2) := by decide +kernel
theorem dL_law_626 : decode cL_law 626 = .ok (.i2l, 1) := by decide +kernel
theorem dL_law_627 : decode cL_law 627 = .ok (.lcmp, 1) := by decide +kernel
theorem dL_law_628 : decode cL_law 628 = .ok (.ifCond .eq 5, 3) := by decide +kernel
theorem dL_law_631 : decode cL_law 631 = .ok (.iconst 0, 1) := by decide +kernel
theorem dL_law_632 : decode cL_law 632 = .ok (.ireturn, 1) := by decide +kernel
theorem dL_law_633 : decode cL_law 633 = .ok (.goto 1074, 3) := by decide +kernel
theorem dL_law_636 : decode cL_law 636 = .ok (.aload_n 1, 1) := by decide +kernel
theorem dL_law_637 : decode cL_law 637 = .ok (.invokevirtual 124, 3) := by decide +kernel
theorem dL_law_640 : decode cL_law 640 = .ok (.aload_n 2, 1) := by decide +kernel
theorem dL_law_641 : decode cL_law 641 = .ok (.invokevirtual 127, 3) := by decide +kernel
theorem dL_law_644 : decode cL_law 644 = .ok (.if_icmp .eq 1063, 3) := by decide +kernel
theorem dL_law_647 : decode cL_law 647 = .ok (.iconst 0, 1) := by decide +kernel
theorem dL_law_648 : decode cL_law 648 = .ok (.ireturn, 1) := by decide +kernel
theorem dL_law_649 : decode cL_law 649 = .ok (.aload_n 1, 1) := by decide +kernel
theorem dL_law_650 : decode cL_law 650 = .ok (.invokevirtual 128, 3) := by decide +kernel
theorem dL_law_653 : decode cL_law 653 = .ok (.aload_n 2, 1) := by decide +kernel
theorem dL_law_654 : decode cL_law 654 = .ok (.invokevirtual 131, 3) := by decide +kernel
theorem dL_law_657 : decode cL_law 657 = .ok (.if_icmp .eq 1050, 3) := by decide +kernel
theorem dL_law_660 : decode cL_law 660 = .ok (.iconst 0, 1) := by decide +kernel
theorem dL_law_661 : decode cL_law 661 = .ok (.ireturn, 1) := by decide +kernel
theorem dL_law_662 : decode cL_law 662 = .ok (.aload_n 1, 1) := by decide +kernel
theorem dL_law_663 : decode cL_law 663 = .ok (.aload_n 0, 1) := by decide +kernel
theorem dL_law_664 : decode cL_law 664 = .ok (.iload 4, 2) := by decide +kernel
theorem dL_law_666 : decode cL_law 666 = .ok (.iconst 1, 1) := by decide +kernel
theorem dL_law_667 : decode cL_law 667 = .ok (.iadd, 1) := by decide +kernel
theorem dL_law_668 : decode cL_law 668 = .ok (.iaload, 1) := by decide +kernel
theorem dL_law_669 : decode cL_law 669 = .ok (.aload_n 3, 1) := by decide +kernel
theorem dL_law_670 : decode cL_law 670 = .ok (.invokestatic 132, 3) := by decide +kernel
theorem dL_law_673 : decode cL_law 673 = .ok (.istore 5, 2) := by decide +kernel
theorem dL_law_675 : decode cL_law 675 = .ok (.aload_n 2, 1) := by decide +kernel
theorem dL_law_676 : decode cL_law 676 = .ok (.aload_n 0, 1) := by decide +kernel
theorem dL_law_677 : decode cL_law 677 = .ok (.iload 4, 2) := by decide +kernel
theorem dL_law_679 : decode cL_law 679 = .ok (.iconst 1, 1) := by decide +kernel
theorem dL_law_680 : decode cL_law 680 = .ok (.iadd, 1) := by decide +kernel
theorem dL_law_681 : decode cL_law 681 = .ok (.iaload, 1) := by decide +kernel
theorem dL_law_682 : decode cL_law 682 = .ok (.invokevirtual 134, 3) := by decide +kernel
theorem dL_law_685 : decode cL_law 685 = .ok (.istore 6, 2) := by decide +kernel
theorem dL_law_687 : decode cL_law 687 = .ok (.aload_n 2, 1) := by decide +kernel
theorem dL_law_688 : decode cL_law 688 = .ok (.invokevirtual 101, 3) := by decide +kernel
theorem dL_law_691 : decode cL_law 691 = .ok (.iload 5, 2) := by decide +kernel
theorem dL_law_693 : decode cL_law 693 = .ok (.if_icmp .eq 5, 3) := by decide +kernel
theorem dL_law_696 : decode cL_law 696 = .ok (.iconst 0, 1) := by decide +kernel
theorem dL_law_697 : decode cL_law 697 = .ok (.ireturn, 1) := by decide +kernel
theorem dL_law_698 : decode cL_law 698 = .ok (.iload 5, 2) := by decide +kernel
theorem dL_law_700 : decode cL_law 700 = .ok (.ifCond .ne 15, 3) := by decide +kernel
theorem dL_law_703 : decode cL_law 703 = .ok (.aload_n 3, 1) := by decide +kernel
theorem dL_law_704 : decode cL_law 704 = .ok (.iconst 0, 1) := by decide +kernel
theorem dL_law_705 : decode cL_law 705 = .ok (.laload, 1) := by decide +kernel
theorem dL_law_706 : decode cL_law 706 = .ok (.iload 6, 2) := by decide +kernel
theorem dL_law_708 : decode cL_law 708 = .ok (.i2l, 1) := by decide +kernel
theorem dL_law_709 : decode cL_law 709 = .ok (.lcmp, 1) := by decide +kernel
theorem dL_law_710 : decode cL_law 710 = .ok (.ifCond .eq 5, 3) := by decide +kernel
theorem dL_law_713 : decode cL_law 713 = .ok (.iconst 0, 1) := by decide +kernel
theorem dL_law_714 : decode cL_law 714 = .ok (.ireturn, 1) := by decide +kernel
theorem dL_law_715 : decode cL_law 715 = .ok (.goto 992, 3) := by decide +kernel
theorem dL_law_718 : decode cL_law 718 = .ok (.aload_n 1, 1) := by decide +kernel
theorem dL_law_719 : decode cL_law 719 = .ok (.aload_n 0, 1) := by decide +kernel
theorem dL_law_720 : decode cL_law 720 = .ok (.iload 4, 2) := by decide +kernel
theorem dL_law_722 : decode cL_law 722 = .ok (.iconst 1, 1) := by decide +kernel
theorem dL_law_723 : decode cL_law 723 = .ok (.iadd, 1) := by decide +kernel
theorem dL_law_724 : decode cL_law 724 = .ok (.iaload, 1) := by decide +kernel
theorem dL_law_725 : decode cL_law 725 = .ok (.aload_n 3, 1) := by decide +kernel
theorem dL_law_726 : decode cL_law 726 = .ok (.invokestatic 135, 3) := by decide +kernel
theorem dL_law_729 : decode cL_law 729 = .ok (.istore 5, 2) := by decide +kernel
theorem dL_law_731 : decode cL_law 731 = .ok (.aload_n 2, 1) := by decide +kernel
theorem dL_law_732 : decode cL_law 732 = .ok (.aload_n 0, 1) := by decide +kernel
theorem dL_law_733 : decode cL_law 733 = .ok (.iload 4, 2) := by decide +kernel
theorem dL_law_735 : decode cL_law 735 = .ok (.iconst 1, 1) := by decide +kernel
theorem dL_law_736 : decode cL_law 736 = .ok (.iadd, 1) := by decide +kernel
theorem dL_law_737 : decode cL_law 737 = .ok (.iaload, 1) := by decide +kernel
theorem dL_law_738 : decode cL_law 738 = .ok (.invokevirtual 137, 3) := by decide +kernel
theorem dL_law_741 : decode cL_law 741 = .ok (.istore 6, 2) := by decide +kernel
theorem dL_law_743 : decode cL_law 743 = .ok (.aload_n 2, 1) := by decide +kernel
theorem dL_law_744 : decode cL_law 744 = .ok (.invokevirtual 101, 3) := by decide +kernel
theorem dL_law_747 : decode cL_law 747 = .ok (.iload 5, 2) := by decide +kernel
theorem dL_law_749 : decode cL_law 749 = .ok (.if_icmp .eq 5, 3) := by decide +kernel
theorem dL_law_752 : decode cL_law 752 = .ok (.iconst 0, 1) := by decide +kernel
theorem dL_law_753 : decode cL_law 753 = .ok (.ireturn, 1) := by decide +kernel
theorem dL_law_754 : decode cL_law 754 = .ok (.iload 5, 2) := by decide +kernel
theorem dL_law_756 : decode cL_law 756 = .ok (.ifCond .ne 15, 3) := by decide +kernel
theorem dL_law_759 : decode cL_law 759 = .ok (.aload_n 3, 1) := by decide +kernel
theorem dL_law_760 : decode cL_law 760 = .ok (.iconst 0, 1) := by decide +kernel
theorem dL_law_761 : decode cL_law 761 = .ok (.laload, 1) := by decide +kernel
theorem dL_law_762 : decode cL_law 762 = .ok (.iload 6, 2) := by decide +kernel
theorem dL_law_764 : decode cL_law 764 = .ok (.i2l, 1) := by decide +kernel
theorem dL_law_765 : decode cL_law 765 = .ok (.lcmp, 1) := by decide +kernel
theorem dL_law_766 : decode cL_law 766 = .ok (.ifCond .eq 5, 3) := by decide +kernel
theorem dL_law_769 : decode cL_law 769 = .ok (.iconst 0, 1) := by decide +kernel
theorem dL_law_770 : decode cL_law 770 = .ok (.ireturn, 1) := by decide +kernel
theorem dL_law_771 : decode cL_law 771 = .ok (.goto 936, 3) := by decide +kernel
theorem dL_law_774 : decode cL_law 774 = .ok (.aload_n 1, 1) := by decide +kernel
theorem dL_law_775 : decode cL_law 775 = .ok (.aload_n 0, 1) := by decide +kernel
theorem dL_law_776 : decode cL_law 776 = .ok (.iload 4, 2) := by decide +kernel
theorem dL_law_778 : decode cL_law 778 = .ok (.iconst 1, 1) := by decide +kernel
theorem dL_law_779 : decode cL_law 779 = .ok (.iadd, 1) := by decide +kernel
theorem dL_law_780 : decode cL_law 780 = .ok (.iaload, 1) := by decide +kernel
theorem dL_law_781 : decode cL_law 781 = .ok (.aload_n 3, 1) := by decide +kernel
theorem dL_law_782 : decode cL_law 782 = .ok (.invokestatic 138, 3) := by decide +kernel
theorem dL_law_785 : decode cL_law 785 = .ok (.istore 5, 2) := by decide +kernel
theorem dL_law_787 : decode cL_law 787 = .ok (.aload_n 2, 1) := by decide +kernel
theorem dL_law_788 : decode cL_law 788 = .ok (.aload_n 0, 1) := by decide +kernel
theorem dL_law_789 : decode cL_law 789 = .ok (.iload 4, 2) := by decide +kernel
theorem dL_law_791 : decode cL_law 791 = .ok (.iconst 1, 1) := by decide +kernel
theorem dL_law_792 : decode cL_law 792 = .ok (.iadd, 1) := by decide +kernel
theorem dL_law_793 : decode cL_law 793 = .ok (.iaload, 1) := by decide +kernel
theorem dL_law_794 : decode cL_law 794 = .ok (.invokevirtual 140, 3) := by decide +kernel
theorem dL_law_797 : decode cL_law 797 = .ok (.istore 6, 2) := by decide +kernel
theorem dL_law_799 : decode cL_law 799 = .ok (.aload_n 2, 1) := by decide +kernel
theorem dL_law_800 : decode cL_law 800 = .ok (.invokevirtual 101, 3) := by decide +kernel
theorem dL_law_803 : decode cL_law 803 = .ok (.iload 5, 2) := by decide +kernel
theorem dL_law_805 : decode cL_law 805 = .ok (.if_icmp .eq 5, 3) := by decide +kernel
theorem dL_law_808 : decode cL_law 808 = .ok (.iconst 0, 1) := by decide +kernel
theorem dL_law_809 : decode cL_law 809 = .ok (.ireturn, 1) := by decide +kernel
theorem dL_law_810 : decode cL_law 810 = .ok (.iload 5, 2) := by decide +kernel
theorem dL_law_812 : decode cL_law 812 = .ok (.ifCond .ne 15, 3) := by decide +kernel
theorem dL_law_815 : decode cL_law 815 = .ok (.aload_n 3, 1) := by decide +kernel
theorem dL_law_816 : decode cL_law 816 = .ok (.iconst 0, 1) := by decide +kernel
theorem dL_law_817 : decode cL_law 817 = .ok (.laload, 1) := by decide +kernel
theorem dL_law_818 : decode cL_law 818 = .ok (.iload 6, 2) := by decide +kernel
theorem dL_law_820 : decode cL_law 820 = .ok (.i2l, 1) := by decide +kernel
theorem dL_law_821 : decode cL_law 821 = .ok (.lcmp, 1) := by decide +kernel
theorem dL_law_822 : decode cL_law 822 = .ok (.ifCond .eq 5, 3) := by decide +kernel
theorem dL_law_825 : decode cL_law 825 = .ok (.iconst 0, 1) := by decide +kernel
theorem dL_law_826 : decode cL_law 826 = .ok (.ireturn, 1) := by decide +kernel
theorem dL_law_827 : decode cL_law 827 = .ok (.goto 880, 3) := by decide +kernel
theorem dL_law_830 : decode cL_law 830 = .ok (.aload_n 1, 1) := by decide +kernel
theorem dL_law_831 : decode cL_law 831 = .ok (.aload_n 3, 1) := by decide +kernel
theorem dL_law_832 : decode cL_law 832 = .ok (.invokestatic 141, 3) := by decide +kernel
theorem dL_law_835 : decode cL_law 835 = .ok (.istore 5, 2) := by decide +kernel
theorem dL_law_837 : decode cL_law 837 = .ok (.aload_n 2, 1) := by decide +kernel
theorem dL_law_838 : decode cL_law 838 = .ok (.invokevirtual 144, 3) := by decide +kernel
theorem dL_law_841 : decode cL_law 841 = .ok (.istore 6, 2) := by decide +kernel
theorem dL_law_843 : decode cL_law 843 = .ok (.aload_n 2, 1) := by decide +kernel
theorem dL_law_844 : decode cL_law 844 = .ok (.invokevirtual 101, 3) := by decide +kernel
theorem dL_law_847 : decode cL_law 847 = .ok (.iload 5, 2) := by decide +kernel
theorem dL_law_849 : decode cL_law 849 = .ok (.if_icmp .eq 5, 3) := by decide +kernel
theorem dL_law_852 : decode cL_law 852 = .ok (.iconst 0, 1) := by decide +kernel
theorem dL_law_853 : decode cL_law 853 = .ok (.ireturn, 1) := by decide +kernel
theorem dL_law_854 : decode cL_law 854 = .ok (.iload 5, 2) := by decide +kernel
theorem dL_law_856 : decode cL_law 856 = .ok (.ifCond .ne 15, 3) := by decide +kernel
theorem dL_law_859 : decode cL_law 859 = .ok (.aload_n 3, 1) := by decide +kernel
theorem dL_law_860 : decode cL_law 860 = .ok (.iconst 0, 1) := by decide +kernel
theorem dL_law_861 : decode cL_law 861 = .ok (.laload, 1) := by decide +kernel
theorem dL_law_862 : decode cL_law 862 = .ok (.iload 6, 2) := by decide +kernel
theorem dL_law_864 : decode cL_law 864 = .ok (.i2l, 1) := by decide +kernel
theorem dL_law_865 : decode cL_law 865 = .ok (.lcmp, 1) := by decide +kernel
theorem dL_law_866 : decode cL_law 866 = .ok (.ifCond .eq 5, 3) := by decide +kernel
theorem dL_law_869 : decode cL_law 869 = .ok (.iconst 0, 1) := by decide +kernel
theorem dL_law_870 : decode cL_law 870 = .ok (.ireturn, 1) := by decide +kernel
theorem dL_law_871 : decode cL_law 871 = .ok (.goto 836, 3) := by decide +kernel
theorem dL_law_874 : decode cL_law 874 = .ok (.aload_n 1, 1) := by decide +kernel
theorem dL_law_875 : decode cL_law 875 = .ok (.aload_n 0, 1) := by decide +kernel
theorem dL_law_876 : decode cL_law 876 = .ok (.iload 4, 2) := by decide +kernel
theorem dL_law_878 : decode cL_law 878 = .ok (.iconst 1, 1) := by decide +kernel
theorem dL_law_879 : decode cL_law 879 = .ok (.iadd, 1) := by decide +kernel
theorem dL_law_880 : decode cL_law 880 = .ok (.iaload, 1) := by decide +kernel
theorem dL_law_881 : decode cL_law 881 = .ok (.aload_n 0, 1) := by decide +kernel
theorem dL_law_882 : decode cL_law 882 = .ok (.iload 4, 2) := by decide +kernel
theorem dL_law_884 : decode cL_law 884 = .ok (.iconst 2, 1) := by decide +kernel
theorem dL_law_885 : decode cL_law 885 = .ok (.iadd, 1) := by decide +kernel
theorem dL_law_886 : decode cL_law 886 = .ok (.iaload, 1) := by decide +kernel
theorem dL_law_887 : decode cL_law 887 = .ok (.aload_n 3, 1) := by decide +kernel
theorem dL_law_888 : decode cL_law 888 = .ok (.invokestatic 145, 3) := by decide +kernel
theorem dL_law_891 : decode cL_law 891 = .ok (.istore 5, 2) := by decide +kernel
theorem dL_law_893 : decode cL_law 893 = .ok (.aload_n 2, 1) := by decide +kernel
theorem dL_law_894 : decode cL_law 894 = .ok (.aload_n 0, 1) := by decide +kernel
theorem dL_law_895 : decode cL_law 895 = .ok (.iload 4, 2) := by decide +kernel
theorem dL_law_897 : decode cL_law 897 = .ok (.iconst 1, 1) := by decide +kernel
theorem dL_law_898 : decode cL_law 898 = .ok (.iadd, 1) := by decide +kernel
theorem dL_law_899 : decode cL_law 899 = .ok (.iaload, 1) := by decide +kernel
theorem dL_law_900 : decode cL_law 900 = .ok (.aload_n 0, 1) := by decide +kernel
theorem dL_law_901 : decode cL_law 901 = .ok (.iload 4, 2) := by decide +kernel
theorem dL_law_903 : decode cL_law 903 = .ok (.iconst 2, 1) := by decide +kernel
theorem dL_law_904 : decode cL_law 904 = .ok (.iadd, 1) := by decide +kernel
theorem dL_law_905 : decode cL_law 905 = .ok (.iaload, 1) := by decide +kernel
theorem dL_law_906 : decode cL_law 906 = .ok (.invokevirtual 147, 3) := by decide +kernel
theorem dL_law_909 : decode cL_law 909 = .ok (.istore 6, 2) := by decide +kernel
theorem dL_law_911 : decode cL_law 911 = .ok (.aload_n 2, 1) := by decide +kernel
theorem dL_law_912 : decode cL_law 912 = .ok (.invokevirtual 101, 3) := by decide +kernel
theorem dL_law_915 : decode cL_law 915 = .ok (.iload 5, 2) := by decide +kernel
theorem dL_law_917 : decode cL_law 917 = .ok (.if_icmp .eq 5, 3) := by decide +kernel
theorem dL_law_920 : decode cL_law 920 = .ok (.iconst 0, 1) := by decide +kernel
theorem dL_law_921 : decode cL_law 921 = .ok (.ireturn, 1) := by decide +kernel
theorem dL_law_922 : decode cL_law 922 = .ok (.iload 5, 2) := by decide +kernel
theorem dL_law_924 : decode cL_law 924 = .ok (.ifCond .ne 15, 3) := by decide +kernel
theorem dL_law_927 : decode cL_law 927 = .ok (.aload_n 3, 1) := by decide +kernel
theorem dL_law_928 : decode cL_law 928 = .ok (.iconst 0, 1) := by decide +kernel
theorem dL_law_929 : decode cL_law 929 = .ok (.laload, 1) := by decide +kernel
theorem dL_law_930 : decode cL_law 930 = .ok (.iload 6, 2) := by decide +kernel
theorem dL_law_932 : decode cL_law 932 = .ok (.i2l, 1) := by decide +kernel
theorem dL_law_933 : decode cL_law 933 = .ok (.lcmp, 1) := by decide +kernel
theorem dL_law_934 : decode cL_law 934 = .ok (.ifCond .eq 5, 3) := by decide +kernel
theorem dL_law_937 : decode cL_law 937 = .ok (.iconst 0, 1) := by decide +kernel
theorem dL_law_938 : decode cL_law 938 = .ok (.ireturn, 1) := by decide +kernel
theorem dL_law_939 : decode cL_law 939 = .ok (.goto 768, 3) := by decide +kernel
theorem dL_law_942 : decode cL_law 942 = .ok (.aload_n 1, 1) := by decide +kernel
theorem dL_law_943 : decode cL_law 943 = .ok (.aload_n 0, 1) := by decide +kernel
theorem dL_law_944 : decode cL_law 944 = .ok (.iload 4, 2) := by decide +kernel
theorem dL_law_946 : decode cL_law 946 = .ok (.iconst 1, 1) := by decide +kernel
theorem dL_law_947 : decode cL_law 947 = .ok (.iadd, 1) := by decide +kernel
theorem dL_law_948 : decode cL_law 948 = .ok (.iaload, 1) := by decide +kernel
theorem dL_law_949 : decode cL_law 949 = .ok (.aload_n 3, 1) := by decide +kernel
theorem dL_law_950 : decode cL_law 950 = .ok (.invokestatic 148, 3) := by decide +kernel
theorem dL_law_953 : decode cL_law 953 = .ok (.istore 5, 2) := by decide +kernel
theorem dL_law_955 : decode cL_law 955 = .ok (.aload_n 2, 1) := by decide +kernel
theorem dL_law_956 : decode cL_law 956 = .ok (.aload_n 0, 1) := by decide +kernel
theorem dL_law_957 : decode cL_law 957 = .ok (.iload 4, 2) := by decide +kernel
theorem dL_law_959 : decode cL_law 959 = .ok (.iconst 1, 1) := by decide +kernel
theorem dL_law_960 : decode cL_law 960 = .ok (.iadd, 1) := by decide +kernel
theorem dL_law_961 : decode cL_law 961 = .ok (.iaload, 1) := by decide +kernel
theorem dL_law_962 : decode cL_law 962 = .ok (.invokevirtual 150, 3) := by decide +kernel
theorem dL_law_965 : decode cL_law 965 = .ok (.istore 6, 2) := by decide +kernel
theorem dL_law_967 : decode cL_law 967 = .ok (.aload_n 2, 1) := by decide +kernel
theorem dL_law_968 : decode cL_law 968 = .ok (.invokevirtual 101, 3) := by decide +kernel
theorem dL_law_971 : decode cL_law 971 = .ok (.iload 5, 2) := by decide +kernel
theorem dL_law_973 : decode cL_law 973 = .ok (.if_icmp .eq 5, 3) := by decide +kernel
theorem dL_law_976 : decode cL_law 976 = .ok (.iconst 0, 1) := by decide +kernel
theorem dL_law_977 : decode cL_law 977 = .ok (.ireturn, 1) := by decide +kernel
theorem dL_law_978 : decode cL_law 978 = .ok (.iload 5, 2) := by decide +kernel
theorem dL_law_980 : decode cL_law 980 = .ok (.ifCond .ne 15, 3) := by decide +kernel
theorem dL_law_983 : decode cL_law 983 = .ok (.aload_n 3, 1) := by decide +kernel
theorem dL_law_984 : decode cL_law 984 = .ok (.iconst 0, 1) := by decide +kernel
theorem dL_law_985 : decode cL_law 985 = .ok (.laload, 1) := by decide +kernel
theorem dL_law_986 : decode cL_law 986 = .ok (.iload 6, 2) := by decide +kernel
theorem dL_law_988 : decode cL_law 988 = .ok (.i2l, 1) := by decide +kernel
theorem dL_law_989 : decode cL_law 989 = .ok (.lcmp, 1) := by decide +kernel
theorem dL_law_990 : decode cL_law 990 = .ok (.ifCond .eq 5, 3) := by decide +kernel
theorem dL_law_993 : decode cL_law 993 = .ok (.iconst 0, 1) := by decide +kernel
theorem dL_law_994 : decode cL_law 994 = .ok (.ireturn, 1) := by decide +kernel
theorem dL_law_995 : decode cL_law 995 = .ok (.goto 712, 3) := by decide +kernel
theorem dL_law_998 : decode cL_law 998 = .ok (.aload_n 1, 1) := by decide +kernel
theorem dL_law_999 : decode cL_law 999 = .ok (.aload_n 0, 1) := by decide +kernel
theorem dL_law_1000 : decode cL_law 1000 = .ok (.iload 4, 2) := by decide +kernel
theorem dL_law_1002 : decode cL_law 1002 = .ok (.iconst 1, 1) := by decide +kernel
theorem dL_law_1003 : decode cL_law 1003 = .ok (.iadd, 1) := by decide +kernel
theorem dL_law_1004 : decode cL_law 1004 = .ok (.iaload, 1) := by decide +kernel
theorem dL_law_1005 : decode cL_law 1005 = .ok (.aload_n 3, 1) := by decide +kernel
theorem dL_law_1006 : decode cL_law 1006 = .ok (.invokestatic 151, 3) := by decide +kernel
theorem dL_law_1009 : decode cL_law 1009 = .ok (.istore 5, 2) := by decide +kernel
theorem dL_law_1011 : decode cL_law 1011 = .ok (.aload_n 2, 1) := by decide +kernel
theorem dL_law_1012 : decode cL_law 1012 = .ok (.aload_n 0, 1) := by decide +kernel
theorem dL_law_1013 : decode cL_law 1013 = .ok (.iload 4, 2) := by decide +kernel
theorem dL_law_1015 : decode cL_law 1015 = .ok (.iconst 1, 1) := by decide +kernel
theorem dL_law_1016 : decode cL_law 1016 = .ok (.iadd, 1) := by decide +kernel
theorem dL_law_1017 : decode cL_law 1017 = .ok (.iaload, 1) := by decide +kernel
theorem dL_law_1018 : decode cL_law 1018 = .ok (.invokevirtual 153, 3) := by decide +kernel
theorem dL_law_1021 : decode cL_law 1021 = .ok (.istore 6, 2) := by decide +kernel
theorem dL_law_1023 : decode cL_law 1023 = .ok (.aload_n 2, 1) := by decide +kernel
theorem dL_law_1024 : decode cL_law 1024 = .ok (.invokevirtual 101, 3) := by decide +kernel
theorem dL_law_1027 : decode cL_law 1027 = .ok (.iload 5, 2) := by decide +kernel
theorem dL_law_1029 : decode cL_law 1029 = .ok (.if_icmp .eq 5, 3) := by decide +kernel
theorem dL_law_1032 : decode cL_law 1032 = .ok (.iconst 0, 1) := by decide +kernel
theorem dL_law_1033 : decode cL_law 1033 = .ok (.ireturn, 1) := by decide +kernel
theorem dL_law_1034 : decode cL_law 1034 = .ok (.iload 5, 2) := by decide +kernel
theorem dL_law_1036 : decode cL_law 1036 = .ok (.ifCond .ne 15, 3) := by decide +kernel
theorem dL_law_1039 : decode cL_law 1039 = .ok (.aload_n 3, 1) := by decide +kernel
theorem dL_law_1040 : decode cL_law 1040 = .ok (.iconst 0, 1) := by decide +kernel
theorem dL_law_1041 : decode cL_law 1041 = .ok (.laload, 1) := by decide +kernel
theorem dL_law_1042 : decode cL_law 1042 = .ok (.iload 6, 2) := by decide +kernel
theorem dL_law_1044 : decode cL_law 1044 = .ok (.i2l, 1) := by decide +kernel
theorem dL_law_1045 : decode cL_law 1045 = .ok (.lcmp, 1) := by decide +kernel
theorem dL_law_1046 : decode cL_law 1046 = .ok (.ifCond .eq 5, 3) := by decide +kernel
theorem dL_law_1049 : decode cL_law 1049 = .ok (.iconst 0, 1) := by decide +kernel
theorem dL_law_1050 : decode cL_law 1050 = .ok (.ireturn, 1) := by decide +kernel
theorem dL_law_1051 : decode cL_law 1051 = .ok (.goto 656, 3) := by decide +kernel
theorem dL_law_1054 : decode cL_law 1054 = .ok (.aload_n 1, 1) := by decide +kernel
theorem dL_law_1055 : decode cL_law 1055 = .ok (.aload_n 0, 1) := by decide +kernel
theorem dL_law_1056 : decode cL_law 1056 = .ok (.iload 4, 2) := by decide +kernel
theorem dL_law_1058 : decode cL_law 1058 = .ok (.iconst 1, 1) := by decide +kernel
theorem dL_law_1059 : decode cL_law 1059 = .ok (.iadd, 1) := by decide +kernel
theorem dL_law_1060 : decode cL_law 1060 = .ok (.iaload, 1) := by decide +kernel
theorem dL_law_1061 : decode cL_law 1061 = .ok (.aload_n 3, 1) := by decide +kernel
theorem dL_law_1062 : decode cL_law 1062 = .ok (.invokestatic 154, 3) := by decide +kernel
theorem dL_law_1065 : decode cL_law 1065 = .ok (.istore 5, 2) := by decide +kernel
theorem dL_law_1067 : decode cL_law 1067 = .ok (.aload_n 2, 1) := by decide +kernel
theorem dL_law_1068 : decode cL_law 1068 = .ok (.aload_n 0, 1) := by decide +kernel
theorem dL_law_1069 : decode cL_law 1069 = .ok (.iload 4, 2) := by decide +kernel
theorem dL_law_1071 : decode cL_law 1071 = .ok (.iconst 1, 1) := by decide +kernel
theorem dL_law_1072 : decode cL_law 1072 = .ok (.iadd, 1) := by decide +kernel
theorem dL_law_1073 : decode cL_law 1073 = .ok (.iaload, 1) := by decide +kernel
theorem dL_law_1074 : decode cL_law 1074 = .ok (.invokevirtual 156, 3) := by decide +kernel
theorem dL_law_1077 : decode cL_law 1077 = .ok (.lstore 6, 2) := by decide +kernel
theorem dL_law_1079 : decode cL_law 1079 = .ok (.aload_n 2, 1) := by decide +kernel
theorem dL_law_1080 : decode cL_law 1080 = .ok (.invokevirtual 101, 3) := by decide +kernel
theorem dL_law_1083 : decode cL_law 1083 = .ok (.iload 5, 2) := by decide +kernel
theorem dL_law_1085 : decode cL_law 1085 = .ok (.if_icmp .eq 5, 3) := by decide +kernel
theorem dL_law_1088 : decode cL_law 1088 = .ok (.iconst 0, 1) := by decide +kernel
theorem dL_law_1089 : decode cL_law 1089 = .ok (.ireturn, 1) := by decide +kernel
theorem dL_law_1090 : decode cL_law 1090 = .ok (.iload 5, 2) := by decide +kernel
theorem dL_law_1092 : decode cL_law 1092 = .ok (.ifCond .ne 14, 3) := by decide +kernel
theorem dL_law_1095 : decode cL_law 1095 = .ok (.aload_n 3, 1) := by decide +kernel
theorem dL_law_1096 : decode cL_law 1096 = .ok (.iconst 0, 1) := by decide +kernel
theorem dL_law_1097 : decode cL_law 1097 = .ok (.laload, 1) := by decide +kernel
theorem dL_law_1098 : decode cL_law 1098 = .ok (.lload 6, 2) := by decide +kernel
theorem dL_law_1100 : decode cL_law 1100 = .ok (.lcmp, 1) := by decide +kernel
theorem dL_law_1101 : decode cL_law 1101 = .ok (.ifCond .eq 5, 3) := by decide +kernel
theorem dL_law_1104 : decode cL_law 1104 = .ok (.iconst 0, 1) := by decide +kernel
theorem dL_law_1105 : decode cL_law 1105 = .ok (.ireturn, 1) := by decide +kernel
theorem dL_law_1106 : decode cL_law 1106 = .ok (.goto 601, 3) := by decide +kernel
theorem dL_law_1109 : decode cL_law 1109 = .ok (.aload_n 1, 1) := by decide +kernel
theorem dL_law_1110 : decode cL_law 1110 = .ok (.aload_n 0, 1) := by decide +kernel
theorem dL_law_1111 : decode cL_law 1111 = .ok (.iload 4, 2) := by decide +kernel
theorem dL_law_1113 : decode cL_law 1113 = .ok (.iconst 1, 1) := by decide +kernel
theorem dL_law_1114 : decode cL_law 1114 = .ok (.iadd, 1) := by decide +kernel
theorem dL_law_1115 : decode cL_law 1115 = .ok (.iaload, 1) := by decide +kernel
theorem dL_law_1116 : decode cL_law 1116 = .ok (.aload_n 0, 1) := by decide +kernel
theorem dL_law_1117 : decode cL_law 1117 = .ok (.iload 4, 2) := by decide +kernel
theorem dL_law_1119 : decode cL_law 1119 = .ok (.iconst 2, 1) := by decide +kernel
theorem dL_law_1120 : decode cL_law 1120 = .ok (.iadd, 1) := by decide +kernel
theorem dL_law_1121 : decode cL_law 1121 = .ok (.iaload, 1) := by decide +kernel
theorem dL_law_1122 : decode cL_law 1122 = .ok (.aload_n 0, 1) := by decide +kernel
theorem dL_law_1123 : decode cL_law 1123 = .ok (.iload 4, 2) := by decide +kernel
theorem dL_law_1125 : decode cL_law 1125 = .ok (.iconst 3, 1) := by decide +kernel
theorem dL_law_1126 : decode cL_law 1126 = .ok (.iadd, 1) := by decide +kernel
theorem dL_law_1127 : decode cL_law 1127 = .ok (.iaload, 1) := by decide +kernel
theorem dL_law_1128 : decode cL_law 1128 = .ok (.aload_n 3, 1) := by decide +kernel
theorem dL_law_1129 : decode cL_law 1129 = .ok (.invokestatic 157, 3) := by decide +kernel
theorem dL_law_1132 : decode cL_law 1132 = .ok (.istore 5, 2) := by decide +kernel
theorem dL_law_1134 : decode cL_law 1134 = .ok (.aload_n 2, 1) := by decide +kernel
theorem dL_law_1135 : decode cL_law 1135 = .ok (.aload_n 0, 1) := by decide +kernel
theorem dL_law_1136 : decode cL_law 1136 = .ok (.iload 4, 2) := by decide +kernel
theorem dL_law_1138 : decode cL_law 1138 = .ok (.iconst 1, 1) := by decide +kernel
theorem dL_law_1139 : decode cL_law 1139 = .ok (.iadd, 1) := by decide +kernel
theorem dL_law_1140 : decode cL_law 1140 = .ok (.iaload, 1) := by decide +kernel
theorem dL_law_1141 : decode cL_law 1141 = .ok (.aload_n 0, 1) := by decide +kernel
theorem dL_law_1142 : decode cL_law 1142 = .ok (.iload 4, 2) := by decide +kernel
theorem dL_law_1144 : decode cL_law 1144 = .ok (.iconst 2, 1) := by decide +kernel
theorem dL_law_1145 : decode cL_law 1145 = .ok (.iadd, 1) := by decide +kernel
theorem dL_law_1146 : decode cL_law 1146 = .ok (.iaload, 1) := by decide +kernel
theorem dL_law_1147 : decode cL_law 1147 = .ok (.aload_n 0, 1) := by decide +kernel
theorem dL_law_1148 : decode cL_law 1148 = .ok (.iload 4, 2) := by decide +kernel
theorem dL_law_1150 : decode cL_law 1150 = .ok (.iconst 3, 1) := by decide +kernel
theorem dL_law_1151 : decode cL_law 1151 = .ok (.iadd, 1) := by decide +kernel
theorem dL_law_1152 : decode cL_law 1152 = .ok (.iaload, 1) := by decide +kernel
theorem dL_law_1153 : decode cL_law 1153 = .ok (.invokevirtual 159, 3) := by decide +kernel
theorem dL_law_1156 : decode cL_law 1156 = .ok (.istore 6, 2) := by decide +kernel
theorem dL_law_1158 : decode cL_law 1158 = .ok (.aload_n 2, 1) := by decide +kernel
theorem dL_law_1159 : decode cL_law 1159 = .ok (.invokevirtual 101, 3) := by decide +kernel
theorem dL_law_1162 : decode cL_law 1162 = .ok (.iload 5, 2) := by decide +kernel
theorem dL_law_1164 : decode cL_law 1164 = .ok (.if_icmp .eq 5, 3) := by decide +kernel
theorem dL_law_1167 : decode cL_law 1167 = .ok (.iconst 0, 1) := by decide +kernel
theorem dL_law_1168 : decode cL_law 1168 = .ok (.ireturn, 1) := by decide +kernel
theorem dL_law_1169 : decode cL_law 1169 = .ok (.iload 5, 2) := by decide +kernel
theorem dL_law_1171 : decode cL_law 1171 = .ok (.ifCond .ne 15, 3) := by decide +kernel
theorem dL_law_1174 : decode cL_law 1174 = .ok (.aload_n 3, 1) := by decide +kernel
theorem dL_law_1175 : decode cL_law 1175 = .ok (.iconst 0, 1) := by decide +kernel
theorem dL_law_1176 : decode cL_law 1176 = .ok (.laload, 1) := by decide +kernel
theorem dL_law_1177 : decode cL_law 1177 = .ok (.iload 6, 2) := by decide +kernel
theorem dL_law_1179 : decode cL_law 1179 = .ok (.i2l, 1) := by decide +kernel
theorem dL_law_1180 : decode cL_law 1180 = .ok (.lcmp, 1) := by decide +kernel
theorem dL_law_1181 : decode cL_law 1181 = .ok (.ifCond .eq 5, 3) := by decide +kernel
theorem dL_law_1184 : decode cL_law 1184 = .ok (.iconst 0, 1) := by decide +kernel
theorem dL_law_1185 : decode cL_law 1185 = .ok (.ireturn, 1) := by decide +kernel
theorem dL_law_1186 : decode cL_law 1186 = .ok (.goto 521, 3) := by decide +kernel
theorem dL_law_1189 : decode cL_law 1189 = .ok (.aload_n 1, 1) := by decide +kernel
theorem dL_law_1190 : decode cL_law 1190 = .ok (.aload_n 0, 1) := by decide +kernel
theorem dL_law_1191 : decode cL_law 1191 = .ok (.iload 4, 2) := by decide +kernel
theorem dL_law_1193 : decode cL_law 1193 = .ok (.iconst 1, 1) := by decide +kernel
theorem dL_law_1194 : decode cL_law 1194 = .ok (.iadd, 1) := by decide +kernel
theorem dL_law_1195 : decode cL_law 1195 = .ok (.iaload, 1) := by decide +kernel
theorem dL_law_1196 : decode cL_law 1196 = .ok (.aload_n 0, 1) := by decide +kernel
theorem dL_law_1197 : decode cL_law 1197 = .ok (.iload 4, 2) := by decide +kernel
theorem dL_law_1199 : decode cL_law 1199 = .ok (.iconst 2, 1) := by decide +kernel
theorem dL_law_1200 : decode cL_law 1200 = .ok (.iadd, 1) := by decide +kernel
theorem dL_law_1201 : decode cL_law 1201 = .ok (.iaload, 1) := by decide +kernel
theorem dL_law_1202 : decode cL_law 1202 = .ok (.aload_n 3, 1) := by decide +kernel
theorem dL_law_1203 : decode cL_law 1203 = .ok (.invokestatic 160, 3) := by decide +kernel
theorem dL_law_1206 : decode cL_law 1206 = .ok (.istore 5, 2) := by decide +kernel
theorem dL_law_1208 : decode cL_law 1208 = .ok (.aload_n 2, 1) := by decide +kernel
theorem dL_law_1209 : decode cL_law 1209 = .ok (.aload_n 0, 1) := by decide +kernel
theorem dL_law_1210 : decode cL_law 1210 = .ok (.iload 4, 2) := by decide +kernel
theorem dL_law_1212 : decode cL_law 1212 = .ok (.iconst 1, 1) := by decide +kernel
theorem dL_law_1213 : decode cL_law 1213 = .ok (.iadd, 1) := by decide +kernel
theorem dL_law_1214 : decode cL_law 1214 = .ok (.iaload, 1) := by decide +kernel
theorem dL_law_1215 : decode cL_law 1215 = .ok (.aload_n 0, 1) := by decide +kernel
theorem dL_law_1216 : decode cL_law 1216 = .ok (.iload 4, 2) := by decide +kernel
theorem dL_law_1218 : decode cL_law 1218 = .ok (.iconst 2, 1) := by decide +kernel
theorem dL_law_1219 : decode cL_law 1219 = .ok (.iadd, 1) := by decide +kernel
theorem dL_law_1220 : decode cL_law 1220 = .ok (.iaload, 1) := by decide +kernel
theorem dL_law_1221 : decode cL_law 1221 = .ok (.invokevirtual 162, 3) := by decide +kernel
theorem dL_law_1224 : decode cL_law 1224 = .ok (.istore 6, 2) := by decide +kernel
theorem dL_law_1226 : decode cL_law 1226 = .ok (.aload_n 2, 1) := by decide +kernel
theorem dL_law_1227 : decode cL_law 1227 = .ok (.invokevirtual 101, 3) := by decide +kernel
theorem dL_law_1230 : decode cL_law 1230 = .ok (.iload 5, 2) := by decide +kernel
theorem dL_law_1232 : decode cL_law 1232 = .ok (.if_icmp .eq 5, 3) := by decide +kernel
theorem dL_law_1235 : decode cL_law 1235 = .ok (.iconst 0, 1) := by decide +kernel
theorem dL_law_1236 : decode cL_law 1236 = .ok (.ireturn, 1) := by decide +kernel
theorem dL_law_1237 : decode cL_law 1237 = .ok (.iload 5, 2) := by decide +kernel
theorem dL_law_1239 : decode cL_law 1239 = .ok (.ifCond .ne 15, 3) := by decide +kernel
theorem dL_law_1242 : decode cL_law 1242 = .ok (.aload_n 3, 1) := by decide +kernel
theorem dL_law_1243 : decode cL_law 1243 = .ok (.iconst 0, 1) := by decide +kernel
theorem dL_law_1244 : decode cL_law 1244 = .ok (.laload, 1) := by decide +kernel
theorem dL_law_1245 : decode cL_law 1245 = .ok (.iload 6, 2) := by decide +kernel
theorem dL_law_1247 : decode cL_law 1247 = .ok (.i2l, 1) := by decide +kernel
theorem dL_law_1248 : decode cL_law 1248 = .ok (.lcmp, 1) := by decide +kernel
theorem dL_law_1249 : decode cL_law 1249 = .ok (.ifCond .eq 5, 3) := by decide +kernel
theorem dL_law_1252 : decode cL_law 1252 = .ok (.iconst 0, 1) := by decide +kernel
theorem dL_law_1253 : decode cL_law 1253 = .ok (.ireturn, 1) := by decide +kernel
theorem dL_law_1254 : decode cL_law 1254 = .ok (.goto 453, 3) := by decide +kernel
theorem dL_law_1257 : decode cL_law 1257 = .ok (.aload_n 1, 1) := by decide +kernel
theorem dL_law_1258 : decode cL_law 1258 = .ok (.aload_n 0, 1) := by decide +kernel
theorem dL_law_1259 : decode cL_law 1259 = .ok (.iload 4, 2) := by decide +kernel
theorem dL_law_1261 : decode cL_law 1261 = .ok (.iconst 1, 1) := by decide +kernel
theorem dL_law_1262 : decode cL_law 1262 = .ok (.iadd, 1) := by decide +kernel
theorem dL_law_1263 : decode cL_law 1263 = .ok (.iaload, 1) := by decide +kernel
theorem dL_law_1264 : decode cL_law 1264 = .ok (.aload_n 0, 1) := by decide +kernel
theorem dL_law_1265 : decode cL_law 1265 = .ok (.iload 4, 2) := by decide +kernel
theorem dL_law_1267 : decode cL_law 1267 = .ok (.iconst 2, 1) := by decide +kernel
theorem dL_law_1268 : decode cL_law 1268 = .ok (.iadd, 1) := by decide +kernel
theorem dL_law_1269 : decode cL_law 1269 = .ok (.iaload, 1) := by decide +kernel
theorem dL_law_1270 : decode cL_law 1270 = .ok (.aload_n 0, 1) := by decide +kernel
theorem dL_law_1271 : decode cL_law 1271 = .ok (.iload 4, 2) := by decide +kernel
theorem dL_law_1273 : decode cL_law 1273 = .ok (.iconst 3, 1) := by decide +kernel
theorem dL_law_1274 : decode cL_law 1274 = .ok (.iadd, 1) := by decide +kernel
theorem dL_law_1275 : decode cL_law 1275 = .ok (.iaload, 1) := by decide +kernel
theorem dL_law_1276 : decode cL_law 1276 = .ok (.aload_n 0, 1) := by decide +kernel
theorem dL_law_1277 : decode cL_law 1277 = .ok (.iload 4, 2) := by decide +kernel
theorem dL_law_1279 : decode cL_law 1279 = .ok (.iconst 4, 1) := by decide +kernel
theorem dL_law_1280 : decode cL_law 1280 = .ok (.iadd, 1) := by decide +kernel
theorem dL_law_1281 : decode cL_law 1281 = .ok (.iaload, 1) := by decide +kernel
theorem dL_law_1282 : decode cL_law 1282 = .ok (.aload_n 3, 1) := by decide +kernel
theorem dL_law_1283 : decode cL_law 1283 = .ok (.invokestatic 163, 3) := by decide +kernel
theorem dL_law_1286 : decode cL_law 1286 = .ok (.istore 5, 2) := by decide +kernel
theorem dL_law_1288 : decode cL_law 1288 = .ok (.aload_n 2, 1) := by decide +kernel
theorem dL_law_1289 : decode cL_law 1289 = .ok (.aload_n 0, 1) := by decide +kernel
theorem dL_law_1290 : decode cL_law 1290 = .ok (.iload 4, 2) := by decide +kernel
theorem dL_law_1292 : decode cL_law 1292 = .ok (.iconst 1, 1) := by decide +kernel
theorem dL_law_1293 : decode cL_law 1293 = .ok (.iadd, 1) := by decide +kernel
theorem dL_law_1294 : decode cL_law 1294 = .ok (.iaload, 1) := by decide +kernel
theorem dL_law_1295 : decode cL_law 1295 = .ok (.aload_n 0, 1) := by decide +kernel
theorem dL_law_1296 : decode cL_law 1296 = .ok (.iload 4, 2) := by decide +kernel
theorem dL_law_1298 : decode cL_law 1298 = .ok (.iconst 2, 1) := by decide +kernel
theorem dL_law_1299 : decode cL_law 1299 = .ok (.iadd, 1) := by decide +kernel
theorem dL_law_1300 : decode cL_law 1300 = .ok (.iaload, 1) := by decide +kernel
theorem dL_law_1301 : decode cL_law 1301 = .ok (.aload_n 0, 1) := by decide +kernel
theorem dL_law_1302 : decode cL_law 1302 = .ok (.iload 4, 2) := by decide +kernel
theorem dL_law_1304 : decode cL_law 1304 = .ok (.iconst 3, 1) := by decide +kernel
theorem dL_law_1305 : decode cL_law 1305 = .ok (.iadd, 1) := by decide +kernel
theorem dL_law_1306 : decode cL_law 1306 = .ok (.iaload, 1) := by decide +kernel
theorem dL_law_1307 : decode cL_law 1307 = .ok (.aload_n 0, 1) := by decide +kernel
theorem dL_law_1308 : decode cL_law 1308 = .ok (.iload 4, 2) := by decide +kernel
theorem dL_law_1310 : decode cL_law 1310 = .ok (.iconst 4, 1) := by decide +kernel
theorem dL_law_1311 : decode cL_law 1311 = .ok (.iadd, 1) := by decide +kernel
theorem dL_law_1312 : decode cL_law 1312 = .ok (.iaload, 1) := by decide +kernel
theorem dL_law_1313 : decode cL_law 1313 = .ok (.invokevirtual 166, 3) := by decide +kernel
theorem dL_law_1316 : decode cL_law 1316 = .ok (.istore 6, 2) := by decide +kernel
theorem dL_law_1318 : decode cL_law 1318 = .ok (.aload_n 2, 1) := by decide +kernel
theorem dL_law_1319 : decode cL_law 1319 = .ok (.invokevirtual 101, 3) := by decide +kernel
theorem dL_law_1322 : decode cL_law 1322 = .ok (.iload 5, 2) := by decide +kernel
theorem dL_law_1324 : decode cL_law 1324 = .ok (.if_icmp .eq 5, 3) := by decide +kernel
theorem dL_law_1327 : decode cL_law 1327 = .ok (.iconst 0, 1) := by decide +kernel
theorem dL_law_1328 : decode cL_law 1328 = .ok (.ireturn, 1) := by decide +kernel
theorem dL_law_1329 : decode cL_law 1329 = .ok (.iload 5, 2) := by decide +kernel
theorem dL_law_1331 : decode cL_law 1331 = .ok (.ifCond .ne 15, 3) := by decide +kernel
theorem dL_law_1334 : decode cL_law 1334 = .ok (.aload_n 3, 1) := by decide +kernel
theorem dL_law_1335 : decode cL_law 1335 = .ok (.iconst 0, 1) := by decide +kernel
theorem dL_law_1336 : decode cL_law 1336 = .ok (.laload, 1) := by decide +kernel
theorem dL_law_1337 : decode cL_law 1337 = .ok (.iload 6, 2) := by decide +kernel
theorem dL_law_1339 : decode cL_law 1339 = .ok (.i2l, 1) := by decide +kernel
theorem dL_law_1340 : decode cL_law 1340 = .ok (.lcmp, 1) := by decide +kernel
theorem dL_law_1341 : decode cL_law 1341 = .ok (.ifCond .eq 5, 3) := by decide +kernel
theorem dL_law_1344 : decode cL_law 1344 = .ok (.iconst 0, 1) := by decide +kernel
theorem dL_law_1345 : decode cL_law 1345 = .ok (.ireturn, 1) := by decide +kernel
theorem dL_law_1346 : decode cL_law 1346 = .ok (.goto 361, 3) := by decide +kernel
theorem dL_law_1349 : decode cL_law 1349 = .ok (.aload_n 1, 1) := by decide +kernel
theorem dL_law_1350 : decode cL_law 1350 = .ok (.aload_n 0, 1) := by decide +kernel
theorem dL_law_1351 : decode cL_law 1351 = .ok (.iload 4, 2) := by decide +kernel
theorem dL_law_1353 : decode cL_law 1353 = .ok (.iconst 1, 1) := by decide +kernel
theorem dL_law_1354 : decode cL_law 1354 = .ok (.iadd, 1) := by decide +kernel
theorem dL_law_1355 : decode cL_law 1355 = .ok (.iaload, 1) := by decide +kernel
theorem dL_law_1356 : decode cL_law 1356 = .ok (.aload_n 3, 1) := by decide +kernel
theorem dL_law_1357 : decode cL_law 1357 = .ok (.invokestatic 167, 3) := by decide +kernel
theorem dL_law_1360 : decode cL_law 1360 = .ok (.istore 5, 2) := by decide +kernel
theorem dL_law_1362 : decode cL_law 1362 = .ok (.aload_n 2, 1) := by decide +kernel
theorem dL_law_1363 : decode cL_law 1363 = .ok (.aload_n 0, 1) := by decide +kernel
theorem dL_law_1364 : decode cL_law 1364 = .ok (.iload 4, 2) := by decide +kernel
theorem dL_law_1366 : decode cL_law 1366 = .ok (.iconst 1, 1) := by decide +kernel
theorem dL_law_1367 : decode cL_law 1367 = .ok (.iadd, 1) := by decide +kernel
theorem dL_law_1368 : decode cL_law 1368 = .ok (.iaload, 1) := by decide +kernel
theorem dL_law_1369 : decode cL_law 1369 = .ok (.invokevirtual 169, 3) := by decide +kernel
theorem dL_law_1372 : decode cL_law 1372 = .ok (.istore 6, 2) := by decide +kernel
theorem dL_law_1374 : decode cL_law 1374 = .ok (.aload_n 2, 1) := by decide +kernel
theorem dL_law_1375 : decode cL_law 1375 = .ok (.invokevirtual 101, 3) := by decide +kernel
theorem dL_law_1378 : decode cL_law 1378 = .ok (.iload 5, 2) := by decide +kernel
theorem dL_law_1380 : decode cL_law 1380 = .ok (.if_icmp .eq 5, 3) := by decide +kernel
theorem dL_law_1383 : decode cL_law 1383 = .ok (.iconst 0, 1) := by decide +kernel
theorem dL_law_1384 : decode cL_law 1384 = .ok (.ireturn, 1) := by decide +kernel
theorem dL_law_1385 : decode cL_law 1385 = .ok (.iload 5, 2) := by decide +kernel
theorem dL_law_1387 : decode cL_law 1387 = .ok (.ifCond .ne 15, 3) := by decide +kernel
theorem dL_law_1390 : decode cL_law 1390 = .ok (.aload_n 3, 1) := by decide +kernel
theorem dL_law_1391 : decode cL_law 1391 = .ok (.iconst 0, 1) := by decide +kernel
theorem dL_law_1392 : decode cL_law 1392 = .ok (.laload, 1) := by decide +kernel
theorem dL_law_1393 : decode cL_law 1393 = .ok (.iload 6, 2) := by decide +kernel
theorem dL_law_1395 : decode cL_law 1395 = .ok (.i2l, 1) := by decide +kernel
theorem dL_law_1396 : decode cL_law 1396 = .ok (.lcmp, 1) := by decide +kernel
theorem dL_law_1397 : decode cL_law 1397 = .ok (.ifCond .eq 5, 3) := by decide +kernel
theorem dL_law_1400 : decode cL_law 1400 = .ok (.iconst 0, 1) := by decide +kernel
theorem dL_law_1401 : decode cL_law 1401 = .ok (.ireturn, 1) := by decide +kernel
theorem dL_law_1402 : decode cL_law 1402 = .ok (.goto 305, 3) := by decide +kernel
theorem dL_law_1405 : decode cL_law 1405 = .ok (.aload_n 1, 1) := by decide +kernel
theorem dL_law_1406 : decode cL_law 1406 = .ok (.aload_n 0, 1) := by decide +kernel
theorem dL_law_1407 : decode cL_law 1407 = .ok (.iload 4, 2) := by decide +kernel
theorem dL_law_1409 : decode cL_law 1409 = .ok (.iconst 1, 1) := by decide +kernel
theorem dL_law_1410 : decode cL_law 1410 = .ok (.iadd, 1) := by decide +kernel
theorem dL_law_1411 : decode cL_law 1411 = .ok (.iaload, 1) := by decide +kernel
theorem dL_law_1412 : decode cL_law 1412 = .ok (.aload_n 3, 1) := by decide +kernel
theorem dL_law_1413 : decode cL_law 1413 = .ok (.invokestatic 170, 3) := by decide +kernel
theorem dL_law_1416 : decode cL_law 1416 = .ok (.istore 5, 2) := by decide +kernel
theorem dL_law_1418 : decode cL_law 1418 = .ok (.aload_n 2, 1) := by decide +kernel
theorem dL_law_1419 : decode cL_law 1419 = .ok (.aload_n 0, 1) := by decide +kernel
theorem dL_law_1420 : decode cL_law 1420 = .ok (.iload 4, 2) := by decide +kernel
theorem dL_law_1422 : decode cL_law 1422 = .ok (.iconst 1, 1) := by decide +kernel
theorem dL_law_1423 : decode cL_law 1423 = .ok (.iadd, 1) := by decide +kernel
theorem dL_law_1424 : decode cL_law 1424 = .ok (.iaload, 1) := by decide +kernel
theorem dL_law_1425 : decode cL_law 1425 = .ok (.invokevirtual 172, 3) := by decide +kernel
theorem dL_law_1428 : decode cL_law 1428 = .ok (.istore 6, 2) := by decide +kernel
theorem dL_law_1430 : decode cL_law 1430 = .ok (.aload_n 2, 1) := by decide +kernel
theorem dL_law_1431 : decode cL_law 1431 = .ok (.invokevirtual 101, 3) := by decide +kernel
theorem dL_law_1434 : decode cL_law 1434 = .ok (.iload 5, 2) := by decide +kernel
theorem dL_law_1436 : decode cL_law 1436 = .ok (.if_icmp .eq 5, 3) := by decide +kernel
theorem dL_law_1439 : decode cL_law 1439 = .ok (.iconst 0, 1) := by decide +kernel
theorem dL_law_1440 : decode cL_law 1440 = .ok (.ireturn, 1) := by decide +kernel
theorem dL_law_1441 : decode cL_law 1441 = .ok (.iload 5, 2) := by decide +kernel
theorem dL_law_1443 : decode cL_law 1443 = .ok (.ifCond .ne 15, 3) := by decide +kernel
theorem dL_law_1446 : decode cL_law 1446 = .ok (.aload_n 3, 1) := by decide +kernel
theorem dL_law_1447 : decode cL_law 1447 = .ok (.iconst 0, 1) := by decide +kernel
theorem dL_law_1448 : decode cL_law 1448 = .ok (.laload, 1) := by decide +kernel
theorem dL_law_1449 : decode cL_law 1449 = .ok (.iload 6, 2) := by decide +kernel
theorem dL_law_1451 : decode cL_law 1451 = .ok (.i2l, 1) := by decide +kernel
theorem dL_law_1452 : decode cL_law 1452 = .ok (.lcmp, 1) := by decide +kernel
theorem dL_law_1453 : decode cL_law 1453 = .ok (.ifCond .eq 5, 3) := by decide +kernel
theorem dL_law_1456 : decode cL_law 1456 = .ok (.iconst 0, 1) := by decide +kernel
theorem dL_law_1457 : decode cL_law 1457 = .ok (.ireturn, 1) := by decide +kernel
theorem dL_law_1458 : decode cL_law 1458 = .ok (.goto 249, 3) := by decide +kernel
theorem dL_law_1461 : decode cL_law 1461 = .ok (.aload_n 1, 1) := by decide +kernel
theorem dL_law_1462 : decode cL_law 1462 = .ok (.aload_n 0, 1) := by decide +kernel
theorem dL_law_1463 : decode cL_law 1463 = .ok (.iload 4, 2) := by decide +kernel
theorem dL_law_1465 : decode cL_law 1465 = .ok (.iconst 1, 1) := by decide +kernel
theorem dL_law_1466 : decode cL_law 1466 = .ok (.iadd, 1) := by decide +kernel
theorem dL_law_1467 : decode cL_law 1467 = .ok (.iaload, 1) := by decide +kernel
theorem dL_law_1468 : decode cL_law 1468 = .ok (.aload_n 0, 1) := by decide +kernel
theorem dL_law_1469 : decode cL_law 1469 = .ok (.iload 4, 2) := by decide +kernel
theorem dL_law_1471 : decode cL_law 1471 = .ok (.iconst 2, 1) := by decide +kernel
theorem dL_law_1472 : decode cL_law 1472 = .ok (.iadd, 1) := by decide +kernel
theorem dL_law_1473 : decode cL_law 1473 = .ok (.iaload, 1) := by decide +kernel
theorem dL_law_1474 : decode cL_law 1474 = .ok (.aload_n 3, 1) := by decide +kernel
theorem dL_law_1475 : decode cL_law 1475 = .ok (.invokestatic 173, 3) := by decide +kernel
theorem dL_law_1478 : decode cL_law 1478 = .ok (.istore 5, 2) := by decide +kernel
theorem dL_law_1480 : decode cL_law 1480 = .ok (.aload_n 2, 1) := by decide +kernel
theorem dL_law_1481 : decode cL_law 1481 = .ok (.aload_n 0, 1) := by decide +kernel
theorem dL_law_1482 : decode cL_law 1482 = .ok (.iload 4, 2) := by decide +kernel
theorem dL_law_1484 : decode cL_law 1484 = .ok (.iconst 1, 1) := by decide +kernel
theorem dL_law_1485 : decode cL_law 1485 = .ok (.iadd, 1) := by decide +kernel
theorem dL_law_1486 : decode cL_law 1486 = .ok (.iaload, 1) := by decide +kernel
theorem dL_law_1487 : decode cL_law 1487 = .ok (.aload_n 0, 1) := by decide +kernel
theorem dL_law_1488 : decode cL_law 1488 = .ok (.iload 4, 2) := by decide +kernel
theorem dL_law_1490 : decode cL_law 1490 = .ok (.iconst 2, 1) := by decide +kernel
theorem dL_law_1491 : decode cL_law 1491 = .ok (.iadd, 1) := by decide +kernel
theorem dL_law_1492 : decode cL_law 1492 = .ok (.iaload, 1) := by decide +kernel
theorem dL_law_1493 : decode cL_law 1493 = .ok (.invokevirtual 175, 3) := by decide +kernel
theorem dL_law_1496 : decode cL_law 1496 = .ok (.lstore 6, 2) := by decide +kernel
theorem dL_law_1498 : decode cL_law 1498 = .ok (.aload_n 2, 1) := by decide +kernel
theorem dL_law_1499 : decode cL_law 1499 = .ok (.invokevirtual 101, 3) := by decide +kernel
theorem dL_law_1502 : decode cL_law 1502 = .ok (.iload 5, 2) := by decide +kernel
theorem dL_law_1504 : decode cL_law 1504 = .ok (.if_icmp .eq 5, 3) := by decide +kernel
theorem dL_law_1507 : decode cL_law 1507 = .ok (.iconst 0, 1) := by decide +kernel
theorem dL_law_1508 : decode cL_law 1508 = .ok (.ireturn, 1) := by decide +kernel
theorem dL_law_1509 : decode cL_law 1509 = .ok (.iload 5, 2) := by decide +kernel
theorem dL_law_1511 : decode cL_law 1511 = .ok (.ifCond .ne 14, 3) := by decide +kernel
theorem dL_law_1514 : decode cL_law 1514 = .ok (.aload_n 3, 1) := by decide +kernel
theorem dL_law_1515 : decode cL_law 1515 = .ok (.iconst 0, 1) := by decide +kernel
theorem dL_law_1516 : decode cL_law 1516 = .ok (.laload, 1) := by decide +kernel
theorem dL_law_1517 : decode cL_law 1517 = .ok (.lload 6, 2) := by decide +kernel
theorem dL_law_1519 : decode cL_law 1519 = .ok (.lcmp, 1) := by decide +kernel
theorem dL_law_1520 : decode cL_law 1520 = .ok (.ifCond .eq 5, 3) := by decide +kernel
theorem dL_law_1523 : decode cL_law 1523 = .ok (.iconst 0, 1) := by decide +kernel
theorem dL_law_1524 : decode cL_law 1524 = .ok (.ireturn, 1) := by decide +kernel
theorem dL_law_1525 : decode cL_law 1525 = .ok (.goto 182, 3) := by decide +kernel
theorem dL_law_1528 : decode cL_law 1528 = .ok (.aload_n 1, 1) := by decide +kernel
theorem dL_law_1529 : decode cL_law 1529 = .ok (.aload_n 0, 1) := by decide +kernel
theorem dL_law_1530 : decode cL_law 1530 = .ok (.iload 4, 2) := by decide +kernel
theorem dL_law_1532 : decode cL_law 1532 = .ok (.iconst 1, 1) := by decide +kernel
theorem dL_law_1533 : decode cL_law 1533 = .ok (.iadd, 1) := by decide +kernel
theorem dL_law_1534 : decode cL_law 1534 = .ok (.iaload, 1) := by decide +kernel
theorem dL_law_1535 : decode cL_law 1535 = .ok (.aload_n 0, 1) := by decide +kernel
theorem dL_law_1536 : decode cL_law 1536 = .ok (.iload 4, 2) := by decide +kernel
theorem dL_law_1538 : decode cL_law 1538 = .ok (.iconst 2, 1) := by decide +kernel
theorem dL_law_1539 : decode cL_law 1539 = .ok (.iadd, 1) := by decide +kernel
theorem dL_law_1540 : decode cL_law 1540 = .ok (.iaload, 1) := by decide +kernel
theorem dL_law_1541 : decode cL_law 1541 = .ok (.aload_n 3, 1) := by decide +kernel
theorem dL_law_1542 : decode cL_law 1542 = .ok (.invokestatic 176, 3) := by decide +kernel
theorem dL_law_1545 : decode cL_law 1545 = .ok (.istore 5, 2) := by decide +kernel
theorem dL_law_1547 : decode cL_law 1547 = .ok (.aload_n 2, 1) := by decide +kernel
theorem dL_law_1548 : decode cL_law 1548 = .ok (.aload_n 0, 1) := by decide +kernel
theorem dL_law_1549 : decode cL_law 1549 = .ok (.iload 4, 2) := by decide +kernel
theorem dL_law_1551 : decode cL_law 1551 = .ok (.iconst 1, 1) := by decide +kernel
theorem dL_law_1552 : decode cL_law 1552 = .ok (.iadd, 1) := by decide +kernel
theorem dL_law_1553 : decode cL_law 1553 = .ok (.iaload, 1) := by decide +kernel
theorem dL_law_1554 : decode cL_law 1554 = .ok (.aload_n 0, 1) := by decide +kernel
theorem dL_law_1555 : decode cL_law 1555 = .ok (.iload 4, 2) := by decide +kernel
theorem dL_law_1557 : decode cL_law 1557 = .ok (.iconst 2, 1) := by decide +kernel
theorem dL_law_1558 : decode cL_law 1558 = .ok (.iadd, 1) := by decide +kernel
theorem dL_law_1559 : decode cL_law 1559 = .ok (.iaload, 1) := by decide +kernel
theorem dL_law_1560 : decode cL_law 1560 = .ok (.invokevirtual 178, 3) := by decide +kernel
theorem dL_law_1563 : decode cL_law 1563 = .ok (.istore 6, 2) := by decide +kernel
theorem dL_law_1565 : decode cL_law 1565 = .ok (.aload_n 2, 1) := by decide +kernel
theorem dL_law_1566 : decode cL_law 1566 = .ok (.invokevirtual 101, 3) := by decide +kernel
theorem dL_law_1569 : decode cL_law 1569 = .ok (.iload 5, 2) := by decide +kernel
theorem dL_law_1571 : decode cL_law 1571 = .ok (.if_icmp .eq 5, 3) := by decide +kernel
theorem dL_law_1574 : decode cL_law 1574 = .ok (.iconst 0, 1) := by decide +kernel
theorem dL_law_1575 : decode cL_law 1575 = .ok (.ireturn, 1) := by decide +kernel
theorem dL_law_1576 : decode cL_law 1576 = .ok (.iload 5, 2) := by decide +kernel
theorem dL_law_1578 : decode cL_law 1578 = .ok (.ifCond .ne 15, 3) := by decide +kernel
theorem dL_law_1581 : decode cL_law 1581 = .ok (.aload_n 3, 1) := by decide +kernel
theorem dL_law_1582 : decode cL_law 1582 = .ok (.iconst 0, 1) := by decide +kernel
theorem dL_law_1583 : decode cL_law 1583 = .ok (.laload, 1) := by decide +kernel
theorem dL_law_1584 : decode cL_law 1584 = .ok (.iload 6, 2) := by decide +kernel
theorem dL_law_1586 : decode cL_law 1586 = .ok (.i2l, 1) := by decide +kernel
theorem dL_law_1587 : decode cL_law 1587 = .ok (.lcmp, 1) := by decide +kernel
theorem dL_law_1588 : decode cL_law 1588 = .ok (.ifCond .eq 5, 3) := by decide +kernel
theorem dL_law_1591 : decode cL_law 1591 = .ok (.iconst 0, 1) := by decide +kernel
theorem dL_law_1592 : decode cL_law 1592 = .ok (.ireturn, 1) := by decide +kernel
theorem dL_law_1593 : decode cL_law 1593 = .ok (.goto 114, 3) := by decide +kernel
theorem dL_law_1596 : decode cL_law 1596 = .ok (.aload_n 1, 1) := by decide +kernel
theorem dL_law_1597 : decode cL_law 1597 = .ok (.aload_n 0, 1) := by decide +kernel
theorem dL_law_1598 : decode cL_law 1598 = .ok (.iload 4, 2) := by decide +kernel
theorem dL_law_1600 : decode cL_law 1600 = .ok (.iconst 1, 1) := by decide +kernel
theorem dL_law_1601 : decode cL_law 1601 = .ok (.iadd, 1) := by decide +kernel
theorem dL_law_1602 : decode cL_law 1602 = .ok (.iaload, 1) := by decide +kernel
theorem dL_law_1603 : decode cL_law 1603 = .ok (.aload_n 3, 1) := by decide +kernel
theorem dL_law_1604 : decode cL_law 1604 = .ok (.invokestatic 179, 3) := by decide +kernel
theorem dL_law_1607 : decode cL_law 1607 = .ok (.istore 5, 2) := by decide +kernel
theorem dL_law_1609 : decode cL_law 1609 = .ok (.aload_n 2, 1) := by decide +kernel
theorem dL_law_1610 : decode cL_law 1610 = .ok (.aload_n 0, 1) := by decide +kernel
theorem dL_law_1611 : decode cL_law 1611 = .ok (.iload 4, 2) := by decide +kernel
theorem dL_law_1613 : decode cL_law 1613 = .ok (.iconst 1, 1) := by decide +kernel
theorem dL_law_1614 : decode cL_law 1614 = .ok (.iadd, 1) := by decide +kernel
theorem dL_law_1615 : decode cL_law 1615 = .ok (.iaload, 1) := by decide +kernel
theorem dL_law_1616 : decode cL_law 1616 = .ok (.invokevirtual 181, 3) := by decide +kernel
theorem dL_law_1619 : decode cL_law 1619 = .ok (.istore 6, 2) := by decide +kernel
theorem dL_law_1621 : decode cL_law 1621 = .ok (.aload_n 2, 1) := by decide +kernel
theorem dL_law_1622 : decode cL_law 1622 = .ok (.invokevirtual 101, 3) := by decide +kernel
theorem dL_law_1625 : decode cL_law 1625 = .ok (.iload 5, 2) := by decide +kernel
theorem dL_law_1627 : decode cL_law 1627 = .ok (.if_icmp .eq 5, 3) := by decide +kernel
theorem dL_law_1630 : decode cL_law 1630 = .ok (.iconst 0, 1) := by decide +kernel
theorem dL_law_1631 : decode cL_law 1631 = .ok (.ireturn, 1) := by decide +kernel
theorem dL_law_1632 : decode cL_law 1632 = .ok (.iload 5, 2) := by decide +kernel
theorem dL_law_1634 : decode cL_law 1634 = .ok (.ifCond .ne 15, 3) := by decide +kernel
theorem dL_law_1637 : decode cL_law 1637 = .ok (.aload_n 3, 1) := by decide +kernel
theorem dL_law_1638 : decode cL_law 1638 = .ok (.iconst 0, 1) := by decide +kernel
theorem dL_law_1639 : decode cL_law 1639 = .ok (.laload, 1) := by decide +kernel
theorem dL_law_1640 : decode cL_law 1640 = .ok (.iload 6, 2) := by decide +kernel
theorem dL_law_1642 : decode cL_law 1642 = .ok (.i2l, 1) := by decide +kernel
theorem dL_law_1643 : decode cL_law 1643 = .ok (.lcmp, 1) := by decide +kernel
theorem dL_law_1644 : decode cL_law 1644 = .ok (.ifCond .eq 5, 3) := by decide +kernel
theorem dL_law_1647 : decode cL_law 1647 = .ok (.iconst 0, 1) := by decide +kernel
theorem dL_law_1648 : decode cL_law 1648 = .ok (.ireturn, 1) := by decide +kernel
theorem dL_law_1649 : decode cL_law 1649 = .ok (.goto 58, 3) := by decide +kernel
theorem dL_law_1652 : decode cL_law 1652 = .ok (.aload_n 1, 1) := by decide +kernel
theorem dL_law_1653 : decode cL_law 1653 = .ok (.invokevirtual 182, 3) := by decide +kernel
theorem dL_law_1656 : decode cL_law 1656 = .ok (.dstore 5, 2) := by decide +kernel
theorem dL_law_1658 : decode cL_law 1658 = .ok (.aload_n 2, 1) := by decide +kernel
theorem dL_law_1659 : decode cL_law 1659 = .ok (.invokevirtual 186, 3) := by decide +kernel
theorem dL_law_1662 : decode cL_law 1662 = .ok (.dstore 7, 2) := by decide +kernel
theorem dL_law_1664 : decode cL_law 1664 = .ok (.dload 5, 2) := by decide +kernel
theorem dL_law_1666 : decode cL_law 1666 = .ok (.dload 7, 2) := by decide +kernel
theorem dL_law_1668 : decode cL_law 1668 = .ok (.dcmp .l, 1) := by decide +kernel
theorem dL_law_1669 : decode cL_law 1669 = .ok (.ifCond .eq 21, 3) := by decide +kernel
theorem dL_law_1672 : decode cL_law 1672 = .ok (.dload 5, 2) := by decide +kernel
theorem dL_law_1674 : decode cL_law 1674 = .ok (.dload 5, 2) := by decide +kernel
theorem dL_law_1676 : decode cL_law 1676 = .ok (.dcmp .l, 1) := by decide +kernel
theorem dL_law_1677 : decode cL_law 1677 = .ok (.ifCond .eq 11, 3) := by decide +kernel
theorem dL_law_1680 : decode cL_law 1680 = .ok (.dload 7, 2) := by decide +kernel
theorem dL_law_1682 : decode cL_law 1682 = .ok (.dload 7, 2) := by decide +kernel
theorem dL_law_1684 : decode cL_law 1684 = .ok (.dcmp .l, 1) := by decide +kernel
theorem dL_law_1685 : decode cL_law 1685 = .ok (.ifCond .ne 5, 3) := by decide +kernel
theorem dL_law_1688 : decode cL_law 1688 = .ok (.iconst 0, 1) := by decide +kernel
theorem dL_law_1689 : decode cL_law 1689 = .ok (.ireturn, 1) := by decide +kernel
theorem dL_law_1690 : decode cL_law 1690 = .ok (.goto 17, 3) := by decide +kernel
theorem dL_law_1693 : decode cL_law 1693 = .ok (.aload_n 1, 1) := by decide +kernel
theorem dL_law_1694 : decode cL_law 1694 = .ok (.invokevirtual 187, 3) := by decide +kernel
theorem dL_law_1697 : decode cL_law 1697 = .ok (.aload_n 2, 1) := by decide +kernel
theorem dL_law_1698 : decode cL_law 1698 = .ok (.invokevirtual 191, 3) := by decide +kernel
theorem dL_law_1701 : decode cL_law 1701 = .ok (.lcmp, 1) := by decide +kernel
theorem dL_law_1702 : decode cL_law 1702 = .ok (.ifCond .eq 5, 3) := by decide +kernel
theorem dL_law_1705 : decode cL_law 1705 = .ok (.iconst 0, 1) := by decide +kernel
theorem dL_law_1706 : decode cL_law 1706 = .ok (.ireturn, 1) := by decide +kernel
theorem dL_law_1707 : decode cL_law 1707 = .ok (.iinc 4 5, 3) := by decide +kernel
theorem dL_law_1710 : decode cL_law 1710 = .ok (.goto (-1687), 3) := by decide +kernel
theorem dL_law_1713 : decode cL_law 1713 = .ok (.iconst 1, 1) := by decide +kernel
theorem dL_law_1714 : decode cL_law 1714 = .ok (.ireturn, 1) := by decide +kernel
end
section
/-! The base: one list of words for all methods (TB), a method's context (en), a world at hand (wk), contracts of methods that make nothing (ct), and the rows over them. -/
def TB : List Cond := lw_tbl.filter goodWord
theorem tb {w : Cond} (i : Nat) (h : lw_tbl[i]? = some w) (hg : goodWord w = true) : w ∈ TB := List.mem_filter.mpr ⟨List.mem_of_getElem? h, hg⟩
theorem TB_good {w : Cond} (h : w ∈ TB) : goodWord w = true := (List.mem_filter.mp h).2
theorem tb_sub {L : List Cond} (h1 : ∀ w ∈ L, w ∈ lw_tbl) (h2 : L.all goodWord = true) : ∀ w ∈ L, w ∈ TB := fun w h => List.mem_filter.mpr ⟨h1 w h, List.all_eq_true.mp h2 w h⟩
def gT (g : Nat → ClassId) : List (ClassId × FieldType) := [(g 0, .int), (g 1, .long), (g 2, .boolean), (g 3, .array .int), (g 4, .array .long)]
abbrev wsm (y : MethodName) (cc : ByteArray) (nL : Nat) (ret : Option FieldType) : List Cond := .code y cc nL ret :: TB
abbrev rmk (f k : Nat) : Room := { frames := f, cells := 0, slots := 0, locals := k }
def en (p : Program) (m : MethodId) (c : Code) (cc : ByteArray) (nL : Nat) (s : State) (args : Array Value) (own : String) (D : va_G) (g : Nat → ClassId) : Prop :=
  (p.tables.exec = Jvm.exec ∧ c.code = cc ∧ c.maxLocals = nL ∧ s.vm.findClass own = some m.cls ∧ ∀ w ∈ TB, w.before args s = true) ∧ va_K D vwCl (gT g) s
def wk (D : va_G) (ws : va_W) (A : Nat → Prop) (H0 H : Heap) (locs : List Loc) : Prop := va_P D vwCl ws H ∧ va_D A ws ∧ va_S A H0 H locs
def kA (ws : va_W) : Nat → Prop := fun q => ∃ (k : Nat) (e : va_E), ws[k]? = some (q, e)
def qR (rv : Option Value) (B : State → Prop) (A : Nat → Prop) : Array Value → State → Outcome → State → Prop := fun _ st oc t => (oc = .returned rv ∧ B t) ∧ va_F A st t
def ib (i : Int32) (n : Nat) : Bool := !(decide (i < 0)) && decide (i.toNatClampNeg < n)
theorem ib_in {i : Int32} {n : Nat} (h : ib i n = true) : vp_in i n := by
  simp only [ib, Bool.and_eq_true, Bool.not_eq_true', decide_eq_false_iff_not, decide_eq_true_eq] at h
  exact fun q => q.elim h.1 (fun q => Nat.not_lt.mpr q h.2)
theorem ib_lt {i : Int32} {n : Nat} (h : ib i n = true) : i.toNatClampNeg < n := by
  simp only [ib, Bool.and_eq_true, decide_eq_true_eq] at h
  exact h.2
def zok (v : Int32) : Bool := v == 0 || v == 1
theorem zok_n {v : Int32} (h : zok v = true) : narrow .boolean (.int v) = .int v := by
  simp only [zok, Bool.or_eq_true, beq_iff_eq] at h
  rcases h with rfl | rfl <;> rfl
/-- a copy's bounds -/
def cg (sp dp n : Int32) (n0 n1 : Nat) : Bool := !(decide (sp < 0)) && !(decide (dp < 0)) && !(decide (n < 0)) && decide (sp.toNatClampNeg + n.toNatClampNeg ≤ n0) && decide (dp.toNatClampNeg + n.toNatClampNeg ≤ n1)
theorem cg_of {sp dp n : Int32} {n0 n1 : Nat} (h : cg sp dp n n0 n1 = true) : ¬ sp < 0 ∧ ¬ dp < 0 ∧ ¬ n < 0 ∧ sp.toNatClampNeg + n.toNatClampNeg ≤ n0 ∧ dp.toNatClampNeg + n.toNatClampNeg ≤ n1 := by
  simp only [cg, Bool.and_eq_true, Bool.not_eq_true', decide_eq_false_iff_not, decide_eq_true_eq] at h
  exact ⟨h.1.1.1.1, h.1.1.1.2, h.1.1.2, h.1.2, h.2⟩
/-- no NaN -/
def nn (r : UInt64) : Bool := decide (r &&& 0x7fffffffffffffff ≤ 0x7ff0000000000000)
theorem nn_of {r : UInt64} (h : nn r = true) : vf_n64 r := by
  simp only [nn, decide_eq_true_eq] at h
  exact h
-- the shapes of the pure pictures
theorem gd {α : Type} {c : Bool} {K : Option α} {o : α} (h : (if c = true then K else none) = some o) : c = true ∧ K = some o := by
  by_cases hc : c = true
  · rw [if_pos hc] at h; exact ⟨hc, h⟩
  · rw [if_neg hc] at h; cases h
theorem gz {α : Type} {y : Int32} {K : Option α} {o : α} (h : (if y = 0 then none else K) = some o) : ¬ y = 0 ∧ K = some o := by
  by_cases hc : y = 0
  · rw [if_pos hc] at h; cases h
  · rw [if_neg hc] at h; exact ⟨hc, h⟩
theorem ifp {α : Type} {c : Prop} {_ : Decidable c} {T F : α} {o : α} (hc : c) (h : (if c then T else F) = o) : T = o := by rw [if_pos hc] at h; exact h
theorem ifn {α : Type} {c : Prop} {_ : Decidable c} {T F : α} {o : α} (hc : ¬ c) (h : (if c then T else F) = o) : F = o := by rw [if_neg hc] at h; exact h
def bi1 {α β : Type} (x : Option α) (f : α → Option β) : Option β := match x with
  | none => none
  | some a => f a
def bi2 {α β γ : Type} (x : Option (α × β)) (f : α → β → Option γ) : Option γ := match x with
  | none => none
  | some z => f z.1 z.2
theorem bx1 {α β : Type} {x : Option α} {f : α → Option β} {o : β} (h : bi1 x f = some o) : ∃ a, x = some a ∧ f a = some o := by
  cases x with
  | none => cases h
  | some a => exact ⟨a, rfl, h⟩
theorem bx2 {α β γ : Type} {x : Option (α × β)} {f : α → β → Option γ} {o : γ} (h : bi2 x f = some o) : ∃ a b, x = some (a, b) ∧ f a b = some o := by
  cases x with
  | none => cases h
  | some z => exact ⟨z.1, z.2, rfl, h⟩
/-- a call that may throw, in a method that may: (state, throw's number or answer) -/
def bt2 {α β γ : Type} (x : Option (α × (Nat ⊕ β))) (f : α → β → Option (α × (Nat ⊕ γ))) : Option (α × (Nat ⊕ γ)) := match x with
  | none => none
  | some (s, .inl e) => some (s, .inl e)
  | some (s, .inr b) => f s b
/-- the same, the callee being static and without a state -/
def bt0 {α β γ : Type} (s : α) (x : Nat ⊕ β) (f : β → Option (α × (Nat ⊕ γ))) : Option (α × (Nat ⊕ γ)) := match x with
  | .inl e => some (s, .inl e)
  | .inr b => f b
theorem bt2n {α β γ : Type} {x : Option (α × (Nat ⊕ β))} {f : α → β → Option (α × (Nat ⊕ γ))} {s' : α} {r : γ} (h : bt2 x f = some (s', .inr r)) : ∃ a b, x = some (a, .inr b) ∧ f a b = some (s', .inr r) := by
  match x, h with
  | none, h => cases h
  | some (s, .inl e), h => cases h
  | some (s, .inr b), h => exact ⟨s, b, rfl, h⟩
theorem bt2t {α β γ : Type} {x : Option (α × (Nat ⊕ β))} {f : α → β → Option (α × (Nat ⊕ γ))} {s' : α} {e : Nat} (h : bt2 x f = some (s', .inl e)) : x = some (s', .inl e) ∨ ∃ a b, x = some (a, .inr b) ∧ f a b = some (s', .inl e) := by
  match x, h with
  | none, h => cases h
  | some (s, .inl e), h => cases h; exact Or.inl rfl
  | some (s, .inr b), h => exact Or.inr ⟨s, b, rfl, h⟩
theorem bt0n {α β γ : Type} {s : α} {x : Nat ⊕ β} {f : β → Option (α × (Nat ⊕ γ))} {s' : α} {r : γ} (h : bt0 s x f = some (s', .inr r)) : ∃ b, x = .inr b ∧ f b = some (s', .inr r) := by
  match x, h with
  | .inl e, h => cases h
  | .inr b, h => exact ⟨b, rfl, h⟩
theorem bt0t {α β γ : Type} {s : α} {x : Nat ⊕ β} {f : β → Option (α × (Nat ⊕ γ))} {s' : α} {e : Nat} (h : bt0 s x f = some (s', .inl e)) : (x = .inl e ∧ s = s') ∨ ∃ b, x = .inr b ∧ f b = some (s', .inl e) := by
  match x, h with
  | .inl e, h => cases h; exact Or.inl ⟨rfl, rfl⟩
  | .inr b, h => exact Or.inr ⟨b, rfl, h⟩
/-- a loop: inl goes on, inr leaves -/
def wh {σ ρ : Type} (b : σ → Option (σ ⊕ ρ)) : Nat → σ → Option ρ
  | 0, _ => none
  | n + 1, z => match b z with
    | none => none
    | some (.inl z') => wh b n z'
    | some (.inr r) => some r
theorem wh_W {σ ρ : Type} {b : σ → Option (σ ⊕ ρ)} {P : σ → Prop} {X : ρ → Prop} (hb : ∀ z o, b z = some o → Sum.elim P X o → P z) : ∀ (n : Nat) (z : σ) (r : ρ), wh b n z = some r → X r → P z
  | 0, z, r, h, _ => by cases h
  | n + 1, z, r, h, hX => by
    rw [wh] at h
    cases hbz : b z with
    | none => rw [hbz] at h; cases h
    | some o =>
      rw [hbz] at h
      cases o with
      | inl z' => exact hb z _ hbz (wh_W hb n z' r h hX)
      | inr r' => cases h; exact hb z _ hbz hX
theorem va_D_keys {A : Nat → Prop} {ws ws' : va_W} (hk : ws'.map Prod.fst = ws.map Prod.fst) (h : va_D A ws) : va_D A ws' := by
  have key : ∀ (k : Nat) (q : Nat × va_E), ws'[k]? = some q → ∃ q0, ws[k]? = some q0 ∧ q0.1 = q.1 := by
    intro k q hq
    have h1 : (ws'.map Prod.fst)[k]? = some q.1 := by rw [List.getElem?_map, hq]; rfl
    rw [hk, List.getElem?_map] at h1
    cases h2 : ws[k]? with
    | none => rw [h2] at h1; cases h1
    | some q0 => rw [h2] at h1; exact ⟨q0, rfl, Option.some.inj h1⟩
  refine ⟨fun i j x y hi hj hxy => ?_, fun k q hq => ?_⟩
  · obtain ⟨x0, a1, a2⟩ := key i x hi
    obtain ⟨y0, b1, b2⟩ := key j y hj
    exact h.1 i j x0 y0 a1 b1 (a2.trans (hxy.trans b2.symm))
  · obtain ⟨q0, a1, a2⟩ := key k q hq
    rw [← a2]
    exact h.2 k q0 a1
/-- a method that returns rv and makes nothing: from the world ws to the world ws' -/
def ct (l : Launch) (y : MethodName) (cc : ByteArray) (nL : Nat) (ret : Option FieldType) (rm : Room) (D : va_G) (g : Nat → ClassId) (ws ws' : va_W) (av : List Value) (rv : Option Value) : Prop :=
  Met l y (wsm y cc nL ret) rm (va_Pc av (fun U => va_P D vwCl ws U.heap ∧ va_K D vwCl (gT g) U ∧ va_D (fun _ => True) ws)) (qR rv (fun t => va_P D vwCl ws' t.heap ∧ va_K D vwCl (gT g) t) (kA ws)) 0 0 (kA ws)
/-- what a call of y by the entry idx of own's file needs of the words -/
def cf (own : String) (idx : Nat) (y : MethodName) (cc : ByteArray) (nL : Nat) (ret : Option FieldType) (n : Nat) : Prop :=
  Cond.methodLink own idx y ∈ TB ∧ Cond.initialized y.cls ∈ TB ∧ Cond.code y cc nL ret ∈ TB ∧ (y.cls ≠ "java/lang/invoke/MethodHandle" ∧ y.cls ≠ "java/lang/invoke/VarHandle" ∧ (parseMethodDescriptor y.desc).map (fun d => d.parameters.length) = some n)
def cfV (own : String) (idx : Nat) (y : MethodName) (cc : ByteArray) (nL : Nat) (ret : Option FieldType) (n : Nat) : Prop := cf own idx y cc nL ret n ∧ Cond.instanceMethod y ∈ TB ∧ Cond.selects y.cls y y ∈ TB
def cfS (own : String) (idx : Nat) (y : MethodName) (cc : ByteArray) (nL : Nat) (ret : Option FieldType) (n : Nat) : Prop := cf own idx y cc nL ret n ∧ Cond.static y ∈ TB
section BS
variable {p : Program} {l : Launch} {e : Env} {R : Room} {s : State} {m : MethodId} {args : Array Value} {below : List Frame} {meth : Method} {c : Code} {H : Heap} {locs : List Loc} {cells slots : Nat} {Q : State → Prop}
variable {cc : ByteArray} {nL pc : Nat} {ls : Array Slot} {rest : List Value} {own : String} {D : va_G} {g : Nat → ClassId} {A : Nat → Prop} {H0 : Heap} {ws ws' : va_W} {a : Nat}
theorem r_get (E : en p m c cc nL s args own D g) (I : wk D ws A H0 H locs) (q0 ci k : Nat) {T : u_T} {N index : Nat} {fs : List Value} {v : Value} (he : ws[q0]? = some (a, .inr (ci, fs))) (hc : vwCl[ci]? = some (own, T, N)) (hin : ∀ w ∈ u_ws own T N, w ∈ TB) (hk : k < N) (hlink : Cond.fieldLink own index (T k).1 (T k).2.1 (T k).2.2.1 ∈ TB) (hv : fs[k]? = some v) (hdg : decode cc pc = .ok (.getfield index, 3))
    (kk : W p l e R s m args below meth c H locs cells slots Q (F0 m (pc + 3) ls (v :: rest))) : W p l e R s m args below meth c H locs cells slots Q (F0 m pc ls (.ref a :: rest)) :=
  va_get E.1.1 E.1.2.1 E.1.2.2.2.2 hin E.1.2.2.2.1 E.2 I.1 q0 he hc k hk (E.1.2.2.2.2 _ hlink) (fun _ h => h) hv hdg kk
theorem r_put (E : en p m c cc nL s args own D g) (I : wk D ws A H0 H locs) (q0 ci k : Nat) {T : u_T} {N index : Nat} {fs : List Value} {v : Value} (he : ws[q0]? = some (a, .inr (ci, fs))) (hset : ws.set q0 (a, .inr (ci, fs.set k v)) = ws') (hc : vwCl[ci]? = some (own, T, N)) (hin : ∀ w ∈ u_ws own T N, w ∈ TB) (ty0 : Nat → FieldType) (hty : ∀ k, k < N → parseFieldDescriptor (T k).2.2.1 = some (ty0 k)) (hnm : ∀ a, a < N → ∀ b, b < N → a ≠ b → (T a).2.1 ≠ (T b).2.1) (hk : k < N) (hlink : Cond.fieldLink own index (T k).1 (T k).2.1 (T k).2.2.1 ∈ TB) (hfin : (T k).2.2.2 = false) {ty : FieldType} (hd : parseFieldDescriptor (T k).2.2.1 = some ty) (hn : narrow ty v = v) (hfit : fits ty v = true) (hl : k < fs.length) (hdg : decode cc pc = .ok (.putfield index, 3))
    (kk : ∀ (H1 : Heap) (locs1 : List Loc), wk D ws' A H0 H1 locs1 → W p l e R s m args below meth c H1 locs1 cells slots Q (F0 m (pc + 3) ls rest)) : W p l e R s m args below meth c H locs cells slots Q (F0 m pc ls (v :: .ref a :: rest)) := by
  subst hset
  exact va_put E.1.1 E.1.2.1 E.1.2.2.2.2 hin ty0 hty hnm E.1.2.2.2.1 E.2 I.1 I.2.1 I.2.2 q0 he hc k hk (E.1.2.2.2.2 _ hlink) (fun _ h => h) hfin hd hn hfit hl hdg (fun H1 L1 h1 h2 h3 => kk H1 L1 ⟨h1, h2, h3⟩)
theorem r_iald (E : en p m c cc nL s args own D g) (I : wk D ws A H0 H locs) (q0 : Nat) {n : Nat} {f : Nat → Int32} (ha : ws[q0]? = some (a, .inl (g 0, n, .inl f))) {i : Int32} (hin : ib i n = true) (hdg : decode cc pc = .ok (.iaload, 1))
    (kk : W p l e R s m args below meth c H locs cells slots Q (F0 m (pc + 1) ls (.int (f i.toNatClampNeg) :: rest))) : W p l e R s m args below meth c H locs cells slots Q (F0 m pc ls (.int i :: .ref a :: rest)) :=
  va_iald E.1.1 E.1.2.1 E.2 I.1 q0 0 ha rfl (ib_in hin) hdg kk
theorem r_lald (E : en p m c cc nL s args own D g) (I : wk D ws A H0 H locs) (q0 : Nat) {n : Nat} {f : Nat → Int64} (ha : ws[q0]? = some (a, .inl (g 1, n, .inr (.inl f)))) {i : Int32} (hin : ib i n = true) (hdg : decode cc pc = .ok (.laload, 1))
    (kk : W p l e R s m args below meth c H locs cells slots Q (F0 m (pc + 1) ls (.long (f i.toNatClampNeg) :: rest))) : W p l e R s m args below meth c H locs cells slots Q (F0 m pc ls (.int i :: .ref a :: rest)) :=
  va_lald E.1.1 E.1.2.1 E.2 I.1 q0 1 ha rfl (ib_in hin) hdg kk
theorem r_zald (E : en p m c cc nL s args own D g) (I : wk D ws A H0 H locs) (q0 : Nat) {n : Nat} {f : Nat → Int32} (ha : ws[q0]? = some (a, .inl (g 2, n, .inl f))) {i : Int32} (hin : ib i n = true) (hdg : decode cc pc = .ok (.baload, 1))
    (kk : W p l e R s m args below meth c H locs cells slots Q (F0 m (pc + 1) ls (.int (f i.toNatClampNeg) :: rest))) : W p l e R s m args below meth c H locs cells slots Q (F0 m pc ls (.int i :: .ref a :: rest)) :=
  va_zald E.1.1 E.1.2.1 E.2 I.1 q0 2 ha rfl (ib_in hin) hdg kk
/-- a row of an array of arrays -/
theorem r_aald (E : en p m c cc nL s args own D g) (I : wk D ws A H0 H locs) (q0 t0 : Nat) {cA : ClassId} {ty : FieldType} {n : Nat} {f : Nat → Option Nat} (ha : ws[q0]? = some (a, .inl (cA, n, .inr (.inr (.inr (.inr f)))))) (ht : (gT g)[t0]? = some (cA, .array ty)) {i : Int32} {b : Nat} (hin : ib i n = true) (hb2 : f i.toNatClampNeg = some b) (hdg : decode cc pc = .ok (.aaload, 1))
    (kk : W p l e R s m args below meth c H locs cells slots Q (F0 m (pc + 1) ls (.ref b :: rest))) : W p l e R s m args below meth c H locs cells slots Q (F0 m pc ls (.int i :: .ref a :: rest)) := by
  have hlt : i.toNatClampNeg < n := ib_lt hin
  have hin' := ib_in hin
  exact W.aald (v := .ref b) (ty := .array ty) E.1.1 E.1.2.1 (I.1 q0 _ ha) ((E.2.2 t0 _ ht).1 n (fun j => va_rf (f j))) rfl (fun q => by cases q) (by show ¬ (i < 0 ∨ (arrV _ _ _).slots.size ≤ _); rw [arrV_size]; exact hin') (by show (arrV _ _ _).slots[_]? = _; rw [arrV_read _ _ hlt, hb2]; rfl) rfl rfl hdg kk
theorem r_iast (E : en p m c cc nL s args own D g) (I : wk D ws A H0 H locs) (q0 : Nat) {n : Nat} {f : Nat → Int32} (ha : ws[q0]? = some (a, .inl (g 0, n, .inl f))) {i x : Int32} (hset : ws.set q0 (a, .inl (g 0, n, .inl (upd f i.toNatClampNeg x))) = ws') (hin : ib i n = true) (hdg : decode cc pc = .ok (.iastore, 1))
    (kk : ∀ (H1 : Heap) (locs1 : List Loc), wk D ws' A H0 H1 locs1 → W p l e R s m args below meth c H1 locs1 cells slots Q (F0 m (pc + 1) ls rest)) : W p l e R s m args below meth c H locs cells slots Q (F0 m pc ls (.int x :: .int i :: .ref a :: rest)) := by
  subst hset
  exact va_iast E.1.1 E.1.2.1 E.2 I.1 I.2.1 I.2.2 q0 0 ha rfl (ib_in hin) hdg (fun H1 L1 h1 h2 h3 => kk H1 L1 ⟨h1, h2, h3⟩)
theorem r_last (E : en p m c cc nL s args own D g) (I : wk D ws A H0 H locs) (q0 : Nat) {n : Nat} {f : Nat → Int64} (ha : ws[q0]? = some (a, .inl (g 1, n, .inr (.inl f)))) {i : Int32} {x : Int64} (hset : ws.set q0 (a, .inl (g 1, n, .inr (.inl (vp_updL f i.toNatClampNeg x)))) = ws') (hin : ib i n = true) (hdg : decode cc pc = .ok (.lastore, 1))
    (kk : ∀ (H1 : Heap) (locs1 : List Loc), wk D ws' A H0 H1 locs1 → W p l e R s m args below meth c H1 locs1 cells slots Q (F0 m (pc + 1) ls rest)) : W p l e R s m args below meth c H locs cells slots Q (F0 m pc ls (.long x :: .int i :: .ref a :: rest)) := by
  subst hset
  exact va_last E.1.1 E.1.2.1 E.2 I.1 I.2.1 I.2.2 q0 1 ha rfl (ib_in hin) hdg (fun H1 L1 h1 h2 h3 => kk H1 L1 ⟨h1, h2, h3⟩)
theorem r_zast (E : en p m c cc nL s args own D g) (I : wk D ws A H0 H locs) (q0 : Nat) {n : Nat} {f : Nat → Int32} (ha : ws[q0]? = some (a, .inl (g 2, n, .inl f))) {i x : Int32} (hset : ws.set q0 (a, .inl (g 2, n, .inl (upd f i.toNatClampNeg (vp_nar .boolean x)))) = ws') (hin : ib i n = true) (hdg : decode cc pc = .ok (.bastore, 1))
    (kk : ∀ (H1 : Heap) (locs1 : List Loc), wk D ws' A H0 H1 locs1 → W p l e R s m args below meth c H1 locs1 cells slots Q (F0 m (pc + 1) ls rest)) : W p l e R s m args below meth c H locs cells slots Q (F0 m pc ls (.int x :: .int i :: .ref a :: rest)) := by
  subst hset
  exact va_zast E.1.1 E.1.2.1 E.2 I.1 I.2.1 I.2.2 q0 2 ha rfl (ib_in hin) hdg (fun H1 L1 h1 h2 h3 => kk H1 L1 ⟨h1, h2, h3⟩)
/-- System.arraycopy between int arrays -/
theorem r_copy (E : en p m c cc nL s args own D g) (I : wk D ws A H0 H locs) (q0 q1 : Nat) {a0 index n0 n1 : Nat} {f h : Nat → Int32} (hls : ls.size = nL) (hlink : Cond.methodLink own index arraycopyName ∈ TB) (hnat : Cond.native arraycopyName ∈ TB) (hstat : Cond.static arraycopyName ∈ TB) (hini : Cond.initialized "java/lang/System" ∈ TB)
    (ha0 : ws[q0]? = some (a0, .inl (g 0, n0, .inl f))) (ha1 : ws[q1]? = some (a, .inl (g 0, n1, .inl h))) {sp dp n : Int32} (hg : cg sp dp n n0 n1 = true) (hset : ws.set q1 (a, .inl (g 0, n1, .inl (va_cpy f h sp.toNatClampNeg dp.toNatClampNeg n.toNatClampNeg))) = ws')
    (hframes : 1 ≤ R.frames) (hlocals : (rest.map fun v => v.category).sum + (nativeFrameWords "java/lang/System" "arraycopy" 5 + 11) ≤ R.locals) (hdg : decode cc pc = .ok (.invokestatic index, 3))
    (kk : ∀ (H1 : Heap) (locs1 : List Loc), wk D ws' A H0 H1 locs1 → W p l e R s m args below meth c H1 locs1 cells slots Q (F0 m (pc + 3) ls rest)) : W p l e R s m args below meth c H locs cells slots Q (F0 m pc ls (.int n :: .int dp :: .ref a :: .int sp :: .ref a0 :: rest)) := by
  subst hset
  obtain ⟨h1, h2, h3, h4, h5⟩ := cg_of hg
  exact va_copyi E.1.1 E.1.2.1 (E.1.2.2.1.trans hls.symm) E.1.2.2.2.1 (E.1.2.2.2.2 _ hlink) (E.1.2.2.2.2 _ hnat) (E.1.2.2.2.2 _ hstat) (E.1.2.2.2.2 _ hini) E.2 I.1 I.2.1 I.2.2 q0 q1 0 0 ha0 ha1 rfl rfl rfl h1 h2 h3 h4 h5 (fun _ _ => rfl) hframes hlocals hdg (fun H1 L1 h1 h2 h3 => kk H1 L1 ⟨h1, h2, h3⟩)
theorem r_run {st0 : List Value} {av : Array Value} {wc wc' : va_W} {rv : Option Value} (hr : va_Run p l e R s m args below meth c H locs cells slots 0 0 (F0 m pc ls st0) rest (qR rv (fun t => va_P D vwCl wc' t.heap ∧ va_K D vwCl (gT g) t) (kA wc) av) (kA wc)) (hS : va_S A H0 H locs) (hA : ∀ q, kA wc q → A q)
    (kk : ∀ (H1 : Heap) (locs1 : List Loc), va_P D vwCl wc' H1 → H.size ≤ H1.size → (∀ q : Nat, q < H.size → ¬ kA wc q → H1[q]? = H[q]?) → va_S A H0 H1 locs1 → W p l e R s m args below meth c H1 locs1 cells slots Q (F0 m (pc + 3) ls (rv.toList ++ rest))) : W p l e R s m args below meth c H locs cells slots Q (F0 m pc ls st0) := by
  intro T hT X
  obtain ⟨v, st₀, t, T', L, h0, X', hL, e1, e2, ⟨⟨hv, hb, -⟩, hz, hk⟩, st⟩ := hr T hT X
  cases hv
  rw [h0] at hz hk
  obtain ⟨t2, a1, b1⟩ := kk T'.heap (locs ++ L) (by rw [e1]; exact hb) (by rw [e1]; exact hz) (fun q h1 h2 => by rw [e1]; exact hk q h1 h2)
    ⟨Nat.le_trans hS.1 (by rw [e1]; exact hz), fun q h1 h2 => by rw [e1, hk q (Nat.lt_of_lt_of_le h1 hS.1) (fun z => h2 (hA q z))]; exact hS.2.1 q h1 h2, fun q hq => by
      rcases List.mem_append.mp hq with h | h
      · exact hS.2.2 q h
      · exact hA _ (hL q h)⟩ T' rfl X'
  exact ⟨t2, st t2 a1, b1⟩
theorem wsm_good {y : MethodName} {cc : ByteArray} {nL : Nat} {ret : Option FieldType} (h : Cond.code y cc nL ret ∈ TB) : GoodIn TB (wsm y cc nL ret) := fun w hw => by
  rcases List.mem_cons.mp hw with rfl | hw
  · exact ⟨h, good_of_word (TB_good h)⟩
  · exact ⟨hw, good_of_word (TB_good hw)⟩
theorem r_cb {idx n nY : Nat} {y : MethodName} {cY : ByteArray} {ret : Option FieldType} {f k : Nat} (E : en p m c cc nL s args own D g) (w : cf own idx y cY nY ret n) (hR : f + 1 ≤ R.frames ∧ 8 + (nY + 11) + k ≤ R.locals) : CallB R s args own idx y cY nY ret (wsm y cY nY ret) (rmk f k) 0 0 n :=
  callB_of n E.1.2.2.2.2 (wsm_good w.2.2.1) rfl rfl rfl (E.1.2.2.2.2 _ w.2.1) (E.1.2.2.2.2 _ w.1) w.2.2.2 hR
theorem r_blind {av : List Value} : FrameBlind (va_Pc av (fun U => va_P D vwCl ws U.heap ∧ va_K D vwCl (gT g) U ∧ va_D (fun _ => True) ws)) := fun a U f mk q => ⟨q.1, q.2.1, va_K.moved (u := U) (U := U.calling f mk a) (Vm.Alike.refl U.vm) q.2.2.1, q.2.2.2⟩
theorem r_pre {av : List Value} (E : en p m c cc nL s args own D g) (hP : va_P D vwCl ws H) (hD : va_D A ws) : ∀ U : State, U.heap = H → s.WarmedH U.vm → va_Pc av (fun U => va_P D vwCl ws U.heap ∧ va_K D vwCl (gT g) U ∧ va_D (fun _ => True) ws) av.toArray U := fun U hU hW => ⟨rfl, by rw [hU]; exact hP, va_K.moved hW.alike E.2, hD.weaken (fun _ _ _ _ => trivial)⟩
theorem wk_run {wc : va_W} {H1 : Heap} {locs1 : List Loc} (I : wk D ws A H0 H locs) (h1 : va_P D vwCl ws' H1) (hk : ws'.map Prod.fst = ws.map Prod.fst) (hS : va_S A H0 H1 locs1) : wk D ws' A H0 H1 locs1 := ⟨h1, va_D_keys hk I.2.1, hS⟩
/-- a call of an instance method of the same world -/
theorem r_callV {idx n nY f k q0 ci N b : Nat} {y : MethodName} {cY : ByteArray} {ret : Option FieldType} {As st0 : List Value} {rv : Option Value} {T : u_T} {fs : List Value} (E : en p m c cc nL s args own D g) (I : wk D ws A H0 H locs) (hls : ls.size = nL) (w : cfV own idx y cY nY ret n) (hM : ct l y cY nY ret (rmk f k) D g ws ws' (.ref b :: As) rv) (hk : ws'.map Prod.fst = ws.map Prod.fst) (he : ws[q0]? = some (b, .inr (ci, fs))) (hc : vwCl[ci]? = some (y.cls, T, N)) (hn : As.length = n) (hst : st0 = As.reverse ++ .ref b :: rest) (hroom : (rest.map fun v => v.category).sum ≤ 8) (hR : f + 1 ≤ R.frames ∧ 8 + (nY + 11) + k ≤ R.locals) (hf : cells ≤ R.cells ∧ slots ≤ R.slots) (hdg : decode cc pc = .ok (.invokevirtual idx, 3))
    (kk : ∀ (H1 : Heap) (locs1 : List Loc), wk D ws' A H0 H1 locs1 → W p l e R s m args below meth c H1 locs1 cells slots Q (F0 m (pc + 3) ls (rv.toList ++ rest))) : W p l e R s m args below meth c H locs cells slots Q (F0 m pc ls st0) :=
  r_run (va_runV (As := As) (rest := rest) (cells := cells) (slots := slots) (mc := 0) (ms := 0) E.1 hM ⟨r_cb E w.1 hR, E.1.2.2.2.2 _ w.2.1, E.1.2.2.2.2 _ w.2.2⟩ ⟨r_blind, va_recv E.2 I.1 hc he, r_pre E I.1 I.2.1⟩ rfl hn hls hst (lv_room hroom) hdg hf) I.2.2 (fun q h => by obtain ⟨k, e, h⟩ := h; exact I.2.1.2 k _ h) (fun H1 L1 h1 _ _ h3 => kk H1 L1 (wk_run (wc := ws) I h1 hk h3))
theorem kA_nil {q : Nat} : ¬ kA [] q := fun h => by obtain ⟨k, e, h⟩ := h; simp at h
theorem va_P_nil {H : Heap} : va_P D vwCl [] H := fun k q h => by simp at h
theorem va_D_nil : va_D A [] := ⟨fun i j p q h => by simp at h, fun k q h => by simp at h⟩
/-- a call of a static method that looks at no world -/
theorem r_callS {idx n nY f k : Nat} {y : MethodName} {cY : ByteArray} {ret : Option FieldType} {As st0 : List Value} {rv : Option Value} (E : en p m c cc nL s args own D g) (I : wk D ws A H0 H locs) (hls : ls.size = nL) (w : cfS own idx y cY nY ret n) (hM : ct l y cY nY ret (rmk f k) D g [] [] As rv) (hn : As.length = n) (hst : st0 = As.reverse ++ rest) (hroom : (rest.map fun v => v.category).sum ≤ 8) (hR : f + 1 ≤ R.frames ∧ 8 + (nY + 11) + k ≤ R.locals) (hf : cells ≤ R.cells ∧ slots ≤ R.slots) (hdg : decode cc pc = .ok (.invokestatic idx, 3))
    (kk : ∀ (H1 : Heap) (locs1 : List Loc), wk D ws A H0 H1 locs1 → W p l e R s m args below meth c H1 locs1 cells slots Q (F0 m (pc + 3) ls (rv.toList ++ rest))) : W p l e R s m args below meth c H locs cells slots Q (F0 m pc ls st0) :=
  r_run (va_runS (As := As) (rest := rest) (cells := cells) (slots := slots) (mc := 0) (ms := 0) E.1 hM ⟨r_cb E w.1 hR, E.1.2.2.2.2 _ w.2⟩ ⟨r_blind, r_pre E (H := H) va_P_nil (A := A) va_D_nil⟩ rfl hn hls hst (lv_room hroom) hdg hf) I.2.2 (fun q h => absurd h kA_nil) (fun H1 L1 _ _ h2 h3 => kk H1 L1 ⟨fun k q hq => (I.1 k q hq).kept (h2 q.1 (I.1 k q hq).lt kA_nil), I.2.1, h3⟩)
-- the ends
theorem r_end {rv : Option Value} {W1 : va_W} (E : en p m c cc nL s args own D g) (I : wk D ws' A s.heap H locs) : ∀ t : State, t.heap = H → s.WarmedH t.vm → qR rv (fun t => va_P D vwCl ws' t.heap ∧ va_K D vwCl (gT g) t) A args s (.returned rv) t := fun t ht hW => ⟨⟨rfl, by rw [ht]; exact I.1, va_K.moved hW.alike E.2⟩, I.2.2.F ht⟩
end BS
/-- a contract from a walk: the walk speaks of any world about the method's own, any caller, and goes on to K where the method returns -/
theorem ct_of {l : Launch} {y : MethodName} {cc : ByteArray} {nL : Nat} {ret : Option FieldType} {rm : Room} {D : va_G} {g : Nat → ClassId} {ws ws' : va_W} {av : List Value} {rv : Option Value} (hrm : rm.cells = 0 ∧ rm.slots = 0) (hy : plainName y.cls = true) (hlen : (lg_sl av).length ≤ nL)
    (body : ∀ (p : Program) (e : Env) (s : State) (m : MethodId) (args : Array Value) (below : List Frame) (meth : Method) (c : Code) (ls : Array Slot) (Q : State → Prop), en p m c cc nL s args y.cls D g → wk D ws (kA ws) s.heap s.heap [] → lv_has ls nL (lv_args 0 av) →
      (∀ (pc : Nat) (ls : Array Slot) (H : Heap) (locs : List Loc), wk D ws' (kA ws) s.heap H locs → (match ret, rv with
        | none, none => decode cc pc = .ok (.return_, 1)
        | some .int, some (.int v) => decode cc pc = .ok (.ireturn, 1)
        | some .boolean, some (.int v) => decode cc pc = .ok (.ireturn, 1) ∧ zok v = true
        | some .long, some (.long v) => decode cc pc = .ok (.lreturn, 1)
        | some .double, some (.double v) => decode cc pc = .ok (.dreturn, 1)
        | _, _ => False) → W p l e rm s m args below meth c H locs 0 0 Q (F0 m pc ls rv.toList)) →
      W p l e rm s m args below meth c s.heap [] 0 0 Q (F0 m 0 ls [])) : ct l y cc nL ret rm D g ws ws' av rv := by
  refine Met.ofW (cc := cc) (maxL := nL) (ret := ret) hy rfl ?_
  intro p e s m args below meth c s₁ B hml hv
  obtain ⟨rfl, hP, hK, hD0⟩ := hv
  have hts := atoms_spec (ws := wsm y cc nL ret) B.pre
  have hr := B.returns
  have hlocks := B.notSynchronized
  have E : en p m c cc nL s av.toArray y.cls D g := ⟨⟨B.exec, B.bytes, hml, findClass_of_methodNamed B.named, fun w h => hts w (List.mem_cons_of_mem _ h)⟩, hK⟩
  have hl := lv_entry av (n := nL) hlen
  rw [lg_entry_eq]
  generalize (lg_sl av ++ List.replicate (nL - (lg_sl av).length) Slot.unset).toArray = ls at hl ⊢
  have hD : va_D (kA ws) ws := hD0.weaken (fun k q hk _ => ⟨k, q.2, hk⟩)
  refine body p e s m av.toArray below meth c ls _ E ⟨hP, hD, va_S.rf⟩ hl ?_
  intro pc ls H locs I hd
  have hq := r_end (rv := rv) (W1 := ws) E I
  have hf : ∀ q ∈ locs, kA ws q.base := I.2.2.2.2
  match ret, rv, hd, hr, hq with
  | none, none, hd, hr, hq => exact W.vret B.exec B.bytes hr hq hf hd
  | some .int, some (.int v), hd, hr, hq => exact W.iret B.exec B.bytes hr hq hf hd
  | some .boolean, some (.int v), hd, hr, hq => exact W.zret B.exec B.bytes hr (zok_n hd.2) hq hf hd.1
  | some .long, some (.long v), hd, hr, hq => exact W.lret B.exec B.bytes hr hq hf hd
  | some .double, some (.double v), hd, hr, hq => exact W.dret B.exec B.bytes hr hq hf hd
end
