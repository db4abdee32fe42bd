section
-- ===== PART A: goes FIRST, ahead of the names: the tables' words, and 'selects' of the private methods out of them =====
/-- a private method of a class that the tables say can be made, by its rows of tables_1 -/
def lw_okq (q : MethodName × Nat) : Prop := (q.1.cls ≠ "java/lang/invoke/MethodHandle" ∧ q.1.cls ≠ "java/lang/invoke/VarHandle") ∧ Cond.instantiable q.1.cls q.2 ∈ tables_1 ∧ Cond.privateMethod q.1 ∈ tables_1 ∧ Cond.instanceMethod q.1 ∈ tables_1
theorem lw_p0 : lw_okq (⟨"PlaFolder", "fail", "(I)I"⟩, 6) := ⟨⟨by decide +kernel, by decide +kernel⟩, List.mem_of_getElem? (i := 14) (by decide +kernel), List.mem_of_getElem? (i := 180) (by decide +kernel), List.mem_of_getElem? (i := 181) (by decide +kernel)⟩
theorem lw_p1 : lw_okq (⟨"PlaFolder$History", "push", "(LPlaFolder$State;)V"⟩, 2) := ⟨⟨by decide +kernel, by decide +kernel⟩, List.mem_of_getElem? (i := 72) (by decide +kernel), List.mem_of_getElem? (i := 184) (by decide +kernel), List.mem_of_getElem? (i := 185) (by decide +kernel)⟩
theorem lw_p2 : lw_okq (⟨"PlaFolder$History", "dropOldest", "()V"⟩, 2) := ⟨⟨by decide +kernel, by decide +kernel⟩, List.mem_of_getElem? (i := 72) (by decide +kernel), List.mem_of_getElem? (i := 188) (by decide +kernel), List.mem_of_getElem? (i := 189) (by decide +kernel)⟩
theorem lw_p3 : lw_okq (⟨"PlaFolder$State", "copyFrom", "(LPlaFolder$State;)V"⟩, 10) := ⟨⟨by decide +kernel, by decide +kernel⟩, List.mem_of_getElem? (i := 22) (by decide +kernel), List.mem_of_getElem? (i := 192) (by decide +kernel), List.mem_of_getElem? (i := 193) (by decide +kernel)⟩
theorem lw_p4 : lw_okq (⟨"PlaFolder$State", "resize", "(II)V"⟩, 10) := ⟨⟨by decide +kernel, by decide +kernel⟩, List.mem_of_getElem? (i := 22) (by decide +kernel), List.mem_of_getElem? (i := 199) (by decide +kernel), List.mem_of_getElem? (i := 200) (by decide +kernel)⟩
theorem lw_p5 : lw_okq (⟨"PlaFolder$State", "partAll", "()V"⟩, 10) := ⟨⟨by decide +kernel, by decide +kernel⟩, List.mem_of_getElem? (i := 22) (by decide +kernel), List.mem_of_getElem? (i := 203) (by decide +kernel), List.mem_of_getElem? (i := 204) (by decide +kernel)⟩
theorem lw_p6 : lw_okq (⟨"PlaFolder", "termsChanged", "()V"⟩, 6) := ⟨⟨by decide +kernel, by decide +kernel⟩, List.mem_of_getElem? (i := 14) (by decide +kernel), List.mem_of_getElem? (i := 207) (by decide +kernel), List.mem_of_getElem? (i := 208) (by decide +kernel)⟩
theorem lw_p7 : lw_okq (⟨"PlaFolder", "foldsChanged", "()V"⟩, 6) := ⟨⟨by decide +kernel, by decide +kernel⟩, List.mem_of_getElem? (i := 14) (by decide +kernel), List.mem_of_getElem? (i := 211) (by decide +kernel), List.mem_of_getElem? (i := 212) (by decide +kernel)⟩
theorem lw_p8 : lw_okq (⟨"PlaFolder$Demands", "collect", "(LPlaFolder$State;)V"⟩, 1) := ⟨⟨by decide +kernel, by decide +kernel⟩, List.mem_of_getElem? (i := 89) (by decide +kernel), List.mem_of_getElem? (i := 215) (by decide +kernel), List.mem_of_getElem? (i := 216) (by decide +kernel)⟩
theorem lw_p9 : lw_okq (⟨"PlaFolder$Demands", "clear", "()V"⟩, 1) := ⟨⟨by decide +kernel, by decide +kernel⟩, List.mem_of_getElem? (i := 89) (by decide +kernel), List.mem_of_getElem? (i := 219) (by decide +kernel), List.mem_of_getElem? (i := 220) (by decide +kernel)⟩
theorem lw_p10 : lw_okq (⟨"PlaFolder$State", "termsOfColumn", "(I)I"⟩, 10) := ⟨⟨by decide +kernel, by decide +kernel⟩, List.mem_of_getElem? (i := 22) (by decide +kernel), List.mem_of_getElem? (i := 224) (by decide +kernel), List.mem_of_getElem? (i := 225) (by decide +kernel)⟩
theorem lw_p11 : lw_okq (⟨"PlaFolder$Demands", "add", "(II)V"⟩, 1) := ⟨⟨by decide +kernel, by decide +kernel⟩, List.mem_of_getElem? (i := 89) (by decide +kernel), List.mem_of_getElem? (i := 231) (by decide +kernel), List.mem_of_getElem? (i := 232) (by decide +kernel)⟩
theorem lw_p12 : lw_okq (⟨"PlaFolder$Demands", "withAllAbove", "(I)I"⟩, 1) := ⟨⟨by decide +kernel, by decide +kernel⟩, List.mem_of_getElem? (i := 89) (by decide +kernel), List.mem_of_getElem? (i := 235) (by decide +kernel), List.mem_of_getElem? (i := 236) (by decide +kernel)⟩
theorem lw_p13 : lw_okq (⟨"PlaFolder$RowOrder", "build", "(LPlaFolder$Demands;I)V"⟩, 2) := ⟨⟨by decide +kernel, by decide +kernel⟩, List.mem_of_getElem? (i := 101) (by decide +kernel), List.mem_of_getElem? (i := 240) (by decide +kernel), List.mem_of_getElem? (i := 241) (by decide +kernel)⟩
theorem lw_p14 : lw_okq (⟨"PlaFolder$State", "takesTerm", "(III)Z"⟩, 10) := ⟨⟨by decide +kernel, by decide +kernel⟩, List.mem_of_getElem? (i := 22) (by decide +kernel), List.mem_of_getElem? (i := 252) (by decide +kernel), List.mem_of_getElem? (i := 253) (by decide +kernel)⟩
theorem lw_p15 : lw_okq (⟨"PlaFolder$State", "appendTerm", "(III)V"⟩, 10) := ⟨⟨by decide +kernel, by decide +kernel⟩, List.mem_of_getElem? (i := 22) (by decide +kernel), List.mem_of_getElem? (i := 256) (by decide +kernel), List.mem_of_getElem? (i := 257) (by decide +kernel)⟩
def lw_privs_1 : List (MethodName × Nat) := [(⟨"PlaFolder", "fail", "(I)I"⟩, 6), (⟨"PlaFolder$History", "push", "(LPlaFolder$State;)V"⟩, 2), (⟨"PlaFolder$History", "dropOldest", "()V"⟩, 2), (⟨"PlaFolder$State", "copyFrom", "(LPlaFolder$State;)V"⟩, 10), (⟨"PlaFolder$State", "resize", "(II)V"⟩, 10), (⟨"PlaFolder$State", "partAll", "()V"⟩, 10), (⟨"PlaFolder", "termsChanged", "()V"⟩, 6), (⟨"PlaFolder", "foldsChanged", "()V"⟩, 6), (⟨"PlaFolder$Demands", "collect", "(LPlaFolder$State;)V"⟩, 1), (⟨"PlaFolder$Demands", "clear", "()V"⟩, 1), (⟨"PlaFolder$State", "termsOfColumn", "(I)I"⟩, 10), (⟨"PlaFolder$Demands", "add", "(II)V"⟩, 1), (⟨"PlaFolder$Demands", "withAllAbove", "(I)I"⟩, 1), (⟨"PlaFolder$RowOrder", "build", "(LPlaFolder$Demands;I)V"⟩, 2), (⟨"PlaFolder$State", "takesTerm", "(III)Z"⟩, 10), (⟨"PlaFolder$State", "appendTerm", "(III)V"⟩, 10)]
theorem lw_r1 : ∀ q ∈ lw_privs_1, lw_okq q := List.forall_mem_cons.mpr ⟨lw_p0, List.forall_mem_cons.mpr ⟨lw_p1, List.forall_mem_cons.mpr ⟨lw_p2, List.forall_mem_cons.mpr ⟨lw_p3, List.forall_mem_cons.mpr ⟨lw_p4, List.forall_mem_cons.mpr ⟨lw_p5, List.forall_mem_cons.mpr ⟨lw_p6, List.forall_mem_cons.mpr ⟨lw_p7, List.forall_mem_cons.mpr ⟨lw_p8, List.forall_mem_cons.mpr ⟨lw_p9, List.forall_mem_cons.mpr ⟨lw_p10, List.forall_mem_cons.mpr ⟨lw_p11, List.forall_mem_cons.mpr ⟨lw_p12, List.forall_mem_cons.mpr ⟨lw_p13, List.forall_mem_cons.mpr ⟨lw_p14, List.forall_mem_cons.mpr ⟨lw_p15, fun _ h => absurd h List.not_mem_nil⟩⟩⟩⟩⟩⟩⟩⟩⟩⟩⟩⟩⟩⟩⟩⟩
theorem lw_p16 : lw_okq (⟨"PlaFolder$State", "wordsOfTerm", "(II)J"⟩, 10) := ⟨⟨by decide +kernel, by decide +kernel⟩, List.mem_of_getElem? (i := 22) (by decide +kernel), List.mem_of_getElem? (i := 260) (by decide +kernel), List.mem_of_getElem? (i := 261) (by decide +kernel)⟩
theorem lw_p17 : lw_okq (⟨"PlaFolder$State", "allWords", "()J"⟩, 10) := ⟨⟨by decide +kernel, by decide +kernel⟩, List.mem_of_getElem? (i := 22) (by decide +kernel), List.mem_of_getElem? (i := 264) (by decide +kernel), List.mem_of_getElem? (i := 265) (by decide +kernel)⟩
theorem lw_p18 : lw_okq (⟨"PlaFolder$State", "hasTerm", "(I)Z"⟩, 10) := ⟨⟨by decide +kernel, by decide +kernel⟩, List.mem_of_getElem? (i := 22) (by decide +kernel), List.mem_of_getElem? (i := 275) (by decide +kernel), List.mem_of_getElem? (i := 276) (by decide +kernel)⟩
theorem lw_p19 : lw_okq (⟨"PlaFolder$State", "dropTerm", "(I)V"⟩, 10) := ⟨⟨by decide +kernel, by decide +kernel⟩, List.mem_of_getElem? (i := 22) (by decide +kernel), List.mem_of_getElem? (i := 279) (by decide +kernel), List.mem_of_getElem? (i := 280) (by decide +kernel)⟩
theorem lw_p20 : lw_okq (⟨"PlaFolder$State", "outputWord", "(I)I"⟩, 10) := ⟨⟨by decide +kernel, by decide +kernel⟩, List.mem_of_getElem? (i := 22) (by decide +kernel), List.mem_of_getElem? (i := 301) (by decide +kernel), List.mem_of_getElem? (i := 302) (by decide +kernel)⟩
theorem lw_p21 : lw_okq (⟨"PlaFolder$State", "wordsOfOutput", "(II)J"⟩, 10) := ⟨⟨by decide +kernel, by decide +kernel⟩, List.mem_of_getElem? (i := 22) (by decide +kernel), List.mem_of_getElem? (i := 309) (by decide +kernel), List.mem_of_getElem? (i := 310) (by decide +kernel)⟩
theorem lw_p22 : lw_okq (⟨"PlaFolder$State", "isSpare", "(I)Z"⟩, 10) := ⟨⟨by decide +kernel, by decide +kernel⟩, List.mem_of_getElem? (i := 22) (by decide +kernel), List.mem_of_getElem? (i := 323) (by decide +kernel), List.mem_of_getElem? (i := 324) (by decide +kernel)⟩
theorem lw_p23 : lw_okq (⟨"PlaFolder$State", "hasColumn", "(I)Z"⟩, 10) := ⟨⟨by decide +kernel, by decide +kernel⟩, List.mem_of_getElem? (i := 22) (by decide +kernel), List.mem_of_getElem? (i := 339) (by decide +kernel), List.mem_of_getElem? (i := 340) (by decide +kernel)⟩
theorem lw_p24 : lw_okq (⟨"PlaFolder$State", "isPair", "(II)Z"⟩, 10) := ⟨⟨by decide +kernel, by decide +kernel⟩, List.mem_of_getElem? (i := 22) (by decide +kernel), List.mem_of_getElem? (i := 348) (by decide +kernel), List.mem_of_getElem? (i := 349) (by decide +kernel)⟩
theorem lw_p25 : lw_okq (⟨"PlaFolder$State", "mateOf", "(I)I"⟩, 10) := ⟨⟨by decide +kernel, by decide +kernel⟩, List.mem_of_getElem? (i := 22) (by decide +kernel), List.mem_of_getElem? (i := 357) (by decide +kernel), List.mem_of_getElem? (i := 358) (by decide +kernel)⟩
theorem lw_p26 : lw_okq (⟨"PlaFolder$Demands", "allow", "(II)Z"⟩, 1) := ⟨⟨by decide +kernel, by decide +kernel⟩, List.mem_of_getElem? (i := 89) (by decide +kernel), List.mem_of_getElem? (i := 361) (by decide +kernel), List.mem_of_getElem? (i := 362) (by decide +kernel)⟩
theorem lw_p27 : lw_okq (⟨"PlaFolder$State", "join", "(II)V"⟩, 10) := ⟨⟨by decide +kernel, by decide +kernel⟩, List.mem_of_getElem? (i := 22) (by decide +kernel), List.mem_of_getElem? (i := 365) (by decide +kernel), List.mem_of_getElem? (i := 366) (by decide +kernel)⟩
theorem lw_p28 : lw_okq (⟨"PlaFolder$State", "part", "(I)V"⟩, 10) := ⟨⟨by decide +kernel, by decide +kernel⟩, List.mem_of_getElem? (i := 22) (by decide +kernel), List.mem_of_getElem? (i := 373) (by decide +kernel), List.mem_of_getElem? (i := 374) (by decide +kernel)⟩
theorem lw_p29 : lw_okq (⟨"PlaFolder$RowOrder", "spread", "(II)I"⟩, 2) := ⟨⟨by decide +kernel, by decide +kernel⟩, List.mem_of_getElem? (i := 101) (by decide +kernel), List.mem_of_getElem? (i := 407) (by decide +kernel), List.mem_of_getElem? (i := 408) (by decide +kernel)⟩
theorem lw_p30 : lw_okq (⟨"PlaFolder", "findBest", "()V"⟩, 6) := ⟨⟨by decide +kernel, by decide +kernel⟩, List.mem_of_getElem? (i := 14) (by decide +kernel), List.mem_of_getElem? (i := 421) (by decide +kernel), List.mem_of_getElem? (i := 422) (by decide +kernel)⟩
theorem lw_p31 : lw_okq (⟨"PlaFolder$BestFolding", "search", "(LPlaFolder$State;)V"⟩, 9) := ⟨⟨by decide +kernel, by decide +kernel⟩, List.mem_of_getElem? (i := 116) (by decide +kernel), List.mem_of_getElem? (i := 425) (by decide +kernel), List.mem_of_getElem? (i := 426) (by decide +kernel)⟩
def lw_privs_2 : List (MethodName × Nat) := [(⟨"PlaFolder$State", "wordsOfTerm", "(II)J"⟩, 10), (⟨"PlaFolder$State", "allWords", "()J"⟩, 10), (⟨"PlaFolder$State", "hasTerm", "(I)Z"⟩, 10), (⟨"PlaFolder$State", "dropTerm", "(I)V"⟩, 10), (⟨"PlaFolder$State", "outputWord", "(I)I"⟩, 10), (⟨"PlaFolder$State", "wordsOfOutput", "(II)J"⟩, 10), (⟨"PlaFolder$State", "isSpare", "(I)Z"⟩, 10), (⟨"PlaFolder$State", "hasColumn", "(I)Z"⟩, 10), (⟨"PlaFolder$State", "isPair", "(II)Z"⟩, 10), (⟨"PlaFolder$State", "mateOf", "(I)I"⟩, 10), (⟨"PlaFolder$Demands", "allow", "(II)Z"⟩, 1), (⟨"PlaFolder$State", "join", "(II)V"⟩, 10), (⟨"PlaFolder$State", "part", "(I)V"⟩, 10), (⟨"PlaFolder$RowOrder", "spread", "(II)I"⟩, 2), (⟨"PlaFolder", "findBest", "()V"⟩, 6), (⟨"PlaFolder$BestFolding", "search", "(LPlaFolder$State;)V"⟩, 9)]
theorem lw_r2 : ∀ q ∈ lw_privs_2, lw_okq q := List.forall_mem_cons.mpr ⟨lw_p16, List.forall_mem_cons.mpr ⟨lw_p17, List.forall_mem_cons.mpr ⟨lw_p18, List.forall_mem_cons.mpr ⟨lw_p19, List.forall_mem_cons.mpr ⟨lw_p20, List.forall_mem_cons.mpr ⟨lw_p21, List.forall_mem_cons.mpr ⟨lw_p22, List.forall_mem_cons.mpr ⟨lw_p23, List.forall_mem_cons.mpr ⟨lw_p24, List.forall_mem_cons.mpr ⟨lw_p25, List.forall_mem_cons.mpr ⟨lw_p26, List.forall_mem_cons.mpr ⟨lw_p27, List.forall_mem_cons.mpr ⟨lw_p28, List.forall_mem_cons.mpr ⟨lw_p29, List.forall_mem_cons.mpr ⟨lw_p30, List.forall_mem_cons.mpr ⟨lw_p31, fun _ h => absurd h List.not_mem_nil⟩⟩⟩⟩⟩⟩⟩⟩⟩⟩⟩⟩⟩⟩⟩⟩
theorem lw_p32 : lw_okq (⟨"PlaFolder$BestFolding", "foldableColumns", "(LPlaFolder$State;)I"⟩, 9) := ⟨⟨by decide +kernel, by decide +kernel⟩, List.mem_of_getElem? (i := 116) (by decide +kernel), List.mem_of_getElem? (i := 429) (by decide +kernel), List.mem_of_getElem? (i := 430) (by decide +kernel)⟩
theorem lw_p33 : lw_okq (⟨"PlaFolder$BestFolding", "extend", "(III)V"⟩, 9) := ⟨⟨by decide +kernel, by decide +kernel⟩, List.mem_of_getElem? (i := 116) (by decide +kernel), List.mem_of_getElem? (i := 439) (by decide +kernel), List.mem_of_getElem? (i := 440) (by decide +kernel)⟩
theorem lw_p34 : lw_okq (⟨"PlaFolder$BestFolding", "keep", "(I)V"⟩, 9) := ⟨⟨by decide +kernel, by decide +kernel⟩, List.mem_of_getElem? (i := 116) (by decide +kernel), List.mem_of_getElem? (i := 443) (by decide +kernel), List.mem_of_getElem? (i := 444) (by decide +kernel)⟩
theorem lw_p35 : lw_okq (⟨"PlaFolder$BestFolding", "tryLowers", "(III)V"⟩, 9) := ⟨⟨by decide +kernel, by decide +kernel⟩, List.mem_of_getElem? (i := 116) (by decide +kernel), List.mem_of_getElem? (i := 457) (by decide +kernel), List.mem_of_getElem? (i := 458) (by decide +kernel)⟩
theorem lw_p36 : lw_okq (⟨"PlaFolder$Demands", "copyFrom", "(LPlaFolder$Demands;)V"⟩, 1) := ⟨⟨by decide +kernel, by decide +kernel⟩, List.mem_of_getElem? (i := 89) (by decide +kernel), List.mem_of_getElem? (i := 462) (by decide +kernel), List.mem_of_getElem? (i := 463) (by decide +kernel)⟩
theorem lw_p37 : lw_okq (⟨"PlaFolder$History", "pop", "(LPlaFolder$State;)V"⟩, 2) := ⟨⟨by decide +kernel, by decide +kernel⟩, List.mem_of_getElem? (i := 72) (by decide +kernel), List.mem_of_getElem? (i := 482) (by decide +kernel), List.mem_of_getElem? (i := 483) (by decide +kernel)⟩
theorem lw_p38 : lw_okq (⟨"PlaFolder", "mixTerms", "(J)J"⟩, 6) := ⟨⟨by decide +kernel, by decide +kernel⟩, List.mem_of_getElem? (i := 14) (by decide +kernel), List.mem_of_getElem? (i := 499) (by decide +kernel), List.mem_of_getElem? (i := 500) (by decide +kernel)⟩
theorem lw_p39 : lw_okq (⟨"PlaFolder", "mixColumns", "(J)J"⟩, 6) := ⟨⟨by decide +kernel, by decide +kernel⟩, List.mem_of_getElem? (i := 14) (by decide +kernel), List.mem_of_getElem? (i := 503) (by decide +kernel), List.mem_of_getElem? (i := 504) (by decide +kernel)⟩
theorem lw_p40 : lw_okq (⟨"PlaFolder", "mixBest", "(J)J"⟩, 6) := ⟨⟨by decide +kernel, by decide +kernel⟩, List.mem_of_getElem? (i := 14) (by decide +kernel), List.mem_of_getElem? (i := 507) (by decide +kernel), List.mem_of_getElem? (i := 508) (by decide +kernel)⟩
theorem lw_p41 : lw_okq (⟨"PlaFolderModel", "noFolds", "()V"⟩, 10) := ⟨⟨by decide +kernel, by decide +kernel⟩, List.mem_of_getElem? (i := 511) (by decide +kernel), List.mem_of_getElem? (i := 517) (by decide +kernel), List.mem_of_getElem? (i := 518) (by decide +kernel)⟩
theorem lw_p42 : lw_okq (⟨"PlaFolderModel", "error", "(I)I"⟩, 10) := ⟨⟨by decide +kernel, by decide +kernel⟩, List.mem_of_getElem? (i := 511) (by decide +kernel), List.mem_of_getElem? (i := 556) (by decide +kernel), List.mem_of_getElem? (i := 557) (by decide +kernel)⟩
theorem lw_p43 : lw_okq (⟨"PlaFolderModel", "save", "()V"⟩, 10) := ⟨⟨by decide +kernel, by decide +kernel⟩, List.mem_of_getElem? (i := 511) (by decide +kernel), List.mem_of_getElem? (i := 567) (by decide +kernel), List.mem_of_getElem? (i := 568) (by decide +kernel)⟩
theorem lw_p44 : lw_okq (⟨"PlaFolderModel", "isSet", "(II)Z"⟩, 10) := ⟨⟨by decide +kernel, by decide +kernel⟩, List.mem_of_getElem? (i := 511) (by decide +kernel), List.mem_of_getElem? (i := 575) (by decide +kernel), List.mem_of_getElem? (i := 576) (by decide +kernel)⟩
theorem lw_p45 : lw_okq (⟨"PlaFolderModel", "isTerm", "(I)Z"⟩, 10) := ⟨⟨by decide +kernel, by decide +kernel⟩, List.mem_of_getElem? (i := 511) (by decide +kernel), List.mem_of_getElem? (i := 583) (by decide +kernel), List.mem_of_getElem? (i := 584) (by decide +kernel)⟩
theorem lw_p46 : lw_okq (⟨"PlaFolderModel", "drop", "(I)V"⟩, 10) := ⟨⟨by decide +kernel, by decide +kernel⟩, List.mem_of_getElem? (i := 511) (by decide +kernel), List.mem_of_getElem? (i := 587) (by decide +kernel), List.mem_of_getElem? (i := 588) (by decide +kernel)⟩
theorem lw_p47 : lw_okq (⟨"PlaFolderModel", "words", "()I"⟩, 10) := ⟨⟨by decide +kernel, by decide +kernel⟩, List.mem_of_getElem? (i := 511) (by decide +kernel), List.mem_of_getElem? (i := 606) (by decide +kernel), List.mem_of_getElem? (i := 607) (by decide +kernel)⟩
def lw_privs_3 : List (MethodName × Nat) := [(⟨"PlaFolder$BestFolding", "foldableColumns", "(LPlaFolder$State;)I"⟩, 9), (⟨"PlaFolder$BestFolding", "extend", "(III)V"⟩, 9), (⟨"PlaFolder$BestFolding", "keep", "(I)V"⟩, 9), (⟨"PlaFolder$BestFolding", "tryLowers", "(III)V"⟩, 9), (⟨"PlaFolder$Demands", "copyFrom", "(LPlaFolder$Demands;)V"⟩, 1), (⟨"PlaFolder$History", "pop", "(LPlaFolder$State;)V"⟩, 2), (⟨"PlaFolder", "mixTerms", "(J)J"⟩, 6), (⟨"PlaFolder", "mixColumns", "(J)J"⟩, 6), (⟨"PlaFolder", "mixBest", "(J)J"⟩, 6), (⟨"PlaFolderModel", "noFolds", "()V"⟩, 10), (⟨"PlaFolderModel", "error", "(I)I"⟩, 10), (⟨"PlaFolderModel", "save", "()V"⟩, 10), (⟨"PlaFolderModel", "isSet", "(II)Z"⟩, 10), (⟨"PlaFolderModel", "isTerm", "(I)Z"⟩, 10), (⟨"PlaFolderModel", "drop", "(I)V"⟩, 10), (⟨"PlaFolderModel", "words", "()I"⟩, 10)]
theorem lw_r3 : ∀ q ∈ lw_privs_3, lw_okq q := List.forall_mem_cons.mpr ⟨lw_p32, List.forall_mem_cons.mpr ⟨lw_p33, List.forall_mem_cons.mpr ⟨lw_p34, List.forall_mem_cons.mpr ⟨lw_p35, List.forall_mem_cons.mpr ⟨lw_p36, List.forall_mem_cons.mpr ⟨lw_p37, List.forall_mem_cons.mpr ⟨lw_p38, List.forall_mem_cons.mpr ⟨lw_p39, List.forall_mem_cons.mpr ⟨lw_p40, List.forall_mem_cons.mpr ⟨lw_p41, List.forall_mem_cons.mpr ⟨lw_p42, List.forall_mem_cons.mpr ⟨lw_p43, List.forall_mem_cons.mpr ⟨lw_p44, List.forall_mem_cons.mpr ⟨lw_p45, List.forall_mem_cons.mpr ⟨lw_p46, List.forall_mem_cons.mpr ⟨lw_p47, fun _ h => absurd h List.not_mem_nil⟩⟩⟩⟩⟩⟩⟩⟩⟩⟩⟩⟩⟩⟩⟩⟩
theorem lw_p48 : lw_okq (⟨"PlaFolderModel", "outputs", "(II)I"⟩, 10) := ⟨⟨by decide +kernel, by decide +kernel⟩, List.mem_of_getElem? (i := 511) (by decide +kernel), List.mem_of_getElem? (i := 610) (by decide +kernel), List.mem_of_getElem? (i := 611) (by decide +kernel)⟩
theorem lw_p49 : lw_okq (⟨"PlaFolderModel", "redundant", "(I)Z"⟩, 10) := ⟨⟨by decide +kernel, by decide +kernel⟩, List.mem_of_getElem? (i := 511) (by decide +kernel), List.mem_of_getElem? (i := 625) (by decide +kernel), List.mem_of_getElem? (i := 626) (by decide +kernel)⟩
theorem lw_p50 : lw_okq (⟨"PlaFolderModel", "isColumn", "(I)Z"⟩, 10) := ⟨⟨by decide +kernel, by decide +kernel⟩, List.mem_of_getElem? (i := 511) (by decide +kernel), List.mem_of_getElem? (i := 637) (by decide +kernel), List.mem_of_getElem? (i := 638) (by decide +kernel)⟩
theorem lw_p51 : lw_okq (⟨"PlaFolderModel", "usedBy", "(I)I"⟩, 10) := ⟨⟨by decide +kernel, by decide +kernel⟩, List.mem_of_getElem? (i := 511) (by decide +kernel), List.mem_of_getElem? (i := 641) (by decide +kernel), List.mem_of_getElem? (i := 642) (by decide +kernel)⟩
theorem lw_p52 : lw_okq (⟨"PlaFolderModel", "layUsed", "()V"⟩, 10) := ⟨⟨by decide +kernel, by decide +kernel⟩, List.mem_of_getElem? (i := 511) (by decide +kernel), List.mem_of_getElem? (i := 649) (by decide +kernel), List.mem_of_getElem? (i := 650) (by decide +kernel)⟩
theorem lw_p53 : lw_okq (⟨"PlaFolderModel", "fits", "(II)Z"⟩, 10) := ⟨⟨by decide +kernel, by decide +kernel⟩, List.mem_of_getElem? (i := 511) (by decide +kernel), List.mem_of_getElem? (i := 653) (by decide +kernel), List.mem_of_getElem? (i := 654) (by decide +kernel)⟩
theorem lw_p54 : lw_okq (⟨"PlaFolderModel", "layDemands", "()V"⟩, 10) := ⟨⟨by decide +kernel, by decide +kernel⟩, List.mem_of_getElem? (i := 511) (by decide +kernel), List.mem_of_getElem? (i := 661) (by decide +kernel), List.mem_of_getElem? (i := 662) (by decide +kernel)⟩
theorem lw_p55 : lw_okq (⟨"PlaFolderModel", "noDemands", "()V"⟩, 10) := ⟨⟨by decide +kernel, by decide +kernel⟩, List.mem_of_getElem? (i := 511) (by decide +kernel), List.mem_of_getElem? (i := 665) (by decide +kernel), List.mem_of_getElem? (i := 666) (by decide +kernel)⟩
theorem lw_p56 : lw_okq (⟨"PlaFolderModel", "demand", "(II)V"⟩, 10) := ⟨⟨by decide +kernel, by decide +kernel⟩, List.mem_of_getElem? (i := 511) (by decide +kernel), List.mem_of_getElem? (i := 669) (by decide +kernel), List.mem_of_getElem? (i := 670) (by decide +kernel)⟩
theorem lw_p57 : lw_okq (⟨"PlaFolderModel", "isFolded", "(I)Z"⟩, 10) := ⟨⟨by decide +kernel, by decide +kernel⟩, List.mem_of_getElem? (i := 511) (by decide +kernel), List.mem_of_getElem? (i := 673) (by decide +kernel), List.mem_of_getElem? (i := 674) (by decide +kernel)⟩
theorem lw_p58 : lw_okq (⟨"PlaFolderModel", "layRows", "()Z"⟩, 10) := ⟨⟨by decide +kernel, by decide +kernel⟩, List.mem_of_getElem? (i := 511) (by decide +kernel), List.mem_of_getElem? (i := 677) (by decide +kernel), List.mem_of_getElem? (i := 678) (by decide +kernel)⟩
theorem lw_p59 : lw_okq (⟨"PlaFolderModel", "foldMany", "()I"⟩, 10) := ⟨⟨by decide +kernel, by decide +kernel⟩, List.mem_of_getElem? (i := 511) (by decide +kernel), List.mem_of_getElem? (i := 681) (by decide +kernel), List.mem_of_getElem? (i := 682) (by decide +kernel)⟩
theorem lw_p60 : lw_okq (⟨"PlaFolderModel", "partnerOf", "(I)I"⟩, 10) := ⟨⟨by decide +kernel, by decide +kernel⟩, List.mem_of_getElem? (i := 511) (by decide +kernel), List.mem_of_getElem? (i := 689) (by decide +kernel), List.mem_of_getElem? (i := 690) (by decide +kernel)⟩
theorem lw_p61 : lw_okq (⟨"PlaFolderModel", "apart", "(I)V"⟩, 10) := ⟨⟨by decide +kernel, by decide +kernel⟩, List.mem_of_getElem? (i := 511) (by decide +kernel), List.mem_of_getElem? (i := 693) (by decide +kernel), List.mem_of_getElem? (i := 694) (by decide +kernel)⟩
theorem lw_p62 : lw_okq (⟨"PlaFolderModel", "lay", "()V"⟩, 10) := ⟨⟨by decide +kernel, by decide +kernel⟩, List.mem_of_getElem? (i := 511) (by decide +kernel), List.mem_of_getElem? (i := 709) (by decide +kernel), List.mem_of_getElem? (i := 710) (by decide +kernel)⟩
theorem lw_p63 : lw_okq (⟨"PlaFolderModel", "rowAt", "(I)I"⟩, 10) := ⟨⟨by decide +kernel, by decide +kernel⟩, List.mem_of_getElem? (i := 511) (by decide +kernel), List.mem_of_getElem? (i := 717) (by decide +kernel), List.mem_of_getElem? (i := 718) (by decide +kernel)⟩
def lw_privs_4 : List (MethodName × Nat) := [(⟨"PlaFolderModel", "outputs", "(II)I"⟩, 10), (⟨"PlaFolderModel", "redundant", "(I)Z"⟩, 10), (⟨"PlaFolderModel", "isColumn", "(I)Z"⟩, 10), (⟨"PlaFolderModel", "usedBy", "(I)I"⟩, 10), (⟨"PlaFolderModel", "layUsed", "()V"⟩, 10), (⟨"PlaFolderModel", "fits", "(II)Z"⟩, 10), (⟨"PlaFolderModel", "layDemands", "()V"⟩, 10), (⟨"PlaFolderModel", "noDemands", "()V"⟩, 10), (⟨"PlaFolderModel", "demand", "(II)V"⟩, 10), (⟨"PlaFolderModel", "isFolded", "(I)Z"⟩, 10), (⟨"PlaFolderModel", "layRows", "()Z"⟩, 10), (⟨"PlaFolderModel", "foldMany", "()I"⟩, 10), (⟨"PlaFolderModel", "partnerOf", "(I)I"⟩, 10), (⟨"PlaFolderModel", "apart", "(I)V"⟩, 10), (⟨"PlaFolderModel", "lay", "()V"⟩, 10), (⟨"PlaFolderModel", "rowAt", "(I)I"⟩, 10)]
theorem lw_r4 : ∀ q ∈ lw_privs_4, lw_okq q := List.forall_mem_cons.mpr ⟨lw_p48, List.forall_mem_cons.mpr ⟨lw_p49, List.forall_mem_cons.mpr ⟨lw_p50, List.forall_mem_cons.mpr ⟨lw_p51, List.forall_mem_cons.mpr ⟨lw_p52, List.forall_mem_cons.mpr ⟨lw_p53, List.forall_mem_cons.mpr ⟨lw_p54, List.forall_mem_cons.mpr ⟨lw_p55, List.forall_mem_cons.mpr ⟨lw_p56, List.forall_mem_cons.mpr ⟨lw_p57, List.forall_mem_cons.mpr ⟨lw_p58, List.forall_mem_cons.mpr ⟨lw_p59, List.forall_mem_cons.mpr ⟨lw_p60, List.forall_mem_cons.mpr ⟨lw_p61, List.forall_mem_cons.mpr ⟨lw_p62, List.forall_mem_cons.mpr ⟨lw_p63, fun _ h => absurd h List.not_mem_nil⟩⟩⟩⟩⟩⟩⟩⟩⟩⟩⟩⟩⟩⟩⟩⟩
theorem lw_p64 : lw_okq (⟨"PlaFolderModel", "areaNow", "()I"⟩, 10) := ⟨⟨by decide +kernel, by decide +kernel⟩, List.mem_of_getElem? (i := 511) (by decide +kernel), List.mem_of_getElem? (i := 729) (by decide +kernel), List.mem_of_getElem? (i := 730) (by decide +kernel)⟩
theorem lw_p65 : lw_okq (⟨"PlaFolderModel", "spanOf", "(I)I"⟩, 10) := ⟨⟨by decide +kernel, by decide +kernel⟩, List.mem_of_getElem? (i := 511) (by decide +kernel), List.mem_of_getElem? (i := 737) (by decide +kernel), List.mem_of_getElem? (i := 738) (by decide +kernel)⟩
theorem lw_p66 : lw_okq (⟨"PlaFolderModel", "findBest", "()V"⟩, 10) := ⟨⟨by decide +kernel, by decide +kernel⟩, List.mem_of_getElem? (i := 511) (by decide +kernel), List.mem_of_getElem? (i := 745) (by decide +kernel), List.mem_of_getElem? (i := 746) (by decide +kernel)⟩
theorem lw_p67 : lw_okq (⟨"PlaFolderModel", "findList", "(I)Z"⟩, 10) := ⟨⟨by decide +kernel, by decide +kernel⟩, List.mem_of_getElem? (i := 511) (by decide +kernel), List.mem_of_getElem? (i := 749) (by decide +kernel), List.mem_of_getElem? (i := 750) (by decide +kernel)⟩
theorem lw_p68 : lw_okq (⟨"PlaFolderModel", "mayStand", "(I)Z"⟩, 10) := ⟨⟨by decide +kernel, by decide +kernel⟩, List.mem_of_getElem? (i := 511) (by decide +kernel), List.mem_of_getElem? (i := 753) (by decide +kernel), List.mem_of_getElem? (i := 754) (by decide +kernel)⟩
theorem lw_p69 : lw_okq (⟨"PlaFolderModel", "mix", "(J)V"⟩, 10) := ⟨⟨by decide +kernel, by decide +kernel⟩, List.mem_of_getElem? (i := 511) (by decide +kernel), List.mem_of_getElem? (i := 774) (by decide +kernel), List.mem_of_getElem? (i := 775) (by decide +kernel)⟩
theorem lw_p70 : lw_okq (⟨"PlaFolderModel", "mixTerms", "()V"⟩, 10) := ⟨⟨by decide +kernel, by decide +kernel⟩, List.mem_of_getElem? (i := 511) (by decide +kernel), List.mem_of_getElem? (i := 779) (by decide +kernel), List.mem_of_getElem? (i := 780) (by decide +kernel)⟩
def lw_privs_5 : List (MethodName × Nat) := [(⟨"PlaFolderModel", "areaNow", "()I"⟩, 10), (⟨"PlaFolderModel", "spanOf", "(I)I"⟩, 10), (⟨"PlaFolderModel", "findBest", "()V"⟩, 10), (⟨"PlaFolderModel", "findList", "(I)Z"⟩, 10), (⟨"PlaFolderModel", "mayStand", "(I)Z"⟩, 10), (⟨"PlaFolderModel", "mix", "(J)V"⟩, 10), (⟨"PlaFolderModel", "mixTerms", "()V"⟩, 10)]
theorem lw_r5 : ∀ q ∈ lw_privs_5, lw_okq q := List.forall_mem_cons.mpr ⟨lw_p64, List.forall_mem_cons.mpr ⟨lw_p65, List.forall_mem_cons.mpr ⟨lw_p66, List.forall_mem_cons.mpr ⟨lw_p67, List.forall_mem_cons.mpr ⟨lw_p68, List.forall_mem_cons.mpr ⟨lw_p69, List.forall_mem_cons.mpr ⟨lw_p70, fun _ h => absurd h List.not_mem_nil⟩⟩⟩⟩⟩⟩⟩
def lw_privs : List (MethodName × Nat) := lw_privs_1 ++ (lw_privs_2 ++ (lw_privs_3 ++ (lw_privs_4 ++ (lw_privs_5))))
def lw_tbl : List Cond := k2_sels lw_privs ++ tables_1
theorem lw_privs_ok : ∀ q ∈ lw_privs, lw_okq q := by
  show ∀ q ∈ lw_privs_1 ++ (lw_privs_2 ++ (lw_privs_3 ++ (lw_privs_4 ++ (lw_privs_5)))), lw_okq q
  exact List.forall_mem_append.mpr ⟨lw_r1, List.forall_mem_append.mpr ⟨lw_r2, List.forall_mem_append.mpr ⟨lw_r3, List.forall_mem_append.mpr ⟨lw_r4, lw_r5⟩⟩⟩⟩
end
section
/-! ===== BEGIN words of one list among another's, by their places ===== -/
theorem goodIn_r {big : List Cond} (ws : List Cond) (ps : List Nat) (hp : ws = ps.filterMap (fun i => big[i]?)) (h : ws.all goodWord = true) : GoodIn big ws := by
  intro w hw
  have h1 := List.all_eq_true.mp h w hw
  rw [hp] at hw
  obtain ⟨i, -, hi⟩ := List.mem_filterMap.mp hw
  have hm : w ∈ big := by first | exact List.mem_of_getElem? hi | exact List.getElem?_mem hi
  exact ⟨hm, good_of_word h1⟩
theorem goodIn_app {big a b : List Cond} (ha : GoodIn big a) (hb : GoodIn big b) : GoodIn big (a ++ b) := fun w h => (List.mem_append.mp h).elim (ha w) (hb w)
theorem goodIn_ca {big a b : List Cond} {c : Cond} (ha : GoodIn big (c :: a)) (hb : GoodIn big b) : GoodIn big (c :: (a ++ b)) := fun w h => (List.mem_cons.mp h).elim (fun e => ha w (List.mem_cons.mpr (Or.inl e))) (fun h => (List.mem_append.mp h).elim (fun h => ha w (List.mem_cons.mpr (Or.inr h))) (hb w))
theorem goodIn_sub {big ws : List Cond} (hm : ∀ w ∈ ws, w ∈ big) (h : ws.all goodWord = true) : GoodIn big ws := fun w hw => ⟨hm w hw, good_of_word (List.all_eq_true.mp h w hw)⟩
/-! ===== END ===== -/

/-! ===== BEGIN printed: names, fields, word lists, decode rows ===== -/
def RX0 : String := "PlaFolder$BestFolding"
def TX0 : u_T := fun k => match k with
  | 0 => ("PlaFolder$BestFolding", "known", "Z", false)
  | 1 => ("PlaFolder$BestFolding", "count", "I", false)
  | 2 => ("PlaFolder$BestFolding", "upper", "[I", true)
  | 3 => ("PlaFolder$BestFolding", "lower", "[I", true)
  | 4 => ("PlaFolder$BestFolding", "triedUpper", "[I", true)
  | 5 => ("PlaFolder$BestFolding", "triedLower", "[I", true)
  | 6 => ("PlaFolder$BestFolding", "used", "[I", true)
  | 7 => ("PlaFolder$BestFolding", "mates", "[I", true)
  | _ => ("PlaFolder$BestFolding", "demandsAt", "[LPlaFolder$Demands;", true)
def tyX0 : Nat → FieldType := fun k => match k with
  | 0 => .boolean
  | 1 => .int
  | 2 => .array .int
  | 3 => .array .int
  | 4 => .array .int
  | 5 => .array .int
  | 6 => .array .int
  | 7 => .array .int
  | _ => .array (.object "PlaFolder$Demands")
abbrev wsX00 : List Cond := u_ws RX0 TX0 9
theorem nmX0 : ∀ a, a < 9 → ∀ b, b < 9 → a ≠ b → (TX0 a).2.1 ≠ (TX0 b).2.1 := by decide +kernel
theorem tyX0_ok : ∀ k, k < 9 → parseFieldDescriptor (TX0 k).2.2.1 = some (tyX0 k) := by decide +kernel
abbrev cX0_init : ByteArray := prog_2_method_1_code
def yX0_init : MethodName := ⟨RX0, "<init>", "()V"⟩
abbrev cX0_search : ByteArray := prog_2_method_2_code
def yX0_search : MethodName := ⟨RX0, "search", "(LPlaFolder$State;)V"⟩
abbrev cX0_foldableColumns : ByteArray := prog_2_method_3_code
def yX0_foldableColumns : MethodName := ⟨RX0, "foldableColumns", "(LPlaFolder$State;)I"⟩
abbrev cX0_matesOf : ByteArray := prog_2_method_4_code
def yX0_matesOf : MethodName := ⟨RX0, "matesOf", "(LPlaFolder$State;I)I"⟩
abbrev cX0_extend : ByteArray := prog_2_method_5_code
def yX0_extend : MethodName := ⟨RX0, "extend", "(III)V"⟩
abbrev cX0_tryLowers : ByteArray := prog_2_method_6_code
def yX0_tryLowers : MethodName := ⟨RX0, "tryLowers", "(III)V"⟩
abbrev cX0_keep : ByteArray := prog_2_method_7_code
def yX0_keep : MethodName := ⟨RX0, "keep", "(I)V"⟩
abbrev cX0_mostFolds : ByteArray := prog_2_method_8_code
def yX0_mostFolds : MethodName := ⟨RX0, "mostFolds", "(II)I"⟩
abbrev cX0_mostOfKind : ByteArray := prog_2_method_9_code
def yX0_mostOfKind : MethodName := ⟨RX0, "mostOfKind", "(II)I"⟩
def RX1 : String := "PlaFolder$Demands"
def TX1 : u_T := fun k => match k with
  | _ => ("PlaFolder$Demands", "above", "[I", true)
def tyX1 : Nat → FieldType := fun k => match k with
  | _ => .array .int
abbrev wsX10 : List Cond := u_ws RX1 TX1 1
theorem nmX1 : ∀ a, a < 1 → ∀ b, b < 1 → a ≠ b → (TX1 a).2.1 ≠ (TX1 b).2.1 := by decide +kernel
theorem tyX1_ok : ∀ k, k < 1 → parseFieldDescriptor (TX1 k).2.2.1 = some (tyX1 k) := by decide +kernel
abbrev cX1_init : ByteArray := prog_3_method_1_code
def yX1_init : MethodName := ⟨RX1, "<init>", "()V"⟩
abbrev cX1_clear : ByteArray := prog_3_method_2_code
def yX1_clear : MethodName := ⟨RX1, "clear", "()V"⟩
abbrev cX1_copyFrom : ByteArray := prog_3_method_3_code
def yX1_copyFrom : MethodName := ⟨RX1, "copyFrom", "(LPlaFolder$Demands;)V"⟩
abbrev cX1_collect : ByteArray := prog_3_method_4_code
def yX1_collect : MethodName := ⟨RX1, "collect", "(LPlaFolder$State;)V"⟩
abbrev cX1_withAllAbove : ByteArray := prog_3_method_5_code
def yX1_withAllAbove : MethodName := ⟨RX1, "withAllAbove", "(I)I"⟩
abbrev cX1_allow : ByteArray := prog_3_method_6_code
def yX1_allow : MethodName := ⟨RX1, "allow", "(II)Z"⟩
abbrev cX1_add : ByteArray := prog_3_method_7_code
def yX1_add : MethodName := ⟨RX1, "add", "(II)V"⟩
def RX2 : String := "PlaFolder$History"
def TX2 : u_T := fun k => match k with
  | 0 => ("PlaFolder$History", "saved", "[LPlaFolder$State;", true)
  | _ => ("PlaFolder$History", "count", "I", false)
def tyX2 : Nat → FieldType := fun k => match k with
  | 0 => .array (.object "PlaFolder$State")
  | _ => .int
abbrev wsX20 : List Cond := u_ws RX2 TX2 2
theorem nmX2 : ∀ a, a < 2 → ∀ b, b < 2 → a ≠ b → (TX2 a).2.1 ≠ (TX2 b).2.1 := by decide +kernel
theorem tyX2_ok : ∀ k, k < 2 → parseFieldDescriptor (TX2 k).2.2.1 = some (tyX2 k) := by decide +kernel
abbrev cX2_init : ByteArray := prog_4_method_1_code
def yX2_init : MethodName := ⟨RX2, "<init>", "()V"⟩
abbrev cX2_push : ByteArray := prog_4_method_2_code
def yX2_push : MethodName := ⟨RX2, "push", "(LPlaFolder$State;)V"⟩
abbrev cX2_dropOldest : ByteArray := prog_4_method_3_code
def yX2_dropOldest : MethodName := ⟨RX2, "dropOldest", "()V"⟩
abbrev cX2_pop : ByteArray := prog_4_method_4_code
def yX2_pop : MethodName := ⟨RX2, "pop", "(LPlaFolder$State;)V"⟩
def RX3 : String := "PlaFolder$RowOrder"
def TX3 : u_T := fun k => match k with
  | 0 => ("PlaFolder$RowOrder", "termInRow", "[I", true)
  | _ => ("PlaFolder$RowOrder", "rowOfTerm", "[I", true)
def tyX3 : Nat → FieldType := fun k => match k with
  | 0 => .array .int
  | _ => .array .int
abbrev wsX30 : List Cond := u_ws RX3 TX3 2
theorem nmX3 : ∀ a, a < 2 → ∀ b, b < 2 → a ≠ b → (TX3 a).2.1 ≠ (TX3 b).2.1 := by decide +kernel
theorem tyX3_ok : ∀ k, k < 2 → parseFieldDescriptor (TX3 k).2.2.1 = some (tyX3 k) := by decide +kernel
abbrev cX3_init : ByteArray := prog_5_method_1_code
def yX3_init : MethodName := ⟨RX3, "<init>", "()V"⟩
abbrev cX3_build : ByteArray := prog_5_method_2_code
def yX3_build : MethodName := ⟨RX3, "build", "(LPlaFolder$Demands;I)V"⟩
abbrev cX3_nextTerm : ByteArray := prog_5_method_3_code
def yX3_nextTerm : MethodName := ⟨RX3, "nextTerm", "(LPlaFolder$Demands;II)I"⟩
abbrev cX3_spread : ByteArray := prog_5_method_4_code
def yX3_spread : MethodName := ⟨RX3, "spread", "(II)I"⟩
def RX4 : String := "PlaFolder$State"
def TX4 : u_T := fun k => match k with
  | 0 => ("PlaFolder$State", "inputs", "I", false)
  | 1 => ("PlaFolder$State", "outputs", "I", false)
  | 2 => ("PlaFolder$State", "termCount", "I", false)
  | 3 => ("PlaFolder$State", "foldCount", "I", false)
  | 4 => ("PlaFolder$State", "ones", "[I", true)
  | 5 => ("PlaFolder$State", "zeros", "[I", true)
  | 6 => ("PlaFolder$State", "outs", "[I", true)
  | 7 => ("PlaFolder$State", "words", "[J", true)
  | 8 => ("PlaFolder$State", "lowerOf", "[I", true)
  | _ => ("PlaFolder$State", "upperOf", "[I", true)
def tyX4 : Nat → FieldType := fun k => match k with
  | 0 => .int
  | 1 => .int
  | 2 => .int
  | 3 => .int
  | 4 => .array .int
  | 5 => .array .int
  | 6 => .array .int
  | 7 => .array .long
  | 8 => .array .int
  | _ => .array .int
abbrev wsX40 : List Cond := u_ws RX4 TX4 10
theorem nmX4 : ∀ a, a < 10 → ∀ b, b < 10 → a ≠ b → (TX4 a).2.1 ≠ (TX4 b).2.1 := by decide +kernel
theorem tyX4_ok : ∀ k, k < 10 → parseFieldDescriptor (TX4 k).2.2.1 = some (tyX4 k) := by decide +kernel
abbrev cX4_init : ByteArray := prog_6_method_1_code
def yX4_init : MethodName := ⟨RX4, "<init>", "()V"⟩
abbrev cX4_copyFrom : ByteArray := prog_6_method_2_code
def yX4_copyFrom : MethodName := ⟨RX4, "copyFrom", "(LPlaFolder$State;)V"⟩
abbrev cX4_resize : ByteArray := prog_6_method_3_code
def yX4_resize : MethodName := ⟨RX4, "resize", "(II)V"⟩
abbrev cX4_hasTerm : ByteArray := prog_6_method_4_code
def yX4_hasTerm : MethodName := ⟨RX4, "hasTerm", "(I)Z"⟩
abbrev cX4_hasColumn : ByteArray := prog_6_method_5_code
def yX4_hasColumn : MethodName := ⟨RX4, "hasColumn", "(I)Z"⟩
abbrev cX4_takesTerm : ByteArray := prog_6_method_6_code
def yX4_takesTerm : MethodName := ⟨RX4, "takesTerm", "(III)Z"⟩
abbrev cX4_appendTerm : ByteArray := prog_6_method_7_code
def yX4_appendTerm : MethodName := ⟨RX4, "appendTerm", "(III)V"⟩
abbrev cX4_wordsOfTerm : ByteArray := prog_6_method_8_code
def yX4_wordsOfTerm : MethodName := ⟨RX4, "wordsOfTerm", "(II)J"⟩
abbrev cX4_allWords : ByteArray := prog_6_method_9_code
def yX4_allWords : MethodName := ⟨RX4, "allWords", "()J"⟩
abbrev cX4_dropTerm : ByteArray := prog_6_method_10_code
def yX4_dropTerm : MethodName := ⟨RX4, "dropTerm", "(I)V"⟩
abbrev cX4_outputWord : ByteArray := prog_6_method_11_code
def yX4_outputWord : MethodName := ⟨RX4, "outputWord", "(I)I"⟩
abbrev cX4_wordsOfOutput : ByteArray := prog_6_method_12_code
def yX4_wordsOfOutput : MethodName := ⟨RX4, "wordsOfOutput", "(II)J"⟩
abbrev cX4_isSpare : ByteArray := prog_6_method_13_code
def yX4_isSpare : MethodName := ⟨RX4, "isSpare", "(I)Z"⟩
abbrev cX4_termsOfColumn : ByteArray := prog_6_method_14_code
def yX4_termsOfColumn : MethodName := ⟨RX4, "termsOfColumn", "(I)I"⟩
abbrev cX4_isPair : ByteArray := prog_6_method_15_code
def yX4_isPair : MethodName := ⟨RX4, "isPair", "(II)Z"⟩
abbrev cX4_mateOf : ByteArray := prog_6_method_16_code
def yX4_mateOf : MethodName := ⟨RX4, "mateOf", "(I)I"⟩
abbrev cX4_join : ByteArray := prog_6_method_17_code
def yX4_join : MethodName := ⟨RX4, "join", "(II)V"⟩
abbrev cX4_part : ByteArray := prog_6_method_18_code
def yX4_part : MethodName := ⟨RX4, "part", "(I)V"⟩
abbrev cX4_partAll : ByteArray := prog_6_method_19_code
def yX4_partAll : MethodName := ⟨RX4, "partAll", "()V"⟩
def RX5 : String := "PlaFolder"
def TX5 : u_T := fun k => match k with
  | 0 => ("PlaFolder", "state", "LPlaFolder$State;", true)
  | 1 => ("PlaFolder", "history", "LPlaFolder$History;", true)
  | 2 => ("PlaFolder", "demands", "LPlaFolder$Demands;", true)
  | 3 => ("PlaFolder", "rows", "LPlaFolder$RowOrder;", true)
  | 4 => ("PlaFolder", "best", "LPlaFolder$BestFolding;", true)
  | _ => ("PlaFolder", "errors", "[I", true)
def tyX5 : Nat → FieldType := fun k => match k with
  | 0 => .object "PlaFolder$State"
  | 1 => .object "PlaFolder$History"
  | 2 => .object "PlaFolder$Demands"
  | 3 => .object "PlaFolder$RowOrder"
  | 4 => .object "PlaFolder$BestFolding"
  | _ => .array .int
abbrev wsX50 : List Cond := u_ws RX5 TX5 6
theorem nmX5 : ∀ a, a < 6 → ∀ b, b < 6 → a ≠ b → (TX5 a).2.1 ≠ (TX5 b).2.1 := by decide +kernel
theorem tyX5_ok : ∀ k, k < 6 → parseFieldDescriptor (TX5 k).2.2.1 = some (tyX5 k) := by decide +kernel
abbrev cX5_init : ByteArray := prog_1_method_1_code
def yX5_init : MethodName := ⟨RX5, "<init>", "()V"⟩
abbrev cX5_setSize : ByteArray := prog_1_method_2_code
def yX5_setSize : MethodName := ⟨RX5, "setSize", "(II)I"⟩
abbrev cX5_addTerm : ByteArray := prog_1_method_3_code
def yX5_addTerm : MethodName := ⟨RX5, "addTerm", "(III)I"⟩
abbrev cX5_removeTerm : ByteArray := prog_1_method_4_code
def yX5_removeTerm : MethodName := ⟨RX5, "removeTerm", "(I)I"⟩
abbrev cX5_terms : ByteArray := prog_1_method_5_code
def yX5_terms : MethodName := ⟨RX5, "terms", "()I"⟩
abbrev cX5_literals : ByteArray := prog_1_method_6_code
def yX5_literals : MethodName := ⟨RX5, "literals", "(I)I"⟩
abbrev cX5_evaluate : ByteArray := prog_1_method_7_code
def yX5_evaluate : MethodName := ⟨RX5, "evaluate", "(I)I"⟩
abbrev cX5_onCount : ByteArray := prog_1_method_8_code
def yX5_onCount : MethodName := ⟨RX5, "onCount", "(I)I"⟩
abbrev cX5_isRedundant : ByteArray := prog_1_method_9_code
def yX5_isRedundant : MethodName := ⟨RX5, "isRedundant", "(I)I"⟩
abbrev cX5_removeRedundant : ByteArray := prog_1_method_10_code
def yX5_removeRedundant : MethodName := ⟨RX5, "removeRedundant", "()I"⟩
abbrev cX5_uses : ByteArray := prog_1_method_11_code
def yX5_uses : MethodName := ⟨RX5, "uses", "(I)I"⟩
abbrev cX5_canFold : ByteArray := prog_1_method_12_code
def yX5_canFold : MethodName := ⟨RX5, "canFold", "(II)I"⟩
abbrev cX5_fold : ByteArray := prog_1_method_13_code
def yX5_fold : MethodName := ⟨RX5, "fold", "(II)I"⟩
abbrev cX5_unfold : ByteArray := prog_1_method_14_code
def yX5_unfold : MethodName := ⟨RX5, "unfold", "(I)I"⟩
abbrev cX5_partner : ByteArray := prog_1_method_15_code
def yX5_partner : MethodName := ⟨RX5, "partner", "(I)I"⟩
abbrev cX5_folds : ByteArray := prog_1_method_16_code
def yX5_folds : MethodName := ⟨RX5, "folds", "()I"⟩
abbrev cX5_termAt : ByteArray := prog_1_method_17_code
def yX5_termAt : MethodName := ⟨RX5, "termAt", "(I)I"⟩
abbrev cX5_rowOf : ByteArray := prog_1_method_18_code
def yX5_rowOf : MethodName := ⟨RX5, "rowOf", "(I)I"⟩
abbrev cX5_mustPrecede : ByteArray := prog_1_method_19_code
def yX5_mustPrecede : MethodName := ⟨RX5, "mustPrecede", "(II)I"⟩
abbrev cX5_area : ByteArray := prog_1_method_20_code
def yX5_area : MethodName := ⟨RX5, "area", "()I"⟩
abbrev cX5_span : ByteArray := prog_1_method_21_code
def yX5_span : MethodName := ⟨RX5, "span", "(I)I"⟩
abbrev cX5_bestUpper : ByteArray := prog_1_method_22_code
def yX5_bestUpper : MethodName := ⟨RX5, "bestUpper", "(I)I"⟩
abbrev cX5_bestLower : ByteArray := prog_1_method_23_code
def yX5_bestLower : MethodName := ⟨RX5, "bestLower", "(I)I"⟩
abbrev cX5_foldBest : ByteArray := prog_1_method_24_code
def yX5_foldBest : MethodName := ⟨RX5, "foldBest", "()I"⟩
abbrev cX5_undo : ByteArray := prog_1_method_25_code
def yX5_undo : MethodName := ⟨RX5, "undo", "()I"⟩
abbrev cX5_errorCount : ByteArray := prog_1_method_26_code
def yX5_errorCount : MethodName := ⟨RX5, "errorCount", "(I)I"⟩
abbrev cX5_digest : ByteArray := prog_1_method_27_code
def yX5_digest : MethodName := ⟨RX5, "digest", "()J"⟩
abbrev cX5_mixTerms : ByteArray := prog_1_method_28_code
def yX5_mixTerms : MethodName := ⟨RX5, "mixTerms", "(J)J"⟩
abbrev cX5_mixColumns : ByteArray := prog_1_method_29_code
def yX5_mixColumns : MethodName := ⟨RX5, "mixColumns", "(J)J"⟩
abbrev cX5_mixBest : ByteArray := prog_1_method_30_code
def yX5_mixBest : MethodName := ⟨RX5, "mixBest", "(J)J"⟩
abbrev cX5_fail : ByteArray := prog_1_method_31_code
def yX5_fail : MethodName := ⟨RX5, "fail", "(I)I"⟩
abbrev cX5_termsChanged : ByteArray := prog_1_method_32_code
def yX5_termsChanged : MethodName := ⟨RX5, "termsChanged", "()V"⟩
abbrev cX5_foldsChanged : ByteArray := prog_1_method_33_code
def yX5_foldsChanged : MethodName := ⟨RX5, "foldsChanged", "()V"⟩
abbrev cX5_findBest : ByteArray := prog_1_method_34_code
def yX5_findBest : MethodName := ⟨RX5, "findBest", "()V"⟩
abbrev cX5_mix : ByteArray := prog_1_method_35_code
def yX5_mix : MethodName := ⟨RX5, "mix", "(JJ)J"⟩
abbrev cX5_flag : ByteArray := prog_1_method_36_code
def yX5_flag : MethodName := ⟨RX5, "flag", "(Z)I"⟩
abbrev cX5_contains : ByteArray := prog_1_method_37_code
def yX5_contains : MethodName := ⟨RX5, "contains", "(II)Z"⟩
def RX6 : String := "PlaFolderModel"
def TX6 : u_T := fun k => match k with
  | 0 => ("PlaFolderModel", "now", "[I", true)
  | 1 => ("PlaFolderModel", "past", "[I", true)
  | 2 => ("PlaFolderModel", "states", "I", false)
  | 3 => ("PlaFolderModel", "errors", "[I", true)
  | 4 => ("PlaFolderModel", "used", "[I", true)
  | 5 => ("PlaFolderModel", "under", "[I", true)
  | 6 => ("PlaFolderModel", "order", "[I", true)
  | 7 => ("PlaFolderModel", "list", "[I", true)
  | 8 => ("PlaFolderModel", "listMany", "I", false)
  | _ => ("PlaFolderModel", "hash", "J", false)
def tyX6 : Nat → FieldType := fun k => match k with
  | 0 => .array .int
  | 1 => .array .int
  | 2 => .int
  | 3 => .array .int
  | 4 => .array .int
  | 5 => .array .int
  | 6 => .array .int
  | 7 => .array .int
  | 8 => .int
  | _ => .long
abbrev wsX60 : List Cond := u_ws RX6 TX6 10
theorem nmX6 : ∀ a, a < 10 → ∀ b, b < 10 → a ≠ b → (TX6 a).2.1 ≠ (TX6 b).2.1 := by decide +kernel
theorem tyX6_ok : ∀ k, k < 10 → parseFieldDescriptor (TX6 k).2.2.1 = some (tyX6 k) := by decide +kernel
abbrev cX6_init : ByteArray := prog_8_method_1_code
def yX6_init : MethodName := ⟨RX6, "<init>", "()V"⟩
abbrev cX6_in : ByteArray := prog_8_method_3_code
def yX6_in : MethodName := ⟨RX6, "in", "(III)Z"⟩
abbrev cX6_has : ByteArray := prog_8_method_4_code
def yX6_has : MethodName := ⟨RX6, "has", "(II)Z"⟩
abbrev cX6_many : ByteArray := prog_8_method_5_code
def yX6_many : MethodName := ⟨RX6, "many", "(I)I"⟩
abbrev cX6_error : ByteArray := prog_8_method_6_code
def yX6_error : MethodName := ⟨RX6, "error", "(I)I"⟩
abbrev cX6_isTerm : ByteArray := prog_8_method_7_code
def yX6_isTerm : MethodName := ⟨RX6, "isTerm", "(I)Z"⟩
abbrev cX6_isColumn : ByteArray := prog_8_method_8_code
def yX6_isColumn : MethodName := ⟨RX6, "isColumn", "(I)Z"⟩
abbrev cX6_noFolds : ByteArray := prog_8_method_9_code
def yX6_noFolds : MethodName := ⟨RX6, "noFolds", "()V"⟩
abbrev cX6_save : ByteArray := prog_8_method_10_code
def yX6_save : MethodName := ⟨RX6, "save", "()V"⟩
abbrev cX6_undo : ByteArray := prog_8_method_11_code
def yX6_undo : MethodName := ⟨RX6, "undo", "()I"⟩
abbrev cX6_setSize : ByteArray := prog_8_method_12_code
def yX6_setSize : MethodName := ⟨RX6, "setSize", "(II)I"⟩
abbrev cX6_isSet : ByteArray := prog_8_method_13_code
def yX6_isSet : MethodName := ⟨RX6, "isSet", "(II)Z"⟩
abbrev cX6_addTerm : ByteArray := prog_8_method_14_code
def yX6_addTerm : MethodName := ⟨RX6, "addTerm", "(III)I"⟩
abbrev cX6_drop : ByteArray := prog_8_method_15_code
def yX6_drop : MethodName := ⟨RX6, "drop", "(I)V"⟩
abbrev cX6_removeTerm : ByteArray := prog_8_method_16_code
def yX6_removeTerm : MethodName := ⟨RX6, "removeTerm", "(I)I"⟩
abbrev cX6_terms : ByteArray := prog_8_method_17_code
def yX6_terms : MethodName := ⟨RX6, "terms", "()I"⟩
abbrev cX6_literals : ByteArray := prog_8_method_18_code
def yX6_literals : MethodName := ⟨RX6, "literals", "(I)I"⟩
abbrev cX6_outputs : ByteArray := prog_8_method_19_code
def yX6_outputs : MethodName := ⟨RX6, "outputs", "(II)I"⟩
abbrev cX6_words : ByteArray := prog_8_method_20_code
def yX6_words : MethodName := ⟨RX6, "words", "()I"⟩
abbrev cX6_evaluate : ByteArray := prog_8_method_21_code
def yX6_evaluate : MethodName := ⟨RX6, "evaluate", "(I)I"⟩
abbrev cX6_onCount : ByteArray := prog_8_method_22_code
def yX6_onCount : MethodName := ⟨RX6, "onCount", "(I)I"⟩
abbrev cX6_redundant : ByteArray := prog_8_method_23_code
def yX6_redundant : MethodName := ⟨RX6, "redundant", "(I)Z"⟩
abbrev cX6_isRedundant : ByteArray := prog_8_method_24_code
def yX6_isRedundant : MethodName := ⟨RX6, "isRedundant", "(I)I"⟩
abbrev cX6_removeRedundant : ByteArray := prog_8_method_25_code
def yX6_removeRedundant : MethodName := ⟨RX6, "removeRedundant", "()I"⟩
abbrev cX6_usedBy : ByteArray := prog_8_method_26_code
def yX6_usedBy : MethodName := ⟨RX6, "usedBy", "(I)I"⟩
abbrev cX6_layUsed : ByteArray := prog_8_method_27_code
def yX6_layUsed : MethodName := ⟨RX6, "layUsed", "()V"⟩
abbrev cX6_uses : ByteArray := prog_8_method_28_code
def yX6_uses : MethodName := ⟨RX6, "uses", "(I)I"⟩
abbrev cX6_fits : ByteArray := prog_8_method_29_code
def yX6_fits : MethodName := ⟨RX6, "fits", "(II)Z"⟩
abbrev cX6_canFold : ByteArray := prog_8_method_30_code
def yX6_canFold : MethodName := ⟨RX6, "canFold", "(II)I"⟩
abbrev cX6_noDemands : ByteArray := prog_8_method_31_code
def yX6_noDemands : MethodName := ⟨RX6, "noDemands", "()V"⟩
abbrev cX6_demand : ByteArray := prog_8_method_32_code
def yX6_demand : MethodName := ⟨RX6, "demand", "(II)V"⟩
abbrev cX6_layDemands : ByteArray := prog_8_method_33_code
def yX6_layDemands : MethodName := ⟨RX6, "layDemands", "()V"⟩
abbrev cX6_layRows : ByteArray := prog_8_method_34_code
def yX6_layRows : MethodName := ⟨RX6, "layRows", "()Z"⟩
abbrev cX6_isFolded : ByteArray := prog_8_method_35_code
def yX6_isFolded : MethodName := ⟨RX6, "isFolded", "(I)Z"⟩
abbrev cX6_foldMany : ByteArray := prog_8_method_36_code
def yX6_foldMany : MethodName := ⟨RX6, "foldMany", "()I"⟩
abbrev cX6_fold : ByteArray := prog_8_method_37_code
def yX6_fold : MethodName := ⟨RX6, "fold", "(II)I"⟩
abbrev cX6_partnerOf : ByteArray := prog_8_method_38_code
def yX6_partnerOf : MethodName := ⟨RX6, "partnerOf", "(I)I"⟩
abbrev cX6_apart : ByteArray := prog_8_method_39_code
def yX6_apart : MethodName := ⟨RX6, "apart", "(I)V"⟩
abbrev cX6_unfold : ByteArray := prog_8_method_40_code
def yX6_unfold : MethodName := ⟨RX6, "unfold", "(I)I"⟩
abbrev cX6_partner : ByteArray := prog_8_method_41_code
def yX6_partner : MethodName := ⟨RX6, "partner", "(I)I"⟩
abbrev cX6_folds : ByteArray := prog_8_method_42_code
def yX6_folds : MethodName := ⟨RX6, "folds", "()I"⟩
abbrev cX6_lay : ByteArray := prog_8_method_43_code
def yX6_lay : MethodName := ⟨RX6, "lay", "()V"⟩
abbrev cX6_rowAt : ByteArray := prog_8_method_44_code
def yX6_rowAt : MethodName := ⟨RX6, "rowAt", "(I)I"⟩
abbrev cX6_termAt : ByteArray := prog_8_method_45_code
def yX6_termAt : MethodName := ⟨RX6, "termAt", "(I)I"⟩
abbrev cX6_rowOf : ByteArray := prog_8_method_46_code
def yX6_rowOf : MethodName := ⟨RX6, "rowOf", "(I)I"⟩
abbrev cX6_mustPrecede : ByteArray := prog_8_method_47_code
def yX6_mustPrecede : MethodName := ⟨RX6, "mustPrecede", "(II)I"⟩
abbrev cX6_areaNow : ByteArray := prog_8_method_48_code
def yX6_areaNow : MethodName := ⟨RX6, "areaNow", "()I"⟩
abbrev cX6_area : ByteArray := prog_8_method_49_code
def yX6_area : MethodName := ⟨RX6, "area", "()I"⟩
abbrev cX6_spanOf : ByteArray := prog_8_method_50_code
def yX6_spanOf : MethodName := ⟨RX6, "spanOf", "(I)I"⟩
abbrev cX6_span : ByteArray := prog_8_method_51_code
def yX6_span : MethodName := ⟨RX6, "span", "(I)I"⟩
abbrev cX6_mayStand : ByteArray := prog_8_method_52_code
def yX6_mayStand : MethodName := ⟨RX6, "mayStand", "(I)Z"⟩
abbrev cX6_findList : ByteArray := prog_8_method_53_code
def yX6_findList : MethodName := ⟨RX6, "findList", "(I)Z"⟩
abbrev cX6_findBest : ByteArray := prog_8_method_54_code
def yX6_findBest : MethodName := ⟨RX6, "findBest", "()V"⟩
abbrev cX6_bestUpper : ByteArray := prog_8_method_55_code
def yX6_bestUpper : MethodName := ⟨RX6, "bestUpper", "(I)I"⟩
abbrev cX6_bestLower : ByteArray := prog_8_method_56_code
def yX6_bestLower : MethodName := ⟨RX6, "bestLower", "(I)I"⟩
abbrev cX6_foldBest : ByteArray := prog_8_method_57_code
def yX6_foldBest : MethodName := ⟨RX6, "foldBest", "()I"⟩
abbrev cX6_errorCount : ByteArray := prog_8_method_58_code
def yX6_errorCount : MethodName := ⟨RX6, "errorCount", "(I)I"⟩
abbrev cX6_mix : ByteArray := prog_8_method_59_code
def yX6_mix : MethodName := ⟨RX6, "mix", "(J)V"⟩
abbrev cX6_mixTerms : ByteArray := prog_8_method_60_code
def yX6_mixTerms : MethodName := ⟨RX6, "mixTerms", "()V"⟩
abbrev cX6_digest : ByteArray := prog_8_method_61_code
def yX6_digest : MethodName := ⟨RX6, "digest", "()J"⟩
def RJ6 : String := "java/lang/Integer"
def TJ6 : u_T := fun k => match k with
  | _ => ("", "", "", false)
def tyJ6 : Nat → FieldType := fun k => match k with
  | _ => .int
abbrev wsJ60 : List Cond := u_ws RJ6 TJ6 0
theorem nmJ6 : ∀ a, a < 0 → ∀ b, b < 0 → a ≠ b → (TJ6 a).2.1 ≠ (TJ6 b).2.1 := by decide +kernel
theorem tyJ6_ok : ∀ k, k < 0 → parseFieldDescriptor (TJ6 k).2.2.1 = some (tyJ6 k) := by decide +kernel
abbrev cJ6_bitCount_0f7a4 : ByteArray := prog_9_method_49_code
def yJ6_bitCount_0f7a4 : MethodName := ⟨RJ6, "bitCount", "(I)I"⟩
def RJ13 : String := "java/lang/Long"
def TJ13 : u_T := fun k => match k with
  | _ => ("", "", "", false)
def tyJ13 : Nat → FieldType := fun k => match k with
  | _ => .int
abbrev wsJ130 : List Cond := u_ws RJ13 TJ13 0
theorem nmJ13 : ∀ a, a < 0 → ∀ b, b < 0 → a ≠ b → (TJ13 a).2.1 ≠ (TJ13 b).2.1 := by decide +kernel
theorem tyJ13_ok : ∀ k, k < 0 → parseFieldDescriptor (TJ13 k).2.2.1 = some (tyJ13 k) := by decide +kernel
abbrev cJ13_bitCount_95d88 : ByteArray := prog_10_method_50_code
def yJ13_bitCount_95d88 : MethodName := ⟨RJ13, "bitCount", "(J)I"⟩
def RJ9 : String := "java/lang/Math"
def TJ9 : u_T := fun k => match k with
  | _ => ("", "", "", false)
def tyJ9 : Nat → FieldType := fun k => match k with
  | _ => .int
abbrev wsJ90 : List Cond := u_ws RJ9 TJ9 0
theorem nmJ9 : ∀ a, a < 0 → ∀ b, b < 0 → a ≠ b → (TJ9 a).2.1 ≠ (TJ9 b).2.1 := by decide +kernel
theorem tyJ9_ok : ∀ k, k < 0 → parseFieldDescriptor (TJ9 k).2.2.1 = some (tyJ9 k) := by decide +kernel
abbrev cJ9_max_7cf53 : ByteArray := prog_11_method_65_code
def yJ9_max_7cf53 : MethodName := ⟨RJ9, "max", "(II)I"⟩
abbrev cJ9_min_7cf53 : ByteArray := prog_11_method_69_code
def yJ9_min_7cf53 : MethodName := ⟨RJ9, "min", "(II)I"⟩
def RJ10 : String := "java/lang/System"
def TJ10 : u_T := fun k => match k with
  | _ => ("", "", "", false)
def tyJ10 : Nat → FieldType := fun k => match k with
  | _ => .int
abbrev wsJ100 : List Cond := u_ws RJ10 TJ10 0
theorem nmJ10 : ∀ a, a < 0 → ∀ b, b < 0 → a ≠ b → (TJ10 a).2.1 ≠ (TJ10 b).2.1 := by decide +kernel
theorem tyJ10_ok : ∀ k, k < 0 → parseFieldDescriptor (TJ10 k).2.2.1 = some (tyJ10 k) := by decide +kernel
def RJ7 : String := "java/util/Arrays"
def TJ7 : u_T := fun k => match k with
  | _ => ("", "", "", false)
def tyJ7 : Nat → FieldType := fun k => match k with
  | _ => .int
abbrev wsJ70 : List Cond := u_ws RJ7 TJ7 0
theorem nmJ7 : ∀ a, a < 0 → ∀ b, b < 0 → a ≠ b → (TJ7 a).2.1 ≠ (TJ7 b).2.1 := by decide +kernel
theorem tyJ7_ok : ∀ k, k < 0 → parseFieldDescriptor (TJ7 k).2.2.1 = some (tyJ7 k) := by decide +kernel
abbrev cJ7_fill_53178 : ByteArray := prog_13_method_103_code
def yJ7_fill_53178 : MethodName := ⟨RJ7, "fill", "([II)V"⟩
def RL : String := "PlaFolderLaw"
abbrev cL_law : ByteArray := code
def yL_law : MethodName := ⟨RL, "law", "([I)Z"⟩
def wsX1_init : List Cond := .code yX1_init cX1_init 1 none :: ([.methodLink RX1 3 objectInit, .instanceMethod objectInit, .code objectInit ⟨#[0xb1]⟩ 1 none, .arrayClass .int, .fieldLink RX1 9 "PlaFolder$Demands" "above" "[I"] ++ wsX10)
def wsX0_init : List Cond := .code yX0_init cX0_init 2 none :: ([.methodLink RX0 3 objectInit, .instanceMethod objectInit, .code objectInit ⟨#[0xb1]⟩ 1 none, .fieldLink RX0 9 "PlaFolder$BestFolding" "known" "Z", .fieldLink RX0 15 "PlaFolder$BestFolding" "count" "I", .arrayClass .int, .fieldLink RX0 19 "PlaFolder$BestFolding" "upper" "[I", .fieldLink RX0 23 "PlaFolder$BestFolding" "lower" "[I", .fieldLink RX0 26 "PlaFolder$BestFolding" "triedUpper" "[I", .fieldLink RX0 29 "PlaFolder$BestFolding" "triedLower" "[I", .fieldLink RX0 32 "PlaFolder$BestFolding" "used" "[I", .fieldLink RX0 35 "PlaFolder$BestFolding" "mates" "[I", .classLink RX0 38 RX1, .fieldLink RX0 40 "PlaFolder$BestFolding" "demandsAt" "[LPlaFolder$Demands;", .instantiable RX1 1, .initialized RX1, .instanceMethod yX1_init, .code yX1_init cX1_init 1 none, .methodLink RX1 3 objectInit, .fieldLink RX1 9 "PlaFolder$Demands" "above" "[I"] ++ wsX00 ++ wsX10)
def wsX5_contains : List Cond := .code yX5_contains cX5_contains 2 (some .boolean) :: ([])
def wsX4_termsOfColumn : List Cond := .code yX4_termsOfColumn cX4_termsOfColumn 5 (some .int) :: ([.fieldLink RX4 18 "PlaFolder$State" "termCount" "I", .fieldLink RX4 24 "PlaFolder$State" "ones" "[I", .fieldLink RX4 28 "PlaFolder$State" "zeros" "[I", .fieldLink RX4 31 "PlaFolder$State" "outs" "[I", .static yX5_contains, .initialized RX5, .code yX5_contains cX5_contains 2 (some .boolean)] ++ wsX40)
def wsX4_hasColumn : List Cond := .code yX4_hasColumn cX4_hasColumn 2 (some .boolean) :: ([.fieldLink RX4 9 "PlaFolder$State" "inputs" "I", .fieldLink RX4 15 "PlaFolder$State" "outputs" "I"] ++ wsX40)
def wsX4_isPair : List Cond := .code yX4_isPair cX4_isPair 4 (some .boolean) :: ([.methodLink RX4 79 yX4_termsOfColumn, .instanceMethod yX4_termsOfColumn, .selects RX4 yX4_termsOfColumn yX4_termsOfColumn, .initialized RX4, .code yX4_termsOfColumn cX4_termsOfColumn 5 (some .int), .fieldLink RX4 18 "PlaFolder$State" "termCount" "I", .fieldLink RX4 24 "PlaFolder$State" "ones" "[I", .fieldLink RX4 28 "PlaFolder$State" "zeros" "[I", .fieldLink RX4 31 "PlaFolder$State" "outs" "[I", .static yX5_contains, .initialized RX5, .code yX5_contains cX5_contains 2 (some .boolean)] ++ wsX40)
def wsX0_matesOf : List Cond := .code yX0_matesOf cX0_matesOf 4 (some .int) :: ([.instanceMethod yX4_hasColumn, .initialized RX4, .selects RX4 yX4_hasColumn yX4_hasColumn, .code yX4_hasColumn cX4_hasColumn 2 (some .boolean), .fieldLink RX4 9 "PlaFolder$State" "inputs" "I", .fieldLink RX4 15 "PlaFolder$State" "outputs" "I", .instanceMethod yX4_isPair, .selects RX4 yX4_isPair yX4_isPair, .code yX4_isPair cX4_isPair 4 (some .boolean), .methodLink RX4 79 yX4_termsOfColumn, .instanceMethod yX4_termsOfColumn, .selects RX4 yX4_termsOfColumn yX4_termsOfColumn, .code yX4_termsOfColumn cX4_termsOfColumn 5 (some .int), .fieldLink RX4 18 "PlaFolder$State" "termCount" "I", .fieldLink RX4 24 "PlaFolder$State" "ones" "[I", .fieldLink RX4 28 "PlaFolder$State" "zeros" "[I", .fieldLink RX4 31 "PlaFolder$State" "outs" "[I", .static yX5_contains, .initialized RX5, .code yX5_contains cX5_contains 2 (some .boolean)] ++ wsX40)
def wsX0_foldableColumns_r1 : List Cond := [Cond.fieldLink RX0 32 "PlaFolder$BestFolding" "used" "[I", Cond.fieldLink RX0 35 "PlaFolder$BestFolding" "mates" "[I", Cond.instanceMethod yX4_termsOfColumn, Cond.initialized RX4, Cond.selects RX4 yX4_termsOfColumn yX4_termsOfColumn, Cond.code yX4_termsOfColumn cX4_termsOfColumn 5 (some .int), Cond.fieldLink RX4 18 "PlaFolder$State" "termCount" "I", Cond.fieldLink RX4 24 "PlaFolder$State" "ones" "[I", Cond.fieldLink RX4 28 "PlaFolder$State" "zeros" "[I", Cond.fieldLink RX4 31 "PlaFolder$State" "outs" "[I", Cond.static yX5_contains, Cond.initialized RX5, Cond.code yX5_contains cX5_contains 2 (some .boolean), Cond.methodLink RX0 59 yX0_matesOf, Cond.static yX0_matesOf, Cond.initialized RX0, Cond.code yX0_matesOf cX0_matesOf 4 (some .int), Cond.instanceMethod yX4_hasColumn, Cond.selects RX4 yX4_hasColumn yX4_hasColumn, Cond.code yX4_hasColumn cX4_hasColumn 2 (some .boolean), Cond.fieldLink RX4 9 "PlaFolder$State" "inputs" "I", Cond.fieldLink RX4 15 "PlaFolder$State" "outputs" "I", Cond.instanceMethod yX4_isPair, Cond.selects RX4 yX4_isPair yX4_isPair]
def wsX0_foldableColumns_r2 : List Cond := [Cond.code yX4_isPair cX4_isPair 4 (some .boolean), Cond.methodLink RX4 79 yX4_termsOfColumn]
def wsX0_foldableColumns : List Cond := .code yX0_foldableColumns cX0_foldableColumns 4 (some .int) :: ((wsX0_foldableColumns_r1 ++ wsX0_foldableColumns_r2) ++ wsX00 ++ wsX40)
def wsX0_keep : List Cond := .code yX0_keep cX0_keep 2 none :: ([.fieldLink RX0 15 "PlaFolder$BestFolding" "count" "I", .fieldLink RX0 26 "PlaFolder$BestFolding" "triedUpper" "[I", .fieldLink RX0 19 "PlaFolder$BestFolding" "upper" "[I", .methodLink RX0 96 arraycopyName, .native arraycopyName, .static arraycopyName, .initialized "java/lang/System", .fieldLink RX0 29 "PlaFolder$BestFolding" "triedLower" "[I", .fieldLink RX0 23 "PlaFolder$BestFolding" "lower" "[I"] ++ wsX00)
def wsJ6_bitCount_0f7a4 : List Cond := .code yJ6_bitCount_0f7a4 cJ6_bitCount_0f7a4 1 (some .int) :: ([.constant RJ6 265 (1431655765), .constant RJ6 266 (858993459), .constant RJ6 267 (252645135)])
def wsX0_mostOfKind : List Cond := .code yX0_mostOfKind cX0_mostOfKind 3 (some .int) :: ([.methodLink RX0 110 Lib.Math.min.name, .static Lib.Math.min.name, .initialized "java/lang/Math", .code Lib.Math.min.name Lib.Math.min.code 2 (some .int), .methodLink RX0 105 yJ6_bitCount_0f7a4, .static yJ6_bitCount_0f7a4, .initialized RJ6, .code yJ6_bitCount_0f7a4 cJ6_bitCount_0f7a4 1 (some .int), .constant RJ6 265 (1431655765), .constant RJ6 266 (858993459), .constant RJ6 267 (252645135)])
def wsX0_mostFolds : List Cond := .code yX0_mostFolds cX0_mostFolds 2 (some .int) :: ([.methodLink RX0 102 yX0_mostOfKind, .static yX0_mostOfKind, .initialized RX0, .code yX0_mostOfKind cX0_mostOfKind 3 (some .int), .methodLink RX0 110 Lib.Math.min.name, .static Lib.Math.min.name, .initialized "java/lang/Math", .code Lib.Math.min.name Lib.Math.min.code 2 (some .int), .methodLink RX0 105 yJ6_bitCount_0f7a4, .static yJ6_bitCount_0f7a4, .initialized RJ6, .code yJ6_bitCount_0f7a4 cJ6_bitCount_0f7a4 1 (some .int), .constant RJ6 265 (1431655765), .constant RJ6 266 (858993459), .constant RJ6 267 (252645135)])
def wsX1_withAllAbove : List Cond := .code yX1_withAllAbove cX1_withAllAbove 4 (some .int) :: ([.fieldLink RX1 9 "PlaFolder$Demands" "above" "[I", .static yX5_contains, .initialized RX5, .code yX5_contains cX5_contains 2 (some .boolean)] ++ wsX10)
def wsX1_allow : List Cond := .code yX1_allow cX1_allow 3 (some .boolean) :: ([.methodLink RX1 47 yX1_withAllAbove, .instanceMethod yX1_withAllAbove, .selects RX1 yX1_withAllAbove yX1_withAllAbove, .initialized RX1, .code yX1_withAllAbove cX1_withAllAbove 4 (some .int), .fieldLink RX1 9 "PlaFolder$Demands" "above" "[I", .static yX5_contains, .initialized RX5, .code yX5_contains cX5_contains 2 (some .boolean)] ++ wsX10)
def wsX1_copyFrom : List Cond := .code yX1_copyFrom cX1_copyFrom 2 none :: ([.fieldLink RX1 9 "PlaFolder$Demands" "above" "[I", .methodLink RX1 21 arraycopyName, .native arraycopyName, .static arraycopyName, .initialized "java/lang/System"] ++ wsX10)
def wsX1_add : List Cond := .code yX1_add cX1_add 5 none :: ([.fieldLink RX1 9 "PlaFolder$Demands" "above" "[I", .methodLink RX1 47 yX1_withAllAbove, .instanceMethod yX1_withAllAbove, .selects RX1 yX1_withAllAbove yX1_withAllAbove, .initialized RX1, .code yX1_withAllAbove cX1_withAllAbove 4 (some .int), .static yX5_contains, .initialized RX5, .code yX5_contains cX5_contains 2 (some .boolean)] ++ wsX10)
def wsX0_extend_r1 : List Cond := [Cond.fieldLink RX0 15 "PlaFolder$BestFolding" "count" "I", Cond.methodLink RX0 71 yX0_keep, Cond.instanceMethod yX0_keep, Cond.selects RX0 yX0_keep yX0_keep, Cond.initialized RX0, Cond.code yX0_keep cX0_keep 2 none, Cond.fieldLink RX0 26 "PlaFolder$BestFolding" "triedUpper" "[I", Cond.fieldLink RX0 19 "PlaFolder$BestFolding" "upper" "[I", Cond.methodLink RX0 96 arraycopyName, Cond.native arraycopyName, Cond.static arraycopyName, Cond.initialized "java/lang/System", Cond.fieldLink RX0 29 "PlaFolder$BestFolding" "triedLower" "[I", Cond.fieldLink RX0 23 "PlaFolder$BestFolding" "lower" "[I", Cond.methodLink RX0 75 yX0_mostFolds, Cond.static yX0_mostFolds, Cond.code yX0_mostFolds cX0_mostFolds 2 (some .int), Cond.methodLink RX0 102 yX0_mostOfKind, Cond.static yX0_mostOfKind, Cond.code yX0_mostOfKind cX0_mostOfKind 3 (some .int), Cond.methodLink RX0 110 Lib.Math.min.name, Cond.static Lib.Math.min.name, Cond.initialized "java/lang/Math", Cond.code Lib.Math.min.name Lib.Math.min.code 2 (some .int)]
def wsX0_extend_r2 : List Cond := [Cond.methodLink RX0 105 yJ6_bitCount_0f7a4, Cond.static yJ6_bitCount_0f7a4, Cond.initialized RJ6, Cond.code yJ6_bitCount_0f7a4 cJ6_bitCount_0f7a4 1 (some .int), Cond.constant RJ6 265 (1431655765), Cond.constant RJ6 266 (858993459), Cond.constant RJ6 267 (252645135), Cond.static yX5_contains, Cond.initialized RX5, Cond.code yX5_contains cX5_contains 2 (some .boolean), Cond.methodLink RX0 82 yX0_tryLowers, Cond.instanceMethod yX0_tryLowers, Cond.selects RX0 yX0_tryLowers yX0_tryLowers, Cond.code yX0_tryLowers cX0_tryLowers 6 none, Cond.fieldLink RX0 35 "PlaFolder$BestFolding" "mates" "[I", Cond.fieldLink RX0 40 "PlaFolder$BestFolding" "demandsAt" "[LPlaFolder$Demands;", Cond.fieldLink RX0 32 "PlaFolder$BestFolding" "used" "[I", Cond.instanceMethod yX1_allow, Cond.initialized RX1, Cond.selects RX1 yX1_allow yX1_allow, Cond.code yX1_allow cX1_allow 3 (some .boolean), Cond.methodLink RX1 47 yX1_withAllAbove, Cond.instanceMethod yX1_withAllAbove, Cond.selects RX1 yX1_withAllAbove yX1_withAllAbove]
def wsX0_extend_r3 : List Cond := [Cond.code yX1_withAllAbove cX1_withAllAbove 4 (some .int), Cond.fieldLink RX1 9 "PlaFolder$Demands" "above" "[I", Cond.instanceMethod yX1_copyFrom, Cond.selects RX1 yX1_copyFrom yX1_copyFrom, Cond.code yX1_copyFrom cX1_copyFrom 2 none, Cond.methodLink RX1 21 arraycopyName, Cond.instanceMethod yX1_add, Cond.selects RX1 yX1_add yX1_add, Cond.code yX1_add cX1_add 5 none, Cond.methodLink RX0 49 yX0_extend, Cond.instanceMethod yX0_extend, Cond.selects RX0 yX0_extend yX0_extend]
def wsX0_extend : List Cond := .code yX0_extend cX0_extend 5 none :: ((wsX0_extend_r1 ++ (wsX0_extend_r2 ++ wsX0_extend_r3)) ++ wsX00 ++ wsX10)
def wsX0_tryLowers_r1 : List Cond := [Cond.fieldLink RX0 35 "PlaFolder$BestFolding" "mates" "[I", Cond.fieldLink RX0 40 "PlaFolder$BestFolding" "demandsAt" "[LPlaFolder$Demands;", Cond.fieldLink RX0 32 "PlaFolder$BestFolding" "used" "[I", Cond.fieldLink RX0 26 "PlaFolder$BestFolding" "triedUpper" "[I", Cond.fieldLink RX0 29 "PlaFolder$BestFolding" "triedLower" "[I", Cond.static yX5_contains, Cond.initialized RX5, Cond.code yX5_contains cX5_contains 2 (some .boolean), Cond.instanceMethod yX1_allow, Cond.initialized RX1, Cond.selects RX1 yX1_allow yX1_allow, Cond.code yX1_allow cX1_allow 3 (some .boolean), Cond.methodLink RX1 47 yX1_withAllAbove, Cond.instanceMethod yX1_withAllAbove, Cond.selects RX1 yX1_withAllAbove yX1_withAllAbove, Cond.code yX1_withAllAbove cX1_withAllAbove 4 (some .int), Cond.fieldLink RX1 9 "PlaFolder$Demands" "above" "[I", Cond.instanceMethod yX1_copyFrom, Cond.selects RX1 yX1_copyFrom yX1_copyFrom, Cond.code yX1_copyFrom cX1_copyFrom 2 none, Cond.methodLink RX1 21 arraycopyName, Cond.native arraycopyName, Cond.static arraycopyName, Cond.initialized "java/lang/System"]
def wsX0_tryLowers_r2 : List Cond := [Cond.instanceMethod yX1_add, Cond.selects RX1 yX1_add yX1_add, Cond.code yX1_add cX1_add 5 none, Cond.methodLink RX0 49 yX0_extend, Cond.instanceMethod yX0_extend, Cond.selects RX0 yX0_extend yX0_extend, Cond.initialized RX0, Cond.code yX0_extend cX0_extend 5 none, Cond.fieldLink RX0 15 "PlaFolder$BestFolding" "count" "I", Cond.methodLink RX0 71 yX0_keep, Cond.instanceMethod yX0_keep, Cond.selects RX0 yX0_keep yX0_keep, Cond.code yX0_keep cX0_keep 2 none, Cond.fieldLink RX0 19 "PlaFolder$BestFolding" "upper" "[I", Cond.methodLink RX0 96 arraycopyName, Cond.fieldLink RX0 23 "PlaFolder$BestFolding" "lower" "[I", Cond.methodLink RX0 75 yX0_mostFolds, Cond.static yX0_mostFolds, Cond.code yX0_mostFolds cX0_mostFolds 2 (some .int), Cond.methodLink RX0 102 yX0_mostOfKind, Cond.static yX0_mostOfKind, Cond.code yX0_mostOfKind cX0_mostOfKind 3 (some .int), Cond.methodLink RX0 110 Lib.Math.min.name, Cond.static Lib.Math.min.name]
def wsX0_tryLowers_r3 : List Cond := [Cond.initialized "java/lang/Math", Cond.code Lib.Math.min.name Lib.Math.min.code 2 (some .int), Cond.methodLink RX0 105 yJ6_bitCount_0f7a4, Cond.static yJ6_bitCount_0f7a4, Cond.initialized RJ6, Cond.code yJ6_bitCount_0f7a4 cJ6_bitCount_0f7a4 1 (some .int), Cond.constant RJ6 265 (1431655765), Cond.constant RJ6 266 (858993459), Cond.constant RJ6 267 (252645135), Cond.methodLink RX0 82 yX0_tryLowers, Cond.instanceMethod yX0_tryLowers, Cond.selects RX0 yX0_tryLowers yX0_tryLowers]
def wsX0_tryLowers : List Cond := .code yX0_tryLowers cX0_tryLowers 6 none :: ((wsX0_tryLowers_r1 ++ (wsX0_tryLowers_r2 ++ wsX0_tryLowers_r3)) ++ wsX00 ++ wsX10)
def wsX0_search_r1 : List Cond := [Cond.fieldLink RX0 15 "PlaFolder$BestFolding" "count" "I", Cond.fieldLink RX0 9 "PlaFolder$BestFolding" "known" "Z", Cond.methodLink RX0 45 yX0_foldableColumns, Cond.instanceMethod yX0_foldableColumns, Cond.selects RX0 yX0_foldableColumns yX0_foldableColumns, Cond.initialized RX0, Cond.code yX0_foldableColumns cX0_foldableColumns 4 (some .int), Cond.fieldLink RX0 32 "PlaFolder$BestFolding" "used" "[I", Cond.fieldLink RX0 35 "PlaFolder$BestFolding" "mates" "[I", Cond.instanceMethod yX4_termsOfColumn, Cond.initialized RX4, Cond.selects RX4 yX4_termsOfColumn yX4_termsOfColumn, Cond.code yX4_termsOfColumn cX4_termsOfColumn 5 (some .int), Cond.fieldLink RX4 18 "PlaFolder$State" "termCount" "I", Cond.fieldLink RX4 24 "PlaFolder$State" "ones" "[I", Cond.fieldLink RX4 28 "PlaFolder$State" "zeros" "[I", Cond.fieldLink RX4 31 "PlaFolder$State" "outs" "[I", Cond.static yX5_contains, Cond.initialized RX5, Cond.code yX5_contains cX5_contains 2 (some .boolean), Cond.methodLink RX0 59 yX0_matesOf, Cond.static yX0_matesOf, Cond.code yX0_matesOf cX0_matesOf 4 (some .int), Cond.instanceMethod yX4_hasColumn]
def wsX0_search_r2 : List Cond := [Cond.selects RX4 yX4_hasColumn yX4_hasColumn, Cond.code yX4_hasColumn cX4_hasColumn 2 (some .boolean), Cond.fieldLink RX4 9 "PlaFolder$State" "inputs" "I", Cond.fieldLink RX4 15 "PlaFolder$State" "outputs" "I", Cond.instanceMethod yX4_isPair, Cond.selects RX4 yX4_isPair yX4_isPair, Cond.code yX4_isPair cX4_isPair 4 (some .boolean), Cond.methodLink RX4 79 yX4_termsOfColumn, Cond.methodLink RX0 49 yX0_extend, Cond.instanceMethod yX0_extend, Cond.selects RX0 yX0_extend yX0_extend, Cond.code yX0_extend cX0_extend 5 none, Cond.methodLink RX0 71 yX0_keep, Cond.instanceMethod yX0_keep, Cond.selects RX0 yX0_keep yX0_keep, Cond.code yX0_keep cX0_keep 2 none, Cond.fieldLink RX0 26 "PlaFolder$BestFolding" "triedUpper" "[I", Cond.fieldLink RX0 19 "PlaFolder$BestFolding" "upper" "[I", Cond.methodLink RX0 96 arraycopyName, Cond.native arraycopyName, Cond.static arraycopyName, Cond.initialized "java/lang/System", Cond.fieldLink RX0 29 "PlaFolder$BestFolding" "triedLower" "[I", Cond.fieldLink RX0 23 "PlaFolder$BestFolding" "lower" "[I"]
def wsX0_search_r3 : List Cond := [Cond.methodLink RX0 75 yX0_mostFolds, Cond.static yX0_mostFolds, Cond.code yX0_mostFolds cX0_mostFolds 2 (some .int), Cond.methodLink RX0 102 yX0_mostOfKind, Cond.static yX0_mostOfKind, Cond.code yX0_mostOfKind cX0_mostOfKind 3 (some .int), Cond.methodLink RX0 110 Lib.Math.min.name, Cond.static Lib.Math.min.name, Cond.initialized "java/lang/Math", Cond.code Lib.Math.min.name Lib.Math.min.code 2 (some .int), Cond.methodLink RX0 105 yJ6_bitCount_0f7a4, Cond.static yJ6_bitCount_0f7a4, Cond.initialized RJ6, Cond.code yJ6_bitCount_0f7a4 cJ6_bitCount_0f7a4 1 (some .int), Cond.constant RJ6 265 (1431655765), Cond.constant RJ6 266 (858993459), Cond.constant RJ6 267 (252645135), Cond.methodLink RX0 82 yX0_tryLowers, Cond.instanceMethod yX0_tryLowers, Cond.selects RX0 yX0_tryLowers yX0_tryLowers, Cond.code yX0_tryLowers cX0_tryLowers 6 none, Cond.fieldLink RX0 40 "PlaFolder$BestFolding" "demandsAt" "[LPlaFolder$Demands;", Cond.instanceMethod yX1_allow, Cond.initialized RX1]
def wsX0_search_r4 : List Cond := [Cond.selects RX1 yX1_allow yX1_allow, Cond.code yX1_allow cX1_allow 3 (some .boolean), Cond.methodLink RX1 47 yX1_withAllAbove, Cond.instanceMethod yX1_withAllAbove, Cond.selects RX1 yX1_withAllAbove yX1_withAllAbove, Cond.code yX1_withAllAbove cX1_withAllAbove 4 (some .int), Cond.fieldLink RX1 9 "PlaFolder$Demands" "above" "[I", Cond.instanceMethod yX1_copyFrom, Cond.selects RX1 yX1_copyFrom yX1_copyFrom, Cond.code yX1_copyFrom cX1_copyFrom 2 none, Cond.methodLink RX1 21 arraycopyName, Cond.instanceMethod yX1_add, Cond.selects RX1 yX1_add yX1_add, Cond.code yX1_add cX1_add 5 none]
def wsX0_search : List Cond := .code yX0_search cX0_search 2 none :: ((wsX0_search_r1 ++ (wsX0_search_r2 ++ (wsX0_search_r3 ++ wsX0_search_r4))) ++ wsX00 ++ wsX40 ++ wsX10)
def wsJ7_fill_53178 : List Cond := .code yJ7_fill_53178 cJ7_fill_53178 4 none :: ([])
def wsX1_clear : List Cond := .code yX1_clear cX1_clear 1 none :: ([.fieldLink RX1 9 "PlaFolder$Demands" "above" "[I", .methodLink RX1 15 yJ7_fill_53178, .static yJ7_fill_53178, .initialized RJ7, .code yJ7_fill_53178 cJ7_fill_53178 4 none] ++ wsX10)
def wsX1_collect_r1 : List Cond := [Cond.methodLink RX1 27 yX1_clear, Cond.instanceMethod yX1_clear, Cond.selects RX1 yX1_clear yX1_clear, Cond.initialized RX1, Cond.code yX1_clear cX1_clear 1 none, Cond.fieldLink RX1 9 "PlaFolder$Demands" "above" "[I", Cond.methodLink RX1 15 yJ7_fill_53178, Cond.static yJ7_fill_53178, Cond.initialized RJ7, Cond.code yJ7_fill_53178 cJ7_fill_53178 4 none, Cond.instanceMethod yX4_termsOfColumn, Cond.initialized RX4, Cond.selects RX4 yX4_termsOfColumn yX4_termsOfColumn, Cond.code yX4_termsOfColumn cX4_termsOfColumn 5 (some .int), Cond.fieldLink RX4 18 "PlaFolder$State" "termCount" "I", Cond.fieldLink RX4 24 "PlaFolder$State" "ones" "[I", Cond.fieldLink RX4 28 "PlaFolder$State" "zeros" "[I", Cond.fieldLink RX4 31 "PlaFolder$State" "outs" "[I", Cond.static yX5_contains, Cond.initialized RX5, Cond.code yX5_contains cX5_contains 2 (some .boolean), Cond.methodLink RX1 39 yX1_add, Cond.instanceMethod yX1_add, Cond.selects RX1 yX1_add yX1_add]
def wsX1_collect_r2 : List Cond := [Cond.code yX1_add cX1_add 5 none, Cond.methodLink RX1 47 yX1_withAllAbove, Cond.instanceMethod yX1_withAllAbove, Cond.selects RX1 yX1_withAllAbove yX1_withAllAbove, Cond.code yX1_withAllAbove cX1_withAllAbove 4 (some .int)]
def wsX1_collect : List Cond := .code yX1_collect cX1_collect 4 none :: ((wsX1_collect_r1 ++ wsX1_collect_r2) ++ wsX40 ++ wsX10)
def wsX4_init : List Cond := .code yX4_init cX4_init 1 none :: ([.methodLink RX4 3 objectInit, .instanceMethod objectInit, .code objectInit ⟨#[0xb1]⟩ 1 none, .fieldLink RX4 9 "PlaFolder$State" "inputs" "I", .fieldLink RX4 15 "PlaFolder$State" "outputs" "I", .fieldLink RX4 18 "PlaFolder$State" "termCount" "I", .fieldLink RX4 21 "PlaFolder$State" "foldCount" "I", .arrayClass .int, .fieldLink RX4 24 "PlaFolder$State" "ones" "[I", .fieldLink RX4 28 "PlaFolder$State" "zeros" "[I", .fieldLink RX4 31 "PlaFolder$State" "outs" "[I", .arrayClass .long, .fieldLink RX4 34 "PlaFolder$State" "words" "[J", .fieldLink RX4 38 "PlaFolder$State" "lowerOf" "[I", .fieldLink RX4 41 "PlaFolder$State" "upperOf" "[I", .methodLink RX4 44 yJ7_fill_53178, .static yJ7_fill_53178, .initialized RJ7, .code yJ7_fill_53178 cJ7_fill_53178 4 none] ++ wsX40)
def wsX2_init_r1 : List Cond := [Cond.methodLink RX2 3 objectInit, Cond.instanceMethod objectInit, Cond.code objectInit ⟨#[0xb1]⟩ 1 none, Cond.classLink RX2 9 RX4, Cond.fieldLink RX2 11 "PlaFolder$History" "saved" "[LPlaFolder$State;", Cond.fieldLink RX2 17 "PlaFolder$History" "count" "I", Cond.instantiable RX4 10, Cond.initialized RX4, Cond.instanceMethod yX4_init, Cond.code yX4_init cX4_init 1 none, Cond.methodLink RX4 3 objectInit, Cond.fieldLink RX4 9 "PlaFolder$State" "inputs" "I", Cond.fieldLink RX4 15 "PlaFolder$State" "outputs" "I", Cond.fieldLink RX4 18 "PlaFolder$State" "termCount" "I", Cond.fieldLink RX4 21 "PlaFolder$State" "foldCount" "I", Cond.arrayClass .int, Cond.fieldLink RX4 24 "PlaFolder$State" "ones" "[I", Cond.fieldLink RX4 28 "PlaFolder$State" "zeros" "[I", Cond.fieldLink RX4 31 "PlaFolder$State" "outs" "[I", Cond.arrayClass .long, Cond.fieldLink RX4 34 "PlaFolder$State" "words" "[J", Cond.fieldLink RX4 38 "PlaFolder$State" "lowerOf" "[I", Cond.fieldLink RX4 41 "PlaFolder$State" "upperOf" "[I", Cond.methodLink RX4 44 yJ7_fill_53178]
def wsX2_init_r2 : List Cond := [Cond.static yJ7_fill_53178, Cond.initialized RJ7, Cond.code yJ7_fill_53178 cJ7_fill_53178 4 none]
def wsX2_init : List Cond := .code yX2_init cX2_init 2 none :: ((wsX2_init_r1 ++ wsX2_init_r2) ++ wsX20 ++ wsX40)
def wsX2_dropOldest : List Cond := .code yX2_dropOldest cX2_dropOldest 3 none :: ([.fieldLink RX2 11 "PlaFolder$History" "saved" "[LPlaFolder$State;", .fieldLink RX2 17 "PlaFolder$History" "count" "I"] ++ wsX20)
def wsX4_copyFrom : List Cond := .code yX4_copyFrom cX4_copyFrom 2 none :: ([.fieldLink RX4 9 "PlaFolder$State" "inputs" "I", .fieldLink RX4 15 "PlaFolder$State" "outputs" "I", .fieldLink RX4 18 "PlaFolder$State" "termCount" "I", .fieldLink RX4 21 "PlaFolder$State" "foldCount" "I", .fieldLink RX4 24 "PlaFolder$State" "ones" "[I", .methodLink RX4 50 arraycopyName, .native arraycopyName, .static arraycopyName, .initialized "java/lang/System", .fieldLink RX4 28 "PlaFolder$State" "zeros" "[I", .fieldLink RX4 31 "PlaFolder$State" "outs" "[I", .fieldLink RX4 34 "PlaFolder$State" "words" "[J", .fieldLink RX4 38 "PlaFolder$State" "lowerOf" "[I", .fieldLink RX4 41 "PlaFolder$State" "upperOf" "[I"] ++ wsX40)
def wsX2_push_r1 : List Cond := [Cond.fieldLink RX2 17 "PlaFolder$History" "count" "I", Cond.fieldLink RX2 11 "PlaFolder$History" "saved" "[LPlaFolder$State;", Cond.methodLink RX2 22 yX2_dropOldest, Cond.instanceMethod yX2_dropOldest, Cond.selects RX2 yX2_dropOldest yX2_dropOldest, Cond.initialized RX2, Cond.code yX2_dropOldest cX2_dropOldest 3 none, Cond.instanceMethod yX4_copyFrom, Cond.initialized RX4, Cond.selects RX4 yX4_copyFrom yX4_copyFrom, Cond.code yX4_copyFrom cX4_copyFrom 2 none, Cond.fieldLink RX4 9 "PlaFolder$State" "inputs" "I", Cond.fieldLink RX4 15 "PlaFolder$State" "outputs" "I", Cond.fieldLink RX4 18 "PlaFolder$State" "termCount" "I", Cond.fieldLink RX4 21 "PlaFolder$State" "foldCount" "I", Cond.fieldLink RX4 24 "PlaFolder$State" "ones" "[I", Cond.methodLink RX4 50 arraycopyName, Cond.native arraycopyName, Cond.static arraycopyName, Cond.initialized "java/lang/System", Cond.fieldLink RX4 28 "PlaFolder$State" "zeros" "[I", Cond.fieldLink RX4 31 "PlaFolder$State" "outs" "[I", Cond.fieldLink RX4 34 "PlaFolder$State" "words" "[J", Cond.fieldLink RX4 38 "PlaFolder$State" "lowerOf" "[I"]
def wsX2_push_r2 : List Cond := [Cond.fieldLink RX4 41 "PlaFolder$State" "upperOf" "[I"]
def wsX2_push : List Cond := .code yX2_push cX2_push 2 none :: ((wsX2_push_r1 ++ wsX2_push_r2) ++ wsX20 ++ wsX40)
def wsX2_pop : List Cond := .code yX2_pop cX2_pop 2 none :: ([.fieldLink RX2 17 "PlaFolder$History" "count" "I", .fieldLink RX2 11 "PlaFolder$History" "saved" "[LPlaFolder$State;", .instanceMethod yX4_copyFrom, .initialized RX4, .selects RX4 yX4_copyFrom yX4_copyFrom, .code yX4_copyFrom cX4_copyFrom 2 none, .fieldLink RX4 9 "PlaFolder$State" "inputs" "I", .fieldLink RX4 15 "PlaFolder$State" "outputs" "I", .fieldLink RX4 18 "PlaFolder$State" "termCount" "I", .fieldLink RX4 21 "PlaFolder$State" "foldCount" "I", .fieldLink RX4 24 "PlaFolder$State" "ones" "[I", .methodLink RX4 50 arraycopyName, .native arraycopyName, .static arraycopyName, .initialized "java/lang/System", .fieldLink RX4 28 "PlaFolder$State" "zeros" "[I", .fieldLink RX4 31 "PlaFolder$State" "outs" "[I", .fieldLink RX4 34 "PlaFolder$State" "words" "[J", .fieldLink RX4 38 "PlaFolder$State" "lowerOf" "[I", .fieldLink RX4 41 "PlaFolder$State" "upperOf" "[I"] ++ wsX20 ++ wsX40)
def wsX3_init : List Cond := .code yX3_init cX3_init 1 none :: ([.methodLink RX3 3 objectInit, .instanceMethod objectInit, .code objectInit ⟨#[0xb1]⟩ 1 none, .arrayClass .int, .fieldLink RX3 9 "PlaFolder$RowOrder" "termInRow" "[I", .fieldLink RX3 15 "PlaFolder$RowOrder" "rowOfTerm" "[I"] ++ wsX30)
def wsX3_nextTerm : List Cond := .code yX3_nextTerm cX3_nextTerm 4 (some .int) :: ([.static yX5_contains, .initialized RX5, .code yX5_contains cX5_contains 2 (some .boolean)] ++ wsX10)
def wsX3_build : List Cond := .code yX3_build cX3_build 6 none :: ([.fieldLink RX3 9 "PlaFolder$RowOrder" "termInRow" "[I", .fieldLink RX3 15 "PlaFolder$RowOrder" "rowOfTerm" "[I", .methodLink RX3 18 yX3_nextTerm, .static yX3_nextTerm, .initialized RX3, .code yX3_nextTerm cX3_nextTerm 4 (some .int), .static yX5_contains, .initialized RX5, .code yX5_contains cX5_contains 2 (some .boolean)] ++ wsX30 ++ wsX10)
def wsX3_spread : List Cond := .code yX3_spread cX3_spread 6 (some .int) :: ([.fieldLink RX3 15 "PlaFolder$RowOrder" "rowOfTerm" "[I", .methodLink RX3 31 Lib.Math.min.name, .static Lib.Math.min.name, .initialized "java/lang/Math", .code Lib.Math.min.name Lib.Math.min.code 2 (some .int), .methodLink RX3 37 Lib.Math.max.name, .static Lib.Math.max.name, .code Lib.Math.max.name Lib.Math.max.code 2 (some .int), .static yX5_contains, .initialized RX5, .code yX5_contains cX5_contains 2 (some .boolean)] ++ wsX30)
def wsX4_partAll : List Cond := .code yX4_partAll cX4_partAll 1 none :: ([.fieldLink RX4 38 "PlaFolder$State" "lowerOf" "[I", .fieldLink RX4 41 "PlaFolder$State" "upperOf" "[I", .fieldLink RX4 21 "PlaFolder$State" "foldCount" "I", .methodLink RX4 44 yJ7_fill_53178, .static yJ7_fill_53178, .initialized RJ7, .code yJ7_fill_53178 cJ7_fill_53178 4 none] ++ wsX40)
def wsX4_resize : List Cond := .code yX4_resize cX4_resize 3 none :: ([.fieldLink RX4 9 "PlaFolder$State" "inputs" "I", .fieldLink RX4 15 "PlaFolder$State" "outputs" "I", .fieldLink RX4 18 "PlaFolder$State" "termCount" "I", .methodLink RX4 56 yX4_partAll, .instanceMethod yX4_partAll, .selects RX4 yX4_partAll yX4_partAll, .initialized RX4, .code yX4_partAll cX4_partAll 1 none, .fieldLink RX4 38 "PlaFolder$State" "lowerOf" "[I", .fieldLink RX4 41 "PlaFolder$State" "upperOf" "[I", .fieldLink RX4 21 "PlaFolder$State" "foldCount" "I", .methodLink RX4 44 yJ7_fill_53178, .static yJ7_fill_53178, .initialized RJ7, .code yJ7_fill_53178 cJ7_fill_53178 4 none] ++ wsX40)
def wsX4_hasTerm : List Cond := .code yX4_hasTerm cX4_hasTerm 2 (some .boolean) :: ([.fieldLink RX4 18 "PlaFolder$State" "termCount" "I"] ++ wsX40)
def wsX4_takesTerm : List Cond := .code yX4_takesTerm cX4_takesTerm 6 (some .boolean) :: ([.fieldLink RX4 9 "PlaFolder$State" "inputs" "I", .fieldLink RX4 15 "PlaFolder$State" "outputs" "I"] ++ wsX40)
def wsX4_allWords : List Cond := .code yX4_allWords cX4_allWords 1 (some .long) :: ([.fieldLink RX4 9 "PlaFolder$State" "inputs" "I", .constantLong RX4 74 (-1)] ++ wsX40)
def wsX4_wordsOfTerm : List Cond := .code yX4_wordsOfTerm cX4_wordsOfTerm 6 (some .long) :: ([.fieldLink RX4 9 "PlaFolder$State" "inputs" "I", .constantLong RX4 74 (-1), .methodLink RX4 63 yX4_allWords, .instanceMethod yX4_allWords, .selects RX4 yX4_allWords yX4_allWords, .initialized RX4, .code yX4_allWords cX4_allWords 1 (some .long), .static yX5_contains, .initialized RX5, .code yX5_contains cX5_contains 2 (some .boolean)] ++ wsX40)
def wsX4_appendTerm_r1 : List Cond := [Cond.fieldLink RX4 18 "PlaFolder$State" "termCount" "I", Cond.fieldLink RX4 24 "PlaFolder$State" "ones" "[I", Cond.fieldLink RX4 28 "PlaFolder$State" "zeros" "[I", Cond.fieldLink RX4 31 "PlaFolder$State" "outs" "[I", Cond.fieldLink RX4 34 "PlaFolder$State" "words" "[J", Cond.methodLink RX4 59 yX4_wordsOfTerm, Cond.instanceMethod yX4_wordsOfTerm, Cond.selects RX4 yX4_wordsOfTerm yX4_wordsOfTerm, Cond.initialized RX4, Cond.code yX4_wordsOfTerm cX4_wordsOfTerm 6 (some .long), Cond.fieldLink RX4 9 "PlaFolder$State" "inputs" "I", Cond.constantLong RX4 74 (-1), Cond.methodLink RX4 63 yX4_allWords, Cond.instanceMethod yX4_allWords, Cond.selects RX4 yX4_allWords yX4_allWords, Cond.code yX4_allWords cX4_allWords 1 (some .long), Cond.static yX5_contains, Cond.initialized RX5, Cond.code yX5_contains cX5_contains 2 (some .boolean), Cond.methodLink RX4 56 yX4_partAll, Cond.instanceMethod yX4_partAll, Cond.selects RX4 yX4_partAll yX4_partAll, Cond.code yX4_partAll cX4_partAll 1 none, Cond.fieldLink RX4 38 "PlaFolder$State" "lowerOf" "[I"]
def wsX4_appendTerm_r2 : List Cond := [Cond.fieldLink RX4 41 "PlaFolder$State" "upperOf" "[I", Cond.fieldLink RX4 21 "PlaFolder$State" "foldCount" "I", Cond.methodLink RX4 44 yJ7_fill_53178, Cond.static yJ7_fill_53178, Cond.initialized RJ7, Cond.code yJ7_fill_53178 cJ7_fill_53178 4 none]
def wsX4_appendTerm : List Cond := .code yX4_appendTerm cX4_appendTerm 4 none :: ((wsX4_appendTerm_r1 ++ wsX4_appendTerm_r2) ++ wsX40)
def wsX4_dropTerm : List Cond := .code yX4_dropTerm cX4_dropTerm 3 none :: ([.fieldLink RX4 18 "PlaFolder$State" "termCount" "I", .fieldLink RX4 24 "PlaFolder$State" "ones" "[I", .fieldLink RX4 28 "PlaFolder$State" "zeros" "[I", .fieldLink RX4 31 "PlaFolder$State" "outs" "[I", .fieldLink RX4 34 "PlaFolder$State" "words" "[J", .methodLink RX4 56 yX4_partAll, .instanceMethod yX4_partAll, .selects RX4 yX4_partAll yX4_partAll, .initialized RX4, .code yX4_partAll cX4_partAll 1 none, .fieldLink RX4 38 "PlaFolder$State" "lowerOf" "[I", .fieldLink RX4 41 "PlaFolder$State" "upperOf" "[I", .fieldLink RX4 21 "PlaFolder$State" "foldCount" "I", .methodLink RX4 44 yJ7_fill_53178, .static yJ7_fill_53178, .initialized RJ7, .code yJ7_fill_53178 cJ7_fill_53178 4 none] ++ wsX40)
def wsX4_outputWord : List Cond := .code yX4_outputWord cX4_outputWord 4 (some .int) :: ([.fieldLink RX4 18 "PlaFolder$State" "termCount" "I", .fieldLink RX4 34 "PlaFolder$State" "words" "[J", .fieldLink RX4 31 "PlaFolder$State" "outs" "[I"] ++ wsX40)
def wsX4_wordsOfOutput : List Cond := .code yX4_wordsOfOutput cX4_wordsOfOutput 6 (some .long) :: ([.fieldLink RX4 18 "PlaFolder$State" "termCount" "I", .fieldLink RX4 31 "PlaFolder$State" "outs" "[I", .fieldLink RX4 34 "PlaFolder$State" "words" "[J", .static yX5_contains, .initialized RX5, .code yX5_contains cX5_contains 2 (some .boolean)] ++ wsX40)
def wsX4_isSpare : List Cond := .code yX4_isSpare cX4_isSpare 3 (some .boolean) :: ([.fieldLink RX4 15 "PlaFolder$State" "outputs" "I", .fieldLink RX4 31 "PlaFolder$State" "outs" "[I", .fieldLink RX4 34 "PlaFolder$State" "words" "[J", .constantLong RX4 74 (-1), .static yX5_contains, .initialized RX5, .code yX5_contains cX5_contains 2 (some .boolean), .methodLink RX4 76 yX4_wordsOfOutput, .instanceMethod yX4_wordsOfOutput, .selects RX4 yX4_wordsOfOutput yX4_wordsOfOutput, .initialized RX4, .code yX4_wordsOfOutput cX4_wordsOfOutput 6 (some .long), .fieldLink RX4 18 "PlaFolder$State" "termCount" "I"] ++ wsX40)
def wsX4_mateOf : List Cond := .code yX4_mateOf cX4_mateOf 2 (some .int) :: ([.fieldLink RX4 38 "PlaFolder$State" "lowerOf" "[I", .fieldLink RX4 41 "PlaFolder$State" "upperOf" "[I"] ++ wsX40)
def wsX4_join : List Cond := .code yX4_join cX4_join 3 none :: ([.fieldLink RX4 38 "PlaFolder$State" "lowerOf" "[I", .fieldLink RX4 41 "PlaFolder$State" "upperOf" "[I", .fieldLink RX4 21 "PlaFolder$State" "foldCount" "I"] ++ wsX40)
def wsX4_part : List Cond := .code yX4_part cX4_part 3 none :: ([.fieldLink RX4 38 "PlaFolder$State" "lowerOf" "[I", .fieldLink RX4 41 "PlaFolder$State" "upperOf" "[I", .fieldLink RX4 21 "PlaFolder$State" "foldCount" "I", .methodLink RX4 83 yX4_mateOf, .instanceMethod yX4_mateOf, .selects RX4 yX4_mateOf yX4_mateOf, .initialized RX4, .code yX4_mateOf cX4_mateOf 2 (some .int)] ++ wsX40)
def wsX5_init_r1 : List Cond := [Cond.methodLink RX5 3 objectInit, Cond.instanceMethod objectInit, Cond.code objectInit ⟨#[0xb1]⟩ 1 none, Cond.classLink RX5 9 RX4, Cond.instantiable RX4 10, Cond.initialized RX4, Cond.fieldLink RX5 12 "PlaFolder" "state" "LPlaFolder$State;", Cond.classLink RX5 16 RX2, Cond.instantiable RX2 2, Cond.initialized RX2, Cond.fieldLink RX5 19 "PlaFolder" "history" "LPlaFolder$History;", Cond.classLink RX5 23 RX1, Cond.instantiable RX1 1, Cond.initialized RX1, Cond.fieldLink RX5 26 "PlaFolder" "demands" "LPlaFolder$Demands;", Cond.classLink RX5 30 RX3, Cond.instantiable RX3 2, Cond.initialized RX3, Cond.fieldLink RX5 33 "PlaFolder" "rows" "LPlaFolder$RowOrder;", Cond.classLink RX5 37 RX0, Cond.instantiable RX0 9, Cond.initialized RX0, Cond.fieldLink RX5 40 "PlaFolder" "best" "LPlaFolder$BestFolding;", Cond.arrayClass .int]
def wsX5_init_r2 : List Cond := [Cond.fieldLink RX5 44 "PlaFolder" "errors" "[I", Cond.instanceMethod yX4_init, Cond.code yX4_init cX4_init 1 none, Cond.methodLink RX4 3 objectInit, Cond.fieldLink RX4 9 "PlaFolder$State" "inputs" "I", Cond.fieldLink RX4 15 "PlaFolder$State" "outputs" "I", Cond.fieldLink RX4 18 "PlaFolder$State" "termCount" "I", Cond.fieldLink RX4 21 "PlaFolder$State" "foldCount" "I", Cond.fieldLink RX4 24 "PlaFolder$State" "ones" "[I", Cond.fieldLink RX4 28 "PlaFolder$State" "zeros" "[I", Cond.fieldLink RX4 31 "PlaFolder$State" "outs" "[I", Cond.arrayClass .long, Cond.fieldLink RX4 34 "PlaFolder$State" "words" "[J", Cond.fieldLink RX4 38 "PlaFolder$State" "lowerOf" "[I", Cond.fieldLink RX4 41 "PlaFolder$State" "upperOf" "[I", Cond.methodLink RX4 44 yJ7_fill_53178, Cond.static yJ7_fill_53178, Cond.initialized RJ7, Cond.code yJ7_fill_53178 cJ7_fill_53178 4 none, Cond.instanceMethod yX2_init, Cond.code yX2_init cX2_init 2 none, Cond.methodLink RX2 3 objectInit, Cond.classLink RX2 9 RX4, Cond.fieldLink RX2 11 "PlaFolder$History" "saved" "[LPlaFolder$State;"]
def wsX5_init_r3 : List Cond := [Cond.fieldLink RX2 17 "PlaFolder$History" "count" "I", Cond.instanceMethod yX1_init, Cond.code yX1_init cX1_init 1 none, Cond.methodLink RX1 3 objectInit, Cond.fieldLink RX1 9 "PlaFolder$Demands" "above" "[I", Cond.instanceMethod yX3_init, Cond.code yX3_init cX3_init 1 none, Cond.methodLink RX3 3 objectInit, Cond.fieldLink RX3 9 "PlaFolder$RowOrder" "termInRow" "[I", Cond.fieldLink RX3 15 "PlaFolder$RowOrder" "rowOfTerm" "[I", Cond.instanceMethod yX0_init, Cond.code yX0_init cX0_init 2 none, Cond.methodLink RX0 3 objectInit, Cond.fieldLink RX0 9 "PlaFolder$BestFolding" "known" "Z", Cond.fieldLink RX0 15 "PlaFolder$BestFolding" "count" "I", Cond.fieldLink RX0 19 "PlaFolder$BestFolding" "upper" "[I", Cond.fieldLink RX0 23 "PlaFolder$BestFolding" "lower" "[I", Cond.fieldLink RX0 26 "PlaFolder$BestFolding" "triedUpper" "[I", Cond.fieldLink RX0 29 "PlaFolder$BestFolding" "triedLower" "[I", Cond.fieldLink RX0 32 "PlaFolder$BestFolding" "used" "[I", Cond.fieldLink RX0 35 "PlaFolder$BestFolding" "mates" "[I", Cond.classLink RX0 38 RX1, Cond.fieldLink RX0 40 "PlaFolder$BestFolding" "demandsAt" "[LPlaFolder$Demands;"]
def wsX5_init : List Cond := .code yX5_init cX5_init 1 none :: ((wsX5_init_r1 ++ (wsX5_init_r2 ++ wsX5_init_r3)) ++ wsX40 ++ wsX50 ++ wsX20 ++ wsX10 ++ wsX30 ++ wsX00)
def wsX5_fail : List Cond := .code yX5_fail cX5_fail 2 (some .int) :: ([.fieldLink RX5 44 "PlaFolder" "errors" "[I"] ++ wsX50)
def wsX5_foldsChanged_r1 : List Cond := [Cond.fieldLink RX5 26 "PlaFolder" "demands" "LPlaFolder$Demands;", Cond.fieldLink RX5 12 "PlaFolder" "state" "LPlaFolder$State;", Cond.fieldLink RX5 33 "PlaFolder" "rows" "LPlaFolder$RowOrder;", Cond.instanceMethod yX1_collect, Cond.initialized RX1, Cond.selects RX1 yX1_collect yX1_collect, Cond.code yX1_collect cX1_collect 4 none, Cond.methodLink RX1 27 yX1_clear, Cond.instanceMethod yX1_clear, Cond.selects RX1 yX1_clear yX1_clear, Cond.code yX1_clear cX1_clear 1 none, Cond.fieldLink RX1 9 "PlaFolder$Demands" "above" "[I", Cond.methodLink RX1 15 yJ7_fill_53178, Cond.static yJ7_fill_53178, Cond.initialized RJ7, Cond.code yJ7_fill_53178 cJ7_fill_53178 4 none, Cond.instanceMethod yX4_termsOfColumn, Cond.initialized RX4, Cond.selects RX4 yX4_termsOfColumn yX4_termsOfColumn, Cond.code yX4_termsOfColumn cX4_termsOfColumn 5 (some .int), Cond.fieldLink RX4 18 "PlaFolder$State" "termCount" "I", Cond.fieldLink RX4 24 "PlaFolder$State" "ones" "[I", Cond.fieldLink RX4 28 "PlaFolder$State" "zeros" "[I", Cond.fieldLink RX4 31 "PlaFolder$State" "outs" "[I"]
def wsX5_foldsChanged_r2 : List Cond := [Cond.static yX5_contains, Cond.initialized RX5, Cond.code yX5_contains cX5_contains 2 (some .boolean), Cond.methodLink RX1 39 yX1_add, Cond.instanceMethod yX1_add, Cond.selects RX1 yX1_add yX1_add, Cond.code yX1_add cX1_add 5 none, Cond.methodLink RX1 47 yX1_withAllAbove, Cond.instanceMethod yX1_withAllAbove, Cond.selects RX1 yX1_withAllAbove yX1_withAllAbove, Cond.code yX1_withAllAbove cX1_withAllAbove 4 (some .int), Cond.instanceMethod yX3_build, Cond.initialized RX3, Cond.selects RX3 yX3_build yX3_build, Cond.code yX3_build cX3_build 6 none, Cond.fieldLink RX3 9 "PlaFolder$RowOrder" "termInRow" "[I", Cond.fieldLink RX3 15 "PlaFolder$RowOrder" "rowOfTerm" "[I", Cond.methodLink RX3 18 yX3_nextTerm, Cond.static yX3_nextTerm, Cond.code yX3_nextTerm cX3_nextTerm 4 (some .int)]
def wsX5_foldsChanged : List Cond := .code yX5_foldsChanged cX5_foldsChanged 1 none :: ((wsX5_foldsChanged_r1 ++ wsX5_foldsChanged_r2) ++ wsX50 ++ wsX40 ++ wsX10 ++ wsX30)
def wsX5_termsChanged_r1 : List Cond := [Cond.fieldLink RX5 40 "PlaFolder" "best" "LPlaFolder$BestFolding;", Cond.methodLink RX5 138 yX5_foldsChanged, Cond.instanceMethod yX5_foldsChanged, Cond.selects RX5 yX5_foldsChanged yX5_foldsChanged, Cond.initialized RX5, Cond.code yX5_foldsChanged cX5_foldsChanged 1 none, Cond.fieldLink RX5 26 "PlaFolder" "demands" "LPlaFolder$Demands;", Cond.fieldLink RX5 12 "PlaFolder" "state" "LPlaFolder$State;", Cond.fieldLink RX5 33 "PlaFolder" "rows" "LPlaFolder$RowOrder;", Cond.instanceMethod yX1_collect, Cond.initialized RX1, Cond.selects RX1 yX1_collect yX1_collect, Cond.code yX1_collect cX1_collect 4 none, Cond.methodLink RX1 27 yX1_clear, Cond.instanceMethod yX1_clear, Cond.selects RX1 yX1_clear yX1_clear, Cond.code yX1_clear cX1_clear 1 none, Cond.fieldLink RX1 9 "PlaFolder$Demands" "above" "[I", Cond.methodLink RX1 15 yJ7_fill_53178, Cond.static yJ7_fill_53178, Cond.initialized RJ7, Cond.code yJ7_fill_53178 cJ7_fill_53178 4 none, Cond.instanceMethod yX4_termsOfColumn, Cond.initialized RX4]
def wsX5_termsChanged_r2 : List Cond := [Cond.selects RX4 yX4_termsOfColumn yX4_termsOfColumn, Cond.code yX4_termsOfColumn cX4_termsOfColumn 5 (some .int), Cond.fieldLink RX4 18 "PlaFolder$State" "termCount" "I", Cond.fieldLink RX4 24 "PlaFolder$State" "ones" "[I", Cond.fieldLink RX4 28 "PlaFolder$State" "zeros" "[I", Cond.fieldLink RX4 31 "PlaFolder$State" "outs" "[I", Cond.static yX5_contains, Cond.code yX5_contains cX5_contains 2 (some .boolean), Cond.methodLink RX1 39 yX1_add, Cond.instanceMethod yX1_add, Cond.selects RX1 yX1_add yX1_add, Cond.code yX1_add cX1_add 5 none, Cond.methodLink RX1 47 yX1_withAllAbove, Cond.instanceMethod yX1_withAllAbove, Cond.selects RX1 yX1_withAllAbove yX1_withAllAbove, Cond.code yX1_withAllAbove cX1_withAllAbove 4 (some .int), Cond.instanceMethod yX3_build, Cond.initialized RX3, Cond.selects RX3 yX3_build yX3_build, Cond.code yX3_build cX3_build 6 none, Cond.fieldLink RX3 9 "PlaFolder$RowOrder" "termInRow" "[I", Cond.fieldLink RX3 15 "PlaFolder$RowOrder" "rowOfTerm" "[I", Cond.methodLink RX3 18 yX3_nextTerm, Cond.static yX3_nextTerm]
def wsX5_termsChanged_r3 : List Cond := [Cond.code yX3_nextTerm cX3_nextTerm 4 (some .int)]
def wsX5_termsChanged : List Cond := .code yX5_termsChanged cX5_termsChanged 1 none :: ((wsX5_termsChanged_r1 ++ (wsX5_termsChanged_r2 ++ wsX5_termsChanged_r3)) ++ wsX50 ++ wsX00 ++ wsX40 ++ wsX10 ++ wsX30)
def wsX5_setSize_r1 : List Cond := [Cond.fieldLink RX5 19 "PlaFolder" "history" "LPlaFolder$History;", Cond.fieldLink RX5 12 "PlaFolder" "state" "LPlaFolder$State;", Cond.methodLink RX5 48 yX5_fail, Cond.instanceMethod yX5_fail, Cond.selects RX5 yX5_fail yX5_fail, Cond.initialized RX5, Cond.code yX5_fail cX5_fail 2 (some .int), Cond.fieldLink RX5 44 "PlaFolder" "errors" "[I", Cond.instanceMethod yX2_push, Cond.initialized RX2, Cond.selects RX2 yX2_push yX2_push, Cond.code yX2_push cX2_push 2 none, Cond.fieldLink RX2 17 "PlaFolder$History" "count" "I", Cond.fieldLink RX2 11 "PlaFolder$History" "saved" "[LPlaFolder$State;", Cond.methodLink RX2 22 yX2_dropOldest, Cond.instanceMethod yX2_dropOldest, Cond.selects RX2 yX2_dropOldest yX2_dropOldest, Cond.code yX2_dropOldest cX2_dropOldest 3 none, Cond.instanceMethod yX4_copyFrom, Cond.initialized RX4, Cond.selects RX4 yX4_copyFrom yX4_copyFrom, Cond.code yX4_copyFrom cX4_copyFrom 2 none, Cond.fieldLink RX4 9 "PlaFolder$State" "inputs" "I", Cond.fieldLink RX4 15 "PlaFolder$State" "outputs" "I"]
def wsX5_setSize_r2 : List Cond := [Cond.fieldLink RX4 18 "PlaFolder$State" "termCount" "I", Cond.fieldLink RX4 21 "PlaFolder$State" "foldCount" "I", Cond.fieldLink RX4 24 "PlaFolder$State" "ones" "[I", Cond.methodLink RX4 50 arraycopyName, Cond.native arraycopyName, Cond.static arraycopyName, Cond.initialized "java/lang/System", Cond.fieldLink RX4 28 "PlaFolder$State" "zeros" "[I", Cond.fieldLink RX4 31 "PlaFolder$State" "outs" "[I", Cond.fieldLink RX4 34 "PlaFolder$State" "words" "[J", Cond.fieldLink RX4 38 "PlaFolder$State" "lowerOf" "[I", Cond.fieldLink RX4 41 "PlaFolder$State" "upperOf" "[I", Cond.instanceMethod yX4_resize, Cond.selects RX4 yX4_resize yX4_resize, Cond.code yX4_resize cX4_resize 3 none, Cond.methodLink RX4 56 yX4_partAll, Cond.instanceMethod yX4_partAll, Cond.selects RX4 yX4_partAll yX4_partAll, Cond.code yX4_partAll cX4_partAll 1 none, Cond.methodLink RX4 44 yJ7_fill_53178, Cond.static yJ7_fill_53178, Cond.initialized RJ7, Cond.code yJ7_fill_53178 cJ7_fill_53178 4 none, Cond.methodLink RX5 64 yX5_termsChanged]
def wsX5_setSize_r3 : List Cond := [Cond.instanceMethod yX5_termsChanged, Cond.selects RX5 yX5_termsChanged yX5_termsChanged, Cond.code yX5_termsChanged cX5_termsChanged 1 none, Cond.fieldLink RX5 40 "PlaFolder" "best" "LPlaFolder$BestFolding;", Cond.methodLink RX5 138 yX5_foldsChanged, Cond.instanceMethod yX5_foldsChanged, Cond.selects RX5 yX5_foldsChanged yX5_foldsChanged, Cond.code yX5_foldsChanged cX5_foldsChanged 1 none, Cond.fieldLink RX5 26 "PlaFolder" "demands" "LPlaFolder$Demands;", Cond.fieldLink RX5 33 "PlaFolder" "rows" "LPlaFolder$RowOrder;", Cond.instanceMethod yX1_collect, Cond.initialized RX1, Cond.selects RX1 yX1_collect yX1_collect, Cond.code yX1_collect cX1_collect 4 none, Cond.methodLink RX1 27 yX1_clear, Cond.instanceMethod yX1_clear, Cond.selects RX1 yX1_clear yX1_clear, Cond.code yX1_clear cX1_clear 1 none, Cond.fieldLink RX1 9 "PlaFolder$Demands" "above" "[I", Cond.methodLink RX1 15 yJ7_fill_53178, Cond.instanceMethod yX4_termsOfColumn, Cond.selects RX4 yX4_termsOfColumn yX4_termsOfColumn, Cond.code yX4_termsOfColumn cX4_termsOfColumn 5 (some .int), Cond.static yX5_contains]
def wsX5_setSize_r4 : List Cond := [Cond.code yX5_contains cX5_contains 2 (some .boolean), Cond.methodLink RX1 39 yX1_add, Cond.instanceMethod yX1_add, Cond.selects RX1 yX1_add yX1_add, Cond.code yX1_add cX1_add 5 none, Cond.methodLink RX1 47 yX1_withAllAbove, Cond.instanceMethod yX1_withAllAbove, Cond.selects RX1 yX1_withAllAbove yX1_withAllAbove, Cond.code yX1_withAllAbove cX1_withAllAbove 4 (some .int), Cond.instanceMethod yX3_build, Cond.initialized RX3, Cond.selects RX3 yX3_build yX3_build, Cond.code yX3_build cX3_build 6 none, Cond.fieldLink RX3 9 "PlaFolder$RowOrder" "termInRow" "[I", Cond.fieldLink RX3 15 "PlaFolder$RowOrder" "rowOfTerm" "[I", Cond.methodLink RX3 18 yX3_nextTerm, Cond.static yX3_nextTerm, Cond.code yX3_nextTerm cX3_nextTerm 4 (some .int)]
def wsX5_setSize : List Cond := .code yX5_setSize cX5_setSize 4 (some .int) :: ((wsX5_setSize_r1 ++ (wsX5_setSize_r2 ++ (wsX5_setSize_r3 ++ wsX5_setSize_r4))) ++ wsX50 ++ wsX40 ++ wsX20 ++ wsX00 ++ wsX10 ++ wsX30)
def wsX5_addTerm_r1 : List Cond := [Cond.fieldLink RX5 12 "PlaFolder" "state" "LPlaFolder$State;", Cond.fieldLink RX5 19 "PlaFolder" "history" "LPlaFolder$History;", Cond.instanceMethod yX4_takesTerm, Cond.initialized RX4, Cond.selects RX4 yX4_takesTerm yX4_takesTerm, Cond.code yX4_takesTerm cX4_takesTerm 6 (some .boolean), Cond.fieldLink RX4 9 "PlaFolder$State" "inputs" "I", Cond.fieldLink RX4 15 "PlaFolder$State" "outputs" "I", Cond.methodLink RX5 48 yX5_fail, Cond.instanceMethod yX5_fail, Cond.selects RX5 yX5_fail yX5_fail, Cond.initialized RX5, Cond.code yX5_fail cX5_fail 2 (some .int), Cond.fieldLink RX5 44 "PlaFolder" "errors" "[I", Cond.instanceMethod yX2_push, Cond.initialized RX2, Cond.selects RX2 yX2_push yX2_push, Cond.code yX2_push cX2_push 2 none, Cond.fieldLink RX2 17 "PlaFolder$History" "count" "I", Cond.fieldLink RX2 11 "PlaFolder$History" "saved" "[LPlaFolder$State;", Cond.methodLink RX2 22 yX2_dropOldest, Cond.instanceMethod yX2_dropOldest, Cond.selects RX2 yX2_dropOldest yX2_dropOldest, Cond.code yX2_dropOldest cX2_dropOldest 3 none]
def wsX5_addTerm_r2 : List Cond := [Cond.instanceMethod yX4_copyFrom, Cond.selects RX4 yX4_copyFrom yX4_copyFrom, Cond.code yX4_copyFrom cX4_copyFrom 2 none, Cond.fieldLink RX4 18 "PlaFolder$State" "termCount" "I", Cond.fieldLink RX4 21 "PlaFolder$State" "foldCount" "I", Cond.fieldLink RX4 24 "PlaFolder$State" "ones" "[I", Cond.methodLink RX4 50 arraycopyName, Cond.native arraycopyName, Cond.static arraycopyName, Cond.initialized "java/lang/System", Cond.fieldLink RX4 28 "PlaFolder$State" "zeros" "[I", Cond.fieldLink RX4 31 "PlaFolder$State" "outs" "[I", Cond.fieldLink RX4 34 "PlaFolder$State" "words" "[J", Cond.fieldLink RX4 38 "PlaFolder$State" "lowerOf" "[I", Cond.fieldLink RX4 41 "PlaFolder$State" "upperOf" "[I", Cond.instanceMethod yX4_appendTerm, Cond.selects RX4 yX4_appendTerm yX4_appendTerm, Cond.code yX4_appendTerm cX4_appendTerm 4 none, Cond.methodLink RX4 59 yX4_wordsOfTerm, Cond.instanceMethod yX4_wordsOfTerm, Cond.selects RX4 yX4_wordsOfTerm yX4_wordsOfTerm, Cond.code yX4_wordsOfTerm cX4_wordsOfTerm 6 (some .long), Cond.constantLong RX4 74 (-1), Cond.methodLink RX4 63 yX4_allWords]
def wsX5_addTerm_r3 : List Cond := [Cond.instanceMethod yX4_allWords, Cond.selects RX4 yX4_allWords yX4_allWords, Cond.code yX4_allWords cX4_allWords 1 (some .long), Cond.static yX5_contains, Cond.code yX5_contains cX5_contains 2 (some .boolean), Cond.methodLink RX4 56 yX4_partAll, Cond.instanceMethod yX4_partAll, Cond.selects RX4 yX4_partAll yX4_partAll, Cond.code yX4_partAll cX4_partAll 1 none, Cond.methodLink RX4 44 yJ7_fill_53178, Cond.static yJ7_fill_53178, Cond.initialized RJ7, Cond.code yJ7_fill_53178 cJ7_fill_53178 4 none, Cond.methodLink RX5 64 yX5_termsChanged, Cond.instanceMethod yX5_termsChanged, Cond.selects RX5 yX5_termsChanged yX5_termsChanged, Cond.code yX5_termsChanged cX5_termsChanged 1 none, Cond.fieldLink RX5 40 "PlaFolder" "best" "LPlaFolder$BestFolding;", Cond.methodLink RX5 138 yX5_foldsChanged, Cond.instanceMethod yX5_foldsChanged, Cond.selects RX5 yX5_foldsChanged yX5_foldsChanged, Cond.code yX5_foldsChanged cX5_foldsChanged 1 none, Cond.fieldLink RX5 26 "PlaFolder" "demands" "LPlaFolder$Demands;", Cond.fieldLink RX5 33 "PlaFolder" "rows" "LPlaFolder$RowOrder;"]
def wsX5_addTerm_r4 : List Cond := [Cond.instanceMethod yX1_collect, Cond.initialized RX1, Cond.selects RX1 yX1_collect yX1_collect, Cond.code yX1_collect cX1_collect 4 none, Cond.methodLink RX1 27 yX1_clear, Cond.instanceMethod yX1_clear, Cond.selects RX1 yX1_clear yX1_clear, Cond.code yX1_clear cX1_clear 1 none, Cond.fieldLink RX1 9 "PlaFolder$Demands" "above" "[I", Cond.methodLink RX1 15 yJ7_fill_53178, Cond.instanceMethod yX4_termsOfColumn, Cond.selects RX4 yX4_termsOfColumn yX4_termsOfColumn, Cond.code yX4_termsOfColumn cX4_termsOfColumn 5 (some .int), Cond.methodLink RX1 39 yX1_add, Cond.instanceMethod yX1_add, Cond.selects RX1 yX1_add yX1_add, Cond.code yX1_add cX1_add 5 none, Cond.methodLink RX1 47 yX1_withAllAbove, Cond.instanceMethod yX1_withAllAbove, Cond.selects RX1 yX1_withAllAbove yX1_withAllAbove, Cond.code yX1_withAllAbove cX1_withAllAbove 4 (some .int), Cond.instanceMethod yX3_build, Cond.initialized RX3, Cond.selects RX3 yX3_build yX3_build]
def wsX5_addTerm_r5 : List Cond := [Cond.code yX3_build cX3_build 6 none, Cond.fieldLink RX3 9 "PlaFolder$RowOrder" "termInRow" "[I", Cond.fieldLink RX3 15 "PlaFolder$RowOrder" "rowOfTerm" "[I", Cond.methodLink RX3 18 yX3_nextTerm, Cond.static yX3_nextTerm, Cond.code yX3_nextTerm cX3_nextTerm 4 (some .int)]
def wsX5_addTerm : List Cond := .code yX5_addTerm cX5_addTerm 4 (some .int) :: ((wsX5_addTerm_r1 ++ (wsX5_addTerm_r2 ++ (wsX5_addTerm_r3 ++ (wsX5_addTerm_r4 ++ wsX5_addTerm_r5)))) ++ wsX50 ++ wsX40 ++ wsX20 ++ wsX00 ++ wsX10 ++ wsX30)
def wsX5_removeTerm_r1 : List Cond := [Cond.fieldLink RX5 12 "PlaFolder" "state" "LPlaFolder$State;", Cond.fieldLink RX5 19 "PlaFolder" "history" "LPlaFolder$History;", Cond.instanceMethod yX4_hasTerm, Cond.initialized RX4, Cond.selects RX4 yX4_hasTerm yX4_hasTerm, Cond.code yX4_hasTerm cX4_hasTerm 2 (some .boolean), Cond.fieldLink RX4 18 "PlaFolder$State" "termCount" "I", Cond.methodLink RX5 48 yX5_fail, Cond.instanceMethod yX5_fail, Cond.selects RX5 yX5_fail yX5_fail, Cond.initialized RX5, Cond.code yX5_fail cX5_fail 2 (some .int), Cond.fieldLink RX5 44 "PlaFolder" "errors" "[I", Cond.instanceMethod yX2_push, Cond.initialized RX2, Cond.selects RX2 yX2_push yX2_push, Cond.code yX2_push cX2_push 2 none, Cond.fieldLink RX2 17 "PlaFolder$History" "count" "I", Cond.fieldLink RX2 11 "PlaFolder$History" "saved" "[LPlaFolder$State;", Cond.methodLink RX2 22 yX2_dropOldest, Cond.instanceMethod yX2_dropOldest, Cond.selects RX2 yX2_dropOldest yX2_dropOldest, Cond.code yX2_dropOldest cX2_dropOldest 3 none, Cond.instanceMethod yX4_copyFrom]
def wsX5_removeTerm_r2 : List Cond := [Cond.selects RX4 yX4_copyFrom yX4_copyFrom, Cond.code yX4_copyFrom cX4_copyFrom 2 none, Cond.fieldLink RX4 9 "PlaFolder$State" "inputs" "I", Cond.fieldLink RX4 15 "PlaFolder$State" "outputs" "I", Cond.fieldLink RX4 21 "PlaFolder$State" "foldCount" "I", Cond.fieldLink RX4 24 "PlaFolder$State" "ones" "[I", Cond.methodLink RX4 50 arraycopyName, Cond.native arraycopyName, Cond.static arraycopyName, Cond.initialized "java/lang/System", Cond.fieldLink RX4 28 "PlaFolder$State" "zeros" "[I", Cond.fieldLink RX4 31 "PlaFolder$State" "outs" "[I", Cond.fieldLink RX4 34 "PlaFolder$State" "words" "[J", Cond.fieldLink RX4 38 "PlaFolder$State" "lowerOf" "[I", Cond.fieldLink RX4 41 "PlaFolder$State" "upperOf" "[I", Cond.instanceMethod yX4_dropTerm, Cond.selects RX4 yX4_dropTerm yX4_dropTerm, Cond.code yX4_dropTerm cX4_dropTerm 3 none, Cond.methodLink RX4 56 yX4_partAll, Cond.instanceMethod yX4_partAll, Cond.selects RX4 yX4_partAll yX4_partAll, Cond.code yX4_partAll cX4_partAll 1 none, Cond.methodLink RX4 44 yJ7_fill_53178, Cond.static yJ7_fill_53178]
def wsX5_removeTerm_r3 : List Cond := [Cond.initialized RJ7, Cond.code yJ7_fill_53178 cJ7_fill_53178 4 none, Cond.methodLink RX5 64 yX5_termsChanged, Cond.instanceMethod yX5_termsChanged, Cond.selects RX5 yX5_termsChanged yX5_termsChanged, Cond.code yX5_termsChanged cX5_termsChanged 1 none, Cond.fieldLink RX5 40 "PlaFolder" "best" "LPlaFolder$BestFolding;", Cond.methodLink RX5 138 yX5_foldsChanged, Cond.instanceMethod yX5_foldsChanged, Cond.selects RX5 yX5_foldsChanged yX5_foldsChanged, Cond.code yX5_foldsChanged cX5_foldsChanged 1 none, Cond.fieldLink RX5 26 "PlaFolder" "demands" "LPlaFolder$Demands;", Cond.fieldLink RX5 33 "PlaFolder" "rows" "LPlaFolder$RowOrder;", Cond.instanceMethod yX1_collect, Cond.initialized RX1, Cond.selects RX1 yX1_collect yX1_collect, Cond.code yX1_collect cX1_collect 4 none, Cond.methodLink RX1 27 yX1_clear, Cond.instanceMethod yX1_clear, Cond.selects RX1 yX1_clear yX1_clear, Cond.code yX1_clear cX1_clear 1 none, Cond.fieldLink RX1 9 "PlaFolder$Demands" "above" "[I", Cond.methodLink RX1 15 yJ7_fill_53178, Cond.instanceMethod yX4_termsOfColumn]
def wsX5_removeTerm_r4 : List Cond := [Cond.selects RX4 yX4_termsOfColumn yX4_termsOfColumn, Cond.code yX4_termsOfColumn cX4_termsOfColumn 5 (some .int), Cond.static yX5_contains, Cond.code yX5_contains cX5_contains 2 (some .boolean), Cond.methodLink RX1 39 yX1_add, Cond.instanceMethod yX1_add, Cond.selects RX1 yX1_add yX1_add, Cond.code yX1_add cX1_add 5 none, Cond.methodLink RX1 47 yX1_withAllAbove, Cond.instanceMethod yX1_withAllAbove, Cond.selects RX1 yX1_withAllAbove yX1_withAllAbove, Cond.code yX1_withAllAbove cX1_withAllAbove 4 (some .int), Cond.instanceMethod yX3_build, Cond.initialized RX3, Cond.selects RX3 yX3_build yX3_build, Cond.code yX3_build cX3_build 6 none, Cond.fieldLink RX3 9 "PlaFolder$RowOrder" "termInRow" "[I", Cond.fieldLink RX3 15 "PlaFolder$RowOrder" "rowOfTerm" "[I", Cond.methodLink RX3 18 yX3_nextTerm, Cond.static yX3_nextTerm, Cond.code yX3_nextTerm cX3_nextTerm 4 (some .int)]
def wsX5_removeTerm : List Cond := .code yX5_removeTerm cX5_removeTerm 2 (some .int) :: ((wsX5_removeTerm_r1 ++ (wsX5_removeTerm_r2 ++ (wsX5_removeTerm_r3 ++ wsX5_removeTerm_r4))) ++ wsX50 ++ wsX40 ++ wsX20 ++ wsX00 ++ wsX10 ++ wsX30)
def wsX5_terms : List Cond := .code yX5_terms cX5_terms 1 (some .int) :: ([.fieldLink RX5 12 "PlaFolder" "state" "LPlaFolder$State;"] ++ wsX50 ++ wsX40)
def wsX5_literals : List Cond := .code yX5_literals cX5_literals 2 (some .int) :: ([.fieldLink RX5 12 "PlaFolder" "state" "LPlaFolder$State;", .instanceMethod yX4_hasTerm, .initialized RX4, .selects RX4 yX4_hasTerm yX4_hasTerm, .code yX4_hasTerm cX4_hasTerm 2 (some .boolean), .fieldLink RX4 18 "PlaFolder$State" "termCount" "I", .methodLink RX5 48 yX5_fail, .instanceMethod yX5_fail, .selects RX5 yX5_fail yX5_fail, .initialized RX5, .code yX5_fail cX5_fail 2 (some .int), .fieldLink RX5 44 "PlaFolder" "errors" "[I", .methodLink RX5 89 yJ6_bitCount_0f7a4, .static yJ6_bitCount_0f7a4, .initialized RJ6, .code yJ6_bitCount_0f7a4 cJ6_bitCount_0f7a4 1 (some .int), .constant RJ6 265 (1431655765), .constant RJ6 266 (858993459), .constant RJ6 267 (252645135)] ++ wsX50 ++ wsX40)
def wsX5_evaluate : List Cond := .code yX5_evaluate cX5_evaluate 2 (some .int) :: ([.fieldLink RX5 12 "PlaFolder" "state" "LPlaFolder$State;", .methodLink RX5 48 yX5_fail, .instanceMethod yX5_fail, .selects RX5 yX5_fail yX5_fail, .initialized RX5, .code yX5_fail cX5_fail 2 (some .int), .fieldLink RX5 44 "PlaFolder" "errors" "[I", .instanceMethod yX4_outputWord, .initialized RX4, .selects RX4 yX4_outputWord yX4_outputWord, .code yX4_outputWord cX4_outputWord 4 (some .int), .fieldLink RX4 18 "PlaFolder$State" "termCount" "I", .fieldLink RX4 34 "PlaFolder$State" "words" "[J", .fieldLink RX4 31 "PlaFolder$State" "outs" "[I"] ++ wsX50 ++ wsX40)
def wsJ13_bitCount_95d88 : List Cond := .code yJ13_bitCount_95d88 cJ13_bitCount_95d88 2 (some .int) :: ([.constantLong RJ13 314 (6148914691236517205), .constantLong RJ13 316 (3689348814741910323), .constantLong RJ13 318 (1085102592571150095)])
def wsX5_onCount : List Cond := .code yX5_onCount cX5_onCount 2 (some .int) :: ([.fieldLink RX5 12 "PlaFolder" "state" "LPlaFolder$State;", .methodLink RX5 48 yX5_fail, .instanceMethod yX5_fail, .selects RX5 yX5_fail yX5_fail, .initialized RX5, .code yX5_fail cX5_fail 2 (some .int), .fieldLink RX5 44 "PlaFolder" "errors" "[I", .instanceMethod yX4_wordsOfOutput, .initialized RX4, .selects RX4 yX4_wordsOfOutput yX4_wordsOfOutput, .code yX4_wordsOfOutput cX4_wordsOfOutput 6 (some .long), .fieldLink RX4 18 "PlaFolder$State" "termCount" "I", .fieldLink RX4 31 "PlaFolder$State" "outs" "[I", .fieldLink RX4 34 "PlaFolder$State" "words" "[J", .static yX5_contains, .code yX5_contains cX5_contains 2 (some .boolean), .methodLink RX5 107 yJ13_bitCount_95d88, .static yJ13_bitCount_95d88, .initialized RJ13, .code yJ13_bitCount_95d88 cJ13_bitCount_95d88 2 (some .int), .constantLong RJ13 314 (6148914691236517205), .constantLong RJ13 316 (3689348814741910323), .constantLong RJ13 318 (1085102592571150095)] ++ wsX50 ++ wsX40)
def wsX5_flag : List Cond := .code yX5_flag cX5_flag 1 (some .int) :: ([])
def wsX5_isRedundant_r1 : List Cond := [Cond.fieldLink RX5 12 "PlaFolder" "state" "LPlaFolder$State;", Cond.instanceMethod yX4_hasTerm, Cond.initialized RX4, Cond.selects RX4 yX4_hasTerm yX4_hasTerm, Cond.code yX4_hasTerm cX4_hasTerm 2 (some .boolean), Cond.fieldLink RX4 18 "PlaFolder$State" "termCount" "I", Cond.methodLink RX5 48 yX5_fail, Cond.instanceMethod yX5_fail, Cond.selects RX5 yX5_fail yX5_fail, Cond.initialized RX5, Cond.code yX5_fail cX5_fail 2 (some .int), Cond.fieldLink RX5 44 "PlaFolder" "errors" "[I", Cond.instanceMethod yX4_isSpare, Cond.selects RX4 yX4_isSpare yX4_isSpare, Cond.code yX4_isSpare cX4_isSpare 3 (some .boolean), Cond.fieldLink RX4 15 "PlaFolder$State" "outputs" "I", Cond.fieldLink RX4 31 "PlaFolder$State" "outs" "[I", Cond.fieldLink RX4 34 "PlaFolder$State" "words" "[J", Cond.constantLong RX4 74 (-1), Cond.static yX5_contains, Cond.code yX5_contains cX5_contains 2 (some .boolean), Cond.methodLink RX4 76 yX4_wordsOfOutput, Cond.instanceMethod yX4_wordsOfOutput, Cond.selects RX4 yX4_wordsOfOutput yX4_wordsOfOutput]
def wsX5_isRedundant_r2 : List Cond := [Cond.code yX4_wordsOfOutput cX4_wordsOfOutput 6 (some .long), Cond.methodLink RX5 115 yX5_flag, Cond.static yX5_flag, Cond.code yX5_flag cX5_flag 1 (some .int)]
def wsX5_isRedundant : List Cond := .code yX5_isRedundant cX5_isRedundant 2 (some .int) :: ((wsX5_isRedundant_r1 ++ wsX5_isRedundant_r2) ++ wsX50 ++ wsX40)
def wsX5_removeRedundant_r1 : List Cond := [Cond.fieldLink RX5 19 "PlaFolder" "history" "LPlaFolder$History;", Cond.fieldLink RX5 12 "PlaFolder" "state" "LPlaFolder$State;", Cond.instanceMethod yX2_push, Cond.initialized RX2, Cond.selects RX2 yX2_push yX2_push, Cond.code yX2_push cX2_push 2 none, Cond.fieldLink RX2 17 "PlaFolder$History" "count" "I", Cond.fieldLink RX2 11 "PlaFolder$History" "saved" "[LPlaFolder$State;", Cond.methodLink RX2 22 yX2_dropOldest, Cond.instanceMethod yX2_dropOldest, Cond.selects RX2 yX2_dropOldest yX2_dropOldest, Cond.code yX2_dropOldest cX2_dropOldest 3 none, Cond.instanceMethod yX4_copyFrom, Cond.initialized RX4, Cond.selects RX4 yX4_copyFrom yX4_copyFrom, Cond.code yX4_copyFrom cX4_copyFrom 2 none, Cond.fieldLink RX4 9 "PlaFolder$State" "inputs" "I", Cond.fieldLink RX4 15 "PlaFolder$State" "outputs" "I", Cond.fieldLink RX4 18 "PlaFolder$State" "termCount" "I", Cond.fieldLink RX4 21 "PlaFolder$State" "foldCount" "I", Cond.fieldLink RX4 24 "PlaFolder$State" "ones" "[I", Cond.methodLink RX4 50 arraycopyName, Cond.native arraycopyName, Cond.static arraycopyName]
def wsX5_removeRedundant_r2 : List Cond := [Cond.initialized "java/lang/System", Cond.fieldLink RX4 28 "PlaFolder$State" "zeros" "[I", Cond.fieldLink RX4 31 "PlaFolder$State" "outs" "[I", Cond.fieldLink RX4 34 "PlaFolder$State" "words" "[J", Cond.fieldLink RX4 38 "PlaFolder$State" "lowerOf" "[I", Cond.fieldLink RX4 41 "PlaFolder$State" "upperOf" "[I", Cond.instanceMethod yX4_isSpare, Cond.selects RX4 yX4_isSpare yX4_isSpare, Cond.code yX4_isSpare cX4_isSpare 3 (some .boolean), Cond.constantLong RX4 74 (-1), Cond.static yX5_contains, Cond.initialized RX5, Cond.code yX5_contains cX5_contains 2 (some .boolean), Cond.methodLink RX4 76 yX4_wordsOfOutput, Cond.instanceMethod yX4_wordsOfOutput, Cond.selects RX4 yX4_wordsOfOutput yX4_wordsOfOutput, Cond.code yX4_wordsOfOutput cX4_wordsOfOutput 6 (some .long), Cond.instanceMethod yX4_dropTerm, Cond.selects RX4 yX4_dropTerm yX4_dropTerm, Cond.code yX4_dropTerm cX4_dropTerm 3 none, Cond.methodLink RX4 56 yX4_partAll, Cond.instanceMethod yX4_partAll, Cond.selects RX4 yX4_partAll yX4_partAll, Cond.code yX4_partAll cX4_partAll 1 none]
def wsX5_removeRedundant_r3 : List Cond := [Cond.methodLink RX4 44 yJ7_fill_53178, Cond.static yJ7_fill_53178, Cond.initialized RJ7, Cond.code yJ7_fill_53178 cJ7_fill_53178 4 none, Cond.methodLink RX5 64 yX5_termsChanged, Cond.instanceMethod yX5_termsChanged, Cond.selects RX5 yX5_termsChanged yX5_termsChanged, Cond.code yX5_termsChanged cX5_termsChanged 1 none, Cond.fieldLink RX5 40 "PlaFolder" "best" "LPlaFolder$BestFolding;", Cond.methodLink RX5 138 yX5_foldsChanged, Cond.instanceMethod yX5_foldsChanged, Cond.selects RX5 yX5_foldsChanged yX5_foldsChanged, Cond.code yX5_foldsChanged cX5_foldsChanged 1 none, Cond.fieldLink RX5 26 "PlaFolder" "demands" "LPlaFolder$Demands;", Cond.fieldLink RX5 33 "PlaFolder" "rows" "LPlaFolder$RowOrder;", Cond.instanceMethod yX1_collect, Cond.initialized RX1, Cond.selects RX1 yX1_collect yX1_collect, Cond.code yX1_collect cX1_collect 4 none, Cond.methodLink RX1 27 yX1_clear, Cond.instanceMethod yX1_clear, Cond.selects RX1 yX1_clear yX1_clear, Cond.code yX1_clear cX1_clear 1 none, Cond.fieldLink RX1 9 "PlaFolder$Demands" "above" "[I"]
def wsX5_removeRedundant_r4 : List Cond := [Cond.methodLink RX1 15 yJ7_fill_53178, Cond.instanceMethod yX4_termsOfColumn, Cond.selects RX4 yX4_termsOfColumn yX4_termsOfColumn, Cond.code yX4_termsOfColumn cX4_termsOfColumn 5 (some .int), Cond.methodLink RX1 39 yX1_add, Cond.instanceMethod yX1_add, Cond.selects RX1 yX1_add yX1_add, Cond.code yX1_add cX1_add 5 none, Cond.methodLink RX1 47 yX1_withAllAbove, Cond.instanceMethod yX1_withAllAbove, Cond.selects RX1 yX1_withAllAbove yX1_withAllAbove, Cond.code yX1_withAllAbove cX1_withAllAbove 4 (some .int), Cond.instanceMethod yX3_build, Cond.initialized RX3, Cond.selects RX3 yX3_build yX3_build, Cond.code yX3_build cX3_build 6 none, Cond.fieldLink RX3 9 "PlaFolder$RowOrder" "termInRow" "[I", Cond.fieldLink RX3 15 "PlaFolder$RowOrder" "rowOfTerm" "[I", Cond.methodLink RX3 18 yX3_nextTerm, Cond.static yX3_nextTerm, Cond.code yX3_nextTerm cX3_nextTerm 4 (some .int)]
def wsX5_removeRedundant : List Cond := .code yX5_removeRedundant cX5_removeRedundant 3 (some .int) :: ((wsX5_removeRedundant_r1 ++ (wsX5_removeRedundant_r2 ++ (wsX5_removeRedundant_r3 ++ wsX5_removeRedundant_r4))) ++ wsX50 ++ wsX40 ++ wsX20 ++ wsX00 ++ wsX10 ++ wsX30)
def wsX5_uses : List Cond := .code yX5_uses cX5_uses 2 (some .int) :: ([.fieldLink RX5 12 "PlaFolder" "state" "LPlaFolder$State;", .instanceMethod yX4_hasColumn, .initialized RX4, .selects RX4 yX4_hasColumn yX4_hasColumn, .code yX4_hasColumn cX4_hasColumn 2 (some .boolean), .fieldLink RX4 9 "PlaFolder$State" "inputs" "I", .fieldLink RX4 15 "PlaFolder$State" "outputs" "I", .methodLink RX5 48 yX5_fail, .instanceMethod yX5_fail, .selects RX5 yX5_fail yX5_fail, .initialized RX5, .code yX5_fail cX5_fail 2 (some .int), .fieldLink RX5 44 "PlaFolder" "errors" "[I", .instanceMethod yX4_termsOfColumn, .selects RX4 yX4_termsOfColumn yX4_termsOfColumn, .code yX4_termsOfColumn cX4_termsOfColumn 5 (some .int), .fieldLink RX4 18 "PlaFolder$State" "termCount" "I", .fieldLink RX4 24 "PlaFolder$State" "ones" "[I", .fieldLink RX4 28 "PlaFolder$State" "zeros" "[I", .fieldLink RX4 31 "PlaFolder$State" "outs" "[I", .static yX5_contains, .code yX5_contains cX5_contains 2 (some .boolean)] ++ wsX50 ++ wsX40)
def wsX5_canFold_r1 : List Cond := [Cond.fieldLink RX5 12 "PlaFolder" "state" "LPlaFolder$State;", Cond.instanceMethod yX4_hasColumn, Cond.initialized RX4, Cond.selects RX4 yX4_hasColumn yX4_hasColumn, Cond.code yX4_hasColumn cX4_hasColumn 2 (some .boolean), Cond.fieldLink RX4 9 "PlaFolder$State" "inputs" "I", Cond.fieldLink RX4 15 "PlaFolder$State" "outputs" "I", Cond.methodLink RX5 48 yX5_fail, Cond.instanceMethod yX5_fail, Cond.selects RX5 yX5_fail yX5_fail, Cond.initialized RX5, Cond.code yX5_fail cX5_fail 2 (some .int), Cond.fieldLink RX5 44 "PlaFolder" "errors" "[I", Cond.instanceMethod yX4_isPair, Cond.selects RX4 yX4_isPair yX4_isPair, Cond.code yX4_isPair cX4_isPair 4 (some .boolean), Cond.methodLink RX4 79 yX4_termsOfColumn, Cond.instanceMethod yX4_termsOfColumn, Cond.selects RX4 yX4_termsOfColumn yX4_termsOfColumn, Cond.code yX4_termsOfColumn cX4_termsOfColumn 5 (some .int), Cond.fieldLink RX4 18 "PlaFolder$State" "termCount" "I", Cond.fieldLink RX4 24 "PlaFolder$State" "ones" "[I", Cond.fieldLink RX4 28 "PlaFolder$State" "zeros" "[I", Cond.fieldLink RX4 31 "PlaFolder$State" "outs" "[I"]
def wsX5_canFold_r2 : List Cond := [Cond.static yX5_contains, Cond.code yX5_contains cX5_contains 2 (some .boolean), Cond.methodLink RX5 115 yX5_flag, Cond.static yX5_flag, Cond.code yX5_flag cX5_flag 1 (some .int)]
def wsX5_canFold : List Cond := .code yX5_canFold cX5_canFold 3 (some .int) :: ((wsX5_canFold_r1 ++ wsX5_canFold_r2) ++ wsX50 ++ wsX40)
def wsX5_fold_r1 : List Cond := [Cond.fieldLink RX5 12 "PlaFolder" "state" "LPlaFolder$State;", Cond.fieldLink RX5 26 "PlaFolder" "demands" "LPlaFolder$Demands;", Cond.fieldLink RX5 19 "PlaFolder" "history" "LPlaFolder$History;", Cond.instanceMethod yX4_hasColumn, Cond.initialized RX4, Cond.selects RX4 yX4_hasColumn yX4_hasColumn, Cond.code yX4_hasColumn cX4_hasColumn 2 (some .boolean), Cond.fieldLink RX4 9 "PlaFolder$State" "inputs" "I", Cond.fieldLink RX4 15 "PlaFolder$State" "outputs" "I", Cond.methodLink RX5 48 yX5_fail, Cond.instanceMethod yX5_fail, Cond.selects RX5 yX5_fail yX5_fail, Cond.initialized RX5, Cond.code yX5_fail cX5_fail 2 (some .int), Cond.fieldLink RX5 44 "PlaFolder" "errors" "[I", Cond.instanceMethod yX4_isPair, Cond.selects RX4 yX4_isPair yX4_isPair, Cond.code yX4_isPair cX4_isPair 4 (some .boolean), Cond.methodLink RX4 79 yX4_termsOfColumn, Cond.instanceMethod yX4_termsOfColumn, Cond.selects RX4 yX4_termsOfColumn yX4_termsOfColumn, Cond.code yX4_termsOfColumn cX4_termsOfColumn 5 (some .int), Cond.fieldLink RX4 18 "PlaFolder$State" "termCount" "I", Cond.fieldLink RX4 24 "PlaFolder$State" "ones" "[I"]
def wsX5_fold_r2 : List Cond := [Cond.fieldLink RX4 28 "PlaFolder$State" "zeros" "[I", Cond.fieldLink RX4 31 "PlaFolder$State" "outs" "[I", Cond.static yX5_contains, Cond.code yX5_contains cX5_contains 2 (some .boolean), Cond.instanceMethod yX4_mateOf, Cond.selects RX4 yX4_mateOf yX4_mateOf, Cond.code yX4_mateOf cX4_mateOf 2 (some .int), Cond.fieldLink RX4 38 "PlaFolder$State" "lowerOf" "[I", Cond.fieldLink RX4 41 "PlaFolder$State" "upperOf" "[I", Cond.instanceMethod yX1_allow, Cond.initialized RX1, Cond.selects RX1 yX1_allow yX1_allow, Cond.code yX1_allow cX1_allow 3 (some .boolean), Cond.methodLink RX1 47 yX1_withAllAbove, Cond.instanceMethod yX1_withAllAbove, Cond.selects RX1 yX1_withAllAbove yX1_withAllAbove, Cond.code yX1_withAllAbove cX1_withAllAbove 4 (some .int), Cond.fieldLink RX1 9 "PlaFolder$Demands" "above" "[I", Cond.instanceMethod yX2_push, Cond.initialized RX2, Cond.selects RX2 yX2_push yX2_push, Cond.code yX2_push cX2_push 2 none, Cond.fieldLink RX2 17 "PlaFolder$History" "count" "I", Cond.fieldLink RX2 11 "PlaFolder$History" "saved" "[LPlaFolder$State;"]
def wsX5_fold_r3 : List Cond := [Cond.methodLink RX2 22 yX2_dropOldest, Cond.instanceMethod yX2_dropOldest, Cond.selects RX2 yX2_dropOldest yX2_dropOldest, Cond.code yX2_dropOldest cX2_dropOldest 3 none, Cond.instanceMethod yX4_copyFrom, Cond.selects RX4 yX4_copyFrom yX4_copyFrom, Cond.code yX4_copyFrom cX4_copyFrom 2 none, Cond.fieldLink RX4 21 "PlaFolder$State" "foldCount" "I", Cond.methodLink RX4 50 arraycopyName, Cond.native arraycopyName, Cond.static arraycopyName, Cond.initialized "java/lang/System", Cond.fieldLink RX4 34 "PlaFolder$State" "words" "[J", Cond.instanceMethod yX4_join, Cond.selects RX4 yX4_join yX4_join, Cond.code yX4_join cX4_join 3 none, Cond.methodLink RX5 138 yX5_foldsChanged, Cond.instanceMethod yX5_foldsChanged, Cond.selects RX5 yX5_foldsChanged yX5_foldsChanged, Cond.code yX5_foldsChanged cX5_foldsChanged 1 none, Cond.fieldLink RX5 33 "PlaFolder" "rows" "LPlaFolder$RowOrder;", Cond.instanceMethod yX1_collect, Cond.selects RX1 yX1_collect yX1_collect, Cond.code yX1_collect cX1_collect 4 none]
def wsX5_fold_r4 : List Cond := [Cond.methodLink RX1 27 yX1_clear, Cond.instanceMethod yX1_clear, Cond.selects RX1 yX1_clear yX1_clear, Cond.code yX1_clear cX1_clear 1 none, Cond.methodLink RX1 15 yJ7_fill_53178, Cond.static yJ7_fill_53178, Cond.initialized RJ7, Cond.code yJ7_fill_53178 cJ7_fill_53178 4 none, Cond.methodLink RX1 39 yX1_add, Cond.instanceMethod yX1_add, Cond.selects RX1 yX1_add yX1_add, Cond.code yX1_add cX1_add 5 none, Cond.instanceMethod yX3_build, Cond.initialized RX3, Cond.selects RX3 yX3_build yX3_build, Cond.code yX3_build cX3_build 6 none, Cond.fieldLink RX3 9 "PlaFolder$RowOrder" "termInRow" "[I", Cond.fieldLink RX3 15 "PlaFolder$RowOrder" "rowOfTerm" "[I", Cond.methodLink RX3 18 yX3_nextTerm, Cond.static yX3_nextTerm, Cond.code yX3_nextTerm cX3_nextTerm 4 (some .int)]
def wsX5_fold : List Cond := .code yX5_fold cX5_fold 3 (some .int) :: ((wsX5_fold_r1 ++ (wsX5_fold_r2 ++ (wsX5_fold_r3 ++ wsX5_fold_r4))) ++ wsX50 ++ wsX40 ++ wsX10 ++ wsX20 ++ wsX30)
def wsX5_unfold_r1 : List Cond := [Cond.fieldLink RX5 12 "PlaFolder" "state" "LPlaFolder$State;", Cond.fieldLink RX5 19 "PlaFolder" "history" "LPlaFolder$History;", Cond.instanceMethod yX4_hasColumn, Cond.initialized RX4, Cond.selects RX4 yX4_hasColumn yX4_hasColumn, Cond.code yX4_hasColumn cX4_hasColumn 2 (some .boolean), Cond.fieldLink RX4 9 "PlaFolder$State" "inputs" "I", Cond.fieldLink RX4 15 "PlaFolder$State" "outputs" "I", Cond.methodLink RX5 48 yX5_fail, Cond.instanceMethod yX5_fail, Cond.selects RX5 yX5_fail yX5_fail, Cond.initialized RX5, Cond.code yX5_fail cX5_fail 2 (some .int), Cond.fieldLink RX5 44 "PlaFolder" "errors" "[I", Cond.instanceMethod yX4_mateOf, Cond.selects RX4 yX4_mateOf yX4_mateOf, Cond.code yX4_mateOf cX4_mateOf 2 (some .int), Cond.fieldLink RX4 38 "PlaFolder$State" "lowerOf" "[I", Cond.fieldLink RX4 41 "PlaFolder$State" "upperOf" "[I", Cond.instanceMethod yX2_push, Cond.initialized RX2, Cond.selects RX2 yX2_push yX2_push, Cond.code yX2_push cX2_push 2 none, Cond.fieldLink RX2 17 "PlaFolder$History" "count" "I"]
def wsX5_unfold_r2 : List Cond := [Cond.fieldLink RX2 11 "PlaFolder$History" "saved" "[LPlaFolder$State;", Cond.methodLink RX2 22 yX2_dropOldest, Cond.instanceMethod yX2_dropOldest, Cond.selects RX2 yX2_dropOldest yX2_dropOldest, Cond.code yX2_dropOldest cX2_dropOldest 3 none, Cond.instanceMethod yX4_copyFrom, Cond.selects RX4 yX4_copyFrom yX4_copyFrom, Cond.code yX4_copyFrom cX4_copyFrom 2 none, Cond.fieldLink RX4 18 "PlaFolder$State" "termCount" "I", Cond.fieldLink RX4 21 "PlaFolder$State" "foldCount" "I", Cond.fieldLink RX4 24 "PlaFolder$State" "ones" "[I", Cond.methodLink RX4 50 arraycopyName, Cond.native arraycopyName, Cond.static arraycopyName, Cond.initialized "java/lang/System", Cond.fieldLink RX4 28 "PlaFolder$State" "zeros" "[I", Cond.fieldLink RX4 31 "PlaFolder$State" "outs" "[I", Cond.fieldLink RX4 34 "PlaFolder$State" "words" "[J", Cond.instanceMethod yX4_part, Cond.selects RX4 yX4_part yX4_part, Cond.code yX4_part cX4_part 3 none, Cond.methodLink RX4 83 yX4_mateOf, Cond.methodLink RX5 138 yX5_foldsChanged, Cond.instanceMethod yX5_foldsChanged]
def wsX5_unfold_r3 : List Cond := [Cond.selects RX5 yX5_foldsChanged yX5_foldsChanged, Cond.code yX5_foldsChanged cX5_foldsChanged 1 none, Cond.fieldLink RX5 26 "PlaFolder" "demands" "LPlaFolder$Demands;", Cond.fieldLink RX5 33 "PlaFolder" "rows" "LPlaFolder$RowOrder;", Cond.instanceMethod yX1_collect, Cond.initialized RX1, Cond.selects RX1 yX1_collect yX1_collect, Cond.code yX1_collect cX1_collect 4 none, Cond.methodLink RX1 27 yX1_clear, Cond.instanceMethod yX1_clear, Cond.selects RX1 yX1_clear yX1_clear, Cond.code yX1_clear cX1_clear 1 none, Cond.fieldLink RX1 9 "PlaFolder$Demands" "above" "[I", Cond.methodLink RX1 15 yJ7_fill_53178, Cond.static yJ7_fill_53178, Cond.initialized RJ7, Cond.code yJ7_fill_53178 cJ7_fill_53178 4 none, Cond.instanceMethod yX4_termsOfColumn, Cond.selects RX4 yX4_termsOfColumn yX4_termsOfColumn, Cond.code yX4_termsOfColumn cX4_termsOfColumn 5 (some .int), Cond.static yX5_contains, Cond.code yX5_contains cX5_contains 2 (some .boolean), Cond.methodLink RX1 39 yX1_add, Cond.instanceMethod yX1_add]
def wsX5_unfold_r4 : List Cond := [Cond.selects RX1 yX1_add yX1_add, Cond.code yX1_add cX1_add 5 none, Cond.methodLink RX1 47 yX1_withAllAbove, Cond.instanceMethod yX1_withAllAbove, Cond.selects RX1 yX1_withAllAbove yX1_withAllAbove, Cond.code yX1_withAllAbove cX1_withAllAbove 4 (some .int), Cond.instanceMethod yX3_build, Cond.initialized RX3, Cond.selects RX3 yX3_build yX3_build, Cond.code yX3_build cX3_build 6 none, Cond.fieldLink RX3 9 "PlaFolder$RowOrder" "termInRow" "[I", Cond.fieldLink RX3 15 "PlaFolder$RowOrder" "rowOfTerm" "[I", Cond.methodLink RX3 18 yX3_nextTerm, Cond.static yX3_nextTerm, Cond.code yX3_nextTerm cX3_nextTerm 4 (some .int)]
def wsX5_unfold : List Cond := .code yX5_unfold cX5_unfold 2 (some .int) :: ((wsX5_unfold_r1 ++ (wsX5_unfold_r2 ++ (wsX5_unfold_r3 ++ wsX5_unfold_r4))) ++ wsX50 ++ wsX40 ++ wsX20 ++ wsX10 ++ wsX30)
def wsX5_partner : List Cond := .code yX5_partner cX5_partner 2 (some .int) :: ([.fieldLink RX5 12 "PlaFolder" "state" "LPlaFolder$State;", .instanceMethod yX4_hasColumn, .initialized RX4, .selects RX4 yX4_hasColumn yX4_hasColumn, .code yX4_hasColumn cX4_hasColumn 2 (some .boolean), .fieldLink RX4 9 "PlaFolder$State" "inputs" "I", .fieldLink RX4 15 "PlaFolder$State" "outputs" "I", .methodLink RX5 48 yX5_fail, .instanceMethod yX5_fail, .selects RX5 yX5_fail yX5_fail, .initialized RX5, .code yX5_fail cX5_fail 2 (some .int), .fieldLink RX5 44 "PlaFolder" "errors" "[I", .instanceMethod yX4_mateOf, .selects RX4 yX4_mateOf yX4_mateOf, .code yX4_mateOf cX4_mateOf 2 (some .int), .fieldLink RX4 38 "PlaFolder$State" "lowerOf" "[I", .fieldLink RX4 41 "PlaFolder$State" "upperOf" "[I"] ++ wsX50 ++ wsX40)
def wsX5_folds : List Cond := .code yX5_folds cX5_folds 1 (some .int) :: ([.fieldLink RX5 12 "PlaFolder" "state" "LPlaFolder$State;"] ++ wsX50 ++ wsX40)
def wsX5_termAt : List Cond := .code yX5_termAt cX5_termAt 2 (some .int) :: ([.fieldLink RX5 12 "PlaFolder" "state" "LPlaFolder$State;", .fieldLink RX5 33 "PlaFolder" "rows" "LPlaFolder$RowOrder;", .instanceMethod yX4_hasTerm, .initialized RX4, .selects RX4 yX4_hasTerm yX4_hasTerm, .code yX4_hasTerm cX4_hasTerm 2 (some .boolean), .fieldLink RX4 18 "PlaFolder$State" "termCount" "I", .methodLink RX5 48 yX5_fail, .instanceMethod yX5_fail, .selects RX5 yX5_fail yX5_fail, .initialized RX5, .code yX5_fail cX5_fail 2 (some .int), .fieldLink RX5 44 "PlaFolder" "errors" "[I"] ++ wsX50 ++ wsX30 ++ wsX40)
def wsX5_rowOf : List Cond := .code yX5_rowOf cX5_rowOf 2 (some .int) :: ([.fieldLink RX5 12 "PlaFolder" "state" "LPlaFolder$State;", .fieldLink RX5 33 "PlaFolder" "rows" "LPlaFolder$RowOrder;", .instanceMethod yX4_hasTerm, .initialized RX4, .selects RX4 yX4_hasTerm yX4_hasTerm, .code yX4_hasTerm cX4_hasTerm 2 (some .boolean), .fieldLink RX4 18 "PlaFolder$State" "termCount" "I", .methodLink RX5 48 yX5_fail, .instanceMethod yX5_fail, .selects RX5 yX5_fail yX5_fail, .initialized RX5, .code yX5_fail cX5_fail 2 (some .int), .fieldLink RX5 44 "PlaFolder" "errors" "[I"] ++ wsX50 ++ wsX30 ++ wsX40)
def wsX5_mustPrecede : List Cond := .code yX5_mustPrecede cX5_mustPrecede 3 (some .int) :: ([.fieldLink RX5 12 "PlaFolder" "state" "LPlaFolder$State;", .fieldLink RX5 26 "PlaFolder" "demands" "LPlaFolder$Demands;", .instanceMethod yX4_hasTerm, .initialized RX4, .selects RX4 yX4_hasTerm yX4_hasTerm, .code yX4_hasTerm cX4_hasTerm 2 (some .boolean), .fieldLink RX4 18 "PlaFolder$State" "termCount" "I", .methodLink RX5 48 yX5_fail, .instanceMethod yX5_fail, .selects RX5 yX5_fail yX5_fail, .initialized RX5, .code yX5_fail cX5_fail 2 (some .int), .fieldLink RX5 44 "PlaFolder" "errors" "[I", .methodLink RX5 156 yX5_contains, .static yX5_contains, .code yX5_contains cX5_contains 2 (some .boolean), .methodLink RX5 115 yX5_flag, .static yX5_flag, .code yX5_flag cX5_flag 1 (some .int)] ++ wsX50 ++ wsX10 ++ wsX40)
def wsX5_area : List Cond := .code yX5_area cX5_area 1 (some .int) :: ([.fieldLink RX5 12 "PlaFolder" "state" "LPlaFolder$State;"] ++ wsX50 ++ wsX40)
def wsX5_span_r1 : List Cond := [Cond.fieldLink RX5 12 "PlaFolder" "state" "LPlaFolder$State;", Cond.fieldLink RX5 33 "PlaFolder" "rows" "LPlaFolder$RowOrder;", Cond.instanceMethod yX4_hasColumn, Cond.initialized RX4, Cond.selects RX4 yX4_hasColumn yX4_hasColumn, Cond.code yX4_hasColumn cX4_hasColumn 2 (some .boolean), Cond.fieldLink RX4 9 "PlaFolder$State" "inputs" "I", Cond.fieldLink RX4 15 "PlaFolder$State" "outputs" "I", Cond.methodLink RX5 48 yX5_fail, Cond.instanceMethod yX5_fail, Cond.selects RX5 yX5_fail yX5_fail, Cond.initialized RX5, Cond.code yX5_fail cX5_fail 2 (some .int), Cond.fieldLink RX5 44 "PlaFolder" "errors" "[I", Cond.instanceMethod yX4_termsOfColumn, Cond.selects RX4 yX4_termsOfColumn yX4_termsOfColumn, Cond.code yX4_termsOfColumn cX4_termsOfColumn 5 (some .int), Cond.fieldLink RX4 18 "PlaFolder$State" "termCount" "I", Cond.fieldLink RX4 24 "PlaFolder$State" "ones" "[I", Cond.fieldLink RX4 28 "PlaFolder$State" "zeros" "[I", Cond.fieldLink RX4 31 "PlaFolder$State" "outs" "[I", Cond.static yX5_contains, Cond.code yX5_contains cX5_contains 2 (some .boolean), Cond.instanceMethod yX3_spread]
def wsX5_span_r2 : List Cond := [Cond.initialized RX3, Cond.selects RX3 yX3_spread yX3_spread, Cond.code yX3_spread cX3_spread 6 (some .int), Cond.fieldLink RX3 15 "PlaFolder$RowOrder" "rowOfTerm" "[I", Cond.methodLink RX3 31 Lib.Math.min.name, Cond.static Lib.Math.min.name, Cond.initialized "java/lang/Math", Cond.code Lib.Math.min.name Lib.Math.min.code 2 (some .int), Cond.methodLink RX3 37 Lib.Math.max.name, Cond.static Lib.Math.max.name, Cond.code Lib.Math.max.name Lib.Math.max.code 2 (some .int)]
def wsX5_span : List Cond := .code yX5_span cX5_span 2 (some .int) :: ((wsX5_span_r1 ++ wsX5_span_r2) ++ wsX50 ++ wsX40 ++ wsX30)
def wsX5_findBest_r1 : List Cond := [Cond.fieldLink RX5 40 "PlaFolder" "best" "LPlaFolder$BestFolding;", Cond.fieldLink RX5 12 "PlaFolder" "state" "LPlaFolder$State;", Cond.instanceMethod yX0_search, Cond.initialized RX0, Cond.selects RX0 yX0_search yX0_search, Cond.code yX0_search cX0_search 2 none, Cond.fieldLink RX0 15 "PlaFolder$BestFolding" "count" "I", Cond.fieldLink RX0 9 "PlaFolder$BestFolding" "known" "Z", Cond.methodLink RX0 45 yX0_foldableColumns, Cond.instanceMethod yX0_foldableColumns, Cond.selects RX0 yX0_foldableColumns yX0_foldableColumns, Cond.code yX0_foldableColumns cX0_foldableColumns 4 (some .int), Cond.fieldLink RX0 32 "PlaFolder$BestFolding" "used" "[I", Cond.fieldLink RX0 35 "PlaFolder$BestFolding" "mates" "[I", Cond.instanceMethod yX4_termsOfColumn, Cond.initialized RX4, Cond.selects RX4 yX4_termsOfColumn yX4_termsOfColumn, Cond.code yX4_termsOfColumn cX4_termsOfColumn 5 (some .int), Cond.fieldLink RX4 18 "PlaFolder$State" "termCount" "I", Cond.fieldLink RX4 24 "PlaFolder$State" "ones" "[I", Cond.fieldLink RX4 28 "PlaFolder$State" "zeros" "[I", Cond.fieldLink RX4 31 "PlaFolder$State" "outs" "[I", Cond.static yX5_contains, Cond.initialized RX5]
def wsX5_findBest_r2 : List Cond := [Cond.code yX5_contains cX5_contains 2 (some .boolean), Cond.methodLink RX0 59 yX0_matesOf, Cond.static yX0_matesOf, Cond.code yX0_matesOf cX0_matesOf 4 (some .int), Cond.instanceMethod yX4_hasColumn, Cond.selects RX4 yX4_hasColumn yX4_hasColumn, Cond.code yX4_hasColumn cX4_hasColumn 2 (some .boolean), Cond.fieldLink RX4 9 "PlaFolder$State" "inputs" "I", Cond.fieldLink RX4 15 "PlaFolder$State" "outputs" "I", Cond.instanceMethod yX4_isPair, Cond.selects RX4 yX4_isPair yX4_isPair, Cond.code yX4_isPair cX4_isPair 4 (some .boolean), Cond.methodLink RX4 79 yX4_termsOfColumn, Cond.methodLink RX0 49 yX0_extend, Cond.instanceMethod yX0_extend, Cond.selects RX0 yX0_extend yX0_extend, Cond.code yX0_extend cX0_extend 5 none, Cond.methodLink RX0 71 yX0_keep, Cond.instanceMethod yX0_keep, Cond.selects RX0 yX0_keep yX0_keep, Cond.code yX0_keep cX0_keep 2 none, Cond.fieldLink RX0 26 "PlaFolder$BestFolding" "triedUpper" "[I", Cond.fieldLink RX0 19 "PlaFolder$BestFolding" "upper" "[I", Cond.methodLink RX0 96 arraycopyName]
def wsX5_findBest_r3 : List Cond := [Cond.native arraycopyName, Cond.static arraycopyName, Cond.initialized "java/lang/System", Cond.fieldLink RX0 29 "PlaFolder$BestFolding" "triedLower" "[I", Cond.fieldLink RX0 23 "PlaFolder$BestFolding" "lower" "[I", Cond.methodLink RX0 75 yX0_mostFolds, Cond.static yX0_mostFolds, Cond.code yX0_mostFolds cX0_mostFolds 2 (some .int), Cond.methodLink RX0 102 yX0_mostOfKind, Cond.static yX0_mostOfKind, Cond.code yX0_mostOfKind cX0_mostOfKind 3 (some .int), Cond.methodLink RX0 110 Lib.Math.min.name, Cond.static Lib.Math.min.name, Cond.initialized "java/lang/Math", Cond.code Lib.Math.min.name Lib.Math.min.code 2 (some .int), Cond.methodLink RX0 105 yJ6_bitCount_0f7a4, Cond.static yJ6_bitCount_0f7a4, Cond.initialized RJ6, Cond.code yJ6_bitCount_0f7a4 cJ6_bitCount_0f7a4 1 (some .int), Cond.constant RJ6 265 (1431655765), Cond.constant RJ6 266 (858993459), Cond.constant RJ6 267 (252645135), Cond.methodLink RX0 82 yX0_tryLowers, Cond.instanceMethod yX0_tryLowers]
def wsX5_findBest_r4 : List Cond := [Cond.selects RX0 yX0_tryLowers yX0_tryLowers, Cond.code yX0_tryLowers cX0_tryLowers 6 none, Cond.fieldLink RX0 40 "PlaFolder$BestFolding" "demandsAt" "[LPlaFolder$Demands;", Cond.instanceMethod yX1_allow, Cond.initialized RX1, Cond.selects RX1 yX1_allow yX1_allow, Cond.code yX1_allow cX1_allow 3 (some .boolean), Cond.methodLink RX1 47 yX1_withAllAbove, Cond.instanceMethod yX1_withAllAbove, Cond.selects RX1 yX1_withAllAbove yX1_withAllAbove, Cond.code yX1_withAllAbove cX1_withAllAbove 4 (some .int), Cond.fieldLink RX1 9 "PlaFolder$Demands" "above" "[I", Cond.instanceMethod yX1_copyFrom, Cond.selects RX1 yX1_copyFrom yX1_copyFrom, Cond.code yX1_copyFrom cX1_copyFrom 2 none, Cond.methodLink RX1 21 arraycopyName, Cond.instanceMethod yX1_add, Cond.selects RX1 yX1_add yX1_add, Cond.code yX1_add cX1_add 5 none]
def wsX5_findBest : List Cond := .code yX5_findBest cX5_findBest 1 none :: ((wsX5_findBest_r1 ++ (wsX5_findBest_r2 ++ (wsX5_findBest_r3 ++ wsX5_findBest_r4))) ++ wsX50 ++ wsX00 ++ wsX40 ++ wsX10)
def wsX5_bestUpper_r1 : List Cond := [Cond.fieldLink RX5 40 "PlaFolder" "best" "LPlaFolder$BestFolding;", Cond.methodLink RX5 48 yX5_fail, Cond.instanceMethod yX5_fail, Cond.selects RX5 yX5_fail yX5_fail, Cond.initialized RX5, Cond.code yX5_fail cX5_fail 2 (some .int), Cond.fieldLink RX5 44 "PlaFolder" "errors" "[I", Cond.methodLink RX5 163 yX5_findBest, Cond.instanceMethod yX5_findBest, Cond.selects RX5 yX5_findBest yX5_findBest, Cond.code yX5_findBest cX5_findBest 1 none, Cond.fieldLink RX5 12 "PlaFolder" "state" "LPlaFolder$State;", Cond.instanceMethod yX0_search, Cond.initialized RX0, Cond.selects RX0 yX0_search yX0_search, Cond.code yX0_search cX0_search 2 none, Cond.fieldLink RX0 15 "PlaFolder$BestFolding" "count" "I", Cond.fieldLink RX0 9 "PlaFolder$BestFolding" "known" "Z", Cond.methodLink RX0 45 yX0_foldableColumns, Cond.instanceMethod yX0_foldableColumns, Cond.selects RX0 yX0_foldableColumns yX0_foldableColumns, Cond.code yX0_foldableColumns cX0_foldableColumns 4 (some .int), Cond.fieldLink RX0 32 "PlaFolder$BestFolding" "used" "[I", Cond.fieldLink RX0 35 "PlaFolder$BestFolding" "mates" "[I"]
def wsX5_bestUpper_r2 : List Cond := [Cond.instanceMethod yX4_termsOfColumn, Cond.initialized RX4, Cond.selects RX4 yX4_termsOfColumn yX4_termsOfColumn, Cond.code yX4_termsOfColumn cX4_termsOfColumn 5 (some .int), Cond.fieldLink RX4 18 "PlaFolder$State" "termCount" "I", Cond.fieldLink RX4 24 "PlaFolder$State" "ones" "[I", Cond.fieldLink RX4 28 "PlaFolder$State" "zeros" "[I", Cond.fieldLink RX4 31 "PlaFolder$State" "outs" "[I", Cond.static yX5_contains, Cond.code yX5_contains cX5_contains 2 (some .boolean), Cond.methodLink RX0 59 yX0_matesOf, Cond.static yX0_matesOf, Cond.code yX0_matesOf cX0_matesOf 4 (some .int), Cond.instanceMethod yX4_hasColumn, Cond.selects RX4 yX4_hasColumn yX4_hasColumn, Cond.code yX4_hasColumn cX4_hasColumn 2 (some .boolean), Cond.fieldLink RX4 9 "PlaFolder$State" "inputs" "I", Cond.fieldLink RX4 15 "PlaFolder$State" "outputs" "I", Cond.instanceMethod yX4_isPair, Cond.selects RX4 yX4_isPair yX4_isPair, Cond.code yX4_isPair cX4_isPair 4 (some .boolean), Cond.methodLink RX4 79 yX4_termsOfColumn, Cond.methodLink RX0 49 yX0_extend, Cond.instanceMethod yX0_extend]
def wsX5_bestUpper_r3 : List Cond := [Cond.selects RX0 yX0_extend yX0_extend, Cond.code yX0_extend cX0_extend 5 none, Cond.methodLink RX0 71 yX0_keep, Cond.instanceMethod yX0_keep, Cond.selects RX0 yX0_keep yX0_keep, Cond.code yX0_keep cX0_keep 2 none, Cond.fieldLink RX0 26 "PlaFolder$BestFolding" "triedUpper" "[I", Cond.fieldLink RX0 19 "PlaFolder$BestFolding" "upper" "[I", Cond.methodLink RX0 96 arraycopyName, Cond.native arraycopyName, Cond.static arraycopyName, Cond.initialized "java/lang/System", Cond.fieldLink RX0 29 "PlaFolder$BestFolding" "triedLower" "[I", Cond.fieldLink RX0 23 "PlaFolder$BestFolding" "lower" "[I", Cond.methodLink RX0 75 yX0_mostFolds, Cond.static yX0_mostFolds, Cond.code yX0_mostFolds cX0_mostFolds 2 (some .int), Cond.methodLink RX0 102 yX0_mostOfKind, Cond.static yX0_mostOfKind, Cond.code yX0_mostOfKind cX0_mostOfKind 3 (some .int), Cond.methodLink RX0 110 Lib.Math.min.name, Cond.static Lib.Math.min.name, Cond.initialized "java/lang/Math", Cond.code Lib.Math.min.name Lib.Math.min.code 2 (some .int)]
def wsX5_bestUpper_r4 : List Cond := [Cond.methodLink RX0 105 yJ6_bitCount_0f7a4, Cond.static yJ6_bitCount_0f7a4, Cond.initialized RJ6, Cond.code yJ6_bitCount_0f7a4 cJ6_bitCount_0f7a4 1 (some .int), Cond.constant RJ6 265 (1431655765), Cond.constant RJ6 266 (858993459), Cond.constant RJ6 267 (252645135), Cond.methodLink RX0 82 yX0_tryLowers, Cond.instanceMethod yX0_tryLowers, Cond.selects RX0 yX0_tryLowers yX0_tryLowers, Cond.code yX0_tryLowers cX0_tryLowers 6 none, Cond.fieldLink RX0 40 "PlaFolder$BestFolding" "demandsAt" "[LPlaFolder$Demands;", Cond.instanceMethod yX1_allow, Cond.initialized RX1, Cond.selects RX1 yX1_allow yX1_allow, Cond.code yX1_allow cX1_allow 3 (some .boolean), Cond.methodLink RX1 47 yX1_withAllAbove, Cond.instanceMethod yX1_withAllAbove, Cond.selects RX1 yX1_withAllAbove yX1_withAllAbove, Cond.code yX1_withAllAbove cX1_withAllAbove 4 (some .int), Cond.fieldLink RX1 9 "PlaFolder$Demands" "above" "[I", Cond.instanceMethod yX1_copyFrom, Cond.selects RX1 yX1_copyFrom yX1_copyFrom, Cond.code yX1_copyFrom cX1_copyFrom 2 none]
def wsX5_bestUpper_r5 : List Cond := [Cond.methodLink RX1 21 arraycopyName, Cond.instanceMethod yX1_add, Cond.selects RX1 yX1_add yX1_add, Cond.code yX1_add cX1_add 5 none]
def wsX5_bestUpper : List Cond := .code yX5_bestUpper cX5_bestUpper 2 (some .int) :: ((wsX5_bestUpper_r1 ++ (wsX5_bestUpper_r2 ++ (wsX5_bestUpper_r3 ++ (wsX5_bestUpper_r4 ++ wsX5_bestUpper_r5)))) ++ wsX50 ++ wsX00 ++ wsX40 ++ wsX10)
def wsX5_bestLower_r1 : List Cond := [Cond.fieldLink RX5 40 "PlaFolder" "best" "LPlaFolder$BestFolding;", Cond.methodLink RX5 48 yX5_fail, Cond.instanceMethod yX5_fail, Cond.selects RX5 yX5_fail yX5_fail, Cond.initialized RX5, Cond.code yX5_fail cX5_fail 2 (some .int), Cond.fieldLink RX5 44 "PlaFolder" "errors" "[I", Cond.methodLink RX5 163 yX5_findBest, Cond.instanceMethod yX5_findBest, Cond.selects RX5 yX5_findBest yX5_findBest, Cond.code yX5_findBest cX5_findBest 1 none, Cond.fieldLink RX5 12 "PlaFolder" "state" "LPlaFolder$State;", Cond.instanceMethod yX0_search, Cond.initialized RX0, Cond.selects RX0 yX0_search yX0_search, Cond.code yX0_search cX0_search 2 none, Cond.fieldLink RX0 15 "PlaFolder$BestFolding" "count" "I", Cond.fieldLink RX0 9 "PlaFolder$BestFolding" "known" "Z", Cond.methodLink RX0 45 yX0_foldableColumns, Cond.instanceMethod yX0_foldableColumns, Cond.selects RX0 yX0_foldableColumns yX0_foldableColumns, Cond.code yX0_foldableColumns cX0_foldableColumns 4 (some .int), Cond.fieldLink RX0 32 "PlaFolder$BestFolding" "used" "[I", Cond.fieldLink RX0 35 "PlaFolder$BestFolding" "mates" "[I"]
def wsX5_bestLower_r2 : List Cond := [Cond.instanceMethod yX4_termsOfColumn, Cond.initialized RX4, Cond.selects RX4 yX4_termsOfColumn yX4_termsOfColumn, Cond.code yX4_termsOfColumn cX4_termsOfColumn 5 (some .int), Cond.fieldLink RX4 18 "PlaFolder$State" "termCount" "I", Cond.fieldLink RX4 24 "PlaFolder$State" "ones" "[I", Cond.fieldLink RX4 28 "PlaFolder$State" "zeros" "[I", Cond.fieldLink RX4 31 "PlaFolder$State" "outs" "[I", Cond.static yX5_contains, Cond.code yX5_contains cX5_contains 2 (some .boolean), Cond.methodLink RX0 59 yX0_matesOf, Cond.static yX0_matesOf, Cond.code yX0_matesOf cX0_matesOf 4 (some .int), Cond.instanceMethod yX4_hasColumn, Cond.selects RX4 yX4_hasColumn yX4_hasColumn, Cond.code yX4_hasColumn cX4_hasColumn 2 (some .boolean), Cond.fieldLink RX4 9 "PlaFolder$State" "inputs" "I", Cond.fieldLink RX4 15 "PlaFolder$State" "outputs" "I", Cond.instanceMethod yX4_isPair, Cond.selects RX4 yX4_isPair yX4_isPair, Cond.code yX4_isPair cX4_isPair 4 (some .boolean), Cond.methodLink RX4 79 yX4_termsOfColumn, Cond.methodLink RX0 49 yX0_extend, Cond.instanceMethod yX0_extend]
def wsX5_bestLower_r3 : List Cond := [Cond.selects RX0 yX0_extend yX0_extend, Cond.code yX0_extend cX0_extend 5 none, Cond.methodLink RX0 71 yX0_keep, Cond.instanceMethod yX0_keep, Cond.selects RX0 yX0_keep yX0_keep, Cond.code yX0_keep cX0_keep 2 none, Cond.fieldLink RX0 26 "PlaFolder$BestFolding" "triedUpper" "[I", Cond.fieldLink RX0 19 "PlaFolder$BestFolding" "upper" "[I", Cond.methodLink RX0 96 arraycopyName, Cond.native arraycopyName, Cond.static arraycopyName, Cond.initialized "java/lang/System", Cond.fieldLink RX0 29 "PlaFolder$BestFolding" "triedLower" "[I", Cond.fieldLink RX0 23 "PlaFolder$BestFolding" "lower" "[I", Cond.methodLink RX0 75 yX0_mostFolds, Cond.static yX0_mostFolds, Cond.code yX0_mostFolds cX0_mostFolds 2 (some .int), Cond.methodLink RX0 102 yX0_mostOfKind, Cond.static yX0_mostOfKind, Cond.code yX0_mostOfKind cX0_mostOfKind 3 (some .int), Cond.methodLink RX0 110 Lib.Math.min.name, Cond.static Lib.Math.min.name, Cond.initialized "java/lang/Math", Cond.code Lib.Math.min.name Lib.Math.min.code 2 (some .int)]
def wsX5_bestLower_r4 : List Cond := [Cond.methodLink RX0 105 yJ6_bitCount_0f7a4, Cond.static yJ6_bitCount_0f7a4, Cond.initialized RJ6, Cond.code yJ6_bitCount_0f7a4 cJ6_bitCount_0f7a4 1 (some .int), Cond.constant RJ6 265 (1431655765), Cond.constant RJ6 266 (858993459), Cond.constant RJ6 267 (252645135), Cond.methodLink RX0 82 yX0_tryLowers, Cond.instanceMethod yX0_tryLowers, Cond.selects RX0 yX0_tryLowers yX0_tryLowers, Cond.code yX0_tryLowers cX0_tryLowers 6 none, Cond.fieldLink RX0 40 "PlaFolder$BestFolding" "demandsAt" "[LPlaFolder$Demands;", Cond.instanceMethod yX1_allow, Cond.initialized RX1, Cond.selects RX1 yX1_allow yX1_allow, Cond.code yX1_allow cX1_allow 3 (some .boolean), Cond.methodLink RX1 47 yX1_withAllAbove, Cond.instanceMethod yX1_withAllAbove, Cond.selects RX1 yX1_withAllAbove yX1_withAllAbove, Cond.code yX1_withAllAbove cX1_withAllAbove 4 (some .int), Cond.fieldLink RX1 9 "PlaFolder$Demands" "above" "[I", Cond.instanceMethod yX1_copyFrom, Cond.selects RX1 yX1_copyFrom yX1_copyFrom, Cond.code yX1_copyFrom cX1_copyFrom 2 none]
def wsX5_bestLower_r5 : List Cond := [Cond.methodLink RX1 21 arraycopyName, Cond.instanceMethod yX1_add, Cond.selects RX1 yX1_add yX1_add, Cond.code yX1_add cX1_add 5 none]
def wsX5_bestLower : List Cond := .code yX5_bestLower cX5_bestLower 2 (some .int) :: ((wsX5_bestLower_r1 ++ (wsX5_bestLower_r2 ++ (wsX5_bestLower_r3 ++ (wsX5_bestLower_r4 ++ wsX5_bestLower_r5)))) ++ wsX50 ++ wsX00 ++ wsX40 ++ wsX10)
def wsX5_foldBest_r1 : List Cond := [Cond.fieldLink RX5 19 "PlaFolder" "history" "LPlaFolder$History;", Cond.fieldLink RX5 12 "PlaFolder" "state" "LPlaFolder$State;", Cond.fieldLink RX5 40 "PlaFolder" "best" "LPlaFolder$BestFolding;", Cond.methodLink RX5 163 yX5_findBest, Cond.instanceMethod yX5_findBest, Cond.selects RX5 yX5_findBest yX5_findBest, Cond.initialized RX5, Cond.code yX5_findBest cX5_findBest 1 none, Cond.instanceMethod yX0_search, Cond.initialized RX0, Cond.selects RX0 yX0_search yX0_search, Cond.code yX0_search cX0_search 2 none, Cond.fieldLink RX0 15 "PlaFolder$BestFolding" "count" "I", Cond.fieldLink RX0 9 "PlaFolder$BestFolding" "known" "Z", Cond.methodLink RX0 45 yX0_foldableColumns, Cond.instanceMethod yX0_foldableColumns, Cond.selects RX0 yX0_foldableColumns yX0_foldableColumns, Cond.code yX0_foldableColumns cX0_foldableColumns 4 (some .int), Cond.fieldLink RX0 32 "PlaFolder$BestFolding" "used" "[I", Cond.fieldLink RX0 35 "PlaFolder$BestFolding" "mates" "[I", Cond.instanceMethod yX4_termsOfColumn, Cond.initialized RX4, Cond.selects RX4 yX4_termsOfColumn yX4_termsOfColumn, Cond.code yX4_termsOfColumn cX4_termsOfColumn 5 (some .int)]
def wsX5_foldBest_r2 : List Cond := [Cond.fieldLink RX4 18 "PlaFolder$State" "termCount" "I", Cond.fieldLink RX4 24 "PlaFolder$State" "ones" "[I", Cond.fieldLink RX4 28 "PlaFolder$State" "zeros" "[I", Cond.fieldLink RX4 31 "PlaFolder$State" "outs" "[I", Cond.static yX5_contains, Cond.code yX5_contains cX5_contains 2 (some .boolean), Cond.methodLink RX0 59 yX0_matesOf, Cond.static yX0_matesOf, Cond.code yX0_matesOf cX0_matesOf 4 (some .int), Cond.instanceMethod yX4_hasColumn, Cond.selects RX4 yX4_hasColumn yX4_hasColumn, Cond.code yX4_hasColumn cX4_hasColumn 2 (some .boolean), Cond.fieldLink RX4 9 "PlaFolder$State" "inputs" "I", Cond.fieldLink RX4 15 "PlaFolder$State" "outputs" "I", Cond.instanceMethod yX4_isPair, Cond.selects RX4 yX4_isPair yX4_isPair, Cond.code yX4_isPair cX4_isPair 4 (some .boolean), Cond.methodLink RX4 79 yX4_termsOfColumn, Cond.methodLink RX0 49 yX0_extend, Cond.instanceMethod yX0_extend, Cond.selects RX0 yX0_extend yX0_extend, Cond.code yX0_extend cX0_extend 5 none, Cond.methodLink RX0 71 yX0_keep, Cond.instanceMethod yX0_keep]
def wsX5_foldBest_r3 : List Cond := [Cond.selects RX0 yX0_keep yX0_keep, Cond.code yX0_keep cX0_keep 2 none, Cond.fieldLink RX0 26 "PlaFolder$BestFolding" "triedUpper" "[I", Cond.fieldLink RX0 19 "PlaFolder$BestFolding" "upper" "[I", Cond.methodLink RX0 96 arraycopyName, Cond.native arraycopyName, Cond.static arraycopyName, Cond.initialized "java/lang/System", Cond.fieldLink RX0 29 "PlaFolder$BestFolding" "triedLower" "[I", Cond.fieldLink RX0 23 "PlaFolder$BestFolding" "lower" "[I", Cond.methodLink RX0 75 yX0_mostFolds, Cond.static yX0_mostFolds, Cond.code yX0_mostFolds cX0_mostFolds 2 (some .int), Cond.methodLink RX0 102 yX0_mostOfKind, Cond.static yX0_mostOfKind, Cond.code yX0_mostOfKind cX0_mostOfKind 3 (some .int), Cond.methodLink RX0 110 Lib.Math.min.name, Cond.static Lib.Math.min.name, Cond.initialized "java/lang/Math", Cond.code Lib.Math.min.name Lib.Math.min.code 2 (some .int), Cond.methodLink RX0 105 yJ6_bitCount_0f7a4, Cond.static yJ6_bitCount_0f7a4, Cond.initialized RJ6, Cond.code yJ6_bitCount_0f7a4 cJ6_bitCount_0f7a4 1 (some .int)]
def wsX5_foldBest_r4 : List Cond := [Cond.constant RJ6 265 (1431655765), Cond.constant RJ6 266 (858993459), Cond.constant RJ6 267 (252645135), Cond.methodLink RX0 82 yX0_tryLowers, Cond.instanceMethod yX0_tryLowers, Cond.selects RX0 yX0_tryLowers yX0_tryLowers, Cond.code yX0_tryLowers cX0_tryLowers 6 none, Cond.fieldLink RX0 40 "PlaFolder$BestFolding" "demandsAt" "[LPlaFolder$Demands;", Cond.instanceMethod yX1_allow, Cond.initialized RX1, Cond.selects RX1 yX1_allow yX1_allow, Cond.code yX1_allow cX1_allow 3 (some .boolean), Cond.methodLink RX1 47 yX1_withAllAbove, Cond.instanceMethod yX1_withAllAbove, Cond.selects RX1 yX1_withAllAbove yX1_withAllAbove, Cond.code yX1_withAllAbove cX1_withAllAbove 4 (some .int), Cond.fieldLink RX1 9 "PlaFolder$Demands" "above" "[I", Cond.instanceMethod yX1_copyFrom, Cond.selects RX1 yX1_copyFrom yX1_copyFrom, Cond.code yX1_copyFrom cX1_copyFrom 2 none, Cond.methodLink RX1 21 arraycopyName, Cond.instanceMethod yX1_add, Cond.selects RX1 yX1_add yX1_add, Cond.code yX1_add cX1_add 5 none]
def wsX5_foldBest_r5 : List Cond := [Cond.instanceMethod yX2_push, Cond.initialized RX2, Cond.selects RX2 yX2_push yX2_push, Cond.code yX2_push cX2_push 2 none, Cond.fieldLink RX2 17 "PlaFolder$History" "count" "I", Cond.fieldLink RX2 11 "PlaFolder$History" "saved" "[LPlaFolder$State;", Cond.methodLink RX2 22 yX2_dropOldest, Cond.instanceMethod yX2_dropOldest, Cond.selects RX2 yX2_dropOldest yX2_dropOldest, Cond.code yX2_dropOldest cX2_dropOldest 3 none, Cond.instanceMethod yX4_copyFrom, Cond.selects RX4 yX4_copyFrom yX4_copyFrom, Cond.code yX4_copyFrom cX4_copyFrom 2 none, Cond.fieldLink RX4 21 "PlaFolder$State" "foldCount" "I", Cond.methodLink RX4 50 arraycopyName, Cond.fieldLink RX4 34 "PlaFolder$State" "words" "[J", Cond.fieldLink RX4 38 "PlaFolder$State" "lowerOf" "[I", Cond.fieldLink RX4 41 "PlaFolder$State" "upperOf" "[I", Cond.instanceMethod yX4_partAll, Cond.selects RX4 yX4_partAll yX4_partAll, Cond.code yX4_partAll cX4_partAll 1 none, Cond.methodLink RX4 44 yJ7_fill_53178, Cond.static yJ7_fill_53178, Cond.initialized RJ7]
def wsX5_foldBest_r6 : List Cond := [Cond.code yJ7_fill_53178 cJ7_fill_53178 4 none, Cond.instanceMethod yX4_join, Cond.selects RX4 yX4_join yX4_join, Cond.code yX4_join cX4_join 3 none, Cond.methodLink RX5 138 yX5_foldsChanged, Cond.instanceMethod yX5_foldsChanged, Cond.selects RX5 yX5_foldsChanged yX5_foldsChanged, Cond.code yX5_foldsChanged cX5_foldsChanged 1 none, Cond.fieldLink RX5 26 "PlaFolder" "demands" "LPlaFolder$Demands;", Cond.fieldLink RX5 33 "PlaFolder" "rows" "LPlaFolder$RowOrder;", Cond.instanceMethod yX1_collect, Cond.selects RX1 yX1_collect yX1_collect, Cond.code yX1_collect cX1_collect 4 none, Cond.methodLink RX1 27 yX1_clear, Cond.instanceMethod yX1_clear, Cond.selects RX1 yX1_clear yX1_clear, Cond.code yX1_clear cX1_clear 1 none, Cond.methodLink RX1 15 yJ7_fill_53178, Cond.methodLink RX1 39 yX1_add, Cond.instanceMethod yX3_build, Cond.initialized RX3, Cond.selects RX3 yX3_build yX3_build, Cond.code yX3_build cX3_build 6 none, Cond.fieldLink RX3 9 "PlaFolder$RowOrder" "termInRow" "[I"]
def wsX5_foldBest_r7 : List Cond := [Cond.fieldLink RX3 15 "PlaFolder$RowOrder" "rowOfTerm" "[I", Cond.methodLink RX3 18 yX3_nextTerm, Cond.static yX3_nextTerm, Cond.code yX3_nextTerm cX3_nextTerm 4 (some .int), Cond.methodLink RX5 178 yX5_area, Cond.instanceMethod yX5_area, Cond.selects RX5 yX5_area yX5_area, Cond.code yX5_area cX5_area 1 (some .int)]
def wsX5_foldBest : List Cond := .code yX5_foldBest cX5_foldBest 2 (some .int) :: ((wsX5_foldBest_r1 ++ (wsX5_foldBest_r2 ++ (wsX5_foldBest_r3 ++ (wsX5_foldBest_r4 ++ (wsX5_foldBest_r5 ++ (wsX5_foldBest_r6 ++ wsX5_foldBest_r7)))))) ++ wsX50 ++ wsX00 ++ wsX40 ++ wsX10 ++ wsX20 ++ wsX30)
def wsX5_undo_r1 : List Cond := [Cond.fieldLink RX5 19 "PlaFolder" "history" "LPlaFolder$History;", Cond.fieldLink RX5 12 "PlaFolder" "state" "LPlaFolder$State;", Cond.methodLink RX5 48 yX5_fail, Cond.instanceMethod yX5_fail, Cond.selects RX5 yX5_fail yX5_fail, Cond.initialized RX5, Cond.code yX5_fail cX5_fail 2 (some .int), Cond.fieldLink RX5 44 "PlaFolder" "errors" "[I", Cond.instanceMethod yX2_pop, Cond.initialized RX2, Cond.selects RX2 yX2_pop yX2_pop, Cond.code yX2_pop cX2_pop 2 none, Cond.fieldLink RX2 17 "PlaFolder$History" "count" "I", Cond.fieldLink RX2 11 "PlaFolder$History" "saved" "[LPlaFolder$State;", Cond.instanceMethod yX4_copyFrom, Cond.initialized RX4, Cond.selects RX4 yX4_copyFrom yX4_copyFrom, Cond.code yX4_copyFrom cX4_copyFrom 2 none, Cond.fieldLink RX4 9 "PlaFolder$State" "inputs" "I", Cond.fieldLink RX4 15 "PlaFolder$State" "outputs" "I", Cond.fieldLink RX4 18 "PlaFolder$State" "termCount" "I", Cond.fieldLink RX4 21 "PlaFolder$State" "foldCount" "I", Cond.fieldLink RX4 24 "PlaFolder$State" "ones" "[I", Cond.methodLink RX4 50 arraycopyName]
def wsX5_undo_r2 : List Cond := [Cond.native arraycopyName, Cond.static arraycopyName, Cond.initialized "java/lang/System", Cond.fieldLink RX4 28 "PlaFolder$State" "zeros" "[I", Cond.fieldLink RX4 31 "PlaFolder$State" "outs" "[I", Cond.fieldLink RX4 34 "PlaFolder$State" "words" "[J", Cond.fieldLink RX4 38 "PlaFolder$State" "lowerOf" "[I", Cond.fieldLink RX4 41 "PlaFolder$State" "upperOf" "[I", Cond.methodLink RX5 64 yX5_termsChanged, Cond.instanceMethod yX5_termsChanged, Cond.selects RX5 yX5_termsChanged yX5_termsChanged, Cond.code yX5_termsChanged cX5_termsChanged 1 none, Cond.fieldLink RX5 40 "PlaFolder" "best" "LPlaFolder$BestFolding;", Cond.methodLink RX5 138 yX5_foldsChanged, Cond.instanceMethod yX5_foldsChanged, Cond.selects RX5 yX5_foldsChanged yX5_foldsChanged, Cond.code yX5_foldsChanged cX5_foldsChanged 1 none, Cond.fieldLink RX5 26 "PlaFolder" "demands" "LPlaFolder$Demands;", Cond.fieldLink RX5 33 "PlaFolder" "rows" "LPlaFolder$RowOrder;", Cond.instanceMethod yX1_collect, Cond.initialized RX1, Cond.selects RX1 yX1_collect yX1_collect, Cond.code yX1_collect cX1_collect 4 none, Cond.methodLink RX1 27 yX1_clear]
def wsX5_undo_r3 : List Cond := [Cond.instanceMethod yX1_clear, Cond.selects RX1 yX1_clear yX1_clear, Cond.code yX1_clear cX1_clear 1 none, Cond.fieldLink RX1 9 "PlaFolder$Demands" "above" "[I", Cond.methodLink RX1 15 yJ7_fill_53178, Cond.static yJ7_fill_53178, Cond.initialized RJ7, Cond.code yJ7_fill_53178 cJ7_fill_53178 4 none, Cond.instanceMethod yX4_termsOfColumn, Cond.selects RX4 yX4_termsOfColumn yX4_termsOfColumn, Cond.code yX4_termsOfColumn cX4_termsOfColumn 5 (some .int), Cond.static yX5_contains, Cond.code yX5_contains cX5_contains 2 (some .boolean), Cond.methodLink RX1 39 yX1_add, Cond.instanceMethod yX1_add, Cond.selects RX1 yX1_add yX1_add, Cond.code yX1_add cX1_add 5 none, Cond.methodLink RX1 47 yX1_withAllAbove, Cond.instanceMethod yX1_withAllAbove, Cond.selects RX1 yX1_withAllAbove yX1_withAllAbove, Cond.code yX1_withAllAbove cX1_withAllAbove 4 (some .int), Cond.instanceMethod yX3_build, Cond.initialized RX3, Cond.selects RX3 yX3_build yX3_build]
def wsX5_undo_r4 : List Cond := [Cond.code yX3_build cX3_build 6 none, Cond.fieldLink RX3 9 "PlaFolder$RowOrder" "termInRow" "[I", Cond.fieldLink RX3 15 "PlaFolder$RowOrder" "rowOfTerm" "[I", Cond.methodLink RX3 18 yX3_nextTerm, Cond.static yX3_nextTerm, Cond.code yX3_nextTerm cX3_nextTerm 4 (some .int)]
def wsX5_undo : List Cond := .code yX5_undo cX5_undo 1 (some .int) :: ((wsX5_undo_r1 ++ (wsX5_undo_r2 ++ (wsX5_undo_r3 ++ wsX5_undo_r4))) ++ wsX50 ++ wsX20 ++ wsX40 ++ wsX00 ++ wsX10 ++ wsX30)
def wsX5_errorCount : List Cond := .code yX5_errorCount cX5_errorCount 2 (some .int) :: ([.fieldLink RX5 44 "PlaFolder" "errors" "[I", .methodLink RX5 48 yX5_fail, .instanceMethod yX5_fail, .selects RX5 yX5_fail yX5_fail, .initialized RX5, .code yX5_fail cX5_fail 2 (some .int)] ++ wsX50)
def wsX5_mix : List Cond := .code yX5_mix cX5_mix 4 (some .long) :: ([.constantLong RX5 219 (31)])
def wsX5_mixTerms_r1 : List Cond := [Cond.fieldLink RX5 12 "PlaFolder" "state" "LPlaFolder$State;", Cond.fieldLink RX5 33 "PlaFolder" "rows" "LPlaFolder$RowOrder;", Cond.methodLink RX5 188 yX5_mix, Cond.static yX5_mix, Cond.initialized RX5, Cond.code yX5_mix cX5_mix 4 (some .long), Cond.constantLong RX5 219 (31), Cond.instanceMethod yX4_isSpare, Cond.initialized RX4, Cond.selects RX4 yX4_isSpare yX4_isSpare, Cond.code yX4_isSpare cX4_isSpare 3 (some .boolean), Cond.fieldLink RX4 15 "PlaFolder$State" "outputs" "I", Cond.fieldLink RX4 31 "PlaFolder$State" "outs" "[I", Cond.fieldLink RX4 34 "PlaFolder$State" "words" "[J", Cond.constantLong RX4 74 (-1), Cond.static yX5_contains, Cond.code yX5_contains cX5_contains 2 (some .boolean), Cond.methodLink RX4 76 yX4_wordsOfOutput, Cond.instanceMethod yX4_wordsOfOutput, Cond.selects RX4 yX4_wordsOfOutput yX4_wordsOfOutput, Cond.code yX4_wordsOfOutput cX4_wordsOfOutput 6 (some .long), Cond.fieldLink RX4 18 "PlaFolder$State" "termCount" "I", Cond.methodLink RX5 115 yX5_flag, Cond.static yX5_flag]
def wsX5_mixTerms_r2 : List Cond := [Cond.code yX5_flag cX5_flag 1 (some .int)]
def wsX5_mixTerms : List Cond := .code yX5_mixTerms cX5_mixTerms 6 (some .long) :: ((wsX5_mixTerms_r1 ++ wsX5_mixTerms_r2) ++ wsX50 ++ wsX40 ++ wsX30)
def wsX5_mixColumns_r1 : List Cond := [Cond.fieldLink RX5 12 "PlaFolder" "state" "LPlaFolder$State;", Cond.fieldLink RX5 33 "PlaFolder" "rows" "LPlaFolder$RowOrder;", Cond.instanceMethod yX4_hasColumn, Cond.initialized RX4, Cond.selects RX4 yX4_hasColumn yX4_hasColumn, Cond.code yX4_hasColumn cX4_hasColumn 2 (some .boolean), Cond.fieldLink RX4 9 "PlaFolder$State" "inputs" "I", Cond.fieldLink RX4 15 "PlaFolder$State" "outputs" "I", Cond.instanceMethod yX4_termsOfColumn, Cond.selects RX4 yX4_termsOfColumn yX4_termsOfColumn, Cond.code yX4_termsOfColumn cX4_termsOfColumn 5 (some .int), Cond.fieldLink RX4 18 "PlaFolder$State" "termCount" "I", Cond.fieldLink RX4 24 "PlaFolder$State" "ones" "[I", Cond.fieldLink RX4 28 "PlaFolder$State" "zeros" "[I", Cond.fieldLink RX4 31 "PlaFolder$State" "outs" "[I", Cond.static yX5_contains, Cond.initialized RX5, Cond.code yX5_contains cX5_contains 2 (some .boolean), Cond.methodLink RX5 188 yX5_mix, Cond.static yX5_mix, Cond.code yX5_mix cX5_mix 4 (some .long), Cond.constantLong RX5 219 (31), Cond.instanceMethod yX4_mateOf, Cond.selects RX4 yX4_mateOf yX4_mateOf]
def wsX5_mixColumns_r2 : List Cond := [Cond.code yX4_mateOf cX4_mateOf 2 (some .int), Cond.fieldLink RX4 38 "PlaFolder$State" "lowerOf" "[I", Cond.fieldLink RX4 41 "PlaFolder$State" "upperOf" "[I", Cond.instanceMethod yX3_spread, Cond.initialized RX3, Cond.selects RX3 yX3_spread yX3_spread, Cond.code yX3_spread cX3_spread 6 (some .int), Cond.fieldLink RX3 15 "PlaFolder$RowOrder" "rowOfTerm" "[I", Cond.methodLink RX3 31 Lib.Math.min.name, Cond.static Lib.Math.min.name, Cond.initialized "java/lang/Math", Cond.code Lib.Math.min.name Lib.Math.min.code 2 (some .int), Cond.methodLink RX3 37 Lib.Math.max.name, Cond.static Lib.Math.max.name, Cond.code Lib.Math.max.name Lib.Math.max.code 2 (some .int)]
def wsX5_mixColumns : List Cond := .code yX5_mixColumns cX5_mixColumns 7 (some .long) :: ((wsX5_mixColumns_r1 ++ wsX5_mixColumns_r2) ++ wsX50 ++ wsX40 ++ wsX30)
def wsX5_mixBest_r1 : List Cond := [Cond.fieldLink RX5 40 "PlaFolder" "best" "LPlaFolder$BestFolding;", Cond.methodLink RX5 163 yX5_findBest, Cond.instanceMethod yX5_findBest, Cond.selects RX5 yX5_findBest yX5_findBest, Cond.initialized RX5, Cond.code yX5_findBest cX5_findBest 1 none, Cond.fieldLink RX5 12 "PlaFolder" "state" "LPlaFolder$State;", Cond.instanceMethod yX0_search, Cond.initialized RX0, Cond.selects RX0 yX0_search yX0_search, Cond.code yX0_search cX0_search 2 none, Cond.fieldLink RX0 15 "PlaFolder$BestFolding" "count" "I", Cond.fieldLink RX0 9 "PlaFolder$BestFolding" "known" "Z", Cond.methodLink RX0 45 yX0_foldableColumns, Cond.instanceMethod yX0_foldableColumns, Cond.selects RX0 yX0_foldableColumns yX0_foldableColumns, Cond.code yX0_foldableColumns cX0_foldableColumns 4 (some .int), Cond.fieldLink RX0 32 "PlaFolder$BestFolding" "used" "[I", Cond.fieldLink RX0 35 "PlaFolder$BestFolding" "mates" "[I", Cond.instanceMethod yX4_termsOfColumn, Cond.initialized RX4, Cond.selects RX4 yX4_termsOfColumn yX4_termsOfColumn, Cond.code yX4_termsOfColumn cX4_termsOfColumn 5 (some .int), Cond.fieldLink RX4 18 "PlaFolder$State" "termCount" "I"]
def wsX5_mixBest_r2 : List Cond := [Cond.fieldLink RX4 24 "PlaFolder$State" "ones" "[I", Cond.fieldLink RX4 28 "PlaFolder$State" "zeros" "[I", Cond.fieldLink RX4 31 "PlaFolder$State" "outs" "[I", Cond.static yX5_contains, Cond.code yX5_contains cX5_contains 2 (some .boolean), Cond.methodLink RX0 59 yX0_matesOf, Cond.static yX0_matesOf, Cond.code yX0_matesOf cX0_matesOf 4 (some .int), Cond.instanceMethod yX4_hasColumn, Cond.selects RX4 yX4_hasColumn yX4_hasColumn, Cond.code yX4_hasColumn cX4_hasColumn 2 (some .boolean), Cond.fieldLink RX4 9 "PlaFolder$State" "inputs" "I", Cond.fieldLink RX4 15 "PlaFolder$State" "outputs" "I", Cond.instanceMethod yX4_isPair, Cond.selects RX4 yX4_isPair yX4_isPair, Cond.code yX4_isPair cX4_isPair 4 (some .boolean), Cond.methodLink RX4 79 yX4_termsOfColumn, Cond.methodLink RX0 49 yX0_extend, Cond.instanceMethod yX0_extend, Cond.selects RX0 yX0_extend yX0_extend, Cond.code yX0_extend cX0_extend 5 none, Cond.methodLink RX0 71 yX0_keep, Cond.instanceMethod yX0_keep, Cond.selects RX0 yX0_keep yX0_keep]
def wsX5_mixBest_r3 : List Cond := [Cond.code yX0_keep cX0_keep 2 none, Cond.fieldLink RX0 26 "PlaFolder$BestFolding" "triedUpper" "[I", Cond.fieldLink RX0 19 "PlaFolder$BestFolding" "upper" "[I", Cond.methodLink RX0 96 arraycopyName, Cond.native arraycopyName, Cond.static arraycopyName, Cond.initialized "java/lang/System", Cond.fieldLink RX0 29 "PlaFolder$BestFolding" "triedLower" "[I", Cond.fieldLink RX0 23 "PlaFolder$BestFolding" "lower" "[I", Cond.methodLink RX0 75 yX0_mostFolds, Cond.static yX0_mostFolds, Cond.code yX0_mostFolds cX0_mostFolds 2 (some .int), Cond.methodLink RX0 102 yX0_mostOfKind, Cond.static yX0_mostOfKind, Cond.code yX0_mostOfKind cX0_mostOfKind 3 (some .int), Cond.methodLink RX0 110 Lib.Math.min.name, Cond.static Lib.Math.min.name, Cond.initialized "java/lang/Math", Cond.code Lib.Math.min.name Lib.Math.min.code 2 (some .int), Cond.methodLink RX0 105 yJ6_bitCount_0f7a4, Cond.static yJ6_bitCount_0f7a4, Cond.initialized RJ6, Cond.code yJ6_bitCount_0f7a4 cJ6_bitCount_0f7a4 1 (some .int), Cond.constant RJ6 265 (1431655765)]
def wsX5_mixBest_r4 : List Cond := [Cond.constant RJ6 266 (858993459), Cond.constant RJ6 267 (252645135), Cond.methodLink RX0 82 yX0_tryLowers, Cond.instanceMethod yX0_tryLowers, Cond.selects RX0 yX0_tryLowers yX0_tryLowers, Cond.code yX0_tryLowers cX0_tryLowers 6 none, Cond.fieldLink RX0 40 "PlaFolder$BestFolding" "demandsAt" "[LPlaFolder$Demands;", Cond.instanceMethod yX1_allow, Cond.initialized RX1, Cond.selects RX1 yX1_allow yX1_allow, Cond.code yX1_allow cX1_allow 3 (some .boolean), Cond.methodLink RX1 47 yX1_withAllAbove, Cond.instanceMethod yX1_withAllAbove, Cond.selects RX1 yX1_withAllAbove yX1_withAllAbove, Cond.code yX1_withAllAbove cX1_withAllAbove 4 (some .int), Cond.fieldLink RX1 9 "PlaFolder$Demands" "above" "[I", Cond.instanceMethod yX1_copyFrom, Cond.selects RX1 yX1_copyFrom yX1_copyFrom, Cond.code yX1_copyFrom cX1_copyFrom 2 none, Cond.methodLink RX1 21 arraycopyName, Cond.instanceMethod yX1_add, Cond.selects RX1 yX1_add yX1_add, Cond.code yX1_add cX1_add 5 none, Cond.methodLink RX5 188 yX5_mix]
def wsX5_mixBest_r5 : List Cond := [Cond.static yX5_mix, Cond.code yX5_mix cX5_mix 4 (some .long), Cond.constantLong RX5 219 (31)]
def wsX5_mixBest : List Cond := .code yX5_mixBest cX5_mixBest 6 (some .long) :: ((wsX5_mixBest_r1 ++ (wsX5_mixBest_r2 ++ (wsX5_mixBest_r3 ++ (wsX5_mixBest_r4 ++ wsX5_mixBest_r5)))) ++ wsX50 ++ wsX00 ++ wsX40 ++ wsX10)
def wsX5_digest_r1 : List Cond := [Cond.constantLong RX5 186 (2713), Cond.fieldLink RX5 44 "PlaFolder" "errors" "[I", Cond.fieldLink RX5 12 "PlaFolder" "state" "LPlaFolder$State;", Cond.fieldLink RX5 19 "PlaFolder" "history" "LPlaFolder$History;", Cond.methodLink RX5 188 yX5_mix, Cond.static yX5_mix, Cond.initialized RX5, Cond.code yX5_mix cX5_mix 4 (some .long), Cond.constantLong RX5 219 (31), Cond.methodLink RX5 192 yX5_mixTerms, Cond.instanceMethod yX5_mixTerms, Cond.selects RX5 yX5_mixTerms yX5_mixTerms, Cond.code yX5_mixTerms cX5_mixTerms 6 (some .long), Cond.fieldLink RX5 33 "PlaFolder" "rows" "LPlaFolder$RowOrder;", Cond.instanceMethod yX4_isSpare, Cond.initialized RX4, Cond.selects RX4 yX4_isSpare yX4_isSpare, Cond.code yX4_isSpare cX4_isSpare 3 (some .boolean), Cond.fieldLink RX4 15 "PlaFolder$State" "outputs" "I", Cond.fieldLink RX4 31 "PlaFolder$State" "outs" "[I", Cond.fieldLink RX4 34 "PlaFolder$State" "words" "[J", Cond.constantLong RX4 74 (-1), Cond.static yX5_contains, Cond.code yX5_contains cX5_contains 2 (some .boolean)]
def wsX5_digest_r2 : List Cond := [Cond.methodLink RX4 76 yX4_wordsOfOutput, Cond.instanceMethod yX4_wordsOfOutput, Cond.selects RX4 yX4_wordsOfOutput yX4_wordsOfOutput, Cond.code yX4_wordsOfOutput cX4_wordsOfOutput 6 (some .long), Cond.fieldLink RX4 18 "PlaFolder$State" "termCount" "I", Cond.methodLink RX5 115 yX5_flag, Cond.static yX5_flag, Cond.code yX5_flag cX5_flag 1 (some .int), Cond.methodLink RX5 196 yX5_mixColumns, Cond.instanceMethod yX5_mixColumns, Cond.selects RX5 yX5_mixColumns yX5_mixColumns, Cond.code yX5_mixColumns cX5_mixColumns 7 (some .long), Cond.instanceMethod yX4_hasColumn, Cond.selects RX4 yX4_hasColumn yX4_hasColumn, Cond.code yX4_hasColumn cX4_hasColumn 2 (some .boolean), Cond.fieldLink RX4 9 "PlaFolder$State" "inputs" "I", Cond.instanceMethod yX4_termsOfColumn, Cond.selects RX4 yX4_termsOfColumn yX4_termsOfColumn, Cond.code yX4_termsOfColumn cX4_termsOfColumn 5 (some .int), Cond.fieldLink RX4 24 "PlaFolder$State" "ones" "[I", Cond.fieldLink RX4 28 "PlaFolder$State" "zeros" "[I", Cond.instanceMethod yX4_mateOf, Cond.selects RX4 yX4_mateOf yX4_mateOf, Cond.code yX4_mateOf cX4_mateOf 2 (some .int)]
def wsX5_digest_r3 : List Cond := [Cond.fieldLink RX4 38 "PlaFolder$State" "lowerOf" "[I", Cond.fieldLink RX4 41 "PlaFolder$State" "upperOf" "[I", Cond.instanceMethod yX3_spread, Cond.initialized RX3, Cond.selects RX3 yX3_spread yX3_spread, Cond.code yX3_spread cX3_spread 6 (some .int), Cond.fieldLink RX3 15 "PlaFolder$RowOrder" "rowOfTerm" "[I", Cond.methodLink RX3 31 Lib.Math.min.name, Cond.static Lib.Math.min.name, Cond.initialized "java/lang/Math", Cond.code Lib.Math.min.name Lib.Math.min.code 2 (some .int), Cond.methodLink RX3 37 Lib.Math.max.name, Cond.static Lib.Math.max.name, Cond.code Lib.Math.max.name Lib.Math.max.code 2 (some .int), Cond.methodLink RX5 178 yX5_area, Cond.instanceMethod yX5_area, Cond.selects RX5 yX5_area yX5_area, Cond.code yX5_area cX5_area 1 (some .int), Cond.methodLink RX5 199 yX5_mixBest, Cond.instanceMethod yX5_mixBest, Cond.selects RX5 yX5_mixBest yX5_mixBest, Cond.code yX5_mixBest cX5_mixBest 6 (some .long), Cond.fieldLink RX5 40 "PlaFolder" "best" "LPlaFolder$BestFolding;", Cond.methodLink RX5 163 yX5_findBest]
def wsX5_digest_r4 : List Cond := [Cond.instanceMethod yX5_findBest, Cond.selects RX5 yX5_findBest yX5_findBest, Cond.code yX5_findBest cX5_findBest 1 none, Cond.instanceMethod yX0_search, Cond.initialized RX0, Cond.selects RX0 yX0_search yX0_search, Cond.code yX0_search cX0_search 2 none, Cond.fieldLink RX0 15 "PlaFolder$BestFolding" "count" "I", Cond.fieldLink RX0 9 "PlaFolder$BestFolding" "known" "Z", Cond.methodLink RX0 45 yX0_foldableColumns, Cond.instanceMethod yX0_foldableColumns, Cond.selects RX0 yX0_foldableColumns yX0_foldableColumns, Cond.code yX0_foldableColumns cX0_foldableColumns 4 (some .int), Cond.fieldLink RX0 32 "PlaFolder$BestFolding" "used" "[I", Cond.fieldLink RX0 35 "PlaFolder$BestFolding" "mates" "[I", Cond.methodLink RX0 59 yX0_matesOf, Cond.static yX0_matesOf, Cond.code yX0_matesOf cX0_matesOf 4 (some .int), Cond.instanceMethod yX4_isPair, Cond.selects RX4 yX4_isPair yX4_isPair, Cond.code yX4_isPair cX4_isPair 4 (some .boolean), Cond.methodLink RX4 79 yX4_termsOfColumn, Cond.methodLink RX0 49 yX0_extend, Cond.instanceMethod yX0_extend]
def wsX5_digest_r5 : List Cond := [Cond.selects RX0 yX0_extend yX0_extend, Cond.code yX0_extend cX0_extend 5 none, Cond.methodLink RX0 71 yX0_keep, Cond.instanceMethod yX0_keep, Cond.selects RX0 yX0_keep yX0_keep, Cond.code yX0_keep cX0_keep 2 none, Cond.fieldLink RX0 26 "PlaFolder$BestFolding" "triedUpper" "[I", Cond.fieldLink RX0 19 "PlaFolder$BestFolding" "upper" "[I", Cond.methodLink RX0 96 arraycopyName, Cond.native arraycopyName, Cond.static arraycopyName, Cond.initialized "java/lang/System", Cond.fieldLink RX0 29 "PlaFolder$BestFolding" "triedLower" "[I", Cond.fieldLink RX0 23 "PlaFolder$BestFolding" "lower" "[I", Cond.methodLink RX0 75 yX0_mostFolds, Cond.static yX0_mostFolds, Cond.code yX0_mostFolds cX0_mostFolds 2 (some .int), Cond.methodLink RX0 102 yX0_mostOfKind, Cond.static yX0_mostOfKind, Cond.code yX0_mostOfKind cX0_mostOfKind 3 (some .int), Cond.methodLink RX0 110 Lib.Math.min.name, Cond.methodLink RX0 105 yJ6_bitCount_0f7a4, Cond.static yJ6_bitCount_0f7a4, Cond.initialized RJ6]
def wsX5_digest_r6 : List Cond := [Cond.code yJ6_bitCount_0f7a4 cJ6_bitCount_0f7a4 1 (some .int), Cond.constant RJ6 265 (1431655765), Cond.constant RJ6 266 (858993459), Cond.constant RJ6 267 (252645135), Cond.methodLink RX0 82 yX0_tryLowers, Cond.instanceMethod yX0_tryLowers, Cond.selects RX0 yX0_tryLowers yX0_tryLowers, Cond.code yX0_tryLowers cX0_tryLowers 6 none, Cond.fieldLink RX0 40 "PlaFolder$BestFolding" "demandsAt" "[LPlaFolder$Demands;", Cond.instanceMethod yX1_allow, Cond.initialized RX1, Cond.selects RX1 yX1_allow yX1_allow, Cond.code yX1_allow cX1_allow 3 (some .boolean), Cond.methodLink RX1 47 yX1_withAllAbove, Cond.instanceMethod yX1_withAllAbove, Cond.selects RX1 yX1_withAllAbove yX1_withAllAbove, Cond.code yX1_withAllAbove cX1_withAllAbove 4 (some .int), Cond.fieldLink RX1 9 "PlaFolder$Demands" "above" "[I", Cond.instanceMethod yX1_copyFrom, Cond.selects RX1 yX1_copyFrom yX1_copyFrom, Cond.code yX1_copyFrom cX1_copyFrom 2 none, Cond.methodLink RX1 21 arraycopyName, Cond.instanceMethod yX1_add, Cond.selects RX1 yX1_add yX1_add]
def wsX5_digest_r7 : List Cond := [Cond.code yX1_add cX1_add 5 none]
def wsX5_digest : List Cond := .code yX5_digest cX5_digest 4 (some .long) :: ((wsX5_digest_r1 ++ (wsX5_digest_r2 ++ (wsX5_digest_r3 ++ (wsX5_digest_r4 ++ (wsX5_digest_r5 ++ (wsX5_digest_r6 ++ wsX5_digest_r7)))))) ++ wsX50 ++ wsX40 ++ wsX20 ++ wsX30 ++ wsX00 ++ wsX10)
def wsX6_noFolds : List Cond := .code yX6_noFolds cX6_noFolds 2 none :: ([.fieldLink RX6 7 "PlaFolderModel" "now" "[I"] ++ wsX60)
def wsX6_init : List Cond := .code yX6_init cX6_init 1 none :: ([.methodLink RX6 1 objectInit, .instanceMethod objectInit, .code objectInit ⟨#[0xb1]⟩ 1 none, .arrayClass .int, .fieldLink RX6 7 "PlaFolderModel" "now" "[I", .fieldLink RX6 13 "PlaFolderModel" "past" "[I", .fieldLink RX6 16 "PlaFolderModel" "errors" "[I", .fieldLink RX6 19 "PlaFolderModel" "used" "[I", .fieldLink RX6 22 "PlaFolderModel" "under" "[I", .fieldLink RX6 25 "PlaFolderModel" "order" "[I", .fieldLink RX6 28 "PlaFolderModel" "list" "[I", .methodLink RX6 31 yX6_noFolds, .instanceMethod yX6_noFolds, .selects RX6 yX6_noFolds yX6_noFolds, .initialized RX6, .code yX6_noFolds cX6_noFolds 2 none] ++ wsX60)
def wsX6_in : List Cond := .code yX6_in cX6_in 3 (some .boolean) :: ([])
def wsX6_has : List Cond := .code yX6_has cX6_has 2 (some .boolean) :: ([])
def wsX6_many : List Cond := .code yX6_many cX6_many 3 (some .int) :: ([])
def wsX6_error : List Cond := .code yX6_error cX6_error 2 (some .int) :: ([.fieldLink RX6 16 "PlaFolderModel" "errors" "[I"] ++ wsX60)
def wsX6_isTerm : List Cond := .code yX6_isTerm cX6_isTerm 2 (some .boolean) :: ([.fieldLink RX6 7 "PlaFolderModel" "now" "[I", .methodLink RX6 34 yX6_in, .static yX6_in, .initialized RX6, .code yX6_in cX6_in 3 (some .boolean)] ++ wsX60)
def wsX6_isColumn : List Cond := .code yX6_isColumn cX6_isColumn 2 (some .boolean) :: ([.fieldLink RX6 7 "PlaFolderModel" "now" "[I", .methodLink RX6 34 yX6_in, .static yX6_in, .initialized RX6, .code yX6_in cX6_in 3 (some .boolean)] ++ wsX60)
def wsX6_save : List Cond := .code yX6_save cX6_save 2 none :: ([.fieldLink RX6 38 "PlaFolderModel" "states" "I", .fieldLink RX6 13 "PlaFolderModel" "past" "[I", .fieldLink RX6 7 "PlaFolderModel" "now" "[I"] ++ wsX60)
def wsX6_undo : List Cond := .code yX6_undo cX6_undo 2 (some .int) :: ([.fieldLink RX6 38 "PlaFolderModel" "states" "I", .fieldLink RX6 7 "PlaFolderModel" "now" "[I", .fieldLink RX6 13 "PlaFolderModel" "past" "[I", .methodLink RX6 42 yX6_error, .instanceMethod yX6_error, .selects RX6 yX6_error yX6_error, .initialized RX6, .code yX6_error cX6_error 2 (some .int), .fieldLink RX6 16 "PlaFolderModel" "errors" "[I"] ++ wsX60)
def wsX6_setSize : List Cond := .code yX6_setSize cX6_setSize 4 (some .int) :: ([.fieldLink RX6 7 "PlaFolderModel" "now" "[I", .methodLink RX6 34 yX6_in, .static yX6_in, .initialized RX6, .code yX6_in cX6_in 3 (some .boolean), .methodLink RX6 42 yX6_error, .instanceMethod yX6_error, .selects RX6 yX6_error yX6_error, .code yX6_error cX6_error 2 (some .int), .fieldLink RX6 16 "PlaFolderModel" "errors" "[I", .methodLink RX6 46 yX6_save, .instanceMethod yX6_save, .selects RX6 yX6_save yX6_save, .code yX6_save cX6_save 2 none, .fieldLink RX6 38 "PlaFolderModel" "states" "I", .fieldLink RX6 13 "PlaFolderModel" "past" "[I", .methodLink RX6 31 yX6_noFolds, .instanceMethod yX6_noFolds, .selects RX6 yX6_noFolds yX6_noFolds, .code yX6_noFolds cX6_noFolds 2 none] ++ wsX60)
def wsX6_isSet : List Cond := .code yX6_isSet cX6_isSet 3 (some .boolean) :: ([.methodLink RX6 34 yX6_in, .static yX6_in, .initialized RX6, .code yX6_in cX6_in 3 (some .boolean)])
def wsX6_addTerm : List Cond := .code yX6_addTerm cX6_addTerm 5 (some .int) :: ([.fieldLink RX6 7 "PlaFolderModel" "now" "[I", .methodLink RX6 49 yX6_isSet, .instanceMethod yX6_isSet, .selects RX6 yX6_isSet yX6_isSet, .initialized RX6, .code yX6_isSet cX6_isSet 3 (some .boolean), .methodLink RX6 34 yX6_in, .static yX6_in, .code yX6_in cX6_in 3 (some .boolean), .methodLink RX6 42 yX6_error, .instanceMethod yX6_error, .selects RX6 yX6_error yX6_error, .code yX6_error cX6_error 2 (some .int), .fieldLink RX6 16 "PlaFolderModel" "errors" "[I", .methodLink RX6 46 yX6_save, .instanceMethod yX6_save, .selects RX6 yX6_save yX6_save, .code yX6_save cX6_save 2 none, .fieldLink RX6 38 "PlaFolderModel" "states" "I", .fieldLink RX6 13 "PlaFolderModel" "past" "[I", .methodLink RX6 31 yX6_noFolds, .instanceMethod yX6_noFolds, .selects RX6 yX6_noFolds yX6_noFolds, .code yX6_noFolds cX6_noFolds 2 none] ++ wsX60)
def wsX6_drop : List Cond := .code yX6_drop cX6_drop 3 none :: ([.fieldLink RX6 7 "PlaFolderModel" "now" "[I", .methodLink RX6 31 yX6_noFolds, .instanceMethod yX6_noFolds, .selects RX6 yX6_noFolds yX6_noFolds, .initialized RX6, .code yX6_noFolds cX6_noFolds 2 none] ++ wsX60)
def wsX6_removeTerm_r1 : List Cond := [Cond.fieldLink RX6 7 "PlaFolderModel" "now" "[I", Cond.methodLink RX6 53 yX6_isTerm, Cond.instanceMethod yX6_isTerm, Cond.selects RX6 yX6_isTerm yX6_isTerm, Cond.initialized RX6, Cond.code yX6_isTerm cX6_isTerm 2 (some .boolean), Cond.methodLink RX6 34 yX6_in, Cond.static yX6_in, Cond.code yX6_in cX6_in 3 (some .boolean), Cond.methodLink RX6 42 yX6_error, Cond.instanceMethod yX6_error, Cond.selects RX6 yX6_error yX6_error, Cond.code yX6_error cX6_error 2 (some .int), Cond.fieldLink RX6 16 "PlaFolderModel" "errors" "[I", Cond.methodLink RX6 46 yX6_save, Cond.instanceMethod yX6_save, Cond.selects RX6 yX6_save yX6_save, Cond.code yX6_save cX6_save 2 none, Cond.fieldLink RX6 38 "PlaFolderModel" "states" "I", Cond.fieldLink RX6 13 "PlaFolderModel" "past" "[I", Cond.methodLink RX6 57 yX6_drop, Cond.instanceMethod yX6_drop, Cond.selects RX6 yX6_drop yX6_drop, Cond.code yX6_drop cX6_drop 3 none]
def wsX6_removeTerm_r2 : List Cond := [Cond.methodLink RX6 31 yX6_noFolds, Cond.instanceMethod yX6_noFolds, Cond.selects RX6 yX6_noFolds yX6_noFolds, Cond.code yX6_noFolds cX6_noFolds 2 none]
def wsX6_removeTerm : List Cond := .code yX6_removeTerm cX6_removeTerm 2 (some .int) :: ((wsX6_removeTerm_r1 ++ wsX6_removeTerm_r2) ++ wsX60)
def wsX6_terms : List Cond := .code yX6_terms cX6_terms 1 (some .int) :: ([.fieldLink RX6 7 "PlaFolderModel" "now" "[I"] ++ wsX60)
def wsX6_literals : List Cond := .code yX6_literals cX6_literals 2 (some .int) :: ([.fieldLink RX6 7 "PlaFolderModel" "now" "[I", .methodLink RX6 53 yX6_isTerm, .instanceMethod yX6_isTerm, .selects RX6 yX6_isTerm yX6_isTerm, .initialized RX6, .code yX6_isTerm cX6_isTerm 2 (some .boolean), .methodLink RX6 34 yX6_in, .static yX6_in, .code yX6_in cX6_in 3 (some .boolean), .methodLink RX6 61 yX6_many, .static yX6_many, .code yX6_many cX6_many 3 (some .int), .methodLink RX6 42 yX6_error, .instanceMethod yX6_error, .selects RX6 yX6_error yX6_error, .code yX6_error cX6_error 2 (some .int), .fieldLink RX6 16 "PlaFolderModel" "errors" "[I"] ++ wsX60)
def wsX6_outputs : List Cond := .code yX6_outputs cX6_outputs 6 (some .int) :: ([.fieldLink RX6 7 "PlaFolderModel" "now" "[I"] ++ wsX60)
def wsX6_words : List Cond := .code yX6_words cX6_words 1 (some .int) :: ([.fieldLink RX6 7 "PlaFolderModel" "now" "[I"] ++ wsX60)
def wsX6_evaluate : List Cond := .code yX6_evaluate cX6_evaluate 2 (some .int) :: ([.methodLink RX6 64 yX6_words, .instanceMethod yX6_words, .selects RX6 yX6_words yX6_words, .initialized RX6, .code yX6_words cX6_words 1 (some .int), .fieldLink RX6 7 "PlaFolderModel" "now" "[I", .methodLink RX6 34 yX6_in, .static yX6_in, .code yX6_in cX6_in 3 (some .boolean), .methodLink RX6 68 yX6_outputs, .instanceMethod yX6_outputs, .selects RX6 yX6_outputs yX6_outputs, .code yX6_outputs cX6_outputs 6 (some .int), .methodLink RX6 42 yX6_error, .instanceMethod yX6_error, .selects RX6 yX6_error yX6_error, .code yX6_error cX6_error 2 (some .int), .fieldLink RX6 16 "PlaFolderModel" "errors" "[I"] ++ wsX60)
def wsX6_onCount : List Cond := .code yX6_onCount cX6_onCount 4 (some .int) :: ([.fieldLink RX6 7 "PlaFolderModel" "now" "[I", .methodLink RX6 34 yX6_in, .static yX6_in, .initialized RX6, .code yX6_in cX6_in 3 (some .boolean), .methodLink RX6 42 yX6_error, .instanceMethod yX6_error, .selects RX6 yX6_error yX6_error, .code yX6_error cX6_error 2 (some .int), .fieldLink RX6 16 "PlaFolderModel" "errors" "[I", .methodLink RX6 64 yX6_words, .instanceMethod yX6_words, .selects RX6 yX6_words yX6_words, .code yX6_words cX6_words 1 (some .int), .methodLink RX6 68 yX6_outputs, .instanceMethod yX6_outputs, .selects RX6 yX6_outputs yX6_outputs, .code yX6_outputs cX6_outputs 6 (some .int), .methodLink RX6 72 yX6_has, .static yX6_has, .code yX6_has cX6_has 2 (some .boolean)] ++ wsX60)
def wsX6_redundant : List Cond := .code yX6_redundant cX6_redundant 4 (some .boolean) :: ([.methodLink RX6 64 yX6_words, .instanceMethod yX6_words, .selects RX6 yX6_words yX6_words, .initialized RX6, .code yX6_words cX6_words 1 (some .int), .fieldLink RX6 7 "PlaFolderModel" "now" "[I", .methodLink RX6 68 yX6_outputs, .instanceMethod yX6_outputs, .selects RX6 yX6_outputs yX6_outputs, .code yX6_outputs cX6_outputs 6 (some .int)] ++ wsX60)
def wsX6_isRedundant_r1 : List Cond := [Cond.methodLink RX6 53 yX6_isTerm, Cond.instanceMethod yX6_isTerm, Cond.selects RX6 yX6_isTerm yX6_isTerm, Cond.initialized RX6, Cond.code yX6_isTerm cX6_isTerm 2 (some .boolean), Cond.fieldLink RX6 7 "PlaFolderModel" "now" "[I", Cond.methodLink RX6 34 yX6_in, Cond.static yX6_in, Cond.code yX6_in cX6_in 3 (some .boolean), Cond.methodLink RX6 42 yX6_error, Cond.instanceMethod yX6_error, Cond.selects RX6 yX6_error yX6_error, Cond.code yX6_error cX6_error 2 (some .int), Cond.fieldLink RX6 16 "PlaFolderModel" "errors" "[I", Cond.methodLink RX6 75 yX6_redundant, Cond.instanceMethod yX6_redundant, Cond.selects RX6 yX6_redundant yX6_redundant, Cond.code yX6_redundant cX6_redundant 4 (some .boolean), Cond.methodLink RX6 64 yX6_words, Cond.instanceMethod yX6_words, Cond.selects RX6 yX6_words yX6_words, Cond.code yX6_words cX6_words 1 (some .int), Cond.methodLink RX6 68 yX6_outputs, Cond.instanceMethod yX6_outputs]
def wsX6_isRedundant_r2 : List Cond := [Cond.selects RX6 yX6_outputs yX6_outputs, Cond.code yX6_outputs cX6_outputs 6 (some .int)]
def wsX6_isRedundant : List Cond := .code yX6_isRedundant cX6_isRedundant 2 (some .int) :: ((wsX6_isRedundant_r1 ++ wsX6_isRedundant_r2) ++ wsX60)
def wsX6_removeRedundant_r1 : List Cond := [Cond.fieldLink RX6 7 "PlaFolderModel" "now" "[I", Cond.methodLink RX6 46 yX6_save, Cond.instanceMethod yX6_save, Cond.selects RX6 yX6_save yX6_save, Cond.initialized RX6, Cond.code yX6_save cX6_save 2 none, Cond.fieldLink RX6 38 "PlaFolderModel" "states" "I", Cond.fieldLink RX6 13 "PlaFolderModel" "past" "[I", Cond.methodLink RX6 75 yX6_redundant, Cond.instanceMethod yX6_redundant, Cond.selects RX6 yX6_redundant yX6_redundant, Cond.code yX6_redundant cX6_redundant 4 (some .boolean), Cond.methodLink RX6 64 yX6_words, Cond.instanceMethod yX6_words, Cond.selects RX6 yX6_words yX6_words, Cond.code yX6_words cX6_words 1 (some .int), Cond.methodLink RX6 68 yX6_outputs, Cond.instanceMethod yX6_outputs, Cond.selects RX6 yX6_outputs yX6_outputs, Cond.code yX6_outputs cX6_outputs 6 (some .int), Cond.methodLink RX6 57 yX6_drop, Cond.instanceMethod yX6_drop, Cond.selects RX6 yX6_drop yX6_drop, Cond.code yX6_drop cX6_drop 3 none]
def wsX6_removeRedundant_r2 : List Cond := [Cond.methodLink RX6 31 yX6_noFolds, Cond.instanceMethod yX6_noFolds, Cond.selects RX6 yX6_noFolds yX6_noFolds, Cond.code yX6_noFolds cX6_noFolds 2 none]
def wsX6_removeRedundant : List Cond := .code yX6_removeRedundant cX6_removeRedundant 3 (some .int) :: ((wsX6_removeRedundant_r1 ++ wsX6_removeRedundant_r2) ++ wsX60)
def wsX6_usedBy : List Cond := .code yX6_usedBy cX6_usedBy 5 (some .int) :: ([.fieldLink RX6 7 "PlaFolderModel" "now" "[I", .methodLink RX6 72 yX6_has, .static yX6_has, .initialized RX6, .code yX6_has cX6_has 2 (some .boolean)] ++ wsX60)
def wsX6_layUsed : List Cond := .code yX6_layUsed cX6_layUsed 2 none :: ([.fieldLink RX6 19 "PlaFolderModel" "used" "[I", .methodLink RX6 78 yX6_usedBy, .instanceMethod yX6_usedBy, .selects RX6 yX6_usedBy yX6_usedBy, .initialized RX6, .code yX6_usedBy cX6_usedBy 5 (some .int), .fieldLink RX6 7 "PlaFolderModel" "now" "[I", .methodLink RX6 72 yX6_has, .static yX6_has, .code yX6_has cX6_has 2 (some .boolean)] ++ wsX60)
def wsX6_uses : List Cond := .code yX6_uses cX6_uses 2 (some .int) :: ([.methodLink RX6 81 yX6_isColumn, .instanceMethod yX6_isColumn, .selects RX6 yX6_isColumn yX6_isColumn, .initialized RX6, .code yX6_isColumn cX6_isColumn 2 (some .boolean), .fieldLink RX6 7 "PlaFolderModel" "now" "[I", .methodLink RX6 34 yX6_in, .static yX6_in, .code yX6_in cX6_in 3 (some .boolean), .methodLink RX6 78 yX6_usedBy, .instanceMethod yX6_usedBy, .selects RX6 yX6_usedBy yX6_usedBy, .code yX6_usedBy cX6_usedBy 5 (some .int), .methodLink RX6 72 yX6_has, .static yX6_has, .code yX6_has cX6_has 2 (some .boolean), .methodLink RX6 42 yX6_error, .instanceMethod yX6_error, .selects RX6 yX6_error yX6_error, .code yX6_error cX6_error 2 (some .int), .fieldLink RX6 16 "PlaFolderModel" "errors" "[I"] ++ wsX60)
def wsX6_fits : List Cond := .code yX6_fits cX6_fits 3 (some .boolean) :: ([.fieldLink RX6 19 "PlaFolderModel" "used" "[I", .methodLink RX6 81 yX6_isColumn, .instanceMethod yX6_isColumn, .selects RX6 yX6_isColumn yX6_isColumn, .initialized RX6, .code yX6_isColumn cX6_isColumn 2 (some .boolean), .fieldLink RX6 7 "PlaFolderModel" "now" "[I", .methodLink RX6 34 yX6_in, .static yX6_in, .code yX6_in cX6_in 3 (some .boolean)] ++ wsX60)
def wsX6_canFold_r1 : List Cond := [Cond.methodLink RX6 81 yX6_isColumn, Cond.instanceMethod yX6_isColumn, Cond.selects RX6 yX6_isColumn yX6_isColumn, Cond.initialized RX6, Cond.code yX6_isColumn cX6_isColumn 2 (some .boolean), Cond.fieldLink RX6 7 "PlaFolderModel" "now" "[I", Cond.methodLink RX6 34 yX6_in, Cond.static yX6_in, Cond.code yX6_in cX6_in 3 (some .boolean), Cond.methodLink RX6 42 yX6_error, Cond.instanceMethod yX6_error, Cond.selects RX6 yX6_error yX6_error, Cond.code yX6_error cX6_error 2 (some .int), Cond.fieldLink RX6 16 "PlaFolderModel" "errors" "[I", Cond.methodLink RX6 84 yX6_layUsed, Cond.instanceMethod yX6_layUsed, Cond.selects RX6 yX6_layUsed yX6_layUsed, Cond.code yX6_layUsed cX6_layUsed 2 none, Cond.fieldLink RX6 19 "PlaFolderModel" "used" "[I", Cond.methodLink RX6 78 yX6_usedBy, Cond.instanceMethod yX6_usedBy, Cond.selects RX6 yX6_usedBy yX6_usedBy, Cond.code yX6_usedBy cX6_usedBy 5 (some .int), Cond.methodLink RX6 72 yX6_has]
def wsX6_canFold_r2 : List Cond := [Cond.static yX6_has, Cond.code yX6_has cX6_has 2 (some .boolean), Cond.methodLink RX6 87 yX6_fits, Cond.instanceMethod yX6_fits, Cond.selects RX6 yX6_fits yX6_fits, Cond.code yX6_fits cX6_fits 3 (some .boolean)]
def wsX6_canFold : List Cond := .code yX6_canFold cX6_canFold 3 (some .int) :: ((wsX6_canFold_r1 ++ wsX6_canFold_r2) ++ wsX60)
def wsX6_noDemands : List Cond := .code yX6_noDemands cX6_noDemands 2 none :: ([.fieldLink RX6 22 "PlaFolderModel" "under" "[I"] ++ wsX60)
def wsX6_demand : List Cond := .code yX6_demand cX6_demand 4 none :: ([.fieldLink RX6 22 "PlaFolderModel" "under" "[I", .fieldLink RX6 19 "PlaFolderModel" "used" "[I", .methodLink RX6 72 yX6_has, .static yX6_has, .initialized RX6, .code yX6_has cX6_has 2 (some .boolean)] ++ wsX60)
def wsX6_layDemands : List Cond := .code yX6_layDemands cX6_layDemands 2 none :: ([.fieldLink RX6 7 "PlaFolderModel" "now" "[I", .methodLink RX6 84 yX6_layUsed, .instanceMethod yX6_layUsed, .selects RX6 yX6_layUsed yX6_layUsed, .initialized RX6, .code yX6_layUsed cX6_layUsed 2 none, .fieldLink RX6 19 "PlaFolderModel" "used" "[I", .methodLink RX6 78 yX6_usedBy, .instanceMethod yX6_usedBy, .selects RX6 yX6_usedBy yX6_usedBy, .code yX6_usedBy cX6_usedBy 5 (some .int), .methodLink RX6 72 yX6_has, .static yX6_has, .code yX6_has cX6_has 2 (some .boolean), .methodLink RX6 90 yX6_noDemands, .instanceMethod yX6_noDemands, .selects RX6 yX6_noDemands yX6_noDemands, .code yX6_noDemands cX6_noDemands 2 none, .fieldLink RX6 22 "PlaFolderModel" "under" "[I", .methodLink RX6 93 yX6_demand, .instanceMethod yX6_demand, .selects RX6 yX6_demand yX6_demand, .code yX6_demand cX6_demand 4 none] ++ wsX60)
def wsX6_layRows : List Cond := .code yX6_layRows cX6_layRows 7 (some .boolean) :: ([.fieldLink RX6 7 "PlaFolderModel" "now" "[I", .fieldLink RX6 22 "PlaFolderModel" "under" "[I", .fieldLink RX6 25 "PlaFolderModel" "order" "[I", .methodLink RX6 72 yX6_has, .static yX6_has, .initialized RX6, .code yX6_has cX6_has 2 (some .boolean)] ++ wsX60)
def wsX6_isFolded : List Cond := .code yX6_isFolded cX6_isFolded 2 (some .boolean) :: ([.fieldLink RX6 7 "PlaFolderModel" "now" "[I"] ++ wsX60)
def wsX6_foldMany : List Cond := .code yX6_foldMany cX6_foldMany 3 (some .int) :: ([.fieldLink RX6 7 "PlaFolderModel" "now" "[I"] ++ wsX60)
def wsX6_fold_r1 : List Cond := [Cond.fieldLink RX6 7 "PlaFolderModel" "now" "[I", Cond.methodLink RX6 81 yX6_isColumn, Cond.instanceMethod yX6_isColumn, Cond.selects RX6 yX6_isColumn yX6_isColumn, Cond.initialized RX6, Cond.code yX6_isColumn cX6_isColumn 2 (some .boolean), Cond.methodLink RX6 34 yX6_in, Cond.static yX6_in, Cond.code yX6_in cX6_in 3 (some .boolean), Cond.methodLink RX6 42 yX6_error, Cond.instanceMethod yX6_error, Cond.selects RX6 yX6_error yX6_error, Cond.code yX6_error cX6_error 2 (some .int), Cond.fieldLink RX6 16 "PlaFolderModel" "errors" "[I", Cond.methodLink RX6 97 yX6_layDemands, Cond.instanceMethod yX6_layDemands, Cond.selects RX6 yX6_layDemands yX6_layDemands, Cond.code yX6_layDemands cX6_layDemands 2 none, Cond.methodLink RX6 84 yX6_layUsed, Cond.instanceMethod yX6_layUsed, Cond.selects RX6 yX6_layUsed yX6_layUsed, Cond.code yX6_layUsed cX6_layUsed 2 none, Cond.fieldLink RX6 19 "PlaFolderModel" "used" "[I", Cond.methodLink RX6 78 yX6_usedBy]
def wsX6_fold_r2 : List Cond := [Cond.instanceMethod yX6_usedBy, Cond.selects RX6 yX6_usedBy yX6_usedBy, Cond.code yX6_usedBy cX6_usedBy 5 (some .int), Cond.methodLink RX6 72 yX6_has, Cond.static yX6_has, Cond.code yX6_has cX6_has 2 (some .boolean), Cond.methodLink RX6 90 yX6_noDemands, Cond.instanceMethod yX6_noDemands, Cond.selects RX6 yX6_noDemands yX6_noDemands, Cond.code yX6_noDemands cX6_noDemands 2 none, Cond.fieldLink RX6 22 "PlaFolderModel" "under" "[I", Cond.methodLink RX6 93 yX6_demand, Cond.instanceMethod yX6_demand, Cond.selects RX6 yX6_demand yX6_demand, Cond.code yX6_demand cX6_demand 4 none, Cond.methodLink RX6 87 yX6_fits, Cond.instanceMethod yX6_fits, Cond.selects RX6 yX6_fits yX6_fits, Cond.code yX6_fits cX6_fits 3 (some .boolean), Cond.methodLink RX6 100 yX6_isFolded, Cond.instanceMethod yX6_isFolded, Cond.selects RX6 yX6_isFolded yX6_isFolded, Cond.code yX6_isFolded cX6_isFolded 2 (some .boolean), Cond.methodLink RX6 103 yX6_layRows]
def wsX6_fold_r3 : List Cond := [Cond.instanceMethod yX6_layRows, Cond.selects RX6 yX6_layRows yX6_layRows, Cond.code yX6_layRows cX6_layRows 7 (some .boolean), Cond.fieldLink RX6 25 "PlaFolderModel" "order" "[I", Cond.methodLink RX6 46 yX6_save, Cond.instanceMethod yX6_save, Cond.selects RX6 yX6_save yX6_save, Cond.code yX6_save cX6_save 2 none, Cond.fieldLink RX6 38 "PlaFolderModel" "states" "I", Cond.fieldLink RX6 13 "PlaFolderModel" "past" "[I", Cond.methodLink RX6 107 yX6_foldMany, Cond.instanceMethod yX6_foldMany, Cond.selects RX6 yX6_foldMany yX6_foldMany, Cond.code yX6_foldMany cX6_foldMany 3 (some .int)]
def wsX6_fold : List Cond := .code yX6_fold cX6_fold 3 (some .int) :: ((wsX6_fold_r1 ++ (wsX6_fold_r2 ++ wsX6_fold_r3)) ++ wsX60)
def wsX6_partnerOf : List Cond := .code yX6_partnerOf cX6_partnerOf 2 (some .int) :: ([.fieldLink RX6 7 "PlaFolderModel" "now" "[I"] ++ wsX60)
def wsX6_apart : List Cond := .code yX6_apart cX6_apart 2 none :: ([.fieldLink RX6 7 "PlaFolderModel" "now" "[I"] ++ wsX60)
def wsX6_unfold_r1 : List Cond := [Cond.methodLink RX6 81 yX6_isColumn, Cond.instanceMethod yX6_isColumn, Cond.selects RX6 yX6_isColumn yX6_isColumn, Cond.initialized RX6, Cond.code yX6_isColumn cX6_isColumn 2 (some .boolean), Cond.fieldLink RX6 7 "PlaFolderModel" "now" "[I", Cond.methodLink RX6 34 yX6_in, Cond.static yX6_in, Cond.code yX6_in cX6_in 3 (some .boolean), Cond.methodLink RX6 42 yX6_error, Cond.instanceMethod yX6_error, Cond.selects RX6 yX6_error yX6_error, Cond.code yX6_error cX6_error 2 (some .int), Cond.fieldLink RX6 16 "PlaFolderModel" "errors" "[I", Cond.methodLink RX6 100 yX6_isFolded, Cond.instanceMethod yX6_isFolded, Cond.selects RX6 yX6_isFolded yX6_isFolded, Cond.code yX6_isFolded cX6_isFolded 2 (some .boolean), Cond.methodLink RX6 46 yX6_save, Cond.instanceMethod yX6_save, Cond.selects RX6 yX6_save yX6_save, Cond.code yX6_save cX6_save 2 none, Cond.fieldLink RX6 38 "PlaFolderModel" "states" "I", Cond.fieldLink RX6 13 "PlaFolderModel" "past" "[I"]
def wsX6_unfold_r2 : List Cond := [Cond.methodLink RX6 110 yX6_partnerOf, Cond.instanceMethod yX6_partnerOf, Cond.selects RX6 yX6_partnerOf yX6_partnerOf, Cond.code yX6_partnerOf cX6_partnerOf 2 (some .int), Cond.methodLink RX6 113 yX6_apart, Cond.instanceMethod yX6_apart, Cond.selects RX6 yX6_apart yX6_apart, Cond.code yX6_apart cX6_apart 2 none, Cond.methodLink RX6 107 yX6_foldMany, Cond.instanceMethod yX6_foldMany, Cond.selects RX6 yX6_foldMany yX6_foldMany, Cond.code yX6_foldMany cX6_foldMany 3 (some .int)]
def wsX6_unfold : List Cond := .code yX6_unfold cX6_unfold 2 (some .int) :: ((wsX6_unfold_r1 ++ wsX6_unfold_r2) ++ wsX60)
def wsX6_partner : List Cond := .code yX6_partner cX6_partner 2 (some .int) :: ([.methodLink RX6 81 yX6_isColumn, .instanceMethod yX6_isColumn, .selects RX6 yX6_isColumn yX6_isColumn, .initialized RX6, .code yX6_isColumn cX6_isColumn 2 (some .boolean), .fieldLink RX6 7 "PlaFolderModel" "now" "[I", .methodLink RX6 34 yX6_in, .static yX6_in, .code yX6_in cX6_in 3 (some .boolean), .methodLink RX6 110 yX6_partnerOf, .instanceMethod yX6_partnerOf, .selects RX6 yX6_partnerOf yX6_partnerOf, .code yX6_partnerOf cX6_partnerOf 2 (some .int), .methodLink RX6 42 yX6_error, .instanceMethod yX6_error, .selects RX6 yX6_error yX6_error, .code yX6_error cX6_error 2 (some .int), .fieldLink RX6 16 "PlaFolderModel" "errors" "[I"] ++ wsX60)
def wsX6_folds : List Cond := .code yX6_folds cX6_folds 1 (some .int) :: ([.methodLink RX6 107 yX6_foldMany, .instanceMethod yX6_foldMany, .selects RX6 yX6_foldMany yX6_foldMany, .initialized RX6, .code yX6_foldMany cX6_foldMany 3 (some .int), .fieldLink RX6 7 "PlaFolderModel" "now" "[I"] ++ wsX60)
def wsX6_lay_r1 : List Cond := [Cond.methodLink RX6 97 yX6_layDemands, Cond.instanceMethod yX6_layDemands, Cond.selects RX6 yX6_layDemands yX6_layDemands, Cond.initialized RX6, Cond.code yX6_layDemands cX6_layDemands 2 none, Cond.fieldLink RX6 7 "PlaFolderModel" "now" "[I", Cond.methodLink RX6 84 yX6_layUsed, Cond.instanceMethod yX6_layUsed, Cond.selects RX6 yX6_layUsed yX6_layUsed, Cond.code yX6_layUsed cX6_layUsed 2 none, Cond.fieldLink RX6 19 "PlaFolderModel" "used" "[I", Cond.methodLink RX6 78 yX6_usedBy, Cond.instanceMethod yX6_usedBy, Cond.selects RX6 yX6_usedBy yX6_usedBy, Cond.code yX6_usedBy cX6_usedBy 5 (some .int), Cond.methodLink RX6 72 yX6_has, Cond.static yX6_has, Cond.code yX6_has cX6_has 2 (some .boolean), Cond.methodLink RX6 90 yX6_noDemands, Cond.instanceMethod yX6_noDemands, Cond.selects RX6 yX6_noDemands yX6_noDemands, Cond.code yX6_noDemands cX6_noDemands 2 none, Cond.fieldLink RX6 22 "PlaFolderModel" "under" "[I", Cond.methodLink RX6 93 yX6_demand]
def wsX6_lay_r2 : List Cond := [Cond.instanceMethod yX6_demand, Cond.selects RX6 yX6_demand yX6_demand, Cond.code yX6_demand cX6_demand 4 none, Cond.methodLink RX6 103 yX6_layRows, Cond.instanceMethod yX6_layRows, Cond.selects RX6 yX6_layRows yX6_layRows, Cond.code yX6_layRows cX6_layRows 7 (some .boolean), Cond.fieldLink RX6 25 "PlaFolderModel" "order" "[I"]
def wsX6_lay : List Cond := .code yX6_lay cX6_lay 2 none :: ((wsX6_lay_r1 ++ wsX6_lay_r2) ++ wsX60)
def wsX6_rowAt : List Cond := .code yX6_rowAt cX6_rowAt 3 (some .int) :: ([.fieldLink RX6 25 "PlaFolderModel" "order" "[I"] ++ wsX60)
def wsX6_termAt_r1 : List Cond := [Cond.fieldLink RX6 7 "PlaFolderModel" "now" "[I", Cond.fieldLink RX6 25 "PlaFolderModel" "order" "[I", Cond.methodLink RX6 34 yX6_in, Cond.static yX6_in, Cond.initialized RX6, Cond.code yX6_in cX6_in 3 (some .boolean), Cond.methodLink RX6 42 yX6_error, Cond.instanceMethod yX6_error, Cond.selects RX6 yX6_error yX6_error, Cond.code yX6_error cX6_error 2 (some .int), Cond.fieldLink RX6 16 "PlaFolderModel" "errors" "[I", Cond.methodLink RX6 116 yX6_lay, Cond.instanceMethod yX6_lay, Cond.selects RX6 yX6_lay yX6_lay, Cond.code yX6_lay cX6_lay 2 none, Cond.methodLink RX6 97 yX6_layDemands, Cond.instanceMethod yX6_layDemands, Cond.selects RX6 yX6_layDemands yX6_layDemands, Cond.code yX6_layDemands cX6_layDemands 2 none, Cond.methodLink RX6 84 yX6_layUsed, Cond.instanceMethod yX6_layUsed, Cond.selects RX6 yX6_layUsed yX6_layUsed, Cond.code yX6_layUsed cX6_layUsed 2 none, Cond.fieldLink RX6 19 "PlaFolderModel" "used" "[I"]
def wsX6_termAt_r2 : List Cond := [Cond.methodLink RX6 78 yX6_usedBy, Cond.instanceMethod yX6_usedBy, Cond.selects RX6 yX6_usedBy yX6_usedBy, Cond.code yX6_usedBy cX6_usedBy 5 (some .int), Cond.methodLink RX6 72 yX6_has, Cond.static yX6_has, Cond.code yX6_has cX6_has 2 (some .boolean), Cond.methodLink RX6 90 yX6_noDemands, Cond.instanceMethod yX6_noDemands, Cond.selects RX6 yX6_noDemands yX6_noDemands, Cond.code yX6_noDemands cX6_noDemands 2 none, Cond.fieldLink RX6 22 "PlaFolderModel" "under" "[I", Cond.methodLink RX6 93 yX6_demand, Cond.instanceMethod yX6_demand, Cond.selects RX6 yX6_demand yX6_demand, Cond.code yX6_demand cX6_demand 4 none, Cond.methodLink RX6 103 yX6_layRows, Cond.instanceMethod yX6_layRows, Cond.selects RX6 yX6_layRows yX6_layRows, Cond.code yX6_layRows cX6_layRows 7 (some .boolean)]
def wsX6_termAt : List Cond := .code yX6_termAt cX6_termAt 2 (some .int) :: ((wsX6_termAt_r1 ++ wsX6_termAt_r2) ++ wsX60)
def wsX6_rowOf_r1 : List Cond := [Cond.methodLink RX6 53 yX6_isTerm, Cond.instanceMethod yX6_isTerm, Cond.selects RX6 yX6_isTerm yX6_isTerm, Cond.initialized RX6, Cond.code yX6_isTerm cX6_isTerm 2 (some .boolean), Cond.fieldLink RX6 7 "PlaFolderModel" "now" "[I", Cond.methodLink RX6 34 yX6_in, Cond.static yX6_in, Cond.code yX6_in cX6_in 3 (some .boolean), Cond.methodLink RX6 42 yX6_error, Cond.instanceMethod yX6_error, Cond.selects RX6 yX6_error yX6_error, Cond.code yX6_error cX6_error 2 (some .int), Cond.fieldLink RX6 16 "PlaFolderModel" "errors" "[I", Cond.methodLink RX6 116 yX6_lay, Cond.instanceMethod yX6_lay, Cond.selects RX6 yX6_lay yX6_lay, Cond.code yX6_lay cX6_lay 2 none, Cond.methodLink RX6 97 yX6_layDemands, Cond.instanceMethod yX6_layDemands, Cond.selects RX6 yX6_layDemands yX6_layDemands, Cond.code yX6_layDemands cX6_layDemands 2 none, Cond.methodLink RX6 84 yX6_layUsed, Cond.instanceMethod yX6_layUsed]
def wsX6_rowOf_r2 : List Cond := [Cond.selects RX6 yX6_layUsed yX6_layUsed, Cond.code yX6_layUsed cX6_layUsed 2 none, Cond.fieldLink RX6 19 "PlaFolderModel" "used" "[I", Cond.methodLink RX6 78 yX6_usedBy, Cond.instanceMethod yX6_usedBy, Cond.selects RX6 yX6_usedBy yX6_usedBy, Cond.code yX6_usedBy cX6_usedBy 5 (some .int), Cond.methodLink RX6 72 yX6_has, Cond.static yX6_has, Cond.code yX6_has cX6_has 2 (some .boolean), Cond.methodLink RX6 90 yX6_noDemands, Cond.instanceMethod yX6_noDemands, Cond.selects RX6 yX6_noDemands yX6_noDemands, Cond.code yX6_noDemands cX6_noDemands 2 none, Cond.fieldLink RX6 22 "PlaFolderModel" "under" "[I", Cond.methodLink RX6 93 yX6_demand, Cond.instanceMethod yX6_demand, Cond.selects RX6 yX6_demand yX6_demand, Cond.code yX6_demand cX6_demand 4 none, Cond.methodLink RX6 103 yX6_layRows, Cond.instanceMethod yX6_layRows, Cond.selects RX6 yX6_layRows yX6_layRows, Cond.code yX6_layRows cX6_layRows 7 (some .boolean), Cond.fieldLink RX6 25 "PlaFolderModel" "order" "[I"]
def wsX6_rowOf_r3 : List Cond := [Cond.methodLink RX6 119 yX6_rowAt, Cond.instanceMethod yX6_rowAt, Cond.selects RX6 yX6_rowAt yX6_rowAt, Cond.code yX6_rowAt cX6_rowAt 3 (some .int)]
def wsX6_rowOf : List Cond := .code yX6_rowOf cX6_rowOf 2 (some .int) :: ((wsX6_rowOf_r1 ++ (wsX6_rowOf_r2 ++ wsX6_rowOf_r3)) ++ wsX60)
def wsX6_mustPrecede_r1 : List Cond := [Cond.fieldLink RX6 22 "PlaFolderModel" "under" "[I", Cond.methodLink RX6 53 yX6_isTerm, Cond.instanceMethod yX6_isTerm, Cond.selects RX6 yX6_isTerm yX6_isTerm, Cond.initialized RX6, Cond.code yX6_isTerm cX6_isTerm 2 (some .boolean), Cond.fieldLink RX6 7 "PlaFolderModel" "now" "[I", Cond.methodLink RX6 34 yX6_in, Cond.static yX6_in, Cond.code yX6_in cX6_in 3 (some .boolean), Cond.methodLink RX6 42 yX6_error, Cond.instanceMethod yX6_error, Cond.selects RX6 yX6_error yX6_error, Cond.code yX6_error cX6_error 2 (some .int), Cond.fieldLink RX6 16 "PlaFolderModel" "errors" "[I", Cond.methodLink RX6 97 yX6_layDemands, Cond.instanceMethod yX6_layDemands, Cond.selects RX6 yX6_layDemands yX6_layDemands, Cond.code yX6_layDemands cX6_layDemands 2 none, Cond.methodLink RX6 84 yX6_layUsed, Cond.instanceMethod yX6_layUsed, Cond.selects RX6 yX6_layUsed yX6_layUsed, Cond.code yX6_layUsed cX6_layUsed 2 none, Cond.fieldLink RX6 19 "PlaFolderModel" "used" "[I"]
def wsX6_mustPrecede_r2 : List Cond := [Cond.methodLink RX6 78 yX6_usedBy, Cond.instanceMethod yX6_usedBy, Cond.selects RX6 yX6_usedBy yX6_usedBy, Cond.code yX6_usedBy cX6_usedBy 5 (some .int), Cond.methodLink RX6 72 yX6_has, Cond.static yX6_has, Cond.code yX6_has cX6_has 2 (some .boolean), Cond.methodLink RX6 90 yX6_noDemands, Cond.instanceMethod yX6_noDemands, Cond.selects RX6 yX6_noDemands yX6_noDemands, Cond.code yX6_noDemands cX6_noDemands 2 none, Cond.methodLink RX6 93 yX6_demand, Cond.instanceMethod yX6_demand, Cond.selects RX6 yX6_demand yX6_demand, Cond.code yX6_demand cX6_demand 4 none]
def wsX6_mustPrecede : List Cond := .code yX6_mustPrecede cX6_mustPrecede 6 (some .int) :: ((wsX6_mustPrecede_r1 ++ wsX6_mustPrecede_r2) ++ wsX60)
def wsX6_areaNow : List Cond := .code yX6_areaNow cX6_areaNow 1 (some .int) :: ([.fieldLink RX6 7 "PlaFolderModel" "now" "[I", .methodLink RX6 107 yX6_foldMany, .instanceMethod yX6_foldMany, .selects RX6 yX6_foldMany yX6_foldMany, .initialized RX6, .code yX6_foldMany cX6_foldMany 3 (some .int)] ++ wsX60)
def wsX6_area : List Cond := .code yX6_area cX6_area 1 (some .int) :: ([.methodLink RX6 122 yX6_areaNow, .instanceMethod yX6_areaNow, .selects RX6 yX6_areaNow yX6_areaNow, .initialized RX6, .code yX6_areaNow cX6_areaNow 1 (some .int), .fieldLink RX6 7 "PlaFolderModel" "now" "[I", .methodLink RX6 107 yX6_foldMany, .instanceMethod yX6_foldMany, .selects RX6 yX6_foldMany yX6_foldMany, .code yX6_foldMany cX6_foldMany 3 (some .int)] ++ wsX60)
def wsX6_spanOf : List Cond := .code yX6_spanOf cX6_spanOf 5 (some .int) :: ([.fieldLink RX6 7 "PlaFolderModel" "now" "[I", .fieldLink RX6 19 "PlaFolderModel" "used" "[I", .fieldLink RX6 25 "PlaFolderModel" "order" "[I", .methodLink RX6 72 yX6_has, .static yX6_has, .initialized RX6, .code yX6_has cX6_has 2 (some .boolean)] ++ wsX60)
def wsX6_span_r1 : List Cond := [Cond.methodLink RX6 81 yX6_isColumn, Cond.instanceMethod yX6_isColumn, Cond.selects RX6 yX6_isColumn yX6_isColumn, Cond.initialized RX6, Cond.code yX6_isColumn cX6_isColumn 2 (some .boolean), Cond.fieldLink RX6 7 "PlaFolderModel" "now" "[I", Cond.methodLink RX6 34 yX6_in, Cond.static yX6_in, Cond.code yX6_in cX6_in 3 (some .boolean), Cond.methodLink RX6 42 yX6_error, Cond.instanceMethod yX6_error, Cond.selects RX6 yX6_error yX6_error, Cond.code yX6_error cX6_error 2 (some .int), Cond.fieldLink RX6 16 "PlaFolderModel" "errors" "[I", Cond.methodLink RX6 116 yX6_lay, Cond.instanceMethod yX6_lay, Cond.selects RX6 yX6_lay yX6_lay, Cond.code yX6_lay cX6_lay 2 none, Cond.methodLink RX6 97 yX6_layDemands, Cond.instanceMethod yX6_layDemands, Cond.selects RX6 yX6_layDemands yX6_layDemands, Cond.code yX6_layDemands cX6_layDemands 2 none, Cond.methodLink RX6 84 yX6_layUsed, Cond.instanceMethod yX6_layUsed]
def wsX6_span_r2 : List Cond := [Cond.selects RX6 yX6_layUsed yX6_layUsed, Cond.code yX6_layUsed cX6_layUsed 2 none, Cond.fieldLink RX6 19 "PlaFolderModel" "used" "[I", Cond.methodLink RX6 78 yX6_usedBy, Cond.instanceMethod yX6_usedBy, Cond.selects RX6 yX6_usedBy yX6_usedBy, Cond.code yX6_usedBy cX6_usedBy 5 (some .int), Cond.methodLink RX6 72 yX6_has, Cond.static yX6_has, Cond.code yX6_has cX6_has 2 (some .boolean), Cond.methodLink RX6 90 yX6_noDemands, Cond.instanceMethod yX6_noDemands, Cond.selects RX6 yX6_noDemands yX6_noDemands, Cond.code yX6_noDemands cX6_noDemands 2 none, Cond.fieldLink RX6 22 "PlaFolderModel" "under" "[I", Cond.methodLink RX6 93 yX6_demand, Cond.instanceMethod yX6_demand, Cond.selects RX6 yX6_demand yX6_demand, Cond.code yX6_demand cX6_demand 4 none, Cond.methodLink RX6 103 yX6_layRows, Cond.instanceMethod yX6_layRows, Cond.selects RX6 yX6_layRows yX6_layRows, Cond.code yX6_layRows cX6_layRows 7 (some .boolean), Cond.fieldLink RX6 25 "PlaFolderModel" "order" "[I"]
def wsX6_span_r3 : List Cond := [Cond.methodLink RX6 125 yX6_spanOf, Cond.instanceMethod yX6_spanOf, Cond.selects RX6 yX6_spanOf yX6_spanOf, Cond.code yX6_spanOf cX6_spanOf 5 (some .int)]
def wsX6_span : List Cond := .code yX6_span cX6_span 2 (some .int) :: ((wsX6_span_r1 ++ (wsX6_span_r2 ++ wsX6_span_r3)) ++ wsX60)
def wsX6_mayStand : List Cond := .code yX6_mayStand cX6_mayStand 5 (some .boolean) :: ([.fieldLink RX6 28 "PlaFolderModel" "list" "[I", .methodLink RX6 90 yX6_noDemands, .instanceMethod yX6_noDemands, .selects RX6 yX6_noDemands yX6_noDemands, .initialized RX6, .code yX6_noDemands cX6_noDemands 2 none, .fieldLink RX6 22 "PlaFolderModel" "under" "[I", .methodLink RX6 93 yX6_demand, .instanceMethod yX6_demand, .selects RX6 yX6_demand yX6_demand, .code yX6_demand cX6_demand 4 none, .fieldLink RX6 19 "PlaFolderModel" "used" "[I", .methodLink RX6 72 yX6_has, .static yX6_has, .code yX6_has cX6_has 2 (some .boolean), .methodLink RX6 103 yX6_layRows, .instanceMethod yX6_layRows, .selects RX6 yX6_layRows yX6_layRows, .code yX6_layRows cX6_layRows 7 (some .boolean), .fieldLink RX6 7 "PlaFolderModel" "now" "[I", .fieldLink RX6 25 "PlaFolderModel" "order" "[I"] ++ wsX60)
def wsX6_findList_r1 : List Cond := [Cond.fieldLink RX6 28 "PlaFolderModel" "list" "[I", Cond.fieldLink RX6 131 "PlaFolderModel" "listMany" "I", Cond.methodLink RX6 87 yX6_fits, Cond.instanceMethod yX6_fits, Cond.selects RX6 yX6_fits yX6_fits, Cond.initialized RX6, Cond.code yX6_fits cX6_fits 3 (some .boolean), Cond.fieldLink RX6 19 "PlaFolderModel" "used" "[I", Cond.methodLink RX6 81 yX6_isColumn, Cond.instanceMethod yX6_isColumn, Cond.selects RX6 yX6_isColumn yX6_isColumn, Cond.code yX6_isColumn cX6_isColumn 2 (some .boolean), Cond.fieldLink RX6 7 "PlaFolderModel" "now" "[I", Cond.methodLink RX6 34 yX6_in, Cond.static yX6_in, Cond.code yX6_in cX6_in 3 (some .boolean), Cond.methodLink RX6 128 yX6_mayStand, Cond.instanceMethod yX6_mayStand, Cond.selects RX6 yX6_mayStand yX6_mayStand, Cond.code yX6_mayStand cX6_mayStand 5 (some .boolean), Cond.methodLink RX6 90 yX6_noDemands, Cond.instanceMethod yX6_noDemands, Cond.selects RX6 yX6_noDemands yX6_noDemands, Cond.code yX6_noDemands cX6_noDemands 2 none]
def wsX6_findList_r2 : List Cond := [Cond.fieldLink RX6 22 "PlaFolderModel" "under" "[I", Cond.methodLink RX6 93 yX6_demand, Cond.instanceMethod yX6_demand, Cond.selects RX6 yX6_demand yX6_demand, Cond.code yX6_demand cX6_demand 4 none, Cond.methodLink RX6 72 yX6_has, Cond.static yX6_has, Cond.code yX6_has cX6_has 2 (some .boolean), Cond.methodLink RX6 103 yX6_layRows, Cond.instanceMethod yX6_layRows, Cond.selects RX6 yX6_layRows yX6_layRows, Cond.code yX6_layRows cX6_layRows 7 (some .boolean), Cond.fieldLink RX6 25 "PlaFolderModel" "order" "[I"]
def wsX6_findList : List Cond := .code yX6_findList cX6_findList 4 (some .boolean) :: ((wsX6_findList_r1 ++ wsX6_findList_r2) ++ wsX60)
def wsX6_findBest_r1 : List Cond := [Cond.fieldLink RX6 7 "PlaFolderModel" "now" "[I", Cond.methodLink RX6 84 yX6_layUsed, Cond.instanceMethod yX6_layUsed, Cond.selects RX6 yX6_layUsed yX6_layUsed, Cond.initialized RX6, Cond.code yX6_layUsed cX6_layUsed 2 none, Cond.fieldLink RX6 19 "PlaFolderModel" "used" "[I", Cond.methodLink RX6 78 yX6_usedBy, Cond.instanceMethod yX6_usedBy, Cond.selects RX6 yX6_usedBy yX6_usedBy, Cond.code yX6_usedBy cX6_usedBy 5 (some .int), Cond.methodLink RX6 72 yX6_has, Cond.static yX6_has, Cond.code yX6_has cX6_has 2 (some .boolean), Cond.methodLink RX6 134 yX6_findList, Cond.instanceMethod yX6_findList, Cond.selects RX6 yX6_findList yX6_findList, Cond.code yX6_findList cX6_findList 4 (some .boolean), Cond.fieldLink RX6 28 "PlaFolderModel" "list" "[I", Cond.fieldLink RX6 131 "PlaFolderModel" "listMany" "I", Cond.methodLink RX6 87 yX6_fits, Cond.instanceMethod yX6_fits, Cond.selects RX6 yX6_fits yX6_fits, Cond.code yX6_fits cX6_fits 3 (some .boolean)]
def wsX6_findBest_r2 : List Cond := [Cond.methodLink RX6 81 yX6_isColumn, Cond.instanceMethod yX6_isColumn, Cond.selects RX6 yX6_isColumn yX6_isColumn, Cond.code yX6_isColumn cX6_isColumn 2 (some .boolean), Cond.methodLink RX6 34 yX6_in, Cond.static yX6_in, Cond.code yX6_in cX6_in 3 (some .boolean), Cond.methodLink RX6 128 yX6_mayStand, Cond.instanceMethod yX6_mayStand, Cond.selects RX6 yX6_mayStand yX6_mayStand, Cond.code yX6_mayStand cX6_mayStand 5 (some .boolean), Cond.methodLink RX6 90 yX6_noDemands, Cond.instanceMethod yX6_noDemands, Cond.selects RX6 yX6_noDemands yX6_noDemands, Cond.code yX6_noDemands cX6_noDemands 2 none, Cond.fieldLink RX6 22 "PlaFolderModel" "under" "[I", Cond.methodLink RX6 93 yX6_demand, Cond.instanceMethod yX6_demand, Cond.selects RX6 yX6_demand yX6_demand, Cond.code yX6_demand cX6_demand 4 none, Cond.methodLink RX6 103 yX6_layRows, Cond.instanceMethod yX6_layRows, Cond.selects RX6 yX6_layRows yX6_layRows, Cond.code yX6_layRows cX6_layRows 7 (some .boolean)]
def wsX6_findBest_r3 : List Cond := [Cond.fieldLink RX6 25 "PlaFolderModel" "order" "[I"]
def wsX6_findBest : List Cond := .code yX6_findBest cX6_findBest 2 none :: ((wsX6_findBest_r1 ++ (wsX6_findBest_r2 ++ wsX6_findBest_r3)) ++ wsX60)
def wsX6_bestUpper_r1 : List Cond := [Cond.fieldLink RX6 131 "PlaFolderModel" "listMany" "I", Cond.fieldLink RX6 28 "PlaFolderModel" "list" "[I", Cond.methodLink RX6 42 yX6_error, Cond.instanceMethod yX6_error, Cond.selects RX6 yX6_error yX6_error, Cond.initialized RX6, Cond.code yX6_error cX6_error 2 (some .int), Cond.fieldLink RX6 16 "PlaFolderModel" "errors" "[I", Cond.methodLink RX6 137 yX6_findBest, Cond.instanceMethod yX6_findBest, Cond.selects RX6 yX6_findBest yX6_findBest, Cond.code yX6_findBest cX6_findBest 2 none, Cond.fieldLink RX6 7 "PlaFolderModel" "now" "[I", Cond.methodLink RX6 84 yX6_layUsed, Cond.instanceMethod yX6_layUsed, Cond.selects RX6 yX6_layUsed yX6_layUsed, Cond.code yX6_layUsed cX6_layUsed 2 none, Cond.fieldLink RX6 19 "PlaFolderModel" "used" "[I", Cond.methodLink RX6 78 yX6_usedBy, Cond.instanceMethod yX6_usedBy, Cond.selects RX6 yX6_usedBy yX6_usedBy, Cond.code yX6_usedBy cX6_usedBy 5 (some .int), Cond.methodLink RX6 72 yX6_has, Cond.static yX6_has]
def wsX6_bestUpper_r2 : List Cond := [Cond.code yX6_has cX6_has 2 (some .boolean), Cond.methodLink RX6 134 yX6_findList, Cond.instanceMethod yX6_findList, Cond.selects RX6 yX6_findList yX6_findList, Cond.code yX6_findList cX6_findList 4 (some .boolean), Cond.methodLink RX6 87 yX6_fits, Cond.instanceMethod yX6_fits, Cond.selects RX6 yX6_fits yX6_fits, Cond.code yX6_fits cX6_fits 3 (some .boolean), Cond.methodLink RX6 81 yX6_isColumn, Cond.instanceMethod yX6_isColumn, Cond.selects RX6 yX6_isColumn yX6_isColumn, Cond.code yX6_isColumn cX6_isColumn 2 (some .boolean), Cond.methodLink RX6 34 yX6_in, Cond.static yX6_in, Cond.code yX6_in cX6_in 3 (some .boolean), Cond.methodLink RX6 128 yX6_mayStand, Cond.instanceMethod yX6_mayStand, Cond.selects RX6 yX6_mayStand yX6_mayStand, Cond.code yX6_mayStand cX6_mayStand 5 (some .boolean), Cond.methodLink RX6 90 yX6_noDemands, Cond.instanceMethod yX6_noDemands, Cond.selects RX6 yX6_noDemands yX6_noDemands, Cond.code yX6_noDemands cX6_noDemands 2 none]
def wsX6_bestUpper_r3 : List Cond := [Cond.fieldLink RX6 22 "PlaFolderModel" "under" "[I", Cond.methodLink RX6 93 yX6_demand, Cond.instanceMethod yX6_demand, Cond.selects RX6 yX6_demand yX6_demand, Cond.code yX6_demand cX6_demand 4 none, Cond.methodLink RX6 103 yX6_layRows, Cond.instanceMethod yX6_layRows, Cond.selects RX6 yX6_layRows yX6_layRows, Cond.code yX6_layRows cX6_layRows 7 (some .boolean), Cond.fieldLink RX6 25 "PlaFolderModel" "order" "[I"]
def wsX6_bestUpper : List Cond := .code yX6_bestUpper cX6_bestUpper 2 (some .int) :: ((wsX6_bestUpper_r1 ++ (wsX6_bestUpper_r2 ++ wsX6_bestUpper_r3)) ++ wsX60)
def wsX6_bestLower_r1 : List Cond := [Cond.fieldLink RX6 131 "PlaFolderModel" "listMany" "I", Cond.fieldLink RX6 28 "PlaFolderModel" "list" "[I", Cond.methodLink RX6 42 yX6_error, Cond.instanceMethod yX6_error, Cond.selects RX6 yX6_error yX6_error, Cond.initialized RX6, Cond.code yX6_error cX6_error 2 (some .int), Cond.fieldLink RX6 16 "PlaFolderModel" "errors" "[I", Cond.methodLink RX6 137 yX6_findBest, Cond.instanceMethod yX6_findBest, Cond.selects RX6 yX6_findBest yX6_findBest, Cond.code yX6_findBest cX6_findBest 2 none, Cond.fieldLink RX6 7 "PlaFolderModel" "now" "[I", Cond.methodLink RX6 84 yX6_layUsed, Cond.instanceMethod yX6_layUsed, Cond.selects RX6 yX6_layUsed yX6_layUsed, Cond.code yX6_layUsed cX6_layUsed 2 none, Cond.fieldLink RX6 19 "PlaFolderModel" "used" "[I", Cond.methodLink RX6 78 yX6_usedBy, Cond.instanceMethod yX6_usedBy, Cond.selects RX6 yX6_usedBy yX6_usedBy, Cond.code yX6_usedBy cX6_usedBy 5 (some .int), Cond.methodLink RX6 72 yX6_has, Cond.static yX6_has]
def wsX6_bestLower_r2 : List Cond := [Cond.code yX6_has cX6_has 2 (some .boolean), Cond.methodLink RX6 134 yX6_findList, Cond.instanceMethod yX6_findList, Cond.selects RX6 yX6_findList yX6_findList, Cond.code yX6_findList cX6_findList 4 (some .boolean), Cond.methodLink RX6 87 yX6_fits, Cond.instanceMethod yX6_fits, Cond.selects RX6 yX6_fits yX6_fits, Cond.code yX6_fits cX6_fits 3 (some .boolean), Cond.methodLink RX6 81 yX6_isColumn, Cond.instanceMethod yX6_isColumn, Cond.selects RX6 yX6_isColumn yX6_isColumn, Cond.code yX6_isColumn cX6_isColumn 2 (some .boolean), Cond.methodLink RX6 34 yX6_in, Cond.static yX6_in, Cond.code yX6_in cX6_in 3 (some .boolean), Cond.methodLink RX6 128 yX6_mayStand, Cond.instanceMethod yX6_mayStand, Cond.selects RX6 yX6_mayStand yX6_mayStand, Cond.code yX6_mayStand cX6_mayStand 5 (some .boolean), Cond.methodLink RX6 90 yX6_noDemands, Cond.instanceMethod yX6_noDemands, Cond.selects RX6 yX6_noDemands yX6_noDemands, Cond.code yX6_noDemands cX6_noDemands 2 none]
def wsX6_bestLower_r3 : List Cond := [Cond.fieldLink RX6 22 "PlaFolderModel" "under" "[I", Cond.methodLink RX6 93 yX6_demand, Cond.instanceMethod yX6_demand, Cond.selects RX6 yX6_demand yX6_demand, Cond.code yX6_demand cX6_demand 4 none, Cond.methodLink RX6 103 yX6_layRows, Cond.instanceMethod yX6_layRows, Cond.selects RX6 yX6_layRows yX6_layRows, Cond.code yX6_layRows cX6_layRows 7 (some .boolean), Cond.fieldLink RX6 25 "PlaFolderModel" "order" "[I"]
def wsX6_bestLower : List Cond := .code yX6_bestLower cX6_bestLower 2 (some .int) :: ((wsX6_bestLower_r1 ++ (wsX6_bestLower_r2 ++ wsX6_bestLower_r3)) ++ wsX60)
def wsX6_foldBest_r1 : List Cond := [Cond.fieldLink RX6 131 "PlaFolderModel" "listMany" "I", Cond.fieldLink RX6 7 "PlaFolderModel" "now" "[I", Cond.fieldLink RX6 28 "PlaFolderModel" "list" "[I", Cond.methodLink RX6 46 yX6_save, Cond.instanceMethod yX6_save, Cond.selects RX6 yX6_save yX6_save, Cond.initialized RX6, Cond.code yX6_save cX6_save 2 none, Cond.fieldLink RX6 38 "PlaFolderModel" "states" "I", Cond.fieldLink RX6 13 "PlaFolderModel" "past" "[I", Cond.methodLink RX6 137 yX6_findBest, Cond.instanceMethod yX6_findBest, Cond.selects RX6 yX6_findBest yX6_findBest, Cond.code yX6_findBest cX6_findBest 2 none, Cond.methodLink RX6 84 yX6_layUsed, Cond.instanceMethod yX6_layUsed, Cond.selects RX6 yX6_layUsed yX6_layUsed, Cond.code yX6_layUsed cX6_layUsed 2 none, Cond.fieldLink RX6 19 "PlaFolderModel" "used" "[I", Cond.methodLink RX6 78 yX6_usedBy, Cond.instanceMethod yX6_usedBy, Cond.selects RX6 yX6_usedBy yX6_usedBy, Cond.code yX6_usedBy cX6_usedBy 5 (some .int), Cond.methodLink RX6 72 yX6_has]
def wsX6_foldBest_r2 : List Cond := [Cond.static yX6_has, Cond.code yX6_has cX6_has 2 (some .boolean), Cond.methodLink RX6 134 yX6_findList, Cond.instanceMethod yX6_findList, Cond.selects RX6 yX6_findList yX6_findList, Cond.code yX6_findList cX6_findList 4 (some .boolean), Cond.methodLink RX6 87 yX6_fits, Cond.instanceMethod yX6_fits, Cond.selects RX6 yX6_fits yX6_fits, Cond.code yX6_fits cX6_fits 3 (some .boolean), Cond.methodLink RX6 81 yX6_isColumn, Cond.instanceMethod yX6_isColumn, Cond.selects RX6 yX6_isColumn yX6_isColumn, Cond.code yX6_isColumn cX6_isColumn 2 (some .boolean), Cond.methodLink RX6 34 yX6_in, Cond.static yX6_in, Cond.code yX6_in cX6_in 3 (some .boolean), Cond.methodLink RX6 128 yX6_mayStand, Cond.instanceMethod yX6_mayStand, Cond.selects RX6 yX6_mayStand yX6_mayStand, Cond.code yX6_mayStand cX6_mayStand 5 (some .boolean), Cond.methodLink RX6 90 yX6_noDemands, Cond.instanceMethod yX6_noDemands, Cond.selects RX6 yX6_noDemands yX6_noDemands]
def wsX6_foldBest_r3 : List Cond := [Cond.code yX6_noDemands cX6_noDemands 2 none, Cond.fieldLink RX6 22 "PlaFolderModel" "under" "[I", Cond.methodLink RX6 93 yX6_demand, Cond.instanceMethod yX6_demand, Cond.selects RX6 yX6_demand yX6_demand, Cond.code yX6_demand cX6_demand 4 none, Cond.methodLink RX6 103 yX6_layRows, Cond.instanceMethod yX6_layRows, Cond.selects RX6 yX6_layRows yX6_layRows, Cond.code yX6_layRows cX6_layRows 7 (some .boolean), Cond.fieldLink RX6 25 "PlaFolderModel" "order" "[I", Cond.methodLink RX6 31 yX6_noFolds, Cond.instanceMethod yX6_noFolds, Cond.selects RX6 yX6_noFolds yX6_noFolds, Cond.code yX6_noFolds cX6_noFolds 2 none, Cond.methodLink RX6 122 yX6_areaNow, Cond.instanceMethod yX6_areaNow, Cond.selects RX6 yX6_areaNow yX6_areaNow, Cond.code yX6_areaNow cX6_areaNow 1 (some .int), Cond.methodLink RX6 107 yX6_foldMany, Cond.instanceMethod yX6_foldMany, Cond.selects RX6 yX6_foldMany yX6_foldMany, Cond.code yX6_foldMany cX6_foldMany 3 (some .int)]
def wsX6_foldBest : List Cond := .code yX6_foldBest cX6_foldBest 2 (some .int) :: ((wsX6_foldBest_r1 ++ (wsX6_foldBest_r2 ++ wsX6_foldBest_r3)) ++ wsX60)
def wsX6_errorCount : List Cond := .code yX6_errorCount cX6_errorCount 2 (some .int) :: ([.fieldLink RX6 16 "PlaFolderModel" "errors" "[I", .methodLink RX6 34 yX6_in, .static yX6_in, .initialized RX6, .code yX6_in cX6_in 3 (some .boolean), .methodLink RX6 42 yX6_error, .instanceMethod yX6_error, .selects RX6 yX6_error yX6_error, .code yX6_error cX6_error 2 (some .int)] ++ wsX60)
def wsX6_mix : List Cond := .code yX6_mix cX6_mix 3 none :: ([.constantLong RX6 140 (31), .fieldLink RX6 142 "PlaFolderModel" "hash" "J"] ++ wsX60)
def wsX6_mixTerms_r1 : List Cond := [Cond.fieldLink RX6 7 "PlaFolderModel" "now" "[I", Cond.fieldLink RX6 19 "PlaFolderModel" "used" "[I", Cond.methodLink RX6 146 yX6_mix, Cond.instanceMethod yX6_mix, Cond.selects RX6 yX6_mix yX6_mix, Cond.initialized RX6, Cond.code yX6_mix cX6_mix 3 none, Cond.constantLong RX6 140 (31), Cond.fieldLink RX6 142 "PlaFolderModel" "hash" "J", Cond.methodLink RX6 75 yX6_redundant, Cond.instanceMethod yX6_redundant, Cond.selects RX6 yX6_redundant yX6_redundant, Cond.code yX6_redundant cX6_redundant 4 (some .boolean), Cond.methodLink RX6 64 yX6_words, Cond.instanceMethod yX6_words, Cond.selects RX6 yX6_words yX6_words, Cond.code yX6_words cX6_words 1 (some .int), Cond.methodLink RX6 68 yX6_outputs, Cond.instanceMethod yX6_outputs, Cond.selects RX6 yX6_outputs yX6_outputs, Cond.code yX6_outputs cX6_outputs 6 (some .int), Cond.methodLink RX6 119 yX6_rowAt, Cond.instanceMethod yX6_rowAt, Cond.selects RX6 yX6_rowAt yX6_rowAt]
def wsX6_mixTerms_r2 : List Cond := [Cond.code yX6_rowAt cX6_rowAt 3 (some .int), Cond.fieldLink RX6 25 "PlaFolderModel" "order" "[I", Cond.methodLink RX6 81 yX6_isColumn, Cond.instanceMethod yX6_isColumn, Cond.selects RX6 yX6_isColumn yX6_isColumn, Cond.code yX6_isColumn cX6_isColumn 2 (some .boolean), Cond.methodLink RX6 34 yX6_in, Cond.static yX6_in, Cond.code yX6_in cX6_in 3 (some .boolean), Cond.methodLink RX6 110 yX6_partnerOf, Cond.instanceMethod yX6_partnerOf, Cond.selects RX6 yX6_partnerOf yX6_partnerOf, Cond.code yX6_partnerOf cX6_partnerOf 2 (some .int), Cond.methodLink RX6 125 yX6_spanOf, Cond.instanceMethod yX6_spanOf, Cond.selects RX6 yX6_spanOf yX6_spanOf, Cond.code yX6_spanOf cX6_spanOf 5 (some .int), Cond.methodLink RX6 72 yX6_has, Cond.static yX6_has, Cond.code yX6_has cX6_has 2 (some .boolean)]
def wsX6_mixTerms : List Cond := .code yX6_mixTerms cX6_mixTerms 2 none :: ((wsX6_mixTerms_r1 ++ wsX6_mixTerms_r2) ++ wsX60)
def wsX6_digest_r1 : List Cond := [Cond.constantLong RX6 150 (2713), Cond.fieldLink RX6 142 "PlaFolderModel" "hash" "J", Cond.fieldLink RX6 16 "PlaFolderModel" "errors" "[I", Cond.fieldLink RX6 7 "PlaFolderModel" "now" "[I", Cond.fieldLink RX6 131 "PlaFolderModel" "listMany" "I", Cond.fieldLink RX6 28 "PlaFolderModel" "list" "[I", Cond.fieldLink RX6 38 "PlaFolderModel" "states" "I", Cond.methodLink RX6 146 yX6_mix, Cond.instanceMethod yX6_mix, Cond.selects RX6 yX6_mix yX6_mix, Cond.initialized RX6, Cond.code yX6_mix cX6_mix 3 none, Cond.constantLong RX6 140 (31), Cond.methodLink RX6 116 yX6_lay, Cond.instanceMethod yX6_lay, Cond.selects RX6 yX6_lay yX6_lay, Cond.code yX6_lay cX6_lay 2 none, Cond.methodLink RX6 97 yX6_layDemands, Cond.instanceMethod yX6_layDemands, Cond.selects RX6 yX6_layDemands yX6_layDemands, Cond.code yX6_layDemands cX6_layDemands 2 none, Cond.methodLink RX6 84 yX6_layUsed, Cond.instanceMethod yX6_layUsed, Cond.selects RX6 yX6_layUsed yX6_layUsed]
def wsX6_digest_r2 : List Cond := [Cond.code yX6_layUsed cX6_layUsed 2 none, Cond.fieldLink RX6 19 "PlaFolderModel" "used" "[I", Cond.methodLink RX6 78 yX6_usedBy, Cond.instanceMethod yX6_usedBy, Cond.selects RX6 yX6_usedBy yX6_usedBy, Cond.code yX6_usedBy cX6_usedBy 5 (some .int), Cond.methodLink RX6 72 yX6_has, Cond.static yX6_has, Cond.code yX6_has cX6_has 2 (some .boolean), Cond.methodLink RX6 90 yX6_noDemands, Cond.instanceMethod yX6_noDemands, Cond.selects RX6 yX6_noDemands yX6_noDemands, Cond.code yX6_noDemands cX6_noDemands 2 none, Cond.fieldLink RX6 22 "PlaFolderModel" "under" "[I", Cond.methodLink RX6 93 yX6_demand, Cond.instanceMethod yX6_demand, Cond.selects RX6 yX6_demand yX6_demand, Cond.code yX6_demand cX6_demand 4 none, Cond.methodLink RX6 103 yX6_layRows, Cond.instanceMethod yX6_layRows, Cond.selects RX6 yX6_layRows yX6_layRows, Cond.code yX6_layRows cX6_layRows 7 (some .boolean), Cond.fieldLink RX6 25 "PlaFolderModel" "order" "[I", Cond.methodLink RX6 152 yX6_mixTerms]
def wsX6_digest_r3 : List Cond := [Cond.instanceMethod yX6_mixTerms, Cond.selects RX6 yX6_mixTerms yX6_mixTerms, Cond.code yX6_mixTerms cX6_mixTerms 2 none, Cond.methodLink RX6 75 yX6_redundant, Cond.instanceMethod yX6_redundant, Cond.selects RX6 yX6_redundant yX6_redundant, Cond.code yX6_redundant cX6_redundant 4 (some .boolean), Cond.methodLink RX6 64 yX6_words, Cond.instanceMethod yX6_words, Cond.selects RX6 yX6_words yX6_words, Cond.code yX6_words cX6_words 1 (some .int), Cond.methodLink RX6 68 yX6_outputs, Cond.instanceMethod yX6_outputs, Cond.selects RX6 yX6_outputs yX6_outputs, Cond.code yX6_outputs cX6_outputs 6 (some .int), Cond.methodLink RX6 119 yX6_rowAt, Cond.instanceMethod yX6_rowAt, Cond.selects RX6 yX6_rowAt yX6_rowAt, Cond.code yX6_rowAt cX6_rowAt 3 (some .int), Cond.methodLink RX6 81 yX6_isColumn, Cond.instanceMethod yX6_isColumn, Cond.selects RX6 yX6_isColumn yX6_isColumn, Cond.code yX6_isColumn cX6_isColumn 2 (some .boolean), Cond.methodLink RX6 34 yX6_in]
def wsX6_digest_r4 : List Cond := [Cond.static yX6_in, Cond.code yX6_in cX6_in 3 (some .boolean), Cond.methodLink RX6 110 yX6_partnerOf, Cond.instanceMethod yX6_partnerOf, Cond.selects RX6 yX6_partnerOf yX6_partnerOf, Cond.code yX6_partnerOf cX6_partnerOf 2 (some .int), Cond.methodLink RX6 125 yX6_spanOf, Cond.instanceMethod yX6_spanOf, Cond.selects RX6 yX6_spanOf yX6_spanOf, Cond.code yX6_spanOf cX6_spanOf 5 (some .int), Cond.methodLink RX6 122 yX6_areaNow, Cond.instanceMethod yX6_areaNow, Cond.selects RX6 yX6_areaNow yX6_areaNow, Cond.code yX6_areaNow cX6_areaNow 1 (some .int), Cond.methodLink RX6 107 yX6_foldMany, Cond.instanceMethod yX6_foldMany, Cond.selects RX6 yX6_foldMany yX6_foldMany, Cond.code yX6_foldMany cX6_foldMany 3 (some .int), Cond.methodLink RX6 137 yX6_findBest, Cond.instanceMethod yX6_findBest, Cond.selects RX6 yX6_findBest yX6_findBest, Cond.code yX6_findBest cX6_findBest 2 none, Cond.methodLink RX6 134 yX6_findList, Cond.instanceMethod yX6_findList]
def wsX6_digest_r5 : List Cond := [Cond.selects RX6 yX6_findList yX6_findList, Cond.code yX6_findList cX6_findList 4 (some .boolean), Cond.methodLink RX6 87 yX6_fits, Cond.instanceMethod yX6_fits, Cond.selects RX6 yX6_fits yX6_fits, Cond.code yX6_fits cX6_fits 3 (some .boolean), Cond.methodLink RX6 128 yX6_mayStand, Cond.instanceMethod yX6_mayStand, Cond.selects RX6 yX6_mayStand yX6_mayStand, Cond.code yX6_mayStand cX6_mayStand 5 (some .boolean)]
def wsX6_digest : List Cond := .code yX6_digest cX6_digest 2 (some .long) :: ((wsX6_digest_r1 ++ (wsX6_digest_r2 ++ (wsX6_digest_r3 ++ (wsX6_digest_r4 ++ wsX6_digest_r5)))) ++ wsX60)
def wsJ9_max_7cf53 : List Cond := .code yJ9_max_7cf53 cJ9_max_7cf53 2 (some .int) :: ([])
def wsJ9_min_7cf53 : List Cond := .code yJ9_min_7cf53 cJ9_min_7cf53 2 (some .int) :: ([])
def wsL_law_r1 : List Cond := [Cond.classLink RL 7 RX5, Cond.instantiable RX5 6, Cond.initialized RX5, Cond.classLink RL 10 RX6, Cond.instantiable RX6 10, Cond.initialized RX6, Cond.methodLink RL 9 yX5_init, Cond.instanceMethod yX5_init, Cond.code yX5_init cX5_init 1 none, Cond.methodLink RX5 3 objectInit, Cond.instanceMethod objectInit, Cond.code objectInit ⟨#[0xb1]⟩ 1 none, Cond.classLink RX5 9 RX4, Cond.instantiable RX4 10, Cond.initialized RX4, Cond.fieldLink RX5 12 "PlaFolder" "state" "LPlaFolder$State;", Cond.classLink RX5 16 RX2, Cond.instantiable RX2 2, Cond.initialized RX2, Cond.fieldLink RX5 19 "PlaFolder" "history" "LPlaFolder$History;", Cond.classLink RX5 23 RX1, Cond.instantiable RX1 1, Cond.initialized RX1, Cond.fieldLink RX5 26 "PlaFolder" "demands" "LPlaFolder$Demands;"]
def wsL_law_r2 : List Cond := [Cond.classLink RX5 30 RX3, Cond.instantiable RX3 2, Cond.initialized RX3, Cond.fieldLink RX5 33 "PlaFolder" "rows" "LPlaFolder$RowOrder;", Cond.classLink RX5 37 RX0, Cond.instantiable RX0 9, Cond.initialized RX0, Cond.fieldLink RX5 40 "PlaFolder" "best" "LPlaFolder$BestFolding;", Cond.arrayClass .int, Cond.fieldLink RX5 44 "PlaFolder" "errors" "[I", Cond.instanceMethod yX4_init, Cond.code yX4_init cX4_init 1 none, Cond.methodLink RX4 3 objectInit, Cond.fieldLink RX4 9 "PlaFolder$State" "inputs" "I", Cond.fieldLink RX4 15 "PlaFolder$State" "outputs" "I", Cond.fieldLink RX4 18 "PlaFolder$State" "termCount" "I", Cond.fieldLink RX4 21 "PlaFolder$State" "foldCount" "I", Cond.fieldLink RX4 24 "PlaFolder$State" "ones" "[I", Cond.fieldLink RX4 28 "PlaFolder$State" "zeros" "[I", Cond.fieldLink RX4 31 "PlaFolder$State" "outs" "[I", Cond.arrayClass .long, Cond.fieldLink RX4 34 "PlaFolder$State" "words" "[J", Cond.fieldLink RX4 38 "PlaFolder$State" "lowerOf" "[I", Cond.fieldLink RX4 41 "PlaFolder$State" "upperOf" "[I"]
def wsL_law_r3 : List Cond := [Cond.methodLink RX4 44 yJ7_fill_53178, Cond.static yJ7_fill_53178, Cond.initialized RJ7, Cond.code yJ7_fill_53178 cJ7_fill_53178 4 none, Cond.instanceMethod yX2_init, Cond.code yX2_init cX2_init 2 none, Cond.methodLink RX2 3 objectInit, Cond.classLink RX2 9 RX4, Cond.fieldLink RX2 11 "PlaFolder$History" "saved" "[LPlaFolder$State;", Cond.fieldLink RX2 17 "PlaFolder$History" "count" "I", Cond.instanceMethod yX1_init, Cond.code yX1_init cX1_init 1 none, Cond.methodLink RX1 3 objectInit, Cond.fieldLink RX1 9 "PlaFolder$Demands" "above" "[I", Cond.instanceMethod yX3_init, Cond.code yX3_init cX3_init 1 none, Cond.methodLink RX3 3 objectInit, Cond.fieldLink RX3 9 "PlaFolder$RowOrder" "termInRow" "[I", Cond.fieldLink RX3 15 "PlaFolder$RowOrder" "rowOfTerm" "[I", Cond.instanceMethod yX0_init, Cond.code yX0_init cX0_init 2 none, Cond.methodLink RX0 3 objectInit, Cond.fieldLink RX0 9 "PlaFolder$BestFolding" "known" "Z", Cond.fieldLink RX0 15 "PlaFolder$BestFolding" "count" "I"]
def wsL_law_r4 : List Cond := [Cond.fieldLink RX0 19 "PlaFolder$BestFolding" "upper" "[I", Cond.fieldLink RX0 23 "PlaFolder$BestFolding" "lower" "[I", Cond.fieldLink RX0 26 "PlaFolder$BestFolding" "triedUpper" "[I", Cond.fieldLink RX0 29 "PlaFolder$BestFolding" "triedLower" "[I", Cond.fieldLink RX0 32 "PlaFolder$BestFolding" "used" "[I", Cond.fieldLink RX0 35 "PlaFolder$BestFolding" "mates" "[I", Cond.classLink RX0 38 RX1, Cond.fieldLink RX0 40 "PlaFolder$BestFolding" "demandsAt" "[LPlaFolder$Demands;", Cond.methodLink RL 12 yX6_init, Cond.instanceMethod yX6_init, Cond.code yX6_init cX6_init 1 none, Cond.methodLink RX6 1 objectInit, Cond.fieldLink RX6 7 "PlaFolderModel" "now" "[I", Cond.fieldLink RX6 13 "PlaFolderModel" "past" "[I", Cond.fieldLink RX6 16 "PlaFolderModel" "errors" "[I", Cond.fieldLink RX6 19 "PlaFolderModel" "used" "[I", Cond.fieldLink RX6 22 "PlaFolderModel" "under" "[I", Cond.fieldLink RX6 25 "PlaFolderModel" "order" "[I", Cond.fieldLink RX6 28 "PlaFolderModel" "list" "[I", Cond.methodLink RX6 31 yX6_noFolds, Cond.instanceMethod yX6_noFolds, Cond.selects RX6 yX6_noFolds yX6_noFolds, Cond.code yX6_noFolds cX6_noFolds 2 none, Cond.methodLink RL 13 yX5_setSize]
def wsL_law_r5 : List Cond := [Cond.instanceMethod yX5_setSize, Cond.selects RX5 yX5_setSize yX5_setSize, Cond.code yX5_setSize cX5_setSize 4 (some .int), Cond.methodLink RX5 48 yX5_fail, Cond.instanceMethod yX5_fail, Cond.selects RX5 yX5_fail yX5_fail, Cond.code yX5_fail cX5_fail 2 (some .int), Cond.instanceMethod yX2_push, Cond.selects RX2 yX2_push yX2_push, Cond.code yX2_push cX2_push 2 none, Cond.methodLink RX2 22 yX2_dropOldest, Cond.instanceMethod yX2_dropOldest, Cond.selects RX2 yX2_dropOldest yX2_dropOldest, Cond.code yX2_dropOldest cX2_dropOldest 3 none, Cond.instanceMethod yX4_copyFrom, Cond.selects RX4 yX4_copyFrom yX4_copyFrom, Cond.code yX4_copyFrom cX4_copyFrom 2 none, Cond.methodLink RX4 50 arraycopyName, Cond.native arraycopyName, Cond.static arraycopyName, Cond.initialized "java/lang/System", Cond.instanceMethod yX4_resize, Cond.selects RX4 yX4_resize yX4_resize, Cond.code yX4_resize cX4_resize 3 none]
def wsL_law_r6 : List Cond := [Cond.methodLink RX4 56 yX4_partAll, Cond.instanceMethod yX4_partAll, Cond.selects RX4 yX4_partAll yX4_partAll, Cond.code yX4_partAll cX4_partAll 1 none, Cond.methodLink RX5 64 yX5_termsChanged, Cond.instanceMethod yX5_termsChanged, Cond.selects RX5 yX5_termsChanged yX5_termsChanged, Cond.code yX5_termsChanged cX5_termsChanged 1 none, Cond.methodLink RX5 138 yX5_foldsChanged, Cond.instanceMethod yX5_foldsChanged, Cond.selects RX5 yX5_foldsChanged yX5_foldsChanged, Cond.code yX5_foldsChanged cX5_foldsChanged 1 none, Cond.instanceMethod yX1_collect, Cond.selects RX1 yX1_collect yX1_collect, Cond.code yX1_collect cX1_collect 4 none, Cond.methodLink RX1 27 yX1_clear, Cond.instanceMethod yX1_clear, Cond.selects RX1 yX1_clear yX1_clear, Cond.code yX1_clear cX1_clear 1 none, Cond.methodLink RX1 15 yJ7_fill_53178, Cond.instanceMethod yX4_termsOfColumn, Cond.selects RX4 yX4_termsOfColumn yX4_termsOfColumn, Cond.code yX4_termsOfColumn cX4_termsOfColumn 5 (some .int), Cond.static yX5_contains]
def wsL_law_r7 : List Cond := [Cond.code yX5_contains cX5_contains 2 (some .boolean), Cond.methodLink RX1 39 yX1_add, Cond.instanceMethod yX1_add, Cond.selects RX1 yX1_add yX1_add, Cond.code yX1_add cX1_add 5 none, Cond.methodLink RX1 47 yX1_withAllAbove, Cond.instanceMethod yX1_withAllAbove, Cond.selects RX1 yX1_withAllAbove yX1_withAllAbove, Cond.code yX1_withAllAbove cX1_withAllAbove 4 (some .int), Cond.instanceMethod yX3_build, Cond.selects RX3 yX3_build yX3_build, Cond.code yX3_build cX3_build 6 none, Cond.methodLink RX3 18 yX3_nextTerm, Cond.static yX3_nextTerm, Cond.code yX3_nextTerm cX3_nextTerm 4 (some .int), Cond.methodLink RL 17 yX6_setSize, Cond.instanceMethod yX6_setSize, Cond.selects RX6 yX6_setSize yX6_setSize, Cond.code yX6_setSize cX6_setSize 4 (some .int), Cond.methodLink RX6 34 yX6_in, Cond.static yX6_in, Cond.code yX6_in cX6_in 3 (some .boolean), Cond.methodLink RX6 42 yX6_error, Cond.instanceMethod yX6_error]
def wsL_law_r8 : List Cond := [Cond.selects RX6 yX6_error yX6_error, Cond.code yX6_error cX6_error 2 (some .int), Cond.methodLink RX6 46 yX6_save, Cond.instanceMethod yX6_save, Cond.selects RX6 yX6_save yX6_save, Cond.code yX6_save cX6_save 2 none, Cond.fieldLink RX6 38 "PlaFolderModel" "states" "I", Cond.methodLink RL 18 yX5_addTerm, Cond.instanceMethod yX5_addTerm, Cond.selects RX5 yX5_addTerm yX5_addTerm, Cond.code yX5_addTerm cX5_addTerm 4 (some .int), Cond.instanceMethod yX4_takesTerm, Cond.selects RX4 yX4_takesTerm yX4_takesTerm, Cond.code yX4_takesTerm cX4_takesTerm 6 (some .boolean), Cond.instanceMethod yX4_appendTerm, Cond.selects RX4 yX4_appendTerm yX4_appendTerm, Cond.code yX4_appendTerm cX4_appendTerm 4 none, Cond.methodLink RX4 59 yX4_wordsOfTerm, Cond.instanceMethod yX4_wordsOfTerm, Cond.selects RX4 yX4_wordsOfTerm yX4_wordsOfTerm, Cond.code yX4_wordsOfTerm cX4_wordsOfTerm 6 (some .long), Cond.constantLong RX4 74 (-1), Cond.methodLink RX4 63 yX4_allWords, Cond.instanceMethod yX4_allWords]
def wsL_law_r9 : List Cond := [Cond.selects RX4 yX4_allWords yX4_allWords, Cond.code yX4_allWords cX4_allWords 1 (some .long), Cond.methodLink RL 22 yX6_addTerm, Cond.instanceMethod yX6_addTerm, Cond.selects RX6 yX6_addTerm yX6_addTerm, Cond.code yX6_addTerm cX6_addTerm 5 (some .int), Cond.methodLink RX6 49 yX6_isSet, Cond.instanceMethod yX6_isSet, Cond.selects RX6 yX6_isSet yX6_isSet, Cond.code yX6_isSet cX6_isSet 3 (some .boolean), Cond.methodLink RL 23 yX5_removeTerm, Cond.instanceMethod yX5_removeTerm, Cond.selects RX5 yX5_removeTerm yX5_removeTerm, Cond.code yX5_removeTerm cX5_removeTerm 2 (some .int), Cond.instanceMethod yX4_hasTerm, Cond.selects RX4 yX4_hasTerm yX4_hasTerm, Cond.code yX4_hasTerm cX4_hasTerm 2 (some .boolean), Cond.instanceMethod yX4_dropTerm, Cond.selects RX4 yX4_dropTerm yX4_dropTerm, Cond.code yX4_dropTerm cX4_dropTerm 3 none, Cond.methodLink RL 27 yX6_removeTerm, Cond.instanceMethod yX6_removeTerm, Cond.selects RX6 yX6_removeTerm yX6_removeTerm, Cond.code yX6_removeTerm cX6_removeTerm 2 (some .int)]
def wsL_law_r10 : List Cond := [Cond.methodLink RX6 53 yX6_isTerm, Cond.instanceMethod yX6_isTerm, Cond.selects RX6 yX6_isTerm yX6_isTerm, Cond.code yX6_isTerm cX6_isTerm 2 (some .boolean), Cond.methodLink RX6 57 yX6_drop, Cond.instanceMethod yX6_drop, Cond.selects RX6 yX6_drop yX6_drop, Cond.code yX6_drop cX6_drop 3 none, Cond.methodLink RL 28 yX5_terms, Cond.instanceMethod yX5_terms, Cond.selects RX5 yX5_terms yX5_terms, Cond.code yX5_terms cX5_terms 1 (some .int), Cond.methodLink RL 32 yX6_terms, Cond.instanceMethod yX6_terms, Cond.selects RX6 yX6_terms yX6_terms, Cond.code yX6_terms cX6_terms 1 (some .int), Cond.methodLink RL 33 yX5_literals, Cond.instanceMethod yX5_literals, Cond.selects RX5 yX5_literals yX5_literals, Cond.code yX5_literals cX5_literals 2 (some .int), Cond.methodLink RX5 89 yJ6_bitCount_0f7a4, Cond.static yJ6_bitCount_0f7a4, Cond.initialized RJ6, Cond.code yJ6_bitCount_0f7a4 cJ6_bitCount_0f7a4 1 (some .int)]
def wsL_law_r11 : List Cond := [Cond.constant RJ6 265 (1431655765), Cond.constant RJ6 266 (858993459), Cond.constant RJ6 267 (252645135), Cond.methodLink RL 36 yX6_literals, Cond.instanceMethod yX6_literals, Cond.selects RX6 yX6_literals yX6_literals, Cond.code yX6_literals cX6_literals 2 (some .int), Cond.methodLink RX6 61 yX6_many, Cond.static yX6_many, Cond.code yX6_many cX6_many 3 (some .int), Cond.methodLink RL 37 yX5_evaluate, Cond.instanceMethod yX5_evaluate, Cond.selects RX5 yX5_evaluate yX5_evaluate, Cond.code yX5_evaluate cX5_evaluate 2 (some .int), Cond.instanceMethod yX4_outputWord, Cond.selects RX4 yX4_outputWord yX4_outputWord, Cond.code yX4_outputWord cX4_outputWord 4 (some .int), Cond.methodLink RL 40 yX6_evaluate, Cond.instanceMethod yX6_evaluate, Cond.selects RX6 yX6_evaluate yX6_evaluate, Cond.code yX6_evaluate cX6_evaluate 2 (some .int), Cond.methodLink RX6 64 yX6_words, Cond.instanceMethod yX6_words, Cond.selects RX6 yX6_words yX6_words]
def wsL_law_r12 : List Cond := [Cond.code yX6_words cX6_words 1 (some .int), Cond.methodLink RX6 68 yX6_outputs, Cond.instanceMethod yX6_outputs, Cond.selects RX6 yX6_outputs yX6_outputs, Cond.code yX6_outputs cX6_outputs 6 (some .int), Cond.methodLink RL 41 yX5_onCount, Cond.instanceMethod yX5_onCount, Cond.selects RX5 yX5_onCount yX5_onCount, Cond.code yX5_onCount cX5_onCount 2 (some .int), Cond.instanceMethod yX4_wordsOfOutput, Cond.selects RX4 yX4_wordsOfOutput yX4_wordsOfOutput, Cond.code yX4_wordsOfOutput cX4_wordsOfOutput 6 (some .long), Cond.methodLink RX5 107 yJ13_bitCount_95d88, Cond.static yJ13_bitCount_95d88, Cond.initialized RJ13, Cond.code yJ13_bitCount_95d88 cJ13_bitCount_95d88 2 (some .int), Cond.constantLong RJ13 314 (6148914691236517205), Cond.constantLong RJ13 316 (3689348814741910323), Cond.constantLong RJ13 318 (1085102592571150095), Cond.methodLink RL 44 yX6_onCount, Cond.instanceMethod yX6_onCount, Cond.selects RX6 yX6_onCount yX6_onCount, Cond.code yX6_onCount cX6_onCount 4 (some .int), Cond.methodLink RX6 72 yX6_has]
def wsL_law_r13 : List Cond := [Cond.static yX6_has, Cond.code yX6_has cX6_has 2 (some .boolean), Cond.methodLink RL 45 yX5_isRedundant, Cond.instanceMethod yX5_isRedundant, Cond.selects RX5 yX5_isRedundant yX5_isRedundant, Cond.code yX5_isRedundant cX5_isRedundant 2 (some .int), Cond.instanceMethod yX4_isSpare, Cond.selects RX4 yX4_isSpare yX4_isSpare, Cond.code yX4_isSpare cX4_isSpare 3 (some .boolean), Cond.methodLink RX4 76 yX4_wordsOfOutput, Cond.methodLink RX5 115 yX5_flag, Cond.static yX5_flag, Cond.code yX5_flag cX5_flag 1 (some .int), Cond.methodLink RL 48 yX6_isRedundant, Cond.instanceMethod yX6_isRedundant, Cond.selects RX6 yX6_isRedundant yX6_isRedundant, Cond.code yX6_isRedundant cX6_isRedundant 2 (some .int), Cond.methodLink RX6 75 yX6_redundant, Cond.instanceMethod yX6_redundant, Cond.selects RX6 yX6_redundant yX6_redundant, Cond.code yX6_redundant cX6_redundant 4 (some .boolean), Cond.methodLink RL 49 yX5_removeRedundant, Cond.instanceMethod yX5_removeRedundant, Cond.selects RX5 yX5_removeRedundant yX5_removeRedundant]
def wsL_law_r14 : List Cond := [Cond.code yX5_removeRedundant cX5_removeRedundant 3 (some .int), Cond.methodLink RL 52 yX6_removeRedundant, Cond.instanceMethod yX6_removeRedundant, Cond.selects RX6 yX6_removeRedundant yX6_removeRedundant, Cond.code yX6_removeRedundant cX6_removeRedundant 3 (some .int), Cond.methodLink RL 53 yX5_uses, Cond.instanceMethod yX5_uses, Cond.selects RX5 yX5_uses yX5_uses, Cond.code yX5_uses cX5_uses 2 (some .int), Cond.instanceMethod yX4_hasColumn, Cond.selects RX4 yX4_hasColumn yX4_hasColumn, Cond.code yX4_hasColumn cX4_hasColumn 2 (some .boolean), Cond.methodLink RL 56 yX6_uses, Cond.instanceMethod yX6_uses, Cond.selects RX6 yX6_uses yX6_uses, Cond.code yX6_uses cX6_uses 2 (some .int), Cond.methodLink RX6 81 yX6_isColumn, Cond.instanceMethod yX6_isColumn, Cond.selects RX6 yX6_isColumn yX6_isColumn, Cond.code yX6_isColumn cX6_isColumn 2 (some .boolean), Cond.methodLink RX6 78 yX6_usedBy, Cond.instanceMethod yX6_usedBy, Cond.selects RX6 yX6_usedBy yX6_usedBy, Cond.code yX6_usedBy cX6_usedBy 5 (some .int)]
def wsL_law_r15 : List Cond := [Cond.methodLink RL 57 yX5_canFold, Cond.instanceMethod yX5_canFold, Cond.selects RX5 yX5_canFold yX5_canFold, Cond.code yX5_canFold cX5_canFold 3 (some .int), Cond.instanceMethod yX4_isPair, Cond.selects RX4 yX4_isPair yX4_isPair, Cond.code yX4_isPair cX4_isPair 4 (some .boolean), Cond.methodLink RX4 79 yX4_termsOfColumn, Cond.methodLink RL 60 yX6_canFold, Cond.instanceMethod yX6_canFold, Cond.selects RX6 yX6_canFold yX6_canFold, Cond.code yX6_canFold cX6_canFold 3 (some .int), Cond.methodLink RX6 84 yX6_layUsed, Cond.instanceMethod yX6_layUsed, Cond.selects RX6 yX6_layUsed yX6_layUsed, Cond.code yX6_layUsed cX6_layUsed 2 none, Cond.methodLink RX6 87 yX6_fits, Cond.instanceMethod yX6_fits, Cond.selects RX6 yX6_fits yX6_fits, Cond.code yX6_fits cX6_fits 3 (some .boolean), Cond.methodLink RL 61 yX5_fold, Cond.instanceMethod yX5_fold, Cond.selects RX5 yX5_fold yX5_fold, Cond.code yX5_fold cX5_fold 3 (some .int)]
def wsL_law_r16 : List Cond := [Cond.instanceMethod yX4_mateOf, Cond.selects RX4 yX4_mateOf yX4_mateOf, Cond.code yX4_mateOf cX4_mateOf 2 (some .int), Cond.instanceMethod yX1_allow, Cond.selects RX1 yX1_allow yX1_allow, Cond.code yX1_allow cX1_allow 3 (some .boolean), Cond.instanceMethod yX4_join, Cond.selects RX4 yX4_join yX4_join, Cond.code yX4_join cX4_join 3 none, Cond.methodLink RL 64 yX6_fold, Cond.instanceMethod yX6_fold, Cond.selects RX6 yX6_fold yX6_fold, Cond.code yX6_fold cX6_fold 3 (some .int), Cond.methodLink RX6 97 yX6_layDemands, Cond.instanceMethod yX6_layDemands, Cond.selects RX6 yX6_layDemands yX6_layDemands, Cond.code yX6_layDemands cX6_layDemands 2 none, Cond.methodLink RX6 90 yX6_noDemands, Cond.instanceMethod yX6_noDemands, Cond.selects RX6 yX6_noDemands yX6_noDemands, Cond.code yX6_noDemands cX6_noDemands 2 none, Cond.methodLink RX6 93 yX6_demand, Cond.instanceMethod yX6_demand, Cond.selects RX6 yX6_demand yX6_demand]
def wsL_law_r17 : List Cond := [Cond.code yX6_demand cX6_demand 4 none, Cond.methodLink RX6 100 yX6_isFolded, Cond.instanceMethod yX6_isFolded, Cond.selects RX6 yX6_isFolded yX6_isFolded, Cond.code yX6_isFolded cX6_isFolded 2 (some .boolean), Cond.methodLink RX6 103 yX6_layRows, Cond.instanceMethod yX6_layRows, Cond.selects RX6 yX6_layRows yX6_layRows, Cond.code yX6_layRows cX6_layRows 7 (some .boolean), Cond.methodLink RX6 107 yX6_foldMany, Cond.instanceMethod yX6_foldMany, Cond.selects RX6 yX6_foldMany yX6_foldMany, Cond.code yX6_foldMany cX6_foldMany 3 (some .int), Cond.methodLink RL 65 yX5_unfold, Cond.instanceMethod yX5_unfold, Cond.selects RX5 yX5_unfold yX5_unfold, Cond.code yX5_unfold cX5_unfold 2 (some .int), Cond.instanceMethod yX4_part, Cond.selects RX4 yX4_part yX4_part, Cond.code yX4_part cX4_part 3 none, Cond.methodLink RX4 83 yX4_mateOf, Cond.methodLink RL 68 yX6_unfold, Cond.instanceMethod yX6_unfold, Cond.selects RX6 yX6_unfold yX6_unfold]
def wsL_law_r18 : List Cond := [Cond.code yX6_unfold cX6_unfold 2 (some .int), Cond.methodLink RX6 110 yX6_partnerOf, Cond.instanceMethod yX6_partnerOf, Cond.selects RX6 yX6_partnerOf yX6_partnerOf, Cond.code yX6_partnerOf cX6_partnerOf 2 (some .int), Cond.methodLink RX6 113 yX6_apart, Cond.instanceMethod yX6_apart, Cond.selects RX6 yX6_apart yX6_apart, Cond.code yX6_apart cX6_apart 2 none, Cond.methodLink RL 69 yX5_partner, Cond.instanceMethod yX5_partner, Cond.selects RX5 yX5_partner yX5_partner, Cond.code yX5_partner cX5_partner 2 (some .int), Cond.methodLink RL 72 yX6_partner, Cond.instanceMethod yX6_partner, Cond.selects RX6 yX6_partner yX6_partner, Cond.code yX6_partner cX6_partner 2 (some .int), Cond.methodLink RL 73 yX5_folds, Cond.instanceMethod yX5_folds, Cond.selects RX5 yX5_folds yX5_folds, Cond.code yX5_folds cX5_folds 1 (some .int), Cond.methodLink RL 76 yX6_folds, Cond.instanceMethod yX6_folds, Cond.selects RX6 yX6_folds yX6_folds]
def wsL_law_r19 : List Cond := [Cond.code yX6_folds cX6_folds 1 (some .int), Cond.methodLink RL 77 yX5_termAt, Cond.instanceMethod yX5_termAt, Cond.selects RX5 yX5_termAt yX5_termAt, Cond.code yX5_termAt cX5_termAt 2 (some .int), Cond.methodLink RL 80 yX6_termAt, Cond.instanceMethod yX6_termAt, Cond.selects RX6 yX6_termAt yX6_termAt, Cond.code yX6_termAt cX6_termAt 2 (some .int), Cond.methodLink RX6 116 yX6_lay, Cond.instanceMethod yX6_lay, Cond.selects RX6 yX6_lay yX6_lay, Cond.code yX6_lay cX6_lay 2 none, Cond.methodLink RL 81 yX5_rowOf, Cond.instanceMethod yX5_rowOf, Cond.selects RX5 yX5_rowOf yX5_rowOf, Cond.code yX5_rowOf cX5_rowOf 2 (some .int), Cond.methodLink RL 84 yX6_rowOf, Cond.instanceMethod yX6_rowOf, Cond.selects RX6 yX6_rowOf yX6_rowOf, Cond.code yX6_rowOf cX6_rowOf 2 (some .int), Cond.methodLink RX6 119 yX6_rowAt, Cond.instanceMethod yX6_rowAt, Cond.selects RX6 yX6_rowAt yX6_rowAt]
def wsL_law_r20 : List Cond := [Cond.code yX6_rowAt cX6_rowAt 3 (some .int), Cond.methodLink RL 85 yX5_mustPrecede, Cond.instanceMethod yX5_mustPrecede, Cond.selects RX5 yX5_mustPrecede yX5_mustPrecede, Cond.code yX5_mustPrecede cX5_mustPrecede 3 (some .int), Cond.methodLink RX5 156 yX5_contains, Cond.methodLink RL 88 yX6_mustPrecede, Cond.instanceMethod yX6_mustPrecede, Cond.selects RX6 yX6_mustPrecede yX6_mustPrecede, Cond.code yX6_mustPrecede cX6_mustPrecede 6 (some .int), Cond.methodLink RL 89 yX5_area, Cond.instanceMethod yX5_area, Cond.selects RX5 yX5_area yX5_area, Cond.code yX5_area cX5_area 1 (some .int), Cond.methodLink RL 92 yX6_area, Cond.instanceMethod yX6_area, Cond.selects RX6 yX6_area yX6_area, Cond.code yX6_area cX6_area 1 (some .int), Cond.methodLink RX6 122 yX6_areaNow, Cond.instanceMethod yX6_areaNow, Cond.selects RX6 yX6_areaNow yX6_areaNow, Cond.code yX6_areaNow cX6_areaNow 1 (some .int), Cond.methodLink RL 93 yX5_span, Cond.instanceMethod yX5_span]
def wsL_law_r21 : List Cond := [Cond.selects RX5 yX5_span yX5_span, Cond.code yX5_span cX5_span 2 (some .int), Cond.instanceMethod yX3_spread, Cond.selects RX3 yX3_spread yX3_spread, Cond.code yX3_spread cX3_spread 6 (some .int), Cond.methodLink RX3 31 Lib.Math.min.name, Cond.static Lib.Math.min.name, Cond.initialized "java/lang/Math", Cond.code Lib.Math.min.name Lib.Math.min.code 2 (some .int), Cond.methodLink RX3 37 Lib.Math.max.name, Cond.static Lib.Math.max.name, Cond.code Lib.Math.max.name Lib.Math.max.code 2 (some .int), Cond.methodLink RL 96 yX6_span, Cond.instanceMethod yX6_span, Cond.selects RX6 yX6_span yX6_span, Cond.code yX6_span cX6_span 2 (some .int), Cond.methodLink RX6 125 yX6_spanOf, Cond.instanceMethod yX6_spanOf, Cond.selects RX6 yX6_spanOf yX6_spanOf, Cond.code yX6_spanOf cX6_spanOf 5 (some .int), Cond.methodLink RL 97 yX5_bestUpper, Cond.instanceMethod yX5_bestUpper, Cond.selects RX5 yX5_bestUpper yX5_bestUpper, Cond.code yX5_bestUpper cX5_bestUpper 2 (some .int)]
def wsL_law_r22 : List Cond := [Cond.methodLink RX5 163 yX5_findBest, Cond.instanceMethod yX5_findBest, Cond.selects RX5 yX5_findBest yX5_findBest, Cond.code yX5_findBest cX5_findBest 1 none, Cond.instanceMethod yX0_search, Cond.selects RX0 yX0_search yX0_search, Cond.code yX0_search cX0_search 2 none, Cond.methodLink RX0 45 yX0_foldableColumns, Cond.instanceMethod yX0_foldableColumns, Cond.selects RX0 yX0_foldableColumns yX0_foldableColumns, Cond.code yX0_foldableColumns cX0_foldableColumns 4 (some .int), Cond.methodLink RX0 59 yX0_matesOf, Cond.static yX0_matesOf, Cond.code yX0_matesOf cX0_matesOf 4 (some .int), Cond.methodLink RX0 49 yX0_extend, Cond.instanceMethod yX0_extend, Cond.selects RX0 yX0_extend yX0_extend, Cond.code yX0_extend cX0_extend 5 none, Cond.methodLink RX0 71 yX0_keep, Cond.instanceMethod yX0_keep, Cond.selects RX0 yX0_keep yX0_keep, Cond.code yX0_keep cX0_keep 2 none, Cond.methodLink RX0 96 arraycopyName, Cond.methodLink RX0 75 yX0_mostFolds]
def wsL_law_r23 : List Cond := [Cond.static yX0_mostFolds, Cond.code yX0_mostFolds cX0_mostFolds 2 (some .int), Cond.methodLink RX0 102 yX0_mostOfKind, Cond.static yX0_mostOfKind, Cond.code yX0_mostOfKind cX0_mostOfKind 3 (some .int), Cond.methodLink RX0 110 Lib.Math.min.name, Cond.methodLink RX0 105 yJ6_bitCount_0f7a4, Cond.methodLink RX0 82 yX0_tryLowers, Cond.instanceMethod yX0_tryLowers, Cond.selects RX0 yX0_tryLowers yX0_tryLowers, Cond.code yX0_tryLowers cX0_tryLowers 6 none, Cond.instanceMethod yX1_copyFrom, Cond.selects RX1 yX1_copyFrom yX1_copyFrom, Cond.code yX1_copyFrom cX1_copyFrom 2 none, Cond.methodLink RX1 21 arraycopyName, Cond.methodLink RL 100 yX6_bestUpper, Cond.instanceMethod yX6_bestUpper, Cond.selects RX6 yX6_bestUpper yX6_bestUpper, Cond.code yX6_bestUpper cX6_bestUpper 2 (some .int), Cond.fieldLink RX6 131 "PlaFolderModel" "listMany" "I", Cond.methodLink RX6 137 yX6_findBest, Cond.instanceMethod yX6_findBest, Cond.selects RX6 yX6_findBest yX6_findBest, Cond.code yX6_findBest cX6_findBest 2 none]
def wsL_law_r24 : List Cond := [Cond.methodLink RX6 134 yX6_findList, Cond.instanceMethod yX6_findList, Cond.selects RX6 yX6_findList yX6_findList, Cond.code yX6_findList cX6_findList 4 (some .boolean), Cond.methodLink RX6 128 yX6_mayStand, Cond.instanceMethod yX6_mayStand, Cond.selects RX6 yX6_mayStand yX6_mayStand, Cond.code yX6_mayStand cX6_mayStand 5 (some .boolean), Cond.methodLink RL 101 yX5_bestLower, Cond.instanceMethod yX5_bestLower, Cond.selects RX5 yX5_bestLower yX5_bestLower, Cond.code yX5_bestLower cX5_bestLower 2 (some .int), Cond.methodLink RL 104 yX6_bestLower, Cond.instanceMethod yX6_bestLower, Cond.selects RX6 yX6_bestLower yX6_bestLower, Cond.code yX6_bestLower cX6_bestLower 2 (some .int), Cond.methodLink RL 105 yX5_foldBest, Cond.instanceMethod yX5_foldBest, Cond.selects RX5 yX5_foldBest yX5_foldBest, Cond.code yX5_foldBest cX5_foldBest 2 (some .int), Cond.methodLink RX5 178 yX5_area, Cond.methodLink RL 108 yX6_foldBest, Cond.instanceMethod yX6_foldBest, Cond.selects RX6 yX6_foldBest yX6_foldBest]
def wsL_law_r25 : List Cond := [Cond.code yX6_foldBest cX6_foldBest 2 (some .int), Cond.methodLink RL 109 yX5_undo, Cond.instanceMethod yX5_undo, Cond.selects RX5 yX5_undo yX5_undo, Cond.code yX5_undo cX5_undo 1 (some .int), Cond.instanceMethod yX2_pop, Cond.selects RX2 yX2_pop yX2_pop, Cond.code yX2_pop cX2_pop 2 none, Cond.methodLink RL 112 yX6_undo, Cond.instanceMethod yX6_undo, Cond.selects RX6 yX6_undo yX6_undo, Cond.code yX6_undo cX6_undo 2 (some .int), Cond.methodLink RL 113 yX5_errorCount, Cond.instanceMethod yX5_errorCount, Cond.selects RX5 yX5_errorCount yX5_errorCount, Cond.code yX5_errorCount cX5_errorCount 2 (some .int), Cond.methodLink RL 116 yX6_errorCount, Cond.instanceMethod yX6_errorCount, Cond.selects RX6 yX6_errorCount yX6_errorCount, Cond.code yX6_errorCount cX6_errorCount 2 (some .int), Cond.methodLink RL 117 yX5_digest, Cond.instanceMethod yX5_digest, Cond.selects RX5 yX5_digest yX5_digest, Cond.code yX5_digest cX5_digest 4 (some .long)]
def wsL_law_r26 : List Cond := [Cond.constantLong RX5 186 (2713), Cond.methodLink RX5 188 yX5_mix, Cond.static yX5_mix, Cond.code yX5_mix cX5_mix 4 (some .long), Cond.constantLong RX5 219 (31), Cond.methodLink RX5 192 yX5_mixTerms, Cond.instanceMethod yX5_mixTerms, Cond.selects RX5 yX5_mixTerms yX5_mixTerms, Cond.code yX5_mixTerms cX5_mixTerms 6 (some .long), Cond.methodLink RX5 196 yX5_mixColumns, Cond.instanceMethod yX5_mixColumns, Cond.selects RX5 yX5_mixColumns yX5_mixColumns, Cond.code yX5_mixColumns cX5_mixColumns 7 (some .long), Cond.methodLink RX5 199 yX5_mixBest, Cond.instanceMethod yX5_mixBest, Cond.selects RX5 yX5_mixBest yX5_mixBest, Cond.code yX5_mixBest cX5_mixBest 6 (some .long), Cond.methodLink RL 121 yX6_digest, Cond.instanceMethod yX6_digest, Cond.selects RX6 yX6_digest yX6_digest, Cond.code yX6_digest cX6_digest 2 (some .long), Cond.constantLong RX6 150 (2713), Cond.fieldLink RX6 142 "PlaFolderModel" "hash" "J", Cond.methodLink RX6 146 yX6_mix]
def wsL_law_r27 : List Cond := [Cond.instanceMethod yX6_mix, Cond.selects RX6 yX6_mix yX6_mix, Cond.code yX6_mix cX6_mix 3 none, Cond.constantLong RX6 140 (31), Cond.methodLink RX6 152 yX6_mixTerms, Cond.instanceMethod yX6_mixTerms, Cond.selects RX6 yX6_mixTerms yX6_mixTerms, Cond.code yX6_mixTerms cX6_mixTerms 2 none]
def wsL_law : List Cond := (wsL_law_r1 ++ (wsL_law_r2 ++ (wsL_law_r3 ++ (wsL_law_r4 ++ (wsL_law_r5 ++ (wsL_law_r6 ++ (wsL_law_r7 ++ (wsL_law_r8 ++ (wsL_law_r9 ++ (wsL_law_r10 ++ (wsL_law_r11 ++ (wsL_law_r12 ++ (wsL_law_r13 ++ (wsL_law_r14 ++ (wsL_law_r15 ++ (wsL_law_r16 ++ (wsL_law_r17 ++ (wsL_law_r18 ++ (wsL_law_r19 ++ (wsL_law_r20 ++ (wsL_law_r21 ++ (wsL_law_r22 ++ (wsL_law_r23 ++ (wsL_law_r24 ++ (wsL_law_r25 ++ (wsL_law_r26 ++ wsL_law_r27)))))))))))))))))))))))))) ++ wsX50 ++ wsX60 ++ wsX40 ++ wsX20 ++ wsX10 ++ wsX30 ++ wsX00 ++ ([] : List Cond)
theorem inlX0 : ∀ w ∈ wsX00, w ∈ wsL_law := fun _ h => List.mem_append_left _ (List.mem_append_right _ h)
theorem inlX1 : ∀ w ∈ wsX10, w ∈ wsL_law := fun _ h => List.mem_append_left _ (List.mem_append_left _ (List.mem_append_left _ (List.mem_append_right _ h)))
theorem inlX2 : ∀ w ∈ wsX20, w ∈ wsL_law := fun _ h => List.mem_append_left _ (List.mem_append_left _ (List.mem_append_left _ (List.mem_append_left _ (List.mem_append_right _ h))))
theorem inlX3 : ∀ w ∈ wsX30, w ∈ wsL_law := fun _ h => List.mem_append_left _ (List.mem_append_left _ (List.mem_append_right _ h))
theorem inlX4 : ∀ w ∈ wsX40, w ∈ wsL_law := fun _ h => List.mem_append_left _ (List.mem_append_left _ (List.mem_append_left _ (List.mem_append_left _ (List.mem_append_left _ (List.mem_append_right _ h)))))
theorem inlX5 : ∀ w ∈ wsX50, w ∈ wsL_law := fun _ h => List.mem_append_left _ (List.mem_append_left _ (List.mem_append_left _ (List.mem_append_left _ (List.mem_append_left _ (List.mem_append_left _ (List.mem_append_left _ (List.mem_append_right _ h)))))))
theorem inlX6 : ∀ w ∈ wsX60, w ∈ wsL_law := fun _ h => List.mem_append_left _ (List.mem_append_left _ (List.mem_append_left _ (List.mem_append_left _ (List.mem_append_left _ (List.mem_append_left _ (List.mem_append_right _ h))))))
theorem inJ6 : ∀ w ∈ wsJ60, w ∈ lw_tbl := by decide +kernel
theorem inJ13 : ∀ w ∈ wsJ130, w ∈ lw_tbl := by decide +kernel
theorem inJ9 : ∀ w ∈ wsJ90, w ∈ lw_tbl := by decide +kernel
theorem inJ10 : ∀ w ∈ wsJ100, w ∈ lw_tbl := by decide +kernel
theorem inJ7 : ∀ w ∈ wsJ70, w ∈ lw_tbl := by decide +kernel
set_option maxRecDepth 20000 in
theorem ggX0_init_X1_init : GoodIn wsX0_init wsX1_init := goodIn_r _ [18, 19, 2, 3, 6, 20, 30] (by decide +kernel) (by decide +kernel)
set_option maxRecDepth 20000 in
theorem gX0_init_X1_init_n44 : GoodIn wsX0_init (wsX1_init) := ggX0_init_X1_init
theorem dX0_init_0 : decode cX0_init 0 = .ok (.aload_n 0, 1) := by decide +kernel
theorem dX0_init_1 : decode cX0_init 1 = .ok (.invokespecial 3, 3) := by decide +kernel
theorem dX0_init_4 : decode cX0_init 4 = .ok (.aload_n 0, 1) := by decide +kernel
theorem dX0_init_5 : decode cX0_init 5 = .ok (.iconst 0, 1) := by decide +kernel
theorem dX0_init_6 : decode cX0_init 6 = .ok (.putfield 9, 3) := by decide +kernel
theorem dX0_init_9 : decode cX0_init 9 = .ok (.aload_n 0, 1) := by decide +kernel
theorem dX0_init_10 : decode cX0_init 10 = .ok (.iconst 0, 1) := by decide +kernel
theorem dX0_init_11 : decode cX0_init 11 = .ok (.putfield 15, 3) := by decide +kernel
theorem dX0_init_14 : decode cX0_init 14 = .ok (.aload_n 0, 1) := by decide +kernel
theorem dX0_init_15 : decode cX0_init 15 = .ok (.iconst 5, 1) := by decide +kernel
theorem dX0_init_16 : decode cX0_init 16 = .ok (.newarray .int, 2) := by decide +kernel
theorem dX0_init_18 : decode cX0_init 18 = .ok (.putfield 19, 3) := by decide +kernel
theorem dX0_init_21 : decode cX0_init 21 = .ok (.aload_n 0, 1) := by decide +kernel
theorem dX0_init_22 : decode cX0_init 22 = .ok (.iconst 5, 1) := by decide +kernel
theorem dX0_init_23 : decode cX0_init 23 = .ok (.newarray .int, 2) := by decide +kernel
theorem dX0_init_25 : decode cX0_init 25 = .ok (.putfield 23, 3) := by decide +kernel
theorem dX0_init_28 : decode cX0_init 28 = .ok (.aload_n 0, 1) := by decide +kernel
theorem dX0_init_29 : decode cX0_init 29 = .ok (.iconst 5, 1) := by decide +kernel
theorem dX0_init_30 : decode cX0_init 30 = .ok (.newarray .int, 2) := by decide +kernel
theorem dX0_init_32 : decode cX0_init 32 = .ok (.putfield 26, 3) := by decide +kernel
theorem dX0_init_35 : decode cX0_init 35 = .ok (.aload_n 0, 1) := by decide +kernel
theorem dX0_init_36 : decode cX0_init 36 = .ok (.iconst 5, 1) := by decide +kernel
theorem dX0_init_37 : decode cX0_init 37 = .ok (.newarray .int, 2) := by decide +kernel
theorem dX0_init_39 : decode cX0_init 39 = .ok (.putfield 29, 3) := by decide +kernel
theorem dX0_init_42 : decode cX0_init 42 = .ok (.aload_n 0, 1) := by decide +kernel
theorem dX0_init_43 : decode cX0_init 43 = .ok (.bipush 10, 2) := by decide +kernel
theorem dX0_init_45 : decode cX0_init 45 = .ok (.newarray .int, 2) := by decide +kernel
theorem dX0_init_47 : decode cX0_init 47 = .ok (.putfield 32, 3) := by decide +kernel
theorem dX0_init_50 : decode cX0_init 50 = .ok (.aload_n 0, 1) := by decide +kernel
theorem dX0_init_51 : decode cX0_init 51 = .ok (.bipush 10, 2) := by decide +kernel
theorem dX0_init_53 : decode cX0_init 53 = .ok (.newarray .int, 2) := by decide +kernel
theorem dX0_init_55 : decode cX0_init 55 = .ok (.putfield 35, 3) := by decide +kernel
theorem dX0_init_58 : decode cX0_init 58 = .ok (.aload_n 0, 1) := by decide +kernel
theorem dX0_init_59 : decode cX0_init 59 = .ok (.bipush 6, 2) := by decide +kernel
theorem dX0_init_61 : decode cX0_init 61 = .ok (.anewarray 38, 3) := by decide +kernel
theorem dX0_init_64 : decode cX0_init 64 = .ok (.putfield 40, 3) := by decide +kernel
theorem dX0_init_67 : decode cX0_init 67 = .ok (.iconst 0, 1) := by decide +kernel
theorem dX0_init_68 : decode cX0_init 68 = .ok (.istore_n 1, 1) := by decide +kernel
theorem dX0_init_69 : decode cX0_init 69 = .ok (.iload_n 1, 1) := by decide +kernel
theorem dX0_init_70 : decode cX0_init 70 = .ok (.iconst 5, 1) := by decide +kernel
theorem dX0_init_71 : decode cX0_init 71 = .ok (.if_icmp .gt 22, 3) := by decide +kernel
theorem dX0_init_74 : decode cX0_init 74 = .ok (.aload_n 0, 1) := by decide +kernel
theorem dX0_init_75 : decode cX0_init 75 = .ok (.getfield 40, 3) := by decide +kernel
theorem dX0_init_78 : decode cX0_init 78 = .ok (.iload_n 1, 1) := by decide +kernel
theorem dX0_init_79 : decode cX0_init 79 = .ok (.new 38, 3) := by decide +kernel
theorem dX0_init_82 : decode cX0_init 82 = .ok (.dup, 1) := by decide +kernel
theorem dX0_init_83 : decode cX0_init 83 = .ok (.invokespecial 44, 3) := by decide +kernel
theorem dX0_init_86 : decode cX0_init 86 = .ok (.aastore, 1) := by decide +kernel
theorem dX0_init_87 : decode cX0_init 87 = .ok (.iinc 1 1, 3) := by decide +kernel
theorem dX0_init_90 : decode cX0_init 90 = .ok (.goto (-21), 3) := by decide +kernel
theorem dX0_init_93 : decode cX0_init 93 = .ok (.return_, 1) := by decide +kernel
set_option maxRecDepth 20000 in
theorem ggX0_search_X0_foldableColumns : GoodIn wsX0_search wsX0_foldableColumns := goodIn_r _ [7, 8, 9, 10, 11, 12, 13, 14, 15, 16, 17, 18, 19, 20, 21, 22, 6, 23, 24, 25, 26, 27, 28, 29, 30, 31, 32, 87, 88, 89, 90, 91, 92, 93, 94, 95, 96, 97, 98, 99, 100, 101, 102, 103, 104, 105] (by decide +kernel) (by decide +kernel)
set_option maxRecDepth 20000 in
theorem gX0_search_X0_foldableColumns : GoodIn wsX0_search (wsV RX0 45 RX0 yX0_foldableColumns wsX0_foldableColumns) := goodIn_app (goodIn_of _ (by decide +kernel)) ggX0_search_X0_foldableColumns
set_option maxRecDepth 20000 in
theorem ggX0_search_X0_extend : GoodIn wsX0_search wsX0_extend := goodIn_r _ [36, 1, 37, 38, 39, 6, 40, 41, 42, 43, 44, 45, 46, 47, 48, 49, 50, 51, 52, 53, 54, 55, 56, 57, 58, 59, 60, 61, 62, 63, 64, 65, 18, 19, 20, 66, 67, 68, 69, 9, 70, 8, 71, 72, 73, 74, 75, 76, 77, 78, 79, 80, 81, 82, 83, 84, 85, 86, 33, 34, 35, 87, 88, 89, 90, 91, 92, 93, 94, 95, 106] (by decide +kernel) (by decide +kernel)
set_option maxRecDepth 20000 in
theorem gX0_search_X0_extend : GoodIn wsX0_search (wsV RX0 49 RX0 yX0_extend wsX0_extend) := goodIn_app (goodIn_of _ (by decide +kernel)) ggX0_search_X0_extend
theorem dX0_search_0 : decode cX0_search 0 = .ok (.aload_n 0, 1) := by decide +kernel
theorem dX0_search_1 : decode cX0_search 1 = .ok (.iconst 0, 1) := by decide +kernel
theorem dX0_search_2 : decode cX0_search 2 = .ok (.putfield 15, 3) := by decide +kernel
theorem dX0_search_5 : decode cX0_search 5 = .ok (.aload_n 0, 1) := by decide +kernel
theorem dX0_search_6 : decode cX0_search 6 = .ok (.iconst 0, 1) := by decide +kernel
theorem dX0_search_7 : decode cX0_search 7 = .ok (.iconst 0, 1) := by decide +kernel
theorem dX0_search_8 : decode cX0_search 8 = .ok (.aload_n 0, 1) := by decide +kernel
theorem dX0_search_9 : decode cX0_search 9 = .ok (.aload_n 1, 1) := by decide +kernel
theorem dX0_search_10 : decode cX0_search 10 = .ok (.invokevirtual 45, 3) := by decide +kernel
theorem dX0_search_13 : decode cX0_search 13 = .ok (.invokevirtual 49, 3) := by decide +kernel
theorem dX0_search_16 : decode cX0_search 16 = .ok (.aload_n 0, 1) := by decide +kernel
theorem dX0_search_17 : decode cX0_search 17 = .ok (.iconst 1, 1) := by decide +kernel
theorem dX0_search_18 : decode cX0_search 18 = .ok (.putfield 9, 3) := by decide +kernel
theorem dX0_search_21 : decode cX0_search 21 = .ok (.return_, 1) := by decide +kernel
set_option maxRecDepth 20000 in
theorem ggX0_foldableColumns_X4_termsOfColumn : GoodIn wsX0_foldableColumns wsX4_termsOfColumn := goodIn_r _ [6, 7, 8, 9, 10, 11, 12, 13, 36, 37, 38, 39, 40, 41, 42, 43, 44, 45] (by decide +kernel) (by decide +kernel)
set_option maxRecDepth 20000 in
theorem gX0_foldableColumns_X4_termsOfColumn_n53 : GoodIn wsX0_foldableColumns (wsX4_termsOfColumn) := ggX0_foldableColumns_X4_termsOfColumn
set_option maxRecDepth 20000 in
theorem ggX0_foldableColumns_X0_matesOf : GoodIn wsX0_foldableColumns wsX0_matesOf := goodIn_r _ [17, 18, 4, 19, 20, 21, 22, 23, 24, 25, 26, 3, 5, 6, 7, 8, 9, 10, 11, 12, 13, 36, 37, 38, 39, 40, 41, 42, 43, 44, 45] (by decide +kernel) (by decide +kernel)
set_option maxRecDepth 20000 in
theorem gX0_foldableColumns_X0_matesOf : GoodIn wsX0_foldableColumns (va_wsS RX0 59 yX0_matesOf wsX0_matesOf) := goodIn_app (goodIn_of _ (by decide +kernel)) ggX0_foldableColumns_X0_matesOf
theorem dX0_foldableColumns_0 : decode cX0_foldableColumns 0 = .ok (.iconst 0, 1) := by decide +kernel
theorem dX0_foldableColumns_1 : decode cX0_foldableColumns 1 = .ok (.istore_n 2, 1) := by decide +kernel
theorem dX0_foldableColumns_2 : decode cX0_foldableColumns 2 = .ok (.iconst 0, 1) := by decide +kernel
theorem dX0_foldableColumns_3 : decode cX0_foldableColumns 3 = .ok (.istore_n 3, 1) := by decide +kernel
theorem dX0_foldableColumns_4 : decode cX0_foldableColumns 4 = .ok (.iload_n 3, 1) := by decide +kernel
theorem dX0_foldableColumns_5 : decode cX0_foldableColumns 5 = .ok (.bipush 10, 2) := by decide +kernel
theorem dX0_foldableColumns_7 : decode cX0_foldableColumns 7 = .ok (.if_icmp .ge 46, 3) := by decide +kernel
theorem dX0_foldableColumns_10 : decode cX0_foldableColumns 10 = .ok (.aload_n 0, 1) := by decide +kernel
theorem dX0_foldableColumns_11 : decode cX0_foldableColumns 11 = .ok (.getfield 32, 3) := by decide +kernel
theorem dX0_foldableColumns_14 : decode cX0_foldableColumns 14 = .ok (.iload_n 3, 1) := by decide +kernel
theorem dX0_foldableColumns_15 : decode cX0_foldableColumns 15 = .ok (.aload_n 1, 1) := by decide +kernel
theorem dX0_foldableColumns_16 : decode cX0_foldableColumns 16 = .ok (.iload_n 3, 1) := by decide +kernel
theorem dX0_foldableColumns_17 : decode cX0_foldableColumns 17 = .ok (.invokevirtual 53, 3) := by decide +kernel
theorem dX0_foldableColumns_20 : decode cX0_foldableColumns 20 = .ok (.iastore, 1) := by decide +kernel
theorem dX0_foldableColumns_21 : decode cX0_foldableColumns 21 = .ok (.aload_n 0, 1) := by decide +kernel
theorem dX0_foldableColumns_22 : decode cX0_foldableColumns 22 = .ok (.getfield 35, 3) := by decide +kernel
theorem dX0_foldableColumns_25 : decode cX0_foldableColumns 25 = .ok (.iload_n 3, 1) := by decide +kernel
theorem dX0_foldableColumns_26 : decode cX0_foldableColumns 26 = .ok (.aload_n 1, 1) := by decide +kernel
theorem dX0_foldableColumns_27 : decode cX0_foldableColumns 27 = .ok (.iload_n 3, 1) := by decide +kernel
theorem dX0_foldableColumns_28 : decode cX0_foldableColumns 28 = .ok (.invokestatic 59, 3) := by decide +kernel
theorem dX0_foldableColumns_31 : decode cX0_foldableColumns 31 = .ok (.iastore, 1) := by decide +kernel
theorem dX0_foldableColumns_32 : decode cX0_foldableColumns 32 = .ok (.aload_n 0, 1) := by decide +kernel
theorem dX0_foldableColumns_33 : decode cX0_foldableColumns 33 = .ok (.getfield 35, 3) := by decide +kernel
theorem dX0_foldableColumns_36 : decode cX0_foldableColumns 36 = .ok (.iload_n 3, 1) := by decide +kernel
theorem dX0_foldableColumns_37 : decode cX0_foldableColumns 37 = .ok (.iaload, 1) := by decide +kernel
theorem dX0_foldableColumns_38 : decode cX0_foldableColumns 38 = .ok (.ifCond .eq 9, 3) := by decide +kernel
theorem dX0_foldableColumns_41 : decode cX0_foldableColumns 41 = .ok (.iload_n 2, 1) := by decide +kernel
theorem dX0_foldableColumns_42 : decode cX0_foldableColumns 42 = .ok (.iconst 1, 1) := by decide +kernel
theorem dX0_foldableColumns_43 : decode cX0_foldableColumns 43 = .ok (.iload_n 3, 1) := by decide +kernel
theorem dX0_foldableColumns_44 : decode cX0_foldableColumns 44 = .ok (.ishl, 1) := by decide +kernel
theorem dX0_foldableColumns_45 : decode cX0_foldableColumns 45 = .ok (.ior, 1) := by decide +kernel
theorem dX0_foldableColumns_46 : decode cX0_foldableColumns 46 = .ok (.istore_n 2, 1) := by decide +kernel
theorem dX0_foldableColumns_47 : decode cX0_foldableColumns 47 = .ok (.iinc 3 1, 3) := by decide +kernel
theorem dX0_foldableColumns_50 : decode cX0_foldableColumns 50 = .ok (.goto (-46), 3) := by decide +kernel
theorem dX0_foldableColumns_53 : decode cX0_foldableColumns 53 = .ok (.iload_n 2, 1) := by decide +kernel
theorem dX0_foldableColumns_54 : decode cX0_foldableColumns 54 = .ok (.ireturn, 1) := by decide +kernel
set_option maxRecDepth 20000 in
theorem ggX0_matesOf_X4_hasColumn : GoodIn wsX0_matesOf wsX4_hasColumn := goodIn_r _ [4, 5, 6, 21, 22, 23, 24, 25, 26, 27, 28, 29, 30] (by decide +kernel) (by decide +kernel)
set_option maxRecDepth 20000 in
theorem gX0_matesOf_X4_hasColumn_n63 : GoodIn wsX0_matesOf (wsX4_hasColumn) := ggX0_matesOf_X4_hasColumn
set_option maxRecDepth 20000 in
theorem ggX0_matesOf_X4_isPair : GoodIn wsX0_matesOf wsX4_isPair := goodIn_r _ [9, 10, 11, 12, 2, 13, 14, 15, 16, 17, 18, 19, 20, 21, 22, 23, 24, 25, 26, 27, 28, 29, 30] (by decide +kernel) (by decide +kernel)
set_option maxRecDepth 20000 in
theorem gX0_matesOf_X4_isPair_n67 : GoodIn wsX0_matesOf (wsX4_isPair) := ggX0_matesOf_X4_isPair
theorem dX0_matesOf_0 : decode cX0_matesOf 0 = .ok (.iconst 0, 1) := by decide +kernel
theorem dX0_matesOf_1 : decode cX0_matesOf 1 = .ok (.istore_n 2, 1) := by decide +kernel
theorem dX0_matesOf_2 : decode cX0_matesOf 2 = .ok (.iconst 0, 1) := by decide +kernel
theorem dX0_matesOf_3 : decode cX0_matesOf 3 = .ok (.istore_n 3, 1) := by decide +kernel
theorem dX0_matesOf_4 : decode cX0_matesOf 4 = .ok (.iload_n 3, 1) := by decide +kernel
theorem dX0_matesOf_5 : decode cX0_matesOf 5 = .ok (.bipush 10, 2) := by decide +kernel
theorem dX0_matesOf_7 : decode cX0_matesOf 7 = .ok (.if_icmp .ge 40, 3) := by decide +kernel
theorem dX0_matesOf_10 : decode cX0_matesOf 10 = .ok (.aload_n 0, 1) := by decide +kernel
theorem dX0_matesOf_11 : decode cX0_matesOf 11 = .ok (.iload_n 1, 1) := by decide +kernel
theorem dX0_matesOf_12 : decode cX0_matesOf 12 = .ok (.invokevirtual 63, 3) := by decide +kernel
theorem dX0_matesOf_15 : decode cX0_matesOf 15 = .ok (.ifCond .eq 26, 3) := by decide +kernel
theorem dX0_matesOf_18 : decode cX0_matesOf 18 = .ok (.aload_n 0, 1) := by decide +kernel
theorem dX0_matesOf_19 : decode cX0_matesOf 19 = .ok (.iload_n 3, 1) := by decide +kernel
theorem dX0_matesOf_20 : decode cX0_matesOf 20 = .ok (.invokevirtual 63, 3) := by decide +kernel
theorem dX0_matesOf_23 : decode cX0_matesOf 23 = .ok (.ifCond .eq 18, 3) := by decide +kernel
theorem dX0_matesOf_26 : decode cX0_matesOf 26 = .ok (.aload_n 0, 1) := by decide +kernel
theorem dX0_matesOf_27 : decode cX0_matesOf 27 = .ok (.iload_n 1, 1) := by decide +kernel
theorem dX0_matesOf_28 : decode cX0_matesOf 28 = .ok (.iload_n 3, 1) := by decide +kernel
theorem dX0_matesOf_29 : decode cX0_matesOf 29 = .ok (.invokevirtual 67, 3) := by decide +kernel
theorem dX0_matesOf_32 : decode cX0_matesOf 32 = .ok (.ifCond .eq 9, 3) := by decide +kernel
theorem dX0_matesOf_35 : decode cX0_matesOf 35 = .ok (.iload_n 2, 1) := by decide +kernel
theorem dX0_matesOf_36 : decode cX0_matesOf 36 = .ok (.iconst 1, 1) := by decide +kernel
theorem dX0_matesOf_37 : decode cX0_matesOf 37 = .ok (.iload_n 3, 1) := by decide +kernel
theorem dX0_matesOf_38 : decode cX0_matesOf 38 = .ok (.ishl, 1) := by decide +kernel
theorem dX0_matesOf_39 : decode cX0_matesOf 39 = .ok (.ior, 1) := by decide +kernel
theorem dX0_matesOf_40 : decode cX0_matesOf 40 = .ok (.istore_n 2, 1) := by decide +kernel
theorem dX0_matesOf_41 : decode cX0_matesOf 41 = .ok (.iinc 3 1, 3) := by decide +kernel
theorem dX0_matesOf_44 : decode cX0_matesOf 44 = .ok (.goto (-40), 3) := by decide +kernel
theorem dX0_matesOf_47 : decode cX0_matesOf 47 = .ok (.iload_n 2, 1) := by decide +kernel
theorem dX0_matesOf_48 : decode cX0_matesOf 48 = .ok (.ireturn, 1) := by decide +kernel
set_option maxRecDepth 20000 in
theorem ggX0_extend_X0_keep : GoodIn wsX0_extend wsX0_keep := goodIn_r _ [6, 1, 7, 8, 9, 10, 11, 12, 13, 14, 61, 62, 63, 64, 65, 66, 67, 68, 69] (by decide +kernel) (by decide +kernel)
set_option maxRecDepth 20000 in
theorem gX0_extend_X0_keep : GoodIn wsX0_extend (wsV RX0 71 RX0 yX0_keep wsX0_keep) := goodIn_app (goodIn_of _ (by decide +kernel)) ggX0_extend_X0_keep
set_option maxRecDepth 20000 in
theorem ggX0_extend_X0_mostFolds : GoodIn wsX0_extend wsX0_mostFolds := goodIn_r _ [17, 18, 19, 5, 20, 21, 22, 23, 24, 25, 26, 27, 28, 29, 30, 31] (by decide +kernel) (by decide +kernel)
set_option maxRecDepth 20000 in
theorem gX0_extend_X0_mostFolds : GoodIn wsX0_extend (va_wsS RX0 75 yX0_mostFolds wsX0_mostFolds) := goodIn_app (goodIn_of _ (by decide +kernel)) ggX0_extend_X0_mostFolds
set_option maxRecDepth 20000 in
theorem ggX0_extend_X5_contains : GoodIn wsX0_extend wsX5_contains := goodIn_r _ [34] (by decide +kernel) (by decide +kernel)
set_option maxRecDepth 20000 in
theorem gX0_extend_X5_contains_n79 : GoodIn wsX0_extend (wsX5_contains) := ggX0_extend_X5_contains
set_option maxRecDepth 20000 in
theorem ggX0_extend_X0_tryLowers : GoodIn wsX0_extend wsX0_tryLowers := goodIn_r _ [38, 39, 40, 41, 7, 13, 32, 33, 34, 42, 43, 44, 45, 46, 47, 48, 49, 50, 51, 52, 53, 54, 10, 11, 12, 55, 56, 57, 58, 59, 60, 5, 0, 1, 2, 3, 4, 6, 8, 9, 14, 15, 16, 17, 18, 19, 20, 21, 22, 23, 24, 25, 26, 27, 28, 29, 30, 31, 35, 36, 37, 61, 62, 63, 64, 65, 66, 67, 68, 69, 70] (by decide +kernel) (by decide +kernel)
set_option maxRecDepth 20000 in
theorem gX0_extend_X0_tryLowers : GoodIn wsX0_extend (wsV RX0 82 RX0 yX0_tryLowers wsX0_tryLowers) := goodIn_app (goodIn_of _ (by decide +kernel)) ggX0_extend_X0_tryLowers
theorem dX0_extend_0 : decode cX0_extend 0 = .ok (.iload_n 1, 1) := by decide +kernel
theorem dX0_extend_1 : decode cX0_extend 1 = .ok (.aload_n 0, 1) := by decide +kernel
theorem dX0_extend_2 : decode cX0_extend 2 = .ok (.getfield 15, 3) := by decide +kernel
theorem dX0_extend_5 : decode cX0_extend 5 = .ok (.if_icmp .le 8, 3) := by decide +kernel
theorem dX0_extend_8 : decode cX0_extend 8 = .ok (.aload_n 0, 1) := by decide +kernel
theorem dX0_extend_9 : decode cX0_extend 9 = .ok (.iload_n 1, 1) := by decide +kernel
theorem dX0_extend_10 : decode cX0_extend 10 = .ok (.invokevirtual 71, 3) := by decide +kernel
theorem dX0_extend_13 : decode cX0_extend 13 = .ok (.iload_n 2, 1) := by decide +kernel
theorem dX0_extend_14 : decode cX0_extend 14 = .ok (.istore 4, 2) := by decide +kernel
theorem dX0_extend_16 : decode cX0_extend 16 = .ok (.iload 4, 2) := by decide +kernel
theorem dX0_extend_18 : decode cX0_extend 18 = .ok (.bipush 10, 2) := by decide +kernel
theorem dX0_extend_20 : decode cX0_extend 20 = .ok (.if_icmp .ge 42, 3) := by decide +kernel
theorem dX0_extend_23 : decode cX0_extend 23 = .ok (.iload_n 1, 1) := by decide +kernel
theorem dX0_extend_24 : decode cX0_extend 24 = .ok (.iload_n 3, 1) := by decide +kernel
theorem dX0_extend_25 : decode cX0_extend 25 = .ok (.iload 4, 2) := by decide +kernel
theorem dX0_extend_27 : decode cX0_extend 27 = .ok (.invokestatic 75, 3) := by decide +kernel
theorem dX0_extend_30 : decode cX0_extend 30 = .ok (.iadd, 1) := by decide +kernel
theorem dX0_extend_31 : decode cX0_extend 31 = .ok (.aload_n 0, 1) := by decide +kernel
theorem dX0_extend_32 : decode cX0_extend 32 = .ok (.getfield 15, 3) := by decide +kernel
theorem dX0_extend_35 : decode cX0_extend 35 = .ok (.if_icmp .gt 4, 3) := by decide +kernel
theorem dX0_extend_38 : decode cX0_extend 38 = .ok (.return_, 1) := by decide +kernel
theorem dX0_extend_39 : decode cX0_extend 39 = .ok (.iload_n 3, 1) := by decide +kernel
theorem dX0_extend_40 : decode cX0_extend 40 = .ok (.iload 4, 2) := by decide +kernel
theorem dX0_extend_42 : decode cX0_extend 42 = .ok (.invokestatic 79, 3) := by decide +kernel
theorem dX0_extend_45 : decode cX0_extend 45 = .ok (.ifCond .eq 11, 3) := by decide +kernel
theorem dX0_extend_48 : decode cX0_extend 48 = .ok (.aload_n 0, 1) := by decide +kernel
theorem dX0_extend_49 : decode cX0_extend 49 = .ok (.iload_n 1, 1) := by decide +kernel
theorem dX0_extend_50 : decode cX0_extend 50 = .ok (.iload 4, 2) := by decide +kernel
theorem dX0_extend_52 : decode cX0_extend 52 = .ok (.iload_n 3, 1) := by decide +kernel
theorem dX0_extend_53 : decode cX0_extend 53 = .ok (.invokevirtual 82, 3) := by decide +kernel
theorem dX0_extend_56 : decode cX0_extend 56 = .ok (.iinc 4 1, 3) := by decide +kernel
theorem dX0_extend_59 : decode cX0_extend 59 = .ok (.goto (-43), 3) := by decide +kernel
theorem dX0_extend_62 : decode cX0_extend 62 = .ok (.return_, 1) := by decide +kernel
set_option maxRecDepth 20000 in
theorem ggX0_tryLowers_X5_contains : GoodIn wsX0_tryLowers wsX5_contains := goodIn_r _ [8] (by decide +kernel) (by decide +kernel)
set_option maxRecDepth 20000 in
theorem gX0_tryLowers_X5_contains_n79 : GoodIn wsX0_tryLowers (wsX5_contains) := ggX0_tryLowers_X5_contains
set_option maxRecDepth 20000 in
theorem ggX0_tryLowers_X1_allow : GoodIn wsX0_tryLowers wsX1_allow := goodIn_r _ [12, 13, 14, 15, 10, 16, 17, 6, 7, 8, 70] (by decide +kernel) (by decide +kernel)
set_option maxRecDepth 20000 in
theorem gX0_tryLowers_X1_allow_n85 : GoodIn wsX0_tryLowers (wsX1_allow) := ggX0_tryLowers_X1_allow
set_option maxRecDepth 20000 in
theorem ggX0_tryLowers_X1_copyFrom : GoodIn wsX0_tryLowers wsX1_copyFrom := goodIn_r _ [20, 17, 21, 22, 23, 24, 70] (by decide +kernel) (by decide +kernel)
set_option maxRecDepth 20000 in
theorem gX0_tryLowers_X1_copyFrom_n88 : GoodIn wsX0_tryLowers (wsX1_copyFrom) := ggX0_tryLowers_X1_copyFrom
set_option maxRecDepth 20000 in
theorem ggX0_tryLowers_X1_add : GoodIn wsX0_tryLowers wsX1_add := goodIn_r _ [27, 17, 13, 14, 15, 10, 16, 6, 7, 8, 70] (by decide +kernel) (by decide +kernel)
set_option maxRecDepth 20000 in
theorem gX0_tryLowers_X1_add_n92 : GoodIn wsX0_tryLowers (wsX1_add) := ggX0_tryLowers_X1_add
set_option maxRecDepth 20000 in
theorem ggX0_tryLowers_X0_extend : GoodIn wsX0_tryLowers wsX0_extend := goodIn_r _ [32, 33, 34, 35, 36, 31, 37, 4, 38, 39, 22, 23, 24, 5, 40, 41, 42, 43, 44, 45, 46, 47, 48, 49, 50, 51, 52, 53, 54, 55, 56, 57, 6, 7, 8, 58, 59, 60, 0, 1, 2, 3, 9, 10, 11, 12, 13, 14, 15, 16, 17, 18, 19, 20, 21, 25, 26, 27, 28, 29, 30, 61, 62, 63, 64, 65, 66, 67, 68, 69, 70] (by decide +kernel) (by decide +kernel)
set_option maxRecDepth 20000 in
theorem gX0_tryLowers_X0_extend : GoodIn wsX0_tryLowers (wsV RX0 49 RX0 yX0_extend wsX0_extend) := goodIn_app (goodIn_of _ (by decide +kernel)) ggX0_tryLowers_X0_extend
theorem dX0_tryLowers_0 : decode cX0_tryLowers 0 = .ok (.iload_n 1, 1) := by decide +kernel
theorem dX0_tryLowers_1 : decode cX0_tryLowers 1 = .ok (.iconst 5, 1) := by decide +kernel
theorem dX0_tryLowers_2 : decode cX0_tryLowers 2 = .ok (.if_icmp .lt 4, 3) := by decide +kernel
theorem dX0_tryLowers_5 : decode cX0_tryLowers 5 = .ok (.return_, 1) := by decide +kernel
theorem dX0_tryLowers_6 : decode cX0_tryLowers 6 = .ok (.aload_n 0, 1) := by decide +kernel
theorem dX0_tryLowers_7 : decode cX0_tryLowers 7 = .ok (.getfield 35, 3) := by decide +kernel
theorem dX0_tryLowers_10 : decode cX0_tryLowers 10 = .ok (.iload_n 2, 1) := by decide +kernel
theorem dX0_tryLowers_11 : decode cX0_tryLowers 11 = .ok (.iaload, 1) := by decide +kernel
theorem dX0_tryLowers_12 : decode cX0_tryLowers 12 = .ok (.iload_n 3, 1) := by decide +kernel
theorem dX0_tryLowers_13 : decode cX0_tryLowers 13 = .ok (.iand, 1) := by decide +kernel
theorem dX0_tryLowers_14 : decode cX0_tryLowers 14 = .ok (.istore 4, 2) := by decide +kernel
theorem dX0_tryLowers_16 : decode cX0_tryLowers 16 = .ok (.iconst 0, 1) := by decide +kernel
theorem dX0_tryLowers_17 : decode cX0_tryLowers 17 = .ok (.istore 5, 2) := by decide +kernel
theorem dX0_tryLowers_19 : decode cX0_tryLowers 19 = .ok (.iload 5, 2) := by decide +kernel
theorem dX0_tryLowers_21 : decode cX0_tryLowers 21 = .ok (.bipush 10, 2) := by decide +kernel
theorem dX0_tryLowers_23 : decode cX0_tryLowers 23 = .ok (.if_icmp .ge 122, 3) := by decide +kernel
theorem dX0_tryLowers_26 : decode cX0_tryLowers 26 = .ok (.iload 4, 2) := by decide +kernel
theorem dX0_tryLowers_28 : decode cX0_tryLowers 28 = .ok (.iload 5, 2) := by decide +kernel
theorem dX0_tryLowers_30 : decode cX0_tryLowers 30 = .ok (.invokestatic 79, 3) := by decide +kernel
theorem dX0_tryLowers_33 : decode cX0_tryLowers 33 = .ok (.ifCond .eq 106, 3) := by decide +kernel
theorem dX0_tryLowers_36 : decode cX0_tryLowers 36 = .ok (.aload_n 0, 1) := by decide +kernel
theorem dX0_tryLowers_37 : decode cX0_tryLowers 37 = .ok (.getfield 40, 3) := by decide +kernel
theorem dX0_tryLowers_40 : decode cX0_tryLowers 40 = .ok (.iload_n 1, 1) := by decide +kernel
theorem dX0_tryLowers_41 : decode cX0_tryLowers 41 = .ok (.aaload, 1) := by decide +kernel
theorem dX0_tryLowers_42 : decode cX0_tryLowers 42 = .ok (.aload_n 0, 1) := by decide +kernel
theorem dX0_tryLowers_43 : decode cX0_tryLowers 43 = .ok (.getfield 32, 3) := by decide +kernel
theorem dX0_tryLowers_46 : decode cX0_tryLowers 46 = .ok (.iload_n 2, 1) := by decide +kernel
theorem dX0_tryLowers_47 : decode cX0_tryLowers 47 = .ok (.iaload, 1) := by decide +kernel
theorem dX0_tryLowers_48 : decode cX0_tryLowers 48 = .ok (.aload_n 0, 1) := by decide +kernel
theorem dX0_tryLowers_49 : decode cX0_tryLowers 49 = .ok (.getfield 32, 3) := by decide +kernel
theorem dX0_tryLowers_52 : decode cX0_tryLowers 52 = .ok (.iload 5, 2) := by decide +kernel
theorem dX0_tryLowers_54 : decode cX0_tryLowers 54 = .ok (.iaload, 1) := by decide +kernel
theorem dX0_tryLowers_55 : decode cX0_tryLowers 55 = .ok (.invokevirtual 85, 3) := by decide +kernel
theorem dX0_tryLowers_58 : decode cX0_tryLowers 58 = .ok (.ifCond .eq 81, 3) := by decide +kernel
theorem dX0_tryLowers_61 : decode cX0_tryLowers 61 = .ok (.aload_n 0, 1) := by decide +kernel
theorem dX0_tryLowers_62 : decode cX0_tryLowers 62 = .ok (.getfield 26, 3) := by decide +kernel
theorem dX0_tryLowers_65 : decode cX0_tryLowers 65 = .ok (.iload_n 1, 1) := by decide +kernel
theorem dX0_tryLowers_66 : decode cX0_tryLowers 66 = .ok (.iload_n 2, 1) := by decide +kernel
theorem dX0_tryLowers_67 : decode cX0_tryLowers 67 = .ok (.iastore, 1) := by decide +kernel
theorem dX0_tryLowers_68 : decode cX0_tryLowers 68 = .ok (.aload_n 0, 1) := by decide +kernel
theorem dX0_tryLowers_69 : decode cX0_tryLowers 69 = .ok (.getfield 29, 3) := by decide +kernel
theorem dX0_tryLowers_72 : decode cX0_tryLowers 72 = .ok (.iload_n 1, 1) := by decide +kernel
theorem dX0_tryLowers_73 : decode cX0_tryLowers 73 = .ok (.iload 5, 2) := by decide +kernel
theorem dX0_tryLowers_75 : decode cX0_tryLowers 75 = .ok (.iastore, 1) := by decide +kernel
theorem dX0_tryLowers_76 : decode cX0_tryLowers 76 = .ok (.aload_n 0, 1) := by decide +kernel
theorem dX0_tryLowers_77 : decode cX0_tryLowers 77 = .ok (.getfield 40, 3) := by decide +kernel
theorem dX0_tryLowers_80 : decode cX0_tryLowers 80 = .ok (.iload_n 1, 1) := by decide +kernel
theorem dX0_tryLowers_81 : decode cX0_tryLowers 81 = .ok (.iconst 1, 1) := by decide +kernel
theorem dX0_tryLowers_82 : decode cX0_tryLowers 82 = .ok (.iadd, 1) := by decide +kernel
theorem dX0_tryLowers_83 : decode cX0_tryLowers 83 = .ok (.aaload, 1) := by decide +kernel
theorem dX0_tryLowers_84 : decode cX0_tryLowers 84 = .ok (.aload_n 0, 1) := by decide +kernel
theorem dX0_tryLowers_85 : decode cX0_tryLowers 85 = .ok (.getfield 40, 3) := by decide +kernel
theorem dX0_tryLowers_88 : decode cX0_tryLowers 88 = .ok (.iload_n 1, 1) := by decide +kernel
theorem dX0_tryLowers_89 : decode cX0_tryLowers 89 = .ok (.aaload, 1) := by decide +kernel
theorem dX0_tryLowers_90 : decode cX0_tryLowers 90 = .ok (.invokevirtual 88, 3) := by decide +kernel
theorem dX0_tryLowers_93 : decode cX0_tryLowers 93 = .ok (.aload_n 0, 1) := by decide +kernel
theorem dX0_tryLowers_94 : decode cX0_tryLowers 94 = .ok (.getfield 40, 3) := by decide +kernel
theorem dX0_tryLowers_97 : decode cX0_tryLowers 97 = .ok (.iload_n 1, 1) := by decide +kernel
theorem dX0_tryLowers_98 : decode cX0_tryLowers 98 = .ok (.iconst 1, 1) := by decide +kernel
theorem dX0_tryLowers_99 : decode cX0_tryLowers 99 = .ok (.iadd, 1) := by decide +kernel
theorem dX0_tryLowers_100 : decode cX0_tryLowers 100 = .ok (.aaload, 1) := by decide +kernel
theorem dX0_tryLowers_101 : decode cX0_tryLowers 101 = .ok (.aload_n 0, 1) := by decide +kernel
theorem dX0_tryLowers_102 : decode cX0_tryLowers 102 = .ok (.getfield 32, 3) := by decide +kernel
theorem dX0_tryLowers_105 : decode cX0_tryLowers 105 = .ok (.iload_n 2, 1) := by decide +kernel
theorem dX0_tryLowers_106 : decode cX0_tryLowers 106 = .ok (.iaload, 1) := by decide +kernel
theorem dX0_tryLowers_107 : decode cX0_tryLowers 107 = .ok (.aload_n 0, 1) := by decide +kernel
theorem dX0_tryLowers_108 : decode cX0_tryLowers 108 = .ok (.getfield 32, 3) := by decide +kernel
theorem dX0_tryLowers_111 : decode cX0_tryLowers 111 = .ok (.iload 5, 2) := by decide +kernel
theorem dX0_tryLowers_113 : decode cX0_tryLowers 113 = .ok (.iaload, 1) := by decide +kernel
theorem dX0_tryLowers_114 : decode cX0_tryLowers 114 = .ok (.invokevirtual 92, 3) := by decide +kernel
theorem dX0_tryLowers_117 : decode cX0_tryLowers 117 = .ok (.aload_n 0, 1) := by decide +kernel
theorem dX0_tryLowers_118 : decode cX0_tryLowers 118 = .ok (.iload_n 1, 1) := by decide +kernel
theorem dX0_tryLowers_119 : decode cX0_tryLowers 119 = .ok (.iconst 1, 1) := by decide +kernel
theorem dX0_tryLowers_120 : decode cX0_tryLowers 120 = .ok (.iadd, 1) := by decide +kernel
theorem dX0_tryLowers_121 : decode cX0_tryLowers 121 = .ok (.iload_n 2, 1) := by decide +kernel
theorem dX0_tryLowers_122 : decode cX0_tryLowers 122 = .ok (.iconst 1, 1) := by decide +kernel
theorem dX0_tryLowers_123 : decode cX0_tryLowers 123 = .ok (.iadd, 1) := by decide +kernel
theorem dX0_tryLowers_124 : decode cX0_tryLowers 124 = .ok (.iload_n 3, 1) := by decide +kernel
theorem dX0_tryLowers_125 : decode cX0_tryLowers 125 = .ok (.iconst 1, 1) := by decide +kernel
theorem dX0_tryLowers_126 : decode cX0_tryLowers 126 = .ok (.iload_n 2, 1) := by decide +kernel
theorem dX0_tryLowers_127 : decode cX0_tryLowers 127 = .ok (.ishl, 1) := by decide +kernel
theorem dX0_tryLowers_128 : decode cX0_tryLowers 128 = .ok (.iconst 1, 1) := by decide +kernel
theorem dX0_tryLowers_129 : decode cX0_tryLowers 129 = .ok (.iload 5, 2) := by decide +kernel
theorem dX0_tryLowers_131 : decode cX0_tryLowers 131 = .ok (.ishl, 1) := by decide +kernel
theorem dX0_tryLowers_132 : decode cX0_tryLowers 132 = .ok (.ior, 1) := by decide +kernel
theorem dX0_tryLowers_133 : decode cX0_tryLowers 133 = .ok (.iconst (-1), 1) := by decide +kernel
theorem dX0_tryLowers_134 : decode cX0_tryLowers 134 = .ok (.ixor, 1) := by decide +kernel
theorem dX0_tryLowers_135 : decode cX0_tryLowers 135 = .ok (.iand, 1) := by decide +kernel
theorem dX0_tryLowers_136 : decode cX0_tryLowers 136 = .ok (.invokevirtual 49, 3) := by decide +kernel
theorem dX0_tryLowers_139 : decode cX0_tryLowers 139 = .ok (.iinc 5 1, 3) := by decide +kernel
theorem dX0_tryLowers_142 : decode cX0_tryLowers 142 = .ok (.goto (-123), 3) := by decide +kernel
theorem dX0_tryLowers_145 : decode cX0_tryLowers 145 = .ok (.return_, 1) := by decide +kernel
theorem dX0_keep_0 : decode cX0_keep 0 = .ok (.aload_n 0, 1) := by decide +kernel
theorem dX0_keep_1 : decode cX0_keep 1 = .ok (.iload_n 1, 1) := by decide +kernel
theorem dX0_keep_2 : decode cX0_keep 2 = .ok (.putfield 15, 3) := by decide +kernel
theorem dX0_keep_5 : decode cX0_keep 5 = .ok (.aload_n 0, 1) := by decide +kernel
theorem dX0_keep_6 : decode cX0_keep 6 = .ok (.getfield 26, 3) := by decide +kernel
theorem dX0_keep_9 : decode cX0_keep 9 = .ok (.iconst 0, 1) := by decide +kernel
theorem dX0_keep_10 : decode cX0_keep 10 = .ok (.aload_n 0, 1) := by decide +kernel
theorem dX0_keep_11 : decode cX0_keep 11 = .ok (.getfield 19, 3) := by decide +kernel
theorem dX0_keep_14 : decode cX0_keep 14 = .ok (.iconst 0, 1) := by decide +kernel
theorem dX0_keep_15 : decode cX0_keep 15 = .ok (.iload_n 1, 1) := by decide +kernel
theorem dX0_keep_16 : decode cX0_keep 16 = .ok (.invokestatic 96, 3) := by decide +kernel
theorem dX0_keep_19 : decode cX0_keep 19 = .ok (.aload_n 0, 1) := by decide +kernel
theorem dX0_keep_20 : decode cX0_keep 20 = .ok (.getfield 29, 3) := by decide +kernel
theorem dX0_keep_23 : decode cX0_keep 23 = .ok (.iconst 0, 1) := by decide +kernel
theorem dX0_keep_24 : decode cX0_keep 24 = .ok (.aload_n 0, 1) := by decide +kernel
theorem dX0_keep_25 : decode cX0_keep 25 = .ok (.getfield 23, 3) := by decide +kernel
theorem dX0_keep_28 : decode cX0_keep 28 = .ok (.iconst 0, 1) := by decide +kernel
theorem dX0_keep_29 : decode cX0_keep 29 = .ok (.iload_n 1, 1) := by decide +kernel
theorem dX0_keep_30 : decode cX0_keep 30 = .ok (.invokestatic 96, 3) := by decide +kernel
theorem dX0_keep_33 : decode cX0_keep 33 = .ok (.return_, 1) := by decide +kernel
set_option maxRecDepth 20000 in
theorem ggX0_mostFolds_X0_mostOfKind : GoodIn wsX0_mostFolds wsX0_mostOfKind := goodIn_r _ [4, 5, 6, 7, 8, 9, 10, 11, 12, 13, 14, 15] (by decide +kernel) (by decide +kernel)
set_option maxRecDepth 20000 in
theorem gX0_mostFolds_X0_mostOfKind : GoodIn wsX0_mostFolds (va_wsS RX0 102 yX0_mostOfKind wsX0_mostOfKind) := goodIn_app (goodIn_of _ (by decide +kernel)) ggX0_mostFolds_X0_mostOfKind
theorem dX0_mostFolds_0 : decode cX0_mostFolds 0 = .ok (.iload_n 0, 1) := by decide +kernel
theorem dX0_mostFolds_1 : decode cX0_mostFolds 1 = .ok (.bipush 63, 2) := by decide +kernel
theorem dX0_mostFolds_3 : decode cX0_mostFolds 3 = .ok (.iand, 1) := by decide +kernel
theorem dX0_mostFolds_4 : decode cX0_mostFolds 4 = .ok (.iload_n 1, 1) := by decide +kernel
theorem dX0_mostFolds_5 : decode cX0_mostFolds 5 = .ok (.invokestatic 102, 3) := by decide +kernel
theorem dX0_mostFolds_8 : decode cX0_mostFolds 8 = .ok (.iload_n 0, 1) := by decide +kernel
theorem dX0_mostFolds_9 : decode cX0_mostFolds 9 = .ok (.sipush 960, 3) := by decide +kernel
theorem dX0_mostFolds_12 : decode cX0_mostFolds 12 = .ok (.iand, 1) := by decide +kernel
theorem dX0_mostFolds_13 : decode cX0_mostFolds 13 = .ok (.iload_n 1, 1) := by decide +kernel
theorem dX0_mostFolds_14 : decode cX0_mostFolds 14 = .ok (.invokestatic 102, 3) := by decide +kernel
theorem dX0_mostFolds_17 : decode cX0_mostFolds 17 = .ok (.iadd, 1) := by decide +kernel
theorem dX0_mostFolds_18 : decode cX0_mostFolds 18 = .ok (.ireturn, 1) := by decide +kernel
set_option maxRecDepth 20000 in
theorem ggX0_mostOfKind_J6_bitCount_0f7a4 : GoodIn wsX0_mostOfKind wsJ6_bitCount_0f7a4 := goodIn_r _ [8, 9, 10, 11] (by decide +kernel) (by decide +kernel)
set_option maxRecDepth 20000 in
theorem gX0_mostOfKind_J6_bitCount_0f7a4 : GoodIn wsX0_mostOfKind (va_wsS RX0 105 yJ6_bitCount_0f7a4 wsJ6_bitCount_0f7a4) := goodIn_app (goodIn_of _ (by decide +kernel)) ggX0_mostOfKind_J6_bitCount_0f7a4
theorem dX0_mostOfKind_0 : decode cX0_mostOfKind 0 = .ok (.iload_n 0, 1) := by decide +kernel
theorem dX0_mostOfKind_1 : decode cX0_mostOfKind 1 = .ok (.iload_n 1, 1) := by decide +kernel
theorem dX0_mostOfKind_2 : decode cX0_mostOfKind 2 = .ok (.ishr, 1) := by decide +kernel
theorem dX0_mostOfKind_3 : decode cX0_mostOfKind 3 = .ok (.invokestatic 105, 3) := by decide +kernel
theorem dX0_mostOfKind_6 : decode cX0_mostOfKind 6 = .ok (.istore_n 2, 1) := by decide +kernel
theorem dX0_mostOfKind_7 : decode cX0_mostOfKind 7 = .ok (.iload_n 2, 1) := by decide +kernel
theorem dX0_mostOfKind_8 : decode cX0_mostOfKind 8 = .ok (.iload_n 0, 1) := by decide +kernel
theorem dX0_mostOfKind_9 : decode cX0_mostOfKind 9 = .ok (.invokestatic 105, 3) := by decide +kernel
theorem dX0_mostOfKind_12 : decode cX0_mostOfKind 12 = .ok (.iconst 2, 1) := by decide +kernel
theorem dX0_mostOfKind_13 : decode cX0_mostOfKind 13 = .ok (.idiv, 1) := by decide +kernel
theorem dX0_mostOfKind_14 : decode cX0_mostOfKind 14 = .ok (.invokestatic 110, 3) := by decide +kernel
theorem dX0_mostOfKind_17 : decode cX0_mostOfKind 17 = .ok (.ireturn, 1) := by decide +kernel
theorem dX1_init_0 : decode cX1_init 0 = .ok (.aload_n 0, 1) := by decide +kernel
theorem dX1_init_1 : decode cX1_init 1 = .ok (.invokespecial 3, 3) := by decide +kernel
theorem dX1_init_4 : decode cX1_init 4 = .ok (.aload_n 0, 1) := by decide +kernel
theorem dX1_init_5 : decode cX1_init 5 = .ok (.bipush 10, 2) := by decide +kernel
theorem dX1_init_7 : decode cX1_init 7 = .ok (.newarray .int, 2) := by decide +kernel
theorem dX1_init_9 : decode cX1_init 9 = .ok (.putfield 9, 3) := by decide +kernel
theorem dX1_init_12 : decode cX1_init 12 = .ok (.return_, 1) := by decide +kernel
set_option maxRecDepth 20000 in
theorem ggX1_clear_J7_fill_53178 : GoodIn wsX1_clear wsJ7_fill_53178 := goodIn_r _ [5] (by decide +kernel) (by decide +kernel)
set_option maxRecDepth 20000 in
theorem gX1_clear_J7_fill_53178 : GoodIn wsX1_clear (va_wsS RX1 15 yJ7_fill_53178 wsJ7_fill_53178) := goodIn_app (goodIn_of _ (by decide +kernel)) ggX1_clear_J7_fill_53178
theorem dX1_clear_0 : decode cX1_clear 0 = .ok (.aload_n 0, 1) := by decide +kernel
theorem dX1_clear_1 : decode cX1_clear 1 = .ok (.getfield 9, 3) := by decide +kernel
theorem dX1_clear_4 : decode cX1_clear 4 = .ok (.iconst 0, 1) := by decide +kernel
theorem dX1_clear_5 : decode cX1_clear 5 = .ok (.invokestatic 15, 3) := by decide +kernel
theorem dX1_clear_8 : decode cX1_clear 8 = .ok (.return_, 1) := by decide +kernel
theorem dX1_copyFrom_0 : decode cX1_copyFrom 0 = .ok (.aload_n 1, 1) := by decide +kernel
theorem dX1_copyFrom_1 : decode cX1_copyFrom 1 = .ok (.getfield 9, 3) := by decide +kernel
theorem dX1_copyFrom_4 : decode cX1_copyFrom 4 = .ok (.iconst 0, 1) := by decide +kernel
theorem dX1_copyFrom_5 : decode cX1_copyFrom 5 = .ok (.aload_n 0, 1) := by decide +kernel
theorem dX1_copyFrom_6 : decode cX1_copyFrom 6 = .ok (.getfield 9, 3) := by decide +kernel
theorem dX1_copyFrom_9 : decode cX1_copyFrom 9 = .ok (.iconst 0, 1) := by decide +kernel
theorem dX1_copyFrom_10 : decode cX1_copyFrom 10 = .ok (.bipush 10, 2) := by decide +kernel
theorem dX1_copyFrom_12 : decode cX1_copyFrom 12 = .ok (.invokestatic 21, 3) := by decide +kernel
theorem dX1_copyFrom_15 : decode cX1_copyFrom 15 = .ok (.return_, 1) := by decide +kernel
set_option maxRecDepth 20000 in
theorem ggX1_collect_X1_clear : GoodIn wsX1_collect wsX1_clear := goodIn_r _ [5, 6, 7, 8, 9, 10, 40] (by decide +kernel) (by decide +kernel)
set_option maxRecDepth 20000 in
theorem gX1_collect_X1_clear : GoodIn wsX1_collect (wsV RX1 27 RX1 yX1_clear wsX1_clear) := goodIn_app (goodIn_of _ (by decide +kernel)) ggX1_collect_X1_clear
set_option maxRecDepth 20000 in
theorem ggX1_collect_X4_termsOfColumn : GoodIn wsX1_collect wsX4_termsOfColumn := goodIn_r _ [14, 15, 16, 17, 18, 19, 20, 21, 30, 31, 32, 33, 34, 35, 36, 37, 38, 39] (by decide +kernel) (by decide +kernel)
set_option maxRecDepth 20000 in
theorem gX1_collect_X4_termsOfColumn_n35 : GoodIn wsX1_collect (wsX4_termsOfColumn) := ggX1_collect_X4_termsOfColumn
set_option maxRecDepth 20000 in
theorem ggX1_collect_X1_add : GoodIn wsX1_collect wsX1_add := goodIn_r _ [25, 6, 26, 27, 28, 4, 29, 19, 20, 21, 40] (by decide +kernel) (by decide +kernel)
set_option maxRecDepth 20000 in
theorem gX1_collect_X1_add : GoodIn wsX1_collect (wsV RX1 39 RX1 yX1_add wsX1_add) := goodIn_app (goodIn_of _ (by decide +kernel)) ggX1_collect_X1_add
theorem dX1_collect_0 : decode cX1_collect 0 = .ok (.aload_n 0, 1) := by decide +kernel
theorem dX1_collect_1 : decode cX1_collect 1 = .ok (.invokevirtual 27, 3) := by decide +kernel
theorem dX1_collect_4 : decode cX1_collect 4 = .ok (.iconst 0, 1) := by decide +kernel
theorem dX1_collect_5 : decode cX1_collect 5 = .ok (.istore_n 2, 1) := by decide +kernel
theorem dX1_collect_6 : decode cX1_collect 6 = .ok (.iload_n 2, 1) := by decide +kernel
theorem dX1_collect_7 : decode cX1_collect 7 = .ok (.bipush 10, 2) := by decide +kernel
theorem dX1_collect_9 : decode cX1_collect 9 = .ok (.if_icmp .ge 35, 3) := by decide +kernel
theorem dX1_collect_12 : decode cX1_collect 12 = .ok (.aload_n 1, 1) := by decide +kernel
theorem dX1_collect_13 : decode cX1_collect 13 = .ok (.getfield 30, 3) := by decide +kernel
theorem dX1_collect_16 : decode cX1_collect 16 = .ok (.iload_n 2, 1) := by decide +kernel
theorem dX1_collect_17 : decode cX1_collect 17 = .ok (.iaload, 1) := by decide +kernel
theorem dX1_collect_18 : decode cX1_collect 18 = .ok (.istore_n 3, 1) := by decide +kernel
theorem dX1_collect_19 : decode cX1_collect 19 = .ok (.iload_n 3, 1) := by decide +kernel
theorem dX1_collect_20 : decode cX1_collect 20 = .ok (.iconst (-1), 1) := by decide +kernel
theorem dX1_collect_21 : decode cX1_collect 21 = .ok (.if_icmp .eq 17, 3) := by decide +kernel
theorem dX1_collect_24 : decode cX1_collect 24 = .ok (.aload_n 0, 1) := by decide +kernel
theorem dX1_collect_25 : decode cX1_collect 25 = .ok (.aload_n 1, 1) := by decide +kernel
theorem dX1_collect_26 : decode cX1_collect 26 = .ok (.iload_n 2, 1) := by decide +kernel
theorem dX1_collect_27 : decode cX1_collect 27 = .ok (.invokevirtual 35, 3) := by decide +kernel
theorem dX1_collect_30 : decode cX1_collect 30 = .ok (.aload_n 1, 1) := by decide +kernel
theorem dX1_collect_31 : decode cX1_collect 31 = .ok (.iload_n 3, 1) := by decide +kernel
theorem dX1_collect_32 : decode cX1_collect 32 = .ok (.invokevirtual 35, 3) := by decide +kernel
theorem dX1_collect_35 : decode cX1_collect 35 = .ok (.invokevirtual 39, 3) := by decide +kernel
theorem dX1_collect_38 : decode cX1_collect 38 = .ok (.iinc 2 1, 3) := by decide +kernel
theorem dX1_collect_41 : decode cX1_collect 41 = .ok (.goto (-35), 3) := by decide +kernel
theorem dX1_collect_44 : decode cX1_collect 44 = .ok (.return_, 1) := by decide +kernel
set_option maxRecDepth 20000 in
theorem ggX1_withAllAbove_X5_contains : GoodIn wsX1_withAllAbove wsX5_contains := goodIn_r _ [4] (by decide +kernel) (by decide +kernel)
set_option maxRecDepth 20000 in
theorem gX1_withAllAbove_X5_contains_n43 : GoodIn wsX1_withAllAbove (wsX5_contains) := ggX1_withAllAbove_X5_contains
theorem dX1_withAllAbove_0 : decode cX1_withAllAbove 0 = .ok (.iload_n 1, 1) := by decide +kernel
theorem dX1_withAllAbove_1 : decode cX1_withAllAbove 1 = .ok (.istore_n 2, 1) := by decide +kernel
theorem dX1_withAllAbove_2 : decode cX1_withAllAbove 2 = .ok (.iconst 0, 1) := by decide +kernel
theorem dX1_withAllAbove_3 : decode cX1_withAllAbove 3 = .ok (.istore_n 3, 1) := by decide +kernel
theorem dX1_withAllAbove_4 : decode cX1_withAllAbove 4 = .ok (.iload_n 3, 1) := by decide +kernel
theorem dX1_withAllAbove_5 : decode cX1_withAllAbove 5 = .ok (.bipush 10, 2) := by decide +kernel
theorem dX1_withAllAbove_7 : decode cX1_withAllAbove 7 = .ok (.if_icmp .ge 26, 3) := by decide +kernel
theorem dX1_withAllAbove_10 : decode cX1_withAllAbove 10 = .ok (.iload_n 1, 1) := by decide +kernel
theorem dX1_withAllAbove_11 : decode cX1_withAllAbove 11 = .ok (.iload_n 3, 1) := by decide +kernel
theorem dX1_withAllAbove_12 : decode cX1_withAllAbove 12 = .ok (.invokestatic 43, 3) := by decide +kernel
theorem dX1_withAllAbove_15 : decode cX1_withAllAbove 15 = .ok (.ifCond .eq 12, 3) := by decide +kernel
theorem dX1_withAllAbove_18 : decode cX1_withAllAbove 18 = .ok (.iload_n 2, 1) := by decide +kernel
theorem dX1_withAllAbove_19 : decode cX1_withAllAbove 19 = .ok (.aload_n 0, 1) := by decide +kernel
theorem dX1_withAllAbove_20 : decode cX1_withAllAbove 20 = .ok (.getfield 9, 3) := by decide +kernel
theorem dX1_withAllAbove_23 : decode cX1_withAllAbove 23 = .ok (.iload_n 3, 1) := by decide +kernel
theorem dX1_withAllAbove_24 : decode cX1_withAllAbove 24 = .ok (.iaload, 1) := by decide +kernel
theorem dX1_withAllAbove_25 : decode cX1_withAllAbove 25 = .ok (.ior, 1) := by decide +kernel
theorem dX1_withAllAbove_26 : decode cX1_withAllAbove 26 = .ok (.istore_n 2, 1) := by decide +kernel
theorem dX1_withAllAbove_27 : decode cX1_withAllAbove 27 = .ok (.iinc 3 1, 3) := by decide +kernel
theorem dX1_withAllAbove_30 : decode cX1_withAllAbove 30 = .ok (.goto (-26), 3) := by decide +kernel
theorem dX1_withAllAbove_33 : decode cX1_withAllAbove 33 = .ok (.iload_n 2, 1) := by decide +kernel
theorem dX1_withAllAbove_34 : decode cX1_withAllAbove 34 = .ok (.ireturn, 1) := by decide +kernel
set_option maxRecDepth 20000 in
theorem ggX1_allow_X1_withAllAbove : GoodIn wsX1_allow wsX1_withAllAbove := goodIn_r _ [5, 6, 7, 8, 9, 10] (by decide +kernel) (by decide +kernel)
set_option maxRecDepth 20000 in
theorem gX1_allow_X1_withAllAbove : GoodIn wsX1_allow (wsV RX1 47 RX1 yX1_withAllAbove wsX1_withAllAbove) := goodIn_app (goodIn_of _ (by decide +kernel)) ggX1_allow_X1_withAllAbove
theorem dX1_allow_0 : decode cX1_allow 0 = .ok (.aload_n 0, 1) := by decide +kernel
theorem dX1_allow_1 : decode cX1_allow 1 = .ok (.iload_n 1, 1) := by decide +kernel
theorem dX1_allow_2 : decode cX1_allow 2 = .ok (.invokevirtual 47, 3) := by decide +kernel
theorem dX1_allow_5 : decode cX1_allow 5 = .ok (.iload_n 2, 1) := by decide +kernel
theorem dX1_allow_6 : decode cX1_allow 6 = .ok (.iand, 1) := by decide +kernel
theorem dX1_allow_7 : decode cX1_allow 7 = .ok (.ifCond .ne 7, 3) := by decide +kernel
theorem dX1_allow_10 : decode cX1_allow 10 = .ok (.iconst 1, 1) := by decide +kernel
theorem dX1_allow_11 : decode cX1_allow 11 = .ok (.goto 4, 3) := by decide +kernel
theorem dX1_allow_14 : decode cX1_allow 14 = .ok (.iconst 0, 1) := by decide +kernel
theorem dX1_allow_15 : decode cX1_allow 15 = .ok (.ireturn, 1) := by decide +kernel
set_option maxRecDepth 20000 in
theorem ggX1_add_X1_withAllAbove : GoodIn wsX1_add wsX1_withAllAbove := goodIn_r _ [6, 1, 7, 8, 9, 10] (by decide +kernel) (by decide +kernel)
set_option maxRecDepth 20000 in
theorem gX1_add_X1_withAllAbove : GoodIn wsX1_add (wsV RX1 47 RX1 yX1_withAllAbove wsX1_withAllAbove) := goodIn_app (goodIn_of _ (by decide +kernel)) ggX1_add_X1_withAllAbove
set_option maxRecDepth 20000 in
theorem ggX1_add_X5_contains : GoodIn wsX1_add wsX5_contains := goodIn_r _ [9] (by decide +kernel) (by decide +kernel)
set_option maxRecDepth 20000 in
theorem gX1_add_X5_contains_n43 : GoodIn wsX1_add (wsX5_contains) := ggX1_add_X5_contains
theorem dX1_add_0 : decode cX1_add 0 = .ok (.aload_n 0, 1) := by decide +kernel
theorem dX1_add_1 : decode cX1_add 1 = .ok (.iload_n 1, 1) := by decide +kernel
theorem dX1_add_2 : decode cX1_add 2 = .ok (.invokevirtual 47, 3) := by decide +kernel
theorem dX1_add_5 : decode cX1_add 5 = .ok (.istore_n 3, 1) := by decide +kernel
theorem dX1_add_6 : decode cX1_add 6 = .ok (.iconst 0, 1) := by decide +kernel
theorem dX1_add_7 : decode cX1_add 7 = .ok (.istore 4, 2) := by decide +kernel
theorem dX1_add_9 : decode cX1_add 9 = .ok (.iload 4, 2) := by decide +kernel
theorem dX1_add_11 : decode cX1_add 11 = .ok (.bipush 10, 2) := by decide +kernel
theorem dX1_add_13 : decode cX1_add 13 = .ok (.if_icmp .ge 41, 3) := by decide +kernel
theorem dX1_add_16 : decode cX1_add 16 = .ok (.iload_n 2, 1) := by decide +kernel
theorem dX1_add_17 : decode cX1_add 17 = .ok (.iload 4, 2) := by decide +kernel
theorem dX1_add_19 : decode cX1_add 19 = .ok (.invokestatic 43, 3) := by decide +kernel
theorem dX1_add_22 : decode cX1_add 22 = .ok (.ifCond .ne 15, 3) := by decide +kernel
theorem dX1_add_25 : decode cX1_add 25 = .ok (.aload_n 0, 1) := by decide +kernel
theorem dX1_add_26 : decode cX1_add 26 = .ok (.getfield 9, 3) := by decide +kernel
theorem dX1_add_29 : decode cX1_add 29 = .ok (.iload 4, 2) := by decide +kernel
theorem dX1_add_31 : decode cX1_add 31 = .ok (.iaload, 1) := by decide +kernel
theorem dX1_add_32 : decode cX1_add 32 = .ok (.iload_n 2, 1) := by decide +kernel
theorem dX1_add_33 : decode cX1_add 33 = .ok (.iand, 1) := by decide +kernel
theorem dX1_add_34 : decode cX1_add 34 = .ok (.ifCond .eq 14, 3) := by decide +kernel
theorem dX1_add_37 : decode cX1_add 37 = .ok (.aload_n 0, 1) := by decide +kernel
theorem dX1_add_38 : decode cX1_add 38 = .ok (.getfield 9, 3) := by decide +kernel
theorem dX1_add_41 : decode cX1_add 41 = .ok (.iload 4, 2) := by decide +kernel
theorem dX1_add_43 : decode cX1_add 43 = .ok (.dup2, 1) := by decide +kernel
theorem dX1_add_44 : decode cX1_add 44 = .ok (.iaload, 1) := by decide +kernel
theorem dX1_add_45 : decode cX1_add 45 = .ok (.iload_n 3, 1) := by decide +kernel
theorem dX1_add_46 : decode cX1_add 46 = .ok (.ior, 1) := by decide +kernel
theorem dX1_add_47 : decode cX1_add 47 = .ok (.iastore, 1) := by decide +kernel
theorem dX1_add_48 : decode cX1_add 48 = .ok (.iinc 4 1, 3) := by decide +kernel
theorem dX1_add_51 : decode cX1_add 51 = .ok (.goto (-42), 3) := by decide +kernel
theorem dX1_add_54 : decode cX1_add 54 = .ok (.return_, 1) := by decide +kernel
set_option maxRecDepth 20000 in
theorem ggX2_init_X4_init : GoodIn wsX2_init wsX4_init := goodIn_r _ [10, 11, 2, 3, 12, 13, 14, 15, 16, 17, 18, 19, 20, 21, 22, 23, 24, 25, 26, 27, 30, 31, 32, 33, 34, 35, 36, 37, 38, 39] (by decide +kernel) (by decide +kernel)
set_option maxRecDepth 20000 in
theorem gX2_init_X4_init_n21 : GoodIn wsX2_init (wsX4_init) := ggX2_init_X4_init
theorem dX2_init_0 : decode cX2_init 0 = .ok (.aload_n 0, 1) := by decide +kernel
theorem dX2_init_1 : decode cX2_init 1 = .ok (.invokespecial 3, 3) := by decide +kernel
theorem dX2_init_4 : decode cX2_init 4 = .ok (.aload_n 0, 1) := by decide +kernel
theorem dX2_init_5 : decode cX2_init 5 = .ok (.iconst 5, 1) := by decide +kernel
theorem dX2_init_6 : decode cX2_init 6 = .ok (.anewarray 9, 3) := by decide +kernel
theorem dX2_init_9 : decode cX2_init 9 = .ok (.putfield 11, 3) := by decide +kernel
theorem dX2_init_12 : decode cX2_init 12 = .ok (.aload_n 0, 1) := by decide +kernel
theorem dX2_init_13 : decode cX2_init 13 = .ok (.iconst 0, 1) := by decide +kernel
theorem dX2_init_14 : decode cX2_init 14 = .ok (.putfield 17, 3) := by decide +kernel
theorem dX2_init_17 : decode cX2_init 17 = .ok (.iconst 0, 1) := by decide +kernel
theorem dX2_init_18 : decode cX2_init 18 = .ok (.istore_n 1, 1) := by decide +kernel
theorem dX2_init_19 : decode cX2_init 19 = .ok (.iload_n 1, 1) := by decide +kernel
theorem dX2_init_20 : decode cX2_init 20 = .ok (.iconst 5, 1) := by decide +kernel
theorem dX2_init_21 : decode cX2_init 21 = .ok (.if_icmp .ge 22, 3) := by decide +kernel
theorem dX2_init_24 : decode cX2_init 24 = .ok (.aload_n 0, 1) := by decide +kernel
theorem dX2_init_25 : decode cX2_init 25 = .ok (.getfield 11, 3) := by decide +kernel
theorem dX2_init_28 : decode cX2_init 28 = .ok (.iload_n 1, 1) := by decide +kernel
theorem dX2_init_29 : decode cX2_init 29 = .ok (.new 9, 3) := by decide +kernel
theorem dX2_init_32 : decode cX2_init 32 = .ok (.dup, 1) := by decide +kernel
theorem dX2_init_33 : decode cX2_init 33 = .ok (.invokespecial 21, 3) := by decide +kernel
theorem dX2_init_36 : decode cX2_init 36 = .ok (.aastore, 1) := by decide +kernel
theorem dX2_init_37 : decode cX2_init 37 = .ok (.iinc 1 1, 3) := by decide +kernel
theorem dX2_init_40 : decode cX2_init 40 = .ok (.goto (-21), 3) := by decide +kernel
theorem dX2_init_43 : decode cX2_init 43 = .ok (.return_, 1) := by decide +kernel
set_option maxRecDepth 20000 in
theorem ggX2_push_X2_dropOldest : GoodIn wsX2_push wsX2_dropOldest := goodIn_r _ [7, 2, 1, 26, 27] (by decide +kernel) (by decide +kernel)
set_option maxRecDepth 20000 in
theorem gX2_push_X2_dropOldest : GoodIn wsX2_push (wsV RX2 22 RX2 yX2_dropOldest wsX2_dropOldest) := goodIn_app (goodIn_of _ (by decide +kernel)) ggX2_push_X2_dropOldest
set_option maxRecDepth 20000 in
theorem ggX2_push_X4_copyFrom : GoodIn wsX2_push wsX4_copyFrom := goodIn_r _ [11, 12, 13, 14, 15, 16, 17, 18, 19, 20, 21, 22, 23, 24, 25, 28, 29, 30, 31, 32, 33, 34, 35, 36, 37] (by decide +kernel) (by decide +kernel)
set_option maxRecDepth 20000 in
theorem gX2_push_X4_copyFrom_n25 : GoodIn wsX2_push (wsX4_copyFrom) := ggX2_push_X4_copyFrom
theorem dX2_push_0 : decode cX2_push 0 = .ok (.aload_n 0, 1) := by decide +kernel
theorem dX2_push_1 : decode cX2_push 1 = .ok (.getfield 17, 3) := by decide +kernel
theorem dX2_push_4 : decode cX2_push 4 = .ok (.iconst 5, 1) := by decide +kernel
theorem dX2_push_5 : decode cX2_push 5 = .ok (.if_icmp .lt 7, 3) := by decide +kernel
theorem dX2_push_8 : decode cX2_push 8 = .ok (.aload_n 0, 1) := by decide +kernel
theorem dX2_push_9 : decode cX2_push 9 = .ok (.invokevirtual 22, 3) := by decide +kernel
theorem dX2_push_12 : decode cX2_push 12 = .ok (.aload_n 0, 1) := by decide +kernel
theorem dX2_push_13 : decode cX2_push 13 = .ok (.getfield 11, 3) := by decide +kernel
theorem dX2_push_16 : decode cX2_push 16 = .ok (.aload_n 0, 1) := by decide +kernel
theorem dX2_push_17 : decode cX2_push 17 = .ok (.getfield 17, 3) := by decide +kernel
theorem dX2_push_20 : decode cX2_push 20 = .ok (.aaload, 1) := by decide +kernel
theorem dX2_push_21 : decode cX2_push 21 = .ok (.aload_n 1, 1) := by decide +kernel
theorem dX2_push_22 : decode cX2_push 22 = .ok (.invokevirtual 25, 3) := by decide +kernel
theorem dX2_push_25 : decode cX2_push 25 = .ok (.aload_n 0, 1) := by decide +kernel
theorem dX2_push_26 : decode cX2_push 26 = .ok (.dup, 1) := by decide +kernel
theorem dX2_push_27 : decode cX2_push 27 = .ok (.getfield 17, 3) := by decide +kernel
theorem dX2_push_30 : decode cX2_push 30 = .ok (.iconst 1, 1) := by decide +kernel
theorem dX2_push_31 : decode cX2_push 31 = .ok (.iadd, 1) := by decide +kernel
theorem dX2_push_32 : decode cX2_push 32 = .ok (.putfield 17, 3) := by decide +kernel
theorem dX2_push_35 : decode cX2_push 35 = .ok (.return_, 1) := by decide +kernel
theorem dX2_dropOldest_0 : decode cX2_dropOldest 0 = .ok (.aload_n 0, 1) := by decide +kernel
theorem dX2_dropOldest_1 : decode cX2_dropOldest 1 = .ok (.getfield 11, 3) := by decide +kernel
theorem dX2_dropOldest_4 : decode cX2_dropOldest 4 = .ok (.iconst 0, 1) := by decide +kernel
theorem dX2_dropOldest_5 : decode cX2_dropOldest 5 = .ok (.aaload, 1) := by decide +kernel
theorem dX2_dropOldest_6 : decode cX2_dropOldest 6 = .ok (.astore_n 1, 1) := by decide +kernel
theorem dX2_dropOldest_7 : decode cX2_dropOldest 7 = .ok (.iconst 1, 1) := by decide +kernel
theorem dX2_dropOldest_8 : decode cX2_dropOldest 8 = .ok (.istore_n 2, 1) := by decide +kernel
theorem dX2_dropOldest_9 : decode cX2_dropOldest 9 = .ok (.iload_n 2, 1) := by decide +kernel
theorem dX2_dropOldest_10 : decode cX2_dropOldest 10 = .ok (.iconst 5, 1) := by decide +kernel
theorem dX2_dropOldest_11 : decode cX2_dropOldest 11 = .ok (.if_icmp .ge 23, 3) := by decide +kernel
theorem dX2_dropOldest_14 : decode cX2_dropOldest 14 = .ok (.aload_n 0, 1) := by decide +kernel
theorem dX2_dropOldest_15 : decode cX2_dropOldest 15 = .ok (.getfield 11, 3) := by decide +kernel
theorem dX2_dropOldest_18 : decode cX2_dropOldest 18 = .ok (.iload_n 2, 1) := by decide +kernel
theorem dX2_dropOldest_19 : decode cX2_dropOldest 19 = .ok (.iconst 1, 1) := by decide +kernel
theorem dX2_dropOldest_20 : decode cX2_dropOldest 20 = .ok (.isub, 1) := by decide +kernel
theorem dX2_dropOldest_21 : decode cX2_dropOldest 21 = .ok (.aload_n 0, 1) := by decide +kernel
theorem dX2_dropOldest_22 : decode cX2_dropOldest 22 = .ok (.getfield 11, 3) := by decide +kernel
theorem dX2_dropOldest_25 : decode cX2_dropOldest 25 = .ok (.iload_n 2, 1) := by decide +kernel
theorem dX2_dropOldest_26 : decode cX2_dropOldest 26 = .ok (.aaload, 1) := by decide +kernel
theorem dX2_dropOldest_27 : decode cX2_dropOldest 27 = .ok (.aastore, 1) := by decide +kernel
theorem dX2_dropOldest_28 : decode cX2_dropOldest 28 = .ok (.iinc 2 1, 3) := by decide +kernel
theorem dX2_dropOldest_31 : decode cX2_dropOldest 31 = .ok (.goto (-22), 3) := by decide +kernel
theorem dX2_dropOldest_34 : decode cX2_dropOldest 34 = .ok (.aload_n 0, 1) := by decide +kernel
theorem dX2_dropOldest_35 : decode cX2_dropOldest 35 = .ok (.getfield 11, 3) := by decide +kernel
theorem dX2_dropOldest_38 : decode cX2_dropOldest 38 = .ok (.iconst 4, 1) := by decide +kernel
theorem dX2_dropOldest_39 : decode cX2_dropOldest 39 = .ok (.aload_n 1, 1) := by decide +kernel
theorem dX2_dropOldest_40 : decode cX2_dropOldest 40 = .ok (.aastore, 1) := by decide +kernel
theorem dX2_dropOldest_41 : decode cX2_dropOldest 41 = .ok (.aload_n 0, 1) := by decide +kernel
theorem dX2_dropOldest_42 : decode cX2_dropOldest 42 = .ok (.iconst 4, 1) := by decide +kernel
theorem dX2_dropOldest_43 : decode cX2_dropOldest 43 = .ok (.putfield 17, 3) := by decide +kernel
theorem dX2_dropOldest_46 : decode cX2_dropOldest 46 = .ok (.return_, 1) := by decide +kernel
set_option maxRecDepth 20000 in
theorem ggX2_pop_X4_copyFrom : GoodIn wsX2_pop wsX4_copyFrom := goodIn_r _ [6, 7, 8, 9, 10, 11, 12, 13, 14, 15, 16, 17, 18, 19, 20, 23, 24, 25, 26, 27, 28, 29, 30, 31, 32] (by decide +kernel) (by decide +kernel)
set_option maxRecDepth 20000 in
theorem gX2_pop_X4_copyFrom_n25 : GoodIn wsX2_pop (wsX4_copyFrom) := ggX2_pop_X4_copyFrom
theorem dX2_pop_0 : decode cX2_pop 0 = .ok (.aload_n 0, 1) := by decide +kernel
theorem dX2_pop_1 : decode cX2_pop 1 = .ok (.getfield 17, 3) := by decide +kernel
theorem dX2_pop_4 : decode cX2_pop 4 = .ok (.ifCond .gt 4, 3) := by decide +kernel
theorem dX2_pop_7 : decode cX2_pop 7 = .ok (.return_, 1) := by decide +kernel
theorem dX2_pop_8 : decode cX2_pop 8 = .ok (.aload_n 0, 1) := by decide +kernel
theorem dX2_pop_9 : decode cX2_pop 9 = .ok (.dup, 1) := by decide +kernel
theorem dX2_pop_10 : decode cX2_pop 10 = .ok (.getfield 17, 3) := by decide +kernel
theorem dX2_pop_13 : decode cX2_pop 13 = .ok (.iconst 1, 1) := by decide +kernel
theorem dX2_pop_14 : decode cX2_pop 14 = .ok (.isub, 1) := by decide +kernel
theorem dX2_pop_15 : decode cX2_pop 15 = .ok (.putfield 17, 3) := by decide +kernel
theorem dX2_pop_18 : decode cX2_pop 18 = .ok (.aload_n 1, 1) := by decide +kernel
theorem dX2_pop_19 : decode cX2_pop 19 = .ok (.aload_n 0, 1) := by decide +kernel
theorem dX2_pop_20 : decode cX2_pop 20 = .ok (.getfield 11, 3) := by decide +kernel
theorem dX2_pop_23 : decode cX2_pop 23 = .ok (.aload_n 0, 1) := by decide +kernel
theorem dX2_pop_24 : decode cX2_pop 24 = .ok (.getfield 17, 3) := by decide +kernel
theorem dX2_pop_27 : decode cX2_pop 27 = .ok (.aaload, 1) := by decide +kernel
theorem dX2_pop_28 : decode cX2_pop 28 = .ok (.invokevirtual 25, 3) := by decide +kernel
theorem dX2_pop_31 : decode cX2_pop 31 = .ok (.return_, 1) := by decide +kernel
theorem dX3_init_0 : decode cX3_init 0 = .ok (.aload_n 0, 1) := by decide +kernel
theorem dX3_init_1 : decode cX3_init 1 = .ok (.invokespecial 3, 3) := by decide +kernel
theorem dX3_init_4 : decode cX3_init 4 = .ok (.aload_n 0, 1) := by decide +kernel
theorem dX3_init_5 : decode cX3_init 5 = .ok (.bipush 10, 2) := by decide +kernel
theorem dX3_init_7 : decode cX3_init 7 = .ok (.newarray .int, 2) := by decide +kernel
theorem dX3_init_9 : decode cX3_init 9 = .ok (.putfield 9, 3) := by decide +kernel
theorem dX3_init_12 : decode cX3_init 12 = .ok (.aload_n 0, 1) := by decide +kernel
theorem dX3_init_13 : decode cX3_init 13 = .ok (.bipush 10, 2) := by decide +kernel
theorem dX3_init_15 : decode cX3_init 15 = .ok (.newarray .int, 2) := by decide +kernel
theorem dX3_init_17 : decode cX3_init 17 = .ok (.putfield 15, 3) := by decide +kernel
theorem dX3_init_20 : decode cX3_init 20 = .ok (.return_, 1) := by decide +kernel
set_option maxRecDepth 20000 in
theorem ggX3_build_X3_nextTerm : GoodIn wsX3_build wsX3_nextTerm := goodIn_r _ [6, 7, 8, 9, 12] (by decide +kernel) (by decide +kernel)
set_option maxRecDepth 20000 in
theorem gX3_build_X3_nextTerm : GoodIn wsX3_build (va_wsS RX3 18 yX3_nextTerm wsX3_nextTerm) := goodIn_app (goodIn_of _ (by decide +kernel)) ggX3_build_X3_nextTerm
theorem dX3_build_0 : decode cX3_build 0 = .ok (.iconst 0, 1) := by decide +kernel
theorem dX3_build_1 : decode cX3_build 1 = .ok (.istore_n 3, 1) := by decide +kernel
theorem dX3_build_2 : decode cX3_build 2 = .ok (.iconst 0, 1) := by decide +kernel
theorem dX3_build_3 : decode cX3_build 3 = .ok (.istore 4, 2) := by decide +kernel
theorem dX3_build_5 : decode cX3_build 5 = .ok (.iload 4, 2) := by decide +kernel
theorem dX3_build_7 : decode cX3_build 7 = .ok (.iload_n 2, 1) := by decide +kernel
theorem dX3_build_8 : decode cX3_build 8 = .ok (.if_icmp .ge 49, 3) := by decide +kernel
theorem dX3_build_11 : decode cX3_build 11 = .ok (.aload_n 1, 1) := by decide +kernel
theorem dX3_build_12 : decode cX3_build 12 = .ok (.iload_n 2, 1) := by decide +kernel
theorem dX3_build_13 : decode cX3_build 13 = .ok (.iload_n 3, 1) := by decide +kernel
theorem dX3_build_14 : decode cX3_build 14 = .ok (.invokestatic 18, 3) := by decide +kernel
theorem dX3_build_17 : decode cX3_build 17 = .ok (.istore 5, 2) := by decide +kernel
theorem dX3_build_19 : decode cX3_build 19 = .ok (.iload 5, 2) := by decide +kernel
theorem dX3_build_21 : decode cX3_build 21 = .ok (.iconst (-1), 1) := by decide +kernel
theorem dX3_build_22 : decode cX3_build 22 = .ok (.if_icmp .ne 4, 3) := by decide +kernel
theorem dX3_build_25 : decode cX3_build 25 = .ok (.return_, 1) := by decide +kernel
theorem dX3_build_26 : decode cX3_build 26 = .ok (.aload_n 0, 1) := by decide +kernel
theorem dX3_build_27 : decode cX3_build 27 = .ok (.getfield 9, 3) := by decide +kernel
theorem dX3_build_30 : decode cX3_build 30 = .ok (.iload 4, 2) := by decide +kernel
theorem dX3_build_32 : decode cX3_build 32 = .ok (.iload 5, 2) := by decide +kernel
theorem dX3_build_34 : decode cX3_build 34 = .ok (.iastore, 1) := by decide +kernel
theorem dX3_build_35 : decode cX3_build 35 = .ok (.aload_n 0, 1) := by decide +kernel
theorem dX3_build_36 : decode cX3_build 36 = .ok (.getfield 15, 3) := by decide +kernel
theorem dX3_build_39 : decode cX3_build 39 = .ok (.iload 5, 2) := by decide +kernel
theorem dX3_build_41 : decode cX3_build 41 = .ok (.iload 4, 2) := by decide +kernel
theorem dX3_build_43 : decode cX3_build 43 = .ok (.iastore, 1) := by decide +kernel
theorem dX3_build_44 : decode cX3_build 44 = .ok (.iload_n 3, 1) := by decide +kernel
theorem dX3_build_45 : decode cX3_build 45 = .ok (.iconst 1, 1) := by decide +kernel
theorem dX3_build_46 : decode cX3_build 46 = .ok (.iload 5, 2) := by decide +kernel
theorem dX3_build_48 : decode cX3_build 48 = .ok (.ishl, 1) := by decide +kernel
theorem dX3_build_49 : decode cX3_build 49 = .ok (.ior, 1) := by decide +kernel
theorem dX3_build_50 : decode cX3_build 50 = .ok (.istore_n 3, 1) := by decide +kernel
theorem dX3_build_51 : decode cX3_build 51 = .ok (.iinc 4 1, 3) := by decide +kernel
theorem dX3_build_54 : decode cX3_build 54 = .ok (.goto (-49), 3) := by decide +kernel
theorem dX3_build_57 : decode cX3_build 57 = .ok (.return_, 1) := by decide +kernel
set_option maxRecDepth 20000 in
theorem ggX3_nextTerm_X5_contains : GoodIn wsX3_nextTerm wsX5_contains := goodIn_r _ [3] (by decide +kernel) (by decide +kernel)
set_option maxRecDepth 20000 in
theorem gX3_nextTerm_X5_contains_n22 : GoodIn wsX3_nextTerm (wsX5_contains) := ggX3_nextTerm_X5_contains
theorem dX3_nextTerm_0 : decode cX3_nextTerm 0 = .ok (.iconst 0, 1) := by decide +kernel
theorem dX3_nextTerm_1 : decode cX3_nextTerm 1 = .ok (.istore_n 3, 1) := by decide +kernel
theorem dX3_nextTerm_2 : decode cX3_nextTerm 2 = .ok (.iload_n 3, 1) := by decide +kernel
theorem dX3_nextTerm_3 : decode cX3_nextTerm 3 = .ok (.iload_n 1, 1) := by decide +kernel
theorem dX3_nextTerm_4 : decode cX3_nextTerm 4 = .ok (.if_icmp .ge 32, 3) := by decide +kernel
theorem dX3_nextTerm_7 : decode cX3_nextTerm 7 = .ok (.iload_n 2, 1) := by decide +kernel
theorem dX3_nextTerm_8 : decode cX3_nextTerm 8 = .ok (.iload_n 3, 1) := by decide +kernel
theorem dX3_nextTerm_9 : decode cX3_nextTerm 9 = .ok (.invokestatic 22, 3) := by decide +kernel
theorem dX3_nextTerm_12 : decode cX3_nextTerm 12 = .ok (.ifCond .ne 18, 3) := by decide +kernel
theorem dX3_nextTerm_15 : decode cX3_nextTerm 15 = .ok (.aload_n 0, 1) := by decide +kernel
theorem dX3_nextTerm_16 : decode cX3_nextTerm 16 = .ok (.getfield 26, 3) := by decide +kernel
theorem dX3_nextTerm_19 : decode cX3_nextTerm 19 = .ok (.iload_n 3, 1) := by decide +kernel
theorem dX3_nextTerm_20 : decode cX3_nextTerm 20 = .ok (.iaload, 1) := by decide +kernel
theorem dX3_nextTerm_21 : decode cX3_nextTerm 21 = .ok (.iload_n 2, 1) := by decide +kernel
theorem dX3_nextTerm_22 : decode cX3_nextTerm 22 = .ok (.iconst (-1), 1) := by decide +kernel
theorem dX3_nextTerm_23 : decode cX3_nextTerm 23 = .ok (.ixor, 1) := by decide +kernel
theorem dX3_nextTerm_24 : decode cX3_nextTerm 24 = .ok (.iand, 1) := by decide +kernel
theorem dX3_nextTerm_25 : decode cX3_nextTerm 25 = .ok (.ifCond .ne 5, 3) := by decide +kernel
theorem dX3_nextTerm_28 : decode cX3_nextTerm 28 = .ok (.iload_n 3, 1) := by decide +kernel
theorem dX3_nextTerm_29 : decode cX3_nextTerm 29 = .ok (.ireturn, 1) := by decide +kernel
theorem dX3_nextTerm_30 : decode cX3_nextTerm 30 = .ok (.iinc 3 1, 3) := by decide +kernel
theorem dX3_nextTerm_33 : decode cX3_nextTerm 33 = .ok (.goto (-31), 3) := by decide +kernel
theorem dX3_nextTerm_36 : decode cX3_nextTerm 36 = .ok (.iconst (-1), 1) := by decide +kernel
theorem dX3_nextTerm_37 : decode cX3_nextTerm 37 = .ok (.ireturn, 1) := by decide +kernel
set_option maxRecDepth 20000 in
theorem ggX3_spread_X5_contains : GoodIn wsX3_spread wsX5_contains := goodIn_r _ [11] (by decide +kernel) (by decide +kernel)
set_option maxRecDepth 20000 in
theorem gX3_spread_X5_contains_n22 : GoodIn wsX3_spread (wsX5_contains) := ggX3_spread_X5_contains
theorem dX3_spread_0 : decode cX3_spread 0 = .ok (.iload_n 2, 1) := by decide +kernel
theorem dX3_spread_1 : decode cX3_spread 1 = .ok (.istore_n 3, 1) := by decide +kernel
theorem dX3_spread_2 : decode cX3_spread 2 = .ok (.iconst (-1), 1) := by decide +kernel
theorem dX3_spread_3 : decode cX3_spread 3 = .ok (.istore 4, 2) := by decide +kernel
theorem dX3_spread_5 : decode cX3_spread 5 = .ok (.iconst 0, 1) := by decide +kernel
theorem dX3_spread_6 : decode cX3_spread 6 = .ok (.istore 5, 2) := by decide +kernel
theorem dX3_spread_8 : decode cX3_spread 8 = .ok (.iload 5, 2) := by decide +kernel
theorem dX3_spread_10 : decode cX3_spread 10 = .ok (.iload_n 2, 1) := by decide +kernel
theorem dX3_spread_11 : decode cX3_spread 11 = .ok (.if_icmp .ge 44, 3) := by decide +kernel
theorem dX3_spread_14 : decode cX3_spread 14 = .ok (.iload_n 1, 1) := by decide +kernel
theorem dX3_spread_15 : decode cX3_spread 15 = .ok (.iload 5, 2) := by decide +kernel
theorem dX3_spread_17 : decode cX3_spread 17 = .ok (.invokestatic 22, 3) := by decide +kernel
theorem dX3_spread_20 : decode cX3_spread 20 = .ok (.ifCond .eq 29, 3) := by decide +kernel
theorem dX3_spread_23 : decode cX3_spread 23 = .ok (.iload_n 3, 1) := by decide +kernel
theorem dX3_spread_24 : decode cX3_spread 24 = .ok (.aload_n 0, 1) := by decide +kernel
theorem dX3_spread_25 : decode cX3_spread 25 = .ok (.getfield 15, 3) := by decide +kernel
theorem dX3_spread_28 : decode cX3_spread 28 = .ok (.iload 5, 2) := by decide +kernel
theorem dX3_spread_30 : decode cX3_spread 30 = .ok (.iaload, 1) := by decide +kernel
theorem dX3_spread_31 : decode cX3_spread 31 = .ok (.invokestatic 31, 3) := by decide +kernel
theorem dX3_spread_34 : decode cX3_spread 34 = .ok (.istore_n 3, 1) := by decide +kernel
theorem dX3_spread_35 : decode cX3_spread 35 = .ok (.iload 4, 2) := by decide +kernel
theorem dX3_spread_37 : decode cX3_spread 37 = .ok (.aload_n 0, 1) := by decide +kernel
theorem dX3_spread_38 : decode cX3_spread 38 = .ok (.getfield 15, 3) := by decide +kernel
theorem dX3_spread_41 : decode cX3_spread 41 = .ok (.iload 5, 2) := by decide +kernel
theorem dX3_spread_43 : decode cX3_spread 43 = .ok (.iaload, 1) := by decide +kernel
theorem dX3_spread_44 : decode cX3_spread 44 = .ok (.invokestatic 37, 3) := by decide +kernel
theorem dX3_spread_47 : decode cX3_spread 47 = .ok (.istore 4, 2) := by decide +kernel
theorem dX3_spread_49 : decode cX3_spread 49 = .ok (.iinc 5 1, 3) := by decide +kernel
theorem dX3_spread_52 : decode cX3_spread 52 = .ok (.goto (-44), 3) := by decide +kernel
theorem dX3_spread_55 : decode cX3_spread 55 = .ok (.iload 4, 2) := by decide +kernel
theorem dX3_spread_57 : decode cX3_spread 57 = .ok (.ifCond .ge 7, 3) := by decide +kernel
theorem dX3_spread_60 : decode cX3_spread 60 = .ok (.iconst 0, 1) := by decide +kernel
theorem dX3_spread_61 : decode cX3_spread 61 = .ok (.goto 9, 3) := by decide +kernel
theorem dX3_spread_64 : decode cX3_spread 64 = .ok (.iload 4, 2) := by decide +kernel
theorem dX3_spread_66 : decode cX3_spread 66 = .ok (.iload_n 3, 1) := by decide +kernel
theorem dX3_spread_67 : decode cX3_spread 67 = .ok (.isub, 1) := by decide +kernel
theorem dX3_spread_68 : decode cX3_spread 68 = .ok (.iconst 1, 1) := by decide +kernel
theorem dX3_spread_69 : decode cX3_spread 69 = .ok (.iadd, 1) := by decide +kernel
theorem dX3_spread_70 : decode cX3_spread 70 = .ok (.ireturn, 1) := by decide +kernel
set_option maxRecDepth 20000 in
theorem ggX4_init_J7_fill_53178 : GoodIn wsX4_init wsJ7_fill_53178 := goodIn_r _ [19] (by decide +kernel) (by decide +kernel)
set_option maxRecDepth 20000 in
theorem gX4_init_J7_fill_53178 : GoodIn wsX4_init (va_wsS RX4 44 yJ7_fill_53178 wsJ7_fill_53178) := goodIn_app (goodIn_of _ (by decide +kernel)) ggX4_init_J7_fill_53178
theorem dX4_init_0 : decode cX4_init 0 = .ok (.aload_n 0, 1) := by decide +kernel
theorem dX4_init_1 : decode cX4_init 1 = .ok (.invokespecial 3, 3) := by decide +kernel
theorem dX4_init_4 : decode cX4_init 4 = .ok (.aload_n 0, 1) := by decide +kernel
theorem dX4_init_5 : decode cX4_init 5 = .ok (.iconst 4, 1) := by decide +kernel
theorem dX4_init_6 : decode cX4_init 6 = .ok (.putfield 9, 3) := by decide +kernel
theorem dX4_init_9 : decode cX4_init 9 = .ok (.aload_n 0, 1) := by decide +kernel
theorem dX4_init_10 : decode cX4_init 10 = .ok (.iconst 2, 1) := by decide +kernel
theorem dX4_init_11 : decode cX4_init 11 = .ok (.putfield 15, 3) := by decide +kernel
theorem dX4_init_14 : decode cX4_init 14 = .ok (.aload_n 0, 1) := by decide +kernel
theorem dX4_init_15 : decode cX4_init 15 = .ok (.iconst 0, 1) := by decide +kernel
theorem dX4_init_16 : decode cX4_init 16 = .ok (.putfield 18, 3) := by decide +kernel
theorem dX4_init_19 : decode cX4_init 19 = .ok (.aload_n 0, 1) := by decide +kernel
theorem dX4_init_20 : decode cX4_init 20 = .ok (.iconst 0, 1) := by decide +kernel
theorem dX4_init_21 : decode cX4_init 21 = .ok (.putfield 21, 3) := by decide +kernel
theorem dX4_init_24 : decode cX4_init 24 = .ok (.aload_n 0, 1) := by decide +kernel
theorem dX4_init_25 : decode cX4_init 25 = .ok (.bipush 10, 2) := by decide +kernel
theorem dX4_init_27 : decode cX4_init 27 = .ok (.newarray .int, 2) := by decide +kernel
theorem dX4_init_29 : decode cX4_init 29 = .ok (.putfield 24, 3) := by decide +kernel
theorem dX4_init_32 : decode cX4_init 32 = .ok (.aload_n 0, 1) := by decide +kernel
theorem dX4_init_33 : decode cX4_init 33 = .ok (.bipush 10, 2) := by decide +kernel
theorem dX4_init_35 : decode cX4_init 35 = .ok (.newarray .int, 2) := by decide +kernel
theorem dX4_init_37 : decode cX4_init 37 = .ok (.putfield 28, 3) := by decide +kernel
theorem dX4_init_40 : decode cX4_init 40 = .ok (.aload_n 0, 1) := by decide +kernel
theorem dX4_init_41 : decode cX4_init 41 = .ok (.bipush 10, 2) := by decide +kernel
theorem dX4_init_43 : decode cX4_init 43 = .ok (.newarray .int, 2) := by decide +kernel
theorem dX4_init_45 : decode cX4_init 45 = .ok (.putfield 31, 3) := by decide +kernel
theorem dX4_init_48 : decode cX4_init 48 = .ok (.aload_n 0, 1) := by decide +kernel
theorem dX4_init_49 : decode cX4_init 49 = .ok (.bipush 10, 2) := by decide +kernel
theorem dX4_init_51 : decode cX4_init 51 = .ok (.newarray .long, 2) := by decide +kernel
theorem dX4_init_53 : decode cX4_init 53 = .ok (.putfield 34, 3) := by decide +kernel
theorem dX4_init_56 : decode cX4_init 56 = .ok (.aload_n 0, 1) := by decide +kernel
theorem dX4_init_57 : decode cX4_init 57 = .ok (.bipush 10, 2) := by decide +kernel
theorem dX4_init_59 : decode cX4_init 59 = .ok (.newarray .int, 2) := by decide +kernel
theorem dX4_init_61 : decode cX4_init 61 = .ok (.putfield 38, 3) := by decide +kernel
theorem dX4_init_64 : decode cX4_init 64 = .ok (.aload_n 0, 1) := by decide +kernel
theorem dX4_init_65 : decode cX4_init 65 = .ok (.bipush 10, 2) := by decide +kernel
theorem dX4_init_67 : decode cX4_init 67 = .ok (.newarray .int, 2) := by decide +kernel
theorem dX4_init_69 : decode cX4_init 69 = .ok (.putfield 41, 3) := by decide +kernel
theorem dX4_init_72 : decode cX4_init 72 = .ok (.aload_n 0, 1) := by decide +kernel
theorem dX4_init_73 : decode cX4_init 73 = .ok (.getfield 38, 3) := by decide +kernel
theorem dX4_init_76 : decode cX4_init 76 = .ok (.iconst (-1), 1) := by decide +kernel
theorem dX4_init_77 : decode cX4_init 77 = .ok (.invokestatic 44, 3) := by decide +kernel
theorem dX4_init_80 : decode cX4_init 80 = .ok (.aload_n 0, 1) := by decide +kernel
theorem dX4_init_81 : decode cX4_init 81 = .ok (.getfield 41, 3) := by decide +kernel
theorem dX4_init_84 : decode cX4_init 84 = .ok (.iconst (-1), 1) := by decide +kernel
theorem dX4_init_85 : decode cX4_init 85 = .ok (.invokestatic 44, 3) := by decide +kernel
theorem dX4_init_88 : decode cX4_init 88 = .ok (.return_, 1) := by decide +kernel
theorem dX4_copyFrom_0 : decode cX4_copyFrom 0 = .ok (.aload_n 0, 1) := by decide +kernel
theorem dX4_copyFrom_1 : decode cX4_copyFrom 1 = .ok (.aload_n 1, 1) := by decide +kernel
theorem dX4_copyFrom_2 : decode cX4_copyFrom 2 = .ok (.getfield 9, 3) := by decide +kernel
theorem dX4_copyFrom_5 : decode cX4_copyFrom 5 = .ok (.putfield 9, 3) := by decide +kernel
theorem dX4_copyFrom_8 : decode cX4_copyFrom 8 = .ok (.aload_n 0, 1) := by decide +kernel
theorem dX4_copyFrom_9 : decode cX4_copyFrom 9 = .ok (.aload_n 1, 1) := by decide +kernel
theorem dX4_copyFrom_10 : decode cX4_copyFrom 10 = .ok (.getfield 15, 3) := by decide +kernel
theorem dX4_copyFrom_13 : decode cX4_copyFrom 13 = .ok (.putfield 15, 3) := by decide +kernel
theorem dX4_copyFrom_16 : decode cX4_copyFrom 16 = .ok (.aload_n 0, 1) := by decide +kernel
theorem dX4_copyFrom_17 : decode cX4_copyFrom 17 = .ok (.aload_n 1, 1) := by decide +kernel
theorem dX4_copyFrom_18 : decode cX4_copyFrom 18 = .ok (.getfield 18, 3) := by decide +kernel
theorem dX4_copyFrom_21 : decode cX4_copyFrom 21 = .ok (.putfield 18, 3) := by decide +kernel
theorem dX4_copyFrom_24 : decode cX4_copyFrom 24 = .ok (.aload_n 0, 1) := by decide +kernel
theorem dX4_copyFrom_25 : decode cX4_copyFrom 25 = .ok (.aload_n 1, 1) := by decide +kernel
theorem dX4_copyFrom_26 : decode cX4_copyFrom 26 = .ok (.getfield 21, 3) := by decide +kernel
theorem dX4_copyFrom_29 : decode cX4_copyFrom 29 = .ok (.putfield 21, 3) := by decide +kernel
theorem dX4_copyFrom_32 : decode cX4_copyFrom 32 = .ok (.aload_n 1, 1) := by decide +kernel
theorem dX4_copyFrom_33 : decode cX4_copyFrom 33 = .ok (.getfield 24, 3) := by decide +kernel
theorem dX4_copyFrom_36 : decode cX4_copyFrom 36 = .ok (.iconst 0, 1) := by decide +kernel
theorem dX4_copyFrom_37 : decode cX4_copyFrom 37 = .ok (.aload_n 0, 1) := by decide +kernel
theorem dX4_copyFrom_38 : decode cX4_copyFrom 38 = .ok (.getfield 24, 3) := by decide +kernel
theorem dX4_copyFrom_41 : decode cX4_copyFrom 41 = .ok (.iconst 0, 1) := by decide +kernel
theorem dX4_copyFrom_42 : decode cX4_copyFrom 42 = .ok (.bipush 10, 2) := by decide +kernel
theorem dX4_copyFrom_44 : decode cX4_copyFrom 44 = .ok (.invokestatic 50, 3) := by decide +kernel
theorem dX4_copyFrom_47 : decode cX4_copyFrom 47 = .ok (.aload_n 1, 1) := by decide +kernel
theorem dX4_copyFrom_48 : decode cX4_copyFrom 48 = .ok (.getfield 28, 3) := by decide +kernel
theorem dX4_copyFrom_51 : decode cX4_copyFrom 51 = .ok (.iconst 0, 1) := by decide +kernel
theorem dX4_copyFrom_52 : decode cX4_copyFrom 52 = .ok (.aload_n 0, 1) := by decide +kernel
theorem dX4_copyFrom_53 : decode cX4_copyFrom 53 = .ok (.getfield 28, 3) := by decide +kernel
theorem dX4_copyFrom_56 : decode cX4_copyFrom 56 = .ok (.iconst 0, 1) := by decide +kernel
theorem dX4_copyFrom_57 : decode cX4_copyFrom 57 = .ok (.bipush 10, 2) := by decide +kernel
theorem dX4_copyFrom_59 : decode cX4_copyFrom 59 = .ok (.invokestatic 50, 3) := by decide +kernel
theorem dX4_copyFrom_62 : decode cX4_copyFrom 62 = .ok (.aload_n 1, 1) := by decide +kernel
theorem dX4_copyFrom_63 : decode cX4_copyFrom 63 = .ok (.getfield 31, 3) := by decide +kernel
theorem dX4_copyFrom_66 : decode cX4_copyFrom 66 = .ok (.iconst 0, 1) := by decide +kernel
theorem dX4_copyFrom_67 : decode cX4_copyFrom 67 = .ok (.aload_n 0, 1) := by decide +kernel
theorem dX4_copyFrom_68 : decode cX4_copyFrom 68 = .ok (.getfield 31, 3) := by decide +kernel
theorem dX4_copyFrom_71 : decode cX4_copyFrom 71 = .ok (.iconst 0, 1) := by decide +kernel
theorem dX4_copyFrom_72 : decode cX4_copyFrom 72 = .ok (.bipush 10, 2) := by decide +kernel
theorem dX4_copyFrom_74 : decode cX4_copyFrom 74 = .ok (.invokestatic 50, 3) := by decide +kernel
theorem dX4_copyFrom_77 : decode cX4_copyFrom 77 = .ok (.aload_n 1, 1) := by decide +kernel
theorem dX4_copyFrom_78 : decode cX4_copyFrom 78 = .ok (.getfield 34, 3) := by decide +kernel
theorem dX4_copyFrom_81 : decode cX4_copyFrom 81 = .ok (.iconst 0, 1) := by decide +kernel
theorem dX4_copyFrom_82 : decode cX4_copyFrom 82 = .ok (.aload_n 0, 1) := by decide +kernel
theorem dX4_copyFrom_83 : decode cX4_copyFrom 83 = .ok (.getfield 34, 3) := by decide +kernel
theorem dX4_copyFrom_86 : decode cX4_copyFrom 86 = .ok (.iconst 0, 1) := by decide +kernel
end
section
theorem dX4_copyFrom_87 : decode cX4_copyFrom 87 = .ok (.bipush 10, 2) := by decide +kernel
theorem dX4_copyFrom_89 : decode cX4_copyFrom 89 = .ok (.invokestatic 50, 3) := by decide +kernel
theorem dX4_copyFrom_92 : decode cX4_copyFrom 92 = .ok (.aload_n 1, 1) := by decide +kernel
theorem dX4_copyFrom_93 : decode cX4_copyFrom 93 = .ok (.getfield 38, 3) := by decide +kernel
theorem dX4_copyFrom_96 : decode cX4_copyFrom 96 = .ok (.iconst 0, 1) := by decide +kernel
theorem dX4_copyFrom_97 : decode cX4_copyFrom 97 = .ok (.aload_n 0, 1) := by decide +kernel
theorem dX4_copyFrom_98 : decode cX4_copyFrom 98 = .ok (.getfield 38, 3) := by decide +kernel
theorem dX4_copyFrom_101 : decode cX4_copyFrom 101 = .ok (.iconst 0, 1) := by decide +kernel
theorem dX4_copyFrom_102 : decode cX4_copyFrom 102 = .ok (.bipush 10, 2) := by decide +kernel
theorem dX4_copyFrom_104 : decode cX4_copyFrom 104 = .ok (.invokestatic 50, 3) := by decide +kernel
theorem dX4_copyFrom_107 : decode cX4_copyFrom 107 = .ok (.aload_n 1, 1) := by decide +kernel
theorem dX4_copyFrom_108 : decode cX4_copyFrom 108 = .ok (.getfield 41, 3) := by decide +kernel
theorem dX4_copyFrom_111 : decode cX4_copyFrom 111 = .ok (.iconst 0, 1) := by decide +kernel
theorem dX4_copyFrom_112 : decode cX4_copyFrom 112 = .ok (.aload_n 0, 1) := by decide +kernel
theorem dX4_copyFrom_113 : decode cX4_copyFrom 113 = .ok (.getfield 41, 3) := by decide +kernel
theorem dX4_copyFrom_116 : decode cX4_copyFrom 116 = .ok (.iconst 0, 1) := by decide +kernel
theorem dX4_copyFrom_117 : decode cX4_copyFrom 117 = .ok (.bipush 10, 2) := by decide +kernel
theorem dX4_copyFrom_119 : decode cX4_copyFrom 119 = .ok (.invokestatic 50, 3) := by decide +kernel
theorem dX4_copyFrom_122 : decode cX4_copyFrom 122 = .ok (.return_, 1) := by decide +kernel
set_option maxRecDepth 20000 in
theorem ggX4_resize_X4_partAll : GoodIn wsX4_resize wsX4_partAll := goodIn_r _ [8, 9, 10, 11, 12, 13, 14, 15, 16, 17, 18, 19, 20, 21, 22, 23, 24, 25] (by decide +kernel) (by decide +kernel)
set_option maxRecDepth 20000 in
theorem gX4_resize_X4_partAll : GoodIn wsX4_resize (wsV RX4 56 RX4 yX4_partAll wsX4_partAll) := goodIn_app (goodIn_of _ (by decide +kernel)) ggX4_resize_X4_partAll
theorem dX4_resize_0 : decode cX4_resize 0 = .ok (.aload_n 0, 1) := by decide +kernel
theorem dX4_resize_1 : decode cX4_resize 1 = .ok (.iload_n 1, 1) := by decide +kernel
theorem dX4_resize_2 : decode cX4_resize 2 = .ok (.putfield 9, 3) := by decide +kernel
theorem dX4_resize_5 : decode cX4_resize 5 = .ok (.aload_n 0, 1) := by decide +kernel
theorem dX4_resize_6 : decode cX4_resize 6 = .ok (.iload_n 2, 1) := by decide +kernel
theorem dX4_resize_7 : decode cX4_resize 7 = .ok (.putfield 15, 3) := by decide +kernel
theorem dX4_resize_10 : decode cX4_resize 10 = .ok (.aload_n 0, 1) := by decide +kernel
theorem dX4_resize_11 : decode cX4_resize 11 = .ok (.iconst 0, 1) := by decide +kernel
theorem dX4_resize_12 : decode cX4_resize 12 = .ok (.putfield 18, 3) := by decide +kernel
theorem dX4_resize_15 : decode cX4_resize 15 = .ok (.aload_n 0, 1) := by decide +kernel
theorem dX4_resize_16 : decode cX4_resize 16 = .ok (.invokevirtual 56, 3) := by decide +kernel
theorem dX4_resize_19 : decode cX4_resize 19 = .ok (.return_, 1) := by decide +kernel
theorem dX4_hasTerm_0 : decode cX4_hasTerm 0 = .ok (.iload_n 1, 1) := by decide +kernel
theorem dX4_hasTerm_1 : decode cX4_hasTerm 1 = .ok (.ifCond .lt 15, 3) := by decide +kernel
theorem dX4_hasTerm_4 : decode cX4_hasTerm 4 = .ok (.iload_n 1, 1) := by decide +kernel
theorem dX4_hasTerm_5 : decode cX4_hasTerm 5 = .ok (.aload_n 0, 1) := by decide +kernel
theorem dX4_hasTerm_6 : decode cX4_hasTerm 6 = .ok (.getfield 18, 3) := by decide +kernel
theorem dX4_hasTerm_9 : decode cX4_hasTerm 9 = .ok (.if_icmp .ge 7, 3) := by decide +kernel
theorem dX4_hasTerm_12 : decode cX4_hasTerm 12 = .ok (.iconst 1, 1) := by decide +kernel
theorem dX4_hasTerm_13 : decode cX4_hasTerm 13 = .ok (.goto 4, 3) := by decide +kernel
theorem dX4_hasTerm_16 : decode cX4_hasTerm 16 = .ok (.iconst 0, 1) := by decide +kernel
theorem dX4_hasTerm_17 : decode cX4_hasTerm 17 = .ok (.ireturn, 1) := by decide +kernel
theorem dX4_hasColumn_0 : decode cX4_hasColumn 0 = .ok (.iload_n 1, 1) := by decide +kernel
theorem dX4_hasColumn_1 : decode cX4_hasColumn 1 = .ok (.bipush 6, 2) := by decide +kernel
theorem dX4_hasColumn_3 : decode cX4_hasColumn 3 = .ok (.if_icmp .ge 21, 3) := by decide +kernel
theorem dX4_hasColumn_6 : decode cX4_hasColumn 6 = .ok (.iload_n 1, 1) := by decide +kernel
theorem dX4_hasColumn_7 : decode cX4_hasColumn 7 = .ok (.ifCond .lt 15, 3) := by decide +kernel
theorem dX4_hasColumn_10 : decode cX4_hasColumn 10 = .ok (.iload_n 1, 1) := by decide +kernel
theorem dX4_hasColumn_11 : decode cX4_hasColumn 11 = .ok (.aload_n 0, 1) := by decide +kernel
theorem dX4_hasColumn_12 : decode cX4_hasColumn 12 = .ok (.getfield 9, 3) := by decide +kernel
theorem dX4_hasColumn_15 : decode cX4_hasColumn 15 = .ok (.if_icmp .ge 7, 3) := by decide +kernel
theorem dX4_hasColumn_18 : decode cX4_hasColumn 18 = .ok (.iconst 1, 1) := by decide +kernel
theorem dX4_hasColumn_19 : decode cX4_hasColumn 19 = .ok (.goto 4, 3) := by decide +kernel
theorem dX4_hasColumn_22 : decode cX4_hasColumn 22 = .ok (.iconst 0, 1) := by decide +kernel
theorem dX4_hasColumn_23 : decode cX4_hasColumn 23 = .ok (.ireturn, 1) := by decide +kernel
theorem dX4_hasColumn_24 : decode cX4_hasColumn 24 = .ok (.iload_n 1, 1) := by decide +kernel
theorem dX4_hasColumn_25 : decode cX4_hasColumn 25 = .ok (.bipush 6, 2) := by decide +kernel
theorem dX4_hasColumn_27 : decode cX4_hasColumn 27 = .ok (.isub, 1) := by decide +kernel
theorem dX4_hasColumn_28 : decode cX4_hasColumn 28 = .ok (.aload_n 0, 1) := by decide +kernel
theorem dX4_hasColumn_29 : decode cX4_hasColumn 29 = .ok (.getfield 15, 3) := by decide +kernel
theorem dX4_hasColumn_32 : decode cX4_hasColumn 32 = .ok (.if_icmp .ge 7, 3) := by decide +kernel
theorem dX4_hasColumn_35 : decode cX4_hasColumn 35 = .ok (.iconst 1, 1) := by decide +kernel
theorem dX4_hasColumn_36 : decode cX4_hasColumn 36 = .ok (.goto 4, 3) := by decide +kernel
theorem dX4_hasColumn_39 : decode cX4_hasColumn 39 = .ok (.iconst 0, 1) := by decide +kernel
theorem dX4_hasColumn_40 : decode cX4_hasColumn 40 = .ok (.ireturn, 1) := by decide +kernel
theorem dX4_takesTerm_0 : decode cX4_takesTerm 0 = .ok (.iload_n 1, 1) := by decide +kernel
theorem dX4_takesTerm_1 : decode cX4_takesTerm 1 = .ok (.iload_n 2, 1) := by decide +kernel
theorem dX4_takesTerm_2 : decode cX4_takesTerm 2 = .ok (.ior, 1) := by decide +kernel
theorem dX4_takesTerm_3 : decode cX4_takesTerm 3 = .ok (.aload_n 0, 1) := by decide +kernel
theorem dX4_takesTerm_4 : decode cX4_takesTerm 4 = .ok (.getfield 9, 3) := by decide +kernel
theorem dX4_takesTerm_7 : decode cX4_takesTerm 7 = .ok (.iushr, 1) := by decide +kernel
theorem dX4_takesTerm_8 : decode cX4_takesTerm 8 = .ok (.ifCond .ne 7, 3) := by decide +kernel
theorem dX4_takesTerm_11 : decode cX4_takesTerm 11 = .ok (.iconst 1, 1) := by decide +kernel
theorem dX4_takesTerm_12 : decode cX4_takesTerm 12 = .ok (.goto 4, 3) := by decide +kernel
theorem dX4_takesTerm_15 : decode cX4_takesTerm 15 = .ok (.iconst 0, 1) := by decide +kernel
theorem dX4_takesTerm_16 : decode cX4_takesTerm 16 = .ok (.istore 4, 2) := by decide +kernel
theorem dX4_takesTerm_18 : decode cX4_takesTerm 18 = .ok (.iload_n 3, 1) := by decide +kernel
theorem dX4_takesTerm_19 : decode cX4_takesTerm 19 = .ok (.aload_n 0, 1) := by decide +kernel
theorem dX4_takesTerm_20 : decode cX4_takesTerm 20 = .ok (.getfield 15, 3) := by decide +kernel
theorem dX4_takesTerm_23 : decode cX4_takesTerm 23 = .ok (.iushr, 1) := by decide +kernel
theorem dX4_takesTerm_24 : decode cX4_takesTerm 24 = .ok (.ifCond .ne 7, 3) := by decide +kernel
theorem dX4_takesTerm_27 : decode cX4_takesTerm 27 = .ok (.iconst 1, 1) := by decide +kernel
theorem dX4_takesTerm_28 : decode cX4_takesTerm 28 = .ok (.goto 4, 3) := by decide +kernel
theorem dX4_takesTerm_31 : decode cX4_takesTerm 31 = .ok (.iconst 0, 1) := by decide +kernel
theorem dX4_takesTerm_32 : decode cX4_takesTerm 32 = .ok (.istore 5, 2) := by decide +kernel
theorem dX4_takesTerm_34 : decode cX4_takesTerm 34 = .ok (.iload 4, 2) := by decide +kernel
theorem dX4_takesTerm_36 : decode cX4_takesTerm 36 = .ok (.ifCond .eq 22, 3) := by decide +kernel
theorem dX4_takesTerm_39 : decode cX4_takesTerm 39 = .ok (.iload 5, 2) := by decide +kernel
theorem dX4_takesTerm_41 : decode cX4_takesTerm 41 = .ok (.ifCond .eq 17, 3) := by decide +kernel
theorem dX4_takesTerm_44 : decode cX4_takesTerm 44 = .ok (.iload_n 1, 1) := by decide +kernel
theorem dX4_takesTerm_45 : decode cX4_takesTerm 45 = .ok (.iload_n 2, 1) := by decide +kernel
theorem dX4_takesTerm_46 : decode cX4_takesTerm 46 = .ok (.iand, 1) := by decide +kernel
theorem dX4_takesTerm_47 : decode cX4_takesTerm 47 = .ok (.ifCond .ne 11, 3) := by decide +kernel
theorem dX4_takesTerm_50 : decode cX4_takesTerm 50 = .ok (.iload_n 3, 1) := by decide +kernel
theorem dX4_takesTerm_51 : decode cX4_takesTerm 51 = .ok (.ifCond .eq 7, 3) := by decide +kernel
theorem dX4_takesTerm_54 : decode cX4_takesTerm 54 = .ok (.iconst 1, 1) := by decide +kernel
theorem dX4_takesTerm_55 : decode cX4_takesTerm 55 = .ok (.goto 4, 3) := by decide +kernel
theorem dX4_takesTerm_58 : decode cX4_takesTerm 58 = .ok (.iconst 0, 1) := by decide +kernel
theorem dX4_takesTerm_59 : decode cX4_takesTerm 59 = .ok (.ireturn, 1) := by decide +kernel
set_option maxRecDepth 20000 in
theorem ggX4_appendTerm_X4_wordsOfTerm : GoodIn wsX4_appendTerm wsX4_wordsOfTerm := goodIn_r _ [10, 11, 12, 13, 14, 15, 9, 16, 17, 18, 19, 31, 32, 33, 34, 35, 36, 37, 38, 39, 40] (by decide +kernel) (by decide +kernel)
set_option maxRecDepth 20000 in
theorem gX4_appendTerm_X4_wordsOfTerm : GoodIn wsX4_appendTerm (wsV RX4 59 RX4 yX4_wordsOfTerm wsX4_wordsOfTerm) := goodIn_app (goodIn_of _ (by decide +kernel)) ggX4_appendTerm_X4_wordsOfTerm
set_option maxRecDepth 20000 in
theorem ggX4_appendTerm_X4_partAll : GoodIn wsX4_appendTerm wsX4_partAll := goodIn_r _ [23, 24, 25, 26, 27, 28, 29, 30, 31, 32, 33, 34, 35, 36, 37, 38, 39, 40] (by decide +kernel) (by decide +kernel)
set_option maxRecDepth 20000 in
theorem gX4_appendTerm_X4_partAll : GoodIn wsX4_appendTerm (wsV RX4 56 RX4 yX4_partAll wsX4_partAll) := goodIn_app (goodIn_of _ (by decide +kernel)) ggX4_appendTerm_X4_partAll
theorem dX4_appendTerm_0 : decode cX4_appendTerm 0 = .ok (.aload_n 0, 1) := by decide +kernel
theorem dX4_appendTerm_1 : decode cX4_appendTerm 1 = .ok (.getfield 18, 3) := by decide +kernel
theorem dX4_appendTerm_4 : decode cX4_appendTerm 4 = .ok (.bipush 10, 2) := by decide +kernel
theorem dX4_appendTerm_6 : decode cX4_appendTerm 6 = .ok (.if_icmp .lt 4, 3) := by decide +kernel
theorem dX4_appendTerm_9 : decode cX4_appendTerm 9 = .ok (.return_, 1) := by decide +kernel
theorem dX4_appendTerm_10 : decode cX4_appendTerm 10 = .ok (.aload_n 0, 1) := by decide +kernel
theorem dX4_appendTerm_11 : decode cX4_appendTerm 11 = .ok (.getfield 24, 3) := by decide +kernel
theorem dX4_appendTerm_14 : decode cX4_appendTerm 14 = .ok (.aload_n 0, 1) := by decide +kernel
theorem dX4_appendTerm_15 : decode cX4_appendTerm 15 = .ok (.getfield 18, 3) := by decide +kernel
theorem dX4_appendTerm_18 : decode cX4_appendTerm 18 = .ok (.iload_n 1, 1) := by decide +kernel
theorem dX4_appendTerm_19 : decode cX4_appendTerm 19 = .ok (.iastore, 1) := by decide +kernel
theorem dX4_appendTerm_20 : decode cX4_appendTerm 20 = .ok (.aload_n 0, 1) := by decide +kernel
theorem dX4_appendTerm_21 : decode cX4_appendTerm 21 = .ok (.getfield 28, 3) := by decide +kernel
theorem dX4_appendTerm_24 : decode cX4_appendTerm 24 = .ok (.aload_n 0, 1) := by decide +kernel
theorem dX4_appendTerm_25 : decode cX4_appendTerm 25 = .ok (.getfield 18, 3) := by decide +kernel
theorem dX4_appendTerm_28 : decode cX4_appendTerm 28 = .ok (.iload_n 2, 1) := by decide +kernel
theorem dX4_appendTerm_29 : decode cX4_appendTerm 29 = .ok (.iastore, 1) := by decide +kernel
theorem dX4_appendTerm_30 : decode cX4_appendTerm 30 = .ok (.aload_n 0, 1) := by decide +kernel
theorem dX4_appendTerm_31 : decode cX4_appendTerm 31 = .ok (.getfield 31, 3) := by decide +kernel
theorem dX4_appendTerm_34 : decode cX4_appendTerm 34 = .ok (.aload_n 0, 1) := by decide +kernel
theorem dX4_appendTerm_35 : decode cX4_appendTerm 35 = .ok (.getfield 18, 3) := by decide +kernel
theorem dX4_appendTerm_38 : decode cX4_appendTerm 38 = .ok (.iload_n 3, 1) := by decide +kernel
theorem dX4_appendTerm_39 : decode cX4_appendTerm 39 = .ok (.iastore, 1) := by decide +kernel
theorem dX4_appendTerm_40 : decode cX4_appendTerm 40 = .ok (.aload_n 0, 1) := by decide +kernel
theorem dX4_appendTerm_41 : decode cX4_appendTerm 41 = .ok (.getfield 34, 3) := by decide +kernel
theorem dX4_appendTerm_44 : decode cX4_appendTerm 44 = .ok (.aload_n 0, 1) := by decide +kernel
theorem dX4_appendTerm_45 : decode cX4_appendTerm 45 = .ok (.getfield 18, 3) := by decide +kernel
theorem dX4_appendTerm_48 : decode cX4_appendTerm 48 = .ok (.aload_n 0, 1) := by decide +kernel
theorem dX4_appendTerm_49 : decode cX4_appendTerm 49 = .ok (.iload_n 1, 1) := by decide +kernel
theorem dX4_appendTerm_50 : decode cX4_appendTerm 50 = .ok (.iload_n 2, 1) := by decide +kernel
theorem dX4_appendTerm_51 : decode cX4_appendTerm 51 = .ok (.invokevirtual 59, 3) := by decide +kernel
theorem dX4_appendTerm_54 : decode cX4_appendTerm 54 = .ok (.lastore, 1) := by decide +kernel
theorem dX4_appendTerm_55 : decode cX4_appendTerm 55 = .ok (.aload_n 0, 1) := by decide +kernel
theorem dX4_appendTerm_56 : decode cX4_appendTerm 56 = .ok (.dup, 1) := by decide +kernel
theorem dX4_appendTerm_57 : decode cX4_appendTerm 57 = .ok (.getfield 18, 3) := by decide +kernel
theorem dX4_appendTerm_60 : decode cX4_appendTerm 60 = .ok (.iconst 1, 1) := by decide +kernel
theorem dX4_appendTerm_61 : decode cX4_appendTerm 61 = .ok (.iadd, 1) := by decide +kernel
theorem dX4_appendTerm_62 : decode cX4_appendTerm 62 = .ok (.putfield 18, 3) := by decide +kernel
theorem dX4_appendTerm_65 : decode cX4_appendTerm 65 = .ok (.aload_n 0, 1) := by decide +kernel
theorem dX4_appendTerm_66 : decode cX4_appendTerm 66 = .ok (.invokevirtual 56, 3) := by decide +kernel
theorem dX4_appendTerm_69 : decode cX4_appendTerm 69 = .ok (.return_, 1) := by decide +kernel
set_option maxRecDepth 20000 in
theorem ggX4_wordsOfTerm_X4_allWords : GoodIn wsX4_wordsOfTerm wsX4_allWords := goodIn_r _ [7, 1, 2, 11, 12, 13, 14, 15, 16, 17, 18, 19, 20] (by decide +kernel) (by decide +kernel)
set_option maxRecDepth 20000 in
theorem gX4_wordsOfTerm_X4_allWords : GoodIn wsX4_wordsOfTerm (wsV RX4 63 RX4 yX4_allWords wsX4_allWords) := goodIn_app (goodIn_of _ (by decide +kernel)) ggX4_wordsOfTerm_X4_allWords
set_option maxRecDepth 20000 in
theorem ggX4_wordsOfTerm_X5_contains : GoodIn wsX4_wordsOfTerm wsX5_contains := goodIn_r _ [10] (by decide +kernel) (by decide +kernel)
set_option maxRecDepth 20000 in
theorem gX4_wordsOfTerm_X5_contains_n67 : GoodIn wsX4_wordsOfTerm (wsX5_contains) := ggX4_wordsOfTerm_X5_contains
theorem dX4_wordsOfTerm_0 : decode cX4_wordsOfTerm 0 = .ok (.aload_n 0, 1) := by decide +kernel
theorem dX4_wordsOfTerm_1 : decode cX4_wordsOfTerm 1 = .ok (.invokevirtual 63, 3) := by decide +kernel
theorem dX4_wordsOfTerm_4 : decode cX4_wordsOfTerm 4 = .ok (.lstore_n 3, 1) := by decide +kernel
theorem dX4_wordsOfTerm_5 : decode cX4_wordsOfTerm 5 = .ok (.iconst 0, 1) := by decide +kernel
theorem dX4_wordsOfTerm_6 : decode cX4_wordsOfTerm 6 = .ok (.istore 5, 2) := by decide +kernel
theorem dX4_wordsOfTerm_8 : decode cX4_wordsOfTerm 8 = .ok (.iload 5, 2) := by decide +kernel
theorem dX4_wordsOfTerm_10 : decode cX4_wordsOfTerm 10 = .ok (.aload_n 0, 1) := by decide +kernel
theorem dX4_wordsOfTerm_11 : decode cX4_wordsOfTerm 11 = .ok (.getfield 9, 3) := by decide +kernel
theorem dX4_wordsOfTerm_14 : decode cX4_wordsOfTerm 14 = .ok (.if_icmp .ge 49, 3) := by decide +kernel
theorem dX4_wordsOfTerm_17 : decode cX4_wordsOfTerm 17 = .ok (.iload_n 1, 1) := by decide +kernel
theorem dX4_wordsOfTerm_18 : decode cX4_wordsOfTerm 18 = .ok (.iload 5, 2) := by decide +kernel
theorem dX4_wordsOfTerm_20 : decode cX4_wordsOfTerm 20 = .ok (.invokestatic 67, 3) := by decide +kernel
theorem dX4_wordsOfTerm_23 : decode cX4_wordsOfTerm 23 = .ok (.ifCond .eq 12, 3) := by decide +kernel
theorem dX4_wordsOfTerm_26 : decode cX4_wordsOfTerm 26 = .ok (.lload_n 3, 1) := by decide +kernel
theorem dX4_wordsOfTerm_27 : decode cX4_wordsOfTerm 27 = .ok (.getstatic 71, 3) := by decide +kernel
theorem dX4_wordsOfTerm_30 : decode cX4_wordsOfTerm 30 = .ok (.iload 5, 2) := by decide +kernel
theorem dX4_wordsOfTerm_32 : decode cX4_wordsOfTerm 32 = .ok (.laload, 1) := by decide +kernel
theorem dX4_wordsOfTerm_33 : decode cX4_wordsOfTerm 33 = .ok (.land, 1) := by decide +kernel
theorem dX4_wordsOfTerm_34 : decode cX4_wordsOfTerm 34 = .ok (.lstore_n 3, 1) := by decide +kernel
theorem dX4_wordsOfTerm_35 : decode cX4_wordsOfTerm 35 = .ok (.iload_n 2, 1) := by decide +kernel
theorem dX4_wordsOfTerm_36 : decode cX4_wordsOfTerm 36 = .ok (.iload 5, 2) := by decide +kernel
theorem dX4_wordsOfTerm_38 : decode cX4_wordsOfTerm 38 = .ok (.invokestatic 67, 3) := by decide +kernel
theorem dX4_wordsOfTerm_41 : decode cX4_wordsOfTerm 41 = .ok (.ifCond .eq 16, 3) := by decide +kernel
theorem dX4_wordsOfTerm_44 : decode cX4_wordsOfTerm 44 = .ok (.lload_n 3, 1) := by decide +kernel
theorem dX4_wordsOfTerm_45 : decode cX4_wordsOfTerm 45 = .ok (.getstatic 71, 3) := by decide +kernel
theorem dX4_wordsOfTerm_48 : decode cX4_wordsOfTerm 48 = .ok (.iload 5, 2) := by decide +kernel
theorem dX4_wordsOfTerm_50 : decode cX4_wordsOfTerm 50 = .ok (.laload, 1) := by decide +kernel
theorem dX4_wordsOfTerm_51 : decode cX4_wordsOfTerm 51 = .ok (.ldc2_w 74, 3) := by decide +kernel
theorem dX4_wordsOfTerm_54 : decode cX4_wordsOfTerm 54 = .ok (.lxor, 1) := by decide +kernel
theorem dX4_wordsOfTerm_55 : decode cX4_wordsOfTerm 55 = .ok (.land, 1) := by decide +kernel
theorem dX4_wordsOfTerm_56 : decode cX4_wordsOfTerm 56 = .ok (.lstore_n 3, 1) := by decide +kernel
theorem dX4_wordsOfTerm_57 : decode cX4_wordsOfTerm 57 = .ok (.iinc 5 1, 3) := by decide +kernel
theorem dX4_wordsOfTerm_60 : decode cX4_wordsOfTerm 60 = .ok (.goto (-52), 3) := by decide +kernel
theorem dX4_wordsOfTerm_63 : decode cX4_wordsOfTerm 63 = .ok (.lload_n 3, 1) := by decide +kernel
theorem dX4_wordsOfTerm_64 : decode cX4_wordsOfTerm 64 = .ok (.lreturn, 1) := by decide +kernel
theorem dX4_allWords_0 : decode cX4_allWords 0 = .ok (.aload_n 0, 1) := by decide +kernel
theorem dX4_allWords_1 : decode cX4_allWords 1 = .ok (.getfield 9, 3) := by decide +kernel
theorem dX4_allWords_4 : decode cX4_allWords 4 = .ok (.bipush 6, 2) := by decide +kernel
theorem dX4_allWords_6 : decode cX4_allWords 6 = .ok (.if_icmp .ne 9, 3) := by decide +kernel
theorem dX4_allWords_9 : decode cX4_allWords 9 = .ok (.ldc2_w 74, 3) := by decide +kernel
theorem dX4_allWords_12 : decode cX4_allWords 12 = .ok (.goto 13, 3) := by decide +kernel
theorem dX4_allWords_15 : decode cX4_allWords 15 = .ok (.lconst 1, 1) := by decide +kernel
theorem dX4_allWords_16 : decode cX4_allWords 16 = .ok (.iconst 1, 1) := by decide +kernel
theorem dX4_allWords_17 : decode cX4_allWords 17 = .ok (.aload_n 0, 1) := by decide +kernel
theorem dX4_allWords_18 : decode cX4_allWords 18 = .ok (.getfield 9, 3) := by decide +kernel
theorem dX4_allWords_21 : decode cX4_allWords 21 = .ok (.ishl, 1) := by decide +kernel
theorem dX4_allWords_22 : decode cX4_allWords 22 = .ok (.lshl, 1) := by decide +kernel
theorem dX4_allWords_23 : decode cX4_allWords 23 = .ok (.lconst 1, 1) := by decide +kernel
theorem dX4_allWords_24 : decode cX4_allWords 24 = .ok (.lsub, 1) := by decide +kernel
theorem dX4_allWords_25 : decode cX4_allWords 25 = .ok (.lreturn, 1) := by decide +kernel
set_option maxRecDepth 20000 in
theorem ggX4_dropTerm_X4_partAll : GoodIn wsX4_dropTerm wsX4_partAll := goodIn_r _ [10, 11, 12, 13, 14, 15, 16, 17, 18, 19, 20, 21, 22, 23, 24, 25, 26, 27] (by decide +kernel) (by decide +kernel)
set_option maxRecDepth 20000 in
theorem gX4_dropTerm_X4_partAll : GoodIn wsX4_dropTerm (wsV RX4 56 RX4 yX4_partAll wsX4_partAll) := goodIn_app (goodIn_of _ (by decide +kernel)) ggX4_dropTerm_X4_partAll
theorem dX4_dropTerm_0 : decode cX4_dropTerm 0 = .ok (.iload_n 1, 1) := by decide +kernel
theorem dX4_dropTerm_1 : decode cX4_dropTerm 1 = .ok (.iconst 1, 1) := by decide +kernel
theorem dX4_dropTerm_2 : decode cX4_dropTerm 2 = .ok (.iadd, 1) := by decide +kernel
theorem dX4_dropTerm_3 : decode cX4_dropTerm 3 = .ok (.istore_n 2, 1) := by decide +kernel
theorem dX4_dropTerm_4 : decode cX4_dropTerm 4 = .ok (.iload_n 2, 1) := by decide +kernel
theorem dX4_dropTerm_5 : decode cX4_dropTerm 5 = .ok (.aload_n 0, 1) := by decide +kernel
theorem dX4_dropTerm_6 : decode cX4_dropTerm 6 = .ok (.getfield 18, 3) := by decide +kernel
theorem dX4_dropTerm_9 : decode cX4_dropTerm 9 = .ok (.if_icmp .ge 65, 3) := by decide +kernel
theorem dX4_dropTerm_12 : decode cX4_dropTerm 12 = .ok (.aload_n 0, 1) := by decide +kernel
theorem dX4_dropTerm_13 : decode cX4_dropTerm 13 = .ok (.getfield 24, 3) := by decide +kernel
theorem dX4_dropTerm_16 : decode cX4_dropTerm 16 = .ok (.iload_n 2, 1) := by decide +kernel
theorem dX4_dropTerm_17 : decode cX4_dropTerm 17 = .ok (.iconst 1, 1) := by decide +kernel
theorem dX4_dropTerm_18 : decode cX4_dropTerm 18 = .ok (.isub, 1) := by decide +kernel
theorem dX4_dropTerm_19 : decode cX4_dropTerm 19 = .ok (.aload_n 0, 1) := by decide +kernel
theorem dX4_dropTerm_20 : decode cX4_dropTerm 20 = .ok (.getfield 24, 3) := by decide +kernel
theorem dX4_dropTerm_23 : decode cX4_dropTerm 23 = .ok (.iload_n 2, 1) := by decide +kernel
theorem dX4_dropTerm_24 : decode cX4_dropTerm 24 = .ok (.iaload, 1) := by decide +kernel
theorem dX4_dropTerm_25 : decode cX4_dropTerm 25 = .ok (.iastore, 1) := by decide +kernel
theorem dX4_dropTerm_26 : decode cX4_dropTerm 26 = .ok (.aload_n 0, 1) := by decide +kernel
theorem dX4_dropTerm_27 : decode cX4_dropTerm 27 = .ok (.getfield 28, 3) := by decide +kernel
theorem dX4_dropTerm_30 : decode cX4_dropTerm 30 = .ok (.iload_n 2, 1) := by decide +kernel
theorem dX4_dropTerm_31 : decode cX4_dropTerm 31 = .ok (.iconst 1, 1) := by decide +kernel
theorem dX4_dropTerm_32 : decode cX4_dropTerm 32 = .ok (.isub, 1) := by decide +kernel
theorem dX4_dropTerm_33 : decode cX4_dropTerm 33 = .ok (.aload_n 0, 1) := by decide +kernel
theorem dX4_dropTerm_34 : decode cX4_dropTerm 34 = .ok (.getfield 28, 3) := by decide +kernel
theorem dX4_dropTerm_37 : decode cX4_dropTerm 37 = .ok (.iload_n 2, 1) := by decide +kernel
theorem dX4_dropTerm_38 : decode cX4_dropTerm 38 = .ok (.iaload, 1) := by decide +kernel
theorem dX4_dropTerm_39 : decode cX4_dropTerm 39 = .ok (.iastore, 1) := by decide +kernel
theorem dX4_dropTerm_40 : decode cX4_dropTerm 40 = .ok (.aload_n 0, 1) := by decide +kernel
theorem dX4_dropTerm_41 : decode cX4_dropTerm 41 = .ok (.getfield 31, 3) := by decide +kernel
theorem dX4_dropTerm_44 : decode cX4_dropTerm 44 = .ok (.iload_n 2, 1) := by decide +kernel
theorem dX4_dropTerm_45 : decode cX4_dropTerm 45 = .ok (.iconst 1, 1) := by decide +kernel
theorem dX4_dropTerm_46 : decode cX4_dropTerm 46 = .ok (.isub, 1) := by decide +kernel
theorem dX4_dropTerm_47 : decode cX4_dropTerm 47 = .ok (.aload_n 0, 1) := by decide +kernel
theorem dX4_dropTerm_48 : decode cX4_dropTerm 48 = .ok (.getfield 31, 3) := by decide +kernel
theorem dX4_dropTerm_51 : decode cX4_dropTerm 51 = .ok (.iload_n 2, 1) := by decide +kernel
theorem dX4_dropTerm_52 : decode cX4_dropTerm 52 = .ok (.iaload, 1) := by decide +kernel
theorem dX4_dropTerm_53 : decode cX4_dropTerm 53 = .ok (.iastore, 1) := by decide +kernel
theorem dX4_dropTerm_54 : decode cX4_dropTerm 54 = .ok (.aload_n 0, 1) := by decide +kernel
theorem dX4_dropTerm_55 : decode cX4_dropTerm 55 = .ok (.getfield 34, 3) := by decide +kernel
theorem dX4_dropTerm_58 : decode cX4_dropTerm 58 = .ok (.iload_n 2, 1) := by decide +kernel
theorem dX4_dropTerm_59 : decode cX4_dropTerm 59 = .ok (.iconst 1, 1) := by decide +kernel
theorem dX4_dropTerm_60 : decode cX4_dropTerm 60 = .ok (.isub, 1) := by decide +kernel
theorem dX4_dropTerm_61 : decode cX4_dropTerm 61 = .ok (.aload_n 0, 1) := by decide +kernel
theorem dX4_dropTerm_62 : decode cX4_dropTerm 62 = .ok (.getfield 34, 3) := by decide +kernel
theorem dX4_dropTerm_65 : decode cX4_dropTerm 65 = .ok (.iload_n 2, 1) := by decide +kernel
theorem dX4_dropTerm_66 : decode cX4_dropTerm 66 = .ok (.laload, 1) := by decide +kernel
theorem dX4_dropTerm_67 : decode cX4_dropTerm 67 = .ok (.lastore, 1) := by decide +kernel
theorem dX4_dropTerm_68 : decode cX4_dropTerm 68 = .ok (.iinc 2 1, 3) := by decide +kernel
theorem dX4_dropTerm_71 : decode cX4_dropTerm 71 = .ok (.goto (-67), 3) := by decide +kernel
theorem dX4_dropTerm_74 : decode cX4_dropTerm 74 = .ok (.aload_n 0, 1) := by decide +kernel
theorem dX4_dropTerm_75 : decode cX4_dropTerm 75 = .ok (.dup, 1) := by decide +kernel
theorem dX4_dropTerm_76 : decode cX4_dropTerm 76 = .ok (.getfield 18, 3) := by decide +kernel
theorem dX4_dropTerm_79 : decode cX4_dropTerm 79 = .ok (.iconst 1, 1) := by decide +kernel
theorem dX4_dropTerm_80 : decode cX4_dropTerm 80 = .ok (.isub, 1) := by decide +kernel
theorem dX4_dropTerm_81 : decode cX4_dropTerm 81 = .ok (.putfield 18, 3) := by decide +kernel
theorem dX4_dropTerm_84 : decode cX4_dropTerm 84 = .ok (.aload_n 0, 1) := by decide +kernel
theorem dX4_dropTerm_85 : decode cX4_dropTerm 85 = .ok (.invokevirtual 56, 3) := by decide +kernel
theorem dX4_dropTerm_88 : decode cX4_dropTerm 88 = .ok (.return_, 1) := by decide +kernel
theorem dX4_outputWord_0 : decode cX4_outputWord 0 = .ok (.iconst 0, 1) := by decide +kernel
theorem dX4_outputWord_1 : decode cX4_outputWord 1 = .ok (.istore_n 2, 1) := by decide +kernel
theorem dX4_outputWord_2 : decode cX4_outputWord 2 = .ok (.iconst 0, 1) := by decide +kernel
theorem dX4_outputWord_3 : decode cX4_outputWord 3 = .ok (.istore_n 3, 1) := by decide +kernel
theorem dX4_outputWord_4 : decode cX4_outputWord 4 = .ok (.iload_n 3, 1) := by decide +kernel
theorem dX4_outputWord_5 : decode cX4_outputWord 5 = .ok (.aload_n 0, 1) := by decide +kernel
theorem dX4_outputWord_6 : decode cX4_outputWord 6 = .ok (.getfield 18, 3) := by decide +kernel
theorem dX4_outputWord_9 : decode cX4_outputWord 9 = .ok (.if_icmp .ge 33, 3) := by decide +kernel
theorem dX4_outputWord_12 : decode cX4_outputWord 12 = .ok (.aload_n 0, 1) := by decide +kernel
theorem dX4_outputWord_13 : decode cX4_outputWord 13 = .ok (.getfield 34, 3) := by decide +kernel
theorem dX4_outputWord_16 : decode cX4_outputWord 16 = .ok (.iload_n 3, 1) := by decide +kernel
theorem dX4_outputWord_17 : decode cX4_outputWord 17 = .ok (.laload, 1) := by decide +kernel
theorem dX4_outputWord_18 : decode cX4_outputWord 18 = .ok (.iload_n 1, 1) := by decide +kernel
theorem dX4_outputWord_19 : decode cX4_outputWord 19 = .ok (.lushr, 1) := by decide +kernel
theorem dX4_outputWord_20 : decode cX4_outputWord 20 = .ok (.lconst 1, 1) := by decide +kernel
theorem dX4_outputWord_21 : decode cX4_outputWord 21 = .ok (.land, 1) := by decide +kernel
theorem dX4_outputWord_22 : decode cX4_outputWord 22 = .ok (.lconst 1, 1) := by decide +kernel
theorem dX4_outputWord_23 : decode cX4_outputWord 23 = .ok (.lcmp, 1) := by decide +kernel
theorem dX4_outputWord_24 : decode cX4_outputWord 24 = .ok (.ifCond .ne 12, 3) := by decide +kernel
theorem dX4_outputWord_27 : decode cX4_outputWord 27 = .ok (.iload_n 2, 1) := by decide +kernel
theorem dX4_outputWord_28 : decode cX4_outputWord 28 = .ok (.aload_n 0, 1) := by decide +kernel
theorem dX4_outputWord_29 : decode cX4_outputWord 29 = .ok (.getfield 31, 3) := by decide +kernel
theorem dX4_outputWord_32 : decode cX4_outputWord 32 = .ok (.iload_n 3, 1) := by decide +kernel
theorem dX4_outputWord_33 : decode cX4_outputWord 33 = .ok (.iaload, 1) := by decide +kernel
theorem dX4_outputWord_34 : decode cX4_outputWord 34 = .ok (.ior, 1) := by decide +kernel
theorem dX4_outputWord_35 : decode cX4_outputWord 35 = .ok (.istore_n 2, 1) := by decide +kernel
theorem dX4_outputWord_36 : decode cX4_outputWord 36 = .ok (.iinc 3 1, 3) := by decide +kernel
theorem dX4_outputWord_39 : decode cX4_outputWord 39 = .ok (.goto (-35), 3) := by decide +kernel
theorem dX4_outputWord_42 : decode cX4_outputWord 42 = .ok (.iload_n 2, 1) := by decide +kernel
theorem dX4_outputWord_43 : decode cX4_outputWord 43 = .ok (.ireturn, 1) := by decide +kernel
set_option maxRecDepth 20000 in
theorem ggX4_wordsOfOutput_X5_contains : GoodIn wsX4_wordsOfOutput wsX5_contains := goodIn_r _ [6] (by decide +kernel) (by decide +kernel)
set_option maxRecDepth 20000 in
theorem gX4_wordsOfOutput_X5_contains_n67 : GoodIn wsX4_wordsOfOutput (wsX5_contains) := ggX4_wordsOfOutput_X5_contains
theorem dX4_wordsOfOutput_0 : decode cX4_wordsOfOutput 0 = .ok (.lconst 0, 1) := by decide +kernel
theorem dX4_wordsOfOutput_1 : decode cX4_wordsOfOutput 1 = .ok (.lstore_n 3, 1) := by decide +kernel
theorem dX4_wordsOfOutput_2 : decode cX4_wordsOfOutput 2 = .ok (.iconst 0, 1) := by decide +kernel
theorem dX4_wordsOfOutput_3 : decode cX4_wordsOfOutput 3 = .ok (.istore 5, 2) := by decide +kernel
theorem dX4_wordsOfOutput_5 : decode cX4_wordsOfOutput 5 = .ok (.iload 5, 2) := by decide +kernel
theorem dX4_wordsOfOutput_7 : decode cX4_wordsOfOutput 7 = .ok (.aload_n 0, 1) := by decide +kernel
theorem dX4_wordsOfOutput_8 : decode cX4_wordsOfOutput 8 = .ok (.getfield 18, 3) := by decide +kernel
theorem dX4_wordsOfOutput_11 : decode cX4_wordsOfOutput 11 = .ok (.if_icmp .ge 39, 3) := by decide +kernel
theorem dX4_wordsOfOutput_14 : decode cX4_wordsOfOutput 14 = .ok (.iload 5, 2) := by decide +kernel
theorem dX4_wordsOfOutput_16 : decode cX4_wordsOfOutput 16 = .ok (.iload_n 2, 1) := by decide +kernel
theorem dX4_wordsOfOutput_17 : decode cX4_wordsOfOutput 17 = .ok (.if_icmp .eq 27, 3) := by decide +kernel
theorem dX4_wordsOfOutput_20 : decode cX4_wordsOfOutput 20 = .ok (.aload_n 0, 1) := by decide +kernel
theorem dX4_wordsOfOutput_21 : decode cX4_wordsOfOutput 21 = .ok (.getfield 31, 3) := by decide +kernel
theorem dX4_wordsOfOutput_24 : decode cX4_wordsOfOutput 24 = .ok (.iload 5, 2) := by decide +kernel
theorem dX4_wordsOfOutput_26 : decode cX4_wordsOfOutput 26 = .ok (.iaload, 1) := by decide +kernel
theorem dX4_wordsOfOutput_27 : decode cX4_wordsOfOutput 27 = .ok (.iload_n 1, 1) := by decide +kernel
theorem dX4_wordsOfOutput_28 : decode cX4_wordsOfOutput 28 = .ok (.invokestatic 67, 3) := by decide +kernel
theorem dX4_wordsOfOutput_31 : decode cX4_wordsOfOutput 31 = .ok (.ifCond .eq 13, 3) := by decide +kernel
theorem dX4_wordsOfOutput_34 : decode cX4_wordsOfOutput 34 = .ok (.lload_n 3, 1) := by decide +kernel
theorem dX4_wordsOfOutput_35 : decode cX4_wordsOfOutput 35 = .ok (.aload_n 0, 1) := by decide +kernel
theorem dX4_wordsOfOutput_36 : decode cX4_wordsOfOutput 36 = .ok (.getfield 34, 3) := by decide +kernel
theorem dX4_wordsOfOutput_39 : decode cX4_wordsOfOutput 39 = .ok (.iload 5, 2) := by decide +kernel
theorem dX4_wordsOfOutput_41 : decode cX4_wordsOfOutput 41 = .ok (.laload, 1) := by decide +kernel
theorem dX4_wordsOfOutput_42 : decode cX4_wordsOfOutput 42 = .ok (.lor, 1) := by decide +kernel
theorem dX4_wordsOfOutput_43 : decode cX4_wordsOfOutput 43 = .ok (.lstore_n 3, 1) := by decide +kernel
theorem dX4_wordsOfOutput_44 : decode cX4_wordsOfOutput 44 = .ok (.iinc 5 1, 3) := by decide +kernel
theorem dX4_wordsOfOutput_47 : decode cX4_wordsOfOutput 47 = .ok (.goto (-42), 3) := by decide +kernel
theorem dX4_wordsOfOutput_50 : decode cX4_wordsOfOutput 50 = .ok (.lload_n 3, 1) := by decide +kernel
theorem dX4_wordsOfOutput_51 : decode cX4_wordsOfOutput 51 = .ok (.lreturn, 1) := by decide +kernel
set_option maxRecDepth 20000 in
theorem ggX4_isSpare_X5_contains : GoodIn wsX4_isSpare wsX5_contains := goodIn_r _ [7] (by decide +kernel) (by decide +kernel)
set_option maxRecDepth 20000 in
theorem gX4_isSpare_X5_contains_n67 : GoodIn wsX4_isSpare (wsX5_contains) := ggX4_isSpare_X5_contains
set_option maxRecDepth 20000 in
theorem ggX4_isSpare_X4_wordsOfOutput : GoodIn wsX4_isSpare wsX4_wordsOfOutput := goodIn_r _ [12, 13, 2, 3, 5, 6, 7, 14, 15, 16, 17, 18, 19, 20, 21, 22, 23] (by decide +kernel) (by decide +kernel)
set_option maxRecDepth 20000 in
theorem gX4_isSpare_X4_wordsOfOutput : GoodIn wsX4_isSpare (wsV RX4 76 RX4 yX4_wordsOfOutput wsX4_wordsOfOutput) := goodIn_app (goodIn_of _ (by decide +kernel)) ggX4_isSpare_X4_wordsOfOutput
theorem dX4_isSpare_0 : decode cX4_isSpare 0 = .ok (.iconst 0, 1) := by decide +kernel
theorem dX4_isSpare_1 : decode cX4_isSpare 1 = .ok (.istore_n 2, 1) := by decide +kernel
theorem dX4_isSpare_2 : decode cX4_isSpare 2 = .ok (.iload_n 2, 1) := by decide +kernel
theorem dX4_isSpare_3 : decode cX4_isSpare 3 = .ok (.aload_n 0, 1) := by decide +kernel
theorem dX4_isSpare_4 : decode cX4_isSpare 4 = .ok (.getfield 15, 3) := by decide +kernel
theorem dX4_isSpare_7 : decode cX4_isSpare 7 = .ok (.if_icmp .ge 46, 3) := by decide +kernel
theorem dX4_isSpare_10 : decode cX4_isSpare 10 = .ok (.aload_n 0, 1) := by decide +kernel
theorem dX4_isSpare_11 : decode cX4_isSpare 11 = .ok (.getfield 31, 3) := by decide +kernel
theorem dX4_isSpare_14 : decode cX4_isSpare 14 = .ok (.iload_n 1, 1) := by decide +kernel
theorem dX4_isSpare_15 : decode cX4_isSpare 15 = .ok (.iaload, 1) := by decide +kernel
theorem dX4_isSpare_16 : decode cX4_isSpare 16 = .ok (.iload_n 2, 1) := by decide +kernel
theorem dX4_isSpare_17 : decode cX4_isSpare 17 = .ok (.invokestatic 67, 3) := by decide +kernel
theorem dX4_isSpare_20 : decode cX4_isSpare 20 = .ok (.ifCond .eq 27, 3) := by decide +kernel
theorem dX4_isSpare_23 : decode cX4_isSpare 23 = .ok (.aload_n 0, 1) := by decide +kernel
theorem dX4_isSpare_24 : decode cX4_isSpare 24 = .ok (.getfield 34, 3) := by decide +kernel
theorem dX4_isSpare_27 : decode cX4_isSpare 27 = .ok (.iload_n 1, 1) := by decide +kernel
theorem dX4_isSpare_28 : decode cX4_isSpare 28 = .ok (.laload, 1) := by decide +kernel
theorem dX4_isSpare_29 : decode cX4_isSpare 29 = .ok (.aload_n 0, 1) := by decide +kernel
theorem dX4_isSpare_30 : decode cX4_isSpare 30 = .ok (.iload_n 2, 1) := by decide +kernel
theorem dX4_isSpare_31 : decode cX4_isSpare 31 = .ok (.iload_n 1, 1) := by decide +kernel
theorem dX4_isSpare_32 : decode cX4_isSpare 32 = .ok (.invokevirtual 76, 3) := by decide +kernel
theorem dX4_isSpare_35 : decode cX4_isSpare 35 = .ok (.ldc2_w 74, 3) := by decide +kernel
theorem dX4_isSpare_38 : decode cX4_isSpare 38 = .ok (.lxor, 1) := by decide +kernel
theorem dX4_isSpare_39 : decode cX4_isSpare 39 = .ok (.land, 1) := by decide +kernel
theorem dX4_isSpare_40 : decode cX4_isSpare 40 = .ok (.lconst 0, 1) := by decide +kernel
theorem dX4_isSpare_41 : decode cX4_isSpare 41 = .ok (.lcmp, 1) := by decide +kernel
theorem dX4_isSpare_42 : decode cX4_isSpare 42 = .ok (.ifCond .eq 5, 3) := by decide +kernel
theorem dX4_isSpare_45 : decode cX4_isSpare 45 = .ok (.iconst 0, 1) := by decide +kernel
theorem dX4_isSpare_46 : decode cX4_isSpare 46 = .ok (.ireturn, 1) := by decide +kernel
theorem dX4_isSpare_47 : decode cX4_isSpare 47 = .ok (.iinc 2 1, 3) := by decide +kernel
theorem dX4_isSpare_50 : decode cX4_isSpare 50 = .ok (.goto (-48), 3) := by decide +kernel
theorem dX4_isSpare_53 : decode cX4_isSpare 53 = .ok (.iconst 1, 1) := by decide +kernel
theorem dX4_isSpare_54 : decode cX4_isSpare 54 = .ok (.ireturn, 1) := by decide +kernel
set_option maxRecDepth 20000 in
theorem ggX4_termsOfColumn_X5_contains : GoodIn wsX4_termsOfColumn wsX5_contains := goodIn_r _ [7] (by decide +kernel) (by decide +kernel)
set_option maxRecDepth 20000 in
theorem gX4_termsOfColumn_X5_contains_n67 : GoodIn wsX4_termsOfColumn (wsX5_contains) := ggX4_termsOfColumn_X5_contains
theorem dX4_termsOfColumn_0 : decode cX4_termsOfColumn 0 = .ok (.iconst 0, 1) := by decide +kernel
theorem dX4_termsOfColumn_1 : decode cX4_termsOfColumn 1 = .ok (.istore_n 2, 1) := by decide +kernel
theorem dX4_termsOfColumn_2 : decode cX4_termsOfColumn 2 = .ok (.iconst 0, 1) := by decide +kernel
theorem dX4_termsOfColumn_3 : decode cX4_termsOfColumn 3 = .ok (.istore_n 3, 1) := by decide +kernel
theorem dX4_termsOfColumn_4 : decode cX4_termsOfColumn 4 = .ok (.iload_n 3, 1) := by decide +kernel
theorem dX4_termsOfColumn_5 : decode cX4_termsOfColumn 5 = .ok (.aload_n 0, 1) := by decide +kernel
theorem dX4_termsOfColumn_6 : decode cX4_termsOfColumn 6 = .ok (.getfield 18, 3) := by decide +kernel
theorem dX4_termsOfColumn_9 : decode cX4_termsOfColumn 9 = .ok (.if_icmp .ge 49, 3) := by decide +kernel
theorem dX4_termsOfColumn_12 : decode cX4_termsOfColumn 12 = .ok (.aload_n 0, 1) := by decide +kernel
theorem dX4_termsOfColumn_13 : decode cX4_termsOfColumn 13 = .ok (.getfield 24, 3) := by decide +kernel
theorem dX4_termsOfColumn_16 : decode cX4_termsOfColumn 16 = .ok (.iload_n 3, 1) := by decide +kernel
theorem dX4_termsOfColumn_17 : decode cX4_termsOfColumn 17 = .ok (.iaload, 1) := by decide +kernel
theorem dX4_termsOfColumn_18 : decode cX4_termsOfColumn 18 = .ok (.aload_n 0, 1) := by decide +kernel
theorem dX4_termsOfColumn_19 : decode cX4_termsOfColumn 19 = .ok (.getfield 28, 3) := by decide +kernel
theorem dX4_termsOfColumn_22 : decode cX4_termsOfColumn 22 = .ok (.iload_n 3, 1) := by decide +kernel
theorem dX4_termsOfColumn_23 : decode cX4_termsOfColumn 23 = .ok (.iaload, 1) := by decide +kernel
theorem dX4_termsOfColumn_24 : decode cX4_termsOfColumn 24 = .ok (.ior, 1) := by decide +kernel
theorem dX4_termsOfColumn_25 : decode cX4_termsOfColumn 25 = .ok (.aload_n 0, 1) := by decide +kernel
theorem dX4_termsOfColumn_26 : decode cX4_termsOfColumn 26 = .ok (.getfield 31, 3) := by decide +kernel
theorem dX4_termsOfColumn_29 : decode cX4_termsOfColumn 29 = .ok (.iload_n 3, 1) := by decide +kernel
theorem dX4_termsOfColumn_30 : decode cX4_termsOfColumn 30 = .ok (.iaload, 1) := by decide +kernel
theorem dX4_termsOfColumn_31 : decode cX4_termsOfColumn 31 = .ok (.bipush 6, 2) := by decide +kernel
theorem dX4_termsOfColumn_33 : decode cX4_termsOfColumn 33 = .ok (.ishl, 1) := by decide +kernel
theorem dX4_termsOfColumn_34 : decode cX4_termsOfColumn 34 = .ok (.ior, 1) := by decide +kernel
theorem dX4_termsOfColumn_35 : decode cX4_termsOfColumn 35 = .ok (.istore 4, 2) := by decide +kernel
theorem dX4_termsOfColumn_37 : decode cX4_termsOfColumn 37 = .ok (.iload 4, 2) := by decide +kernel
theorem dX4_termsOfColumn_39 : decode cX4_termsOfColumn 39 = .ok (.iload_n 1, 1) := by decide +kernel
theorem dX4_termsOfColumn_40 : decode cX4_termsOfColumn 40 = .ok (.invokestatic 67, 3) := by decide +kernel
theorem dX4_termsOfColumn_43 : decode cX4_termsOfColumn 43 = .ok (.ifCond .eq 9, 3) := by decide +kernel
theorem dX4_termsOfColumn_46 : decode cX4_termsOfColumn 46 = .ok (.iload_n 2, 1) := by decide +kernel
theorem dX4_termsOfColumn_47 : decode cX4_termsOfColumn 47 = .ok (.iconst 1, 1) := by decide +kernel
theorem dX4_termsOfColumn_48 : decode cX4_termsOfColumn 48 = .ok (.iload_n 3, 1) := by decide +kernel
theorem dX4_termsOfColumn_49 : decode cX4_termsOfColumn 49 = .ok (.ishl, 1) := by decide +kernel
theorem dX4_termsOfColumn_50 : decode cX4_termsOfColumn 50 = .ok (.ior, 1) := by decide +kernel
theorem dX4_termsOfColumn_51 : decode cX4_termsOfColumn 51 = .ok (.istore_n 2, 1) := by decide +kernel
theorem dX4_termsOfColumn_52 : decode cX4_termsOfColumn 52 = .ok (.iinc 3 1, 3) := by decide +kernel
theorem dX4_termsOfColumn_55 : decode cX4_termsOfColumn 55 = .ok (.goto (-51), 3) := by decide +kernel
theorem dX4_termsOfColumn_58 : decode cX4_termsOfColumn 58 = .ok (.iload_n 2, 1) := by decide +kernel
theorem dX4_termsOfColumn_59 : decode cX4_termsOfColumn 59 = .ok (.ireturn, 1) := by decide +kernel
set_option maxRecDepth 20000 in
theorem ggX4_isPair_X4_termsOfColumn : GoodIn wsX4_isPair wsX4_termsOfColumn := goodIn_r _ [5, 6, 7, 8, 9, 10, 11, 12, 13, 14, 15, 16, 17, 18, 19, 20, 21, 22] (by decide +kernel) (by decide +kernel)
set_option maxRecDepth 20000 in
theorem gX4_isPair_X4_termsOfColumn : GoodIn wsX4_isPair (wsV RX4 79 RX4 yX4_termsOfColumn wsX4_termsOfColumn) := goodIn_app (goodIn_of _ (by decide +kernel)) ggX4_isPair_X4_termsOfColumn
theorem dX4_isPair_0 : decode cX4_isPair 0 = .ok (.iload_n 1, 1) := by decide +kernel
theorem dX4_isPair_1 : decode cX4_isPair 1 = .ok (.bipush 6, 2) := by decide +kernel
theorem dX4_isPair_3 : decode cX4_isPair 3 = .ok (.if_icmp .ge 7, 3) := by decide +kernel
theorem dX4_isPair_6 : decode cX4_isPair 6 = .ok (.iconst 1, 1) := by decide +kernel
theorem dX4_isPair_7 : decode cX4_isPair 7 = .ok (.goto 4, 3) := by decide +kernel
theorem dX4_isPair_10 : decode cX4_isPair 10 = .ok (.iconst 0, 1) := by decide +kernel
theorem dX4_isPair_11 : decode cX4_isPair 11 = .ok (.iload_n 2, 1) := by decide +kernel
theorem dX4_isPair_12 : decode cX4_isPair 12 = .ok (.bipush 6, 2) := by decide +kernel
theorem dX4_isPair_14 : decode cX4_isPair 14 = .ok (.if_icmp .ge 7, 3) := by decide +kernel
theorem dX4_isPair_17 : decode cX4_isPair 17 = .ok (.iconst 1, 1) := by decide +kernel
theorem dX4_isPair_18 : decode cX4_isPair 18 = .ok (.goto 4, 3) := by decide +kernel
theorem dX4_isPair_21 : decode cX4_isPair 21 = .ok (.iconst 0, 1) := by decide +kernel
theorem dX4_isPair_22 : decode cX4_isPair 22 = .ok (.if_icmp .ne 7, 3) := by decide +kernel
theorem dX4_isPair_25 : decode cX4_isPair 25 = .ok (.iconst 1, 1) := by decide +kernel
theorem dX4_isPair_26 : decode cX4_isPair 26 = .ok (.goto 4, 3) := by decide +kernel
theorem dX4_isPair_29 : decode cX4_isPair 29 = .ok (.iconst 0, 1) := by decide +kernel
theorem dX4_isPair_30 : decode cX4_isPair 30 = .ok (.istore_n 3, 1) := by decide +kernel
theorem dX4_isPair_31 : decode cX4_isPair 31 = .ok (.iload_n 1, 1) := by decide +kernel
theorem dX4_isPair_32 : decode cX4_isPair 32 = .ok (.iload_n 2, 1) := by decide +kernel
theorem dX4_isPair_33 : decode cX4_isPair 33 = .ok (.if_icmp .eq 25, 3) := by decide +kernel
theorem dX4_isPair_36 : decode cX4_isPair 36 = .ok (.iload_n 3, 1) := by decide +kernel
theorem dX4_isPair_37 : decode cX4_isPair 37 = .ok (.ifCond .eq 21, 3) := by decide +kernel
theorem dX4_isPair_40 : decode cX4_isPair 40 = .ok (.aload_n 0, 1) := by decide +kernel
theorem dX4_isPair_41 : decode cX4_isPair 41 = .ok (.iload_n 1, 1) := by decide +kernel
theorem dX4_isPair_42 : decode cX4_isPair 42 = .ok (.invokevirtual 79, 3) := by decide +kernel
theorem dX4_isPair_45 : decode cX4_isPair 45 = .ok (.aload_n 0, 1) := by decide +kernel
theorem dX4_isPair_46 : decode cX4_isPair 46 = .ok (.iload_n 2, 1) := by decide +kernel
theorem dX4_isPair_47 : decode cX4_isPair 47 = .ok (.invokevirtual 79, 3) := by decide +kernel
theorem dX4_isPair_50 : decode cX4_isPair 50 = .ok (.iand, 1) := by decide +kernel
theorem dX4_isPair_51 : decode cX4_isPair 51 = .ok (.ifCond .ne 7, 3) := by decide +kernel
theorem dX4_isPair_54 : decode cX4_isPair 54 = .ok (.iconst 1, 1) := by decide +kernel
theorem dX4_isPair_55 : decode cX4_isPair 55 = .ok (.goto 4, 3) := by decide +kernel
theorem dX4_isPair_58 : decode cX4_isPair 58 = .ok (.iconst 0, 1) := by decide +kernel
theorem dX4_isPair_59 : decode cX4_isPair 59 = .ok (.ireturn, 1) := by decide +kernel
theorem dX4_mateOf_0 : decode cX4_mateOf 0 = .ok (.aload_n 0, 1) := by decide +kernel
theorem dX4_mateOf_1 : decode cX4_mateOf 1 = .ok (.getfield 38, 3) := by decide +kernel
theorem dX4_mateOf_4 : decode cX4_mateOf 4 = .ok (.iload_n 1, 1) := by decide +kernel
theorem dX4_mateOf_5 : decode cX4_mateOf 5 = .ok (.iaload, 1) := by decide +kernel
theorem dX4_mateOf_6 : decode cX4_mateOf 6 = .ok (.iconst (-1), 1) := by decide +kernel
theorem dX4_mateOf_7 : decode cX4_mateOf 7 = .ok (.if_icmp .eq 12, 3) := by decide +kernel
theorem dX4_mateOf_10 : decode cX4_mateOf 10 = .ok (.aload_n 0, 1) := by decide +kernel
theorem dX4_mateOf_11 : decode cX4_mateOf 11 = .ok (.getfield 38, 3) := by decide +kernel
theorem dX4_mateOf_14 : decode cX4_mateOf 14 = .ok (.iload_n 1, 1) := by decide +kernel
theorem dX4_mateOf_15 : decode cX4_mateOf 15 = .ok (.iaload, 1) := by decide +kernel
theorem dX4_mateOf_16 : decode cX4_mateOf 16 = .ok (.goto 9, 3) := by decide +kernel
theorem dX4_mateOf_19 : decode cX4_mateOf 19 = .ok (.aload_n 0, 1) := by decide +kernel
theorem dX4_mateOf_20 : decode cX4_mateOf 20 = .ok (.getfield 41, 3) := by decide +kernel
theorem dX4_mateOf_23 : decode cX4_mateOf 23 = .ok (.iload_n 1, 1) := by decide +kernel
theorem dX4_mateOf_24 : decode cX4_mateOf 24 = .ok (.iaload, 1) := by decide +kernel
theorem dX4_mateOf_25 : decode cX4_mateOf 25 = .ok (.ireturn, 1) := by decide +kernel
theorem dX4_join_0 : decode cX4_join 0 = .ok (.aload_n 0, 1) := by decide +kernel
theorem dX4_join_1 : decode cX4_join 1 = .ok (.getfield 38, 3) := by decide +kernel
theorem dX4_join_4 : decode cX4_join 4 = .ok (.iload_n 1, 1) := by decide +kernel
theorem dX4_join_5 : decode cX4_join 5 = .ok (.iload_n 2, 1) := by decide +kernel
theorem dX4_join_6 : decode cX4_join 6 = .ok (.iastore, 1) := by decide +kernel
theorem dX4_join_7 : decode cX4_join 7 = .ok (.aload_n 0, 1) := by decide +kernel
theorem dX4_join_8 : decode cX4_join 8 = .ok (.getfield 41, 3) := by decide +kernel
theorem dX4_join_11 : decode cX4_join 11 = .ok (.iload_n 2, 1) := by decide +kernel
theorem dX4_join_12 : decode cX4_join 12 = .ok (.iload_n 1, 1) := by decide +kernel
theorem dX4_join_13 : decode cX4_join 13 = .ok (.iastore, 1) := by decide +kernel
theorem dX4_join_14 : decode cX4_join 14 = .ok (.aload_n 0, 1) := by decide +kernel
theorem dX4_join_15 : decode cX4_join 15 = .ok (.dup, 1) := by decide +kernel
theorem dX4_join_16 : decode cX4_join 16 = .ok (.getfield 21, 3) := by decide +kernel
theorem dX4_join_19 : decode cX4_join 19 = .ok (.iconst 1, 1) := by decide +kernel
theorem dX4_join_20 : decode cX4_join 20 = .ok (.iadd, 1) := by decide +kernel
theorem dX4_join_21 : decode cX4_join 21 = .ok (.putfield 21, 3) := by decide +kernel
theorem dX4_join_24 : decode cX4_join 24 = .ok (.return_, 1) := by decide +kernel
set_option maxRecDepth 20000 in
theorem ggX4_part_X4_mateOf : GoodIn wsX4_part wsX4_mateOf := goodIn_r _ [8, 1, 2, 9, 10, 11, 12, 13, 14, 15, 16, 17, 18] (by decide +kernel) (by decide +kernel)
set_option maxRecDepth 20000 in
theorem gX4_part_X4_mateOf : GoodIn wsX4_part (wsV RX4 83 RX4 yX4_mateOf wsX4_mateOf) := goodIn_app (goodIn_of _ (by decide +kernel)) ggX4_part_X4_mateOf
theorem dX4_part_0 : decode cX4_part 0 = .ok (.aload_n 0, 1) := by decide +kernel
theorem dX4_part_1 : decode cX4_part 1 = .ok (.iload_n 1, 1) := by decide +kernel
theorem dX4_part_2 : decode cX4_part 2 = .ok (.invokevirtual 83, 3) := by decide +kernel
theorem dX4_part_5 : decode cX4_part 5 = .ok (.istore_n 2, 1) := by decide +kernel
theorem dX4_part_6 : decode cX4_part 6 = .ok (.iload_n 2, 1) := by decide +kernel
theorem dX4_part_7 : decode cX4_part 7 = .ok (.iconst (-1), 1) := by decide +kernel
theorem dX4_part_8 : decode cX4_part 8 = .ok (.if_icmp .ne 4, 3) := by decide +kernel
theorem dX4_part_11 : decode cX4_part 11 = .ok (.return_, 1) := by decide +kernel
theorem dX4_part_12 : decode cX4_part 12 = .ok (.aload_n 0, 1) := by decide +kernel
theorem dX4_part_13 : decode cX4_part 13 = .ok (.getfield 38, 3) := by decide +kernel
theorem dX4_part_16 : decode cX4_part 16 = .ok (.iload_n 1, 1) := by decide +kernel
theorem dX4_part_17 : decode cX4_part 17 = .ok (.iconst (-1), 1) := by decide +kernel
theorem dX4_part_18 : decode cX4_part 18 = .ok (.iastore, 1) := by decide +kernel
theorem dX4_part_19 : decode cX4_part 19 = .ok (.aload_n 0, 1) := by decide +kernel
theorem dX4_part_20 : decode cX4_part 20 = .ok (.getfield 41, 3) := by decide +kernel
theorem dX4_part_23 : decode cX4_part 23 = .ok (.iload_n 1, 1) := by decide +kernel
theorem dX4_part_24 : decode cX4_part 24 = .ok (.iconst (-1), 1) := by decide +kernel
theorem dX4_part_25 : decode cX4_part 25 = .ok (.iastore, 1) := by decide +kernel
theorem dX4_part_26 : decode cX4_part 26 = .ok (.aload_n 0, 1) := by decide +kernel
theorem dX4_part_27 : decode cX4_part 27 = .ok (.getfield 38, 3) := by decide +kernel
theorem dX4_part_30 : decode cX4_part 30 = .ok (.iload_n 2, 1) := by decide +kernel
theorem dX4_part_31 : decode cX4_part 31 = .ok (.iconst (-1), 1) := by decide +kernel
theorem dX4_part_32 : decode cX4_part 32 = .ok (.iastore, 1) := by decide +kernel
theorem dX4_part_33 : decode cX4_part 33 = .ok (.aload_n 0, 1) := by decide +kernel
theorem dX4_part_34 : decode cX4_part 34 = .ok (.getfield 41, 3) := by decide +kernel
theorem dX4_part_37 : decode cX4_part 37 = .ok (.iload_n 2, 1) := by decide +kernel
theorem dX4_part_38 : decode cX4_part 38 = .ok (.iconst (-1), 1) := by decide +kernel
theorem dX4_part_39 : decode cX4_part 39 = .ok (.iastore, 1) := by decide +kernel
theorem dX4_part_40 : decode cX4_part 40 = .ok (.aload_n 0, 1) := by decide +kernel
theorem dX4_part_41 : decode cX4_part 41 = .ok (.dup, 1) := by decide +kernel
theorem dX4_part_42 : decode cX4_part 42 = .ok (.getfield 21, 3) := by decide +kernel
theorem dX4_part_45 : decode cX4_part 45 = .ok (.iconst 1, 1) := by decide +kernel
theorem dX4_part_46 : decode cX4_part 46 = .ok (.isub, 1) := by decide +kernel
theorem dX4_part_47 : decode cX4_part 47 = .ok (.putfield 21, 3) := by decide +kernel
theorem dX4_part_50 : decode cX4_part 50 = .ok (.return_, 1) := by decide +kernel
set_option maxRecDepth 20000 in
theorem ggX4_partAll_J7_fill_53178 : GoodIn wsX4_partAll wsJ7_fill_53178 := goodIn_r _ [7] (by decide +kernel) (by decide +kernel)
set_option maxRecDepth 20000 in
theorem gX4_partAll_J7_fill_53178 : GoodIn wsX4_partAll (va_wsS RX4 44 yJ7_fill_53178 wsJ7_fill_53178) := goodIn_app (goodIn_of _ (by decide +kernel)) ggX4_partAll_J7_fill_53178
theorem dX4_partAll_0 : decode cX4_partAll 0 = .ok (.aload_n 0, 1) := by decide +kernel
theorem dX4_partAll_1 : decode cX4_partAll 1 = .ok (.getfield 38, 3) := by decide +kernel
theorem dX4_partAll_4 : decode cX4_partAll 4 = .ok (.iconst (-1), 1) := by decide +kernel
theorem dX4_partAll_5 : decode cX4_partAll 5 = .ok (.invokestatic 44, 3) := by decide +kernel
theorem dX4_partAll_8 : decode cX4_partAll 8 = .ok (.aload_n 0, 1) := by decide +kernel
theorem dX4_partAll_9 : decode cX4_partAll 9 = .ok (.getfield 41, 3) := by decide +kernel
theorem dX4_partAll_12 : decode cX4_partAll 12 = .ok (.iconst (-1), 1) := by decide +kernel
theorem dX4_partAll_13 : decode cX4_partAll 13 = .ok (.invokestatic 44, 3) := by decide +kernel
theorem dX4_partAll_16 : decode cX4_partAll 16 = .ok (.aload_n 0, 1) := by decide +kernel
theorem dX4_partAll_17 : decode cX4_partAll 17 = .ok (.iconst 0, 1) := by decide +kernel
theorem dX4_partAll_18 : decode cX4_partAll 18 = .ok (.putfield 21, 3) := by decide +kernel
theorem dX4_partAll_21 : decode cX4_partAll 21 = .ok (.return_, 1) := by decide +kernel
set_option maxRecDepth 20000 in
theorem ggX5_init_X4_init : GoodIn wsX5_init wsX4_init := goodIn_r _ [27, 28, 2, 3, 29, 30, 31, 32, 24, 33, 34, 35, 36, 37, 38, 39, 40, 41, 42, 43, 72, 73, 74, 75, 76, 77, 78, 79, 80, 81] (by decide +kernel) (by decide +kernel)
set_option maxRecDepth 20000 in
theorem gX5_init_X4_init_n11 : GoodIn wsX5_init (wsX4_init) := ggX5_init_X4_init
set_option maxRecDepth 20000 in
theorem ggX5_init_X2_init : GoodIn wsX5_init wsX2_init := goodIn_r _ [45, 46, 2, 3, 47, 48, 49, 5, 6, 26, 27, 28, 29, 30, 31, 32, 24, 33, 34, 35, 36, 37, 38, 39, 40, 41, 42, 43, 88, 89, 72, 73, 74, 75, 76, 77, 78, 79, 80, 81] (by decide +kernel) (by decide +kernel)
set_option maxRecDepth 20000 in
theorem gX5_init_X2_init_n18 : GoodIn wsX5_init (wsX2_init) := ggX5_init_X2_init
set_option maxRecDepth 20000 in
theorem ggX5_init_X1_init : GoodIn wsX5_init wsX1_init := goodIn_r _ [51, 52, 2, 3, 24, 53, 90] (by decide +kernel) (by decide +kernel)
set_option maxRecDepth 20000 in
theorem gX5_init_X1_init_n25 : GoodIn wsX5_init (wsX1_init) := ggX5_init_X1_init
set_option maxRecDepth 20000 in
theorem ggX5_init_X3_init : GoodIn wsX5_init wsX3_init := goodIn_r _ [55, 56, 2, 3, 24, 57, 58, 91, 92] (by decide +kernel) (by decide +kernel)
set_option maxRecDepth 20000 in
theorem gX5_init_X3_init_n32 : GoodIn wsX5_init (wsX3_init) := ggX5_init_X3_init
set_option maxRecDepth 20000 in
theorem ggX5_init_X0_init : GoodIn wsX5_init wsX0_init := goodIn_r _ [60, 61, 2, 3, 62, 63, 24, 64, 65, 66, 67, 68, 69, 70, 71, 13, 14, 50, 51, 52, 53, 93, 94, 95, 96, 97, 98, 99, 100, 101, 90] (by decide +kernel) (by decide +kernel)
set_option maxRecDepth 20000 in
theorem gX5_init_X0_init_n39 : GoodIn wsX5_init (wsX0_init) := ggX5_init_X0_init
theorem dX5_init_0 : decode cX5_init 0 = .ok (.aload_n 0, 1) := by decide +kernel
theorem dX5_init_1 : decode cX5_init 1 = .ok (.invokespecial 3, 3) := by decide +kernel
theorem dX5_init_4 : decode cX5_init 4 = .ok (.aload_n 0, 1) := by decide +kernel
theorem dX5_init_5 : decode cX5_init 5 = .ok (.new 9, 3) := by decide +kernel
theorem dX5_init_8 : decode cX5_init 8 = .ok (.dup, 1) := by decide +kernel
theorem dX5_init_9 : decode cX5_init 9 = .ok (.invokespecial 11, 3) := by decide +kernel
theorem dX5_init_12 : decode cX5_init 12 = .ok (.putfield 12, 3) := by decide +kernel
theorem dX5_init_15 : decode cX5_init 15 = .ok (.aload_n 0, 1) := by decide +kernel
theorem dX5_init_16 : decode cX5_init 16 = .ok (.new 16, 3) := by decide +kernel
theorem dX5_init_19 : decode cX5_init 19 = .ok (.dup, 1) := by decide +kernel
theorem dX5_init_20 : decode cX5_init 20 = .ok (.invokespecial 18, 3) := by decide +kernel
theorem dX5_init_23 : decode cX5_init 23 = .ok (.putfield 19, 3) := by decide +kernel
theorem dX5_init_26 : decode cX5_init 26 = .ok (.aload_n 0, 1) := by decide +kernel
theorem dX5_init_27 : decode cX5_init 27 = .ok (.new 23, 3) := by decide +kernel
theorem dX5_init_30 : decode cX5_init 30 = .ok (.dup, 1) := by decide +kernel
theorem dX5_init_31 : decode cX5_init 31 = .ok (.invokespecial 25, 3) := by decide +kernel
theorem dX5_init_34 : decode cX5_init 34 = .ok (.putfield 26, 3) := by decide +kernel
theorem dX5_init_37 : decode cX5_init 37 = .ok (.aload_n 0, 1) := by decide +kernel
theorem dX5_init_38 : decode cX5_init 38 = .ok (.new 30, 3) := by decide +kernel
theorem dX5_init_41 : decode cX5_init 41 = .ok (.dup, 1) := by decide +kernel
theorem dX5_init_42 : decode cX5_init 42 = .ok (.invokespecial 32, 3) := by decide +kernel
theorem dX5_init_45 : decode cX5_init 45 = .ok (.putfield 33, 3) := by decide +kernel
theorem dX5_init_48 : decode cX5_init 48 = .ok (.aload_n 0, 1) := by decide +kernel
theorem dX5_init_49 : decode cX5_init 49 = .ok (.new 37, 3) := by decide +kernel
theorem dX5_init_52 : decode cX5_init 52 = .ok (.dup, 1) := by decide +kernel
theorem dX5_init_53 : decode cX5_init 53 = .ok (.invokespecial 39, 3) := by decide +kernel
theorem dX5_init_56 : decode cX5_init 56 = .ok (.putfield 40, 3) := by decide +kernel
theorem dX5_init_59 : decode cX5_init 59 = .ok (.aload_n 0, 1) := by decide +kernel
theorem dX5_init_60 : decode cX5_init 60 = .ok (.iconst 5, 1) := by decide +kernel
theorem dX5_init_61 : decode cX5_init 61 = .ok (.newarray .int, 2) := by decide +kernel
theorem dX5_init_63 : decode cX5_init 63 = .ok (.putfield 44, 3) := by decide +kernel
theorem dX5_init_66 : decode cX5_init 66 = .ok (.return_, 1) := by decide +kernel
set_option maxRecDepth 20000 in
theorem ggX5_setSize_X5_fail : GoodIn wsX5_setSize wsX5_fail := goodIn_r _ [7, 8, 91, 92, 93, 94, 95, 96] (by decide +kernel) (by decide +kernel)
set_option maxRecDepth 20000 in
theorem gX5_setSize_X5_fail : GoodIn wsX5_setSize (wsV RX5 48 RX5 yX5_fail wsX5_fail) := goodIn_app (goodIn_of _ (by decide +kernel)) ggX5_setSize_X5_fail
set_option maxRecDepth 20000 in
theorem ggX5_setSize_X2_push : GoodIn wsX5_setSize wsX2_push := goodIn_r _ [12, 13, 14, 15, 16, 17, 10, 18, 19, 20, 21, 22, 23, 24, 25, 26, 27, 28, 29, 30, 31, 32, 33, 34, 35, 36, 107, 108, 97, 98, 99, 100, 101, 102, 103, 104, 105, 106] (by decide +kernel) (by decide +kernel)
set_option maxRecDepth 20000 in
theorem gX5_setSize_X2_push_n52 : GoodIn wsX5_setSize (wsX2_push) := ggX5_setSize_X2_push
set_option maxRecDepth 20000 in
theorem ggX5_setSize_X4_resize : GoodIn wsX5_setSize wsX4_resize := goodIn_r _ [39, 23, 24, 25, 40, 41, 42, 20, 43, 35, 36, 26, 44, 45, 46, 47, 97, 98, 99, 100, 101, 102, 103, 104, 105, 106] (by decide +kernel) (by decide +kernel)
set_option maxRecDepth 20000 in
theorem gX5_setSize_X4_resize_n60 : GoodIn wsX5_setSize (wsX4_resize) := ggX5_setSize_X4_resize
set_option maxRecDepth 20000 in
theorem ggX5_setSize_X5_termsChanged : GoodIn wsX5_setSize wsX5_termsChanged := goodIn_r _ [51, 52, 53, 54, 55, 6, 56, 57, 2, 58, 59, 60, 61, 62, 63, 64, 65, 66, 67, 68, 45, 46, 47, 69, 20, 70, 71, 25, 27, 32, 33, 72, 73, 74, 75, 76, 77, 78, 79, 80, 81, 82, 83, 84, 85, 86, 87, 88, 89, 90, 91, 92, 93, 94, 95, 96, 109, 110, 111, 112, 113, 114, 115, 116, 117, 97, 98, 99, 100, 101, 102, 103, 104, 105, 106, 118, 119, 120] (by decide +kernel) (by decide +kernel)
set_option maxRecDepth 20000 in
theorem gX5_setSize_X5_termsChanged : GoodIn wsX5_setSize (wsV RX5 64 RX5 yX5_termsChanged wsX5_termsChanged) := goodIn_app (goodIn_of _ (by decide +kernel)) ggX5_setSize_X5_termsChanged
theorem dX5_setSize_0 : decode cX5_setSize 0 = .ok (.iload_n 1, 1) := by decide +kernel
theorem dX5_setSize_1 : decode cX5_setSize 1 = .ok (.iconst 1, 1) := by decide +kernel
theorem dX5_setSize_2 : decode cX5_setSize 2 = .ok (.if_icmp .lt 19, 3) := by decide +kernel
theorem dX5_setSize_5 : decode cX5_setSize 5 = .ok (.iload_n 1, 1) := by decide +kernel
theorem dX5_setSize_6 : decode cX5_setSize 6 = .ok (.bipush 6, 2) := by decide +kernel
theorem dX5_setSize_8 : decode cX5_setSize 8 = .ok (.if_icmp .gt 13, 3) := by decide +kernel
theorem dX5_setSize_11 : decode cX5_setSize 11 = .ok (.iload_n 2, 1) := by decide +kernel
theorem dX5_setSize_12 : decode cX5_setSize 12 = .ok (.iconst 1, 1) := by decide +kernel
theorem dX5_setSize_13 : decode cX5_setSize 13 = .ok (.if_icmp .lt 8, 3) := by decide +kernel
theorem dX5_setSize_16 : decode cX5_setSize 16 = .ok (.iload_n 2, 1) := by decide +kernel
theorem dX5_setSize_17 : decode cX5_setSize 17 = .ok (.iconst 4, 1) := by decide +kernel
theorem dX5_setSize_18 : decode cX5_setSize 18 = .ok (.if_icmp .le 10, 3) := by decide +kernel
theorem dX5_setSize_21 : decode cX5_setSize 21 = .ok (.aload_n 0, 1) := by decide +kernel
theorem dX5_setSize_22 : decode cX5_setSize 22 = .ok (.bipush (-2), 2) := by decide +kernel
theorem dX5_setSize_24 : decode cX5_setSize 24 = .ok (.invokevirtual 48, 3) := by decide +kernel
theorem dX5_setSize_27 : decode cX5_setSize 27 = .ok (.ireturn, 1) := by decide +kernel
theorem dX5_setSize_28 : decode cX5_setSize 28 = .ok (.aload_n 0, 1) := by decide +kernel
theorem dX5_setSize_29 : decode cX5_setSize 29 = .ok (.getfield 19, 3) := by decide +kernel
theorem dX5_setSize_32 : decode cX5_setSize 32 = .ok (.aload_n 0, 1) := by decide +kernel
theorem dX5_setSize_33 : decode cX5_setSize 33 = .ok (.getfield 12, 3) := by decide +kernel
theorem dX5_setSize_36 : decode cX5_setSize 36 = .ok (.invokevirtual 52, 3) := by decide +kernel
theorem dX5_setSize_39 : decode cX5_setSize 39 = .ok (.aload_n 0, 1) := by decide +kernel
theorem dX5_setSize_40 : decode cX5_setSize 40 = .ok (.getfield 12, 3) := by decide +kernel
theorem dX5_setSize_43 : decode cX5_setSize 43 = .ok (.getfield 56, 3) := by decide +kernel
theorem dX5_setSize_46 : decode cX5_setSize 46 = .ok (.istore_n 3, 1) := by decide +kernel
theorem dX5_setSize_47 : decode cX5_setSize 47 = .ok (.aload_n 0, 1) := by decide +kernel
theorem dX5_setSize_48 : decode cX5_setSize 48 = .ok (.getfield 12, 3) := by decide +kernel
theorem dX5_setSize_51 : decode cX5_setSize 51 = .ok (.iload_n 1, 1) := by decide +kernel
theorem dX5_setSize_52 : decode cX5_setSize 52 = .ok (.iload_n 2, 1) := by decide +kernel
theorem dX5_setSize_53 : decode cX5_setSize 53 = .ok (.invokevirtual 60, 3) := by decide +kernel
theorem dX5_setSize_56 : decode cX5_setSize 56 = .ok (.aload_n 0, 1) := by decide +kernel
theorem dX5_setSize_57 : decode cX5_setSize 57 = .ok (.invokevirtual 64, 3) := by decide +kernel
theorem dX5_setSize_60 : decode cX5_setSize 60 = .ok (.iload_n 3, 1) := by decide +kernel
theorem dX5_setSize_61 : decode cX5_setSize 61 = .ok (.ireturn, 1) := by decide +kernel
set_option maxRecDepth 20000 in
theorem ggX5_addTerm_X4_takesTerm : GoodIn wsX5_addTerm wsX4_takesTerm := goodIn_r _ [6, 7, 8, 109, 110, 111, 112, 113, 114, 115, 116, 117, 118] (by decide +kernel) (by decide +kernel)
set_option maxRecDepth 20000 in
theorem gX5_addTerm_X4_takesTerm_n67 : GoodIn wsX5_addTerm (wsX4_takesTerm) := ggX5_addTerm_X4_takesTerm
set_option maxRecDepth 20000 in
theorem ggX5_addTerm_X5_fail : GoodIn wsX5_addTerm wsX5_fail := goodIn_r _ [13, 14, 103, 104, 105, 106, 107, 108] (by decide +kernel) (by decide +kernel)
set_option maxRecDepth 20000 in
theorem gX5_addTerm_X5_fail : GoodIn wsX5_addTerm (wsV RX5 48 RX5 yX5_fail wsX5_fail) := goodIn_app (goodIn_of _ (by decide +kernel)) ggX5_addTerm_X5_fail
set_option maxRecDepth 20000 in
theorem ggX5_addTerm_X2_push : GoodIn wsX5_addTerm wsX2_push := goodIn_r _ [18, 19, 20, 21, 22, 23, 16, 24, 25, 4, 26, 27, 7, 8, 28, 29, 30, 31, 32, 33, 34, 35, 36, 37, 38, 39, 119, 120, 109, 110, 111, 112, 113, 114, 115, 116, 117, 118] (by decide +kernel) (by decide +kernel)
set_option maxRecDepth 20000 in
theorem gX5_addTerm_X2_push_n52 : GoodIn wsX5_addTerm (wsX2_push) := ggX5_addTerm_X2_push
set_option maxRecDepth 20000 in
theorem ggX5_addTerm_X4_appendTerm : GoodIn wsX5_addTerm wsX4_appendTerm := goodIn_r _ [42, 28, 30, 35, 36, 37, 43, 44, 45, 4, 46, 7, 47, 48, 49, 50, 51, 52, 12, 53, 54, 55, 56, 57, 38, 39, 29, 58, 59, 60, 61, 109, 110, 111, 112, 113, 114, 115, 116, 117, 118] (by decide +kernel) (by decide +kernel)
set_option maxRecDepth 20000 in
theorem gX5_addTerm_X4_appendTerm_n71 : GoodIn wsX5_addTerm (wsX4_appendTerm) := ggX5_addTerm_X4_appendTerm
set_option maxRecDepth 20000 in
theorem ggX5_addTerm_X5_termsChanged : GoodIn wsX5_addTerm wsX5_termsChanged := goodIn_r _ [65, 66, 67, 68, 69, 12, 70, 71, 1, 72, 73, 74, 75, 76, 77, 78, 79, 80, 81, 82, 59, 60, 61, 83, 4, 84, 85, 28, 30, 35, 36, 52, 53, 86, 87, 88, 89, 90, 91, 92, 93, 94, 95, 96, 97, 98, 99, 100, 101, 102, 103, 104, 105, 106, 107, 108, 121, 122, 123, 124, 125, 126, 127, 128, 129, 109, 110, 111, 112, 113, 114, 115, 116, 117, 118, 130, 131, 132] (by decide +kernel) (by decide +kernel)
set_option maxRecDepth 20000 in
theorem gX5_addTerm_X5_termsChanged : GoodIn wsX5_addTerm (wsV RX5 64 RX5 yX5_termsChanged wsX5_termsChanged) := goodIn_app (goodIn_of _ (by decide +kernel)) ggX5_addTerm_X5_termsChanged
theorem dX5_addTerm_0 : decode cX5_addTerm 0 = .ok (.aload_n 0, 1) := by decide +kernel
theorem dX5_addTerm_1 : decode cX5_addTerm 1 = .ok (.getfield 12, 3) := by decide +kernel
theorem dX5_addTerm_4 : decode cX5_addTerm 4 = .ok (.iload_n 1, 1) := by decide +kernel
theorem dX5_addTerm_5 : decode cX5_addTerm 5 = .ok (.iload_n 2, 1) := by decide +kernel
theorem dX5_addTerm_6 : decode cX5_addTerm 6 = .ok (.iload_n 3, 1) := by decide +kernel
theorem dX5_addTerm_7 : decode cX5_addTerm 7 = .ok (.invokevirtual 67, 3) := by decide +kernel
theorem dX5_addTerm_10 : decode cX5_addTerm 10 = .ok (.ifCond .ne 10, 3) := by decide +kernel
theorem dX5_addTerm_13 : decode cX5_addTerm 13 = .ok (.aload_n 0, 1) := by decide +kernel
theorem dX5_addTerm_14 : decode cX5_addTerm 14 = .ok (.bipush (-2), 2) := by decide +kernel
theorem dX5_addTerm_16 : decode cX5_addTerm 16 = .ok (.invokevirtual 48, 3) := by decide +kernel
theorem dX5_addTerm_19 : decode cX5_addTerm 19 = .ok (.ireturn, 1) := by decide +kernel
theorem dX5_addTerm_20 : decode cX5_addTerm 20 = .ok (.aload_n 0, 1) := by decide +kernel
theorem dX5_addTerm_21 : decode cX5_addTerm 21 = .ok (.getfield 12, 3) := by decide +kernel
theorem dX5_addTerm_24 : decode cX5_addTerm 24 = .ok (.getfield 56, 3) := by decide +kernel
theorem dX5_addTerm_27 : decode cX5_addTerm 27 = .ok (.bipush 10, 2) := by decide +kernel
theorem dX5_addTerm_29 : decode cX5_addTerm 29 = .ok (.if_icmp .lt 10, 3) := by decide +kernel
theorem dX5_addTerm_32 : decode cX5_addTerm 32 = .ok (.aload_n 0, 1) := by decide +kernel
theorem dX5_addTerm_33 : decode cX5_addTerm 33 = .ok (.bipush (-5), 2) := by decide +kernel
theorem dX5_addTerm_35 : decode cX5_addTerm 35 = .ok (.invokevirtual 48, 3) := by decide +kernel
theorem dX5_addTerm_38 : decode cX5_addTerm 38 = .ok (.ireturn, 1) := by decide +kernel
theorem dX5_addTerm_39 : decode cX5_addTerm 39 = .ok (.aload_n 0, 1) := by decide +kernel
theorem dX5_addTerm_40 : decode cX5_addTerm 40 = .ok (.getfield 19, 3) := by decide +kernel
theorem dX5_addTerm_43 : decode cX5_addTerm 43 = .ok (.aload_n 0, 1) := by decide +kernel
theorem dX5_addTerm_44 : decode cX5_addTerm 44 = .ok (.getfield 12, 3) := by decide +kernel
theorem dX5_addTerm_47 : decode cX5_addTerm 47 = .ok (.invokevirtual 52, 3) := by decide +kernel
theorem dX5_addTerm_50 : decode cX5_addTerm 50 = .ok (.aload_n 0, 1) := by decide +kernel
theorem dX5_addTerm_51 : decode cX5_addTerm 51 = .ok (.getfield 12, 3) := by decide +kernel
theorem dX5_addTerm_54 : decode cX5_addTerm 54 = .ok (.iload_n 1, 1) := by decide +kernel
theorem dX5_addTerm_55 : decode cX5_addTerm 55 = .ok (.iload_n 2, 1) := by decide +kernel
theorem dX5_addTerm_56 : decode cX5_addTerm 56 = .ok (.iload_n 3, 1) := by decide +kernel
theorem dX5_addTerm_57 : decode cX5_addTerm 57 = .ok (.invokevirtual 71, 3) := by decide +kernel
theorem dX5_addTerm_60 : decode cX5_addTerm 60 = .ok (.aload_n 0, 1) := by decide +kernel
theorem dX5_addTerm_61 : decode cX5_addTerm 61 = .ok (.invokevirtual 64, 3) := by decide +kernel
theorem dX5_addTerm_64 : decode cX5_addTerm 64 = .ok (.aload_n 0, 1) := by decide +kernel
theorem dX5_addTerm_65 : decode cX5_addTerm 65 = .ok (.getfield 12, 3) := by decide +kernel
theorem dX5_addTerm_68 : decode cX5_addTerm 68 = .ok (.getfield 56, 3) := by decide +kernel
theorem dX5_addTerm_71 : decode cX5_addTerm 71 = .ok (.iconst 1, 1) := by decide +kernel
theorem dX5_addTerm_72 : decode cX5_addTerm 72 = .ok (.isub, 1) := by decide +kernel
theorem dX5_addTerm_73 : decode cX5_addTerm 73 = .ok (.ireturn, 1) := by decide +kernel
set_option maxRecDepth 20000 in
theorem ggX5_removeTerm_X4_hasTerm : GoodIn wsX5_removeTerm wsX4_hasTerm := goodIn_r _ [6, 7, 100, 101, 102, 103, 104, 105, 106, 107, 108, 109] (by decide +kernel) (by decide +kernel)
set_option maxRecDepth 20000 in
theorem gX5_removeTerm_X4_hasTerm_n75 : GoodIn wsX5_removeTerm (wsX4_hasTerm) := ggX5_removeTerm_X4_hasTerm
set_option maxRecDepth 20000 in
theorem ggX5_removeTerm_X5_fail : GoodIn wsX5_removeTerm wsX5_fail := goodIn_r _ [12, 13, 94, 95, 96, 97, 98, 99] (by decide +kernel) (by decide +kernel)
set_option maxRecDepth 20000 in
theorem gX5_removeTerm_X5_fail : GoodIn wsX5_removeTerm (wsV RX5 48 RX5 yX5_fail wsX5_fail) := goodIn_app (goodIn_of _ (by decide +kernel)) ggX5_removeTerm_X5_fail
set_option maxRecDepth 20000 in
theorem ggX5_removeTerm_X2_push : GoodIn wsX5_removeTerm wsX2_push := goodIn_r _ [17, 18, 19, 20, 21, 22, 15, 23, 24, 4, 25, 26, 27, 28, 7, 29, 30, 31, 32, 33, 34, 35, 36, 37, 38, 39, 110, 111, 100, 101, 102, 103, 104, 105, 106, 107, 108, 109] (by decide +kernel) (by decide +kernel)
set_option maxRecDepth 20000 in
theorem gX5_removeTerm_X2_push_n52 : GoodIn wsX5_removeTerm (wsX2_push) := ggX5_removeTerm_X2_push
set_option maxRecDepth 20000 in
theorem ggX5_removeTerm_X4_dropTerm : GoodIn wsX5_removeTerm wsX4_dropTerm := goodIn_r _ [42, 7, 30, 35, 36, 37, 43, 44, 45, 4, 46, 38, 39, 29, 47, 48, 49, 50, 100, 101, 102, 103, 104, 105, 106, 107, 108, 109] (by decide +kernel) (by decide +kernel)
set_option maxRecDepth 20000 in
theorem gX5_removeTerm_X4_dropTerm_n79 : GoodIn wsX5_removeTerm (wsX4_dropTerm) := ggX5_removeTerm_X4_dropTerm
set_option maxRecDepth 20000 in
theorem ggX5_removeTerm_X5_termsChanged : GoodIn wsX5_removeTerm wsX5_termsChanged := goodIn_r _ [54, 55, 56, 57, 58, 11, 59, 60, 1, 61, 62, 63, 64, 65, 66, 67, 68, 69, 70, 71, 48, 49, 50, 72, 4, 73, 74, 7, 30, 35, 36, 75, 76, 77, 78, 79, 80, 81, 82, 83, 84, 85, 86, 87, 88, 89, 90, 91, 92, 93, 94, 95, 96, 97, 98, 99, 112, 113, 114, 115, 116, 117, 118, 119, 120, 100, 101, 102, 103, 104, 105, 106, 107, 108, 109, 121, 122, 123] (by decide +kernel) (by decide +kernel)
set_option maxRecDepth 20000 in
theorem gX5_removeTerm_X5_termsChanged : GoodIn wsX5_removeTerm (wsV RX5 64 RX5 yX5_termsChanged wsX5_termsChanged) := goodIn_app (goodIn_of _ (by decide +kernel)) ggX5_removeTerm_X5_termsChanged
theorem dX5_removeTerm_0 : decode cX5_removeTerm 0 = .ok (.aload_n 0, 1) := by decide +kernel
theorem dX5_removeTerm_1 : decode cX5_removeTerm 1 = .ok (.getfield 12, 3) := by decide +kernel
theorem dX5_removeTerm_4 : decode cX5_removeTerm 4 = .ok (.iload_n 1, 1) := by decide +kernel
theorem dX5_removeTerm_5 : decode cX5_removeTerm 5 = .ok (.invokevirtual 75, 3) := by decide +kernel
theorem dX5_removeTerm_8 : decode cX5_removeTerm 8 = .ok (.ifCond .ne 10, 3) := by decide +kernel
theorem dX5_removeTerm_11 : decode cX5_removeTerm 11 = .ok (.aload_n 0, 1) := by decide +kernel
theorem dX5_removeTerm_12 : decode cX5_removeTerm 12 = .ok (.bipush (-2), 2) := by decide +kernel
theorem dX5_removeTerm_14 : decode cX5_removeTerm 14 = .ok (.invokevirtual 48, 3) := by decide +kernel
theorem dX5_removeTerm_17 : decode cX5_removeTerm 17 = .ok (.ireturn, 1) := by decide +kernel
theorem dX5_removeTerm_18 : decode cX5_removeTerm 18 = .ok (.aload_n 0, 1) := by decide +kernel
theorem dX5_removeTerm_19 : decode cX5_removeTerm 19 = .ok (.getfield 19, 3) := by decide +kernel
theorem dX5_removeTerm_22 : decode cX5_removeTerm 22 = .ok (.aload_n 0, 1) := by decide +kernel
theorem dX5_removeTerm_23 : decode cX5_removeTerm 23 = .ok (.getfield 12, 3) := by decide +kernel
theorem dX5_removeTerm_26 : decode cX5_removeTerm 26 = .ok (.invokevirtual 52, 3) := by decide +kernel
theorem dX5_removeTerm_29 : decode cX5_removeTerm 29 = .ok (.aload_n 0, 1) := by decide +kernel
theorem dX5_removeTerm_30 : decode cX5_removeTerm 30 = .ok (.getfield 12, 3) := by decide +kernel
theorem dX5_removeTerm_33 : decode cX5_removeTerm 33 = .ok (.iload_n 1, 1) := by decide +kernel
theorem dX5_removeTerm_34 : decode cX5_removeTerm 34 = .ok (.invokevirtual 79, 3) := by decide +kernel
theorem dX5_removeTerm_37 : decode cX5_removeTerm 37 = .ok (.aload_n 0, 1) := by decide +kernel
theorem dX5_removeTerm_38 : decode cX5_removeTerm 38 = .ok (.invokevirtual 64, 3) := by decide +kernel
theorem dX5_removeTerm_41 : decode cX5_removeTerm 41 = .ok (.aload_n 0, 1) := by decide +kernel
theorem dX5_removeTerm_42 : decode cX5_removeTerm 42 = .ok (.getfield 12, 3) := by decide +kernel
theorem dX5_removeTerm_45 : decode cX5_removeTerm 45 = .ok (.getfield 56, 3) := by decide +kernel
theorem dX5_removeTerm_48 : decode cX5_removeTerm 48 = .ok (.ireturn, 1) := by decide +kernel
theorem dX5_terms_0 : decode cX5_terms 0 = .ok (.aload_n 0, 1) := by decide +kernel
theorem dX5_terms_1 : decode cX5_terms 1 = .ok (.getfield 12, 3) := by decide +kernel
theorem dX5_terms_4 : decode cX5_terms 4 = .ok (.getfield 56, 3) := by decide +kernel
theorem dX5_terms_7 : decode cX5_terms 7 = .ok (.ireturn, 1) := by decide +kernel
set_option maxRecDepth 20000 in
theorem ggX5_literals_X4_hasTerm : GoodIn wsX5_literals wsX4_hasTerm := goodIn_r _ [5, 6, 26, 27, 28, 29, 30, 31, 32, 33, 34, 35] (by decide +kernel) (by decide +kernel)
set_option maxRecDepth 20000 in
theorem gX5_literals_X4_hasTerm_n75 : GoodIn wsX5_literals (wsX4_hasTerm) := ggX5_literals_X4_hasTerm
set_option maxRecDepth 20000 in
theorem ggX5_literals_X5_fail : GoodIn wsX5_literals wsX5_fail := goodIn_r _ [11, 12, 20, 21, 22, 23, 24, 25] (by decide +kernel) (by decide +kernel)
set_option maxRecDepth 20000 in
theorem gX5_literals_X5_fail : GoodIn wsX5_literals (wsV RX5 48 RX5 yX5_fail wsX5_fail) := goodIn_app (goodIn_of _ (by decide +kernel)) ggX5_literals_X5_fail
set_option maxRecDepth 20000 in
theorem ggX5_literals_J6_bitCount_0f7a4 : GoodIn wsX5_literals wsJ6_bitCount_0f7a4 := goodIn_r _ [16, 17, 18, 19] (by decide +kernel) (by decide +kernel)
set_option maxRecDepth 20000 in
theorem gX5_literals_J6_bitCount_0f7a4 : GoodIn wsX5_literals (va_wsS RX5 89 yJ6_bitCount_0f7a4 wsJ6_bitCount_0f7a4) := goodIn_app (goodIn_of _ (by decide +kernel)) ggX5_literals_J6_bitCount_0f7a4
theorem dX5_literals_0 : decode cX5_literals 0 = .ok (.aload_n 0, 1) := by decide +kernel
theorem dX5_literals_1 : decode cX5_literals 1 = .ok (.getfield 12, 3) := by decide +kernel
theorem dX5_literals_4 : decode cX5_literals 4 = .ok (.iload_n 1, 1) := by decide +kernel
theorem dX5_literals_5 : decode cX5_literals 5 = .ok (.invokevirtual 75, 3) := by decide +kernel
theorem dX5_literals_8 : decode cX5_literals 8 = .ok (.ifCond .ne 10, 3) := by decide +kernel
theorem dX5_literals_11 : decode cX5_literals 11 = .ok (.aload_n 0, 1) := by decide +kernel
theorem dX5_literals_12 : decode cX5_literals 12 = .ok (.bipush (-2), 2) := by decide +kernel
theorem dX5_literals_14 : decode cX5_literals 14 = .ok (.invokevirtual 48, 3) := by decide +kernel
theorem dX5_literals_17 : decode cX5_literals 17 = .ok (.ireturn, 1) := by decide +kernel
theorem dX5_literals_18 : decode cX5_literals 18 = .ok (.aload_n 0, 1) := by decide +kernel
theorem dX5_literals_19 : decode cX5_literals 19 = .ok (.getfield 12, 3) := by decide +kernel
theorem dX5_literals_22 : decode cX5_literals 22 = .ok (.getfield 83, 3) := by decide +kernel
theorem dX5_literals_25 : decode cX5_literals 25 = .ok (.iload_n 1, 1) := by decide +kernel
theorem dX5_literals_26 : decode cX5_literals 26 = .ok (.iaload, 1) := by decide +kernel
theorem dX5_literals_27 : decode cX5_literals 27 = .ok (.aload_n 0, 1) := by decide +kernel
theorem dX5_literals_28 : decode cX5_literals 28 = .ok (.getfield 12, 3) := by decide +kernel
theorem dX5_literals_31 : decode cX5_literals 31 = .ok (.getfield 86, 3) := by decide +kernel
theorem dX5_literals_34 : decode cX5_literals 34 = .ok (.iload_n 1, 1) := by decide +kernel
theorem dX5_literals_35 : decode cX5_literals 35 = .ok (.iaload, 1) := by decide +kernel
theorem dX5_literals_36 : decode cX5_literals 36 = .ok (.ior, 1) := by decide +kernel
theorem dX5_literals_37 : decode cX5_literals 37 = .ok (.invokestatic 89, 3) := by decide +kernel
theorem dX5_literals_40 : decode cX5_literals 40 = .ok (.ireturn, 1) := by decide +kernel
set_option maxRecDepth 20000 in
theorem ggX5_evaluate_X5_fail : GoodIn wsX5_evaluate wsX5_fail := goodIn_r _ [6, 7, 15, 16, 17, 18, 19, 20] (by decide +kernel) (by decide +kernel)
set_option maxRecDepth 20000 in
theorem gX5_evaluate_X5_fail : GoodIn wsX5_evaluate (wsV RX5 48 RX5 yX5_fail wsX5_fail) := goodIn_app (goodIn_of _ (by decide +kernel)) ggX5_evaluate_X5_fail
set_option maxRecDepth 20000 in
theorem ggX5_evaluate_X4_outputWord : GoodIn wsX5_evaluate wsX4_outputWord := goodIn_r _ [11, 12, 13, 14, 21, 22, 23, 24, 25, 26, 27, 28, 29, 30] (by decide +kernel) (by decide +kernel)
set_option maxRecDepth 20000 in
theorem gX5_evaluate_X4_outputWord_n97 : GoodIn wsX5_evaluate (wsX4_outputWord) := ggX5_evaluate_X4_outputWord
theorem dX5_evaluate_0 : decode cX5_evaluate 0 = .ok (.iload_n 1, 1) := by decide +kernel
theorem dX5_evaluate_1 : decode cX5_evaluate 1 = .ok (.ifCond .lt 16, 3) := by decide +kernel
theorem dX5_evaluate_4 : decode cX5_evaluate 4 = .ok (.iload_n 1, 1) := by decide +kernel
theorem dX5_evaluate_5 : decode cX5_evaluate 5 = .ok (.iconst 1, 1) := by decide +kernel
theorem dX5_evaluate_6 : decode cX5_evaluate 6 = .ok (.aload_n 0, 1) := by decide +kernel
theorem dX5_evaluate_7 : decode cX5_evaluate 7 = .ok (.getfield 12, 3) := by decide +kernel
theorem dX5_evaluate_10 : decode cX5_evaluate 10 = .ok (.getfield 94, 3) := by decide +kernel
theorem dX5_evaluate_13 : decode cX5_evaluate 13 = .ok (.ishl, 1) := by decide +kernel
theorem dX5_evaluate_14 : decode cX5_evaluate 14 = .ok (.if_icmp .lt 10, 3) := by decide +kernel
theorem dX5_evaluate_17 : decode cX5_evaluate 17 = .ok (.aload_n 0, 1) := by decide +kernel
theorem dX5_evaluate_18 : decode cX5_evaluate 18 = .ok (.bipush (-2), 2) := by decide +kernel
theorem dX5_evaluate_20 : decode cX5_evaluate 20 = .ok (.invokevirtual 48, 3) := by decide +kernel
theorem dX5_evaluate_23 : decode cX5_evaluate 23 = .ok (.ireturn, 1) := by decide +kernel
theorem dX5_evaluate_24 : decode cX5_evaluate 24 = .ok (.aload_n 0, 1) := by decide +kernel
theorem dX5_evaluate_25 : decode cX5_evaluate 25 = .ok (.getfield 12, 3) := by decide +kernel
theorem dX5_evaluate_28 : decode cX5_evaluate 28 = .ok (.iload_n 1, 1) := by decide +kernel
theorem dX5_evaluate_29 : decode cX5_evaluate 29 = .ok (.invokevirtual 97, 3) := by decide +kernel
theorem dX5_evaluate_32 : decode cX5_evaluate 32 = .ok (.ireturn, 1) := by decide +kernel
set_option maxRecDepth 20000 in
theorem ggX5_onCount_X5_fail : GoodIn wsX5_onCount wsX5_fail := goodIn_r _ [6, 7, 24, 25, 26, 27, 28, 29] (by decide +kernel) (by decide +kernel)
set_option maxRecDepth 20000 in
theorem gX5_onCount_X5_fail : GoodIn wsX5_onCount (wsV RX5 48 RX5 yX5_fail wsX5_fail) := goodIn_app (goodIn_of _ (by decide +kernel)) ggX5_onCount_X5_fail
set_option maxRecDepth 20000 in
theorem ggX5_onCount_X4_wordsOfOutput : GoodIn wsX5_onCount wsX4_wordsOfOutput := goodIn_r _ [11, 12, 13, 14, 15, 5, 16, 30, 31, 32, 33, 34, 35, 36, 37, 38, 39] (by decide +kernel) (by decide +kernel)
set_option maxRecDepth 20000 in
theorem gX5_onCount_X4_wordsOfOutput_n103 : GoodIn wsX5_onCount (wsX4_wordsOfOutput) := ggX5_onCount_X4_wordsOfOutput
set_option maxRecDepth 20000 in
theorem ggX5_onCount_J13_bitCount_95d88 : GoodIn wsX5_onCount wsJ13_bitCount_95d88 := goodIn_r _ [20, 21, 22, 23] (by decide +kernel) (by decide +kernel)
set_option maxRecDepth 20000 in
theorem gX5_onCount_J13_bitCount_95d88 : GoodIn wsX5_onCount (va_wsS RX5 107 yJ13_bitCount_95d88 wsJ13_bitCount_95d88) := goodIn_app (goodIn_of _ (by decide +kernel)) ggX5_onCount_J13_bitCount_95d88
theorem dX5_onCount_0 : decode cX5_onCount 0 = .ok (.iload_n 1, 1) := by decide +kernel
theorem dX5_onCount_1 : decode cX5_onCount 1 = .ok (.ifCond .lt 14, 3) := by decide +kernel
theorem dX5_onCount_4 : decode cX5_onCount 4 = .ok (.iload_n 1, 1) := by decide +kernel
theorem dX5_onCount_5 : decode cX5_onCount 5 = .ok (.aload_n 0, 1) := by decide +kernel
theorem dX5_onCount_6 : decode cX5_onCount 6 = .ok (.getfield 12, 3) := by decide +kernel
theorem dX5_onCount_9 : decode cX5_onCount 9 = .ok (.getfield 100, 3) := by decide +kernel
theorem dX5_onCount_12 : decode cX5_onCount 12 = .ok (.if_icmp .lt 10, 3) := by decide +kernel
theorem dX5_onCount_15 : decode cX5_onCount 15 = .ok (.aload_n 0, 1) := by decide +kernel
theorem dX5_onCount_16 : decode cX5_onCount 16 = .ok (.bipush (-2), 2) := by decide +kernel
theorem dX5_onCount_18 : decode cX5_onCount 18 = .ok (.invokevirtual 48, 3) := by decide +kernel
theorem dX5_onCount_21 : decode cX5_onCount 21 = .ok (.ireturn, 1) := by decide +kernel
theorem dX5_onCount_22 : decode cX5_onCount 22 = .ok (.aload_n 0, 1) := by decide +kernel
theorem dX5_onCount_23 : decode cX5_onCount 23 = .ok (.getfield 12, 3) := by decide +kernel
theorem dX5_onCount_26 : decode cX5_onCount 26 = .ok (.iload_n 1, 1) := by decide +kernel
theorem dX5_onCount_27 : decode cX5_onCount 27 = .ok (.iconst (-1), 1) := by decide +kernel
theorem dX5_onCount_28 : decode cX5_onCount 28 = .ok (.invokevirtual 103, 3) := by decide +kernel
theorem dX5_onCount_31 : decode cX5_onCount 31 = .ok (.invokestatic 107, 3) := by decide +kernel
theorem dX5_onCount_34 : decode cX5_onCount 34 = .ok (.ireturn, 1) := by decide +kernel
set_option maxRecDepth 20000 in
theorem ggX5_isRedundant_X4_hasTerm : GoodIn wsX5_isRedundant wsX4_hasTerm := goodIn_r _ [5, 6, 35, 36, 37, 38, 39, 40, 41, 42, 43, 44] (by decide +kernel) (by decide +kernel)
set_option maxRecDepth 20000 in
theorem gX5_isRedundant_X4_hasTerm_n75 : GoodIn wsX5_isRedundant (wsX4_hasTerm) := ggX5_isRedundant_X4_hasTerm
set_option maxRecDepth 20000 in
theorem ggX5_isRedundant_X5_fail : GoodIn wsX5_isRedundant wsX5_fail := goodIn_r _ [11, 12, 29, 30, 31, 32, 33, 34] (by decide +kernel) (by decide +kernel)
set_option maxRecDepth 20000 in
theorem gX5_isRedundant_X5_fail : GoodIn wsX5_isRedundant (wsV RX5 48 RX5 yX5_fail wsX5_fail) := goodIn_app (goodIn_of _ (by decide +kernel)) ggX5_isRedundant_X5_fail
set_option maxRecDepth 20000 in
theorem ggX5_isRedundant_X4_isSpare : GoodIn wsX5_isRedundant wsX4_isSpare := goodIn_r _ [15, 16, 17, 18, 19, 20, 10, 21, 22, 23, 24, 3, 25, 6, 35, 36, 37, 38, 39, 40, 41, 42, 43, 44] (by decide +kernel) (by decide +kernel)
set_option maxRecDepth 20000 in
theorem gX5_isRedundant_X4_isSpare_n112 : GoodIn wsX5_isRedundant (wsX4_isSpare) := ggX5_isRedundant_X4_isSpare
set_option maxRecDepth 20000 in
theorem ggX5_isRedundant_X5_flag : GoodIn wsX5_isRedundant wsX5_flag := goodIn_r _ [28] (by decide +kernel) (by decide +kernel)
set_option maxRecDepth 20000 in
theorem gX5_isRedundant_X5_flag : GoodIn wsX5_isRedundant (va_wsS RX5 115 yX5_flag wsX5_flag) := goodIn_app (goodIn_of _ (by decide +kernel)) ggX5_isRedundant_X5_flag
theorem dX5_isRedundant_0 : decode cX5_isRedundant 0 = .ok (.aload_n 0, 1) := by decide +kernel
theorem dX5_isRedundant_1 : decode cX5_isRedundant 1 = .ok (.getfield 12, 3) := by decide +kernel
theorem dX5_isRedundant_4 : decode cX5_isRedundant 4 = .ok (.iload_n 1, 1) := by decide +kernel
theorem dX5_isRedundant_5 : decode cX5_isRedundant 5 = .ok (.invokevirtual 75, 3) := by decide +kernel
theorem dX5_isRedundant_8 : decode cX5_isRedundant 8 = .ok (.ifCond .ne 10, 3) := by decide +kernel
theorem dX5_isRedundant_11 : decode cX5_isRedundant 11 = .ok (.aload_n 0, 1) := by decide +kernel
theorem dX5_isRedundant_12 : decode cX5_isRedundant 12 = .ok (.bipush (-2), 2) := by decide +kernel
theorem dX5_isRedundant_14 : decode cX5_isRedundant 14 = .ok (.invokevirtual 48, 3) := by decide +kernel
theorem dX5_isRedundant_17 : decode cX5_isRedundant 17 = .ok (.ireturn, 1) := by decide +kernel
theorem dX5_isRedundant_18 : decode cX5_isRedundant 18 = .ok (.aload_n 0, 1) := by decide +kernel
theorem dX5_isRedundant_19 : decode cX5_isRedundant 19 = .ok (.getfield 12, 3) := by decide +kernel
theorem dX5_isRedundant_22 : decode cX5_isRedundant 22 = .ok (.iload_n 1, 1) := by decide +kernel
theorem dX5_isRedundant_23 : decode cX5_isRedundant 23 = .ok (.invokevirtual 112, 3) := by decide +kernel
theorem dX5_isRedundant_26 : decode cX5_isRedundant 26 = .ok (.invokestatic 115, 3) := by decide +kernel
theorem dX5_isRedundant_29 : decode cX5_isRedundant 29 = .ok (.ireturn, 1) := by decide +kernel
set_option maxRecDepth 20000 in
theorem ggX5_removeRedundant_X2_push : GoodIn wsX5_removeRedundant wsX2_push := goodIn_r _ [6, 7, 8, 9, 10, 11, 4, 12, 13, 14, 15, 16, 17, 18, 19, 20, 21, 22, 23, 24, 25, 26, 27, 28, 29, 30, 110, 111, 100, 101, 102, 103, 104, 105, 106, 107, 108, 109] (by decide +kernel) (by decide +kernel)
set_option maxRecDepth 20000 in
theorem gX5_removeRedundant_X2_push_n52 : GoodIn wsX5_removeRedundant (wsX2_push) := ggX5_removeRedundant_X2_push
set_option maxRecDepth 20000 in
theorem ggX5_removeRedundant_X4_isSpare : GoodIn wsX5_removeRedundant wsX4_isSpare := goodIn_r _ [33, 18, 27, 28, 34, 35, 36, 37, 38, 39, 40, 14, 41, 19, 100, 101, 102, 103, 104, 105, 106, 107, 108, 109] (by decide +kernel) (by decide +kernel)
set_option maxRecDepth 20000 in
theorem gX5_removeRedundant_X4_isSpare_n112 : GoodIn wsX5_removeRedundant (wsX4_isSpare) := ggX5_removeRedundant_X4_isSpare
set_option maxRecDepth 20000 in
theorem ggX5_removeRedundant_X4_dropTerm : GoodIn wsX5_removeRedundant wsX4_dropTerm := goodIn_r _ [44, 19, 21, 26, 27, 28, 45, 46, 47, 14, 48, 29, 30, 20, 49, 50, 51, 52, 100, 101, 102, 103, 104, 105, 106, 107, 108, 109] (by decide +kernel) (by decide +kernel)
set_option maxRecDepth 20000 in
theorem gX5_removeRedundant_X4_dropTerm_n79 : GoodIn wsX5_removeRedundant (wsX4_dropTerm) := ggX5_removeRedundant_X4_dropTerm
set_option maxRecDepth 20000 in
theorem ggX5_removeRedundant_X5_termsChanged : GoodIn wsX5_removeRedundant wsX5_termsChanged := goodIn_r _ [56, 57, 58, 59, 60, 36, 61, 62, 2, 63, 64, 65, 66, 67, 68, 69, 70, 71, 72, 73, 50, 51, 52, 74, 14, 75, 76, 19, 21, 26, 27, 35, 37, 77, 78, 79, 80, 81, 82, 83, 84, 85, 86, 87, 88, 89, 90, 91, 92, 93, 94, 95, 96, 97, 98, 99, 112, 113, 114, 115, 116, 117, 118, 119, 120, 100, 101, 102, 103, 104, 105, 106, 107, 108, 109, 121, 122, 123] (by decide +kernel) (by decide +kernel)
set_option maxRecDepth 20000 in
theorem gX5_removeRedundant_X5_termsChanged : GoodIn wsX5_removeRedundant (wsV RX5 64 RX5 yX5_termsChanged wsX5_termsChanged) := goodIn_app (goodIn_of _ (by decide +kernel)) ggX5_removeRedundant_X5_termsChanged
theorem dX5_removeRedundant_0 : decode cX5_removeRedundant 0 = .ok (.aload_n 0, 1) := by decide +kernel
theorem dX5_removeRedundant_1 : decode cX5_removeRedundant 1 = .ok (.getfield 19, 3) := by decide +kernel
theorem dX5_removeRedundant_4 : decode cX5_removeRedundant 4 = .ok (.aload_n 0, 1) := by decide +kernel
theorem dX5_removeRedundant_5 : decode cX5_removeRedundant 5 = .ok (.getfield 12, 3) := by decide +kernel
theorem dX5_removeRedundant_8 : decode cX5_removeRedundant 8 = .ok (.invokevirtual 52, 3) := by decide +kernel
theorem dX5_removeRedundant_11 : decode cX5_removeRedundant 11 = .ok (.aload_n 0, 1) := by decide +kernel
theorem dX5_removeRedundant_12 : decode cX5_removeRedundant 12 = .ok (.getfield 12, 3) := by decide +kernel
theorem dX5_removeRedundant_15 : decode cX5_removeRedundant 15 = .ok (.getfield 56, 3) := by decide +kernel
theorem dX5_removeRedundant_18 : decode cX5_removeRedundant 18 = .ok (.istore_n 1, 1) := by decide +kernel
theorem dX5_removeRedundant_19 : decode cX5_removeRedundant 19 = .ok (.iload_n 1, 1) := by decide +kernel
theorem dX5_removeRedundant_20 : decode cX5_removeRedundant 20 = .ok (.iconst 1, 1) := by decide +kernel
theorem dX5_removeRedundant_21 : decode cX5_removeRedundant 21 = .ok (.isub, 1) := by decide +kernel
theorem dX5_removeRedundant_22 : decode cX5_removeRedundant 22 = .ok (.istore_n 2, 1) := by decide +kernel
theorem dX5_removeRedundant_23 : decode cX5_removeRedundant 23 = .ok (.iload_n 2, 1) := by decide +kernel
theorem dX5_removeRedundant_24 : decode cX5_removeRedundant 24 = .ok (.ifCond .lt 28, 3) := by decide +kernel
theorem dX5_removeRedundant_27 : decode cX5_removeRedundant 27 = .ok (.aload_n 0, 1) := by decide +kernel
theorem dX5_removeRedundant_28 : decode cX5_removeRedundant 28 = .ok (.getfield 12, 3) := by decide +kernel
theorem dX5_removeRedundant_31 : decode cX5_removeRedundant 31 = .ok (.iload_n 2, 1) := by decide +kernel
theorem dX5_removeRedundant_32 : decode cX5_removeRedundant 32 = .ok (.invokevirtual 112, 3) := by decide +kernel
theorem dX5_removeRedundant_35 : decode cX5_removeRedundant 35 = .ok (.ifCond .eq 11, 3) := by decide +kernel
theorem dX5_removeRedundant_38 : decode cX5_removeRedundant 38 = .ok (.aload_n 0, 1) := by decide +kernel
theorem dX5_removeRedundant_39 : decode cX5_removeRedundant 39 = .ok (.getfield 12, 3) := by decide +kernel
theorem dX5_removeRedundant_42 : decode cX5_removeRedundant 42 = .ok (.iload_n 2, 1) := by decide +kernel
theorem dX5_removeRedundant_43 : decode cX5_removeRedundant 43 = .ok (.invokevirtual 79, 3) := by decide +kernel
theorem dX5_removeRedundant_46 : decode cX5_removeRedundant 46 = .ok (.iinc 2 (-1), 3) := by decide +kernel
theorem dX5_removeRedundant_49 : decode cX5_removeRedundant 49 = .ok (.goto (-26), 3) := by decide +kernel
theorem dX5_removeRedundant_52 : decode cX5_removeRedundant 52 = .ok (.aload_n 0, 1) := by decide +kernel
theorem dX5_removeRedundant_53 : decode cX5_removeRedundant 53 = .ok (.getfield 12, 3) := by decide +kernel
theorem dX5_removeRedundant_56 : decode cX5_removeRedundant 56 = .ok (.getfield 56, 3) := by decide +kernel
theorem dX5_removeRedundant_59 : decode cX5_removeRedundant 59 = .ok (.iload_n 1, 1) := by decide +kernel
theorem dX5_removeRedundant_60 : decode cX5_removeRedundant 60 = .ok (.if_icmp .ge 7, 3) := by decide +kernel
theorem dX5_removeRedundant_63 : decode cX5_removeRedundant 63 = .ok (.aload_n 0, 1) := by decide +kernel
theorem dX5_removeRedundant_64 : decode cX5_removeRedundant 64 = .ok (.invokevirtual 64, 3) := by decide +kernel
theorem dX5_removeRedundant_67 : decode cX5_removeRedundant 67 = .ok (.iload_n 1, 1) := by decide +kernel
theorem dX5_removeRedundant_68 : decode cX5_removeRedundant 68 = .ok (.aload_n 0, 1) := by decide +kernel
theorem dX5_removeRedundant_69 : decode cX5_removeRedundant 69 = .ok (.getfield 12, 3) := by decide +kernel
theorem dX5_removeRedundant_72 : decode cX5_removeRedundant 72 = .ok (.getfield 56, 3) := by decide +kernel
theorem dX5_removeRedundant_75 : decode cX5_removeRedundant 75 = .ok (.isub, 1) := by decide +kernel
theorem dX5_removeRedundant_76 : decode cX5_removeRedundant 76 = .ok (.ireturn, 1) := by decide +kernel
set_option maxRecDepth 20000 in
theorem ggX5_uses_X4_hasColumn : GoodIn wsX5_uses wsX4_hasColumn := goodIn_r _ [5, 6, 7, 29, 30, 31, 32, 33, 34, 35, 36, 37, 38] (by decide +kernel) (by decide +kernel)
set_option maxRecDepth 20000 in
theorem gX5_uses_X4_hasColumn_n119 : GoodIn wsX5_uses (wsX4_hasColumn) := ggX5_uses_X4_hasColumn
set_option maxRecDepth 20000 in
theorem ggX5_uses_X5_fail : GoodIn wsX5_uses wsX5_fail := goodIn_r _ [12, 13, 23, 24, 25, 26, 27, 28] (by decide +kernel) (by decide +kernel)
set_option maxRecDepth 20000 in
theorem gX5_uses_X5_fail : GoodIn wsX5_uses (wsV RX5 48 RX5 yX5_fail wsX5_fail) := goodIn_app (goodIn_of _ (by decide +kernel)) ggX5_uses_X5_fail
set_option maxRecDepth 20000 in
theorem ggX5_uses_X4_termsOfColumn : GoodIn wsX5_uses wsX4_termsOfColumn := goodIn_r _ [16, 17, 18, 19, 20, 21, 11, 22, 29, 30, 31, 32, 33, 34, 35, 36, 37, 38] (by decide +kernel) (by decide +kernel)
set_option maxRecDepth 20000 in
theorem gX5_uses_X4_termsOfColumn_n122 : GoodIn wsX5_uses (wsX4_termsOfColumn) := ggX5_uses_X4_termsOfColumn
theorem dX5_uses_0 : decode cX5_uses 0 = .ok (.aload_n 0, 1) := by decide +kernel
theorem dX5_uses_1 : decode cX5_uses 1 = .ok (.getfield 12, 3) := by decide +kernel
theorem dX5_uses_4 : decode cX5_uses 4 = .ok (.iload_n 1, 1) := by decide +kernel
theorem dX5_uses_5 : decode cX5_uses 5 = .ok (.invokevirtual 119, 3) := by decide +kernel
theorem dX5_uses_8 : decode cX5_uses 8 = .ok (.ifCond .ne 10, 3) := by decide +kernel
theorem dX5_uses_11 : decode cX5_uses 11 = .ok (.aload_n 0, 1) := by decide +kernel
theorem dX5_uses_12 : decode cX5_uses 12 = .ok (.bipush (-2), 2) := by decide +kernel
theorem dX5_uses_14 : decode cX5_uses 14 = .ok (.invokevirtual 48, 3) := by decide +kernel
theorem dX5_uses_17 : decode cX5_uses 17 = .ok (.ireturn, 1) := by decide +kernel
theorem dX5_uses_18 : decode cX5_uses 18 = .ok (.aload_n 0, 1) := by decide +kernel
theorem dX5_uses_19 : decode cX5_uses 19 = .ok (.getfield 12, 3) := by decide +kernel
theorem dX5_uses_22 : decode cX5_uses 22 = .ok (.iload_n 1, 1) := by decide +kernel
theorem dX5_uses_23 : decode cX5_uses 23 = .ok (.invokevirtual 122, 3) := by decide +kernel
theorem dX5_uses_26 : decode cX5_uses 26 = .ok (.ireturn, 1) := by decide +kernel
set_option maxRecDepth 20000 in
theorem ggX5_canFold_X4_hasColumn : GoodIn wsX5_canFold wsX4_hasColumn := goodIn_r _ [5, 6, 7, 36, 37, 38, 39, 40, 41, 42, 43, 44, 45] (by decide +kernel) (by decide +kernel)
set_option maxRecDepth 20000 in
theorem gX5_canFold_X4_hasColumn_n119 : GoodIn wsX5_canFold (wsX4_hasColumn) := ggX5_canFold_X4_hasColumn
set_option maxRecDepth 20000 in
theorem ggX5_canFold_X5_fail : GoodIn wsX5_canFold wsX5_fail := goodIn_r _ [12, 13, 30, 31, 32, 33, 34, 35] (by decide +kernel) (by decide +kernel)
set_option maxRecDepth 20000 in
theorem gX5_canFold_X5_fail : GoodIn wsX5_canFold (wsV RX5 48 RX5 yX5_fail wsX5_fail) := goodIn_app (goodIn_of _ (by decide +kernel)) ggX5_canFold_X5_fail
set_option maxRecDepth 20000 in
theorem ggX5_canFold_X4_isPair : GoodIn wsX5_canFold wsX4_isPair := goodIn_r _ [16, 17, 18, 19, 3, 20, 21, 22, 23, 24, 25, 11, 26, 36, 37, 38, 39, 40, 41, 42, 43, 44, 45] (by decide +kernel) (by decide +kernel)
set_option maxRecDepth 20000 in
theorem gX5_canFold_X4_isPair_n125 : GoodIn wsX5_canFold (wsX4_isPair) := ggX5_canFold_X4_isPair
set_option maxRecDepth 20000 in
theorem ggX5_canFold_X5_flag : GoodIn wsX5_canFold wsX5_flag := goodIn_r _ [29] (by decide +kernel) (by decide +kernel)
set_option maxRecDepth 20000 in
theorem gX5_canFold_X5_flag : GoodIn wsX5_canFold (va_wsS RX5 115 yX5_flag wsX5_flag) := goodIn_app (goodIn_of _ (by decide +kernel)) ggX5_canFold_X5_flag
theorem dX5_canFold_0 : decode cX5_canFold 0 = .ok (.aload_n 0, 1) := by decide +kernel
theorem dX5_canFold_1 : decode cX5_canFold 1 = .ok (.getfield 12, 3) := by decide +kernel
theorem dX5_canFold_4 : decode cX5_canFold 4 = .ok (.iload_n 1, 1) := by decide +kernel
theorem dX5_canFold_5 : decode cX5_canFold 5 = .ok (.invokevirtual 119, 3) := by decide +kernel
theorem dX5_canFold_8 : decode cX5_canFold 8 = .ok (.ifCond .eq 14, 3) := by decide +kernel
theorem dX5_canFold_11 : decode cX5_canFold 11 = .ok (.aload_n 0, 1) := by decide +kernel
theorem dX5_canFold_12 : decode cX5_canFold 12 = .ok (.getfield 12, 3) := by decide +kernel
theorem dX5_canFold_15 : decode cX5_canFold 15 = .ok (.iload_n 2, 1) := by decide +kernel
theorem dX5_canFold_16 : decode cX5_canFold 16 = .ok (.invokevirtual 119, 3) := by decide +kernel
theorem dX5_canFold_19 : decode cX5_canFold 19 = .ok (.ifCond .ne 10, 3) := by decide +kernel
theorem dX5_canFold_22 : decode cX5_canFold 22 = .ok (.aload_n 0, 1) := by decide +kernel
theorem dX5_canFold_23 : decode cX5_canFold 23 = .ok (.bipush (-2), 2) := by decide +kernel
theorem dX5_canFold_25 : decode cX5_canFold 25 = .ok (.invokevirtual 48, 3) := by decide +kernel
theorem dX5_canFold_28 : decode cX5_canFold 28 = .ok (.ireturn, 1) := by decide +kernel
theorem dX5_canFold_29 : decode cX5_canFold 29 = .ok (.aload_n 0, 1) := by decide +kernel
theorem dX5_canFold_30 : decode cX5_canFold 30 = .ok (.getfield 12, 3) := by decide +kernel
theorem dX5_canFold_33 : decode cX5_canFold 33 = .ok (.iload_n 1, 1) := by decide +kernel
theorem dX5_canFold_34 : decode cX5_canFold 34 = .ok (.iload_n 2, 1) := by decide +kernel
theorem dX5_canFold_35 : decode cX5_canFold 35 = .ok (.invokevirtual 125, 3) := by decide +kernel
theorem dX5_canFold_38 : decode cX5_canFold 38 = .ok (.invokestatic 115, 3) := by decide +kernel
theorem dX5_canFold_41 : decode cX5_canFold 41 = .ok (.ireturn, 1) := by decide +kernel
set_option maxRecDepth 20000 in
theorem ggX5_fold_X4_hasColumn : GoodIn wsX5_fold wsX4_hasColumn := goodIn_r _ [7, 8, 9, 100, 101, 102, 103, 104, 105, 106, 107, 108, 109] (by decide +kernel) (by decide +kernel)
set_option maxRecDepth 20000 in
theorem gX5_fold_X4_hasColumn_n119 : GoodIn wsX5_fold (wsX4_hasColumn) := ggX5_fold_X4_hasColumn
set_option maxRecDepth 20000 in
theorem ggX5_fold_X5_fail : GoodIn wsX5_fold wsX5_fail := goodIn_r _ [14, 15, 94, 95, 96, 97, 98, 99] (by decide +kernel) (by decide +kernel)
set_option maxRecDepth 20000 in
theorem gX5_fold_X5_fail : GoodIn wsX5_fold (wsV RX5 48 RX5 yX5_fail wsX5_fail) := goodIn_app (goodIn_of _ (by decide +kernel)) ggX5_fold_X5_fail
set_option maxRecDepth 20000 in
theorem ggX5_fold_X4_isPair : GoodIn wsX5_fold wsX4_isPair := goodIn_r _ [18, 19, 20, 21, 5, 22, 23, 24, 25, 26, 27, 13, 28, 100, 101, 102, 103, 104, 105, 106, 107, 108, 109] (by decide +kernel) (by decide +kernel)
set_option maxRecDepth 20000 in
theorem gX5_fold_X4_isPair_n125 : GoodIn wsX5_fold (wsX4_isPair) := ggX5_fold_X4_isPair
set_option maxRecDepth 20000 in
theorem ggX5_fold_X4_mateOf : GoodIn wsX5_fold wsX4_mateOf := goodIn_r _ [31, 32, 33, 100, 101, 102, 103, 104, 105, 106, 107, 108, 109] (by decide +kernel) (by decide +kernel)
set_option maxRecDepth 20000 in
theorem gX5_fold_X4_mateOf_n129 : GoodIn wsX5_fold (wsX4_mateOf) := ggX5_fold_X4_mateOf
set_option maxRecDepth 20000 in
theorem ggX5_fold_X4_termsOfColumn : GoodIn wsX5_fold wsX4_termsOfColumn := goodIn_r _ [22, 23, 24, 25, 26, 27, 13, 28, 100, 101, 102, 103, 104, 105, 106, 107, 108, 109] (by decide +kernel) (by decide +kernel)
set_option maxRecDepth 20000 in
theorem gX5_fold_X4_termsOfColumn_n122 : GoodIn wsX5_fold (wsX4_termsOfColumn) := ggX5_fold_X4_termsOfColumn
set_option maxRecDepth 20000 in
theorem ggX5_fold_X1_allow : GoodIn wsX5_fold wsX1_allow := goodIn_r _ [37, 38, 39, 40, 35, 41, 42, 27, 13, 28, 110] (by decide +kernel) (by decide +kernel)
set_option maxRecDepth 20000 in
theorem gX5_fold_X1_allow_n132 : GoodIn wsX5_fold (wsX1_allow) := ggX5_fold_X1_allow
set_option maxRecDepth 20000 in
theorem ggX5_fold_X2_push : GoodIn wsX5_fold wsX2_push := goodIn_r _ [46, 47, 48, 49, 50, 51, 44, 52, 53, 5, 54, 55, 8, 9, 23, 56, 24, 57, 58, 59, 60, 25, 26, 61, 32, 33, 111, 112, 100, 101, 102, 103, 104, 105, 106, 107, 108, 109] (by decide +kernel) (by decide +kernel)
set_option maxRecDepth 20000 in
theorem gX5_fold_X2_push_n52 : GoodIn wsX5_fold (wsX2_push) := ggX5_fold_X2_push
set_option maxRecDepth 20000 in
theorem ggX5_fold_X4_join : GoodIn wsX5_fold wsX4_join := goodIn_r _ [64, 32, 33, 56, 100, 101, 102, 103, 104, 105, 106, 107, 108, 109] (by decide +kernel) (by decide +kernel)
set_option maxRecDepth 20000 in
theorem gX5_fold_X4_join_n135 : GoodIn wsX5_fold (wsX4_join) := ggX5_fold_X4_join
set_option maxRecDepth 20000 in
theorem ggX5_fold_X5_foldsChanged : GoodIn wsX5_fold wsX5_foldsChanged := goodIn_r _ [68, 2, 1, 69, 70, 35, 71, 72, 73, 74, 75, 76, 42, 77, 78, 79, 80, 20, 5, 21, 22, 23, 24, 25, 26, 27, 13, 28, 81, 82, 83, 84, 38, 39, 40, 41, 85, 86, 87, 88, 89, 90, 91, 92, 93, 94, 95, 96, 97, 98, 99, 100, 101, 102, 103, 104, 105, 106, 107, 108, 109, 110, 113, 114] (by decide +kernel) (by decide +kernel)
set_option maxRecDepth 20000 in
theorem gX5_fold_X5_foldsChanged : GoodIn wsX5_fold (wsV RX5 138 RX5 yX5_foldsChanged wsX5_foldsChanged) := goodIn_app (goodIn_of _ (by decide +kernel)) ggX5_fold_X5_foldsChanged
theorem dX5_fold_0 : decode cX5_fold 0 = .ok (.aload_n 0, 1) := by decide +kernel
theorem dX5_fold_1 : decode cX5_fold 1 = .ok (.getfield 12, 3) := by decide +kernel
theorem dX5_fold_4 : decode cX5_fold 4 = .ok (.iload_n 1, 1) := by decide +kernel
theorem dX5_fold_5 : decode cX5_fold 5 = .ok (.invokevirtual 119, 3) := by decide +kernel
theorem dX5_fold_8 : decode cX5_fold 8 = .ok (.ifCond .eq 14, 3) := by decide +kernel
theorem dX5_fold_11 : decode cX5_fold 11 = .ok (.aload_n 0, 1) := by decide +kernel
theorem dX5_fold_12 : decode cX5_fold 12 = .ok (.getfield 12, 3) := by decide +kernel
theorem dX5_fold_15 : decode cX5_fold 15 = .ok (.iload_n 2, 1) := by decide +kernel
theorem dX5_fold_16 : decode cX5_fold 16 = .ok (.invokevirtual 119, 3) := by decide +kernel
theorem dX5_fold_19 : decode cX5_fold 19 = .ok (.ifCond .ne 10, 3) := by decide +kernel
theorem dX5_fold_22 : decode cX5_fold 22 = .ok (.aload_n 0, 1) := by decide +kernel
theorem dX5_fold_23 : decode cX5_fold 23 = .ok (.bipush (-2), 2) := by decide +kernel
theorem dX5_fold_25 : decode cX5_fold 25 = .ok (.invokevirtual 48, 3) := by decide +kernel
theorem dX5_fold_28 : decode cX5_fold 28 = .ok (.ireturn, 1) := by decide +kernel
theorem dX5_fold_29 : decode cX5_fold 29 = .ok (.aload_n 0, 1) := by decide +kernel
theorem dX5_fold_30 : decode cX5_fold 30 = .ok (.getfield 12, 3) := by decide +kernel
theorem dX5_fold_33 : decode cX5_fold 33 = .ok (.iload_n 1, 1) := by decide +kernel
theorem dX5_fold_34 : decode cX5_fold 34 = .ok (.iload_n 2, 1) := by decide +kernel
theorem dX5_fold_35 : decode cX5_fold 35 = .ok (.invokevirtual 125, 3) := by decide +kernel
theorem dX5_fold_38 : decode cX5_fold 38 = .ok (.ifCond .eq 27, 3) := by decide +kernel
theorem dX5_fold_41 : decode cX5_fold 41 = .ok (.aload_n 0, 1) := by decide +kernel
theorem dX5_fold_42 : decode cX5_fold 42 = .ok (.getfield 12, 3) := by decide +kernel
theorem dX5_fold_45 : decode cX5_fold 45 = .ok (.iload_n 1, 1) := by decide +kernel
theorem dX5_fold_46 : decode cX5_fold 46 = .ok (.invokevirtual 129, 3) := by decide +kernel
theorem dX5_fold_49 : decode cX5_fold 49 = .ok (.iconst (-1), 1) := by decide +kernel
theorem dX5_fold_50 : decode cX5_fold 50 = .ok (.if_icmp .ne 15, 3) := by decide +kernel
theorem dX5_fold_53 : decode cX5_fold 53 = .ok (.aload_n 0, 1) := by decide +kernel
theorem dX5_fold_54 : decode cX5_fold 54 = .ok (.getfield 12, 3) := by decide +kernel
theorem dX5_fold_57 : decode cX5_fold 57 = .ok (.iload_n 2, 1) := by decide +kernel
theorem dX5_fold_58 : decode cX5_fold 58 = .ok (.invokevirtual 129, 3) := by decide +kernel
theorem dX5_fold_61 : decode cX5_fold 61 = .ok (.iconst (-1), 1) := by decide +kernel
theorem dX5_fold_62 : decode cX5_fold 62 = .ok (.if_icmp .eq 10, 3) := by decide +kernel
theorem dX5_fold_65 : decode cX5_fold 65 = .ok (.aload_n 0, 1) := by decide +kernel
theorem dX5_fold_66 : decode cX5_fold 66 = .ok (.bipush (-3), 2) := by decide +kernel
theorem dX5_fold_68 : decode cX5_fold 68 = .ok (.invokevirtual 48, 3) := by decide +kernel
theorem dX5_fold_71 : decode cX5_fold 71 = .ok (.ireturn, 1) := by decide +kernel
theorem dX5_fold_72 : decode cX5_fold 72 = .ok (.aload_n 0, 1) := by decide +kernel
theorem dX5_fold_73 : decode cX5_fold 73 = .ok (.getfield 26, 3) := by decide +kernel
theorem dX5_fold_76 : decode cX5_fold 76 = .ok (.aload_n 0, 1) := by decide +kernel
theorem dX5_fold_77 : decode cX5_fold 77 = .ok (.getfield 12, 3) := by decide +kernel
theorem dX5_fold_80 : decode cX5_fold 80 = .ok (.iload_n 1, 1) := by decide +kernel
theorem dX5_fold_81 : decode cX5_fold 81 = .ok (.invokevirtual 122, 3) := by decide +kernel
theorem dX5_fold_84 : decode cX5_fold 84 = .ok (.aload_n 0, 1) := by decide +kernel
theorem dX5_fold_85 : decode cX5_fold 85 = .ok (.getfield 12, 3) := by decide +kernel
theorem dX5_fold_88 : decode cX5_fold 88 = .ok (.iload_n 2, 1) := by decide +kernel
theorem dX5_fold_89 : decode cX5_fold 89 = .ok (.invokevirtual 122, 3) := by decide +kernel
theorem dX5_fold_92 : decode cX5_fold 92 = .ok (.invokevirtual 132, 3) := by decide +kernel
theorem dX5_fold_95 : decode cX5_fold 95 = .ok (.ifCond .ne 10, 3) := by decide +kernel
theorem dX5_fold_98 : decode cX5_fold 98 = .ok (.aload_n 0, 1) := by decide +kernel
theorem dX5_fold_99 : decode cX5_fold 99 = .ok (.bipush (-4), 2) := by decide +kernel
theorem dX5_fold_101 : decode cX5_fold 101 = .ok (.invokevirtual 48, 3) := by decide +kernel
theorem dX5_fold_104 : decode cX5_fold 104 = .ok (.ireturn, 1) := by decide +kernel
theorem dX5_fold_105 : decode cX5_fold 105 = .ok (.aload_n 0, 1) := by decide +kernel
theorem dX5_fold_106 : decode cX5_fold 106 = .ok (.getfield 19, 3) := by decide +kernel
theorem dX5_fold_109 : decode cX5_fold 109 = .ok (.aload_n 0, 1) := by decide +kernel
theorem dX5_fold_110 : decode cX5_fold 110 = .ok (.getfield 12, 3) := by decide +kernel
theorem dX5_fold_113 : decode cX5_fold 113 = .ok (.invokevirtual 52, 3) := by decide +kernel
theorem dX5_fold_116 : decode cX5_fold 116 = .ok (.aload_n 0, 1) := by decide +kernel
theorem dX5_fold_117 : decode cX5_fold 117 = .ok (.getfield 12, 3) := by decide +kernel
theorem dX5_fold_120 : decode cX5_fold 120 = .ok (.iload_n 1, 1) := by decide +kernel
theorem dX5_fold_121 : decode cX5_fold 121 = .ok (.iload_n 2, 1) := by decide +kernel
theorem dX5_fold_122 : decode cX5_fold 122 = .ok (.invokevirtual 135, 3) := by decide +kernel
theorem dX5_fold_125 : decode cX5_fold 125 = .ok (.aload_n 0, 1) := by decide +kernel
theorem dX5_fold_126 : decode cX5_fold 126 = .ok (.invokevirtual 138, 3) := by decide +kernel
theorem dX5_fold_129 : decode cX5_fold 129 = .ok (.aload_n 0, 1) := by decide +kernel
theorem dX5_fold_130 : decode cX5_fold 130 = .ok (.getfield 12, 3) := by decide +kernel
theorem dX5_fold_133 : decode cX5_fold 133 = .ok (.getfield 141, 3) := by decide +kernel
theorem dX5_fold_136 : decode cX5_fold 136 = .ok (.ireturn, 1) := by decide +kernel
set_option maxRecDepth 20000 in
theorem ggX5_unfold_X4_hasColumn : GoodIn wsX5_unfold wsX4_hasColumn := goodIn_r _ [6, 7, 8, 94, 95, 96, 97, 98, 99, 100, 101, 102, 103] (by decide +kernel) (by decide +kernel)
set_option maxRecDepth 20000 in
theorem gX5_unfold_X4_hasColumn_n119 : GoodIn wsX5_unfold (wsX4_hasColumn) := ggX5_unfold_X4_hasColumn
set_option maxRecDepth 20000 in
theorem ggX5_unfold_X5_fail : GoodIn wsX5_unfold wsX5_fail := goodIn_r _ [13, 14, 88, 89, 90, 91, 92, 93] (by decide +kernel) (by decide +kernel)
set_option maxRecDepth 20000 in
theorem gX5_unfold_X5_fail : GoodIn wsX5_unfold (wsV RX5 48 RX5 yX5_fail wsX5_fail) := goodIn_app (goodIn_of _ (by decide +kernel)) ggX5_unfold_X5_fail
set_option maxRecDepth 20000 in
theorem ggX5_unfold_X4_mateOf : GoodIn wsX5_unfold wsX4_mateOf := goodIn_r _ [17, 18, 19, 94, 95, 96, 97, 98, 99, 100, 101, 102, 103] (by decide +kernel) (by decide +kernel)
set_option maxRecDepth 20000 in
theorem gX5_unfold_X4_mateOf_n129 : GoodIn wsX5_unfold (wsX4_mateOf) := ggX5_unfold_X4_mateOf
set_option maxRecDepth 20000 in
theorem ggX5_unfold_X2_push : GoodIn wsX5_unfold wsX2_push := goodIn_r _ [23, 24, 25, 26, 27, 28, 21, 29, 30, 4, 31, 32, 7, 8, 33, 34, 35, 36, 37, 38, 39, 40, 41, 42, 18, 19, 104, 105, 94, 95, 96, 97, 98, 99, 100, 101, 102, 103] (by decide +kernel) (by decide +kernel)
set_option maxRecDepth 20000 in
theorem gX5_unfold_X2_push_n52 : GoodIn wsX5_unfold (wsX2_push) := ggX5_unfold_X2_push
set_option maxRecDepth 20000 in
theorem ggX5_unfold_X4_part : GoodIn wsX5_unfold wsX4_part := goodIn_r _ [45, 18, 19, 34, 46, 15, 16, 4, 17, 94, 95, 96, 97, 98, 99, 100, 101, 102, 103] (by decide +kernel) (by decide +kernel)
set_option maxRecDepth 20000 in
theorem gX5_unfold_X4_part_n144 : GoodIn wsX5_unfold (wsX4_part) := ggX5_unfold_X4_part
set_option maxRecDepth 20000 in
theorem ggX5_unfold_X5_foldsChanged : GoodIn wsX5_unfold wsX5_foldsChanged := goodIn_r _ [50, 51, 1, 52, 53, 54, 55, 56, 57, 58, 59, 60, 61, 62, 63, 64, 65, 66, 4, 67, 68, 33, 35, 40, 41, 69, 12, 70, 71, 72, 73, 74, 75, 76, 77, 78, 79, 80, 81, 82, 83, 84, 85, 86, 87, 88, 89, 90, 91, 92, 93, 94, 95, 96, 97, 98, 99, 100, 101, 102, 103, 106, 107, 108] (by decide +kernel) (by decide +kernel)
set_option maxRecDepth 20000 in
theorem gX5_unfold_X5_foldsChanged : GoodIn wsX5_unfold (wsV RX5 138 RX5 yX5_foldsChanged wsX5_foldsChanged) := goodIn_app (goodIn_of _ (by decide +kernel)) ggX5_unfold_X5_foldsChanged
theorem dX5_unfold_0 : decode cX5_unfold 0 = .ok (.aload_n 0, 1) := by decide +kernel
theorem dX5_unfold_1 : decode cX5_unfold 1 = .ok (.getfield 12, 3) := by decide +kernel
theorem dX5_unfold_4 : decode cX5_unfold 4 = .ok (.iload_n 1, 1) := by decide +kernel
theorem dX5_unfold_5 : decode cX5_unfold 5 = .ok (.invokevirtual 119, 3) := by decide +kernel
theorem dX5_unfold_8 : decode cX5_unfold 8 = .ok (.ifCond .ne 10, 3) := by decide +kernel
theorem dX5_unfold_11 : decode cX5_unfold 11 = .ok (.aload_n 0, 1) := by decide +kernel
theorem dX5_unfold_12 : decode cX5_unfold 12 = .ok (.bipush (-2), 2) := by decide +kernel
theorem dX5_unfold_14 : decode cX5_unfold 14 = .ok (.invokevirtual 48, 3) := by decide +kernel
theorem dX5_unfold_17 : decode cX5_unfold 17 = .ok (.ireturn, 1) := by decide +kernel
theorem dX5_unfold_18 : decode cX5_unfold 18 = .ok (.aload_n 0, 1) := by decide +kernel
theorem dX5_unfold_19 : decode cX5_unfold 19 = .ok (.getfield 12, 3) := by decide +kernel
theorem dX5_unfold_22 : decode cX5_unfold 22 = .ok (.iload_n 1, 1) := by decide +kernel
theorem dX5_unfold_23 : decode cX5_unfold 23 = .ok (.invokevirtual 129, 3) := by decide +kernel
theorem dX5_unfold_26 : decode cX5_unfold 26 = .ok (.iconst (-1), 1) := by decide +kernel
theorem dX5_unfold_27 : decode cX5_unfold 27 = .ok (.if_icmp .ne 10, 3) := by decide +kernel
theorem dX5_unfold_30 : decode cX5_unfold 30 = .ok (.aload_n 0, 1) := by decide +kernel
theorem dX5_unfold_31 : decode cX5_unfold 31 = .ok (.bipush (-3), 2) := by decide +kernel
theorem dX5_unfold_33 : decode cX5_unfold 33 = .ok (.invokevirtual 48, 3) := by decide +kernel
theorem dX5_unfold_36 : decode cX5_unfold 36 = .ok (.ireturn, 1) := by decide +kernel
theorem dX5_unfold_37 : decode cX5_unfold 37 = .ok (.aload_n 0, 1) := by decide +kernel
theorem dX5_unfold_38 : decode cX5_unfold 38 = .ok (.getfield 19, 3) := by decide +kernel
theorem dX5_unfold_41 : decode cX5_unfold 41 = .ok (.aload_n 0, 1) := by decide +kernel
theorem dX5_unfold_42 : decode cX5_unfold 42 = .ok (.getfield 12, 3) := by decide +kernel
theorem dX5_unfold_45 : decode cX5_unfold 45 = .ok (.invokevirtual 52, 3) := by decide +kernel
theorem dX5_unfold_48 : decode cX5_unfold 48 = .ok (.aload_n 0, 1) := by decide +kernel
theorem dX5_unfold_49 : decode cX5_unfold 49 = .ok (.getfield 12, 3) := by decide +kernel
theorem dX5_unfold_52 : decode cX5_unfold 52 = .ok (.iload_n 1, 1) := by decide +kernel
theorem dX5_unfold_53 : decode cX5_unfold 53 = .ok (.invokevirtual 144, 3) := by decide +kernel
theorem dX5_unfold_56 : decode cX5_unfold 56 = .ok (.aload_n 0, 1) := by decide +kernel
theorem dX5_unfold_57 : decode cX5_unfold 57 = .ok (.invokevirtual 138, 3) := by decide +kernel
theorem dX5_unfold_60 : decode cX5_unfold 60 = .ok (.aload_n 0, 1) := by decide +kernel
theorem dX5_unfold_61 : decode cX5_unfold 61 = .ok (.getfield 12, 3) := by decide +kernel
theorem dX5_unfold_64 : decode cX5_unfold 64 = .ok (.getfield 141, 3) := by decide +kernel
theorem dX5_unfold_67 : decode cX5_unfold 67 = .ok (.ireturn, 1) := by decide +kernel
set_option maxRecDepth 20000 in
theorem ggX5_partner_X4_hasColumn : GoodIn wsX5_partner wsX4_hasColumn := goodIn_r _ [5, 6, 7, 25, 26, 27, 28, 29, 30, 31, 32, 33, 34] (by decide +kernel) (by decide +kernel)
set_option maxRecDepth 20000 in
theorem gX5_partner_X4_hasColumn_n119 : GoodIn wsX5_partner (wsX4_hasColumn) := ggX5_partner_X4_hasColumn
set_option maxRecDepth 20000 in
theorem ggX5_partner_X5_fail : GoodIn wsX5_partner wsX5_fail := goodIn_r _ [12, 13, 19, 20, 21, 22, 23, 24] (by decide +kernel) (by decide +kernel)
set_option maxRecDepth 20000 in
theorem gX5_partner_X5_fail : GoodIn wsX5_partner (wsV RX5 48 RX5 yX5_fail wsX5_fail) := goodIn_app (goodIn_of _ (by decide +kernel)) ggX5_partner_X5_fail
set_option maxRecDepth 20000 in
theorem ggX5_partner_X4_mateOf : GoodIn wsX5_partner wsX4_mateOf := goodIn_r _ [16, 17, 18, 25, 26, 27, 28, 29, 30, 31, 32, 33, 34] (by decide +kernel) (by decide +kernel)
set_option maxRecDepth 20000 in
theorem gX5_partner_X4_mateOf_n129 : GoodIn wsX5_partner (wsX4_mateOf) := ggX5_partner_X4_mateOf
theorem dX5_partner_0 : decode cX5_partner 0 = .ok (.aload_n 0, 1) := by decide +kernel
theorem dX5_partner_1 : decode cX5_partner 1 = .ok (.getfield 12, 3) := by decide +kernel
theorem dX5_partner_4 : decode cX5_partner 4 = .ok (.iload_n 1, 1) := by decide +kernel
theorem dX5_partner_5 : decode cX5_partner 5 = .ok (.invokevirtual 119, 3) := by decide +kernel
theorem dX5_partner_8 : decode cX5_partner 8 = .ok (.ifCond .ne 10, 3) := by decide +kernel
theorem dX5_partner_11 : decode cX5_partner 11 = .ok (.aload_n 0, 1) := by decide +kernel
theorem dX5_partner_12 : decode cX5_partner 12 = .ok (.bipush (-2), 2) := by decide +kernel
theorem dX5_partner_14 : decode cX5_partner 14 = .ok (.invokevirtual 48, 3) := by decide +kernel
theorem dX5_partner_17 : decode cX5_partner 17 = .ok (.ireturn, 1) := by decide +kernel
theorem dX5_partner_18 : decode cX5_partner 18 = .ok (.aload_n 0, 1) := by decide +kernel
theorem dX5_partner_19 : decode cX5_partner 19 = .ok (.getfield 12, 3) := by decide +kernel
theorem dX5_partner_22 : decode cX5_partner 22 = .ok (.iload_n 1, 1) := by decide +kernel
theorem dX5_partner_23 : decode cX5_partner 23 = .ok (.invokevirtual 129, 3) := by decide +kernel
theorem dX5_partner_26 : decode cX5_partner 26 = .ok (.ireturn, 1) := by decide +kernel
theorem dX5_folds_0 : decode cX5_folds 0 = .ok (.aload_n 0, 1) := by decide +kernel
theorem dX5_folds_1 : decode cX5_folds 1 = .ok (.getfield 12, 3) := by decide +kernel
theorem dX5_folds_4 : decode cX5_folds 4 = .ok (.getfield 141, 3) := by decide +kernel
theorem dX5_folds_7 : decode cX5_folds 7 = .ok (.ireturn, 1) := by decide +kernel
set_option maxRecDepth 20000 in
theorem ggX5_termAt_X4_hasTerm : GoodIn wsX5_termAt wsX4_hasTerm := goodIn_r _ [6, 7, 22, 23, 24, 25, 26, 27, 28, 29, 30, 31] (by decide +kernel) (by decide +kernel)
set_option maxRecDepth 20000 in
theorem gX5_termAt_X4_hasTerm_n75 : GoodIn wsX5_termAt (wsX4_hasTerm) := ggX5_termAt_X4_hasTerm
set_option maxRecDepth 20000 in
theorem ggX5_termAt_X5_fail : GoodIn wsX5_termAt wsX5_fail := goodIn_r _ [12, 13, 14, 15, 16, 17, 18, 19] (by decide +kernel) (by decide +kernel)
set_option maxRecDepth 20000 in
theorem gX5_termAt_X5_fail : GoodIn wsX5_termAt (wsV RX5 48 RX5 yX5_fail wsX5_fail) := goodIn_app (goodIn_of _ (by decide +kernel)) ggX5_termAt_X5_fail
theorem dX5_termAt_0 : decode cX5_termAt 0 = .ok (.aload_n 0, 1) := by decide +kernel
theorem dX5_termAt_1 : decode cX5_termAt 1 = .ok (.getfield 12, 3) := by decide +kernel
theorem dX5_termAt_4 : decode cX5_termAt 4 = .ok (.iload_n 1, 1) := by decide +kernel
theorem dX5_termAt_5 : decode cX5_termAt 5 = .ok (.invokevirtual 75, 3) := by decide +kernel
theorem dX5_termAt_8 : decode cX5_termAt 8 = .ok (.ifCond .ne 10, 3) := by decide +kernel
theorem dX5_termAt_11 : decode cX5_termAt 11 = .ok (.aload_n 0, 1) := by decide +kernel
theorem dX5_termAt_12 : decode cX5_termAt 12 = .ok (.bipush (-2), 2) := by decide +kernel
theorem dX5_termAt_14 : decode cX5_termAt 14 = .ok (.invokevirtual 48, 3) := by decide +kernel
theorem dX5_termAt_17 : decode cX5_termAt 17 = .ok (.ireturn, 1) := by decide +kernel
theorem dX5_termAt_18 : decode cX5_termAt 18 = .ok (.aload_n 0, 1) := by decide +kernel
theorem dX5_termAt_19 : decode cX5_termAt 19 = .ok (.getfield 33, 3) := by decide +kernel
theorem dX5_termAt_22 : decode cX5_termAt 22 = .ok (.getfield 147, 3) := by decide +kernel
theorem dX5_termAt_25 : decode cX5_termAt 25 = .ok (.iload_n 1, 1) := by decide +kernel
theorem dX5_termAt_26 : decode cX5_termAt 26 = .ok (.iaload, 1) := by decide +kernel
theorem dX5_termAt_27 : decode cX5_termAt 27 = .ok (.ireturn, 1) := by decide +kernel
set_option maxRecDepth 20000 in
theorem ggX5_rowOf_X4_hasTerm : GoodIn wsX5_rowOf wsX4_hasTerm := goodIn_r _ [6, 7, 22, 23, 24, 25, 26, 27, 28, 29, 30, 31] (by decide +kernel) (by decide +kernel)
set_option maxRecDepth 20000 in
theorem gX5_rowOf_X4_hasTerm_n75 : GoodIn wsX5_rowOf (wsX4_hasTerm) := ggX5_rowOf_X4_hasTerm
set_option maxRecDepth 20000 in
theorem ggX5_rowOf_X5_fail : GoodIn wsX5_rowOf wsX5_fail := goodIn_r _ [12, 13, 14, 15, 16, 17, 18, 19] (by decide +kernel) (by decide +kernel)
set_option maxRecDepth 20000 in
theorem gX5_rowOf_X5_fail : GoodIn wsX5_rowOf (wsV RX5 48 RX5 yX5_fail wsX5_fail) := goodIn_app (goodIn_of _ (by decide +kernel)) ggX5_rowOf_X5_fail
theorem dX5_rowOf_0 : decode cX5_rowOf 0 = .ok (.aload_n 0, 1) := by decide +kernel
theorem dX5_rowOf_1 : decode cX5_rowOf 1 = .ok (.getfield 12, 3) := by decide +kernel
theorem dX5_rowOf_4 : decode cX5_rowOf 4 = .ok (.iload_n 1, 1) := by decide +kernel
theorem dX5_rowOf_5 : decode cX5_rowOf 5 = .ok (.invokevirtual 75, 3) := by decide +kernel
theorem dX5_rowOf_8 : decode cX5_rowOf 8 = .ok (.ifCond .ne 10, 3) := by decide +kernel
theorem dX5_rowOf_11 : decode cX5_rowOf 11 = .ok (.aload_n 0, 1) := by decide +kernel
theorem dX5_rowOf_12 : decode cX5_rowOf 12 = .ok (.bipush (-2), 2) := by decide +kernel
theorem dX5_rowOf_14 : decode cX5_rowOf 14 = .ok (.invokevirtual 48, 3) := by decide +kernel
theorem dX5_rowOf_17 : decode cX5_rowOf 17 = .ok (.ireturn, 1) := by decide +kernel
theorem dX5_rowOf_18 : decode cX5_rowOf 18 = .ok (.aload_n 0, 1) := by decide +kernel
theorem dX5_rowOf_19 : decode cX5_rowOf 19 = .ok (.getfield 33, 3) := by decide +kernel
theorem dX5_rowOf_22 : decode cX5_rowOf 22 = .ok (.getfield 150, 3) := by decide +kernel
theorem dX5_rowOf_25 : decode cX5_rowOf 25 = .ok (.iload_n 1, 1) := by decide +kernel
theorem dX5_rowOf_26 : decode cX5_rowOf 26 = .ok (.iaload, 1) := by decide +kernel
theorem dX5_rowOf_27 : decode cX5_rowOf 27 = .ok (.ireturn, 1) := by decide +kernel
set_option maxRecDepth 20000 in
theorem ggX5_mustPrecede_X4_hasTerm : GoodIn wsX5_mustPrecede wsX4_hasTerm := goodIn_r _ [6, 7, 27, 28, 29, 30, 31, 32, 33, 34, 35, 36] (by decide +kernel) (by decide +kernel)
set_option maxRecDepth 20000 in
theorem gX5_mustPrecede_X4_hasTerm_n75 : GoodIn wsX5_mustPrecede (wsX4_hasTerm) := ggX5_mustPrecede_X4_hasTerm
set_option maxRecDepth 20000 in
theorem ggX5_mustPrecede_X5_fail : GoodIn wsX5_mustPrecede wsX5_fail := goodIn_r _ [12, 13, 20, 21, 22, 23, 24, 25] (by decide +kernel) (by decide +kernel)
set_option maxRecDepth 20000 in
theorem gX5_mustPrecede_X5_fail : GoodIn wsX5_mustPrecede (wsV RX5 48 RX5 yX5_fail wsX5_fail) := goodIn_app (goodIn_of _ (by decide +kernel)) ggX5_mustPrecede_X5_fail
set_option maxRecDepth 20000 in
theorem ggX5_mustPrecede_X5_contains : GoodIn wsX5_mustPrecede wsX5_contains := goodIn_r _ [16] (by decide +kernel) (by decide +kernel)
set_option maxRecDepth 20000 in
theorem gX5_mustPrecede_X5_contains : GoodIn wsX5_mustPrecede (va_wsS RX5 156 yX5_contains wsX5_contains) := goodIn_app (goodIn_of _ (by decide +kernel)) ggX5_mustPrecede_X5_contains
set_option maxRecDepth 20000 in
theorem ggX5_mustPrecede_X5_flag : GoodIn wsX5_mustPrecede wsX5_flag := goodIn_r _ [19] (by decide +kernel) (by decide +kernel)
set_option maxRecDepth 20000 in
theorem gX5_mustPrecede_X5_flag : GoodIn wsX5_mustPrecede (va_wsS RX5 115 yX5_flag wsX5_flag) := goodIn_app (goodIn_of _ (by decide +kernel)) ggX5_mustPrecede_X5_flag
theorem dX5_mustPrecede_0 : decode cX5_mustPrecede 0 = .ok (.aload_n 0, 1) := by decide +kernel
theorem dX5_mustPrecede_1 : decode cX5_mustPrecede 1 = .ok (.getfield 12, 3) := by decide +kernel
theorem dX5_mustPrecede_4 : decode cX5_mustPrecede 4 = .ok (.iload_n 1, 1) := by decide +kernel
theorem dX5_mustPrecede_5 : decode cX5_mustPrecede 5 = .ok (.invokevirtual 75, 3) := by decide +kernel
theorem dX5_mustPrecede_8 : decode cX5_mustPrecede 8 = .ok (.ifCond .eq 14, 3) := by decide +kernel
theorem dX5_mustPrecede_11 : decode cX5_mustPrecede 11 = .ok (.aload_n 0, 1) := by decide +kernel
theorem dX5_mustPrecede_12 : decode cX5_mustPrecede 12 = .ok (.getfield 12, 3) := by decide +kernel
theorem dX5_mustPrecede_15 : decode cX5_mustPrecede 15 = .ok (.iload_n 2, 1) := by decide +kernel
theorem dX5_mustPrecede_16 : decode cX5_mustPrecede 16 = .ok (.invokevirtual 75, 3) := by decide +kernel
theorem dX5_mustPrecede_19 : decode cX5_mustPrecede 19 = .ok (.ifCond .ne 10, 3) := by decide +kernel
theorem dX5_mustPrecede_22 : decode cX5_mustPrecede 22 = .ok (.aload_n 0, 1) := by decide +kernel
theorem dX5_mustPrecede_23 : decode cX5_mustPrecede 23 = .ok (.bipush (-2), 2) := by decide +kernel
theorem dX5_mustPrecede_25 : decode cX5_mustPrecede 25 = .ok (.invokevirtual 48, 3) := by decide +kernel
theorem dX5_mustPrecede_28 : decode cX5_mustPrecede 28 = .ok (.ireturn, 1) := by decide +kernel
theorem dX5_mustPrecede_29 : decode cX5_mustPrecede 29 = .ok (.aload_n 0, 1) := by decide +kernel
theorem dX5_mustPrecede_30 : decode cX5_mustPrecede 30 = .ok (.getfield 26, 3) := by decide +kernel
theorem dX5_mustPrecede_33 : decode cX5_mustPrecede 33 = .ok (.getfield 153, 3) := by decide +kernel
theorem dX5_mustPrecede_36 : decode cX5_mustPrecede 36 = .ok (.iload_n 2, 1) := by decide +kernel
theorem dX5_mustPrecede_37 : decode cX5_mustPrecede 37 = .ok (.iaload, 1) := by decide +kernel
theorem dX5_mustPrecede_38 : decode cX5_mustPrecede 38 = .ok (.iload_n 1, 1) := by decide +kernel
theorem dX5_mustPrecede_39 : decode cX5_mustPrecede 39 = .ok (.invokestatic 156, 3) := by decide +kernel
theorem dX5_mustPrecede_42 : decode cX5_mustPrecede 42 = .ok (.invokestatic 115, 3) := by decide +kernel
theorem dX5_mustPrecede_45 : decode cX5_mustPrecede 45 = .ok (.ireturn, 1) := by decide +kernel
theorem dX5_area_0 : decode cX5_area 0 = .ok (.aload_n 0, 1) := by decide +kernel
theorem dX5_area_1 : decode cX5_area 1 = .ok (.getfield 12, 3) := by decide +kernel
theorem dX5_area_4 : decode cX5_area 4 = .ok (.getfield 56, 3) := by decide +kernel
theorem dX5_area_7 : decode cX5_area 7 = .ok (.aload_n 0, 1) := by decide +kernel
theorem dX5_area_8 : decode cX5_area 8 = .ok (.getfield 12, 3) := by decide +kernel
theorem dX5_area_11 : decode cX5_area 11 = .ok (.getfield 94, 3) := by decide +kernel
theorem dX5_area_14 : decode cX5_area 14 = .ok (.aload_n 0, 1) := by decide +kernel
theorem dX5_area_15 : decode cX5_area 15 = .ok (.getfield 12, 3) := by decide +kernel
theorem dX5_area_18 : decode cX5_area 18 = .ok (.getfield 100, 3) := by decide +kernel
theorem dX5_area_21 : decode cX5_area 21 = .ok (.iadd, 1) := by decide +kernel
theorem dX5_area_22 : decode cX5_area 22 = .ok (.aload_n 0, 1) := by decide +kernel
theorem dX5_area_23 : decode cX5_area 23 = .ok (.getfield 12, 3) := by decide +kernel
theorem dX5_area_26 : decode cX5_area 26 = .ok (.getfield 141, 3) := by decide +kernel
theorem dX5_area_29 : decode cX5_area 29 = .ok (.isub, 1) := by decide +kernel
theorem dX5_area_30 : decode cX5_area 30 = .ok (.imul, 1) := by decide +kernel
theorem dX5_area_31 : decode cX5_area 31 = .ok (.ireturn, 1) := by decide +kernel
set_option maxRecDepth 20000 in
theorem ggX5_span_X4_hasColumn : GoodIn wsX5_span wsX4_hasColumn := goodIn_r _ [6, 7, 8, 42, 43, 44, 45, 46, 47, 48, 49, 50, 51] (by decide +kernel) (by decide +kernel)
set_option maxRecDepth 20000 in
theorem gX5_span_X4_hasColumn_n119 : GoodIn wsX5_span (wsX4_hasColumn) := ggX5_span_X4_hasColumn
set_option maxRecDepth 20000 in
theorem ggX5_span_X5_fail : GoodIn wsX5_span wsX5_fail := goodIn_r _ [13, 14, 36, 37, 38, 39, 40, 41] (by decide +kernel) (by decide +kernel)
set_option maxRecDepth 20000 in
theorem gX5_span_X5_fail : GoodIn wsX5_span (wsV RX5 48 RX5 yX5_fail wsX5_fail) := goodIn_app (goodIn_of _ (by decide +kernel)) ggX5_span_X5_fail
set_option maxRecDepth 20000 in
theorem ggX5_span_X4_termsOfColumn : GoodIn wsX5_span wsX4_termsOfColumn := goodIn_r _ [17, 18, 19, 20, 21, 22, 12, 23, 42, 43, 44, 45, 46, 47, 48, 49, 50, 51] (by decide +kernel) (by decide +kernel)
set_option maxRecDepth 20000 in
theorem gX5_span_X4_termsOfColumn_n122 : GoodIn wsX5_span (wsX4_termsOfColumn) := ggX5_span_X4_termsOfColumn
set_option maxRecDepth 20000 in
theorem ggX5_span_X3_spread : GoodIn wsX5_span wsX3_spread := goodIn_r _ [27, 28, 29, 30, 31, 32, 33, 34, 35, 22, 12, 23, 52, 53] (by decide +kernel) (by decide +kernel)
set_option maxRecDepth 20000 in
theorem gX5_span_X3_spread_n159 : GoodIn wsX5_span (wsX3_spread) := ggX5_span_X3_spread
theorem dX5_span_0 : decode cX5_span 0 = .ok (.aload_n 0, 1) := by decide +kernel
theorem dX5_span_1 : decode cX5_span 1 = .ok (.getfield 12, 3) := by decide +kernel
theorem dX5_span_4 : decode cX5_span 4 = .ok (.iload_n 1, 1) := by decide +kernel
theorem dX5_span_5 : decode cX5_span 5 = .ok (.invokevirtual 119, 3) := by decide +kernel
theorem dX5_span_8 : decode cX5_span 8 = .ok (.ifCond .ne 10, 3) := by decide +kernel
theorem dX5_span_11 : decode cX5_span 11 = .ok (.aload_n 0, 1) := by decide +kernel
theorem dX5_span_12 : decode cX5_span 12 = .ok (.bipush (-2), 2) := by decide +kernel
theorem dX5_span_14 : decode cX5_span 14 = .ok (.invokevirtual 48, 3) := by decide +kernel
theorem dX5_span_17 : decode cX5_span 17 = .ok (.ireturn, 1) := by decide +kernel
theorem dX5_span_18 : decode cX5_span 18 = .ok (.aload_n 0, 1) := by decide +kernel
theorem dX5_span_19 : decode cX5_span 19 = .ok (.getfield 33, 3) := by decide +kernel
theorem dX5_span_22 : decode cX5_span 22 = .ok (.aload_n 0, 1) := by decide +kernel
theorem dX5_span_23 : decode cX5_span 23 = .ok (.getfield 12, 3) := by decide +kernel
theorem dX5_span_26 : decode cX5_span 26 = .ok (.iload_n 1, 1) := by decide +kernel
theorem dX5_span_27 : decode cX5_span 27 = .ok (.invokevirtual 122, 3) := by decide +kernel
theorem dX5_span_30 : decode cX5_span 30 = .ok (.aload_n 0, 1) := by decide +kernel
theorem dX5_span_31 : decode cX5_span 31 = .ok (.getfield 12, 3) := by decide +kernel
theorem dX5_span_34 : decode cX5_span 34 = .ok (.getfield 56, 3) := by decide +kernel
theorem dX5_span_37 : decode cX5_span 37 = .ok (.invokevirtual 159, 3) := by decide +kernel
theorem dX5_span_40 : decode cX5_span 40 = .ok (.ireturn, 1) := by decide +kernel
set_option maxRecDepth 20000 in
theorem ggX5_bestUpper_X5_fail : GoodIn wsX5_bestUpper wsX5_fail := goodIn_r _ [6, 7, 101, 102, 103, 104, 105, 106] (by decide +kernel) (by decide +kernel)
set_option maxRecDepth 20000 in
theorem gX5_bestUpper_X5_fail : GoodIn wsX5_bestUpper (wsV RX5 48 RX5 yX5_fail wsX5_fail) := goodIn_app (goodIn_of _ (by decide +kernel)) ggX5_bestUpper_X5_fail
set_option maxRecDepth 20000 in
theorem ggX5_bestUpper_X5_findBest : GoodIn wsX5_bestUpper wsX5_findBest := goodIn_r _ [11, 1, 12, 13, 14, 15, 16, 17, 18, 19, 20, 21, 22, 23, 24, 25, 26, 27, 28, 29, 30, 31, 32, 33, 5, 34, 35, 36, 37, 38, 39, 40, 41, 42, 43, 44, 45, 46, 47, 48, 49, 50, 51, 52, 53, 54, 55, 56, 57, 58, 59, 60, 61, 62, 63, 64, 65, 66, 67, 68, 69, 70, 71, 72, 73, 74, 75, 76, 77, 78, 79, 80, 81, 82, 83, 84, 85, 86, 87, 88, 89, 90, 91, 92, 93, 94, 95, 96, 97, 98, 99, 100, 101, 102, 103, 104, 105, 106, 107, 108, 109, 110, 111, 112, 113, 114, 115, 116, 117, 118, 119, 120, 121, 122, 123, 124, 125, 126] (by decide +kernel) (by decide +kernel)
set_option maxRecDepth 20000 in
theorem gX5_bestUpper_X5_findBest : GoodIn wsX5_bestUpper (wsV RX5 163 RX5 yX5_findBest wsX5_findBest) := goodIn_app (goodIn_of _ (by decide +kernel)) ggX5_bestUpper_X5_findBest
theorem dX5_bestUpper_0 : decode cX5_bestUpper 0 = .ok (.iload_n 1, 1) := by decide +kernel
theorem dX5_bestUpper_1 : decode cX5_bestUpper 1 = .ok (.iconst (-1), 1) := by decide +kernel
theorem dX5_bestUpper_2 : decode cX5_bestUpper 2 = .ok (.if_icmp .ge 10, 3) := by decide +kernel
theorem dX5_bestUpper_5 : decode cX5_bestUpper 5 = .ok (.aload_n 0, 1) := by decide +kernel
theorem dX5_bestUpper_6 : decode cX5_bestUpper 6 = .ok (.bipush (-2), 2) := by decide +kernel
theorem dX5_bestUpper_8 : decode cX5_bestUpper 8 = .ok (.invokevirtual 48, 3) := by decide +kernel
theorem dX5_bestUpper_11 : decode cX5_bestUpper 11 = .ok (.ireturn, 1) := by decide +kernel
theorem dX5_bestUpper_12 : decode cX5_bestUpper 12 = .ok (.aload_n 0, 1) := by decide +kernel
theorem dX5_bestUpper_13 : decode cX5_bestUpper 13 = .ok (.invokevirtual 163, 3) := by decide +kernel
theorem dX5_bestUpper_16 : decode cX5_bestUpper 16 = .ok (.iload_n 1, 1) := by decide +kernel
theorem dX5_bestUpper_17 : decode cX5_bestUpper 17 = .ok (.iconst (-1), 1) := by decide +kernel
theorem dX5_bestUpper_18 : decode cX5_bestUpper 18 = .ok (.if_icmp .ne 11, 3) := by decide +kernel
theorem dX5_bestUpper_21 : decode cX5_bestUpper 21 = .ok (.aload_n 0, 1) := by decide +kernel
theorem dX5_bestUpper_22 : decode cX5_bestUpper 22 = .ok (.getfield 40, 3) := by decide +kernel
theorem dX5_bestUpper_25 : decode cX5_bestUpper 25 = .ok (.getfield 166, 3) := by decide +kernel
theorem dX5_bestUpper_28 : decode cX5_bestUpper 28 = .ok (.ireturn, 1) := by decide +kernel
theorem dX5_bestUpper_29 : decode cX5_bestUpper 29 = .ok (.iload_n 1, 1) := by decide +kernel
theorem dX5_bestUpper_30 : decode cX5_bestUpper 30 = .ok (.aload_n 0, 1) := by decide +kernel
theorem dX5_bestUpper_31 : decode cX5_bestUpper 31 = .ok (.getfield 40, 3) := by decide +kernel
theorem dX5_bestUpper_34 : decode cX5_bestUpper 34 = .ok (.getfield 166, 3) := by decide +kernel
theorem dX5_bestUpper_37 : decode cX5_bestUpper 37 = .ok (.if_icmp .ge 15, 3) := by decide +kernel
theorem dX5_bestUpper_40 : decode cX5_bestUpper 40 = .ok (.aload_n 0, 1) := by decide +kernel
theorem dX5_bestUpper_41 : decode cX5_bestUpper 41 = .ok (.getfield 40, 3) := by decide +kernel
theorem dX5_bestUpper_44 : decode cX5_bestUpper 44 = .ok (.getfield 169, 3) := by decide +kernel
theorem dX5_bestUpper_47 : decode cX5_bestUpper 47 = .ok (.iload_n 1, 1) := by decide +kernel
theorem dX5_bestUpper_48 : decode cX5_bestUpper 48 = .ok (.iaload, 1) := by decide +kernel
theorem dX5_bestUpper_49 : decode cX5_bestUpper 49 = .ok (.goto 4, 3) := by decide +kernel
theorem dX5_bestUpper_52 : decode cX5_bestUpper 52 = .ok (.iconst (-1), 1) := by decide +kernel
theorem dX5_bestUpper_53 : decode cX5_bestUpper 53 = .ok (.ireturn, 1) := by decide +kernel
set_option maxRecDepth 20000 in
theorem ggX5_bestLower_X5_fail : GoodIn wsX5_bestLower wsX5_fail := goodIn_r _ [6, 7, 101, 102, 103, 104, 105, 106] (by decide +kernel) (by decide +kernel)
set_option maxRecDepth 20000 in
theorem gX5_bestLower_X5_fail : GoodIn wsX5_bestLower (wsV RX5 48 RX5 yX5_fail wsX5_fail) := goodIn_app (goodIn_of _ (by decide +kernel)) ggX5_bestLower_X5_fail
set_option maxRecDepth 20000 in
theorem ggX5_bestLower_X5_findBest : GoodIn wsX5_bestLower wsX5_findBest := goodIn_r _ [11, 1, 12, 13, 14, 15, 16, 17, 18, 19, 20, 21, 22, 23, 24, 25, 26, 27, 28, 29, 30, 31, 32, 33, 5, 34, 35, 36, 37, 38, 39, 40, 41, 42, 43, 44, 45, 46, 47, 48, 49, 50, 51, 52, 53, 54, 55, 56, 57, 58, 59, 60, 61, 62, 63, 64, 65, 66, 67, 68, 69, 70, 71, 72, 73, 74, 75, 76, 77, 78, 79, 80, 81, 82, 83, 84, 85, 86, 87, 88, 89, 90, 91, 92, 93, 94, 95, 96, 97, 98, 99, 100, 101, 102, 103, 104, 105, 106, 107, 108, 109, 110, 111, 112, 113, 114, 115, 116, 117, 118, 119, 120, 121, 122, 123, 124, 125, 126] (by decide +kernel) (by decide +kernel)
set_option maxRecDepth 20000 in
theorem gX5_bestLower_X5_findBest : GoodIn wsX5_bestLower (wsV RX5 163 RX5 yX5_findBest wsX5_findBest) := goodIn_app (goodIn_of _ (by decide +kernel)) ggX5_bestLower_X5_findBest
theorem dX5_bestLower_0 : decode cX5_bestLower 0 = .ok (.iload_n 1, 1) := by decide +kernel
theorem dX5_bestLower_1 : decode cX5_bestLower 1 = .ok (.ifCond .ge 10, 3) := by decide +kernel
theorem dX5_bestLower_4 : decode cX5_bestLower 4 = .ok (.aload_n 0, 1) := by decide +kernel
theorem dX5_bestLower_5 : decode cX5_bestLower 5 = .ok (.bipush (-2), 2) := by decide +kernel
theorem dX5_bestLower_7 : decode cX5_bestLower 7 = .ok (.invokevirtual 48, 3) := by decide +kernel
theorem dX5_bestLower_10 : decode cX5_bestLower 10 = .ok (.ireturn, 1) := by decide +kernel
theorem dX5_bestLower_11 : decode cX5_bestLower 11 = .ok (.aload_n 0, 1) := by decide +kernel
theorem dX5_bestLower_12 : decode cX5_bestLower 12 = .ok (.invokevirtual 163, 3) := by decide +kernel
theorem dX5_bestLower_15 : decode cX5_bestLower 15 = .ok (.iload_n 1, 1) := by decide +kernel
theorem dX5_bestLower_16 : decode cX5_bestLower 16 = .ok (.aload_n 0, 1) := by decide +kernel
theorem dX5_bestLower_17 : decode cX5_bestLower 17 = .ok (.getfield 40, 3) := by decide +kernel
theorem dX5_bestLower_20 : decode cX5_bestLower 20 = .ok (.getfield 166, 3) := by decide +kernel
theorem dX5_bestLower_23 : decode cX5_bestLower 23 = .ok (.if_icmp .ge 15, 3) := by decide +kernel
theorem dX5_bestLower_26 : decode cX5_bestLower 26 = .ok (.aload_n 0, 1) := by decide +kernel
theorem dX5_bestLower_27 : decode cX5_bestLower 27 = .ok (.getfield 40, 3) := by decide +kernel
theorem dX5_bestLower_30 : decode cX5_bestLower 30 = .ok (.getfield 172, 3) := by decide +kernel
theorem dX5_bestLower_33 : decode cX5_bestLower 33 = .ok (.iload_n 1, 1) := by decide +kernel
theorem dX5_bestLower_34 : decode cX5_bestLower 34 = .ok (.iaload, 1) := by decide +kernel
theorem dX5_bestLower_35 : decode cX5_bestLower 35 = .ok (.goto 4, 3) := by decide +kernel
theorem dX5_bestLower_38 : decode cX5_bestLower 38 = .ok (.iconst (-1), 1) := by decide +kernel
theorem dX5_bestLower_39 : decode cX5_bestLower 39 = .ok (.ireturn, 1) := by decide +kernel
set_option maxRecDepth 20000 in
theorem ggX5_foldBest_X5_findBest : GoodIn wsX5_foldBest wsX5_findBest := goodIn_r _ [8, 3, 2, 9, 10, 11, 12, 13, 14, 15, 16, 17, 18, 19, 20, 21, 22, 23, 24, 25, 26, 27, 28, 29, 7, 30, 31, 32, 33, 34, 35, 36, 37, 38, 39, 40, 41, 42, 43, 44, 45, 46, 47, 48, 49, 50, 51, 52, 53, 54, 55, 56, 57, 58, 59, 60, 61, 62, 63, 64, 65, 66, 67, 68, 69, 70, 71, 72, 73, 74, 75, 76, 77, 78, 79, 80, 81, 82, 83, 84, 85, 86, 87, 88, 89, 90, 91, 92, 93, 94, 95, 96, 153, 154, 155, 156, 157, 158, 159, 160, 161, 162, 163, 164, 165, 166, 167, 168, 169, 170, 171, 172, 173, 174, 175, 176, 177, 178] (by decide +kernel) (by decide +kernel)
set_option maxRecDepth 20000 in
theorem gX5_foldBest_X5_findBest : GoodIn wsX5_foldBest (wsV RX5 163 RX5 yX5_findBest wsX5_findBest) := goodIn_app (goodIn_of _ (by decide +kernel)) ggX5_foldBest_X5_findBest
set_option maxRecDepth 20000 in
theorem ggX5_foldBest_X2_push : GoodIn wsX5_foldBest wsX2_push := goodIn_r _ [100, 101, 102, 103, 104, 105, 98, 106, 107, 22, 108, 109, 37, 38, 25, 110, 26, 111, 54, 55, 56, 27, 28, 112, 113, 114, 179, 180, 168, 169, 170, 171, 172, 173, 174, 175, 176, 177] (by decide +kernel) (by decide +kernel)
set_option maxRecDepth 20000 in
theorem gX5_foldBest_X2_push_n52 : GoodIn wsX5_foldBest (wsX2_push) := ggX5_foldBest_X2_push
set_option maxRecDepth 20000 in
theorem ggX5_foldBest_X4_partAll : GoodIn wsX5_foldBest wsX4_partAll := goodIn_r _ [117, 113, 114, 110, 118, 119, 120, 121, 168, 169, 170, 171, 172, 173, 174, 175, 176, 177] (by decide +kernel) (by decide +kernel)
set_option maxRecDepth 20000 in
theorem gX5_foldBest_X4_partAll_n175 : GoodIn wsX5_foldBest (wsX4_partAll) := ggX5_foldBest_X4_partAll
set_option maxRecDepth 20000 in
theorem ggX5_foldBest_X4_join : GoodIn wsX5_foldBest wsX4_join := goodIn_r _ [124, 113, 114, 110, 168, 169, 170, 171, 172, 173, 174, 175, 176, 177] (by decide +kernel) (by decide +kernel)
set_option maxRecDepth 20000 in
theorem gX5_foldBest_X4_join_n135 : GoodIn wsX5_foldBest (wsX4_join) := ggX5_foldBest_X4_join
set_option maxRecDepth 20000 in
theorem ggX5_foldBest_X5_foldsChanged : GoodIn wsX5_foldBest wsX5_foldsChanged := goodIn_r _ [128, 129, 2, 130, 131, 82, 132, 133, 134, 135, 136, 137, 89, 138, 119, 120, 121, 21, 22, 23, 24, 25, 26, 27, 28, 29, 7, 30, 139, 94, 95, 96, 85, 86, 87, 88, 140, 141, 142, 143, 144, 145, 146, 147, 148, 153, 154, 155, 156, 157, 158, 168, 169, 170, 171, 172, 173, 174, 175, 176, 177, 178, 181, 182] (by decide +kernel) (by decide +kernel)
set_option maxRecDepth 20000 in
theorem gX5_foldBest_X5_foldsChanged : GoodIn wsX5_foldBest (wsV RX5 138 RX5 yX5_foldsChanged wsX5_foldsChanged) := goodIn_app (goodIn_of _ (by decide +kernel)) ggX5_foldBest_X5_foldsChanged
set_option maxRecDepth 20000 in
theorem ggX5_foldBest_X5_area : GoodIn wsX5_foldBest wsX5_area := goodIn_r _ [152, 2, 153, 154, 155, 156, 157, 158, 168, 169, 170, 171, 172, 173, 174, 175, 176, 177] (by decide +kernel) (by decide +kernel)
set_option maxRecDepth 20000 in
theorem gX5_foldBest_X5_area : GoodIn wsX5_foldBest (wsV RX5 178 RX5 yX5_area wsX5_area) := goodIn_app (goodIn_of _ (by decide +kernel)) ggX5_foldBest_X5_area
theorem dX5_foldBest_0 : decode cX5_foldBest 0 = .ok (.aload_n 0, 1) := by decide +kernel
theorem dX5_foldBest_1 : decode cX5_foldBest 1 = .ok (.invokevirtual 163, 3) := by decide +kernel
theorem dX5_foldBest_4 : decode cX5_foldBest 4 = .ok (.aload_n 0, 1) := by decide +kernel
theorem dX5_foldBest_5 : decode cX5_foldBest 5 = .ok (.getfield 19, 3) := by decide +kernel
theorem dX5_foldBest_8 : decode cX5_foldBest 8 = .ok (.aload_n 0, 1) := by decide +kernel
theorem dX5_foldBest_9 : decode cX5_foldBest 9 = .ok (.getfield 12, 3) := by decide +kernel
theorem dX5_foldBest_12 : decode cX5_foldBest 12 = .ok (.invokevirtual 52, 3) := by decide +kernel
theorem dX5_foldBest_15 : decode cX5_foldBest 15 = .ok (.aload_n 0, 1) := by decide +kernel
theorem dX5_foldBest_16 : decode cX5_foldBest 16 = .ok (.getfield 12, 3) := by decide +kernel
theorem dX5_foldBest_19 : decode cX5_foldBest 19 = .ok (.invokevirtual 175, 3) := by decide +kernel
theorem dX5_foldBest_22 : decode cX5_foldBest 22 = .ok (.iconst 0, 1) := by decide +kernel
theorem dX5_foldBest_23 : decode cX5_foldBest 23 = .ok (.istore_n 1, 1) := by decide +kernel
theorem dX5_foldBest_24 : decode cX5_foldBest 24 = .ok (.iload_n 1, 1) := by decide +kernel
theorem dX5_foldBest_25 : decode cX5_foldBest 25 = .ok (.aload_n 0, 1) := by decide +kernel
theorem dX5_foldBest_26 : decode cX5_foldBest 26 = .ok (.getfield 40, 3) := by decide +kernel
theorem dX5_foldBest_29 : decode cX5_foldBest 29 = .ok (.getfield 166, 3) := by decide +kernel
theorem dX5_foldBest_32 : decode cX5_foldBest 32 = .ok (.if_icmp .ge 34, 3) := by decide +kernel
theorem dX5_foldBest_35 : decode cX5_foldBest 35 = .ok (.aload_n 0, 1) := by decide +kernel
theorem dX5_foldBest_36 : decode cX5_foldBest 36 = .ok (.getfield 12, 3) := by decide +kernel
theorem dX5_foldBest_39 : decode cX5_foldBest 39 = .ok (.aload_n 0, 1) := by decide +kernel
theorem dX5_foldBest_40 : decode cX5_foldBest 40 = .ok (.getfield 40, 3) := by decide +kernel
theorem dX5_foldBest_43 : decode cX5_foldBest 43 = .ok (.getfield 169, 3) := by decide +kernel
theorem dX5_foldBest_46 : decode cX5_foldBest 46 = .ok (.iload_n 1, 1) := by decide +kernel
theorem dX5_foldBest_47 : decode cX5_foldBest 47 = .ok (.iaload, 1) := by decide +kernel
theorem dX5_foldBest_48 : decode cX5_foldBest 48 = .ok (.aload_n 0, 1) := by decide +kernel
theorem dX5_foldBest_49 : decode cX5_foldBest 49 = .ok (.getfield 40, 3) := by decide +kernel
theorem dX5_foldBest_52 : decode cX5_foldBest 52 = .ok (.getfield 172, 3) := by decide +kernel
theorem dX5_foldBest_55 : decode cX5_foldBest 55 = .ok (.iload_n 1, 1) := by decide +kernel
theorem dX5_foldBest_56 : decode cX5_foldBest 56 = .ok (.iaload, 1) := by decide +kernel
theorem dX5_foldBest_57 : decode cX5_foldBest 57 = .ok (.invokevirtual 135, 3) := by decide +kernel
theorem dX5_foldBest_60 : decode cX5_foldBest 60 = .ok (.iinc 1 1, 3) := by decide +kernel
theorem dX5_foldBest_63 : decode cX5_foldBest 63 = .ok (.goto (-39), 3) := by decide +kernel
theorem dX5_foldBest_66 : decode cX5_foldBest 66 = .ok (.aload_n 0, 1) := by decide +kernel
theorem dX5_foldBest_67 : decode cX5_foldBest 67 = .ok (.invokevirtual 138, 3) := by decide +kernel
theorem dX5_foldBest_70 : decode cX5_foldBest 70 = .ok (.aload_n 0, 1) := by decide +kernel
theorem dX5_foldBest_71 : decode cX5_foldBest 71 = .ok (.invokevirtual 178, 3) := by decide +kernel
theorem dX5_foldBest_74 : decode cX5_foldBest 74 = .ok (.ireturn, 1) := by decide +kernel
set_option maxRecDepth 20000 in
theorem ggX5_undo_X5_fail : GoodIn wsX5_undo wsX5_fail := goodIn_r _ [7, 8, 79, 80, 81, 82, 83, 84] (by decide +kernel) (by decide +kernel)
set_option maxRecDepth 20000 in
theorem gX5_undo_X5_fail : GoodIn wsX5_undo (wsV RX5 48 RX5 yX5_fail wsX5_fail) := goodIn_app (goodIn_of _ (by decide +kernel)) ggX5_undo_X5_fail
set_option maxRecDepth 20000 in
theorem ggX5_undo_X2_pop : GoodIn wsX5_undo wsX2_pop := goodIn_r _ [12, 13, 14, 15, 16, 17, 18, 19, 20, 21, 22, 23, 24, 25, 26, 27, 28, 29, 30, 31, 32, 85, 86, 87, 88, 89, 90, 91, 92, 93, 94, 95, 96] (by decide +kernel) (by decide +kernel)
set_option maxRecDepth 20000 in
theorem gX5_undo_X2_pop_n183 : GoodIn wsX5_undo (wsX2_pop) := ggX5_undo_X2_pop
set_option maxRecDepth 20000 in
theorem ggX5_undo_X5_termsChanged : GoodIn wsX5_undo wsX5_termsChanged := goodIn_r _ [36, 37, 38, 39, 40, 6, 41, 42, 2, 43, 44, 45, 46, 47, 48, 49, 50, 51, 52, 53, 54, 55, 56, 57, 16, 58, 59, 21, 23, 28, 29, 60, 61, 62, 63, 64, 65, 66, 67, 68, 69, 70, 71, 72, 73, 74, 75, 76, 77, 78, 79, 80, 81, 82, 83, 84, 97, 98, 99, 100, 101, 102, 103, 104, 105, 87, 88, 89, 90, 91, 92, 93, 94, 95, 96, 106, 107, 108] (by decide +kernel) (by decide +kernel)
set_option maxRecDepth 20000 in
theorem gX5_undo_X5_termsChanged : GoodIn wsX5_undo (wsV RX5 64 RX5 yX5_termsChanged wsX5_termsChanged) := goodIn_app (goodIn_of _ (by decide +kernel)) ggX5_undo_X5_termsChanged
theorem dX5_undo_0 : decode cX5_undo 0 = .ok (.aload_n 0, 1) := by decide +kernel
theorem dX5_undo_1 : decode cX5_undo 1 = .ok (.getfield 19, 3) := by decide +kernel
theorem dX5_undo_4 : decode cX5_undo 4 = .ok (.getfield 182, 3) := by decide +kernel
theorem dX5_undo_7 : decode cX5_undo 7 = .ok (.ifCond .ne 10, 3) := by decide +kernel
theorem dX5_undo_10 : decode cX5_undo 10 = .ok (.aload_n 0, 1) := by decide +kernel
theorem dX5_undo_11 : decode cX5_undo 11 = .ok (.bipush (-6), 2) := by decide +kernel
theorem dX5_undo_13 : decode cX5_undo 13 = .ok (.invokevirtual 48, 3) := by decide +kernel
theorem dX5_undo_16 : decode cX5_undo 16 = .ok (.ireturn, 1) := by decide +kernel
theorem dX5_undo_17 : decode cX5_undo 17 = .ok (.aload_n 0, 1) := by decide +kernel
theorem dX5_undo_18 : decode cX5_undo 18 = .ok (.getfield 19, 3) := by decide +kernel
theorem dX5_undo_21 : decode cX5_undo 21 = .ok (.aload_n 0, 1) := by decide +kernel
theorem dX5_undo_22 : decode cX5_undo 22 = .ok (.getfield 12, 3) := by decide +kernel
theorem dX5_undo_25 : decode cX5_undo 25 = .ok (.invokevirtual 183, 3) := by decide +kernel
theorem dX5_undo_28 : decode cX5_undo 28 = .ok (.aload_n 0, 1) := by decide +kernel
theorem dX5_undo_29 : decode cX5_undo 29 = .ok (.invokevirtual 64, 3) := by decide +kernel
theorem dX5_undo_32 : decode cX5_undo 32 = .ok (.aload_n 0, 1) := by decide +kernel
theorem dX5_undo_33 : decode cX5_undo 33 = .ok (.getfield 19, 3) := by decide +kernel
theorem dX5_undo_36 : decode cX5_undo 36 = .ok (.getfield 182, 3) := by decide +kernel
theorem dX5_undo_39 : decode cX5_undo 39 = .ok (.ireturn, 1) := by decide +kernel
set_option maxRecDepth 20000 in
theorem ggX5_errorCount_X5_fail : GoodIn wsX5_errorCount wsX5_fail := goodIn_r _ [6, 1, 7, 8, 9, 10, 11, 12] (by decide +kernel) (by decide +kernel)
set_option maxRecDepth 20000 in
theorem gX5_errorCount_X5_fail : GoodIn wsX5_errorCount (wsV RX5 48 RX5 yX5_fail wsX5_fail) := goodIn_app (goodIn_of _ (by decide +kernel)) ggX5_errorCount_X5_fail
theorem dX5_errorCount_0 : decode cX5_errorCount 0 = .ok (.iload_n 1, 1) := by decide +kernel
theorem dX5_errorCount_1 : decode cX5_errorCount 1 = .ok (.bipush (-6), 2) := by decide +kernel
theorem dX5_errorCount_3 : decode cX5_errorCount 3 = .ok (.if_icmp .lt 9, 3) := by decide +kernel
theorem dX5_errorCount_6 : decode cX5_errorCount 6 = .ok (.iload_n 1, 1) := by decide +kernel
theorem dX5_errorCount_7 : decode cX5_errorCount 7 = .ok (.bipush (-2), 2) := by decide +kernel
theorem dX5_errorCount_9 : decode cX5_errorCount 9 = .ok (.if_icmp .le 10, 3) := by decide +kernel
theorem dX5_errorCount_12 : decode cX5_errorCount 12 = .ok (.aload_n 0, 1) := by decide +kernel
theorem dX5_errorCount_13 : decode cX5_errorCount 13 = .ok (.bipush (-2), 2) := by decide +kernel
theorem dX5_errorCount_15 : decode cX5_errorCount 15 = .ok (.invokevirtual 48, 3) := by decide +kernel
theorem dX5_errorCount_18 : decode cX5_errorCount 18 = .ok (.ireturn, 1) := by decide +kernel
theorem dX5_errorCount_19 : decode cX5_errorCount 19 = .ok (.aload_n 0, 1) := by decide +kernel
theorem dX5_errorCount_20 : decode cX5_errorCount 20 = .ok (.getfield 44, 3) := by decide +kernel
theorem dX5_errorCount_23 : decode cX5_errorCount 23 = .ok (.bipush (-2), 2) := by decide +kernel
theorem dX5_errorCount_25 : decode cX5_errorCount 25 = .ok (.iload_n 1, 1) := by decide +kernel
theorem dX5_errorCount_26 : decode cX5_errorCount 26 = .ok (.isub, 1) := by decide +kernel
theorem dX5_errorCount_27 : decode cX5_errorCount 27 = .ok (.iaload, 1) := by decide +kernel
theorem dX5_errorCount_28 : decode cX5_errorCount 28 = .ok (.ireturn, 1) := by decide +kernel
set_option maxRecDepth 20000 in
theorem ggX5_digest_X5_mix : GoodIn wsX5_digest wsX5_mix := goodIn_r _ [8, 9] (by decide +kernel) (by decide +kernel)
set_option maxRecDepth 20000 in
theorem gX5_digest_X5_mix : GoodIn wsX5_digest (va_wsS RX5 188 yX5_mix wsX5_mix) := goodIn_app (goodIn_of _ (by decide +kernel)) ggX5_digest_X5_mix
set_option maxRecDepth 20000 in
theorem ggX5_digest_X5_mixTerms : GoodIn wsX5_digest wsX5_mixTerms := goodIn_r _ [13, 3, 14, 5, 6, 7, 8, 9, 15, 16, 17, 18, 19, 20, 21, 22, 23, 24, 25, 26, 27, 28, 29, 30, 31, 32, 146, 147, 148, 149, 150, 151, 152, 153, 154, 155, 156, 157, 158, 159, 160, 161, 164, 165] (by decide +kernel) (by decide +kernel)
set_option maxRecDepth 20000 in
theorem gX5_digest_X5_mixTerms : GoodIn wsX5_digest (wsV RX5 192 RX5 yX5_mixTerms wsX5_mixTerms) := goodIn_app (goodIn_of _ (by decide +kernel)) ggX5_digest_X5_mixTerms
set_option maxRecDepth 20000 in
theorem ggX5_digest_X5_mixColumns : GoodIn wsX5_digest wsX5_mixColumns := goodIn_r _ [36, 3, 14, 37, 16, 38, 39, 40, 19, 41, 42, 43, 29, 44, 45, 20, 23, 7, 24, 5, 6, 8, 9, 46, 47, 48, 49, 50, 51, 52, 53, 54, 55, 56, 57, 58, 59, 60, 61, 62, 146, 147, 148, 149, 150, 151, 152, 153, 154, 155, 156, 157, 158, 159, 160, 161, 164, 165] (by decide +kernel) (by decide +kernel)
set_option maxRecDepth 20000 in
theorem gX5_digest_X5_mixColumns : GoodIn wsX5_digest (wsV RX5 196 RX5 yX5_mixColumns wsX5_mixColumns) := goodIn_app (goodIn_of _ (by decide +kernel)) ggX5_digest_X5_mixColumns
set_option maxRecDepth 20000 in
theorem ggX5_digest_X5_area : GoodIn wsX5_digest wsX5_area := goodIn_r _ [66, 3, 146, 147, 148, 149, 150, 151, 152, 153, 154, 155, 156, 157, 158, 159, 160, 161] (by decide +kernel) (by decide +kernel)
set_option maxRecDepth 20000 in
theorem gX5_digest_X5_area : GoodIn wsX5_digest (wsV RX5 178 RX5 yX5_area wsX5_area) := goodIn_app (goodIn_of _ (by decide +kernel)) ggX5_digest_X5_area
set_option maxRecDepth 20000 in
theorem ggX5_digest_X5_mixBest : GoodIn wsX5_digest wsX5_mixBest := goodIn_r _ [70, 71, 72, 73, 74, 7, 75, 3, 76, 77, 78, 79, 80, 81, 82, 83, 84, 85, 86, 87, 41, 16, 42, 43, 29, 44, 45, 20, 23, 24, 88, 89, 90, 37, 38, 39, 40, 19, 91, 92, 93, 94, 95, 96, 97, 98, 99, 100, 101, 102, 103, 104, 105, 106, 107, 108, 109, 110, 111, 112, 113, 114, 115, 116, 117, 57, 58, 59, 118, 119, 120, 121, 122, 123, 124, 125, 126, 127, 128, 129, 130, 131, 132, 133, 134, 135, 136, 137, 138, 139, 140, 141, 142, 143, 144, 145, 5, 6, 8, 9, 146, 147, 148, 149, 150, 151, 166, 167, 168, 169, 170, 171, 172, 173, 174, 152, 153, 154, 155, 156, 157, 158, 159, 160, 161, 175] (by decide +kernel) (by decide +kernel)
set_option maxRecDepth 20000 in
theorem gX5_digest_X5_mixBest : GoodIn wsX5_digest (wsV RX5 199 RX5 yX5_mixBest wsX5_mixBest) := goodIn_app (goodIn_of _ (by decide +kernel)) ggX5_digest_X5_mixBest
theorem dX5_digest_0 : decode cX5_digest 0 = .ok (.ldc2_w 186, 3) := by decide +kernel
theorem dX5_digest_3 : decode cX5_digest 3 = .ok (.lstore_n 1, 1) := by decide +kernel
theorem dX5_digest_4 : decode cX5_digest 4 = .ok (.iconst 0, 1) := by decide +kernel
theorem dX5_digest_5 : decode cX5_digest 5 = .ok (.istore_n 3, 1) := by decide +kernel
theorem dX5_digest_6 : decode cX5_digest 6 = .ok (.iload_n 3, 1) := by decide +kernel
theorem dX5_digest_7 : decode cX5_digest 7 = .ok (.iconst 5, 1) := by decide +kernel
theorem dX5_digest_8 : decode cX5_digest 8 = .ok (.if_icmp .ge 21, 3) := by decide +kernel
theorem dX5_digest_11 : decode cX5_digest 11 = .ok (.lload_n 1, 1) := by decide +kernel
theorem dX5_digest_12 : decode cX5_digest 12 = .ok (.aload_n 0, 1) := by decide +kernel
theorem dX5_digest_13 : decode cX5_digest 13 = .ok (.getfield 44, 3) := by decide +kernel
theorem dX5_digest_16 : decode cX5_digest 16 = .ok (.iload_n 3, 1) := by decide +kernel
theorem dX5_digest_17 : decode cX5_digest 17 = .ok (.iaload, 1) := by decide +kernel
theorem dX5_digest_18 : decode cX5_digest 18 = .ok (.i2l, 1) := by decide +kernel
theorem dX5_digest_19 : decode cX5_digest 19 = .ok (.invokestatic 188, 3) := by decide +kernel
theorem dX5_digest_22 : decode cX5_digest 22 = .ok (.lstore_n 1, 1) := by decide +kernel
theorem dX5_digest_23 : decode cX5_digest 23 = .ok (.iinc 3 1, 3) := by decide +kernel
theorem dX5_digest_26 : decode cX5_digest 26 = .ok (.goto (-20), 3) := by decide +kernel
theorem dX5_digest_29 : decode cX5_digest 29 = .ok (.lload_n 1, 1) := by decide +kernel
theorem dX5_digest_30 : decode cX5_digest 30 = .ok (.aload_n 0, 1) := by decide +kernel
theorem dX5_digest_31 : decode cX5_digest 31 = .ok (.getfield 12, 3) := by decide +kernel
theorem dX5_digest_34 : decode cX5_digest 34 = .ok (.getfield 94, 3) := by decide +kernel
theorem dX5_digest_37 : decode cX5_digest 37 = .ok (.i2l, 1) := by decide +kernel
theorem dX5_digest_38 : decode cX5_digest 38 = .ok (.invokestatic 188, 3) := by decide +kernel
theorem dX5_digest_41 : decode cX5_digest 41 = .ok (.lstore_n 1, 1) := by decide +kernel
theorem dX5_digest_42 : decode cX5_digest 42 = .ok (.lload_n 1, 1) := by decide +kernel
theorem dX5_digest_43 : decode cX5_digest 43 = .ok (.aload_n 0, 1) := by decide +kernel
theorem dX5_digest_44 : decode cX5_digest 44 = .ok (.getfield 12, 3) := by decide +kernel
theorem dX5_digest_47 : decode cX5_digest 47 = .ok (.getfield 100, 3) := by decide +kernel
theorem dX5_digest_50 : decode cX5_digest 50 = .ok (.i2l, 1) := by decide +kernel
theorem dX5_digest_51 : decode cX5_digest 51 = .ok (.invokestatic 188, 3) := by decide +kernel
theorem dX5_digest_54 : decode cX5_digest 54 = .ok (.lstore_n 1, 1) := by decide +kernel
theorem dX5_digest_55 : decode cX5_digest 55 = .ok (.lload_n 1, 1) := by decide +kernel
theorem dX5_digest_56 : decode cX5_digest 56 = .ok (.aload_n 0, 1) := by decide +kernel
theorem dX5_digest_57 : decode cX5_digest 57 = .ok (.getfield 12, 3) := by decide +kernel
theorem dX5_digest_60 : decode cX5_digest 60 = .ok (.getfield 56, 3) := by decide +kernel
theorem dX5_digest_63 : decode cX5_digest 63 = .ok (.i2l, 1) := by decide +kernel
theorem dX5_digest_64 : decode cX5_digest 64 = .ok (.invokestatic 188, 3) := by decide +kernel
theorem dX5_digest_67 : decode cX5_digest 67 = .ok (.lstore_n 1, 1) := by decide +kernel
theorem dX5_digest_68 : decode cX5_digest 68 = .ok (.aload_n 0, 1) := by decide +kernel
theorem dX5_digest_69 : decode cX5_digest 69 = .ok (.lload_n 1, 1) := by decide +kernel
theorem dX5_digest_70 : decode cX5_digest 70 = .ok (.invokevirtual 192, 3) := by decide +kernel
theorem dX5_digest_73 : decode cX5_digest 73 = .ok (.lstore_n 1, 1) := by decide +kernel
theorem dX5_digest_74 : decode cX5_digest 74 = .ok (.aload_n 0, 1) := by decide +kernel
theorem dX5_digest_75 : decode cX5_digest 75 = .ok (.lload_n 1, 1) := by decide +kernel
theorem dX5_digest_76 : decode cX5_digest 76 = .ok (.invokevirtual 196, 3) := by decide +kernel
theorem dX5_digest_79 : decode cX5_digest 79 = .ok (.lstore_n 1, 1) := by decide +kernel
theorem dX5_digest_80 : decode cX5_digest 80 = .ok (.lload_n 1, 1) := by decide +kernel
theorem dX5_digest_81 : decode cX5_digest 81 = .ok (.aload_n 0, 1) := by decide +kernel
theorem dX5_digest_82 : decode cX5_digest 82 = .ok (.invokevirtual 178, 3) := by decide +kernel
theorem dX5_digest_85 : decode cX5_digest 85 = .ok (.i2l, 1) := by decide +kernel
theorem dX5_digest_86 : decode cX5_digest 86 = .ok (.invokestatic 188, 3) := by decide +kernel
theorem dX5_digest_89 : decode cX5_digest 89 = .ok (.lstore_n 1, 1) := by decide +kernel
theorem dX5_digest_90 : decode cX5_digest 90 = .ok (.aload_n 0, 1) := by decide +kernel
theorem dX5_digest_91 : decode cX5_digest 91 = .ok (.lload_n 1, 1) := by decide +kernel
theorem dX5_digest_92 : decode cX5_digest 92 = .ok (.invokevirtual 199, 3) := by decide +kernel
theorem dX5_digest_95 : decode cX5_digest 95 = .ok (.lstore_n 1, 1) := by decide +kernel
theorem dX5_digest_96 : decode cX5_digest 96 = .ok (.lload_n 1, 1) := by decide +kernel
theorem dX5_digest_97 : decode cX5_digest 97 = .ok (.aload_n 0, 1) := by decide +kernel
theorem dX5_digest_98 : decode cX5_digest 98 = .ok (.getfield 19, 3) := by decide +kernel
theorem dX5_digest_101 : decode cX5_digest 101 = .ok (.getfield 182, 3) := by decide +kernel
theorem dX5_digest_104 : decode cX5_digest 104 = .ok (.i2l, 1) := by decide +kernel
theorem dX5_digest_105 : decode cX5_digest 105 = .ok (.invokestatic 188, 3) := by decide +kernel
theorem dX5_digest_108 : decode cX5_digest 108 = .ok (.lreturn, 1) := by decide +kernel
set_option maxRecDepth 20000 in
theorem ggX5_mixTerms_X5_mix : GoodIn wsX5_mixTerms wsX5_mix := goodIn_r _ [6, 7] (by decide +kernel) (by decide +kernel)
set_option maxRecDepth 20000 in
theorem gX5_mixTerms_X5_mix : GoodIn wsX5_mixTerms (va_wsS RX5 188 yX5_mix wsX5_mix) := goodIn_app (goodIn_of _ (by decide +kernel)) ggX5_mixTerms_X5_mix
set_option maxRecDepth 20000 in
theorem ggX5_mixTerms_X4_isSpare : GoodIn wsX5_mixTerms wsX4_isSpare := goodIn_r _ [11, 12, 13, 14, 15, 16, 5, 17, 18, 19, 20, 9, 21, 22, 32, 33, 34, 35, 36, 37, 38, 39, 40, 41] (by decide +kernel) (by decide +kernel)
set_option maxRecDepth 20000 in
theorem gX5_mixTerms_X4_isSpare_n112 : GoodIn wsX5_mixTerms (wsX4_isSpare) := ggX5_mixTerms_X4_isSpare
set_option maxRecDepth 20000 in
theorem ggX5_mixTerms_X5_flag : GoodIn wsX5_mixTerms wsX5_flag := goodIn_r _ [25] (by decide +kernel) (by decide +kernel)
set_option maxRecDepth 20000 in
theorem gX5_mixTerms_X5_flag : GoodIn wsX5_mixTerms (va_wsS RX5 115 yX5_flag wsX5_flag) := goodIn_app (goodIn_of _ (by decide +kernel)) ggX5_mixTerms_X5_flag
theorem dX5_mixTerms_0 : decode cX5_mixTerms 0 = .ok (.lload_n 1, 1) := by decide +kernel
theorem dX5_mixTerms_1 : decode cX5_mixTerms 1 = .ok (.lstore_n 3, 1) := by decide +kernel
theorem dX5_mixTerms_2 : decode cX5_mixTerms 2 = .ok (.iconst 0, 1) := by decide +kernel
theorem dX5_mixTerms_3 : decode cX5_mixTerms 3 = .ok (.istore 5, 2) := by decide +kernel
theorem dX5_mixTerms_5 : decode cX5_mixTerms 5 = .ok (.iload 5, 2) := by decide +kernel
theorem dX5_mixTerms_7 : decode cX5_mixTerms 7 = .ok (.aload_n 0, 1) := by decide +kernel
theorem dX5_mixTerms_8 : decode cX5_mixTerms 8 = .ok (.getfield 12, 3) := by decide +kernel
theorem dX5_mixTerms_11 : decode cX5_mixTerms 11 = .ok (.getfield 56, 3) := by decide +kernel
theorem dX5_mixTerms_14 : decode cX5_mixTerms 14 = .ok (.if_icmp .ge 91, 3) := by decide +kernel
theorem dX5_mixTerms_17 : decode cX5_mixTerms 17 = .ok (.lload_n 3, 1) := by decide +kernel
theorem dX5_mixTerms_18 : decode cX5_mixTerms 18 = .ok (.aload_n 0, 1) := by decide +kernel
theorem dX5_mixTerms_19 : decode cX5_mixTerms 19 = .ok (.getfield 12, 3) := by decide +kernel
theorem dX5_mixTerms_22 : decode cX5_mixTerms 22 = .ok (.getfield 83, 3) := by decide +kernel
theorem dX5_mixTerms_25 : decode cX5_mixTerms 25 = .ok (.iload 5, 2) := by decide +kernel
theorem dX5_mixTerms_27 : decode cX5_mixTerms 27 = .ok (.iaload, 1) := by decide +kernel
theorem dX5_mixTerms_28 : decode cX5_mixTerms 28 = .ok (.i2l, 1) := by decide +kernel
theorem dX5_mixTerms_29 : decode cX5_mixTerms 29 = .ok (.invokestatic 188, 3) := by decide +kernel
theorem dX5_mixTerms_32 : decode cX5_mixTerms 32 = .ok (.lstore_n 3, 1) := by decide +kernel
theorem dX5_mixTerms_33 : decode cX5_mixTerms 33 = .ok (.lload_n 3, 1) := by decide +kernel
theorem dX5_mixTerms_34 : decode cX5_mixTerms 34 = .ok (.aload_n 0, 1) := by decide +kernel
theorem dX5_mixTerms_35 : decode cX5_mixTerms 35 = .ok (.getfield 12, 3) := by decide +kernel
theorem dX5_mixTerms_38 : decode cX5_mixTerms 38 = .ok (.getfield 86, 3) := by decide +kernel
theorem dX5_mixTerms_41 : decode cX5_mixTerms 41 = .ok (.iload 5, 2) := by decide +kernel
theorem dX5_mixTerms_43 : decode cX5_mixTerms 43 = .ok (.iaload, 1) := by decide +kernel
theorem dX5_mixTerms_44 : decode cX5_mixTerms 44 = .ok (.i2l, 1) := by decide +kernel
theorem dX5_mixTerms_45 : decode cX5_mixTerms 45 = .ok (.invokestatic 188, 3) := by decide +kernel
theorem dX5_mixTerms_48 : decode cX5_mixTerms 48 = .ok (.lstore_n 3, 1) := by decide +kernel
theorem dX5_mixTerms_49 : decode cX5_mixTerms 49 = .ok (.lload_n 3, 1) := by decide +kernel
theorem dX5_mixTerms_50 : decode cX5_mixTerms 50 = .ok (.aload_n 0, 1) := by decide +kernel
theorem dX5_mixTerms_51 : decode cX5_mixTerms 51 = .ok (.getfield 12, 3) := by decide +kernel
theorem dX5_mixTerms_54 : decode cX5_mixTerms 54 = .ok (.getfield 202, 3) := by decide +kernel
theorem dX5_mixTerms_57 : decode cX5_mixTerms 57 = .ok (.iload 5, 2) := by decide +kernel
theorem dX5_mixTerms_59 : decode cX5_mixTerms 59 = .ok (.iaload, 1) := by decide +kernel
theorem dX5_mixTerms_60 : decode cX5_mixTerms 60 = .ok (.i2l, 1) := by decide +kernel
theorem dX5_mixTerms_61 : decode cX5_mixTerms 61 = .ok (.invokestatic 188, 3) := by decide +kernel
theorem dX5_mixTerms_64 : decode cX5_mixTerms 64 = .ok (.lstore_n 3, 1) := by decide +kernel
theorem dX5_mixTerms_65 : decode cX5_mixTerms 65 = .ok (.lload_n 3, 1) := by decide +kernel
theorem dX5_mixTerms_66 : decode cX5_mixTerms 66 = .ok (.aload_n 0, 1) := by decide +kernel
theorem dX5_mixTerms_67 : decode cX5_mixTerms 67 = .ok (.getfield 12, 3) := by decide +kernel
theorem dX5_mixTerms_70 : decode cX5_mixTerms 70 = .ok (.iload 5, 2) := by decide +kernel
theorem dX5_mixTerms_72 : decode cX5_mixTerms 72 = .ok (.invokevirtual 112, 3) := by decide +kernel
theorem dX5_mixTerms_75 : decode cX5_mixTerms 75 = .ok (.invokestatic 115, 3) := by decide +kernel
theorem dX5_mixTerms_78 : decode cX5_mixTerms 78 = .ok (.i2l, 1) := by decide +kernel
theorem dX5_mixTerms_79 : decode cX5_mixTerms 79 = .ok (.invokestatic 188, 3) := by decide +kernel
theorem dX5_mixTerms_82 : decode cX5_mixTerms 82 = .ok (.lstore_n 3, 1) := by decide +kernel
end
section
theorem dX5_mixTerms_83 : decode cX5_mixTerms 83 = .ok (.lload_n 3, 1) := by decide +kernel
theorem dX5_mixTerms_84 : decode cX5_mixTerms 84 = .ok (.aload_n 0, 1) := by decide +kernel
theorem dX5_mixTerms_85 : decode cX5_mixTerms 85 = .ok (.getfield 33, 3) := by decide +kernel
theorem dX5_mixTerms_88 : decode cX5_mixTerms 88 = .ok (.getfield 150, 3) := by decide +kernel
theorem dX5_mixTerms_91 : decode cX5_mixTerms 91 = .ok (.iload 5, 2) := by decide +kernel
theorem dX5_mixTerms_93 : decode cX5_mixTerms 93 = .ok (.iaload, 1) := by decide +kernel
theorem dX5_mixTerms_94 : decode cX5_mixTerms 94 = .ok (.i2l, 1) := by decide +kernel
theorem dX5_mixTerms_95 : decode cX5_mixTerms 95 = .ok (.invokestatic 188, 3) := by decide +kernel
theorem dX5_mixTerms_98 : decode cX5_mixTerms 98 = .ok (.lstore_n 3, 1) := by decide +kernel
theorem dX5_mixTerms_99 : decode cX5_mixTerms 99 = .ok (.iinc 5 1, 3) := by decide +kernel
theorem dX5_mixTerms_102 : decode cX5_mixTerms 102 = .ok (.goto (-97), 3) := by decide +kernel
theorem dX5_mixTerms_105 : decode cX5_mixTerms 105 = .ok (.lload_n 3, 1) := by decide +kernel
theorem dX5_mixTerms_106 : decode cX5_mixTerms 106 = .ok (.lreturn, 1) := by decide +kernel
set_option maxRecDepth 20000 in
theorem ggX5_mixColumns_X4_hasColumn : GoodIn wsX5_mixColumns wsX4_hasColumn := goodIn_r _ [6, 7, 8, 46, 47, 48, 49, 50, 51, 52, 53, 54, 55] (by decide +kernel) (by decide +kernel)
set_option maxRecDepth 20000 in
theorem gX5_mixColumns_X4_hasColumn_n119 : GoodIn wsX5_mixColumns (wsX4_hasColumn) := ggX5_mixColumns_X4_hasColumn
set_option maxRecDepth 20000 in
theorem ggX5_mixColumns_X4_termsOfColumn : GoodIn wsX5_mixColumns wsX4_termsOfColumn := goodIn_r _ [11, 12, 13, 14, 15, 16, 17, 18, 46, 47, 48, 49, 50, 51, 52, 53, 54, 55] (by decide +kernel) (by decide +kernel)
set_option maxRecDepth 20000 in
theorem gX5_mixColumns_X4_termsOfColumn_n122 : GoodIn wsX5_mixColumns (wsX4_termsOfColumn) := ggX5_mixColumns_X4_termsOfColumn
set_option maxRecDepth 20000 in
theorem ggX5_mixColumns_X5_mix : GoodIn wsX5_mixColumns wsX5_mix := goodIn_r _ [21, 22] (by decide +kernel) (by decide +kernel)
set_option maxRecDepth 20000 in
theorem gX5_mixColumns_X5_mix : GoodIn wsX5_mixColumns (va_wsS RX5 188 yX5_mix wsX5_mix) := goodIn_app (goodIn_of _ (by decide +kernel)) ggX5_mixColumns_X5_mix
set_option maxRecDepth 20000 in
theorem ggX5_mixColumns_X4_mateOf : GoodIn wsX5_mixColumns wsX4_mateOf := goodIn_r _ [25, 26, 27, 46, 47, 48, 49, 50, 51, 52, 53, 54, 55] (by decide +kernel) (by decide +kernel)
set_option maxRecDepth 20000 in
theorem gX5_mixColumns_X4_mateOf_n129 : GoodIn wsX5_mixColumns (wsX4_mateOf) := ggX5_mixColumns_X4_mateOf
set_option maxRecDepth 20000 in
theorem ggX5_mixColumns_X3_spread : GoodIn wsX5_mixColumns wsX3_spread := goodIn_r _ [31, 32, 33, 34, 35, 36, 37, 38, 39, 16, 17, 18, 56, 57] (by decide +kernel) (by decide +kernel)
set_option maxRecDepth 20000 in
theorem gX5_mixColumns_X3_spread_n159 : GoodIn wsX5_mixColumns (wsX3_spread) := ggX5_mixColumns_X3_spread
theorem dX5_mixColumns_0 : decode cX5_mixColumns 0 = .ok (.lload_n 1, 1) := by decide +kernel
theorem dX5_mixColumns_1 : decode cX5_mixColumns 1 = .ok (.lstore_n 3, 1) := by decide +kernel
theorem dX5_mixColumns_2 : decode cX5_mixColumns 2 = .ok (.iconst 0, 1) := by decide +kernel
theorem dX5_mixColumns_3 : decode cX5_mixColumns 3 = .ok (.istore 5, 2) := by decide +kernel
theorem dX5_mixColumns_5 : decode cX5_mixColumns 5 = .ok (.iload 5, 2) := by decide +kernel
theorem dX5_mixColumns_7 : decode cX5_mixColumns 7 = .ok (.bipush 10, 2) := by decide +kernel
theorem dX5_mixColumns_9 : decode cX5_mixColumns 9 = .ok (.if_icmp .ge 77, 3) := by decide +kernel
theorem dX5_mixColumns_12 : decode cX5_mixColumns 12 = .ok (.aload_n 0, 1) := by decide +kernel
theorem dX5_mixColumns_13 : decode cX5_mixColumns 13 = .ok (.getfield 12, 3) := by decide +kernel
theorem dX5_mixColumns_16 : decode cX5_mixColumns 16 = .ok (.iload 5, 2) := by decide +kernel
theorem dX5_mixColumns_18 : decode cX5_mixColumns 18 = .ok (.invokevirtual 119, 3) := by decide +kernel
theorem dX5_mixColumns_21 : decode cX5_mixColumns 21 = .ok (.ifCond .eq 59, 3) := by decide +kernel
theorem dX5_mixColumns_24 : decode cX5_mixColumns 24 = .ok (.aload_n 0, 1) := by decide +kernel
theorem dX5_mixColumns_25 : decode cX5_mixColumns 25 = .ok (.getfield 12, 3) := by decide +kernel
theorem dX5_mixColumns_28 : decode cX5_mixColumns 28 = .ok (.iload 5, 2) := by decide +kernel
theorem dX5_mixColumns_30 : decode cX5_mixColumns 30 = .ok (.invokevirtual 122, 3) := by decide +kernel
theorem dX5_mixColumns_33 : decode cX5_mixColumns 33 = .ok (.istore 6, 2) := by decide +kernel
theorem dX5_mixColumns_35 : decode cX5_mixColumns 35 = .ok (.lload_n 3, 1) := by decide +kernel
theorem dX5_mixColumns_36 : decode cX5_mixColumns 36 = .ok (.iload 6, 2) := by decide +kernel
theorem dX5_mixColumns_38 : decode cX5_mixColumns 38 = .ok (.i2l, 1) := by decide +kernel
theorem dX5_mixColumns_39 : decode cX5_mixColumns 39 = .ok (.invokestatic 188, 3) := by decide +kernel
theorem dX5_mixColumns_42 : decode cX5_mixColumns 42 = .ok (.lstore_n 3, 1) := by decide +kernel
theorem dX5_mixColumns_43 : decode cX5_mixColumns 43 = .ok (.lload_n 3, 1) := by decide +kernel
theorem dX5_mixColumns_44 : decode cX5_mixColumns 44 = .ok (.aload_n 0, 1) := by decide +kernel
theorem dX5_mixColumns_45 : decode cX5_mixColumns 45 = .ok (.getfield 12, 3) := by decide +kernel
theorem dX5_mixColumns_48 : decode cX5_mixColumns 48 = .ok (.iload 5, 2) := by decide +kernel
theorem dX5_mixColumns_50 : decode cX5_mixColumns 50 = .ok (.invokevirtual 129, 3) := by decide +kernel
theorem dX5_mixColumns_53 : decode cX5_mixColumns 53 = .ok (.i2l, 1) := by decide +kernel
theorem dX5_mixColumns_54 : decode cX5_mixColumns 54 = .ok (.invokestatic 188, 3) := by decide +kernel
theorem dX5_mixColumns_57 : decode cX5_mixColumns 57 = .ok (.lstore_n 3, 1) := by decide +kernel
theorem dX5_mixColumns_58 : decode cX5_mixColumns 58 = .ok (.lload_n 3, 1) := by decide +kernel
theorem dX5_mixColumns_59 : decode cX5_mixColumns 59 = .ok (.aload_n 0, 1) := by decide +kernel
theorem dX5_mixColumns_60 : decode cX5_mixColumns 60 = .ok (.getfield 33, 3) := by decide +kernel
theorem dX5_mixColumns_63 : decode cX5_mixColumns 63 = .ok (.iload 6, 2) := by decide +kernel
theorem dX5_mixColumns_65 : decode cX5_mixColumns 65 = .ok (.aload_n 0, 1) := by decide +kernel
theorem dX5_mixColumns_66 : decode cX5_mixColumns 66 = .ok (.getfield 12, 3) := by decide +kernel
theorem dX5_mixColumns_69 : decode cX5_mixColumns 69 = .ok (.getfield 56, 3) := by decide +kernel
theorem dX5_mixColumns_72 : decode cX5_mixColumns 72 = .ok (.invokevirtual 159, 3) := by decide +kernel
theorem dX5_mixColumns_75 : decode cX5_mixColumns 75 = .ok (.i2l, 1) := by decide +kernel
theorem dX5_mixColumns_76 : decode cX5_mixColumns 76 = .ok (.invokestatic 188, 3) := by decide +kernel
theorem dX5_mixColumns_79 : decode cX5_mixColumns 79 = .ok (.lstore_n 3, 1) := by decide +kernel
theorem dX5_mixColumns_80 : decode cX5_mixColumns 80 = .ok (.iinc 5 1, 3) := by decide +kernel
theorem dX5_mixColumns_83 : decode cX5_mixColumns 83 = .ok (.goto (-78), 3) := by decide +kernel
theorem dX5_mixColumns_86 : decode cX5_mixColumns 86 = .ok (.lload_n 3, 1) := by decide +kernel
theorem dX5_mixColumns_87 : decode cX5_mixColumns 87 = .ok (.lreturn, 1) := by decide +kernel
set_option maxRecDepth 20000 in
theorem ggX5_mixBest_X5_findBest : GoodIn wsX5_mixBest wsX5_findBest := goodIn_r _ [6, 1, 7, 8, 9, 10, 11, 12, 13, 14, 15, 16, 17, 18, 19, 20, 21, 22, 23, 24, 25, 26, 27, 28, 5, 29, 30, 31, 32, 33, 34, 35, 36, 37, 38, 39, 40, 41, 42, 43, 44, 45, 46, 47, 48, 49, 50, 51, 52, 53, 54, 55, 56, 57, 58, 59, 60, 61, 62, 63, 64, 65, 66, 67, 68, 69, 70, 71, 72, 73, 74, 75, 76, 77, 78, 79, 80, 81, 82, 83, 84, 85, 86, 87, 88, 89, 90, 91, 92, 93, 94, 95, 100, 101, 102, 103, 104, 105, 106, 107, 108, 109, 110, 111, 112, 113, 114, 115, 116, 117, 118, 119, 120, 121, 122, 123, 124, 125] (by decide +kernel) (by decide +kernel)
set_option maxRecDepth 20000 in
theorem gX5_mixBest_X5_findBest : GoodIn wsX5_mixBest (wsV RX5 163 RX5 yX5_findBest wsX5_findBest) := goodIn_app (goodIn_of _ (by decide +kernel)) ggX5_mixBest_X5_findBest
set_option maxRecDepth 20000 in
theorem ggX5_mixBest_X5_mix : GoodIn wsX5_mixBest wsX5_mix := goodIn_r _ [98, 99] (by decide +kernel) (by decide +kernel)
set_option maxRecDepth 20000 in
theorem gX5_mixBest_X5_mix : GoodIn wsX5_mixBest (va_wsS RX5 188 yX5_mix wsX5_mix) := goodIn_app (goodIn_of _ (by decide +kernel)) ggX5_mixBest_X5_mix
theorem dX5_mixBest_0 : decode cX5_mixBest 0 = .ok (.aload_n 0, 1) := by decide +kernel
theorem dX5_mixBest_1 : decode cX5_mixBest 1 = .ok (.invokevirtual 163, 3) := by decide +kernel
theorem dX5_mixBest_4 : decode cX5_mixBest 4 = .ok (.lload_n 1, 1) := by decide +kernel
theorem dX5_mixBest_5 : decode cX5_mixBest 5 = .ok (.aload_n 0, 1) := by decide +kernel
theorem dX5_mixBest_6 : decode cX5_mixBest 6 = .ok (.getfield 40, 3) := by decide +kernel
theorem dX5_mixBest_9 : decode cX5_mixBest 9 = .ok (.getfield 166, 3) := by decide +kernel
theorem dX5_mixBest_12 : decode cX5_mixBest 12 = .ok (.i2l, 1) := by decide +kernel
theorem dX5_mixBest_13 : decode cX5_mixBest 13 = .ok (.invokestatic 188, 3) := by decide +kernel
theorem dX5_mixBest_16 : decode cX5_mixBest 16 = .ok (.lstore_n 3, 1) := by decide +kernel
theorem dX5_mixBest_17 : decode cX5_mixBest 17 = .ok (.iconst 0, 1) := by decide +kernel
theorem dX5_mixBest_18 : decode cX5_mixBest 18 = .ok (.istore 5, 2) := by decide +kernel
theorem dX5_mixBest_20 : decode cX5_mixBest 20 = .ok (.iload 5, 2) := by decide +kernel
theorem dX5_mixBest_22 : decode cX5_mixBest 22 = .ok (.aload_n 0, 1) := by decide +kernel
theorem dX5_mixBest_23 : decode cX5_mixBest 23 = .ok (.getfield 40, 3) := by decide +kernel
theorem dX5_mixBest_26 : decode cX5_mixBest 26 = .ok (.getfield 166, 3) := by decide +kernel
theorem dX5_mixBest_29 : decode cX5_mixBest 29 = .ok (.if_icmp .ge 41, 3) := by decide +kernel
theorem dX5_mixBest_32 : decode cX5_mixBest 32 = .ok (.lload_n 3, 1) := by decide +kernel
theorem dX5_mixBest_33 : decode cX5_mixBest 33 = .ok (.aload_n 0, 1) := by decide +kernel
theorem dX5_mixBest_34 : decode cX5_mixBest 34 = .ok (.getfield 40, 3) := by decide +kernel
theorem dX5_mixBest_37 : decode cX5_mixBest 37 = .ok (.getfield 169, 3) := by decide +kernel
theorem dX5_mixBest_40 : decode cX5_mixBest 40 = .ok (.iload 5, 2) := by decide +kernel
theorem dX5_mixBest_42 : decode cX5_mixBest 42 = .ok (.iaload, 1) := by decide +kernel
theorem dX5_mixBest_43 : decode cX5_mixBest 43 = .ok (.i2l, 1) := by decide +kernel
theorem dX5_mixBest_44 : decode cX5_mixBest 44 = .ok (.invokestatic 188, 3) := by decide +kernel
theorem dX5_mixBest_47 : decode cX5_mixBest 47 = .ok (.lstore_n 3, 1) := by decide +kernel
theorem dX5_mixBest_48 : decode cX5_mixBest 48 = .ok (.lload_n 3, 1) := by decide +kernel
theorem dX5_mixBest_49 : decode cX5_mixBest 49 = .ok (.aload_n 0, 1) := by decide +kernel
theorem dX5_mixBest_50 : decode cX5_mixBest 50 = .ok (.getfield 40, 3) := by decide +kernel
theorem dX5_mixBest_53 : decode cX5_mixBest 53 = .ok (.getfield 172, 3) := by decide +kernel
theorem dX5_mixBest_56 : decode cX5_mixBest 56 = .ok (.iload 5, 2) := by decide +kernel
theorem dX5_mixBest_58 : decode cX5_mixBest 58 = .ok (.iaload, 1) := by decide +kernel
theorem dX5_mixBest_59 : decode cX5_mixBest 59 = .ok (.i2l, 1) := by decide +kernel
theorem dX5_mixBest_60 : decode cX5_mixBest 60 = .ok (.invokestatic 188, 3) := by decide +kernel
theorem dX5_mixBest_63 : decode cX5_mixBest 63 = .ok (.lstore_n 3, 1) := by decide +kernel
theorem dX5_mixBest_64 : decode cX5_mixBest 64 = .ok (.iinc 5 1, 3) := by decide +kernel
theorem dX5_mixBest_67 : decode cX5_mixBest 67 = .ok (.goto (-47), 3) := by decide +kernel
theorem dX5_mixBest_70 : decode cX5_mixBest 70 = .ok (.lload_n 3, 1) := by decide +kernel
theorem dX5_mixBest_71 : decode cX5_mixBest 71 = .ok (.lreturn, 1) := by decide +kernel
theorem dX5_fail_0 : decode cX5_fail 0 = .ok (.aload_n 0, 1) := by decide +kernel
theorem dX5_fail_1 : decode cX5_fail 1 = .ok (.getfield 44, 3) := by decide +kernel
theorem dX5_fail_4 : decode cX5_fail 4 = .ok (.bipush (-2), 2) := by decide +kernel
theorem dX5_fail_6 : decode cX5_fail 6 = .ok (.iload_n 1, 1) := by decide +kernel
theorem dX5_fail_7 : decode cX5_fail 7 = .ok (.isub, 1) := by decide +kernel
theorem dX5_fail_8 : decode cX5_fail 8 = .ok (.dup2, 1) := by decide +kernel
theorem dX5_fail_9 : decode cX5_fail 9 = .ok (.iaload, 1) := by decide +kernel
theorem dX5_fail_10 : decode cX5_fail 10 = .ok (.iconst 1, 1) := by decide +kernel
theorem dX5_fail_11 : decode cX5_fail 11 = .ok (.iadd, 1) := by decide +kernel
theorem dX5_fail_12 : decode cX5_fail 12 = .ok (.iastore, 1) := by decide +kernel
theorem dX5_fail_13 : decode cX5_fail 13 = .ok (.iload_n 1, 1) := by decide +kernel
theorem dX5_fail_14 : decode cX5_fail 14 = .ok (.ireturn, 1) := by decide +kernel
set_option maxRecDepth 20000 in
theorem ggX5_termsChanged_X5_foldsChanged : GoodIn wsX5_termsChanged wsX5_foldsChanged := goodIn_r _ [6, 7, 8, 9, 10, 11, 12, 13, 14, 15, 16, 17, 18, 19, 20, 21, 22, 23, 24, 25, 26, 27, 28, 29, 30, 31, 5, 32, 33, 34, 35, 36, 37, 38, 39, 40, 41, 42, 43, 44, 45, 46, 47, 48, 49, 50, 51, 52, 53, 54, 55, 65, 66, 67, 68, 69, 70, 71, 72, 73, 74, 75, 76, 77] (by decide +kernel) (by decide +kernel)
set_option maxRecDepth 20000 in
theorem gX5_termsChanged_X5_foldsChanged : GoodIn wsX5_termsChanged (wsV RX5 138 RX5 yX5_foldsChanged wsX5_foldsChanged) := goodIn_app (goodIn_of _ (by decide +kernel)) ggX5_termsChanged_X5_foldsChanged
theorem dX5_termsChanged_0 : decode cX5_termsChanged 0 = .ok (.aload_n 0, 1) := by decide +kernel
theorem dX5_termsChanged_1 : decode cX5_termsChanged 1 = .ok (.getfield 40, 3) := by decide +kernel
theorem dX5_termsChanged_4 : decode cX5_termsChanged 4 = .ok (.iconst 0, 1) := by decide +kernel
theorem dX5_termsChanged_5 : decode cX5_termsChanged 5 = .ok (.putfield 205, 3) := by decide +kernel
theorem dX5_termsChanged_8 : decode cX5_termsChanged 8 = .ok (.aload_n 0, 1) := by decide +kernel
theorem dX5_termsChanged_9 : decode cX5_termsChanged 9 = .ok (.invokevirtual 138, 3) := by decide +kernel
theorem dX5_termsChanged_12 : decode cX5_termsChanged 12 = .ok (.return_, 1) := by decide +kernel
set_option maxRecDepth 20000 in
theorem ggX5_foldsChanged_X1_collect : GoodIn wsX5_foldsChanged wsX1_collect := goodIn_r _ [7, 8, 9, 10, 5, 11, 12, 13, 14, 15, 16, 17, 18, 19, 20, 21, 22, 23, 24, 25, 26, 27, 28, 29, 30, 31, 32, 33, 34, 35, 51, 52, 53, 54, 55, 56, 57, 58, 59, 60, 61] (by decide +kernel) (by decide +kernel)
set_option maxRecDepth 20000 in
theorem gX5_foldsChanged_X1_collect_n209 : GoodIn wsX5_foldsChanged (wsX1_collect) := ggX5_foldsChanged_X1_collect
set_option maxRecDepth 20000 in
theorem ggX5_foldsChanged_X3_build : GoodIn wsX5_foldsChanged wsX3_build := goodIn_r _ [39, 40, 41, 42, 43, 37, 44, 25, 26, 27, 62, 63, 61] (by decide +kernel) (by decide +kernel)
set_option maxRecDepth 20000 in
theorem gX5_foldsChanged_X3_build_n212 : GoodIn wsX5_foldsChanged (wsX3_build) := ggX5_foldsChanged_X3_build
theorem dX5_foldsChanged_0 : decode cX5_foldsChanged 0 = .ok (.aload_n 0, 1) := by decide +kernel
theorem dX5_foldsChanged_1 : decode cX5_foldsChanged 1 = .ok (.getfield 26, 3) := by decide +kernel
theorem dX5_foldsChanged_4 : decode cX5_foldsChanged 4 = .ok (.aload_n 0, 1) := by decide +kernel
theorem dX5_foldsChanged_5 : decode cX5_foldsChanged 5 = .ok (.getfield 12, 3) := by decide +kernel
theorem dX5_foldsChanged_8 : decode cX5_foldsChanged 8 = .ok (.invokevirtual 209, 3) := by decide +kernel
theorem dX5_foldsChanged_11 : decode cX5_foldsChanged 11 = .ok (.aload_n 0, 1) := by decide +kernel
theorem dX5_foldsChanged_12 : decode cX5_foldsChanged 12 = .ok (.getfield 33, 3) := by decide +kernel
theorem dX5_foldsChanged_15 : decode cX5_foldsChanged 15 = .ok (.aload_n 0, 1) := by decide +kernel
theorem dX5_foldsChanged_16 : decode cX5_foldsChanged 16 = .ok (.getfield 26, 3) := by decide +kernel
theorem dX5_foldsChanged_19 : decode cX5_foldsChanged 19 = .ok (.aload_n 0, 1) := by decide +kernel
theorem dX5_foldsChanged_20 : decode cX5_foldsChanged 20 = .ok (.getfield 12, 3) := by decide +kernel
theorem dX5_foldsChanged_23 : decode cX5_foldsChanged 23 = .ok (.getfield 56, 3) := by decide +kernel
theorem dX5_foldsChanged_26 : decode cX5_foldsChanged 26 = .ok (.invokevirtual 212, 3) := by decide +kernel
theorem dX5_foldsChanged_29 : decode cX5_foldsChanged 29 = .ok (.return_, 1) := by decide +kernel
set_option maxRecDepth 20000 in
theorem ggX5_findBest_X0_search : GoodIn wsX5_findBest wsX0_search := goodIn_r _ [6, 7, 8, 9, 10, 11, 4, 12, 13, 14, 15, 16, 17, 18, 19, 20, 21, 22, 23, 24, 25, 26, 27, 28, 29, 30, 31, 32, 33, 34, 35, 36, 37, 38, 39, 40, 41, 42, 43, 44, 45, 46, 47, 48, 49, 50, 51, 52, 53, 54, 55, 56, 57, 58, 59, 60, 61, 62, 63, 64, 65, 66, 67, 68, 69, 70, 71, 72, 73, 74, 75, 76, 77, 78, 79, 80, 81, 82, 83, 84, 85, 86, 87, 88, 89, 90, 91, 98, 99, 100, 101, 102, 103, 104, 105, 106, 107, 108, 109, 110, 111, 112, 113, 114, 115, 116, 117] (by decide +kernel) (by decide +kernel)
set_option maxRecDepth 20000 in
theorem gX5_findBest_X0_search_n216 : GoodIn wsX5_findBest (wsX0_search) := ggX5_findBest_X0_search
theorem dX5_findBest_0 : decode cX5_findBest 0 = .ok (.aload_n 0, 1) := by decide +kernel
theorem dX5_findBest_1 : decode cX5_findBest 1 = .ok (.getfield 40, 3) := by decide +kernel
theorem dX5_findBest_4 : decode cX5_findBest 4 = .ok (.getfield 205, 3) := by decide +kernel
theorem dX5_findBest_7 : decode cX5_findBest 7 = .ok (.ifCond .ne 14, 3) := by decide +kernel
theorem dX5_findBest_10 : decode cX5_findBest 10 = .ok (.aload_n 0, 1) := by decide +kernel
theorem dX5_findBest_11 : decode cX5_findBest 11 = .ok (.getfield 40, 3) := by decide +kernel
theorem dX5_findBest_14 : decode cX5_findBest 14 = .ok (.aload_n 0, 1) := by decide +kernel
theorem dX5_findBest_15 : decode cX5_findBest 15 = .ok (.getfield 12, 3) := by decide +kernel
theorem dX5_findBest_18 : decode cX5_findBest 18 = .ok (.invokevirtual 216, 3) := by decide +kernel
theorem dX5_findBest_21 : decode cX5_findBest 21 = .ok (.return_, 1) := by decide +kernel
theorem dX5_mix_0 : decode cX5_mix 0 = .ok (.ldc2_w 219, 3) := by decide +kernel
theorem dX5_mix_3 : decode cX5_mix 3 = .ok (.lload_n 0, 1) := by decide +kernel
theorem dX5_mix_4 : decode cX5_mix 4 = .ok (.lmul, 1) := by decide +kernel
theorem dX5_mix_5 : decode cX5_mix 5 = .ok (.lload_n 2, 1) := by decide +kernel
theorem dX5_mix_6 : decode cX5_mix 6 = .ok (.ladd, 1) := by decide +kernel
theorem dX5_mix_7 : decode cX5_mix 7 = .ok (.lreturn, 1) := by decide +kernel
theorem dX5_flag_0 : decode cX5_flag 0 = .ok (.iload_n 0, 1) := by decide +kernel
theorem dX5_flag_1 : decode cX5_flag 1 = .ok (.ifCond .eq 7, 3) := by decide +kernel
theorem dX5_flag_4 : decode cX5_flag 4 = .ok (.iconst 1, 1) := by decide +kernel
theorem dX5_flag_5 : decode cX5_flag 5 = .ok (.goto 4, 3) := by decide +kernel
theorem dX5_flag_8 : decode cX5_flag 8 = .ok (.iconst 0, 1) := by decide +kernel
theorem dX5_flag_9 : decode cX5_flag 9 = .ok (.ireturn, 1) := by decide +kernel
theorem dX5_contains_0 : decode cX5_contains 0 = .ok (.iload_n 0, 1) := by decide +kernel
theorem dX5_contains_1 : decode cX5_contains 1 = .ok (.iload_n 1, 1) := by decide +kernel
theorem dX5_contains_2 : decode cX5_contains 2 = .ok (.ishr, 1) := by decide +kernel
theorem dX5_contains_3 : decode cX5_contains 3 = .ok (.iconst 1, 1) := by decide +kernel
theorem dX5_contains_4 : decode cX5_contains 4 = .ok (.iand, 1) := by decide +kernel
theorem dX5_contains_5 : decode cX5_contains 5 = .ok (.iconst 1, 1) := by decide +kernel
theorem dX5_contains_6 : decode cX5_contains 6 = .ok (.if_icmp .ne 7, 3) := by decide +kernel
theorem dX5_contains_9 : decode cX5_contains 9 = .ok (.iconst 1, 1) := by decide +kernel
theorem dX5_contains_10 : decode cX5_contains 10 = .ok (.goto 4, 3) := by decide +kernel
theorem dX5_contains_13 : decode cX5_contains 13 = .ok (.iconst 0, 1) := by decide +kernel
theorem dX5_contains_14 : decode cX5_contains 14 = .ok (.ireturn, 1) := by decide +kernel
set_option maxRecDepth 20000 in
theorem ggX6_init_X6_noFolds : GoodIn wsX6_init wsX6_noFolds := goodIn_r _ [16, 5, 17, 18, 19, 20, 21, 22, 23, 24, 25, 26] (by decide +kernel) (by decide +kernel)
set_option maxRecDepth 20000 in
theorem gX6_init_X6_noFolds : GoodIn wsX6_init (wsV RX6 31 RX6 yX6_noFolds wsX6_noFolds) := goodIn_app (goodIn_of _ (by decide +kernel)) ggX6_init_X6_noFolds
theorem dX6_init_0 : decode cX6_init 0 = .ok (.aload_n 0, 1) := by decide +kernel
theorem dX6_init_1 : decode cX6_init 1 = .ok (.invokespecial 1, 3) := by decide +kernel
theorem dX6_init_4 : decode cX6_init 4 = .ok (.aload_n 0, 1) := by decide +kernel
theorem dX6_init_5 : decode cX6_init 5 = .ok (.bipush 53, 2) := by decide +kernel
theorem dX6_init_7 : decode cX6_init 7 = .ok (.newarray .int, 2) := by decide +kernel
theorem dX6_init_9 : decode cX6_init 9 = .ok (.putfield 7, 3) := by decide +kernel
theorem dX6_init_12 : decode cX6_init 12 = .ok (.aload_n 0, 1) := by decide +kernel
theorem dX6_init_13 : decode cX6_init 13 = .ok (.sipush 265, 3) := by decide +kernel
theorem dX6_init_16 : decode cX6_init 16 = .ok (.newarray .int, 2) := by decide +kernel
theorem dX6_init_18 : decode cX6_init 18 = .ok (.putfield 13, 3) := by decide +kernel
theorem dX6_init_21 : decode cX6_init 21 = .ok (.aload_n 0, 1) := by decide +kernel
theorem dX6_init_22 : decode cX6_init 22 = .ok (.iconst 5, 1) := by decide +kernel
theorem dX6_init_23 : decode cX6_init 23 = .ok (.newarray .int, 2) := by decide +kernel
theorem dX6_init_25 : decode cX6_init 25 = .ok (.putfield 16, 3) := by decide +kernel
theorem dX6_init_28 : decode cX6_init 28 = .ok (.aload_n 0, 1) := by decide +kernel
theorem dX6_init_29 : decode cX6_init 29 = .ok (.bipush 10, 2) := by decide +kernel
theorem dX6_init_31 : decode cX6_init 31 = .ok (.newarray .int, 2) := by decide +kernel
theorem dX6_init_33 : decode cX6_init 33 = .ok (.putfield 19, 3) := by decide +kernel
theorem dX6_init_36 : decode cX6_init 36 = .ok (.aload_n 0, 1) := by decide +kernel
theorem dX6_init_37 : decode cX6_init 37 = .ok (.bipush 10, 2) := by decide +kernel
theorem dX6_init_39 : decode cX6_init 39 = .ok (.newarray .int, 2) := by decide +kernel
theorem dX6_init_41 : decode cX6_init 41 = .ok (.putfield 22, 3) := by decide +kernel
theorem dX6_init_44 : decode cX6_init 44 = .ok (.aload_n 0, 1) := by decide +kernel
theorem dX6_init_45 : decode cX6_init 45 = .ok (.bipush 10, 2) := by decide +kernel
theorem dX6_init_47 : decode cX6_init 47 = .ok (.newarray .int, 2) := by decide +kernel
theorem dX6_init_49 : decode cX6_init 49 = .ok (.putfield 25, 3) := by decide +kernel
theorem dX6_init_52 : decode cX6_init 52 = .ok (.aload_n 0, 1) := by decide +kernel
theorem dX6_init_53 : decode cX6_init 53 = .ok (.bipush 6, 2) := by decide +kernel
theorem dX6_init_55 : decode cX6_init 55 = .ok (.newarray .int, 2) := by decide +kernel
theorem dX6_init_57 : decode cX6_init 57 = .ok (.putfield 28, 3) := by decide +kernel
theorem dX6_init_60 : decode cX6_init 60 = .ok (.aload_n 0, 1) := by decide +kernel
theorem dX6_init_61 : decode cX6_init 61 = .ok (.getfield 7, 3) := by decide +kernel
theorem dX6_init_64 : decode cX6_init 64 = .ok (.iconst 0, 1) := by decide +kernel
theorem dX6_init_65 : decode cX6_init 65 = .ok (.iconst 4, 1) := by decide +kernel
theorem dX6_init_66 : decode cX6_init 66 = .ok (.iastore, 1) := by decide +kernel
theorem dX6_init_67 : decode cX6_init 67 = .ok (.aload_n 0, 1) := by decide +kernel
theorem dX6_init_68 : decode cX6_init 68 = .ok (.getfield 7, 3) := by decide +kernel
theorem dX6_init_71 : decode cX6_init 71 = .ok (.iconst 1, 1) := by decide +kernel
theorem dX6_init_72 : decode cX6_init 72 = .ok (.iconst 2, 1) := by decide +kernel
theorem dX6_init_73 : decode cX6_init 73 = .ok (.iastore, 1) := by decide +kernel
theorem dX6_init_74 : decode cX6_init 74 = .ok (.aload_n 0, 1) := by decide +kernel
theorem dX6_init_75 : decode cX6_init 75 = .ok (.invokevirtual 31, 3) := by decide +kernel
theorem dX6_init_78 : decode cX6_init 78 = .ok (.return_, 1) := by decide +kernel
theorem dX6_in_0 : decode cX6_in 0 = .ok (.iload_n 0, 1) := by decide +kernel
theorem dX6_in_1 : decode cX6_in 1 = .ok (.iload_n 1, 1) := by decide +kernel
theorem dX6_in_2 : decode cX6_in 2 = .ok (.if_icmp .lt 12, 3) := by decide +kernel
theorem dX6_in_5 : decode cX6_in 5 = .ok (.iload_n 0, 1) := by decide +kernel
theorem dX6_in_6 : decode cX6_in 6 = .ok (.iload_n 2, 1) := by decide +kernel
theorem dX6_in_7 : decode cX6_in 7 = .ok (.if_icmp .gt 7, 3) := by decide +kernel
theorem dX6_in_10 : decode cX6_in 10 = .ok (.iconst 1, 1) := by decide +kernel
theorem dX6_in_11 : decode cX6_in 11 = .ok (.goto 4, 3) := by decide +kernel
theorem dX6_in_14 : decode cX6_in 14 = .ok (.iconst 0, 1) := by decide +kernel
theorem dX6_in_15 : decode cX6_in 15 = .ok (.ireturn, 1) := by decide +kernel
theorem dX6_has_0 : decode cX6_has 0 = .ok (.iload_n 0, 1) := by decide +kernel
theorem dX6_has_1 : decode cX6_has 1 = .ok (.iload_n 1, 1) := by decide +kernel
theorem dX6_has_2 : decode cX6_has 2 = .ok (.ishr, 1) := by decide +kernel
theorem dX6_has_3 : decode cX6_has 3 = .ok (.iconst 1, 1) := by decide +kernel
theorem dX6_has_4 : decode cX6_has 4 = .ok (.iand, 1) := by decide +kernel
theorem dX6_has_5 : decode cX6_has 5 = .ok (.iconst 1, 1) := by decide +kernel
theorem dX6_has_6 : decode cX6_has 6 = .ok (.if_icmp .ne 7, 3) := by decide +kernel
theorem dX6_has_9 : decode cX6_has 9 = .ok (.iconst 1, 1) := by decide +kernel
theorem dX6_has_10 : decode cX6_has 10 = .ok (.goto 4, 3) := by decide +kernel
theorem dX6_has_13 : decode cX6_has 13 = .ok (.iconst 0, 1) := by decide +kernel
theorem dX6_has_14 : decode cX6_has 14 = .ok (.ireturn, 1) := by decide +kernel
theorem dX6_many_0 : decode cX6_many 0 = .ok (.iconst 0, 1) := by decide +kernel
theorem dX6_many_1 : decode cX6_many 1 = .ok (.istore_n 1, 1) := by decide +kernel
theorem dX6_many_2 : decode cX6_many 2 = .ok (.iload_n 0, 1) := by decide +kernel
theorem dX6_many_3 : decode cX6_many 3 = .ok (.istore_n 2, 1) := by decide +kernel
theorem dX6_many_4 : decode cX6_many 4 = .ok (.iload_n 2, 1) := by decide +kernel
theorem dX6_many_5 : decode cX6_many 5 = .ok (.ifCond .eq 15, 3) := by decide +kernel
theorem dX6_many_8 : decode cX6_many 8 = .ok (.iinc 1 1, 3) := by decide +kernel
theorem dX6_many_11 : decode cX6_many 11 = .ok (.iload_n 2, 1) := by decide +kernel
theorem dX6_many_12 : decode cX6_many 12 = .ok (.iload_n 2, 1) := by decide +kernel
theorem dX6_many_13 : decode cX6_many 13 = .ok (.iconst 1, 1) := by decide +kernel
theorem dX6_many_14 : decode cX6_many 14 = .ok (.isub, 1) := by decide +kernel
theorem dX6_many_15 : decode cX6_many 15 = .ok (.iand, 1) := by decide +kernel
theorem dX6_many_16 : decode cX6_many 16 = .ok (.istore_n 2, 1) := by decide +kernel
theorem dX6_many_17 : decode cX6_many 17 = .ok (.goto (-13), 3) := by decide +kernel
theorem dX6_many_20 : decode cX6_many 20 = .ok (.iload_n 1, 1) := by decide +kernel
theorem dX6_many_21 : decode cX6_many 21 = .ok (.ireturn, 1) := by decide +kernel
theorem dX6_error_0 : decode cX6_error 0 = .ok (.aload_n 0, 1) := by decide +kernel
theorem dX6_error_1 : decode cX6_error 1 = .ok (.getfield 16, 3) := by decide +kernel
theorem dX6_error_4 : decode cX6_error 4 = .ok (.bipush (-2), 2) := by decide +kernel
theorem dX6_error_6 : decode cX6_error 6 = .ok (.iload_n 1, 1) := by decide +kernel
theorem dX6_error_7 : decode cX6_error 7 = .ok (.isub, 1) := by decide +kernel
theorem dX6_error_8 : decode cX6_error 8 = .ok (.dup2, 1) := by decide +kernel
theorem dX6_error_9 : decode cX6_error 9 = .ok (.iaload, 1) := by decide +kernel
theorem dX6_error_10 : decode cX6_error 10 = .ok (.iconst 1, 1) := by decide +kernel
theorem dX6_error_11 : decode cX6_error 11 = .ok (.iadd, 1) := by decide +kernel
theorem dX6_error_12 : decode cX6_error 12 = .ok (.iastore, 1) := by decide +kernel
theorem dX6_error_13 : decode cX6_error 13 = .ok (.iload_n 1, 1) := by decide +kernel
theorem dX6_error_14 : decode cX6_error 14 = .ok (.ireturn, 1) := by decide +kernel
set_option maxRecDepth 20000 in
theorem ggX6_isTerm_X6_in : GoodIn wsX6_isTerm wsX6_in := goodIn_r _ [5] (by decide +kernel) (by decide +kernel)
set_option maxRecDepth 20000 in
theorem gX6_isTerm_X6_in : GoodIn wsX6_isTerm (va_wsS RX6 34 yX6_in wsX6_in) := goodIn_app (goodIn_of _ (by decide +kernel)) ggX6_isTerm_X6_in
theorem dX6_isTerm_0 : decode cX6_isTerm 0 = .ok (.iload_n 1, 1) := by decide +kernel
theorem dX6_isTerm_1 : decode cX6_isTerm 1 = .ok (.iconst 0, 1) := by decide +kernel
theorem dX6_isTerm_2 : decode cX6_isTerm 2 = .ok (.aload_n 0, 1) := by decide +kernel
theorem dX6_isTerm_3 : decode cX6_isTerm 3 = .ok (.getfield 7, 3) := by decide +kernel
theorem dX6_isTerm_6 : decode cX6_isTerm 6 = .ok (.iconst 2, 1) := by decide +kernel
theorem dX6_isTerm_7 : decode cX6_isTerm 7 = .ok (.iaload, 1) := by decide +kernel
theorem dX6_isTerm_8 : decode cX6_isTerm 8 = .ok (.iconst 1, 1) := by decide +kernel
theorem dX6_isTerm_9 : decode cX6_isTerm 9 = .ok (.isub, 1) := by decide +kernel
theorem dX6_isTerm_10 : decode cX6_isTerm 10 = .ok (.invokestatic 34, 3) := by decide +kernel
theorem dX6_isTerm_13 : decode cX6_isTerm 13 = .ok (.ireturn, 1) := by decide +kernel
set_option maxRecDepth 20000 in
theorem ggX6_isColumn_X6_in : GoodIn wsX6_isColumn wsX6_in := goodIn_r _ [5] (by decide +kernel) (by decide +kernel)
set_option maxRecDepth 20000 in
theorem gX6_isColumn_X6_in : GoodIn wsX6_isColumn (va_wsS RX6 34 yX6_in wsX6_in) := goodIn_app (goodIn_of _ (by decide +kernel)) ggX6_isColumn_X6_in
theorem dX6_isColumn_0 : decode cX6_isColumn 0 = .ok (.iload_n 1, 1) := by decide +kernel
theorem dX6_isColumn_1 : decode cX6_isColumn 1 = .ok (.iconst 0, 1) := by decide +kernel
theorem dX6_isColumn_2 : decode cX6_isColumn 2 = .ok (.aload_n 0, 1) := by decide +kernel
theorem dX6_isColumn_3 : decode cX6_isColumn 3 = .ok (.getfield 7, 3) := by decide +kernel
theorem dX6_isColumn_6 : decode cX6_isColumn 6 = .ok (.iconst 0, 1) := by decide +kernel
theorem dX6_isColumn_7 : decode cX6_isColumn 7 = .ok (.iaload, 1) := by decide +kernel
theorem dX6_isColumn_8 : decode cX6_isColumn 8 = .ok (.iconst 1, 1) := by decide +kernel
theorem dX6_isColumn_9 : decode cX6_isColumn 9 = .ok (.isub, 1) := by decide +kernel
theorem dX6_isColumn_10 : decode cX6_isColumn 10 = .ok (.invokestatic 34, 3) := by decide +kernel
theorem dX6_isColumn_13 : decode cX6_isColumn 13 = .ok (.ifCond .ne 23, 3) := by decide +kernel
theorem dX6_isColumn_16 : decode cX6_isColumn 16 = .ok (.iload_n 1, 1) := by decide +kernel
theorem dX6_isColumn_17 : decode cX6_isColumn 17 = .ok (.bipush 6, 2) := by decide +kernel
theorem dX6_isColumn_19 : decode cX6_isColumn 19 = .ok (.bipush 6, 2) := by decide +kernel
theorem dX6_isColumn_21 : decode cX6_isColumn 21 = .ok (.aload_n 0, 1) := by decide +kernel
theorem dX6_isColumn_22 : decode cX6_isColumn 22 = .ok (.getfield 7, 3) := by decide +kernel
theorem dX6_isColumn_25 : decode cX6_isColumn 25 = .ok (.iconst 1, 1) := by decide +kernel
theorem dX6_isColumn_26 : decode cX6_isColumn 26 = .ok (.iaload, 1) := by decide +kernel
theorem dX6_isColumn_27 : decode cX6_isColumn 27 = .ok (.iadd, 1) := by decide +kernel
theorem dX6_isColumn_28 : decode cX6_isColumn 28 = .ok (.iconst 1, 1) := by decide +kernel
theorem dX6_isColumn_29 : decode cX6_isColumn 29 = .ok (.isub, 1) := by decide +kernel
theorem dX6_isColumn_30 : decode cX6_isColumn 30 = .ok (.invokestatic 34, 3) := by decide +kernel
theorem dX6_isColumn_33 : decode cX6_isColumn 33 = .ok (.ifCond .eq 7, 3) := by decide +kernel
theorem dX6_isColumn_36 : decode cX6_isColumn 36 = .ok (.iconst 1, 1) := by decide +kernel
theorem dX6_isColumn_37 : decode cX6_isColumn 37 = .ok (.goto 4, 3) := by decide +kernel
theorem dX6_isColumn_40 : decode cX6_isColumn 40 = .ok (.iconst 0, 1) := by decide +kernel
theorem dX6_isColumn_41 : decode cX6_isColumn 41 = .ok (.ireturn, 1) := by decide +kernel
theorem dX6_noFolds_0 : decode cX6_noFolds 0 = .ok (.iconst 0, 1) := by decide +kernel
theorem dX6_noFolds_1 : decode cX6_noFolds 1 = .ok (.istore_n 1, 1) := by decide +kernel
theorem dX6_noFolds_2 : decode cX6_noFolds 2 = .ok (.iload_n 1, 1) := by decide +kernel
theorem dX6_noFolds_3 : decode cX6_noFolds 3 = .ok (.bipush 10, 2) := by decide +kernel
theorem dX6_noFolds_5 : decode cX6_noFolds 5 = .ok (.if_icmp .ge 29, 3) := by decide +kernel
theorem dX6_noFolds_8 : decode cX6_noFolds 8 = .ok (.aload_n 0, 1) := by decide +kernel
theorem dX6_noFolds_9 : decode cX6_noFolds 9 = .ok (.getfield 7, 3) := by decide +kernel
theorem dX6_noFolds_12 : decode cX6_noFolds 12 = .ok (.bipush 33, 2) := by decide +kernel
theorem dX6_noFolds_14 : decode cX6_noFolds 14 = .ok (.iload_n 1, 1) := by decide +kernel
theorem dX6_noFolds_15 : decode cX6_noFolds 15 = .ok (.iadd, 1) := by decide +kernel
theorem dX6_noFolds_16 : decode cX6_noFolds 16 = .ok (.iconst (-1), 1) := by decide +kernel
theorem dX6_noFolds_17 : decode cX6_noFolds 17 = .ok (.iastore, 1) := by decide +kernel
theorem dX6_noFolds_18 : decode cX6_noFolds 18 = .ok (.aload_n 0, 1) := by decide +kernel
theorem dX6_noFolds_19 : decode cX6_noFolds 19 = .ok (.getfield 7, 3) := by decide +kernel
theorem dX6_noFolds_22 : decode cX6_noFolds 22 = .ok (.bipush 43, 2) := by decide +kernel
theorem dX6_noFolds_24 : decode cX6_noFolds 24 = .ok (.iload_n 1, 1) := by decide +kernel
theorem dX6_noFolds_25 : decode cX6_noFolds 25 = .ok (.iadd, 1) := by decide +kernel
theorem dX6_noFolds_26 : decode cX6_noFolds 26 = .ok (.iconst (-1), 1) := by decide +kernel
theorem dX6_noFolds_27 : decode cX6_noFolds 27 = .ok (.iastore, 1) := by decide +kernel
theorem dX6_noFolds_28 : decode cX6_noFolds 28 = .ok (.iinc 1 1, 3) := by decide +kernel
theorem dX6_noFolds_31 : decode cX6_noFolds 31 = .ok (.goto (-29), 3) := by decide +kernel
theorem dX6_noFolds_34 : decode cX6_noFolds 34 = .ok (.return_, 1) := by decide +kernel
theorem dX6_save_0 : decode cX6_save 0 = .ok (.aload_n 0, 1) := by decide +kernel
theorem dX6_save_1 : decode cX6_save 1 = .ok (.getfield 38, 3) := by decide +kernel
theorem dX6_save_4 : decode cX6_save 4 = .ok (.iconst 5, 1) := by decide +kernel
theorem dX6_save_5 : decode cX6_save 5 = .ok (.if_icmp .ne 43, 3) := by decide +kernel
theorem dX6_save_8 : decode cX6_save 8 = .ok (.iconst 0, 1) := by decide +kernel
theorem dX6_save_9 : decode cX6_save 9 = .ok (.istore_n 1, 1) := by decide +kernel
theorem dX6_save_10 : decode cX6_save 10 = .ok (.iload_n 1, 1) := by decide +kernel
theorem dX6_save_11 : decode cX6_save 11 = .ok (.sipush 212, 3) := by decide +kernel
theorem dX6_save_14 : decode cX6_save 14 = .ok (.if_icmp .ge 24, 3) := by decide +kernel
theorem dX6_save_17 : decode cX6_save 17 = .ok (.aload_n 0, 1) := by decide +kernel
theorem dX6_save_18 : decode cX6_save 18 = .ok (.getfield 13, 3) := by decide +kernel
theorem dX6_save_21 : decode cX6_save 21 = .ok (.iload_n 1, 1) := by decide +kernel
theorem dX6_save_22 : decode cX6_save 22 = .ok (.aload_n 0, 1) := by decide +kernel
theorem dX6_save_23 : decode cX6_save 23 = .ok (.getfield 13, 3) := by decide +kernel
theorem dX6_save_26 : decode cX6_save 26 = .ok (.iload_n 1, 1) := by decide +kernel
theorem dX6_save_27 : decode cX6_save 27 = .ok (.bipush 53, 2) := by decide +kernel
theorem dX6_save_29 : decode cX6_save 29 = .ok (.iadd, 1) := by decide +kernel
theorem dX6_save_30 : decode cX6_save 30 = .ok (.iaload, 1) := by decide +kernel
theorem dX6_save_31 : decode cX6_save 31 = .ok (.iastore, 1) := by decide +kernel
theorem dX6_save_32 : decode cX6_save 32 = .ok (.iinc 1 1, 3) := by decide +kernel
theorem dX6_save_35 : decode cX6_save 35 = .ok (.goto (-25), 3) := by decide +kernel
theorem dX6_save_38 : decode cX6_save 38 = .ok (.aload_n 0, 1) := by decide +kernel
theorem dX6_save_39 : decode cX6_save 39 = .ok (.dup, 1) := by decide +kernel
theorem dX6_save_40 : decode cX6_save 40 = .ok (.getfield 38, 3) := by decide +kernel
theorem dX6_save_43 : decode cX6_save 43 = .ok (.iconst 1, 1) := by decide +kernel
theorem dX6_save_44 : decode cX6_save 44 = .ok (.isub, 1) := by decide +kernel
theorem dX6_save_45 : decode cX6_save 45 = .ok (.putfield 38, 3) := by decide +kernel
theorem dX6_save_48 : decode cX6_save 48 = .ok (.iconst 0, 1) := by decide +kernel
theorem dX6_save_49 : decode cX6_save 49 = .ok (.istore_n 1, 1) := by decide +kernel
theorem dX6_save_50 : decode cX6_save 50 = .ok (.iload_n 1, 1) := by decide +kernel
theorem dX6_save_51 : decode cX6_save 51 = .ok (.bipush 53, 2) := by decide +kernel
theorem dX6_save_53 : decode cX6_save 53 = .ok (.if_icmp .ge 29, 3) := by decide +kernel
theorem dX6_save_56 : decode cX6_save 56 = .ok (.aload_n 0, 1) := by decide +kernel
theorem dX6_save_57 : decode cX6_save 57 = .ok (.getfield 13, 3) := by decide +kernel
theorem dX6_save_60 : decode cX6_save 60 = .ok (.bipush 53, 2) := by decide +kernel
theorem dX6_save_62 : decode cX6_save 62 = .ok (.aload_n 0, 1) := by decide +kernel
theorem dX6_save_63 : decode cX6_save 63 = .ok (.getfield 38, 3) := by decide +kernel
theorem dX6_save_66 : decode cX6_save 66 = .ok (.imul, 1) := by decide +kernel
theorem dX6_save_67 : decode cX6_save 67 = .ok (.iload_n 1, 1) := by decide +kernel
theorem dX6_save_68 : decode cX6_save 68 = .ok (.iadd, 1) := by decide +kernel
theorem dX6_save_69 : decode cX6_save 69 = .ok (.aload_n 0, 1) := by decide +kernel
theorem dX6_save_70 : decode cX6_save 70 = .ok (.getfield 7, 3) := by decide +kernel
theorem dX6_save_73 : decode cX6_save 73 = .ok (.iload_n 1, 1) := by decide +kernel
theorem dX6_save_74 : decode cX6_save 74 = .ok (.iaload, 1) := by decide +kernel
theorem dX6_save_75 : decode cX6_save 75 = .ok (.iastore, 1) := by decide +kernel
theorem dX6_save_76 : decode cX6_save 76 = .ok (.iinc 1 1, 3) := by decide +kernel
theorem dX6_save_79 : decode cX6_save 79 = .ok (.goto (-29), 3) := by decide +kernel
theorem dX6_save_82 : decode cX6_save 82 = .ok (.aload_n 0, 1) := by decide +kernel
theorem dX6_save_83 : decode cX6_save 83 = .ok (.dup, 1) := by decide +kernel
theorem dX6_save_84 : decode cX6_save 84 = .ok (.getfield 38, 3) := by decide +kernel
theorem dX6_save_87 : decode cX6_save 87 = .ok (.iconst 1, 1) := by decide +kernel
theorem dX6_save_88 : decode cX6_save 88 = .ok (.iadd, 1) := by decide +kernel
theorem dX6_save_89 : decode cX6_save 89 = .ok (.putfield 38, 3) := by decide +kernel
theorem dX6_save_92 : decode cX6_save 92 = .ok (.return_, 1) := by decide +kernel
set_option maxRecDepth 20000 in
theorem ggX6_undo_X6_error : GoodIn wsX6_undo wsX6_error := goodIn_r _ [8, 9, 10, 11, 12, 13, 14, 15, 16, 17, 18, 19] (by decide +kernel) (by decide +kernel)
set_option maxRecDepth 20000 in
theorem gX6_undo_X6_error : GoodIn wsX6_undo (wsV RX6 42 RX6 yX6_error wsX6_error) := goodIn_app (goodIn_of _ (by decide +kernel)) ggX6_undo_X6_error
theorem dX6_undo_0 : decode cX6_undo 0 = .ok (.aload_n 0, 1) := by decide +kernel
theorem dX6_undo_1 : decode cX6_undo 1 = .ok (.getfield 38, 3) := by decide +kernel
theorem dX6_undo_4 : decode cX6_undo 4 = .ok (.ifCond .ne 10, 3) := by decide +kernel
theorem dX6_undo_7 : decode cX6_undo 7 = .ok (.aload_n 0, 1) := by decide +kernel
theorem dX6_undo_8 : decode cX6_undo 8 = .ok (.bipush (-6), 2) := by decide +kernel
theorem dX6_undo_10 : decode cX6_undo 10 = .ok (.invokevirtual 42, 3) := by decide +kernel
theorem dX6_undo_13 : decode cX6_undo 13 = .ok (.ireturn, 1) := by decide +kernel
theorem dX6_undo_14 : decode cX6_undo 14 = .ok (.aload_n 0, 1) := by decide +kernel
theorem dX6_undo_15 : decode cX6_undo 15 = .ok (.dup, 1) := by decide +kernel
theorem dX6_undo_16 : decode cX6_undo 16 = .ok (.getfield 38, 3) := by decide +kernel
theorem dX6_undo_19 : decode cX6_undo 19 = .ok (.iconst 1, 1) := by decide +kernel
theorem dX6_undo_20 : decode cX6_undo 20 = .ok (.isub, 1) := by decide +kernel
theorem dX6_undo_21 : decode cX6_undo 21 = .ok (.putfield 38, 3) := by decide +kernel
theorem dX6_undo_24 : decode cX6_undo 24 = .ok (.iconst 0, 1) := by decide +kernel
theorem dX6_undo_25 : decode cX6_undo 25 = .ok (.istore_n 1, 1) := by decide +kernel
theorem dX6_undo_26 : decode cX6_undo 26 = .ok (.iload_n 1, 1) := by decide +kernel
theorem dX6_undo_27 : decode cX6_undo 27 = .ok (.bipush 53, 2) := by decide +kernel
theorem dX6_undo_29 : decode cX6_undo 29 = .ok (.if_icmp .ge 29, 3) := by decide +kernel
theorem dX6_undo_32 : decode cX6_undo 32 = .ok (.aload_n 0, 1) := by decide +kernel
theorem dX6_undo_33 : decode cX6_undo 33 = .ok (.getfield 7, 3) := by decide +kernel
theorem dX6_undo_36 : decode cX6_undo 36 = .ok (.iload_n 1, 1) := by decide +kernel
theorem dX6_undo_37 : decode cX6_undo 37 = .ok (.aload_n 0, 1) := by decide +kernel
theorem dX6_undo_38 : decode cX6_undo 38 = .ok (.getfield 13, 3) := by decide +kernel
theorem dX6_undo_41 : decode cX6_undo 41 = .ok (.bipush 53, 2) := by decide +kernel
theorem dX6_undo_43 : decode cX6_undo 43 = .ok (.aload_n 0, 1) := by decide +kernel
theorem dX6_undo_44 : decode cX6_undo 44 = .ok (.getfield 38, 3) := by decide +kernel
theorem dX6_undo_47 : decode cX6_undo 47 = .ok (.imul, 1) := by decide +kernel
theorem dX6_undo_48 : decode cX6_undo 48 = .ok (.iload_n 1, 1) := by decide +kernel
theorem dX6_undo_49 : decode cX6_undo 49 = .ok (.iadd, 1) := by decide +kernel
theorem dX6_undo_50 : decode cX6_undo 50 = .ok (.iaload, 1) := by decide +kernel
theorem dX6_undo_51 : decode cX6_undo 51 = .ok (.iastore, 1) := by decide +kernel
theorem dX6_undo_52 : decode cX6_undo 52 = .ok (.iinc 1 1, 3) := by decide +kernel
theorem dX6_undo_55 : decode cX6_undo 55 = .ok (.goto (-29), 3) := by decide +kernel
theorem dX6_undo_58 : decode cX6_undo 58 = .ok (.aload_n 0, 1) := by decide +kernel
theorem dX6_undo_59 : decode cX6_undo 59 = .ok (.getfield 38, 3) := by decide +kernel
theorem dX6_undo_62 : decode cX6_undo 62 = .ok (.ireturn, 1) := by decide +kernel
set_option maxRecDepth 20000 in
theorem ggX6_setSize_X6_in : GoodIn wsX6_setSize wsX6_in := goodIn_r _ [5] (by decide +kernel) (by decide +kernel)
set_option maxRecDepth 20000 in
theorem gX6_setSize_X6_in : GoodIn wsX6_setSize (va_wsS RX6 34 yX6_in wsX6_in) := goodIn_app (goodIn_of _ (by decide +kernel)) ggX6_setSize_X6_in
set_option maxRecDepth 20000 in
theorem ggX6_setSize_X6_error : GoodIn wsX6_setSize wsX6_error := goodIn_r _ [9, 10, 21, 22, 23, 24, 25, 26, 27, 28, 29, 30] (by decide +kernel) (by decide +kernel)
set_option maxRecDepth 20000 in
theorem gX6_setSize_X6_error : GoodIn wsX6_setSize (wsV RX6 42 RX6 yX6_error wsX6_error) := goodIn_app (goodIn_of _ (by decide +kernel)) ggX6_setSize_X6_error
set_option maxRecDepth 20000 in
theorem ggX6_setSize_X6_save : GoodIn wsX6_setSize wsX6_save := goodIn_r _ [14, 15, 16, 1, 21, 22, 23, 24, 25, 26, 27, 28, 29, 30] (by decide +kernel) (by decide +kernel)
set_option maxRecDepth 20000 in
theorem gX6_setSize_X6_save : GoodIn wsX6_setSize (wsV RX6 46 RX6 yX6_save wsX6_save) := goodIn_app (goodIn_of _ (by decide +kernel)) ggX6_setSize_X6_save
set_option maxRecDepth 20000 in
theorem ggX6_setSize_X6_noFolds : GoodIn wsX6_setSize wsX6_noFolds := goodIn_r _ [20, 1, 21, 22, 23, 24, 25, 26, 27, 28, 29, 30] (by decide +kernel) (by decide +kernel)
set_option maxRecDepth 20000 in
theorem gX6_setSize_X6_noFolds : GoodIn wsX6_setSize (wsV RX6 31 RX6 yX6_noFolds wsX6_noFolds) := goodIn_app (goodIn_of _ (by decide +kernel)) ggX6_setSize_X6_noFolds
theorem dX6_setSize_0 : decode cX6_setSize 0 = .ok (.iload_n 1, 1) := by decide +kernel
theorem dX6_setSize_1 : decode cX6_setSize 1 = .ok (.iconst 1, 1) := by decide +kernel
theorem dX6_setSize_2 : decode cX6_setSize 2 = .ok (.bipush 6, 2) := by decide +kernel
theorem dX6_setSize_4 : decode cX6_setSize 4 = .ok (.invokestatic 34, 3) := by decide +kernel
theorem dX6_setSize_7 : decode cX6_setSize 7 = .ok (.ifCond .eq 12, 3) := by decide +kernel
theorem dX6_setSize_10 : decode cX6_setSize 10 = .ok (.iload_n 2, 1) := by decide +kernel
theorem dX6_setSize_11 : decode cX6_setSize 11 = .ok (.iconst 1, 1) := by decide +kernel
theorem dX6_setSize_12 : decode cX6_setSize 12 = .ok (.iconst 4, 1) := by decide +kernel
theorem dX6_setSize_13 : decode cX6_setSize 13 = .ok (.invokestatic 34, 3) := by decide +kernel
theorem dX6_setSize_16 : decode cX6_setSize 16 = .ok (.ifCond .ne 10, 3) := by decide +kernel
theorem dX6_setSize_19 : decode cX6_setSize 19 = .ok (.aload_n 0, 1) := by decide +kernel
theorem dX6_setSize_20 : decode cX6_setSize 20 = .ok (.bipush (-2), 2) := by decide +kernel
theorem dX6_setSize_22 : decode cX6_setSize 22 = .ok (.invokevirtual 42, 3) := by decide +kernel
theorem dX6_setSize_25 : decode cX6_setSize 25 = .ok (.ireturn, 1) := by decide +kernel
theorem dX6_setSize_26 : decode cX6_setSize 26 = .ok (.aload_n 0, 1) := by decide +kernel
theorem dX6_setSize_27 : decode cX6_setSize 27 = .ok (.invokevirtual 46, 3) := by decide +kernel
theorem dX6_setSize_30 : decode cX6_setSize 30 = .ok (.aload_n 0, 1) := by decide +kernel
theorem dX6_setSize_31 : decode cX6_setSize 31 = .ok (.getfield 7, 3) := by decide +kernel
theorem dX6_setSize_34 : decode cX6_setSize 34 = .ok (.iconst 2, 1) := by decide +kernel
theorem dX6_setSize_35 : decode cX6_setSize 35 = .ok (.iaload, 1) := by decide +kernel
theorem dX6_setSize_36 : decode cX6_setSize 36 = .ok (.istore_n 3, 1) := by decide +kernel
theorem dX6_setSize_37 : decode cX6_setSize 37 = .ok (.aload_n 0, 1) := by decide +kernel
theorem dX6_setSize_38 : decode cX6_setSize 38 = .ok (.getfield 7, 3) := by decide +kernel
theorem dX6_setSize_41 : decode cX6_setSize 41 = .ok (.iconst 0, 1) := by decide +kernel
theorem dX6_setSize_42 : decode cX6_setSize 42 = .ok (.iload_n 1, 1) := by decide +kernel
theorem dX6_setSize_43 : decode cX6_setSize 43 = .ok (.iastore, 1) := by decide +kernel
theorem dX6_setSize_44 : decode cX6_setSize 44 = .ok (.aload_n 0, 1) := by decide +kernel
theorem dX6_setSize_45 : decode cX6_setSize 45 = .ok (.getfield 7, 3) := by decide +kernel
theorem dX6_setSize_48 : decode cX6_setSize 48 = .ok (.iconst 1, 1) := by decide +kernel
theorem dX6_setSize_49 : decode cX6_setSize 49 = .ok (.iload_n 2, 1) := by decide +kernel
theorem dX6_setSize_50 : decode cX6_setSize 50 = .ok (.iastore, 1) := by decide +kernel
theorem dX6_setSize_51 : decode cX6_setSize 51 = .ok (.aload_n 0, 1) := by decide +kernel
theorem dX6_setSize_52 : decode cX6_setSize 52 = .ok (.getfield 7, 3) := by decide +kernel
theorem dX6_setSize_55 : decode cX6_setSize 55 = .ok (.iconst 2, 1) := by decide +kernel
theorem dX6_setSize_56 : decode cX6_setSize 56 = .ok (.iconst 0, 1) := by decide +kernel
theorem dX6_setSize_57 : decode cX6_setSize 57 = .ok (.iastore, 1) := by decide +kernel
theorem dX6_setSize_58 : decode cX6_setSize 58 = .ok (.aload_n 0, 1) := by decide +kernel
theorem dX6_setSize_59 : decode cX6_setSize 59 = .ok (.invokevirtual 31, 3) := by decide +kernel
theorem dX6_setSize_62 : decode cX6_setSize 62 = .ok (.iload_n 3, 1) := by decide +kernel
theorem dX6_setSize_63 : decode cX6_setSize 63 = .ok (.ireturn, 1) := by decide +kernel
set_option maxRecDepth 20000 in
theorem ggX6_isSet_X6_in : GoodIn wsX6_isSet wsX6_in := goodIn_r _ [4] (by decide +kernel) (by decide +kernel)
set_option maxRecDepth 20000 in
theorem gX6_isSet_X6_in : GoodIn wsX6_isSet (va_wsS RX6 34 yX6_in wsX6_in) := goodIn_app (goodIn_of _ (by decide +kernel)) ggX6_isSet_X6_in
theorem dX6_isSet_0 : decode cX6_isSet 0 = .ok (.iload_n 1, 1) := by decide +kernel
theorem dX6_isSet_1 : decode cX6_isSet 1 = .ok (.iconst 0, 1) := by decide +kernel
theorem dX6_isSet_2 : decode cX6_isSet 2 = .ok (.iconst 1, 1) := by decide +kernel
theorem dX6_isSet_3 : decode cX6_isSet 3 = .ok (.iload_n 2, 1) := by decide +kernel
theorem dX6_isSet_4 : decode cX6_isSet 4 = .ok (.ishl, 1) := by decide +kernel
theorem dX6_isSet_5 : decode cX6_isSet 5 = .ok (.iconst 1, 1) := by decide +kernel
theorem dX6_isSet_6 : decode cX6_isSet 6 = .ok (.isub, 1) := by decide +kernel
theorem dX6_isSet_7 : decode cX6_isSet 7 = .ok (.invokestatic 34, 3) := by decide +kernel
theorem dX6_isSet_10 : decode cX6_isSet 10 = .ok (.ireturn, 1) := by decide +kernel
set_option maxRecDepth 20000 in
theorem ggX6_addTerm_X6_isSet : GoodIn wsX6_addTerm wsX6_isSet := goodIn_r _ [6, 7, 8, 5, 9] (by decide +kernel) (by decide +kernel)
set_option maxRecDepth 20000 in
theorem gX6_addTerm_X6_isSet : GoodIn wsX6_addTerm (wsV RX6 49 RX6 yX6_isSet wsX6_isSet) := goodIn_app (goodIn_of _ (by decide +kernel)) ggX6_addTerm_X6_isSet
set_option maxRecDepth 20000 in
theorem ggX6_addTerm_X6_error : GoodIn wsX6_addTerm wsX6_error := goodIn_r _ [13, 14, 25, 26, 27, 28, 29, 30, 31, 32, 33, 34] (by decide +kernel) (by decide +kernel)
set_option maxRecDepth 20000 in
theorem gX6_addTerm_X6_error : GoodIn wsX6_addTerm (wsV RX6 42 RX6 yX6_error wsX6_error) := goodIn_app (goodIn_of _ (by decide +kernel)) ggX6_addTerm_X6_error
set_option maxRecDepth 20000 in
theorem ggX6_addTerm_X6_save : GoodIn wsX6_addTerm wsX6_save := goodIn_r _ [18, 19, 20, 1, 25, 26, 27, 28, 29, 30, 31, 32, 33, 34] (by decide +kernel) (by decide +kernel)
set_option maxRecDepth 20000 in
theorem gX6_addTerm_X6_save : GoodIn wsX6_addTerm (wsV RX6 46 RX6 yX6_save wsX6_save) := goodIn_app (goodIn_of _ (by decide +kernel)) ggX6_addTerm_X6_save
set_option maxRecDepth 20000 in
theorem ggX6_addTerm_X6_noFolds : GoodIn wsX6_addTerm wsX6_noFolds := goodIn_r _ [24, 1, 25, 26, 27, 28, 29, 30, 31, 32, 33, 34] (by decide +kernel) (by decide +kernel)
set_option maxRecDepth 20000 in
theorem gX6_addTerm_X6_noFolds : GoodIn wsX6_addTerm (wsV RX6 31 RX6 yX6_noFolds wsX6_noFolds) := goodIn_app (goodIn_of _ (by decide +kernel)) ggX6_addTerm_X6_noFolds
theorem dX6_addTerm_0 : decode cX6_addTerm 0 = .ok (.aload_n 0, 1) := by decide +kernel
theorem dX6_addTerm_1 : decode cX6_addTerm 1 = .ok (.iload_n 1, 1) := by decide +kernel
theorem dX6_addTerm_2 : decode cX6_addTerm 2 = .ok (.aload_n 0, 1) := by decide +kernel
theorem dX6_addTerm_3 : decode cX6_addTerm 3 = .ok (.getfield 7, 3) := by decide +kernel
theorem dX6_addTerm_6 : decode cX6_addTerm 6 = .ok (.iconst 0, 1) := by decide +kernel
theorem dX6_addTerm_7 : decode cX6_addTerm 7 = .ok (.iaload, 1) := by decide +kernel
theorem dX6_addTerm_8 : decode cX6_addTerm 8 = .ok (.invokevirtual 49, 3) := by decide +kernel
theorem dX6_addTerm_11 : decode cX6_addTerm 11 = .ok (.ifCond .eq 41, 3) := by decide +kernel
theorem dX6_addTerm_14 : decode cX6_addTerm 14 = .ok (.aload_n 0, 1) := by decide +kernel
theorem dX6_addTerm_15 : decode cX6_addTerm 15 = .ok (.iload_n 2, 1) := by decide +kernel
theorem dX6_addTerm_16 : decode cX6_addTerm 16 = .ok (.aload_n 0, 1) := by decide +kernel
theorem dX6_addTerm_17 : decode cX6_addTerm 17 = .ok (.getfield 7, 3) := by decide +kernel
theorem dX6_addTerm_20 : decode cX6_addTerm 20 = .ok (.iconst 0, 1) := by decide +kernel
theorem dX6_addTerm_21 : decode cX6_addTerm 21 = .ok (.iaload, 1) := by decide +kernel
theorem dX6_addTerm_22 : decode cX6_addTerm 22 = .ok (.invokevirtual 49, 3) := by decide +kernel
theorem dX6_addTerm_25 : decode cX6_addTerm 25 = .ok (.ifCond .eq 27, 3) := by decide +kernel
theorem dX6_addTerm_28 : decode cX6_addTerm 28 = .ok (.aload_n 0, 1) := by decide +kernel
theorem dX6_addTerm_29 : decode cX6_addTerm 29 = .ok (.iload_n 3, 1) := by decide +kernel
theorem dX6_addTerm_30 : decode cX6_addTerm 30 = .ok (.aload_n 0, 1) := by decide +kernel
theorem dX6_addTerm_31 : decode cX6_addTerm 31 = .ok (.getfield 7, 3) := by decide +kernel
theorem dX6_addTerm_34 : decode cX6_addTerm 34 = .ok (.iconst 1, 1) := by decide +kernel
theorem dX6_addTerm_35 : decode cX6_addTerm 35 = .ok (.iaload, 1) := by decide +kernel
theorem dX6_addTerm_36 : decode cX6_addTerm 36 = .ok (.invokevirtual 49, 3) := by decide +kernel
theorem dX6_addTerm_39 : decode cX6_addTerm 39 = .ok (.ifCond .eq 13, 3) := by decide +kernel
theorem dX6_addTerm_42 : decode cX6_addTerm 42 = .ok (.iload_n 1, 1) := by decide +kernel
theorem dX6_addTerm_43 : decode cX6_addTerm 43 = .ok (.iload_n 2, 1) := by decide +kernel
theorem dX6_addTerm_44 : decode cX6_addTerm 44 = .ok (.iand, 1) := by decide +kernel
theorem dX6_addTerm_45 : decode cX6_addTerm 45 = .ok (.ifCond .ne 7, 3) := by decide +kernel
theorem dX6_addTerm_48 : decode cX6_addTerm 48 = .ok (.iload_n 3, 1) := by decide +kernel
theorem dX6_addTerm_49 : decode cX6_addTerm 49 = .ok (.ifCond .ne 10, 3) := by decide +kernel
theorem dX6_addTerm_52 : decode cX6_addTerm 52 = .ok (.aload_n 0, 1) := by decide +kernel
theorem dX6_addTerm_53 : decode cX6_addTerm 53 = .ok (.bipush (-2), 2) := by decide +kernel
theorem dX6_addTerm_55 : decode cX6_addTerm 55 = .ok (.invokevirtual 42, 3) := by decide +kernel
theorem dX6_addTerm_58 : decode cX6_addTerm 58 = .ok (.ireturn, 1) := by decide +kernel
theorem dX6_addTerm_59 : decode cX6_addTerm 59 = .ok (.aload_n 0, 1) := by decide +kernel
theorem dX6_addTerm_60 : decode cX6_addTerm 60 = .ok (.getfield 7, 3) := by decide +kernel
theorem dX6_addTerm_63 : decode cX6_addTerm 63 = .ok (.iconst 2, 1) := by decide +kernel
theorem dX6_addTerm_64 : decode cX6_addTerm 64 = .ok (.iaload, 1) := by decide +kernel
theorem dX6_addTerm_65 : decode cX6_addTerm 65 = .ok (.bipush 10, 2) := by decide +kernel
theorem dX6_addTerm_67 : decode cX6_addTerm 67 = .ok (.if_icmp .ne 10, 3) := by decide +kernel
theorem dX6_addTerm_70 : decode cX6_addTerm 70 = .ok (.aload_n 0, 1) := by decide +kernel
theorem dX6_addTerm_71 : decode cX6_addTerm 71 = .ok (.bipush (-5), 2) := by decide +kernel
theorem dX6_addTerm_73 : decode cX6_addTerm 73 = .ok (.invokevirtual 42, 3) := by decide +kernel
theorem dX6_addTerm_76 : decode cX6_addTerm 76 = .ok (.ireturn, 1) := by decide +kernel
theorem dX6_addTerm_77 : decode cX6_addTerm 77 = .ok (.aload_n 0, 1) := by decide +kernel
theorem dX6_addTerm_78 : decode cX6_addTerm 78 = .ok (.invokevirtual 46, 3) := by decide +kernel
theorem dX6_addTerm_81 : decode cX6_addTerm 81 = .ok (.aload_n 0, 1) := by decide +kernel
theorem dX6_addTerm_82 : decode cX6_addTerm 82 = .ok (.getfield 7, 3) := by decide +kernel
theorem dX6_addTerm_85 : decode cX6_addTerm 85 = .ok (.iconst 2, 1) := by decide +kernel
theorem dX6_addTerm_86 : decode cX6_addTerm 86 = .ok (.iaload, 1) := by decide +kernel
theorem dX6_addTerm_87 : decode cX6_addTerm 87 = .ok (.istore 4, 2) := by decide +kernel
theorem dX6_addTerm_89 : decode cX6_addTerm 89 = .ok (.aload_n 0, 1) := by decide +kernel
theorem dX6_addTerm_90 : decode cX6_addTerm 90 = .ok (.getfield 7, 3) := by decide +kernel
theorem dX6_addTerm_93 : decode cX6_addTerm 93 = .ok (.iconst 3, 1) := by decide +kernel
theorem dX6_addTerm_94 : decode cX6_addTerm 94 = .ok (.iload 4, 2) := by decide +kernel
theorem dX6_addTerm_96 : decode cX6_addTerm 96 = .ok (.iadd, 1) := by decide +kernel
theorem dX6_addTerm_97 : decode cX6_addTerm 97 = .ok (.iload_n 1, 1) := by decide +kernel
theorem dX6_addTerm_98 : decode cX6_addTerm 98 = .ok (.iastore, 1) := by decide +kernel
theorem dX6_addTerm_99 : decode cX6_addTerm 99 = .ok (.aload_n 0, 1) := by decide +kernel
theorem dX6_addTerm_100 : decode cX6_addTerm 100 = .ok (.getfield 7, 3) := by decide +kernel
theorem dX6_addTerm_103 : decode cX6_addTerm 103 = .ok (.bipush 13, 2) := by decide +kernel
theorem dX6_addTerm_105 : decode cX6_addTerm 105 = .ok (.iload 4, 2) := by decide +kernel
theorem dX6_addTerm_107 : decode cX6_addTerm 107 = .ok (.iadd, 1) := by decide +kernel
theorem dX6_addTerm_108 : decode cX6_addTerm 108 = .ok (.iload_n 2, 1) := by decide +kernel
theorem dX6_addTerm_109 : decode cX6_addTerm 109 = .ok (.iastore, 1) := by decide +kernel
theorem dX6_addTerm_110 : decode cX6_addTerm 110 = .ok (.aload_n 0, 1) := by decide +kernel
theorem dX6_addTerm_111 : decode cX6_addTerm 111 = .ok (.getfield 7, 3) := by decide +kernel
theorem dX6_addTerm_114 : decode cX6_addTerm 114 = .ok (.bipush 23, 2) := by decide +kernel
theorem dX6_addTerm_116 : decode cX6_addTerm 116 = .ok (.iload 4, 2) := by decide +kernel
theorem dX6_addTerm_118 : decode cX6_addTerm 118 = .ok (.iadd, 1) := by decide +kernel
theorem dX6_addTerm_119 : decode cX6_addTerm 119 = .ok (.iload_n 3, 1) := by decide +kernel
theorem dX6_addTerm_120 : decode cX6_addTerm 120 = .ok (.iastore, 1) := by decide +kernel
theorem dX6_addTerm_121 : decode cX6_addTerm 121 = .ok (.aload_n 0, 1) := by decide +kernel
theorem dX6_addTerm_122 : decode cX6_addTerm 122 = .ok (.getfield 7, 3) := by decide +kernel
theorem dX6_addTerm_125 : decode cX6_addTerm 125 = .ok (.iconst 2, 1) := by decide +kernel
theorem dX6_addTerm_126 : decode cX6_addTerm 126 = .ok (.dup2, 1) := by decide +kernel
theorem dX6_addTerm_127 : decode cX6_addTerm 127 = .ok (.iaload, 1) := by decide +kernel
theorem dX6_addTerm_128 : decode cX6_addTerm 128 = .ok (.iconst 1, 1) := by decide +kernel
theorem dX6_addTerm_129 : decode cX6_addTerm 129 = .ok (.iadd, 1) := by decide +kernel
theorem dX6_addTerm_130 : decode cX6_addTerm 130 = .ok (.iastore, 1) := by decide +kernel
theorem dX6_addTerm_131 : decode cX6_addTerm 131 = .ok (.aload_n 0, 1) := by decide +kernel
theorem dX6_addTerm_132 : decode cX6_addTerm 132 = .ok (.invokevirtual 31, 3) := by decide +kernel
theorem dX6_addTerm_135 : decode cX6_addTerm 135 = .ok (.iload 4, 2) := by decide +kernel
theorem dX6_addTerm_137 : decode cX6_addTerm 137 = .ok (.ireturn, 1) := by decide +kernel
set_option maxRecDepth 20000 in
theorem ggX6_drop_X6_noFolds : GoodIn wsX6_drop wsX6_noFolds := goodIn_r _ [6, 1, 7, 8, 9, 10, 11, 12, 13, 14, 15, 16] (by decide +kernel) (by decide +kernel)
set_option maxRecDepth 20000 in
theorem gX6_drop_X6_noFolds : GoodIn wsX6_drop (wsV RX6 31 RX6 yX6_noFolds wsX6_noFolds) := goodIn_app (goodIn_of _ (by decide +kernel)) ggX6_drop_X6_noFolds
theorem dX6_drop_0 : decode cX6_drop 0 = .ok (.aload_n 0, 1) := by decide +kernel
theorem dX6_drop_1 : decode cX6_drop 1 = .ok (.getfield 7, 3) := by decide +kernel
theorem dX6_drop_4 : decode cX6_drop 4 = .ok (.iconst 2, 1) := by decide +kernel
theorem dX6_drop_5 : decode cX6_drop 5 = .ok (.dup2, 1) := by decide +kernel
theorem dX6_drop_6 : decode cX6_drop 6 = .ok (.iaload, 1) := by decide +kernel
theorem dX6_drop_7 : decode cX6_drop 7 = .ok (.iconst 1, 1) := by decide +kernel
theorem dX6_drop_8 : decode cX6_drop 8 = .ok (.isub, 1) := by decide +kernel
theorem dX6_drop_9 : decode cX6_drop 9 = .ok (.iastore, 1) := by decide +kernel
theorem dX6_drop_10 : decode cX6_drop 10 = .ok (.iload_n 1, 1) := by decide +kernel
theorem dX6_drop_11 : decode cX6_drop 11 = .ok (.istore_n 2, 1) := by decide +kernel
theorem dX6_drop_12 : decode cX6_drop 12 = .ok (.iload_n 2, 1) := by decide +kernel
theorem dX6_drop_13 : decode cX6_drop 13 = .ok (.aload_n 0, 1) := by decide +kernel
theorem dX6_drop_14 : decode cX6_drop 14 = .ok (.getfield 7, 3) := by decide +kernel
theorem dX6_drop_17 : decode cX6_drop 17 = .ok (.iconst 2, 1) := by decide +kernel
theorem dX6_drop_18 : decode cX6_drop 18 = .ok (.iaload, 1) := by decide +kernel
theorem dX6_drop_19 : decode cX6_drop 19 = .ok (.if_icmp .ge 67, 3) := by decide +kernel
theorem dX6_drop_22 : decode cX6_drop 22 = .ok (.aload_n 0, 1) := by decide +kernel
theorem dX6_drop_23 : decode cX6_drop 23 = .ok (.getfield 7, 3) := by decide +kernel
theorem dX6_drop_26 : decode cX6_drop 26 = .ok (.iconst 3, 1) := by decide +kernel
theorem dX6_drop_27 : decode cX6_drop 27 = .ok (.iload_n 2, 1) := by decide +kernel
theorem dX6_drop_28 : decode cX6_drop 28 = .ok (.iadd, 1) := by decide +kernel
theorem dX6_drop_29 : decode cX6_drop 29 = .ok (.aload_n 0, 1) := by decide +kernel
theorem dX6_drop_30 : decode cX6_drop 30 = .ok (.getfield 7, 3) := by decide +kernel
theorem dX6_drop_33 : decode cX6_drop 33 = .ok (.iconst 3, 1) := by decide +kernel
theorem dX6_drop_34 : decode cX6_drop 34 = .ok (.iload_n 2, 1) := by decide +kernel
theorem dX6_drop_35 : decode cX6_drop 35 = .ok (.iadd, 1) := by decide +kernel
theorem dX6_drop_36 : decode cX6_drop 36 = .ok (.iconst 1, 1) := by decide +kernel
theorem dX6_drop_37 : decode cX6_drop 37 = .ok (.iadd, 1) := by decide +kernel
theorem dX6_drop_38 : decode cX6_drop 38 = .ok (.iaload, 1) := by decide +kernel
theorem dX6_drop_39 : decode cX6_drop 39 = .ok (.iastore, 1) := by decide +kernel
theorem dX6_drop_40 : decode cX6_drop 40 = .ok (.aload_n 0, 1) := by decide +kernel
theorem dX6_drop_41 : decode cX6_drop 41 = .ok (.getfield 7, 3) := by decide +kernel
theorem dX6_drop_44 : decode cX6_drop 44 = .ok (.bipush 13, 2) := by decide +kernel
theorem dX6_drop_46 : decode cX6_drop 46 = .ok (.iload_n 2, 1) := by decide +kernel
theorem dX6_drop_47 : decode cX6_drop 47 = .ok (.iadd, 1) := by decide +kernel
theorem dX6_drop_48 : decode cX6_drop 48 = .ok (.aload_n 0, 1) := by decide +kernel
theorem dX6_drop_49 : decode cX6_drop 49 = .ok (.getfield 7, 3) := by decide +kernel
theorem dX6_drop_52 : decode cX6_drop 52 = .ok (.bipush 13, 2) := by decide +kernel
theorem dX6_drop_54 : decode cX6_drop 54 = .ok (.iload_n 2, 1) := by decide +kernel
theorem dX6_drop_55 : decode cX6_drop 55 = .ok (.iadd, 1) := by decide +kernel
theorem dX6_drop_56 : decode cX6_drop 56 = .ok (.iconst 1, 1) := by decide +kernel
theorem dX6_drop_57 : decode cX6_drop 57 = .ok (.iadd, 1) := by decide +kernel
theorem dX6_drop_58 : decode cX6_drop 58 = .ok (.iaload, 1) := by decide +kernel
theorem dX6_drop_59 : decode cX6_drop 59 = .ok (.iastore, 1) := by decide +kernel
theorem dX6_drop_60 : decode cX6_drop 60 = .ok (.aload_n 0, 1) := by decide +kernel
theorem dX6_drop_61 : decode cX6_drop 61 = .ok (.getfield 7, 3) := by decide +kernel
theorem dX6_drop_64 : decode cX6_drop 64 = .ok (.bipush 23, 2) := by decide +kernel
theorem dX6_drop_66 : decode cX6_drop 66 = .ok (.iload_n 2, 1) := by decide +kernel
theorem dX6_drop_67 : decode cX6_drop 67 = .ok (.iadd, 1) := by decide +kernel
theorem dX6_drop_68 : decode cX6_drop 68 = .ok (.aload_n 0, 1) := by decide +kernel
theorem dX6_drop_69 : decode cX6_drop 69 = .ok (.getfield 7, 3) := by decide +kernel
theorem dX6_drop_72 : decode cX6_drop 72 = .ok (.bipush 23, 2) := by decide +kernel
theorem dX6_drop_74 : decode cX6_drop 74 = .ok (.iload_n 2, 1) := by decide +kernel
theorem dX6_drop_75 : decode cX6_drop 75 = .ok (.iadd, 1) := by decide +kernel
theorem dX6_drop_76 : decode cX6_drop 76 = .ok (.iconst 1, 1) := by decide +kernel
theorem dX6_drop_77 : decode cX6_drop 77 = .ok (.iadd, 1) := by decide +kernel
theorem dX6_drop_78 : decode cX6_drop 78 = .ok (.iaload, 1) := by decide +kernel
theorem dX6_drop_79 : decode cX6_drop 79 = .ok (.iastore, 1) := by decide +kernel
theorem dX6_drop_80 : decode cX6_drop 80 = .ok (.iinc 2 1, 3) := by decide +kernel
theorem dX6_drop_83 : decode cX6_drop 83 = .ok (.goto (-71), 3) := by decide +kernel
theorem dX6_drop_86 : decode cX6_drop 86 = .ok (.aload_n 0, 1) := by decide +kernel
theorem dX6_drop_87 : decode cX6_drop 87 = .ok (.invokevirtual 31, 3) := by decide +kernel
theorem dX6_drop_90 : decode cX6_drop 90 = .ok (.return_, 1) := by decide +kernel
set_option maxRecDepth 20000 in
theorem ggX6_removeTerm_X6_isTerm : GoodIn wsX6_removeTerm wsX6_isTerm := goodIn_r _ [6, 1, 7, 8, 5, 9, 29, 30, 31, 32, 33, 34, 35, 36, 37, 38] (by decide +kernel) (by decide +kernel)
set_option maxRecDepth 20000 in
theorem gX6_removeTerm_X6_isTerm : GoodIn wsX6_removeTerm (wsV RX6 53 RX6 yX6_isTerm wsX6_isTerm) := goodIn_app (goodIn_of _ (by decide +kernel)) ggX6_removeTerm_X6_isTerm
set_option maxRecDepth 20000 in
theorem ggX6_removeTerm_X6_error : GoodIn wsX6_removeTerm wsX6_error := goodIn_r _ [13, 14, 29, 30, 31, 32, 33, 34, 35, 36, 37, 38] (by decide +kernel) (by decide +kernel)
set_option maxRecDepth 20000 in
theorem gX6_removeTerm_X6_error : GoodIn wsX6_removeTerm (wsV RX6 42 RX6 yX6_error wsX6_error) := goodIn_app (goodIn_of _ (by decide +kernel)) ggX6_removeTerm_X6_error
set_option maxRecDepth 20000 in
theorem ggX6_removeTerm_X6_save : GoodIn wsX6_removeTerm wsX6_save := goodIn_r _ [18, 19, 20, 1, 29, 30, 31, 32, 33, 34, 35, 36, 37, 38] (by decide +kernel) (by decide +kernel)
set_option maxRecDepth 20000 in
theorem gX6_removeTerm_X6_save : GoodIn wsX6_removeTerm (wsV RX6 46 RX6 yX6_save wsX6_save) := goodIn_app (goodIn_of _ (by decide +kernel)) ggX6_removeTerm_X6_save
set_option maxRecDepth 20000 in
theorem ggX6_removeTerm_X6_drop : GoodIn wsX6_removeTerm wsX6_drop := goodIn_r _ [24, 1, 25, 26, 27, 5, 28, 29, 30, 31, 32, 33, 34, 35, 36, 37, 38] (by decide +kernel) (by decide +kernel)
set_option maxRecDepth 20000 in
theorem gX6_removeTerm_X6_drop : GoodIn wsX6_removeTerm (wsV RX6 57 RX6 yX6_drop wsX6_drop) := goodIn_app (goodIn_of _ (by decide +kernel)) ggX6_removeTerm_X6_drop
theorem dX6_removeTerm_0 : decode cX6_removeTerm 0 = .ok (.aload_n 0, 1) := by decide +kernel
theorem dX6_removeTerm_1 : decode cX6_removeTerm 1 = .ok (.iload_n 1, 1) := by decide +kernel
theorem dX6_removeTerm_2 : decode cX6_removeTerm 2 = .ok (.invokevirtual 53, 3) := by decide +kernel
theorem dX6_removeTerm_5 : decode cX6_removeTerm 5 = .ok (.ifCond .ne 10, 3) := by decide +kernel
theorem dX6_removeTerm_8 : decode cX6_removeTerm 8 = .ok (.aload_n 0, 1) := by decide +kernel
theorem dX6_removeTerm_9 : decode cX6_removeTerm 9 = .ok (.bipush (-2), 2) := by decide +kernel
theorem dX6_removeTerm_11 : decode cX6_removeTerm 11 = .ok (.invokevirtual 42, 3) := by decide +kernel
theorem dX6_removeTerm_14 : decode cX6_removeTerm 14 = .ok (.ireturn, 1) := by decide +kernel
theorem dX6_removeTerm_15 : decode cX6_removeTerm 15 = .ok (.aload_n 0, 1) := by decide +kernel
theorem dX6_removeTerm_16 : decode cX6_removeTerm 16 = .ok (.invokevirtual 46, 3) := by decide +kernel
theorem dX6_removeTerm_19 : decode cX6_removeTerm 19 = .ok (.aload_n 0, 1) := by decide +kernel
theorem dX6_removeTerm_20 : decode cX6_removeTerm 20 = .ok (.iload_n 1, 1) := by decide +kernel
theorem dX6_removeTerm_21 : decode cX6_removeTerm 21 = .ok (.invokevirtual 57, 3) := by decide +kernel
theorem dX6_removeTerm_24 : decode cX6_removeTerm 24 = .ok (.aload_n 0, 1) := by decide +kernel
theorem dX6_removeTerm_25 : decode cX6_removeTerm 25 = .ok (.getfield 7, 3) := by decide +kernel
theorem dX6_removeTerm_28 : decode cX6_removeTerm 28 = .ok (.iconst 2, 1) := by decide +kernel
theorem dX6_removeTerm_29 : decode cX6_removeTerm 29 = .ok (.iaload, 1) := by decide +kernel
theorem dX6_removeTerm_30 : decode cX6_removeTerm 30 = .ok (.ireturn, 1) := by decide +kernel
theorem dX6_terms_0 : decode cX6_terms 0 = .ok (.aload_n 0, 1) := by decide +kernel
theorem dX6_terms_1 : decode cX6_terms 1 = .ok (.getfield 7, 3) := by decide +kernel
theorem dX6_terms_4 : decode cX6_terms 4 = .ok (.iconst 2, 1) := by decide +kernel
theorem dX6_terms_5 : decode cX6_terms 5 = .ok (.iaload, 1) := by decide +kernel
theorem dX6_terms_6 : decode cX6_terms 6 = .ok (.ireturn, 1) := by decide +kernel
set_option maxRecDepth 20000 in
theorem ggX6_literals_X6_isTerm : GoodIn wsX6_literals wsX6_isTerm := goodIn_r _ [6, 1, 7, 8, 5, 9, 18, 19, 20, 21, 22, 23, 24, 25, 26, 27] (by decide +kernel) (by decide +kernel)
set_option maxRecDepth 20000 in
theorem gX6_literals_X6_isTerm : GoodIn wsX6_literals (wsV RX6 53 RX6 yX6_isTerm wsX6_isTerm) := goodIn_app (goodIn_of _ (by decide +kernel)) ggX6_literals_X6_isTerm
set_option maxRecDepth 20000 in
theorem ggX6_literals_X6_many : GoodIn wsX6_literals wsX6_many := goodIn_r _ [12] (by decide +kernel) (by decide +kernel)
set_option maxRecDepth 20000 in
theorem gX6_literals_X6_many : GoodIn wsX6_literals (va_wsS RX6 61 yX6_many wsX6_many) := goodIn_app (goodIn_of _ (by decide +kernel)) ggX6_literals_X6_many
set_option maxRecDepth 20000 in
theorem ggX6_literals_X6_error : GoodIn wsX6_literals wsX6_error := goodIn_r _ [16, 17, 18, 19, 20, 21, 22, 23, 24, 25, 26, 27] (by decide +kernel) (by decide +kernel)
set_option maxRecDepth 20000 in
theorem gX6_literals_X6_error : GoodIn wsX6_literals (wsV RX6 42 RX6 yX6_error wsX6_error) := goodIn_app (goodIn_of _ (by decide +kernel)) ggX6_literals_X6_error
theorem dX6_literals_0 : decode cX6_literals 0 = .ok (.aload_n 0, 1) := by decide +kernel
theorem dX6_literals_1 : decode cX6_literals 1 = .ok (.iload_n 1, 1) := by decide +kernel
theorem dX6_literals_2 : decode cX6_literals 2 = .ok (.invokevirtual 53, 3) := by decide +kernel
theorem dX6_literals_5 : decode cX6_literals 5 = .ok (.ifCond .eq 27, 3) := by decide +kernel
theorem dX6_literals_8 : decode cX6_literals 8 = .ok (.aload_n 0, 1) := by decide +kernel
theorem dX6_literals_9 : decode cX6_literals 9 = .ok (.getfield 7, 3) := by decide +kernel
theorem dX6_literals_12 : decode cX6_literals 12 = .ok (.iconst 3, 1) := by decide +kernel
theorem dX6_literals_13 : decode cX6_literals 13 = .ok (.iload_n 1, 1) := by decide +kernel
theorem dX6_literals_14 : decode cX6_literals 14 = .ok (.iadd, 1) := by decide +kernel
theorem dX6_literals_15 : decode cX6_literals 15 = .ok (.iaload, 1) := by decide +kernel
theorem dX6_literals_16 : decode cX6_literals 16 = .ok (.aload_n 0, 1) := by decide +kernel
theorem dX6_literals_17 : decode cX6_literals 17 = .ok (.getfield 7, 3) := by decide +kernel
theorem dX6_literals_20 : decode cX6_literals 20 = .ok (.bipush 13, 2) := by decide +kernel
theorem dX6_literals_22 : decode cX6_literals 22 = .ok (.iload_n 1, 1) := by decide +kernel
theorem dX6_literals_23 : decode cX6_literals 23 = .ok (.iadd, 1) := by decide +kernel
theorem dX6_literals_24 : decode cX6_literals 24 = .ok (.iaload, 1) := by decide +kernel
theorem dX6_literals_25 : decode cX6_literals 25 = .ok (.ior, 1) := by decide +kernel
theorem dX6_literals_26 : decode cX6_literals 26 = .ok (.invokestatic 61, 3) := by decide +kernel
theorem dX6_literals_29 : decode cX6_literals 29 = .ok (.goto 9, 3) := by decide +kernel
theorem dX6_literals_32 : decode cX6_literals 32 = .ok (.aload_n 0, 1) := by decide +kernel
theorem dX6_literals_33 : decode cX6_literals 33 = .ok (.bipush (-2), 2) := by decide +kernel
theorem dX6_literals_35 : decode cX6_literals 35 = .ok (.invokevirtual 42, 3) := by decide +kernel
theorem dX6_literals_38 : decode cX6_literals 38 = .ok (.ireturn, 1) := by decide +kernel
theorem dX6_outputs_0 : decode cX6_outputs 0 = .ok (.iconst 0, 1) := by decide +kernel
theorem dX6_outputs_1 : decode cX6_outputs 1 = .ok (.istore_n 3, 1) := by decide +kernel
theorem dX6_outputs_2 : decode cX6_outputs 2 = .ok (.iconst 0, 1) := by decide +kernel
theorem dX6_outputs_3 : decode cX6_outputs 3 = .ok (.istore 4, 2) := by decide +kernel
theorem dX6_outputs_5 : decode cX6_outputs 5 = .ok (.iload 4, 2) := by decide +kernel
theorem dX6_outputs_7 : decode cX6_outputs 7 = .ok (.aload_n 0, 1) := by decide +kernel
theorem dX6_outputs_8 : decode cX6_outputs 8 = .ok (.getfield 7, 3) := by decide +kernel
theorem dX6_outputs_11 : decode cX6_outputs 11 = .ok (.iconst 2, 1) := by decide +kernel
theorem dX6_outputs_12 : decode cX6_outputs 12 = .ok (.iaload, 1) := by decide +kernel
theorem dX6_outputs_13 : decode cX6_outputs 13 = .ok (.if_icmp .ge 82, 3) := by decide +kernel
theorem dX6_outputs_16 : decode cX6_outputs 16 = .ok (.iload 4, 2) := by decide +kernel
theorem dX6_outputs_18 : decode cX6_outputs 18 = .ok (.iload_n 2, 1) := by decide +kernel
theorem dX6_outputs_19 : decode cX6_outputs 19 = .ok (.if_icmp .eq 45, 3) := by decide +kernel
theorem dX6_outputs_22 : decode cX6_outputs 22 = .ok (.iload_n 1, 1) := by decide +kernel
theorem dX6_outputs_23 : decode cX6_outputs 23 = .ok (.aload_n 0, 1) := by decide +kernel
theorem dX6_outputs_24 : decode cX6_outputs 24 = .ok (.getfield 7, 3) := by decide +kernel
theorem dX6_outputs_27 : decode cX6_outputs 27 = .ok (.iconst 3, 1) := by decide +kernel
theorem dX6_outputs_28 : decode cX6_outputs 28 = .ok (.iload 4, 2) := by decide +kernel
theorem dX6_outputs_30 : decode cX6_outputs 30 = .ok (.iadd, 1) := by decide +kernel
theorem dX6_outputs_31 : decode cX6_outputs 31 = .ok (.iaload, 1) := by decide +kernel
theorem dX6_outputs_32 : decode cX6_outputs 32 = .ok (.iand, 1) := by decide +kernel
theorem dX6_outputs_33 : decode cX6_outputs 33 = .ok (.aload_n 0, 1) := by decide +kernel
theorem dX6_outputs_34 : decode cX6_outputs 34 = .ok (.getfield 7, 3) := by decide +kernel
theorem dX6_outputs_37 : decode cX6_outputs 37 = .ok (.iconst 3, 1) := by decide +kernel
theorem dX6_outputs_38 : decode cX6_outputs 38 = .ok (.iload 4, 2) := by decide +kernel
theorem dX6_outputs_40 : decode cX6_outputs 40 = .ok (.iadd, 1) := by decide +kernel
theorem dX6_outputs_41 : decode cX6_outputs 41 = .ok (.iaload, 1) := by decide +kernel
theorem dX6_outputs_42 : decode cX6_outputs 42 = .ok (.if_icmp .ne 22, 3) := by decide +kernel
theorem dX6_outputs_45 : decode cX6_outputs 45 = .ok (.iload_n 1, 1) := by decide +kernel
theorem dX6_outputs_46 : decode cX6_outputs 46 = .ok (.aload_n 0, 1) := by decide +kernel
theorem dX6_outputs_47 : decode cX6_outputs 47 = .ok (.getfield 7, 3) := by decide +kernel
theorem dX6_outputs_50 : decode cX6_outputs 50 = .ok (.bipush 13, 2) := by decide +kernel
theorem dX6_outputs_52 : decode cX6_outputs 52 = .ok (.iload 4, 2) := by decide +kernel
theorem dX6_outputs_54 : decode cX6_outputs 54 = .ok (.iadd, 1) := by decide +kernel
theorem dX6_outputs_55 : decode cX6_outputs 55 = .ok (.iaload, 1) := by decide +kernel
theorem dX6_outputs_56 : decode cX6_outputs 56 = .ok (.iand, 1) := by decide +kernel
theorem dX6_outputs_57 : decode cX6_outputs 57 = .ok (.ifCond .ne 7, 3) := by decide +kernel
theorem dX6_outputs_60 : decode cX6_outputs 60 = .ok (.iconst 1, 1) := by decide +kernel
theorem dX6_outputs_61 : decode cX6_outputs 61 = .ok (.goto 4, 3) := by decide +kernel
theorem dX6_outputs_64 : decode cX6_outputs 64 = .ok (.iconst 0, 1) := by decide +kernel
theorem dX6_outputs_65 : decode cX6_outputs 65 = .ok (.istore 5, 2) := by decide +kernel
theorem dX6_outputs_67 : decode cX6_outputs 67 = .ok (.iload_n 3, 1) := by decide +kernel
theorem dX6_outputs_68 : decode cX6_outputs 68 = .ok (.iload 5, 2) := by decide +kernel
theorem dX6_outputs_70 : decode cX6_outputs 70 = .ok (.ifCond .eq 16, 3) := by decide +kernel
theorem dX6_outputs_73 : decode cX6_outputs 73 = .ok (.aload_n 0, 1) := by decide +kernel
theorem dX6_outputs_74 : decode cX6_outputs 74 = .ok (.getfield 7, 3) := by decide +kernel
theorem dX6_outputs_77 : decode cX6_outputs 77 = .ok (.bipush 23, 2) := by decide +kernel
theorem dX6_outputs_79 : decode cX6_outputs 79 = .ok (.iload 4, 2) := by decide +kernel
theorem dX6_outputs_81 : decode cX6_outputs 81 = .ok (.iadd, 1) := by decide +kernel
theorem dX6_outputs_82 : decode cX6_outputs 82 = .ok (.iaload, 1) := by decide +kernel
theorem dX6_outputs_83 : decode cX6_outputs 83 = .ok (.goto 4, 3) := by decide +kernel
theorem dX6_outputs_86 : decode cX6_outputs 86 = .ok (.iconst 0, 1) := by decide +kernel
theorem dX6_outputs_87 : decode cX6_outputs 87 = .ok (.ior, 1) := by decide +kernel
theorem dX6_outputs_88 : decode cX6_outputs 88 = .ok (.istore_n 3, 1) := by decide +kernel
theorem dX6_outputs_89 : decode cX6_outputs 89 = .ok (.iinc 4 1, 3) := by decide +kernel
theorem dX6_outputs_92 : decode cX6_outputs 92 = .ok (.goto (-87), 3) := by decide +kernel
theorem dX6_outputs_95 : decode cX6_outputs 95 = .ok (.iload_n 3, 1) := by decide +kernel
theorem dX6_outputs_96 : decode cX6_outputs 96 = .ok (.ireturn, 1) := by decide +kernel
theorem dX6_words_0 : decode cX6_words 0 = .ok (.iconst 1, 1) := by decide +kernel
theorem dX6_words_1 : decode cX6_words 1 = .ok (.aload_n 0, 1) := by decide +kernel
theorem dX6_words_2 : decode cX6_words 2 = .ok (.getfield 7, 3) := by decide +kernel
theorem dX6_words_5 : decode cX6_words 5 = .ok (.iconst 0, 1) := by decide +kernel
theorem dX6_words_6 : decode cX6_words 6 = .ok (.iaload, 1) := by decide +kernel
theorem dX6_words_7 : decode cX6_words 7 = .ok (.ishl, 1) := by decide +kernel
theorem dX6_words_8 : decode cX6_words 8 = .ok (.ireturn, 1) := by decide +kernel
set_option maxRecDepth 20000 in
theorem ggX6_evaluate_X6_words : GoodIn wsX6_evaluate wsX6_words := goodIn_r _ [5, 6, 19, 20, 21, 22, 23, 24, 25, 26, 27, 28] (by decide +kernel) (by decide +kernel)
set_option maxRecDepth 20000 in
theorem gX6_evaluate_X6_words : GoodIn wsX6_evaluate (wsV RX6 64 RX6 yX6_words wsX6_words) := goodIn_app (goodIn_of _ (by decide +kernel)) ggX6_evaluate_X6_words
set_option maxRecDepth 20000 in
theorem ggX6_evaluate_X6_in : GoodIn wsX6_evaluate wsX6_in := goodIn_r _ [9] (by decide +kernel) (by decide +kernel)
set_option maxRecDepth 20000 in
theorem gX6_evaluate_X6_in : GoodIn wsX6_evaluate (va_wsS RX6 34 yX6_in wsX6_in) := goodIn_app (goodIn_of _ (by decide +kernel)) ggX6_evaluate_X6_in
set_option maxRecDepth 20000 in
theorem ggX6_evaluate_X6_outputs : GoodIn wsX6_evaluate wsX6_outputs := goodIn_r _ [13, 6, 19, 20, 21, 22, 23, 24, 25, 26, 27, 28] (by decide +kernel) (by decide +kernel)
set_option maxRecDepth 20000 in
theorem gX6_evaluate_X6_outputs : GoodIn wsX6_evaluate (wsV RX6 68 RX6 yX6_outputs wsX6_outputs) := goodIn_app (goodIn_of _ (by decide +kernel)) ggX6_evaluate_X6_outputs
set_option maxRecDepth 20000 in
theorem ggX6_evaluate_X6_error : GoodIn wsX6_evaluate wsX6_error := goodIn_r _ [17, 18, 19, 20, 21, 22, 23, 24, 25, 26, 27, 28] (by decide +kernel) (by decide +kernel)
set_option maxRecDepth 20000 in
theorem gX6_evaluate_X6_error : GoodIn wsX6_evaluate (wsV RX6 42 RX6 yX6_error wsX6_error) := goodIn_app (goodIn_of _ (by decide +kernel)) ggX6_evaluate_X6_error
theorem dX6_evaluate_0 : decode cX6_evaluate 0 = .ok (.iload_n 1, 1) := by decide +kernel
theorem dX6_evaluate_1 : decode cX6_evaluate 1 = .ok (.iconst 0, 1) := by decide +kernel
theorem dX6_evaluate_2 : decode cX6_evaluate 2 = .ok (.aload_n 0, 1) := by decide +kernel
theorem dX6_evaluate_3 : decode cX6_evaluate 3 = .ok (.invokevirtual 64, 3) := by decide +kernel
theorem dX6_evaluate_6 : decode cX6_evaluate 6 = .ok (.iconst 1, 1) := by decide +kernel
theorem dX6_evaluate_7 : decode cX6_evaluate 7 = .ok (.isub, 1) := by decide +kernel
theorem dX6_evaluate_8 : decode cX6_evaluate 8 = .ok (.invokestatic 34, 3) := by decide +kernel
theorem dX6_evaluate_11 : decode cX6_evaluate 11 = .ok (.ifCond .eq 12, 3) := by decide +kernel
theorem dX6_evaluate_14 : decode cX6_evaluate 14 = .ok (.aload_n 0, 1) := by decide +kernel
theorem dX6_evaluate_15 : decode cX6_evaluate 15 = .ok (.iload_n 1, 1) := by decide +kernel
theorem dX6_evaluate_16 : decode cX6_evaluate 16 = .ok (.iconst (-1), 1) := by decide +kernel
theorem dX6_evaluate_17 : decode cX6_evaluate 17 = .ok (.invokevirtual 68, 3) := by decide +kernel
theorem dX6_evaluate_20 : decode cX6_evaluate 20 = .ok (.goto 9, 3) := by decide +kernel
theorem dX6_evaluate_23 : decode cX6_evaluate 23 = .ok (.aload_n 0, 1) := by decide +kernel
theorem dX6_evaluate_24 : decode cX6_evaluate 24 = .ok (.bipush (-2), 2) := by decide +kernel
theorem dX6_evaluate_26 : decode cX6_evaluate 26 = .ok (.invokevirtual 42, 3) := by decide +kernel
theorem dX6_evaluate_29 : decode cX6_evaluate 29 = .ok (.ireturn, 1) := by decide +kernel
set_option maxRecDepth 20000 in
theorem ggX6_onCount_X6_in : GoodIn wsX6_onCount wsX6_in := goodIn_r _ [5] (by decide +kernel) (by decide +kernel)
set_option maxRecDepth 20000 in
theorem gX6_onCount_X6_in : GoodIn wsX6_onCount (va_wsS RX6 34 yX6_in wsX6_in) := goodIn_app (goodIn_of _ (by decide +kernel)) ggX6_onCount_X6_in
set_option maxRecDepth 20000 in
theorem ggX6_onCount_X6_error : GoodIn wsX6_onCount wsX6_error := goodIn_r _ [9, 10, 22, 23, 24, 25, 26, 27, 28, 29, 30, 31] (by decide +kernel) (by decide +kernel)
set_option maxRecDepth 20000 in
theorem gX6_onCount_X6_error : GoodIn wsX6_onCount (wsV RX6 42 RX6 yX6_error wsX6_error) := goodIn_app (goodIn_of _ (by decide +kernel)) ggX6_onCount_X6_error
set_option maxRecDepth 20000 in
theorem ggX6_onCount_X6_words : GoodIn wsX6_onCount wsX6_words := goodIn_r _ [14, 1, 22, 23, 24, 25, 26, 27, 28, 29, 30, 31] (by decide +kernel) (by decide +kernel)
set_option maxRecDepth 20000 in
theorem gX6_onCount_X6_words : GoodIn wsX6_onCount (wsV RX6 64 RX6 yX6_words wsX6_words) := goodIn_app (goodIn_of _ (by decide +kernel)) ggX6_onCount_X6_words
set_option maxRecDepth 20000 in
theorem ggX6_onCount_X6_outputs : GoodIn wsX6_onCount wsX6_outputs := goodIn_r _ [18, 1, 22, 23, 24, 25, 26, 27, 28, 29, 30, 31] (by decide +kernel) (by decide +kernel)
set_option maxRecDepth 20000 in
theorem gX6_onCount_X6_outputs : GoodIn wsX6_onCount (wsV RX6 68 RX6 yX6_outputs wsX6_outputs) := goodIn_app (goodIn_of _ (by decide +kernel)) ggX6_onCount_X6_outputs
set_option maxRecDepth 20000 in
theorem ggX6_onCount_X6_has : GoodIn wsX6_onCount wsX6_has := goodIn_r _ [21] (by decide +kernel) (by decide +kernel)
set_option maxRecDepth 20000 in
theorem gX6_onCount_X6_has : GoodIn wsX6_onCount (va_wsS RX6 72 yX6_has wsX6_has) := goodIn_app (goodIn_of _ (by decide +kernel)) ggX6_onCount_X6_has
theorem dX6_onCount_0 : decode cX6_onCount 0 = .ok (.iload_n 1, 1) := by decide +kernel
theorem dX6_onCount_1 : decode cX6_onCount 1 = .ok (.iconst 0, 1) := by decide +kernel
theorem dX6_onCount_2 : decode cX6_onCount 2 = .ok (.aload_n 0, 1) := by decide +kernel
theorem dX6_onCount_3 : decode cX6_onCount 3 = .ok (.getfield 7, 3) := by decide +kernel
theorem dX6_onCount_6 : decode cX6_onCount 6 = .ok (.iconst 1, 1) := by decide +kernel
theorem dX6_onCount_7 : decode cX6_onCount 7 = .ok (.iaload, 1) := by decide +kernel
theorem dX6_onCount_8 : decode cX6_onCount 8 = .ok (.iconst 1, 1) := by decide +kernel
theorem dX6_onCount_9 : decode cX6_onCount 9 = .ok (.isub, 1) := by decide +kernel
theorem dX6_onCount_10 : decode cX6_onCount 10 = .ok (.invokestatic 34, 3) := by decide +kernel
theorem dX6_onCount_13 : decode cX6_onCount 13 = .ok (.ifCond .ne 10, 3) := by decide +kernel
theorem dX6_onCount_16 : decode cX6_onCount 16 = .ok (.aload_n 0, 1) := by decide +kernel
theorem dX6_onCount_17 : decode cX6_onCount 17 = .ok (.bipush (-2), 2) := by decide +kernel
theorem dX6_onCount_19 : decode cX6_onCount 19 = .ok (.invokevirtual 42, 3) := by decide +kernel
theorem dX6_onCount_22 : decode cX6_onCount 22 = .ok (.ireturn, 1) := by decide +kernel
theorem dX6_onCount_23 : decode cX6_onCount 23 = .ok (.iconst 0, 1) := by decide +kernel
theorem dX6_onCount_24 : decode cX6_onCount 24 = .ok (.istore_n 2, 1) := by decide +kernel
theorem dX6_onCount_25 : decode cX6_onCount 25 = .ok (.iconst 0, 1) := by decide +kernel
theorem dX6_onCount_26 : decode cX6_onCount 26 = .ok (.istore_n 3, 1) := by decide +kernel
theorem dX6_onCount_27 : decode cX6_onCount 27 = .ok (.iload_n 3, 1) := by decide +kernel
theorem dX6_onCount_28 : decode cX6_onCount 28 = .ok (.aload_n 0, 1) := by decide +kernel
theorem dX6_onCount_29 : decode cX6_onCount 29 = .ok (.invokevirtual 64, 3) := by decide +kernel
theorem dX6_onCount_32 : decode cX6_onCount 32 = .ok (.if_icmp .ge 30, 3) := by decide +kernel
theorem dX6_onCount_35 : decode cX6_onCount 35 = .ok (.iload_n 2, 1) := by decide +kernel
theorem dX6_onCount_36 : decode cX6_onCount 36 = .ok (.aload_n 0, 1) := by decide +kernel
theorem dX6_onCount_37 : decode cX6_onCount 37 = .ok (.iload_n 3, 1) := by decide +kernel
theorem dX6_onCount_38 : decode cX6_onCount 38 = .ok (.iconst (-1), 1) := by decide +kernel
theorem dX6_onCount_39 : decode cX6_onCount 39 = .ok (.invokevirtual 68, 3) := by decide +kernel
theorem dX6_onCount_42 : decode cX6_onCount 42 = .ok (.iload_n 1, 1) := by decide +kernel
theorem dX6_onCount_43 : decode cX6_onCount 43 = .ok (.invokestatic 72, 3) := by decide +kernel
theorem dX6_onCount_46 : decode cX6_onCount 46 = .ok (.ifCond .eq 7, 3) := by decide +kernel
theorem dX6_onCount_49 : decode cX6_onCount 49 = .ok (.iconst 1, 1) := by decide +kernel
theorem dX6_onCount_50 : decode cX6_onCount 50 = .ok (.goto 4, 3) := by decide +kernel
theorem dX6_onCount_53 : decode cX6_onCount 53 = .ok (.iconst 0, 1) := by decide +kernel
theorem dX6_onCount_54 : decode cX6_onCount 54 = .ok (.iadd, 1) := by decide +kernel
theorem dX6_onCount_55 : decode cX6_onCount 55 = .ok (.istore_n 2, 1) := by decide +kernel
theorem dX6_onCount_56 : decode cX6_onCount 56 = .ok (.iinc 3 1, 3) := by decide +kernel
theorem dX6_onCount_59 : decode cX6_onCount 59 = .ok (.goto (-32), 3) := by decide +kernel
theorem dX6_onCount_62 : decode cX6_onCount 62 = .ok (.iload_n 2, 1) := by decide +kernel
theorem dX6_onCount_63 : decode cX6_onCount 63 = .ok (.ireturn, 1) := by decide +kernel
set_option maxRecDepth 20000 in
theorem ggX6_redundant_X6_words : GoodIn wsX6_redundant wsX6_words := goodIn_r _ [5, 6, 11, 12, 13, 14, 15, 16, 17, 18, 19, 20] (by decide +kernel) (by decide +kernel)
set_option maxRecDepth 20000 in
theorem gX6_redundant_X6_words : GoodIn wsX6_redundant (wsV RX6 64 RX6 yX6_words wsX6_words) := goodIn_app (goodIn_of _ (by decide +kernel)) ggX6_redundant_X6_words
set_option maxRecDepth 20000 in
theorem ggX6_redundant_X6_outputs : GoodIn wsX6_redundant wsX6_outputs := goodIn_r _ [10, 6, 11, 12, 13, 14, 15, 16, 17, 18, 19, 20] (by decide +kernel) (by decide +kernel)
set_option maxRecDepth 20000 in
theorem gX6_redundant_X6_outputs : GoodIn wsX6_redundant (wsV RX6 68 RX6 yX6_outputs wsX6_outputs) := goodIn_app (goodIn_of _ (by decide +kernel)) ggX6_redundant_X6_outputs
theorem dX6_redundant_0 : decode cX6_redundant 0 = .ok (.iconst 1, 1) := by decide +kernel
theorem dX6_redundant_1 : decode cX6_redundant 1 = .ok (.istore_n 2, 1) := by decide +kernel
theorem dX6_redundant_2 : decode cX6_redundant 2 = .ok (.iconst 0, 1) := by decide +kernel
theorem dX6_redundant_3 : decode cX6_redundant 3 = .ok (.istore_n 3, 1) := by decide +kernel
theorem dX6_redundant_4 : decode cX6_redundant 4 = .ok (.iload_n 3, 1) := by decide +kernel
theorem dX6_redundant_5 : decode cX6_redundant 5 = .ok (.aload_n 0, 1) := by decide +kernel
theorem dX6_redundant_6 : decode cX6_redundant 6 = .ok (.invokevirtual 64, 3) := by decide +kernel
theorem dX6_redundant_9 : decode cX6_redundant 9 = .ok (.if_icmp .ge 34, 3) := by decide +kernel
theorem dX6_redundant_12 : decode cX6_redundant 12 = .ok (.iload_n 2, 1) := by decide +kernel
theorem dX6_redundant_13 : decode cX6_redundant 13 = .ok (.ifCond .eq 30, 3) := by decide +kernel
theorem dX6_redundant_16 : decode cX6_redundant 16 = .ok (.aload_n 0, 1) := by decide +kernel
theorem dX6_redundant_17 : decode cX6_redundant 17 = .ok (.iload_n 3, 1) := by decide +kernel
theorem dX6_redundant_18 : decode cX6_redundant 18 = .ok (.iconst (-1), 1) := by decide +kernel
theorem dX6_redundant_19 : decode cX6_redundant 19 = .ok (.invokevirtual 68, 3) := by decide +kernel
theorem dX6_redundant_22 : decode cX6_redundant 22 = .ok (.aload_n 0, 1) := by decide +kernel
theorem dX6_redundant_23 : decode cX6_redundant 23 = .ok (.iload_n 3, 1) := by decide +kernel
theorem dX6_redundant_24 : decode cX6_redundant 24 = .ok (.iload_n 1, 1) := by decide +kernel
theorem dX6_redundant_25 : decode cX6_redundant 25 = .ok (.invokevirtual 68, 3) := by decide +kernel
theorem dX6_redundant_28 : decode cX6_redundant 28 = .ok (.if_icmp .ne 7, 3) := by decide +kernel
theorem dX6_redundant_31 : decode cX6_redundant 31 = .ok (.iconst 1, 1) := by decide +kernel
theorem dX6_redundant_32 : decode cX6_redundant 32 = .ok (.goto 4, 3) := by decide +kernel
theorem dX6_redundant_35 : decode cX6_redundant 35 = .ok (.iconst 0, 1) := by decide +kernel
theorem dX6_redundant_36 : decode cX6_redundant 36 = .ok (.istore_n 2, 1) := by decide +kernel
theorem dX6_redundant_37 : decode cX6_redundant 37 = .ok (.iinc 3 1, 3) := by decide +kernel
theorem dX6_redundant_40 : decode cX6_redundant 40 = .ok (.goto (-36), 3) := by decide +kernel
theorem dX6_redundant_43 : decode cX6_redundant 43 = .ok (.iload_n 2, 1) := by decide +kernel
theorem dX6_redundant_44 : decode cX6_redundant 44 = .ok (.ireturn, 1) := by decide +kernel
set_option maxRecDepth 20000 in
theorem ggX6_isRedundant_X6_isTerm : GoodIn wsX6_isRedundant wsX6_isTerm := goodIn_r _ [5, 6, 7, 8, 4, 9, 27, 28, 29, 30, 31, 32, 33, 34, 35, 36] (by decide +kernel) (by decide +kernel)
set_option maxRecDepth 20000 in
theorem gX6_isRedundant_X6_isTerm : GoodIn wsX6_isRedundant (wsV RX6 53 RX6 yX6_isTerm wsX6_isTerm) := goodIn_app (goodIn_of _ (by decide +kernel)) ggX6_isRedundant_X6_isTerm
set_option maxRecDepth 20000 in
theorem ggX6_isRedundant_X6_error : GoodIn wsX6_isRedundant wsX6_error := goodIn_r _ [13, 14, 27, 28, 29, 30, 31, 32, 33, 34, 35, 36] (by decide +kernel) (by decide +kernel)
set_option maxRecDepth 20000 in
theorem gX6_isRedundant_X6_error : GoodIn wsX6_isRedundant (wsV RX6 42 RX6 yX6_error wsX6_error) := goodIn_app (goodIn_of _ (by decide +kernel)) ggX6_isRedundant_X6_error
set_option maxRecDepth 20000 in
theorem ggX6_isRedundant_X6_redundant : GoodIn wsX6_isRedundant wsX6_redundant := goodIn_r _ [18, 19, 20, 21, 4, 22, 6, 23, 24, 25, 26, 27, 28, 29, 30, 31, 32, 33, 34, 35, 36] (by decide +kernel) (by decide +kernel)
set_option maxRecDepth 20000 in
theorem gX6_isRedundant_X6_redundant : GoodIn wsX6_isRedundant (wsV RX6 75 RX6 yX6_redundant wsX6_redundant) := goodIn_app (goodIn_of _ (by decide +kernel)) ggX6_isRedundant_X6_redundant
theorem dX6_isRedundant_0 : decode cX6_isRedundant 0 = .ok (.aload_n 0, 1) := by decide +kernel
theorem dX6_isRedundant_1 : decode cX6_isRedundant 1 = .ok (.iload_n 1, 1) := by decide +kernel
theorem dX6_isRedundant_2 : decode cX6_isRedundant 2 = .ok (.invokevirtual 53, 3) := by decide +kernel
theorem dX6_isRedundant_5 : decode cX6_isRedundant 5 = .ok (.ifCond .ne 12, 3) := by decide +kernel
theorem dX6_isRedundant_8 : decode cX6_isRedundant 8 = .ok (.aload_n 0, 1) := by decide +kernel
theorem dX6_isRedundant_9 : decode cX6_isRedundant 9 = .ok (.bipush (-2), 2) := by decide +kernel
theorem dX6_isRedundant_11 : decode cX6_isRedundant 11 = .ok (.invokevirtual 42, 3) := by decide +kernel
theorem dX6_isRedundant_14 : decode cX6_isRedundant 14 = .ok (.goto 16, 3) := by decide +kernel
theorem dX6_isRedundant_17 : decode cX6_isRedundant 17 = .ok (.aload_n 0, 1) := by decide +kernel
theorem dX6_isRedundant_18 : decode cX6_isRedundant 18 = .ok (.iload_n 1, 1) := by decide +kernel
theorem dX6_isRedundant_19 : decode cX6_isRedundant 19 = .ok (.invokevirtual 75, 3) := by decide +kernel
theorem dX6_isRedundant_22 : decode cX6_isRedundant 22 = .ok (.ifCond .eq 7, 3) := by decide +kernel
theorem dX6_isRedundant_25 : decode cX6_isRedundant 25 = .ok (.iconst 1, 1) := by decide +kernel
theorem dX6_isRedundant_26 : decode cX6_isRedundant 26 = .ok (.goto 4, 3) := by decide +kernel
theorem dX6_isRedundant_29 : decode cX6_isRedundant 29 = .ok (.iconst 0, 1) := by decide +kernel
theorem dX6_isRedundant_30 : decode cX6_isRedundant 30 = .ok (.ireturn, 1) := by decide +kernel
set_option maxRecDepth 20000 in
theorem ggX6_removeRedundant_X6_save : GoodIn wsX6_removeRedundant wsX6_save := goodIn_r _ [6, 7, 8, 1, 29, 30, 31, 32, 33, 34, 35, 36, 37, 38] (by decide +kernel) (by decide +kernel)
set_option maxRecDepth 20000 in
theorem gX6_removeRedundant_X6_save : GoodIn wsX6_removeRedundant (wsV RX6 46 RX6 yX6_save wsX6_save) := goodIn_app (goodIn_of _ (by decide +kernel)) ggX6_removeRedundant_X6_save
set_option maxRecDepth 20000 in
theorem ggX6_removeRedundant_X6_redundant : GoodIn wsX6_removeRedundant wsX6_redundant := goodIn_r _ [12, 13, 14, 15, 5, 16, 1, 17, 18, 19, 20, 29, 30, 31, 32, 33, 34, 35, 36, 37, 38] (by decide +kernel) (by decide +kernel)
set_option maxRecDepth 20000 in
theorem gX6_removeRedundant_X6_redundant : GoodIn wsX6_removeRedundant (wsV RX6 75 RX6 yX6_redundant wsX6_redundant) := goodIn_app (goodIn_of _ (by decide +kernel)) ggX6_removeRedundant_X6_redundant
set_option maxRecDepth 20000 in
theorem ggX6_removeRedundant_X6_drop : GoodIn wsX6_removeRedundant wsX6_drop := goodIn_r _ [24, 1, 25, 26, 27, 5, 28, 29, 30, 31, 32, 33, 34, 35, 36, 37, 38] (by decide +kernel) (by decide +kernel)
set_option maxRecDepth 20000 in
theorem gX6_removeRedundant_X6_drop : GoodIn wsX6_removeRedundant (wsV RX6 57 RX6 yX6_drop wsX6_drop) := goodIn_app (goodIn_of _ (by decide +kernel)) ggX6_removeRedundant_X6_drop
theorem dX6_removeRedundant_0 : decode cX6_removeRedundant 0 = .ok (.aload_n 0, 1) := by decide +kernel
theorem dX6_removeRedundant_1 : decode cX6_removeRedundant 1 = .ok (.invokevirtual 46, 3) := by decide +kernel
theorem dX6_removeRedundant_4 : decode cX6_removeRedundant 4 = .ok (.aload_n 0, 1) := by decide +kernel
theorem dX6_removeRedundant_5 : decode cX6_removeRedundant 5 = .ok (.getfield 7, 3) := by decide +kernel
theorem dX6_removeRedundant_8 : decode cX6_removeRedundant 8 = .ok (.iconst 2, 1) := by decide +kernel
theorem dX6_removeRedundant_9 : decode cX6_removeRedundant 9 = .ok (.iaload, 1) := by decide +kernel
theorem dX6_removeRedundant_10 : decode cX6_removeRedundant 10 = .ok (.istore_n 1, 1) := by decide +kernel
theorem dX6_removeRedundant_11 : decode cX6_removeRedundant 11 = .ok (.aload_n 0, 1) := by decide +kernel
theorem dX6_removeRedundant_12 : decode cX6_removeRedundant 12 = .ok (.getfield 7, 3) := by decide +kernel
theorem dX6_removeRedundant_15 : decode cX6_removeRedundant 15 = .ok (.iconst 2, 1) := by decide +kernel
theorem dX6_removeRedundant_16 : decode cX6_removeRedundant 16 = .ok (.iaload, 1) := by decide +kernel
theorem dX6_removeRedundant_17 : decode cX6_removeRedundant 17 = .ok (.iconst 1, 1) := by decide +kernel
theorem dX6_removeRedundant_18 : decode cX6_removeRedundant 18 = .ok (.isub, 1) := by decide +kernel
theorem dX6_removeRedundant_19 : decode cX6_removeRedundant 19 = .ok (.istore_n 2, 1) := by decide +kernel
theorem dX6_removeRedundant_20 : decode cX6_removeRedundant 20 = .ok (.iload_n 2, 1) := by decide +kernel
theorem dX6_removeRedundant_21 : decode cX6_removeRedundant 21 = .ok (.ifCond .lt 29, 3) := by decide +kernel
theorem dX6_removeRedundant_24 : decode cX6_removeRedundant 24 = .ok (.aload_n 0, 1) := by decide +kernel
theorem dX6_removeRedundant_25 : decode cX6_removeRedundant 25 = .ok (.iload_n 2, 1) := by decide +kernel
theorem dX6_removeRedundant_26 : decode cX6_removeRedundant 26 = .ok (.invokevirtual 75, 3) := by decide +kernel
theorem dX6_removeRedundant_29 : decode cX6_removeRedundant 29 = .ok (.ifCond .eq 15, 3) := by decide +kernel
theorem dX6_removeRedundant_32 : decode cX6_removeRedundant 32 = .ok (.aload_n 0, 1) := by decide +kernel
theorem dX6_removeRedundant_33 : decode cX6_removeRedundant 33 = .ok (.iload_n 2, 1) := by decide +kernel
theorem dX6_removeRedundant_34 : decode cX6_removeRedundant 34 = .ok (.invokevirtual 57, 3) := by decide +kernel
theorem dX6_removeRedundant_37 : decode cX6_removeRedundant 37 = .ok (.aload_n 0, 1) := by decide +kernel
theorem dX6_removeRedundant_38 : decode cX6_removeRedundant 38 = .ok (.getfield 7, 3) := by decide +kernel
theorem dX6_removeRedundant_41 : decode cX6_removeRedundant 41 = .ok (.iconst 2, 1) := by decide +kernel
theorem dX6_removeRedundant_42 : decode cX6_removeRedundant 42 = .ok (.iaload, 1) := by decide +kernel
theorem dX6_removeRedundant_43 : decode cX6_removeRedundant 43 = .ok (.istore_n 2, 1) := by decide +kernel
theorem dX6_removeRedundant_44 : decode cX6_removeRedundant 44 = .ok (.iinc 2 (-1), 3) := by decide +kernel
theorem dX6_removeRedundant_47 : decode cX6_removeRedundant 47 = .ok (.goto (-27), 3) := by decide +kernel
theorem dX6_removeRedundant_50 : decode cX6_removeRedundant 50 = .ok (.iload_n 1, 1) := by decide +kernel
theorem dX6_removeRedundant_51 : decode cX6_removeRedundant 51 = .ok (.aload_n 0, 1) := by decide +kernel
theorem dX6_removeRedundant_52 : decode cX6_removeRedundant 52 = .ok (.getfield 7, 3) := by decide +kernel
theorem dX6_removeRedundant_55 : decode cX6_removeRedundant 55 = .ok (.iconst 2, 1) := by decide +kernel
theorem dX6_removeRedundant_56 : decode cX6_removeRedundant 56 = .ok (.iaload, 1) := by decide +kernel
theorem dX6_removeRedundant_57 : decode cX6_removeRedundant 57 = .ok (.isub, 1) := by decide +kernel
theorem dX6_removeRedundant_58 : decode cX6_removeRedundant 58 = .ok (.ireturn, 1) := by decide +kernel
set_option maxRecDepth 20000 in
theorem ggX6_usedBy_X6_has : GoodIn wsX6_usedBy wsX6_has := goodIn_r _ [5] (by decide +kernel) (by decide +kernel)
set_option maxRecDepth 20000 in
theorem gX6_usedBy_X6_has : GoodIn wsX6_usedBy (va_wsS RX6 72 yX6_has wsX6_has) := goodIn_app (goodIn_of _ (by decide +kernel)) ggX6_usedBy_X6_has
theorem dX6_usedBy_0 : decode cX6_usedBy 0 = .ok (.iconst 0, 1) := by decide +kernel
theorem dX6_usedBy_1 : decode cX6_usedBy 1 = .ok (.istore_n 2, 1) := by decide +kernel
theorem dX6_usedBy_2 : decode cX6_usedBy 2 = .ok (.iconst 0, 1) := by decide +kernel
theorem dX6_usedBy_3 : decode cX6_usedBy 3 = .ok (.istore_n 3, 1) := by decide +kernel
theorem dX6_usedBy_4 : decode cX6_usedBy 4 = .ok (.iload_n 3, 1) := by decide +kernel
theorem dX6_usedBy_5 : decode cX6_usedBy 5 = .ok (.aload_n 0, 1) := by decide +kernel
theorem dX6_usedBy_6 : decode cX6_usedBy 6 = .ok (.getfield 7, 3) := by decide +kernel
theorem dX6_usedBy_9 : decode cX6_usedBy 9 = .ok (.iconst 2, 1) := by decide +kernel
theorem dX6_usedBy_10 : decode cX6_usedBy 10 = .ok (.iaload, 1) := by decide +kernel
theorem dX6_usedBy_11 : decode cX6_usedBy 11 = .ok (.if_icmp .ge 79, 3) := by decide +kernel
theorem dX6_usedBy_14 : decode cX6_usedBy 14 = .ok (.iload_n 1, 1) := by decide +kernel
theorem dX6_usedBy_15 : decode cX6_usedBy 15 = .ok (.bipush 6, 2) := by decide +kernel
theorem dX6_usedBy_17 : decode cX6_usedBy 17 = .ok (.if_icmp .ge 24, 3) := by decide +kernel
theorem dX6_usedBy_20 : decode cX6_usedBy 20 = .ok (.aload_n 0, 1) := by decide +kernel
theorem dX6_usedBy_21 : decode cX6_usedBy 21 = .ok (.getfield 7, 3) := by decide +kernel
theorem dX6_usedBy_24 : decode cX6_usedBy 24 = .ok (.iconst 3, 1) := by decide +kernel
theorem dX6_usedBy_25 : decode cX6_usedBy 25 = .ok (.iload_n 3, 1) := by decide +kernel
theorem dX6_usedBy_26 : decode cX6_usedBy 26 = .ok (.iadd, 1) := by decide +kernel
theorem dX6_usedBy_27 : decode cX6_usedBy 27 = .ok (.iaload, 1) := by decide +kernel
theorem dX6_usedBy_28 : decode cX6_usedBy 28 = .ok (.aload_n 0, 1) := by decide +kernel
theorem dX6_usedBy_29 : decode cX6_usedBy 29 = .ok (.getfield 7, 3) := by decide +kernel
theorem dX6_usedBy_32 : decode cX6_usedBy 32 = .ok (.bipush 13, 2) := by decide +kernel
theorem dX6_usedBy_34 : decode cX6_usedBy 34 = .ok (.iload_n 3, 1) := by decide +kernel
theorem dX6_usedBy_35 : decode cX6_usedBy 35 = .ok (.iadd, 1) := by decide +kernel
theorem dX6_usedBy_36 : decode cX6_usedBy 36 = .ok (.iaload, 1) := by decide +kernel
theorem dX6_usedBy_37 : decode cX6_usedBy 37 = .ok (.ior, 1) := by decide +kernel
theorem dX6_usedBy_38 : decode cX6_usedBy 38 = .ok (.goto 12, 3) := by decide +kernel
theorem dX6_usedBy_41 : decode cX6_usedBy 41 = .ok (.aload_n 0, 1) := by decide +kernel
theorem dX6_usedBy_42 : decode cX6_usedBy 42 = .ok (.getfield 7, 3) := by decide +kernel
theorem dX6_usedBy_45 : decode cX6_usedBy 45 = .ok (.bipush 23, 2) := by decide +kernel
theorem dX6_usedBy_47 : decode cX6_usedBy 47 = .ok (.iload_n 3, 1) := by decide +kernel
theorem dX6_usedBy_48 : decode cX6_usedBy 48 = .ok (.iadd, 1) := by decide +kernel
theorem dX6_usedBy_49 : decode cX6_usedBy 49 = .ok (.iaload, 1) := by decide +kernel
theorem dX6_usedBy_50 : decode cX6_usedBy 50 = .ok (.istore 4, 2) := by decide +kernel
theorem dX6_usedBy_52 : decode cX6_usedBy 52 = .ok (.iload_n 2, 1) := by decide +kernel
theorem dX6_usedBy_53 : decode cX6_usedBy 53 = .ok (.iload 4, 2) := by decide +kernel
theorem dX6_usedBy_55 : decode cX6_usedBy 55 = .ok (.iload_n 1, 1) := by decide +kernel
theorem dX6_usedBy_56 : decode cX6_usedBy 56 = .ok (.bipush 6, 2) := by decide +kernel
theorem dX6_usedBy_58 : decode cX6_usedBy 58 = .ok (.if_icmp .ge 7, 3) := by decide +kernel
theorem dX6_usedBy_61 : decode cX6_usedBy 61 = .ok (.iload_n 1, 1) := by decide +kernel
theorem dX6_usedBy_62 : decode cX6_usedBy 62 = .ok (.goto 7, 3) := by decide +kernel
theorem dX6_usedBy_65 : decode cX6_usedBy 65 = .ok (.iload_n 1, 1) := by decide +kernel
theorem dX6_usedBy_66 : decode cX6_usedBy 66 = .ok (.bipush 6, 2) := by decide +kernel
theorem dX6_usedBy_68 : decode cX6_usedBy 68 = .ok (.isub, 1) := by decide +kernel
theorem dX6_usedBy_69 : decode cX6_usedBy 69 = .ok (.invokestatic 72, 3) := by decide +kernel
theorem dX6_usedBy_72 : decode cX6_usedBy 72 = .ok (.ifCond .eq 9, 3) := by decide +kernel
theorem dX6_usedBy_75 : decode cX6_usedBy 75 = .ok (.iconst 1, 1) := by decide +kernel
theorem dX6_usedBy_76 : decode cX6_usedBy 76 = .ok (.iload_n 3, 1) := by decide +kernel
theorem dX6_usedBy_77 : decode cX6_usedBy 77 = .ok (.ishl, 1) := by decide +kernel
theorem dX6_usedBy_78 : decode cX6_usedBy 78 = .ok (.goto 4, 3) := by decide +kernel
theorem dX6_usedBy_81 : decode cX6_usedBy 81 = .ok (.iconst 0, 1) := by decide +kernel
theorem dX6_usedBy_82 : decode cX6_usedBy 82 = .ok (.ior, 1) := by decide +kernel
theorem dX6_usedBy_83 : decode cX6_usedBy 83 = .ok (.istore_n 2, 1) := by decide +kernel
theorem dX6_usedBy_84 : decode cX6_usedBy 84 = .ok (.iinc 3 1, 3) := by decide +kernel
theorem dX6_usedBy_87 : decode cX6_usedBy 87 = .ok (.goto (-83), 3) := by decide +kernel
theorem dX6_usedBy_90 : decode cX6_usedBy 90 = .ok (.iload_n 2, 1) := by decide +kernel
theorem dX6_usedBy_91 : decode cX6_usedBy 91 = .ok (.ireturn, 1) := by decide +kernel
set_option maxRecDepth 20000 in
theorem ggX6_layUsed_X6_usedBy : GoodIn wsX6_layUsed wsX6_usedBy := goodIn_r _ [6, 7, 8, 9, 5, 10, 11, 12, 13, 14, 15, 16, 17, 18, 19, 20] (by decide +kernel) (by decide +kernel)
set_option maxRecDepth 20000 in
theorem gX6_layUsed_X6_usedBy : GoodIn wsX6_layUsed (wsV RX6 78 RX6 yX6_usedBy wsX6_usedBy) := goodIn_app (goodIn_of _ (by decide +kernel)) ggX6_layUsed_X6_usedBy
theorem dX6_layUsed_0 : decode cX6_layUsed 0 = .ok (.iconst 0, 1) := by decide +kernel
theorem dX6_layUsed_1 : decode cX6_layUsed 1 = .ok (.istore_n 1, 1) := by decide +kernel
theorem dX6_layUsed_2 : decode cX6_layUsed 2 = .ok (.iload_n 1, 1) := by decide +kernel
theorem dX6_layUsed_3 : decode cX6_layUsed 3 = .ok (.bipush 10, 2) := by decide +kernel
theorem dX6_layUsed_5 : decode cX6_layUsed 5 = .ok (.if_icmp .ge 20, 3) := by decide +kernel
theorem dX6_layUsed_8 : decode cX6_layUsed 8 = .ok (.aload_n 0, 1) := by decide +kernel
theorem dX6_layUsed_9 : decode cX6_layUsed 9 = .ok (.getfield 19, 3) := by decide +kernel
theorem dX6_layUsed_12 : decode cX6_layUsed 12 = .ok (.iload_n 1, 1) := by decide +kernel
theorem dX6_layUsed_13 : decode cX6_layUsed 13 = .ok (.aload_n 0, 1) := by decide +kernel
theorem dX6_layUsed_14 : decode cX6_layUsed 14 = .ok (.iload_n 1, 1) := by decide +kernel
theorem dX6_layUsed_15 : decode cX6_layUsed 15 = .ok (.invokevirtual 78, 3) := by decide +kernel
theorem dX6_layUsed_18 : decode cX6_layUsed 18 = .ok (.iastore, 1) := by decide +kernel
theorem dX6_layUsed_19 : decode cX6_layUsed 19 = .ok (.iinc 1 1, 3) := by decide +kernel
theorem dX6_layUsed_22 : decode cX6_layUsed 22 = .ok (.goto (-20), 3) := by decide +kernel
theorem dX6_layUsed_25 : decode cX6_layUsed 25 = .ok (.return_, 1) := by decide +kernel
set_option maxRecDepth 20000 in
theorem ggX6_uses_X6_isColumn : GoodIn wsX6_uses wsX6_isColumn := goodIn_r _ [5, 6, 7, 8, 4, 9, 22, 23, 24, 25, 26, 27, 28, 29, 30, 31] (by decide +kernel) (by decide +kernel)
set_option maxRecDepth 20000 in
theorem gX6_uses_X6_isColumn : GoodIn wsX6_uses (wsV RX6 81 RX6 yX6_isColumn wsX6_isColumn) := goodIn_app (goodIn_of _ (by decide +kernel)) ggX6_uses_X6_isColumn
set_option maxRecDepth 20000 in
theorem ggX6_uses_X6_usedBy : GoodIn wsX6_uses wsX6_usedBy := goodIn_r _ [13, 6, 14, 15, 4, 16, 22, 23, 24, 25, 26, 27, 28, 29, 30, 31] (by decide +kernel) (by decide +kernel)
set_option maxRecDepth 20000 in
theorem gX6_uses_X6_usedBy : GoodIn wsX6_uses (wsV RX6 78 RX6 yX6_usedBy wsX6_usedBy) := goodIn_app (goodIn_of _ (by decide +kernel)) ggX6_uses_X6_usedBy
set_option maxRecDepth 20000 in
theorem ggX6_uses_X6_error : GoodIn wsX6_uses wsX6_error := goodIn_r _ [20, 21, 22, 23, 24, 25, 26, 27, 28, 29, 30, 31] (by decide +kernel) (by decide +kernel)
set_option maxRecDepth 20000 in
theorem gX6_uses_X6_error : GoodIn wsX6_uses (wsV RX6 42 RX6 yX6_error wsX6_error) := goodIn_app (goodIn_of _ (by decide +kernel)) ggX6_uses_X6_error
theorem dX6_uses_0 : decode cX6_uses 0 = .ok (.aload_n 0, 1) := by decide +kernel
theorem dX6_uses_1 : decode cX6_uses 1 = .ok (.iload_n 1, 1) := by decide +kernel
theorem dX6_uses_2 : decode cX6_uses 2 = .ok (.invokevirtual 81, 3) := by decide +kernel
theorem dX6_uses_5 : decode cX6_uses 5 = .ok (.ifCond .eq 11, 3) := by decide +kernel
theorem dX6_uses_8 : decode cX6_uses 8 = .ok (.aload_n 0, 1) := by decide +kernel
theorem dX6_uses_9 : decode cX6_uses 9 = .ok (.iload_n 1, 1) := by decide +kernel
theorem dX6_uses_10 : decode cX6_uses 10 = .ok (.invokevirtual 78, 3) := by decide +kernel
theorem dX6_uses_13 : decode cX6_uses 13 = .ok (.goto 9, 3) := by decide +kernel
theorem dX6_uses_16 : decode cX6_uses 16 = .ok (.aload_n 0, 1) := by decide +kernel
theorem dX6_uses_17 : decode cX6_uses 17 = .ok (.bipush (-2), 2) := by decide +kernel
theorem dX6_uses_19 : decode cX6_uses 19 = .ok (.invokevirtual 42, 3) := by decide +kernel
theorem dX6_uses_22 : decode cX6_uses 22 = .ok (.ireturn, 1) := by decide +kernel
set_option maxRecDepth 20000 in
theorem ggX6_fits_X6_isColumn : GoodIn wsX6_fits wsX6_isColumn := goodIn_r _ [6, 7, 8, 9, 5, 10, 11, 12, 13, 14, 15, 16, 17, 18, 19, 20] (by decide +kernel) (by decide +kernel)
set_option maxRecDepth 20000 in
theorem gX6_fits_X6_isColumn : GoodIn wsX6_fits (wsV RX6 81 RX6 yX6_isColumn wsX6_isColumn) := goodIn_app (goodIn_of _ (by decide +kernel)) ggX6_fits_X6_isColumn
theorem dX6_fits_0 : decode cX6_fits 0 = .ok (.iload_n 1, 1) := by decide +kernel
theorem dX6_fits_1 : decode cX6_fits 1 = .ok (.iload_n 2, 1) := by decide +kernel
theorem dX6_fits_2 : decode cX6_fits 2 = .ok (.if_icmp .eq 64, 3) := by decide +kernel
theorem dX6_fits_5 : decode cX6_fits 5 = .ok (.aload_n 0, 1) := by decide +kernel
theorem dX6_fits_6 : decode cX6_fits 6 = .ok (.iload_n 1, 1) := by decide +kernel
theorem dX6_fits_7 : decode cX6_fits 7 = .ok (.invokevirtual 81, 3) := by decide +kernel
theorem dX6_fits_10 : decode cX6_fits 10 = .ok (.ifCond .eq 56, 3) := by decide +kernel
theorem dX6_fits_13 : decode cX6_fits 13 = .ok (.aload_n 0, 1) := by decide +kernel
theorem dX6_fits_14 : decode cX6_fits 14 = .ok (.iload_n 2, 1) := by decide +kernel
theorem dX6_fits_15 : decode cX6_fits 15 = .ok (.invokevirtual 81, 3) := by decide +kernel
theorem dX6_fits_18 : decode cX6_fits 18 = .ok (.ifCond .eq 48, 3) := by decide +kernel
theorem dX6_fits_21 : decode cX6_fits 21 = .ok (.iload_n 1, 1) := by decide +kernel
theorem dX6_fits_22 : decode cX6_fits 22 = .ok (.bipush 6, 2) := by decide +kernel
theorem dX6_fits_24 : decode cX6_fits 24 = .ok (.if_icmp .ge 7, 3) := by decide +kernel
theorem dX6_fits_27 : decode cX6_fits 27 = .ok (.iconst 1, 1) := by decide +kernel
theorem dX6_fits_28 : decode cX6_fits 28 = .ok (.goto 4, 3) := by decide +kernel
theorem dX6_fits_31 : decode cX6_fits 31 = .ok (.iconst 0, 1) := by decide +kernel
theorem dX6_fits_32 : decode cX6_fits 32 = .ok (.iload_n 2, 1) := by decide +kernel
theorem dX6_fits_33 : decode cX6_fits 33 = .ok (.bipush 6, 2) := by decide +kernel
theorem dX6_fits_35 : decode cX6_fits 35 = .ok (.if_icmp .ge 7, 3) := by decide +kernel
theorem dX6_fits_38 : decode cX6_fits 38 = .ok (.iconst 1, 1) := by decide +kernel
theorem dX6_fits_39 : decode cX6_fits 39 = .ok (.goto 4, 3) := by decide +kernel
theorem dX6_fits_42 : decode cX6_fits 42 = .ok (.iconst 0, 1) := by decide +kernel
theorem dX6_fits_43 : decode cX6_fits 43 = .ok (.if_icmp .ne 23, 3) := by decide +kernel
theorem dX6_fits_46 : decode cX6_fits 46 = .ok (.aload_n 0, 1) := by decide +kernel
theorem dX6_fits_47 : decode cX6_fits 47 = .ok (.getfield 19, 3) := by decide +kernel
theorem dX6_fits_50 : decode cX6_fits 50 = .ok (.iload_n 1, 1) := by decide +kernel
theorem dX6_fits_51 : decode cX6_fits 51 = .ok (.iaload, 1) := by decide +kernel
theorem dX6_fits_52 : decode cX6_fits 52 = .ok (.aload_n 0, 1) := by decide +kernel
theorem dX6_fits_53 : decode cX6_fits 53 = .ok (.getfield 19, 3) := by decide +kernel
theorem dX6_fits_56 : decode cX6_fits 56 = .ok (.iload_n 2, 1) := by decide +kernel
theorem dX6_fits_57 : decode cX6_fits 57 = .ok (.iaload, 1) := by decide +kernel
theorem dX6_fits_58 : decode cX6_fits 58 = .ok (.iand, 1) := by decide +kernel
theorem dX6_fits_59 : decode cX6_fits 59 = .ok (.ifCond .ne 7, 3) := by decide +kernel
theorem dX6_fits_62 : decode cX6_fits 62 = .ok (.iconst 1, 1) := by decide +kernel
theorem dX6_fits_63 : decode cX6_fits 63 = .ok (.goto 4, 3) := by decide +kernel
theorem dX6_fits_66 : decode cX6_fits 66 = .ok (.iconst 0, 1) := by decide +kernel
theorem dX6_fits_67 : decode cX6_fits 67 = .ok (.ireturn, 1) := by decide +kernel
set_option maxRecDepth 20000 in
theorem ggX6_canFold_X6_isColumn : GoodIn wsX6_canFold wsX6_isColumn := goodIn_r _ [5, 6, 7, 8, 4, 9, 31, 32, 33, 34, 35, 36, 37, 38, 39, 40] (by decide +kernel) (by decide +kernel)
set_option maxRecDepth 20000 in
theorem gX6_canFold_X6_isColumn : GoodIn wsX6_canFold (wsV RX6 81 RX6 yX6_isColumn wsX6_isColumn) := goodIn_app (goodIn_of _ (by decide +kernel)) ggX6_canFold_X6_isColumn
set_option maxRecDepth 20000 in
theorem ggX6_canFold_X6_error : GoodIn wsX6_canFold wsX6_error := goodIn_r _ [13, 14, 31, 32, 33, 34, 35, 36, 37, 38, 39, 40] (by decide +kernel) (by decide +kernel)
set_option maxRecDepth 20000 in
theorem gX6_canFold_X6_error : GoodIn wsX6_canFold (wsV RX6 42 RX6 yX6_error wsX6_error) := goodIn_app (goodIn_of _ (by decide +kernel)) ggX6_canFold_X6_error
set_option maxRecDepth 20000 in
theorem ggX6_canFold_X6_layUsed : GoodIn wsX6_canFold wsX6_layUsed := goodIn_r _ [18, 19, 20, 21, 22, 4, 23, 6, 24, 25, 26, 31, 32, 33, 34, 35, 36, 37, 38, 39, 40] (by decide +kernel) (by decide +kernel)
set_option maxRecDepth 20000 in
theorem gX6_canFold_X6_layUsed : GoodIn wsX6_canFold (wsV RX6 84 RX6 yX6_layUsed wsX6_layUsed) := goodIn_app (goodIn_of _ (by decide +kernel)) ggX6_canFold_X6_layUsed
set_option maxRecDepth 20000 in
theorem ggX6_canFold_X6_fits : GoodIn wsX6_canFold wsX6_fits := goodIn_r _ [30, 19, 1, 2, 3, 4, 5, 6, 7, 8, 9, 31, 32, 33, 34, 35, 36, 37, 38, 39, 40] (by decide +kernel) (by decide +kernel)
set_option maxRecDepth 20000 in
theorem gX6_canFold_X6_fits : GoodIn wsX6_canFold (wsV RX6 87 RX6 yX6_fits wsX6_fits) := goodIn_app (goodIn_of _ (by decide +kernel)) ggX6_canFold_X6_fits
theorem dX6_canFold_0 : decode cX6_canFold 0 = .ok (.aload_n 0, 1) := by decide +kernel
theorem dX6_canFold_1 : decode cX6_canFold 1 = .ok (.iload_n 1, 1) := by decide +kernel
theorem dX6_canFold_2 : decode cX6_canFold 2 = .ok (.invokevirtual 81, 3) := by decide +kernel
theorem dX6_canFold_5 : decode cX6_canFold 5 = .ok (.ifCond .eq 11, 3) := by decide +kernel
theorem dX6_canFold_8 : decode cX6_canFold 8 = .ok (.aload_n 0, 1) := by decide +kernel
theorem dX6_canFold_9 : decode cX6_canFold 9 = .ok (.iload_n 2, 1) := by decide +kernel
theorem dX6_canFold_10 : decode cX6_canFold 10 = .ok (.invokevirtual 81, 3) := by decide +kernel
theorem dX6_canFold_13 : decode cX6_canFold 13 = .ok (.ifCond .ne 10, 3) := by decide +kernel
theorem dX6_canFold_16 : decode cX6_canFold 16 = .ok (.aload_n 0, 1) := by decide +kernel
theorem dX6_canFold_17 : decode cX6_canFold 17 = .ok (.bipush (-2), 2) := by decide +kernel
theorem dX6_canFold_19 : decode cX6_canFold 19 = .ok (.invokevirtual 42, 3) := by decide +kernel
theorem dX6_canFold_22 : decode cX6_canFold 22 = .ok (.ireturn, 1) := by decide +kernel
theorem dX6_canFold_23 : decode cX6_canFold 23 = .ok (.aload_n 0, 1) := by decide +kernel
theorem dX6_canFold_24 : decode cX6_canFold 24 = .ok (.invokevirtual 84, 3) := by decide +kernel
theorem dX6_canFold_27 : decode cX6_canFold 27 = .ok (.aload_n 0, 1) := by decide +kernel
theorem dX6_canFold_28 : decode cX6_canFold 28 = .ok (.iload_n 1, 1) := by decide +kernel
theorem dX6_canFold_29 : decode cX6_canFold 29 = .ok (.iload_n 2, 1) := by decide +kernel
theorem dX6_canFold_30 : decode cX6_canFold 30 = .ok (.invokevirtual 87, 3) := by decide +kernel
theorem dX6_canFold_33 : decode cX6_canFold 33 = .ok (.ifCond .eq 7, 3) := by decide +kernel
theorem dX6_canFold_36 : decode cX6_canFold 36 = .ok (.iconst 1, 1) := by decide +kernel
theorem dX6_canFold_37 : decode cX6_canFold 37 = .ok (.goto 4, 3) := by decide +kernel
theorem dX6_canFold_40 : decode cX6_canFold 40 = .ok (.iconst 0, 1) := by decide +kernel
theorem dX6_canFold_41 : decode cX6_canFold 41 = .ok (.ireturn, 1) := by decide +kernel
theorem dX6_noDemands_0 : decode cX6_noDemands 0 = .ok (.iconst 0, 1) := by decide +kernel
theorem dX6_noDemands_1 : decode cX6_noDemands 1 = .ok (.istore_n 1, 1) := by decide +kernel
theorem dX6_noDemands_2 : decode cX6_noDemands 2 = .ok (.iload_n 1, 1) := by decide +kernel
theorem dX6_noDemands_3 : decode cX6_noDemands 3 = .ok (.bipush 10, 2) := by decide +kernel
theorem dX6_noDemands_5 : decode cX6_noDemands 5 = .ok (.if_icmp .ge 16, 3) := by decide +kernel
theorem dX6_noDemands_8 : decode cX6_noDemands 8 = .ok (.aload_n 0, 1) := by decide +kernel
theorem dX6_noDemands_9 : decode cX6_noDemands 9 = .ok (.getfield 22, 3) := by decide +kernel
theorem dX6_noDemands_12 : decode cX6_noDemands 12 = .ok (.iload_n 1, 1) := by decide +kernel
theorem dX6_noDemands_13 : decode cX6_noDemands 13 = .ok (.iconst 0, 1) := by decide +kernel
theorem dX6_noDemands_14 : decode cX6_noDemands 14 = .ok (.iastore, 1) := by decide +kernel
theorem dX6_noDemands_15 : decode cX6_noDemands 15 = .ok (.iinc 1 1, 3) := by decide +kernel
theorem dX6_noDemands_18 : decode cX6_noDemands 18 = .ok (.goto (-16), 3) := by decide +kernel
theorem dX6_noDemands_21 : decode cX6_noDemands 21 = .ok (.return_, 1) := by decide +kernel
set_option maxRecDepth 20000 in
theorem ggX6_demand_X6_has : GoodIn wsX6_demand wsX6_has := goodIn_r _ [6] (by decide +kernel) (by decide +kernel)
set_option maxRecDepth 20000 in
theorem gX6_demand_X6_has : GoodIn wsX6_demand (va_wsS RX6 72 yX6_has wsX6_has) := goodIn_app (goodIn_of _ (by decide +kernel)) ggX6_demand_X6_has
theorem dX6_demand_0 : decode cX6_demand 0 = .ok (.iconst 0, 1) := by decide +kernel
theorem dX6_demand_1 : decode cX6_demand 1 = .ok (.istore_n 3, 1) := by decide +kernel
theorem dX6_demand_2 : decode cX6_demand 2 = .ok (.iload_n 3, 1) := by decide +kernel
theorem dX6_demand_3 : decode cX6_demand 3 = .ok (.bipush 10, 2) := by decide +kernel
theorem dX6_demand_5 : decode cX6_demand 5 = .ok (.if_icmp .ge 41, 3) := by decide +kernel
theorem dX6_demand_8 : decode cX6_demand 8 = .ok (.aload_n 0, 1) := by decide +kernel
theorem dX6_demand_9 : decode cX6_demand 9 = .ok (.getfield 22, 3) := by decide +kernel
theorem dX6_demand_12 : decode cX6_demand 12 = .ok (.iload_n 3, 1) := by decide +kernel
theorem dX6_demand_13 : decode cX6_demand 13 = .ok (.dup2, 1) := by decide +kernel
theorem dX6_demand_14 : decode cX6_demand 14 = .ok (.iaload, 1) := by decide +kernel
theorem dX6_demand_15 : decode cX6_demand 15 = .ok (.aload_n 0, 1) := by decide +kernel
theorem dX6_demand_16 : decode cX6_demand 16 = .ok (.getfield 19, 3) := by decide +kernel
theorem dX6_demand_19 : decode cX6_demand 19 = .ok (.iload_n 1, 1) := by decide +kernel
theorem dX6_demand_20 : decode cX6_demand 20 = .ok (.iaload, 1) := by decide +kernel
theorem dX6_demand_21 : decode cX6_demand 21 = .ok (.iload_n 3, 1) := by decide +kernel
theorem dX6_demand_22 : decode cX6_demand 22 = .ok (.invokestatic 72, 3) := by decide +kernel
theorem dX6_demand_25 : decode cX6_demand 25 = .ok (.ifCond .eq 12, 3) := by decide +kernel
theorem dX6_demand_28 : decode cX6_demand 28 = .ok (.aload_n 0, 1) := by decide +kernel
theorem dX6_demand_29 : decode cX6_demand 29 = .ok (.getfield 19, 3) := by decide +kernel
theorem dX6_demand_32 : decode cX6_demand 32 = .ok (.iload_n 2, 1) := by decide +kernel
theorem dX6_demand_33 : decode cX6_demand 33 = .ok (.iaload, 1) := by decide +kernel
theorem dX6_demand_34 : decode cX6_demand 34 = .ok (.goto 4, 3) := by decide +kernel
theorem dX6_demand_37 : decode cX6_demand 37 = .ok (.iconst 0, 1) := by decide +kernel
theorem dX6_demand_38 : decode cX6_demand 38 = .ok (.ior, 1) := by decide +kernel
theorem dX6_demand_39 : decode cX6_demand 39 = .ok (.iastore, 1) := by decide +kernel
theorem dX6_demand_40 : decode cX6_demand 40 = .ok (.iinc 3 1, 3) := by decide +kernel
theorem dX6_demand_43 : decode cX6_demand 43 = .ok (.goto (-41), 3) := by decide +kernel
theorem dX6_demand_46 : decode cX6_demand 46 = .ok (.return_, 1) := by decide +kernel
set_option maxRecDepth 20000 in
theorem ggX6_layDemands_X6_layUsed : GoodIn wsX6_layDemands wsX6_layUsed := goodIn_r _ [6, 7, 8, 9, 10, 5, 11, 1, 12, 13, 14, 24, 25, 26, 27, 28, 29, 30, 31, 32, 33] (by decide +kernel) (by decide +kernel)
set_option maxRecDepth 20000 in
theorem gX6_layDemands_X6_layUsed : GoodIn wsX6_layDemands (wsV RX6 84 RX6 yX6_layUsed wsX6_layUsed) := goodIn_app (goodIn_of _ (by decide +kernel)) ggX6_layDemands_X6_layUsed
set_option maxRecDepth 20000 in
theorem ggX6_layDemands_X6_noDemands : GoodIn wsX6_layDemands wsX6_noDemands := goodIn_r _ [18, 19, 24, 25, 26, 27, 28, 29, 30, 31, 32, 33] (by decide +kernel) (by decide +kernel)
set_option maxRecDepth 20000 in
theorem gX6_layDemands_X6_noDemands : GoodIn wsX6_layDemands (wsV RX6 90 RX6 yX6_noDemands wsX6_noDemands) := goodIn_app (goodIn_of _ (by decide +kernel)) ggX6_layDemands_X6_noDemands
set_option maxRecDepth 20000 in
theorem ggX6_layDemands_X6_demand : GoodIn wsX6_layDemands wsX6_demand := goodIn_r _ [23, 19, 7, 12, 13, 5, 14, 24, 25, 26, 27, 28, 29, 30, 31, 32, 33] (by decide +kernel) (by decide +kernel)
set_option maxRecDepth 20000 in
theorem gX6_layDemands_X6_demand : GoodIn wsX6_layDemands (wsV RX6 93 RX6 yX6_demand wsX6_demand) := goodIn_app (goodIn_of _ (by decide +kernel)) ggX6_layDemands_X6_demand
theorem dX6_layDemands_0 : decode cX6_layDemands 0 = .ok (.aload_n 0, 1) := by decide +kernel
theorem dX6_layDemands_1 : decode cX6_layDemands 1 = .ok (.invokevirtual 84, 3) := by decide +kernel
theorem dX6_layDemands_4 : decode cX6_layDemands 4 = .ok (.aload_n 0, 1) := by decide +kernel
theorem dX6_layDemands_5 : decode cX6_layDemands 5 = .ok (.invokevirtual 90, 3) := by decide +kernel
theorem dX6_layDemands_8 : decode cX6_layDemands 8 = .ok (.iconst 0, 1) := by decide +kernel
theorem dX6_layDemands_9 : decode cX6_layDemands 9 = .ok (.istore_n 1, 1) := by decide +kernel
theorem dX6_layDemands_10 : decode cX6_layDemands 10 = .ok (.iload_n 1, 1) := by decide +kernel
theorem dX6_layDemands_11 : decode cX6_layDemands 11 = .ok (.bipush 10, 2) := by decide +kernel
theorem dX6_layDemands_13 : decode cX6_layDemands 13 = .ok (.if_icmp .ge 36, 3) := by decide +kernel
theorem dX6_layDemands_16 : decode cX6_layDemands 16 = .ok (.aload_n 0, 1) := by decide +kernel
theorem dX6_layDemands_17 : decode cX6_layDemands 17 = .ok (.getfield 7, 3) := by decide +kernel
theorem dX6_layDemands_20 : decode cX6_layDemands 20 = .ok (.bipush 43, 2) := by decide +kernel
theorem dX6_layDemands_22 : decode cX6_layDemands 22 = .ok (.iload_n 1, 1) := by decide +kernel
theorem dX6_layDemands_23 : decode cX6_layDemands 23 = .ok (.iadd, 1) := by decide +kernel
theorem dX6_layDemands_24 : decode cX6_layDemands 24 = .ok (.iaload, 1) := by decide +kernel
theorem dX6_layDemands_25 : decode cX6_layDemands 25 = .ok (.iconst (-1), 1) := by decide +kernel
theorem dX6_layDemands_26 : decode cX6_layDemands 26 = .ok (.if_icmp .eq 17, 3) := by decide +kernel
theorem dX6_layDemands_29 : decode cX6_layDemands 29 = .ok (.aload_n 0, 1) := by decide +kernel
theorem dX6_layDemands_30 : decode cX6_layDemands 30 = .ok (.iload_n 1, 1) := by decide +kernel
theorem dX6_layDemands_31 : decode cX6_layDemands 31 = .ok (.aload_n 0, 1) := by decide +kernel
theorem dX6_layDemands_32 : decode cX6_layDemands 32 = .ok (.getfield 7, 3) := by decide +kernel
theorem dX6_layDemands_35 : decode cX6_layDemands 35 = .ok (.bipush 43, 2) := by decide +kernel
theorem dX6_layDemands_37 : decode cX6_layDemands 37 = .ok (.iload_n 1, 1) := by decide +kernel
theorem dX6_layDemands_38 : decode cX6_layDemands 38 = .ok (.iadd, 1) := by decide +kernel
theorem dX6_layDemands_39 : decode cX6_layDemands 39 = .ok (.iaload, 1) := by decide +kernel
theorem dX6_layDemands_40 : decode cX6_layDemands 40 = .ok (.invokevirtual 93, 3) := by decide +kernel
theorem dX6_layDemands_43 : decode cX6_layDemands 43 = .ok (.iinc 1 1, 3) := by decide +kernel
theorem dX6_layDemands_46 : decode cX6_layDemands 46 = .ok (.goto (-36), 3) := by decide +kernel
theorem dX6_layDemands_49 : decode cX6_layDemands 49 = .ok (.return_, 1) := by decide +kernel
set_option maxRecDepth 20000 in
theorem ggX6_layRows_X6_has : GoodIn wsX6_layRows wsX6_has := goodIn_r _ [7] (by decide +kernel) (by decide +kernel)
set_option maxRecDepth 20000 in
theorem gX6_layRows_X6_has : GoodIn wsX6_layRows (va_wsS RX6 72 yX6_has wsX6_has) := goodIn_app (goodIn_of _ (by decide +kernel)) ggX6_layRows_X6_has
theorem dX6_layRows_0 : decode cX6_layRows 0 = .ok (.iconst 1, 1) := by decide +kernel
theorem dX6_layRows_1 : decode cX6_layRows 1 = .ok (.aload_n 0, 1) := by decide +kernel
theorem dX6_layRows_2 : decode cX6_layRows 2 = .ok (.getfield 7, 3) := by decide +kernel
theorem dX6_layRows_5 : decode cX6_layRows 5 = .ok (.iconst 2, 1) := by decide +kernel
theorem dX6_layRows_6 : decode cX6_layRows 6 = .ok (.iaload, 1) := by decide +kernel
theorem dX6_layRows_7 : decode cX6_layRows 7 = .ok (.ishl, 1) := by decide +kernel
theorem dX6_layRows_8 : decode cX6_layRows 8 = .ok (.iconst 1, 1) := by decide +kernel
theorem dX6_layRows_9 : decode cX6_layRows 9 = .ok (.isub, 1) := by decide +kernel
theorem dX6_layRows_10 : decode cX6_layRows 10 = .ok (.istore_n 1, 1) := by decide +kernel
theorem dX6_layRows_11 : decode cX6_layRows 11 = .ok (.iconst 0, 1) := by decide +kernel
theorem dX6_layRows_12 : decode cX6_layRows 12 = .ok (.istore_n 2, 1) := by decide +kernel
theorem dX6_layRows_13 : decode cX6_layRows 13 = .ok (.iconst 1, 1) := by decide +kernel
theorem dX6_layRows_14 : decode cX6_layRows 14 = .ok (.istore_n 3, 1) := by decide +kernel
theorem dX6_layRows_15 : decode cX6_layRows 15 = .ok (.iload_n 1, 1) := by decide +kernel
theorem dX6_layRows_16 : decode cX6_layRows 16 = .ok (.ifCond .eq 120, 3) := by decide +kernel
theorem dX6_layRows_19 : decode cX6_layRows 19 = .ok (.iload_n 3, 1) := by decide +kernel
theorem dX6_layRows_20 : decode cX6_layRows 20 = .ok (.ifCond .eq 116, 3) := by decide +kernel
theorem dX6_layRows_23 : decode cX6_layRows 23 = .ok (.iconst 0, 1) := by decide +kernel
theorem dX6_layRows_24 : decode cX6_layRows 24 = .ok (.istore 4, 2) := by decide +kernel
theorem dX6_layRows_26 : decode cX6_layRows 26 = .ok (.iconst 0, 1) := by decide +kernel
theorem dX6_layRows_27 : decode cX6_layRows 27 = .ok (.istore 5, 2) := by decide +kernel
theorem dX6_layRows_29 : decode cX6_layRows 29 = .ok (.iload 5, 2) := by decide +kernel
theorem dX6_layRows_31 : decode cX6_layRows 31 = .ok (.aload_n 0, 1) := by decide +kernel
theorem dX6_layRows_32 : decode cX6_layRows 32 = .ok (.getfield 7, 3) := by decide +kernel
theorem dX6_layRows_35 : decode cX6_layRows 35 = .ok (.iconst 2, 1) := by decide +kernel
theorem dX6_layRows_36 : decode cX6_layRows 36 = .ok (.iaload, 1) := by decide +kernel
theorem dX6_layRows_37 : decode cX6_layRows 37 = .ok (.if_icmp .ge 34, 3) := by decide +kernel
theorem dX6_layRows_40 : decode cX6_layRows 40 = .ok (.iload 4, 2) := by decide +kernel
theorem dX6_layRows_42 : decode cX6_layRows 42 = .ok (.iload_n 1, 1) := by decide +kernel
theorem dX6_layRows_43 : decode cX6_layRows 43 = .ok (.iload 5, 2) := by decide +kernel
theorem dX6_layRows_45 : decode cX6_layRows 45 = .ok (.invokestatic 72, 3) := by decide +kernel
theorem dX6_layRows_48 : decode cX6_layRows 48 = .ok (.ifCond .eq 13, 3) := by decide +kernel
theorem dX6_layRows_51 : decode cX6_layRows 51 = .ok (.aload_n 0, 1) := by decide +kernel
theorem dX6_layRows_52 : decode cX6_layRows 52 = .ok (.getfield 22, 3) := by decide +kernel
theorem dX6_layRows_55 : decode cX6_layRows 55 = .ok (.iload 5, 2) := by decide +kernel
theorem dX6_layRows_57 : decode cX6_layRows 57 = .ok (.iaload, 1) := by decide +kernel
theorem dX6_layRows_58 : decode cX6_layRows 58 = .ok (.goto 4, 3) := by decide +kernel
theorem dX6_layRows_61 : decode cX6_layRows 61 = .ok (.iconst 0, 1) := by decide +kernel
theorem dX6_layRows_62 : decode cX6_layRows 62 = .ok (.ior, 1) := by decide +kernel
theorem dX6_layRows_63 : decode cX6_layRows 63 = .ok (.istore 4, 2) := by decide +kernel
theorem dX6_layRows_65 : decode cX6_layRows 65 = .ok (.iinc 5 1, 3) := by decide +kernel
theorem dX6_layRows_68 : decode cX6_layRows 68 = .ok (.goto (-39), 3) := by decide +kernel
theorem dX6_layRows_71 : decode cX6_layRows 71 = .ok (.iload_n 1, 1) := by decide +kernel
theorem dX6_layRows_72 : decode cX6_layRows 72 = .ok (.iload 4, 2) := by decide +kernel
theorem dX6_layRows_74 : decode cX6_layRows 74 = .ok (.iconst (-1), 1) := by decide +kernel
theorem dX6_layRows_75 : decode cX6_layRows 75 = .ok (.ixor, 1) := by decide +kernel
theorem dX6_layRows_76 : decode cX6_layRows 76 = .ok (.iand, 1) := by decide +kernel
theorem dX6_layRows_77 : decode cX6_layRows 77 = .ok (.istore 5, 2) := by decide +kernel
theorem dX6_layRows_79 : decode cX6_layRows 79 = .ok (.iload 5, 2) := by decide +kernel
theorem dX6_layRows_81 : decode cX6_layRows 81 = .ok (.ifCond .eq 7, 3) := by decide +kernel
theorem dX6_layRows_84 : decode cX6_layRows 84 = .ok (.iconst 1, 1) := by decide +kernel
theorem dX6_layRows_85 : decode cX6_layRows 85 = .ok (.goto 4, 3) := by decide +kernel
theorem dX6_layRows_88 : decode cX6_layRows 88 = .ok (.iconst 0, 1) := by decide +kernel
theorem dX6_layRows_89 : decode cX6_layRows 89 = .ok (.istore_n 3, 1) := by decide +kernel
theorem dX6_layRows_90 : decode cX6_layRows 90 = .ok (.iload_n 3, 1) := by decide +kernel
theorem dX6_layRows_91 : decode cX6_layRows 91 = .ok (.ifCond .eq 42, 3) := by decide +kernel
theorem dX6_layRows_94 : decode cX6_layRows 94 = .ok (.iconst 0, 1) := by decide +kernel
theorem dX6_layRows_95 : decode cX6_layRows 95 = .ok (.istore 6, 2) := by decide +kernel
theorem dX6_layRows_97 : decode cX6_layRows 97 = .ok (.iload 5, 2) := by decide +kernel
theorem dX6_layRows_99 : decode cX6_layRows 99 = .ok (.iload 6, 2) := by decide +kernel
theorem dX6_layRows_101 : decode cX6_layRows 101 = .ok (.invokestatic 72, 3) := by decide +kernel
theorem dX6_layRows_104 : decode cX6_layRows 104 = .ok (.ifCond .ne 9, 3) := by decide +kernel
theorem dX6_layRows_107 : decode cX6_layRows 107 = .ok (.iinc 6 1, 3) := by decide +kernel
theorem dX6_layRows_110 : decode cX6_layRows 110 = .ok (.goto (-13), 3) := by decide +kernel
theorem dX6_layRows_113 : decode cX6_layRows 113 = .ok (.aload_n 0, 1) := by decide +kernel
theorem dX6_layRows_114 : decode cX6_layRows 114 = .ok (.getfield 25, 3) := by decide +kernel
theorem dX6_layRows_117 : decode cX6_layRows 117 = .ok (.iload_n 2, 1) := by decide +kernel
theorem dX6_layRows_118 : decode cX6_layRows 118 = .ok (.iload 6, 2) := by decide +kernel
theorem dX6_layRows_120 : decode cX6_layRows 120 = .ok (.iastore, 1) := by decide +kernel
theorem dX6_layRows_121 : decode cX6_layRows 121 = .ok (.iinc 2 1, 3) := by decide +kernel
theorem dX6_layRows_124 : decode cX6_layRows 124 = .ok (.iload_n 1, 1) := by decide +kernel
theorem dX6_layRows_125 : decode cX6_layRows 125 = .ok (.iconst 1, 1) := by decide +kernel
theorem dX6_layRows_126 : decode cX6_layRows 126 = .ok (.iload 6, 2) := by decide +kernel
theorem dX6_layRows_128 : decode cX6_layRows 128 = .ok (.ishl, 1) := by decide +kernel
theorem dX6_layRows_129 : decode cX6_layRows 129 = .ok (.iconst (-1), 1) := by decide +kernel
theorem dX6_layRows_130 : decode cX6_layRows 130 = .ok (.ixor, 1) := by decide +kernel
theorem dX6_layRows_131 : decode cX6_layRows 131 = .ok (.iand, 1) := by decide +kernel
theorem dX6_layRows_132 : decode cX6_layRows 132 = .ok (.istore_n 1, 1) := by decide +kernel
theorem dX6_layRows_133 : decode cX6_layRows 133 = .ok (.goto (-118), 3) := by decide +kernel
theorem dX6_layRows_136 : decode cX6_layRows 136 = .ok (.iload_n 3, 1) := by decide +kernel
theorem dX6_layRows_137 : decode cX6_layRows 137 = .ok (.ireturn, 1) := by decide +kernel
theorem dX6_isFolded_0 : decode cX6_isFolded 0 = .ok (.aload_n 0, 1) := by decide +kernel
theorem dX6_isFolded_1 : decode cX6_isFolded 1 = .ok (.getfield 7, 3) := by decide +kernel
theorem dX6_isFolded_4 : decode cX6_isFolded 4 = .ok (.bipush 33, 2) := by decide +kernel
theorem dX6_isFolded_6 : decode cX6_isFolded 6 = .ok (.iload_n 1, 1) := by decide +kernel
theorem dX6_isFolded_7 : decode cX6_isFolded 7 = .ok (.iadd, 1) := by decide +kernel
theorem dX6_isFolded_8 : decode cX6_isFolded 8 = .ok (.iaload, 1) := by decide +kernel
theorem dX6_isFolded_9 : decode cX6_isFolded 9 = .ok (.iconst (-1), 1) := by decide +kernel
theorem dX6_isFolded_10 : decode cX6_isFolded 10 = .ok (.if_icmp .ne 16, 3) := by decide +kernel
theorem dX6_isFolded_13 : decode cX6_isFolded 13 = .ok (.aload_n 0, 1) := by decide +kernel
theorem dX6_isFolded_14 : decode cX6_isFolded 14 = .ok (.getfield 7, 3) := by decide +kernel
theorem dX6_isFolded_17 : decode cX6_isFolded 17 = .ok (.bipush 43, 2) := by decide +kernel
theorem dX6_isFolded_19 : decode cX6_isFolded 19 = .ok (.iload_n 1, 1) := by decide +kernel
theorem dX6_isFolded_20 : decode cX6_isFolded 20 = .ok (.iadd, 1) := by decide +kernel
theorem dX6_isFolded_21 : decode cX6_isFolded 21 = .ok (.iaload, 1) := by decide +kernel
theorem dX6_isFolded_22 : decode cX6_isFolded 22 = .ok (.iconst (-1), 1) := by decide +kernel
theorem dX6_isFolded_23 : decode cX6_isFolded 23 = .ok (.if_icmp .eq 7, 3) := by decide +kernel
theorem dX6_isFolded_26 : decode cX6_isFolded 26 = .ok (.iconst 1, 1) := by decide +kernel
theorem dX6_isFolded_27 : decode cX6_isFolded 27 = .ok (.goto 4, 3) := by decide +kernel
theorem dX6_isFolded_30 : decode cX6_isFolded 30 = .ok (.iconst 0, 1) := by decide +kernel
theorem dX6_isFolded_31 : decode cX6_isFolded 31 = .ok (.ireturn, 1) := by decide +kernel
theorem dX6_foldMany_0 : decode cX6_foldMany 0 = .ok (.iconst 0, 1) := by decide +kernel
theorem dX6_foldMany_1 : decode cX6_foldMany 1 = .ok (.istore_n 1, 1) := by decide +kernel
theorem dX6_foldMany_2 : decode cX6_foldMany 2 = .ok (.iconst 0, 1) := by decide +kernel
theorem dX6_foldMany_3 : decode cX6_foldMany 3 = .ok (.istore_n 2, 1) := by decide +kernel
theorem dX6_foldMany_4 : decode cX6_foldMany 4 = .ok (.iload_n 2, 1) := by decide +kernel
theorem dX6_foldMany_5 : decode cX6_foldMany 5 = .ok (.bipush 10, 2) := by decide +kernel
theorem dX6_foldMany_7 : decode cX6_foldMany 7 = .ok (.if_icmp .ge 30, 3) := by decide +kernel
theorem dX6_foldMany_10 : decode cX6_foldMany 10 = .ok (.iload_n 1, 1) := by decide +kernel
theorem dX6_foldMany_11 : decode cX6_foldMany 11 = .ok (.aload_n 0, 1) := by decide +kernel
theorem dX6_foldMany_12 : decode cX6_foldMany 12 = .ok (.getfield 7, 3) := by decide +kernel
theorem dX6_foldMany_15 : decode cX6_foldMany 15 = .ok (.bipush 43, 2) := by decide +kernel
theorem dX6_foldMany_17 : decode cX6_foldMany 17 = .ok (.iload_n 2, 1) := by decide +kernel
theorem dX6_foldMany_18 : decode cX6_foldMany 18 = .ok (.iadd, 1) := by decide +kernel
theorem dX6_foldMany_19 : decode cX6_foldMany 19 = .ok (.iaload, 1) := by decide +kernel
theorem dX6_foldMany_20 : decode cX6_foldMany 20 = .ok (.iconst (-1), 1) := by decide +kernel
theorem dX6_foldMany_21 : decode cX6_foldMany 21 = .ok (.if_icmp .eq 7, 3) := by decide +kernel
theorem dX6_foldMany_24 : decode cX6_foldMany 24 = .ok (.iconst 1, 1) := by decide +kernel
theorem dX6_foldMany_25 : decode cX6_foldMany 25 = .ok (.goto 4, 3) := by decide +kernel
theorem dX6_foldMany_28 : decode cX6_foldMany 28 = .ok (.iconst 0, 1) := by decide +kernel
theorem dX6_foldMany_29 : decode cX6_foldMany 29 = .ok (.iadd, 1) := by decide +kernel
theorem dX6_foldMany_30 : decode cX6_foldMany 30 = .ok (.istore_n 1, 1) := by decide +kernel
theorem dX6_foldMany_31 : decode cX6_foldMany 31 = .ok (.iinc 2 1, 3) := by decide +kernel
theorem dX6_foldMany_34 : decode cX6_foldMany 34 = .ok (.goto (-30), 3) := by decide +kernel
theorem dX6_foldMany_37 : decode cX6_foldMany 37 = .ok (.iload_n 1, 1) := by decide +kernel
theorem dX6_foldMany_38 : decode cX6_foldMany 38 = .ok (.ireturn, 1) := by decide +kernel
set_option maxRecDepth 20000 in
theorem ggX6_fold_X6_isColumn : GoodIn wsX6_fold wsX6_isColumn := goodIn_r _ [6, 1, 7, 8, 5, 9, 63, 64, 65, 66, 67, 68, 69, 70, 71, 72] (by decide +kernel) (by decide +kernel)
set_option maxRecDepth 20000 in
theorem gX6_fold_X6_isColumn : GoodIn wsX6_fold (wsV RX6 81 RX6 yX6_isColumn wsX6_isColumn) := goodIn_app (goodIn_of _ (by decide +kernel)) ggX6_fold_X6_isColumn
set_option maxRecDepth 20000 in
theorem ggX6_fold_X6_error : GoodIn wsX6_fold wsX6_error := goodIn_r _ [13, 14, 63, 64, 65, 66, 67, 68, 69, 70, 71, 72] (by decide +kernel) (by decide +kernel)
set_option maxRecDepth 20000 in
theorem gX6_fold_X6_error : GoodIn wsX6_fold (wsV RX6 42 RX6 yX6_error wsX6_error) := goodIn_app (goodIn_of _ (by decide +kernel)) ggX6_fold_X6_error
set_option maxRecDepth 20000 in
theorem ggX6_fold_X6_layDemands : GoodIn wsX6_fold wsX6_layDemands := goodIn_r _ [18, 1, 19, 20, 21, 5, 22, 23, 24, 25, 26, 27, 28, 29, 30, 31, 32, 33, 34, 35, 36, 37, 38, 39, 63, 64, 65, 66, 67, 68, 69, 70, 71, 72] (by decide +kernel) (by decide +kernel)
set_option maxRecDepth 20000 in
theorem gX6_fold_X6_layDemands : GoodIn wsX6_fold (wsV RX6 97 RX6 yX6_layDemands wsX6_layDemands) := goodIn_app (goodIn_of _ (by decide +kernel)) ggX6_fold_X6_layDemands
set_option maxRecDepth 20000 in
theorem ggX6_fold_X6_fits : GoodIn wsX6_fold wsX6_fits := goodIn_r _ [43, 23, 2, 3, 4, 5, 6, 1, 7, 8, 9, 63, 64, 65, 66, 67, 68, 69, 70, 71, 72] (by decide +kernel) (by decide +kernel)
set_option maxRecDepth 20000 in
theorem gX6_fold_X6_fits : GoodIn wsX6_fold (wsV RX6 87 RX6 yX6_fits wsX6_fits) := goodIn_app (goodIn_of _ (by decide +kernel)) ggX6_fold_X6_fits
set_option maxRecDepth 20000 in
theorem ggX6_fold_X6_isFolded : GoodIn wsX6_fold wsX6_isFolded := goodIn_r _ [47, 1, 63, 64, 65, 66, 67, 68, 69, 70, 71, 72] (by decide +kernel) (by decide +kernel)
set_option maxRecDepth 20000 in
theorem gX6_fold_X6_isFolded : GoodIn wsX6_fold (wsV RX6 100 RX6 yX6_isFolded wsX6_isFolded) := goodIn_app (goodIn_of _ (by decide +kernel)) ggX6_fold_X6_isFolded
set_option maxRecDepth 20000 in
theorem ggX6_fold_X6_demand : GoodIn wsX6_fold wsX6_demand := goodIn_r _ [39, 35, 23, 28, 29, 5, 30, 63, 64, 65, 66, 67, 68, 69, 70, 71, 72] (by decide +kernel) (by decide +kernel)
set_option maxRecDepth 20000 in
theorem gX6_fold_X6_demand : GoodIn wsX6_fold (wsV RX6 93 RX6 yX6_demand wsX6_demand) := goodIn_app (goodIn_of _ (by decide +kernel)) ggX6_fold_X6_demand
set_option maxRecDepth 20000 in
theorem ggX6_fold_X6_layRows : GoodIn wsX6_fold wsX6_layRows := goodIn_r _ [51, 1, 35, 52, 28, 29, 5, 30, 63, 64, 65, 66, 67, 68, 69, 70, 71, 72] (by decide +kernel) (by decide +kernel)
set_option maxRecDepth 20000 in
theorem gX6_fold_X6_layRows : GoodIn wsX6_fold (wsV RX6 103 RX6 yX6_layRows wsX6_layRows) := goodIn_app (goodIn_of _ (by decide +kernel)) ggX6_fold_X6_layRows
set_option maxRecDepth 20000 in
theorem ggX6_fold_X6_save : GoodIn wsX6_fold wsX6_save := goodIn_r _ [56, 57, 58, 1, 63, 64, 65, 66, 67, 68, 69, 70, 71, 72] (by decide +kernel) (by decide +kernel)
set_option maxRecDepth 20000 in
theorem gX6_fold_X6_save : GoodIn wsX6_fold (wsV RX6 46 RX6 yX6_save wsX6_save) := goodIn_app (goodIn_of _ (by decide +kernel)) ggX6_fold_X6_save
set_option maxRecDepth 20000 in
theorem ggX6_fold_X6_foldMany : GoodIn wsX6_fold wsX6_foldMany := goodIn_r _ [62, 1, 63, 64, 65, 66, 67, 68, 69, 70, 71, 72] (by decide +kernel) (by decide +kernel)
set_option maxRecDepth 20000 in
theorem gX6_fold_X6_foldMany : GoodIn wsX6_fold (wsV RX6 107 RX6 yX6_foldMany wsX6_foldMany) := goodIn_app (goodIn_of _ (by decide +kernel)) ggX6_fold_X6_foldMany
theorem dX6_fold_0 : decode cX6_fold 0 = .ok (.aload_n 0, 1) := by decide +kernel
theorem dX6_fold_1 : decode cX6_fold 1 = .ok (.iload_n 1, 1) := by decide +kernel
theorem dX6_fold_2 : decode cX6_fold 2 = .ok (.invokevirtual 81, 3) := by decide +kernel
theorem dX6_fold_5 : decode cX6_fold 5 = .ok (.ifCond .eq 11, 3) := by decide +kernel
theorem dX6_fold_8 : decode cX6_fold 8 = .ok (.aload_n 0, 1) := by decide +kernel
theorem dX6_fold_9 : decode cX6_fold 9 = .ok (.iload_n 2, 1) := by decide +kernel
theorem dX6_fold_10 : decode cX6_fold 10 = .ok (.invokevirtual 81, 3) := by decide +kernel
theorem dX6_fold_13 : decode cX6_fold 13 = .ok (.ifCond .ne 10, 3) := by decide +kernel
theorem dX6_fold_16 : decode cX6_fold 16 = .ok (.aload_n 0, 1) := by decide +kernel
theorem dX6_fold_17 : decode cX6_fold 17 = .ok (.bipush (-2), 2) := by decide +kernel
theorem dX6_fold_19 : decode cX6_fold 19 = .ok (.invokevirtual 42, 3) := by decide +kernel
theorem dX6_fold_22 : decode cX6_fold 22 = .ok (.ireturn, 1) := by decide +kernel
theorem dX6_fold_23 : decode cX6_fold 23 = .ok (.aload_n 0, 1) := by decide +kernel
theorem dX6_fold_24 : decode cX6_fold 24 = .ok (.invokevirtual 97, 3) := by decide +kernel
theorem dX6_fold_27 : decode cX6_fold 27 = .ok (.aload_n 0, 1) := by decide +kernel
theorem dX6_fold_28 : decode cX6_fold 28 = .ok (.iload_n 1, 1) := by decide +kernel
theorem dX6_fold_29 : decode cX6_fold 29 = .ok (.iload_n 2, 1) := by decide +kernel
theorem dX6_fold_30 : decode cX6_fold 30 = .ok (.invokevirtual 87, 3) := by decide +kernel
theorem dX6_fold_33 : decode cX6_fold 33 = .ok (.ifCond .eq 19, 3) := by decide +kernel
theorem dX6_fold_36 : decode cX6_fold 36 = .ok (.aload_n 0, 1) := by decide +kernel
theorem dX6_fold_37 : decode cX6_fold 37 = .ok (.iload_n 1, 1) := by decide +kernel
theorem dX6_fold_38 : decode cX6_fold 38 = .ok (.invokevirtual 100, 3) := by decide +kernel
theorem dX6_fold_41 : decode cX6_fold 41 = .ok (.ifCond .ne 11, 3) := by decide +kernel
theorem dX6_fold_44 : decode cX6_fold 44 = .ok (.aload_n 0, 1) := by decide +kernel
theorem dX6_fold_45 : decode cX6_fold 45 = .ok (.iload_n 2, 1) := by decide +kernel
theorem dX6_fold_46 : decode cX6_fold 46 = .ok (.invokevirtual 100, 3) := by decide +kernel
theorem dX6_fold_49 : decode cX6_fold 49 = .ok (.ifCond .eq 10, 3) := by decide +kernel
theorem dX6_fold_52 : decode cX6_fold 52 = .ok (.aload_n 0, 1) := by decide +kernel
theorem dX6_fold_53 : decode cX6_fold 53 = .ok (.bipush (-3), 2) := by decide +kernel
theorem dX6_fold_55 : decode cX6_fold 55 = .ok (.invokevirtual 42, 3) := by decide +kernel
theorem dX6_fold_58 : decode cX6_fold 58 = .ok (.ireturn, 1) := by decide +kernel
theorem dX6_fold_59 : decode cX6_fold 59 = .ok (.aload_n 0, 1) := by decide +kernel
theorem dX6_fold_60 : decode cX6_fold 60 = .ok (.iload_n 1, 1) := by decide +kernel
theorem dX6_fold_61 : decode cX6_fold 61 = .ok (.iload_n 2, 1) := by decide +kernel
theorem dX6_fold_62 : decode cX6_fold 62 = .ok (.invokevirtual 93, 3) := by decide +kernel
theorem dX6_fold_65 : decode cX6_fold 65 = .ok (.aload_n 0, 1) := by decide +kernel
theorem dX6_fold_66 : decode cX6_fold 66 = .ok (.invokevirtual 103, 3) := by decide +kernel
theorem dX6_fold_69 : decode cX6_fold 69 = .ok (.ifCond .ne 10, 3) := by decide +kernel
theorem dX6_fold_72 : decode cX6_fold 72 = .ok (.aload_n 0, 1) := by decide +kernel
theorem dX6_fold_73 : decode cX6_fold 73 = .ok (.bipush (-4), 2) := by decide +kernel
theorem dX6_fold_75 : decode cX6_fold 75 = .ok (.invokevirtual 42, 3) := by decide +kernel
theorem dX6_fold_78 : decode cX6_fold 78 = .ok (.ireturn, 1) := by decide +kernel
theorem dX6_fold_79 : decode cX6_fold 79 = .ok (.aload_n 0, 1) := by decide +kernel
theorem dX6_fold_80 : decode cX6_fold 80 = .ok (.invokevirtual 46, 3) := by decide +kernel
theorem dX6_fold_83 : decode cX6_fold 83 = .ok (.aload_n 0, 1) := by decide +kernel
theorem dX6_fold_84 : decode cX6_fold 84 = .ok (.getfield 7, 3) := by decide +kernel
theorem dX6_fold_87 : decode cX6_fold 87 = .ok (.bipush 43, 2) := by decide +kernel
theorem dX6_fold_89 : decode cX6_fold 89 = .ok (.iload_n 1, 1) := by decide +kernel
theorem dX6_fold_90 : decode cX6_fold 90 = .ok (.iadd, 1) := by decide +kernel
theorem dX6_fold_91 : decode cX6_fold 91 = .ok (.iload_n 2, 1) := by decide +kernel
theorem dX6_fold_92 : decode cX6_fold 92 = .ok (.iastore, 1) := by decide +kernel
theorem dX6_fold_93 : decode cX6_fold 93 = .ok (.aload_n 0, 1) := by decide +kernel
theorem dX6_fold_94 : decode cX6_fold 94 = .ok (.getfield 7, 3) := by decide +kernel
theorem dX6_fold_97 : decode cX6_fold 97 = .ok (.bipush 33, 2) := by decide +kernel
theorem dX6_fold_99 : decode cX6_fold 99 = .ok (.iload_n 2, 1) := by decide +kernel
theorem dX6_fold_100 : decode cX6_fold 100 = .ok (.iadd, 1) := by decide +kernel
theorem dX6_fold_101 : decode cX6_fold 101 = .ok (.iload_n 1, 1) := by decide +kernel
theorem dX6_fold_102 : decode cX6_fold 102 = .ok (.iastore, 1) := by decide +kernel
theorem dX6_fold_103 : decode cX6_fold 103 = .ok (.aload_n 0, 1) := by decide +kernel
theorem dX6_fold_104 : decode cX6_fold 104 = .ok (.invokevirtual 107, 3) := by decide +kernel
theorem dX6_fold_107 : decode cX6_fold 107 = .ok (.ireturn, 1) := by decide +kernel
theorem dX6_partnerOf_0 : decode cX6_partnerOf 0 = .ok (.aload_n 0, 1) := by decide +kernel
theorem dX6_partnerOf_1 : decode cX6_partnerOf 1 = .ok (.getfield 7, 3) := by decide +kernel
theorem dX6_partnerOf_4 : decode cX6_partnerOf 4 = .ok (.bipush 43, 2) := by decide +kernel
theorem dX6_partnerOf_6 : decode cX6_partnerOf 6 = .ok (.iload_n 1, 1) := by decide +kernel
theorem dX6_partnerOf_7 : decode cX6_partnerOf 7 = .ok (.iadd, 1) := by decide +kernel
theorem dX6_partnerOf_8 : decode cX6_partnerOf 8 = .ok (.iaload, 1) := by decide +kernel
theorem dX6_partnerOf_9 : decode cX6_partnerOf 9 = .ok (.iconst (-1), 1) := by decide +kernel
theorem dX6_partnerOf_10 : decode cX6_partnerOf 10 = .ok (.if_icmp .eq 15, 3) := by decide +kernel
theorem dX6_partnerOf_13 : decode cX6_partnerOf 13 = .ok (.aload_n 0, 1) := by decide +kernel
theorem dX6_partnerOf_14 : decode cX6_partnerOf 14 = .ok (.getfield 7, 3) := by decide +kernel
theorem dX6_partnerOf_17 : decode cX6_partnerOf 17 = .ok (.bipush 43, 2) := by decide +kernel
theorem dX6_partnerOf_19 : decode cX6_partnerOf 19 = .ok (.iload_n 1, 1) := by decide +kernel
theorem dX6_partnerOf_20 : decode cX6_partnerOf 20 = .ok (.iadd, 1) := by decide +kernel
theorem dX6_partnerOf_21 : decode cX6_partnerOf 21 = .ok (.iaload, 1) := by decide +kernel
theorem dX6_partnerOf_22 : decode cX6_partnerOf 22 = .ok (.goto 12, 3) := by decide +kernel
theorem dX6_partnerOf_25 : decode cX6_partnerOf 25 = .ok (.aload_n 0, 1) := by decide +kernel
theorem dX6_partnerOf_26 : decode cX6_partnerOf 26 = .ok (.getfield 7, 3) := by decide +kernel
theorem dX6_partnerOf_29 : decode cX6_partnerOf 29 = .ok (.bipush 33, 2) := by decide +kernel
theorem dX6_partnerOf_31 : decode cX6_partnerOf 31 = .ok (.iload_n 1, 1) := by decide +kernel
theorem dX6_partnerOf_32 : decode cX6_partnerOf 32 = .ok (.iadd, 1) := by decide +kernel
theorem dX6_partnerOf_33 : decode cX6_partnerOf 33 = .ok (.iaload, 1) := by decide +kernel
theorem dX6_partnerOf_34 : decode cX6_partnerOf 34 = .ok (.ireturn, 1) := by decide +kernel
theorem dX6_apart_0 : decode cX6_apart 0 = .ok (.aload_n 0, 1) := by decide +kernel
theorem dX6_apart_1 : decode cX6_apart 1 = .ok (.getfield 7, 3) := by decide +kernel
theorem dX6_apart_4 : decode cX6_apart 4 = .ok (.bipush 43, 2) := by decide +kernel
theorem dX6_apart_6 : decode cX6_apart 6 = .ok (.iload_n 1, 1) := by decide +kernel
theorem dX6_apart_7 : decode cX6_apart 7 = .ok (.iadd, 1) := by decide +kernel
theorem dX6_apart_8 : decode cX6_apart 8 = .ok (.iconst (-1), 1) := by decide +kernel
theorem dX6_apart_9 : decode cX6_apart 9 = .ok (.iastore, 1) := by decide +kernel
theorem dX6_apart_10 : decode cX6_apart 10 = .ok (.aload_n 0, 1) := by decide +kernel
theorem dX6_apart_11 : decode cX6_apart 11 = .ok (.getfield 7, 3) := by decide +kernel
theorem dX6_apart_14 : decode cX6_apart 14 = .ok (.bipush 33, 2) := by decide +kernel
theorem dX6_apart_16 : decode cX6_apart 16 = .ok (.iload_n 1, 1) := by decide +kernel
theorem dX6_apart_17 : decode cX6_apart 17 = .ok (.iadd, 1) := by decide +kernel
theorem dX6_apart_18 : decode cX6_apart 18 = .ok (.iconst (-1), 1) := by decide +kernel
theorem dX6_apart_19 : decode cX6_apart 19 = .ok (.iastore, 1) := by decide +kernel
theorem dX6_apart_20 : decode cX6_apart 20 = .ok (.return_, 1) := by decide +kernel
set_option maxRecDepth 20000 in
theorem ggX6_unfold_X6_isColumn : GoodIn wsX6_unfold wsX6_isColumn := goodIn_r _ [5, 6, 7, 8, 4, 9, 37, 38, 39, 40, 41, 42, 43, 44, 45, 46] (by decide +kernel) (by decide +kernel)
set_option maxRecDepth 20000 in
theorem gX6_unfold_X6_isColumn : GoodIn wsX6_unfold (wsV RX6 81 RX6 yX6_isColumn wsX6_isColumn) := goodIn_app (goodIn_of _ (by decide +kernel)) ggX6_unfold_X6_isColumn
set_option maxRecDepth 20000 in
theorem ggX6_unfold_X6_error : GoodIn wsX6_unfold wsX6_error := goodIn_r _ [13, 14, 37, 38, 39, 40, 41, 42, 43, 44, 45, 46] (by decide +kernel) (by decide +kernel)
set_option maxRecDepth 20000 in
theorem gX6_unfold_X6_error : GoodIn wsX6_unfold (wsV RX6 42 RX6 yX6_error wsX6_error) := goodIn_app (goodIn_of _ (by decide +kernel)) ggX6_unfold_X6_error
set_option maxRecDepth 20000 in
theorem ggX6_unfold_X6_isFolded : GoodIn wsX6_unfold wsX6_isFolded := goodIn_r _ [18, 6, 37, 38, 39, 40, 41, 42, 43, 44, 45, 46] (by decide +kernel) (by decide +kernel)
set_option maxRecDepth 20000 in
theorem gX6_unfold_X6_isFolded : GoodIn wsX6_unfold (wsV RX6 100 RX6 yX6_isFolded wsX6_isFolded) := goodIn_app (goodIn_of _ (by decide +kernel)) ggX6_unfold_X6_isFolded
set_option maxRecDepth 20000 in
theorem ggX6_unfold_X6_save : GoodIn wsX6_unfold wsX6_save := goodIn_r _ [22, 23, 24, 6, 37, 38, 39, 40, 41, 42, 43, 44, 45, 46] (by decide +kernel) (by decide +kernel)
set_option maxRecDepth 20000 in
theorem gX6_unfold_X6_save : GoodIn wsX6_unfold (wsV RX6 46 RX6 yX6_save wsX6_save) := goodIn_app (goodIn_of _ (by decide +kernel)) ggX6_unfold_X6_save
set_option maxRecDepth 20000 in
theorem ggX6_unfold_X6_partnerOf : GoodIn wsX6_unfold wsX6_partnerOf := goodIn_r _ [28, 6, 37, 38, 39, 40, 41, 42, 43, 44, 45, 46] (by decide +kernel) (by decide +kernel)
set_option maxRecDepth 20000 in
theorem gX6_unfold_X6_partnerOf : GoodIn wsX6_unfold (wsV RX6 110 RX6 yX6_partnerOf wsX6_partnerOf) := goodIn_app (goodIn_of _ (by decide +kernel)) ggX6_unfold_X6_partnerOf
set_option maxRecDepth 20000 in
theorem ggX6_unfold_X6_apart : GoodIn wsX6_unfold wsX6_apart := goodIn_r _ [32, 6, 37, 38, 39, 40, 41, 42, 43, 44, 45, 46] (by decide +kernel) (by decide +kernel)
set_option maxRecDepth 20000 in
theorem gX6_unfold_X6_apart : GoodIn wsX6_unfold (wsV RX6 113 RX6 yX6_apart wsX6_apart) := goodIn_app (goodIn_of _ (by decide +kernel)) ggX6_unfold_X6_apart
set_option maxRecDepth 20000 in
theorem ggX6_unfold_X6_foldMany : GoodIn wsX6_unfold wsX6_foldMany := goodIn_r _ [36, 6, 37, 38, 39, 40, 41, 42, 43, 44, 45, 46] (by decide +kernel) (by decide +kernel)
set_option maxRecDepth 20000 in
theorem gX6_unfold_X6_foldMany : GoodIn wsX6_unfold (wsV RX6 107 RX6 yX6_foldMany wsX6_foldMany) := goodIn_app (goodIn_of _ (by decide +kernel)) ggX6_unfold_X6_foldMany
theorem dX6_unfold_0 : decode cX6_unfold 0 = .ok (.aload_n 0, 1) := by decide +kernel
theorem dX6_unfold_1 : decode cX6_unfold 1 = .ok (.iload_n 1, 1) := by decide +kernel
theorem dX6_unfold_2 : decode cX6_unfold 2 = .ok (.invokevirtual 81, 3) := by decide +kernel
theorem dX6_unfold_5 : decode cX6_unfold 5 = .ok (.ifCond .ne 10, 3) := by decide +kernel
theorem dX6_unfold_8 : decode cX6_unfold 8 = .ok (.aload_n 0, 1) := by decide +kernel
theorem dX6_unfold_9 : decode cX6_unfold 9 = .ok (.bipush (-2), 2) := by decide +kernel
theorem dX6_unfold_11 : decode cX6_unfold 11 = .ok (.invokevirtual 42, 3) := by decide +kernel
theorem dX6_unfold_14 : decode cX6_unfold 14 = .ok (.ireturn, 1) := by decide +kernel
theorem dX6_unfold_15 : decode cX6_unfold 15 = .ok (.aload_n 0, 1) := by decide +kernel
theorem dX6_unfold_16 : decode cX6_unfold 16 = .ok (.iload_n 1, 1) := by decide +kernel
theorem dX6_unfold_17 : decode cX6_unfold 17 = .ok (.invokevirtual 100, 3) := by decide +kernel
theorem dX6_unfold_20 : decode cX6_unfold 20 = .ok (.ifCond .ne 10, 3) := by decide +kernel
theorem dX6_unfold_23 : decode cX6_unfold 23 = .ok (.aload_n 0, 1) := by decide +kernel
theorem dX6_unfold_24 : decode cX6_unfold 24 = .ok (.bipush (-3), 2) := by decide +kernel
theorem dX6_unfold_26 : decode cX6_unfold 26 = .ok (.invokevirtual 42, 3) := by decide +kernel
theorem dX6_unfold_29 : decode cX6_unfold 29 = .ok (.ireturn, 1) := by decide +kernel
theorem dX6_unfold_30 : decode cX6_unfold 30 = .ok (.aload_n 0, 1) := by decide +kernel
theorem dX6_unfold_31 : decode cX6_unfold 31 = .ok (.invokevirtual 46, 3) := by decide +kernel
theorem dX6_unfold_34 : decode cX6_unfold 34 = .ok (.aload_n 0, 1) := by decide +kernel
theorem dX6_unfold_35 : decode cX6_unfold 35 = .ok (.aload_n 0, 1) := by decide +kernel
theorem dX6_unfold_36 : decode cX6_unfold 36 = .ok (.iload_n 1, 1) := by decide +kernel
theorem dX6_unfold_37 : decode cX6_unfold 37 = .ok (.invokevirtual 110, 3) := by decide +kernel
theorem dX6_unfold_40 : decode cX6_unfold 40 = .ok (.invokevirtual 113, 3) := by decide +kernel
theorem dX6_unfold_43 : decode cX6_unfold 43 = .ok (.aload_n 0, 1) := by decide +kernel
theorem dX6_unfold_44 : decode cX6_unfold 44 = .ok (.iload_n 1, 1) := by decide +kernel
theorem dX6_unfold_45 : decode cX6_unfold 45 = .ok (.invokevirtual 113, 3) := by decide +kernel
theorem dX6_unfold_48 : decode cX6_unfold 48 = .ok (.aload_n 0, 1) := by decide +kernel
theorem dX6_unfold_49 : decode cX6_unfold 49 = .ok (.invokevirtual 107, 3) := by decide +kernel
theorem dX6_unfold_52 : decode cX6_unfold 52 = .ok (.ireturn, 1) := by decide +kernel
set_option maxRecDepth 20000 in
theorem ggX6_partner_X6_isColumn : GoodIn wsX6_partner wsX6_isColumn := goodIn_r _ [5, 6, 7, 8, 4, 9, 19, 20, 21, 22, 23, 24, 25, 26, 27, 28] (by decide +kernel) (by decide +kernel)
set_option maxRecDepth 20000 in
theorem gX6_partner_X6_isColumn : GoodIn wsX6_partner (wsV RX6 81 RX6 yX6_isColumn wsX6_isColumn) := goodIn_app (goodIn_of _ (by decide +kernel)) ggX6_partner_X6_isColumn
set_option maxRecDepth 20000 in
theorem ggX6_partner_X6_partnerOf : GoodIn wsX6_partner wsX6_partnerOf := goodIn_r _ [13, 6, 19, 20, 21, 22, 23, 24, 25, 26, 27, 28] (by decide +kernel) (by decide +kernel)
set_option maxRecDepth 20000 in
theorem gX6_partner_X6_partnerOf : GoodIn wsX6_partner (wsV RX6 110 RX6 yX6_partnerOf wsX6_partnerOf) := goodIn_app (goodIn_of _ (by decide +kernel)) ggX6_partner_X6_partnerOf
end
section
set_option maxRecDepth 20000 in
theorem ggX6_partner_X6_error : GoodIn wsX6_partner wsX6_error := goodIn_r _ [17, 18, 19, 20, 21, 22, 23, 24, 25, 26, 27, 28] (by decide +kernel) (by decide +kernel)
set_option maxRecDepth 20000 in
theorem gX6_partner_X6_error : GoodIn wsX6_partner (wsV RX6 42 RX6 yX6_error wsX6_error) := goodIn_app (goodIn_of _ (by decide +kernel)) ggX6_partner_X6_error
theorem dX6_partner_0 : decode cX6_partner 0 = .ok (.aload_n 0, 1) := by decide +kernel
theorem dX6_partner_1 : decode cX6_partner 1 = .ok (.iload_n 1, 1) := by decide +kernel
theorem dX6_partner_2 : decode cX6_partner 2 = .ok (.invokevirtual 81, 3) := by decide +kernel
theorem dX6_partner_5 : decode cX6_partner 5 = .ok (.ifCond .eq 11, 3) := by decide +kernel
theorem dX6_partner_8 : decode cX6_partner 8 = .ok (.aload_n 0, 1) := by decide +kernel
theorem dX6_partner_9 : decode cX6_partner 9 = .ok (.iload_n 1, 1) := by decide +kernel
theorem dX6_partner_10 : decode cX6_partner 10 = .ok (.invokevirtual 110, 3) := by decide +kernel
theorem dX6_partner_13 : decode cX6_partner 13 = .ok (.goto 9, 3) := by decide +kernel
theorem dX6_partner_16 : decode cX6_partner 16 = .ok (.aload_n 0, 1) := by decide +kernel
theorem dX6_partner_17 : decode cX6_partner 17 = .ok (.bipush (-2), 2) := by decide +kernel
theorem dX6_partner_19 : decode cX6_partner 19 = .ok (.invokevirtual 42, 3) := by decide +kernel
theorem dX6_partner_22 : decode cX6_partner 22 = .ok (.ireturn, 1) := by decide +kernel
set_option maxRecDepth 20000 in
theorem ggX6_folds_X6_foldMany : GoodIn wsX6_folds wsX6_foldMany := goodIn_r _ [5, 6, 7, 8, 9, 10, 11, 12, 13, 14, 15, 16] (by decide +kernel) (by decide +kernel)
set_option maxRecDepth 20000 in
theorem gX6_folds_X6_foldMany : GoodIn wsX6_folds (wsV RX6 107 RX6 yX6_foldMany wsX6_foldMany) := goodIn_app (goodIn_of _ (by decide +kernel)) ggX6_folds_X6_foldMany
theorem dX6_folds_0 : decode cX6_folds 0 = .ok (.aload_n 0, 1) := by decide +kernel
theorem dX6_folds_1 : decode cX6_folds 1 = .ok (.invokevirtual 107, 3) := by decide +kernel
theorem dX6_folds_4 : decode cX6_folds 4 = .ok (.ireturn, 1) := by decide +kernel
set_option maxRecDepth 20000 in
theorem ggX6_lay_X6_layDemands : GoodIn wsX6_lay wsX6_layDemands := goodIn_r _ [5, 6, 7, 8, 9, 4, 10, 11, 12, 13, 14, 15, 16, 17, 18, 19, 20, 21, 22, 23, 24, 25, 26, 27, 33, 34, 35, 36, 37, 38, 39, 40, 41, 42] (by decide +kernel) (by decide +kernel)
set_option maxRecDepth 20000 in
theorem gX6_lay_X6_layDemands : GoodIn wsX6_lay (wsV RX6 97 RX6 yX6_layDemands wsX6_layDemands) := goodIn_app (goodIn_of _ (by decide +kernel)) ggX6_lay_X6_layDemands
set_option maxRecDepth 20000 in
theorem ggX6_lay_X6_layRows : GoodIn wsX6_lay wsX6_layRows := goodIn_r _ [31, 6, 23, 32, 16, 17, 4, 18, 33, 34, 35, 36, 37, 38, 39, 40, 41, 42] (by decide +kernel) (by decide +kernel)
set_option maxRecDepth 20000 in
theorem gX6_lay_X6_layRows : GoodIn wsX6_lay (wsV RX6 103 RX6 yX6_layRows wsX6_layRows) := goodIn_app (goodIn_of _ (by decide +kernel)) ggX6_lay_X6_layRows
theorem dX6_lay_0 : decode cX6_lay 0 = .ok (.aload_n 0, 1) := by decide +kernel
theorem dX6_lay_1 : decode cX6_lay 1 = .ok (.invokevirtual 97, 3) := by decide +kernel
theorem dX6_lay_4 : decode cX6_lay 4 = .ok (.aload_n 0, 1) := by decide +kernel
theorem dX6_lay_5 : decode cX6_lay 5 = .ok (.invokevirtual 103, 3) := by decide +kernel
theorem dX6_lay_8 : decode cX6_lay 8 = .ok (.istore_n 1, 1) := by decide +kernel
theorem dX6_lay_9 : decode cX6_lay 9 = .ok (.return_, 1) := by decide +kernel
theorem dX6_rowAt_0 : decode cX6_rowAt 0 = .ok (.iconst 0, 1) := by decide +kernel
theorem dX6_rowAt_1 : decode cX6_rowAt 1 = .ok (.istore_n 2, 1) := by decide +kernel
theorem dX6_rowAt_2 : decode cX6_rowAt 2 = .ok (.aload_n 0, 1) := by decide +kernel
theorem dX6_rowAt_3 : decode cX6_rowAt 3 = .ok (.getfield 25, 3) := by decide +kernel
theorem dX6_rowAt_6 : decode cX6_rowAt 6 = .ok (.iload_n 2, 1) := by decide +kernel
theorem dX6_rowAt_7 : decode cX6_rowAt 7 = .ok (.iaload, 1) := by decide +kernel
theorem dX6_rowAt_8 : decode cX6_rowAt 8 = .ok (.iload_n 1, 1) := by decide +kernel
theorem dX6_rowAt_9 : decode cX6_rowAt 9 = .ok (.if_icmp .eq 9, 3) := by decide +kernel
theorem dX6_rowAt_12 : decode cX6_rowAt 12 = .ok (.iinc 2 1, 3) := by decide +kernel
theorem dX6_rowAt_15 : decode cX6_rowAt 15 = .ok (.goto (-13), 3) := by decide +kernel
theorem dX6_rowAt_18 : decode cX6_rowAt 18 = .ok (.iload_n 2, 1) := by decide +kernel
theorem dX6_rowAt_19 : decode cX6_rowAt 19 = .ok (.ireturn, 1) := by decide +kernel
set_option maxRecDepth 20000 in
theorem ggX6_termAt_X6_in : GoodIn wsX6_termAt wsX6_in := goodIn_r _ [6] (by decide +kernel) (by decide +kernel)
set_option maxRecDepth 20000 in
theorem gX6_termAt_X6_in : GoodIn wsX6_termAt (va_wsS RX6 34 yX6_in wsX6_in) := goodIn_app (goodIn_of _ (by decide +kernel)) ggX6_termAt_X6_in
set_option maxRecDepth 20000 in
theorem ggX6_termAt_X6_error : GoodIn wsX6_termAt wsX6_error := goodIn_r _ [10, 11, 45, 46, 47, 48, 49, 50, 51, 52, 53, 54] (by decide +kernel) (by decide +kernel)
set_option maxRecDepth 20000 in
theorem gX6_termAt_X6_error : GoodIn wsX6_termAt (wsV RX6 42 RX6 yX6_error wsX6_error) := goodIn_app (goodIn_of _ (by decide +kernel)) ggX6_termAt_X6_error
set_option maxRecDepth 20000 in
theorem ggX6_termAt_X6_lay : GoodIn wsX6_termAt wsX6_lay := goodIn_r _ [15, 16, 17, 18, 5, 19, 1, 20, 21, 22, 23, 24, 25, 26, 27, 28, 29, 30, 31, 32, 33, 34, 35, 36, 37, 38, 39, 40, 41, 42, 43, 44, 2, 45, 46, 47, 48, 49, 50, 51, 52, 53, 54] (by decide +kernel) (by decide +kernel)
set_option maxRecDepth 20000 in
theorem gX6_termAt_X6_lay : GoodIn wsX6_termAt (wsV RX6 116 RX6 yX6_lay wsX6_lay) := goodIn_app (goodIn_of _ (by decide +kernel)) ggX6_termAt_X6_lay
theorem dX6_termAt_0 : decode cX6_termAt 0 = .ok (.iload_n 1, 1) := by decide +kernel
theorem dX6_termAt_1 : decode cX6_termAt 1 = .ok (.iconst 0, 1) := by decide +kernel
theorem dX6_termAt_2 : decode cX6_termAt 2 = .ok (.aload_n 0, 1) := by decide +kernel
theorem dX6_termAt_3 : decode cX6_termAt 3 = .ok (.getfield 7, 3) := by decide +kernel
theorem dX6_termAt_6 : decode cX6_termAt 6 = .ok (.iconst 2, 1) := by decide +kernel
theorem dX6_termAt_7 : decode cX6_termAt 7 = .ok (.iaload, 1) := by decide +kernel
theorem dX6_termAt_8 : decode cX6_termAt 8 = .ok (.iconst 1, 1) := by decide +kernel
theorem dX6_termAt_9 : decode cX6_termAt 9 = .ok (.isub, 1) := by decide +kernel
theorem dX6_termAt_10 : decode cX6_termAt 10 = .ok (.invokestatic 34, 3) := by decide +kernel
theorem dX6_termAt_13 : decode cX6_termAt 13 = .ok (.ifCond .ne 10, 3) := by decide +kernel
theorem dX6_termAt_16 : decode cX6_termAt 16 = .ok (.aload_n 0, 1) := by decide +kernel
theorem dX6_termAt_17 : decode cX6_termAt 17 = .ok (.bipush (-2), 2) := by decide +kernel
theorem dX6_termAt_19 : decode cX6_termAt 19 = .ok (.invokevirtual 42, 3) := by decide +kernel
theorem dX6_termAt_22 : decode cX6_termAt 22 = .ok (.ireturn, 1) := by decide +kernel
theorem dX6_termAt_23 : decode cX6_termAt 23 = .ok (.aload_n 0, 1) := by decide +kernel
theorem dX6_termAt_24 : decode cX6_termAt 24 = .ok (.invokevirtual 116, 3) := by decide +kernel
theorem dX6_termAt_27 : decode cX6_termAt 27 = .ok (.aload_n 0, 1) := by decide +kernel
theorem dX6_termAt_28 : decode cX6_termAt 28 = .ok (.getfield 25, 3) := by decide +kernel
theorem dX6_termAt_31 : decode cX6_termAt 31 = .ok (.iload_n 1, 1) := by decide +kernel
theorem dX6_termAt_32 : decode cX6_termAt 32 = .ok (.iaload, 1) := by decide +kernel
theorem dX6_termAt_33 : decode cX6_termAt 33 = .ok (.ireturn, 1) := by decide +kernel
set_option maxRecDepth 20000 in
theorem ggX6_rowOf_X6_isTerm : GoodIn wsX6_rowOf wsX6_isTerm := goodIn_r _ [5, 6, 7, 8, 4, 9, 53, 54, 55, 56, 57, 58, 59, 60, 61, 62] (by decide +kernel) (by decide +kernel)
set_option maxRecDepth 20000 in
theorem gX6_rowOf_X6_isTerm : GoodIn wsX6_rowOf (wsV RX6 53 RX6 yX6_isTerm wsX6_isTerm) := goodIn_app (goodIn_of _ (by decide +kernel)) ggX6_rowOf_X6_isTerm
set_option maxRecDepth 20000 in
theorem ggX6_rowOf_X6_error : GoodIn wsX6_rowOf wsX6_error := goodIn_r _ [13, 14, 53, 54, 55, 56, 57, 58, 59, 60, 61, 62] (by decide +kernel) (by decide +kernel)
set_option maxRecDepth 20000 in
theorem gX6_rowOf_X6_error : GoodIn wsX6_rowOf (wsV RX6 42 RX6 yX6_error wsX6_error) := goodIn_app (goodIn_of _ (by decide +kernel)) ggX6_rowOf_X6_error
set_option maxRecDepth 20000 in
theorem ggX6_rowOf_X6_lay : GoodIn wsX6_rowOf wsX6_lay := goodIn_r _ [18, 19, 20, 21, 4, 22, 6, 23, 24, 25, 26, 27, 28, 29, 30, 31, 32, 33, 34, 35, 36, 37, 38, 39, 40, 41, 42, 43, 44, 45, 46, 47, 48, 53, 54, 55, 56, 57, 58, 59, 60, 61, 62] (by decide +kernel) (by decide +kernel)
set_option maxRecDepth 20000 in
theorem gX6_rowOf_X6_lay : GoodIn wsX6_rowOf (wsV RX6 116 RX6 yX6_lay wsX6_lay) := goodIn_app (goodIn_of _ (by decide +kernel)) ggX6_rowOf_X6_lay
set_option maxRecDepth 20000 in
theorem ggX6_rowOf_X6_rowAt : GoodIn wsX6_rowOf wsX6_rowAt := goodIn_r _ [52, 48, 53, 54, 55, 56, 57, 58, 59, 60, 61, 62] (by decide +kernel) (by decide +kernel)
set_option maxRecDepth 20000 in
theorem gX6_rowOf_X6_rowAt : GoodIn wsX6_rowOf (wsV RX6 119 RX6 yX6_rowAt wsX6_rowAt) := goodIn_app (goodIn_of _ (by decide +kernel)) ggX6_rowOf_X6_rowAt
theorem dX6_rowOf_0 : decode cX6_rowOf 0 = .ok (.aload_n 0, 1) := by decide +kernel
theorem dX6_rowOf_1 : decode cX6_rowOf 1 = .ok (.iload_n 1, 1) := by decide +kernel
theorem dX6_rowOf_2 : decode cX6_rowOf 2 = .ok (.invokevirtual 53, 3) := by decide +kernel
theorem dX6_rowOf_5 : decode cX6_rowOf 5 = .ok (.ifCond .ne 10, 3) := by decide +kernel
theorem dX6_rowOf_8 : decode cX6_rowOf 8 = .ok (.aload_n 0, 1) := by decide +kernel
theorem dX6_rowOf_9 : decode cX6_rowOf 9 = .ok (.bipush (-2), 2) := by decide +kernel
theorem dX6_rowOf_11 : decode cX6_rowOf 11 = .ok (.invokevirtual 42, 3) := by decide +kernel
theorem dX6_rowOf_14 : decode cX6_rowOf 14 = .ok (.ireturn, 1) := by decide +kernel
theorem dX6_rowOf_15 : decode cX6_rowOf 15 = .ok (.aload_n 0, 1) := by decide +kernel
theorem dX6_rowOf_16 : decode cX6_rowOf 16 = .ok (.invokevirtual 116, 3) := by decide +kernel
theorem dX6_rowOf_19 : decode cX6_rowOf 19 = .ok (.aload_n 0, 1) := by decide +kernel
theorem dX6_rowOf_20 : decode cX6_rowOf 20 = .ok (.iload_n 1, 1) := by decide +kernel
theorem dX6_rowOf_21 : decode cX6_rowOf 21 = .ok (.invokevirtual 119, 3) := by decide +kernel
theorem dX6_rowOf_24 : decode cX6_rowOf 24 = .ok (.ireturn, 1) := by decide +kernel
set_option maxRecDepth 20000 in
theorem ggX6_mustPrecede_X6_isTerm : GoodIn wsX6_mustPrecede wsX6_isTerm := goodIn_r _ [6, 7, 8, 9, 5, 10, 40, 41, 42, 43, 44, 45, 46, 47, 48, 49] (by decide +kernel) (by decide +kernel)
set_option maxRecDepth 20000 in
theorem gX6_mustPrecede_X6_isTerm : GoodIn wsX6_mustPrecede (wsV RX6 53 RX6 yX6_isTerm wsX6_isTerm) := goodIn_app (goodIn_of _ (by decide +kernel)) ggX6_mustPrecede_X6_isTerm
set_option maxRecDepth 20000 in
theorem ggX6_mustPrecede_X6_error : GoodIn wsX6_mustPrecede wsX6_error := goodIn_r _ [14, 15, 40, 41, 42, 43, 44, 45, 46, 47, 48, 49] (by decide +kernel) (by decide +kernel)
set_option maxRecDepth 20000 in
theorem gX6_mustPrecede_X6_error : GoodIn wsX6_mustPrecede (wsV RX6 42 RX6 yX6_error wsX6_error) := goodIn_app (goodIn_of _ (by decide +kernel)) ggX6_mustPrecede_X6_error
set_option maxRecDepth 20000 in
theorem ggX6_mustPrecede_X6_layDemands : GoodIn wsX6_mustPrecede wsX6_layDemands := goodIn_r _ [19, 7, 20, 21, 22, 5, 23, 24, 25, 26, 27, 28, 29, 30, 31, 32, 33, 34, 35, 1, 36, 37, 38, 39, 40, 41, 42, 43, 44, 45, 46, 47, 48, 49] (by decide +kernel) (by decide +kernel)
set_option maxRecDepth 20000 in
theorem gX6_mustPrecede_X6_layDemands : GoodIn wsX6_mustPrecede (wsV RX6 97 RX6 yX6_layDemands wsX6_layDemands) := goodIn_app (goodIn_of _ (by decide +kernel)) ggX6_mustPrecede_X6_layDemands
set_option maxRecDepth 20000 in
theorem ggX6_mustPrecede_X6_has : GoodIn wsX6_mustPrecede wsX6_has := goodIn_r _ [31] (by decide +kernel) (by decide +kernel)
set_option maxRecDepth 20000 in
theorem gX6_mustPrecede_X6_has : GoodIn wsX6_mustPrecede (va_wsS RX6 72 yX6_has wsX6_has) := goodIn_app (goodIn_of _ (by decide +kernel)) ggX6_mustPrecede_X6_has
theorem dX6_mustPrecede_0 : decode cX6_mustPrecede 0 = .ok (.aload_n 0, 1) := by decide +kernel
theorem dX6_mustPrecede_1 : decode cX6_mustPrecede 1 = .ok (.iload_n 1, 1) := by decide +kernel
theorem dX6_mustPrecede_2 : decode cX6_mustPrecede 2 = .ok (.invokevirtual 53, 3) := by decide +kernel
theorem dX6_mustPrecede_5 : decode cX6_mustPrecede 5 = .ok (.ifCond .eq 11, 3) := by decide +kernel
theorem dX6_mustPrecede_8 : decode cX6_mustPrecede 8 = .ok (.aload_n 0, 1) := by decide +kernel
theorem dX6_mustPrecede_9 : decode cX6_mustPrecede 9 = .ok (.iload_n 2, 1) := by decide +kernel
theorem dX6_mustPrecede_10 : decode cX6_mustPrecede 10 = .ok (.invokevirtual 53, 3) := by decide +kernel
theorem dX6_mustPrecede_13 : decode cX6_mustPrecede 13 = .ok (.ifCond .ne 10, 3) := by decide +kernel
theorem dX6_mustPrecede_16 : decode cX6_mustPrecede 16 = .ok (.aload_n 0, 1) := by decide +kernel
theorem dX6_mustPrecede_17 : decode cX6_mustPrecede 17 = .ok (.bipush (-2), 2) := by decide +kernel
theorem dX6_mustPrecede_19 : decode cX6_mustPrecede 19 = .ok (.invokevirtual 42, 3) := by decide +kernel
theorem dX6_mustPrecede_22 : decode cX6_mustPrecede 22 = .ok (.ireturn, 1) := by decide +kernel
theorem dX6_mustPrecede_23 : decode cX6_mustPrecede 23 = .ok (.aload_n 0, 1) := by decide +kernel
theorem dX6_mustPrecede_24 : decode cX6_mustPrecede 24 = .ok (.invokevirtual 97, 3) := by decide +kernel
theorem dX6_mustPrecede_27 : decode cX6_mustPrecede 27 = .ok (.aload_n 0, 1) := by decide +kernel
theorem dX6_mustPrecede_28 : decode cX6_mustPrecede 28 = .ok (.getfield 22, 3) := by decide +kernel
theorem dX6_mustPrecede_31 : decode cX6_mustPrecede 31 = .ok (.iload_n 1, 1) := by decide +kernel
theorem dX6_mustPrecede_32 : decode cX6_mustPrecede 32 = .ok (.iaload, 1) := by decide +kernel
theorem dX6_mustPrecede_33 : decode cX6_mustPrecede 33 = .ok (.istore_n 3, 1) := by decide +kernel
theorem dX6_mustPrecede_34 : decode cX6_mustPrecede 34 = .ok (.iconst 0, 1) := by decide +kernel
theorem dX6_mustPrecede_35 : decode cX6_mustPrecede 35 = .ok (.istore 4, 2) := by decide +kernel
theorem dX6_mustPrecede_37 : decode cX6_mustPrecede 37 = .ok (.iload 4, 2) := by decide +kernel
theorem dX6_mustPrecede_39 : decode cX6_mustPrecede 39 = .ok (.bipush 10, 2) := by decide +kernel
theorem dX6_mustPrecede_41 : decode cX6_mustPrecede 41 = .ok (.if_icmp .ge 48, 3) := by decide +kernel
theorem dX6_mustPrecede_44 : decode cX6_mustPrecede 44 = .ok (.iconst 0, 1) := by decide +kernel
theorem dX6_mustPrecede_45 : decode cX6_mustPrecede 45 = .ok (.istore 5, 2) := by decide +kernel
theorem dX6_mustPrecede_47 : decode cX6_mustPrecede 47 = .ok (.iload 5, 2) := by decide +kernel
theorem dX6_mustPrecede_49 : decode cX6_mustPrecede 49 = .ok (.bipush 10, 2) := by decide +kernel
theorem dX6_mustPrecede_51 : decode cX6_mustPrecede 51 = .ok (.if_icmp .ge 32, 3) := by decide +kernel
theorem dX6_mustPrecede_54 : decode cX6_mustPrecede 54 = .ok (.iload_n 3, 1) := by decide +kernel
theorem dX6_mustPrecede_55 : decode cX6_mustPrecede 55 = .ok (.iload_n 3, 1) := by decide +kernel
theorem dX6_mustPrecede_56 : decode cX6_mustPrecede 56 = .ok (.iload 5, 2) := by decide +kernel
theorem dX6_mustPrecede_58 : decode cX6_mustPrecede 58 = .ok (.invokestatic 72, 3) := by decide +kernel
theorem dX6_mustPrecede_61 : decode cX6_mustPrecede 61 = .ok (.ifCond .eq 13, 3) := by decide +kernel
theorem dX6_mustPrecede_64 : decode cX6_mustPrecede 64 = .ok (.aload_n 0, 1) := by decide +kernel
theorem dX6_mustPrecede_65 : decode cX6_mustPrecede 65 = .ok (.getfield 22, 3) := by decide +kernel
theorem dX6_mustPrecede_68 : decode cX6_mustPrecede 68 = .ok (.iload 5, 2) := by decide +kernel
theorem dX6_mustPrecede_70 : decode cX6_mustPrecede 70 = .ok (.iaload, 1) := by decide +kernel
theorem dX6_mustPrecede_71 : decode cX6_mustPrecede 71 = .ok (.goto 4, 3) := by decide +kernel
theorem dX6_mustPrecede_74 : decode cX6_mustPrecede 74 = .ok (.iconst 0, 1) := by decide +kernel
theorem dX6_mustPrecede_75 : decode cX6_mustPrecede 75 = .ok (.ior, 1) := by decide +kernel
theorem dX6_mustPrecede_76 : decode cX6_mustPrecede 76 = .ok (.istore_n 3, 1) := by decide +kernel
theorem dX6_mustPrecede_77 : decode cX6_mustPrecede 77 = .ok (.iinc 5 1, 3) := by decide +kernel
theorem dX6_mustPrecede_80 : decode cX6_mustPrecede 80 = .ok (.goto (-33), 3) := by decide +kernel
theorem dX6_mustPrecede_83 : decode cX6_mustPrecede 83 = .ok (.iinc 4 1, 3) := by decide +kernel
theorem dX6_mustPrecede_86 : decode cX6_mustPrecede 86 = .ok (.goto (-49), 3) := by decide +kernel
theorem dX6_mustPrecede_89 : decode cX6_mustPrecede 89 = .ok (.iload_n 3, 1) := by decide +kernel
theorem dX6_mustPrecede_90 : decode cX6_mustPrecede 90 = .ok (.iload_n 2, 1) := by decide +kernel
theorem dX6_mustPrecede_91 : decode cX6_mustPrecede 91 = .ok (.invokestatic 72, 3) := by decide +kernel
theorem dX6_mustPrecede_94 : decode cX6_mustPrecede 94 = .ok (.ifCond .eq 7, 3) := by decide +kernel
theorem dX6_mustPrecede_97 : decode cX6_mustPrecede 97 = .ok (.iconst 1, 1) := by decide +kernel
theorem dX6_mustPrecede_98 : decode cX6_mustPrecede 98 = .ok (.goto 4, 3) := by decide +kernel
theorem dX6_mustPrecede_101 : decode cX6_mustPrecede 101 = .ok (.iconst 0, 1) := by decide +kernel
theorem dX6_mustPrecede_102 : decode cX6_mustPrecede 102 = .ok (.ireturn, 1) := by decide +kernel
set_option maxRecDepth 20000 in
theorem ggX6_areaNow_X6_foldMany : GoodIn wsX6_areaNow wsX6_foldMany := goodIn_r _ [6, 1, 7, 8, 9, 10, 11, 12, 13, 14, 15, 16] (by decide +kernel) (by decide +kernel)
set_option maxRecDepth 20000 in
theorem gX6_areaNow_X6_foldMany : GoodIn wsX6_areaNow (wsV RX6 107 RX6 yX6_foldMany wsX6_foldMany) := goodIn_app (goodIn_of _ (by decide +kernel)) ggX6_areaNow_X6_foldMany
theorem dX6_areaNow_0 : decode cX6_areaNow 0 = .ok (.aload_n 0, 1) := by decide +kernel
theorem dX6_areaNow_1 : decode cX6_areaNow 1 = .ok (.getfield 7, 3) := by decide +kernel
theorem dX6_areaNow_4 : decode cX6_areaNow 4 = .ok (.iconst 2, 1) := by decide +kernel
theorem dX6_areaNow_5 : decode cX6_areaNow 5 = .ok (.iaload, 1) := by decide +kernel
theorem dX6_areaNow_6 : decode cX6_areaNow 6 = .ok (.aload_n 0, 1) := by decide +kernel
theorem dX6_areaNow_7 : decode cX6_areaNow 7 = .ok (.getfield 7, 3) := by decide +kernel
theorem dX6_areaNow_10 : decode cX6_areaNow 10 = .ok (.iconst 0, 1) := by decide +kernel
theorem dX6_areaNow_11 : decode cX6_areaNow 11 = .ok (.iaload, 1) := by decide +kernel
theorem dX6_areaNow_12 : decode cX6_areaNow 12 = .ok (.aload_n 0, 1) := by decide +kernel
theorem dX6_areaNow_13 : decode cX6_areaNow 13 = .ok (.getfield 7, 3) := by decide +kernel
theorem dX6_areaNow_16 : decode cX6_areaNow 16 = .ok (.iconst 1, 1) := by decide +kernel
theorem dX6_areaNow_17 : decode cX6_areaNow 17 = .ok (.iaload, 1) := by decide +kernel
theorem dX6_areaNow_18 : decode cX6_areaNow 18 = .ok (.iadd, 1) := by decide +kernel
theorem dX6_areaNow_19 : decode cX6_areaNow 19 = .ok (.aload_n 0, 1) := by decide +kernel
theorem dX6_areaNow_20 : decode cX6_areaNow 20 = .ok (.invokevirtual 107, 3) := by decide +kernel
theorem dX6_areaNow_23 : decode cX6_areaNow 23 = .ok (.isub, 1) := by decide +kernel
theorem dX6_areaNow_24 : decode cX6_areaNow 24 = .ok (.imul, 1) := by decide +kernel
theorem dX6_areaNow_25 : decode cX6_areaNow 25 = .ok (.ireturn, 1) := by decide +kernel
set_option maxRecDepth 20000 in
theorem ggX6_area_X6_areaNow : GoodIn wsX6_area wsX6_areaNow := goodIn_r _ [5, 6, 7, 8, 9, 4, 10, 11, 12, 13, 14, 15, 16, 17, 18, 19, 20] (by decide +kernel) (by decide +kernel)
set_option maxRecDepth 20000 in
theorem gX6_area_X6_areaNow : GoodIn wsX6_area (wsV RX6 122 RX6 yX6_areaNow wsX6_areaNow) := goodIn_app (goodIn_of _ (by decide +kernel)) ggX6_area_X6_areaNow
theorem dX6_area_0 : decode cX6_area 0 = .ok (.aload_n 0, 1) := by decide +kernel
theorem dX6_area_1 : decode cX6_area 1 = .ok (.invokevirtual 122, 3) := by decide +kernel
theorem dX6_area_4 : decode cX6_area 4 = .ok (.ireturn, 1) := by decide +kernel
set_option maxRecDepth 20000 in
theorem ggX6_spanOf_X6_has : GoodIn wsX6_spanOf wsX6_has := goodIn_r _ [7] (by decide +kernel) (by decide +kernel)
set_option maxRecDepth 20000 in
theorem gX6_spanOf_X6_has : GoodIn wsX6_spanOf (va_wsS RX6 72 yX6_has wsX6_has) := goodIn_app (goodIn_of _ (by decide +kernel)) ggX6_spanOf_X6_has
theorem dX6_spanOf_0 : decode cX6_spanOf 0 = .ok (.iconst (-1), 1) := by decide +kernel
theorem dX6_spanOf_1 : decode cX6_spanOf 1 = .ok (.istore_n 2, 1) := by decide +kernel
theorem dX6_spanOf_2 : decode cX6_spanOf 2 = .ok (.iconst (-1), 1) := by decide +kernel
theorem dX6_spanOf_3 : decode cX6_spanOf 3 = .ok (.istore_n 3, 1) := by decide +kernel
theorem dX6_spanOf_4 : decode cX6_spanOf 4 = .ok (.iconst 0, 1) := by decide +kernel
theorem dX6_spanOf_5 : decode cX6_spanOf 5 = .ok (.istore 4, 2) := by decide +kernel
theorem dX6_spanOf_7 : decode cX6_spanOf 7 = .ok (.iload 4, 2) := by decide +kernel
theorem dX6_spanOf_9 : decode cX6_spanOf 9 = .ok (.aload_n 0, 1) := by decide +kernel
theorem dX6_spanOf_10 : decode cX6_spanOf 10 = .ok (.getfield 7, 3) := by decide +kernel
theorem dX6_spanOf_13 : decode cX6_spanOf 13 = .ok (.iconst 2, 1) := by decide +kernel
theorem dX6_spanOf_14 : decode cX6_spanOf 14 = .ok (.iaload, 1) := by decide +kernel
theorem dX6_spanOf_15 : decode cX6_spanOf 15 = .ok (.if_icmp .ge 43, 3) := by decide +kernel
theorem dX6_spanOf_18 : decode cX6_spanOf 18 = .ok (.aload_n 0, 1) := by decide +kernel
theorem dX6_spanOf_19 : decode cX6_spanOf 19 = .ok (.getfield 19, 3) := by decide +kernel
theorem dX6_spanOf_22 : decode cX6_spanOf 22 = .ok (.iload_n 1, 1) := by decide +kernel
theorem dX6_spanOf_23 : decode cX6_spanOf 23 = .ok (.iaload, 1) := by decide +kernel
theorem dX6_spanOf_24 : decode cX6_spanOf 24 = .ok (.aload_n 0, 1) := by decide +kernel
theorem dX6_spanOf_25 : decode cX6_spanOf 25 = .ok (.getfield 25, 3) := by decide +kernel
theorem dX6_spanOf_28 : decode cX6_spanOf 28 = .ok (.iload 4, 2) := by decide +kernel
theorem dX6_spanOf_30 : decode cX6_spanOf 30 = .ok (.iaload, 1) := by decide +kernel
theorem dX6_spanOf_31 : decode cX6_spanOf 31 = .ok (.invokestatic 72, 3) := by decide +kernel
theorem dX6_spanOf_34 : decode cX6_spanOf 34 = .ok (.ifCond .eq 18, 3) := by decide +kernel
theorem dX6_spanOf_37 : decode cX6_spanOf 37 = .ok (.iload_n 2, 1) := by decide +kernel
theorem dX6_spanOf_38 : decode cX6_spanOf 38 = .ok (.iconst (-1), 1) := by decide +kernel
theorem dX6_spanOf_39 : decode cX6_spanOf 39 = .ok (.if_icmp .ne 8, 3) := by decide +kernel
theorem dX6_spanOf_42 : decode cX6_spanOf 42 = .ok (.iload 4, 2) := by decide +kernel
theorem dX6_spanOf_44 : decode cX6_spanOf 44 = .ok (.goto 4, 3) := by decide +kernel
theorem dX6_spanOf_47 : decode cX6_spanOf 47 = .ok (.iload_n 2, 1) := by decide +kernel
theorem dX6_spanOf_48 : decode cX6_spanOf 48 = .ok (.istore_n 2, 1) := by decide +kernel
theorem dX6_spanOf_49 : decode cX6_spanOf 49 = .ok (.iload 4, 2) := by decide +kernel
theorem dX6_spanOf_51 : decode cX6_spanOf 51 = .ok (.istore_n 3, 1) := by decide +kernel
theorem dX6_spanOf_52 : decode cX6_spanOf 52 = .ok (.iinc 4 1, 3) := by decide +kernel
theorem dX6_spanOf_55 : decode cX6_spanOf 55 = .ok (.goto (-48), 3) := by decide +kernel
theorem dX6_spanOf_58 : decode cX6_spanOf 58 = .ok (.iload_n 2, 1) := by decide +kernel
theorem dX6_spanOf_59 : decode cX6_spanOf 59 = .ok (.iconst (-1), 1) := by decide +kernel
theorem dX6_spanOf_60 : decode cX6_spanOf 60 = .ok (.if_icmp .ne 7, 3) := by decide +kernel
theorem dX6_spanOf_63 : decode cX6_spanOf 63 = .ok (.iconst 0, 1) := by decide +kernel
theorem dX6_spanOf_64 : decode cX6_spanOf 64 = .ok (.goto 8, 3) := by decide +kernel
theorem dX6_spanOf_67 : decode cX6_spanOf 67 = .ok (.iload_n 3, 1) := by decide +kernel
theorem dX6_spanOf_68 : decode cX6_spanOf 68 = .ok (.iload_n 2, 1) := by decide +kernel
theorem dX6_spanOf_69 : decode cX6_spanOf 69 = .ok (.isub, 1) := by decide +kernel
theorem dX6_spanOf_70 : decode cX6_spanOf 70 = .ok (.iconst 1, 1) := by decide +kernel
theorem dX6_spanOf_71 : decode cX6_spanOf 71 = .ok (.iadd, 1) := by decide +kernel
theorem dX6_spanOf_72 : decode cX6_spanOf 72 = .ok (.ireturn, 1) := by decide +kernel
set_option maxRecDepth 20000 in
theorem ggX6_span_X6_isColumn : GoodIn wsX6_span wsX6_isColumn := goodIn_r _ [5, 6, 7, 8, 4, 9, 53, 54, 55, 56, 57, 58, 59, 60, 61, 62] (by decide +kernel) (by decide +kernel)
set_option maxRecDepth 20000 in
theorem gX6_span_X6_isColumn : GoodIn wsX6_span (wsV RX6 81 RX6 yX6_isColumn wsX6_isColumn) := goodIn_app (goodIn_of _ (by decide +kernel)) ggX6_span_X6_isColumn
set_option maxRecDepth 20000 in
theorem ggX6_span_X6_error : GoodIn wsX6_span wsX6_error := goodIn_r _ [13, 14, 53, 54, 55, 56, 57, 58, 59, 60, 61, 62] (by decide +kernel) (by decide +kernel)
set_option maxRecDepth 20000 in
theorem gX6_span_X6_error : GoodIn wsX6_span (wsV RX6 42 RX6 yX6_error wsX6_error) := goodIn_app (goodIn_of _ (by decide +kernel)) ggX6_span_X6_error
set_option maxRecDepth 20000 in
theorem ggX6_span_X6_lay : GoodIn wsX6_span wsX6_lay := goodIn_r _ [18, 19, 20, 21, 4, 22, 6, 23, 24, 25, 26, 27, 28, 29, 30, 31, 32, 33, 34, 35, 36, 37, 38, 39, 40, 41, 42, 43, 44, 45, 46, 47, 48, 53, 54, 55, 56, 57, 58, 59, 60, 61, 62] (by decide +kernel) (by decide +kernel)
set_option maxRecDepth 20000 in
theorem gX6_span_X6_lay : GoodIn wsX6_span (wsV RX6 116 RX6 yX6_lay wsX6_lay) := goodIn_app (goodIn_of _ (by decide +kernel)) ggX6_span_X6_lay
set_option maxRecDepth 20000 in
theorem ggX6_span_X6_spanOf : GoodIn wsX6_span wsX6_spanOf := goodIn_r _ [52, 6, 27, 48, 32, 33, 4, 34, 53, 54, 55, 56, 57, 58, 59, 60, 61, 62] (by decide +kernel) (by decide +kernel)
set_option maxRecDepth 20000 in
theorem gX6_span_X6_spanOf : GoodIn wsX6_span (wsV RX6 125 RX6 yX6_spanOf wsX6_spanOf) := goodIn_app (goodIn_of _ (by decide +kernel)) ggX6_span_X6_spanOf
theorem dX6_span_0 : decode cX6_span 0 = .ok (.aload_n 0, 1) := by decide +kernel
theorem dX6_span_1 : decode cX6_span 1 = .ok (.iload_n 1, 1) := by decide +kernel
theorem dX6_span_2 : decode cX6_span 2 = .ok (.invokevirtual 81, 3) := by decide +kernel
theorem dX6_span_5 : decode cX6_span 5 = .ok (.ifCond .ne 10, 3) := by decide +kernel
theorem dX6_span_8 : decode cX6_span 8 = .ok (.aload_n 0, 1) := by decide +kernel
theorem dX6_span_9 : decode cX6_span 9 = .ok (.bipush (-2), 2) := by decide +kernel
theorem dX6_span_11 : decode cX6_span 11 = .ok (.invokevirtual 42, 3) := by decide +kernel
theorem dX6_span_14 : decode cX6_span 14 = .ok (.ireturn, 1) := by decide +kernel
theorem dX6_span_15 : decode cX6_span 15 = .ok (.aload_n 0, 1) := by decide +kernel
theorem dX6_span_16 : decode cX6_span 16 = .ok (.invokevirtual 116, 3) := by decide +kernel
theorem dX6_span_19 : decode cX6_span 19 = .ok (.aload_n 0, 1) := by decide +kernel
theorem dX6_span_20 : decode cX6_span 20 = .ok (.iload_n 1, 1) := by decide +kernel
theorem dX6_span_21 : decode cX6_span 21 = .ok (.invokevirtual 125, 3) := by decide +kernel
theorem dX6_span_24 : decode cX6_span 24 = .ok (.ireturn, 1) := by decide +kernel
set_option maxRecDepth 20000 in
theorem ggX6_mayStand_X6_noDemands : GoodIn wsX6_mayStand wsX6_noDemands := goodIn_r _ [6, 7, 22, 23, 24, 25, 26, 27, 28, 29, 30, 31] (by decide +kernel) (by decide +kernel)
set_option maxRecDepth 20000 in
theorem gX6_mayStand_X6_noDemands : GoodIn wsX6_mayStand (wsV RX6 90 RX6 yX6_noDemands wsX6_noDemands) := goodIn_app (goodIn_of _ (by decide +kernel)) ggX6_mayStand_X6_noDemands
set_option maxRecDepth 20000 in
theorem ggX6_mayStand_X6_demand : GoodIn wsX6_mayStand wsX6_demand := goodIn_r _ [11, 7, 12, 13, 14, 5, 15, 22, 23, 24, 25, 26, 27, 28, 29, 30, 31] (by decide +kernel) (by decide +kernel)
set_option maxRecDepth 20000 in
theorem gX6_mayStand_X6_demand : GoodIn wsX6_mayStand (wsV RX6 93 RX6 yX6_demand wsX6_demand) := goodIn_app (goodIn_of _ (by decide +kernel)) ggX6_mayStand_X6_demand
set_option maxRecDepth 20000 in
theorem ggX6_mayStand_X6_layRows : GoodIn wsX6_mayStand wsX6_layRows := goodIn_r _ [19, 20, 7, 21, 13, 14, 5, 15, 22, 23, 24, 25, 26, 27, 28, 29, 30, 31] (by decide +kernel) (by decide +kernel)
set_option maxRecDepth 20000 in
theorem gX6_mayStand_X6_layRows : GoodIn wsX6_mayStand (wsV RX6 103 RX6 yX6_layRows wsX6_layRows) := goodIn_app (goodIn_of _ (by decide +kernel)) ggX6_mayStand_X6_layRows
theorem dX6_mayStand_0 : decode cX6_mayStand 0 = .ok (.iconst 0, 1) := by decide +kernel
theorem dX6_mayStand_1 : decode cX6_mayStand 1 = .ok (.istore_n 2, 1) := by decide +kernel
theorem dX6_mayStand_2 : decode cX6_mayStand 2 = .ok (.aload_n 0, 1) := by decide +kernel
theorem dX6_mayStand_3 : decode cX6_mayStand 3 = .ok (.invokevirtual 90, 3) := by decide +kernel
theorem dX6_mayStand_6 : decode cX6_mayStand 6 = .ok (.iconst 0, 1) := by decide +kernel
theorem dX6_mayStand_7 : decode cX6_mayStand 7 = .ok (.istore_n 3, 1) := by decide +kernel
theorem dX6_mayStand_8 : decode cX6_mayStand 8 = .ok (.iload_n 3, 1) := by decide +kernel
theorem dX6_mayStand_9 : decode cX6_mayStand 9 = .ok (.iload_n 1, 1) := by decide +kernel
theorem dX6_mayStand_10 : decode cX6_mayStand 10 = .ok (.if_icmp .ge 70, 3) := by decide +kernel
theorem dX6_mayStand_13 : decode cX6_mayStand 13 = .ok (.iconst 1, 1) := by decide +kernel
theorem dX6_mayStand_14 : decode cX6_mayStand 14 = .ok (.aload_n 0, 1) := by decide +kernel
theorem dX6_mayStand_15 : decode cX6_mayStand 15 = .ok (.getfield 28, 3) := by decide +kernel
theorem dX6_mayStand_18 : decode cX6_mayStand 18 = .ok (.iload_n 3, 1) := by decide +kernel
theorem dX6_mayStand_19 : decode cX6_mayStand 19 = .ok (.iaload, 1) := by decide +kernel
theorem dX6_mayStand_20 : decode cX6_mayStand 20 = .ok (.bipush 10, 2) := by decide +kernel
theorem dX6_mayStand_22 : decode cX6_mayStand 22 = .ok (.idiv, 1) := by decide +kernel
theorem dX6_mayStand_23 : decode cX6_mayStand 23 = .ok (.ishl, 1) := by decide +kernel
theorem dX6_mayStand_24 : decode cX6_mayStand 24 = .ok (.iconst 1, 1) := by decide +kernel
theorem dX6_mayStand_25 : decode cX6_mayStand 25 = .ok (.aload_n 0, 1) := by decide +kernel
theorem dX6_mayStand_26 : decode cX6_mayStand 26 = .ok (.getfield 28, 3) := by decide +kernel
theorem dX6_mayStand_29 : decode cX6_mayStand 29 = .ok (.iload_n 3, 1) := by decide +kernel
theorem dX6_mayStand_30 : decode cX6_mayStand 30 = .ok (.iaload, 1) := by decide +kernel
theorem dX6_mayStand_31 : decode cX6_mayStand 31 = .ok (.bipush 10, 2) := by decide +kernel
theorem dX6_mayStand_33 : decode cX6_mayStand 33 = .ok (.irem, 1) := by decide +kernel
theorem dX6_mayStand_34 : decode cX6_mayStand 34 = .ok (.ishl, 1) := by decide +kernel
theorem dX6_mayStand_35 : decode cX6_mayStand 35 = .ok (.ior, 1) := by decide +kernel
theorem dX6_mayStand_36 : decode cX6_mayStand 36 = .ok (.istore 4, 2) := by decide +kernel
theorem dX6_mayStand_38 : decode cX6_mayStand 38 = .ok (.iload_n 2, 1) := by decide +kernel
theorem dX6_mayStand_39 : decode cX6_mayStand 39 = .ok (.iload 4, 2) := by decide +kernel
theorem dX6_mayStand_41 : decode cX6_mayStand 41 = .ok (.iand, 1) := by decide +kernel
theorem dX6_mayStand_42 : decode cX6_mayStand 42 = .ok (.ifCond .eq 5, 3) := by decide +kernel
theorem dX6_mayStand_45 : decode cX6_mayStand 45 = .ok (.iconst 0, 1) := by decide +kernel
theorem dX6_mayStand_46 : decode cX6_mayStand 46 = .ok (.ireturn, 1) := by decide +kernel
theorem dX6_mayStand_47 : decode cX6_mayStand 47 = .ok (.iload_n 2, 1) := by decide +kernel
theorem dX6_mayStand_48 : decode cX6_mayStand 48 = .ok (.iload 4, 2) := by decide +kernel
theorem dX6_mayStand_50 : decode cX6_mayStand 50 = .ok (.ior, 1) := by decide +kernel
theorem dX6_mayStand_51 : decode cX6_mayStand 51 = .ok (.istore_n 2, 1) := by decide +kernel
theorem dX6_mayStand_52 : decode cX6_mayStand 52 = .ok (.aload_n 0, 1) := by decide +kernel
theorem dX6_mayStand_53 : decode cX6_mayStand 53 = .ok (.aload_n 0, 1) := by decide +kernel
theorem dX6_mayStand_54 : decode cX6_mayStand 54 = .ok (.getfield 28, 3) := by decide +kernel
theorem dX6_mayStand_57 : decode cX6_mayStand 57 = .ok (.iload_n 3, 1) := by decide +kernel
theorem dX6_mayStand_58 : decode cX6_mayStand 58 = .ok (.iaload, 1) := by decide +kernel
theorem dX6_mayStand_59 : decode cX6_mayStand 59 = .ok (.bipush 10, 2) := by decide +kernel
theorem dX6_mayStand_61 : decode cX6_mayStand 61 = .ok (.idiv, 1) := by decide +kernel
theorem dX6_mayStand_62 : decode cX6_mayStand 62 = .ok (.aload_n 0, 1) := by decide +kernel
theorem dX6_mayStand_63 : decode cX6_mayStand 63 = .ok (.getfield 28, 3) := by decide +kernel
theorem dX6_mayStand_66 : decode cX6_mayStand 66 = .ok (.iload_n 3, 1) := by decide +kernel
theorem dX6_mayStand_67 : decode cX6_mayStand 67 = .ok (.iaload, 1) := by decide +kernel
theorem dX6_mayStand_68 : decode cX6_mayStand 68 = .ok (.bipush 10, 2) := by decide +kernel
theorem dX6_mayStand_70 : decode cX6_mayStand 70 = .ok (.irem, 1) := by decide +kernel
theorem dX6_mayStand_71 : decode cX6_mayStand 71 = .ok (.invokevirtual 93, 3) := by decide +kernel
theorem dX6_mayStand_74 : decode cX6_mayStand 74 = .ok (.iinc 3 1, 3) := by decide +kernel
theorem dX6_mayStand_77 : decode cX6_mayStand 77 = .ok (.goto (-69), 3) := by decide +kernel
theorem dX6_mayStand_80 : decode cX6_mayStand 80 = .ok (.aload_n 0, 1) := by decide +kernel
theorem dX6_mayStand_81 : decode cX6_mayStand 81 = .ok (.invokevirtual 103, 3) := by decide +kernel
theorem dX6_mayStand_84 : decode cX6_mayStand 84 = .ok (.ireturn, 1) := by decide +kernel
set_option maxRecDepth 20000 in
theorem ggX6_findList_X6_fits : GoodIn wsX6_findList wsX6_fits := goodIn_r _ [7, 8, 9, 10, 11, 6, 12, 13, 14, 15, 16, 38, 39, 40, 41, 42, 43, 44, 45, 46, 47] (by decide +kernel) (by decide +kernel)
set_option maxRecDepth 20000 in
theorem gX6_findList_X6_fits : GoodIn wsX6_findList (wsV RX6 87 RX6 yX6_fits wsX6_fits) := goodIn_app (goodIn_of _ (by decide +kernel)) ggX6_findList_X6_fits
set_option maxRecDepth 20000 in
theorem ggX6_findList_X6_mayStand : GoodIn wsX6_findList wsX6_mayStand := goodIn_r _ [20, 1, 21, 22, 23, 6, 24, 25, 26, 27, 28, 29, 8, 30, 31, 32, 33, 34, 35, 36, 13, 37, 38, 39, 40, 41, 42, 43, 44, 45, 46, 47] (by decide +kernel) (by decide +kernel)
set_option maxRecDepth 20000 in
theorem gX6_findList_X6_mayStand : GoodIn wsX6_findList (wsV RX6 128 RX6 yX6_mayStand wsX6_mayStand) := goodIn_app (goodIn_of _ (by decide +kernel)) ggX6_findList_X6_mayStand
theorem dX6_findList_0 : decode cX6_findList 0 = .ok (.iconst 0, 1) := by decide +kernel
theorem dX6_findList_1 : decode cX6_findList 1 = .ok (.istore_n 2, 1) := by decide +kernel
theorem dX6_findList_2 : decode cX6_findList 2 = .ok (.aload_n 0, 1) := by decide +kernel
theorem dX6_findList_3 : decode cX6_findList 3 = .ok (.getfield 28, 3) := by decide +kernel
theorem dX6_findList_6 : decode cX6_findList 6 = .ok (.iconst 0, 1) := by decide +kernel
theorem dX6_findList_7 : decode cX6_findList 7 = .ok (.iconst (-1), 1) := by decide +kernel
theorem dX6_findList_8 : decode cX6_findList 8 = .ok (.iastore, 1) := by decide +kernel
theorem dX6_findList_9 : decode cX6_findList 9 = .ok (.iload_n 2, 1) := by decide +kernel
theorem dX6_findList_10 : decode cX6_findList 10 = .ok (.ifCond .lt 99, 3) := by decide +kernel
theorem dX6_findList_13 : decode cX6_findList 13 = .ok (.iload_n 2, 1) := by decide +kernel
theorem dX6_findList_14 : decode cX6_findList 14 = .ok (.iload_n 1, 1) := by decide +kernel
theorem dX6_findList_15 : decode cX6_findList 15 = .ok (.if_icmp .ge 94, 3) := by decide +kernel
theorem dX6_findList_18 : decode cX6_findList 18 = .ok (.aload_n 0, 1) := by decide +kernel
theorem dX6_findList_19 : decode cX6_findList 19 = .ok (.getfield 28, 3) := by decide +kernel
theorem dX6_findList_22 : decode cX6_findList 22 = .ok (.iload_n 2, 1) := by decide +kernel
theorem dX6_findList_23 : decode cX6_findList 23 = .ok (.dup2, 1) := by decide +kernel
theorem dX6_findList_24 : decode cX6_findList 24 = .ok (.iaload, 1) := by decide +kernel
theorem dX6_findList_25 : decode cX6_findList 25 = .ok (.iconst 1, 1) := by decide +kernel
theorem dX6_findList_26 : decode cX6_findList 26 = .ok (.iadd, 1) := by decide +kernel
theorem dX6_findList_27 : decode cX6_findList 27 = .ok (.iastore, 1) := by decide +kernel
theorem dX6_findList_28 : decode cX6_findList 28 = .ok (.aload_n 0, 1) := by decide +kernel
theorem dX6_findList_29 : decode cX6_findList 29 = .ok (.getfield 28, 3) := by decide +kernel
theorem dX6_findList_32 : decode cX6_findList 32 = .ok (.iload_n 2, 1) := by decide +kernel
theorem dX6_findList_33 : decode cX6_findList 33 = .ok (.iaload, 1) := by decide +kernel
theorem dX6_findList_34 : decode cX6_findList 34 = .ok (.bipush 99, 2) := by decide +kernel
theorem dX6_findList_36 : decode cX6_findList 36 = .ok (.if_icmp .le 9, 3) := by decide +kernel
theorem dX6_findList_39 : decode cX6_findList 39 = .ok (.iinc 2 (-1), 3) := by decide +kernel
theorem dX6_findList_42 : decode cX6_findList 42 = .ok (.goto (-33), 3) := by decide +kernel
theorem dX6_findList_45 : decode cX6_findList 45 = .ok (.aload_n 0, 1) := by decide +kernel
theorem dX6_findList_46 : decode cX6_findList 46 = .ok (.aload_n 0, 1) := by decide +kernel
theorem dX6_findList_47 : decode cX6_findList 47 = .ok (.getfield 28, 3) := by decide +kernel
theorem dX6_findList_50 : decode cX6_findList 50 = .ok (.iload_n 2, 1) := by decide +kernel
theorem dX6_findList_51 : decode cX6_findList 51 = .ok (.iaload, 1) := by decide +kernel
theorem dX6_findList_52 : decode cX6_findList 52 = .ok (.bipush 10, 2) := by decide +kernel
theorem dX6_findList_54 : decode cX6_findList 54 = .ok (.idiv, 1) := by decide +kernel
theorem dX6_findList_55 : decode cX6_findList 55 = .ok (.aload_n 0, 1) := by decide +kernel
theorem dX6_findList_56 : decode cX6_findList 56 = .ok (.getfield 28, 3) := by decide +kernel
theorem dX6_findList_59 : decode cX6_findList 59 = .ok (.iload_n 2, 1) := by decide +kernel
theorem dX6_findList_60 : decode cX6_findList 60 = .ok (.iaload, 1) := by decide +kernel
theorem dX6_findList_61 : decode cX6_findList 61 = .ok (.bipush 10, 2) := by decide +kernel
theorem dX6_findList_63 : decode cX6_findList 63 = .ok (.irem, 1) := by decide +kernel
theorem dX6_findList_64 : decode cX6_findList 64 = .ok (.invokevirtual 87, 3) := by decide +kernel
theorem dX6_findList_67 : decode cX6_findList 67 = .ok (.ifCond .eq (-58), 3) := by decide +kernel
theorem dX6_findList_70 : decode cX6_findList 70 = .ok (.aload_n 0, 1) := by decide +kernel
theorem dX6_findList_71 : decode cX6_findList 71 = .ok (.iload_n 2, 1) := by decide +kernel
theorem dX6_findList_72 : decode cX6_findList 72 = .ok (.iconst 1, 1) := by decide +kernel
theorem dX6_findList_73 : decode cX6_findList 73 = .ok (.iadd, 1) := by decide +kernel
theorem dX6_findList_74 : decode cX6_findList 74 = .ok (.invokevirtual 128, 3) := by decide +kernel
theorem dX6_findList_77 : decode cX6_findList 77 = .ok (.ifCond .eq (-68), 3) := by decide +kernel
theorem dX6_findList_80 : decode cX6_findList 80 = .ok (.aload_n 0, 1) := by decide +kernel
theorem dX6_findList_81 : decode cX6_findList 81 = .ok (.getfield 28, 3) := by decide +kernel
theorem dX6_findList_84 : decode cX6_findList 84 = .ok (.iload_n 2, 1) := by decide +kernel
theorem dX6_findList_85 : decode cX6_findList 85 = .ok (.iaload, 1) := by decide +kernel
theorem dX6_findList_86 : decode cX6_findList 86 = .ok (.bipush 10, 2) := by decide +kernel
theorem dX6_findList_88 : decode cX6_findList 88 = .ok (.idiv, 1) := by decide +kernel
theorem dX6_findList_89 : decode cX6_findList 89 = .ok (.istore_n 3, 1) := by decide +kernel
theorem dX6_findList_90 : decode cX6_findList 90 = .ok (.iinc 2 1, 3) := by decide +kernel
theorem dX6_findList_93 : decode cX6_findList 93 = .ok (.aload_n 0, 1) := by decide +kernel
theorem dX6_findList_94 : decode cX6_findList 94 = .ok (.getfield 28, 3) := by decide +kernel
theorem dX6_findList_97 : decode cX6_findList 97 = .ok (.iload_n 2, 1) := by decide +kernel
theorem dX6_findList_98 : decode cX6_findList 98 = .ok (.bipush 10, 2) := by decide +kernel
theorem dX6_findList_100 : decode cX6_findList 100 = .ok (.iload_n 3, 1) := by decide +kernel
theorem dX6_findList_101 : decode cX6_findList 101 = .ok (.imul, 1) := by decide +kernel
theorem dX6_findList_102 : decode cX6_findList 102 = .ok (.bipush 9, 2) := by decide +kernel
theorem dX6_findList_104 : decode cX6_findList 104 = .ok (.iadd, 1) := by decide +kernel
theorem dX6_findList_105 : decode cX6_findList 105 = .ok (.iastore, 1) := by decide +kernel
theorem dX6_findList_106 : decode cX6_findList 106 = .ok (.goto (-97), 3) := by decide +kernel
theorem dX6_findList_109 : decode cX6_findList 109 = .ok (.aload_n 0, 1) := by decide +kernel
theorem dX6_findList_110 : decode cX6_findList 110 = .ok (.iload_n 1, 1) := by decide +kernel
theorem dX6_findList_111 : decode cX6_findList 111 = .ok (.putfield 131, 3) := by decide +kernel
theorem dX6_findList_114 : decode cX6_findList 114 = .ok (.iload_n 2, 1) := by decide +kernel
theorem dX6_findList_115 : decode cX6_findList 115 = .ok (.iload_n 1, 1) := by decide +kernel
theorem dX6_findList_116 : decode cX6_findList 116 = .ok (.if_icmp .ne 7, 3) := by decide +kernel
theorem dX6_findList_119 : decode cX6_findList 119 = .ok (.iconst 1, 1) := by decide +kernel
theorem dX6_findList_120 : decode cX6_findList 120 = .ok (.goto 4, 3) := by decide +kernel
theorem dX6_findList_123 : decode cX6_findList 123 = .ok (.iconst 0, 1) := by decide +kernel
theorem dX6_findList_124 : decode cX6_findList 124 = .ok (.ireturn, 1) := by decide +kernel
set_option maxRecDepth 20000 in
theorem ggX6_findBest_X6_layUsed : GoodIn wsX6_findBest wsX6_layUsed := goodIn_r _ [6, 7, 8, 9, 10, 5, 11, 1, 12, 13, 14, 50, 51, 52, 53, 54, 55, 56, 57, 58, 59] (by decide +kernel) (by decide +kernel)
set_option maxRecDepth 20000 in
theorem gX6_findBest_X6_layUsed : GoodIn wsX6_findBest (wsV RX6 84 RX6 yX6_layUsed wsX6_layUsed) := goodIn_app (goodIn_of _ (by decide +kernel)) ggX6_findBest_X6_layUsed
set_option maxRecDepth 20000 in
theorem ggX6_findBest_X6_findList : GoodIn wsX6_findBest wsX6_findList := goodIn_r _ [18, 19, 20, 21, 22, 23, 5, 24, 7, 25, 26, 27, 28, 1, 29, 30, 31, 32, 33, 34, 35, 36, 37, 38, 39, 40, 41, 42, 43, 44, 12, 13, 14, 45, 46, 47, 48, 49, 50, 51, 52, 53, 54, 55, 56, 57, 58, 59] (by decide +kernel) (by decide +kernel)
set_option maxRecDepth 20000 in
theorem gX6_findBest_X6_findList : GoodIn wsX6_findBest (wsV RX6 134 RX6 yX6_findList wsX6_findList) := goodIn_app (goodIn_of _ (by decide +kernel)) ggX6_findBest_X6_findList
theorem dX6_findBest_0 : decode cX6_findBest 0 = .ok (.aload_n 0, 1) := by decide +kernel
theorem dX6_findBest_1 : decode cX6_findBest 1 = .ok (.invokevirtual 84, 3) := by decide +kernel
theorem dX6_findBest_4 : decode cX6_findBest 4 = .ok (.aload_n 0, 1) := by decide +kernel
theorem dX6_findBest_5 : decode cX6_findBest 5 = .ok (.getfield 7, 3) := by decide +kernel
theorem dX6_findBest_8 : decode cX6_findBest 8 = .ok (.iconst 0, 1) := by decide +kernel
theorem dX6_findBest_9 : decode cX6_findBest 9 = .ok (.iaload, 1) := by decide +kernel
theorem dX6_findBest_10 : decode cX6_findBest 10 = .ok (.iconst 2, 1) := by decide +kernel
theorem dX6_findBest_11 : decode cX6_findBest 11 = .ok (.idiv, 1) := by decide +kernel
theorem dX6_findBest_12 : decode cX6_findBest 12 = .ok (.aload_n 0, 1) := by decide +kernel
theorem dX6_findBest_13 : decode cX6_findBest 13 = .ok (.getfield 7, 3) := by decide +kernel
theorem dX6_findBest_16 : decode cX6_findBest 16 = .ok (.iconst 1, 1) := by decide +kernel
theorem dX6_findBest_17 : decode cX6_findBest 17 = .ok (.iaload, 1) := by decide +kernel
theorem dX6_findBest_18 : decode cX6_findBest 18 = .ok (.iconst 2, 1) := by decide +kernel
theorem dX6_findBest_19 : decode cX6_findBest 19 = .ok (.idiv, 1) := by decide +kernel
theorem dX6_findBest_20 : decode cX6_findBest 20 = .ok (.iadd, 1) := by decide +kernel
theorem dX6_findBest_21 : decode cX6_findBest 21 = .ok (.istore_n 1, 1) := by decide +kernel
theorem dX6_findBest_22 : decode cX6_findBest 22 = .ok (.aload_n 0, 1) := by decide +kernel
theorem dX6_findBest_23 : decode cX6_findBest 23 = .ok (.iload_n 1, 1) := by decide +kernel
theorem dX6_findBest_24 : decode cX6_findBest 24 = .ok (.invokevirtual 134, 3) := by decide +kernel
theorem dX6_findBest_27 : decode cX6_findBest 27 = .ok (.ifCond .ne 9, 3) := by decide +kernel
theorem dX6_findBest_30 : decode cX6_findBest 30 = .ok (.iinc 1 (-1), 3) := by decide +kernel
theorem dX6_findBest_33 : decode cX6_findBest 33 = .ok (.goto (-11), 3) := by decide +kernel
theorem dX6_findBest_36 : decode cX6_findBest 36 = .ok (.return_, 1) := by decide +kernel
set_option maxRecDepth 20000 in
theorem ggX6_bestUpper_X6_error : GoodIn wsX6_bestUpper wsX6_error := goodIn_r _ [7, 8, 59, 60, 61, 62, 63, 64, 65, 66, 67, 68] (by decide +kernel) (by decide +kernel)
set_option maxRecDepth 20000 in
theorem gX6_bestUpper_X6_error : GoodIn wsX6_bestUpper (wsV RX6 42 RX6 yX6_error wsX6_error) := goodIn_app (goodIn_of _ (by decide +kernel)) ggX6_bestUpper_X6_error
set_option maxRecDepth 20000 in
theorem ggX6_bestUpper_X6_findBest : GoodIn wsX6_bestUpper wsX6_findBest := goodIn_r _ [12, 13, 14, 15, 16, 6, 17, 18, 19, 20, 21, 22, 23, 24, 25, 26, 27, 28, 29, 2, 1, 30, 31, 32, 33, 34, 35, 36, 37, 38, 39, 40, 41, 42, 43, 44, 45, 46, 47, 48, 49, 50, 51, 52, 53, 54, 55, 56, 57, 58, 59, 60, 61, 62, 63, 64, 65, 66, 67, 68] (by decide +kernel) (by decide +kernel)
set_option maxRecDepth 20000 in
theorem gX6_bestUpper_X6_findBest : GoodIn wsX6_bestUpper (wsV RX6 137 RX6 yX6_findBest wsX6_findBest) := goodIn_app (goodIn_of _ (by decide +kernel)) ggX6_bestUpper_X6_findBest
theorem dX6_bestUpper_0 : decode cX6_bestUpper 0 = .ok (.iload_n 1, 1) := by decide +kernel
theorem dX6_bestUpper_1 : decode cX6_bestUpper 1 = .ok (.iconst (-1), 1) := by decide +kernel
theorem dX6_bestUpper_2 : decode cX6_bestUpper 2 = .ok (.if_icmp .ge 10, 3) := by decide +kernel
theorem dX6_bestUpper_5 : decode cX6_bestUpper 5 = .ok (.aload_n 0, 1) := by decide +kernel
theorem dX6_bestUpper_6 : decode cX6_bestUpper 6 = .ok (.bipush (-2), 2) := by decide +kernel
theorem dX6_bestUpper_8 : decode cX6_bestUpper 8 = .ok (.invokevirtual 42, 3) := by decide +kernel
theorem dX6_bestUpper_11 : decode cX6_bestUpper 11 = .ok (.ireturn, 1) := by decide +kernel
theorem dX6_bestUpper_12 : decode cX6_bestUpper 12 = .ok (.aload_n 0, 1) := by decide +kernel
theorem dX6_bestUpper_13 : decode cX6_bestUpper 13 = .ok (.invokevirtual 137, 3) := by decide +kernel
theorem dX6_bestUpper_16 : decode cX6_bestUpper 16 = .ok (.iload_n 1, 1) := by decide +kernel
theorem dX6_bestUpper_17 : decode cX6_bestUpper 17 = .ok (.ifCond .ge 10, 3) := by decide +kernel
theorem dX6_bestUpper_20 : decode cX6_bestUpper 20 = .ok (.aload_n 0, 1) := by decide +kernel
theorem dX6_bestUpper_21 : decode cX6_bestUpper 21 = .ok (.getfield 131, 3) := by decide +kernel
theorem dX6_bestUpper_24 : decode cX6_bestUpper 24 = .ok (.goto 24, 3) := by decide +kernel
theorem dX6_bestUpper_27 : decode cX6_bestUpper 27 = .ok (.iload_n 1, 1) := by decide +kernel
theorem dX6_bestUpper_28 : decode cX6_bestUpper 28 = .ok (.aload_n 0, 1) := by decide +kernel
theorem dX6_bestUpper_29 : decode cX6_bestUpper 29 = .ok (.getfield 131, 3) := by decide +kernel
theorem dX6_bestUpper_32 : decode cX6_bestUpper 32 = .ok (.if_icmp .ge 15, 3) := by decide +kernel
theorem dX6_bestUpper_35 : decode cX6_bestUpper 35 = .ok (.aload_n 0, 1) := by decide +kernel
theorem dX6_bestUpper_36 : decode cX6_bestUpper 36 = .ok (.getfield 28, 3) := by decide +kernel
theorem dX6_bestUpper_39 : decode cX6_bestUpper 39 = .ok (.iload_n 1, 1) := by decide +kernel
theorem dX6_bestUpper_40 : decode cX6_bestUpper 40 = .ok (.iaload, 1) := by decide +kernel
theorem dX6_bestUpper_41 : decode cX6_bestUpper 41 = .ok (.bipush 10, 2) := by decide +kernel
theorem dX6_bestUpper_43 : decode cX6_bestUpper 43 = .ok (.idiv, 1) := by decide +kernel
theorem dX6_bestUpper_44 : decode cX6_bestUpper 44 = .ok (.goto 4, 3) := by decide +kernel
theorem dX6_bestUpper_47 : decode cX6_bestUpper 47 = .ok (.iconst (-1), 1) := by decide +kernel
theorem dX6_bestUpper_48 : decode cX6_bestUpper 48 = .ok (.ireturn, 1) := by decide +kernel
set_option maxRecDepth 20000 in
theorem ggX6_bestLower_X6_error : GoodIn wsX6_bestLower wsX6_error := goodIn_r _ [7, 8, 59, 60, 61, 62, 63, 64, 65, 66, 67, 68] (by decide +kernel) (by decide +kernel)
set_option maxRecDepth 20000 in
theorem gX6_bestLower_X6_error : GoodIn wsX6_bestLower (wsV RX6 42 RX6 yX6_error wsX6_error) := goodIn_app (goodIn_of _ (by decide +kernel)) ggX6_bestLower_X6_error
set_option maxRecDepth 20000 in
theorem ggX6_bestLower_X6_findBest : GoodIn wsX6_bestLower wsX6_findBest := goodIn_r _ [12, 13, 14, 15, 16, 6, 17, 18, 19, 20, 21, 22, 23, 24, 25, 26, 27, 28, 29, 2, 1, 30, 31, 32, 33, 34, 35, 36, 37, 38, 39, 40, 41, 42, 43, 44, 45, 46, 47, 48, 49, 50, 51, 52, 53, 54, 55, 56, 57, 58, 59, 60, 61, 62, 63, 64, 65, 66, 67, 68] (by decide +kernel) (by decide +kernel)
set_option maxRecDepth 20000 in
theorem gX6_bestLower_X6_findBest : GoodIn wsX6_bestLower (wsV RX6 137 RX6 yX6_findBest wsX6_findBest) := goodIn_app (goodIn_of _ (by decide +kernel)) ggX6_bestLower_X6_findBest
theorem dX6_bestLower_0 : decode cX6_bestLower 0 = .ok (.iload_n 1, 1) := by decide +kernel
theorem dX6_bestLower_1 : decode cX6_bestLower 1 = .ok (.ifCond .ge 10, 3) := by decide +kernel
theorem dX6_bestLower_4 : decode cX6_bestLower 4 = .ok (.aload_n 0, 1) := by decide +kernel
theorem dX6_bestLower_5 : decode cX6_bestLower 5 = .ok (.bipush (-2), 2) := by decide +kernel
theorem dX6_bestLower_7 : decode cX6_bestLower 7 = .ok (.invokevirtual 42, 3) := by decide +kernel
theorem dX6_bestLower_10 : decode cX6_bestLower 10 = .ok (.ireturn, 1) := by decide +kernel
theorem dX6_bestLower_11 : decode cX6_bestLower 11 = .ok (.aload_n 0, 1) := by decide +kernel
theorem dX6_bestLower_12 : decode cX6_bestLower 12 = .ok (.invokevirtual 137, 3) := by decide +kernel
theorem dX6_bestLower_15 : decode cX6_bestLower 15 = .ok (.iload_n 1, 1) := by decide +kernel
theorem dX6_bestLower_16 : decode cX6_bestLower 16 = .ok (.aload_n 0, 1) := by decide +kernel
theorem dX6_bestLower_17 : decode cX6_bestLower 17 = .ok (.getfield 131, 3) := by decide +kernel
theorem dX6_bestLower_20 : decode cX6_bestLower 20 = .ok (.if_icmp .ge 15, 3) := by decide +kernel
theorem dX6_bestLower_23 : decode cX6_bestLower 23 = .ok (.aload_n 0, 1) := by decide +kernel
theorem dX6_bestLower_24 : decode cX6_bestLower 24 = .ok (.getfield 28, 3) := by decide +kernel
theorem dX6_bestLower_27 : decode cX6_bestLower 27 = .ok (.iload_n 1, 1) := by decide +kernel
theorem dX6_bestLower_28 : decode cX6_bestLower 28 = .ok (.iaload, 1) := by decide +kernel
theorem dX6_bestLower_29 : decode cX6_bestLower 29 = .ok (.bipush 10, 2) := by decide +kernel
theorem dX6_bestLower_31 : decode cX6_bestLower 31 = .ok (.irem, 1) := by decide +kernel
theorem dX6_bestLower_32 : decode cX6_bestLower 32 = .ok (.goto 4, 3) := by decide +kernel
theorem dX6_bestLower_35 : decode cX6_bestLower 35 = .ok (.iconst (-1), 1) := by decide +kernel
theorem dX6_bestLower_36 : decode cX6_bestLower 36 = .ok (.ireturn, 1) := by decide +kernel
set_option maxRecDepth 20000 in
theorem ggX6_foldBest_X6_save : GoodIn wsX6_foldBest wsX6_save := goodIn_r _ [8, 9, 10, 2, 72, 73, 74, 75, 76, 77, 78, 79, 80, 81] (by decide +kernel) (by decide +kernel)
set_option maxRecDepth 20000 in
theorem gX6_foldBest_X6_save : GoodIn wsX6_foldBest (wsV RX6 46 RX6 yX6_save wsX6_save) := goodIn_app (goodIn_of _ (by decide +kernel)) ggX6_foldBest_X6_save
set_option maxRecDepth 20000 in
theorem ggX6_foldBest_X6_findBest : GoodIn wsX6_foldBest wsX6_findBest := goodIn_r _ [14, 2, 15, 16, 17, 7, 18, 19, 20, 21, 22, 23, 24, 25, 26, 27, 28, 29, 30, 3, 1, 31, 32, 33, 34, 35, 36, 37, 38, 39, 40, 41, 42, 43, 44, 45, 46, 47, 48, 49, 50, 51, 52, 53, 54, 55, 56, 57, 58, 59, 72, 73, 74, 75, 76, 77, 78, 79, 80, 81] (by decide +kernel) (by decide +kernel)
set_option maxRecDepth 20000 in
theorem gX6_foldBest_X6_findBest : GoodIn wsX6_foldBest (wsV RX6 137 RX6 yX6_findBest wsX6_findBest) := goodIn_app (goodIn_of _ (by decide +kernel)) ggX6_foldBest_X6_findBest
set_option maxRecDepth 20000 in
theorem ggX6_foldBest_X6_noFolds : GoodIn wsX6_foldBest wsX6_noFolds := goodIn_r _ [63, 2, 72, 73, 74, 75, 76, 77, 78, 79, 80, 81] (by decide +kernel) (by decide +kernel)
set_option maxRecDepth 20000 in
theorem gX6_foldBest_X6_noFolds : GoodIn wsX6_foldBest (wsV RX6 31 RX6 yX6_noFolds wsX6_noFolds) := goodIn_app (goodIn_of _ (by decide +kernel)) ggX6_foldBest_X6_noFolds
set_option maxRecDepth 20000 in
theorem ggX6_foldBest_X6_areaNow : GoodIn wsX6_foldBest wsX6_areaNow := goodIn_r _ [67, 2, 68, 69, 70, 7, 71, 72, 73, 74, 75, 76, 77, 78, 79, 80, 81] (by decide +kernel) (by decide +kernel)
set_option maxRecDepth 20000 in
theorem gX6_foldBest_X6_areaNow : GoodIn wsX6_foldBest (wsV RX6 122 RX6 yX6_areaNow wsX6_areaNow) := goodIn_app (goodIn_of _ (by decide +kernel)) ggX6_foldBest_X6_areaNow
theorem dX6_foldBest_0 : decode cX6_foldBest 0 = .ok (.aload_n 0, 1) := by decide +kernel
theorem dX6_foldBest_1 : decode cX6_foldBest 1 = .ok (.invokevirtual 46, 3) := by decide +kernel
theorem dX6_foldBest_4 : decode cX6_foldBest 4 = .ok (.aload_n 0, 1) := by decide +kernel
theorem dX6_foldBest_5 : decode cX6_foldBest 5 = .ok (.invokevirtual 137, 3) := by decide +kernel
theorem dX6_foldBest_8 : decode cX6_foldBest 8 = .ok (.aload_n 0, 1) := by decide +kernel
theorem dX6_foldBest_9 : decode cX6_foldBest 9 = .ok (.invokevirtual 31, 3) := by decide +kernel
theorem dX6_foldBest_12 : decode cX6_foldBest 12 = .ok (.iconst 0, 1) := by decide +kernel
theorem dX6_foldBest_13 : decode cX6_foldBest 13 = .ok (.istore_n 1, 1) := by decide +kernel
theorem dX6_foldBest_14 : decode cX6_foldBest 14 = .ok (.iload_n 1, 1) := by decide +kernel
theorem dX6_foldBest_15 : decode cX6_foldBest 15 = .ok (.aload_n 0, 1) := by decide +kernel
theorem dX6_foldBest_16 : decode cX6_foldBest 16 = .ok (.getfield 131, 3) := by decide +kernel
theorem dX6_foldBest_19 : decode cX6_foldBest 19 = .ok (.if_icmp .ge 61, 3) := by decide +kernel
theorem dX6_foldBest_22 : decode cX6_foldBest 22 = .ok (.aload_n 0, 1) := by decide +kernel
theorem dX6_foldBest_23 : decode cX6_foldBest 23 = .ok (.getfield 7, 3) := by decide +kernel
theorem dX6_foldBest_26 : decode cX6_foldBest 26 = .ok (.bipush 43, 2) := by decide +kernel
theorem dX6_foldBest_28 : decode cX6_foldBest 28 = .ok (.aload_n 0, 1) := by decide +kernel
theorem dX6_foldBest_29 : decode cX6_foldBest 29 = .ok (.getfield 28, 3) := by decide +kernel
theorem dX6_foldBest_32 : decode cX6_foldBest 32 = .ok (.iload_n 1, 1) := by decide +kernel
theorem dX6_foldBest_33 : decode cX6_foldBest 33 = .ok (.iaload, 1) := by decide +kernel
theorem dX6_foldBest_34 : decode cX6_foldBest 34 = .ok (.bipush 10, 2) := by decide +kernel
theorem dX6_foldBest_36 : decode cX6_foldBest 36 = .ok (.idiv, 1) := by decide +kernel
theorem dX6_foldBest_37 : decode cX6_foldBest 37 = .ok (.iadd, 1) := by decide +kernel
theorem dX6_foldBest_38 : decode cX6_foldBest 38 = .ok (.aload_n 0, 1) := by decide +kernel
theorem dX6_foldBest_39 : decode cX6_foldBest 39 = .ok (.getfield 28, 3) := by decide +kernel
theorem dX6_foldBest_42 : decode cX6_foldBest 42 = .ok (.iload_n 1, 1) := by decide +kernel
theorem dX6_foldBest_43 : decode cX6_foldBest 43 = .ok (.iaload, 1) := by decide +kernel
theorem dX6_foldBest_44 : decode cX6_foldBest 44 = .ok (.bipush 10, 2) := by decide +kernel
theorem dX6_foldBest_46 : decode cX6_foldBest 46 = .ok (.irem, 1) := by decide +kernel
theorem dX6_foldBest_47 : decode cX6_foldBest 47 = .ok (.iastore, 1) := by decide +kernel
theorem dX6_foldBest_48 : decode cX6_foldBest 48 = .ok (.aload_n 0, 1) := by decide +kernel
theorem dX6_foldBest_49 : decode cX6_foldBest 49 = .ok (.getfield 7, 3) := by decide +kernel
theorem dX6_foldBest_52 : decode cX6_foldBest 52 = .ok (.bipush 33, 2) := by decide +kernel
theorem dX6_foldBest_54 : decode cX6_foldBest 54 = .ok (.aload_n 0, 1) := by decide +kernel
theorem dX6_foldBest_55 : decode cX6_foldBest 55 = .ok (.getfield 28, 3) := by decide +kernel
theorem dX6_foldBest_58 : decode cX6_foldBest 58 = .ok (.iload_n 1, 1) := by decide +kernel
theorem dX6_foldBest_59 : decode cX6_foldBest 59 = .ok (.iaload, 1) := by decide +kernel
theorem dX6_foldBest_60 : decode cX6_foldBest 60 = .ok (.bipush 10, 2) := by decide +kernel
theorem dX6_foldBest_62 : decode cX6_foldBest 62 = .ok (.irem, 1) := by decide +kernel
theorem dX6_foldBest_63 : decode cX6_foldBest 63 = .ok (.iadd, 1) := by decide +kernel
theorem dX6_foldBest_64 : decode cX6_foldBest 64 = .ok (.aload_n 0, 1) := by decide +kernel
theorem dX6_foldBest_65 : decode cX6_foldBest 65 = .ok (.getfield 28, 3) := by decide +kernel
theorem dX6_foldBest_68 : decode cX6_foldBest 68 = .ok (.iload_n 1, 1) := by decide +kernel
theorem dX6_foldBest_69 : decode cX6_foldBest 69 = .ok (.iaload, 1) := by decide +kernel
theorem dX6_foldBest_70 : decode cX6_foldBest 70 = .ok (.bipush 10, 2) := by decide +kernel
theorem dX6_foldBest_72 : decode cX6_foldBest 72 = .ok (.idiv, 1) := by decide +kernel
theorem dX6_foldBest_73 : decode cX6_foldBest 73 = .ok (.iastore, 1) := by decide +kernel
theorem dX6_foldBest_74 : decode cX6_foldBest 74 = .ok (.iinc 1 1, 3) := by decide +kernel
theorem dX6_foldBest_77 : decode cX6_foldBest 77 = .ok (.goto (-63), 3) := by decide +kernel
theorem dX6_foldBest_80 : decode cX6_foldBest 80 = .ok (.aload_n 0, 1) := by decide +kernel
theorem dX6_foldBest_81 : decode cX6_foldBest 81 = .ok (.invokevirtual 122, 3) := by decide +kernel
theorem dX6_foldBest_84 : decode cX6_foldBest 84 = .ok (.ireturn, 1) := by decide +kernel
set_option maxRecDepth 20000 in
theorem ggX6_errorCount_X6_in : GoodIn wsX6_errorCount wsX6_in := goodIn_r _ [5] (by decide +kernel) (by decide +kernel)
set_option maxRecDepth 20000 in
theorem gX6_errorCount_X6_in : GoodIn wsX6_errorCount (va_wsS RX6 34 yX6_in wsX6_in) := goodIn_app (goodIn_of _ (by decide +kernel)) ggX6_errorCount_X6_in
set_option maxRecDepth 20000 in
theorem ggX6_errorCount_X6_error : GoodIn wsX6_errorCount wsX6_error := goodIn_r _ [9, 1, 10, 11, 12, 13, 14, 15, 16, 17, 18, 19] (by decide +kernel) (by decide +kernel)
set_option maxRecDepth 20000 in
theorem gX6_errorCount_X6_error : GoodIn wsX6_errorCount (wsV RX6 42 RX6 yX6_error wsX6_error) := goodIn_app (goodIn_of _ (by decide +kernel)) ggX6_errorCount_X6_error
theorem dX6_errorCount_0 : decode cX6_errorCount 0 = .ok (.iload_n 1, 1) := by decide +kernel
theorem dX6_errorCount_1 : decode cX6_errorCount 1 = .ok (.bipush (-6), 2) := by decide +kernel
theorem dX6_errorCount_3 : decode cX6_errorCount 3 = .ok (.bipush (-2), 2) := by decide +kernel
theorem dX6_errorCount_5 : decode cX6_errorCount 5 = .ok (.invokestatic 34, 3) := by decide +kernel
theorem dX6_errorCount_8 : decode cX6_errorCount 8 = .ok (.ifCond .eq 15, 3) := by decide +kernel
theorem dX6_errorCount_11 : decode cX6_errorCount 11 = .ok (.aload_n 0, 1) := by decide +kernel
theorem dX6_errorCount_12 : decode cX6_errorCount 12 = .ok (.getfield 16, 3) := by decide +kernel
theorem dX6_errorCount_15 : decode cX6_errorCount 15 = .ok (.bipush (-2), 2) := by decide +kernel
theorem dX6_errorCount_17 : decode cX6_errorCount 17 = .ok (.iload_n 1, 1) := by decide +kernel
theorem dX6_errorCount_18 : decode cX6_errorCount 18 = .ok (.isub, 1) := by decide +kernel
theorem dX6_errorCount_19 : decode cX6_errorCount 19 = .ok (.iaload, 1) := by decide +kernel
theorem dX6_errorCount_20 : decode cX6_errorCount 20 = .ok (.goto 9, 3) := by decide +kernel
theorem dX6_errorCount_23 : decode cX6_errorCount 23 = .ok (.aload_n 0, 1) := by decide +kernel
theorem dX6_errorCount_24 : decode cX6_errorCount 24 = .ok (.bipush (-2), 2) := by decide +kernel
theorem dX6_errorCount_26 : decode cX6_errorCount 26 = .ok (.invokevirtual 42, 3) := by decide +kernel
theorem dX6_errorCount_29 : decode cX6_errorCount 29 = .ok (.ireturn, 1) := by decide +kernel
theorem dX6_mix_0 : decode cX6_mix 0 = .ok (.aload_n 0, 1) := by decide +kernel
theorem dX6_mix_1 : decode cX6_mix 1 = .ok (.ldc2_w 140, 3) := by decide +kernel
theorem dX6_mix_4 : decode cX6_mix 4 = .ok (.aload_n 0, 1) := by decide +kernel
theorem dX6_mix_5 : decode cX6_mix 5 = .ok (.getfield 142, 3) := by decide +kernel
theorem dX6_mix_8 : decode cX6_mix 8 = .ok (.lmul, 1) := by decide +kernel
theorem dX6_mix_9 : decode cX6_mix 9 = .ok (.lload_n 1, 1) := by decide +kernel
theorem dX6_mix_10 : decode cX6_mix 10 = .ok (.ladd, 1) := by decide +kernel
theorem dX6_mix_11 : decode cX6_mix 11 = .ok (.putfield 142, 3) := by decide +kernel
theorem dX6_mix_14 : decode cX6_mix 14 = .ok (.return_, 1) := by decide +kernel
set_option maxRecDepth 20000 in
theorem ggX6_mixTerms_X6_mix : GoodIn wsX6_mixTerms wsX6_mix := goodIn_r _ [7, 8, 9, 45, 46, 47, 48, 49, 50, 51, 52, 53, 54] (by decide +kernel) (by decide +kernel)
set_option maxRecDepth 20000 in
theorem gX6_mixTerms_X6_mix : GoodIn wsX6_mixTerms (wsV RX6 146 RX6 yX6_mix wsX6_mix) := goodIn_app (goodIn_of _ (by decide +kernel)) ggX6_mixTerms_X6_mix
set_option maxRecDepth 20000 in
theorem ggX6_mixTerms_X6_redundant : GoodIn wsX6_mixTerms wsX6_redundant := goodIn_r _ [13, 14, 15, 16, 6, 17, 1, 18, 19, 20, 21, 45, 46, 47, 48, 49, 50, 51, 52, 53, 54] (by decide +kernel) (by decide +kernel)
set_option maxRecDepth 20000 in
theorem gX6_mixTerms_X6_redundant : GoodIn wsX6_mixTerms (wsV RX6 75 RX6 yX6_redundant wsX6_redundant) := goodIn_app (goodIn_of _ (by decide +kernel)) ggX6_mixTerms_X6_redundant
set_option maxRecDepth 20000 in
theorem ggX6_mixTerms_X6_rowAt : GoodIn wsX6_mixTerms wsX6_rowAt := goodIn_r _ [25, 26, 45, 46, 47, 48, 49, 50, 51, 52, 53, 54] (by decide +kernel) (by decide +kernel)
set_option maxRecDepth 20000 in
theorem gX6_mixTerms_X6_rowAt : GoodIn wsX6_mixTerms (wsV RX6 119 RX6 yX6_rowAt wsX6_rowAt) := goodIn_app (goodIn_of _ (by decide +kernel)) ggX6_mixTerms_X6_rowAt
set_option maxRecDepth 20000 in
theorem ggX6_mixTerms_X6_isColumn : GoodIn wsX6_mixTerms wsX6_isColumn := goodIn_r _ [30, 1, 31, 32, 6, 33, 45, 46, 47, 48, 49, 50, 51, 52, 53, 54] (by decide +kernel) (by decide +kernel)
set_option maxRecDepth 20000 in
theorem gX6_mixTerms_X6_isColumn : GoodIn wsX6_mixTerms (wsV RX6 81 RX6 yX6_isColumn wsX6_isColumn) := goodIn_app (goodIn_of _ (by decide +kernel)) ggX6_mixTerms_X6_isColumn
set_option maxRecDepth 20000 in
theorem ggX6_mixTerms_X6_partnerOf : GoodIn wsX6_mixTerms wsX6_partnerOf := goodIn_r _ [37, 1, 45, 46, 47, 48, 49, 50, 51, 52, 53, 54] (by decide +kernel) (by decide +kernel)
set_option maxRecDepth 20000 in
theorem gX6_mixTerms_X6_partnerOf : GoodIn wsX6_mixTerms (wsV RX6 110 RX6 yX6_partnerOf wsX6_partnerOf) := goodIn_app (goodIn_of _ (by decide +kernel)) ggX6_mixTerms_X6_partnerOf
set_option maxRecDepth 20000 in
theorem ggX6_mixTerms_X6_spanOf : GoodIn wsX6_mixTerms wsX6_spanOf := goodIn_r _ [41, 1, 2, 26, 42, 43, 6, 44, 45, 46, 47, 48, 49, 50, 51, 52, 53, 54] (by decide +kernel) (by decide +kernel)
set_option maxRecDepth 20000 in
theorem gX6_mixTerms_X6_spanOf : GoodIn wsX6_mixTerms (wsV RX6 125 RX6 yX6_spanOf wsX6_spanOf) := goodIn_app (goodIn_of _ (by decide +kernel)) ggX6_mixTerms_X6_spanOf
theorem dX6_mixTerms_0 : decode cX6_mixTerms 0 = .ok (.iconst 0, 1) := by decide +kernel
theorem dX6_mixTerms_1 : decode cX6_mixTerms 1 = .ok (.istore_n 1, 1) := by decide +kernel
theorem dX6_mixTerms_2 : decode cX6_mixTerms 2 = .ok (.iload_n 1, 1) := by decide +kernel
theorem dX6_mixTerms_3 : decode cX6_mixTerms 3 = .ok (.aload_n 0, 1) := by decide +kernel
theorem dX6_mixTerms_4 : decode cX6_mixTerms 4 = .ok (.getfield 7, 3) := by decide +kernel
theorem dX6_mixTerms_7 : decode cX6_mixTerms 7 = .ok (.iconst 2, 1) := by decide +kernel
theorem dX6_mixTerms_8 : decode cX6_mixTerms 8 = .ok (.iaload, 1) := by decide +kernel
theorem dX6_mixTerms_9 : decode cX6_mixTerms 9 = .ok (.if_icmp .ge 77, 3) := by decide +kernel
theorem dX6_mixTerms_12 : decode cX6_mixTerms 12 = .ok (.aload_n 0, 1) := by decide +kernel
theorem dX6_mixTerms_13 : decode cX6_mixTerms 13 = .ok (.aload_n 0, 1) := by decide +kernel
theorem dX6_mixTerms_14 : decode cX6_mixTerms 14 = .ok (.getfield 7, 3) := by decide +kernel
theorem dX6_mixTerms_17 : decode cX6_mixTerms 17 = .ok (.iconst 3, 1) := by decide +kernel
theorem dX6_mixTerms_18 : decode cX6_mixTerms 18 = .ok (.iload_n 1, 1) := by decide +kernel
theorem dX6_mixTerms_19 : decode cX6_mixTerms 19 = .ok (.iadd, 1) := by decide +kernel
theorem dX6_mixTerms_20 : decode cX6_mixTerms 20 = .ok (.iaload, 1) := by decide +kernel
theorem dX6_mixTerms_21 : decode cX6_mixTerms 21 = .ok (.i2l, 1) := by decide +kernel
theorem dX6_mixTerms_22 : decode cX6_mixTerms 22 = .ok (.invokevirtual 146, 3) := by decide +kernel
theorem dX6_mixTerms_25 : decode cX6_mixTerms 25 = .ok (.aload_n 0, 1) := by decide +kernel
theorem dX6_mixTerms_26 : decode cX6_mixTerms 26 = .ok (.aload_n 0, 1) := by decide +kernel
theorem dX6_mixTerms_27 : decode cX6_mixTerms 27 = .ok (.getfield 7, 3) := by decide +kernel
theorem dX6_mixTerms_30 : decode cX6_mixTerms 30 = .ok (.bipush 13, 2) := by decide +kernel
theorem dX6_mixTerms_32 : decode cX6_mixTerms 32 = .ok (.iload_n 1, 1) := by decide +kernel
theorem dX6_mixTerms_33 : decode cX6_mixTerms 33 = .ok (.iadd, 1) := by decide +kernel
theorem dX6_mixTerms_34 : decode cX6_mixTerms 34 = .ok (.iaload, 1) := by decide +kernel
theorem dX6_mixTerms_35 : decode cX6_mixTerms 35 = .ok (.i2l, 1) := by decide +kernel
theorem dX6_mixTerms_36 : decode cX6_mixTerms 36 = .ok (.invokevirtual 146, 3) := by decide +kernel
theorem dX6_mixTerms_39 : decode cX6_mixTerms 39 = .ok (.aload_n 0, 1) := by decide +kernel
theorem dX6_mixTerms_40 : decode cX6_mixTerms 40 = .ok (.aload_n 0, 1) := by decide +kernel
theorem dX6_mixTerms_41 : decode cX6_mixTerms 41 = .ok (.getfield 7, 3) := by decide +kernel
theorem dX6_mixTerms_44 : decode cX6_mixTerms 44 = .ok (.bipush 23, 2) := by decide +kernel
theorem dX6_mixTerms_46 : decode cX6_mixTerms 46 = .ok (.iload_n 1, 1) := by decide +kernel
theorem dX6_mixTerms_47 : decode cX6_mixTerms 47 = .ok (.iadd, 1) := by decide +kernel
theorem dX6_mixTerms_48 : decode cX6_mixTerms 48 = .ok (.iaload, 1) := by decide +kernel
theorem dX6_mixTerms_49 : decode cX6_mixTerms 49 = .ok (.i2l, 1) := by decide +kernel
theorem dX6_mixTerms_50 : decode cX6_mixTerms 50 = .ok (.invokevirtual 146, 3) := by decide +kernel
theorem dX6_mixTerms_53 : decode cX6_mixTerms 53 = .ok (.aload_n 0, 1) := by decide +kernel
theorem dX6_mixTerms_54 : decode cX6_mixTerms 54 = .ok (.aload_n 0, 1) := by decide +kernel
theorem dX6_mixTerms_55 : decode cX6_mixTerms 55 = .ok (.iload_n 1, 1) := by decide +kernel
theorem dX6_mixTerms_56 : decode cX6_mixTerms 56 = .ok (.invokevirtual 75, 3) := by decide +kernel
theorem dX6_mixTerms_59 : decode cX6_mixTerms 59 = .ok (.ifCond .eq 7, 3) := by decide +kernel
theorem dX6_mixTerms_62 : decode cX6_mixTerms 62 = .ok (.lconst 1, 1) := by decide +kernel
theorem dX6_mixTerms_63 : decode cX6_mixTerms 63 = .ok (.goto 4, 3) := by decide +kernel
theorem dX6_mixTerms_66 : decode cX6_mixTerms 66 = .ok (.lconst 0, 1) := by decide +kernel
theorem dX6_mixTerms_67 : decode cX6_mixTerms 67 = .ok (.invokevirtual 146, 3) := by decide +kernel
theorem dX6_mixTerms_70 : decode cX6_mixTerms 70 = .ok (.aload_n 0, 1) := by decide +kernel
theorem dX6_mixTerms_71 : decode cX6_mixTerms 71 = .ok (.aload_n 0, 1) := by decide +kernel
theorem dX6_mixTerms_72 : decode cX6_mixTerms 72 = .ok (.iload_n 1, 1) := by decide +kernel
theorem dX6_mixTerms_73 : decode cX6_mixTerms 73 = .ok (.invokevirtual 119, 3) := by decide +kernel
theorem dX6_mixTerms_76 : decode cX6_mixTerms 76 = .ok (.i2l, 1) := by decide +kernel
theorem dX6_mixTerms_77 : decode cX6_mixTerms 77 = .ok (.invokevirtual 146, 3) := by decide +kernel
theorem dX6_mixTerms_80 : decode cX6_mixTerms 80 = .ok (.iinc 1 1, 3) := by decide +kernel
theorem dX6_mixTerms_83 : decode cX6_mixTerms 83 = .ok (.goto (-81), 3) := by decide +kernel
theorem dX6_mixTerms_86 : decode cX6_mixTerms 86 = .ok (.iconst 0, 1) := by decide +kernel
theorem dX6_mixTerms_87 : decode cX6_mixTerms 87 = .ok (.istore_n 1, 1) := by decide +kernel
theorem dX6_mixTerms_88 : decode cX6_mixTerms 88 = .ok (.iload_n 1, 1) := by decide +kernel
theorem dX6_mixTerms_89 : decode cX6_mixTerms 89 = .ok (.bipush 10, 2) := by decide +kernel
theorem dX6_mixTerms_91 : decode cX6_mixTerms 91 = .ok (.if_icmp .ge 48, 3) := by decide +kernel
theorem dX6_mixTerms_94 : decode cX6_mixTerms 94 = .ok (.aload_n 0, 1) := by decide +kernel
theorem dX6_mixTerms_95 : decode cX6_mixTerms 95 = .ok (.iload_n 1, 1) := by decide +kernel
theorem dX6_mixTerms_96 : decode cX6_mixTerms 96 = .ok (.invokevirtual 81, 3) := by decide +kernel
theorem dX6_mixTerms_99 : decode cX6_mixTerms 99 = .ok (.ifCond .eq 34, 3) := by decide +kernel
theorem dX6_mixTerms_102 : decode cX6_mixTerms 102 = .ok (.aload_n 0, 1) := by decide +kernel
theorem dX6_mixTerms_103 : decode cX6_mixTerms 103 = .ok (.aload_n 0, 1) := by decide +kernel
theorem dX6_mixTerms_104 : decode cX6_mixTerms 104 = .ok (.getfield 19, 3) := by decide +kernel
theorem dX6_mixTerms_107 : decode cX6_mixTerms 107 = .ok (.iload_n 1, 1) := by decide +kernel
theorem dX6_mixTerms_108 : decode cX6_mixTerms 108 = .ok (.iaload, 1) := by decide +kernel
theorem dX6_mixTerms_109 : decode cX6_mixTerms 109 = .ok (.i2l, 1) := by decide +kernel
theorem dX6_mixTerms_110 : decode cX6_mixTerms 110 = .ok (.invokevirtual 146, 3) := by decide +kernel
theorem dX6_mixTerms_113 : decode cX6_mixTerms 113 = .ok (.aload_n 0, 1) := by decide +kernel
theorem dX6_mixTerms_114 : decode cX6_mixTerms 114 = .ok (.aload_n 0, 1) := by decide +kernel
theorem dX6_mixTerms_115 : decode cX6_mixTerms 115 = .ok (.iload_n 1, 1) := by decide +kernel
theorem dX6_mixTerms_116 : decode cX6_mixTerms 116 = .ok (.invokevirtual 110, 3) := by decide +kernel
theorem dX6_mixTerms_119 : decode cX6_mixTerms 119 = .ok (.i2l, 1) := by decide +kernel
theorem dX6_mixTerms_120 : decode cX6_mixTerms 120 = .ok (.invokevirtual 146, 3) := by decide +kernel
theorem dX6_mixTerms_123 : decode cX6_mixTerms 123 = .ok (.aload_n 0, 1) := by decide +kernel
theorem dX6_mixTerms_124 : decode cX6_mixTerms 124 = .ok (.aload_n 0, 1) := by decide +kernel
theorem dX6_mixTerms_125 : decode cX6_mixTerms 125 = .ok (.iload_n 1, 1) := by decide +kernel
theorem dX6_mixTerms_126 : decode cX6_mixTerms 126 = .ok (.invokevirtual 125, 3) := by decide +kernel
theorem dX6_mixTerms_129 : decode cX6_mixTerms 129 = .ok (.i2l, 1) := by decide +kernel
theorem dX6_mixTerms_130 : decode cX6_mixTerms 130 = .ok (.invokevirtual 146, 3) := by decide +kernel
theorem dX6_mixTerms_133 : decode cX6_mixTerms 133 = .ok (.iinc 1 1, 3) := by decide +kernel
theorem dX6_mixTerms_136 : decode cX6_mixTerms 136 = .ok (.goto (-48), 3) := by decide +kernel
theorem dX6_mixTerms_139 : decode cX6_mixTerms 139 = .ok (.return_, 1) := by decide +kernel
set_option maxRecDepth 20000 in
theorem ggX6_digest_X6_mix : GoodIn wsX6_digest wsX6_mix := goodIn_r _ [12, 13, 2, 107, 108, 109, 110, 111, 112, 113, 114, 115, 116] (by decide +kernel) (by decide +kernel)
set_option maxRecDepth 20000 in
theorem gX6_digest_X6_mix : GoodIn wsX6_digest (wsV RX6 146 RX6 yX6_mix wsX6_mix) := goodIn_app (goodIn_of _ (by decide +kernel)) ggX6_digest_X6_mix
set_option maxRecDepth 20000 in
theorem ggX6_digest_X6_lay : GoodIn wsX6_digest wsX6_lay := goodIn_r _ [17, 18, 19, 20, 11, 21, 4, 22, 23, 24, 25, 26, 27, 28, 29, 30, 31, 32, 33, 34, 35, 36, 37, 38, 39, 40, 41, 42, 43, 44, 45, 46, 47, 107, 108, 109, 110, 111, 112, 113, 114, 115, 116] (by decide +kernel) (by decide +kernel)
set_option maxRecDepth 20000 in
theorem gX6_digest_X6_lay : GoodIn wsX6_digest (wsV RX6 116 RX6 yX6_lay wsX6_lay) := goodIn_app (goodIn_of _ (by decide +kernel)) ggX6_digest_X6_lay
set_option maxRecDepth 20000 in
theorem ggX6_digest_X6_mixTerms : GoodIn wsX6_digest wsX6_mixTerms := goodIn_r _ [51, 4, 26, 8, 9, 10, 11, 12, 13, 2, 52, 53, 54, 55, 56, 57, 58, 59, 60, 61, 62, 63, 64, 65, 66, 67, 47, 68, 69, 70, 71, 72, 73, 74, 75, 76, 77, 78, 79, 80, 81, 82, 31, 32, 33, 107, 108, 109, 110, 111, 112, 113, 114, 115, 116] (by decide +kernel) (by decide +kernel)
set_option maxRecDepth 20000 in
theorem gX6_digest_X6_mixTerms : GoodIn wsX6_digest (wsV RX6 152 RX6 yX6_mixTerms wsX6_mixTerms) := goodIn_app (goodIn_of _ (by decide +kernel)) ggX6_digest_X6_mixTerms
set_option maxRecDepth 20000 in
theorem ggX6_digest_X6_areaNow : GoodIn wsX6_digest wsX6_areaNow := goodIn_r _ [86, 4, 87, 88, 89, 11, 90, 107, 108, 109, 110, 111, 112, 113, 114, 115, 116] (by decide +kernel) (by decide +kernel)
set_option maxRecDepth 20000 in
theorem gX6_digest_X6_areaNow : GoodIn wsX6_digest (wsV RX6 122 RX6 yX6_areaNow wsX6_areaNow) := goodIn_app (goodIn_of _ (by decide +kernel)) ggX6_digest_X6_areaNow
set_option maxRecDepth 20000 in
theorem ggX6_digest_X6_findBest : GoodIn wsX6_digest wsX6_findBest := goodIn_r _ [94, 4, 22, 23, 24, 11, 25, 26, 27, 28, 29, 30, 31, 32, 33, 95, 96, 97, 98, 6, 5, 99, 100, 101, 102, 68, 69, 70, 71, 72, 73, 74, 103, 104, 105, 106, 34, 35, 36, 37, 38, 39, 40, 41, 42, 43, 44, 45, 46, 47, 107, 108, 109, 110, 111, 112, 113, 114, 115, 116] (by decide +kernel) (by decide +kernel)
set_option maxRecDepth 20000 in
theorem gX6_digest_X6_findBest : GoodIn wsX6_digest (wsV RX6 137 RX6 yX6_findBest wsX6_findBest) := goodIn_app (goodIn_of _ (by decide +kernel)) ggX6_digest_X6_findBest
theorem dX6_digest_0 : decode cX6_digest 0 = .ok (.aload_n 0, 1) := by decide +kernel
theorem dX6_digest_1 : decode cX6_digest 1 = .ok (.ldc2_w 150, 3) := by decide +kernel
theorem dX6_digest_4 : decode cX6_digest 4 = .ok (.putfield 142, 3) := by decide +kernel
theorem dX6_digest_7 : decode cX6_digest 7 = .ok (.iconst 0, 1) := by decide +kernel
theorem dX6_digest_8 : decode cX6_digest 8 = .ok (.istore_n 1, 1) := by decide +kernel
theorem dX6_digest_9 : decode cX6_digest 9 = .ok (.iload_n 1, 1) := by decide +kernel
theorem dX6_digest_10 : decode cX6_digest 10 = .ok (.iconst 5, 1) := by decide +kernel
theorem dX6_digest_11 : decode cX6_digest 11 = .ok (.if_icmp .ge 20, 3) := by decide +kernel
theorem dX6_digest_14 : decode cX6_digest 14 = .ok (.aload_n 0, 1) := by decide +kernel
theorem dX6_digest_15 : decode cX6_digest 15 = .ok (.aload_n 0, 1) := by decide +kernel
theorem dX6_digest_16 : decode cX6_digest 16 = .ok (.getfield 16, 3) := by decide +kernel
theorem dX6_digest_19 : decode cX6_digest 19 = .ok (.iload_n 1, 1) := by decide +kernel
theorem dX6_digest_20 : decode cX6_digest 20 = .ok (.iaload, 1) := by decide +kernel
theorem dX6_digest_21 : decode cX6_digest 21 = .ok (.i2l, 1) := by decide +kernel
theorem dX6_digest_22 : decode cX6_digest 22 = .ok (.invokevirtual 146, 3) := by decide +kernel
theorem dX6_digest_25 : decode cX6_digest 25 = .ok (.iinc 1 1, 3) := by decide +kernel
theorem dX6_digest_28 : decode cX6_digest 28 = .ok (.goto (-19), 3) := by decide +kernel
theorem dX6_digest_31 : decode cX6_digest 31 = .ok (.iconst 0, 1) := by decide +kernel
theorem dX6_digest_32 : decode cX6_digest 32 = .ok (.istore_n 1, 1) := by decide +kernel
theorem dX6_digest_33 : decode cX6_digest 33 = .ok (.iload_n 1, 1) := by decide +kernel
theorem dX6_digest_34 : decode cX6_digest 34 = .ok (.iconst 2, 1) := by decide +kernel
theorem dX6_digest_35 : decode cX6_digest 35 = .ok (.if_icmp .gt 20, 3) := by decide +kernel
theorem dX6_digest_38 : decode cX6_digest 38 = .ok (.aload_n 0, 1) := by decide +kernel
theorem dX6_digest_39 : decode cX6_digest 39 = .ok (.aload_n 0, 1) := by decide +kernel
theorem dX6_digest_40 : decode cX6_digest 40 = .ok (.getfield 7, 3) := by decide +kernel
theorem dX6_digest_43 : decode cX6_digest 43 = .ok (.iload_n 1, 1) := by decide +kernel
theorem dX6_digest_44 : decode cX6_digest 44 = .ok (.iaload, 1) := by decide +kernel
theorem dX6_digest_45 : decode cX6_digest 45 = .ok (.i2l, 1) := by decide +kernel
theorem dX6_digest_46 : decode cX6_digest 46 = .ok (.invokevirtual 146, 3) := by decide +kernel
theorem dX6_digest_49 : decode cX6_digest 49 = .ok (.iinc 1 1, 3) := by decide +kernel
theorem dX6_digest_52 : decode cX6_digest 52 = .ok (.goto (-19), 3) := by decide +kernel
theorem dX6_digest_55 : decode cX6_digest 55 = .ok (.aload_n 0, 1) := by decide +kernel
theorem dX6_digest_56 : decode cX6_digest 56 = .ok (.invokevirtual 116, 3) := by decide +kernel
theorem dX6_digest_59 : decode cX6_digest 59 = .ok (.aload_n 0, 1) := by decide +kernel
theorem dX6_digest_60 : decode cX6_digest 60 = .ok (.invokevirtual 152, 3) := by decide +kernel
theorem dX6_digest_63 : decode cX6_digest 63 = .ok (.aload_n 0, 1) := by decide +kernel
theorem dX6_digest_64 : decode cX6_digest 64 = .ok (.aload_n 0, 1) := by decide +kernel
theorem dX6_digest_65 : decode cX6_digest 65 = .ok (.invokevirtual 122, 3) := by decide +kernel
theorem dX6_digest_68 : decode cX6_digest 68 = .ok (.i2l, 1) := by decide +kernel
theorem dX6_digest_69 : decode cX6_digest 69 = .ok (.invokevirtual 146, 3) := by decide +kernel
theorem dX6_digest_72 : decode cX6_digest 72 = .ok (.aload_n 0, 1) := by decide +kernel
theorem dX6_digest_73 : decode cX6_digest 73 = .ok (.invokevirtual 137, 3) := by decide +kernel
theorem dX6_digest_76 : decode cX6_digest 76 = .ok (.aload_n 0, 1) := by decide +kernel
theorem dX6_digest_77 : decode cX6_digest 77 = .ok (.aload_n 0, 1) := by decide +kernel
theorem dX6_digest_78 : decode cX6_digest 78 = .ok (.getfield 131, 3) := by decide +kernel
theorem dX6_digest_81 : decode cX6_digest 81 = .ok (.i2l, 1) := by decide +kernel
theorem dX6_digest_82 : decode cX6_digest 82 = .ok (.invokevirtual 146, 3) := by decide +kernel
theorem dX6_digest_85 : decode cX6_digest 85 = .ok (.iconst 0, 1) := by decide +kernel
theorem dX6_digest_86 : decode cX6_digest 86 = .ok (.istore_n 1, 1) := by decide +kernel
theorem dX6_digest_87 : decode cX6_digest 87 = .ok (.iload_n 1, 1) := by decide +kernel
theorem dX6_digest_88 : decode cX6_digest 88 = .ok (.aload_n 0, 1) := by decide +kernel
theorem dX6_digest_89 : decode cX6_digest 89 = .ok (.getfield 131, 3) := by decide +kernel
theorem dX6_digest_92 : decode cX6_digest 92 = .ok (.if_icmp .ge 37, 3) := by decide +kernel
theorem dX6_digest_95 : decode cX6_digest 95 = .ok (.aload_n 0, 1) := by decide +kernel
theorem dX6_digest_96 : decode cX6_digest 96 = .ok (.aload_n 0, 1) := by decide +kernel
theorem dX6_digest_97 : decode cX6_digest 97 = .ok (.getfield 28, 3) := by decide +kernel
theorem dX6_digest_100 : decode cX6_digest 100 = .ok (.iload_n 1, 1) := by decide +kernel
theorem dX6_digest_101 : decode cX6_digest 101 = .ok (.iaload, 1) := by decide +kernel
theorem dX6_digest_102 : decode cX6_digest 102 = .ok (.bipush 10, 2) := by decide +kernel
theorem dX6_digest_104 : decode cX6_digest 104 = .ok (.idiv, 1) := by decide +kernel
theorem dX6_digest_105 : decode cX6_digest 105 = .ok (.i2l, 1) := by decide +kernel
theorem dX6_digest_106 : decode cX6_digest 106 = .ok (.invokevirtual 146, 3) := by decide +kernel
theorem dX6_digest_109 : decode cX6_digest 109 = .ok (.aload_n 0, 1) := by decide +kernel
theorem dX6_digest_110 : decode cX6_digest 110 = .ok (.aload_n 0, 1) := by decide +kernel
theorem dX6_digest_111 : decode cX6_digest 111 = .ok (.getfield 28, 3) := by decide +kernel
theorem dX6_digest_114 : decode cX6_digest 114 = .ok (.iload_n 1, 1) := by decide +kernel
theorem dX6_digest_115 : decode cX6_digest 115 = .ok (.iaload, 1) := by decide +kernel
theorem dX6_digest_116 : decode cX6_digest 116 = .ok (.bipush 10, 2) := by decide +kernel
theorem dX6_digest_118 : decode cX6_digest 118 = .ok (.irem, 1) := by decide +kernel
theorem dX6_digest_119 : decode cX6_digest 119 = .ok (.i2l, 1) := by decide +kernel
theorem dX6_digest_120 : decode cX6_digest 120 = .ok (.invokevirtual 146, 3) := by decide +kernel
theorem dX6_digest_123 : decode cX6_digest 123 = .ok (.iinc 1 1, 3) := by decide +kernel
theorem dX6_digest_126 : decode cX6_digest 126 = .ok (.goto (-39), 3) := by decide +kernel
theorem dX6_digest_129 : decode cX6_digest 129 = .ok (.aload_n 0, 1) := by decide +kernel
theorem dX6_digest_130 : decode cX6_digest 130 = .ok (.aload_n 0, 1) := by decide +kernel
theorem dX6_digest_131 : decode cX6_digest 131 = .ok (.getfield 38, 3) := by decide +kernel
theorem dX6_digest_134 : decode cX6_digest 134 = .ok (.i2l, 1) := by decide +kernel
theorem dX6_digest_135 : decode cX6_digest 135 = .ok (.invokevirtual 146, 3) := by decide +kernel
theorem dX6_digest_138 : decode cX6_digest 138 = .ok (.aload_n 0, 1) := by decide +kernel
theorem dX6_digest_139 : decode cX6_digest 139 = .ok (.getfield 142, 3) := by decide +kernel
theorem dX6_digest_142 : decode cX6_digest 142 = .ok (.lreturn, 1) := by decide +kernel
theorem dJ6_bitCount_0f7a4_0 : decode cJ6_bitCount_0f7a4 0 = .ok (.iload_n 0, 1) := by decide +kernel
theorem dJ6_bitCount_0f7a4_1 : decode cJ6_bitCount_0f7a4 1 = .ok (.iload_n 0, 1) := by decide +kernel
theorem dJ6_bitCount_0f7a4_2 : decode cJ6_bitCount_0f7a4 2 = .ok (.iconst 1, 1) := by decide +kernel
theorem dJ6_bitCount_0f7a4_3 : decode cJ6_bitCount_0f7a4 3 = .ok (.iushr, 1) := by decide +kernel
theorem dJ6_bitCount_0f7a4_4 : decode cJ6_bitCount_0f7a4 4 = .ok (.ldc_w 265, 3) := by decide +kernel
theorem dJ6_bitCount_0f7a4_7 : decode cJ6_bitCount_0f7a4 7 = .ok (.iand, 1) := by decide +kernel
theorem dJ6_bitCount_0f7a4_8 : decode cJ6_bitCount_0f7a4 8 = .ok (.isub, 1) := by decide +kernel
theorem dJ6_bitCount_0f7a4_9 : decode cJ6_bitCount_0f7a4 9 = .ok (.istore_n 0, 1) := by decide +kernel
theorem dJ6_bitCount_0f7a4_10 : decode cJ6_bitCount_0f7a4 10 = .ok (.iload_n 0, 1) := by decide +kernel
theorem dJ6_bitCount_0f7a4_11 : decode cJ6_bitCount_0f7a4 11 = .ok (.ldc_w 266, 3) := by decide +kernel
theorem dJ6_bitCount_0f7a4_14 : decode cJ6_bitCount_0f7a4 14 = .ok (.iand, 1) := by decide +kernel
theorem dJ6_bitCount_0f7a4_15 : decode cJ6_bitCount_0f7a4 15 = .ok (.iload_n 0, 1) := by decide +kernel
theorem dJ6_bitCount_0f7a4_16 : decode cJ6_bitCount_0f7a4 16 = .ok (.iconst 2, 1) := by decide +kernel
theorem dJ6_bitCount_0f7a4_17 : decode cJ6_bitCount_0f7a4 17 = .ok (.iushr, 1) := by decide +kernel
theorem dJ6_bitCount_0f7a4_18 : decode cJ6_bitCount_0f7a4 18 = .ok (.ldc_w 266, 3) := by decide +kernel
theorem dJ6_bitCount_0f7a4_21 : decode cJ6_bitCount_0f7a4 21 = .ok (.iand, 1) := by decide +kernel
theorem dJ6_bitCount_0f7a4_22 : decode cJ6_bitCount_0f7a4 22 = .ok (.iadd, 1) := by decide +kernel
theorem dJ6_bitCount_0f7a4_23 : decode cJ6_bitCount_0f7a4 23 = .ok (.istore_n 0, 1) := by decide +kernel
theorem dJ6_bitCount_0f7a4_24 : decode cJ6_bitCount_0f7a4 24 = .ok (.iload_n 0, 1) := by decide +kernel
theorem dJ6_bitCount_0f7a4_25 : decode cJ6_bitCount_0f7a4 25 = .ok (.iload_n 0, 1) := by decide +kernel
theorem dJ6_bitCount_0f7a4_26 : decode cJ6_bitCount_0f7a4 26 = .ok (.iconst 4, 1) := by decide +kernel
theorem dJ6_bitCount_0f7a4_27 : decode cJ6_bitCount_0f7a4 27 = .ok (.iushr, 1) := by decide +kernel
theorem dJ6_bitCount_0f7a4_28 : decode cJ6_bitCount_0f7a4 28 = .ok (.iadd, 1) := by decide +kernel
theorem dJ6_bitCount_0f7a4_29 : decode cJ6_bitCount_0f7a4 29 = .ok (.ldc_w 267, 3) := by decide +kernel
theorem dJ6_bitCount_0f7a4_32 : decode cJ6_bitCount_0f7a4 32 = .ok (.iand, 1) := by decide +kernel
theorem dJ6_bitCount_0f7a4_33 : decode cJ6_bitCount_0f7a4 33 = .ok (.istore_n 0, 1) := by decide +kernel
theorem dJ6_bitCount_0f7a4_34 : decode cJ6_bitCount_0f7a4 34 = .ok (.iload_n 0, 1) := by decide +kernel
theorem dJ6_bitCount_0f7a4_35 : decode cJ6_bitCount_0f7a4 35 = .ok (.iload_n 0, 1) := by decide +kernel
theorem dJ6_bitCount_0f7a4_36 : decode cJ6_bitCount_0f7a4 36 = .ok (.bipush 8, 2) := by decide +kernel
theorem dJ6_bitCount_0f7a4_38 : decode cJ6_bitCount_0f7a4 38 = .ok (.iushr, 1) := by decide +kernel
theorem dJ6_bitCount_0f7a4_39 : decode cJ6_bitCount_0f7a4 39 = .ok (.iadd, 1) := by decide +kernel
theorem dJ6_bitCount_0f7a4_40 : decode cJ6_bitCount_0f7a4 40 = .ok (.istore_n 0, 1) := by decide +kernel
theorem dJ6_bitCount_0f7a4_41 : decode cJ6_bitCount_0f7a4 41 = .ok (.iload_n 0, 1) := by decide +kernel
theorem dJ6_bitCount_0f7a4_42 : decode cJ6_bitCount_0f7a4 42 = .ok (.iload_n 0, 1) := by decide +kernel
theorem dJ6_bitCount_0f7a4_43 : decode cJ6_bitCount_0f7a4 43 = .ok (.bipush 16, 2) := by decide +kernel
theorem dJ6_bitCount_0f7a4_45 : decode cJ6_bitCount_0f7a4 45 = .ok (.iushr, 1) := by decide +kernel
theorem dJ6_bitCount_0f7a4_46 : decode cJ6_bitCount_0f7a4 46 = .ok (.iadd, 1) := by decide +kernel
theorem dJ6_bitCount_0f7a4_47 : decode cJ6_bitCount_0f7a4 47 = .ok (.istore_n 0, 1) := by decide +kernel
theorem dJ6_bitCount_0f7a4_48 : decode cJ6_bitCount_0f7a4 48 = .ok (.iload_n 0, 1) := by decide +kernel
theorem dJ6_bitCount_0f7a4_49 : decode cJ6_bitCount_0f7a4 49 = .ok (.bipush 63, 2) := by decide +kernel
theorem dJ6_bitCount_0f7a4_51 : decode cJ6_bitCount_0f7a4 51 = .ok (.iand, 1) := by decide +kernel
theorem dJ6_bitCount_0f7a4_52 : decode cJ6_bitCount_0f7a4 52 = .ok (.ireturn, 1) := by decide +kernel
theorem dJ13_bitCount_95d88_0 : decode cJ13_bitCount_95d88 0 = .ok (.lload_n 0, 1) := by decide +kernel
theorem dJ13_bitCount_95d88_1 : decode cJ13_bitCount_95d88 1 = .ok (.lload_n 0, 1) := by decide +kernel
theorem dJ13_bitCount_95d88_2 : decode cJ13_bitCount_95d88 2 = .ok (.iconst 1, 1) := by decide +kernel
theorem dJ13_bitCount_95d88_3 : decode cJ13_bitCount_95d88 3 = .ok (.lushr, 1) := by decide +kernel
theorem dJ13_bitCount_95d88_4 : decode cJ13_bitCount_95d88 4 = .ok (.ldc2_w 314, 3) := by decide +kernel
theorem dJ13_bitCount_95d88_7 : decode cJ13_bitCount_95d88 7 = .ok (.land, 1) := by decide +kernel
theorem dJ13_bitCount_95d88_8 : decode cJ13_bitCount_95d88 8 = .ok (.lsub, 1) := by decide +kernel
theorem dJ13_bitCount_95d88_9 : decode cJ13_bitCount_95d88 9 = .ok (.lstore_n 0, 1) := by decide +kernel
theorem dJ13_bitCount_95d88_10 : decode cJ13_bitCount_95d88 10 = .ok (.lload_n 0, 1) := by decide +kernel
theorem dJ13_bitCount_95d88_11 : decode cJ13_bitCount_95d88 11 = .ok (.ldc2_w 316, 3) := by decide +kernel
theorem dJ13_bitCount_95d88_14 : decode cJ13_bitCount_95d88 14 = .ok (.land, 1) := by decide +kernel
theorem dJ13_bitCount_95d88_15 : decode cJ13_bitCount_95d88 15 = .ok (.lload_n 0, 1) := by decide +kernel
theorem dJ13_bitCount_95d88_16 : decode cJ13_bitCount_95d88 16 = .ok (.iconst 2, 1) := by decide +kernel
theorem dJ13_bitCount_95d88_17 : decode cJ13_bitCount_95d88 17 = .ok (.lushr, 1) := by decide +kernel
theorem dJ13_bitCount_95d88_18 : decode cJ13_bitCount_95d88 18 = .ok (.ldc2_w 316, 3) := by decide +kernel
theorem dJ13_bitCount_95d88_21 : decode cJ13_bitCount_95d88 21 = .ok (.land, 1) := by decide +kernel
theorem dJ13_bitCount_95d88_22 : decode cJ13_bitCount_95d88 22 = .ok (.ladd, 1) := by decide +kernel
theorem dJ13_bitCount_95d88_23 : decode cJ13_bitCount_95d88 23 = .ok (.lstore_n 0, 1) := by decide +kernel
theorem dJ13_bitCount_95d88_24 : decode cJ13_bitCount_95d88 24 = .ok (.lload_n 0, 1) := by decide +kernel
theorem dJ13_bitCount_95d88_25 : decode cJ13_bitCount_95d88 25 = .ok (.lload_n 0, 1) := by decide +kernel
theorem dJ13_bitCount_95d88_26 : decode cJ13_bitCount_95d88 26 = .ok (.iconst 4, 1) := by decide +kernel
theorem dJ13_bitCount_95d88_27 : decode cJ13_bitCount_95d88 27 = .ok (.lushr, 1) := by decide +kernel
theorem dJ13_bitCount_95d88_28 : decode cJ13_bitCount_95d88 28 = .ok (.ladd, 1) := by decide +kernel
theorem dJ13_bitCount_95d88_29 : decode cJ13_bitCount_95d88 29 = .ok (.ldc2_w 318, 3) := by decide +kernel
theorem dJ13_bitCount_95d88_32 : decode cJ13_bitCount_95d88 32 = .ok (.land, 1) := by decide +kernel
theorem dJ13_bitCount_95d88_33 : decode cJ13_bitCount_95d88 33 = .ok (.lstore_n 0, 1) := by decide +kernel
theorem dJ13_bitCount_95d88_34 : decode cJ13_bitCount_95d88 34 = .ok (.lload_n 0, 1) := by decide +kernel
theorem dJ13_bitCount_95d88_35 : decode cJ13_bitCount_95d88 35 = .ok (.lload_n 0, 1) := by decide +kernel
theorem dJ13_bitCount_95d88_36 : decode cJ13_bitCount_95d88 36 = .ok (.bipush 8, 2) := by decide +kernel
theorem dJ13_bitCount_95d88_38 : decode cJ13_bitCount_95d88 38 = .ok (.lushr, 1) := by decide +kernel
theorem dJ13_bitCount_95d88_39 : decode cJ13_bitCount_95d88 39 = .ok (.ladd, 1) := by decide +kernel
theorem dJ13_bitCount_95d88_40 : decode cJ13_bitCount_95d88 40 = .ok (.lstore_n 0, 1) := by decide +kernel
theorem dJ13_bitCount_95d88_41 : decode cJ13_bitCount_95d88 41 = .ok (.lload_n 0, 1) := by decide +kernel
theorem dJ13_bitCount_95d88_42 : decode cJ13_bitCount_95d88 42 = .ok (.lload_n 0, 1) := by decide +kernel
theorem dJ13_bitCount_95d88_43 : decode cJ13_bitCount_95d88 43 = .ok (.bipush 16, 2) := by decide +kernel
theorem dJ13_bitCount_95d88_45 : decode cJ13_bitCount_95d88 45 = .ok (.lushr, 1) := by decide +kernel
theorem dJ13_bitCount_95d88_46 : decode cJ13_bitCount_95d88 46 = .ok (.ladd, 1) := by decide +kernel
theorem dJ13_bitCount_95d88_47 : decode cJ13_bitCount_95d88 47 = .ok (.lstore_n 0, 1) := by decide +kernel
theorem dJ13_bitCount_95d88_48 : decode cJ13_bitCount_95d88 48 = .ok (.lload_n 0, 1) := by decide +kernel
theorem dJ13_bitCount_95d88_49 : decode cJ13_bitCount_95d88 49 = .ok (.lload_n 0, 1) := by decide +kernel
theorem dJ13_bitCount_95d88_50 : decode cJ13_bitCount_95d88 50 = .ok (.bipush 32, 2) := by decide +kernel
theorem dJ13_bitCount_95d88_52 : decode cJ13_bitCount_95d88 52 = .ok (.lushr, 1) := by decide +kernel
theorem dJ13_bitCount_95d88_53 : decode cJ13_bitCount_95d88 53 = .ok (.ladd, 1) := by decide +kernel
theorem dJ13_bitCount_95d88_54 : decode cJ13_bitCount_95d88 54 = .ok (.lstore_n 0, 1) := by decide +kernel
theorem dJ13_bitCount_95d88_55 : decode cJ13_bitCount_95d88 55 = .ok (.lload_n 0, 1) := by decide +kernel
theorem dJ13_bitCount_95d88_56 : decode cJ13_bitCount_95d88 56 = .ok (.l2i, 1) := by decide +kernel
theorem dJ13_bitCount_95d88_57 : decode cJ13_bitCount_95d88 57 = .ok (.bipush 127, 2) := by decide +kernel
theorem dJ13_bitCount_95d88_59 : decode cJ13_bitCount_95d88 59 = .ok (.iand, 1) := by decide +kernel
theorem dJ13_bitCount_95d88_60 : decode cJ13_bitCount_95d88 60 = .ok (.ireturn, 1) := by decide +kernel
theorem dJ9_max_7cf53_0 : decode cJ9_max_7cf53 0 = .ok (.iload_n 0, 1) := by decide +kernel
theorem dJ9_max_7cf53_1 : decode cJ9_max_7cf53 1 = .ok (.iload_n 1, 1) := by decide +kernel
theorem dJ9_max_7cf53_2 : decode cJ9_max_7cf53 2 = .ok (.if_icmp .lt 7, 3) := by decide +kernel
theorem dJ9_max_7cf53_5 : decode cJ9_max_7cf53 5 = .ok (.iload_n 0, 1) := by decide +kernel
theorem dJ9_max_7cf53_6 : decode cJ9_max_7cf53 6 = .ok (.goto 4, 3) := by decide +kernel
theorem dJ9_max_7cf53_9 : decode cJ9_max_7cf53 9 = .ok (.iload_n 1, 1) := by decide +kernel
theorem dJ9_max_7cf53_10 : decode cJ9_max_7cf53 10 = .ok (.ireturn, 1) := by decide +kernel
theorem dJ9_min_7cf53_0 : decode cJ9_min_7cf53 0 = .ok (.iload_n 0, 1) := by decide +kernel
theorem dJ9_min_7cf53_1 : decode cJ9_min_7cf53 1 = .ok (.iload_n 1, 1) := by decide +kernel
theorem dJ9_min_7cf53_2 : decode cJ9_min_7cf53 2 = .ok (.if_icmp .gt 7, 3) := by decide +kernel
theorem dJ9_min_7cf53_5 : decode cJ9_min_7cf53 5 = .ok (.iload_n 0, 1) := by decide +kernel
theorem dJ9_min_7cf53_6 : decode cJ9_min_7cf53 6 = .ok (.goto 4, 3) := by decide +kernel
theorem dJ9_min_7cf53_9 : decode cJ9_min_7cf53 9 = .ok (.iload_n 1, 1) := by decide +kernel
theorem dJ9_min_7cf53_10 : decode cJ9_min_7cf53 10 = .ok (.ireturn, 1) := by decide +kernel
theorem dJ7_fill_53178_0 : decode cJ7_fill_53178 0 = .ok (.iconst 0, 1) := by decide +kernel
theorem dJ7_fill_53178_1 : decode cJ7_fill_53178 1 = .ok (.istore_n 2, 1) := by decide +kernel
theorem dJ7_fill_53178_2 : decode cJ7_fill_53178 2 = .ok (.aload_n 0, 1) := by decide +kernel
theorem dJ7_fill_53178_3 : decode cJ7_fill_53178 3 = .ok (.arraylength, 1) := by decide +kernel
theorem dJ7_fill_53178_4 : decode cJ7_fill_53178 4 = .ok (.istore_n 3, 1) := by decide +kernel
theorem dJ7_fill_53178_5 : decode cJ7_fill_53178 5 = .ok (.iload_n 2, 1) := by decide +kernel
theorem dJ7_fill_53178_6 : decode cJ7_fill_53178 6 = .ok (.iload_n 3, 1) := by decide +kernel
theorem dJ7_fill_53178_7 : decode cJ7_fill_53178 7 = .ok (.if_icmp .ge 13, 3) := by decide +kernel
theorem dJ7_fill_53178_10 : decode cJ7_fill_53178 10 = .ok (.aload_n 0, 1) := by decide +kernel
theorem dJ7_fill_53178_11 : decode cJ7_fill_53178 11 = .ok (.iload_n 2, 1) := by decide +kernel
theorem dJ7_fill_53178_12 : decode cJ7_fill_53178 12 = .ok (.iload_n 1, 1) := by decide +kernel
theorem dJ7_fill_53178_13 : decode cJ7_fill_53178 13 = .ok (.iastore, 1) := by decide +kernel
theorem dJ7_fill_53178_14 : decode cJ7_fill_53178 14 = .ok (.iinc 2 1, 3) := by decide +kernel
theorem dJ7_fill_53178_17 : decode cJ7_fill_53178 17 = .ok (.goto (-12), 3) := by decide +kernel
theorem dJ7_fill_53178_20 : decode cJ7_fill_53178 20 = .ok (.return_, 1) := by decide +kernel
set_option maxRecDepth 20000 in
theorem ggL_law_X5_init : GoodIn wsL_law wsX5_init := goodIn_r _ [8, 9, 10, 11, 12, 13, 14, 15, 16, 17, 18, 19, 20, 21, 22, 23, 24, 25, 26, 27, 28, 29, 30, 31, 32, 33, 34, 35, 36, 37, 38, 39, 40, 41, 42, 43, 44, 45, 46, 47, 48, 49, 50, 51, 52, 53, 54, 55, 56, 57, 58, 59, 60, 61, 62, 63, 64, 65, 66, 67, 68, 69, 70, 71, 72, 73, 74, 75, 76, 77, 78, 79, 648, 649, 650, 651, 652, 653, 654, 655, 656, 657, 632, 633, 634, 635, 636, 637, 658, 659, 660, 661, 662, 663, 664, 665, 666, 667, 668, 669, 670, 671] (by decide +kernel) (by decide +kernel)
set_option maxRecDepth 20000 in
theorem gL_law_X5_init : GoodIn wsL_law (wsX5_init) := ggL_law_X5_init
set_option maxRecDepth 20000 in
theorem ggL_law_X6_init : GoodIn wsL_law wsX6_init := goodIn_r _ [82, 83, 10, 11, 32, 84, 85, 86, 87, 88, 89, 90, 91, 92, 93, 5, 94, 638, 639, 640, 641, 642, 643, 644, 645, 646, 647] (by decide +kernel) (by decide +kernel)
set_option maxRecDepth 20000 in
theorem gL_law_X6_init : GoodIn wsL_law (wsX6_init) := ggL_law_X6_init
set_option maxRecDepth 20000 in
theorem ggL_law_X5_setSize : GoodIn wsL_law wsX5_setSize := goodIn_r _ [98, 19, 15, 99, 100, 101, 2, 102, 33, 103, 18, 104, 105, 57, 56, 106, 107, 108, 109, 110, 14, 111, 112, 37, 38, 39, 40, 41, 113, 114, 115, 116, 42, 43, 45, 46, 47, 117, 118, 119, 120, 121, 122, 123, 48, 49, 50, 51, 124, 125, 126, 127, 31, 128, 129, 130, 131, 23, 27, 132, 22, 133, 134, 135, 136, 137, 138, 61, 139, 140, 141, 142, 143, 144, 145, 146, 147, 148, 149, 150, 151, 152, 153, 26, 154, 155, 65, 66, 156, 157, 158, 632, 633, 634, 635, 636, 637, 648, 649, 650, 651, 652, 653, 654, 655, 656, 657, 658, 659, 663, 664, 665, 666, 667, 668, 669, 670, 671, 660, 661, 662] (by decide +kernel) (by decide +kernel)
set_option maxRecDepth 20000 in
theorem gL_law_X5_setSize : GoodIn wsL_law (wsV RL 13 RX5 yX5_setSize wsX5_setSize) := goodIn_app (goodIn_of _ (by decide +kernel)) ggL_law_X5_setSize
set_option maxRecDepth 20000 in
theorem ggL_law_X6_setSize : GoodIn wsL_law wsX6_setSize := goodIn_r _ [162, 84, 163, 164, 5, 165, 166, 167, 168, 169, 86, 170, 171, 172, 173, 174, 85, 91, 92, 93, 94, 638, 639, 640, 641, 642, 643, 644, 645, 646, 647] (by decide +kernel) (by decide +kernel)
set_option maxRecDepth 20000 in
theorem gL_law_X6_setSize : GoodIn wsL_law (wsV RL 17 RX6 yX6_setSize wsX6_setSize) := goodIn_app (goodIn_of _ (by decide +kernel)) ggL_law_X6_setSize
set_option maxRecDepth 20000 in
theorem ggL_law_X5_addTerm : GoodIn wsL_law wsX5_addTerm := goodIn_r _ [178, 15, 19, 179, 14, 180, 181, 37, 38, 99, 100, 101, 2, 102, 33, 103, 18, 104, 105, 57, 56, 106, 107, 108, 109, 110, 111, 112, 39, 40, 41, 113, 114, 115, 116, 42, 43, 45, 46, 47, 182, 183, 184, 185, 186, 187, 188, 189, 190, 191, 192, 193, 143, 144, 120, 121, 122, 123, 48, 49, 50, 51, 124, 125, 126, 127, 31, 128, 129, 130, 131, 23, 27, 132, 22, 133, 134, 135, 136, 137, 138, 61, 139, 140, 141, 142, 145, 146, 147, 148, 149, 150, 151, 152, 153, 26, 154, 155, 65, 66, 156, 157, 158, 632, 633, 634, 635, 636, 637, 648, 649, 650, 651, 652, 653, 654, 655, 656, 657, 658, 659, 663, 664, 665, 666, 667, 668, 669, 670, 671, 660, 661, 662] (by decide +kernel) (by decide +kernel)
set_option maxRecDepth 20000 in
theorem gL_law_X5_addTerm : GoodIn wsL_law (wsV RL 18 RX5 yX5_addTerm wsX5_addTerm) := goodIn_app (goodIn_of _ (by decide +kernel)) ggL_law_X5_addTerm
set_option maxRecDepth 20000 in
theorem ggL_law_X6_addTerm : GoodIn wsL_law wsX6_addTerm := goodIn_r _ [197, 84, 198, 199, 200, 5, 201, 163, 164, 165, 166, 167, 168, 169, 86, 170, 171, 172, 173, 174, 85, 91, 92, 93, 94, 638, 639, 640, 641, 642, 643, 644, 645, 646, 647] (by decide +kernel) (by decide +kernel)
set_option maxRecDepth 20000 in
theorem gL_law_X6_addTerm : GoodIn wsL_law (wsV RL 22 RX6 yX6_addTerm wsX6_addTerm) := goodIn_app (goodIn_of _ (by decide +kernel)) ggL_law_X6_addTerm
set_option maxRecDepth 20000 in
theorem ggL_law_X5_removeTerm : GoodIn wsL_law wsX5_removeTerm := goodIn_r _ [205, 15, 19, 206, 14, 207, 208, 39, 99, 100, 101, 2, 102, 33, 103, 18, 104, 105, 57, 56, 106, 107, 108, 109, 110, 111, 112, 37, 38, 40, 41, 113, 114, 115, 116, 42, 43, 45, 46, 47, 209, 210, 211, 120, 121, 122, 123, 48, 49, 50, 51, 124, 125, 126, 127, 31, 128, 129, 130, 131, 23, 27, 132, 22, 133, 134, 135, 136, 137, 138, 61, 139, 140, 141, 142, 143, 144, 145, 146, 147, 148, 149, 150, 151, 152, 153, 26, 154, 155, 65, 66, 156, 157, 158, 632, 633, 634, 635, 636, 637, 648, 649, 650, 651, 652, 653, 654, 655, 656, 657, 658, 659, 663, 664, 665, 666, 667, 668, 669, 670, 671, 660, 661, 662] (by decide +kernel) (by decide +kernel)
set_option maxRecDepth 20000 in
theorem gL_law_X5_removeTerm : GoodIn wsL_law (wsV RL 23 RX5 yX5_removeTerm wsX5_removeTerm) := goodIn_app (goodIn_of _ (by decide +kernel)) ggL_law_X5_removeTerm
set_option maxRecDepth 20000 in
theorem ggL_law_X6_removeTerm : GoodIn wsL_law wsX6_removeTerm := goodIn_r _ [215, 84, 216, 217, 218, 5, 219, 163, 164, 165, 166, 167, 168, 169, 86, 170, 171, 172, 173, 174, 85, 220, 221, 222, 223, 91, 92, 93, 94, 638, 639, 640, 641, 642, 643, 644, 645, 646, 647] (by decide +kernel) (by decide +kernel)
set_option maxRecDepth 20000 in
theorem gL_law_X6_removeTerm : GoodIn wsL_law (wsV RL 27 RX6 yX6_removeTerm wsX6_removeTerm) := goodIn_app (goodIn_of _ (by decide +kernel)) ggL_law_X6_removeTerm
set_option maxRecDepth 20000 in
theorem ggL_law_X5_terms : GoodIn wsL_law wsX5_terms := goodIn_r _ [227, 15, 632, 633, 634, 635, 636, 637, 648, 649, 650, 651, 652, 653, 654, 655, 656, 657] (by decide +kernel) (by decide +kernel)
set_option maxRecDepth 20000 in
theorem gL_law_X5_terms : GoodIn wsL_law (wsV RL 28 RX5 yX5_terms wsX5_terms) := goodIn_app (goodIn_of _ (by decide +kernel)) ggL_law_X5_terms
set_option maxRecDepth 20000 in
theorem ggL_law_X6_terms : GoodIn wsL_law wsX6_terms := goodIn_r _ [231, 84, 638, 639, 640, 641, 642, 643, 644, 645, 646, 647] (by decide +kernel) (by decide +kernel)
set_option maxRecDepth 20000 in
theorem gL_law_X6_terms : GoodIn wsL_law (wsV RL 32 RX6 yX6_terms wsX6_terms) := goodIn_app (goodIn_of _ (by decide +kernel)) ggL_law_X6_terms
set_option maxRecDepth 20000 in
theorem ggL_law_X5_literals : GoodIn wsL_law wsX5_literals := goodIn_r _ [235, 15, 206, 14, 207, 208, 39, 99, 100, 101, 2, 102, 33, 236, 237, 238, 239, 240, 241, 242, 632, 633, 634, 635, 636, 637, 648, 649, 650, 651, 652, 653, 654, 655, 656, 657] (by decide +kernel) (by decide +kernel)
set_option maxRecDepth 20000 in
theorem gL_law_X5_literals : GoodIn wsL_law (wsV RL 33 RX5 yX5_literals wsX5_literals) := goodIn_app (goodIn_of _ (by decide +kernel)) ggL_law_X5_literals
set_option maxRecDepth 20000 in
theorem ggL_law_X6_literals : GoodIn wsL_law wsX6_literals := goodIn_r _ [246, 84, 216, 217, 218, 5, 219, 163, 164, 165, 247, 248, 249, 166, 167, 168, 169, 86, 638, 639, 640, 641, 642, 643, 644, 645, 646, 647] (by decide +kernel) (by decide +kernel)
set_option maxRecDepth 20000 in
theorem gL_law_X6_literals : GoodIn wsL_law (wsV RL 36 RX6 yX6_literals wsX6_literals) := goodIn_app (goodIn_of _ (by decide +kernel)) ggL_law_X6_literals
set_option maxRecDepth 20000 in
theorem ggL_law_X5_evaluate : GoodIn wsL_law wsX5_evaluate := goodIn_r _ [253, 15, 99, 100, 101, 2, 102, 33, 254, 14, 255, 256, 39, 45, 43, 632, 633, 634, 635, 636, 637, 648, 649, 650, 651, 652, 653, 654, 655, 656, 657] (by decide +kernel) (by decide +kernel)
set_option maxRecDepth 20000 in
theorem gL_law_X5_evaluate : GoodIn wsL_law (wsV RL 37 RX5 yX5_evaluate wsX5_evaluate) := goodIn_app (goodIn_of _ (by decide +kernel)) ggL_law_X5_evaluate
set_option maxRecDepth 20000 in
theorem ggL_law_X6_evaluate : GoodIn wsL_law wsX6_evaluate := goodIn_r _ [260, 261, 262, 263, 5, 264, 84, 163, 164, 165, 265, 266, 267, 268, 166, 167, 168, 169, 86, 638, 639, 640, 641, 642, 643, 644, 645, 646, 647] (by decide +kernel) (by decide +kernel)
set_option maxRecDepth 20000 in
theorem gL_law_X6_evaluate : GoodIn wsL_law (wsV RL 40 RX6 yX6_evaluate wsX6_evaluate) := goodIn_app (goodIn_of _ (by decide +kernel)) ggL_law_X6_evaluate
set_option maxRecDepth 20000 in
theorem ggL_law_X5_onCount : GoodIn wsL_law wsX5_onCount := goodIn_r _ [272, 15, 99, 100, 101, 2, 102, 33, 273, 14, 274, 275, 39, 43, 45, 143, 144, 276, 277, 278, 279, 280, 281, 282, 632, 633, 634, 635, 636, 637, 648, 649, 650, 651, 652, 653, 654, 655, 656, 657] (by decide +kernel) (by decide +kernel)
set_option maxRecDepth 20000 in
theorem gL_law_X5_onCount : GoodIn wsL_law (wsV RL 41 RX5 yX5_onCount wsX5_onCount) := goodIn_app (goodIn_of _ (by decide +kernel)) ggL_law_X5_onCount
set_option maxRecDepth 20000 in
theorem ggL_law_X6_onCount : GoodIn wsL_law wsX6_onCount := goodIn_r _ [286, 84, 163, 164, 5, 165, 166, 167, 168, 169, 86, 261, 262, 263, 264, 265, 266, 267, 268, 287, 288, 289, 638, 639, 640, 641, 642, 643, 644, 645, 646, 647] (by decide +kernel) (by decide +kernel)
set_option maxRecDepth 20000 in
theorem gL_law_X6_onCount : GoodIn wsL_law (wsV RL 44 RX6 yX6_onCount wsX6_onCount) := goodIn_app (goodIn_of _ (by decide +kernel)) ggL_law_X6_onCount
set_option maxRecDepth 20000 in
theorem ggL_law_X5_isRedundant : GoodIn wsL_law wsX5_isRedundant := goodIn_r _ [293, 15, 206, 14, 207, 208, 39, 99, 100, 101, 2, 102, 33, 294, 295, 296, 38, 43, 45, 189, 143, 144, 297, 273, 274, 275, 298, 299, 300, 632, 633, 634, 635, 636, 637, 648, 649, 650, 651, 652, 653, 654, 655, 656, 657] (by decide +kernel) (by decide +kernel)
set_option maxRecDepth 20000 in
theorem gL_law_X5_isRedundant : GoodIn wsL_law (wsV RL 45 RX5 yX5_isRedundant wsX5_isRedundant) := goodIn_app (goodIn_of _ (by decide +kernel)) ggL_law_X5_isRedundant
set_option maxRecDepth 20000 in
theorem ggL_law_X6_isRedundant : GoodIn wsL_law wsX6_isRedundant := goodIn_r _ [304, 216, 217, 218, 5, 219, 84, 163, 164, 165, 166, 167, 168, 169, 86, 305, 306, 307, 308, 261, 262, 263, 264, 265, 266, 267, 268, 638, 639, 640, 641, 642, 643, 644, 645, 646, 647] (by decide +kernel) (by decide +kernel)
set_option maxRecDepth 20000 in
theorem gL_law_X6_isRedundant : GoodIn wsL_law (wsV RL 48 RX6 yX6_isRedundant wsX6_isRedundant) := goodIn_app (goodIn_of _ (by decide +kernel)) ggL_law_X6_isRedundant
set_option maxRecDepth 20000 in
theorem ggL_law_X5_removeRedundant : GoodIn wsL_law wsX5_removeRedundant := goodIn_r _ [312, 19, 15, 103, 18, 104, 105, 57, 56, 106, 107, 108, 109, 110, 14, 111, 112, 37, 38, 39, 40, 41, 113, 114, 115, 116, 42, 43, 45, 46, 47, 294, 295, 296, 189, 143, 2, 144, 297, 273, 274, 275, 209, 210, 211, 120, 121, 122, 123, 48, 49, 50, 51, 124, 125, 126, 127, 31, 128, 129, 130, 131, 23, 27, 132, 22, 133, 134, 135, 136, 137, 138, 61, 139, 140, 141, 142, 145, 146, 147, 148, 149, 150, 151, 152, 153, 26, 154, 155, 65, 66, 156, 157, 158, 632, 633, 634, 635, 636, 637, 648, 649, 650, 651, 652, 653, 654, 655, 656, 657, 658, 659, 663, 664, 665, 666, 667, 668, 669, 670, 671, 660, 661, 662] (by decide +kernel) (by decide +kernel)
set_option maxRecDepth 20000 in
theorem gL_law_X5_removeRedundant : GoodIn wsL_law (wsV RL 49 RX5 yX5_removeRedundant wsX5_removeRedundant) := goodIn_app (goodIn_of _ (by decide +kernel)) ggL_law_X5_removeRedundant
set_option maxRecDepth 20000 in
theorem ggL_law_X6_removeRedundant : GoodIn wsL_law wsX6_removeRedundant := goodIn_r _ [316, 84, 170, 171, 172, 5, 173, 174, 85, 305, 306, 307, 308, 261, 262, 263, 264, 265, 266, 267, 268, 220, 221, 222, 223, 91, 92, 93, 94, 638, 639, 640, 641, 642, 643, 644, 645, 646, 647] (by decide +kernel) (by decide +kernel)
set_option maxRecDepth 20000 in
theorem gL_law_X6_removeRedundant : GoodIn wsL_law (wsV RL 52 RX6 yX6_removeRedundant wsX6_removeRedundant) := goodIn_app (goodIn_of _ (by decide +kernel)) ggL_law_X6_removeRedundant
set_option maxRecDepth 20000 in
theorem ggL_law_X5_uses : GoodIn wsL_law wsX5_uses := goodIn_r _ [320, 15, 321, 14, 322, 323, 37, 38, 99, 100, 101, 2, 102, 33, 140, 141, 142, 39, 41, 42, 43, 143, 144, 632, 633, 634, 635, 636, 637, 648, 649, 650, 651, 652, 653, 654, 655, 656, 657] (by decide +kernel) (by decide +kernel)
set_option maxRecDepth 20000 in
theorem gL_law_X5_uses : GoodIn wsL_law (wsV RL 53 RX5 yX5_uses wsX5_uses) := goodIn_app (goodIn_of _ (by decide +kernel)) ggL_law_X5_uses
set_option maxRecDepth 20000 in
theorem ggL_law_X6_uses : GoodIn wsL_law wsX6_uses := goodIn_r _ [327, 328, 329, 330, 5, 331, 84, 163, 164, 165, 332, 333, 334, 335, 287, 288, 289, 166, 167, 168, 169, 86, 638, 639, 640, 641, 642, 643, 644, 645, 646, 647] (by decide +kernel) (by decide +kernel)
set_option maxRecDepth 20000 in
theorem gL_law_X6_uses : GoodIn wsL_law (wsV RL 56 RX6 yX6_uses wsX6_uses) := goodIn_app (goodIn_of _ (by decide +kernel)) ggL_law_X6_uses
set_option maxRecDepth 20000 in
theorem ggL_law_X5_canFold : GoodIn wsL_law wsX5_canFold := goodIn_r _ [339, 15, 321, 14, 322, 323, 37, 38, 99, 100, 101, 2, 102, 33, 340, 341, 342, 343, 140, 141, 142, 39, 41, 42, 43, 143, 144, 298, 299, 300, 632, 633, 634, 635, 636, 637, 648, 649, 650, 651, 652, 653, 654, 655, 656, 657] (by decide +kernel) (by decide +kernel)
set_option maxRecDepth 20000 in
theorem gL_law_X5_canFold : GoodIn wsL_law (wsV RL 57 RX5 yX5_canFold wsX5_canFold) := goodIn_app (goodIn_of _ (by decide +kernel)) ggL_law_X5_canFold
set_option maxRecDepth 20000 in
theorem ggL_law_X6_canFold : GoodIn wsL_law wsX6_canFold := goodIn_r _ [347, 328, 329, 330, 5, 331, 84, 163, 164, 165, 166, 167, 168, 169, 86, 348, 349, 350, 351, 87, 332, 333, 334, 335, 287, 288, 289, 352, 353, 354, 355, 638, 639, 640, 641, 642, 643, 644, 645, 646, 647] (by decide +kernel) (by decide +kernel)
set_option maxRecDepth 20000 in
theorem gL_law_X6_canFold : GoodIn wsL_law (wsV RL 60 RX6 yX6_canFold wsX6_canFold) := goodIn_app (goodIn_of _ (by decide +kernel)) ggL_law_X6_canFold
set_option maxRecDepth 20000 in
theorem ggL_law_X5_fold : GoodIn wsL_law wsX5_fold := goodIn_r _ [359, 15, 23, 19, 321, 14, 322, 323, 37, 38, 99, 100, 101, 2, 102, 33, 340, 341, 342, 343, 140, 141, 142, 39, 41, 42, 43, 143, 144, 360, 361, 362, 46, 47, 363, 22, 364, 365, 149, 150, 151, 152, 61, 103, 18, 104, 105, 57, 56, 106, 107, 108, 109, 110, 111, 112, 40, 113, 114, 115, 116, 45, 366, 367, 368, 128, 129, 130, 131, 27, 132, 133, 134, 135, 136, 137, 138, 139, 49, 50, 51, 145, 146, 147, 148, 153, 26, 154, 155, 65, 66, 156, 157, 158, 632, 633, 634, 635, 636, 637, 648, 649, 650, 651, 652, 653, 654, 655, 656, 657, 660, 658, 659, 661, 662] (by decide +kernel) (by decide +kernel)
set_option maxRecDepth 20000 in
theorem gL_law_X5_fold : GoodIn wsL_law (wsV RL 61 RX5 yX5_fold wsX5_fold) := goodIn_app (goodIn_of _ (by decide +kernel)) ggL_law_X5_fold
set_option maxRecDepth 20000 in
theorem ggL_law_X6_fold : GoodIn wsL_law wsX6_fold := goodIn_r _ [372, 84, 328, 329, 330, 5, 331, 163, 164, 165, 166, 167, 168, 169, 86, 373, 374, 375, 376, 348, 349, 350, 351, 87, 332, 333, 334, 335, 287, 288, 289, 377, 378, 379, 380, 88, 381, 382, 383, 384, 352, 353, 354, 355, 385, 386, 387, 388, 389, 390, 391, 392, 89, 170, 171, 172, 173, 174, 85, 393, 394, 395, 396, 638, 639, 640, 641, 642, 643, 644, 645, 646, 647] (by decide +kernel) (by decide +kernel)
set_option maxRecDepth 20000 in
theorem gL_law_X6_fold : GoodIn wsL_law (wsV RL 64 RX6 yX6_fold wsX6_fold) := goodIn_app (goodIn_of _ (by decide +kernel)) ggL_law_X6_fold
set_option maxRecDepth 20000 in
theorem ggL_law_X5_unfold : GoodIn wsL_law wsX5_unfold := goodIn_r _ [400, 15, 19, 321, 14, 322, 323, 37, 38, 99, 100, 101, 2, 102, 33, 360, 361, 362, 46, 47, 103, 18, 104, 105, 57, 56, 106, 107, 108, 109, 110, 111, 112, 39, 40, 41, 113, 114, 115, 116, 42, 43, 45, 401, 402, 403, 404, 128, 129, 130, 131, 23, 27, 132, 22, 133, 134, 135, 136, 137, 138, 61, 139, 49, 50, 51, 140, 141, 142, 143, 144, 145, 146, 147, 148, 149, 150, 151, 152, 153, 26, 154, 155, 65, 66, 156, 157, 158, 632, 633, 634, 635, 636, 637, 648, 649, 650, 651, 652, 653, 654, 655, 656, 657, 658, 659, 660, 661, 662] (by decide +kernel) (by decide +kernel)
set_option maxRecDepth 20000 in
theorem gL_law_X5_unfold : GoodIn wsL_law (wsV RL 65 RX5 yX5_unfold wsX5_unfold) := goodIn_app (goodIn_of _ (by decide +kernel)) ggL_law_X5_unfold
set_option maxRecDepth 20000 in
theorem ggL_law_X6_unfold : GoodIn wsL_law wsX6_unfold := goodIn_r _ [408, 328, 329, 330, 5, 331, 84, 163, 164, 165, 166, 167, 168, 169, 86, 385, 386, 387, 388, 170, 171, 172, 173, 174, 85, 409, 410, 411, 412, 413, 414, 415, 416, 393, 394, 395, 396, 638, 639, 640, 641, 642, 643, 644, 645, 646, 647] (by decide +kernel) (by decide +kernel)
set_option maxRecDepth 20000 in
theorem gL_law_X6_unfold : GoodIn wsL_law (wsV RL 68 RX6 yX6_unfold wsX6_unfold) := goodIn_app (goodIn_of _ (by decide +kernel)) ggL_law_X6_unfold
set_option maxRecDepth 20000 in
theorem ggL_law_X5_partner : GoodIn wsL_law wsX5_partner := goodIn_r _ [420, 15, 321, 14, 322, 323, 37, 38, 99, 100, 101, 2, 102, 33, 360, 361, 362, 46, 47, 632, 633, 634, 635, 636, 637, 648, 649, 650, 651, 652, 653, 654, 655, 656, 657] (by decide +kernel) (by decide +kernel)
set_option maxRecDepth 20000 in
theorem gL_law_X5_partner : GoodIn wsL_law (wsV RL 69 RX5 yX5_partner wsX5_partner) := goodIn_app (goodIn_of _ (by decide +kernel)) ggL_law_X5_partner
set_option maxRecDepth 20000 in
theorem ggL_law_X6_partner : GoodIn wsL_law wsX6_partner := goodIn_r _ [424, 328, 329, 330, 5, 331, 84, 163, 164, 165, 409, 410, 411, 412, 166, 167, 168, 169, 86, 638, 639, 640, 641, 642, 643, 644, 645, 646, 647] (by decide +kernel) (by decide +kernel)
set_option maxRecDepth 20000 in
theorem gL_law_X6_partner : GoodIn wsL_law (wsV RL 72 RX6 yX6_partner wsX6_partner) := goodIn_app (goodIn_of _ (by decide +kernel)) ggL_law_X6_partner
set_option maxRecDepth 20000 in
theorem ggL_law_X5_folds : GoodIn wsL_law wsX5_folds := goodIn_r _ [428, 15, 632, 633, 634, 635, 636, 637, 648, 649, 650, 651, 652, 653, 654, 655, 656, 657] (by decide +kernel) (by decide +kernel)
set_option maxRecDepth 20000 in
theorem gL_law_X5_folds : GoodIn wsL_law (wsV RL 73 RX5 yX5_folds wsX5_folds) := goodIn_app (goodIn_of _ (by decide +kernel)) ggL_law_X5_folds
set_option maxRecDepth 20000 in
theorem ggL_law_X6_folds : GoodIn wsL_law wsX6_folds := goodIn_r _ [432, 393, 394, 395, 5, 396, 84, 638, 639, 640, 641, 642, 643, 644, 645, 646, 647] (by decide +kernel) (by decide +kernel)
set_option maxRecDepth 20000 in
theorem gL_law_X6_folds : GoodIn wsL_law (wsV RL 76 RX6 yX6_folds wsX6_folds) := goodIn_app (goodIn_of _ (by decide +kernel)) ggL_law_X6_folds
set_option maxRecDepth 20000 in
theorem ggL_law_X5_termAt : GoodIn wsL_law wsX5_termAt := goodIn_r _ [436, 15, 27, 206, 14, 207, 208, 39, 99, 100, 101, 2, 102, 33, 632, 633, 634, 635, 636, 637, 661, 662, 648, 649, 650, 651, 652, 653, 654, 655, 656, 657] (by decide +kernel) (by decide +kernel)
set_option maxRecDepth 20000 in
theorem gL_law_X5_termAt : GoodIn wsL_law (wsV RL 77 RX5 yX5_termAt wsX5_termAt) := goodIn_app (goodIn_of _ (by decide +kernel)) ggL_law_X5_termAt
set_option maxRecDepth 20000 in
theorem ggL_law_X6_termAt : GoodIn wsL_law wsX6_termAt := goodIn_r _ [440, 84, 89, 163, 164, 5, 165, 166, 167, 168, 169, 86, 441, 442, 443, 444, 373, 374, 375, 376, 348, 349, 350, 351, 87, 332, 333, 334, 335, 287, 288, 289, 377, 378, 379, 380, 88, 381, 382, 383, 384, 389, 390, 391, 392, 638, 639, 640, 641, 642, 643, 644, 645, 646, 647] (by decide +kernel) (by decide +kernel)
set_option maxRecDepth 20000 in
theorem gL_law_X6_termAt : GoodIn wsL_law (wsV RL 80 RX6 yX6_termAt wsX6_termAt) := goodIn_app (goodIn_of _ (by decide +kernel)) ggL_law_X6_termAt
set_option maxRecDepth 20000 in
theorem ggL_law_X5_rowOf : GoodIn wsL_law wsX5_rowOf := goodIn_r _ [448, 15, 27, 206, 14, 207, 208, 39, 99, 100, 101, 2, 102, 33, 632, 633, 634, 635, 636, 637, 661, 662, 648, 649, 650, 651, 652, 653, 654, 655, 656, 657] (by decide +kernel) (by decide +kernel)
set_option maxRecDepth 20000 in
theorem gL_law_X5_rowOf : GoodIn wsL_law (wsV RL 81 RX5 yX5_rowOf wsX5_rowOf) := goodIn_app (goodIn_of _ (by decide +kernel)) ggL_law_X5_rowOf
set_option maxRecDepth 20000 in
theorem ggL_law_X6_rowOf : GoodIn wsL_law wsX6_rowOf := goodIn_r _ [452, 216, 217, 218, 5, 219, 84, 163, 164, 165, 166, 167, 168, 169, 86, 441, 442, 443, 444, 373, 374, 375, 376, 348, 349, 350, 351, 87, 332, 333, 334, 335, 287, 288, 289, 377, 378, 379, 380, 88, 381, 382, 383, 384, 389, 390, 391, 392, 89, 453, 454, 455, 456, 638, 639, 640, 641, 642, 643, 644, 645, 646, 647] (by decide +kernel) (by decide +kernel)
set_option maxRecDepth 20000 in
theorem gL_law_X6_rowOf : GoodIn wsL_law (wsV RL 84 RX6 yX6_rowOf wsX6_rowOf) := goodIn_app (goodIn_of _ (by decide +kernel)) ggL_law_X6_rowOf
set_option maxRecDepth 20000 in
theorem ggL_law_X5_mustPrecede : GoodIn wsL_law wsX5_mustPrecede := goodIn_r _ [460, 15, 23, 206, 14, 207, 208, 39, 99, 100, 101, 2, 102, 33, 461, 143, 144, 298, 299, 300, 632, 633, 634, 635, 636, 637, 660, 648, 649, 650, 651, 652, 653, 654, 655, 656, 657] (by decide +kernel) (by decide +kernel)
set_option maxRecDepth 20000 in
theorem gL_law_X5_mustPrecede : GoodIn wsL_law (wsV RL 85 RX5 yX5_mustPrecede wsX5_mustPrecede) := goodIn_app (goodIn_of _ (by decide +kernel)) ggL_law_X5_mustPrecede
set_option maxRecDepth 20000 in
theorem ggL_law_X6_mustPrecede : GoodIn wsL_law wsX6_mustPrecede := goodIn_r _ [465, 88, 216, 217, 218, 5, 219, 84, 163, 164, 165, 166, 167, 168, 169, 86, 373, 374, 375, 376, 348, 349, 350, 351, 87, 332, 333, 334, 335, 287, 288, 289, 377, 378, 379, 380, 381, 382, 383, 384, 638, 639, 640, 641, 642, 643, 644, 645, 646, 647] (by decide +kernel) (by decide +kernel)
set_option maxRecDepth 20000 in
theorem gL_law_X6_mustPrecede : GoodIn wsL_law (wsV RL 88 RX6 yX6_mustPrecede wsX6_mustPrecede) := goodIn_app (goodIn_of _ (by decide +kernel)) ggL_law_X6_mustPrecede
set_option maxRecDepth 20000 in
theorem ggL_law_X5_area : GoodIn wsL_law wsX5_area := goodIn_r _ [469, 15, 632, 633, 634, 635, 636, 637, 648, 649, 650, 651, 652, 653, 654, 655, 656, 657] (by decide +kernel) (by decide +kernel)
set_option maxRecDepth 20000 in
theorem gL_law_X5_area : GoodIn wsL_law (wsV RL 89 RX5 yX5_area wsX5_area) := goodIn_app (goodIn_of _ (by decide +kernel)) ggL_law_X5_area
set_option maxRecDepth 20000 in
theorem ggL_law_X6_area : GoodIn wsL_law wsX6_area := goodIn_r _ [473, 474, 475, 476, 5, 477, 84, 393, 394, 395, 396, 638, 639, 640, 641, 642, 643, 644, 645, 646, 647] (by decide +kernel) (by decide +kernel)
set_option maxRecDepth 20000 in
theorem gL_law_X6_area : GoodIn wsL_law (wsV RL 92 RX6 yX6_area wsX6_area) := goodIn_app (goodIn_of _ (by decide +kernel)) ggL_law_X6_area
set_option maxRecDepth 20000 in
theorem ggL_law_X5_span : GoodIn wsL_law wsX5_span := goodIn_r _ [481, 15, 27, 321, 14, 322, 323, 37, 38, 99, 100, 101, 2, 102, 33, 140, 141, 142, 39, 41, 42, 43, 143, 144, 482, 26, 483, 484, 66, 485, 486, 487, 488, 489, 490, 491, 632, 633, 634, 635, 636, 637, 648, 649, 650, 651, 652, 653, 654, 655, 656, 657, 661, 662] (by decide +kernel) (by decide +kernel)
set_option maxRecDepth 20000 in
theorem gL_law_X5_span : GoodIn wsL_law (wsV RL 93 RX5 yX5_span wsX5_span) := goodIn_app (goodIn_of _ (by decide +kernel)) ggL_law_X5_span
set_option maxRecDepth 20000 in
theorem ggL_law_X6_span : GoodIn wsL_law wsX6_span := goodIn_r _ [495, 328, 329, 330, 5, 331, 84, 163, 164, 165, 166, 167, 168, 169, 86, 441, 442, 443, 444, 373, 374, 375, 376, 348, 349, 350, 351, 87, 332, 333, 334, 335, 287, 288, 289, 377, 378, 379, 380, 88, 381, 382, 383, 384, 389, 390, 391, 392, 89, 496, 497, 498, 499, 638, 639, 640, 641, 642, 643, 644, 645, 646, 647] (by decide +kernel) (by decide +kernel)
set_option maxRecDepth 20000 in
theorem gL_law_X6_span : GoodIn wsL_law (wsV RL 96 RX6 yX6_span wsX6_span) := goodIn_app (goodIn_of _ (by decide +kernel)) ggL_law_X6_span
set_option maxRecDepth 20000 in
theorem ggL_law_X5_bestUpper : GoodIn wsL_law wsX5_bestUpper := goodIn_r _ [503, 31, 99, 100, 101, 2, 102, 33, 504, 505, 506, 507, 15, 508, 30, 509, 510, 71, 70, 511, 512, 513, 514, 76, 77, 140, 14, 141, 142, 39, 41, 42, 43, 143, 144, 515, 516, 517, 321, 322, 323, 37, 38, 340, 341, 342, 343, 518, 519, 520, 521, 522, 523, 524, 525, 74, 72, 526, 114, 115, 116, 75, 73, 527, 528, 529, 530, 531, 532, 533, 486, 487, 488, 534, 237, 238, 239, 240, 241, 242, 535, 536, 537, 538, 79, 363, 22, 364, 365, 149, 150, 151, 152, 61, 539, 540, 541, 542, 146, 147, 148, 632, 633, 634, 635, 636, 637, 663, 664, 665, 666, 667, 668, 669, 670, 671, 648, 649, 650, 651, 652, 653, 654, 655, 656, 657, 660] (by decide +kernel) (by decide +kernel)
set_option maxRecDepth 20000 in
theorem gL_law_X5_bestUpper : GoodIn wsL_law (wsV RL 97 RX5 yX5_bestUpper wsX5_bestUpper) := goodIn_app (goodIn_of _ (by decide +kernel)) ggL_law_X5_bestUpper
set_option maxRecDepth 20000 in
theorem ggL_law_X6_bestUpper : GoodIn wsL_law wsX6_bestUpper := goodIn_r _ [546, 547, 90, 166, 167, 168, 5, 169, 86, 548, 549, 550, 551, 84, 348, 349, 350, 351, 87, 332, 333, 334, 335, 287, 288, 289, 552, 553, 554, 555, 352, 353, 354, 355, 328, 329, 330, 331, 163, 164, 165, 556, 557, 558, 559, 377, 378, 379, 380, 88, 381, 382, 383, 384, 389, 390, 391, 392, 89, 638, 639, 640, 641, 642, 643, 644, 645, 646, 647] (by decide +kernel) (by decide +kernel)
set_option maxRecDepth 20000 in
theorem gL_law_X6_bestUpper : GoodIn wsL_law (wsV RL 100 RX6 yX6_bestUpper wsX6_bestUpper) := goodIn_app (goodIn_of _ (by decide +kernel)) ggL_law_X6_bestUpper
set_option maxRecDepth 20000 in
theorem ggL_law_X5_bestLower : GoodIn wsL_law wsX5_bestLower := goodIn_r _ [563, 31, 99, 100, 101, 2, 102, 33, 504, 505, 506, 507, 15, 508, 30, 509, 510, 71, 70, 511, 512, 513, 514, 76, 77, 140, 14, 141, 142, 39, 41, 42, 43, 143, 144, 515, 516, 517, 321, 322, 323, 37, 38, 340, 341, 342, 343, 518, 519, 520, 521, 522, 523, 524, 525, 74, 72, 526, 114, 115, 116, 75, 73, 527, 528, 529, 530, 531, 532, 533, 486, 487, 488, 534, 237, 238, 239, 240, 241, 242, 535, 536, 537, 538, 79, 363, 22, 364, 365, 149, 150, 151, 152, 61, 539, 540, 541, 542, 146, 147, 148, 632, 633, 634, 635, 636, 637, 663, 664, 665, 666, 667, 668, 669, 670, 671, 648, 649, 650, 651, 652, 653, 654, 655, 656, 657, 660] (by decide +kernel) (by decide +kernel)
set_option maxRecDepth 20000 in
theorem gL_law_X5_bestLower : GoodIn wsL_law (wsV RL 101 RX5 yX5_bestLower wsX5_bestLower) := goodIn_app (goodIn_of _ (by decide +kernel)) ggL_law_X5_bestLower
set_option maxRecDepth 20000 in
theorem ggL_law_X6_bestLower : GoodIn wsL_law wsX6_bestLower := goodIn_r _ [567, 547, 90, 166, 167, 168, 5, 169, 86, 548, 549, 550, 551, 84, 348, 349, 350, 351, 87, 332, 333, 334, 335, 287, 288, 289, 552, 553, 554, 555, 352, 353, 354, 355, 328, 329, 330, 331, 163, 164, 165, 556, 557, 558, 559, 377, 378, 379, 380, 88, 381, 382, 383, 384, 389, 390, 391, 392, 89, 638, 639, 640, 641, 642, 643, 644, 645, 646, 647] (by decide +kernel) (by decide +kernel)
set_option maxRecDepth 20000 in
theorem gL_law_X6_bestLower : GoodIn wsL_law (wsV RL 104 RX6 yX6_bestLower wsX6_bestLower) := goodIn_app (goodIn_of _ (by decide +kernel)) ggL_law_X6_bestLower
set_option maxRecDepth 20000 in
theorem ggL_law_X5_foldBest : GoodIn wsL_law wsX5_foldBest := goodIn_r _ [571, 19, 15, 31, 504, 505, 506, 2, 507, 508, 30, 509, 510, 71, 70, 511, 512, 513, 514, 76, 77, 140, 14, 141, 142, 39, 41, 42, 43, 143, 144, 515, 516, 517, 321, 322, 323, 37, 38, 340, 341, 342, 343, 518, 519, 520, 521, 522, 523, 524, 525, 74, 72, 526, 114, 115, 116, 75, 73, 527, 528, 529, 530, 531, 532, 533, 486, 487, 488, 534, 237, 238, 239, 240, 241, 242, 535, 536, 537, 538, 79, 363, 22, 364, 365, 149, 150, 151, 152, 61, 539, 540, 541, 542, 146, 147, 148, 103, 18, 104, 105, 57, 56, 106, 107, 108, 109, 110, 111, 112, 40, 113, 45, 46, 47, 121, 122, 123, 48, 49, 50, 51, 366, 367, 368, 128, 129, 130, 131, 23, 27, 132, 133, 134, 135, 136, 137, 138, 139, 145, 153, 26, 154, 155, 65, 66, 156, 157, 158, 572, 467, 468, 469, 632, 633, 634, 635, 636, 637, 663, 664, 665, 666, 667, 668, 669, 670, 671, 648, 649, 650, 651, 652, 653, 654, 655, 656, 657, 660, 658, 659, 661, 662] (by decide +kernel) (by decide +kernel)
set_option maxRecDepth 20000 in
theorem gL_law_X5_foldBest : GoodIn wsL_law (wsV RL 105 RX5 yX5_foldBest wsX5_foldBest) := goodIn_app (goodIn_of _ (by decide +kernel)) ggL_law_X5_foldBest
set_option maxRecDepth 20000 in
theorem ggL_law_X6_foldBest : GoodIn wsL_law wsX6_foldBest := goodIn_r _ [576, 547, 84, 90, 170, 171, 172, 5, 173, 174, 85, 548, 549, 550, 551, 348, 349, 350, 351, 87, 332, 333, 334, 335, 287, 288, 289, 552, 553, 554, 555, 352, 353, 354, 355, 328, 329, 330, 331, 163, 164, 165, 556, 557, 558, 559, 377, 378, 379, 380, 88, 381, 382, 383, 384, 389, 390, 391, 392, 89, 91, 92, 93, 94, 474, 475, 476, 477, 393, 394, 395, 396, 638, 639, 640, 641, 642, 643, 644, 645, 646, 647] (by decide +kernel) (by decide +kernel)
set_option maxRecDepth 20000 in
theorem gL_law_X6_foldBest : GoodIn wsL_law (wsV RL 108 RX6 yX6_foldBest wsX6_foldBest) := goodIn_app (goodIn_of _ (by decide +kernel)) ggL_law_X6_foldBest
set_option maxRecDepth 20000 in
theorem ggL_law_X5_undo : GoodIn wsL_law wsX5_undo := goodIn_r _ [580, 19, 15, 99, 100, 101, 2, 102, 33, 581, 18, 582, 583, 57, 56, 110, 14, 111, 112, 37, 38, 39, 40, 41, 113, 114, 115, 116, 42, 43, 45, 46, 47, 124, 125, 126, 127, 31, 128, 129, 130, 131, 23, 27, 132, 22, 133, 134, 135, 136, 137, 138, 61, 139, 49, 50, 51, 140, 141, 142, 143, 144, 145, 146, 147, 148, 149, 150, 151, 152, 153, 26, 154, 155, 65, 66, 156, 157, 158, 632, 633, 634, 635, 636, 637, 658, 659, 648, 649, 650, 651, 652, 653, 654, 655, 656, 657, 663, 664, 665, 666, 667, 668, 669, 670, 671, 660, 661, 662] (by decide +kernel) (by decide +kernel)
set_option maxRecDepth 20000 in
theorem gL_law_X5_undo : GoodIn wsL_law (wsV RL 109 RX5 yX5_undo wsX5_undo) := goodIn_app (goodIn_of _ (by decide +kernel)) ggL_law_X5_undo
set_option maxRecDepth 20000 in
theorem ggL_law_X6_undo : GoodIn wsL_law wsX6_undo := goodIn_r _ [587, 174, 84, 85, 166, 167, 168, 5, 169, 86, 638, 639, 640, 641, 642, 643, 644, 645, 646, 647] (by decide +kernel) (by decide +kernel)
set_option maxRecDepth 20000 in
theorem gL_law_X6_undo : GoodIn wsL_law (wsV RL 112 RX6 yX6_undo wsX6_undo) := goodIn_app (goodIn_of _ (by decide +kernel)) ggL_law_X6_undo
set_option maxRecDepth 20000 in
theorem ggL_law_X5_errorCount : GoodIn wsL_law wsX5_errorCount := goodIn_r _ [591, 33, 99, 100, 101, 2, 102, 632, 633, 634, 635, 636, 637] (by decide +kernel) (by decide +kernel)
set_option maxRecDepth 20000 in
theorem gL_law_X5_errorCount : GoodIn wsL_law (wsV RL 113 RX5 yX5_errorCount wsX5_errorCount) := goodIn_app (goodIn_of _ (by decide +kernel)) ggL_law_X5_errorCount
set_option maxRecDepth 20000 in
theorem ggL_law_X6_errorCount : GoodIn wsL_law wsX6_errorCount := goodIn_r _ [595, 86, 163, 164, 5, 165, 166, 167, 168, 169, 638, 639, 640, 641, 642, 643, 644, 645, 646, 647] (by decide +kernel) (by decide +kernel)
set_option maxRecDepth 20000 in
theorem gL_law_X6_errorCount : GoodIn wsL_law (wsV RL 116 RX6 yX6_errorCount wsX6_errorCount) := goodIn_app (goodIn_of _ (by decide +kernel)) ggL_law_X6_errorCount
set_option maxRecDepth 20000 in
theorem ggL_law_X5_digest : GoodIn wsL_law wsX5_digest := goodIn_r _ [599, 600, 33, 15, 19, 601, 602, 2, 603, 604, 605, 606, 607, 608, 27, 294, 14, 295, 296, 38, 43, 45, 189, 143, 144, 297, 273, 274, 275, 39, 298, 299, 300, 609, 610, 611, 612, 321, 322, 323, 37, 140, 141, 142, 41, 42, 360, 361, 362, 46, 47, 482, 26, 483, 484, 66, 485, 486, 487, 488, 489, 490, 491, 572, 467, 468, 469, 613, 614, 615, 616, 31, 504, 505, 506, 507, 508, 30, 509, 510, 71, 70, 511, 512, 513, 514, 76, 77, 515, 516, 517, 340, 341, 342, 343, 518, 519, 520, 521, 522, 523, 524, 525, 74, 72, 526, 114, 115, 116, 75, 73, 527, 528, 529, 530, 531, 532, 533, 534, 237, 238, 239, 240, 241, 242, 535, 536, 537, 538, 79, 363, 22, 364, 365, 149, 150, 151, 152, 61, 539, 540, 541, 542, 146, 147, 148, 632, 633, 634, 635, 636, 637, 648, 649, 650, 651, 652, 653, 654, 655, 656, 657, 658, 659, 661, 662, 663, 664, 665, 666, 667, 668, 669, 670, 671, 660] (by decide +kernel) (by decide +kernel)
set_option maxRecDepth 20000 in
theorem gL_law_X5_digest : GoodIn wsL_law (wsV RL 117 RX5 yX5_digest wsX5_digest) := goodIn_app (goodIn_of _ (by decide +kernel)) ggL_law_X5_digest
set_option maxRecDepth 20000 in
theorem ggL_law_X6_digest : GoodIn wsL_law wsX6_digest := goodIn_r _ [620, 621, 622, 86, 84, 547, 90, 174, 623, 624, 625, 5, 626, 627, 441, 442, 443, 444, 373, 374, 375, 376, 348, 349, 350, 351, 87, 332, 333, 334, 335, 287, 288, 289, 377, 378, 379, 380, 88, 381, 382, 383, 384, 389, 390, 391, 392, 89, 628, 629, 630, 631, 305, 306, 307, 308, 261, 262, 263, 264, 265, 266, 267, 268, 453, 454, 455, 456, 328, 329, 330, 331, 163, 164, 165, 409, 410, 411, 412, 496, 497, 498, 499, 474, 475, 476, 477, 393, 394, 395, 396, 548, 549, 550, 551, 552, 553, 554, 555, 352, 353, 354, 355, 556, 557, 558, 559, 638, 639, 640, 641, 642, 643, 644, 645, 646, 647] (by decide +kernel) (by decide +kernel)
set_option maxRecDepth 20000 in
theorem gL_law_X6_digest : GoodIn wsL_law (wsV RL 121 RX6 yX6_digest wsX6_digest) := goodIn_app (goodIn_of _ (by decide +kernel)) ggL_law_X6_digest
theorem dL_law_0 : decode cL_law 0 = .ok (.new 7, 3) := by decide +kernel
theorem dL_law_3 : decode cL_law 3 = .ok (.dup, 1) := by decide +kernel
theorem dL_law_4 : decode cL_law 4 = .ok (.invokespecial 9, 3) := by decide +kernel
theorem dL_law_7 : decode cL_law 7 = .ok (.astore_n 1, 1) := by decide +kernel
theorem dL_law_8 : decode cL_law 8 = .ok (.new 10, 3) := by decide +kernel
theorem dL_law_11 : decode cL_law 11 = .ok (.dup, 1) := by decide +kernel
theorem dL_law_12 : decode cL_law 12 = .ok (.invokespecial 12, 3) := by decide +kernel
theorem dL_law_15 : decode cL_law 15 = .ok (.astore_n 2, 1) := by decide +kernel
theorem dL_law_16 : decode cL_law 16 = .ok (.iconst 0, 1) := by decide +kernel
theorem dL_law_17 : decode cL_law 17 = .ok (.istore_n 3, 1) := by decide +kernel
theorem dL_law_18 : decode cL_law 18 = .ok (.iload_n 3, 1) := by decide +kernel
theorem dL_law_19 : decode cL_law 19 = .ok (.aload_n 0, 1) := by decide +kernel
theorem dL_law_20 : decode cL_law 20 = .ok (.arraylength, 1) := by decide +kernel
theorem dL_law_21 : decode cL_law 21 = .ok (.iconst 4, 1) := by decide +kernel
theorem dL_law_22 : decode cL_law 22 = .ok (.isub, 1) := by decide +kernel
theorem dL_law_23 : decode cL_law 23 = .ok (.if_icmp .gt 724, 3) := by decide +kernel
theorem dL_law_26 : decode cL_law 26 = .ok (.aload_n 0, 1) := by decide +kernel
theorem dL_law_27 : decode cL_law 27 = .ok (.iload_n 3, 1) := by decide +kernel
theorem dL_law_28 : decode cL_law 28 = .ok (.iaload, 1) := by decide +kernel
theorem dL_law_29 : decode cL_law 29 = .ok (.bipush 31, 2) := by decide +kernel
theorem dL_law_31 : decode cL_law 31 = .ok (.iand, 1) := by decide +kernel
theorem dL_law_32 : decode cL_law 32 = .ok (.tableswitch 709 0 25 #[120, 153, 196, 219, 232, 255, 278, 301, 324, 337, 360, 393, 426, 449, 472, 485, 508, 531, 564, 577, 600, 623, 646, 659, 672, 695], 120) := by decide +kernel
theorem dL_law_152 : decode cL_law 152 = .ok (.aload_n 1, 1) := by decide +kernel
theorem dL_law_153 : decode cL_law 153 = .ok (.aload_n 0, 1) := by decide +kernel
theorem dL_law_154 : decode cL_law 154 = .ok (.iload_n 3, 1) := by decide +kernel
theorem dL_law_155 : decode cL_law 155 = .ok (.iconst 1, 1) := by decide +kernel
theorem dL_law_156 : decode cL_law 156 = .ok (.iadd, 1) := by decide +kernel
theorem dL_law_157 : decode cL_law 157 = .ok (.iaload, 1) := by decide +kernel
theorem dL_law_158 : decode cL_law 158 = .ok (.aload_n 0, 1) := by decide +kernel
theorem dL_law_159 : decode cL_law 159 = .ok (.iload_n 3, 1) := by decide +kernel
theorem dL_law_160 : decode cL_law 160 = .ok (.iconst 2, 1) := by decide +kernel
theorem dL_law_161 : decode cL_law 161 = .ok (.iadd, 1) := by decide +kernel
theorem dL_law_162 : decode cL_law 162 = .ok (.iaload, 1) := by decide +kernel
theorem dL_law_163 : decode cL_law 163 = .ok (.invokevirtual 13, 3) := by decide +kernel
theorem dL_law_166 : decode cL_law 166 = .ok (.aload_n 2, 1) := by decide +kernel
theorem dL_law_167 : decode cL_law 167 = .ok (.aload_n 0, 1) := by decide +kernel
theorem dL_law_168 : decode cL_law 168 = .ok (.iload_n 3, 1) := by decide +kernel
theorem dL_law_169 : decode cL_law 169 = .ok (.iconst 1, 1) := by decide +kernel
theorem dL_law_170 : decode cL_law 170 = .ok (.iadd, 1) := by decide +kernel
theorem dL_law_171 : decode cL_law 171 = .ok (.iaload, 1) := by decide +kernel
theorem dL_law_172 : decode cL_law 172 = .ok (.aload_n 0, 1) := by decide +kernel
theorem dL_law_173 : decode cL_law 173 = .ok (.iload_n 3, 1) := by decide +kernel
theorem dL_law_174 : decode cL_law 174 = .ok (.iconst 2, 1) := by decide +kernel
theorem dL_law_175 : decode cL_law 175 = .ok (.iadd, 1) := by decide +kernel
theorem dL_law_176 : decode cL_law 176 = .ok (.iaload, 1) := by decide +kernel
theorem dL_law_177 : decode cL_law 177 = .ok (.invokevirtual 17, 3) := by decide +kernel
theorem dL_law_180 : decode cL_law 180 = .ok (.if_icmp .eq 561, 3) := by decide +kernel
theorem dL_law_183 : decode cL_law 183 = .ok (.iconst 0, 1) := by decide +kernel
theorem dL_law_184 : decode cL_law 184 = .ok (.ireturn, 1) := by decide +kernel
theorem dL_law_185 : decode cL_law 185 = .ok (.aload_n 1, 1) := by decide +kernel
theorem dL_law_186 : decode cL_law 186 = .ok (.aload_n 0, 1) := by decide +kernel
theorem dL_law_187 : decode cL_law 187 = .ok (.iload_n 3, 1) := by decide +kernel
theorem dL_law_188 : decode cL_law 188 = .ok (.iconst 1, 1) := by decide +kernel
theorem dL_law_189 : decode cL_law 189 = .ok (.iadd, 1) := by decide +kernel
theorem dL_law_190 : decode cL_law 190 = .ok (.iaload, 1) := by decide +kernel
theorem dL_law_191 : decode cL_law 191 = .ok (.aload_n 0, 1) := by decide +kernel
theorem dL_law_192 : decode cL_law 192 = .ok (.iload_n 3, 1) := by decide +kernel
theorem dL_law_193 : decode cL_law 193 = .ok (.iconst 2, 1) := by decide +kernel
theorem dL_law_194 : decode cL_law 194 = .ok (.iadd, 1) := by decide +kernel
theorem dL_law_195 : decode cL_law 195 = .ok (.iaload, 1) := by decide +kernel
theorem dL_law_196 : decode cL_law 196 = .ok (.aload_n 0, 1) := by decide +kernel
theorem dL_law_197 : decode cL_law 197 = .ok (.iload_n 3, 1) := by decide +kernel
theorem dL_law_198 : decode cL_law 198 = .ok (.iconst 3, 1) := by decide +kernel
theorem dL_law_199 : decode cL_law 199 = .ok (.iadd, 1) := by decide +kernel
theorem dL_law_200 : decode cL_law 200 = .ok (.iaload, 1) := by decide +kernel
theorem dL_law_201 : decode cL_law 201 = .ok (.invokevirtual 18, 3) := by decide +kernel
theorem dL_law_204 : decode cL_law 204 = .ok (.aload_n 2, 1) := by decide +kernel
theorem dL_law_205 : decode cL_law 205 = .ok (.aload_n 0, 1) := by decide +kernel
theorem dL_law_206 : decode cL_law 206 = .ok (.iload_n 3, 1) := by decide +kernel
theorem dL_law_207 : decode cL_law 207 = .ok (.iconst 1, 1) := by decide +kernel
theorem dL_law_208 : decode cL_law 208 = .ok (.iadd, 1) := by decide +kernel
theorem dL_law_209 : decode cL_law 209 = .ok (.iaload, 1) := by decide +kernel
theorem dL_law_210 : decode cL_law 210 = .ok (.aload_n 0, 1) := by decide +kernel
theorem dL_law_211 : decode cL_law 211 = .ok (.iload_n 3, 1) := by decide +kernel
theorem dL_law_212 : decode cL_law 212 = .ok (.iconst 2, 1) := by decide +kernel
theorem dL_law_213 : decode cL_law 213 = .ok (.iadd, 1) := by decide +kernel
theorem dL_law_214 : decode cL_law 214 = .ok (.iaload, 1) := by decide +kernel
theorem dL_law_215 : decode cL_law 215 = .ok (.aload_n 0, 1) := by decide +kernel
theorem dL_law_216 : decode cL_law 216 = .ok (.iload_n 3, 1) := by decide +kernel
theorem dL_law_217 : decode cL_law 217 = .ok (.iconst 3, 1) := by decide +kernel
theorem dL_law_218 : decode cL_law 218 = .ok (.iadd, 1) := by decide +kernel
theorem dL_law_219 : decode cL_law 219 = .ok (.iaload, 1) := by decide +kernel
theorem dL_law_220 : decode cL_law 220 = .ok (.invokevirtual 22, 3) := by decide +kernel
theorem dL_law_223 : decode cL_law 223 = .ok (.if_icmp .eq 518, 3) := by decide +kernel
theorem dL_law_226 : decode cL_law 226 = .ok (.iconst 0, 1) := by decide +kernel
theorem dL_law_227 : decode cL_law 227 = .ok (.ireturn, 1) := by decide +kernel
theorem dL_law_228 : decode cL_law 228 = .ok (.aload_n 1, 1) := by decide +kernel
theorem dL_law_229 : decode cL_law 229 = .ok (.aload_n 0, 1) := by decide +kernel
theorem dL_law_230 : decode cL_law 230 = .ok (.iload_n 3, 1) := by decide +kernel
theorem dL_law_231 : decode cL_law 231 = .ok (.iconst 1, 1) := by decide +kernel
theorem dL_law_232 : decode cL_law 232 = .ok (.iadd, 1) := by decide +kernel
theorem dL_law_233 : decode cL_law 233 = .ok (.iaload, 1) := by decide +kernel
theorem dL_law_234 : decode cL_law 234 = .ok (.invokevirtual 23, 3) := by decide +kernel
theorem dL_law_237 : decode cL_law 237 = .ok (.aload_n 2, 1) := by decide +kernel
theorem dL_law_238 : decode cL_law 238 = .ok (.aload_n 0, 1) := by decide +kernel
theorem dL_law_239 : decode cL_law 239 = .ok (.iload_n 3, 1) := by decide +kernel
theorem dL_law_240 : decode cL_law 240 = .ok (.iconst 1, 1) := by decide +kernel
theorem dL_law_241 : decode cL_law 241 = .ok (.iadd, 1) := by decide +kernel
theorem dL_law_242 : decode cL_law 242 = .ok (.iaload, 1) := by decide +kernel
theorem dL_law_243 : decode cL_law 243 = .ok (.invokevirtual 27, 3) := by decide +kernel
theorem dL_law_246 : decode cL_law 246 = .ok (.if_icmp .eq 495, 3) := by decide +kernel
theorem dL_law_249 : decode cL_law 249 = .ok (.iconst 0, 1) := by decide +kernel
theorem dL_law_250 : decode cL_law 250 = .ok (.ireturn, 1) := by decide +kernel
theorem dL_law_251 : decode cL_law 251 = .ok (.aload_n 1, 1) := by decide +kernel
theorem dL_law_252 : decode cL_law 252 = .ok (.invokevirtual 28, 3) := by decide +kernel
theorem dL_law_255 : decode cL_law 255 = .ok (.aload_n 2, 1) := by decide +kernel
theorem dL_law_256 : decode cL_law 256 = .ok (.invokevirtual 32, 3) := by decide +kernel
theorem dL_law_259 : decode cL_law 259 = .ok (.if_icmp .eq 482, 3) := by decide +kernel
theorem dL_law_262 : decode cL_law 262 = .ok (.iconst 0, 1) := by decide +kernel
theorem dL_law_263 : decode cL_law 263 = .ok (.ireturn, 1) := by decide +kernel
theorem dL_law_264 : decode cL_law 264 = .ok (.aload_n 1, 1) := by decide +kernel
theorem dL_law_265 : decode cL_law 265 = .ok (.aload_n 0, 1) := by decide +kernel
theorem dL_law_266 : decode cL_law 266 = .ok (.iload_n 3, 1) := by decide +kernel
theorem dL_law_267 : decode cL_law 267 = .ok (.iconst 1, 1) := by decide +kernel
theorem dL_law_268 : decode cL_law 268 = .ok (.iadd, 1) := by decide +kernel
theorem dL_law_269 : decode cL_law 269 = .ok (.iaload, 1) := by decide +kernel
theorem dL_law_270 : decode cL_law 270 = .ok (.invokevirtual 33, 3) := by decide +kernel
theorem dL_law_273 : decode cL_law 273 = .ok (.aload_n 2, 1) := by decide +kernel
theorem dL_law_274 : decode cL_law 274 = .ok (.aload_n 0, 1) := by decide +kernel
theorem dL_law_275 : decode cL_law 275 = .ok (.iload_n 3, 1) := by decide +kernel
theorem dL_law_276 : decode cL_law 276 = .ok (.iconst 1, 1) := by decide +kernel
theorem dL_law_277 : decode cL_law 277 = .ok (.iadd, 1) := by decide +kernel
theorem dL_law_278 : decode cL_law 278 = .ok (.iaload, 1) := by decide +kernel
theorem dL_law_279 : decode cL_law 279 = .ok (.invokevirtual 36, 3) := by decide +kernel
theorem dL_law_282 : decode cL_law 282 = .ok (.if_icmp .eq 459, 3) := by decide +kernel
theorem dL_law_285 : decode cL_law 285 = .ok (.iconst 0, 1) := by decide +kernel
theorem dL_law_286 : decode cL_law 286 = .ok (.ireturn, 1) := by decide +kernel
theorem dL_law_287 : decode cL_law 287 = .ok (.aload_n 1, 1) := by decide +kernel
theorem dL_law_288 : decode cL_law 288 = .ok (.aload_n 0, 1) := by decide +kernel
theorem dL_law_289 : decode cL_law 289 = .ok (.iload_n 3, 1) := by decide +kernel
theorem dL_law_290 : decode cL_law 290 = .ok (.iconst 1, 1) := by decide +kernel
theorem dL_law_291 : decode cL_law 291 = .ok (.iadd, 1) := by decide +kernel
theorem dL_law_292 : decode cL_law 292 = .ok (.iaload, 1) := by decide +kernel
theorem dL_law_293 : decode cL_law 293 = .ok (.invokevirtual 37, 3) := by decide +kernel
theorem dL_law_296 : decode cL_law 296 = .ok (.aload_n 2, 1) := by decide +kernel
theorem dL_law_297 : decode cL_law 297 = .ok (.aload_n 0, 1) := by decide +kernel
theorem dL_law_298 : decode cL_law 298 = .ok (.iload_n 3, 1) := by decide +kernel
theorem dL_law_299 : decode cL_law 299 = .ok (.iconst 1, 1) := by decide +kernel
theorem dL_law_300 : decode cL_law 300 = .ok (.iadd, 1) := by decide +kernel
theorem dL_law_301 : decode cL_law 301 = .ok (.iaload, 1) := by decide +kernel
theorem dL_law_302 : decode cL_law 302 = .ok (.invokevirtual 40, 3) := by decide +kernel
theorem dL_law_305 : decode cL_law 305 = .ok (.if_icmp .eq 436, 3) := by decide +kernel
theorem dL_law_308 : decode cL_law 308 = .ok (.iconst 0, 1) := by decide +kernel
theorem dL_law_309 : decode cL_law 309 = .ok (.ireturn, 1) := by decide +kernel
theorem dL_law_310 : decode cL_law 310 = .ok (.aload_n 1, 1) := by decide +kernel
theorem dL_law_311 : decode cL_law 311 = .ok (.aload_n 0, 1) := by decide +kernel
theorem dL_law_312 : decode cL_law 312 = .ok (.iload_n 3, 1) := by decide +kernel
theorem dL_law_313 : decode cL_law 313 = .ok (.iconst 1, 1) := by decide +kernel
theorem dL_law_314 : decode cL_law 314 = .ok (.iadd, 1) := by decide +kernel
theorem dL_law_315 : decode cL_law 315 = .ok (.iaload, 1) := by decide +kernel
theorem dL_law_316 : decode cL_law 316 = .ok (.invokevirtual 41, 3) := by decide +kernel
theorem dL_law_319 : decode cL_law 319 = .ok (.aload_n 2, 1) := by decide +kernel
theorem dL_law_320 : decode cL_law 320 = .ok (.aload_n 0, 1) := by decide +kernel
theorem dL_law_321 : decode cL_law 321 = .ok (.iload_n 3, 1) := by decide +kernel
theorem dL_law_322 : decode cL_law 322 = .ok (.iconst 1, 1) := by decide +kernel
theorem dL_law_323 : decode cL_law 323 = .ok (.iadd, 1) := by decide +kernel
theorem dL_law_324 : decode cL_law 324 = .ok (.iaload, 1) := by decide +kernel
theorem dL_law_325 : decode cL_law 325 = .ok (.invokevirtual 44, 3) := by decide +kernel
theorem dL_law_328 : decode cL_law 328 = .ok (.if_icmp .eq 413, 3) := by decide +kernel
theorem dL_law_331 : decode cL_law 331 = .ok (.iconst 0, 1) := by decide +kernel
theorem dL_law_332 : decode cL_law 332 = .ok (.ireturn, 1) := by decide +kernel
theorem dL_law_333 : decode cL_law 333 = .ok (.aload_n 1, 1) := by decide +kernel
theorem dL_law_334 : decode cL_law 334 = .ok (.aload_n 0, 1) := by decide +kernel
theorem dL_law_335 : decode cL_law 335 = .ok (.iload_n 3, 1) := by decide +kernel
theorem dL_law_336 : decode cL_law 336 = .ok (.iconst 1, 1) := by decide +kernel
theorem dL_law_337 : decode cL_law 337 = .ok (.iadd, 1) := by decide +kernel
theorem dL_law_338 : decode cL_law 338 = .ok (.iaload, 1) := by decide +kernel
theorem dL_law_339 : decode cL_law 339 = .ok (.invokevirtual 45, 3) := by decide +kernel
theorem dL_law_342 : decode cL_law 342 = .ok (.aload_n 2, 1) := by decide +kernel
theorem dL_law_343 : decode cL_law 343 = .ok (.aload_n 0, 1) := by decide +kernel
theorem dL_law_344 : decode cL_law 344 = .ok (.iload_n 3, 1) := by decide +kernel
theorem dL_law_345 : decode cL_law 345 = .ok (.iconst 1, 1) := by decide +kernel
theorem dL_law_346 : decode cL_law 346 = .ok (.iadd, 1) := by decide +kernel
theorem dL_law_347 : decode cL_law 347 = .ok (.iaload, 1) := by decide +kernel
theorem dL_law_348 : decode cL_law 348 = .ok (.invokevirtual 48, 3) := by decide +kernel
theorem dL_law_351 : decode cL_law 351 = .ok (.if_icmp .eq 390, 3) := by decide +kernel
theorem dL_law_354 : decode cL_law 354 = .ok (.iconst 0, 1) := by decide +kernel
theorem dL_law_355 : decode cL_law 355 = .ok (.ireturn, 1) := by decide +kernel
theorem dL_law_356 : decode cL_law 356 = .ok (.aload_n 1, 1) := by decide +kernel
theorem dL_law_357 : decode cL_law 357 = .ok (.invokevirtual 49, 3) := by decide +kernel
theorem dL_law_360 : decode cL_law 360 = .ok (.aload_n 2, 1) := by decide +kernel
theorem dL_law_361 : decode cL_law 361 = .ok (.invokevirtual 52, 3) := by decide +kernel
theorem dL_law_364 : decode cL_law 364 = .ok (.if_icmp .eq 377, 3) := by decide +kernel
theorem dL_law_367 : decode cL_law 367 = .ok (.iconst 0, 1) := by decide +kernel
theorem dL_law_368 : decode cL_law 368 = .ok (.ireturn, 1) := by decide +kernel
theorem dL_law_369 : decode cL_law 369 = .ok (.aload_n 1, 1) := by decide +kernel
theorem dL_law_370 : decode cL_law 370 = .ok (.aload_n 0, 1) := by decide +kernel
theorem dL_law_371 : decode cL_law 371 = .ok (.iload_n 3, 1) := by decide +kernel
theorem dL_law_372 : decode cL_law 372 = .ok (.iconst 1, 1) := by decide +kernel
theorem dL_law_373 : decode cL_law 373 = .ok (.iadd, 1) := by decide +kernel
theorem dL_law_374 : decode cL_law 374 = .ok (.iaload, 1) := by decide +kernel
theorem dL_law_375 : decode cL_law 375 = .ok (.invokevirtual 53, 3) := by decide +kernel
theorem dL_law_378 : decode cL_law 378 = .ok (.aload_n 2, 1) := by decide +kernel
theorem dL_law_379 : decode cL_law 379 = .ok (.aload_n 0, 1) := by decide +kernel
theorem dL_law_380 : decode cL_law 380 = .ok (.iload_n 3, 1) := by decide +kernel
theorem dL_law_381 : decode cL_law 381 = .ok (.iconst 1, 1) := by decide +kernel
theorem dL_law_382 : decode cL_law 382 = .ok (.iadd, 1) := by decide +kernel
theorem dL_law_383 : decode cL_law 383 = .ok (.iaload, 1) := by decide +kernel
theorem dL_law_384 : decode cL_law 384 = .ok (.invokevirtual 56, 3) := by decide +kernel
theorem dL_law_387 : decode cL_law 387 = .ok (.if_icmp .eq 354, 3) := by decide +kernel
theorem dL_law_390 : decode cL_law 390 = .ok (.iconst 0, 1) := by decide +kernel
theorem dL_law_391 : decode cL_law 391 = .ok (.ireturn, 1) := by decide +kernel
theorem dL_law_392 : decode cL_law 392 = .ok (.aload_n 1, 1) := by decide +kernel
theorem dL_law_393 : decode cL_law 393 = .ok (.aload_n 0, 1) := by decide +kernel
theorem dL_law_394 : decode cL_law 394 = .ok (.iload_n 3, 1) := by decide +kernel
theorem dL_law_395 : decode cL_law 395 = .ok (.iconst 1, 1) := by decide +kernel
theorem dL_law_396 : decode cL_law 396 = .ok (.iadd, 1) := by decide +kernel
theorem dL_law_397 : decode cL_law 397 = .ok (.iaload, 1) := by decide +kernel
theorem dL_law_398 : decode cL_law 398 = .ok (.aload_n 0, 1) := by decide +kernel
theorem dL_law_399 : decode cL_law 399 = .ok (.iload_n 3, 1) := by decide +kernel
theorem dL_law_400 : decode cL_law 400 = .ok (.iconst 2, 1) := by decide +kernel
theorem dL_law_401 : decode cL_law 401 = .ok (.iadd, 1) := by decide +kernel
theorem dL_law_402 : decode cL_law 402 = .ok (.iaload, 1) := by decide +kernel
theorem dL_law_403 : decode cL_law 403 = .ok (.invokevirtual 57, 3) := by decide +kernel
theorem dL_law_406 : decode cL_law 406 = .ok (.aload_n 2, 1) := by decide +kernel
theorem dL_law_407 : decode cL_law 407 = .ok (.aload_n 0, 1) := by decide +kernel
theorem dL_law_408 : decode cL_law 408 = .ok (.iload_n 3, 1) := by decide +kernel
theorem dL_law_409 : decode cL_law 409 = .ok (.iconst 1, 1) := by decide +kernel
theorem dL_law_410 : decode cL_law 410 = .ok (.iadd, 1) := by decide +kernel
theorem dL_law_411 : decode cL_law 411 = .ok (.iaload, 1) := by decide +kernel
theorem dL_law_412 : decode cL_law 412 = .ok (.aload_n 0, 1) := by decide +kernel
theorem dL_law_413 : decode cL_law 413 = .ok (.iload_n 3, 1) := by decide +kernel
theorem dL_law_414 : decode cL_law 414 = .ok (.iconst 2, 1) := by decide +kernel
theorem dL_law_415 : decode cL_law 415 = .ok (.iadd, 1) := by decide +kernel
theorem dL_law_416 : decode cL_law 416 = .ok (.iaload, 1) := by decide +kernel
theorem dL_law_417 : decode cL_law 417 = .ok (.invokevirtual 60, 3) := by decide +kernel
theorem dL_law_420 : decode cL_law 420 = .ok (.if_icmp .eq 321, 3) := by decide +kernel
theorem dL_law_423 : decode cL_law 423 = .ok (.iconst 0, 1) := by decide +kernel
theorem dL_law_424 : decode cL_law 424 = .ok (.ireturn, 1) := by decide +kernel
theorem dL_law_425 : decode cL_law 425 = .ok (.aload_n 1, 1) := by decide +kernel
theorem dL_law_426 : decode cL_law 426 = .ok (.aload_n 0, 1) := by decide +kernel
theorem dL_law_427 : decode cL_law 427 = .ok (.iload_n 3, 1) := by decide +kernel
theorem dL_law_428 : decode cL_law 428 = .ok (.iconst 1, 1) := by decide +kernel
theorem dL_law_429 : decode cL_law 429 = .ok (.iadd, 1) := by decide +kernel
theorem dL_law_430 : decode cL_law 430 = .ok (.iaload, 1) := by decide +kernel
theorem dL_law_431 : decode cL_law 431 = .ok (.aload_n 0, 1) := by decide +kernel
theorem dL_law_432 : decode cL_law 432 = .ok (.iload_n 3, 1) := by decide +kernel
theorem dL_law_433 : decode cL_law 433 = .ok (.iconst 2, 1) := by decide +kernel
theorem dL_law_434 : decode cL_law 434 = .ok (.iadd, 1) := by decide +kernel
theorem dL_law_435 : decode cL_law 435 = .ok (.iaload, 1) := by decide +kernel
theorem dL_law_436 : decode cL_law 436 = .ok (.invokevirtual 61, 3) := by decide +kernel
theorem dL_law_439 : decode cL_law 439 = .ok (.aload_n 2, 1) := by decide +kernel
theorem dL_law_440 : decode cL_law 440 = .ok (.aload_n 0, 1) := by decide +kernel
theorem dL_law_441 : decode cL_law 441 = .ok (.iload_n 3, 1) := by decide +kernel
theorem dL_law_442 : decode cL_law 442 = .ok (.iconst 1, 1) := by decide +kernel
theorem dL_law_443 : decode cL_law 443 = .ok (.iadd, 1) := by decide +kernel
theorem dL_law_444 : decode cL_law 444 = .ok (.iaload, 1) := by decide +kernel
theorem dL_law_445 : decode cL_law 445 = .ok (.aload_n 0, 1) := by decide +kernel
theorem dL_law_446 : decode cL_law 446 = .ok (.iload_n 3, 1) := by decide +kernel
theorem dL_law_447 : decode cL_law 447 = .ok (.iconst 2, 1) := by decide +kernel
theorem dL_law_448 : decode cL_law 448 = .ok (.iadd, 1) := by decide +kernel
theorem dL_law_449 : decode cL_law 449 = .ok (.iaload, 1) := by decide +kernel
theorem dL_law_450 : decode cL_law 450 = .ok (.invokevirtual 64, 3) := by decide +kernel
theorem dL_law_453 : decode cL_law 453 = .ok (.if_icmp .eq 288, 3) := by decide +kernel
theorem dL_law_456 : decode cL_law 456 = .ok (.iconst 0, 1) := by decide +kernel
theorem dL_law_457 : decode cL_law 457 = .ok (.ireturn, 1) := by decide +kernel
theorem dL_law_458 : decode cL_law 458 = .ok (.aload_n 1, 1) := by decide +kernel
theorem dL_law_459 : decode cL_law 459 = .ok (.aload_n 0, 1) := by decide +kernel
theorem dL_law_460 : decode cL_law 460 = .ok (.iload_n 3, 1) := by decide +kernel
theorem dL_law_461 : decode cL_law 461 = .ok (.iconst 1, 1) := by decide +kernel
theorem dL_law_462 : decode cL_law 462 = .ok (.iadd, 1) := by decide +kernel
theorem dL_law_463 : decode cL_law 463 = .ok (.iaload, 1) := by decide +kernel
theorem dL_law_464 : decode cL_law 464 = .ok (.invokevirtual 65, 3) := by decide +kernel
theorem dL_law_467 : decode cL_law 467 = .ok (.aload_n 2, 1) := by decide +kernel
theorem dL_law_468 : decode cL_law 468 = .ok (.aload_n 0, 1) := by decide +kernel
theorem dL_law_469 : decode cL_law 469 = .ok (.iload_n 3, 1) := by decide +kernel
theorem dL_law_470 : decode cL_law 470 = .ok (.iconst 1, 1) := by decide +kernel
theorem dL_law_471 : decode cL_law 471 = .ok (.iadd, 1) := by decide +kernel
theorem dL_law_472 : decode cL_law 472 = .ok (.iaload, 1) := by decide +kernel
theorem dL_law_473 : decode cL_law 473 = .ok (.invokevirtual 68, 3) := by decide +kernel
theorem dL_law_476 : decode cL_law 476 = .ok (.if_icmp .eq 265, 3) := by decide +kernel
theorem dL_law_479 : decode cL_law 479 = .ok (.iconst 0, 1) := by decide +kernel
theorem dL_law_480 : decode cL_law 480 = .ok (.ireturn, 1) := by decide +kernel
theorem dL_law_481 : decode cL_law 481 = .ok (.aload_n 1, 1) := by decide +kernel
theorem dL_law_482 : decode cL_law 482 = .ok (.aload_n 0, 1) := by decide +kernel
theorem dL_law_483 : decode cL_law 483 = .ok (.iload_n 3, 1) := by decide +kernel
theorem dL_law_484 : decode cL_law 484 = .ok (.iconst 1, 1) := by decide +kernel
theorem dL_law_485 : decode cL_law 485 = .ok (.iadd, 1) := by decide +kernel
theorem dL_law_486 : decode cL_law 486 = .ok (.iaload, 1) := by decide +kernel
theorem dL_law_487 : decode cL_law 487 = .ok (.invokevirtual 69, 3) := by decide +kernel
theorem dL_law_490 : decode cL_law 490 = .ok (.aload_n 2, 1) := by decide +kernel
theorem dL_law_491 : decode cL_law 491 = .ok (.aload_n 0, 1) := by decide +kernel
theorem dL_law_492 : decode cL_law 492 = .ok (.iload_n 3, 1) := by decide +kernel
theorem dL_law_493 : decode cL_law 493 = .ok (.iconst 1, 1) := by decide +kernel
theorem dL_law_494 : decode cL_law 494 = .ok (.iadd, 1) := by decide +kernel
theorem dL_law_495 : decode cL_law 495 = .ok (.iaload, 1) := by decide +kernel
theorem dL_law_496 : decode cL_law 496 = .ok (.invokevirtual 72, 3) := by decide +kernel
theorem dL_law_499 : decode cL_law 499 = .ok (.if_icmp .eq 242, 3) := by decide +kernel
theorem dL_law_502 : decode cL_law 502 = .ok (.iconst 0, 1) := by decide +kernel
theorem dL_law_503 : decode cL_law 503 = .ok (.ireturn, 1) := by decide +kernel
theorem dL_law_504 : decode cL_law 504 = .ok (.aload_n 1, 1) := by decide +kernel
theorem dL_law_505 : decode cL_law 505 = .ok (.invokevirtual 73, 3) := by decide +kernel
theorem dL_law_508 : decode cL_law 508 = .ok (.aload_n 2, 1) := by decide +kernel
theorem dL_law_509 : decode cL_law 509 = .ok (.invokevirtual 76, 3) := by decide +kernel
theorem dL_law_512 : decode cL_law 512 = .ok (.if_icmp .eq 229, 3) := by decide +kernel
theorem dL_law_515 : decode cL_law 515 = .ok (.iconst 0, 1) := by decide +kernel
theorem dL_law_516 : decode cL_law 516 = .ok (.ireturn, 1) := by decide +kernel
theorem dL_law_517 : decode cL_law 517 = .ok (.aload_n 1, 1) := by decide +kernel
theorem dL_law_518 : decode cL_law 518 = .ok (.aload_n 0, 1) := by decide +kernel
theorem dL_law_519 : decode cL_law 519 = .ok (.iload_n 3, 1) := by decide +kernel
theorem dL_law_520 : decode cL_law 520 = .ok (.iconst 1, 1) := by decide +kernel
theorem dL_law_521 : decode cL_law 521 = .ok (.iadd, 1) := by decide +kernel
theorem dL_law_522 : decode cL_law 522 = .ok (.iaload, 1) := by decide +kernel
theorem dL_law_523 : decode cL_law 523 = .ok (.invokevirtual 77, 3) := by decide +kernel
theorem dL_law_526 : decode cL_law 526 = .ok (.aload_n 2, 1) := by decide +kernel
theorem dL_law_527 : decode cL_law 527 = .ok (.aload_n 0, 1) := by decide +kernel
theorem dL_law_528 : decode cL_law 528 = .ok (.iload_n 3, 1) := by decide +kernel
theorem dL_law_529 : decode cL_law 529 = .ok (.iconst 1, 1) := by decide +kernel
theorem dL_law_530 : decode cL_law 530 = .ok (.iadd, 1) := by decide +kernel
theorem dL_law_531 : decode cL_law 531 = .ok (.iaload, 1) := by decide +kernel
theorem dL_law_532 : decode cL_law 532 = .ok (.invokevirtual 80, 3) := by decide +kernel
theorem dL_law_535 : decode cL_law 535 = .ok (.if_icmp .eq 206, 3) := by decide +kernel
theorem dL_law_538 : decode cL_law 538 = .ok (.iconst 0, 1) := by decide +kernel
theorem dL_law_539 : decode cL_law 539 = .ok (.ireturn, 1) := by decide +kernel
theorem dL_law_540 : decode cL_law 540 = .ok (.aload_n 1, 1) := by decide +kernel
theorem dL_law_541 : decode cL_law 541 = .ok (.aload_n 0, 1) := by decide +kernel
theorem dL_law_542 : decode cL_law 542 = .ok (.iload_n 3, 1) := by decide +kernel
theorem dL_law_543 : decode cL_law 543 = .ok (.iconst 1, 1) := by decide +kernel
theorem dL_law_544 : decode cL_law 544 = .ok (.iadd, 1) := by decide +kernel
theorem dL_law_545 : decode cL_law 545 = .ok (.iaload, 1) := by decide +kernel
theorem dL_law_546 : decode cL_law 546 = .ok (.invokevirtual 81, 3) := by decide +kernel
theorem dL_law_549 : decode cL_law 549 = .ok (.aload_n 2, 1) := by decide +kernel
theorem dL_law_550 : decode cL_law 550 = .ok (.aload_n 0, 1) := by decide +kernel
theorem dL_law_551 : decode cL_law 551 = .ok (.iload_n 3, 1) := by decide +kernel
theorem dL_law_552 : decode cL_law 552 = .ok (.iconst 1, 1) := by decide +kernel
theorem dL_law_553 : decode cL_law 553 = .ok (.iadd, 1) := by decide +kernel
theorem dL_law_554 : decode cL_law 554 = .ok (.iaload, 1) := by decide +kernel
theorem dL_law_555 : decode cL_law 555 = .ok (.invokevirtual 84, 3) := by decide +kernel
theorem dL_law_558 : decode cL_law 558 = .ok (.if_icmp .eq 183, 3) := by decide +kernel
theorem dL_law_561 : decode cL_law 561 = .ok (.iconst 0, 1) := by decide +kernel
theorem dL_law_562 : decode cL_law 562 = .ok (.ireturn, 1) := by decide +kernel
theorem dL_law_563 : decode cL_law 563 = .ok (.aload_n 1, 1) := by decide +kernel
theorem dL_law_564 : decode cL_law 564 = .ok (.aload_n 0, 1) := by decide +kernel
theorem dL_law_565 : decode cL_law 565 = .ok (.iload_n 3, 1) := by decide +kernel
theorem dL_law_566 : decode cL_law 566 = .ok (.iconst 1, 1) := by decide +kernel
theorem dL_law_567 : decode cL_law 567 = .ok (.iadd, 1) := by decide +kernel
theorem dL_law_568 : decode cL_law 568 = .ok (.iaload, 1) := by decide +kernel
theorem dL_law_569 : decode cL_law 569 = .ok (.aload_n 0, 1) := by decide +kernel
theorem dL_law_570 : decode cL_law 570 = .ok (.iload_n 3, 1) := by decide +kernel
theorem dL_law_571 : decode cL_law 571 = .ok (.iconst 2, 1) := by decide +kernel
theorem dL_law_572 : decode cL_law 572 = .ok (.iadd, 1) := by decide +kernel
theorem dL_law_573 : decode cL_law 573 = .ok (.iaload, 1) := by decide +kernel
theorem dL_law_574 : decode cL_law 574 = .ok (.invokevirtual 85, 3) := by decide +kernel
theorem dL_law_577 : decode cL_law 577 = .ok (.aload_n 2, 1) := by decide +kernel
theorem dL_law_578 : decode cL_law 578 = .ok (.aload_n 0, 1) := by decide +kernel
theorem dL_law_579 : decode cL_law 579 = .ok (.iload_n 3, 1) := by decide +kernel
theorem dL_law_580 : decode cL_law 580 = .ok (.iconst 1, 1) := by decide +kernel
theorem dL_law_581 : decode cL_law 581 = .ok (.iadd, 1) := by decide +kernel
theorem dL_law_582 : decode cL_law 582 = .ok (.iaload, 1) := by decide +kernel
theorem dL_law_583 : decode cL_law 583 = .ok (.aload_n 0, 1) := by decide +kernel
theorem dL_law_584 : decode cL_law 584 = .ok (.iload_n 3, 1) := by decide +kernel
theorem dL_law_585 : decode cL_law 585 = .ok (.iconst 2, 1) := by decide +kernel
theorem dL_law_586 : decode cL_law 586 = .ok (.iadd, 1) := by decide +kernel
theorem dL_law_587 : decode cL_law 587 = .ok (.iaload, 1) := by decide +kernel
theorem dL_law_588 : decode cL_law 588 = .ok (.invokevirtual 88, 3) := by decide +kernel
theorem dL_law_591 : decode cL_law 591 = .ok (.if_icmp .eq 150, 3) := by decide +kernel
theorem dL_law_594 : decode cL_law 594 = .ok (.iconst 0, 1) := by decide +kernel
theorem dL_law_595 : decode cL_law 595 = .ok (.ireturn, 1) := by decide +kernel
theorem dL_law_596 : decode cL_law 596 = .ok (.aload_n 1, 1) := by decide +kernel
theorem dL_law_597 : decode cL_law 597 = .ok (.invokevirtual 89, 3) := by decide +kernel
theorem dL_law_600 : decode cL_law 600 = .ok (.aload_n 2, 1) := by decide +kernel
theorem dL_law_601 : decode cL_law 601 = .ok (.invokevirtual 92, 3) := by decide +kernel
theorem dL_law_604 : decode cL_law 604 = .ok (.if_icmp .eq 137, 3) := by decide +kernel
theorem dL_law_607 : decode cL_law 607 = .ok (.iconst 0, 1) := by decide +kernel
theorem dL_law_608 : decode cL_law 608 = .ok (.ireturn, 1) := by decide +kernel
theorem dL_law_609 : decode cL_law 609 = .ok (.aload_n 1, 1) := by decide +kernel
theorem dL_law_610 : decode cL_law 610 = .ok (.aload_n 0, 1) := by decide +kernel
theorem dL_law_611 : decode cL_law 611 = .ok (.iload_n 3, 1) := by decide +kernel
theorem dL_law_612 : decode cL_law 612 = .ok (.iconst 1, 1) := by decide +kernel
theorem dL_law_613 : decode cL_law 613 = .ok (.iadd, 1) := by decide +kernel
theorem dL_law_614 : decode cL_law 614 = .ok (.iaload, 1) := by decide +kernel
theorem dL_law_615 : decode cL_law 615 = .ok (.invokevirtual 93, 3) := by decide +kernel
theorem dL_law_618 : decode cL_law 618 = .ok (.aload_n 2, 1) := by decide +kernel
theorem dL_law_619 : decode cL_law 619 = .ok (.aload_n 0, 1) := by decide +kernel
theorem dL_law_620 : decode cL_law 620 = .ok (.iload_n 3, 1) := by decide +kernel
theorem dL_law_621 : decode cL_law 621 = .ok (.iconst 1, 1) := by decide +kernel
theorem dL_law_622 : decode cL_law 622 = .ok (.iadd, 1) := by decide +kernel
theorem dL_law_623 : decode cL_law 623 = .ok (.iaload, 1) := by decide +kernel
theorem dL_law_624 : decode cL_law 624 = .ok (.invokevirtual 96, 3) := by decide +kernel
theorem dL_law_627 : decode cL_law 627 = .ok (.if_icmp .eq 114, 3) := by decide +kernel
theorem dL_law_630 : decode cL_law 630 = .ok (.iconst 0, 1) := by decide +kernel
theorem dL_law_631 : decode cL_law 631 = .ok (.ireturn, 1) := by decide +kernel
theorem dL_law_632 : decode cL_law 632 = .ok (.aload_n 1, 1) := by decide +kernel
theorem dL_law_633 : decode cL_law 633 = .ok (.aload_n 0, 1) := by decide +kernel
theorem dL_law_634 : decode cL_law 634 = .ok (.iload_n 3, 1) := by decide +kernel
theorem dL_law_635 : decode cL_law 635 = .ok (.iconst 1, 1) := by decide +kernel
theorem dL_law_636 : decode cL_law 636 = .ok (.iadd, 1) := by decide +kernel
theorem dL_law_637 : decode cL_law 637 = .ok (.iaload, 1) := by decide +kernel
theorem dL_law_638 : decode cL_law 638 = .ok (.invokevirtual 97, 3) := by decide +kernel
theorem dL_law_641 : decode cL_law 641 = .ok (.aload_n 2, 1) := by decide +kernel
theorem dL_law_642 : decode cL_law 642 = .ok (.aload_n 0, 1) := by decide +kernel
theorem dL_law_643 : decode cL_law 643 = .ok (.iload_n 3, 1) := by decide +kernel
theorem dL_law_644 : decode cL_law 644 = .ok (.iconst 1, 1) := by decide +kernel
theorem dL_law_645 : decode cL_law 645 = .ok (.iadd, 1) := by decide +kernel
theorem dL_law_646 : decode cL_law 646 = .ok (.iaload, 1) := by decide +kernel
theorem dL_law_647 : decode cL_law 647 = .ok (.invokevirtual 100, 3) := by decide +kernel
theorem dL_law_650 : decode cL_law 650 = .ok (.if_icmp .eq 91, 3) := by decide +kernel
theorem dL_law_653 : decode cL_law 653 = .ok (.iconst 0, 1) := by decide +kernel
theorem dL_law_654 : decode cL_law 654 = .ok (.ireturn, 1) := by decide +kernel
theorem dL_law_655 : decode cL_law 655 = .ok (.aload_n 1, 1) := by decide +kernel
theorem dL_law_656 : decode cL_law 656 = .ok (.aload_n 0, 1) := by decide +kernel
theorem dL_law_657 : decode cL_law 657 = .ok (.iload_n 3, 1) := by decide +kernel
theorem dL_law_658 : decode cL_law 658 = .ok (.iconst 1, 1) := by decide +kernel
theorem dL_law_659 : decode cL_law 659 = .ok (.iadd, 1) := by decide +kernel
theorem dL_law_660 : decode cL_law 660 = .ok (.iaload, 1) := by decide +kernel
theorem dL_law_661 : decode cL_law 661 = .ok (.invokevirtual 101, 3) := by decide +kernel
theorem dL_law_664 : decode cL_law 664 = .ok (.aload_n 2, 1) := by decide +kernel
theorem dL_law_665 : decode cL_law 665 = .ok (.aload_n 0, 1) := by decide +kernel
theorem dL_law_666 : decode cL_law 666 = .ok (.iload_n 3, 1) := by decide +kernel
theorem dL_law_667 : decode cL_law 667 = .ok (.iconst 1, 1) := by decide +kernel
theorem dL_law_668 : decode cL_law 668 = .ok (.iadd, 1) := by decide +kernel
theorem dL_law_669 : decode cL_law 669 = .ok (.iaload, 1) := by decide +kernel
theorem dL_law_670 : decode cL_law 670 = .ok (.invokevirtual 104, 3) := by decide +kernel
theorem dL_law_673 : decode cL_law 673 = .ok (.if_icmp .eq 68, 3) := by decide +kernel
theorem dL_law_676 : decode cL_law 676 = .ok (.iconst 0, 1) := by decide +kernel
theorem dL_law_677 : decode cL_law 677 = .ok (.ireturn, 1) := by decide +kernel
theorem dL_law_678 : decode cL_law 678 = .ok (.aload_n 1, 1) := by decide +kernel
theorem dL_law_679 : decode cL_law 679 = .ok (.invokevirtual 105, 3) := by decide +kernel
theorem dL_law_682 : decode cL_law 682 = .ok (.aload_n 2, 1) := by decide +kernel
theorem dL_law_683 : decode cL_law 683 = .ok (.invokevirtual 108, 3) := by decide +kernel
theorem dL_law_686 : decode cL_law 686 = .ok (.if_icmp .eq 55, 3) := by decide +kernel
theorem dL_law_689 : decode cL_law 689 = .ok (.iconst 0, 1) := by decide +kernel
theorem dL_law_690 : decode cL_law 690 = .ok (.ireturn, 1) := by decide +kernel
theorem dL_law_691 : decode cL_law 691 = .ok (.aload_n 1, 1) := by decide +kernel
theorem dL_law_692 : decode cL_law 692 = .ok (.invokevirtual 109, 3) := by decide +kernel
theorem dL_law_695 : decode cL_law 695 = .ok (.aload_n 2, 1) := by decide +kernel
theorem dL_law_696 : decode cL_law 696 = .ok (.invokevirtual 112, 3) := by decide +kernel
theorem dL_law_699 : decode cL_law 699 = .ok (.if_icmp .eq 42, 3) := by decide +kernel
theorem dL_law_702 : decode cL_law 702 = .ok (.iconst 0, 1) := by decide +kernel
theorem dL_law_703 : decode cL_law 703 = .ok (.ireturn, 1) := by decide +kernel
theorem dL_law_704 : decode cL_law 704 = .ok (.aload_n 1, 1) := by decide +kernel
theorem dL_law_705 : decode cL_law 705 = .ok (.aload_n 0, 1) := by decide +kernel
theorem dL_law_706 : decode cL_law 706 = .ok (.iload_n 3, 1) := by decide +kernel
theorem dL_law_707 : decode cL_law 707 = .ok (.iconst 1, 1) := by decide +kernel
theorem dL_law_708 : decode cL_law 708 = .ok (.iadd, 1) := by decide +kernel
theorem dL_law_709 : decode cL_law 709 = .ok (.iaload, 1) := by decide +kernel
theorem dL_law_710 : decode cL_law 710 = .ok (.invokevirtual 113, 3) := by decide +kernel
theorem dL_law_713 : decode cL_law 713 = .ok (.aload_n 2, 1) := by decide +kernel
theorem dL_law_714 : decode cL_law 714 = .ok (.aload_n 0, 1) := by decide +kernel
theorem dL_law_715 : decode cL_law 715 = .ok (.iload_n 3, 1) := by decide +kernel
theorem dL_law_716 : decode cL_law 716 = .ok (.iconst 1, 1) := by decide +kernel
theorem dL_law_717 : decode cL_law 717 = .ok (.iadd, 1) := by decide +kernel
theorem dL_law_718 : decode cL_law 718 = .ok (.iaload, 1) := by decide +kernel
theorem dL_law_719 : decode cL_law 719 = .ok (.invokevirtual 116, 3) := by decide +kernel
theorem dL_law_722 : decode cL_law 722 = .ok (.if_icmp .eq 19, 3) := by decide +kernel
theorem dL_law_725 : decode cL_law 725 = .ok (.iconst 0, 1) := by decide +kernel
theorem dL_law_726 : decode cL_law 726 = .ok (.ireturn, 1) := by decide +kernel
theorem dL_law_727 : decode cL_law 727 = .ok (.aload_n 1, 1) := by decide +kernel
theorem dL_law_728 : decode cL_law 728 = .ok (.invokevirtual 117, 3) := by decide +kernel
theorem dL_law_731 : decode cL_law 731 = .ok (.aload_n 2, 1) := by decide +kernel
theorem dL_law_732 : decode cL_law 732 = .ok (.invokevirtual 121, 3) := by decide +kernel
theorem dL_law_735 : decode cL_law 735 = .ok (.lcmp, 1) := by decide +kernel
theorem dL_law_736 : decode cL_law 736 = .ok (.ifCond .eq 5, 3) := by decide +kernel
theorem dL_law_739 : decode cL_law 739 = .ok (.iconst 0, 1) := by decide +kernel
theorem dL_law_740 : decode cL_law 740 = .ok (.ireturn, 1) := by decide +kernel
theorem dL_law_741 : decode cL_law 741 = .ok (.iinc 3 4, 3) := by decide +kernel
theorem dL_law_744 : decode cL_law 744 = .ok (.goto (-726), 3) := by decide +kernel
theorem dL_law_747 : decode cL_law 747 = .ok (.iconst 1, 1) := by decide +kernel
theorem dL_law_748 : decode cL_law 748 = .ok (.ireturn, 1) := by decide +kernel
abbrev vwCl : List vw_C := [(RX0, TX0, 9), (RX1, TX1, 1), (RX2, TX2, 2), (RX3, TX3, 2), (RX4, TX4, 10), (RX5, TX5, 6), (RX6, TX6, 10)]
end
section
def Lp1 {α : Type} (a0 : α) (B : α → (α → Prop) → Prop) : Prop := ∃ (I : Nat → α → Prop) (n0 : Nat), I n0 a0 ∧ ∀ n a0, I n a0 → B a0 (fun b0 => ∃ n2, n2 < n ∧ I n2 b0)
def Jn1 {α : Type} (A : α → Prop) (B : (α → Prop) → Prop) : Prop := ∃ J : α → Prop, (∀ a0, J a0 → A a0) ∧ B J
theorem Jn1.mk {α : Type} {A : α → Prop} {B : (α → Prop) → Prop} (h : B A) : Jn1 A B := ⟨A, fun _ h => h, h⟩
theorem Jn1.to {α : Type} {A : α → Prop} {B : (α → Prop) → Prop} (J : α → Prop) (hb : B J) (ha : ∀ a0, J a0 → A a0) : Jn1 A B := ⟨J, ha, hb⟩
theorem Lp1.up {α : Type} {a0 : α} {B : α → (α → Prop) → Prop} (N : Nat) (I : Nat → α → Prop) (k0 : Nat) (hk0 : k0 ≤ N) (h0 : I k0 a0) (hs : ∀ (k : Nat) b0 (J : α → Prop), k ≤ N → I k b0 → (∀ a0, k < N → I (k + 1) a0 → J a0) → B b0 J) : Lp1 a0 B :=
  ⟨fun n b0 => ∃ k, k + n = N ∧ I k b0, N - k0, ⟨k0, by omega, h0⟩, fun n b0 ⟨k, e, h⟩ => hs k b0 _ (by omega) h (fun a0 hk h2 => ⟨n - 1, by omega, k + 1, by omega, h2⟩)⟩
theorem Lp1.dn {α : Type} {a0 : α} {B : α → (α → Prop) → Prop} (n0 : Nat) (I : Nat → α → Prop) (h0 : I n0 a0) (hs : ∀ (n : Nat) b0 (J : α → Prop), I n b0 → (∀ n2 a0, n2 < n → I n2 a0 → J a0) → B b0 J) : Lp1 a0 B :=
  ⟨I, n0, h0, fun n b0 h => hs n b0 _ h (fun n2 a0 hn h2 => ⟨n2, hn, h2⟩)⟩
def Lp2 {α β : Type} (a0 : α) (a1 : β) (B : α → β → (α → β → Prop) → Prop) : Prop := ∃ (I : Nat → α → β → Prop) (n0 : Nat), I n0 a0 a1 ∧ ∀ n a0 a1, I n a0 a1 → B a0 a1 (fun b0 b1 => ∃ n2, n2 < n ∧ I n2 b0 b1)
def Jn2 {α β : Type} (A : α → β → Prop) (B : (α → β → Prop) → Prop) : Prop := ∃ J : α → β → Prop, (∀ a0 a1, J a0 a1 → A a0 a1) ∧ B J
theorem Jn2.mk {α β : Type} {A : α → β → Prop} {B : (α → β → Prop) → Prop} (h : B A) : Jn2 A B := ⟨A, fun _ _ h => h, h⟩
theorem Jn2.to {α β : Type} {A : α → β → Prop} {B : (α → β → Prop) → Prop} (J : α → β → Prop) (hb : B J) (ha : ∀ a0 a1, J a0 a1 → A a0 a1) : Jn2 A B := ⟨J, ha, hb⟩
theorem Lp2.up {α β : Type} {a0 : α} {a1 : β} {B : α → β → (α → β → Prop) → Prop} (N : Nat) (I : Nat → α → β → Prop) (k0 : Nat) (hk0 : k0 ≤ N) (h0 : I k0 a0 a1) (hs : ∀ (k : Nat) b0 b1 (J : α → β → Prop), k ≤ N → I k b0 b1 → (∀ a0 a1, k < N → I (k + 1) a0 a1 → J a0 a1) → B b0 b1 J) : Lp2 a0 a1 B :=
  ⟨fun n b0 b1 => ∃ k, k + n = N ∧ I k b0 b1, N - k0, ⟨k0, by omega, h0⟩, fun n b0 b1 ⟨k, e, h⟩ => hs k b0 b1 _ (by omega) h (fun a0 a1 hk h2 => ⟨n - 1, by omega, k + 1, by omega, h2⟩)⟩
theorem Lp2.dn {α β : Type} {a0 : α} {a1 : β} {B : α → β → (α → β → Prop) → Prop} (n0 : Nat) (I : Nat → α → β → Prop) (h0 : I n0 a0 a1) (hs : ∀ (n : Nat) b0 b1 (J : α → β → Prop), I n b0 b1 → (∀ n2 a0 a1, n2 < n → I n2 a0 a1 → J a0 a1) → B b0 b1 J) : Lp2 a0 a1 B :=
  ⟨I, n0, h0, fun n b0 b1 h => hs n b0 b1 _ h (fun n2 a0 a1 hn h2 => ⟨n2, hn, h2⟩)⟩
def Lp3 {α β γ : Type} (a0 : α) (a1 : β) (a2 : γ) (B : α → β → γ → (α → β → γ → Prop) → Prop) : Prop := ∃ (I : Nat → α → β → γ → Prop) (n0 : Nat), I n0 a0 a1 a2 ∧ ∀ n a0 a1 a2, I n a0 a1 a2 → B a0 a1 a2 (fun b0 b1 b2 => ∃ n2, n2 < n ∧ I n2 b0 b1 b2)
def Jn3 {α β γ : Type} (A : α → β → γ → Prop) (B : (α → β → γ → Prop) → Prop) : Prop := ∃ J : α → β → γ → Prop, (∀ a0 a1 a2, J a0 a1 a2 → A a0 a1 a2) ∧ B J
theorem Jn3.mk {α β γ : Type} {A : α → β → γ → Prop} {B : (α → β → γ → Prop) → Prop} (h : B A) : Jn3 A B := ⟨A, fun _ _ _ h => h, h⟩
theorem Jn3.to {α β γ : Type} {A : α → β → γ → Prop} {B : (α → β → γ → Prop) → Prop} (J : α → β → γ → Prop) (hb : B J) (ha : ∀ a0 a1 a2, J a0 a1 a2 → A a0 a1 a2) : Jn3 A B := ⟨J, ha, hb⟩
theorem Lp3.up {α β γ : Type} {a0 : α} {a1 : β} {a2 : γ} {B : α → β → γ → (α → β → γ → Prop) → Prop} (N : Nat) (I : Nat → α → β → γ → Prop) (k0 : Nat) (hk0 : k0 ≤ N) (h0 : I k0 a0 a1 a2) (hs : ∀ (k : Nat) b0 b1 b2 (J : α → β → γ → Prop), k ≤ N → I k b0 b1 b2 → (∀ a0 a1 a2, k < N → I (k + 1) a0 a1 a2 → J a0 a1 a2) → B b0 b1 b2 J) : Lp3 a0 a1 a2 B :=
  ⟨fun n b0 b1 b2 => ∃ k, k + n = N ∧ I k b0 b1 b2, N - k0, ⟨k0, by omega, h0⟩, fun n b0 b1 b2 ⟨k, e, h⟩ => hs k b0 b1 b2 _ (by omega) h (fun a0 a1 a2 hk h2 => ⟨n - 1, by omega, k + 1, by omega, h2⟩)⟩
theorem Lp3.dn {α β γ : Type} {a0 : α} {a1 : β} {a2 : γ} {B : α → β → γ → (α → β → γ → Prop) → Prop} (n0 : Nat) (I : Nat → α → β → γ → Prop) (h0 : I n0 a0 a1 a2) (hs : ∀ (n : Nat) b0 b1 b2 (J : α → β → γ → Prop), I n b0 b1 b2 → (∀ n2 a0 a1 a2, n2 < n → I n2 a0 a1 a2 → J a0 a1 a2) → B b0 b1 b2 J) : Lp3 a0 a1 a2 B :=
  ⟨I, n0, h0, fun n b0 b1 b2 h => hs n b0 b1 b2 _ h (fun n2 a0 a1 a2 hn h2 => ⟨n2, hn, h2⟩)⟩
def Lp4 {α β γ δ : Type} (a0 : α) (a1 : β) (a2 : γ) (a3 : δ) (B : α → β → γ → δ → (α → β → γ → δ → Prop) → Prop) : Prop := ∃ (I : Nat → α → β → γ → δ → Prop) (n0 : Nat), I n0 a0 a1 a2 a3 ∧ ∀ n a0 a1 a2 a3, I n a0 a1 a2 a3 → B a0 a1 a2 a3 (fun b0 b1 b2 b3 => ∃ n2, n2 < n ∧ I n2 b0 b1 b2 b3)
def Jn4 {α β γ δ : Type} (A : α → β → γ → δ → Prop) (B : (α → β → γ → δ → Prop) → Prop) : Prop := ∃ J : α → β → γ → δ → Prop, (∀ a0 a1 a2 a3, J a0 a1 a2 a3 → A a0 a1 a2 a3) ∧ B J
theorem Jn4.mk {α β γ δ : Type} {A : α → β → γ → δ → Prop} {B : (α → β → γ → δ → Prop) → Prop} (h : B A) : Jn4 A B := ⟨A, fun _ _ _ _ h => h, h⟩
theorem Jn4.to {α β γ δ : Type} {A : α → β → γ → δ → Prop} {B : (α → β → γ → δ → Prop) → Prop} (J : α → β → γ → δ → Prop) (hb : B J) (ha : ∀ a0 a1 a2 a3, J a0 a1 a2 a3 → A a0 a1 a2 a3) : Jn4 A B := ⟨J, ha, hb⟩
theorem Lp4.up {α β γ δ : Type} {a0 : α} {a1 : β} {a2 : γ} {a3 : δ} {B : α → β → γ → δ → (α → β → γ → δ → Prop) → Prop} (N : Nat) (I : Nat → α → β → γ → δ → Prop) (k0 : Nat) (hk0 : k0 ≤ N) (h0 : I k0 a0 a1 a2 a3) (hs : ∀ (k : Nat) b0 b1 b2 b3 (J : α → β → γ → δ → Prop), k ≤ N → I k b0 b1 b2 b3 → (∀ a0 a1 a2 a3, k < N → I (k + 1) a0 a1 a2 a3 → J a0 a1 a2 a3) → B b0 b1 b2 b3 J) : Lp4 a0 a1 a2 a3 B :=
  ⟨fun n b0 b1 b2 b3 => ∃ k, k + n = N ∧ I k b0 b1 b2 b3, N - k0, ⟨k0, by omega, h0⟩, fun n b0 b1 b2 b3 ⟨k, e, h⟩ => hs k b0 b1 b2 b3 _ (by omega) h (fun a0 a1 a2 a3 hk h2 => ⟨n - 1, by omega, k + 1, by omega, h2⟩)⟩
theorem Lp4.dn {α β γ δ : Type} {a0 : α} {a1 : β} {a2 : γ} {a3 : δ} {B : α → β → γ → δ → (α → β → γ → δ → Prop) → Prop} (n0 : Nat) (I : Nat → α → β → γ → δ → Prop) (h0 : I n0 a0 a1 a2 a3) (hs : ∀ (n : Nat) b0 b1 b2 b3 (J : α → β → γ → δ → Prop), I n b0 b1 b2 b3 → (∀ n2 a0 a1 a2 a3, n2 < n → I n2 a0 a1 a2 a3 → J a0 a1 a2 a3) → B b0 b1 b2 b3 J) : Lp4 a0 a1 a2 a3 B :=
  ⟨I, n0, h0, fun n b0 b1 b2 b3 h => hs n b0 b1 b2 b3 _ h (fun n2 a0 a1 a2 a3 hn h2 => ⟨n2, hn, h2⟩)⟩
def Lp5 {α β γ δ ε : Type} (a0 : α) (a1 : β) (a2 : γ) (a3 : δ) (a4 : ε) (B : α → β → γ → δ → ε → (α → β → γ → δ → ε → Prop) → Prop) : Prop := ∃ (I : Nat → α → β → γ → δ → ε → Prop) (n0 : Nat), I n0 a0 a1 a2 a3 a4 ∧ ∀ n a0 a1 a2 a3 a4, I n a0 a1 a2 a3 a4 → B a0 a1 a2 a3 a4 (fun b0 b1 b2 b3 b4 => ∃ n2, n2 < n ∧ I n2 b0 b1 b2 b3 b4)
def Jn5 {α β γ δ ε : Type} (A : α → β → γ → δ → ε → Prop) (B : (α → β → γ → δ → ε → Prop) → Prop) : Prop := ∃ J : α → β → γ → δ → ε → Prop, (∀ a0 a1 a2 a3 a4, J a0 a1 a2 a3 a4 → A a0 a1 a2 a3 a4) ∧ B J
theorem Jn5.mk {α β γ δ ε : Type} {A : α → β → γ → δ → ε → Prop} {B : (α → β → γ → δ → ε → Prop) → Prop} (h : B A) : Jn5 A B := ⟨A, fun _ _ _ _ _ h => h, h⟩
theorem Jn5.to {α β γ δ ε : Type} {A : α → β → γ → δ → ε → Prop} {B : (α → β → γ → δ → ε → Prop) → Prop} (J : α → β → γ → δ → ε → Prop) (hb : B J) (ha : ∀ a0 a1 a2 a3 a4, J a0 a1 a2 a3 a4 → A a0 a1 a2 a3 a4) : Jn5 A B := ⟨J, ha, hb⟩
theorem Lp5.up {α β γ δ ε : Type} {a0 : α} {a1 : β} {a2 : γ} {a3 : δ} {a4 : ε} {B : α → β → γ → δ → ε → (α → β → γ → δ → ε → Prop) → Prop} (N : Nat) (I : Nat → α → β → γ → δ → ε → Prop) (k0 : Nat) (hk0 : k0 ≤ N) (h0 : I k0 a0 a1 a2 a3 a4) (hs : ∀ (k : Nat) b0 b1 b2 b3 b4 (J : α → β → γ → δ → ε → Prop), k ≤ N → I k b0 b1 b2 b3 b4 → (∀ a0 a1 a2 a3 a4, k < N → I (k + 1) a0 a1 a2 a3 a4 → J a0 a1 a2 a3 a4) → B b0 b1 b2 b3 b4 J) : Lp5 a0 a1 a2 a3 a4 B :=
  ⟨fun n b0 b1 b2 b3 b4 => ∃ k, k + n = N ∧ I k b0 b1 b2 b3 b4, N - k0, ⟨k0, by omega, h0⟩, fun n b0 b1 b2 b3 b4 ⟨k, e, h⟩ => hs k b0 b1 b2 b3 b4 _ (by omega) h (fun a0 a1 a2 a3 a4 hk h2 => ⟨n - 1, by omega, k + 1, by omega, h2⟩)⟩
theorem Lp5.dn {α β γ δ ε : Type} {a0 : α} {a1 : β} {a2 : γ} {a3 : δ} {a4 : ε} {B : α → β → γ → δ → ε → (α → β → γ → δ → ε → Prop) → Prop} (n0 : Nat) (I : Nat → α → β → γ → δ → ε → Prop) (h0 : I n0 a0 a1 a2 a3 a4) (hs : ∀ (n : Nat) b0 b1 b2 b3 b4 (J : α → β → γ → δ → ε → Prop), I n b0 b1 b2 b3 b4 → (∀ n2 a0 a1 a2 a3 a4, n2 < n → I n2 a0 a1 a2 a3 a4 → J a0 a1 a2 a3 a4) → B b0 b1 b2 b3 b4 J) : Lp5 a0 a1 a2 a3 a4 B :=
  ⟨I, n0, h0, fun n b0 b1 b2 b3 b4 h => hs n b0 b1 b2 b3 b4 _ h (fun n2 a0 a1 a2 a3 a4 hn h2 => ⟨n2, hn, h2⟩)⟩
def Lp6 {α β γ δ ε ζ : Type} (a0 : α) (a1 : β) (a2 : γ) (a3 : δ) (a4 : ε) (a5 : ζ) (B : α → β → γ → δ → ε → ζ → (α → β → γ → δ → ε → ζ → Prop) → Prop) : Prop := ∃ (I : Nat → α → β → γ → δ → ε → ζ → Prop) (n0 : Nat), I n0 a0 a1 a2 a3 a4 a5 ∧ ∀ n a0 a1 a2 a3 a4 a5, I n a0 a1 a2 a3 a4 a5 → B a0 a1 a2 a3 a4 a5 (fun b0 b1 b2 b3 b4 b5 => ∃ n2, n2 < n ∧ I n2 b0 b1 b2 b3 b4 b5)
def Jn6 {α β γ δ ε ζ : Type} (A : α → β → γ → δ → ε → ζ → Prop) (B : (α → β → γ → δ → ε → ζ → Prop) → Prop) : Prop := ∃ J : α → β → γ → δ → ε → ζ → Prop, (∀ a0 a1 a2 a3 a4 a5, J a0 a1 a2 a3 a4 a5 → A a0 a1 a2 a3 a4 a5) ∧ B J
theorem Jn6.mk {α β γ δ ε ζ : Type} {A : α → β → γ → δ → ε → ζ → Prop} {B : (α → β → γ → δ → ε → ζ → Prop) → Prop} (h : B A) : Jn6 A B := ⟨A, fun _ _ _ _ _ _ h => h, h⟩
theorem Jn6.to {α β γ δ ε ζ : Type} {A : α → β → γ → δ → ε → ζ → Prop} {B : (α → β → γ → δ → ε → ζ → Prop) → Prop} (J : α → β → γ → δ → ε → ζ → Prop) (hb : B J) (ha : ∀ a0 a1 a2 a3 a4 a5, J a0 a1 a2 a3 a4 a5 → A a0 a1 a2 a3 a4 a5) : Jn6 A B := ⟨J, ha, hb⟩
theorem Lp6.up {α β γ δ ε ζ : Type} {a0 : α} {a1 : β} {a2 : γ} {a3 : δ} {a4 : ε} {a5 : ζ} {B : α → β → γ → δ → ε → ζ → (α → β → γ → δ → ε → ζ → Prop) → Prop} (N : Nat) (I : Nat → α → β → γ → δ → ε → ζ → Prop) (k0 : Nat) (hk0 : k0 ≤ N) (h0 : I k0 a0 a1 a2 a3 a4 a5) (hs : ∀ (k : Nat) b0 b1 b2 b3 b4 b5 (J : α → β → γ → δ → ε → ζ → Prop), k ≤ N → I k b0 b1 b2 b3 b4 b5 → (∀ a0 a1 a2 a3 a4 a5, k < N → I (k + 1) a0 a1 a2 a3 a4 a5 → J a0 a1 a2 a3 a4 a5) → B b0 b1 b2 b3 b4 b5 J) : Lp6 a0 a1 a2 a3 a4 a5 B :=
  ⟨fun n b0 b1 b2 b3 b4 b5 => ∃ k, k + n = N ∧ I k b0 b1 b2 b3 b4 b5, N - k0, ⟨k0, by omega, h0⟩, fun n b0 b1 b2 b3 b4 b5 ⟨k, e, h⟩ => hs k b0 b1 b2 b3 b4 b5 _ (by omega) h (fun a0 a1 a2 a3 a4 a5 hk h2 => ⟨n - 1, by omega, k + 1, by omega, h2⟩)⟩
theorem Lp6.dn {α β γ δ ε ζ : Type} {a0 : α} {a1 : β} {a2 : γ} {a3 : δ} {a4 : ε} {a5 : ζ} {B : α → β → γ → δ → ε → ζ → (α → β → γ → δ → ε → ζ → Prop) → Prop} (n0 : Nat) (I : Nat → α → β → γ → δ → ε → ζ → Prop) (h0 : I n0 a0 a1 a2 a3 a4 a5) (hs : ∀ (n : Nat) b0 b1 b2 b3 b4 b5 (J : α → β → γ → δ → ε → ζ → Prop), I n b0 b1 b2 b3 b4 b5 → (∀ n2 a0 a1 a2 a3 a4 a5, n2 < n → I n2 a0 a1 a2 a3 a4 a5 → J a0 a1 a2 a3 a4 a5) → B b0 b1 b2 b3 b4 b5 J) : Lp6 a0 a1 a2 a3 a4 a5 B :=
  ⟨I, n0, h0, fun n b0 b1 b2 b3 b4 b5 h => hs n b0 b1 b2 b3 b4 b5 _ h (fun n2 a0 a1 a2 a3 a4 a5 hn h2 => ⟨n2, hn, h2⟩)⟩
def Lp7 {α β γ δ ε ζ η : Type} (a0 : α) (a1 : β) (a2 : γ) (a3 : δ) (a4 : ε) (a5 : ζ) (a6 : η) (B : α → β → γ → δ → ε → ζ → η → (α → β → γ → δ → ε → ζ → η → Prop) → Prop) : Prop := ∃ (I : Nat → α → β → γ → δ → ε → ζ → η → Prop) (n0 : Nat), I n0 a0 a1 a2 a3 a4 a5 a6 ∧ ∀ n a0 a1 a2 a3 a4 a5 a6, I n a0 a1 a2 a3 a4 a5 a6 → B a0 a1 a2 a3 a4 a5 a6 (fun b0 b1 b2 b3 b4 b5 b6 => ∃ n2, n2 < n ∧ I n2 b0 b1 b2 b3 b4 b5 b6)
def Jn7 {α β γ δ ε ζ η : Type} (A : α → β → γ → δ → ε → ζ → η → Prop) (B : (α → β → γ → δ → ε → ζ → η → Prop) → Prop) : Prop := ∃ J : α → β → γ → δ → ε → ζ → η → Prop, (∀ a0 a1 a2 a3 a4 a5 a6, J a0 a1 a2 a3 a4 a5 a6 → A a0 a1 a2 a3 a4 a5 a6) ∧ B J
theorem Jn7.mk {α β γ δ ε ζ η : Type} {A : α → β → γ → δ → ε → ζ → η → Prop} {B : (α → β → γ → δ → ε → ζ → η → Prop) → Prop} (h : B A) : Jn7 A B := ⟨A, fun _ _ _ _ _ _ _ h => h, h⟩
theorem Jn7.to {α β γ δ ε ζ η : Type} {A : α → β → γ → δ → ε → ζ → η → Prop} {B : (α → β → γ → δ → ε → ζ → η → Prop) → Prop} (J : α → β → γ → δ → ε → ζ → η → Prop) (hb : B J) (ha : ∀ a0 a1 a2 a3 a4 a5 a6, J a0 a1 a2 a3 a4 a5 a6 → A a0 a1 a2 a3 a4 a5 a6) : Jn7 A B := ⟨J, ha, hb⟩
theorem Lp7.up {α β γ δ ε ζ η : Type} {a0 : α} {a1 : β} {a2 : γ} {a3 : δ} {a4 : ε} {a5 : ζ} {a6 : η} {B : α → β → γ → δ → ε → ζ → η → (α → β → γ → δ → ε → ζ → η → Prop) → Prop} (N : Nat) (I : Nat → α → β → γ → δ → ε → ζ → η → Prop) (k0 : Nat) (hk0 : k0 ≤ N) (h0 : I k0 a0 a1 a2 a3 a4 a5 a6) (hs : ∀ (k : Nat) b0 b1 b2 b3 b4 b5 b6 (J : α → β → γ → δ → ε → ζ → η → Prop), k ≤ N → I k b0 b1 b2 b3 b4 b5 b6 → (∀ a0 a1 a2 a3 a4 a5 a6, k < N → I (k + 1) a0 a1 a2 a3 a4 a5 a6 → J a0 a1 a2 a3 a4 a5 a6) → B b0 b1 b2 b3 b4 b5 b6 J) : Lp7 a0 a1 a2 a3 a4 a5 a6 B :=
  ⟨fun n b0 b1 b2 b3 b4 b5 b6 => ∃ k, k + n = N ∧ I k b0 b1 b2 b3 b4 b5 b6, N - k0, ⟨k0, by omega, h0⟩, fun n b0 b1 b2 b3 b4 b5 b6 ⟨k, e, h⟩ => hs k b0 b1 b2 b3 b4 b5 b6 _ (by omega) h (fun a0 a1 a2 a3 a4 a5 a6 hk h2 => ⟨n - 1, by omega, k + 1, by omega, h2⟩)⟩
theorem Lp7.dn {α β γ δ ε ζ η : Type} {a0 : α} {a1 : β} {a2 : γ} {a3 : δ} {a4 : ε} {a5 : ζ} {a6 : η} {B : α → β → γ → δ → ε → ζ → η → (α → β → γ → δ → ε → ζ → η → Prop) → Prop} (n0 : Nat) (I : Nat → α → β → γ → δ → ε → ζ → η → Prop) (h0 : I n0 a0 a1 a2 a3 a4 a5 a6) (hs : ∀ (n : Nat) b0 b1 b2 b3 b4 b5 b6 (J : α → β → γ → δ → ε → ζ → η → Prop), I n b0 b1 b2 b3 b4 b5 b6 → (∀ n2 a0 a1 a2 a3 a4 a5 a6, n2 < n → I n2 a0 a1 a2 a3 a4 a5 a6 → J a0 a1 a2 a3 a4 a5 a6) → B b0 b1 b2 b3 b4 b5 b6 J) : Lp7 a0 a1 a2 a3 a4 a5 a6 B :=
  ⟨I, n0, h0, fun n b0 b1 b2 b3 b4 b5 b6 h => hs n b0 b1 b2 b3 b4 b5 b6 _ h (fun n2 a0 a1 a2 a3 a4 a5 a6 hn h2 => ⟨n2, hn, h2⟩)⟩
def Lp8 {α β γ δ ε ζ η θ : Type} (a0 : α) (a1 : β) (a2 : γ) (a3 : δ) (a4 : ε) (a5 : ζ) (a6 : η) (a7 : θ) (B : α → β → γ → δ → ε → ζ → η → θ → (α → β → γ → δ → ε → ζ → η → θ → Prop) → Prop) : Prop := ∃ (I : Nat → α → β → γ → δ → ε → ζ → η → θ → Prop) (n0 : Nat), I n0 a0 a1 a2 a3 a4 a5 a6 a7 ∧ ∀ n a0 a1 a2 a3 a4 a5 a6 a7, I n a0 a1 a2 a3 a4 a5 a6 a7 → B a0 a1 a2 a3 a4 a5 a6 a7 (fun b0 b1 b2 b3 b4 b5 b6 b7 => ∃ n2, n2 < n ∧ I n2 b0 b1 b2 b3 b4 b5 b6 b7)
def Jn8 {α β γ δ ε ζ η θ : Type} (A : α → β → γ → δ → ε → ζ → η → θ → Prop) (B : (α → β → γ → δ → ε → ζ → η → θ → Prop) → Prop) : Prop := ∃ J : α → β → γ → δ → ε → ζ → η → θ → Prop, (∀ a0 a1 a2 a3 a4 a5 a6 a7, J a0 a1 a2 a3 a4 a5 a6 a7 → A a0 a1 a2 a3 a4 a5 a6 a7) ∧ B J
theorem Jn8.mk {α β γ δ ε ζ η θ : Type} {A : α → β → γ → δ → ε → ζ → η → θ → Prop} {B : (α → β → γ → δ → ε → ζ → η → θ → Prop) → Prop} (h : B A) : Jn8 A B := ⟨A, fun _ _ _ _ _ _ _ _ h => h, h⟩
theorem Jn8.to {α β γ δ ε ζ η θ : Type} {A : α → β → γ → δ → ε → ζ → η → θ → Prop} {B : (α → β → γ → δ → ε → ζ → η → θ → Prop) → Prop} (J : α → β → γ → δ → ε → ζ → η → θ → Prop) (hb : B J) (ha : ∀ a0 a1 a2 a3 a4 a5 a6 a7, J a0 a1 a2 a3 a4 a5 a6 a7 → A a0 a1 a2 a3 a4 a5 a6 a7) : Jn8 A B := ⟨J, ha, hb⟩
theorem Lp8.up {α β γ δ ε ζ η θ : Type} {a0 : α} {a1 : β} {a2 : γ} {a3 : δ} {a4 : ε} {a5 : ζ} {a6 : η} {a7 : θ} {B : α → β → γ → δ → ε → ζ → η → θ → (α → β → γ → δ → ε → ζ → η → θ → Prop) → Prop} (N : Nat) (I : Nat → α → β → γ → δ → ε → ζ → η → θ → Prop) (k0 : Nat) (hk0 : k0 ≤ N) (h0 : I k0 a0 a1 a2 a3 a4 a5 a6 a7) (hs : ∀ (k : Nat) b0 b1 b2 b3 b4 b5 b6 b7 (J : α → β → γ → δ → ε → ζ → η → θ → Prop), k ≤ N → I k b0 b1 b2 b3 b4 b5 b6 b7 → (∀ a0 a1 a2 a3 a4 a5 a6 a7, k < N → I (k + 1) a0 a1 a2 a3 a4 a5 a6 a7 → J a0 a1 a2 a3 a4 a5 a6 a7) → B b0 b1 b2 b3 b4 b5 b6 b7 J) : Lp8 a0 a1 a2 a3 a4 a5 a6 a7 B :=
  ⟨fun n b0 b1 b2 b3 b4 b5 b6 b7 => ∃ k, k + n = N ∧ I k b0 b1 b2 b3 b4 b5 b6 b7, N - k0, ⟨k0, by omega, h0⟩, fun n b0 b1 b2 b3 b4 b5 b6 b7 ⟨k, e, h⟩ => hs k b0 b1 b2 b3 b4 b5 b6 b7 _ (by omega) h (fun a0 a1 a2 a3 a4 a5 a6 a7 hk h2 => ⟨n - 1, by omega, k + 1, by omega, h2⟩)⟩
theorem Lp8.dn {α β γ δ ε ζ η θ : Type} {a0 : α} {a1 : β} {a2 : γ} {a3 : δ} {a4 : ε} {a5 : ζ} {a6 : η} {a7 : θ} {B : α → β → γ → δ → ε → ζ → η → θ → (α → β → γ → δ → ε → ζ → η → θ → Prop) → Prop} (n0 : Nat) (I : Nat → α → β → γ → δ → ε → ζ → η → θ → Prop) (h0 : I n0 a0 a1 a2 a3 a4 a5 a6 a7) (hs : ∀ (n : Nat) b0 b1 b2 b3 b4 b5 b6 b7 (J : α → β → γ → δ → ε → ζ → η → θ → Prop), I n b0 b1 b2 b3 b4 b5 b6 b7 → (∀ n2 a0 a1 a2 a3 a4 a5 a6 a7, n2 < n → I n2 a0 a1 a2 a3 a4 a5 a6 a7 → J a0 a1 a2 a3 a4 a5 a6 a7) → B b0 b1 b2 b3 b4 b5 b6 b7 J) : Lp8 a0 a1 a2 a3 a4 a5 a6 a7 B :=
  ⟨I, n0, h0, fun n b0 b1 b2 b3 b4 b5 b6 b7 h => hs n b0 b1 b2 b3 b4 b5 b6 b7 _ h (fun n2 a0 a1 a2 a3 a4 a5 a6 a7 hn h2 => ⟨n2, hn, h2⟩)⟩
def Lp9 {α β γ δ ε ζ η θ κ : Type} (a0 : α) (a1 : β) (a2 : γ) (a3 : δ) (a4 : ε) (a5 : ζ) (a6 : η) (a7 : θ) (a8 : κ) (B : α → β → γ → δ → ε → ζ → η → θ → κ → (α → β → γ → δ → ε → ζ → η → θ → κ → Prop) → Prop) : Prop := ∃ (I : Nat → α → β → γ → δ → ε → ζ → η → θ → κ → Prop) (n0 : Nat), I n0 a0 a1 a2 a3 a4 a5 a6 a7 a8 ∧ ∀ n a0 a1 a2 a3 a4 a5 a6 a7 a8, I n a0 a1 a2 a3 a4 a5 a6 a7 a8 → B a0 a1 a2 a3 a4 a5 a6 a7 a8 (fun b0 b1 b2 b3 b4 b5 b6 b7 b8 => ∃ n2, n2 < n ∧ I n2 b0 b1 b2 b3 b4 b5 b6 b7 b8)
def Jn9 {α β γ δ ε ζ η θ κ : Type} (A : α → β → γ → δ → ε → ζ → η → θ → κ → Prop) (B : (α → β → γ → δ → ε → ζ → η → θ → κ → Prop) → Prop) : Prop := ∃ J : α → β → γ → δ → ε → ζ → η → θ → κ → Prop, (∀ a0 a1 a2 a3 a4 a5 a6 a7 a8, J a0 a1 a2 a3 a4 a5 a6 a7 a8 → A a0 a1 a2 a3 a4 a5 a6 a7 a8) ∧ B J
theorem Jn9.mk {α β γ δ ε ζ η θ κ : Type} {A : α → β → γ → δ → ε → ζ → η → θ → κ → Prop} {B : (α → β → γ → δ → ε → ζ → η → θ → κ → Prop) → Prop} (h : B A) : Jn9 A B := ⟨A, fun _ _ _ _ _ _ _ _ _ h => h, h⟩
theorem Jn9.to {α β γ δ ε ζ η θ κ : Type} {A : α → β → γ → δ → ε → ζ → η → θ → κ → Prop} {B : (α → β → γ → δ → ε → ζ → η → θ → κ → Prop) → Prop} (J : α → β → γ → δ → ε → ζ → η → θ → κ → Prop) (hb : B J) (ha : ∀ a0 a1 a2 a3 a4 a5 a6 a7 a8, J a0 a1 a2 a3 a4 a5 a6 a7 a8 → A a0 a1 a2 a3 a4 a5 a6 a7 a8) : Jn9 A B := ⟨J, ha, hb⟩
theorem Lp9.up {α β γ δ ε ζ η θ κ : Type} {a0 : α} {a1 : β} {a2 : γ} {a3 : δ} {a4 : ε} {a5 : ζ} {a6 : η} {a7 : θ} {a8 : κ} {B : α → β → γ → δ → ε → ζ → η → θ → κ → (α → β → γ → δ → ε → ζ → η → θ → κ → Prop) → Prop} (N : Nat) (I : Nat → α → β → γ → δ → ε → ζ → η → θ → κ → Prop) (k0 : Nat) (hk0 : k0 ≤ N) (h0 : I k0 a0 a1 a2 a3 a4 a5 a6 a7 a8) (hs : ∀ (k : Nat) b0 b1 b2 b3 b4 b5 b6 b7 b8 (J : α → β → γ → δ → ε → ζ → η → θ → κ → Prop), k ≤ N → I k b0 b1 b2 b3 b4 b5 b6 b7 b8 → (∀ a0 a1 a2 a3 a4 a5 a6 a7 a8, k < N → I (k + 1) a0 a1 a2 a3 a4 a5 a6 a7 a8 → J a0 a1 a2 a3 a4 a5 a6 a7 a8) → B b0 b1 b2 b3 b4 b5 b6 b7 b8 J) : Lp9 a0 a1 a2 a3 a4 a5 a6 a7 a8 B :=
  ⟨fun n b0 b1 b2 b3 b4 b5 b6 b7 b8 => ∃ k, k + n = N ∧ I k b0 b1 b2 b3 b4 b5 b6 b7 b8, N - k0, ⟨k0, by omega, h0⟩, fun n b0 b1 b2 b3 b4 b5 b6 b7 b8 ⟨k, e, h⟩ => hs k b0 b1 b2 b3 b4 b5 b6 b7 b8 _ (by omega) h (fun a0 a1 a2 a3 a4 a5 a6 a7 a8 hk h2 => ⟨n - 1, by omega, k + 1, by omega, h2⟩)⟩
theorem Lp9.dn {α β γ δ ε ζ η θ κ : Type} {a0 : α} {a1 : β} {a2 : γ} {a3 : δ} {a4 : ε} {a5 : ζ} {a6 : η} {a7 : θ} {a8 : κ} {B : α → β → γ → δ → ε → ζ → η → θ → κ → (α → β → γ → δ → ε → ζ → η → θ → κ → Prop) → Prop} (n0 : Nat) (I : Nat → α → β → γ → δ → ε → ζ → η → θ → κ → Prop) (h0 : I n0 a0 a1 a2 a3 a4 a5 a6 a7 a8) (hs : ∀ (n : Nat) b0 b1 b2 b3 b4 b5 b6 b7 b8 (J : α → β → γ → δ → ε → ζ → η → θ → κ → Prop), I n b0 b1 b2 b3 b4 b5 b6 b7 b8 → (∀ n2 a0 a1 a2 a3 a4 a5 a6 a7 a8, n2 < n → I n2 a0 a1 a2 a3 a4 a5 a6 a7 a8 → J a0 a1 a2 a3 a4 a5 a6 a7 a8) → B b0 b1 b2 b3 b4 b5 b6 b7 b8 J) : Lp9 a0 a1 a2 a3 a4 a5 a6 a7 a8 B :=
  ⟨I, n0, h0, fun n b0 b1 b2 b3 b4 b5 b6 b7 b8 h => hs n b0 b1 b2 b3 b4 b5 b6 b7 b8 _ h (fun n2 a0 a1 a2 a3 a4 a5 a6 a7 a8 hn h2 => ⟨n2, hn, h2⟩)⟩
def Lp10 {α β γ δ ε ζ η θ κ ρ : Type} (a0 : α) (a1 : β) (a2 : γ) (a3 : δ) (a4 : ε) (a5 : ζ) (a6 : η) (a7 : θ) (a8 : κ) (a9 : ρ) (B : α → β → γ → δ → ε → ζ → η → θ → κ → ρ → (α → β → γ → δ → ε → ζ → η → θ → κ → ρ → Prop) → Prop) : Prop := ∃ (I : Nat → α → β → γ → δ → ε → ζ → η → θ → κ → ρ → Prop) (n0 : Nat), I n0 a0 a1 a2 a3 a4 a5 a6 a7 a8 a9 ∧ ∀ n a0 a1 a2 a3 a4 a5 a6 a7 a8 a9, I n a0 a1 a2 a3 a4 a5 a6 a7 a8 a9 → B a0 a1 a2 a3 a4 a5 a6 a7 a8 a9 (fun b0 b1 b2 b3 b4 b5 b6 b7 b8 b9 => ∃ n2, n2 < n ∧ I n2 b0 b1 b2 b3 b4 b5 b6 b7 b8 b9)
def Jn10 {α β γ δ ε ζ η θ κ ρ : Type} (A : α → β → γ → δ → ε → ζ → η → θ → κ → ρ → Prop) (B : (α → β → γ → δ → ε → ζ → η → θ → κ → ρ → Prop) → Prop) : Prop := ∃ J : α → β → γ → δ → ε → ζ → η → θ → κ → ρ → Prop, (∀ a0 a1 a2 a3 a4 a5 a6 a7 a8 a9, J a0 a1 a2 a3 a4 a5 a6 a7 a8 a9 → A a0 a1 a2 a3 a4 a5 a6 a7 a8 a9) ∧ B J
theorem Jn10.mk {α β γ δ ε ζ η θ κ ρ : Type} {A : α → β → γ → δ → ε → ζ → η → θ → κ → ρ → Prop} {B : (α → β → γ → δ → ε → ζ → η → θ → κ → ρ → Prop) → Prop} (h : B A) : Jn10 A B := ⟨A, fun _ _ _ _ _ _ _ _ _ _ h => h, h⟩
theorem Jn10.to {α β γ δ ε ζ η θ κ ρ : Type} {A : α → β → γ → δ → ε → ζ → η → θ → κ → ρ → Prop} {B : (α → β → γ → δ → ε → ζ → η → θ → κ → ρ → Prop) → Prop} (J : α → β → γ → δ → ε → ζ → η → θ → κ → ρ → Prop) (hb : B J) (ha : ∀ a0 a1 a2 a3 a4 a5 a6 a7 a8 a9, J a0 a1 a2 a3 a4 a5 a6 a7 a8 a9 → A a0 a1 a2 a3 a4 a5 a6 a7 a8 a9) : Jn10 A B := ⟨J, ha, hb⟩
theorem Lp10.up {α β γ δ ε ζ η θ κ ρ : Type} {a0 : α} {a1 : β} {a2 : γ} {a3 : δ} {a4 : ε} {a5 : ζ} {a6 : η} {a7 : θ} {a8 : κ} {a9 : ρ} {B : α → β → γ → δ → ε → ζ → η → θ → κ → ρ → (α → β → γ → δ → ε → ζ → η → θ → κ → ρ → Prop) → Prop} (N : Nat) (I : Nat → α → β → γ → δ → ε → ζ → η → θ → κ → ρ → Prop) (k0 : Nat) (hk0 : k0 ≤ N) (h0 : I k0 a0 a1 a2 a3 a4 a5 a6 a7 a8 a9) (hs : ∀ (k : Nat) b0 b1 b2 b3 b4 b5 b6 b7 b8 b9 (J : α → β → γ → δ → ε → ζ → η → θ → κ → ρ → Prop), k ≤ N → I k b0 b1 b2 b3 b4 b5 b6 b7 b8 b9 → (∀ a0 a1 a2 a3 a4 a5 a6 a7 a8 a9, k < N → I (k + 1) a0 a1 a2 a3 a4 a5 a6 a7 a8 a9 → J a0 a1 a2 a3 a4 a5 a6 a7 a8 a9) → B b0 b1 b2 b3 b4 b5 b6 b7 b8 b9 J) : Lp10 a0 a1 a2 a3 a4 a5 a6 a7 a8 a9 B :=
  ⟨fun n b0 b1 b2 b3 b4 b5 b6 b7 b8 b9 => ∃ k, k + n = N ∧ I k b0 b1 b2 b3 b4 b5 b6 b7 b8 b9, N - k0, ⟨k0, by omega, h0⟩, fun n b0 b1 b2 b3 b4 b5 b6 b7 b8 b9 ⟨k, e, h⟩ => hs k b0 b1 b2 b3 b4 b5 b6 b7 b8 b9 _ (by omega) h (fun a0 a1 a2 a3 a4 a5 a6 a7 a8 a9 hk h2 => ⟨n - 1, by omega, k + 1, by omega, h2⟩)⟩
theorem Lp10.dn {α β γ δ ε ζ η θ κ ρ : Type} {a0 : α} {a1 : β} {a2 : γ} {a3 : δ} {a4 : ε} {a5 : ζ} {a6 : η} {a7 : θ} {a8 : κ} {a9 : ρ} {B : α → β → γ → δ → ε → ζ → η → θ → κ → ρ → (α → β → γ → δ → ε → ζ → η → θ → κ → ρ → Prop) → Prop} (n0 : Nat) (I : Nat → α → β → γ → δ → ε → ζ → η → θ → κ → ρ → Prop) (h0 : I n0 a0 a1 a2 a3 a4 a5 a6 a7 a8 a9) (hs : ∀ (n : Nat) b0 b1 b2 b3 b4 b5 b6 b7 b8 b9 (J : α → β → γ → δ → ε → ζ → η → θ → κ → ρ → Prop), I n b0 b1 b2 b3 b4 b5 b6 b7 b8 b9 → (∀ n2 a0 a1 a2 a3 a4 a5 a6 a7 a8 a9, n2 < n → I n2 a0 a1 a2 a3 a4 a5 a6 a7 a8 a9 → J a0 a1 a2 a3 a4 a5 a6 a7 a8 a9) → B b0 b1 b2 b3 b4 b5 b6 b7 b8 b9 J) : Lp10 a0 a1 a2 a3 a4 a5 a6 a7 a8 a9 B :=
  ⟨I, n0, h0, fun n b0 b1 b2 b3 b4 b5 b6 b7 b8 b9 h => hs n b0 b1 b2 b3 b4 b5 b6 b7 b8 b9 _ h (fun n2 a0 a1 a2 a3 a4 a5 a6 a7 a8 a9 hn h2 => ⟨n2, hn, h2⟩)⟩
def jshl (x y : Int32) : Int32 := x <<< (y &&& 31)
def jshr (x y : Int32) : Int32 := x >>> (y &&& 31)
def jushr (x y : Int32) : Int32 := (x.toUInt32 >>> (y.toUInt32 &&& Int32.toUInt32 31)).toInt32
def jrem (x y : Int32) : Int32 := x - x / y * y
def jlshl (x : Int64) (y : Int32) : Int64 := x <<< (y.toInt64 &&& 63)
def jlushr (x : Int64) (y : Int32) : Int64 := (x.toUInt64 >>> (y.toInt64.toUInt64 &&& Int64.toUInt64 63)).toInt64
theorem vin_c {i : Int32} {n : Nat} (h : decide (¬ (i < 0 ∨ n ≤ i.toNatClampNeg)) = true) : vp_in i n := (of_decide_eq_true h : ¬ (i < 0 ∨ n ≤ i.toNatClampNeg))
abbrev GG : Type := va_G × (Nat → ClassId)
def nwF : List (String × Nat × String × String × String × String) := [("PlaFolder", 94, "PlaFolder$State", "inputs", "I", "PlaFolder"), ("PlaFolder", 100, "PlaFolder$State", "outputs", "I", "PlaFolder"), ("PlaFolder", 56, "PlaFolder$State", "termCount", "I", "PlaFolder"), ("PlaFolder", 141, "PlaFolder$State", "foldCount", "I", "PlaFolder"), ("PlaFolder", 83, "PlaFolder$State", "ones", "[I", "PlaFolder"), ("PlaFolder", 86, "PlaFolder$State", "zeros", "[I", "PlaFolder"), ("PlaFolder", 202, "PlaFolder$State", "outs", "[I", "PlaFolder"), ("PlaFolder$Demands", 30, "PlaFolder$State", "lowerOf", "[I", "PlaFolder"), ("PlaFolder", 182, "PlaFolder$History", "count", "I", "PlaFolder"), ("PlaFolder$RowOrder", 26, "PlaFolder$Demands", "above", "[I", "PlaFolder"), ("PlaFolder", 153, "PlaFolder$Demands", "above", "[I", "PlaFolder"), ("PlaFolder", 147, "PlaFolder$RowOrder", "termInRow", "[I", "PlaFolder"), ("PlaFolder", 150, "PlaFolder$RowOrder", "rowOfTerm", "[I", "PlaFolder"), ("PlaFolder", 205, "PlaFolder$BestFolding", "known", "Z", "PlaFolder"), ("PlaFolder", 166, "PlaFolder$BestFolding", "count", "I", "PlaFolder"), ("PlaFolder", 169, "PlaFolder$BestFolding", "upper", "[I", "PlaFolder"), ("PlaFolder", 172, "PlaFolder$BestFolding", "lower", "[I", "PlaFolder"), ("PlaFolder$State", 71, "PlaFolder", "WORDS_WITH_INPUT", "[J", "PlaFolder")]
def nwM : List (String × Nat × MethodName × String) := [("PlaFolder", 11, ⟨"PlaFolder$State", "<init>", "()V"⟩, "PlaFolder"), ("PlaFolder", 18, ⟨"PlaFolder$History", "<init>", "()V"⟩, "PlaFolder"), ("PlaFolder$History", 21, ⟨"PlaFolder$State", "<init>", "()V"⟩, "PlaFolder"), ("PlaFolder", 25, ⟨"PlaFolder$Demands", "<init>", "()V"⟩, "PlaFolder"), ("PlaFolder", 32, ⟨"PlaFolder$RowOrder", "<init>", "()V"⟩, "PlaFolder"), ("PlaFolder", 39, ⟨"PlaFolder$BestFolding", "<init>", "()V"⟩, "PlaFolder"), ("PlaFolder$BestFolding", 44, ⟨"PlaFolder$Demands", "<init>", "()V"⟩, "PlaFolder"), ("PlaFolder", 52, ⟨"PlaFolder$History", "push", "(LPlaFolder$State;)V"⟩, "PlaFolder"), ("PlaFolder$History", 25, ⟨"PlaFolder$State", "copyFrom", "(LPlaFolder$State;)V"⟩, "PlaFolder"), ("PlaFolder", 60, ⟨"PlaFolder$State", "resize", "(II)V"⟩, "PlaFolder"), ("PlaFolder", 209, ⟨"PlaFolder$Demands", "collect", "(LPlaFolder$State;)V"⟩, "PlaFolder"), ("PlaFolder$Demands", 35, ⟨"PlaFolder$State", "termsOfColumn", "(I)I"⟩, "PlaFolder"), ("PlaFolder$State", 67, ⟨"PlaFolder", "contains", "(II)Z"⟩, "PlaFolder"), ("PlaFolder$Demands", 43, ⟨"PlaFolder", "contains", "(II)Z"⟩, "PlaFolder"), ("PlaFolder", 212, ⟨"PlaFolder$RowOrder", "build", "(LPlaFolder$Demands;I)V"⟩, "PlaFolder"), ("PlaFolder$RowOrder", 22, ⟨"PlaFolder", "contains", "(II)Z"⟩, "PlaFolder"), ("PlaFolder", 67, ⟨"PlaFolder$State", "takesTerm", "(III)Z"⟩, "PlaFolder"), ("PlaFolder", 71, ⟨"PlaFolder$State", "appendTerm", "(III)V"⟩, "PlaFolder"), ("PlaFolder", 75, ⟨"PlaFolder$State", "hasTerm", "(I)Z"⟩, "PlaFolder"), ("PlaFolder", 79, ⟨"PlaFolder$State", "dropTerm", "(I)V"⟩, "PlaFolder"), ("PlaFolder", 97, ⟨"PlaFolder$State", "outputWord", "(I)I"⟩, "PlaFolder"), ("PlaFolder", 103, ⟨"PlaFolder$State", "wordsOfOutput", "(II)J"⟩, "PlaFolder"), ("PlaFolder", 112, ⟨"PlaFolder$State", "isSpare", "(I)Z"⟩, "PlaFolder"), ("PlaFolder", 119, ⟨"PlaFolder$State", "hasColumn", "(I)Z"⟩, "PlaFolder"), ("PlaFolder", 122, ⟨"PlaFolder$State", "termsOfColumn", "(I)I"⟩, "PlaFolder"), ("PlaFolder", 125, ⟨"PlaFolder$State", "isPair", "(II)Z"⟩, "PlaFolder"), ("PlaFolder", 129, ⟨"PlaFolder$State", "mateOf", "(I)I"⟩, "PlaFolder"), ("PlaFolder", 132, ⟨"PlaFolder$Demands", "allow", "(II)Z"⟩, "PlaFolder"), ("PlaFolder", 135, ⟨"PlaFolder$State", "join", "(II)V"⟩, "PlaFolder"), ("PlaFolder", 144, ⟨"PlaFolder$State", "part", "(I)V"⟩, "PlaFolder"), ("PlaFolder", 159, ⟨"PlaFolder$RowOrder", "spread", "(II)I"⟩, "PlaFolder"), ("PlaFolder", 216, ⟨"PlaFolder$BestFolding", "search", "(LPlaFolder$State;)V"⟩, "PlaFolder"), ("PlaFolder$BestFolding", 53, ⟨"PlaFolder$State", "termsOfColumn", "(I)I"⟩, "PlaFolder"), ("PlaFolder$BestFolding", 63, ⟨"PlaFolder$State", "hasColumn", "(I)Z"⟩, "PlaFolder"), ("PlaFolder$BestFolding", 67, ⟨"PlaFolder$State", "isPair", "(II)Z"⟩, "PlaFolder"), ("PlaFolder$BestFolding", 79, ⟨"PlaFolder", "contains", "(II)Z"⟩, "PlaFolder"), ("PlaFolder$BestFolding", 85, ⟨"PlaFolder$Demands", "allow", "(II)Z"⟩, "PlaFolder"), ("PlaFolder$BestFolding", 88, ⟨"PlaFolder$Demands", "copyFrom", "(LPlaFolder$Demands;)V"⟩, "PlaFolder"), ("PlaFolder$BestFolding", 92, ⟨"PlaFolder$Demands", "add", "(II)V"⟩, "PlaFolder"), ("PlaFolder", 175, ⟨"PlaFolder$State", "partAll", "()V"⟩, "PlaFolder"), ("PlaFolder", 183, ⟨"PlaFolder$History", "pop", "(LPlaFolder$State;)V"⟩, "PlaFolder")]
def NWs (U : State) : Prop := (∀ q ∈ nwF, va_Nw (.fieldLinkNest q.1 q.2.1 q.2.2.1 q.2.2.2.1 q.2.2.2.2.1 q.2.2.2.2.2) U) ∧ ∀ q ∈ nwM, va_Nw (.methodLinkNest q.1 q.2.1 q.2.2.1 q.2.2.2) U
theorem NWs.warm {s U : State} (hW : s.WarmedH U.vm) (h : NWs s) : NWs U := ⟨fun q hq => va_Nw.warmF hW (h.1 q hq), fun q hq => va_Nw.warmM hW (h.2 q hq)⟩
theorem NWs.same {s U : State} (hW : s.vm = U.vm) (h : NWs s) : NWs U := ⟨fun q hq => va_Nw.same rfl hW (h.1 q hq), fun q hq => va_Nw.same rfl hW (h.2 q hq)⟩
theorem NWs.F {s : State} (h : NWs s) (k : Nat) {q : String × Nat × String × String × String × String} (hq : nwF[k]? = some q) {A : Array Value} : (Cond.fieldLinkNest q.1 q.2.1 q.2.2.1 q.2.2.2.1 q.2.2.2.2.1 q.2.2.2.2.2).before A s = true := va_Nw.use rfl (h.1 q (List.mem_of_getElem? hq))
theorem NWs.M {s : State} (h : NWs s) (k : Nat) {q : String × Nat × MethodName × String} (hq : nwM[k]? = some q) : va_Nw (.methodLinkNest q.1 q.2.1 q.2.2.1 q.2.2.2) s := h.2 q (List.mem_of_getElem? hq)
abbrev tyL (G : GG) : List (ClassId × FieldType) := [(G.2 0, .int), (G.2 1, .long), (G.2 2, .object "PlaFolder$Demands"), (G.2 3, .object "PlaFolder$State")]
def KK (G : GG) (U : State) : Prop := va_K G.1 vwCl (tyL G) U ∧ NWs U
theorem KK.warm {G : GG} {s U : State} (hW : s.WarmedH U.vm) (h : KK G s) : KK G U := ⟨va_K.moved hW.alike h.1, h.2.warm hW⟩
def wwL : Nat → Int64 := fun k => match k with
  | 0 => -6148914691236517206
  | 1 => -3689348814741910324
  | 2 => -1085102592571150096
  | 3 => -71777214294589696
  | 4 => -281470681808896
  | _ => -4294967296
def ZZ (A : Nat → Prop) (U : State) (H : Heap) : Prop := ∃ t : Nat, va_Z "PlaFolder" "WORDS_WITH_INPUT" "[J" (.ref t) A U H ∧ va_T .long t 6 (fun k => .long (wwL k)) A U H
theorem ZZ.go {A B : Nat → Prop} {s U : State} {H : Heap} {locs : List Loc} (h : ZZ A s s.heap) (hS : va_S A s.heap H locs) (hB : ∀ q, B q → A q) (hW : s.vm.Alike U.vm) (hU : U.heap = H) : ZZ B U U.heap := by
  obtain ⟨t, h1, h2⟩ := h
  rw [hU]
  exact ⟨t, ((h1.kept hS.2.1).narrow hB).moved hW, ((h2.kept hS.2.1).narrow hB).moved hW⟩
def Pre (G : GG) (w : va_W) (sz : Nat) (U : State) : Prop := U.heap.size = sz ∧ va_P G.1 vwCl w U.heap ∧ KK G U ∧ va_D (fun _ => True) w ∧ ZZ (va_A w sz) U U.heap
theorem preBlind {G : GG} {av : List Value} {w : va_W} {sz : Nat} : FrameBlind (va_Pc av (Pre G w sz)) := fun a U g mk q => by
  obtain ⟨q0, q1, qP, qK, qD, qZ⟩ := q
  exact ⟨q0, q1, qP, ⟨va_K.moved (u := U) (U := U.calling g mk a) (Vm.Alike.refl U.vm) qK.1, qK.2.same rfl⟩, qD, by obtain ⟨t, z1, z2⟩ := qZ; exact ⟨t, va_Z.moved (u := U) (U := U.calling g mk a) (Vm.Alike.refl U.vm) z1, va_T.moved (u := U) (U := U.calling g mk a) (Vm.Alike.refl U.vm) z2⟩⟩
abbrev CI (l : Launch) (y : MethodName) (ws : List Cond) (rm : Room) (G : GG) (av : List Value) (w : va_W) (sz : Nat) {S : Type} (wOf : S → va_W) (K : Int32 → S → Prop) : Prop := Met l y ws rm (va_Pc av (Pre G w sz)) (va_Qi K (fun u t => va_P G.1 vwCl (wOf u) t.heap ∧ va_D (va_A w sz) (wOf u)) (va_A w sz)) 0 0 (va_A w sz)
abbrev CL (l : Launch) (y : MethodName) (ws : List Cond) (rm : Room) (G : GG) (av : List Value) (w : va_W) (sz : Nat) {S : Type} (wOf : S → va_W) (K : Int64 → S → Prop) : Prop := Met l y ws rm (va_Pc av (Pre G w sz)) (va_Ql K (fun u t => va_P G.1 vwCl (wOf u) t.heap ∧ va_D (va_A w sz) (wOf u)) (va_A w sz)) 0 0 (va_A w sz)
abbrev CV (l : Launch) (y : MethodName) (ws : List Cond) (rm : Room) (G : GG) (av : List Value) (w : va_W) (sz : Nat) {S : Type} (wOf : S → va_W) (K : S → Prop) : Prop := Met l y ws rm (va_Pc av (Pre G w sz)) (va_Qv K (fun u t => va_P G.1 vwCl (wOf u) t.heap ∧ va_D (va_A w sz) (wOf u)) (va_A w sz)) 0 0 (va_A w sz)
theorem va_D.sub2 {A : Nat → Prop} {w wc : va_W} (hD : va_D A w) (isC : List Nat) (hn : va_nd isC = true) (hC : isC.map (fun i => w[i]?) = wc.map some) : va_D (fun _ => True) wc := (hD.sub isC hn hC).weaken (fun _ _ _ _ => trivial)
theorem va_P.sub2 {D : va_G} {cl : List vw_C} {w wc : va_W} {H : Heap} (hP : va_P D cl w H) (isC : List Nat) (hC : isC.map (fun i => w[i]?) = wc.map some) : va_P D cl wc H := by
  intro k q hk
  have h1 : (isC.map (fun i => w[i]?))[k]? = some (some q) := by rw [hC, List.getElem?_map, hk]; rfl
  rw [List.getElem?_map] at h1
  cases hi : isC[k]? with
  | none => rw [hi] at h1; cases h1
  | some i => rw [hi] at h1; exact hP i q (Option.some.inj h1)
theorem kpV {G : GG} {s : State} {H : Heap} {A : Nat → Prop} {w wc : va_W} {C : String} {T : u_T} {N b q0 ci : Nat} {fs As : List Value} (hK : KK G s) (hP : va_P G.1 vwCl w H) (hD : va_D A w) (hZ : ZZ A s s.heap) {locs : List Loc} (hS : va_S A s.heap H locs) (hA : ∀ q, s.heap.size ≤ q → A q) (isC : List Nat) (hC : isC.map (fun i => w[i]?) = wc.map some) (hn : va_nd isC = true) (hc : vwCl[ci]? = some (C, T, N)) (he : wc[q0]? = some (b, .inr (ci, fs))) : PreV s H C b (va_Pc (.ref b :: As) (Pre G wc H.size)) As :=
  ⟨preBlind, va_recv hK.1 (hP.sub2 isC hC) hc he, fun U hU hW => ⟨rfl, by rw [hU], by rw [hU]; exact hP.sub2 isC hC, hK.warm hW, hD.sub2 isC hn hC, hZ.go hS (va_free hD hS hA isC hC) hW.alike hU⟩⟩
theorem kpS {G : GG} {s : State} {H : Heap} {A : Nat → Prop} {w wc : va_W} {As : List Value} (hK : KK G s) (hP : va_P G.1 vwCl w H) (hD : va_D A w) (hZ : ZZ A s s.heap) {locs : List Loc} (hS : va_S A s.heap H locs) (hA : ∀ q, s.heap.size ≤ q → A q) (isC : List Nat) (hC : isC.map (fun i => w[i]?) = wc.map some) (hn : va_nd isC = true) : PreS s H (va_Pc As (Pre G wc H.size)) As :=
  ⟨preBlind, fun U hU hW => ⟨rfl, by rw [hU], by rw [hU]; exact hP.sub2 isC hC, hK.warm hW, hD.sub2 isC hn hC, hZ.go hS (va_free hD hS hA isC hC) hW.alike hU⟩⟩
section KC
variable {p : Program} {l : Launch} {e : Env} {R : Room} {s : State} {m : MethodId} {args : Array Value} {below : List Frame} {meth : Method} {c : Code} {H : Heap} {locs : List Loc} {cells slots : Nat} {Q : State → Prop}
variable {pc : Nat} {ls : Array Slot} {rest st0 : List Value} {a : Array Value} {A : Nat → Prop} {G : GG} {w wc wr : va_W} {S : Type} {wOf : S → va_W}
theorem kc_i {K : Int32 → S → Prop} (hr : va_Run p l e R s m args below meth c H locs cells slots 0 0 (F0 m pc ls st0) rest (va_Qi K (fun u t => va_P G.1 vwCl (wOf u) t.heap ∧ va_D (va_A wc H.size) (wOf u)) (va_A wc H.size) a) (va_A wc H.size)) (hP : va_P G.1 vwCl w H) (hD : va_D A w) (hS : va_S A s.heap H locs) (hA : ∀ q, s.heap.size ≤ q → A q) (isC isR : List Nat) (hC : isC.map (fun i => w[i]?) = wc.map some) (hR : isR.map (fun i => w[i]?) = wr.map some) (hn : va_nd isR = true) (hdis : ∀ i ∈ isR, i ∉ isC)
    (kk : ∀ (r : Int32) (u : S) (H1 : Heap) (locs1 : List Loc), K r u → va_P G.1 vwCl (wr ++ wOf u) H1 → va_D A (wr ++ wOf u) → va_S A s.heap H1 locs1 → W p l e R s m args below meth c H1 locs1 cells slots Q (F0 m (pc + 3) ls (.int r :: rest))) : W p l e R s m args below meth c H locs cells slots Q (F0 m pc ls st0) := by
  have hFc := va_free (wc := wc) hD hS hA isC hC
  refine va_calli hr hS (fun q _ h => hFc q h) hFc (fun r u t H1 locs1 ht hvm hw hB hz1 hk1 hS => ?_)
  obtain ⟨hP1, hD1⟩ := hB
  rw [ht] at hP1
  obtain ⟨hP2, hD2⟩ := va_join (wr := wr) (w1 := wOf u) hP hD isC isR hC hR hn hdis hk1 hFc hP1 hD1
  exact kk r u H1 locs1 hw hP2 hD2 hS
theorem kc_l {K : Int64 → S → Prop} (hr : va_Run p l e R s m args below meth c H locs cells slots 0 0 (F0 m pc ls st0) rest (va_Ql K (fun u t => va_P G.1 vwCl (wOf u) t.heap ∧ va_D (va_A wc H.size) (wOf u)) (va_A wc H.size) a) (va_A wc H.size)) (hP : va_P G.1 vwCl w H) (hD : va_D A w) (hS : va_S A s.heap H locs) (hA : ∀ q, s.heap.size ≤ q → A q) (isC isR : List Nat) (hC : isC.map (fun i => w[i]?) = wc.map some) (hR : isR.map (fun i => w[i]?) = wr.map some) (hn : va_nd isR = true) (hdis : ∀ i ∈ isR, i ∉ isC)
    (kk : ∀ (r : Int64) (u : S) (H1 : Heap) (locs1 : List Loc), K r u → va_P G.1 vwCl (wr ++ wOf u) H1 → va_D A (wr ++ wOf u) → va_S A s.heap H1 locs1 → W p l e R s m args below meth c H1 locs1 cells slots Q (F0 m (pc + 3) ls (.long r :: rest))) : W p l e R s m args below meth c H locs cells slots Q (F0 m pc ls st0) := by
  have hFc := va_free (wc := wc) hD hS hA isC hC
  refine va_calll hr hS (fun q _ h => hFc q h) hFc (fun r u t H1 locs1 ht hvm hw hB hz1 hk1 hS => ?_)
  obtain ⟨hP1, hD1⟩ := hB
  rw [ht] at hP1
  obtain ⟨hP2, hD2⟩ := va_join (wr := wr) (w1 := wOf u) hP hD isC isR hC hR hn hdis hk1 hFc hP1 hD1
  exact kk r u H1 locs1 hw hP2 hD2 hS
theorem kc_v {K : S → Prop} (hr : va_Run p l e R s m args below meth c H locs cells slots 0 0 (F0 m pc ls st0) rest (va_Qv K (fun u t => va_P G.1 vwCl (wOf u) t.heap ∧ va_D (va_A wc H.size) (wOf u)) (va_A wc H.size) a) (va_A wc H.size)) (hP : va_P G.1 vwCl w H) (hD : va_D A w) (hS : va_S A s.heap H locs) (hA : ∀ q, s.heap.size ≤ q → A q) (isC isR : List Nat) (hC : isC.map (fun i => w[i]?) = wc.map some) (hR : isR.map (fun i => w[i]?) = wr.map some) (hn : va_nd isR = true) (hdis : ∀ i ∈ isR, i ∉ isC)
    (kk : ∀ (u : S) (H1 : Heap) (locs1 : List Loc), K u → va_P G.1 vwCl (wr ++ wOf u) H1 → va_D A (wr ++ wOf u) → va_S A s.heap H1 locs1 → W p l e R s m args below meth c H1 locs1 cells slots Q (F0 m (pc + 3) ls (rest))) : W p l e R s m args below meth c H locs cells slots Q (F0 m pc ls st0) := by
  have hFc := va_free (wc := wc) hD hS hA isC hC
  refine va_callv hr hS (fun q _ h => hFc q h) hFc (fun u t H1 locs1 ht hvm hw hB hz1 hk1 hS => ?_)
  obtain ⟨hP1, hD1⟩ := hB
  rw [ht] at hP1
  obtain ⟨hP2, hD2⟩ := va_join (wr := wr) (w1 := wOf u) hP hD isC isR hC hR hn hdis hk1 hFc hP1 hD1
  exact kk u H1 locs1 hw hP2 hD2 hS
end KC
section XR
variable {p : Program} {l : Launch} {e : Env} {R : Room} {s : State} {m : MethodId} {args : Array Value} {below : List Frame} {meth : Method} {c : Code} {H : Heap} {locs : List Loc} {cells slots : Nat} {Q : State → Prop}
variable {pc : Nat} {ls : Array Slot} {rest : List Value} {A : Nat → Prop} {G : GG} {ws : va_W} {cc : ByteArray} {a : Nat} {H0 : Heap}
theorem x_iald (hexec : p.tables.exec = Jvm.exec) (hb : c.code = cc) (hK : KK G s) (hP : va_P G.1 vwCl ws H) (q0 : Nat) {n : Nat} {f : Nat → Int32} (ha : ws[q0]? = some (a, .inl (G.2 0, n, .inl f))) {i : Int32} (hin : vp_in i n) {k : Nat} (hk : i.toNatClampNeg = k) (hdg : decode cc pc = .ok (.iaload, 1))
    (kk : W p l e R s m args below meth c H locs cells slots Q (F0 m (pc + 1) ls (.int (f k) :: rest))) : W p l e R s m args below meth c H locs cells slots Q (F0 m pc ls (.int i :: .ref a :: rest)) := by
  subst hk
  exact va_iald hexec hb hK.1 hP q0 0 ha rfl hin hdg kk
theorem x_lald (hexec : p.tables.exec = Jvm.exec) (hb : c.code = cc) (hK : KK G s) (hP : va_P G.1 vwCl ws H) (q0 : Nat) {n : Nat} {f : Nat → Int64} (ha : ws[q0]? = some (a, .inl (G.2 1, n, .inr (.inl f)))) {i : Int32} (hin : vp_in i n) {k : Nat} (hk : i.toNatClampNeg = k) (hdg : decode cc pc = .ok (.laload, 1))
    (kk : W p l e R s m args below meth c H locs cells slots Q (F0 m (pc + 1) ls (.long (f k) :: rest))) : W p l e R s m args below meth c H locs cells slots Q (F0 m pc ls (.int i :: .ref a :: rest)) := by
  subst hk
  exact va_lald hexec hb hK.1 hP q0 1 ha rfl hin hdg kk
theorem x_iast (hexec : p.tables.exec = Jvm.exec) (hb : c.code = cc) (hK : KK G s) (hP : va_P G.1 vwCl ws H) (hD : va_D A ws) (hS : va_S A H0 H locs) (q0 : Nat) {n : Nat} {f : Nat → Int32} (ha : ws[q0]? = some (a, .inl (G.2 0, n, .inl f))) {i x : Int32} (hin : vp_in i n) {k : Nat} (hk : i.toNatClampNeg = k) (hdg : decode cc pc = .ok (.iastore, 1))
    (kk : ∀ (H1 : Heap) (locs1 : List Loc), va_P G.1 vwCl (ws.set q0 (a, .inl (G.2 0, n, .inl (upd f k x)))) H1 → va_D A (ws.set q0 (a, .inl (G.2 0, n, .inl (upd f k x)))) → va_S A H0 H1 locs1 → W p l e R s m args below meth c H1 locs1 cells slots Q (F0 m (pc + 1) ls rest)) : W p l e R s m args below meth c H locs cells slots Q (F0 m pc ls (.int x :: .int i :: .ref a :: rest)) := by
  subst hk
  exact va_iast hexec hb hK.1 hP hD hS q0 0 ha rfl hin hdg kk
theorem x_last (hexec : p.tables.exec = Jvm.exec) (hb : c.code = cc) (hK : KK G s) (hP : va_P G.1 vwCl ws H) (hD : va_D A ws) (hS : va_S A H0 H locs) (q0 : Nat) {n : Nat} {f : Nat → Int64} (ha : ws[q0]? = some (a, .inl (G.2 1, n, .inr (.inl f)))) {i : Int32} {x : Int64} (hin : vp_in i n) {k : Nat} (hk : i.toNatClampNeg = k) (hdg : decode cc pc = .ok (.lastore, 1))
    (kk : ∀ (H1 : Heap) (locs1 : List Loc), va_P G.1 vwCl (ws.set q0 (a, .inl (G.2 1, n, .inr (.inl (vp_updL f k x))))) H1 → va_D A (ws.set q0 (a, .inl (G.2 1, n, .inr (.inl (vp_updL f k x))))) → va_S A H0 H1 locs1 → W p l e R s m args below meth c H1 locs1 cells slots Q (F0 m (pc + 1) ls rest)) : W p l e R s m args below meth c H locs cells slots Q (F0 m pc ls (.long x :: .int i :: .ref a :: rest)) := by
  subst hk
  exact va_last hexec hb hK.1 hP hD hS q0 1 ha rfl hin hdg kk
end XR
theorem nar_b {v : Int32} (h : v = 0 ∨ v = 1) : narrow .boolean (.int v) = .int v := by rcases h with rfl | rfl <;> rfl
section LW
variable {p : Program} {l : Launch} {e : Env} {R : Room} {s : State} {m : MethodId} {args : Array Value} {below : List Frame} {meth : Method} {c : Code} {cells slots : Nat} {Q : State → Prop}
theorem loopW {σ : Type} {P : σ → Heap → List Loc → Array Slot → Prop} {pc : Nat} {st : List Value} {I : Nat → σ → Prop} (n0 : Nat) (x0 : σ) (h0 : I n0 x0) (H : Heap) (locs : List Loc) (ls : Array Slot) (hP0 : P x0 H locs ls)
    (step : ∀ n x, I n x → (∀ n' x', n' < n → I n' x' → ∀ H locs ls, P x' H locs ls → W p l e R s m args below meth c H locs cells slots Q (F0 m pc ls st)) → ∀ H locs ls, P x H locs ls → W p l e R s m args below meth c H locs cells slots Q (F0 m pc ls st)) : W p l e R s m args below meth c H locs cells slots Q (F0 m pc ls st) := by
  have key : ∀ n x, I n x → ∀ H locs ls, P x H locs ls → W p l e R s m args below meth c H locs cells slots Q (F0 m pc ls st) := by
    intro n
    induction n using Nat.strongRecOn with
    | ind n ih => exact fun x hx => step n x hx (fun n' x' hn hI => ih n' hn x' hI)
  exact key n0 x0 h0 H locs ls hP0
theorem joinW {σ : Type} {P : σ → Heap → List Loc → Array Slot → Prop} {J : σ → Prop} {pc : Nat} {st : σ → List Value} {H0 : Heap} {locs0 : List Loc} {g : JFrame}
    (join : ∀ x, J x → ∀ H locs ls, P x H locs ls → W p l e R s m args below meth c H locs cells slots Q (F0 m pc ls (st x)))
    (body : (∀ x, J x → ∀ H locs ls, P x H locs ls → W p l e R s m args below meth c H locs cells slots Q (F0 m pc ls (st x))) → W p l e R s m args below meth c H0 locs0 cells slots Q g) : W p l e R s m args below meth c H0 locs0 cells slots Q g := body join
end LW
def wM (G : GG) (ad : Nat → Nat) (nw : Nat → Int32) (ps : Nat → Int32) (er : Nat → Int32) (us : Nat → Int32) (un : Nat → Int32) (od : Nat → Int32) (li : Nat → Int32) (st : Int32) (lm : Int32) (hs : Int64) : va_W := [(ad 0, .inr (6, [.ref (ad 1), .ref (ad 2), .int st, .ref (ad 3), .ref (ad 4), .ref (ad 5), .ref (ad 6), .ref (ad 7), .int lm, .long hs])), (ad 1, .inl (G.2 0, 53, .inl nw)), (ad 2, .inl (G.2 0, 265, .inl ps)), (ad 3, .inl (G.2 0, 5, .inl er)), (ad 4, .inl (G.2 0, 10, .inl us)), (ad 5, .inl (G.2 0, 10, .inl un)), (ad 6, .inl (G.2 0, 10, .inl od)), (ad 7, .inl (G.2 0, 6, .inl li))]
def wS (G : GG) (ad : Nat → Nat) (inp : Int32) (otp : Int32) (tc : Int32) (fc : Int32) (on : Nat → Int32) (ze : Nat → Int32) (ou : Nat → Int32) (wd : Nat → Int64) (lo : Nat → Int32) (up : Nat → Int32) : va_W := [(ad 0, .inr (4, [.int inp, .int otp, .int tc, .int fc, .ref (ad 1), .ref (ad 2), .ref (ad 3), .ref (ad 4), .ref (ad 5), .ref (ad 6)])), (ad 1, .inl (G.2 0, 10, .inl on)), (ad 2, .inl (G.2 0, 10, .inl ze)), (ad 3, .inl (G.2 0, 10, .inl ou)), (ad 4, .inl (G.2 1, 10, .inr (.inl wd))), (ad 5, .inl (G.2 0, 10, .inl lo)), (ad 6, .inl (G.2 0, 10, .inl up))]
def wD (G : GG) (ad : Nat → Nat) (ab : Nat → Int32) : va_W := [(ad 0, .inr (1, [.ref (ad 1)])), (ad 1, .inl (G.2 0, 10, .inl ab))]
def wR (G : GG) (ad : Nat → Nat) (tr : Nat → Int32) (rt : Nat → Int32) : va_W := [(ad 0, .inr (3, [.ref (ad 1), .ref (ad 2)])), (ad 1, .inl (G.2 0, 10, .inl tr)), (ad 2, .inl (G.2 0, 10, .inl rt))]
end
section
def wp_X6_in (a1 : Int32) (a2 : Int32) (a3 : Int32) (K : Int32 → Prop) : Prop :=
 ((a1 < a2 → K (0 : Int32)) ∧
 (¬ (a1 < a2) → ((a3 < a1 → K (0 : Int32)) ∧
 (¬ (a3 < a1) → K (1 : Int32)))))
abbrev rm_X6_in : Room := { frames := 0, cells := 0, slots := 0, locals := 0 }
set_option maxHeartbeats 4000000 in
set_option maxRecDepth 100000 in
theorem c_X6_in (l : Launch) (G : GG) (sz : Nat) (a1 : Int32) (a2 : Int32) (a3 : Int32) {K : Int32 → Prop} (h : wp_X6_in a1 a2 a3 K) : CI l yX6_in wsX6_in rm_X6_in G [.int a1, .int a2, .int a3] (([] : va_W)) sz (fun u : Unit => ([] : va_W)) (fun r u => K r ) := by
  refine Met.ofW (cc := cX6_in) (maxL := 3) (ret := (some .boolean)) (by decide) rfl ?_
  intro p e s m args below meth c s₁ B hml hv
  obtain ⟨rfl, hsz, hP, hK, hD0, hZ⟩ := hv
  have hx := B.exec
  have hb := B.bytes
  have hr := B.returns
  have hts := atoms_spec (ws := wsX6_in) B.pre
  have hown : s.vm.findClass RX6 = some m.cls := findClass_of_methodNamed B.named
  have hlocks := B.notSynchronized
  subst hsz
  have hD := hD0.self (sz := s.heap.size)
  generalize hAe : va_A (([] : va_W)) s.heap.size = A at hD hZ ⊢
  have hA : ∀ q : Nat, s.heap.size ≤ q → A q := fun q h => by rw [← hAe]; exact Or.inr h
  have hS : va_S A s.heap s.heap [] := va_S.rf
  have hl := lv_entry ([.int a1, .int a2, .int a3]) (n := 3) (Nat.le_of_ble_eq_true rfl)
  rw [lg_entry_eq]
  generalize (lg_sl ([.int a1, .int a2, .int a3]) ++ List.replicate (3 - (lg_sl ([.int a1, .int a2, .int a3])).length) Slot.unset).toArray = ls at hl ⊢
  have hl : lv_has ls 3 [(0, .int a1), (1, .int a2), (2, .int a3)] := hl
  unfold wp_X6_in at h
  refine lv_iload_n hx hb dX6_in_0 rfl (lv_at hl 0 rfl) ?_
  refine lv_iload_n hx hb dX6_in_1 rfl (lv_at hl 1 rfl) ?_
  refine lv_icmp_lt (tgt := 14) hx hb dX6_in_2 (by decide) (fun c_1 => ?_) (fun c_1 => ?_)
  · have h := h.1 c_1
    refine lv_iconst (v := (0 : Int32)) hx hb dX6_in_14 (by decide) ?_
    exact W.zret hx hb hr (by decide) (fun t ht hW => ⟨⟨_, (), rfl, h, by rw [ht]; exact hP, hD⟩, hS.F ht⟩) hS.2.2 dX6_in_15
  · have h := h.2 c_1
    refine lv_iload_n hx hb dX6_in_5 rfl (lv_at hl 0 rfl) ?_
    refine lv_iload_n hx hb dX6_in_6 rfl (lv_at hl 2 rfl) ?_
    refine lv_icmp_gt (tgt := 14) hx hb dX6_in_7 (by decide) (fun c_2 => ?_) (fun c_2 => ?_)
    · have h := h.1 c_2
      refine lv_iconst (v := (0 : Int32)) hx hb dX6_in_14 (by decide) ?_
      exact W.zret hx hb hr (by decide) (fun t ht hW => ⟨⟨_, (), rfl, h, by rw [ht]; exact hP, hD⟩, hS.F ht⟩) hS.2.2 dX6_in_15
    · have h := h.2 c_2
      refine lv_iconst (v := (1 : Int32)) hx hb dX6_in_10 (by decide) ?_
      refine lv_goto (tgt := 15) hx hb dX6_in_11 (by decide) ?_
      exact W.zret hx hb hr (by decide) (fun t ht hW => ⟨⟨_, (), rfl, h, by rw [ht]; exact hP, hD⟩, hS.F ht⟩) hS.2.2 dX6_in_15
def wp_X6_has (a1 : Int32) (a2 : Int32) (K : Int32 → Prop) : Prop :=
 ((¬ ((jshr a1 a2) &&& (1 : Int32)) = (1 : Int32) → K (0 : Int32)) ∧
 (((jshr a1 a2) &&& (1 : Int32)) = (1 : Int32) → K (1 : Int32)))
abbrev rm_X6_has : Room := { frames := 0, cells := 0, slots := 0, locals := 0 }
set_option maxHeartbeats 4000000 in
set_option maxRecDepth 100000 in
theorem c_X6_has (l : Launch) (G : GG) (sz : Nat) (a1 : Int32) (a2 : Int32) {K : Int32 → Prop} (h : wp_X6_has a1 a2 K) : CI l yX6_has wsX6_has rm_X6_has G [.int a1, .int a2] (([] : va_W)) sz (fun u : Unit => ([] : va_W)) (fun r u => K r ) := by
  refine Met.ofW (cc := cX6_has) (maxL := 2) (ret := (some .boolean)) (by decide) rfl ?_
  intro p e s m args below meth c s₁ B hml hv
  obtain ⟨rfl, hsz, hP, hK, hD0, hZ⟩ := hv
  have hx := B.exec
  have hb := B.bytes
  have hr := B.returns
  have hts := atoms_spec (ws := wsX6_has) B.pre
  have hown : s.vm.findClass RX6 = some m.cls := findClass_of_methodNamed B.named
  have hlocks := B.notSynchronized
  subst hsz
  have hD := hD0.self (sz := s.heap.size)
  generalize hAe : va_A (([] : va_W)) s.heap.size = A at hD hZ ⊢
  have hA : ∀ q : Nat, s.heap.size ≤ q → A q := fun q h => by rw [← hAe]; exact Or.inr h
  have hS : va_S A s.heap s.heap [] := va_S.rf
  have hl := lv_entry ([.int a1, .int a2]) (n := 2) (Nat.le_of_ble_eq_true rfl)
  rw [lg_entry_eq]
  generalize (lg_sl ([.int a1, .int a2]) ++ List.replicate (2 - (lg_sl ([.int a1, .int a2])).length) Slot.unset).toArray = ls at hl ⊢
  have hl : lv_has ls 2 [(0, .int a1), (1, .int a2)] := hl
  unfold wp_X6_has at h
  refine lv_iload_n hx hb dX6_has_0 rfl (lv_at hl 0 rfl) ?_
  refine lv_iload_n hx hb dX6_has_1 rfl (lv_at hl 1 rfl) ?_
  refine lv_ishr hx hb dX6_has_2 ?_
  refine lv_iconst (v := (1 : Int32)) hx hb dX6_has_3 (by decide) ?_
  refine lv_iand hx hb dX6_has_4 ?_
  refine lv_iconst (v := (1 : Int32)) hx hb dX6_has_5 (by decide) ?_
  refine lv_icmp_ne (tgt := 13) hx hb dX6_has_6 (by decide) (fun c_1 => ?_) (fun c_1 => ?_)
  · have h := h.1 c_1
    refine lv_iconst (v := (0 : Int32)) hx hb dX6_has_13 (by decide) ?_
    exact W.zret hx hb hr (by decide) (fun t ht hW => ⟨⟨_, (), rfl, h, by rw [ht]; exact hP, hD⟩, hS.F ht⟩) hS.2.2 dX6_has_14
  · have h := h.2 c_1
    refine lv_iconst (v := (1 : Int32)) hx hb dX6_has_9 (by decide) ?_
    refine lv_goto (tgt := 14) hx hb dX6_has_10 (by decide) ?_
    exact W.zret hx hb hr (by decide) (fun t ht hW => ⟨⟨_, (), rfl, h, by rw [ht]; exact hP, hD⟩, hS.F ht⟩) hS.2.2 dX6_has_14
def wp_X6_many (a1 : Int32) (K : Int32 → Prop) : Prop :=
 (Lp2 (0 : Int32) a1 (fun (x1 : Int32) (x2 : Int32) (J6 : Int32 → Int32 → Prop) => ((x2 = 0 → K x1) ∧
 (¬ (x2 = 0) → J6 (x1 + (1 : Int32)) (x2 &&& (x2 - (1 : Int32)))))))
abbrev rm_X6_many : Room := { frames := 0, cells := 0, slots := 0, locals := 0 }
set_option maxHeartbeats 4000000 in
set_option maxRecDepth 100000 in
theorem c_X6_many (l : Launch) (G : GG) (sz : Nat) (a1 : Int32) {K : Int32 → Prop} (h : wp_X6_many a1 K) : CI l yX6_many wsX6_many rm_X6_many G [.int a1] (([] : va_W)) sz (fun u : Unit => ([] : va_W)) (fun r u => K r ) := by
  refine Met.ofW (cc := cX6_many) (maxL := 3) (ret := (some .int)) (by decide) rfl ?_
  intro p e s m args below meth c s₁ B hml hv
  obtain ⟨rfl, hsz, hP, hK, hD0, hZ⟩ := hv
  have hx := B.exec
  have hb := B.bytes
  have hr := B.returns
  have hts := atoms_spec (ws := wsX6_many) B.pre
  have hown : s.vm.findClass RX6 = some m.cls := findClass_of_methodNamed B.named
  have hlocks := B.notSynchronized
  subst hsz
  have hD := hD0.self (sz := s.heap.size)
  generalize hAe : va_A (([] : va_W)) s.heap.size = A at hD hZ ⊢
  have hA : ∀ q : Nat, s.heap.size ≤ q → A q := fun q h => by rw [← hAe]; exact Or.inr h
  have hS : va_S A s.heap s.heap [] := va_S.rf
  have hl := lv_entry ([.int a1]) (n := 3) (Nat.le_of_ble_eq_true rfl)
  rw [lg_entry_eq]
  generalize (lg_sl ([.int a1]) ++ List.replicate (3 - (lg_sl ([.int a1])).length) Slot.unset).toArray = ls at hl ⊢
  have hl : lv_has ls 3 [(0, .int a1)] := hl
  unfold wp_X6_many at h
  refine lv_iconst (v := (0 : Int32)) hx hb dX6_many_0 (by decide) ?_
  refine lv_istore_n (lv' := [(1, .int (0 : Int32)), (0, .int a1)]) hx hb dX6_many_1 rfl hl (by decide) rfl (fun ls hl => ?_)
  refine lv_iload_n hx hb dX6_many_2 rfl (lv_at hl 1 rfl) ?_
  refine lv_istore_n (lv' := [(2, .int a1), (1, .int (0 : Int32)), (0, .int a1)]) hx hb dX6_many_3 rfl hl (by decide) rfl (fun ls hl => ?_)
  obtain ⟨I3, n4, h0, hst5⟩ := h
  refine loopW (σ := Int32 × Int32) (P := fun q H locs ls => va_P G.1 vwCl (([] : va_W)) H ∧ va_D A (([] : va_W)) ∧ va_S A s.heap H locs ∧ lv_has ls 3 [(1, .int q.1), (2, .int q.2)]) (I := fun n q => I3 n q.1 q.2) n4 ((0 : Int32), a1) h0 _ _ _ ⟨hP, hD, hS, lv_sub hl [1, 0] rfl⟩ ?_
  rintro n8 ⟨x1, x2⟩ hI ih7 H locs ls ⟨hP, hD, hS, hl⟩
  have hP : va_P G.1 vwCl (([] : va_W)) H := hP
  have hD : va_D A (([] : va_W)) := hD
  have hl : lv_has ls 3 [(1, .int x1), (2, .int x2)] := hl
  have h := hst5 n8 x1 x2 hI
  refine lv_iload_n hx hb dX6_many_4 rfl (lv_at hl 1 rfl) ?_
  refine lv_if_eq (tgt := 20) hx hb dX6_many_5 (by decide) (fun c_9 => ?_) (fun c_9 => ?_)
  · have h := h.1 c_9
    refine lv_iload_n hx hb dX6_many_20 rfl (lv_at hl 0 rfl) ?_
    exact W.iret hx hb hr (fun t ht hW => ⟨⟨_, (), rfl, h, by rw [ht]; exact hP, hD⟩, hS.F ht⟩) hS.2.2 dX6_many_21
  · have h := h.2 c_9
    refine lv_iinc (v := (x1 + (1 : Int32))) (lv' := [(1, .int (x1 + (1 : Int32))), (2, .int x2)]) hx hb dX6_many_8 hl (k := 0) rfl rfl (by decide) rfl (fun ls hl => ?_)
    refine lv_iload_n hx hb dX6_many_11 rfl (lv_at hl 1 rfl) ?_
    refine lv_iload_n hx hb dX6_many_12 rfl (lv_at hl 1 rfl) ?_
    refine lv_iconst (v := (1 : Int32)) hx hb dX6_many_13 (by decide) ?_
    refine lv_isub hx hb dX6_many_14 ?_
    refine lv_iand hx hb dX6_many_15 ?_
    refine lv_istore_n (lv' := [(2, .int (x2 &&& (x2 - (1 : Int32)))), (1, .int (x1 + (1 : Int32)))]) hx hb dX6_many_16 rfl hl (by decide) rfl (fun ls hl => ?_)
    refine lv_goto (tgt := 4) hx hb dX6_many_17 (by decide) ?_
    obtain ⟨n11, hn10, hI12⟩ := h
    exact ih7 n11 ((x1 + (1 : Int32)), (x2 &&& (x2 - (1 : Int32)))) hn10 hI12 _ _ _ ⟨hP, hD, hS, lv_sub hl [1, 0] rfl⟩
def wp_X6_error (a1 : Int32) (er : Nat → Int32) (K : Int32 → (Nat → Int32) → Prop) : Prop :=
 (vp_in ((-2 : Int32) - a1) 5 ∧ (vp_in ((-2 : Int32) - a1) 5 ∧ K a1 (upd er (((-2 : Int32) - a1).toNatClampNeg) ((er ((-2 : Int32) - a1).toNatClampNeg) + (1 : Int32)))))
abbrev rm_X6_error : Room := { frames := 0, cells := 0, slots := 0, locals := 0 }
set_option maxHeartbeats 4000000 in
set_option maxRecDepth 100000 in
theorem c_X6_error (l : Launch) (G : GG) (ad : Nat → Nat) (sz : Nat) (nw : Nat → Int32) (ps : Nat → Int32) (er : Nat → Int32) (us : Nat → Int32) (un : Nat → Int32) (od : Nat → Int32) (li : Nat → Int32) (st : Int32) (lm : Int32) (hs : Int64) (a1 : Int32) {K : Int32 → (Nat → Int32) → Prop} (h : wp_X6_error a1 er K) : CI l yX6_error wsX6_error rm_X6_error G [.ref (ad 0), .int a1] (wM G ad nw ps er us un od li st lm hs) sz (fun u : (Nat → Int32) => wM G ad nw ps u us un od li st lm hs) (fun r u => K r u) := by
  refine Met.ofW (cc := cX6_error) (maxL := 2) (ret := (some .int)) (by decide) rfl ?_
  intro p e s m args below meth c s₁ B hml hv
  obtain ⟨rfl, hsz, hP, hK, hD0, hZ⟩ := hv
  have hx := B.exec
  have hb := B.bytes
  have hr := B.returns
  have hts := atoms_spec (ws := wsX6_error) B.pre
  have hown : s.vm.findClass RX6 = some m.cls := findClass_of_methodNamed B.named
  have hlocks := B.notSynchronized
  subst hsz
  have hD := hD0.self (sz := s.heap.size)
  generalize hAe : va_A (wM G ad nw ps er us un od li st lm hs) s.heap.size = A at hD hZ ⊢
  have hA : ∀ q : Nat, s.heap.size ≤ q → A q := fun q h => by rw [← hAe]; exact Or.inr h
  have hS : va_S A s.heap s.heap [] := va_S.rf
  have hl := lv_entry ([.ref (ad 0), .int a1]) (n := 2) (Nat.le_of_ble_eq_true rfl)
  rw [lg_entry_eq]
  generalize (lg_sl ([.ref (ad 0), .int a1]) ++ List.replicate (2 - (lg_sl ([.ref (ad 0), .int a1])).length) Slot.unset).toArray = ls at hl ⊢
  have hl : lv_has ls 2 [(0, .ref (ad 0)), (1, .int a1)] := hl
  unfold wp_X6_error at h
  have hinX6 : ∀ w ∈ wsX60, w ∈ wsX6_error := by decide +kernel
  refine lv_aload_n hx hb dX6_error_0 rfl (lv_at hl 0 rfl) ?_
  refine va_get (D := G.1) (ci := 6) (v := .ref (ad 3)) (C := RX6) (T := TX6) (N := 10) hx hb hts hinX6 hown hK.1 hP 0 rfl rfl 3 (by decide) (hts (.fieldLink RX6 16 "PlaFolderModel" "errors" "[I") (by decide +kernel)) (fun _ h9 => h9) rfl dX6_error_1 ?_
  refine lv_bipush (v := (-2 : Int32)) hx hb dX6_error_4 (by decide) ?_
  refine lv_iload_n hx hb dX6_error_6 rfl (lv_at hl 1 rfl) ?_
  refine lv_isub hx hb dX6_error_7 ?_
  refine lv_dup2_11 hx hb dX6_error_8 rfl rfl ?_
  obtain ⟨hi1, h⟩ := h
  refine x_iald hx hb hK hP 3 rfl hi1 rfl dX6_error_9 ?_
  refine lv_iconst (v := (1 : Int32)) hx hb dX6_error_10 (by decide) ?_
  refine lv_iadd hx hb dX6_error_11 ?_
  obtain ⟨hi2, h⟩ := h
  refine x_iast hx hb hK hP hD hS 3 rfl hi2 rfl dX6_error_12 (fun H locs hP hD hS => ?_)
  have hP : va_P G.1 vwCl (wM G ad nw ps (upd er (((-2 : Int32) - a1).toNatClampNeg) ((er ((-2 : Int32) - a1).toNatClampNeg) + (1 : Int32))) us un od li st lm hs) H := hP
  have hD : va_D A (wM G ad nw ps (upd er (((-2 : Int32) - a1).toNatClampNeg) ((er ((-2 : Int32) - a1).toNatClampNeg) + (1 : Int32))) us un od li st lm hs) := hD
  refine lv_iload_n hx hb dX6_error_13 rfl (lv_at hl 1 rfl) ?_
  exact W.iret hx hb hr (fun t ht hW => ⟨⟨_, (upd er (((-2 : Int32) - a1).toNatClampNeg) ((er ((-2 : Int32) - a1).toNatClampNeg) + (1 : Int32))), rfl, h, by rw [ht]; exact hP, hD⟩, hS.F ht⟩) hS.2.2 dX6_error_14
def wp_X6_isTerm (a1 : Int32) (nw : Nat → Int32) (K : Int32 → Prop) : Prop :=
 wp_X6_in a1 (0 : Int32) ((nw 2) - (1 : Int32)) (fun (r1 : Int32) => ((r1 = 0 ∨ r1 = 1) ∧ K r1))
abbrev rm_X6_isTerm : Room := { frames := 1, cells := 0, slots := 0, locals := 22 }
set_option maxHeartbeats 4000000 in
set_option maxRecDepth 100000 in
theorem c_X6_isTerm (l : Launch) (G : GG) (ad : Nat → Nat) (sz : Nat) (nw : Nat → Int32) (ps : Nat → Int32) (er : Nat → Int32) (us : Nat → Int32) (un : Nat → Int32) (od : Nat → Int32) (li : Nat → Int32) (st : Int32) (lm : Int32) (hs : Int64) (a1 : Int32) {K : Int32 → Prop} (h : wp_X6_isTerm a1 nw K) : CI l yX6_isTerm wsX6_isTerm rm_X6_isTerm G [.ref (ad 0), .int a1] (wM G ad nw ps er us un od li st lm hs) sz (fun u : Unit => wM G ad nw ps er us un od li st lm hs) (fun r u => K r ) := by
  refine Met.ofW (cc := cX6_isTerm) (maxL := 2) (ret := (some .boolean)) (by decide) rfl ?_
  intro p e s m args below meth c s₁ B hml hv
  obtain ⟨rfl, hsz, hP, hK, hD0, hZ⟩ := hv
  have hx := B.exec
  have hb := B.bytes
  have hr := B.returns
  have hts := atoms_spec (ws := wsX6_isTerm) B.pre
  have hown : s.vm.findClass RX6 = some m.cls := findClass_of_methodNamed B.named
  have hlocks := B.notSynchronized
  subst hsz
  have hD := hD0.self (sz := s.heap.size)
  generalize hAe : va_A (wM G ad nw ps er us un od li st lm hs) s.heap.size = A at hD hZ ⊢
  have hA : ∀ q : Nat, s.heap.size ≤ q → A q := fun q h => by rw [← hAe]; exact Or.inr h
  have hS : va_S A s.heap s.heap [] := va_S.rf
  have hl := lv_entry ([.ref (ad 0), .int a1]) (n := 2) (Nat.le_of_ble_eq_true rfl)
  rw [lg_entry_eq]
  generalize (lg_sl ([.ref (ad 0), .int a1]) ++ List.replicate (2 - (lg_sl ([.ref (ad 0), .int a1])).length) Slot.unset).toArray = ls at hl ⊢
  have hl : lv_has ls 2 [(0, .ref (ad 0)), (1, .int a1)] := hl
  unfold wp_X6_isTerm at h
  have hinX6 : ∀ w ∈ wsX60, w ∈ wsX6_isTerm := by decide +kernel
  refine lv_iload_n hx hb dX6_isTerm_0 rfl (lv_at hl 1 rfl) ?_
  refine lv_iconst (v := (0 : Int32)) hx hb dX6_isTerm_1 (by decide) ?_
  refine lv_aload_n hx hb dX6_isTerm_2 rfl (lv_at hl 0 rfl) ?_
  refine va_get (D := G.1) (ci := 6) (v := .ref (ad 1)) (C := RX6) (T := TX6) (N := 10) hx hb hts hinX6 hown hK.1 hP 0 rfl rfl 0 (by decide) (hts (.fieldLink RX6 7 "PlaFolderModel" "now" "[I") (by decide +kernel)) (fun _ h9 => h9) rfl dX6_isTerm_3 ?_
  refine lv_iconst (v := (2 : Int32)) hx hb dX6_isTerm_6 (by decide) ?_
  refine x_iald hx hb hK hP 1 rfl (vin_c (by decide)) (k := 2) (by decide) dX6_isTerm_7 ?_
  refine lv_iconst (v := (1 : Int32)) hx hb dX6_isTerm_8 (by decide) ?_
  refine lv_isub hx hb dX6_isTerm_9 ?_
  refine kc_i (wr := wM G ad nw ps er us un od li st lm hs) (va_runS (As := [.int a1, .int (0 : Int32), .int ((nw 2) - (1 : Int32))]) (rest := []) ⟨hx, hb, hml, hown, hts⟩ (c_X6_in l G  _  a1 (0 : Int32) ((nw 2) - (1 : Int32)) h) (va_cwS 3 hts gX6_isTerm_X6_in rfl rfl rfl (by decide +kernel) ⟨Nat.le_of_ble_eq_true rfl, Nat.le_of_ble_eq_true rfl⟩) (kpS hK hP hD hZ hS hA [] rfl (by decide)) rfl rfl hl.1 rfl (lv_room (Nat.le_of_ble_eq_true rfl)) dX6_isTerm_10 ⟨Nat.zero_le _, Nat.zero_le _⟩) hP hD hS hA [] [0, 1, 2, 3, 4, 5, 6, 7] rfl rfl (by decide) (by decide) (fun r1 w3 H locs h hP hD hS => ?_)
  have hP : va_P G.1 vwCl (wM G ad nw ps er us un od li st lm hs) H := hP
  have hD : va_D A (wM G ad nw ps er us un od li st lm hs) := hD
  try dsimp only at h
  obtain ⟨hz2, h⟩ := h
  exact W.zret hx hb hr (nar_b hz2) (fun t ht hW => ⟨⟨_, (), rfl, h, by rw [ht]; exact hP, hD⟩, hS.F ht⟩) hS.2.2 dX6_isTerm_13
def wp_X6_isColumn (a1 : Int32) (nw : Nat → Int32) (K : Int32 → Prop) : Prop :=
 wp_X6_in a1 (0 : Int32) ((nw 0) - (1 : Int32)) (fun (r1 : Int32) => ((¬ r1 = 0 → K (1 : Int32)) ∧
 (r1 = 0 → wp_X6_in a1 (6 : Int32) (((6 : Int32) + (nw 1)) - (1 : Int32)) (fun (r3 : Int32) => ((r3 = 0 → K (0 : Int32)) ∧
 (¬ (r3 = 0) → K (1 : Int32)))))))
abbrev rm_X6_isColumn : Room := { frames := 1, cells := 0, slots := 0, locals := 22 }
set_option maxHeartbeats 4000000 in
set_option maxRecDepth 100000 in
theorem c_X6_isColumn (l : Launch) (G : GG) (ad : Nat → Nat) (sz : Nat) (nw : Nat → Int32) (ps : Nat → Int32) (er : Nat → Int32) (us : Nat → Int32) (un : Nat → Int32) (od : Nat → Int32) (li : Nat → Int32) (st : Int32) (lm : Int32) (hs : Int64) (a1 : Int32) {K : Int32 → Prop} (h : wp_X6_isColumn a1 nw K) : CI l yX6_isColumn wsX6_isColumn rm_X6_isColumn G [.ref (ad 0), .int a1] (wM G ad nw ps er us un od li st lm hs) sz (fun u : Unit => wM G ad nw ps er us un od li st lm hs) (fun r u => K r ) := by
  refine Met.ofW (cc := cX6_isColumn) (maxL := 2) (ret := (some .boolean)) (by decide) rfl ?_
  intro p e s m args below meth c s₁ B hml hv
  obtain ⟨rfl, hsz, hP, hK, hD0, hZ⟩ := hv
  have hx := B.exec
  have hb := B.bytes
  have hr := B.returns
  have hts := atoms_spec (ws := wsX6_isColumn) B.pre
  have hown : s.vm.findClass RX6 = some m.cls := findClass_of_methodNamed B.named
  have hlocks := B.notSynchronized
  subst hsz
  have hD := hD0.self (sz := s.heap.size)
  generalize hAe : va_A (wM G ad nw ps er us un od li st lm hs) s.heap.size = A at hD hZ ⊢
  have hA : ∀ q : Nat, s.heap.size ≤ q → A q := fun q h => by rw [← hAe]; exact Or.inr h
  have hS : va_S A s.heap s.heap [] := va_S.rf
  have hl := lv_entry ([.ref (ad 0), .int a1]) (n := 2) (Nat.le_of_ble_eq_true rfl)
  rw [lg_entry_eq]
  generalize (lg_sl ([.ref (ad 0), .int a1]) ++ List.replicate (2 - (lg_sl ([.ref (ad 0), .int a1])).length) Slot.unset).toArray = ls at hl ⊢
  have hl : lv_has ls 2 [(0, .ref (ad 0)), (1, .int a1)] := hl
  unfold wp_X6_isColumn at h
  have hinX6 : ∀ w ∈ wsX60, w ∈ wsX6_isColumn := by decide +kernel
  refine lv_iload_n hx hb dX6_isColumn_0 rfl (lv_at hl 1 rfl) ?_
  refine lv_iconst (v := (0 : Int32)) hx hb dX6_isColumn_1 (by decide) ?_
  refine lv_aload_n hx hb dX6_isColumn_2 rfl (lv_at hl 0 rfl) ?_
  refine va_get (D := G.1) (ci := 6) (v := .ref (ad 1)) (C := RX6) (T := TX6) (N := 10) hx hb hts hinX6 hown hK.1 hP 0 rfl rfl 0 (by decide) (hts (.fieldLink RX6 7 "PlaFolderModel" "now" "[I") (by decide +kernel)) (fun _ h9 => h9) rfl dX6_isColumn_3 ?_
  refine lv_iconst (v := (0 : Int32)) hx hb dX6_isColumn_6 (by decide) ?_
  refine x_iald hx hb hK hP 1 rfl (vin_c (by decide)) (k := 0) (by decide) dX6_isColumn_7 ?_
  refine lv_iconst (v := (1 : Int32)) hx hb dX6_isColumn_8 (by decide) ?_
  refine lv_isub hx hb dX6_isColumn_9 ?_
  refine kc_i (wr := wM G ad nw ps er us un od li st lm hs) (va_runS (As := [.int a1, .int (0 : Int32), .int ((nw 0) - (1 : Int32))]) (rest := []) ⟨hx, hb, hml, hown, hts⟩ (c_X6_in l G  _  a1 (0 : Int32) ((nw 0) - (1 : Int32)) h) (va_cwS 3 hts gX6_isColumn_X6_in rfl rfl rfl (by decide +kernel) ⟨Nat.le_of_ble_eq_true rfl, Nat.le_of_ble_eq_true rfl⟩) (kpS hK hP hD hZ hS hA [] rfl (by decide)) rfl rfl hl.1 rfl (lv_room (Nat.le_of_ble_eq_true rfl)) dX6_isColumn_10 ⟨Nat.zero_le _, Nat.zero_le _⟩) hP hD hS hA [] [0, 1, 2, 3, 4, 5, 6, 7] rfl rfl (by decide) (by decide) (fun r1 w6 H locs h hP hD hS => ?_)
  have hP : va_P G.1 vwCl (wM G ad nw ps er us un od li st lm hs) H := hP
  have hD : va_D A (wM G ad nw ps er us un od li st lm hs) := hD
  try dsimp only at h
  refine lv_if_ne (tgt := 36) hx hb dX6_isColumn_13 (by decide) (fun c_2 => ?_) (fun c_2 => ?_)
  · have h := h.1 c_2
    refine lv_iconst (v := (1 : Int32)) hx hb dX6_isColumn_36 (by decide) ?_
    refine lv_goto (tgt := 41) hx hb dX6_isColumn_37 (by decide) ?_
    exact W.zret hx hb hr (by decide) (fun t ht hW => ⟨⟨_, (), rfl, h, by rw [ht]; exact hP, hD⟩, hS.F ht⟩) hS.2.2 dX6_isColumn_41
  · have h := h.2 c_2
    refine lv_iload_n hx hb dX6_isColumn_16 rfl (lv_at hl 1 rfl) ?_
    refine lv_bipush (v := (6 : Int32)) hx hb dX6_isColumn_17 (by decide) ?_
    refine lv_bipush (v := (6 : Int32)) hx hb dX6_isColumn_19 (by decide) ?_
    refine lv_aload_n hx hb dX6_isColumn_21 rfl (lv_at hl 0 rfl) ?_
    refine va_get (D := G.1) (ci := 6) (v := .ref (ad 1)) (C := RX6) (T := TX6) (N := 10) hx hb hts hinX6 hown hK.1 hP 0 rfl rfl 0 (by decide) (hts (.fieldLink RX6 7 "PlaFolderModel" "now" "[I") (by decide +kernel)) (fun _ h9 => h9) rfl dX6_isColumn_22 ?_
    refine lv_iconst (v := (1 : Int32)) hx hb dX6_isColumn_25 (by decide) ?_
    refine x_iald hx hb hK hP 1 rfl (vin_c (by decide)) (k := 1) (by decide) dX6_isColumn_26 ?_
    refine lv_iadd hx hb dX6_isColumn_27 ?_
    refine lv_iconst (v := (1 : Int32)) hx hb dX6_isColumn_28 (by decide) ?_
    refine lv_isub hx hb dX6_isColumn_29 ?_
    refine kc_i (wr := wM G ad nw ps er us un od li st lm hs) (va_runS (As := [.int a1, .int (6 : Int32), .int (((6 : Int32) + (nw 1)) - (1 : Int32))]) (rest := []) ⟨hx, hb, hml, hown, hts⟩ (c_X6_in l G  _  a1 (6 : Int32) (((6 : Int32) + (nw 1)) - (1 : Int32)) h) (va_cwS 3 hts gX6_isColumn_X6_in rfl rfl rfl (by decide +kernel) ⟨Nat.le_of_ble_eq_true rfl, Nat.le_of_ble_eq_true rfl⟩) (kpS hK hP hD hZ hS hA [] rfl (by decide)) rfl rfl hl.1 rfl (lv_room (Nat.le_of_ble_eq_true rfl)) dX6_isColumn_30 ⟨Nat.zero_le _, Nat.zero_le _⟩) hP hD hS hA [] [0, 1, 2, 3, 4, 5, 6, 7] rfl rfl (by decide) (by decide) (fun r3 w5 H locs h hP hD hS => ?_)
    have hP : va_P G.1 vwCl (wM G ad nw ps er us un od li st lm hs) H := hP
    have hD : va_D A (wM G ad nw ps er us un od li st lm hs) := hD
    try dsimp only at h
    refine lv_if_eq (tgt := 40) hx hb dX6_isColumn_33 (by decide) (fun c_4 => ?_) (fun c_4 => ?_)
    · have h := h.1 c_4
      refine lv_iconst (v := (0 : Int32)) hx hb dX6_isColumn_40 (by decide) ?_
      exact W.zret hx hb hr (by decide) (fun t ht hW => ⟨⟨_, (), rfl, h, by rw [ht]; exact hP, hD⟩, hS.F ht⟩) hS.2.2 dX6_isColumn_41
    · have h := h.2 c_4
      refine lv_iconst (v := (1 : Int32)) hx hb dX6_isColumn_36 (by decide) ?_
      refine lv_goto (tgt := 41) hx hb dX6_isColumn_37 (by decide) ?_
      exact W.zret hx hb hr (by decide) (fun t ht hW => ⟨⟨_, (), rfl, h, by rw [ht]; exact hP, hD⟩, hS.F ht⟩) hS.2.2 dX6_isColumn_41
def wp_X6_noFolds (nw : Nat → Int32) (K : (Nat → Int32) → Prop) : Prop :=
 (Lp2 (0 : Int32) nw (fun (x1 : Int32) (z2 : Nat → Int32) (J6 : Int32 → (Nat → Int32) → Prop) => (((10 : Int32) ≤ x1 → K z2) ∧
 (¬ ((10 : Int32) ≤ x1) → (vp_in ((33 : Int32) + x1) 53 ∧ (vp_in ((43 : Int32) + x1) 53 ∧ J6 (x1 + (1 : Int32)) (upd (upd z2 (((33 : Int32) + x1).toNatClampNeg) (-1 : Int32)) (((43 : Int32) + x1).toNatClampNeg) (-1 : Int32))))))))
abbrev rm_X6_noFolds : Room := { frames := 0, cells := 0, slots := 0, locals := 0 }
set_option maxHeartbeats 4000000 in
set_option maxRecDepth 100000 in
theorem c_X6_noFolds (l : Launch) (G : GG) (ad : Nat → Nat) (sz : Nat) (nw : Nat → Int32) (ps : Nat → Int32) (er : Nat → Int32) (us : Nat → Int32) (un : Nat → Int32) (od : Nat → Int32) (li : Nat → Int32) (st : Int32) (lm : Int32) (hs : Int64) {K : (Nat → Int32) → Prop} (h : wp_X6_noFolds nw K) : CV l yX6_noFolds wsX6_noFolds rm_X6_noFolds G [.ref (ad 0)] (wM G ad nw ps er us un od li st lm hs) sz (fun u : (Nat → Int32) => wM G ad u ps er us un od li st lm hs) (fun u => K u) := by
  refine Met.ofW (cc := cX6_noFolds) (maxL := 2) (ret := none) (by decide) rfl ?_
  intro p e s m args below meth c s₁ B hml hv
  obtain ⟨rfl, hsz, hP, hK, hD0, hZ⟩ := hv
  have hx := B.exec
  have hb := B.bytes
  have hr := B.returns
  have hts := atoms_spec (ws := wsX6_noFolds) B.pre
  have hown : s.vm.findClass RX6 = some m.cls := findClass_of_methodNamed B.named
  have hlocks := B.notSynchronized
  subst hsz
  have hD := hD0.self (sz := s.heap.size)
  generalize hAe : va_A (wM G ad nw ps er us un od li st lm hs) s.heap.size = A at hD hZ ⊢
  have hA : ∀ q : Nat, s.heap.size ≤ q → A q := fun q h => by rw [← hAe]; exact Or.inr h
  have hS : va_S A s.heap s.heap [] := va_S.rf
  have hl := lv_entry ([.ref (ad 0)]) (n := 2) (Nat.le_of_ble_eq_true rfl)
  rw [lg_entry_eq]
  generalize (lg_sl ([.ref (ad 0)]) ++ List.replicate (2 - (lg_sl ([.ref (ad 0)])).length) Slot.unset).toArray = ls at hl ⊢
  have hl : lv_has ls 2 [(0, .ref (ad 0))] := hl
  unfold wp_X6_noFolds at h
  have hinX6 : ∀ w ∈ wsX60, w ∈ wsX6_noFolds := by decide +kernel
  refine lv_iconst (v := (0 : Int32)) hx hb dX6_noFolds_0 (by decide) ?_
  refine lv_istore_n (lv' := [(1, .int (0 : Int32)), (0, .ref (ad 0))]) hx hb dX6_noFolds_1 rfl hl (by decide) rfl (fun ls hl => ?_)
  obtain ⟨I3, n4, h0, hst5⟩ := h
  refine loopW (σ := Int32 × (Nat → Int32)) (P := fun q H locs ls => va_P G.1 vwCl (wM G ad q.2 ps er us un od li st lm hs) H ∧ va_D A (wM G ad q.2 ps er us un od li st lm hs) ∧ va_S A s.heap H locs ∧ lv_has ls 2 [(0, .ref (ad 0)), (1, .int q.1)]) (I := fun n q => I3 n q.1 q.2) n4 ((0 : Int32), nw) h0 _ _ _ ⟨hP, hD, hS, lv_sub hl [1, 0] rfl⟩ ?_
  rintro n8 ⟨x1, z2⟩ hI ih7 H locs ls ⟨hP, hD, hS, hl⟩
  have hP : va_P G.1 vwCl (wM G ad z2 ps er us un od li st lm hs) H := hP
  have hD : va_D A (wM G ad z2 ps er us un od li st lm hs) := hD
  have hl : lv_has ls 2 [(0, .ref (ad 0)), (1, .int x1)] := hl
  have h := hst5 n8 x1 z2 hI
  refine lv_iload_n hx hb dX6_noFolds_2 rfl (lv_at hl 1 rfl) ?_
  refine lv_bipush (v := (10 : Int32)) hx hb dX6_noFolds_3 (by decide) ?_
  refine lv_icmp_ge (tgt := 34) hx hb dX6_noFolds_5 (by decide) (fun c_9 => ?_) (fun c_9 => ?_)
  · have h := h.1 c_9
    exact W.vret hx hb hr (fun t ht hW => ⟨⟨z2, rfl, h, by rw [ht]; exact hP, hD⟩, hS.F ht⟩) hS.2.2 dX6_noFolds_34
  · have h := h.2 c_9
    refine lv_aload_n hx hb dX6_noFolds_8 rfl (lv_at hl 0 rfl) ?_
    refine va_get (D := G.1) (ci := 6) (v := .ref (ad 1)) (C := RX6) (T := TX6) (N := 10) hx hb hts hinX6 hown hK.1 hP 0 rfl rfl 0 (by decide) (hts (.fieldLink RX6 7 "PlaFolderModel" "now" "[I") (by decide +kernel)) (fun _ h9 => h9) rfl dX6_noFolds_9 ?_
    refine lv_bipush (v := (33 : Int32)) hx hb dX6_noFolds_12 (by decide) ?_
    refine lv_iload_n hx hb dX6_noFolds_14 rfl (lv_at hl 1 rfl) ?_
    refine lv_iadd hx hb dX6_noFolds_15 ?_
    refine lv_iconst (v := (-1 : Int32)) hx hb dX6_noFolds_16 (by decide) ?_
    obtain ⟨hi10, h⟩ := h
    refine x_iast hx hb hK hP hD hS 1 rfl hi10 rfl dX6_noFolds_17 (fun H locs hP hD hS => ?_)
    have hP : va_P G.1 vwCl (wM G ad (upd z2 (((33 : Int32) + x1).toNatClampNeg) (-1 : Int32)) ps er us un od li st lm hs) H := hP
    have hD : va_D A (wM G ad (upd z2 (((33 : Int32) + x1).toNatClampNeg) (-1 : Int32)) ps er us un od li st lm hs) := hD
    refine lv_aload_n hx hb dX6_noFolds_18 rfl (lv_at hl 0 rfl) ?_
    refine va_get (D := G.1) (ci := 6) (v := .ref (ad 1)) (C := RX6) (T := TX6) (N := 10) hx hb hts hinX6 hown hK.1 hP 0 rfl rfl 0 (by decide) (hts (.fieldLink RX6 7 "PlaFolderModel" "now" "[I") (by decide +kernel)) (fun _ h9 => h9) rfl dX6_noFolds_19 ?_
    refine lv_bipush (v := (43 : Int32)) hx hb dX6_noFolds_22 (by decide) ?_
    refine lv_iload_n hx hb dX6_noFolds_24 rfl (lv_at hl 1 rfl) ?_
    refine lv_iadd hx hb dX6_noFolds_25 ?_
    refine lv_iconst (v := (-1 : Int32)) hx hb dX6_noFolds_26 (by decide) ?_
    obtain ⟨hi11, h⟩ := h
    refine x_iast hx hb hK hP hD hS 1 rfl hi11 rfl dX6_noFolds_27 (fun H locs hP hD hS => ?_)
    have hP : va_P G.1 vwCl (wM G ad (upd (upd z2 (((33 : Int32) + x1).toNatClampNeg) (-1 : Int32)) (((43 : Int32) + x1).toNatClampNeg) (-1 : Int32)) ps er us un od li st lm hs) H := hP
    have hD : va_D A (wM G ad (upd (upd z2 (((33 : Int32) + x1).toNatClampNeg) (-1 : Int32)) (((43 : Int32) + x1).toNatClampNeg) (-1 : Int32)) ps er us un od li st lm hs) := hD
    refine lv_iinc (v := (x1 + (1 : Int32))) (lv' := [(1, .int (x1 + (1 : Int32))), (0, .ref (ad 0))]) hx hb dX6_noFolds_28 hl (k := 1) rfl rfl (by decide) rfl (fun ls hl => ?_)
    refine lv_goto (tgt := 2) hx hb dX6_noFolds_31 (by decide) ?_
    obtain ⟨n13, hn12, hI14⟩ := h
    exact ih7 n13 ((x1 + (1 : Int32)), (upd (upd z2 (((33 : Int32) + x1).toNatClampNeg) (-1 : Int32)) (((43 : Int32) + x1).toNatClampNeg) (-1 : Int32))) hn12 hI14 _ _ _ ⟨hP, hD, hS, lv_sub hl [1, 0] rfl⟩
def wp_X6_save (nw : Nat → Int32) (ps : Nat → Int32) (st : Int32) (K : (Nat → Int32) → Int32 → Prop) : Prop :=
 (Jn2 (fun (z2 : Nat → Int32) (z3 : Int32) => (Lp2 (0 : Int32) z2 (fun (x6 : Int32) (z7 : Nat → Int32) (J11 : Int32 → (Nat → Int32) → Prop) => (((53 : Int32) ≤ x6 → K z7 (z3 + (1 : Int32))) ∧
 (¬ ((53 : Int32) ≤ x6) → (vp_in x6 53 ∧ (vp_in (((53 : Int32) * z3) + x6) 265 ∧ J11 (x6 + (1 : Int32)) (upd z7 ((((53 : Int32) * z3) + x6).toNatClampNeg) (nw x6.toNatClampNeg)))))))))
 (fun (J4 : (Nat → Int32) → Int32 → Prop) => ((¬ st = (5 : Int32) → J4 ps st) ∧
 (st = (5 : Int32) → (Lp2 (0 : Int32) ps (fun (x20 : Int32) (z21 : Nat → Int32) (J25 : Int32 → (Nat → Int32) → Prop) => (((212 : Int32) ≤ x20 → J4 z21 (st - (1 : Int32))) ∧
 (¬ ((212 : Int32) ≤ x20) → (vp_in (x20 + (53 : Int32)) 265 ∧ (vp_in x20 265 ∧ J25 (x20 + (1 : Int32)) (upd z21 x20.toNatClampNeg (z21 (x20 + (53 : Int32)).toNatClampNeg))))))))))))
abbrev rm_X6_save : Room := { frames := 0, cells := 0, slots := 0, locals := 0 }
set_option maxHeartbeats 4000000 in
set_option maxRecDepth 100000 in
theorem c_X6_save (l : Launch) (G : GG) (ad : Nat → Nat) (sz : Nat) (nw : Nat → Int32) (ps : Nat → Int32) (er : Nat → Int32) (us : Nat → Int32) (un : Nat → Int32) (od : Nat → Int32) (li : Nat → Int32) (st : Int32) (lm : Int32) (hs : Int64) {K : (Nat → Int32) → Int32 → Prop} (h : wp_X6_save nw ps st K) : CV l yX6_save wsX6_save rm_X6_save G [.ref (ad 0)] (wM G ad nw ps er us un od li st lm hs) sz (fun u : (Nat → Int32) × Int32 => wM G ad nw u.1 er us un od li u.2 lm hs) (fun u => K u.1 u.2) := by
  refine Met.ofW (cc := cX6_save) (maxL := 2) (ret := none) (by decide) rfl ?_
  intro p e s m args below meth c s₁ B hml hv
  obtain ⟨rfl, hsz, hP, hK, hD0, hZ⟩ := hv
  have hx := B.exec
  have hb := B.bytes
  have hr := B.returns
  have hts := atoms_spec (ws := wsX6_save) B.pre
  have hown : s.vm.findClass RX6 = some m.cls := findClass_of_methodNamed B.named
  have hlocks := B.notSynchronized
  subst hsz
  have hD := hD0.self (sz := s.heap.size)
  generalize hAe : va_A (wM G ad nw ps er us un od li st lm hs) s.heap.size = A at hD hZ ⊢
  have hA : ∀ q : Nat, s.heap.size ≤ q → A q := fun q h => by rw [← hAe]; exact Or.inr h
  have hS : va_S A s.heap s.heap [] := va_S.rf
  have hl := lv_entry ([.ref (ad 0)]) (n := 2) (Nat.le_of_ble_eq_true rfl)
  rw [lg_entry_eq]
  generalize (lg_sl ([.ref (ad 0)]) ++ List.replicate (2 - (lg_sl ([.ref (ad 0)])).length) Slot.unset).toArray = ls at hl ⊢
  have hl : lv_has ls 2 [(0, .ref (ad 0))] := hl
  unfold wp_X6_save at h
  have hinX6 : ∀ w ∈ wsX60, w ∈ wsX6_save := by decide +kernel
  refine lv_aload_n hx hb dX6_save_0 rfl (lv_at hl 0 rfl) ?_
  refine va_get (D := G.1) (ci := 6) (v := .int st) (C := RX6) (T := TX6) (N := 10) hx hb hts hinX6 hown hK.1 hP 0 rfl rfl 2 (by decide) (hts (.fieldLink RX6 38 "PlaFolderModel" "states" "I") (by decide +kernel)) (fun _ h9 => h9) rfl dX6_save_1 ?_
  refine lv_iconst (v := (5 : Int32)) hx hb dX6_save_4 (by decide) ?_
  obtain ⟨J4, hJ34, h⟩ := h
  refine joinW (σ := (Nat → Int32) × Int32) (J := fun q => J4 q.1 q.2) (pc := 48) (st := fun q => []) (P := fun q H locs ls => va_P G.1 vwCl (wM G ad nw q.1 er us un od li q.2 lm hs) H ∧ va_D A (wM G ad nw q.1 er us un od li q.2 lm hs) ∧ va_S A s.heap H locs ∧ lv_has ls 2 [(0, .ref (ad 0))]) ?_ (fun join5 => ?_)
  · rintro ⟨z2, z3⟩ h H locs ls ⟨hP, hD, hS, hl⟩
    have hP : va_P G.1 vwCl (wM G ad nw z2 er us un od li z3 lm hs) H := hP
    have hD : va_D A (wM G ad nw z2 er us un od li z3 lm hs) := hD
    have hl : lv_has ls 2 [(0, .ref (ad 0))] := hl
    have h := hJ34 z2 z3 h
    refine W.eq (g2 := F0 m 48 ls ([])) rfl ?_
    refine lv_iconst (v := (0 : Int32)) hx hb dX6_save_48 (by decide) ?_
    refine lv_istore_n (lv' := [(1, .int (0 : Int32)), (0, .ref (ad 0))]) hx hb dX6_save_49 rfl hl (by decide) rfl (fun ls hl => ?_)
    obtain ⟨I8, n9, h0, hst10⟩ := h
    refine loopW (σ := Int32 × (Nat → Int32)) (P := fun q H locs ls => va_P G.1 vwCl (wM G ad nw q.2 er us un od li z3 lm hs) H ∧ va_D A (wM G ad nw q.2 er us un od li z3 lm hs) ∧ va_S A s.heap H locs ∧ lv_has ls 2 [(0, .ref (ad 0)), (1, .int q.1)]) (I := fun n q => I8 n q.1 q.2) n9 ((0 : Int32), z2) h0 _ _ _ ⟨hP, hD, hS, lv_sub hl [1, 0] rfl⟩ ?_
    rintro n13 ⟨x6, z7⟩ hI ih12 H locs ls ⟨hP, hD, hS, hl⟩
    have hP : va_P G.1 vwCl (wM G ad nw z7 er us un od li z3 lm hs) H := hP
    have hD : va_D A (wM G ad nw z7 er us un od li z3 lm hs) := hD
    have hl : lv_has ls 2 [(0, .ref (ad 0)), (1, .int x6)] := hl
    have h := hst10 n13 x6 z7 hI
    refine lv_iload_n hx hb dX6_save_50 rfl (lv_at hl 1 rfl) ?_
    refine lv_bipush (v := (53 : Int32)) hx hb dX6_save_51 (by decide) ?_
    refine lv_icmp_ge (tgt := 82) hx hb dX6_save_53 (by decide) (fun c_14 => ?_) (fun c_14 => ?_)
    · have h := h.1 c_14
      refine lv_aload_n hx hb dX6_save_82 rfl (lv_at hl 0 rfl) ?_
      refine lv_dup hx hb dX6_save_83 rfl ?_
      refine va_get (D := G.1) (ci := 6) (v := .int z3) (C := RX6) (T := TX6) (N := 10) hx hb hts hinX6 hown hK.1 hP 0 rfl rfl 2 (by decide) (hts (.fieldLink RX6 38 "PlaFolderModel" "states" "I") (by decide +kernel)) (fun _ h9 => h9) rfl dX6_save_84 ?_
      refine lv_iconst (v := (1 : Int32)) hx hb dX6_save_87 (by decide) ?_
      refine lv_iadd hx hb dX6_save_88 ?_
      refine va_put (D := G.1) (ci := 6) (v := .int (z3 + (1 : Int32))) (ty := .int) (C := RX6) (T := TX6) (N := 10) hx hb hts hinX6 tyX6 tyX6_ok nmX6 hown hK.1 hP hD hS 0 rfl rfl 2 (by decide) (hts (.fieldLink RX6 38 "PlaFolderModel" "states" "I") (by decide +kernel)) (fun _ h9 => h9) rfl (by decide +kernel) rfl rfl (Nat.le_of_ble_eq_true rfl) dX6_save_89 (fun H locs hP hD hS => ?_)
      have hP : va_P G.1 vwCl (wM G ad nw z7 er us un od li (z3 + (1 : Int32)) lm hs) H := hP
      have hD : va_D A (wM G ad nw z7 er us un od li (z3 + (1 : Int32)) lm hs) := hD
      exact W.vret hx hb hr (fun t ht hW => ⟨⟨(z7, (z3 + (1 : Int32))), rfl, h, by rw [ht]; exact hP, hD⟩, hS.F ht⟩) hS.2.2 dX6_save_92
    · have h := h.2 c_14
      refine lv_aload_n hx hb dX6_save_56 rfl (lv_at hl 0 rfl) ?_
      refine va_get (D := G.1) (ci := 6) (v := .ref (ad 2)) (C := RX6) (T := TX6) (N := 10) hx hb hts hinX6 hown hK.1 hP 0 rfl rfl 1 (by decide) (hts (.fieldLink RX6 13 "PlaFolderModel" "past" "[I") (by decide +kernel)) (fun _ h9 => h9) rfl dX6_save_57 ?_
      refine lv_bipush (v := (53 : Int32)) hx hb dX6_save_60 (by decide) ?_
      refine lv_aload_n hx hb dX6_save_62 rfl (lv_at hl 0 rfl) ?_
      refine va_get (D := G.1) (ci := 6) (v := .int z3) (C := RX6) (T := TX6) (N := 10) hx hb hts hinX6 hown hK.1 hP 0 rfl rfl 2 (by decide) (hts (.fieldLink RX6 38 "PlaFolderModel" "states" "I") (by decide +kernel)) (fun _ h9 => h9) rfl dX6_save_63 ?_
      refine lv_imul hx hb dX6_save_66 ?_
      refine lv_iload_n hx hb dX6_save_67 rfl (lv_at hl 1 rfl) ?_
      refine lv_iadd hx hb dX6_save_68 ?_
      refine lv_aload_n hx hb dX6_save_69 rfl (lv_at hl 0 rfl) ?_
      refine va_get (D := G.1) (ci := 6) (v := .ref (ad 1)) (C := RX6) (T := TX6) (N := 10) hx hb hts hinX6 hown hK.1 hP 0 rfl rfl 0 (by decide) (hts (.fieldLink RX6 7 "PlaFolderModel" "now" "[I") (by decide +kernel)) (fun _ h9 => h9) rfl dX6_save_70 ?_
      refine lv_iload_n hx hb dX6_save_73 rfl (lv_at hl 1 rfl) ?_
      obtain ⟨hi15, h⟩ := h
      refine x_iald hx hb hK hP 1 rfl hi15 rfl dX6_save_74 ?_
      obtain ⟨hi16, h⟩ := h
      refine x_iast hx hb hK hP hD hS 2 rfl hi16 rfl dX6_save_75 (fun H locs hP hD hS => ?_)
      have hP : va_P G.1 vwCl (wM G ad nw (upd z7 ((((53 : Int32) * z3) + x6).toNatClampNeg) (nw x6.toNatClampNeg)) er us un od li z3 lm hs) H := hP
      have hD : va_D A (wM G ad nw (upd z7 ((((53 : Int32) * z3) + x6).toNatClampNeg) (nw x6.toNatClampNeg)) er us un od li z3 lm hs) := hD
      refine lv_iinc (v := (x6 + (1 : Int32))) (lv' := [(1, .int (x6 + (1 : Int32))), (0, .ref (ad 0))]) hx hb dX6_save_76 hl (k := 1) rfl rfl (by decide) rfl (fun ls hl => ?_)
      refine lv_goto (tgt := 50) hx hb dX6_save_79 (by decide) ?_
      obtain ⟨n18, hn17, hI19⟩ := h
      exact ih12 n18 ((x6 + (1 : Int32)), (upd z7 ((((53 : Int32) * z3) + x6).toNatClampNeg) (nw x6.toNatClampNeg))) hn17 hI19 _ _ _ ⟨hP, hD, hS, lv_sub hl [1, 0] rfl⟩
  · refine lv_icmp_ne (tgt := 48) hx hb dX6_save_5 (by decide) (fun c_1 => ?_) (fun c_1 => ?_)
    · have h := h.1 c_1
      exact join5 (ps, st) h _ _ _ ⟨hP, hD, hS, lv_sub hl [0] rfl⟩
    · have h := h.2 c_1
      refine lv_iconst (v := (0 : Int32)) hx hb dX6_save_8 (by decide) ?_
      refine lv_istore_n (lv' := [(1, .int (0 : Int32)), (0, .ref (ad 0))]) hx hb dX6_save_9 rfl hl (by decide) rfl (fun ls hl => ?_)
      obtain ⟨I22, n23, h0, hst24⟩ := h
      refine loopW (σ := Int32 × (Nat → Int32)) (P := fun q H locs ls => va_P G.1 vwCl (wM G ad nw q.2 er us un od li st lm hs) H ∧ va_D A (wM G ad nw q.2 er us un od li st lm hs) ∧ va_S A s.heap H locs ∧ lv_has ls 2 [(0, .ref (ad 0)), (1, .int q.1)]) (I := fun n q => I22 n q.1 q.2) n23 ((0 : Int32), ps) h0 _ _ _ ⟨hP, hD, hS, lv_sub hl [1, 0] rfl⟩ ?_
      rintro n27 ⟨x20, z21⟩ hI ih26 H locs ls ⟨hP, hD, hS, hl⟩
      have hP : va_P G.1 vwCl (wM G ad nw z21 er us un od li st lm hs) H := hP
      have hD : va_D A (wM G ad nw z21 er us un od li st lm hs) := hD
      have hl : lv_has ls 2 [(0, .ref (ad 0)), (1, .int x20)] := hl
      have h := hst24 n27 x20 z21 hI
      refine lv_iload_n hx hb dX6_save_10 rfl (lv_at hl 1 rfl) ?_
      refine lv_sipush (v := (212 : Int32)) hx hb dX6_save_11 (by decide) ?_
      refine lv_icmp_ge (tgt := 38) hx hb dX6_save_14 (by decide) (fun c_28 => ?_) (fun c_28 => ?_)
      · have h := h.1 c_28
        refine lv_aload_n hx hb dX6_save_38 rfl (lv_at hl 0 rfl) ?_
        refine lv_dup hx hb dX6_save_39 rfl ?_
        refine va_get (D := G.1) (ci := 6) (v := .int st) (C := RX6) (T := TX6) (N := 10) hx hb hts hinX6 hown hK.1 hP 0 rfl rfl 2 (by decide) (hts (.fieldLink RX6 38 "PlaFolderModel" "states" "I") (by decide +kernel)) (fun _ h9 => h9) rfl dX6_save_40 ?_
        refine lv_iconst (v := (1 : Int32)) hx hb dX6_save_43 (by decide) ?_
        refine lv_isub hx hb dX6_save_44 ?_
        refine va_put (D := G.1) (ci := 6) (v := .int (st - (1 : Int32))) (ty := .int) (C := RX6) (T := TX6) (N := 10) hx hb hts hinX6 tyX6 tyX6_ok nmX6 hown hK.1 hP hD hS 0 rfl rfl 2 (by decide) (hts (.fieldLink RX6 38 "PlaFolderModel" "states" "I") (by decide +kernel)) (fun _ h9 => h9) rfl (by decide +kernel) rfl rfl (Nat.le_of_ble_eq_true rfl) dX6_save_45 (fun H locs hP hD hS => ?_)
        have hP : va_P G.1 vwCl (wM G ad nw z21 er us un od li (st - (1 : Int32)) lm hs) H := hP
        have hD : va_D A (wM G ad nw z21 er us un od li (st - (1 : Int32)) lm hs) := hD
        exact join5 (z21, (st - (1 : Int32))) h _ _ _ ⟨hP, hD, hS, lv_sub hl [0] rfl⟩
      · have h := h.2 c_28
        refine lv_aload_n hx hb dX6_save_17 rfl (lv_at hl 0 rfl) ?_
        refine va_get (D := G.1) (ci := 6) (v := .ref (ad 2)) (C := RX6) (T := TX6) (N := 10) hx hb hts hinX6 hown hK.1 hP 0 rfl rfl 1 (by decide) (hts (.fieldLink RX6 13 "PlaFolderModel" "past" "[I") (by decide +kernel)) (fun _ h9 => h9) rfl dX6_save_18 ?_
        refine lv_iload_n hx hb dX6_save_21 rfl (lv_at hl 1 rfl) ?_
        refine lv_aload_n hx hb dX6_save_22 rfl (lv_at hl 0 rfl) ?_
        refine va_get (D := G.1) (ci := 6) (v := .ref (ad 2)) (C := RX6) (T := TX6) (N := 10) hx hb hts hinX6 hown hK.1 hP 0 rfl rfl 1 (by decide) (hts (.fieldLink RX6 13 "PlaFolderModel" "past" "[I") (by decide +kernel)) (fun _ h9 => h9) rfl dX6_save_23 ?_
        refine lv_iload_n hx hb dX6_save_26 rfl (lv_at hl 1 rfl) ?_
        refine lv_bipush (v := (53 : Int32)) hx hb dX6_save_27 (by decide) ?_
        refine lv_iadd hx hb dX6_save_29 ?_
        obtain ⟨hi29, h⟩ := h
        refine x_iald hx hb hK hP 2 rfl hi29 rfl dX6_save_30 ?_
        obtain ⟨hi30, h⟩ := h
        refine x_iast hx hb hK hP hD hS 2 rfl hi30 rfl dX6_save_31 (fun H locs hP hD hS => ?_)
        have hP : va_P G.1 vwCl (wM G ad nw (upd z21 x20.toNatClampNeg (z21 (x20 + (53 : Int32)).toNatClampNeg)) er us un od li st lm hs) H := hP
        have hD : va_D A (wM G ad nw (upd z21 x20.toNatClampNeg (z21 (x20 + (53 : Int32)).toNatClampNeg)) er us un od li st lm hs) := hD
        refine lv_iinc (v := (x20 + (1 : Int32))) (lv' := [(1, .int (x20 + (1 : Int32))), (0, .ref (ad 0))]) hx hb dX6_save_32 hl (k := 1) rfl rfl (by decide) rfl (fun ls hl => ?_)
        refine lv_goto (tgt := 10) hx hb dX6_save_35 (by decide) ?_
        obtain ⟨n32, hn31, hI33⟩ := h
        exact ih26 n32 ((x20 + (1 : Int32)), (upd z21 x20.toNatClampNeg (z21 (x20 + (53 : Int32)).toNatClampNeg))) hn31 hI33 _ _ _ ⟨hP, hD, hS, lv_sub hl [1, 0] rfl⟩
end
