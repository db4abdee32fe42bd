/-! ===== BEGIN words of one list among another's, by their places ===== -/
theorem goodIn_r {big : List Cond} (ws : List Cond) (ps : List Nat) (hp : ws = ps.filterMap (fun i => big[i]?)) (h : ws.all goodWord = true) : GoodIn big ws := by
  intro w hw
  have h1 := List.all_eq_true.mp h w hw
  rw [hp] at hw
  obtain ⟨i, -, hi⟩ := List.mem_filterMap.mp hw
  have hm : w ∈ big := by first | exact List.mem_of_getElem? hi | exact List.getElem?_mem hi
  exact ⟨hm, good_of_word h1⟩
theorem goodIn_app {big a b : List Cond} (ha : GoodIn big a) (hb : GoodIn big b) : GoodIn big (a ++ b) := fun w h => (List.mem_append.mp h).elim (ha w) (hb w)
theorem goodIn_ca {big a b : List Cond} {c : Cond} (ha : GoodIn big (c :: a)) (hb : GoodIn big b) : GoodIn big (c :: (a ++ b)) := fun w h => (List.mem_cons.mp h).elim (fun e => ha w (List.mem_cons.mpr (Or.inl e))) (fun h => (List.mem_append.mp h).elim (fun h => ha w (List.mem_cons.mpr (Or.inr h))) (hb w))
theorem goodIn_sub {big ws : List Cond} (hm : ∀ w ∈ ws, w ∈ big) (h : ws.all goodWord = true) : GoodIn big ws := fun w hw => ⟨hm w hw, good_of_word (List.all_eq_true.mp h w hw)⟩
/-! ===== END ===== -/

/-! ===== BEGIN printed: names, fields, word lists, decode rows ===== -/
def RX0 : String := "PlaFolder$BestFolding"
def TX0 : u_T := fun k => match k with
  | 0 => ("PlaFolder$BestFolding", "known", "Z", false)
  | 1 => ("PlaFolder$BestFolding", "count", "I", false)
  | 2 => ("PlaFolder$BestFolding", "upper", "[I", true)
  | 3 => ("PlaFolder$BestFolding", "lower", "[I", true)
  | 4 => ("PlaFolder$BestFolding", "triedUpper", "[I", true)
  | 5 => ("PlaFolder$BestFolding", "triedLower", "[I", true)
  | 6 => ("PlaFolder$BestFolding", "used", "[I", true)
  | 7 => ("PlaFolder$BestFolding", "mates", "[I", true)
  | _ => ("PlaFolder$BestFolding", "demandsAt", "[LPlaFolder$Demands;", true)
def tyX0 : Nat → FieldType := fun k => match k with
  | 0 => .boolean
  | 1 => .int
  | 2 => .array .int
  | 3 => .array .int
  | 4 => .array .int
  | 5 => .array .int
  | 6 => .array .int
  | 7 => .array .int
  | _ => .array (.object "PlaFolder$Demands")
abbrev wsX00 : List Cond := u_ws RX0 TX0 9
theorem nmX0 : ∀ a, a < 9 → ∀ b, b < 9 → a ≠ b → (TX0 a).2.1 ≠ (TX0 b).2.1 := by decide +kernel
theorem tyX0_ok : ∀ k, k < 9 → parseFieldDescriptor (TX0 k).2.2.1 = some (tyX0 k) := by decide +kernel
abbrev cX0_init : ByteArray := prog_2_method_1_code
def yX0_init : MethodName := ⟨RX0, "<init>", "()V"⟩
abbrev cX0_search : ByteArray := prog_2_method_2_code
def yX0_search : MethodName := ⟨RX0, "search", "(LPlaFolder$State;)V"⟩
abbrev cX0_foldableColumns : ByteArray := prog_2_method_3_code
def yX0_foldableColumns : MethodName := ⟨RX0, "foldableColumns", "(LPlaFolder$State;)I"⟩
abbrev cX0_matesOf : ByteArray := prog_2_method_4_code
def yX0_matesOf : MethodName := ⟨RX0, "matesOf", "(LPlaFolder$State;I)I"⟩
abbrev cX0_extend : ByteArray := prog_2_method_5_code
def yX0_extend : MethodName := ⟨RX0, "extend", "(III)V"⟩
abbrev cX0_tryLowers : ByteArray := prog_2_method_6_code
def yX0_tryLowers : MethodName := ⟨RX0, "tryLowers", "(III)V"⟩
abbrev cX0_keep : ByteArray := prog_2_method_7_code
def yX0_keep : MethodName := ⟨RX0, "keep", "(I)V"⟩
abbrev cX0_mostFolds : ByteArray := prog_2_method_8_code
def yX0_mostFolds : MethodName := ⟨RX0, "mostFolds", "(II)I"⟩
abbrev cX0_mostOfKind : ByteArray := prog_2_method_9_code
def yX0_mostOfKind : MethodName := ⟨RX0, "mostOfKind", "(II)I"⟩
def RX1 : String := "PlaFolder$Demands"
def TX1 : u_T := fun k => match k with
  | _ => ("PlaFolder$Demands", "above", "[I", true)
def tyX1 : Nat → FieldType := fun k => match k with
  | _ => .array .int
abbrev wsX10 : List Cond := u_ws RX1 TX1 1
theorem nmX1 : ∀ a, a < 1 → ∀ b, b < 1 → a ≠ b → (TX1 a).2.1 ≠ (TX1 b).2.1 := by decide +kernel
theorem tyX1_ok : ∀ k, k < 1 → parseFieldDescriptor (TX1 k).2.2.1 = some (tyX1 k) := by decide +kernel
abbrev cX1_init : ByteArray := prog_3_method_1_code
def yX1_init : MethodName := ⟨RX1, "<init>", "()V"⟩
abbrev cX1_clear : ByteArray := prog_3_method_2_code
def yX1_clear : MethodName := ⟨RX1, "clear", "()V"⟩
abbrev cX1_copyFrom : ByteArray := prog_3_method_3_code
def yX1_copyFrom : MethodName := ⟨RX1, "copyFrom", "(LPlaFolder$Demands;)V"⟩
abbrev cX1_collect : ByteArray := prog_3_method_4_code
def yX1_collect : MethodName := ⟨RX1, "collect", "(LPlaFolder$State;)V"⟩
abbrev cX1_withAllAbove : ByteArray := prog_3_method_5_code
def yX1_withAllAbove : MethodName := ⟨RX1, "withAllAbove", "(I)I"⟩
abbrev cX1_allow : ByteArray := prog_3_method_6_code
def yX1_allow : MethodName := ⟨RX1, "allow", "(II)Z"⟩
abbrev cX1_add : ByteArray := prog_3_method_7_code
def yX1_add : MethodName := ⟨RX1, "add", "(II)V"⟩
def RX2 : String := "PlaFolder$History"
def TX2 : u_T := fun k => match k with
  | 0 => ("PlaFolder$History", "saved", "[LPlaFolder$State;", true)
  | _ => ("PlaFolder$History", "count", "I", false)
def tyX2 : Nat → FieldType := fun k => match k with
  | 0 => .array (.object "PlaFolder$State")
  | _ => .int
abbrev wsX20 : List Cond := u_ws RX2 TX2 2
theorem nmX2 : ∀ a, a < 2 → ∀ b, b < 2 → a ≠ b → (TX2 a).2.1 ≠ (TX2 b).2.1 := by decide +kernel
theorem tyX2_ok : ∀ k, k < 2 → parseFieldDescriptor (TX2 k).2.2.1 = some (tyX2 k) := by decide +kernel
abbrev cX2_init : ByteArray := prog_4_method_1_code
def yX2_init : MethodName := ⟨RX2, "<init>", "()V"⟩
abbrev cX2_push : ByteArray := prog_4_method_2_code
def yX2_push : MethodName := ⟨RX2, "push", "(LPlaFolder$State;)V"⟩
abbrev cX2_dropOldest : ByteArray := prog_4_method_3_code
def yX2_dropOldest : MethodName := ⟨RX2, "dropOldest", "()V"⟩
abbrev cX2_pop : ByteArray := prog_4_method_4_code
def yX2_pop : MethodName := ⟨RX2, "pop", "(LPlaFolder$State;)V"⟩
def RX3 : String := "PlaFolder$RowOrder"
def TX3 : u_T := fun k => match k with
  | 0 => ("PlaFolder$RowOrder", "termInRow", "[I", true)
  | _ => ("PlaFolder$RowOrder", "rowOfTerm", "[I", true)
def tyX3 : Nat → FieldType := fun k => match k with
  | 0 => .array .int
  | _ => .array .int
abbrev wsX30 : List Cond := u_ws RX3 TX3 2
theorem nmX3 : ∀ a, a < 2 → ∀ b, b < 2 → a ≠ b → (TX3 a).2.1 ≠ (TX3 b).2.1 := by decide +kernel
theorem tyX3_ok : ∀ k, k < 2 → parseFieldDescriptor (TX3 k).2.2.1 = some (tyX3 k) := by decide +kernel
abbrev cX3_init : ByteArray := prog_5_method_1_code
def yX3_init : MethodName := ⟨RX3, "<init>", "()V"⟩
abbrev cX3_build : ByteArray := prog_5_method_2_code
def yX3_build : MethodName := ⟨RX3, "build", "(LPlaFolder$Demands;I)V"⟩
abbrev cX3_nextTerm : ByteArray := prog_5_method_3_code
def yX3_nextTerm : MethodName := ⟨RX3, "nextTerm", "(LPlaFolder$Demands;II)I"⟩
abbrev cX3_spread : ByteArray := prog_5_method_4_code
def yX3_spread : MethodName := ⟨RX3, "spread", "(II)I"⟩
def RX4 : String := "PlaFolder$State"
def TX4 : u_T := fun k => match k with
  | 0 => ("PlaFolder$State", "inputs", "I", false)
  | 1 => ("PlaFolder$State", "outputs", "I", false)
  | 2 => ("PlaFolder$State", "termCount", "I", false)
  | 3 => ("PlaFolder$State", "foldCount", "I", false)
  | 4 => ("PlaFolder$State", "ones", "[I", true)
  | 5 => ("PlaFolder$State", "zeros", "[I", true)
  | 6 => ("PlaFolder$State", "outs", "[I", true)
  | 7 => ("PlaFolder$State", "words", "[J", true)
  | 8 => ("PlaFolder$State", "lowerOf", "[I", true)
  | _ => ("PlaFolder$State", "upperOf", "[I", true)
def tyX4 : Nat → FieldType := fun k => match k with
  | 0 => .int
  | 1 => .int
  | 2 => .int
  | 3 => .int
  | 4 => .array .int
  | 5 => .array .int
  | 6 => .array .int
  | 7 => .array .long
  | 8 => .array .int
  | _ => .array .int
abbrev wsX40 : List Cond := u_ws RX4 TX4 10
theorem nmX4 : ∀ a, a < 10 → ∀ b, b < 10 → a ≠ b → (TX4 a).2.1 ≠ (TX4 b).2.1 := by decide +kernel
theorem tyX4_ok : ∀ k, k < 10 → parseFieldDescriptor (TX4 k).2.2.1 = some (tyX4 k) := by decide +kernel
abbrev cX4_init : ByteArray := prog_6_method_1_code
def yX4_init : MethodName := ⟨RX4, "<init>", "()V"⟩
abbrev cX4_copyFrom : ByteArray := prog_6_method_2_code
def yX4_copyFrom : MethodName := ⟨RX4, "copyFrom", "(LPlaFolder$State;)V"⟩
abbrev cX4_resize : ByteArray := prog_6_method_3_code
def yX4_resize : MethodName := ⟨RX4, "resize", "(II)V"⟩
abbrev cX4_hasTerm : ByteArray := prog_6_method_4_code
def yX4_hasTerm : MethodName := ⟨RX4, "hasTerm", "(I)Z"⟩
abbrev cX4_hasColumn : ByteArray := prog_6_method_5_code
def yX4_hasColumn : MethodName := ⟨RX4, "hasColumn", "(I)Z"⟩
abbrev cX4_takesTerm : ByteArray := prog_6_method_6_code
def yX4_takesTerm : MethodName := ⟨RX4, "takesTerm", "(III)Z"⟩
abbrev cX4_appendTerm : ByteArray := prog_6_method_7_code
def yX4_appendTerm : MethodName := ⟨RX4, "appendTerm", "(III)V"⟩
abbrev cX4_wordsOfTerm : ByteArray := prog_6_method_8_code
def yX4_wordsOfTerm : MethodName := ⟨RX4, "wordsOfTerm", "(II)J"⟩
abbrev cX4_allWords : ByteArray := prog_6_method_9_code
def yX4_allWords : MethodName := ⟨RX4, "allWords", "()J"⟩
abbrev cX4_dropTerm : ByteArray := prog_6_method_10_code
def yX4_dropTerm : MethodName := ⟨RX4, "dropTerm", "(I)V"⟩
abbrev cX4_outputWord : ByteArray := prog_6_method_11_code
def yX4_outputWord : MethodName := ⟨RX4, "outputWord", "(I)I"⟩
abbrev cX4_wordsOfOutput : ByteArray := prog_6_method_12_code
def yX4_wordsOfOutput : MethodName := ⟨RX4, "wordsOfOutput", "(II)J"⟩
abbrev cX4_isSpare : ByteArray := prog_6_method_13_code
def yX4_isSpare : MethodName := ⟨RX4, "isSpare", "(I)Z"⟩
abbrev cX4_termsOfColumn : ByteArray := prog_6_method_14_code
def yX4_termsOfColumn : MethodName := ⟨RX4, "termsOfColumn", "(I)I"⟩
abbrev cX4_isPair : ByteArray := prog_6_method_15_code
def yX4_isPair : MethodName := ⟨RX4, "isPair", "(II)Z"⟩
abbrev cX4_mateOf : ByteArray := prog_6_method_16_code
def yX4_mateOf : MethodName := ⟨RX4, "mateOf", "(I)I"⟩
abbrev cX4_join : ByteArray := prog_6_method_17_code
def yX4_join : MethodName := ⟨RX4, "join", "(II)V"⟩
abbrev cX4_part : ByteArray := prog_6_method_18_code
def yX4_part : MethodName := ⟨RX4, "part", "(I)V"⟩
abbrev cX4_partAll : ByteArray := prog_6_method_19_code
def yX4_partAll : MethodName := ⟨RX4, "partAll", "()V"⟩
def RX5 : String := "PlaFolder"
def TX5 : u_T := fun k => match k with
  | 0 => ("PlaFolder", "state", "LPlaFolder$State;", true)
  | 1 => ("PlaFolder", "history", "LPlaFolder$History;", true)
  | 2 => ("PlaFolder", "demands", "LPlaFolder$Demands;", true)
  | 3 => ("PlaFolder", "rows", "LPlaFolder$RowOrder;", true)
  | 4 => ("PlaFolder", "best", "LPlaFolder$BestFolding;", true)
  | _ => ("PlaFolder", "errors", "[I", true)
def tyX5 : Nat → FieldType := fun k => match k with
  | 0 => .object "PlaFolder$State"
  | 1 => .object "PlaFolder$History"
  | 2 => .object "PlaFolder$Demands"
  | 3 => .object "PlaFolder$RowOrder"
  | 4 => .object "PlaFolder$BestFolding"
  | _ => .array .int
abbrev wsX50 : List Cond := u_ws RX5 TX5 6
theorem nmX5 : ∀ a, a < 6 → ∀ b, b < 6 → a ≠ b → (TX5 a).2.1 ≠ (TX5 b).2.1 := by decide +kernel
theorem tyX5_ok : ∀ k, k < 6 → parseFieldDescriptor (TX5 k).2.2.1 = some (tyX5 k) := by decide +kernel
abbrev cX5_init : ByteArray := prog_1_method_1_code
def yX5_init : MethodName := ⟨RX5, "<init>", "()V"⟩
abbrev cX5_setSize : ByteArray := prog_1_method_2_code
def yX5_setSize : MethodName := ⟨RX5, "setSize", "(II)I"⟩
abbrev cX5_addTerm : ByteArray := prog_1_method_3_code
def yX5_addTerm : MethodName := ⟨RX5, "addTerm", "(III)I"⟩
abbrev cX5_removeTerm : ByteArray := prog_1_method_4_code
def yX5_removeTerm : MethodName := ⟨RX5, "removeTerm", "(I)I"⟩
abbrev cX5_terms : ByteArray := prog_1_method_5_code
def yX5_terms : MethodName := ⟨RX5, "terms", "()I"⟩
abbrev cX5_literals : ByteArray := prog_1_method_6_code
def yX5_literals : MethodName := ⟨RX5, "literals", "(I)I"⟩
abbrev cX5_evaluate : ByteArray := prog_1_method_7_code
def yX5_evaluate : MethodName := ⟨RX5, "evaluate", "(I)I"⟩
abbrev cX5_onCount : ByteArray := prog_1_method_8_code
def yX5_onCount : MethodName := ⟨RX5, "onCount", "(I)I"⟩
abbrev cX5_isRedundant : ByteArray := prog_1_method_9_code
def yX5_isRedundant : MethodName := ⟨RX5, "isRedundant", "(I)I"⟩
abbrev cX5_removeRedundant : ByteArray := prog_1_method_10_code
def yX5_removeRedundant : MethodName := ⟨RX5, "removeRedundant", "()I"⟩
abbrev cX5_uses : ByteArray := prog_1_method_11_code
def yX5_uses : MethodName := ⟨RX5, "uses", "(I)I"⟩
abbrev cX5_canFold : ByteArray := prog_1_method_12_code
def yX5_canFold : MethodName := ⟨RX5, "canFold", "(II)I"⟩
abbrev cX5_fold : ByteArray := prog_1_method_13_code
def yX5_fold : MethodName := ⟨RX5, "fold", "(II)I"⟩
abbrev cX5_unfold : ByteArray := prog_1_method_14_code
def yX5_unfold : MethodName := ⟨RX5, "unfold", "(I)I"⟩
abbrev cX5_partner : ByteArray := prog_1_method_15_code
def yX5_partner : MethodName := ⟨RX5, "partner", "(I)I"⟩
abbrev cX5_folds : ByteArray := prog_1_method_16_code
def yX5_folds : MethodName := ⟨RX5, "folds", "()I"⟩
abbrev cX5_termAt : ByteArray := prog_1_method_17_code
def yX5_termAt : MethodName := ⟨RX5, "termAt", "(I)I"⟩
abbrev cX5_rowOf : ByteArray := prog_1_method_18_code
def yX5_rowOf : MethodName := ⟨RX5, "rowOf", "(I)I"⟩
abbrev cX5_mustPrecede : ByteArray := prog_1_method_19_code
def yX5_mustPrecede : MethodName := ⟨RX5, "mustPrecede", "(II)I"⟩
abbrev cX5_area : ByteArray := prog_1_method_20_code
def yX5_area : MethodName := ⟨RX5, "area", "()I"⟩
abbrev cX5_span : ByteArray := prog_1_method_21_code
def yX5_span : MethodName := ⟨RX5, "span", "(I)I"⟩
abbrev cX5_bestUpper : ByteArray := prog_1_method_22_code
def yX5_bestUpper : MethodName := ⟨RX5, "bestUpper", "(I)I"⟩
abbrev cX5_bestLower : ByteArray := prog_1_method_23_code
def yX5_bestLower : MethodName := ⟨RX5, "bestLower", "(I)I"⟩
abbrev cX5_foldBest : ByteArray := prog_1_method_24_code
def yX5_foldBest : MethodName := ⟨RX5, "foldBest", "()I"⟩
abbrev cX5_undo : ByteArray := prog_1_method_25_code
def yX5_undo : MethodName := ⟨RX5, "undo", "()I"⟩
abbrev cX5_errorCount : ByteArray := prog_1_method_26_code
def yX5_errorCount : MethodName := ⟨RX5, "errorCount", "(I)I"⟩
abbrev cX5_digest : ByteArray := prog_1_method_27_code
def yX5_digest : MethodName := ⟨RX5, "digest", "()J"⟩
abbrev cX5_mixTerms : ByteArray := prog_1_method_28_code
def yX5_mixTerms : MethodName := ⟨RX5, "mixTerms", "(J)J"⟩
abbrev cX5_mixColumns : ByteArray := prog_1_method_29_code
def yX5_mixColumns : MethodName := ⟨RX5, "mixColumns", "(J)J"⟩
abbrev cX5_mixBest : ByteArray := prog_1_method_30_code
def yX5_mixBest : MethodName := ⟨RX5, "mixBest", "(J)J"⟩
abbrev cX5_fail : ByteArray := prog_1_method_31_code
def yX5_fail : MethodName := ⟨RX5, "fail", "(I)I"⟩
abbrev cX5_termsChanged : ByteArray := prog_1_method_32_code
def yX5_termsChanged : MethodName := ⟨RX5, "termsChanged", "()V"⟩
abbrev cX5_foldsChanged : ByteArray := prog_1_method_33_code
def yX5_foldsChanged : MethodName := ⟨RX5, "foldsChanged", "()V"⟩
abbrev cX5_findBest : ByteArray := prog_1_method_34_code
def yX5_findBest : MethodName := ⟨RX5, "findBest", "()V"⟩
abbrev cX5_mix : ByteArray := prog_1_method_35_code
def yX5_mix : MethodName := ⟨RX5, "mix", "(JJ)J"⟩
abbrev cX5_flag : ByteArray := prog_1_method_36_code
def yX5_flag : MethodName := ⟨RX5, "flag", "(Z)I"⟩
abbrev cX5_contains : ByteArray := prog_1_method_37_code
def yX5_contains : MethodName := ⟨RX5, "contains", "(II)Z"⟩
def RX6 : String := "PlaFolderModel"
def TX6 : u_T := fun k => match k with
  | 0 => ("PlaFolderModel", "now", "[I", true)
  | 1 => ("PlaFolderModel", "past", "[I", true)
  | 2 => ("PlaFolderModel", "states", "I", false)
  | 3 => ("PlaFolderModel", "errors", "[I", true)
  | 4 => ("PlaFolderModel", "used", "[I", true)
  | 5 => ("PlaFolderModel", "under", "[I", true)
  | 6 => ("PlaFolderModel", "order", "[I", true)
  | 7 => ("PlaFolderModel", "list", "[I", true)
  | 8 => ("PlaFolderModel", "listMany", "I", false)
  | _ => ("PlaFolderModel", "hash", "J", false)
def tyX6 : Nat → FieldType := fun k => match k with
  | 0 => .array .int
  | 1 => .array .int
  | 2 => .int
  | 3 => .array .int
  | 4 => .array .int
  | 5 => .array .int
  | 6 => .array .int
  | 7 => .array .int
  | 8 => .int
  | _ => .long
abbrev wsX60 : List Cond := u_ws RX6 TX6 10
theorem nmX6 : ∀ a, a < 10 → ∀ b, b < 10 → a ≠ b → (TX6 a).2.1 ≠ (TX6 b).2.1 := by decide +kernel
theorem tyX6_ok : ∀ k, k < 10 → parseFieldDescriptor (TX6 k).2.2.1 = some (tyX6 k) := by decide +kernel
abbrev cX6_init : ByteArray := prog_8_method_1_code
def yX6_init : MethodName := ⟨RX6, "<init>", "()V"⟩
abbrev cX6_in : ByteArray := prog_8_method_3_code
def yX6_in : MethodName := ⟨RX6, "in", "(III)Z"⟩
abbrev cX6_has : ByteArray := prog_8_method_4_code
def yX6_has : MethodName := ⟨RX6, "has", "(II)Z"⟩
abbrev cX6_many : ByteArray := prog_8_method_5_code
def yX6_many : MethodName := ⟨RX6, "many", "(I)I"⟩
abbrev cX6_error : ByteArray := prog_8_method_6_code
def yX6_error : MethodName := ⟨RX6, "error", "(I)I"⟩
abbrev cX6_isTerm : ByteArray := prog_8_method_7_code
def yX6_isTerm : MethodName := ⟨RX6, "isTerm", "(I)Z"⟩
abbrev cX6_isColumn : ByteArray := prog_8_method_8_code
def yX6_isColumn : MethodName := ⟨RX6, "isColumn", "(I)Z"⟩
abbrev cX6_noFolds : ByteArray := prog_8_method_9_code
def yX6_noFolds : MethodName := ⟨RX6, "noFolds", "()V"⟩
abbrev cX6_save : ByteArray := prog_8_method_10_code
def yX6_save : MethodName := ⟨RX6, "save", "()V"⟩
abbrev cX6_undo : ByteArray := prog_8_method_11_code
def yX6_undo : MethodName := ⟨RX6, "undo", "()I"⟩
abbrev cX6_setSize : ByteArray := prog_8_method_12_code
def yX6_setSize : MethodName := ⟨RX6, "setSize", "(II)I"⟩
abbrev cX6_isSet : ByteArray := prog_8_method_13_code
def yX6_isSet : MethodName := ⟨RX6, "isSet", "(II)Z"⟩
abbrev cX6_addTerm : ByteArray := prog_8_method_14_code
def yX6_addTerm : MethodName := ⟨RX6, "addTerm", "(III)I"⟩
abbrev cX6_drop : ByteArray := prog_8_method_15_code
def yX6_drop : MethodName := ⟨RX6, "drop", "(I)V"⟩
abbrev cX6_removeTerm : ByteArray := prog_8_method_16_code
def yX6_removeTerm : MethodName := ⟨RX6, "removeTerm", "(I)I"⟩
abbrev cX6_terms : ByteArray := prog_8_method_17_code
def yX6_terms : MethodName := ⟨RX6, "terms", "()I"⟩
abbrev cX6_literals : ByteArray := prog_8_method_18_code
def yX6_literals : MethodName := ⟨RX6, "literals", "(I)I"⟩
abbrev cX6_outputs : ByteArray := prog_8_method_19_code
def yX6_outputs : MethodName := ⟨RX6, "outputs", "(II)I"⟩
abbrev cX6_words : ByteArray := prog_8_method_20_code
def yX6_words : MethodName := ⟨RX6, "words", "()I"⟩
abbrev cX6_evaluate : ByteArray := prog_8_method_21_code
def yX6_evaluate : MethodName := ⟨RX6, "evaluate", "(I)I"⟩
abbrev cX6_onCount : ByteArray := prog_8_method_22_code
def yX6_onCount : MethodName := ⟨RX6, "onCount", "(I)I"⟩
abbrev cX6_redundant : ByteArray := prog_8_method_23_code
def yX6_redundant : MethodName := ⟨RX6, "redundant", "(I)Z"⟩
abbrev cX6_isRedundant : ByteArray := prog_8_method_24_code
def yX6_isRedundant : MethodName := ⟨RX6, "isRedundant", "(I)I"⟩
abbrev cX6_removeRedundant : ByteArray := prog_8_method_25_code
def yX6_removeRedundant : MethodName := ⟨RX6, "removeRedundant", "()I"⟩
abbrev cX6_usedBy : ByteArray := prog_8_method_26_code
def yX6_usedBy : MethodName := ⟨RX6, "usedBy", "(I)I"⟩
abbrev cX6_layUsed : ByteArray := prog_8_method_27_code
def yX6_layUsed : MethodName := ⟨RX6, "layUsed", "()V"⟩
abbrev cX6_uses : ByteArray := prog_8_method_28_code
def yX6_uses : MethodName := ⟨RX6, "uses", "(I)I"⟩
abbrev cX6_fits : ByteArray := prog_8_method_29_code
def yX6_fits : MethodName := ⟨RX6, "fits", "(II)Z"⟩
abbrev cX6_canFold : ByteArray := prog_8_method_30_code
def yX6_canFold : MethodName := ⟨RX6, "canFold", "(II)I"⟩
abbrev cX6_noDemands : ByteArray := prog_8_method_31_code
def yX6_noDemands : MethodName := ⟨RX6, "noDemands", "()V"⟩
abbrev cX6_demand : ByteArray := prog_8_method_32_code
def yX6_demand : MethodName := ⟨RX6, "demand", "(II)V"⟩
abbrev cX6_layDemands : ByteArray := prog_8_method_33_code
def yX6_layDemands : MethodName := ⟨RX6, "layDemands", "()V"⟩
abbrev cX6_layRows : ByteArray := prog_8_method_34_code
def yX6_layRows : MethodName := ⟨RX6, "layRows", "()Z"⟩
abbrev cX6_isFolded : ByteArray := prog_8_method_35_code
def yX6_isFolded : MethodName := ⟨RX6, "isFolded", "(I)Z"⟩
abbrev cX6_foldMany : ByteArray := prog_8_method_36_code
def yX6_foldMany : MethodName := ⟨RX6, "foldMany", "()I"⟩
abbrev cX6_fold : ByteArray := prog_8_method_37_code
def yX6_fold : MethodName := ⟨RX6, "fold", "(II)I"⟩
abbrev cX6_partnerOf : ByteArray := prog_8_method_38_code
def yX6_partnerOf : MethodName := ⟨RX6, "partnerOf", "(I)I"⟩
abbrev cX6_apart : ByteArray := prog_8_method_39_code
def yX6_apart : MethodName := ⟨RX6, "apart", "(I)V"⟩
abbrev cX6_unfold : ByteArray := prog_8_method_40_code
def yX6_unfold : MethodName := ⟨RX6, "unfold", "(I)I"⟩
abbrev cX6_partner : ByteArray := prog_8_method_41_code
def yX6_partner : MethodName := ⟨RX6, "partner", "(I)I"⟩
abbrev cX6_folds : ByteArray := prog_8_method_42_code
def yX6_folds : MethodName := ⟨RX6, "folds", "()I"⟩
abbrev cX6_lay : ByteArray := prog_8_method_43_code
def yX6_lay : MethodName := ⟨RX6, "lay", "()V"⟩
abbrev cX6_rowAt : ByteArray := prog_8_method_44_code
def yX6_rowAt : MethodName := ⟨RX6, "rowAt", "(I)I"⟩
abbrev cX6_termAt : ByteArray := prog_8_method_45_code
def yX6_termAt : MethodName := ⟨RX6, "termAt", "(I)I"⟩
abbrev cX6_rowOf : ByteArray := prog_8_method_46_code
def yX6_rowOf : MethodName := ⟨RX6, "rowOf", "(I)I"⟩
abbrev cX6_mustPrecede : ByteArray := prog_8_method_47_code
def yX6_mustPrecede : MethodName := ⟨RX6, "mustPrecede", "(II)I"⟩
abbrev cX6_areaNow : ByteArray := prog_8_method_48_code
def yX6_areaNow : MethodName := ⟨RX6, "areaNow", "()I"⟩
abbrev cX6_area : ByteArray := prog_8_method_49_code
def yX6_area : MethodName := ⟨RX6, "area", "()I"⟩
abbrev cX6_spanOf : ByteArray := prog_8_method_50_code
def yX6_spanOf : MethodName := ⟨RX6, "spanOf", "(I)I"⟩
abbrev cX6_span : ByteArray := prog_8_method_51_code
def yX6_span : MethodName := ⟨RX6, "span", "(I)I"⟩
abbrev cX6_mayStand : ByteArray := prog_8_method_52_code
def yX6_mayStand : MethodName := ⟨RX6, "mayStand", "(I)Z"⟩
abbrev cX6_findList : ByteArray := prog_8_method_53_code
def yX6_findList : MethodName := ⟨RX6, "findList", "(I)Z"⟩
abbrev cX6_findBest : ByteArray := prog_8_method_54_code
def yX6_findBest : MethodName := ⟨RX6, "findBest", "()V"⟩
abbrev cX6_bestUpper : ByteArray := prog_8_method_55_code
def yX6_bestUpper : MethodName := ⟨RX6, "bestUpper", "(I)I"⟩
abbrev cX6_bestLower : ByteArray := prog_8_method_56_code
def yX6_bestLower : MethodName := ⟨RX6, "bestLower", "(I)I"⟩
abbrev cX6_foldBest : ByteArray := prog_8_method_57_code
def yX6_foldBest : MethodName := ⟨RX6, "foldBest", "()I"⟩
abbrev cX6_errorCount : ByteArray := prog_8_method_58_code
def yX6_errorCount : MethodName := ⟨RX6, "errorCount", "(I)I"⟩
abbrev cX6_mix : ByteArray := prog_8_method_59_code
def yX6_mix : MethodName := ⟨RX6, "mix", "(J)V"⟩
abbrev cX6_mixTerms : ByteArray := prog_8_method_60_code
def yX6_mixTerms : MethodName := ⟨RX6, "mixTerms", "()V"⟩
abbrev cX6_digest : ByteArray := prog_8_method_61_code
def yX6_digest : MethodName := ⟨RX6, "digest", "()J"⟩
def RJ6 : String := "java/lang/Integer"
def TJ6 : u_T := fun k => match k with
  | _ => ("", "", "", false)
def tyJ6 : Nat → FieldType := fun k => match k with
  | _ => .int
abbrev wsJ60 : List Cond := u_ws RJ6 TJ6 0
theorem nmJ6 : ∀ a, a < 0 → ∀ b, b < 0 → a ≠ b → (TJ6 a).2.1 ≠ (TJ6 b).2.1 := by decide +kernel
theorem tyJ6_ok : ∀ k, k < 0 → parseFieldDescriptor (TJ6 k).2.2.1 = some (tyJ6 k) := by decide +kernel
abbrev cJ6_bitCount_0f7a4 : ByteArray := prog_9_method_49_code
def yJ6_bitCount_0f7a4 : MethodName := ⟨RJ6, "bitCount", "(I)I"⟩
def RJ13 : String := "java/lang/Long"
def TJ13 : u_T := fun k => match k with
  | _ => ("", "", "", false)
def tyJ13 : Nat → FieldType := fun k => match k with
  | _ => .int
abbrev wsJ130 : List Cond := u_ws RJ13 TJ13 0
theorem nmJ13 : ∀ a, a < 0 → ∀ b, b < 0 → a ≠ b → (TJ13 a).2.1 ≠ (TJ13 b).2.1 := by decide +kernel
theorem tyJ13_ok : ∀ k, k < 0 → parseFieldDescriptor (TJ13 k).2.2.1 = some (tyJ13 k) := by decide +kernel
abbrev cJ13_bitCount_95d88 : ByteArray := prog_10_method_50_code
def yJ13_bitCount_95d88 : MethodName := ⟨RJ13, "bitCount", "(J)I"⟩
def RJ9 : String := "java/lang/Math"
def TJ9 : u_T := fun k => match k with
  | _ => ("", "", "", false)
def tyJ9 : Nat → FieldType := fun k => match k with
  | _ => .int
abbrev wsJ90 : List Cond := u_ws RJ9 TJ9 0
theorem nmJ9 : ∀ a, a < 0 → ∀ b, b < 0 → a ≠ b → (TJ9 a).2.1 ≠ (TJ9 b).2.1 := by decide +kernel
theorem tyJ9_ok : ∀ k, k < 0 → parseFieldDescriptor (TJ9 k).2.2.1 = some (tyJ9 k) := by decide +kernel
abbrev cJ9_max_7cf53 : ByteArray := prog_11_method_65_code
def yJ9_max_7cf53 : MethodName := ⟨RJ9, "max", "(II)I"⟩
abbrev cJ9_min_7cf53 : ByteArray := prog_11_method_69_code
def yJ9_min_7cf53 : MethodName := ⟨RJ9, "min", "(II)I"⟩
def RJ10 : String := "java/lang/System"
def TJ10 : u_T := fun k => match k with
  | _ => ("", "", "", false)
def tyJ10 : Nat → FieldType := fun k => match k with
  | _ => .int
abbrev wsJ100 : List Cond := u_ws RJ10 TJ10 0
theorem nmJ10 : ∀ a, a < 0 → ∀ b, b < 0 → a ≠ b → (TJ10 a).2.1 ≠ (TJ10 b).2.1 := by decide +kernel
theorem tyJ10_ok : ∀ k, k < 0 → parseFieldDescriptor (TJ10 k).2.2.1 = some (tyJ10 k) := by decide +kernel
def RJ7 : String := "java/util/Arrays"
def TJ7 : u_T := fun k => match k with
  | _ => ("", "", "", false)
def tyJ7 : Nat → FieldType := fun k => match k with
  | _ => .int
abbrev wsJ70 : List Cond := u_ws RJ7 TJ7 0
theorem nmJ7 : ∀ a, a < 0 → ∀ b, b < 0 → a ≠ b → (TJ7 a).2.1 ≠ (TJ7 b).2.1 := by decide +kernel
theorem tyJ7_ok : ∀ k, k < 0 → parseFieldDescriptor (TJ7 k).2.2.1 = some (tyJ7 k) := by decide +kernel
abbrev cJ7_fill_53178 : ByteArray := prog_13_method_103_code
def yJ7_fill_53178 : MethodName := ⟨RJ7, "fill", "([II)V"⟩
def RL : String := "PlaFolderLaw"
abbrev cL_law : ByteArray := code
def yL_law : MethodName := ⟨RL, "law", "([I)Z"⟩
def wsX1_init : List Cond := .code yX1_init cX1_init 1 none :: ([.methodLink RX1 3 objectInit, .instanceMethod objectInit, .code objectInit ⟨#[0xb1]⟩ 1 none, .arrayClass .int, .fieldLink RX1 9 "PlaFolder$Demands" "above" "[I"] ++ wsX10)
def wsX0_init : List Cond := .code yX0_init cX0_init 2 none :: ([.methodLink RX0 3 objectInit, .instanceMethod objectInit, .code objectInit ⟨#[0xb1]⟩ 1 none, .fieldLink RX0 9 "PlaFolder$BestFolding" "known" "Z", .fieldLink RX0 15 "PlaFolder$BestFolding" "count" "I", .arrayClass .int, .fieldLink RX0 19 "PlaFolder$BestFolding" "upper" "[I", .fieldLink RX0 23 "PlaFolder$BestFolding" "lower" "[I", .fieldLink RX0 26 "PlaFolder$BestFolding" "triedUpper" "[I", .fieldLink RX0 29 "PlaFolder$BestFolding" "triedLower" "[I", .fieldLink RX0 32 "PlaFolder$BestFolding" "used" "[I", .fieldLink RX0 35 "PlaFolder$BestFolding" "mates" "[I", .classLink RX0 38 RX1, .fieldLink RX0 40 "PlaFolder$BestFolding" "demandsAt" "[LPlaFolder$Demands;", .instantiable RX1 1, .initialized RX1, .instanceMethod yX1_init, .code yX1_init cX1_init 1 none, .methodLink RX1 3 objectInit, .fieldLink RX1 9 "PlaFolder$Demands" "above" "[I"] ++ wsX00 ++ wsX10)
def wsX5_contains : List Cond := .code yX5_contains cX5_contains 2 (some .boolean) :: ([])
def wsX4_termsOfColumn : List Cond := .code yX4_termsOfColumn cX4_termsOfColumn 5 (some .int) :: ([.fieldLink RX4 18 "PlaFolder$State" "termCount" "I", .fieldLink RX4 24 "PlaFolder$State" "ones" "[I", .fieldLink RX4 28 "PlaFolder$State" "zeros" "[I", .fieldLink RX4 31 "PlaFolder$State" "outs" "[I", .static yX5_contains, .initialized RX5, .code yX5_contains cX5_contains 2 (some .boolean)] ++ wsX40)
def wsX4_hasColumn : List Cond := .code yX4_hasColumn cX4_hasColumn 2 (some .boolean) :: ([.fieldLink RX4 9 "PlaFolder$State" "inputs" "I", .fieldLink RX4 15 "PlaFolder$State" "outputs" "I"] ++ wsX40)
def wsX4_isPair : List Cond := .code yX4_isPair cX4_isPair 4 (some .boolean) :: ([.methodLink RX4 79 yX4_termsOfColumn, .instanceMethod yX4_termsOfColumn, .selects RX4 yX4_termsOfColumn yX4_termsOfColumn, .initialized RX4, .code yX4_termsOfColumn cX4_termsOfColumn 5 (some .int), .fieldLink RX4 18 "PlaFolder$State" "termCount" "I", .fieldLink RX4 24 "PlaFolder$State" "ones" "[I", .fieldLink RX4 28 "PlaFolder$State" "zeros" "[I", .fieldLink RX4 31 "PlaFolder$State" "outs" "[I", .static yX5_contains, .initialized RX5, .code yX5_contains cX5_contains 2 (some .boolean)] ++ wsX40)
def wsX0_matesOf : List Cond := .code yX0_matesOf cX0_matesOf 4 (some .int) :: ([.instanceMethod yX4_hasColumn, .initialized RX4, .selects RX4 yX4_hasColumn yX4_hasColumn, .code yX4_hasColumn cX4_hasColumn 2 (some .boolean), .fieldLink RX4 9 "PlaFolder$State" "inputs" "I", .fieldLink RX4 15 "PlaFolder$State" "outputs" "I", .instanceMethod yX4_isPair, .selects RX4 yX4_isPair yX4_isPair, .code yX4_isPair cX4_isPair 4 (some .boolean), .methodLink RX4 79 yX4_termsOfColumn, .instanceMethod yX4_termsOfColumn, .selects RX4 yX4_termsOfColumn yX4_termsOfColumn, .code yX4_termsOfColumn cX4_termsOfColumn 5 (some .int), .fieldLink RX4 18 "PlaFolder$State" "termCount" "I", .fieldLink RX4 24 "PlaFolder$State" "ones" "[I", .fieldLink RX4 28 "PlaFolder$State" "zeros" "[I", .fieldLink RX4 31 "PlaFolder$State" "outs" "[I", .static yX5_contains, .initialized RX5, .code yX5_contains cX5_contains 2 (some .boolean)] ++ wsX40)
def wsX0_foldableColumns_r1 : List Cond := [Cond.fieldLink RX0 32 "PlaFolder$BestFolding" "used" "[I", Cond.fieldLink RX0 35 "PlaFolder$BestFolding" "mates" "[I", Cond.instanceMethod yX4_termsOfColumn, Cond.initialized RX4, Cond.selects RX4 yX4_termsOfColumn yX4_termsOfColumn, Cond.code yX4_termsOfColumn cX4_termsOfColumn 5 (some .int), Cond.fieldLink RX4 18 "PlaFolder$State" "termCount" "I", Cond.fieldLink RX4 24 "PlaFolder$State" "ones" "[I", Cond.fieldLink RX4 28 "PlaFolder$State" "zeros" "[I", Cond.fieldLink RX4 31 "PlaFolder$State" "outs" "[I", Cond.static yX5_contains, Cond.initialized RX5, Cond.code yX5_contains cX5_contains 2 (some .boolean), Cond.methodLink RX0 59 yX0_matesOf, Cond.static yX0_matesOf, Cond.initialized RX0, Cond.code yX0_matesOf cX0_matesOf 4 (some .int), Cond.instanceMethod yX4_hasColumn, Cond.selects RX4 yX4_hasColumn yX4_hasColumn, Cond.code yX4_hasColumn cX4_hasColumn 2 (some .boolean), Cond.fieldLink RX4 9 "PlaFolder$State" "inputs" "I", Cond.fieldLink RX4 15 "PlaFolder$State" "outputs" "I", Cond.instanceMethod yX4_isPair, Cond.selects RX4 yX4_isPair yX4_isPair]
def wsX0_foldableColumns_r2 : List Cond := [Cond.code yX4_isPair cX4_isPair 4 (some .boolean), Cond.methodLink RX4 79 yX4_termsOfColumn]
def wsX0_foldableColumns : List Cond := .code yX0_foldableColumns cX0_foldableColumns 4 (some .int) :: ((wsX0_foldableColumns_r1 ++ wsX0_foldableColumns_r2) ++ wsX00 ++ wsX40)
def wsX0_keep : List Cond := .code yX0_keep cX0_keep 2 none :: ([.fieldLink RX0 15 "PlaFolder$BestFolding" "count" "I", .fieldLink RX0 26 "PlaFolder$BestFolding" "triedUpper" "[I", .fieldLink RX0 19 "PlaFolder$BestFolding" "upper" "[I", .methodLink RX0 96 arraycopyName, .native arraycopyName, .static arraycopyName, .initialized "java/lang/System", .fieldLink RX0 29 "PlaFolder$BestFolding" "triedLower" "[I", .fieldLink RX0 23 "PlaFolder$BestFolding" "lower" "[I"] ++ wsX00)
def wsJ6_bitCount_0f7a4 : List Cond := .code yJ6_bitCount_0f7a4 cJ6_bitCount_0f7a4 1 (some .int) :: ([.constant RJ6 265 (1431655765), .constant RJ6 266 (858993459), .constant RJ6 267 (252645135)])
def wsX0_mostOfKind : List Cond := .code yX0_mostOfKind cX0_mostOfKind 3 (some .int) :: ([.methodLink RX0 110 Lib.Math.min.name, .static Lib.Math.min.name, .initialized "java/lang/Math", .code Lib.Math.min.name Lib.Math.min.code 2 (some .int), .methodLink RX0 105 yJ6_bitCount_0f7a4, .static yJ6_bitCount_0f7a4, .initialized RJ6, .code yJ6_bitCount_0f7a4 cJ6_bitCount_0f7a4 1 (some .int), .constant RJ6 265 (1431655765), .constant RJ6 266 (858993459), .constant RJ6 267 (252645135)])
def wsX0_mostFolds : List Cond := .code yX0_mostFolds cX0_mostFolds 2 (some .int) :: ([.methodLink RX0 102 yX0_mostOfKind, .static yX0_mostOfKind, .initialized RX0, .code yX0_mostOfKind cX0_mostOfKind 3 (some .int), .methodLink RX0 110 Lib.Math.min.name, .static Lib.Math.min.name, .initialized "java/lang/Math", .code Lib.Math.min.name Lib.Math.min.code 2 (some .int), .methodLink RX0 105 yJ6_bitCount_0f7a4, .static yJ6_bitCount_0f7a4, .initialized RJ6, .code yJ6_bitCount_0f7a4 cJ6_bitCount_0f7a4 1 (some .int), .constant RJ6 265 (1431655765), .constant RJ6 266 (858993459), .constant RJ6 267 (252645135)])
def wsX1_withAllAbove : List Cond := .code yX1_withAllAbove cX1_withAllAbove 4 (some .int) :: ([.fieldLink RX1 9 "PlaFolder$Demands" "above" "[I", .static yX5_contains, .initialized RX5, .code yX5_contains cX5_contains 2 (some .boolean)] ++ wsX10)
def wsX1_allow : List Cond := .code yX1_allow cX1_allow 3 (some .boolean) :: ([.methodLink RX1 47 yX1_withAllAbove, .instanceMethod yX1_withAllAbove, .selects RX1 yX1_withAllAbove yX1_withAllAbove, .initialized RX1, .code yX1_withAllAbove cX1_withAllAbove 4 (some .int), .fieldLink RX1 9 "PlaFolder$Demands" "above" "[I", .static yX5_contains, .initialized RX5, .code yX5_contains cX5_contains 2 (some .boolean)] ++ wsX10)
def wsX1_copyFrom : List Cond := .code yX1_copyFrom cX1_copyFrom 2 none :: ([.fieldLink RX1 9 "PlaFolder$Demands" "above" "[I", .methodLink RX1 21 arraycopyName, .native arraycopyName, .static arraycopyName, .initialized "java/lang/System"] ++ wsX10)
def wsX1_add : List Cond := .code yX1_add cX1_add 5 none :: ([.fieldLink RX1 9 "PlaFolder$Demands" "above" "[I", .methodLink RX1 47 yX1_withAllAbove, .instanceMethod yX1_withAllAbove, .selects RX1 yX1_withAllAbove yX1_withAllAbove, .initialized RX1, .code yX1_withAllAbove cX1_withAllAbove 4 (some .int), .static yX5_contains, .initialized RX5, .code yX5_contains cX5_contains 2 (some .boolean)] ++ wsX10)
def wsX0_extend_r1 : List Cond := [Cond.fieldLink RX0 15 "PlaFolder$BestFolding" "count" "I", Cond.methodLink RX0 71 yX0_keep, Cond.instanceMethod yX0_keep, Cond.selects RX0 yX0_keep yX0_keep, Cond.initialized RX0, Cond.code yX0_keep cX0_keep 2 none, Cond.fieldLink RX0 26 "PlaFolder$BestFolding" "triedUpper" "[I", Cond.fieldLink RX0 19 "PlaFolder$BestFolding" "upper" "[I", Cond.methodLink RX0 96 arraycopyName, Cond.native arraycopyName, Cond.static arraycopyName, Cond.initialized "java/lang/System", Cond.fieldLink RX0 29 "PlaFolder$BestFolding" "triedLower" "[I", Cond.fieldLink RX0 23 "PlaFolder$BestFolding" "lower" "[I", Cond.methodLink RX0 75 yX0_mostFolds, Cond.static yX0_mostFolds, Cond.code yX0_mostFolds cX0_mostFolds 2 (some .int), Cond.methodLink RX0 102 yX0_mostOfKind, Cond.static yX0_mostOfKind, Cond.code yX0_mostOfKind cX0_mostOfKind 3 (some .int), Cond.methodLink RX0 110 Lib.Math.min.name, Cond.static Lib.Math.min.name, Cond.initialized "java/lang/Math", Cond.code Lib.Math.min.name Lib.Math.min.code 2 (some .int)]
def wsX0_extend_r2 : List Cond := [Cond.methodLink RX0 105 yJ6_bitCount_0f7a4, Cond.static yJ6_bitCount_0f7a4, Cond.initialized RJ6, Cond.code yJ6_bitCount_0f7a4 cJ6_bitCount_0f7a4 1 (some .int), Cond.constant RJ6 265 (1431655765), Cond.constant RJ6 266 (858993459), Cond.constant RJ6 267 (252645135), Cond.static yX5_contains, Cond.initialized RX5, Cond.code yX5_contains cX5_contains 2 (some .boolean), Cond.methodLink RX0 82 yX0_tryLowers, Cond.instanceMethod yX0_tryLowers, Cond.selects RX0 yX0_tryLowers yX0_tryLowers, Cond.code yX0_tryLowers cX0_tryLowers 6 none, Cond.fieldLink RX0 35 "PlaFolder$BestFolding" "mates" "[I", Cond.fieldLink RX0 40 "PlaFolder$BestFolding" "demandsAt" "[LPlaFolder$Demands;", Cond.fieldLink RX0 32 "PlaFolder$BestFolding" "used" "[I", Cond.instanceMethod yX1_allow, Cond.initialized RX1, Cond.selects RX1 yX1_allow yX1_allow, Cond.code yX1_allow cX1_allow 3 (some .boolean), Cond.methodLink RX1 47 yX1_withAllAbove, Cond.instanceMethod yX1_withAllAbove, Cond.selects RX1 yX1_withAllAbove yX1_withAllAbove]
def wsX0_extend_r3 : List Cond := [Cond.code yX1_withAllAbove cX1_withAllAbove 4 (some .int), Cond.fieldLink RX1 9 "PlaFolder$Demands" "above" "[I", Cond.instanceMethod yX1_copyFrom, Cond.selects RX1 yX1_copyFrom yX1_copyFrom, Cond.code yX1_copyFrom cX1_copyFrom 2 none, Cond.methodLink RX1 21 arraycopyName, Cond.instanceMethod yX1_add, Cond.selects RX1 yX1_add yX1_add, Cond.code yX1_add cX1_add 5 none, Cond.methodLink RX0 49 yX0_extend, Cond.instanceMethod yX0_extend, Cond.selects RX0 yX0_extend yX0_extend]
def wsX0_extend : List Cond := .code yX0_extend cX0_extend 5 none :: ((wsX0_extend_r1 ++ (wsX0_extend_r2 ++ wsX0_extend_r3)) ++ wsX00 ++ wsX10)
def wsX0_tryLowers_r1 : List Cond := [Cond.fieldLink RX0 35 "PlaFolder$BestFolding" "mates" "[I", Cond.fieldLink RX0 40 "PlaFolder$BestFolding" "demandsAt" "[LPlaFolder$Demands;", Cond.fieldLink RX0 32 "PlaFolder$BestFolding" "used" "[I", Cond.fieldLink RX0 26 "PlaFolder$BestFolding" "triedUpper" "[I", Cond.fieldLink RX0 29 "PlaFolder$BestFolding" "triedLower" "[I", Cond.static yX5_contains, Cond.initialized RX5, Cond.code yX5_contains cX5_contains 2 (some .boolean), Cond.instanceMethod yX1_allow, Cond.initialized RX1, Cond.selects RX1 yX1_allow yX1_allow, Cond.code yX1_allow cX1_allow 3 (some .boolean), Cond.methodLink RX1 47 yX1_withAllAbove, Cond.instanceMethod yX1_withAllAbove, Cond.selects RX1 yX1_withAllAbove yX1_withAllAbove, Cond.code yX1_withAllAbove cX1_withAllAbove 4 (some .int), Cond.fieldLink RX1 9 "PlaFolder$Demands" "above" "[I", Cond.instanceMethod yX1_copyFrom, Cond.selects RX1 yX1_copyFrom yX1_copyFrom, Cond.code yX1_copyFrom cX1_copyFrom 2 none, Cond.methodLink RX1 21 arraycopyName, Cond.native arraycopyName, Cond.static arraycopyName, Cond.initialized "java/lang/System"]
def wsX0_tryLowers_r2 : List Cond := [Cond.instanceMethod yX1_add, Cond.selects RX1 yX1_add yX1_add, Cond.code yX1_add cX1_add 5 none, Cond.methodLink RX0 49 yX0_extend, Cond.instanceMethod yX0_extend, Cond.selects RX0 yX0_extend yX0_extend, Cond.initialized RX0, Cond.code yX0_extend cX0_extend 5 none, Cond.fieldLink RX0 15 "PlaFolder$BestFolding" "count" "I", Cond.methodLink RX0 71 yX0_keep, Cond.instanceMethod yX0_keep, Cond.selects RX0 yX0_keep yX0_keep, Cond.code yX0_keep cX0_keep 2 none, Cond.fieldLink RX0 19 "PlaFolder$BestFolding" "upper" "[I", Cond.methodLink RX0 96 arraycopyName, Cond.fieldLink RX0 23 "PlaFolder$BestFolding" "lower" "[I", Cond.methodLink RX0 75 yX0_mostFolds, Cond.static yX0_mostFolds, Cond.code yX0_mostFolds cX0_mostFolds 2 (some .int), Cond.methodLink RX0 102 yX0_mostOfKind, Cond.static yX0_mostOfKind, Cond.code yX0_mostOfKind cX0_mostOfKind 3 (some .int), Cond.methodLink RX0 110 Lib.Math.min.name, Cond.static Lib.Math.min.name]
def wsX0_tryLowers_r3 : List Cond := [Cond.initialized "java/lang/Math", Cond.code Lib.Math.min.name Lib.Math.min.code 2 (some .int), Cond.methodLink RX0 105 yJ6_bitCount_0f7a4, Cond.static yJ6_bitCount_0f7a4, Cond.initialized RJ6, Cond.code yJ6_bitCount_0f7a4 cJ6_bitCount_0f7a4 1 (some .int), Cond.constant RJ6 265 (1431655765), Cond.constant RJ6 266 (858993459), Cond.constant RJ6 267 (252645135), Cond.methodLink RX0 82 yX0_tryLowers, Cond.instanceMethod yX0_tryLowers, Cond.selects RX0 yX0_tryLowers yX0_tryLowers]
def wsX0_tryLowers : List Cond := .code yX0_tryLowers cX0_tryLowers 6 none :: ((wsX0_tryLowers_r1 ++ (wsX0_tryLowers_r2 ++ wsX0_tryLowers_r3)) ++ wsX00 ++ wsX10)
def wsX0_search_r1 : List Cond := [Cond.fieldLink RX0 15 "PlaFolder$BestFolding" "count" "I", Cond.fieldLink RX0 9 "PlaFolder$BestFolding" "known" "Z", Cond.methodLink RX0 45 yX0_foldableColumns, Cond.instanceMethod yX0_foldableColumns, Cond.selects RX0 yX0_foldableColumns yX0_foldableColumns, Cond.initialized RX0, Cond.code yX0_foldableColumns cX0_foldableColumns 4 (some .int), Cond.fieldLink RX0 32 "PlaFolder$BestFolding" "used" "[I", Cond.fieldLink RX0 35 "PlaFolder$BestFolding" "mates" "[I", Cond.instanceMethod yX4_termsOfColumn, Cond.initialized RX4, Cond.selects RX4 yX4_termsOfColumn yX4_termsOfColumn, Cond.code yX4_termsOfColumn cX4_termsOfColumn 5 (some .int), Cond.fieldLink RX4 18 "PlaFolder$State" "termCount" "I", Cond.fieldLink RX4 24 "PlaFolder$State" "ones" "[I", Cond.fieldLink RX4 28 "PlaFolder$State" "zeros" "[I", Cond.fieldLink RX4 31 "PlaFolder$State" "outs" "[I", Cond.static yX5_contains, Cond.initialized RX5, Cond.code yX5_contains cX5_contains 2 (some .boolean), Cond.methodLink RX0 59 yX0_matesOf, Cond.static yX0_matesOf, Cond.code yX0_matesOf cX0_matesOf 4 (some .int), Cond.instanceMethod yX4_hasColumn]
def wsX0_search_r2 : List Cond := [Cond.selects RX4 yX4_hasColumn yX4_hasColumn, Cond.code yX4_hasColumn cX4_hasColumn 2 (some .boolean), Cond.fieldLink RX4 9 "PlaFolder$State" "inputs" "I", Cond.fieldLink RX4 15 "PlaFolder$State" "outputs" "I", Cond.instanceMethod yX4_isPair, Cond.selects RX4 yX4_isPair yX4_isPair, Cond.code yX4_isPair cX4_isPair 4 (some .boolean), Cond.methodLink RX4 79 yX4_termsOfColumn, Cond.methodLink RX0 49 yX0_extend, Cond.instanceMethod yX0_extend, Cond.selects RX0 yX0_extend yX0_extend, Cond.code yX0_extend cX0_extend 5 none, Cond.methodLink RX0 71 yX0_keep, Cond.instanceMethod yX0_keep, Cond.selects RX0 yX0_keep yX0_keep, Cond.code yX0_keep cX0_keep 2 none, Cond.fieldLink RX0 26 "PlaFolder$BestFolding" "triedUpper" "[I", Cond.fieldLink RX0 19 "PlaFolder$BestFolding" "upper" "[I", Cond.methodLink RX0 96 arraycopyName, Cond.native arraycopyName, Cond.static arraycopyName, Cond.initialized "java/lang/System", Cond.fieldLink RX0 29 "PlaFolder$BestFolding" "triedLower" "[I", Cond.fieldLink RX0 23 "PlaFolder$BestFolding" "lower" "[I"]
def wsX0_search_r3 : List Cond := [Cond.methodLink RX0 75 yX0_mostFolds, Cond.static yX0_mostFolds, Cond.code yX0_mostFolds cX0_mostFolds 2 (some .int), Cond.methodLink RX0 102 yX0_mostOfKind, Cond.static yX0_mostOfKind, Cond.code yX0_mostOfKind cX0_mostOfKind 3 (some .int), Cond.methodLink RX0 110 Lib.Math.min.name, Cond.static Lib.Math.min.name, Cond.initialized "java/lang/Math", Cond.code Lib.Math.min.name Lib.Math.min.code 2 (some .int), Cond.methodLink RX0 105 yJ6_bitCount_0f7a4, Cond.static yJ6_bitCount_0f7a4, Cond.initialized RJ6, Cond.code yJ6_bitCount_0f7a4 cJ6_bitCount_0f7a4 1 (some .int), Cond.constant RJ6 265 (1431655765), Cond.constant RJ6 266 (858993459), Cond.constant RJ6 267 (252645135), Cond.methodLink RX0 82 yX0_tryLowers, Cond.instanceMethod yX0_tryLowers, Cond.selects RX0 yX0_tryLowers yX0_tryLowers, Cond.code yX0_tryLowers cX0_tryLowers 6 none, Cond.fieldLink RX0 40 "PlaFolder$BestFolding" "demandsAt" "[LPlaFolder$Demands;", Cond.instanceMethod yX1_allow, Cond.initialized RX1]
def wsX0_search_r4 : List Cond := [Cond.selects RX1 yX1_allow yX1_allow, Cond.code yX1_allow cX1_allow 3 (some .boolean), Cond.methodLink RX1 47 yX1_withAllAbove, Cond.instanceMethod yX1_withAllAbove, Cond.selects RX1 yX1_withAllAbove yX1_withAllAbove, Cond.code yX1_withAllAbove cX1_withAllAbove 4 (some .int), Cond.fieldLink RX1 9 "PlaFolder$Demands" "above" "[I", Cond.instanceMethod yX1_copyFrom, Cond.selects RX1 yX1_copyFrom yX1_copyFrom, Cond.code yX1_copyFrom cX1_copyFrom 2 none, Cond.methodLink RX1 21 arraycopyName, Cond.instanceMethod yX1_add, Cond.selects RX1 yX1_add yX1_add, Cond.code yX1_add cX1_add 5 none]
def wsX0_search : List Cond := .code yX0_search cX0_search 2 none :: ((wsX0_search_r1 ++ (wsX0_search_r2 ++ (wsX0_search_r3 ++ wsX0_search_r4))) ++ wsX00 ++ wsX40 ++ wsX10)
def wsJ7_fill_53178 : List Cond := .code yJ7_fill_53178 cJ7_fill_53178 4 none :: ([])
def wsX1_clear : List Cond := .code yX1_clear cX1_clear 1 none :: ([.fieldLink RX1 9 "PlaFolder$Demands" "above" "[I", .methodLink RX1 15 yJ7_fill_53178, .static yJ7_fill_53178, .initialized RJ7, .code yJ7_fill_53178 cJ7_fill_53178 4 none] ++ wsX10)
def wsX1_collect_r1 : List Cond := [Cond.methodLink RX1 27 yX1_clear, Cond.instanceMethod yX1_clear, Cond.selects RX1 yX1_clear yX1_clear, Cond.initialized RX1, Cond.code yX1_clear cX1_clear 1 none, Cond.fieldLink RX1 9 "PlaFolder$Demands" "above" "[I", Cond.methodLink RX1 15 yJ7_fill_53178, Cond.static yJ7_fill_53178, Cond.initialized RJ7, Cond.code yJ7_fill_53178 cJ7_fill_53178 4 none, Cond.instanceMethod yX4_termsOfColumn, Cond.initialized RX4, Cond.selects RX4 yX4_termsOfColumn yX4_termsOfColumn, Cond.code yX4_termsOfColumn cX4_termsOfColumn 5 (some .int), Cond.fieldLink RX4 18 "PlaFolder$State" "termCount" "I", Cond.fieldLink RX4 24 "PlaFolder$State" "ones" "[I", Cond.fieldLink RX4 28 "PlaFolder$State" "zeros" "[I", Cond.fieldLink RX4 31 "PlaFolder$State" "outs" "[I", Cond.static yX5_contains, Cond.initialized RX5, Cond.code yX5_contains cX5_contains 2 (some .boolean), Cond.methodLink RX1 39 yX1_add, Cond.instanceMethod yX1_add, Cond.selects RX1 yX1_add yX1_add]
def wsX1_collect_r2 : List Cond := [Cond.code yX1_add cX1_add 5 none, Cond.methodLink RX1 47 yX1_withAllAbove, Cond.instanceMethod yX1_withAllAbove, Cond.selects RX1 yX1_withAllAbove yX1_withAllAbove, Cond.code yX1_withAllAbove cX1_withAllAbove 4 (some .int)]
def wsX1_collect : List Cond := .code yX1_collect cX1_collect 4 none :: ((wsX1_collect_r1 ++ wsX1_collect_r2) ++ wsX40 ++ wsX10)
def wsX4_init : List Cond := .code yX4_init cX4_init 1 none :: ([.methodLink RX4 3 objectInit, .instanceMethod objectInit, .code objectInit ⟨#[0xb1]⟩ 1 none, .fieldLink RX4 9 "PlaFolder$State" "inputs" "I", .fieldLink RX4 15 "PlaFolder$State" "outputs" "I", .fieldLink RX4 18 "PlaFolder$State" "termCount" "I", .fieldLink RX4 21 "PlaFolder$State" "foldCount" "I", .arrayClass .int, .fieldLink RX4 24 "PlaFolder$State" "ones" "[I", .fieldLink RX4 28 "PlaFolder$State" "zeros" "[I", .fieldLink RX4 31 "PlaFolder$State" "outs" "[I", .arrayClass .long, .fieldLink RX4 34 "PlaFolder$State" "words" "[J", .fieldLink RX4 38 "PlaFolder$State" "lowerOf" "[I", .fieldLink RX4 41 "PlaFolder$State" "upperOf" "[I", .methodLink RX4 44 yJ7_fill_53178, .static yJ7_fill_53178, .initialized RJ7, .code yJ7_fill_53178 cJ7_fill_53178 4 none] ++ wsX40)
def wsX2_init_r1 : List Cond := [Cond.methodLink RX2 3 objectInit, Cond.instanceMethod objectInit, Cond.code objectInit ⟨#[0xb1]⟩ 1 none, Cond.classLink RX2 9 RX4, Cond.fieldLink RX2 11 "PlaFolder$History" "saved" "[LPlaFolder$State;", Cond.fieldLink RX2 17 "PlaFolder$History" "count" "I", Cond.instantiable RX4 10, Cond.initialized RX4, Cond.instanceMethod yX4_init, Cond.code yX4_init cX4_init 1 none, Cond.methodLink RX4 3 objectInit, Cond.fieldLink RX4 9 "PlaFolder$State" "inputs" "I", Cond.fieldLink RX4 15 "PlaFolder$State" "outputs" "I", Cond.fieldLink RX4 18 "PlaFolder$State" "termCount" "I", Cond.fieldLink RX4 21 "PlaFolder$State" "foldCount" "I", Cond.arrayClass .int, Cond.fieldLink RX4 24 "PlaFolder$State" "ones" "[I", Cond.fieldLink RX4 28 "PlaFolder$State" "zeros" "[I", Cond.fieldLink RX4 31 "PlaFolder$State" "outs" "[I", Cond.arrayClass .long, Cond.fieldLink RX4 34 "PlaFolder$State" "words" "[J", Cond.fieldLink RX4 38 "PlaFolder$State" "lowerOf" "[I", Cond.fieldLink RX4 41 "PlaFolder$State" "upperOf" "[I", Cond.methodLink RX4 44 yJ7_fill_53178]
def wsX2_init_r2 : List Cond := [Cond.static yJ7_fill_53178, Cond.initialized RJ7, Cond.code yJ7_fill_53178 cJ7_fill_53178 4 none]
def wsX2_init : List Cond := .code yX2_init cX2_init 2 none :: ((wsX2_init_r1 ++ wsX2_init_r2) ++ wsX20 ++ wsX40)
def wsX2_dropOldest : List Cond := .code yX2_dropOldest cX2_dropOldest 3 none :: ([.fieldLink RX2 11 "PlaFolder$History" "saved" "[LPlaFolder$State;", .fieldLink RX2 17 "PlaFolder$History" "count" "I"] ++ wsX20)
def wsX4_copyFrom : List Cond := .code yX4_copyFrom cX4_copyFrom 2 none :: ([.fieldLink RX4 9 "PlaFolder$State" "inputs" "I", .fieldLink RX4 15 "PlaFolder$State" "outputs" "I", .fieldLink RX4 18 "PlaFolder$State" "termCount" "I", .fieldLink RX4 21 "PlaFolder$State" "foldCount" "I", .fieldLink RX4 24 "PlaFolder$State" "ones" "[I", .methodLink RX4 50 arraycopyName, .native arraycopyName, .static arraycopyName, .initialized "java/lang/System", .fieldLink RX4 28 "PlaFolder$State" "zeros" "[I", .fieldLink RX4 31 "PlaFolder$State" "outs" "[I", .fieldLink RX4 34 "PlaFolder$State" "words" "[J", .fieldLink RX4 38 "PlaFolder$State" "lowerOf" "[I", .fieldLink RX4 41 "PlaFolder$State" "upperOf" "[I"] ++ wsX40)
def wsX2_push_r1 : List Cond := [Cond.fieldLink RX2 17 "PlaFolder$History" "count" "I", Cond.fieldLink RX2 11 "PlaFolder$History" "saved" "[LPlaFolder$State;", Cond.methodLink RX2 22 yX2_dropOldest, Cond.instanceMethod yX2_dropOldest, Cond.selects RX2 yX2_dropOldest yX2_dropOldest, Cond.initialized RX2, Cond.code yX2_dropOldest cX2_dropOldest 3 none, Cond.instanceMethod yX4_copyFrom, Cond.initialized RX4, Cond.selects RX4 yX4_copyFrom yX4_copyFrom, Cond.code yX4_copyFrom cX4_copyFrom 2 none, Cond.fieldLink RX4 9 "PlaFolder$State" "inputs" "I", Cond.fieldLink RX4 15 "PlaFolder$State" "outputs" "I", Cond.fieldLink RX4 18 "PlaFolder$State" "termCount" "I", Cond.fieldLink RX4 21 "PlaFolder$State" "foldCount" "I", Cond.fieldLink RX4 24 "PlaFolder$State" "ones" "[I", Cond.methodLink RX4 50 arraycopyName, Cond.native arraycopyName, Cond.static arraycopyName, Cond.initialized "java/lang/System", Cond.fieldLink RX4 28 "PlaFolder$State" "zeros" "[I", Cond.fieldLink RX4 31 "PlaFolder$State" "outs" "[I", Cond.fieldLink RX4 34 "PlaFolder$State" "words" "[J", Cond.fieldLink RX4 38 "PlaFolder$State" "lowerOf" "[I"]
def wsX2_push_r2 : List Cond := [Cond.fieldLink RX4 41 "PlaFolder$State" "upperOf" "[I"]
def wsX2_push : List Cond := .code yX2_push cX2_push 2 none :: ((wsX2_push_r1 ++ wsX2_push_r2) ++ wsX20 ++ wsX40)
def wsX2_pop : List Cond := .code yX2_pop cX2_pop 2 none :: ([.fieldLink RX2 17 "PlaFolder$History" "count" "I", .fieldLink RX2 11 "PlaFolder$History" "saved" "[LPlaFolder$State;", .instanceMethod yX4_copyFrom, .initialized RX4, .selects RX4 yX4_copyFrom yX4_copyFrom, .code yX4_copyFrom cX4_copyFrom 2 none, .fieldLink RX4 9 "PlaFolder$State" "inputs" "I", .fieldLink RX4 15 "PlaFolder$State" "outputs" "I", .fieldLink RX4 18 "PlaFolder$State" "termCount" "I", .fieldLink RX4 21 "PlaFolder$State" "foldCount" "I", .fieldLink RX4 24 "PlaFolder$State" "ones" "[I", .methodLink RX4 50 arraycopyName, .native arraycopyName, .static arraycopyName, .initialized "java/lang/System", .fieldLink RX4 28 "PlaFolder$State" "zeros" "[I", .fieldLink RX4 31 "PlaFolder$State" "outs" "[I", .fieldLink RX4 34 "PlaFolder$State" "words" "[J", .fieldLink RX4 38 "PlaFolder$State" "lowerOf" "[I", .fieldLink RX4 41 "PlaFolder$State" "upperOf" "[I"] ++ wsX20 ++ wsX40)
def wsX3_init : List Cond := .code yX3_init cX3_init 1 none :: ([.methodLink RX3 3 objectInit, .instanceMethod objectInit, .code objectInit ⟨#[0xb1]⟩ 1 none, .arrayClass .int, .fieldLink RX3 9 "PlaFolder$RowOrder" "termInRow" "[I", .fieldLink RX3 15 "PlaFolder$RowOrder" "rowOfTerm" "[I"] ++ wsX30)
def wsX3_nextTerm : List Cond := .code yX3_nextTerm cX3_nextTerm 4 (some .int) :: ([.static yX5_contains, .initialized RX5, .code yX5_contains cX5_contains 2 (some .boolean)] ++ wsX10)
def wsX3_build : List Cond := .code yX3_build cX3_build 6 none :: ([.fieldLink RX3 9 "PlaFolder$RowOrder" "termInRow" "[I", .fieldLink RX3 15 "PlaFolder$RowOrder" "rowOfTerm" "[I", .methodLink RX3 18 yX3_nextTerm, .static yX3_nextTerm, .initialized RX3, .code yX3_nextTerm cX3_nextTerm 4 (some .int), .static yX5_contains, .initialized RX5, .code yX5_contains cX5_contains 2 (some .boolean)] ++ wsX30 ++ wsX10)
def wsX3_spread : List Cond := .code yX3_spread cX3_spread 6 (some .int) :: ([.fieldLink RX3 15 "PlaFolder$RowOrder" "rowOfTerm" "[I", .methodLink RX3 31 Lib.Math.min.name, .static Lib.Math.min.name, .initialized "java/lang/Math", .code Lib.Math.min.name Lib.Math.min.code 2 (some .int), .methodLink RX3 37 Lib.Math.max.name, .static Lib.Math.max.name, .code Lib.Math.max.name Lib.Math.max.code 2 (some .int), .static yX5_contains, .initialized RX5, .code yX5_contains cX5_contains 2 (some .boolean)] ++ wsX30)
def wsX4_partAll : List Cond := .code yX4_partAll cX4_partAll 1 none :: ([.fieldLink RX4 38 "PlaFolder$State" "lowerOf" "[I", .fieldLink RX4 41 "PlaFolder$State" "upperOf" "[I", .fieldLink RX4 21 "PlaFolder$State" "foldCount" "I", .methodLink RX4 44 yJ7_fill_53178, .static yJ7_fill_53178, .initialized RJ7, .code yJ7_fill_53178 cJ7_fill_53178 4 none] ++ wsX40)
def wsX4_resize : List Cond := .code yX4_resize cX4_resize 3 none :: ([.fieldLink RX4 9 "PlaFolder$State" "inputs" "I", .fieldLink RX4 15 "PlaFolder$State" "outputs" "I", .fieldLink RX4 18 "PlaFolder$State" "termCount" "I", .methodLink RX4 56 yX4_partAll, .instanceMethod yX4_partAll, .selects RX4 yX4_partAll yX4_partAll, .initialized RX4, .code yX4_partAll cX4_partAll 1 none, .fieldLink RX4 38 "PlaFolder$State" "lowerOf" "[I", .fieldLink RX4 41 "PlaFolder$State" "upperOf" "[I", .fieldLink RX4 21 "PlaFolder$State" "foldCount" "I", .methodLink RX4 44 yJ7_fill_53178, .static yJ7_fill_53178, .initialized RJ7, .code yJ7_fill_53178 cJ7_fill_53178 4 none] ++ wsX40)
def wsX4_hasTerm : List Cond := .code yX4_hasTerm cX4_hasTerm 2 (some .boolean) :: ([.fieldLink RX4 18 "PlaFolder$State" "termCount" "I"] ++ wsX40)
def wsX4_takesTerm : List Cond := .code yX4_takesTerm cX4_takesTerm 6 (some .boolean) :: ([.fieldLink RX4 9 "PlaFolder$State" "inputs" "I", .fieldLink RX4 15 "PlaFolder$State" "outputs" "I"] ++ wsX40)
def wsX4_allWords : List Cond := .code yX4_allWords cX4_allWords 1 (some .long) :: ([.fieldLink RX4 9 "PlaFolder$State" "inputs" "I", .constantLong RX4 74 (-1)] ++ wsX40)
def wsX4_wordsOfTerm : List Cond := .code yX4_wordsOfTerm cX4_wordsOfTerm 6 (some .long) :: ([.fieldLink RX4 9 "PlaFolder$State" "inputs" "I", .constantLong RX4 74 (-1), .methodLink RX4 63 yX4_allWords, .instanceMethod yX4_allWords, .selects RX4 yX4_allWords yX4_allWords, .initialized RX4, .code yX4_allWords cX4_allWords 1 (some .long), .static yX5_contains, .initialized RX5, .code yX5_contains cX5_contains 2 (some .boolean)] ++ wsX40)
def wsX4_appendTerm_r1 : List Cond := [Cond.fieldLink RX4 18 "PlaFolder$State" "termCount" "I", Cond.fieldLink RX4 24 "PlaFolder$State" "ones" "[I", Cond.fieldLink RX4 28 "PlaFolder$State" "zeros" "[I", Cond.fieldLink RX4 31 "PlaFolder$State" "outs" "[I", Cond.fieldLink RX4 34 "PlaFolder$State" "words" "[J", Cond.methodLink RX4 59 yX4_wordsOfTerm, Cond.instanceMethod yX4_wordsOfTerm, Cond.selects RX4 yX4_wordsOfTerm yX4_wordsOfTerm, Cond.initialized RX4, Cond.code yX4_wordsOfTerm cX4_wordsOfTerm 6 (some .long), Cond.fieldLink RX4 9 "PlaFolder$State" "inputs" "I", Cond.constantLong RX4 74 (-1), Cond.methodLink RX4 63 yX4_allWords, Cond.instanceMethod yX4_allWords, Cond.selects RX4 yX4_allWords yX4_allWords, Cond.code yX4_allWords cX4_allWords 1 (some .long), Cond.static yX5_contains, Cond.initialized RX5, Cond.code yX5_contains cX5_contains 2 (some .boolean), Cond.methodLink RX4 56 yX4_partAll, Cond.instanceMethod yX4_partAll, Cond.selects RX4 yX4_partAll yX4_partAll, Cond.code yX4_partAll cX4_partAll 1 none, Cond.fieldLink RX4 38 "PlaFolder$State" "lowerOf" "[I"]
def wsX4_appendTerm_r2 : List Cond := [Cond.fieldLink RX4 41 "PlaFolder$State" "upperOf" "[I", Cond.fieldLink RX4 21 "PlaFolder$State" "foldCount" "I", Cond.methodLink RX4 44 yJ7_fill_53178, Cond.static yJ7_fill_53178, Cond.initialized RJ7, Cond.code yJ7_fill_53178 cJ7_fill_53178 4 none]
def wsX4_appendTerm : List Cond := .code yX4_appendTerm cX4_appendTerm 4 none :: ((wsX4_appendTerm_r1 ++ wsX4_appendTerm_r2) ++ wsX40)
def wsX4_dropTerm : List Cond := .code yX4_dropTerm cX4_dropTerm 3 none :: ([.fieldLink RX4 18 "PlaFolder$State" "termCount" "I", .fieldLink RX4 24 "PlaFolder$State" "ones" "[I", .fieldLink RX4 28 "PlaFolder$State" "zeros" "[I", .fieldLink RX4 31 "PlaFolder$State" "outs" "[I", .fieldLink RX4 34 "PlaFolder$State" "words" "[J", .methodLink RX4 56 yX4_partAll, .instanceMethod yX4_partAll, .selects RX4 yX4_partAll yX4_partAll, .initialized RX4, .code yX4_partAll cX4_partAll 1 none, .fieldLink RX4 38 "PlaFolder$State" "lowerOf" "[I", .fieldLink RX4 41 "PlaFolder$State" "upperOf" "[I", .fieldLink RX4 21 "PlaFolder$State" "foldCount" "I", .methodLink RX4 44 yJ7_fill_53178, .static yJ7_fill_53178, .initialized RJ7, .code yJ7_fill_53178 cJ7_fill_53178 4 none] ++ wsX40)
def wsX4_outputWord : List Cond := .code yX4_outputWord cX4_outputWord 4 (some .int) :: ([.fieldLink RX4 18 "PlaFolder$State" "termCount" "I", .fieldLink RX4 34 "PlaFolder$State" "words" "[J", .fieldLink RX4 31 "PlaFolder$State" "outs" "[I"] ++ wsX40)
def wsX4_wordsOfOutput : List Cond := .code yX4_wordsOfOutput cX4_wordsOfOutput 6 (some .long) :: ([.fieldLink RX4 18 "PlaFolder$State" "termCount" "I", .fieldLink RX4 31 "PlaFolder$State" "outs" "[I", .fieldLink RX4 34 "PlaFolder$State" "words" "[J", .static yX5_contains, .initialized RX5, .code yX5_contains cX5_contains 2 (some .boolean)] ++ wsX40)
def wsX4_isSpare : List Cond := .code yX4_isSpare cX4_isSpare 3 (some .boolean) :: ([.fieldLink RX4 15 "PlaFolder$State" "outputs" "I", .fieldLink RX4 31 "PlaFolder$State" "outs" "[I", .fieldLink RX4 34 "PlaFolder$State" "words" "[J", .constantLong RX4 74 (-1), .static yX5_contains, .initialized RX5, .code yX5_contains cX5_contains 2 (some .boolean), .methodLink RX4 76 yX4_wordsOfOutput, .instanceMethod yX4_wordsOfOutput, .selects RX4 yX4_wordsOfOutput yX4_wordsOfOutput, .initialized RX4, .code yX4_wordsOfOutput cX4_wordsOfOutput 6 (some .long), .fieldLink RX4 18 "PlaFolder$State" "termCount" "I"] ++ wsX40)
def wsX4_mateOf : List Cond := .code yX4_mateOf cX4_mateOf 2 (some .int) :: ([.fieldLink RX4 38 "PlaFolder$State" "lowerOf" "[I", .fieldLink RX4 41 "PlaFolder$State" "upperOf" "[I"] ++ wsX40)
def wsX4_join : List Cond := .code yX4_join cX4_join 3 none :: ([.fieldLink RX4 38 "PlaFolder$State" "lowerOf" "[I", .fieldLink RX4 41 "PlaFolder$State" "upperOf" "[I", .fieldLink RX4 21 "PlaFolder$State" "foldCount" "I"] ++ wsX40)
def wsX4_part : List Cond := .code yX4_part cX4_part 3 none :: ([.fieldLink RX4 38 "PlaFolder$State" "lowerOf" "[I", .fieldLink RX4 41 "PlaFolder$State" "upperOf" "[I", .fieldLink RX4 21 "PlaFolder$State" "foldCount" "I", .methodLink RX4 83 yX4_mateOf, .instanceMethod yX4_mateOf, .selects RX4 yX4_mateOf yX4_mateOf, .initialized RX4, .code yX4_mateOf cX4_mateOf 2 (some .int)] ++ wsX40)
def wsX5_init_r1 : List Cond := [Cond.methodLink RX5 3 objectInit, Cond.instanceMethod objectInit, Cond.code objectInit ⟨#[0xb1]⟩ 1 none, Cond.classLink RX5 9 RX4, Cond.instantiable RX4 10, Cond.initialized RX4, Cond.fieldLink RX5 12 "PlaFolder" "state" "LPlaFolder$State;", Cond.classLink RX5 16 RX2, Cond.instantiable RX2 2, Cond.initialized RX2, Cond.fieldLink RX5 19 "PlaFolder" "history" "LPlaFolder$History;", Cond.classLink RX5 23 RX1, Cond.instantiable RX1 1, Cond.initialized RX1, Cond.fieldLink RX5 26 "PlaFolder" "demands" "LPlaFolder$Demands;", Cond.classLink RX5 30 RX3, Cond.instantiable RX3 2, Cond.initialized RX3, Cond.fieldLink RX5 33 "PlaFolder" "rows" "LPlaFolder$RowOrder;", Cond.classLink RX5 37 RX0, Cond.instantiable RX0 9, Cond.initialized RX0, Cond.fieldLink RX5 40 "PlaFolder" "best" "LPlaFolder$BestFolding;", Cond.arrayClass .int]
def wsX5_init_r2 : List Cond := [Cond.fieldLink RX5 44 "PlaFolder" "errors" "[I", Cond.instanceMethod yX4_init, Cond.code yX4_init cX4_init 1 none, Cond.methodLink RX4 3 objectInit, Cond.fieldLink RX4 9 "PlaFolder$State" "inputs" "I", Cond.fieldLink RX4 15 "PlaFolder$State" "outputs" "I", Cond.fieldLink RX4 18 "PlaFolder$State" "termCount" "I", Cond.fieldLink RX4 21 "PlaFolder$State" "foldCount" "I", Cond.fieldLink RX4 24 "PlaFolder$State" "ones" "[I", Cond.fieldLink RX4 28 "PlaFolder$State" "zeros" "[I", Cond.fieldLink RX4 31 "PlaFolder$State" "outs" "[I", Cond.arrayClass .long, Cond.fieldLink RX4 34 "PlaFolder$State" "words" "[J", Cond.fieldLink RX4 38 "PlaFolder$State" "lowerOf" "[I", Cond.fieldLink RX4 41 "PlaFolder$State" "upperOf" "[I", Cond.methodLink RX4 44 yJ7_fill_53178, Cond.static yJ7_fill_53178, Cond.initialized RJ7, Cond.code yJ7_fill_53178 cJ7_fill_53178 4 none, Cond.instanceMethod yX2_init, Cond.code yX2_init cX2_init 2 none, Cond.methodLink RX2 3 objectInit, Cond.classLink RX2 9 RX4, Cond.fieldLink RX2 11 "PlaFolder$History" "saved" "[LPlaFolder$State;"]
def wsX5_init_r3 : List Cond := [Cond.fieldLink RX2 17 "PlaFolder$History" "count" "I", Cond.instanceMethod yX1_init, Cond.code yX1_init cX1_init 1 none, Cond.methodLink RX1 3 objectInit, Cond.fieldLink RX1 9 "PlaFolder$Demands" "above" "[I", Cond.instanceMethod yX3_init, Cond.code yX3_init cX3_init 1 none, Cond.methodLink RX3 3 objectInit, Cond.fieldLink RX3 9 "PlaFolder$RowOrder" "termInRow" "[I", Cond.fieldLink RX3 15 "PlaFolder$RowOrder" "rowOfTerm" "[I", Cond.instanceMethod yX0_init, Cond.code yX0_init cX0_init 2 none, Cond.methodLink RX0 3 objectInit, Cond.fieldLink RX0 9 "PlaFolder$BestFolding" "known" "Z", Cond.fieldLink RX0 15 "PlaFolder$BestFolding" "count" "I", Cond.fieldLink RX0 19 "PlaFolder$BestFolding" "upper" "[I", Cond.fieldLink RX0 23 "PlaFolder$BestFolding" "lower" "[I", Cond.fieldLink RX0 26 "PlaFolder$BestFolding" "triedUpper" "[I", Cond.fieldLink RX0 29 "PlaFolder$BestFolding" "triedLower" "[I", Cond.fieldLink RX0 32 "PlaFolder$BestFolding" "used" "[I", Cond.fieldLink RX0 35 "PlaFolder$BestFolding" "mates" "[I", Cond.classLink RX0 38 RX1, Cond.fieldLink RX0 40 "PlaFolder$BestFolding" "demandsAt" "[LPlaFolder$Demands;"]
def wsX5_init : List Cond := .code yX5_init cX5_init 1 none :: ((wsX5_init_r1 ++ (wsX5_init_r2 ++ wsX5_init_r3)) ++ wsX40 ++ wsX50 ++ wsX20 ++ wsX10 ++ wsX30 ++ wsX00)
def wsX5_fail : List Cond := .code yX5_fail cX5_fail 2 (some .int) :: ([.fieldLink RX5 44 "PlaFolder" "errors" "[I"] ++ wsX50)
def wsX5_foldsChanged_r1 : List Cond := [Cond.fieldLink RX5 26 "PlaFolder" "demands" "LPlaFolder$Demands;", Cond.fieldLink RX5 12 "PlaFolder" "state" "LPlaFolder$State;", Cond.fieldLink RX5 33 "PlaFolder" "rows" "LPlaFolder$RowOrder;", Cond.instanceMethod yX1_collect, Cond.initialized RX1, Cond.selects RX1 yX1_collect yX1_collect, Cond.code yX1_collect cX1_collect 4 none, Cond.methodLink RX1 27 yX1_clear, Cond.instanceMethod yX1_clear, Cond.selects RX1 yX1_clear yX1_clear, Cond.code yX1_clear cX1_clear 1 none, Cond.fieldLink RX1 9 "PlaFolder$Demands" "above" "[I", Cond.methodLink RX1 15 yJ7_fill_53178, Cond.static yJ7_fill_53178, Cond.initialized RJ7, Cond.code yJ7_fill_53178 cJ7_fill_53178 4 none, Cond.instanceMethod yX4_termsOfColumn, Cond.initialized RX4, Cond.selects RX4 yX4_termsOfColumn yX4_termsOfColumn, Cond.code yX4_termsOfColumn cX4_termsOfColumn 5 (some .int), Cond.fieldLink RX4 18 "PlaFolder$State" "termCount" "I", Cond.fieldLink RX4 24 "PlaFolder$State" "ones" "[I", Cond.fieldLink RX4 28 "PlaFolder$State" "zeros" "[I", Cond.fieldLink RX4 31 "PlaFolder$State" "outs" "[I"]
def wsX5_foldsChanged_r2 : List Cond := [Cond.static yX5_contains, Cond.initialized RX5, Cond.code yX5_contains cX5_contains 2 (some .boolean), Cond.methodLink RX1 39 yX1_add, Cond.instanceMethod yX1_add, Cond.selects RX1 yX1_add yX1_add, Cond.code yX1_add cX1_add 5 none, Cond.methodLink RX1 47 yX1_withAllAbove, Cond.instanceMethod yX1_withAllAbove, Cond.selects RX1 yX1_withAllAbove yX1_withAllAbove, Cond.code yX1_withAllAbove cX1_withAllAbove 4 (some .int), Cond.instanceMethod yX3_build, Cond.initialized RX3, Cond.selects RX3 yX3_build yX3_build, Cond.code yX3_build cX3_build 6 none, Cond.fieldLink RX3 9 "PlaFolder$RowOrder" "termInRow" "[I", Cond.fieldLink RX3 15 "PlaFolder$RowOrder" "rowOfTerm" "[I", Cond.methodLink RX3 18 yX3_nextTerm, Cond.static yX3_nextTerm, Cond.code yX3_nextTerm cX3_nextTerm 4 (some .int)]
def wsX5_foldsChanged : List Cond := .code yX5_foldsChanged cX5_foldsChanged 1 none :: ((wsX5_foldsChanged_r1 ++ wsX5_foldsChanged_r2) ++ wsX50 ++ wsX40 ++ wsX10 ++ wsX30)
def wsX5_termsChanged_r1 : List Cond := [Cond.fieldLink RX5 40 "PlaFolder" "best" "LPlaFolder$BestFolding;", Cond.methodLink RX5 138 yX5_foldsChanged, Cond.instanceMethod yX5_foldsChanged, Cond.selects RX5 yX5_foldsChanged yX5_foldsChanged, Cond.initialized RX5, Cond.code yX5_foldsChanged cX5_foldsChanged 1 none, Cond.fieldLink RX5 26 "PlaFolder" "demands" "LPlaFolder$Demands;", Cond.fieldLink RX5 12 "PlaFolder" "state" "LPlaFolder$State;", Cond.fieldLink RX5 33 "PlaFolder" "rows" "LPlaFolder$RowOrder;", Cond.instanceMethod yX1_collect, Cond.initialized RX1, Cond.selects RX1 yX1_collect yX1_collect, Cond.code yX1_collect cX1_collect 4 none, Cond.methodLink RX1 27 yX1_clear, Cond.instanceMethod yX1_clear, Cond.selects RX1 yX1_clear yX1_clear, Cond.code yX1_clear cX1_clear 1 none, Cond.fieldLink RX1 9 "PlaFolder$Demands" "above" "[I", Cond.methodLink RX1 15 yJ7_fill_53178, Cond.static yJ7_fill_53178, Cond.initialized RJ7, Cond.code yJ7_fill_53178 cJ7_fill_53178 4 none, Cond.instanceMethod yX4_termsOfColumn, Cond.initialized RX4]
def wsX5_termsChanged_r2 : List Cond := [Cond.selects RX4 yX4_termsOfColumn yX4_termsOfColumn, Cond.code yX4_termsOfColumn cX4_termsOfColumn 5 (some .int), Cond.fieldLink RX4 18 "PlaFolder$State" "termCount" "I", Cond.fieldLink RX4 24 "PlaFolder$State" "ones" "[I", Cond.fieldLink RX4 28 "PlaFolder$State" "zeros" "[I", Cond.fieldLink RX4 31 "PlaFolder$State" "outs" "[I", Cond.static yX5_contains, Cond.code yX5_contains cX5_contains 2 (some .boolean), Cond.methodLink RX1 39 yX1_add, Cond.instanceMethod yX1_add, Cond.selects RX1 yX1_add yX1_add, Cond.code yX1_add cX1_add 5 none, Cond.methodLink RX1 47 yX1_withAllAbove, Cond.instanceMethod yX1_withAllAbove, Cond.selects RX1 yX1_withAllAbove yX1_withAllAbove, Cond.code yX1_withAllAbove cX1_withAllAbove 4 (some .int), Cond.instanceMethod yX3_build, Cond.initialized RX3, Cond.selects RX3 yX3_build yX3_build, Cond.code yX3_build cX3_build 6 none, Cond.fieldLink RX3 9 "PlaFolder$RowOrder" "termInRow" "[I", Cond.fieldLink RX3 15 "PlaFolder$RowOrder" "rowOfTerm" "[I", Cond.methodLink RX3 18 yX3_nextTerm, Cond.static yX3_nextTerm]
def wsX5_termsChanged_r3 : List Cond := [Cond.code yX3_nextTerm cX3_nextTerm 4 (some .int)]
def wsX5_termsChanged : List Cond := .code yX5_termsChanged cX5_termsChanged 1 none :: ((wsX5_termsChanged_r1 ++ (wsX5_termsChanged_r2 ++ wsX5_termsChanged_r3)) ++ wsX50 ++ wsX00 ++ wsX40 ++ wsX10 ++ wsX30)
def wsX5_setSize_r1 : List Cond := [Cond.fieldLink RX5 19 "PlaFolder" "history" "LPlaFolder$History;", Cond.fieldLink RX5 12 "PlaFolder" "state" "LPlaFolder$State;", Cond.methodLink RX5 48 yX5_fail, Cond.instanceMethod yX5_fail, Cond.selects RX5 yX5_fail yX5_fail, Cond.initialized RX5, Cond.code yX5_fail cX5_fail 2 (some .int), Cond.fieldLink RX5 44 "PlaFolder" "errors" "[I", Cond.instanceMethod yX2_push, Cond.initialized RX2, Cond.selects RX2 yX2_push yX2_push, Cond.code yX2_push cX2_push 2 none, Cond.fieldLink RX2 17 "PlaFolder$History" "count" "I", Cond.fieldLink RX2 11 "PlaFolder$History" "saved" "[LPlaFolder$State;", Cond.methodLink RX2 22 yX2_dropOldest, Cond.instanceMethod yX2_dropOldest, Cond.selects RX2 yX2_dropOldest yX2_dropOldest, Cond.code yX2_dropOldest cX2_dropOldest 3 none, Cond.instanceMethod yX4_copyFrom, Cond.initialized RX4, Cond.selects RX4 yX4_copyFrom yX4_copyFrom, Cond.code yX4_copyFrom cX4_copyFrom 2 none, Cond.fieldLink RX4 9 "PlaFolder$State" "inputs" "I", Cond.fieldLink RX4 15 "PlaFolder$State" "outputs" "I"]
def wsX5_setSize_r2 : List Cond := [Cond.fieldLink RX4 18 "PlaFolder$State" "termCount" "I", Cond.fieldLink RX4 21 "PlaFolder$State" "foldCount" "I", Cond.fieldLink RX4 24 "PlaFolder$State" "ones" "[I", Cond.methodLink RX4 50 arraycopyName, Cond.native arraycopyName, Cond.static arraycopyName, Cond.initialized "java/lang/System", Cond.fieldLink RX4 28 "PlaFolder$State" "zeros" "[I", Cond.fieldLink RX4 31 "PlaFolder$State" "outs" "[I", Cond.fieldLink RX4 34 "PlaFolder$State" "words" "[J", Cond.fieldLink RX4 38 "PlaFolder$State" "lowerOf" "[I", Cond.fieldLink RX4 41 "PlaFolder$State" "upperOf" "[I", Cond.instanceMethod yX4_resize, Cond.selects RX4 yX4_resize yX4_resize, Cond.code yX4_resize cX4_resize 3 none, Cond.methodLink RX4 56 yX4_partAll, Cond.instanceMethod yX4_partAll, Cond.selects RX4 yX4_partAll yX4_partAll, Cond.code yX4_partAll cX4_partAll 1 none, Cond.methodLink RX4 44 yJ7_fill_53178, Cond.static yJ7_fill_53178, Cond.initialized RJ7, Cond.code yJ7_fill_53178 cJ7_fill_53178 4 none, Cond.methodLink RX5 64 yX5_termsChanged]
def wsX5_setSize_r3 : List Cond := [Cond.instanceMethod yX5_termsChanged, Cond.selects RX5 yX5_termsChanged yX5_termsChanged, Cond.code yX5_termsChanged cX5_termsChanged 1 none, Cond.fieldLink RX5 40 "PlaFolder" "best" "LPlaFolder$BestFolding;", Cond.methodLink RX5 138 yX5_foldsChanged, Cond.instanceMethod yX5_foldsChanged, Cond.selects RX5 yX5_foldsChanged yX5_foldsChanged, Cond.code yX5_foldsChanged cX5_foldsChanged 1 none, Cond.fieldLink RX5 26 "PlaFolder" "demands" "LPlaFolder$Demands;", Cond.fieldLink RX5 33 "PlaFolder" "rows" "LPlaFolder$RowOrder;", Cond.instanceMethod yX1_collect, Cond.initialized RX1, Cond.selects RX1 yX1_collect yX1_collect, Cond.code yX1_collect cX1_collect 4 none, Cond.methodLink RX1 27 yX1_clear, Cond.instanceMethod yX1_clear, Cond.selects RX1 yX1_clear yX1_clear, Cond.code yX1_clear cX1_clear 1 none, Cond.fieldLink RX1 9 "PlaFolder$Demands" "above" "[I", Cond.methodLink RX1 15 yJ7_fill_53178, Cond.instanceMethod yX4_termsOfColumn, Cond.selects RX4 yX4_termsOfColumn yX4_termsOfColumn, Cond.code yX4_termsOfColumn cX4_termsOfColumn 5 (some .int), Cond.static yX5_contains]
def wsX5_setSize_r4 : List Cond := [Cond.code yX5_contains cX5_contains 2 (some .boolean), Cond.methodLink RX1 39 yX1_add, Cond.instanceMethod yX1_add, Cond.selects RX1 yX1_add yX1_add, Cond.code yX1_add cX1_add 5 none, Cond.methodLink RX1 47 yX1_withAllAbove, Cond.instanceMethod yX1_withAllAbove, Cond.selects RX1 yX1_withAllAbove yX1_withAllAbove, Cond.code yX1_withAllAbove cX1_withAllAbove 4 (some .int), Cond.instanceMethod yX3_build, Cond.initialized RX3, Cond.selects RX3 yX3_build yX3_build, Cond.code yX3_build cX3_build 6 none, Cond.fieldLink RX3 9 "PlaFolder$RowOrder" "termInRow" "[I", Cond.fieldLink RX3 15 "PlaFolder$RowOrder" "rowOfTerm" "[I", Cond.methodLink RX3 18 yX3_nextTerm, Cond.static yX3_nextTerm, Cond.code yX3_nextTerm cX3_nextTerm 4 (some .int)]
def wsX5_setSize : List Cond := .code yX5_setSize cX5_setSize 4 (some .int) :: ((wsX5_setSize_r1 ++ (wsX5_setSize_r2 ++ (wsX5_setSize_r3 ++ wsX5_setSize_r4))) ++ wsX50 ++ wsX40 ++ wsX20 ++ wsX00 ++ wsX10 ++ wsX30)
def wsX5_addTerm_r1 : List Cond := [Cond.fieldLink RX5 12 "PlaFolder" "state" "LPlaFolder$State;", Cond.fieldLink RX5 19 "PlaFolder" "history" "LPlaFolder$History;", Cond.instanceMethod yX4_takesTerm, Cond.initialized RX4, Cond.selects RX4 yX4_takesTerm yX4_takesTerm, Cond.code yX4_takesTerm cX4_takesTerm 6 (some .boolean), Cond.fieldLink RX4 9 "PlaFolder$State" "inputs" "I", Cond.fieldLink RX4 15 "PlaFolder$State" "outputs" "I", Cond.methodLink RX5 48 yX5_fail, Cond.instanceMethod yX5_fail, Cond.selects RX5 yX5_fail yX5_fail, Cond.initialized RX5, Cond.code yX5_fail cX5_fail 2 (some .int), Cond.fieldLink RX5 44 "PlaFolder" "errors" "[I", Cond.instanceMethod yX2_push, Cond.initialized RX2, Cond.selects RX2 yX2_push yX2_push, Cond.code yX2_push cX2_push 2 none, Cond.fieldLink RX2 17 "PlaFolder$History" "count" "I", Cond.fieldLink RX2 11 "PlaFolder$History" "saved" "[LPlaFolder$State;", Cond.methodLink RX2 22 yX2_dropOldest, Cond.instanceMethod yX2_dropOldest, Cond.selects RX2 yX2_dropOldest yX2_dropOldest, Cond.code yX2_dropOldest cX2_dropOldest 3 none]
def wsX5_addTerm_r2 : List Cond := [Cond.instanceMethod yX4_copyFrom, Cond.selects RX4 yX4_copyFrom yX4_copyFrom, Cond.code yX4_copyFrom cX4_copyFrom 2 none, Cond.fieldLink RX4 18 "PlaFolder$State" "termCount" "I", Cond.fieldLink RX4 21 "PlaFolder$State" "foldCount" "I", Cond.fieldLink RX4 24 "PlaFolder$State" "ones" "[I", Cond.methodLink RX4 50 arraycopyName, Cond.native arraycopyName, Cond.static arraycopyName, Cond.initialized "java/lang/System", Cond.fieldLink RX4 28 "PlaFolder$State" "zeros" "[I", Cond.fieldLink RX4 31 "PlaFolder$State" "outs" "[I", Cond.fieldLink RX4 34 "PlaFolder$State" "words" "[J", Cond.fieldLink RX4 38 "PlaFolder$State" "lowerOf" "[I", Cond.fieldLink RX4 41 "PlaFolder$State" "upperOf" "[I", Cond.instanceMethod yX4_appendTerm, Cond.selects RX4 yX4_appendTerm yX4_appendTerm, Cond.code yX4_appendTerm cX4_appendTerm 4 none, Cond.methodLink RX4 59 yX4_wordsOfTerm, Cond.instanceMethod yX4_wordsOfTerm, Cond.selects RX4 yX4_wordsOfTerm yX4_wordsOfTerm, Cond.code yX4_wordsOfTerm cX4_wordsOfTerm 6 (some .long), Cond.constantLong RX4 74 (-1), Cond.methodLink RX4 63 yX4_allWords]
def wsX5_addTerm_r3 : List Cond := [Cond.instanceMethod yX4_allWords, Cond.selects RX4 yX4_allWords yX4_allWords, Cond.code yX4_allWords cX4_allWords 1 (some .long), Cond.static yX5_contains, Cond.code yX5_contains cX5_contains 2 (some .boolean), Cond.methodLink RX4 56 yX4_partAll, Cond.instanceMethod yX4_partAll, Cond.selects RX4 yX4_partAll yX4_partAll, Cond.code yX4_partAll cX4_partAll 1 none, Cond.methodLink RX4 44 yJ7_fill_53178, Cond.static yJ7_fill_53178, Cond.initialized RJ7, Cond.code yJ7_fill_53178 cJ7_fill_53178 4 none, Cond.methodLink RX5 64 yX5_termsChanged, Cond.instanceMethod yX5_termsChanged, Cond.selects RX5 yX5_termsChanged yX5_termsChanged, Cond.code yX5_termsChanged cX5_termsChanged 1 none, Cond.fieldLink RX5 40 "PlaFolder" "best" "LPlaFolder$BestFolding;", Cond.methodLink RX5 138 yX5_foldsChanged, Cond.instanceMethod yX5_foldsChanged, Cond.selects RX5 yX5_foldsChanged yX5_foldsChanged, Cond.code yX5_foldsChanged cX5_foldsChanged 1 none, Cond.fieldLink RX5 26 "PlaFolder" "demands" "LPlaFolder$Demands;", Cond.fieldLink RX5 33 "PlaFolder" "rows" "LPlaFolder$RowOrder;"]
def wsX5_addTerm_r4 : List Cond := [Cond.instanceMethod yX1_collect, Cond.initialized RX1, Cond.selects RX1 yX1_collect yX1_collect, Cond.code yX1_collect cX1_collect 4 none, Cond.methodLink RX1 27 yX1_clear, Cond.instanceMethod yX1_clear, Cond.selects RX1 yX1_clear yX1_clear, Cond.code yX1_clear cX1_clear 1 none, Cond.fieldLink RX1 9 "PlaFolder$Demands" "above" "[I", Cond.methodLink RX1 15 yJ7_fill_53178, Cond.instanceMethod yX4_termsOfColumn, Cond.selects RX4 yX4_termsOfColumn yX4_termsOfColumn, Cond.code yX4_termsOfColumn cX4_termsOfColumn 5 (some .int), Cond.methodLink RX1 39 yX1_add, Cond.instanceMethod yX1_add, Cond.selects RX1 yX1_add yX1_add, Cond.code yX1_add cX1_add 5 none, Cond.methodLink RX1 47 yX1_withAllAbove, Cond.instanceMethod yX1_withAllAbove, Cond.selects RX1 yX1_withAllAbove yX1_withAllAbove, Cond.code yX1_withAllAbove cX1_withAllAbove 4 (some .int), Cond.instanceMethod yX3_build, Cond.initialized RX3, Cond.selects RX3 yX3_build yX3_build]
def wsX5_addTerm_r5 : List Cond := [Cond.code yX3_build cX3_build 6 none, Cond.fieldLink RX3 9 "PlaFolder$RowOrder" "termInRow" "[I", Cond.fieldLink RX3 15 "PlaFolder$RowOrder" "rowOfTerm" "[I", Cond.methodLink RX3 18 yX3_nextTerm, Cond.static yX3_nextTerm, Cond.code yX3_nextTerm cX3_nextTerm 4 (some .int)]
def wsX5_addTerm : List Cond := .code yX5_addTerm cX5_addTerm 4 (some .int) :: ((wsX5_addTerm_r1 ++ (wsX5_addTerm_r2 ++ (wsX5_addTerm_r3 ++ (wsX5_addTerm_r4 ++ wsX5_addTerm_r5)))) ++ wsX50 ++ wsX40 ++ wsX20 ++ wsX00 ++ wsX10 ++ wsX30)
def wsX5_removeTerm_r1 : List Cond := [Cond.fieldLink RX5 12 "PlaFolder" "state" "LPlaFolder$State;", Cond.fieldLink RX5 19 "PlaFolder" "history" "LPlaFolder$History;", Cond.instanceMethod yX4_hasTerm, Cond.initialized RX4, Cond.selects RX4 yX4_hasTerm yX4_hasTerm, Cond.code yX4_hasTerm cX4_hasTerm 2 (some .boolean), Cond.fieldLink RX4 18 "PlaFolder$State" "termCount" "I", Cond.methodLink RX5 48 yX5_fail, Cond.instanceMethod yX5_fail, Cond.selects RX5 yX5_fail yX5_fail, Cond.initialized RX5, Cond.code yX5_fail cX5_fail 2 (some .int), Cond.fieldLink RX5 44 "PlaFolder" "errors" "[I", Cond.instanceMethod yX2_push, Cond.initialized RX2, Cond.selects RX2 yX2_push yX2_push, Cond.code yX2_push cX2_push 2 none, Cond.fieldLink RX2 17 "PlaFolder$History" "count" "I", Cond.fieldLink RX2 11 "PlaFolder$History" "saved" "[LPlaFolder$State;", Cond.methodLink RX2 22 yX2_dropOldest, Cond.instanceMethod yX2_dropOldest, Cond.selects RX2 yX2_dropOldest yX2_dropOldest, Cond.code yX2_dropOldest cX2_dropOldest 3 none, Cond.instanceMethod yX4_copyFrom]
def wsX5_removeTerm_r2 : List Cond := [Cond.selects RX4 yX4_copyFrom yX4_copyFrom, Cond.code yX4_copyFrom cX4_copyFrom 2 none, Cond.fieldLink RX4 9 "PlaFolder$State" "inputs" "I", Cond.fieldLink RX4 15 "PlaFolder$State" "outputs" "I", Cond.fieldLink RX4 21 "PlaFolder$State" "foldCount" "I", Cond.fieldLink RX4 24 "PlaFolder$State" "ones" "[I", Cond.methodLink RX4 50 arraycopyName, Cond.native arraycopyName, Cond.static arraycopyName, Cond.initialized "java/lang/System", Cond.fieldLink RX4 28 "PlaFolder$State" "zeros" "[I", Cond.fieldLink RX4 31 "PlaFolder$State" "outs" "[I", Cond.fieldLink RX4 34 "PlaFolder$State" "words" "[J", Cond.fieldLink RX4 38 "PlaFolder$State" "lowerOf" "[I", Cond.fieldLink RX4 41 "PlaFolder$State" "upperOf" "[I", Cond.instanceMethod yX4_dropTerm, Cond.selects RX4 yX4_dropTerm yX4_dropTerm, Cond.code yX4_dropTerm cX4_dropTerm 3 none, Cond.methodLink RX4 56 yX4_partAll, Cond.instanceMethod yX4_partAll, Cond.selects RX4 yX4_partAll yX4_partAll, Cond.code yX4_partAll cX4_partAll 1 none, Cond.methodLink RX4 44 yJ7_fill_53178, Cond.static yJ7_fill_53178]
def wsX5_removeTerm_r3 : List Cond := [Cond.initialized RJ7, Cond.code yJ7_fill_53178 cJ7_fill_53178 4 none, Cond.methodLink RX5 64 yX5_termsChanged, Cond.instanceMethod yX5_termsChanged, Cond.selects RX5 yX5_termsChanged yX5_termsChanged, Cond.code yX5_termsChanged cX5_termsChanged 1 none, Cond.fieldLink RX5 40 "PlaFolder" "best" "LPlaFolder$BestFolding;", Cond.methodLink RX5 138 yX5_foldsChanged, Cond.instanceMethod yX5_foldsChanged, Cond.selects RX5 yX5_foldsChanged yX5_foldsChanged, Cond.code yX5_foldsChanged cX5_foldsChanged 1 none, Cond.fieldLink RX5 26 "PlaFolder" "demands" "LPlaFolder$Demands;", Cond.fieldLink RX5 33 "PlaFolder" "rows" "LPlaFolder$RowOrder;", Cond.instanceMethod yX1_collect, Cond.initialized RX1, Cond.selects RX1 yX1_collect yX1_collect, Cond.code yX1_collect cX1_collect 4 none, Cond.methodLink RX1 27 yX1_clear, Cond.instanceMethod yX1_clear, Cond.selects RX1 yX1_clear yX1_clear, Cond.code yX1_clear cX1_clear 1 none, Cond.fieldLink RX1 9 "PlaFolder$Demands" "above" "[I", Cond.methodLink RX1 15 yJ7_fill_53178, Cond.instanceMethod yX4_termsOfColumn]
def wsX5_removeTerm_r4 : List Cond := [Cond.selects RX4 yX4_termsOfColumn yX4_termsOfColumn, Cond.code yX4_termsOfColumn cX4_termsOfColumn 5 (some .int), Cond.static yX5_contains, Cond.code yX5_contains cX5_contains 2 (some .boolean), Cond.methodLink RX1 39 yX1_add, Cond.instanceMethod yX1_add, Cond.selects RX1 yX1_add yX1_add, Cond.code yX1_add cX1_add 5 none, Cond.methodLink RX1 47 yX1_withAllAbove, Cond.instanceMethod yX1_withAllAbove, Cond.selects RX1 yX1_withAllAbove yX1_withAllAbove, Cond.code yX1_withAllAbove cX1_withAllAbove 4 (some .int), Cond.instanceMethod yX3_build, Cond.initialized RX3, Cond.selects RX3 yX3_build yX3_build, Cond.code yX3_build cX3_build 6 none, Cond.fieldLink RX3 9 "PlaFolder$RowOrder" "termInRow" "[I", Cond.fieldLink RX3 15 "PlaFolder$RowOrder" "rowOfTerm" "[I", Cond.methodLink RX3 18 yX3_nextTerm, Cond.static yX3_nextTerm, Cond.code yX3_nextTerm cX3_nextTerm 4 (some .int)]
def wsX5_removeTerm : List Cond := .code yX5_removeTerm cX5_removeTerm 2 (some .int) :: ((wsX5_removeTerm_r1 ++ (wsX5_removeTerm_r2 ++ (wsX5_removeTerm_r3 ++ wsX5_removeTerm_r4))) ++ wsX50 ++ wsX40 ++ wsX20 ++ wsX00 ++ wsX10 ++ wsX30)
def wsX5_terms : List Cond := .code yX5_terms cX5_terms 1 (some .int) :: ([.fieldLink RX5 12 "PlaFolder" "state" "LPlaFolder$State;"] ++ wsX50 ++ wsX40)
def wsX5_literals : List Cond := .code yX5_literals cX5_literals 2 (some .int) :: ([.fieldLink RX5 12 "PlaFolder" "state" "LPlaFolder$State;", .instanceMethod yX4_hasTerm, .initialized RX4, .selects RX4 yX4_hasTerm yX4_hasTerm, .code yX4_hasTerm cX4_hasTerm 2 (some .boolean), .fieldLink RX4 18 "PlaFolder$State" "termCount" "I", .methodLink RX5 48 yX5_fail, .instanceMethod yX5_fail, .selects RX5 yX5_fail yX5_fail, .initialized RX5, .code yX5_fail cX5_fail 2 (some .int), .fieldLink RX5 44 "PlaFolder" "errors" "[I", .methodLink RX5 89 yJ6_bitCount_0f7a4, .static yJ6_bitCount_0f7a4, .initialized RJ6, .code yJ6_bitCount_0f7a4 cJ6_bitCount_0f7a4 1 (some .int), .constant RJ6 265 (1431655765), .constant RJ6 266 (858993459), .constant RJ6 267 (252645135)] ++ wsX50 ++ wsX40)
def wsX5_evaluate : List Cond := .code yX5_evaluate cX5_evaluate 2 (some .int) :: ([.fieldLink RX5 12 "PlaFolder" "state" "LPlaFolder$State;", .methodLink RX5 48 yX5_fail, .instanceMethod yX5_fail, .selects RX5 yX5_fail yX5_fail, .initialized RX5, .code yX5_fail cX5_fail 2 (some .int), .fieldLink RX5 44 "PlaFolder" "errors" "[I", .instanceMethod yX4_outputWord, .initialized RX4, .selects RX4 yX4_outputWord yX4_outputWord, .code yX4_outputWord cX4_outputWord 4 (some .int), .fieldLink RX4 18 "PlaFolder$State" "termCount" "I", .fieldLink RX4 34 "PlaFolder$State" "words" "[J", .fieldLink RX4 31 "PlaFolder$State" "outs" "[I"] ++ wsX50 ++ wsX40)
def wsJ13_bitCount_95d88 : List Cond := .code yJ13_bitCount_95d88 cJ13_bitCount_95d88 2 (some .int) :: ([.constantLong RJ13 314 (6148914691236517205), .constantLong RJ13 316 (3689348814741910323), .constantLong RJ13 318 (1085102592571150095)])
def wsX5_onCount : List Cond := .code yX5_onCount cX5_onCount 2 (some .int) :: ([.fieldLink RX5 12 "PlaFolder" "state" "LPlaFolder$State;", .methodLink RX5 48 yX5_fail, .instanceMethod yX5_fail, .selects RX5 yX5_fail yX5_fail, .initialized RX5, .code yX5_fail cX5_fail 2 (some .int), .fieldLink RX5 44 "PlaFolder" "errors" "[I", .instanceMethod yX4_wordsOfOutput, .initialized RX4, .selects RX4 yX4_wordsOfOutput yX4_wordsOfOutput, .code yX4_wordsOfOutput cX4_wordsOfOutput 6 (some .long), .fieldLink RX4 18 "PlaFolder$State" "termCount" "I", .fieldLink RX4 31 "PlaFolder$State" "outs" "[I", .fieldLink RX4 34 "PlaFolder$State" "words" "[J", .static yX5_contains, .code yX5_contains cX5_contains 2 (some .boolean), .methodLink RX5 107 yJ13_bitCount_95d88, .static yJ13_bitCount_95d88, .initialized RJ13, .code yJ13_bitCount_95d88 cJ13_bitCount_95d88 2 (some .int), .constantLong RJ13 314 (6148914691236517205), .constantLong RJ13 316 (3689348814741910323), .constantLong RJ13 318 (1085102592571150095)] ++ wsX50 ++ wsX40)
def wsX5_flag : List Cond := .code yX5_flag cX5_flag 1 (some .int) :: ([])
def wsX5_isRedundant_r1 : List Cond := [Cond.fieldLink RX5 12 "PlaFolder" "state" "LPlaFolder$State;", Cond.instanceMethod yX4_hasTerm, Cond.initialized RX4, Cond.selects RX4 yX4_hasTerm yX4_hasTerm, Cond.code yX4_hasTerm cX4_hasTerm 2 (some .boolean), Cond.fieldLink RX4 18 "PlaFolder$State" "termCount" "I", Cond.methodLink RX5 48 yX5_fail, Cond.instanceMethod yX5_fail, Cond.selects RX5 yX5_fail yX5_fail, Cond.initialized RX5, Cond.code yX5_fail cX5_fail 2 (some .int), Cond.fieldLink RX5 44 "PlaFolder" "errors" "[I", Cond.instanceMethod yX4_isSpare, Cond.selects RX4 yX4_isSpare yX4_isSpare, Cond.code yX4_isSpare cX4_isSpare 3 (some .boolean), Cond.fieldLink RX4 15 "PlaFolder$State" "outputs" "I", Cond.fieldLink RX4 31 "PlaFolder$State" "outs" "[I", Cond.fieldLink RX4 34 "PlaFolder$State" "words" "[J", Cond.constantLong RX4 74 (-1), Cond.static yX5_contains, Cond.code yX5_contains cX5_contains 2 (some .boolean), Cond.methodLink RX4 76 yX4_wordsOfOutput, Cond.instanceMethod yX4_wordsOfOutput, Cond.selects RX4 yX4_wordsOfOutput yX4_wordsOfOutput]
def wsX5_isRedundant_r2 : List Cond := [Cond.code yX4_wordsOfOutput cX4_wordsOfOutput 6 (some .long), Cond.methodLink RX5 115 yX5_flag, Cond.static yX5_flag, Cond.code yX5_flag cX5_flag 1 (some .int)]
def wsX5_isRedundant : List Cond := .code yX5_isRedundant cX5_isRedundant 2 (some .int) :: ((wsX5_isRedundant_r1 ++ wsX5_isRedundant_r2) ++ wsX50 ++ wsX40)
def wsX5_removeRedundant_r1 : List Cond := [Cond.fieldLink RX5 19 "PlaFolder" "history" "LPlaFolder$History;", Cond.fieldLink RX5 12 "PlaFolder" "state" "LPlaFolder$State;", Cond.instanceMethod yX2_push, Cond.initialized RX2, Cond.selects RX2 yX2_push yX2_push, Cond.code yX2_push cX2_push 2 none, Cond.fieldLink RX2 17 "PlaFolder$History" "count" "I", Cond.fieldLink RX2 11 "PlaFolder$History" "saved" "[LPlaFolder$State;", Cond.methodLink RX2 22 yX2_dropOldest, Cond.instanceMethod yX2_dropOldest, Cond.selects RX2 yX2_dropOldest yX2_dropOldest, Cond.code yX2_dropOldest cX2_dropOldest 3 none, Cond.instanceMethod yX4_copyFrom, Cond.initialized RX4, Cond.selects RX4 yX4_copyFrom yX4_copyFrom, Cond.code yX4_copyFrom cX4_copyFrom 2 none, Cond.fieldLink RX4 9 "PlaFolder$State" "inputs" "I", Cond.fieldLink RX4 15 "PlaFolder$State" "outputs" "I", Cond.fieldLink RX4 18 "PlaFolder$State" "termCount" "I", Cond.fieldLink RX4 21 "PlaFolder$State" "foldCount" "I", Cond.fieldLink RX4 24 "PlaFolder$State" "ones" "[I", Cond.methodLink RX4 50 arraycopyName, Cond.native arraycopyName, Cond.static arraycopyName]
def wsX5_removeRedundant_r2 : List Cond := [Cond.initialized "java/lang/System", Cond.fieldLink RX4 28 "PlaFolder$State" "zeros" "[I", Cond.fieldLink RX4 31 "PlaFolder$State" "outs" "[I", Cond.fieldLink RX4 34 "PlaFolder$State" "words" "[J", Cond.fieldLink RX4 38 "PlaFolder$State" "lowerOf" "[I", Cond.fieldLink RX4 41 "PlaFolder$State" "upperOf" "[I", Cond.instanceMethod yX4_isSpare, Cond.selects RX4 yX4_isSpare yX4_isSpare, Cond.code yX4_isSpare cX4_isSpare 3 (some .boolean), Cond.constantLong RX4 74 (-1), Cond.static yX5_contains, Cond.initialized RX5, Cond.code yX5_contains cX5_contains 2 (some .boolean), Cond.methodLink RX4 76 yX4_wordsOfOutput, Cond.instanceMethod yX4_wordsOfOutput, Cond.selects RX4 yX4_wordsOfOutput yX4_wordsOfOutput, Cond.code yX4_wordsOfOutput cX4_wordsOfOutput 6 (some .long), Cond.instanceMethod yX4_dropTerm, Cond.selects RX4 yX4_dropTerm yX4_dropTerm, Cond.code yX4_dropTerm cX4_dropTerm 3 none, Cond.methodLink RX4 56 yX4_partAll, Cond.instanceMethod yX4_partAll, Cond.selects RX4 yX4_partAll yX4_partAll, Cond.code yX4_partAll cX4_partAll 1 none]
def wsX5_removeRedundant_r3 : List Cond := [Cond.methodLink RX4 44 yJ7_fill_53178, Cond.static yJ7_fill_53178, Cond.initialized RJ7, Cond.code yJ7_fill_53178 cJ7_fill_53178 4 none, Cond.methodLink RX5 64 yX5_termsChanged, Cond.instanceMethod yX5_termsChanged, Cond.selects RX5 yX5_termsChanged yX5_termsChanged, Cond.code yX5_termsChanged cX5_termsChanged 1 none, Cond.fieldLink RX5 40 "PlaFolder" "best" "LPlaFolder$BestFolding;", Cond.methodLink RX5 138 yX5_foldsChanged, Cond.instanceMethod yX5_foldsChanged, Cond.selects RX5 yX5_foldsChanged yX5_foldsChanged, Cond.code yX5_foldsChanged cX5_foldsChanged 1 none, Cond.fieldLink RX5 26 "PlaFolder" "demands" "LPlaFolder$Demands;", Cond.fieldLink RX5 33 "PlaFolder" "rows" "LPlaFolder$RowOrder;", Cond.instanceMethod yX1_collect, Cond.initialized RX1, Cond.selects RX1 yX1_collect yX1_collect, Cond.code yX1_collect cX1_collect 4 none, Cond.methodLink RX1 27 yX1_clear, Cond.instanceMethod yX1_clear, Cond.selects RX1 yX1_clear yX1_clear, Cond.code yX1_clear cX1_clear 1 none, Cond.fieldLink RX1 9 "PlaFolder$Demands" "above" "[I"]
def wsX5_removeRedundant_r4 : List Cond := [Cond.methodLink RX1 15 yJ7_fill_53178, Cond.instanceMethod yX4_termsOfColumn, Cond.selects RX4 yX4_termsOfColumn yX4_termsOfColumn, Cond.code yX4_termsOfColumn cX4_termsOfColumn 5 (some .int), Cond.methodLink RX1 39 yX1_add, Cond.instanceMethod yX1_add, Cond.selects RX1 yX1_add yX1_add, Cond.code yX1_add cX1_add 5 none, Cond.methodLink RX1 47 yX1_withAllAbove, Cond.instanceMethod yX1_withAllAbove, Cond.selects RX1 yX1_withAllAbove yX1_withAllAbove, Cond.code yX1_withAllAbove cX1_withAllAbove 4 (some .int), Cond.instanceMethod yX3_build, Cond.initialized RX3, Cond.selects RX3 yX3_build yX3_build, Cond.code yX3_build cX3_build 6 none, Cond.fieldLink RX3 9 "PlaFolder$RowOrder" "termInRow" "[I", Cond.fieldLink RX3 15 "PlaFolder$RowOrder" "rowOfTerm" "[I", Cond.methodLink RX3 18 yX3_nextTerm, Cond.static yX3_nextTerm, Cond.code yX3_nextTerm cX3_nextTerm 4 (some .int)]
def wsX5_removeRedundant : List Cond := .code yX5_removeRedundant cX5_removeRedundant 3 (some .int) :: ((wsX5_removeRedundant_r1 ++ (wsX5_removeRedundant_r2 ++ (wsX5_removeRedundant_r3 ++ wsX5_removeRedundant_r4))) ++ wsX50 ++ wsX40 ++ wsX20 ++ wsX00 ++ wsX10 ++ wsX30)
def wsX5_uses : List Cond := .code yX5_uses cX5_uses 2 (some .int) :: ([.fieldLink RX5 12 "PlaFolder" "state" "LPlaFolder$State;", .instanceMethod yX4_hasColumn, .initialized RX4, .selects RX4 yX4_hasColumn yX4_hasColumn, .code yX4_hasColumn cX4_hasColumn 2 (some .boolean), .fieldLink RX4 9 "PlaFolder$State" "inputs" "I", .fieldLink RX4 15 "PlaFolder$State" "outputs" "I", .methodLink RX5 48 yX5_fail, .instanceMethod yX5_fail, .selects RX5 yX5_fail yX5_fail, .initialized RX5, .code yX5_fail cX5_fail 2 (some .int), .fieldLink RX5 44 "PlaFolder" "errors" "[I", .instanceMethod yX4_termsOfColumn, .selects RX4 yX4_termsOfColumn yX4_termsOfColumn, .code yX4_termsOfColumn cX4_termsOfColumn 5 (some .int), .fieldLink RX4 18 "PlaFolder$State" "termCount" "I", .fieldLink RX4 24 "PlaFolder$State" "ones" "[I", .fieldLink RX4 28 "PlaFolder$State" "zeros" "[I", .fieldLink RX4 31 "PlaFolder$State" "outs" "[I", .static yX5_contains, .code yX5_contains cX5_contains 2 (some .boolean)] ++ wsX50 ++ wsX40)
def wsX5_canFold_r1 : List Cond := [Cond.fieldLink RX5 12 "PlaFolder" "state" "LPlaFolder$State;", Cond.instanceMethod yX4_hasColumn, Cond.initialized RX4, Cond.selects RX4 yX4_hasColumn yX4_hasColumn, Cond.code yX4_hasColumn cX4_hasColumn 2 (some .boolean), Cond.fieldLink RX4 9 "PlaFolder$State" "inputs" "I", Cond.fieldLink RX4 15 "PlaFolder$State" "outputs" "I", Cond.methodLink RX5 48 yX5_fail, Cond.instanceMethod yX5_fail, Cond.selects RX5 yX5_fail yX5_fail, Cond.initialized RX5, Cond.code yX5_fail cX5_fail 2 (some .int), Cond.fieldLink RX5 44 "PlaFolder" "errors" "[I", Cond.instanceMethod yX4_isPair, Cond.selects RX4 yX4_isPair yX4_isPair, Cond.code yX4_isPair cX4_isPair 4 (some .boolean), Cond.methodLink RX4 79 yX4_termsOfColumn, Cond.instanceMethod yX4_termsOfColumn, Cond.selects RX4 yX4_termsOfColumn yX4_termsOfColumn, Cond.code yX4_termsOfColumn cX4_termsOfColumn 5 (some .int), Cond.fieldLink RX4 18 "PlaFolder$State" "termCount" "I", Cond.fieldLink RX4 24 "PlaFolder$State" "ones" "[I", Cond.fieldLink RX4 28 "PlaFolder$State" "zeros" "[I", Cond.fieldLink RX4 31 "PlaFolder$State" "outs" "[I"]
def wsX5_canFold_r2 : List Cond := [Cond.static yX5_contains, Cond.code yX5_contains cX5_contains 2 (some .boolean), Cond.methodLink RX5 115 yX5_flag, Cond.static yX5_flag, Cond.code yX5_flag cX5_flag 1 (some .int)]
def wsX5_canFold : List Cond := .code yX5_canFold cX5_canFold 3 (some .int) :: ((wsX5_canFold_r1 ++ wsX5_canFold_r2) ++ wsX50 ++ wsX40)
def wsX5_fold_r1 : List Cond := [Cond.fieldLink RX5 12 "PlaFolder" "state" "LPlaFolder$State;", Cond.fieldLink RX5 26 "PlaFolder" "demands" "LPlaFolder$Demands;", Cond.fieldLink RX5 19 "PlaFolder" "history" "LPlaFolder$History;", Cond.instanceMethod yX4_hasColumn, Cond.initialized RX4, Cond.selects RX4 yX4_hasColumn yX4_hasColumn, Cond.code yX4_hasColumn cX4_hasColumn 2 (some .boolean), Cond.fieldLink RX4 9 "PlaFolder$State" "inputs" "I", Cond.fieldLink RX4 15 "PlaFolder$State" "outputs" "I", Cond.methodLink RX5 48 yX5_fail, Cond.instanceMethod yX5_fail, Cond.selects RX5 yX5_fail yX5_fail, Cond.initialized RX5, Cond.code yX5_fail cX5_fail 2 (some .int), Cond.fieldLink RX5 44 "PlaFolder" "errors" "[I", Cond.instanceMethod yX4_isPair, Cond.selects RX4 yX4_isPair yX4_isPair, Cond.code yX4_isPair cX4_isPair 4 (some .boolean), Cond.methodLink RX4 79 yX4_termsOfColumn, Cond.instanceMethod yX4_termsOfColumn, Cond.selects RX4 yX4_termsOfColumn yX4_termsOfColumn, Cond.code yX4_termsOfColumn cX4_termsOfColumn 5 (some .int), Cond.fieldLink RX4 18 "PlaFolder$State" "termCount" "I", Cond.fieldLink RX4 24 "PlaFolder$State" "ones" "[I"]
def wsX5_fold_r2 : List Cond := [Cond.fieldLink RX4 28 "PlaFolder$State" "zeros" "[I", Cond.fieldLink RX4 31 "PlaFolder$State" "outs" "[I", Cond.static yX5_contains, Cond.code yX5_contains cX5_contains 2 (some .boolean), Cond.instanceMethod yX4_mateOf, Cond.selects RX4 yX4_mateOf yX4_mateOf, Cond.code yX4_mateOf cX4_mateOf 2 (some .int), Cond.fieldLink RX4 38 "PlaFolder$State" "lowerOf" "[I", Cond.fieldLink RX4 41 "PlaFolder$State" "upperOf" "[I", Cond.instanceMethod yX1_allow, Cond.initialized RX1, Cond.selects RX1 yX1_allow yX1_allow, Cond.code yX1_allow cX1_allow 3 (some .boolean), Cond.methodLink RX1 47 yX1_withAllAbove, Cond.instanceMethod yX1_withAllAbove, Cond.selects RX1 yX1_withAllAbove yX1_withAllAbove, Cond.code yX1_withAllAbove cX1_withAllAbove 4 (some .int), Cond.fieldLink RX1 9 "PlaFolder$Demands" "above" "[I", Cond.instanceMethod yX2_push, Cond.initialized RX2, Cond.selects RX2 yX2_push yX2_push, Cond.code yX2_push cX2_push 2 none, Cond.fieldLink RX2 17 "PlaFolder$History" "count" "I", Cond.fieldLink RX2 11 "PlaFolder$History" "saved" "[LPlaFolder$State;"]
def wsX5_fold_r3 : List Cond := [Cond.methodLink RX2 22 yX2_dropOldest, Cond.instanceMethod yX2_dropOldest, Cond.selects RX2 yX2_dropOldest yX2_dropOldest, Cond.code yX2_dropOldest cX2_dropOldest 3 none, Cond.instanceMethod yX4_copyFrom, Cond.selects RX4 yX4_copyFrom yX4_copyFrom, Cond.code yX4_copyFrom cX4_copyFrom 2 none, Cond.fieldLink RX4 21 "PlaFolder$State" "foldCount" "I", Cond.methodLink RX4 50 arraycopyName, Cond.native arraycopyName, Cond.static arraycopyName, Cond.initialized "java/lang/System", Cond.fieldLink RX4 34 "PlaFolder$State" "words" "[J", Cond.instanceMethod yX4_join, Cond.selects RX4 yX4_join yX4_join, Cond.code yX4_join cX4_join 3 none, Cond.methodLink RX5 138 yX5_foldsChanged, Cond.instanceMethod yX5_foldsChanged, Cond.selects RX5 yX5_foldsChanged yX5_foldsChanged, Cond.code yX5_foldsChanged cX5_foldsChanged 1 none, Cond.fieldLink RX5 33 "PlaFolder" "rows" "LPlaFolder$RowOrder;", Cond.instanceMethod yX1_collect, Cond.selects RX1 yX1_collect yX1_collect, Cond.code yX1_collect cX1_collect 4 none]
def wsX5_fold_r4 : List Cond := [Cond.methodLink RX1 27 yX1_clear, Cond.instanceMethod yX1_clear, Cond.selects RX1 yX1_clear yX1_clear, Cond.code yX1_clear cX1_clear 1 none, Cond.methodLink RX1 15 yJ7_fill_53178, Cond.static yJ7_fill_53178, Cond.initialized RJ7, Cond.code yJ7_fill_53178 cJ7_fill_53178 4 none, Cond.methodLink RX1 39 yX1_add, Cond.instanceMethod yX1_add, Cond.selects RX1 yX1_add yX1_add, Cond.code yX1_add cX1_add 5 none, Cond.instanceMethod yX3_build, Cond.initialized RX3, Cond.selects RX3 yX3_build yX3_build, Cond.code yX3_build cX3_build 6 none, Cond.fieldLink RX3 9 "PlaFolder$RowOrder" "termInRow" "[I", Cond.fieldLink RX3 15 "PlaFolder$RowOrder" "rowOfTerm" "[I", Cond.methodLink RX3 18 yX3_nextTerm, Cond.static yX3_nextTerm, Cond.code yX3_nextTerm cX3_nextTerm 4 (some .int)]
def wsX5_fold : List Cond := .code yX5_fold cX5_fold 3 (some .int) :: ((wsX5_fold_r1 ++ (wsX5_fold_r2 ++ (wsX5_fold_r3 ++ wsX5_fold_r4))) ++ wsX50 ++ wsX40 ++ wsX10 ++ wsX20 ++ wsX30)
def wsX5_unfold_r1 : List Cond := [Cond.fieldLink RX5 12 "PlaFolder" "state" "LPlaFolder$State;", Cond.fieldLink RX5 19 "PlaFolder" "history" "LPlaFolder$History;", Cond.instanceMethod yX4_hasColumn, Cond.initialized RX4, Cond.selects RX4 yX4_hasColumn yX4_hasColumn, Cond.code yX4_hasColumn cX4_hasColumn 2 (some .boolean), Cond.fieldLink RX4 9 "PlaFolder$State" "inputs" "I", Cond.fieldLink RX4 15 "PlaFolder$State" "outputs" "I", Cond.methodLink RX5 48 yX5_fail, Cond.instanceMethod yX5_fail, Cond.selects RX5 yX5_fail yX5_fail, Cond.initialized RX5, Cond.code yX5_fail cX5_fail 2 (some .int), Cond.fieldLink RX5 44 "PlaFolder" "errors" "[I", Cond.instanceMethod yX4_mateOf, Cond.selects RX4 yX4_mateOf yX4_mateOf, Cond.code yX4_mateOf cX4_mateOf 2 (some .int), Cond.fieldLink RX4 38 "PlaFolder$State" "lowerOf" "[I", Cond.fieldLink RX4 41 "PlaFolder$State" "upperOf" "[I", Cond.instanceMethod yX2_push, Cond.initialized RX2, Cond.selects RX2 yX2_push yX2_push, Cond.code yX2_push cX2_push 2 none, Cond.fieldLink RX2 17 "PlaFolder$History" "count" "I"]
def wsX5_unfold_r2 : List Cond := [Cond.fieldLink RX2 11 "PlaFolder$History" "saved" "[LPlaFolder$State;", Cond.methodLink RX2 22 yX2_dropOldest, Cond.instanceMethod yX2_dropOldest, Cond.selects RX2 yX2_dropOldest yX2_dropOldest, Cond.code yX2_dropOldest cX2_dropOldest 3 none, Cond.instanceMethod yX4_copyFrom, Cond.selects RX4 yX4_copyFrom yX4_copyFrom, Cond.code yX4_copyFrom cX4_copyFrom 2 none, Cond.fieldLink RX4 18 "PlaFolder$State" "termCount" "I", Cond.fieldLink RX4 21 "PlaFolder$State" "foldCount" "I", Cond.fieldLink RX4 24 "PlaFolder$State" "ones" "[I", Cond.methodLink RX4 50 arraycopyName, Cond.native arraycopyName, Cond.static arraycopyName, Cond.initialized "java/lang/System", Cond.fieldLink RX4 28 "PlaFolder$State" "zeros" "[I", Cond.fieldLink RX4 31 "PlaFolder$State" "outs" "[I", Cond.fieldLink RX4 34 "PlaFolder$State" "words" "[J", Cond.instanceMethod yX4_part, Cond.selects RX4 yX4_part yX4_part, Cond.code yX4_part cX4_part 3 none, Cond.methodLink RX4 83 yX4_mateOf, Cond.methodLink RX5 138 yX5_foldsChanged, Cond.instanceMethod yX5_foldsChanged]
def wsX5_unfold_r3 : List Cond := [Cond.selects RX5 yX5_foldsChanged yX5_foldsChanged, Cond.code yX5_foldsChanged cX5_foldsChanged 1 none, Cond.fieldLink RX5 26 "PlaFolder" "demands" "LPlaFolder$Demands;", Cond.fieldLink RX5 33 "PlaFolder" "rows" "LPlaFolder$RowOrder;", Cond.instanceMethod yX1_collect, Cond.initialized RX1, Cond.selects RX1 yX1_collect yX1_collect, Cond.code yX1_collect cX1_collect 4 none, Cond.methodLink RX1 27 yX1_clear, Cond.instanceMethod yX1_clear, Cond.selects RX1 yX1_clear yX1_clear, Cond.code yX1_clear cX1_clear 1 none, Cond.fieldLink RX1 9 "PlaFolder$Demands" "above" "[I", Cond.methodLink RX1 15 yJ7_fill_53178, Cond.static yJ7_fill_53178, Cond.initialized RJ7, Cond.code yJ7_fill_53178 cJ7_fill_53178 4 none, Cond.instanceMethod yX4_termsOfColumn, Cond.selects RX4 yX4_termsOfColumn yX4_termsOfColumn, Cond.code yX4_termsOfColumn cX4_termsOfColumn 5 (some .int), Cond.static yX5_contains, Cond.code yX5_contains cX5_contains 2 (some .boolean), Cond.methodLink RX1 39 yX1_add, Cond.instanceMethod yX1_add]
def wsX5_unfold_r4 : List Cond := [Cond.selects RX1 yX1_add yX1_add, Cond.code yX1_add cX1_add 5 none, Cond.methodLink RX1 47 yX1_withAllAbove, Cond.instanceMethod yX1_withAllAbove, Cond.selects RX1 yX1_withAllAbove yX1_withAllAbove, Cond.code yX1_withAllAbove cX1_withAllAbove 4 (some .int), Cond.instanceMethod yX3_build, Cond.initialized RX3, Cond.selects RX3 yX3_build yX3_build, Cond.code yX3_build cX3_build 6 none, Cond.fieldLink RX3 9 "PlaFolder$RowOrder" "termInRow" "[I", Cond.fieldLink RX3 15 "PlaFolder$RowOrder" "rowOfTerm" "[I", Cond.methodLink RX3 18 yX3_nextTerm, Cond.static yX3_nextTerm, Cond.code yX3_nextTerm cX3_nextTerm 4 (some .int)]
def wsX5_unfold : List Cond := .code yX5_unfold cX5_unfold 2 (some .int) :: ((wsX5_unfold_r1 ++ (wsX5_unfold_r2 ++ (wsX5_unfold_r3 ++ wsX5_unfold_r4))) ++ wsX50 ++ wsX40 ++ wsX20 ++ wsX10 ++ wsX30)
def wsX5_partner : List Cond := .code yX5_partner cX5_partner 2 (some .int) :: ([.fieldLink RX5 12 "PlaFolder" "state" "LPlaFolder$State;", .instanceMethod yX4_hasColumn, .initialized RX4, .selects RX4 yX4_hasColumn yX4_hasColumn, .code yX4_hasColumn cX4_hasColumn 2 (some .boolean), .fieldLink RX4 9 "PlaFolder$State" "inputs" "I", .fieldLink RX4 15 "PlaFolder$State" "outputs" "I", .methodLink RX5 48 yX5_fail, .instanceMethod yX5_fail, .selects RX5 yX5_fail yX5_fail, .initialized RX5, .code yX5_fail cX5_fail 2 (some .int), .fieldLink RX5 44 "PlaFolder" "errors" "[I", .instanceMethod yX4_mateOf, .selects RX4 yX4_mateOf yX4_mateOf, .code yX4_mateOf cX4_mateOf 2 (some .int), .fieldLink RX4 38 "PlaFolder$State" "lowerOf" "[I", .fieldLink RX4 41 "PlaFolder$State" "upperOf" "[I"] ++ wsX50 ++ wsX40)
def wsX5_folds : List Cond := .code yX5_folds cX5_folds 1 (some .int) :: ([.fieldLink RX5 12 "PlaFolder" "state" "LPlaFolder$State;"] ++ wsX50 ++ wsX40)
def wsX5_termAt : List Cond := .code yX5_termAt cX5_termAt 2 (some .int) :: ([.fieldLink RX5 12 "PlaFolder" "state" "LPlaFolder$State;", .fieldLink RX5 33 "PlaFolder" "rows" "LPlaFolder$RowOrder;", .instanceMethod yX4_hasTerm, .initialized RX4, .selects RX4 yX4_hasTerm yX4_hasTerm, .code yX4_hasTerm cX4_hasTerm 2 (some .boolean), .fieldLink RX4 18 "PlaFolder$State" "termCount" "I", .methodLink RX5 48 yX5_fail, .instanceMethod yX5_fail, .selects RX5 yX5_fail yX5_fail, .initialized RX5, .code yX5_fail cX5_fail 2 (some .int), .fieldLink RX5 44 "PlaFolder" "errors" "[I"] ++ wsX50 ++ wsX30 ++ wsX40)
def wsX5_rowOf : List Cond := .code yX5_rowOf cX5_rowOf 2 (some .int) :: ([.fieldLink RX5 12 "PlaFolder" "state" "LPlaFolder$State;", .fieldLink RX5 33 "PlaFolder" "rows" "LPlaFolder$RowOrder;", .instanceMethod yX4_hasTerm, .initialized RX4, .selects RX4 yX4_hasTerm yX4_hasTerm, .code yX4_hasTerm cX4_hasTerm 2 (some .boolean), .fieldLink RX4 18 "PlaFolder$State" "termCount" "I", .methodLink RX5 48 yX5_fail, .instanceMethod yX5_fail, .selects RX5 yX5_fail yX5_fail, .initialized RX5, .code yX5_fail cX5_fail 2 (some .int), .fieldLink RX5 44 "PlaFolder" "errors" "[I"] ++ wsX50 ++ wsX30 ++ wsX40)
def wsX5_mustPrecede : List Cond := .code yX5_mustPrecede cX5_mustPrecede 3 (some .int) :: ([.fieldLink RX5 12 "PlaFolder" "state" "LPlaFolder$State;", .fieldLink RX5 26 "PlaFolder" "demands" "LPlaFolder$Demands;", .instanceMethod yX4_hasTerm, .initialized RX4, .selects RX4 yX4_hasTerm yX4_hasTerm, .code yX4_hasTerm cX4_hasTerm 2 (some .boolean), .fieldLink RX4 18 "PlaFolder$State" "termCount" "I", .methodLink RX5 48 yX5_fail, .instanceMethod yX5_fail, .selects RX5 yX5_fail yX5_fail, .initialized RX5, .code yX5_fail cX5_fail 2 (some .int), .fieldLink RX5 44 "PlaFolder" "errors" "[I", .methodLink RX5 156 yX5_contains, .static yX5_contains, .code yX5_contains cX5_contains 2 (some .boolean), .methodLink RX5 115 yX5_flag, .static yX5_flag, .code yX5_flag cX5_flag 1 (some .int)] ++ wsX50 ++ wsX10 ++ wsX40)
def wsX5_area : List Cond := .code yX5_area cX5_area 1 (some .int) :: ([.fieldLink RX5 12 "PlaFolder" "state" "LPlaFolder$State;"] ++ wsX50 ++ wsX40)
def wsX5_span_r1 : List Cond := [Cond.fieldLink RX5 12 "PlaFolder" "state" "LPlaFolder$State;", Cond.fieldLink RX5 33 "PlaFolder" "rows" "LPlaFolder$RowOrder;", Cond.instanceMethod yX4_hasColumn, Cond.initialized RX4, Cond.selects RX4 yX4_hasColumn yX4_hasColumn, Cond.code yX4_hasColumn cX4_hasColumn 2 (some .boolean), Cond.fieldLink RX4 9 "PlaFolder$State" "inputs" "I", Cond.fieldLink RX4 15 "PlaFolder$State" "outputs" "I", Cond.methodLink RX5 48 yX5_fail, Cond.instanceMethod yX5_fail, Cond.selects RX5 yX5_fail yX5_fail, Cond.initialized RX5, Cond.code yX5_fail cX5_fail 2 (some .int), Cond.fieldLink RX5 44 "PlaFolder" "errors" "[I", Cond.instanceMethod yX4_termsOfColumn, Cond.selects RX4 yX4_termsOfColumn yX4_termsOfColumn, Cond.code yX4_termsOfColumn cX4_termsOfColumn 5 (some .int), Cond.fieldLink RX4 18 "PlaFolder$State" "termCount" "I", Cond.fieldLink RX4 24 "PlaFolder$State" "ones" "[I", Cond.fieldLink RX4 28 "PlaFolder$State" "zeros" "[I", Cond.fieldLink RX4 31 "PlaFolder$State" "outs" "[I", Cond.static yX5_contains, Cond.code yX5_contains cX5_contains 2 (some .boolean), Cond.instanceMethod yX3_spread]
def wsX5_span_r2 : List Cond := [Cond.initialized RX3, Cond.selects RX3 yX3_spread yX3_spread, Cond.code yX3_spread cX3_spread 6 (some .int), Cond.fieldLink RX3 15 "PlaFolder$RowOrder" "rowOfTerm" "[I", Cond.methodLink RX3 31 Lib.Math.min.name, Cond.static Lib.Math.min.name, Cond.initialized "java/lang/Math", Cond.code Lib.Math.min.name Lib.Math.min.code 2 (some .int), Cond.methodLink RX3 37 Lib.Math.max.name, Cond.static Lib.Math.max.name, Cond.code Lib.Math.max.name Lib.Math.max.code 2 (some .int)]
def wsX5_span : List Cond := .code yX5_span cX5_span 2 (some .int) :: ((wsX5_span_r1 ++ wsX5_span_r2) ++ wsX50 ++ wsX40 ++ wsX30)
def wsX5_findBest_r1 : List Cond := [Cond.fieldLink RX5 40 "PlaFolder" "best" "LPlaFolder$BestFolding;", Cond.fieldLink RX5 12 "PlaFolder" "state" "LPlaFolder$State;", Cond.instanceMethod yX0_search, Cond.initialized RX0, Cond.selects RX0 yX0_search yX0_search, Cond.code yX0_search cX0_search 2 none, Cond.fieldLink RX0 15 "PlaFolder$BestFolding" "count" "I", Cond.fieldLink RX0 9 "PlaFolder$BestFolding" "known" "Z", Cond.methodLink RX0 45 yX0_foldableColumns, Cond.instanceMethod yX0_foldableColumns, Cond.selects RX0 yX0_foldableColumns yX0_foldableColumns, Cond.code yX0_foldableColumns cX0_foldableColumns 4 (some .int), Cond.fieldLink RX0 32 "PlaFolder$BestFolding" "used" "[I", Cond.fieldLink RX0 35 "PlaFolder$BestFolding" "mates" "[I", Cond.instanceMethod yX4_termsOfColumn, Cond.initialized RX4, Cond.selects RX4 yX4_termsOfColumn yX4_termsOfColumn, Cond.code yX4_termsOfColumn cX4_termsOfColumn 5 (some .int), Cond.fieldLink RX4 18 "PlaFolder$State" "termCount" "I", Cond.fieldLink RX4 24 "PlaFolder$State" "ones" "[I", Cond.fieldLink RX4 28 "PlaFolder$State" "zeros" "[I", Cond.fieldLink RX4 31 "PlaFolder$State" "outs" "[I", Cond.static yX5_contains, Cond.initialized RX5]
def wsX5_findBest_r2 : List Cond := [Cond.code yX5_contains cX5_contains 2 (some .boolean), Cond.methodLink RX0 59 yX0_matesOf, Cond.static yX0_matesOf, Cond.code yX0_matesOf cX0_matesOf 4 (some .int), Cond.instanceMethod yX4_hasColumn, Cond.selects RX4 yX4_hasColumn yX4_hasColumn, Cond.code yX4_hasColumn cX4_hasColumn 2 (some .boolean), Cond.fieldLink RX4 9 "PlaFolder$State" "inputs" "I", Cond.fieldLink RX4 15 "PlaFolder$State" "outputs" "I", Cond.instanceMethod yX4_isPair, Cond.selects RX4 yX4_isPair yX4_isPair, Cond.code yX4_isPair cX4_isPair 4 (some .boolean), Cond.methodLink RX4 79 yX4_termsOfColumn, Cond.methodLink RX0 49 yX0_extend, Cond.instanceMethod yX0_extend, Cond.selects RX0 yX0_extend yX0_extend, Cond.code yX0_extend cX0_extend 5 none, Cond.methodLink RX0 71 yX0_keep, Cond.instanceMethod yX0_keep, Cond.selects RX0 yX0_keep yX0_keep, Cond.code yX0_keep cX0_keep 2 none, Cond.fieldLink RX0 26 "PlaFolder$BestFolding" "triedUpper" "[I", Cond.fieldLink RX0 19 "PlaFolder$BestFolding" "upper" "[I", Cond.methodLink RX0 96 arraycopyName]
def wsX5_findBest_r3 : List Cond := [Cond.native arraycopyName, Cond.static arraycopyName, Cond.initialized "java/lang/System", Cond.fieldLink RX0 29 "PlaFolder$BestFolding" "triedLower" "[I", Cond.fieldLink RX0 23 "PlaFolder$BestFolding" "lower" "[I", Cond.methodLink RX0 75 yX0_mostFolds, Cond.static yX0_mostFolds, Cond.code yX0_mostFolds cX0_mostFolds 2 (some .int), Cond.methodLink RX0 102 yX0_mostOfKind, Cond.static yX0_mostOfKind, Cond.code yX0_mostOfKind cX0_mostOfKind 3 (some .int), Cond.methodLink RX0 110 Lib.Math.min.name, Cond.static Lib.Math.min.name, Cond.initialized "java/lang/Math", Cond.code Lib.Math.min.name Lib.Math.min.code 2 (some .int), Cond.methodLink RX0 105 yJ6_bitCount_0f7a4, Cond.static yJ6_bitCount_0f7a4, Cond.initialized RJ6, Cond.code yJ6_bitCount_0f7a4 cJ6_bitCount_0f7a4 1 (some .int), Cond.constant RJ6 265 (1431655765), Cond.constant RJ6 266 (858993459), Cond.constant RJ6 267 (252645135), Cond.methodLink RX0 82 yX0_tryLowers, Cond.instanceMethod yX0_tryLowers]
def wsX5_findBest_r4 : List Cond := [Cond.selects RX0 yX0_tryLowers yX0_tryLowers, Cond.code yX0_tryLowers cX0_tryLowers 6 none, Cond.fieldLink RX0 40 "PlaFolder$BestFolding" "demandsAt" "[LPlaFolder$Demands;", Cond.instanceMethod yX1_allow, Cond.initialized RX1, Cond.selects RX1 yX1_allow yX1_allow, Cond.code yX1_allow cX1_allow 3 (some .boolean), Cond.methodLink RX1 47 yX1_withAllAbove, Cond.instanceMethod yX1_withAllAbove, Cond.selects RX1 yX1_withAllAbove yX1_withAllAbove, Cond.code yX1_withAllAbove cX1_withAllAbove 4 (some .int), Cond.fieldLink RX1 9 "PlaFolder$Demands" "above" "[I", Cond.instanceMethod yX1_copyFrom, Cond.selects RX1 yX1_copyFrom yX1_copyFrom, Cond.code yX1_copyFrom cX1_copyFrom 2 none, Cond.methodLink RX1 21 arraycopyName, Cond.instanceMethod yX1_add, Cond.selects RX1 yX1_add yX1_add, Cond.code yX1_add cX1_add 5 none]
def wsX5_findBest : List Cond := .code yX5_findBest cX5_findBest 1 none :: ((wsX5_findBest_r1 ++ (wsX5_findBest_r2 ++ (wsX5_findBest_r3 ++ wsX5_findBest_r4))) ++ wsX50 ++ wsX00 ++ wsX40 ++ wsX10)
def wsX5_bestUpper_r1 : List Cond := [Cond.fieldLink RX5 40 "PlaFolder" "best" "LPlaFolder$BestFolding;", Cond.methodLink RX5 48 yX5_fail, Cond.instanceMethod yX5_fail, Cond.selects RX5 yX5_fail yX5_fail, Cond.initialized RX5, Cond.code yX5_fail cX5_fail 2 (some .int), Cond.fieldLink RX5 44 "PlaFolder" "errors" "[I", Cond.methodLink RX5 163 yX5_findBest, Cond.instanceMethod yX5_findBest, Cond.selects RX5 yX5_findBest yX5_findBest, Cond.code yX5_findBest cX5_findBest 1 none, Cond.fieldLink RX5 12 "PlaFolder" "state" "LPlaFolder$State;", Cond.instanceMethod yX0_search, Cond.initialized RX0, Cond.selects RX0 yX0_search yX0_search, Cond.code yX0_search cX0_search 2 none, Cond.fieldLink RX0 15 "PlaFolder$BestFolding" "count" "I", Cond.fieldLink RX0 9 "PlaFolder$BestFolding" "known" "Z", Cond.methodLink RX0 45 yX0_foldableColumns, Cond.instanceMethod yX0_foldableColumns, Cond.selects RX0 yX0_foldableColumns yX0_foldableColumns, Cond.code yX0_foldableColumns cX0_foldableColumns 4 (some .int), Cond.fieldLink RX0 32 "PlaFolder$BestFolding" "used" "[I", Cond.fieldLink RX0 35 "PlaFolder$BestFolding" "mates" "[I"]
def wsX5_bestUpper_r2 : List Cond := [Cond.instanceMethod yX4_termsOfColumn, Cond.initialized RX4, Cond.selects RX4 yX4_termsOfColumn yX4_termsOfColumn, Cond.code yX4_termsOfColumn cX4_termsOfColumn 5 (some .int), Cond.fieldLink RX4 18 "PlaFolder$State" "termCount" "I", Cond.fieldLink RX4 24 "PlaFolder$State" "ones" "[I", Cond.fieldLink RX4 28 "PlaFolder$State" "zeros" "[I", Cond.fieldLink RX4 31 "PlaFolder$State" "outs" "[I", Cond.static yX5_contains, Cond.code yX5_contains cX5_contains 2 (some .boolean), Cond.methodLink RX0 59 yX0_matesOf, Cond.static yX0_matesOf, Cond.code yX0_matesOf cX0_matesOf 4 (some .int), Cond.instanceMethod yX4_hasColumn, Cond.selects RX4 yX4_hasColumn yX4_hasColumn, Cond.code yX4_hasColumn cX4_hasColumn 2 (some .boolean), Cond.fieldLink RX4 9 "PlaFolder$State" "inputs" "I", Cond.fieldLink RX4 15 "PlaFolder$State" "outputs" "I", Cond.instanceMethod yX4_isPair, Cond.selects RX4 yX4_isPair yX4_isPair, Cond.code yX4_isPair cX4_isPair 4 (some .boolean), Cond.methodLink RX4 79 yX4_termsOfColumn, Cond.methodLink RX0 49 yX0_extend, Cond.instanceMethod yX0_extend]
def wsX5_bestUpper_r3 : List Cond := [Cond.selects RX0 yX0_extend yX0_extend, Cond.code yX0_extend cX0_extend 5 none, Cond.methodLink RX0 71 yX0_keep, Cond.instanceMethod yX0_keep, Cond.selects RX0 yX0_keep yX0_keep, Cond.code yX0_keep cX0_keep 2 none, Cond.fieldLink RX0 26 "PlaFolder$BestFolding" "triedUpper" "[I", Cond.fieldLink RX0 19 "PlaFolder$BestFolding" "upper" "[I", Cond.methodLink RX0 96 arraycopyName, Cond.native arraycopyName, Cond.static arraycopyName, Cond.initialized "java/lang/System", Cond.fieldLink RX0 29 "PlaFolder$BestFolding" "triedLower" "[I", Cond.fieldLink RX0 23 "PlaFolder$BestFolding" "lower" "[I", Cond.methodLink RX0 75 yX0_mostFolds, Cond.static yX0_mostFolds, Cond.code yX0_mostFolds cX0_mostFolds 2 (some .int), Cond.methodLink RX0 102 yX0_mostOfKind, Cond.static yX0_mostOfKind, Cond.code yX0_mostOfKind cX0_mostOfKind 3 (some .int), Cond.methodLink RX0 110 Lib.Math.min.name, Cond.static Lib.Math.min.name, Cond.initialized "java/lang/Math", Cond.code Lib.Math.min.name Lib.Math.min.code 2 (some .int)]
def wsX5_bestUpper_r4 : List Cond := [Cond.methodLink RX0 105 yJ6_bitCount_0f7a4, Cond.static yJ6_bitCount_0f7a4, Cond.initialized RJ6, Cond.code yJ6_bitCount_0f7a4 cJ6_bitCount_0f7a4 1 (some .int), Cond.constant RJ6 265 (1431655765), Cond.constant RJ6 266 (858993459), Cond.constant RJ6 267 (252645135), Cond.methodLink RX0 82 yX0_tryLowers, Cond.instanceMethod yX0_tryLowers, Cond.selects RX0 yX0_tryLowers yX0_tryLowers, Cond.code yX0_tryLowers cX0_tryLowers 6 none, Cond.fieldLink RX0 40 "PlaFolder$BestFolding" "demandsAt" "[LPlaFolder$Demands;", Cond.instanceMethod yX1_allow, Cond.initialized RX1, Cond.selects RX1 yX1_allow yX1_allow, Cond.code yX1_allow cX1_allow 3 (some .boolean), Cond.methodLink RX1 47 yX1_withAllAbove, Cond.instanceMethod yX1_withAllAbove, Cond.selects RX1 yX1_withAllAbove yX1_withAllAbove, Cond.code yX1_withAllAbove cX1_withAllAbove 4 (some .int), Cond.fieldLink RX1 9 "PlaFolder$Demands" "above" "[I", Cond.instanceMethod yX1_copyFrom, Cond.selects RX1 yX1_copyFrom yX1_copyFrom, Cond.code yX1_copyFrom cX1_copyFrom 2 none]
def wsX5_bestUpper_r5 : List Cond := [Cond.methodLink RX1 21 arraycopyName, Cond.instanceMethod yX1_add, Cond.selects RX1 yX1_add yX1_add, Cond.code yX1_add cX1_add 5 none]
def wsX5_bestUpper : List Cond := .code yX5_bestUpper cX5_bestUpper 2 (some .int) :: ((wsX5_bestUpper_r1 ++ (wsX5_bestUpper_r2 ++ (wsX5_bestUpper_r3 ++ (wsX5_bestUpper_r4 ++ wsX5_bestUpper_r5)))) ++ wsX50 ++ wsX00 ++ wsX40 ++ wsX10)
def wsX5_bestLower_r1 : List Cond := [Cond.fieldLink RX5 40 "PlaFolder" "best" "LPlaFolder$BestFolding;", Cond.methodLink RX5 48 yX5_fail, Cond.instanceMethod yX5_fail, Cond.selects RX5 yX5_fail yX5_fail, Cond.initialized RX5, Cond.code yX5_fail cX5_fail 2 (some .int), Cond.fieldLink RX5 44 "PlaFolder" "errors" "[I", Cond.methodLink RX5 163 yX5_findBest, Cond.instanceMethod yX5_findBest, Cond.selects RX5 yX5_findBest yX5_findBest, Cond.code yX5_findBest cX5_findBest 1 none, Cond.fieldLink RX5 12 "PlaFolder" "state" "LPlaFolder$State;", Cond.instanceMethod yX0_search, Cond.initialized RX0, Cond.selects RX0 yX0_search yX0_search, Cond.code yX0_search cX0_search 2 none, Cond.fieldLink RX0 15 "PlaFolder$BestFolding" "count" "I", Cond.fieldLink RX0 9 "PlaFolder$BestFolding" "known" "Z", Cond.methodLink RX0 45 yX0_foldableColumns, Cond.instanceMethod yX0_foldableColumns, Cond.selects RX0 yX0_foldableColumns yX0_foldableColumns, Cond.code yX0_foldableColumns cX0_foldableColumns 4 (some .int), Cond.fieldLink RX0 32 "PlaFolder$BestFolding" "used" "[I", Cond.fieldLink RX0 35 "PlaFolder$BestFolding" "mates" "[I"]
def wsX5_bestLower_r2 : List Cond := [Cond.instanceMethod yX4_termsOfColumn, Cond.initialized RX4, Cond.selects RX4 yX4_termsOfColumn yX4_termsOfColumn, Cond.code yX4_termsOfColumn cX4_termsOfColumn 5 (some .int), Cond.fieldLink RX4 18 "PlaFolder$State" "termCount" "I", Cond.fieldLink RX4 24 "PlaFolder$State" "ones" "[I", Cond.fieldLink RX4 28 "PlaFolder$State" "zeros" "[I", Cond.fieldLink RX4 31 "PlaFolder$State" "outs" "[I", Cond.static yX5_contains, Cond.code yX5_contains cX5_contains 2 (some .boolean), Cond.methodLink RX0 59 yX0_matesOf, Cond.static yX0_matesOf, Cond.code yX0_matesOf cX0_matesOf 4 (some .int), Cond.instanceMethod yX4_hasColumn, Cond.selects RX4 yX4_hasColumn yX4_hasColumn, Cond.code yX4_hasColumn cX4_hasColumn 2 (some .boolean), Cond.fieldLink RX4 9 "PlaFolder$State" "inputs" "I", Cond.fieldLink RX4 15 "PlaFolder$State" "outputs" "I", Cond.instanceMethod yX4_isPair, Cond.selects RX4 yX4_isPair yX4_isPair, Cond.code yX4_isPair cX4_isPair 4 (some .boolean), Cond.methodLink RX4 79 yX4_termsOfColumn, Cond.methodLink RX0 49 yX0_extend, Cond.instanceMethod yX0_extend]
def wsX5_bestLower_r3 : List Cond := [Cond.selects RX0 yX0_extend yX0_extend, Cond.code yX0_extend cX0_extend 5 none, Cond.methodLink RX0 71 yX0_keep, Cond.instanceMethod yX0_keep, Cond.selects RX0 yX0_keep yX0_keep, Cond.code yX0_keep cX0_keep 2 none, Cond.fieldLink RX0 26 "PlaFolder$BestFolding" "triedUpper" "[I", Cond.fieldLink RX0 19 "PlaFolder$BestFolding" "upper" "[I", Cond.methodLink RX0 96 arraycopyName, Cond.native arraycopyName, Cond.static arraycopyName, Cond.initialized "java/lang/System", Cond.fieldLink RX0 29 "PlaFolder$BestFolding" "triedLower" "[I", Cond.fieldLink RX0 23 "PlaFolder$BestFolding" "lower" "[I", Cond.methodLink RX0 75 yX0_mostFolds, Cond.static yX0_mostFolds, Cond.code yX0_mostFolds cX0_mostFolds 2 (some .int), Cond.methodLink RX0 102 yX0_mostOfKind, Cond.static yX0_mostOfKind, Cond.code yX0_mostOfKind cX0_mostOfKind 3 (some .int), Cond.methodLink RX0 110 Lib.Math.min.name, Cond.static Lib.Math.min.name, Cond.initialized "java/lang/Math", Cond.code Lib.Math.min.name Lib.Math.min.code 2 (some .int)]
def wsX5_bestLower_r4 : List Cond := [Cond.methodLink RX0 105 yJ6_bitCount_0f7a4, Cond.static yJ6_bitCount_0f7a4, Cond.initialized RJ6, Cond.code yJ6_bitCount_0f7a4 cJ6_bitCount_0f7a4 1 (some .int), Cond.constant RJ6 265 (1431655765), Cond.constant RJ6 266 (858993459), Cond.constant RJ6 267 (252645135), Cond.methodLink RX0 82 yX0_tryLowers, Cond.instanceMethod yX0_tryLowers, Cond.selects RX0 yX0_tryLowers yX0_tryLowers, Cond.code yX0_tryLowers cX0_tryLowers 6 none, Cond.fieldLink RX0 40 "PlaFolder$BestFolding" "demandsAt" "[LPlaFolder$Demands;", Cond.instanceMethod yX1_allow, Cond.initialized RX1, Cond.selects RX1 yX1_allow yX1_allow, Cond.code yX1_allow cX1_allow 3 (some .boolean), Cond.methodLink RX1 47 yX1_withAllAbove, Cond.instanceMethod yX1_withAllAbove, Cond.selects RX1 yX1_withAllAbove yX1_withAllAbove, Cond.code yX1_withAllAbove cX1_withAllAbove 4 (some .int), Cond.fieldLink RX1 9 "PlaFolder$Demands" "above" "[I", Cond.instanceMethod yX1_copyFrom, Cond.selects RX1 yX1_copyFrom yX1_copyFrom, Cond.code yX1_copyFrom cX1_copyFrom 2 none]
def wsX5_bestLower_r5 : List Cond := [Cond.methodLink RX1 21 arraycopyName, Cond.instanceMethod yX1_add, Cond.selects RX1 yX1_add yX1_add, Cond.code yX1_add cX1_add 5 none]
def wsX5_bestLower : List Cond := .code yX5_bestLower cX5_bestLower 2 (some .int) :: ((wsX5_bestLower_r1 ++ (wsX5_bestLower_r2 ++ (wsX5_bestLower_r3 ++ (wsX5_bestLower_r4 ++ wsX5_bestLower_r5)))) ++ wsX50 ++ wsX00 ++ wsX40 ++ wsX10)
def wsX5_foldBest_r1 : List Cond := [Cond.fieldLink RX5 19 "PlaFolder" "history" "LPlaFolder$History;", Cond.fieldLink RX5 12 "PlaFolder" "state" "LPlaFolder$State;", Cond.fieldLink RX5 40 "PlaFolder" "best" "LPlaFolder$BestFolding;", Cond.methodLink RX5 163 yX5_findBest, Cond.instanceMethod yX5_findBest, Cond.selects RX5 yX5_findBest yX5_findBest, Cond.initialized RX5, Cond.code yX5_findBest cX5_findBest 1 none, Cond.instanceMethod yX0_search, Cond.initialized RX0, Cond.selects RX0 yX0_search yX0_search, Cond.code yX0_search cX0_search 2 none, Cond.fieldLink RX0 15 "PlaFolder$BestFolding" "count" "I", Cond.fieldLink RX0 9 "PlaFolder$BestFolding" "known" "Z", Cond.methodLink RX0 45 yX0_foldableColumns, Cond.instanceMethod yX0_foldableColumns, Cond.selects RX0 yX0_foldableColumns yX0_foldableColumns, Cond.code yX0_foldableColumns cX0_foldableColumns 4 (some .int), Cond.fieldLink RX0 32 "PlaFolder$BestFolding" "used" "[I", Cond.fieldLink RX0 35 "PlaFolder$BestFolding" "mates" "[I", Cond.instanceMethod yX4_termsOfColumn, Cond.initialized RX4, Cond.selects RX4 yX4_termsOfColumn yX4_termsOfColumn, Cond.code yX4_termsOfColumn cX4_termsOfColumn 5 (some .int)]
def wsX5_foldBest_r2 : List Cond := [Cond.fieldLink RX4 18 "PlaFolder$State" "termCount" "I", Cond.fieldLink RX4 24 "PlaFolder$State" "ones" "[I", Cond.fieldLink RX4 28 "PlaFolder$State" "zeros" "[I", Cond.fieldLink RX4 31 "PlaFolder$State" "outs" "[I", Cond.static yX5_contains, Cond.code yX5_contains cX5_contains 2 (some .boolean), Cond.methodLink RX0 59 yX0_matesOf, Cond.static yX0_matesOf, Cond.code yX0_matesOf cX0_matesOf 4 (some .int), Cond.instanceMethod yX4_hasColumn, Cond.selects RX4 yX4_hasColumn yX4_hasColumn, Cond.code yX4_hasColumn cX4_hasColumn 2 (some .boolean), Cond.fieldLink RX4 9 "PlaFolder$State" "inputs" "I", Cond.fieldLink RX4 15 "PlaFolder$State" "outputs" "I", Cond.instanceMethod yX4_isPair, Cond.selects RX4 yX4_isPair yX4_isPair, Cond.code yX4_isPair cX4_isPair 4 (some .boolean), Cond.methodLink RX4 79 yX4_termsOfColumn, Cond.methodLink RX0 49 yX0_extend, Cond.instanceMethod yX0_extend, Cond.selects RX0 yX0_extend yX0_extend, Cond.code yX0_extend cX0_extend 5 none, Cond.methodLink RX0 71 yX0_keep, Cond.instanceMethod yX0_keep]
def wsX5_foldBest_r3 : List Cond := [Cond.selects RX0 yX0_keep yX0_keep, Cond.code yX0_keep cX0_keep 2 none, Cond.fieldLink RX0 26 "PlaFolder$BestFolding" "triedUpper" "[I", Cond.fieldLink RX0 19 "PlaFolder$BestFolding" "upper" "[I", Cond.methodLink RX0 96 arraycopyName, Cond.native arraycopyName, Cond.static arraycopyName, Cond.initialized "java/lang/System", Cond.fieldLink RX0 29 "PlaFolder$BestFolding" "triedLower" "[I", Cond.fieldLink RX0 23 "PlaFolder$BestFolding" "lower" "[I", Cond.methodLink RX0 75 yX0_mostFolds, Cond.static yX0_mostFolds, Cond.code yX0_mostFolds cX0_mostFolds 2 (some .int), Cond.methodLink RX0 102 yX0_mostOfKind, Cond.static yX0_mostOfKind, Cond.code yX0_mostOfKind cX0_mostOfKind 3 (some .int), Cond.methodLink RX0 110 Lib.Math.min.name, Cond.static Lib.Math.min.name, Cond.initialized "java/lang/Math", Cond.code Lib.Math.min.name Lib.Math.min.code 2 (some .int), Cond.methodLink RX0 105 yJ6_bitCount_0f7a4, Cond.static yJ6_bitCount_0f7a4, Cond.initialized RJ6, Cond.code yJ6_bitCount_0f7a4 cJ6_bitCount_0f7a4 1 (some .int)]
def wsX5_foldBest_r4 : List Cond := [Cond.constant RJ6 265 (1431655765), Cond.constant RJ6 266 (858993459), Cond.constant RJ6 267 (252645135), Cond.methodLink RX0 82 yX0_tryLowers, Cond.instanceMethod yX0_tryLowers, Cond.selects RX0 yX0_tryLowers yX0_tryLowers, Cond.code yX0_tryLowers cX0_tryLowers 6 none, Cond.fieldLink RX0 40 "PlaFolder$BestFolding" "demandsAt" "[LPlaFolder$Demands;", Cond.instanceMethod yX1_allow, Cond.initialized RX1, Cond.selects RX1 yX1_allow yX1_allow, Cond.code yX1_allow cX1_allow 3 (some .boolean), Cond.methodLink RX1 47 yX1_withAllAbove, Cond.instanceMethod yX1_withAllAbove, Cond.selects RX1 yX1_withAllAbove yX1_withAllAbove, Cond.code yX1_withAllAbove cX1_withAllAbove 4 (some .int), Cond.fieldLink RX1 9 "PlaFolder$Demands" "above" "[I", Cond.instanceMethod yX1_copyFrom, Cond.selects RX1 yX1_copyFrom yX1_copyFrom, Cond.code yX1_copyFrom cX1_copyFrom 2 none, Cond.methodLink RX1 21 arraycopyName, Cond.instanceMethod yX1_add, Cond.selects RX1 yX1_add yX1_add, Cond.code yX1_add cX1_add 5 none]
def wsX5_foldBest_r5 : List Cond := [Cond.instanceMethod yX2_push, Cond.initialized RX2, Cond.selects RX2 yX2_push yX2_push, Cond.code yX2_push cX2_push 2 none, Cond.fieldLink RX2 17 "PlaFolder$History" "count" "I", Cond.fieldLink RX2 11 "PlaFolder$History" "saved" "[LPlaFolder$State;", Cond.methodLink RX2 22 yX2_dropOldest, Cond.instanceMethod yX2_dropOldest, Cond.selects RX2 yX2_dropOldest yX2_dropOldest, Cond.code yX2_dropOldest cX2_dropOldest 3 none, Cond.instanceMethod yX4_copyFrom, Cond.selects RX4 yX4_copyFrom yX4_copyFrom, Cond.code yX4_copyFrom cX4_copyFrom 2 none, Cond.fieldLink RX4 21 "PlaFolder$State" "foldCount" "I", Cond.methodLink RX4 50 arraycopyName, Cond.fieldLink RX4 34 "PlaFolder$State" "words" "[J", Cond.fieldLink RX4 38 "PlaFolder$State" "lowerOf" "[I", Cond.fieldLink RX4 41 "PlaFolder$State" "upperOf" "[I", Cond.instanceMethod yX4_partAll, Cond.selects RX4 yX4_partAll yX4_partAll, Cond.code yX4_partAll cX4_partAll 1 none, Cond.methodLink RX4 44 yJ7_fill_53178, Cond.static yJ7_fill_53178, Cond.initialized RJ7]
def wsX5_foldBest_r6 : List Cond := [Cond.code yJ7_fill_53178 cJ7_fill_53178 4 none, Cond.instanceMethod yX4_join, Cond.selects RX4 yX4_join yX4_join, Cond.code yX4_join cX4_join 3 none, Cond.methodLink RX5 138 yX5_foldsChanged, Cond.instanceMethod yX5_foldsChanged, Cond.selects RX5 yX5_foldsChanged yX5_foldsChanged, Cond.code yX5_foldsChanged cX5_foldsChanged 1 none, Cond.fieldLink RX5 26 "PlaFolder" "demands" "LPlaFolder$Demands;", Cond.fieldLink RX5 33 "PlaFolder" "rows" "LPlaFolder$RowOrder;", Cond.instanceMethod yX1_collect, Cond.selects RX1 yX1_collect yX1_collect, Cond.code yX1_collect cX1_collect 4 none, Cond.methodLink RX1 27 yX1_clear, Cond.instanceMethod yX1_clear, Cond.selects RX1 yX1_clear yX1_clear, Cond.code yX1_clear cX1_clear 1 none, Cond.methodLink RX1 15 yJ7_fill_53178, Cond.methodLink RX1 39 yX1_add, Cond.instanceMethod yX3_build, Cond.initialized RX3, Cond.selects RX3 yX3_build yX3_build, Cond.code yX3_build cX3_build 6 none, Cond.fieldLink RX3 9 "PlaFolder$RowOrder" "termInRow" "[I"]
def wsX5_foldBest_r7 : List Cond := [Cond.fieldLink RX3 15 "PlaFolder$RowOrder" "rowOfTerm" "[I", Cond.methodLink RX3 18 yX3_nextTerm, Cond.static yX3_nextTerm, Cond.code yX3_nextTerm cX3_nextTerm 4 (some .int), Cond.methodLink RX5 178 yX5_area, Cond.instanceMethod yX5_area, Cond.selects RX5 yX5_area yX5_area, Cond.code yX5_area cX5_area 1 (some .int)]
def wsX5_foldBest : List Cond := .code yX5_foldBest cX5_foldBest 2 (some .int) :: ((wsX5_foldBest_r1 ++ (wsX5_foldBest_r2 ++ (wsX5_foldBest_r3 ++ (wsX5_foldBest_r4 ++ (wsX5_foldBest_r5 ++ (wsX5_foldBest_r6 ++ wsX5_foldBest_r7)))))) ++ wsX50 ++ wsX00 ++ wsX40 ++ wsX10 ++ wsX20 ++ wsX30)
def wsX5_undo_r1 : List Cond := [Cond.fieldLink RX5 19 "PlaFolder" "history" "LPlaFolder$History;", Cond.fieldLink RX5 12 "PlaFolder" "state" "LPlaFolder$State;", Cond.methodLink RX5 48 yX5_fail, Cond.instanceMethod yX5_fail, Cond.selects RX5 yX5_fail yX5_fail, Cond.initialized RX5, Cond.code yX5_fail cX5_fail 2 (some .int), Cond.fieldLink RX5 44 "PlaFolder" "errors" "[I", Cond.instanceMethod yX2_pop, Cond.initialized RX2, Cond.selects RX2 yX2_pop yX2_pop, Cond.code yX2_pop cX2_pop 2 none, Cond.fieldLink RX2 17 "PlaFolder$History" "count" "I", Cond.fieldLink RX2 11 "PlaFolder$History" "saved" "[LPlaFolder$State;", Cond.instanceMethod yX4_copyFrom, Cond.initialized RX4, Cond.selects RX4 yX4_copyFrom yX4_copyFrom, Cond.code yX4_copyFrom cX4_copyFrom 2 none, Cond.fieldLink RX4 9 "PlaFolder$State" "inputs" "I", Cond.fieldLink RX4 15 "PlaFolder$State" "outputs" "I", Cond.fieldLink RX4 18 "PlaFolder$State" "termCount" "I", Cond.fieldLink RX4 21 "PlaFolder$State" "foldCount" "I", Cond.fieldLink RX4 24 "PlaFolder$State" "ones" "[I", Cond.methodLink RX4 50 arraycopyName]
def wsX5_undo_r2 : List Cond := [Cond.native arraycopyName, Cond.static arraycopyName, Cond.initialized "java/lang/System", Cond.fieldLink RX4 28 "PlaFolder$State" "zeros" "[I", Cond.fieldLink RX4 31 "PlaFolder$State" "outs" "[I", Cond.fieldLink RX4 34 "PlaFolder$State" "words" "[J", Cond.fieldLink RX4 38 "PlaFolder$State" "lowerOf" "[I", Cond.fieldLink RX4 41 "PlaFolder$State" "upperOf" "[I", Cond.methodLink RX5 64 yX5_termsChanged, Cond.instanceMethod yX5_termsChanged, Cond.selects RX5 yX5_termsChanged yX5_termsChanged, Cond.code yX5_termsChanged cX5_termsChanged 1 none, Cond.fieldLink RX5 40 "PlaFolder" "best" "LPlaFolder$BestFolding;", Cond.methodLink RX5 138 yX5_foldsChanged, Cond.instanceMethod yX5_foldsChanged, Cond.selects RX5 yX5_foldsChanged yX5_foldsChanged, Cond.code yX5_foldsChanged cX5_foldsChanged 1 none, Cond.fieldLink RX5 26 "PlaFolder" "demands" "LPlaFolder$Demands;", Cond.fieldLink RX5 33 "PlaFolder" "rows" "LPlaFolder$RowOrder;", Cond.instanceMethod yX1_collect, Cond.initialized RX1, Cond.selects RX1 yX1_collect yX1_collect, Cond.code yX1_collect cX1_collect 4 none, Cond.methodLink RX1 27 yX1_clear]
def wsX5_undo_r3 : List Cond := [Cond.instanceMethod yX1_clear, Cond.selects RX1 yX1_clear yX1_clear, Cond.code yX1_clear cX1_clear 1 none, Cond.fieldLink RX1 9 "PlaFolder$Demands" "above" "[I", Cond.methodLink RX1 15 yJ7_fill_53178, Cond.static yJ7_fill_53178, Cond.initialized RJ7, Cond.code yJ7_fill_53178 cJ7_fill_53178 4 none, Cond.instanceMethod yX4_termsOfColumn, Cond.selects RX4 yX4_termsOfColumn yX4_termsOfColumn, Cond.code yX4_termsOfColumn cX4_termsOfColumn 5 (some .int), Cond.static yX5_contains, Cond.code yX5_contains cX5_contains 2 (some .boolean), Cond.methodLink RX1 39 yX1_add, Cond.instanceMethod yX1_add, Cond.selects RX1 yX1_add yX1_add, Cond.code yX1_add cX1_add 5 none, Cond.methodLink RX1 47 yX1_withAllAbove, Cond.instanceMethod yX1_withAllAbove, Cond.selects RX1 yX1_withAllAbove yX1_withAllAbove, Cond.code yX1_withAllAbove cX1_withAllAbove 4 (some .int), Cond.instanceMethod yX3_build, Cond.initialized RX3, Cond.selects RX3 yX3_build yX3_build]
def wsX5_undo_r4 : List Cond := [Cond.code yX3_build cX3_build 6 none, Cond.fieldLink RX3 9 "PlaFolder$RowOrder" "termInRow" "[I", Cond.fieldLink RX3 15 "PlaFolder$RowOrder" "rowOfTerm" "[I", Cond.methodLink RX3 18 yX3_nextTerm, Cond.static yX3_nextTerm, Cond.code yX3_nextTerm cX3_nextTerm 4 (some .int)]
def wsX5_undo : List Cond := .code yX5_undo cX5_undo 1 (some .int) :: ((wsX5_undo_r1 ++ (wsX5_undo_r2 ++ (wsX5_undo_r3 ++ wsX5_undo_r4))) ++ wsX50 ++ wsX20 ++ wsX40 ++ wsX00 ++ wsX10 ++ wsX30)
def wsX5_errorCount : List Cond := .code yX5_errorCount cX5_errorCount 2 (some .int) :: ([.fieldLink RX5 44 "PlaFolder" "errors" "[I", .methodLink RX5 48 yX5_fail, .instanceMethod yX5_fail, .selects RX5 yX5_fail yX5_fail, .initialized RX5, .code yX5_fail cX5_fail 2 (some .int)] ++ wsX50)
def wsX5_mix : List Cond := .code yX5_mix cX5_mix 4 (some .long) :: ([.constantLong RX5 219 (31)])
def wsX5_mixTerms_r1 : List Cond := [Cond.fieldLink RX5 12 "PlaFolder" "state" "LPlaFolder$State;", Cond.fieldLink RX5 33 "PlaFolder" "rows" "LPlaFolder$RowOrder;", Cond.methodLink RX5 188 yX5_mix, Cond.static yX5_mix, Cond.initialized RX5, Cond.code yX5_mix cX5_mix 4 (some .long), Cond.constantLong RX5 219 (31), Cond.instanceMethod yX4_isSpare, Cond.initialized RX4, Cond.selects RX4 yX4_isSpare yX4_isSpare, Cond.code yX4_isSpare cX4_isSpare 3 (some .boolean), Cond.fieldLink RX4 15 "PlaFolder$State" "outputs" "I", Cond.fieldLink RX4 31 "PlaFolder$State" "outs" "[I", Cond.fieldLink RX4 34 "PlaFolder$State" "words" "[J", Cond.constantLong RX4 74 (-1), Cond.static yX5_contains, Cond.code yX5_contains cX5_contains 2 (some .boolean), Cond.methodLink RX4 76 yX4_wordsOfOutput, Cond.instanceMethod yX4_wordsOfOutput, Cond.selects RX4 yX4_wordsOfOutput yX4_wordsOfOutput, Cond.code yX4_wordsOfOutput cX4_wordsOfOutput 6 (some .long), Cond.fieldLink RX4 18 "PlaFolder$State" "termCount" "I", Cond.methodLink RX5 115 yX5_flag, Cond.static yX5_flag]
def wsX5_mixTerms_r2 : List Cond := [Cond.code yX5_flag cX5_flag 1 (some .int)]
def wsX5_mixTerms : List Cond := .code yX5_mixTerms cX5_mixTerms 6 (some .long) :: ((wsX5_mixTerms_r1 ++ wsX5_mixTerms_r2) ++ wsX50 ++ wsX40 ++ wsX30)
def wsX5_mixColumns_r1 : List Cond := [Cond.fieldLink RX5 12 "PlaFolder" "state" "LPlaFolder$State;", Cond.fieldLink RX5 33 "PlaFolder" "rows" "LPlaFolder$RowOrder;", Cond.instanceMethod yX4_hasColumn, Cond.initialized RX4, Cond.selects RX4 yX4_hasColumn yX4_hasColumn, Cond.code yX4_hasColumn cX4_hasColumn 2 (some .boolean), Cond.fieldLink RX4 9 "PlaFolder$State" "inputs" "I", Cond.fieldLink RX4 15 "PlaFolder$State" "outputs" "I", Cond.instanceMethod yX4_termsOfColumn, Cond.selects RX4 yX4_termsOfColumn yX4_termsOfColumn, Cond.code yX4_termsOfColumn cX4_termsOfColumn 5 (some .int), Cond.fieldLink RX4 18 "PlaFolder$State" "termCount" "I", Cond.fieldLink RX4 24 "PlaFolder$State" "ones" "[I", Cond.fieldLink RX4 28 "PlaFolder$State" "zeros" "[I", Cond.fieldLink RX4 31 "PlaFolder$State" "outs" "[I", Cond.static yX5_contains, Cond.initialized RX5, Cond.code yX5_contains cX5_contains 2 (some .boolean), Cond.methodLink RX5 188 yX5_mix, Cond.static yX5_mix, Cond.code yX5_mix cX5_mix 4 (some .long), Cond.constantLong RX5 219 (31), Cond.instanceMethod yX4_mateOf, Cond.selects RX4 yX4_mateOf yX4_mateOf]
def wsX5_mixColumns_r2 : List Cond := [Cond.code yX4_mateOf cX4_mateOf 2 (some .int), Cond.fieldLink RX4 38 "PlaFolder$State" "lowerOf" "[I", Cond.fieldLink RX4 41 "PlaFolder$State" "upperOf" "[I", Cond.instanceMethod yX3_spread, Cond.initialized RX3, Cond.selects RX3 yX3_spread yX3_spread, Cond.code yX3_spread cX3_spread 6 (some .int), Cond.fieldLink RX3 15 "PlaFolder$RowOrder" "rowOfTerm" "[I", Cond.methodLink RX3 31 Lib.Math.min.name, Cond.static Lib.Math.min.name, Cond.initialized "java/lang/Math", Cond.code Lib.Math.min.name Lib.Math.min.code 2 (some .int), Cond.methodLink RX3 37 Lib.Math.max.name, Cond.static Lib.Math.max.name, Cond.code Lib.Math.max.name Lib.Math.max.code 2 (some .int)]
def wsX5_mixColumns : List Cond := .code yX5_mixColumns cX5_mixColumns 7 (some .long) :: ((wsX5_mixColumns_r1 ++ wsX5_mixColumns_r2) ++ wsX50 ++ wsX40 ++ wsX30)
def wsX5_mixBest : List Cond := .code yX5_mixBest cX5_mixBest 6 (some .long) :: ([.fieldLink RX5 40 "PlaFolder" "best" "LPlaFolder$BestFolding;", .methodLink RX5 188 yX5_mix, .static yX5_mix, .initialized RX5, .code yX5_mix cX5_mix 4 (some .long), .constantLong RX5 219 (31)] ++ wsX50 ++ wsX00)
def wsX5_digest_r1 : List Cond := [Cond.constantLong RX5 186 (2713), Cond.fieldLink RX5 44 "PlaFolder" "errors" "[I", Cond.fieldLink RX5 12 "PlaFolder" "state" "LPlaFolder$State;", Cond.fieldLink RX5 19 "PlaFolder" "history" "LPlaFolder$History;", Cond.methodLink RX5 163 yX5_findBest, Cond.instanceMethod yX5_findBest, Cond.selects RX5 yX5_findBest yX5_findBest, Cond.initialized RX5, Cond.code yX5_findBest cX5_findBest 1 none, Cond.fieldLink RX5 40 "PlaFolder" "best" "LPlaFolder$BestFolding;", Cond.instanceMethod yX0_search, Cond.initialized RX0, Cond.selects RX0 yX0_search yX0_search, Cond.code yX0_search cX0_search 2 none, Cond.fieldLink RX0 15 "PlaFolder$BestFolding" "count" "I", Cond.fieldLink RX0 9 "PlaFolder$BestFolding" "known" "Z", Cond.methodLink RX0 45 yX0_foldableColumns, Cond.instanceMethod yX0_foldableColumns, Cond.selects RX0 yX0_foldableColumns yX0_foldableColumns, Cond.code yX0_foldableColumns cX0_foldableColumns 4 (some .int), Cond.fieldLink RX0 32 "PlaFolder$BestFolding" "used" "[I", Cond.fieldLink RX0 35 "PlaFolder$BestFolding" "mates" "[I", Cond.instanceMethod yX4_termsOfColumn, Cond.initialized RX4]
def wsX5_digest_r2 : List Cond := [Cond.selects RX4 yX4_termsOfColumn yX4_termsOfColumn, Cond.code yX4_termsOfColumn cX4_termsOfColumn 5 (some .int), Cond.fieldLink RX4 18 "PlaFolder$State" "termCount" "I", Cond.fieldLink RX4 24 "PlaFolder$State" "ones" "[I", Cond.fieldLink RX4 28 "PlaFolder$State" "zeros" "[I", Cond.fieldLink RX4 31 "PlaFolder$State" "outs" "[I", Cond.static yX5_contains, Cond.code yX5_contains cX5_contains 2 (some .boolean), Cond.methodLink RX0 59 yX0_matesOf, Cond.static yX0_matesOf, Cond.code yX0_matesOf cX0_matesOf 4 (some .int), Cond.instanceMethod yX4_hasColumn, Cond.selects RX4 yX4_hasColumn yX4_hasColumn, Cond.code yX4_hasColumn cX4_hasColumn 2 (some .boolean), Cond.fieldLink RX4 9 "PlaFolder$State" "inputs" "I", Cond.fieldLink RX4 15 "PlaFolder$State" "outputs" "I", Cond.instanceMethod yX4_isPair, Cond.selects RX4 yX4_isPair yX4_isPair, Cond.code yX4_isPair cX4_isPair 4 (some .boolean), Cond.methodLink RX4 79 yX4_termsOfColumn, Cond.methodLink RX0 49 yX0_extend, Cond.instanceMethod yX0_extend, Cond.selects RX0 yX0_extend yX0_extend, Cond.code yX0_extend cX0_extend 5 none]
def wsX5_digest_r3 : List Cond := [Cond.methodLink RX0 71 yX0_keep, Cond.instanceMethod yX0_keep, Cond.selects RX0 yX0_keep yX0_keep, Cond.code yX0_keep cX0_keep 2 none, Cond.fieldLink RX0 26 "PlaFolder$BestFolding" "triedUpper" "[I", Cond.fieldLink RX0 19 "PlaFolder$BestFolding" "upper" "[I", Cond.methodLink RX0 96 arraycopyName, Cond.native arraycopyName, Cond.static arraycopyName, Cond.initialized "java/lang/System", Cond.fieldLink RX0 29 "PlaFolder$BestFolding" "triedLower" "[I", Cond.fieldLink RX0 23 "PlaFolder$BestFolding" "lower" "[I", Cond.methodLink RX0 75 yX0_mostFolds, Cond.static yX0_mostFolds, Cond.code yX0_mostFolds cX0_mostFolds 2 (some .int), Cond.methodLink RX0 102 yX0_mostOfKind, Cond.static yX0_mostOfKind, Cond.code yX0_mostOfKind cX0_mostOfKind 3 (some .int), Cond.methodLink RX0 110 Lib.Math.min.name, Cond.static Lib.Math.min.name, Cond.initialized "java/lang/Math", Cond.code Lib.Math.min.name Lib.Math.min.code 2 (some .int), Cond.methodLink RX0 105 yJ6_bitCount_0f7a4, Cond.static yJ6_bitCount_0f7a4]
def wsX5_digest_r4 : List Cond := [Cond.initialized RJ6, Cond.code yJ6_bitCount_0f7a4 cJ6_bitCount_0f7a4 1 (some .int), Cond.constant RJ6 265 (1431655765), Cond.constant RJ6 266 (858993459), Cond.constant RJ6 267 (252645135), Cond.methodLink RX0 82 yX0_tryLowers, Cond.instanceMethod yX0_tryLowers, Cond.selects RX0 yX0_tryLowers yX0_tryLowers, Cond.code yX0_tryLowers cX0_tryLowers 6 none, Cond.fieldLink RX0 40 "PlaFolder$BestFolding" "demandsAt" "[LPlaFolder$Demands;", Cond.instanceMethod yX1_allow, Cond.initialized RX1, Cond.selects RX1 yX1_allow yX1_allow, Cond.code yX1_allow cX1_allow 3 (some .boolean), Cond.methodLink RX1 47 yX1_withAllAbove, Cond.instanceMethod yX1_withAllAbove, Cond.selects RX1 yX1_withAllAbove yX1_withAllAbove, Cond.code yX1_withAllAbove cX1_withAllAbove 4 (some .int), Cond.fieldLink RX1 9 "PlaFolder$Demands" "above" "[I", Cond.instanceMethod yX1_copyFrom, Cond.selects RX1 yX1_copyFrom yX1_copyFrom, Cond.code yX1_copyFrom cX1_copyFrom 2 none, Cond.methodLink RX1 21 arraycopyName, Cond.instanceMethod yX1_add]
def wsX5_digest_r5 : List Cond := [Cond.selects RX1 yX1_add yX1_add, Cond.code yX1_add cX1_add 5 none, Cond.methodLink RX5 188 yX5_mix, Cond.static yX5_mix, Cond.code yX5_mix cX5_mix 4 (some .long), Cond.constantLong RX5 219 (31), Cond.methodLink RX5 192 yX5_mixTerms, Cond.instanceMethod yX5_mixTerms, Cond.selects RX5 yX5_mixTerms yX5_mixTerms, Cond.code yX5_mixTerms cX5_mixTerms 6 (some .long), Cond.fieldLink RX5 33 "PlaFolder" "rows" "LPlaFolder$RowOrder;", Cond.instanceMethod yX4_isSpare, Cond.selects RX4 yX4_isSpare yX4_isSpare, Cond.code yX4_isSpare cX4_isSpare 3 (some .boolean), Cond.fieldLink RX4 34 "PlaFolder$State" "words" "[J", Cond.constantLong RX4 74 (-1), Cond.methodLink RX4 76 yX4_wordsOfOutput, Cond.instanceMethod yX4_wordsOfOutput, Cond.selects RX4 yX4_wordsOfOutput yX4_wordsOfOutput, Cond.code yX4_wordsOfOutput cX4_wordsOfOutput 6 (some .long), Cond.methodLink RX5 115 yX5_flag, Cond.static yX5_flag, Cond.code yX5_flag cX5_flag 1 (some .int), Cond.methodLink RX5 196 yX5_mixColumns]
def wsX5_digest_r6 : List Cond := [Cond.instanceMethod yX5_mixColumns, Cond.selects RX5 yX5_mixColumns yX5_mixColumns, Cond.code yX5_mixColumns cX5_mixColumns 7 (some .long), Cond.instanceMethod yX4_mateOf, Cond.selects RX4 yX4_mateOf yX4_mateOf, Cond.code yX4_mateOf cX4_mateOf 2 (some .int), Cond.fieldLink RX4 38 "PlaFolder$State" "lowerOf" "[I", Cond.fieldLink RX4 41 "PlaFolder$State" "upperOf" "[I", Cond.instanceMethod yX3_spread, Cond.initialized RX3, Cond.selects RX3 yX3_spread yX3_spread, Cond.code yX3_spread cX3_spread 6 (some .int), Cond.fieldLink RX3 15 "PlaFolder$RowOrder" "rowOfTerm" "[I", Cond.methodLink RX3 31 Lib.Math.min.name, Cond.methodLink RX3 37 Lib.Math.max.name, Cond.static Lib.Math.max.name, Cond.code Lib.Math.max.name Lib.Math.max.code 2 (some .int), Cond.methodLink RX5 178 yX5_area, Cond.instanceMethod yX5_area, Cond.selects RX5 yX5_area yX5_area, Cond.code yX5_area cX5_area 1 (some .int), Cond.methodLink RX5 199 yX5_mixBest, Cond.instanceMethod yX5_mixBest, Cond.selects RX5 yX5_mixBest yX5_mixBest]
def wsX5_digest_r7 : List Cond := [Cond.code yX5_mixBest cX5_mixBest 6 (some .long)]
def wsX5_digest : List Cond := .code yX5_digest cX5_digest 4 (some .long) :: ((wsX5_digest_r1 ++ (wsX5_digest_r2 ++ (wsX5_digest_r3 ++ (wsX5_digest_r4 ++ (wsX5_digest_r5 ++ (wsX5_digest_r6 ++ wsX5_digest_r7)))))) ++ wsX50 ++ wsX40 ++ wsX20 ++ wsX00 ++ wsX10 ++ wsX30)
def wsX6_noFolds : List Cond := .code yX6_noFolds cX6_noFolds 2 none :: ([.fieldLink RX6 7 "PlaFolderModel" "now" "[I"] ++ wsX60)
def wsX6_init : List Cond := .code yX6_init cX6_init 1 none :: ([.methodLink RX6 1 objectInit, .instanceMethod objectInit, .code objectInit ⟨#[0xb1]⟩ 1 none, .arrayClass .int, .fieldLink RX6 7 "PlaFolderModel" "now" "[I", .fieldLink RX6 13 "PlaFolderModel" "past" "[I", .fieldLink RX6 16 "PlaFolderModel" "errors" "[I", .fieldLink RX6 19 "PlaFolderModel" "used" "[I", .fieldLink RX6 22 "PlaFolderModel" "under" "[I", .fieldLink RX6 25 "PlaFolderModel" "order" "[I", .fieldLink RX6 28 "PlaFolderModel" "list" "[I", .methodLink RX6 31 yX6_noFolds, .instanceMethod yX6_noFolds, .selects RX6 yX6_noFolds yX6_noFolds, .initialized RX6, .code yX6_noFolds cX6_noFolds 2 none] ++ wsX60)
def wsX6_in : List Cond := .code yX6_in cX6_in 3 (some .boolean) :: ([])
def wsX6_has : List Cond := .code yX6_has cX6_has 2 (some .boolean) :: ([])
def wsX6_many : List Cond := .code yX6_many cX6_many 3 (some .int) :: ([])
def wsX6_error : List Cond := .code yX6_error cX6_error 2 (some .int) :: ([.fieldLink RX6 16 "PlaFolderModel" "errors" "[I"] ++ wsX60)
def wsX6_isTerm : List Cond := .code yX6_isTerm cX6_isTerm 2 (some .boolean) :: ([.fieldLink RX6 7 "PlaFolderModel" "now" "[I", .methodLink RX6 34 yX6_in, .static yX6_in, .initialized RX6, .code yX6_in cX6_in 3 (some .boolean)] ++ wsX60)
def wsX6_isColumn : List Cond := .code yX6_isColumn cX6_isColumn 2 (some .boolean) :: ([.fieldLink RX6 7 "PlaFolderModel" "now" "[I", .methodLink RX6 34 yX6_in, .static yX6_in, .initialized RX6, .code yX6_in cX6_in 3 (some .boolean)] ++ wsX60)
def wsX6_save : List Cond := .code yX6_save cX6_save 2 none :: ([.fieldLink RX6 38 "PlaFolderModel" "states" "I", .fieldLink RX6 13 "PlaFolderModel" "past" "[I", .fieldLink RX6 7 "PlaFolderModel" "now" "[I"] ++ wsX60)
def wsX6_undo : List Cond := .code yX6_undo cX6_undo 2 (some .int) :: ([.fieldLink RX6 38 "PlaFolderModel" "states" "I", .fieldLink RX6 7 "PlaFolderModel" "now" "[I", .fieldLink RX6 13 "PlaFolderModel" "past" "[I", .methodLink RX6 42 yX6_error, .instanceMethod yX6_error, .selects RX6 yX6_error yX6_error, .initialized RX6, .code yX6_error cX6_error 2 (some .int), .fieldLink RX6 16 "PlaFolderModel" "errors" "[I"] ++ wsX60)
def wsX6_setSize : List Cond := .code yX6_setSize cX6_setSize 4 (some .int) :: ([.fieldLink RX6 7 "PlaFolderModel" "now" "[I", .methodLink RX6 34 yX6_in, .static yX6_in, .initialized RX6, .code yX6_in cX6_in 3 (some .boolean), .methodLink RX6 42 yX6_error, .instanceMethod yX6_error, .selects RX6 yX6_error yX6_error, .code yX6_error cX6_error 2 (some .int), .fieldLink RX6 16 "PlaFolderModel" "errors" "[I", .methodLink RX6 46 yX6_save, .instanceMethod yX6_save, .selects RX6 yX6_save yX6_save, .code yX6_save cX6_save 2 none, .fieldLink RX6 38 "PlaFolderModel" "states" "I", .fieldLink RX6 13 "PlaFolderModel" "past" "[I", .methodLink RX6 31 yX6_noFolds, .instanceMethod yX6_noFolds, .selects RX6 yX6_noFolds yX6_noFolds, .code yX6_noFolds cX6_noFolds 2 none] ++ wsX60)
def wsX6_isSet : List Cond := .code yX6_isSet cX6_isSet 3 (some .boolean) :: ([.methodLink RX6 34 yX6_in, .static yX6_in, .initialized RX6, .code yX6_in cX6_in 3 (some .boolean)])
def wsX6_addTerm : List Cond := .code yX6_addTerm cX6_addTerm 5 (some .int) :: ([.fieldLink RX6 7 "PlaFolderModel" "now" "[I", .methodLink RX6 49 yX6_isSet, .instanceMethod yX6_isSet, .selects RX6 yX6_isSet yX6_isSet, .initialized RX6, .code yX6_isSet cX6_isSet 3 (some .boolean), .methodLink RX6 34 yX6_in, .static yX6_in, .code yX6_in cX6_in 3 (some .boolean), .methodLink RX6 42 yX6_error, .instanceMethod yX6_error, .selects RX6 yX6_error yX6_error, .code yX6_error cX6_error 2 (some .int), .fieldLink RX6 16 "PlaFolderModel" "errors" "[I", .methodLink RX6 46 yX6_save, .instanceMethod yX6_save, .selects RX6 yX6_save yX6_save, .code yX6_save cX6_save 2 none, .fieldLink RX6 38 "PlaFolderModel" "states" "I", .fieldLink RX6 13 "PlaFolderModel" "past" "[I", .methodLink RX6 31 yX6_noFolds, .instanceMethod yX6_noFolds, .selects RX6 yX6_noFolds yX6_noFolds, .code yX6_noFolds cX6_noFolds 2 none] ++ wsX60)
def wsX6_drop : List Cond := .code yX6_drop cX6_drop 3 none :: ([.fieldLink RX6 7 "PlaFolderModel" "now" "[I", .methodLink RX6 31 yX6_noFolds, .instanceMethod yX6_noFolds, .selects RX6 yX6_noFolds yX6_noFolds, .initialized RX6, .code yX6_noFolds cX6_noFolds 2 none] ++ wsX60)
def wsX6_removeTerm_r1 : List Cond := [Cond.fieldLink RX6 7 "PlaFolderModel" "now" "[I", Cond.methodLink RX6 53 yX6_isTerm, Cond.instanceMethod yX6_isTerm, Cond.selects RX6 yX6_isTerm yX6_isTerm, Cond.initialized RX6, Cond.code yX6_isTerm cX6_isTerm 2 (some .boolean), Cond.methodLink RX6 34 yX6_in, Cond.static yX6_in, Cond.code yX6_in cX6_in 3 (some .boolean), Cond.methodLink RX6 42 yX6_error, Cond.instanceMethod yX6_error, Cond.selects RX6 yX6_error yX6_error, Cond.code yX6_error cX6_error 2 (some .int), Cond.fieldLink RX6 16 "PlaFolderModel" "errors" "[I", Cond.methodLink RX6 46 yX6_save, Cond.instanceMethod yX6_save, Cond.selects RX6 yX6_save yX6_save, Cond.code yX6_save cX6_save 2 none, Cond.fieldLink RX6 38 "PlaFolderModel" "states" "I", Cond.fieldLink RX6 13 "PlaFolderModel" "past" "[I", Cond.methodLink RX6 57 yX6_drop, Cond.instanceMethod yX6_drop, Cond.selects RX6 yX6_drop yX6_drop, Cond.code yX6_drop cX6_drop 3 none]
def wsX6_removeTerm_r2 : List Cond := [Cond.methodLink RX6 31 yX6_noFolds, Cond.instanceMethod yX6_noFolds, Cond.selects RX6 yX6_noFolds yX6_noFolds, Cond.code yX6_noFolds cX6_noFolds 2 none]
def wsX6_removeTerm : List Cond := .code yX6_removeTerm cX6_removeTerm 2 (some .int) :: ((wsX6_removeTerm_r1 ++ wsX6_removeTerm_r2) ++ wsX60)
def wsX6_terms : List Cond := .code yX6_terms cX6_terms 1 (some .int) :: ([.fieldLink RX6 7 "PlaFolderModel" "now" "[I"] ++ wsX60)
def wsX6_literals : List Cond := .code yX6_literals cX6_literals 2 (some .int) :: ([.fieldLink RX6 7 "PlaFolderModel" "now" "[I", .methodLink RX6 53 yX6_isTerm, .instanceMethod yX6_isTerm, .selects RX6 yX6_isTerm yX6_isTerm, .initialized RX6, .code yX6_isTerm cX6_isTerm 2 (some .boolean), .methodLink RX6 34 yX6_in, .static yX6_in, .code yX6_in cX6_in 3 (some .boolean), .methodLink RX6 61 yX6_many, .static yX6_many, .code yX6_many cX6_many 3 (some .int), .methodLink RX6 42 yX6_error, .instanceMethod yX6_error, .selects RX6 yX6_error yX6_error, .code yX6_error cX6_error 2 (some .int), .fieldLink RX6 16 "PlaFolderModel" "errors" "[I"] ++ wsX60)
def wsX6_outputs : List Cond := .code yX6_outputs cX6_outputs 6 (some .int) :: ([.fieldLink RX6 7 "PlaFolderModel" "now" "[I"] ++ wsX60)
def wsX6_words : List Cond := .code yX6_words cX6_words 1 (some .int) :: ([.fieldLink RX6 7 "PlaFolderModel" "now" "[I"] ++ wsX60)
def wsX6_evaluate : List Cond := .code yX6_evaluate cX6_evaluate 2 (some .int) :: ([.methodLink RX6 64 yX6_words, .instanceMethod yX6_words, .selects RX6 yX6_words yX6_words, .initialized RX6, .code yX6_words cX6_words 1 (some .int), .fieldLink RX6 7 "PlaFolderModel" "now" "[I", .methodLink RX6 34 yX6_in, .static yX6_in, .code yX6_in cX6_in 3 (some .boolean), .methodLink RX6 68 yX6_outputs, .instanceMethod yX6_outputs, .selects RX6 yX6_outputs yX6_outputs, .code yX6_outputs cX6_outputs 6 (some .int), .methodLink RX6 42 yX6_error, .instanceMethod yX6_error, .selects RX6 yX6_error yX6_error, .code yX6_error cX6_error 2 (some .int), .fieldLink RX6 16 "PlaFolderModel" "errors" "[I"] ++ wsX60)
def wsX6_onCount : List Cond := .code yX6_onCount cX6_onCount 4 (some .int) :: ([.fieldLink RX6 7 "PlaFolderModel" "now" "[I", .methodLink RX6 34 yX6_in, .static yX6_in, .initialized RX6, .code yX6_in cX6_in 3 (some .boolean), .methodLink RX6 42 yX6_error, .instanceMethod yX6_error, .selects RX6 yX6_error yX6_error, .code yX6_error cX6_error 2 (some .int), .fieldLink RX6 16 "PlaFolderModel" "errors" "[I", .methodLink RX6 64 yX6_words, .instanceMethod yX6_words, .selects RX6 yX6_words yX6_words, .code yX6_words cX6_words 1 (some .int), .methodLink RX6 68 yX6_outputs, .instanceMethod yX6_outputs, .selects RX6 yX6_outputs yX6_outputs, .code yX6_outputs cX6_outputs 6 (some .int), .methodLink RX6 72 yX6_has, .static yX6_has, .code yX6_has cX6_has 2 (some .boolean)] ++ wsX60)
def wsX6_redundant : List Cond := .code yX6_redundant cX6_redundant 4 (some .boolean) :: ([.methodLink RX6 64 yX6_words, .instanceMethod yX6_words, .selects RX6 yX6_words yX6_words, .initialized RX6, .code yX6_words cX6_words 1 (some .int), .fieldLink RX6 7 "PlaFolderModel" "now" "[I", .methodLink RX6 68 yX6_outputs, .instanceMethod yX6_outputs, .selects RX6 yX6_outputs yX6_outputs, .code yX6_outputs cX6_outputs 6 (some .int)] ++ wsX60)
def wsX6_isRedundant_r1 : List Cond := [Cond.methodLink RX6 53 yX6_isTerm, Cond.instanceMethod yX6_isTerm, Cond.selects RX6 yX6_isTerm yX6_isTerm, Cond.initialized RX6, Cond.code yX6_isTerm cX6_isTerm 2 (some .boolean), Cond.fieldLink RX6 7 "PlaFolderModel" "now" "[I", Cond.methodLink RX6 34 yX6_in, Cond.static yX6_in, Cond.code yX6_in cX6_in 3 (some .boolean), Cond.methodLink RX6 42 yX6_error, Cond.instanceMethod yX6_error, Cond.selects RX6 yX6_error yX6_error, Cond.code yX6_error cX6_error 2 (some .int), Cond.fieldLink RX6 16 "PlaFolderModel" "errors" "[I", Cond.methodLink RX6 75 yX6_redundant, Cond.instanceMethod yX6_redundant, Cond.selects RX6 yX6_redundant yX6_redundant, Cond.code yX6_redundant cX6_redundant 4 (some .boolean), Cond.methodLink RX6 64 yX6_words, Cond.instanceMethod yX6_words, Cond.selects RX6 yX6_words yX6_words, Cond.code yX6_words cX6_words 1 (some .int), Cond.methodLink RX6 68 yX6_outputs, Cond.instanceMethod yX6_outputs]
def wsX6_isRedundant_r2 : List Cond := [Cond.selects RX6 yX6_outputs yX6_outputs, Cond.code yX6_outputs cX6_outputs 6 (some .int)]
def wsX6_isRedundant : List Cond := .code yX6_isRedundant cX6_isRedundant 2 (some .int) :: ((wsX6_isRedundant_r1 ++ wsX6_isRedundant_r2) ++ wsX60)
def wsX6_removeRedundant_r1 : List Cond := [Cond.fieldLink RX6 7 "PlaFolderModel" "now" "[I", Cond.methodLink RX6 46 yX6_save, Cond.instanceMethod yX6_save, Cond.selects RX6 yX6_save yX6_save, Cond.initialized RX6, Cond.code yX6_save cX6_save 2 none, Cond.fieldLink RX6 38 "PlaFolderModel" "states" "I", Cond.fieldLink RX6 13 "PlaFolderModel" "past" "[I", Cond.methodLink RX6 75 yX6_redundant, Cond.instanceMethod yX6_redundant, Cond.selects RX6 yX6_redundant yX6_redundant, Cond.code yX6_redundant cX6_redundant 4 (some .boolean), Cond.methodLink RX6 64 yX6_words, Cond.instanceMethod yX6_words, Cond.selects RX6 yX6_words yX6_words, Cond.code yX6_words cX6_words 1 (some .int), Cond.methodLink RX6 68 yX6_outputs, Cond.instanceMethod yX6_outputs, Cond.selects RX6 yX6_outputs yX6_outputs, Cond.code yX6_outputs cX6_outputs 6 (some .int), Cond.methodLink RX6 57 yX6_drop, Cond.instanceMethod yX6_drop, Cond.selects RX6 yX6_drop yX6_drop, Cond.code yX6_drop cX6_drop 3 none]
def wsX6_removeRedundant_r2 : List Cond := [Cond.methodLink RX6 31 yX6_noFolds, Cond.instanceMethod yX6_noFolds, Cond.selects RX6 yX6_noFolds yX6_noFolds, Cond.code yX6_noFolds cX6_noFolds 2 none]
def wsX6_removeRedundant : List Cond := .code yX6_removeRedundant cX6_removeRedundant 3 (some .int) :: ((wsX6_removeRedundant_r1 ++ wsX6_removeRedundant_r2) ++ wsX60)
def wsX6_usedBy : List Cond := .code yX6_usedBy cX6_usedBy 5 (some .int) :: ([.fieldLink RX6 7 "PlaFolderModel" "now" "[I", .methodLink RX6 72 yX6_has, .static yX6_has, .initialized RX6, .code yX6_has cX6_has 2 (some .boolean)] ++ wsX60)
def wsX6_layUsed : List Cond := .code yX6_layUsed cX6_layUsed 2 none :: ([.fieldLink RX6 19 "PlaFolderModel" "used" "[I", .methodLink RX6 78 yX6_usedBy, .instanceMethod yX6_usedBy, .selects RX6 yX6_usedBy yX6_usedBy, .initialized RX6, .code yX6_usedBy cX6_usedBy 5 (some .int), .fieldLink RX6 7 "PlaFolderModel" "now" "[I", .methodLink RX6 72 yX6_has, .static yX6_has, .code yX6_has cX6_has 2 (some .boolean)] ++ wsX60)
def wsX6_uses : List Cond := .code yX6_uses cX6_uses 2 (some .int) :: ([.methodLink RX6 81 yX6_isColumn, .instanceMethod yX6_isColumn, .selects RX6 yX6_isColumn yX6_isColumn, .initialized RX6, .code yX6_isColumn cX6_isColumn 2 (some .boolean), .fieldLink RX6 7 "PlaFolderModel" "now" "[I", .methodLink RX6 34 yX6_in, .static yX6_in, .code yX6_in cX6_in 3 (some .boolean), .methodLink RX6 78 yX6_usedBy, .instanceMethod yX6_usedBy, .selects RX6 yX6_usedBy yX6_usedBy, .code yX6_usedBy cX6_usedBy 5 (some .int), .methodLink RX6 72 yX6_has, .static yX6_has, .code yX6_has cX6_has 2 (some .boolean), .methodLink RX6 42 yX6_error, .instanceMethod yX6_error, .selects RX6 yX6_error yX6_error, .code yX6_error cX6_error 2 (some .int), .fieldLink RX6 16 "PlaFolderModel" "errors" "[I"] ++ wsX60)
def wsX6_fits : List Cond := .code yX6_fits cX6_fits 3 (some .boolean) :: ([.fieldLink RX6 19 "PlaFolderModel" "used" "[I", .methodLink RX6 81 yX6_isColumn, .instanceMethod yX6_isColumn, .selects RX6 yX6_isColumn yX6_isColumn, .initialized RX6, .code yX6_isColumn cX6_isColumn 2 (some .boolean), .fieldLink RX6 7 "PlaFolderModel" "now" "[I", .methodLink RX6 34 yX6_in, .static yX6_in, .code yX6_in cX6_in 3 (some .boolean)] ++ wsX60)
def wsX6_canFold_r1 : List Cond := [Cond.methodLink RX6 81 yX6_isColumn, Cond.instanceMethod yX6_isColumn, Cond.selects RX6 yX6_isColumn yX6_isColumn, Cond.initialized RX6, Cond.code yX6_isColumn cX6_isColumn 2 (some .boolean), Cond.fieldLink RX6 7 "PlaFolderModel" "now" "[I", Cond.methodLink RX6 34 yX6_in, Cond.static yX6_in, Cond.code yX6_in cX6_in 3 (some .boolean), Cond.methodLink RX6 42 yX6_error, Cond.instanceMethod yX6_error, Cond.selects RX6 yX6_error yX6_error, Cond.code yX6_error cX6_error 2 (some .int), Cond.fieldLink RX6 16 "PlaFolderModel" "errors" "[I", Cond.methodLink RX6 84 yX6_layUsed, Cond.instanceMethod yX6_layUsed, Cond.selects RX6 yX6_layUsed yX6_layUsed, Cond.code yX6_layUsed cX6_layUsed 2 none, Cond.fieldLink RX6 19 "PlaFolderModel" "used" "[I", Cond.methodLink RX6 78 yX6_usedBy, Cond.instanceMethod yX6_usedBy, Cond.selects RX6 yX6_usedBy yX6_usedBy, Cond.code yX6_usedBy cX6_usedBy 5 (some .int), Cond.methodLink RX6 72 yX6_has]
def wsX6_canFold_r2 : List Cond := [Cond.static yX6_has, Cond.code yX6_has cX6_has 2 (some .boolean), Cond.methodLink RX6 87 yX6_fits, Cond.instanceMethod yX6_fits, Cond.selects RX6 yX6_fits yX6_fits, Cond.code yX6_fits cX6_fits 3 (some .boolean)]
def wsX6_canFold : List Cond := .code yX6_canFold cX6_canFold 3 (some .int) :: ((wsX6_canFold_r1 ++ wsX6_canFold_r2) ++ wsX60)
def wsX6_noDemands : List Cond := .code yX6_noDemands cX6_noDemands 2 none :: ([.fieldLink RX6 22 "PlaFolderModel" "under" "[I"] ++ wsX60)
def wsX6_demand : List Cond := .code yX6_demand cX6_demand 4 none :: ([.fieldLink RX6 22 "PlaFolderModel" "under" "[I", .fieldLink RX6 19 "PlaFolderModel" "used" "[I", .methodLink RX6 72 yX6_has, .static yX6_has, .initialized RX6, .code yX6_has cX6_has 2 (some .boolean)] ++ wsX60)
def wsX6_layDemands : List Cond := .code yX6_layDemands cX6_layDemands 2 none :: ([.fieldLink RX6 7 "PlaFolderModel" "now" "[I", .methodLink RX6 84 yX6_layUsed, .instanceMethod yX6_layUsed, .selects RX6 yX6_layUsed yX6_layUsed, .initialized RX6, .code yX6_layUsed cX6_layUsed 2 none, .fieldLink RX6 19 "PlaFolderModel" "used" "[I", .methodLink RX6 78 yX6_usedBy, .instanceMethod yX6_usedBy, .selects RX6 yX6_usedBy yX6_usedBy, .code yX6_usedBy cX6_usedBy 5 (some .int), .methodLink RX6 72 yX6_has, .static yX6_has, .code yX6_has cX6_has 2 (some .boolean), .methodLink RX6 90 yX6_noDemands, .instanceMethod yX6_noDemands, .selects RX6 yX6_noDemands yX6_noDemands, .code yX6_noDemands cX6_noDemands 2 none, .fieldLink RX6 22 "PlaFolderModel" "under" "[I", .methodLink RX6 93 yX6_demand, .instanceMethod yX6_demand, .selects RX6 yX6_demand yX6_demand, .code yX6_demand cX6_demand 4 none] ++ wsX60)
def wsX6_layRows : List Cond := .code yX6_layRows cX6_layRows 7 (some .boolean) :: ([.fieldLink RX6 7 "PlaFolderModel" "now" "[I", .fieldLink RX6 22 "PlaFolderModel" "under" "[I", .fieldLink RX6 25 "PlaFolderModel" "order" "[I", .methodLink RX6 72 yX6_has, .static yX6_has, .initialized RX6, .code yX6_has cX6_has 2 (some .boolean)] ++ wsX60)
def wsX6_isFolded : List Cond := .code yX6_isFolded cX6_isFolded 2 (some .boolean) :: ([.fieldLink RX6 7 "PlaFolderModel" "now" "[I"] ++ wsX60)
def wsX6_foldMany : List Cond := .code yX6_foldMany cX6_foldMany 3 (some .int) :: ([.fieldLink RX6 7 "PlaFolderModel" "now" "[I"] ++ wsX60)
def wsX6_fold_r1 : List Cond := [Cond.fieldLink RX6 7 "PlaFolderModel" "now" "[I", Cond.methodLink RX6 81 yX6_isColumn, Cond.instanceMethod yX6_isColumn, Cond.selects RX6 yX6_isColumn yX6_isColumn, Cond.initialized RX6, Cond.code yX6_isColumn cX6_isColumn 2 (some .boolean), Cond.methodLink RX6 34 yX6_in, Cond.static yX6_in, Cond.code yX6_in cX6_in 3 (some .boolean), Cond.methodLink RX6 42 yX6_error, Cond.instanceMethod yX6_error, Cond.selects RX6 yX6_error yX6_error, Cond.code yX6_error cX6_error 2 (some .int), Cond.fieldLink RX6 16 "PlaFolderModel" "errors" "[I", Cond.methodLink RX6 97 yX6_layDemands, Cond.instanceMethod yX6_layDemands, Cond.selects RX6 yX6_layDemands yX6_layDemands, Cond.code yX6_layDemands cX6_layDemands 2 none, Cond.methodLink RX6 84 yX6_layUsed, Cond.instanceMethod yX6_layUsed, Cond.selects RX6 yX6_layUsed yX6_layUsed, Cond.code yX6_layUsed cX6_layUsed 2 none, Cond.fieldLink RX6 19 "PlaFolderModel" "used" "[I", Cond.methodLink RX6 78 yX6_usedBy]
def wsX6_fold_r2 : List Cond := [Cond.instanceMethod yX6_usedBy, Cond.selects RX6 yX6_usedBy yX6_usedBy, Cond.code yX6_usedBy cX6_usedBy 5 (some .int), Cond.methodLink RX6 72 yX6_has, Cond.static yX6_has, Cond.code yX6_has cX6_has 2 (some .boolean), Cond.methodLink RX6 90 yX6_noDemands, Cond.instanceMethod yX6_noDemands, Cond.selects RX6 yX6_noDemands yX6_noDemands, Cond.code yX6_noDemands cX6_noDemands 2 none, Cond.fieldLink RX6 22 "PlaFolderModel" "under" "[I", Cond.methodLink RX6 93 yX6_demand, Cond.instanceMethod yX6_demand, Cond.selects RX6 yX6_demand yX6_demand, Cond.code yX6_demand cX6_demand 4 none, Cond.methodLink RX6 87 yX6_fits, Cond.instanceMethod yX6_fits, Cond.selects RX6 yX6_fits yX6_fits, Cond.code yX6_fits cX6_fits 3 (some .boolean), Cond.methodLink RX6 100 yX6_isFolded, Cond.instanceMethod yX6_isFolded, Cond.selects RX6 yX6_isFolded yX6_isFolded, Cond.code yX6_isFolded cX6_isFolded 2 (some .boolean), Cond.methodLink RX6 103 yX6_layRows]
def wsX6_fold_r3 : List Cond := [Cond.instanceMethod yX6_layRows, Cond.selects RX6 yX6_layRows yX6_layRows, Cond.code yX6_layRows cX6_layRows 7 (some .boolean), Cond.fieldLink RX6 25 "PlaFolderModel" "order" "[I", Cond.methodLink RX6 46 yX6_save, Cond.instanceMethod yX6_save, Cond.selects RX6 yX6_save yX6_save, Cond.code yX6_save cX6_save 2 none, Cond.fieldLink RX6 38 "PlaFolderModel" "states" "I", Cond.fieldLink RX6 13 "PlaFolderModel" "past" "[I", Cond.methodLink RX6 107 yX6_foldMany, Cond.instanceMethod yX6_foldMany, Cond.selects RX6 yX6_foldMany yX6_foldMany, Cond.code yX6_foldMany cX6_foldMany 3 (some .int)]
def wsX6_fold : List Cond := .code yX6_fold cX6_fold 3 (some .int) :: ((wsX6_fold_r1 ++ (wsX6_fold_r2 ++ wsX6_fold_r3)) ++ wsX60)
def wsX6_partnerOf : List Cond := .code yX6_partnerOf cX6_partnerOf 2 (some .int) :: ([.fieldLink RX6 7 "PlaFolderModel" "now" "[I"] ++ wsX60)
def wsX6_apart : List Cond := .code yX6_apart cX6_apart 2 none :: ([.fieldLink RX6 7 "PlaFolderModel" "now" "[I"] ++ wsX60)
def wsX6_unfold_r1 : List Cond := [Cond.methodLink RX6 81 yX6_isColumn, Cond.instanceMethod yX6_isColumn, Cond.selects RX6 yX6_isColumn yX6_isColumn, Cond.initialized RX6, Cond.code yX6_isColumn cX6_isColumn 2 (some .boolean), Cond.fieldLink RX6 7 "PlaFolderModel" "now" "[I", Cond.methodLink RX6 34 yX6_in, Cond.static yX6_in, Cond.code yX6_in cX6_in 3 (some .boolean), Cond.methodLink RX6 42 yX6_error, Cond.instanceMethod yX6_error, Cond.selects RX6 yX6_error yX6_error, Cond.code yX6_error cX6_error 2 (some .int), Cond.fieldLink RX6 16 "PlaFolderModel" "errors" "[I", Cond.methodLink RX6 100 yX6_isFolded, Cond.instanceMethod yX6_isFolded, Cond.selects RX6 yX6_isFolded yX6_isFolded, Cond.code yX6_isFolded cX6_isFolded 2 (some .boolean), Cond.methodLink RX6 46 yX6_save, Cond.instanceMethod yX6_save, Cond.selects RX6 yX6_save yX6_save, Cond.code yX6_save cX6_save 2 none, Cond.fieldLink RX6 38 "PlaFolderModel" "states" "I", Cond.fieldLink RX6 13 "PlaFolderModel" "past" "[I"]
def wsX6_unfold_r2 : List Cond := [Cond.methodLink RX6 110 yX6_partnerOf, Cond.instanceMethod yX6_partnerOf, Cond.selects RX6 yX6_partnerOf yX6_partnerOf, Cond.code yX6_partnerOf cX6_partnerOf 2 (some .int), Cond.methodLink RX6 113 yX6_apart, Cond.instanceMethod yX6_apart, Cond.selects RX6 yX6_apart yX6_apart, Cond.code yX6_apart cX6_apart 2 none, Cond.methodLink RX6 107 yX6_foldMany, Cond.instanceMethod yX6_foldMany, Cond.selects RX6 yX6_foldMany yX6_foldMany, Cond.code yX6_foldMany cX6_foldMany 3 (some .int)]
def wsX6_unfold : List Cond := .code yX6_unfold cX6_unfold 2 (some .int) :: ((wsX6_unfold_r1 ++ wsX6_unfold_r2) ++ wsX60)
def wsX6_partner : List Cond := .code yX6_partner cX6_partner 2 (some .int) :: ([.methodLink RX6 81 yX6_isColumn, .instanceMethod yX6_isColumn, .selects RX6 yX6_isColumn yX6_isColumn, .initialized RX6, .code yX6_isColumn cX6_isColumn 2 (some .boolean), .fieldLink RX6 7 "PlaFolderModel" "now" "[I", .methodLink RX6 34 yX6_in, .static yX6_in, .code yX6_in cX6_in 3 (some .boolean), .methodLink RX6 110 yX6_partnerOf, .instanceMethod yX6_partnerOf, .selects RX6 yX6_partnerOf yX6_partnerOf, .code yX6_partnerOf cX6_partnerOf 2 (some .int), .methodLink RX6 42 yX6_error, .instanceMethod yX6_error, .selects RX6 yX6_error yX6_error, .code yX6_error cX6_error 2 (some .int), .fieldLink RX6 16 "PlaFolderModel" "errors" "[I"] ++ wsX60)
def wsX6_folds : List Cond := .code yX6_folds cX6_folds 1 (some .int) :: ([.methodLink RX6 107 yX6_foldMany, .instanceMethod yX6_foldMany, .selects RX6 yX6_foldMany yX6_foldMany, .initialized RX6, .code yX6_foldMany cX6_foldMany 3 (some .int), .fieldLink RX6 7 "PlaFolderModel" "now" "[I"] ++ wsX60)
def wsX6_lay_r1 : List Cond := [Cond.methodLink RX6 97 yX6_layDemands, Cond.instanceMethod yX6_layDemands, Cond.selects RX6 yX6_layDemands yX6_layDemands, Cond.initialized RX6, Cond.code yX6_layDemands cX6_layDemands 2 none, Cond.fieldLink RX6 7 "PlaFolderModel" "now" "[I", Cond.methodLink RX6 84 yX6_layUsed, Cond.instanceMethod yX6_layUsed, Cond.selects RX6 yX6_layUsed yX6_layUsed, Cond.code yX6_layUsed cX6_layUsed 2 none, Cond.fieldLink RX6 19 "PlaFolderModel" "used" "[I", Cond.methodLink RX6 78 yX6_usedBy, Cond.instanceMethod yX6_usedBy, Cond.selects RX6 yX6_usedBy yX6_usedBy, Cond.code yX6_usedBy cX6_usedBy 5 (some .int), Cond.methodLink RX6 72 yX6_has, Cond.static yX6_has, Cond.code yX6_has cX6_has 2 (some .boolean), Cond.methodLink RX6 90 yX6_noDemands, Cond.instanceMethod yX6_noDemands, Cond.selects RX6 yX6_noDemands yX6_noDemands, Cond.code yX6_noDemands cX6_noDemands 2 none, Cond.fieldLink RX6 22 "PlaFolderModel" "under" "[I", Cond.methodLink RX6 93 yX6_demand]
def wsX6_lay_r2 : List Cond := [Cond.instanceMethod yX6_demand, Cond.selects RX6 yX6_demand yX6_demand, Cond.code yX6_demand cX6_demand 4 none, Cond.methodLink RX6 103 yX6_layRows, Cond.instanceMethod yX6_layRows, Cond.selects RX6 yX6_layRows yX6_layRows, Cond.code yX6_layRows cX6_layRows 7 (some .boolean), Cond.fieldLink RX6 25 "PlaFolderModel" "order" "[I"]
def wsX6_lay : List Cond := .code yX6_lay cX6_lay 2 none :: ((wsX6_lay_r1 ++ wsX6_lay_r2) ++ wsX60)
def wsX6_rowAt : List Cond := .code yX6_rowAt cX6_rowAt 3 (some .int) :: ([.fieldLink RX6 25 "PlaFolderModel" "order" "[I"] ++ wsX60)
def wsX6_termAt_r1 : List Cond := [Cond.fieldLink RX6 7 "PlaFolderModel" "now" "[I", Cond.fieldLink RX6 25 "PlaFolderModel" "order" "[I", Cond.methodLink RX6 34 yX6_in, Cond.static yX6_in, Cond.initialized RX6, Cond.code yX6_in cX6_in 3 (some .boolean), Cond.methodLink RX6 42 yX6_error, Cond.instanceMethod yX6_error, Cond.selects RX6 yX6_error yX6_error, Cond.code yX6_error cX6_error 2 (some .int), Cond.fieldLink RX6 16 "PlaFolderModel" "errors" "[I", Cond.methodLink RX6 116 yX6_lay, Cond.instanceMethod yX6_lay, Cond.selects RX6 yX6_lay yX6_lay, Cond.code yX6_lay cX6_lay 2 none, Cond.methodLink RX6 97 yX6_layDemands, Cond.instanceMethod yX6_layDemands, Cond.selects RX6 yX6_layDemands yX6_layDemands, Cond.code yX6_layDemands cX6_layDemands 2 none, Cond.methodLink RX6 84 yX6_layUsed, Cond.instanceMethod yX6_layUsed, Cond.selects RX6 yX6_layUsed yX6_layUsed, Cond.code yX6_layUsed cX6_layUsed 2 none, Cond.fieldLink RX6 19 "PlaFolderModel" "used" "[I"]
def wsX6_termAt_r2 : List Cond := [Cond.methodLink RX6 78 yX6_usedBy, Cond.instanceMethod yX6_usedBy, Cond.selects RX6 yX6_usedBy yX6_usedBy, Cond.code yX6_usedBy cX6_usedBy 5 (some .int), Cond.methodLink RX6 72 yX6_has, Cond.static yX6_has, Cond.code yX6_has cX6_has 2 (some .boolean), Cond.methodLink RX6 90 yX6_noDemands, Cond.instanceMethod yX6_noDemands, Cond.selects RX6 yX6_noDemands yX6_noDemands, Cond.code yX6_noDemands cX6_noDemands 2 none, Cond.fieldLink RX6 22 "PlaFolderModel" "under" "[I", Cond.methodLink RX6 93 yX6_demand, Cond.instanceMethod yX6_demand, Cond.selects RX6 yX6_demand yX6_demand, Cond.code yX6_demand cX6_demand 4 none, Cond.methodLink RX6 103 yX6_layRows, Cond.instanceMethod yX6_layRows, Cond.selects RX6 yX6_layRows yX6_layRows, Cond.code yX6_layRows cX6_layRows 7 (some .boolean)]
def wsX6_termAt : List Cond := .code yX6_termAt cX6_termAt 2 (some .int) :: ((wsX6_termAt_r1 ++ wsX6_termAt_r2) ++ wsX60)
def wsX6_rowOf_r1 : List Cond := [Cond.methodLink RX6 53 yX6_isTerm, Cond.instanceMethod yX6_isTerm, Cond.selects RX6 yX6_isTerm yX6_isTerm, Cond.initialized RX6, Cond.code yX6_isTerm cX6_isTerm 2 (some .boolean), Cond.fieldLink RX6 7 "PlaFolderModel" "now" "[I", Cond.methodLink RX6 34 yX6_in, Cond.static yX6_in, Cond.code yX6_in cX6_in 3 (some .boolean), Cond.methodLink RX6 42 yX6_error, Cond.instanceMethod yX6_error, Cond.selects RX6 yX6_error yX6_error, Cond.code yX6_error cX6_error 2 (some .int), Cond.fieldLink RX6 16 "PlaFolderModel" "errors" "[I", Cond.methodLink RX6 116 yX6_lay, Cond.instanceMethod yX6_lay, Cond.selects RX6 yX6_lay yX6_lay, Cond.code yX6_lay cX6_lay 2 none, Cond.methodLink RX6 97 yX6_layDemands, Cond.instanceMethod yX6_layDemands, Cond.selects RX6 yX6_layDemands yX6_layDemands, Cond.code yX6_layDemands cX6_layDemands 2 none, Cond.methodLink RX6 84 yX6_layUsed, Cond.instanceMethod yX6_layUsed]
def wsX6_rowOf_r2 : List Cond := [Cond.selects RX6 yX6_layUsed yX6_layUsed, Cond.code yX6_layUsed cX6_layUsed 2 none, Cond.fieldLink RX6 19 "PlaFolderModel" "used" "[I", Cond.methodLink RX6 78 yX6_usedBy, Cond.instanceMethod yX6_usedBy, Cond.selects RX6 yX6_usedBy yX6_usedBy, Cond.code yX6_usedBy cX6_usedBy 5 (some .int), Cond.methodLink RX6 72 yX6_has, Cond.static yX6_has, Cond.code yX6_has cX6_has 2 (some .boolean), Cond.methodLink RX6 90 yX6_noDemands, Cond.instanceMethod yX6_noDemands, Cond.selects RX6 yX6_noDemands yX6_noDemands, Cond.code yX6_noDemands cX6_noDemands 2 none, Cond.fieldLink RX6 22 "PlaFolderModel" "under" "[I", Cond.methodLink RX6 93 yX6_demand, Cond.instanceMethod yX6_demand, Cond.selects RX6 yX6_demand yX6_demand, Cond.code yX6_demand cX6_demand 4 none, Cond.methodLink RX6 103 yX6_layRows, Cond.instanceMethod yX6_layRows, Cond.selects RX6 yX6_layRows yX6_layRows, Cond.code yX6_layRows cX6_layRows 7 (some .boolean), Cond.fieldLink RX6 25 "PlaFolderModel" "order" "[I"]
def wsX6_rowOf_r3 : List Cond := [Cond.methodLink RX6 119 yX6_rowAt, Cond.instanceMethod yX6_rowAt, Cond.selects RX6 yX6_rowAt yX6_rowAt, Cond.code yX6_rowAt cX6_rowAt 3 (some .int)]
def wsX6_rowOf : List Cond := .code yX6_rowOf cX6_rowOf 2 (some .int) :: ((wsX6_rowOf_r1 ++ (wsX6_rowOf_r2 ++ wsX6_rowOf_r3)) ++ wsX60)
def wsX6_mustPrecede_r1 : List Cond := [Cond.fieldLink RX6 22 "PlaFolderModel" "under" "[I", Cond.methodLink RX6 53 yX6_isTerm, Cond.instanceMethod yX6_isTerm, Cond.selects RX6 yX6_isTerm yX6_isTerm, Cond.initialized RX6, Cond.code yX6_isTerm cX6_isTerm 2 (some .boolean), Cond.fieldLink RX6 7 "PlaFolderModel" "now" "[I", Cond.methodLink RX6 34 yX6_in, Cond.static yX6_in, Cond.code yX6_in cX6_in 3 (some .boolean), Cond.methodLink RX6 42 yX6_error, Cond.instanceMethod yX6_error, Cond.selects RX6 yX6_error yX6_error, Cond.code yX6_error cX6_error 2 (some .int), Cond.fieldLink RX6 16 "PlaFolderModel" "errors" "[I", Cond.methodLink RX6 97 yX6_layDemands, Cond.instanceMethod yX6_layDemands, Cond.selects RX6 yX6_layDemands yX6_layDemands, Cond.code yX6_layDemands cX6_layDemands 2 none, Cond.methodLink RX6 84 yX6_layUsed, Cond.instanceMethod yX6_layUsed, Cond.selects RX6 yX6_layUsed yX6_layUsed, Cond.code yX6_layUsed cX6_layUsed 2 none, Cond.fieldLink RX6 19 "PlaFolderModel" "used" "[I"]
def wsX6_mustPrecede_r2 : List Cond := [Cond.methodLink RX6 78 yX6_usedBy, Cond.instanceMethod yX6_usedBy, Cond.selects RX6 yX6_usedBy yX6_usedBy, Cond.code yX6_usedBy cX6_usedBy 5 (some .int), Cond.methodLink RX6 72 yX6_has, Cond.static yX6_has, Cond.code yX6_has cX6_has 2 (some .boolean), Cond.methodLink RX6 90 yX6_noDemands, Cond.instanceMethod yX6_noDemands, Cond.selects RX6 yX6_noDemands yX6_noDemands, Cond.code yX6_noDemands cX6_noDemands 2 none, Cond.methodLink RX6 93 yX6_demand, Cond.instanceMethod yX6_demand, Cond.selects RX6 yX6_demand yX6_demand, Cond.code yX6_demand cX6_demand 4 none]
def wsX6_mustPrecede : List Cond := .code yX6_mustPrecede cX6_mustPrecede 6 (some .int) :: ((wsX6_mustPrecede_r1 ++ wsX6_mustPrecede_r2) ++ wsX60)
def wsX6_areaNow : List Cond := .code yX6_areaNow cX6_areaNow 1 (some .int) :: ([.fieldLink RX6 7 "PlaFolderModel" "now" "[I", .methodLink RX6 107 yX6_foldMany, .instanceMethod yX6_foldMany, .selects RX6 yX6_foldMany yX6_foldMany, .initialized RX6, .code yX6_foldMany cX6_foldMany 3 (some .int)] ++ wsX60)
def wsX6_area : List Cond := .code yX6_area cX6_area 1 (some .int) :: ([.methodLink RX6 122 yX6_areaNow, .instanceMethod yX6_areaNow, .selects RX6 yX6_areaNow yX6_areaNow, .initialized RX6, .code yX6_areaNow cX6_areaNow 1 (some .int), .fieldLink RX6 7 "PlaFolderModel" "now" "[I", .methodLink RX6 107 yX6_foldMany, .instanceMethod yX6_foldMany, .selects RX6 yX6_foldMany yX6_foldMany, .code yX6_foldMany cX6_foldMany 3 (some .int)] ++ wsX60)
def wsX6_spanOf : List Cond := .code yX6_spanOf cX6_spanOf 5 (some .int) :: ([.fieldLink RX6 7 "PlaFolderModel" "now" "[I", .fieldLink RX6 19 "PlaFolderModel" "used" "[I", .fieldLink RX6 25 "PlaFolderModel" "order" "[I", .methodLink RX6 72 yX6_has, .static yX6_has, .initialized RX6, .code yX6_has cX6_has 2 (some .boolean)] ++ wsX60)
def wsX6_span_r1 : List Cond := [Cond.methodLink RX6 81 yX6_isColumn, Cond.instanceMethod yX6_isColumn, Cond.selects RX6 yX6_isColumn yX6_isColumn, Cond.initialized RX6, Cond.code yX6_isColumn cX6_isColumn 2 (some .boolean), Cond.fieldLink RX6 7 "PlaFolderModel" "now" "[I", Cond.methodLink RX6 34 yX6_in, Cond.static yX6_in, Cond.code yX6_in cX6_in 3 (some .boolean), Cond.methodLink RX6 42 yX6_error, Cond.instanceMethod yX6_error, Cond.selects RX6 yX6_error yX6_error, Cond.code yX6_error cX6_error 2 (some .int), Cond.fieldLink RX6 16 "PlaFolderModel" "errors" "[I", Cond.methodLink RX6 116 yX6_lay, Cond.instanceMethod yX6_lay, Cond.selects RX6 yX6_lay yX6_lay, Cond.code yX6_lay cX6_lay 2 none, Cond.methodLink RX6 97 yX6_layDemands, Cond.instanceMethod yX6_layDemands, Cond.selects RX6 yX6_layDemands yX6_layDemands, Cond.code yX6_layDemands cX6_layDemands 2 none, Cond.methodLink RX6 84 yX6_layUsed, Cond.instanceMethod yX6_layUsed]
def wsX6_span_r2 : List Cond := [Cond.selects RX6 yX6_layUsed yX6_layUsed, Cond.code yX6_layUsed cX6_layUsed 2 none, Cond.fieldLink RX6 19 "PlaFolderModel" "used" "[I", Cond.methodLink RX6 78 yX6_usedBy, Cond.instanceMethod yX6_usedBy, Cond.selects RX6 yX6_usedBy yX6_usedBy, Cond.code yX6_usedBy cX6_usedBy 5 (some .int), Cond.methodLink RX6 72 yX6_has, Cond.static yX6_has, Cond.code yX6_has cX6_has 2 (some .boolean), Cond.methodLink RX6 90 yX6_noDemands, Cond.instanceMethod yX6_noDemands, Cond.selects RX6 yX6_noDemands yX6_noDemands, Cond.code yX6_noDemands cX6_noDemands 2 none, Cond.fieldLink RX6 22 "PlaFolderModel" "under" "[I", Cond.methodLink RX6 93 yX6_demand, Cond.instanceMethod yX6_demand, Cond.selects RX6 yX6_demand yX6_demand, Cond.code yX6_demand cX6_demand 4 none, Cond.methodLink RX6 103 yX6_layRows, Cond.instanceMethod yX6_layRows, Cond.selects RX6 yX6_layRows yX6_layRows, Cond.code yX6_layRows cX6_layRows 7 (some .boolean), Cond.fieldLink RX6 25 "PlaFolderModel" "order" "[I"]
def wsX6_span_r3 : List Cond := [Cond.methodLink RX6 125 yX6_spanOf, Cond.instanceMethod yX6_spanOf, Cond.selects RX6 yX6_spanOf yX6_spanOf, Cond.code yX6_spanOf cX6_spanOf 5 (some .int)]
def wsX6_span : List Cond := .code yX6_span cX6_span 2 (some .int) :: ((wsX6_span_r1 ++ (wsX6_span_r2 ++ wsX6_span_r3)) ++ wsX60)
def wsX6_mayStand : List Cond := .code yX6_mayStand cX6_mayStand 5 (some .boolean) :: ([.fieldLink RX6 28 "PlaFolderModel" "list" "[I", .methodLink RX6 90 yX6_noDemands, .instanceMethod yX6_noDemands, .selects RX6 yX6_noDemands yX6_noDemands, .initialized RX6, .code yX6_noDemands cX6_noDemands 2 none, .fieldLink RX6 22 "PlaFolderModel" "under" "[I", .methodLink RX6 93 yX6_demand, .instanceMethod yX6_demand, .selects RX6 yX6_demand yX6_demand, .code yX6_demand cX6_demand 4 none, .fieldLink RX6 19 "PlaFolderModel" "used" "[I", .methodLink RX6 72 yX6_has, .static yX6_has, .code yX6_has cX6_has 2 (some .boolean), .methodLink RX6 103 yX6_layRows, .instanceMethod yX6_layRows, .selects RX6 yX6_layRows yX6_layRows, .code yX6_layRows cX6_layRows 7 (some .boolean), .fieldLink RX6 7 "PlaFolderModel" "now" "[I", .fieldLink RX6 25 "PlaFolderModel" "order" "[I"] ++ wsX60)
def wsX6_findList_r1 : List Cond := [Cond.fieldLink RX6 28 "PlaFolderModel" "list" "[I", Cond.fieldLink RX6 131 "PlaFolderModel" "listMany" "I", Cond.methodLink RX6 87 yX6_fits, Cond.instanceMethod yX6_fits, Cond.selects RX6 yX6_fits yX6_fits, Cond.initialized RX6, Cond.code yX6_fits cX6_fits 3 (some .boolean), Cond.fieldLink RX6 19 "PlaFolderModel" "used" "[I", Cond.methodLink RX6 81 yX6_isColumn, Cond.instanceMethod yX6_isColumn, Cond.selects RX6 yX6_isColumn yX6_isColumn, Cond.code yX6_isColumn cX6_isColumn 2 (some .boolean), Cond.fieldLink RX6 7 "PlaFolderModel" "now" "[I", Cond.methodLink RX6 34 yX6_in, Cond.static yX6_in, Cond.code yX6_in cX6_in 3 (some .boolean), Cond.methodLink RX6 128 yX6_mayStand, Cond.instanceMethod yX6_mayStand, Cond.selects RX6 yX6_mayStand yX6_mayStand, Cond.code yX6_mayStand cX6_mayStand 5 (some .boolean), Cond.methodLink RX6 90 yX6_noDemands, Cond.instanceMethod yX6_noDemands, Cond.selects RX6 yX6_noDemands yX6_noDemands, Cond.code yX6_noDemands cX6_noDemands 2 none]
def wsX6_findList_r2 : List Cond := [Cond.fieldLink RX6 22 "PlaFolderModel" "under" "[I", Cond.methodLink RX6 93 yX6_demand, Cond.instanceMethod yX6_demand, Cond.selects RX6 yX6_demand yX6_demand, Cond.code yX6_demand cX6_demand 4 none, Cond.methodLink RX6 72 yX6_has, Cond.static yX6_has, Cond.code yX6_has cX6_has 2 (some .boolean), Cond.methodLink RX6 103 yX6_layRows, Cond.instanceMethod yX6_layRows, Cond.selects RX6 yX6_layRows yX6_layRows, Cond.code yX6_layRows cX6_layRows 7 (some .boolean), Cond.fieldLink RX6 25 "PlaFolderModel" "order" "[I"]
def wsX6_findList : List Cond := .code yX6_findList cX6_findList 4 (some .boolean) :: ((wsX6_findList_r1 ++ wsX6_findList_r2) ++ wsX60)
def wsX6_findBest_r1 : List Cond := [Cond.fieldLink RX6 7 "PlaFolderModel" "now" "[I", Cond.methodLink RX6 84 yX6_layUsed, Cond.instanceMethod yX6_layUsed, Cond.selects RX6 yX6_layUsed yX6_layUsed, Cond.initialized RX6, Cond.code yX6_layUsed cX6_layUsed 2 none, Cond.fieldLink RX6 19 "PlaFolderModel" "used" "[I", Cond.methodLink RX6 78 yX6_usedBy, Cond.instanceMethod yX6_usedBy, Cond.selects RX6 yX6_usedBy yX6_usedBy, Cond.code yX6_usedBy cX6_usedBy 5 (some .int), Cond.methodLink RX6 72 yX6_has, Cond.static yX6_has, Cond.code yX6_has cX6_has 2 (some .boolean), Cond.methodLink RX6 134 yX6_findList, Cond.instanceMethod yX6_findList, Cond.selects RX6 yX6_findList yX6_findList, Cond.code yX6_findList cX6_findList 4 (some .boolean), Cond.fieldLink RX6 28 "PlaFolderModel" "list" "[I", Cond.fieldLink RX6 131 "PlaFolderModel" "listMany" "I", Cond.methodLink RX6 87 yX6_fits, Cond.instanceMethod yX6_fits, Cond.selects RX6 yX6_fits yX6_fits, Cond.code yX6_fits cX6_fits 3 (some .boolean)]
def wsX6_findBest_r2 : List Cond := [Cond.methodLink RX6 81 yX6_isColumn, Cond.instanceMethod yX6_isColumn, Cond.selects RX6 yX6_isColumn yX6_isColumn, Cond.code yX6_isColumn cX6_isColumn 2 (some .boolean), Cond.methodLink RX6 34 yX6_in, Cond.static yX6_in, Cond.code yX6_in cX6_in 3 (some .boolean), Cond.methodLink RX6 128 yX6_mayStand, Cond.instanceMethod yX6_mayStand, Cond.selects RX6 yX6_mayStand yX6_mayStand, Cond.code yX6_mayStand cX6_mayStand 5 (some .boolean), Cond.methodLink RX6 90 yX6_noDemands, Cond.instanceMethod yX6_noDemands, Cond.selects RX6 yX6_noDemands yX6_noDemands, Cond.code yX6_noDemands cX6_noDemands 2 none, Cond.fieldLink RX6 22 "PlaFolderModel" "under" "[I", Cond.methodLink RX6 93 yX6_demand, Cond.instanceMethod yX6_demand, Cond.selects RX6 yX6_demand yX6_demand, Cond.code yX6_demand cX6_demand 4 none, Cond.methodLink RX6 103 yX6_layRows, Cond.instanceMethod yX6_layRows, Cond.selects RX6 yX6_layRows yX6_layRows, Cond.code yX6_layRows cX6_layRows 7 (some .boolean)]
def wsX6_findBest_r3 : List Cond := [Cond.fieldLink RX6 25 "PlaFolderModel" "order" "[I"]
def wsX6_findBest : List Cond := .code yX6_findBest cX6_findBest 2 none :: ((wsX6_findBest_r1 ++ (wsX6_findBest_r2 ++ wsX6_findBest_r3)) ++ wsX60)
def wsX6_bestUpper_r1 : List Cond := [Cond.fieldLink RX6 131 "PlaFolderModel" "listMany" "I", Cond.fieldLink RX6 28 "PlaFolderModel" "list" "[I", Cond.methodLink RX6 42 yX6_error, Cond.instanceMethod yX6_error, Cond.selects RX6 yX6_error yX6_error, Cond.initialized RX6, Cond.code yX6_error cX6_error 2 (some .int), Cond.fieldLink RX6 16 "PlaFolderModel" "errors" "[I", Cond.methodLink RX6 137 yX6_findBest, Cond.instanceMethod yX6_findBest, Cond.selects RX6 yX6_findBest yX6_findBest, Cond.code yX6_findBest cX6_findBest 2 none, Cond.fieldLink RX6 7 "PlaFolderModel" "now" "[I", Cond.methodLink RX6 84 yX6_layUsed, Cond.instanceMethod yX6_layUsed, Cond.selects RX6 yX6_layUsed yX6_layUsed, Cond.code yX6_layUsed cX6_layUsed 2 none, Cond.fieldLink RX6 19 "PlaFolderModel" "used" "[I", Cond.methodLink RX6 78 yX6_usedBy, Cond.instanceMethod yX6_usedBy, Cond.selects RX6 yX6_usedBy yX6_usedBy, Cond.code yX6_usedBy cX6_usedBy 5 (some .int), Cond.methodLink RX6 72 yX6_has, Cond.static yX6_has]
def wsX6_bestUpper_r2 : List Cond := [Cond.code yX6_has cX6_has 2 (some .boolean), Cond.methodLink RX6 134 yX6_findList, Cond.instanceMethod yX6_findList, Cond.selects RX6 yX6_findList yX6_findList, Cond.code yX6_findList cX6_findList 4 (some .boolean), Cond.methodLink RX6 87 yX6_fits, Cond.instanceMethod yX6_fits, Cond.selects RX6 yX6_fits yX6_fits, Cond.code yX6_fits cX6_fits 3 (some .boolean), Cond.methodLink RX6 81 yX6_isColumn, Cond.instanceMethod yX6_isColumn, Cond.selects RX6 yX6_isColumn yX6_isColumn, Cond.code yX6_isColumn cX6_isColumn 2 (some .boolean), Cond.methodLink RX6 34 yX6_in, Cond.static yX6_in, Cond.code yX6_in cX6_in 3 (some .boolean), Cond.methodLink RX6 128 yX6_mayStand, Cond.instanceMethod yX6_mayStand, Cond.selects RX6 yX6_mayStand yX6_mayStand, Cond.code yX6_mayStand cX6_mayStand 5 (some .boolean), Cond.methodLink RX6 90 yX6_noDemands, Cond.instanceMethod yX6_noDemands, Cond.selects RX6 yX6_noDemands yX6_noDemands, Cond.code yX6_noDemands cX6_noDemands 2 none]
def wsX6_bestUpper_r3 : List Cond := [Cond.fieldLink RX6 22 "PlaFolderModel" "under" "[I", Cond.methodLink RX6 93 yX6_demand, Cond.instanceMethod yX6_demand, Cond.selects RX6 yX6_demand yX6_demand, Cond.code yX6_demand cX6_demand 4 none, Cond.methodLink RX6 103 yX6_layRows, Cond.instanceMethod yX6_layRows, Cond.selects RX6 yX6_layRows yX6_layRows, Cond.code yX6_layRows cX6_layRows 7 (some .boolean), Cond.fieldLink RX6 25 "PlaFolderModel" "order" "[I"]
def wsX6_bestUpper : List Cond := .code yX6_bestUpper cX6_bestUpper 2 (some .int) :: ((wsX6_bestUpper_r1 ++ (wsX6_bestUpper_r2 ++ wsX6_bestUpper_r3)) ++ wsX60)
def wsX6_bestLower_r1 : List Cond := [Cond.fieldLink RX6 131 "PlaFolderModel" "listMany" "I", Cond.fieldLink RX6 28 "PlaFolderModel" "list" "[I", Cond.methodLink RX6 42 yX6_error, Cond.instanceMethod yX6_error, Cond.selects RX6 yX6_error yX6_error, Cond.initialized RX6, Cond.code yX6_error cX6_error 2 (some .int), Cond.fieldLink RX6 16 "PlaFolderModel" "errors" "[I", Cond.methodLink RX6 137 yX6_findBest, Cond.instanceMethod yX6_findBest, Cond.selects RX6 yX6_findBest yX6_findBest, Cond.code yX6_findBest cX6_findBest 2 none, Cond.fieldLink RX6 7 "PlaFolderModel" "now" "[I", Cond.methodLink RX6 84 yX6_layUsed, Cond.instanceMethod yX6_layUsed, Cond.selects RX6 yX6_layUsed yX6_layUsed, Cond.code yX6_layUsed cX6_layUsed 2 none, Cond.fieldLink RX6 19 "PlaFolderModel" "used" "[I", Cond.methodLink RX6 78 yX6_usedBy, Cond.instanceMethod yX6_usedBy, Cond.selects RX6 yX6_usedBy yX6_usedBy, Cond.code yX6_usedBy cX6_usedBy 5 (some .int), Cond.methodLink RX6 72 yX6_has, Cond.static yX6_has]
def wsX6_bestLower_r2 : List Cond := [Cond.code yX6_has cX6_has 2 (some .boolean), Cond.methodLink RX6 134 yX6_findList, Cond.instanceMethod yX6_findList, Cond.selects RX6 yX6_findList yX6_findList, Cond.code yX6_findList cX6_findList 4 (some .boolean), Cond.methodLink RX6 87 yX6_fits, Cond.instanceMethod yX6_fits, Cond.selects RX6 yX6_fits yX6_fits, Cond.code yX6_fits cX6_fits 3 (some .boolean), Cond.methodLink RX6 81 yX6_isColumn, Cond.instanceMethod yX6_isColumn, Cond.selects RX6 yX6_isColumn yX6_isColumn, Cond.code yX6_isColumn cX6_isColumn 2 (some .boolean), Cond.methodLink RX6 34 yX6_in, Cond.static yX6_in, Cond.code yX6_in cX6_in 3 (some .boolean), Cond.methodLink RX6 128 yX6_mayStand, Cond.instanceMethod yX6_mayStand, Cond.selects RX6 yX6_mayStand yX6_mayStand, Cond.code yX6_mayStand cX6_mayStand 5 (some .boolean), Cond.methodLink RX6 90 yX6_noDemands, Cond.instanceMethod yX6_noDemands, Cond.selects RX6 yX6_noDemands yX6_noDemands, Cond.code yX6_noDemands cX6_noDemands 2 none]
def wsX6_bestLower_r3 : List Cond := [Cond.fieldLink RX6 22 "PlaFolderModel" "under" "[I", Cond.methodLink RX6 93 yX6_demand, Cond.instanceMethod yX6_demand, Cond.selects RX6 yX6_demand yX6_demand, Cond.code yX6_demand cX6_demand 4 none, Cond.methodLink RX6 103 yX6_layRows, Cond.instanceMethod yX6_layRows, Cond.selects RX6 yX6_layRows yX6_layRows, Cond.code yX6_layRows cX6_layRows 7 (some .boolean), Cond.fieldLink RX6 25 "PlaFolderModel" "order" "[I"]
def wsX6_bestLower : List Cond := .code yX6_bestLower cX6_bestLower 2 (some .int) :: ((wsX6_bestLower_r1 ++ (wsX6_bestLower_r2 ++ wsX6_bestLower_r3)) ++ wsX60)
def wsX6_foldBest_r1 : List Cond := [Cond.fieldLink RX6 131 "PlaFolderModel" "listMany" "I", Cond.fieldLink RX6 7 "PlaFolderModel" "now" "[I", Cond.fieldLink RX6 28 "PlaFolderModel" "list" "[I", Cond.methodLink RX6 46 yX6_save, Cond.instanceMethod yX6_save, Cond.selects RX6 yX6_save yX6_save, Cond.initialized RX6, Cond.code yX6_save cX6_save 2 none, Cond.fieldLink RX6 38 "PlaFolderModel" "states" "I", Cond.fieldLink RX6 13 "PlaFolderModel" "past" "[I", Cond.methodLink RX6 137 yX6_findBest, Cond.instanceMethod yX6_findBest, Cond.selects RX6 yX6_findBest yX6_findBest, Cond.code yX6_findBest cX6_findBest 2 none, Cond.methodLink RX6 84 yX6_layUsed, Cond.instanceMethod yX6_layUsed, Cond.selects RX6 yX6_layUsed yX6_layUsed, Cond.code yX6_layUsed cX6_layUsed 2 none, Cond.fieldLink RX6 19 "PlaFolderModel" "used" "[I", Cond.methodLink RX6 78 yX6_usedBy, Cond.instanceMethod yX6_usedBy, Cond.selects RX6 yX6_usedBy yX6_usedBy, Cond.code yX6_usedBy cX6_usedBy 5 (some .int), Cond.methodLink RX6 72 yX6_has]
def wsX6_foldBest_r2 : List Cond := [Cond.static yX6_has, Cond.code yX6_has cX6_has 2 (some .boolean), Cond.methodLink RX6 134 yX6_findList, Cond.instanceMethod yX6_findList, Cond.selects RX6 yX6_findList yX6_findList, Cond.code yX6_findList cX6_findList 4 (some .boolean), Cond.methodLink RX6 87 yX6_fits, Cond.instanceMethod yX6_fits, Cond.selects RX6 yX6_fits yX6_fits, Cond.code yX6_fits cX6_fits 3 (some .boolean), Cond.methodLink RX6 81 yX6_isColumn, Cond.instanceMethod yX6_isColumn, Cond.selects RX6 yX6_isColumn yX6_isColumn, Cond.code yX6_isColumn cX6_isColumn 2 (some .boolean), Cond.methodLink RX6 34 yX6_in, Cond.static yX6_in, Cond.code yX6_in cX6_in 3 (some .boolean), Cond.methodLink RX6 128 yX6_mayStand, Cond.instanceMethod yX6_mayStand, Cond.selects RX6 yX6_mayStand yX6_mayStand, Cond.code yX6_mayStand cX6_mayStand 5 (some .boolean), Cond.methodLink RX6 90 yX6_noDemands, Cond.instanceMethod yX6_noDemands, Cond.selects RX6 yX6_noDemands yX6_noDemands]
def wsX6_foldBest_r3 : List Cond := [Cond.code yX6_noDemands cX6_noDemands 2 none, Cond.fieldLink RX6 22 "PlaFolderModel" "under" "[I", Cond.methodLink RX6 93 yX6_demand, Cond.instanceMethod yX6_demand, Cond.selects RX6 yX6_demand yX6_demand, Cond.code yX6_demand cX6_demand 4 none, Cond.methodLink RX6 103 yX6_layRows, Cond.instanceMethod yX6_layRows, Cond.selects RX6 yX6_layRows yX6_layRows, Cond.code yX6_layRows cX6_layRows 7 (some .boolean), Cond.fieldLink RX6 25 "PlaFolderModel" "order" "[I", Cond.methodLink RX6 31 yX6_noFolds, Cond.instanceMethod yX6_noFolds, Cond.selects RX6 yX6_noFolds yX6_noFolds, Cond.code yX6_noFolds cX6_noFolds 2 none, Cond.methodLink RX6 122 yX6_areaNow, Cond.instanceMethod yX6_areaNow, Cond.selects RX6 yX6_areaNow yX6_areaNow, Cond.code yX6_areaNow cX6_areaNow 1 (some .int), Cond.methodLink RX6 107 yX6_foldMany, Cond.instanceMethod yX6_foldMany, Cond.selects RX6 yX6_foldMany yX6_foldMany, Cond.code yX6_foldMany cX6_foldMany 3 (some .int)]
def wsX6_foldBest : List Cond := .code yX6_foldBest cX6_foldBest 2 (some .int) :: ((wsX6_foldBest_r1 ++ (wsX6_foldBest_r2 ++ wsX6_foldBest_r3)) ++ wsX60)
def wsX6_errorCount : List Cond := .code yX6_errorCount cX6_errorCount 2 (some .int) :: ([.fieldLink RX6 16 "PlaFolderModel" "errors" "[I", .methodLink RX6 34 yX6_in, .static yX6_in, .initialized RX6, .code yX6_in cX6_in 3 (some .boolean), .methodLink RX6 42 yX6_error, .instanceMethod yX6_error, .selects RX6 yX6_error yX6_error, .code yX6_error cX6_error 2 (some .int)] ++ wsX60)
def wsX6_mix : List Cond := .code yX6_mix cX6_mix 3 none :: ([.constantLong RX6 140 (31), .fieldLink RX6 142 "PlaFolderModel" "hash" "J"] ++ wsX60)
def wsX6_mixTerms_r1 : List Cond := [Cond.fieldLink RX6 7 "PlaFolderModel" "now" "[I", Cond.fieldLink RX6 19 "PlaFolderModel" "used" "[I", Cond.methodLink RX6 146 yX6_mix, Cond.instanceMethod yX6_mix, Cond.selects RX6 yX6_mix yX6_mix, Cond.initialized RX6, Cond.code yX6_mix cX6_mix 3 none, Cond.constantLong RX6 140 (31), Cond.fieldLink RX6 142 "PlaFolderModel" "hash" "J", Cond.methodLink RX6 75 yX6_redundant, Cond.instanceMethod yX6_redundant, Cond.selects RX6 yX6_redundant yX6_redundant, Cond.code yX6_redundant cX6_redundant 4 (some .boolean), Cond.methodLink RX6 64 yX6_words, Cond.instanceMethod yX6_words, Cond.selects RX6 yX6_words yX6_words, Cond.code yX6_words cX6_words 1 (some .int), Cond.methodLink RX6 68 yX6_outputs, Cond.instanceMethod yX6_outputs, Cond.selects RX6 yX6_outputs yX6_outputs, Cond.code yX6_outputs cX6_outputs 6 (some .int), Cond.methodLink RX6 119 yX6_rowAt, Cond.instanceMethod yX6_rowAt, Cond.selects RX6 yX6_rowAt yX6_rowAt]
def wsX6_mixTerms_r2 : List Cond := [Cond.code yX6_rowAt cX6_rowAt 3 (some .int), Cond.fieldLink RX6 25 "PlaFolderModel" "order" "[I", Cond.methodLink RX6 81 yX6_isColumn, Cond.instanceMethod yX6_isColumn, Cond.selects RX6 yX6_isColumn yX6_isColumn, Cond.code yX6_isColumn cX6_isColumn 2 (some .boolean), Cond.methodLink RX6 34 yX6_in, Cond.static yX6_in, Cond.code yX6_in cX6_in 3 (some .boolean), Cond.methodLink RX6 110 yX6_partnerOf, Cond.instanceMethod yX6_partnerOf, Cond.selects RX6 yX6_partnerOf yX6_partnerOf, Cond.code yX6_partnerOf cX6_partnerOf 2 (some .int), Cond.methodLink RX6 125 yX6_spanOf, Cond.instanceMethod yX6_spanOf, Cond.selects RX6 yX6_spanOf yX6_spanOf, Cond.code yX6_spanOf cX6_spanOf 5 (some .int), Cond.methodLink RX6 72 yX6_has, Cond.static yX6_has, Cond.code yX6_has cX6_has 2 (some .boolean)]
def wsX6_mixTerms : List Cond := .code yX6_mixTerms cX6_mixTerms 2 none :: ((wsX6_mixTerms_r1 ++ wsX6_mixTerms_r2) ++ wsX60)
def wsX6_digest_r1 : List Cond := [Cond.constantLong RX6 150 (2713), Cond.fieldLink RX6 142 "PlaFolderModel" "hash" "J", Cond.fieldLink RX6 16 "PlaFolderModel" "errors" "[I", Cond.fieldLink RX6 7 "PlaFolderModel" "now" "[I", Cond.fieldLink RX6 131 "PlaFolderModel" "listMany" "I", Cond.fieldLink RX6 28 "PlaFolderModel" "list" "[I", Cond.fieldLink RX6 38 "PlaFolderModel" "states" "I", Cond.methodLink RX6 146 yX6_mix, Cond.instanceMethod yX6_mix, Cond.selects RX6 yX6_mix yX6_mix, Cond.initialized RX6, Cond.code yX6_mix cX6_mix 3 none, Cond.constantLong RX6 140 (31), Cond.methodLink RX6 116 yX6_lay, Cond.instanceMethod yX6_lay, Cond.selects RX6 yX6_lay yX6_lay, Cond.code yX6_lay cX6_lay 2 none, Cond.methodLink RX6 97 yX6_layDemands, Cond.instanceMethod yX6_layDemands, Cond.selects RX6 yX6_layDemands yX6_layDemands, Cond.code yX6_layDemands cX6_layDemands 2 none, Cond.methodLink RX6 84 yX6_layUsed, Cond.instanceMethod yX6_layUsed, Cond.selects RX6 yX6_layUsed yX6_layUsed]
def wsX6_digest_r2 : List Cond := [Cond.code yX6_layUsed cX6_layUsed 2 none, Cond.fieldLink RX6 19 "PlaFolderModel" "used" "[I", Cond.methodLink RX6 78 yX6_usedBy, Cond.instanceMethod yX6_usedBy, Cond.selects RX6 yX6_usedBy yX6_usedBy, Cond.code yX6_usedBy cX6_usedBy 5 (some .int), Cond.methodLink RX6 72 yX6_has, Cond.static yX6_has, Cond.code yX6_has cX6_has 2 (some .boolean), Cond.methodLink RX6 90 yX6_noDemands, Cond.instanceMethod yX6_noDemands, Cond.selects RX6 yX6_noDemands yX6_noDemands, Cond.code yX6_noDemands cX6_noDemands 2 none, Cond.fieldLink RX6 22 "PlaFolderModel" "under" "[I", Cond.methodLink RX6 93 yX6_demand, Cond.instanceMethod yX6_demand, Cond.selects RX6 yX6_demand yX6_demand, Cond.code yX6_demand cX6_demand 4 none, Cond.methodLink RX6 103 yX6_layRows, Cond.instanceMethod yX6_layRows, Cond.selects RX6 yX6_layRows yX6_layRows, Cond.code yX6_layRows cX6_layRows 7 (some .boolean), Cond.fieldLink RX6 25 "PlaFolderModel" "order" "[I", Cond.methodLink RX6 152 yX6_mixTerms]
def wsX6_digest_r3 : List Cond := [Cond.instanceMethod yX6_mixTerms, Cond.selects RX6 yX6_mixTerms yX6_mixTerms, Cond.code yX6_mixTerms cX6_mixTerms 2 none, Cond.methodLink RX6 75 yX6_redundant, Cond.instanceMethod yX6_redundant, Cond.selects RX6 yX6_redundant yX6_redundant, Cond.code yX6_redundant cX6_redundant 4 (some .boolean), Cond.methodLink RX6 64 yX6_words, Cond.instanceMethod yX6_words, Cond.selects RX6 yX6_words yX6_words, Cond.code yX6_words cX6_words 1 (some .int), Cond.methodLink RX6 68 yX6_outputs, Cond.instanceMethod yX6_outputs, Cond.selects RX6 yX6_outputs yX6_outputs, Cond.code yX6_outputs cX6_outputs 6 (some .int), Cond.methodLink RX6 119 yX6_rowAt, Cond.instanceMethod yX6_rowAt, Cond.selects RX6 yX6_rowAt yX6_rowAt, Cond.code yX6_rowAt cX6_rowAt 3 (some .int), Cond.methodLink RX6 81 yX6_isColumn, Cond.instanceMethod yX6_isColumn, Cond.selects RX6 yX6_isColumn yX6_isColumn, Cond.code yX6_isColumn cX6_isColumn 2 (some .boolean), Cond.methodLink RX6 34 yX6_in]
def wsX6_digest_r4 : List Cond := [Cond.static yX6_in, Cond.code yX6_in cX6_in 3 (some .boolean), Cond.methodLink RX6 110 yX6_partnerOf, Cond.instanceMethod yX6_partnerOf, Cond.selects RX6 yX6_partnerOf yX6_partnerOf, Cond.code yX6_partnerOf cX6_partnerOf 2 (some .int), Cond.methodLink RX6 125 yX6_spanOf, Cond.instanceMethod yX6_spanOf, Cond.selects RX6 yX6_spanOf yX6_spanOf, Cond.code yX6_spanOf cX6_spanOf 5 (some .int), Cond.methodLink RX6 122 yX6_areaNow, Cond.instanceMethod yX6_areaNow, Cond.selects RX6 yX6_areaNow yX6_areaNow, Cond.code yX6_areaNow cX6_areaNow 1 (some .int), Cond.methodLink RX6 107 yX6_foldMany, Cond.instanceMethod yX6_foldMany, Cond.selects RX6 yX6_foldMany yX6_foldMany, Cond.code yX6_foldMany cX6_foldMany 3 (some .int), Cond.methodLink RX6 137 yX6_findBest, Cond.instanceMethod yX6_findBest, Cond.selects RX6 yX6_findBest yX6_findBest, Cond.code yX6_findBest cX6_findBest 2 none, Cond.methodLink RX6 134 yX6_findList, Cond.instanceMethod yX6_findList]
def wsX6_digest_r5 : List Cond := [Cond.selects RX6 yX6_findList yX6_findList, Cond.code yX6_findList cX6_findList 4 (some .boolean), Cond.methodLink RX6 87 yX6_fits, Cond.instanceMethod yX6_fits, Cond.selects RX6 yX6_fits yX6_fits, Cond.code yX6_fits cX6_fits 3 (some .boolean), Cond.methodLink RX6 128 yX6_mayStand, Cond.instanceMethod yX6_mayStand, Cond.selects RX6 yX6_mayStand yX6_mayStand, Cond.code yX6_mayStand cX6_mayStand 5 (some .boolean)]
def wsX6_digest : List Cond := .code yX6_digest cX6_digest 2 (some .long) :: ((wsX6_digest_r1 ++ (wsX6_digest_r2 ++ (wsX6_digest_r3 ++ (wsX6_digest_r4 ++ wsX6_digest_r5)))) ++ wsX60)
def wsJ9_max_7cf53 : List Cond := .code yJ9_max_7cf53 cJ9_max_7cf53 2 (some .int) :: ([])
def wsJ9_min_7cf53 : List Cond := .code yJ9_min_7cf53 cJ9_min_7cf53 2 (some .int) :: ([])
def wsL_law_r1 : List Cond := [Cond.classLink RL 7 RX5, Cond.instantiable RX5 6, Cond.initialized RX5, Cond.classLink RL 10 RX6, Cond.instantiable RX6 10, Cond.initialized RX6, Cond.methodLink RL 9 yX5_init, Cond.instanceMethod yX5_init, Cond.code yX5_init cX5_init 1 none, Cond.methodLink RX5 3 objectInit, Cond.instanceMethod objectInit, Cond.code objectInit ⟨#[0xb1]⟩ 1 none, Cond.classLink RX5 9 RX4, Cond.instantiable RX4 10, Cond.initialized RX4, Cond.fieldLink RX5 12 "PlaFolder" "state" "LPlaFolder$State;", Cond.classLink RX5 16 RX2, Cond.instantiable RX2 2, Cond.initialized RX2, Cond.fieldLink RX5 19 "PlaFolder" "history" "LPlaFolder$History;", Cond.classLink RX5 23 RX1, Cond.instantiable RX1 1, Cond.initialized RX1, Cond.fieldLink RX5 26 "PlaFolder" "demands" "LPlaFolder$Demands;"]
def wsL_law_r2 : List Cond := [Cond.classLink RX5 30 RX3, Cond.instantiable RX3 2, Cond.initialized RX3, Cond.fieldLink RX5 33 "PlaFolder" "rows" "LPlaFolder$RowOrder;", Cond.classLink RX5 37 RX0, Cond.instantiable RX0 9, Cond.initialized RX0, Cond.fieldLink RX5 40 "PlaFolder" "best" "LPlaFolder$BestFolding;", Cond.arrayClass .int, Cond.fieldLink RX5 44 "PlaFolder" "errors" "[I", Cond.instanceMethod yX4_init, Cond.code yX4_init cX4_init 1 none, Cond.methodLink RX4 3 objectInit, Cond.fieldLink RX4 9 "PlaFolder$State" "inputs" "I", Cond.fieldLink RX4 15 "PlaFolder$State" "outputs" "I", Cond.fieldLink RX4 18 "PlaFolder$State" "termCount" "I", Cond.fieldLink RX4 21 "PlaFolder$State" "foldCount" "I", Cond.fieldLink RX4 24 "PlaFolder$State" "ones" "[I", Cond.fieldLink RX4 28 "PlaFolder$State" "zeros" "[I", Cond.fieldLink RX4 31 "PlaFolder$State" "outs" "[I", Cond.arrayClass .long, Cond.fieldLink RX4 34 "PlaFolder$State" "words" "[J", Cond.fieldLink RX4 38 "PlaFolder$State" "lowerOf" "[I", Cond.fieldLink RX4 41 "PlaFolder$State" "upperOf" "[I"]
def wsL_law_r3 : List Cond := [Cond.methodLink RX4 44 yJ7_fill_53178, Cond.static yJ7_fill_53178, Cond.initialized RJ7, Cond.code yJ7_fill_53178 cJ7_fill_53178 4 none, Cond.instanceMethod yX2_init, Cond.code yX2_init cX2_init 2 none, Cond.methodLink RX2 3 objectInit, Cond.classLink RX2 9 RX4, Cond.fieldLink RX2 11 "PlaFolder$History" "saved" "[LPlaFolder$State;", Cond.fieldLink RX2 17 "PlaFolder$History" "count" "I", Cond.instanceMethod yX1_init, Cond.code yX1_init cX1_init 1 none, Cond.methodLink RX1 3 objectInit, Cond.fieldLink RX1 9 "PlaFolder$Demands" "above" "[I", Cond.instanceMethod yX3_init, Cond.code yX3_init cX3_init 1 none, Cond.methodLink RX3 3 objectInit, Cond.fieldLink RX3 9 "PlaFolder$RowOrder" "termInRow" "[I", Cond.fieldLink RX3 15 "PlaFolder$RowOrder" "rowOfTerm" "[I", Cond.instanceMethod yX0_init, Cond.code yX0_init cX0_init 2 none, Cond.methodLink RX0 3 objectInit, Cond.fieldLink RX0 9 "PlaFolder$BestFolding" "known" "Z", Cond.fieldLink RX0 15 "PlaFolder$BestFolding" "count" "I"]
def wsL_law_r4 : List Cond := [Cond.fieldLink RX0 19 "PlaFolder$BestFolding" "upper" "[I", Cond.fieldLink RX0 23 "PlaFolder$BestFolding" "lower" "[I", Cond.fieldLink RX0 26 "PlaFolder$BestFolding" "triedUpper" "[I", Cond.fieldLink RX0 29 "PlaFolder$BestFolding" "triedLower" "[I", Cond.fieldLink RX0 32 "PlaFolder$BestFolding" "used" "[I", Cond.fieldLink RX0 35 "PlaFolder$BestFolding" "mates" "[I", Cond.classLink RX0 38 RX1, Cond.fieldLink RX0 40 "PlaFolder$BestFolding" "demandsAt" "[LPlaFolder$Demands;", Cond.methodLink RL 12 yX6_init, Cond.instanceMethod yX6_init, Cond.code yX6_init cX6_init 1 none, Cond.methodLink RX6 1 objectInit, Cond.fieldLink RX6 7 "PlaFolderModel" "now" "[I", Cond.fieldLink RX6 13 "PlaFolderModel" "past" "[I", Cond.fieldLink RX6 16 "PlaFolderModel" "errors" "[I", Cond.fieldLink RX6 19 "PlaFolderModel" "used" "[I", Cond.fieldLink RX6 22 "PlaFolderModel" "under" "[I", Cond.fieldLink RX6 25 "PlaFolderModel" "order" "[I", Cond.fieldLink RX6 28 "PlaFolderModel" "list" "[I", Cond.methodLink RX6 31 yX6_noFolds, Cond.instanceMethod yX6_noFolds, Cond.selects RX6 yX6_noFolds yX6_noFolds, Cond.code yX6_noFolds cX6_noFolds 2 none, Cond.methodLink RL 13 yX5_setSize]
def wsL_law_r5 : List Cond := [Cond.instanceMethod yX5_setSize, Cond.selects RX5 yX5_setSize yX5_setSize, Cond.code yX5_setSize cX5_setSize 4 (some .int), Cond.methodLink RX5 48 yX5_fail, Cond.instanceMethod yX5_fail, Cond.selects RX5 yX5_fail yX5_fail, Cond.code yX5_fail cX5_fail 2 (some .int), Cond.instanceMethod yX2_push, Cond.selects RX2 yX2_push yX2_push, Cond.code yX2_push cX2_push 2 none, Cond.methodLink RX2 22 yX2_dropOldest, Cond.instanceMethod yX2_dropOldest, Cond.selects RX2 yX2_dropOldest yX2_dropOldest, Cond.code yX2_dropOldest cX2_dropOldest 3 none, Cond.instanceMethod yX4_copyFrom, Cond.selects RX4 yX4_copyFrom yX4_copyFrom, Cond.code yX4_copyFrom cX4_copyFrom 2 none, Cond.methodLink RX4 50 arraycopyName, Cond.native arraycopyName, Cond.static arraycopyName, Cond.initialized "java/lang/System", Cond.instanceMethod yX4_resize, Cond.selects RX4 yX4_resize yX4_resize, Cond.code yX4_resize cX4_resize 3 none]
def wsL_law_r6 : List Cond := [Cond.methodLink RX4 56 yX4_partAll, Cond.instanceMethod yX4_partAll, Cond.selects RX4 yX4_partAll yX4_partAll, Cond.code yX4_partAll cX4_partAll 1 none, Cond.methodLink RX5 64 yX5_termsChanged, Cond.instanceMethod yX5_termsChanged, Cond.selects RX5 yX5_termsChanged yX5_termsChanged, Cond.code yX5_termsChanged cX5_termsChanged 1 none, Cond.methodLink RX5 138 yX5_foldsChanged, Cond.instanceMethod yX5_foldsChanged, Cond.selects RX5 yX5_foldsChanged yX5_foldsChanged, Cond.code yX5_foldsChanged cX5_foldsChanged 1 none, Cond.instanceMethod yX1_collect, Cond.selects RX1 yX1_collect yX1_collect, Cond.code yX1_collect cX1_collect 4 none, Cond.methodLink RX1 27 yX1_clear, Cond.instanceMethod yX1_clear, Cond.selects RX1 yX1_clear yX1_clear, Cond.code yX1_clear cX1_clear 1 none, Cond.methodLink RX1 15 yJ7_fill_53178, Cond.instanceMethod yX4_termsOfColumn, Cond.selects RX4 yX4_termsOfColumn yX4_termsOfColumn, Cond.code yX4_termsOfColumn cX4_termsOfColumn 5 (some .int), Cond.static yX5_contains]
def wsL_law_r7 : List Cond := [Cond.code yX5_contains cX5_contains 2 (some .boolean), Cond.methodLink RX1 39 yX1_add, Cond.instanceMethod yX1_add, Cond.selects RX1 yX1_add yX1_add, Cond.code yX1_add cX1_add 5 none, Cond.methodLink RX1 47 yX1_withAllAbove, Cond.instanceMethod yX1_withAllAbove, Cond.selects RX1 yX1_withAllAbove yX1_withAllAbove, Cond.code yX1_withAllAbove cX1_withAllAbove 4 (some .int), Cond.instanceMethod yX3_build, Cond.selects RX3 yX3_build yX3_build, Cond.code yX3_build cX3_build 6 none, Cond.methodLink RX3 18 yX3_nextTerm, Cond.static yX3_nextTerm, Cond.code yX3_nextTerm cX3_nextTerm 4 (some .int), Cond.methodLink RL 17 yX6_setSize, Cond.instanceMethod yX6_setSize, Cond.selects RX6 yX6_setSize yX6_setSize, Cond.code yX6_setSize cX6_setSize 4 (some .int), Cond.methodLink RX6 34 yX6_in, Cond.static yX6_in, Cond.code yX6_in cX6_in 3 (some .boolean), Cond.methodLink RX6 42 yX6_error, Cond.instanceMethod yX6_error]
def wsL_law_r8 : List Cond := [Cond.selects RX6 yX6_error yX6_error, Cond.code yX6_error cX6_error 2 (some .int), Cond.methodLink RX6 46 yX6_save, Cond.instanceMethod yX6_save, Cond.selects RX6 yX6_save yX6_save, Cond.code yX6_save cX6_save 2 none, Cond.fieldLink RX6 38 "PlaFolderModel" "states" "I", Cond.methodLink RL 18 yX5_addTerm, Cond.instanceMethod yX5_addTerm, Cond.selects RX5 yX5_addTerm yX5_addTerm, Cond.code yX5_addTerm cX5_addTerm 4 (some .int), Cond.instanceMethod yX4_takesTerm, Cond.selects RX4 yX4_takesTerm yX4_takesTerm, Cond.code yX4_takesTerm cX4_takesTerm 6 (some .boolean), Cond.instanceMethod yX4_appendTerm, Cond.selects RX4 yX4_appendTerm yX4_appendTerm, Cond.code yX4_appendTerm cX4_appendTerm 4 none, Cond.methodLink RX4 59 yX4_wordsOfTerm, Cond.instanceMethod yX4_wordsOfTerm, Cond.selects RX4 yX4_wordsOfTerm yX4_wordsOfTerm, Cond.code yX4_wordsOfTerm cX4_wordsOfTerm 6 (some .long), Cond.constantLong RX4 74 (-1), Cond.methodLink RX4 63 yX4_allWords, Cond.instanceMethod yX4_allWords]
def wsL_law_r9 : List Cond := [Cond.selects RX4 yX4_allWords yX4_allWords, Cond.code yX4_allWords cX4_allWords 1 (some .long), Cond.methodLink RL 22 yX6_addTerm, Cond.instanceMethod yX6_addTerm, Cond.selects RX6 yX6_addTerm yX6_addTerm, Cond.code yX6_addTerm cX6_addTerm 5 (some .int), Cond.methodLink RX6 49 yX6_isSet, Cond.instanceMethod yX6_isSet, Cond.selects RX6 yX6_isSet yX6_isSet, Cond.code yX6_isSet cX6_isSet 3 (some .boolean), Cond.methodLink RL 23 yX5_removeTerm, Cond.instanceMethod yX5_removeTerm, Cond.selects RX5 yX5_removeTerm yX5_removeTerm, Cond.code yX5_removeTerm cX5_removeTerm 2 (some .int), Cond.instanceMethod yX4_hasTerm, Cond.selects RX4 yX4_hasTerm yX4_hasTerm, Cond.code yX4_hasTerm cX4_hasTerm 2 (some .boolean), Cond.instanceMethod yX4_dropTerm, Cond.selects RX4 yX4_dropTerm yX4_dropTerm, Cond.code yX4_dropTerm cX4_dropTerm 3 none, Cond.methodLink RL 27 yX6_removeTerm, Cond.instanceMethod yX6_removeTerm, Cond.selects RX6 yX6_removeTerm yX6_removeTerm, Cond.code yX6_removeTerm cX6_removeTerm 2 (some .int)]
def wsL_law_r10 : List Cond := [Cond.methodLink RX6 53 yX6_isTerm, Cond.instanceMethod yX6_isTerm, Cond.selects RX6 yX6_isTerm yX6_isTerm, Cond.code yX6_isTerm cX6_isTerm 2 (some .boolean), Cond.methodLink RX6 57 yX6_drop, Cond.instanceMethod yX6_drop, Cond.selects RX6 yX6_drop yX6_drop, Cond.code yX6_drop cX6_drop 3 none, Cond.methodLink RL 28 yX5_terms, Cond.instanceMethod yX5_terms, Cond.selects RX5 yX5_terms yX5_terms, Cond.code yX5_terms cX5_terms 1 (some .int), Cond.methodLink RL 32 yX6_terms, Cond.instanceMethod yX6_terms, Cond.selects RX6 yX6_terms yX6_terms, Cond.code yX6_terms cX6_terms 1 (some .int), Cond.methodLink RL 33 yX5_literals, Cond.instanceMethod yX5_literals, Cond.selects RX5 yX5_literals yX5_literals, Cond.code yX5_literals cX5_literals 2 (some .int), Cond.methodLink RX5 89 yJ6_bitCount_0f7a4, Cond.static yJ6_bitCount_0f7a4, Cond.initialized RJ6, Cond.code yJ6_bitCount_0f7a4 cJ6_bitCount_0f7a4 1 (some .int)]
def wsL_law_r11 : List Cond := [Cond.constant RJ6 265 (1431655765), Cond.constant RJ6 266 (858993459), Cond.constant RJ6 267 (252645135), Cond.methodLink RL 36 yX6_literals, Cond.instanceMethod yX6_literals, Cond.selects RX6 yX6_literals yX6_literals, Cond.code yX6_literals cX6_literals 2 (some .int), Cond.methodLink RX6 61 yX6_many, Cond.static yX6_many, Cond.code yX6_many cX6_many 3 (some .int), Cond.methodLink RL 37 yX5_evaluate, Cond.instanceMethod yX5_evaluate, Cond.selects RX5 yX5_evaluate yX5_evaluate, Cond.code yX5_evaluate cX5_evaluate 2 (some .int), Cond.instanceMethod yX4_outputWord, Cond.selects RX4 yX4_outputWord yX4_outputWord, Cond.code yX4_outputWord cX4_outputWord 4 (some .int), Cond.methodLink RL 40 yX6_evaluate, Cond.instanceMethod yX6_evaluate, Cond.selects RX6 yX6_evaluate yX6_evaluate, Cond.code yX6_evaluate cX6_evaluate 2 (some .int), Cond.methodLink RX6 64 yX6_words, Cond.instanceMethod yX6_words, Cond.selects RX6 yX6_words yX6_words]
def wsL_law_r12 : List Cond := [Cond.code yX6_words cX6_words 1 (some .int), Cond.methodLink RX6 68 yX6_outputs, Cond.instanceMethod yX6_outputs, Cond.selects RX6 yX6_outputs yX6_outputs, Cond.code yX6_outputs cX6_outputs 6 (some .int), Cond.methodLink RL 41 yX5_onCount, Cond.instanceMethod yX5_onCount, Cond.selects RX5 yX5_onCount yX5_onCount, Cond.code yX5_onCount cX5_onCount 2 (some .int), Cond.instanceMethod yX4_wordsOfOutput, Cond.selects RX4 yX4_wordsOfOutput yX4_wordsOfOutput, Cond.code yX4_wordsOfOutput cX4_wordsOfOutput 6 (some .long), Cond.methodLink RX5 107 yJ13_bitCount_95d88, Cond.static yJ13_bitCount_95d88, Cond.initialized RJ13, Cond.code yJ13_bitCount_95d88 cJ13_bitCount_95d88 2 (some .int), Cond.constantLong RJ13 314 (6148914691236517205), Cond.constantLong RJ13 316 (3689348814741910323), Cond.constantLong RJ13 318 (1085102592571150095), Cond.methodLink RL 44 yX6_onCount, Cond.instanceMethod yX6_onCount, Cond.selects RX6 yX6_onCount yX6_onCount, Cond.code yX6_onCount cX6_onCount 4 (some .int), Cond.methodLink RX6 72 yX6_has]
def wsL_law_r13 : List Cond := [Cond.static yX6_has, Cond.code yX6_has cX6_has 2 (some .boolean), Cond.methodLink RL 45 yX5_isRedundant, Cond.instanceMethod yX5_isRedundant, Cond.selects RX5 yX5_isRedundant yX5_isRedundant, Cond.code yX5_isRedundant cX5_isRedundant 2 (some .int), Cond.instanceMethod yX4_isSpare, Cond.selects RX4 yX4_isSpare yX4_isSpare, Cond.code yX4_isSpare cX4_isSpare 3 (some .boolean), Cond.methodLink RX4 76 yX4_wordsOfOutput, Cond.methodLink RX5 115 yX5_flag, Cond.static yX5_flag, Cond.code yX5_flag cX5_flag 1 (some .int), Cond.methodLink RL 48 yX6_isRedundant, Cond.instanceMethod yX6_isRedundant, Cond.selects RX6 yX6_isRedundant yX6_isRedundant, Cond.code yX6_isRedundant cX6_isRedundant 2 (some .int), Cond.methodLink RX6 75 yX6_redundant, Cond.instanceMethod yX6_redundant, Cond.selects RX6 yX6_redundant yX6_redundant, Cond.code yX6_redundant cX6_redundant 4 (some .boolean), Cond.methodLink RL 49 yX5_removeRedundant, Cond.instanceMethod yX5_removeRedundant, Cond.selects RX5 yX5_removeRedundant yX5_removeRedundant]
def wsL_law_r14 : List Cond := [Cond.code yX5_removeRedundant cX5_removeRedundant 3 (some .int), Cond.methodLink RL 52 yX6_removeRedundant, Cond.instanceMethod yX6_removeRedundant, Cond.selects RX6 yX6_removeRedundant yX6_removeRedundant, Cond.code yX6_removeRedundant cX6_removeRedundant 3 (some .int), Cond.methodLink RL 53 yX5_uses, Cond.instanceMethod yX5_uses, Cond.selects RX5 yX5_uses yX5_uses, Cond.code yX5_uses cX5_uses 2 (some .int), Cond.instanceMethod yX4_hasColumn, Cond.selects RX4 yX4_hasColumn yX4_hasColumn, Cond.code yX4_hasColumn cX4_hasColumn 2 (some .boolean), Cond.methodLink RL 56 yX6_uses, Cond.instanceMethod yX6_uses, Cond.selects RX6 yX6_uses yX6_uses, Cond.code yX6_uses cX6_uses 2 (some .int), Cond.methodLink RX6 81 yX6_isColumn, Cond.instanceMethod yX6_isColumn, Cond.selects RX6 yX6_isColumn yX6_isColumn, Cond.code yX6_isColumn cX6_isColumn 2 (some .boolean), Cond.methodLink RX6 78 yX6_usedBy, Cond.instanceMethod yX6_usedBy, Cond.selects RX6 yX6_usedBy yX6_usedBy, Cond.code yX6_usedBy cX6_usedBy 5 (some .int)]
def wsL_law_r15 : List Cond := [Cond.methodLink RL 57 yX5_canFold, Cond.instanceMethod yX5_canFold, Cond.selects RX5 yX5_canFold yX5_canFold, Cond.code yX5_canFold cX5_canFold 3 (some .int), Cond.instanceMethod yX4_isPair, Cond.selects RX4 yX4_isPair yX4_isPair, Cond.code yX4_isPair cX4_isPair 4 (some .boolean), Cond.methodLink RX4 79 yX4_termsOfColumn, Cond.methodLink RL 60 yX6_canFold, Cond.instanceMethod yX6_canFold, Cond.selects RX6 yX6_canFold yX6_canFold, Cond.code yX6_canFold cX6_canFold 3 (some .int), Cond.methodLink RX6 84 yX6_layUsed, Cond.instanceMethod yX6_layUsed, Cond.selects RX6 yX6_layUsed yX6_layUsed, Cond.code yX6_layUsed cX6_layUsed 2 none, Cond.methodLink RX6 87 yX6_fits, Cond.instanceMethod yX6_fits, Cond.selects RX6 yX6_fits yX6_fits, Cond.code yX6_fits cX6_fits 3 (some .boolean), Cond.methodLink RL 61 yX5_fold, Cond.instanceMethod yX5_fold, Cond.selects RX5 yX5_fold yX5_fold, Cond.code yX5_fold cX5_fold 3 (some .int)]
def wsL_law_r16 : List Cond := [Cond.instanceMethod yX4_mateOf, Cond.selects RX4 yX4_mateOf yX4_mateOf, Cond.code yX4_mateOf cX4_mateOf 2 (some .int), Cond.instanceMethod yX1_allow, Cond.selects RX1 yX1_allow yX1_allow, Cond.code yX1_allow cX1_allow 3 (some .boolean), Cond.instanceMethod yX4_join, Cond.selects RX4 yX4_join yX4_join, Cond.code yX4_join cX4_join 3 none, Cond.methodLink RL 64 yX6_fold, Cond.instanceMethod yX6_fold, Cond.selects RX6 yX6_fold yX6_fold, Cond.code yX6_fold cX6_fold 3 (some .int), Cond.methodLink RX6 97 yX6_layDemands, Cond.instanceMethod yX6_layDemands, Cond.selects RX6 yX6_layDemands yX6_layDemands, Cond.code yX6_layDemands cX6_layDemands 2 none, Cond.methodLink RX6 90 yX6_noDemands, Cond.instanceMethod yX6_noDemands, Cond.selects RX6 yX6_noDemands yX6_noDemands, Cond.code yX6_noDemands cX6_noDemands 2 none, Cond.methodLink RX6 93 yX6_demand, Cond.instanceMethod yX6_demand, Cond.selects RX6 yX6_demand yX6_demand]
def wsL_law_r17 : List Cond := [Cond.code yX6_demand cX6_demand 4 none, Cond.methodLink RX6 100 yX6_isFolded, Cond.instanceMethod yX6_isFolded, Cond.selects RX6 yX6_isFolded yX6_isFolded, Cond.code yX6_isFolded cX6_isFolded 2 (some .boolean), Cond.methodLink RX6 103 yX6_layRows, Cond.instanceMethod yX6_layRows, Cond.selects RX6 yX6_layRows yX6_layRows, Cond.code yX6_layRows cX6_layRows 7 (some .boolean), Cond.methodLink RX6 107 yX6_foldMany, Cond.instanceMethod yX6_foldMany, Cond.selects RX6 yX6_foldMany yX6_foldMany, Cond.code yX6_foldMany cX6_foldMany 3 (some .int), Cond.methodLink RL 65 yX5_unfold, Cond.instanceMethod yX5_unfold, Cond.selects RX5 yX5_unfold yX5_unfold, Cond.code yX5_unfold cX5_unfold 2 (some .int), Cond.instanceMethod yX4_part, Cond.selects RX4 yX4_part yX4_part, Cond.code yX4_part cX4_part 3 none, Cond.methodLink RX4 83 yX4_mateOf, Cond.methodLink RL 68 yX6_unfold, Cond.instanceMethod yX6_unfold, Cond.selects RX6 yX6_unfold yX6_unfold]
def wsL_law_r18 : List Cond := [Cond.code yX6_unfold cX6_unfold 2 (some .int), Cond.methodLink RX6 110 yX6_partnerOf, Cond.instanceMethod yX6_partnerOf, Cond.selects RX6 yX6_partnerOf yX6_partnerOf, Cond.code yX6_partnerOf cX6_partnerOf 2 (some .int), Cond.methodLink RX6 113 yX6_apart, Cond.instanceMethod yX6_apart, Cond.selects RX6 yX6_apart yX6_apart, Cond.code yX6_apart cX6_apart 2 none, Cond.methodLink RL 69 yX5_partner, Cond.instanceMethod yX5_partner, Cond.selects RX5 yX5_partner yX5_partner, Cond.code yX5_partner cX5_partner 2 (some .int), Cond.methodLink RL 72 yX6_partner, Cond.instanceMethod yX6_partner, Cond.selects RX6 yX6_partner yX6_partner, Cond.code yX6_partner cX6_partner 2 (some .int), Cond.methodLink RL 73 yX5_folds, Cond.instanceMethod yX5_folds, Cond.selects RX5 yX5_folds yX5_folds, Cond.code yX5_folds cX5_folds 1 (some .int), Cond.methodLink RL 76 yX6_folds, Cond.instanceMethod yX6_folds, Cond.selects RX6 yX6_folds yX6_folds]
def wsL_law_r19 : List Cond := [Cond.code yX6_folds cX6_folds 1 (some .int), Cond.methodLink RL 77 yX5_termAt, Cond.instanceMethod yX5_termAt, Cond.selects RX5 yX5_termAt yX5_termAt, Cond.code yX5_termAt cX5_termAt 2 (some .int), Cond.methodLink RL 80 yX6_termAt, Cond.instanceMethod yX6_termAt, Cond.selects RX6 yX6_termAt yX6_termAt, Cond.code yX6_termAt cX6_termAt 2 (some .int), Cond.methodLink RX6 116 yX6_lay, Cond.instanceMethod yX6_lay, Cond.selects RX6 yX6_lay yX6_lay, Cond.code yX6_lay cX6_lay 2 none, Cond.methodLink RL 81 yX5_rowOf, Cond.instanceMethod yX5_rowOf, Cond.selects RX5 yX5_rowOf yX5_rowOf, Cond.code yX5_rowOf cX5_rowOf 2 (some .int), Cond.methodLink RL 84 yX6_rowOf, Cond.instanceMethod yX6_rowOf, Cond.selects RX6 yX6_rowOf yX6_rowOf, Cond.code yX6_rowOf cX6_rowOf 2 (some .int), Cond.methodLink RX6 119 yX6_rowAt, Cond.instanceMethod yX6_rowAt, Cond.selects RX6 yX6_rowAt yX6_rowAt]
def wsL_law_r20 : List Cond := [Cond.code yX6_rowAt cX6_rowAt 3 (some .int), Cond.methodLink RL 85 yX5_mustPrecede, Cond.instanceMethod yX5_mustPrecede, Cond.selects RX5 yX5_mustPrecede yX5_mustPrecede, Cond.code yX5_mustPrecede cX5_mustPrecede 3 (some .int), Cond.methodLink RX5 156 yX5_contains, Cond.methodLink RL 88 yX6_mustPrecede, Cond.instanceMethod yX6_mustPrecede, Cond.selects RX6 yX6_mustPrecede yX6_mustPrecede, Cond.code yX6_mustPrecede cX6_mustPrecede 6 (some .int), Cond.methodLink RL 89 yX5_area, Cond.instanceMethod yX5_area, Cond.selects RX5 yX5_area yX5_area, Cond.code yX5_area cX5_area 1 (some .int), Cond.methodLink RL 92 yX6_area, Cond.instanceMethod yX6_area, Cond.selects RX6 yX6_area yX6_area, Cond.code yX6_area cX6_area 1 (some .int), Cond.methodLink RX6 122 yX6_areaNow, Cond.instanceMethod yX6_areaNow, Cond.selects RX6 yX6_areaNow yX6_areaNow, Cond.code yX6_areaNow cX6_areaNow 1 (some .int), Cond.methodLink RL 93 yX5_span, Cond.instanceMethod yX5_span]
def wsL_law_r21 : List Cond := [Cond.selects RX5 yX5_span yX5_span, Cond.code yX5_span cX5_span 2 (some .int), Cond.instanceMethod yX3_spread, Cond.selects RX3 yX3_spread yX3_spread, Cond.code yX3_spread cX3_spread 6 (some .int), Cond.methodLink RX3 31 Lib.Math.min.name, Cond.static Lib.Math.min.name, Cond.initialized "java/lang/Math", Cond.code Lib.Math.min.name Lib.Math.min.code 2 (some .int), Cond.methodLink RX3 37 Lib.Math.max.name, Cond.static Lib.Math.max.name, Cond.code Lib.Math.max.name Lib.Math.max.code 2 (some .int), Cond.methodLink RL 96 yX6_span, Cond.instanceMethod yX6_span, Cond.selects RX6 yX6_span yX6_span, Cond.code yX6_span cX6_span 2 (some .int), Cond.methodLink RX6 125 yX6_spanOf, Cond.instanceMethod yX6_spanOf, Cond.selects RX6 yX6_spanOf yX6_spanOf, Cond.code yX6_spanOf cX6_spanOf 5 (some .int), Cond.methodLink RL 97 yX5_bestUpper, Cond.instanceMethod yX5_bestUpper, Cond.selects RX5 yX5_bestUpper yX5_bestUpper, Cond.code yX5_bestUpper cX5_bestUpper 2 (some .int)]
def wsL_law_r22 : List Cond := [Cond.methodLink RX5 163 yX5_findBest, Cond.instanceMethod yX5_findBest, Cond.selects RX5 yX5_findBest yX5_findBest, Cond.code yX5_findBest cX5_findBest 1 none, Cond.instanceMethod yX0_search, Cond.selects RX0 yX0_search yX0_search, Cond.code yX0_search cX0_search 2 none, Cond.methodLink RX0 45 yX0_foldableColumns, Cond.instanceMethod yX0_foldableColumns, Cond.selects RX0 yX0_foldableColumns yX0_foldableColumns, Cond.code yX0_foldableColumns cX0_foldableColumns 4 (some .int), Cond.methodLink RX0 59 yX0_matesOf, Cond.static yX0_matesOf, Cond.code yX0_matesOf cX0_matesOf 4 (some .int), Cond.methodLink RX0 49 yX0_extend, Cond.instanceMethod yX0_extend, Cond.selects RX0 yX0_extend yX0_extend, Cond.code yX0_extend cX0_extend 5 none, Cond.methodLink RX0 71 yX0_keep, Cond.instanceMethod yX0_keep, Cond.selects RX0 yX0_keep yX0_keep, Cond.code yX0_keep cX0_keep 2 none, Cond.methodLink RX0 96 arraycopyName, Cond.methodLink RX0 75 yX0_mostFolds]
def wsL_law_r23 : List Cond := [Cond.static yX0_mostFolds, Cond.code yX0_mostFolds cX0_mostFolds 2 (some .int), Cond.methodLink RX0 102 yX0_mostOfKind, Cond.static yX0_mostOfKind, Cond.code yX0_mostOfKind cX0_mostOfKind 3 (some .int), Cond.methodLink RX0 110 Lib.Math.min.name, Cond.methodLink RX0 105 yJ6_bitCount_0f7a4, Cond.methodLink RX0 82 yX0_tryLowers, Cond.instanceMethod yX0_tryLowers, Cond.selects RX0 yX0_tryLowers yX0_tryLowers, Cond.code yX0_tryLowers cX0_tryLowers 6 none, Cond.instanceMethod yX1_copyFrom, Cond.selects RX1 yX1_copyFrom yX1_copyFrom, Cond.code yX1_copyFrom cX1_copyFrom 2 none, Cond.methodLink RX1 21 arraycopyName, Cond.methodLink RL 100 yX6_bestUpper, Cond.instanceMethod yX6_bestUpper, Cond.selects RX6 yX6_bestUpper yX6_bestUpper, Cond.code yX6_bestUpper cX6_bestUpper 2 (some .int), Cond.fieldLink RX6 131 "PlaFolderModel" "listMany" "I", Cond.methodLink RX6 137 yX6_findBest, Cond.instanceMethod yX6_findBest, Cond.selects RX6 yX6_findBest yX6_findBest, Cond.code yX6_findBest cX6_findBest 2 none]
def wsL_law_r24 : List Cond := [Cond.methodLink RX6 134 yX6_findList, Cond.instanceMethod yX6_findList, Cond.selects RX6 yX6_findList yX6_findList, Cond.code yX6_findList cX6_findList 4 (some .boolean), Cond.methodLink RX6 128 yX6_mayStand, Cond.instanceMethod yX6_mayStand, Cond.selects RX6 yX6_mayStand yX6_mayStand, Cond.code yX6_mayStand cX6_mayStand 5 (some .boolean), Cond.methodLink RL 101 yX5_bestLower, Cond.instanceMethod yX5_bestLower, Cond.selects RX5 yX5_bestLower yX5_bestLower, Cond.code yX5_bestLower cX5_bestLower 2 (some .int), Cond.methodLink RL 104 yX6_bestLower, Cond.instanceMethod yX6_bestLower, Cond.selects RX6 yX6_bestLower yX6_bestLower, Cond.code yX6_bestLower cX6_bestLower 2 (some .int), Cond.methodLink RL 105 yX5_foldBest, Cond.instanceMethod yX5_foldBest, Cond.selects RX5 yX5_foldBest yX5_foldBest, Cond.code yX5_foldBest cX5_foldBest 2 (some .int), Cond.methodLink RX5 178 yX5_area, Cond.methodLink RL 108 yX6_foldBest, Cond.instanceMethod yX6_foldBest, Cond.selects RX6 yX6_foldBest yX6_foldBest]
def wsL_law_r25 : List Cond := [Cond.code yX6_foldBest cX6_foldBest 2 (some .int), Cond.methodLink RL 109 yX5_undo, Cond.instanceMethod yX5_undo, Cond.selects RX5 yX5_undo yX5_undo, Cond.code yX5_undo cX5_undo 1 (some .int), Cond.instanceMethod yX2_pop, Cond.selects RX2 yX2_pop yX2_pop, Cond.code yX2_pop cX2_pop 2 none, Cond.methodLink RL 112 yX6_undo, Cond.instanceMethod yX6_undo, Cond.selects RX6 yX6_undo yX6_undo, Cond.code yX6_undo cX6_undo 2 (some .int), Cond.methodLink RL 113 yX5_errorCount, Cond.instanceMethod yX5_errorCount, Cond.selects RX5 yX5_errorCount yX5_errorCount, Cond.code yX5_errorCount cX5_errorCount 2 (some .int), Cond.methodLink RL 116 yX6_errorCount, Cond.instanceMethod yX6_errorCount, Cond.selects RX6 yX6_errorCount yX6_errorCount, Cond.code yX6_errorCount cX6_errorCount 2 (some .int), Cond.methodLink RL 117 yX5_digest, Cond.instanceMethod yX5_digest, Cond.selects RX5 yX5_digest yX5_digest, Cond.code yX5_digest cX5_digest 4 (some .long)]
def wsL_law_r26 : List Cond := [Cond.constantLong RX5 186 (2713), Cond.methodLink RX5 188 yX5_mix, Cond.static yX5_mix, Cond.code yX5_mix cX5_mix 4 (some .long), Cond.constantLong RX5 219 (31), Cond.methodLink RX5 192 yX5_mixTerms, Cond.instanceMethod yX5_mixTerms, Cond.selects RX5 yX5_mixTerms yX5_mixTerms, Cond.code yX5_mixTerms cX5_mixTerms 6 (some .long), Cond.methodLink RX5 196 yX5_mixColumns, Cond.instanceMethod yX5_mixColumns, Cond.selects RX5 yX5_mixColumns yX5_mixColumns, Cond.code yX5_mixColumns cX5_mixColumns 7 (some .long), Cond.methodLink RX5 199 yX5_mixBest, Cond.instanceMethod yX5_mixBest, Cond.selects RX5 yX5_mixBest yX5_mixBest, Cond.code yX5_mixBest cX5_mixBest 6 (some .long), Cond.methodLink RL 121 yX6_digest, Cond.instanceMethod yX6_digest, Cond.selects RX6 yX6_digest yX6_digest, Cond.code yX6_digest cX6_digest 2 (some .long), Cond.constantLong RX6 150 (2713), Cond.fieldLink RX6 142 "PlaFolderModel" "hash" "J", Cond.methodLink RX6 146 yX6_mix]
def wsL_law_r27 : List Cond := [Cond.instanceMethod yX6_mix, Cond.selects RX6 yX6_mix yX6_mix, Cond.code yX6_mix cX6_mix 3 none, Cond.constantLong RX6 140 (31), Cond.methodLink RX6 152 yX6_mixTerms, Cond.instanceMethod yX6_mixTerms, Cond.selects RX6 yX6_mixTerms yX6_mixTerms, Cond.code yX6_mixTerms cX6_mixTerms 2 none]
def wsL_law : List Cond := (wsL_law_r1 ++ (wsL_law_r2 ++ (wsL_law_r3 ++ (wsL_law_r4 ++ (wsL_law_r5 ++ (wsL_law_r6 ++ (wsL_law_r7 ++ (wsL_law_r8 ++ (wsL_law_r9 ++ (wsL_law_r10 ++ (wsL_law_r11 ++ (wsL_law_r12 ++ (wsL_law_r13 ++ (wsL_law_r14 ++ (wsL_law_r15 ++ (wsL_law_r16 ++ (wsL_law_r17 ++ (wsL_law_r18 ++ (wsL_law_r19 ++ (wsL_law_r20 ++ (wsL_law_r21 ++ (wsL_law_r22 ++ (wsL_law_r23 ++ (wsL_law_r24 ++ (wsL_law_r25 ++ (wsL_law_r26 ++ wsL_law_r27)))))))))))))))))))))))))) ++ wsX50 ++ wsX60 ++ wsX40 ++ wsX20 ++ wsX10 ++ wsX30 ++ wsX00 ++ ([] : List Cond)
theorem inlX0 : ∀ w ∈ wsX00, w ∈ wsL_law := fun _ h => List.mem_append_left _ (List.mem_append_right _ h)
theorem inlX1 : ∀ w ∈ wsX10, w ∈ wsL_law := fun _ h => List.mem_append_left _ (List.mem_append_left _ (List.mem_append_left _ (List.mem_append_right _ h)))
theorem inlX2 : ∀ w ∈ wsX20, w ∈ wsL_law := fun _ h => List.mem_append_left _ (List.mem_append_left _ (List.mem_append_left _ (List.mem_append_left _ (List.mem_append_right _ h))))
theorem inlX3 : ∀ w ∈ wsX30, w ∈ wsL_law := fun _ h => List.mem_append_left _ (List.mem_append_left _ (List.mem_append_right _ h))
theorem inlX4 : ∀ w ∈ wsX40, w ∈ wsL_law := fun _ h => List.mem_append_left _ (List.mem_append_left _ (List.mem_append_left _ (List.mem_append_left _ (List.mem_append_left _ (List.mem_append_right _ h)))))
theorem inlX5 : ∀ w ∈ wsX50, w ∈ wsL_law := fun _ h => List.mem_append_left _ (List.mem_append_left _ (List.mem_append_left _ (List.mem_append_left _ (List.mem_append_left _ (List.mem_append_left _ (List.mem_append_left _ (List.mem_append_right _ h)))))))
theorem inlX6 : ∀ w ∈ wsX60, w ∈ wsL_law := fun _ h => List.mem_append_left _ (List.mem_append_left _ (List.mem_append_left _ (List.mem_append_left _ (List.mem_append_left _ (List.mem_append_left _ (List.mem_append_right _ h))))))
theorem inJ6 : ∀ w ∈ wsJ60, w ∈ lw_tbl := by decide +kernel
theorem inJ13 : ∀ w ∈ wsJ130, w ∈ lw_tbl := by decide +kernel
theorem inJ9 : ∀ w ∈ wsJ90, w ∈ lw_tbl := by decide +kernel
theorem inJ10 : ∀ w ∈ wsJ100, w ∈ lw_tbl := by decide +kernel
theorem inJ7 : ∀ w ∈ wsJ70, w ∈ lw_tbl := by decide +kernel
set_option maxRecDepth 20000 in
theorem ggX0_init_X1_init : GoodIn wsX0_init wsX1_init := goodIn_r _ [18, 19, 2, 3, 6, 20, 30] (by decide +kernel) (by decide +kernel)
set_option maxRecDepth 20000 in
theorem gX0_init_X1_init_n44 : GoodIn wsX0_init (wsX1_init) := ggX0_init_X1_init
theorem dX0_init_0 : decode cX0_init 0 = .ok (.aload_n 0, 1) := by decide +kernel
theorem dX0_init_1 : decode cX0_init 1 = .ok (.invokespecial 3, 3) := by decide +kernel
theorem dX0_init_4 : decode cX0_init 4 = .ok (.aload_n 0, 1) := by decide +kernel
theorem dX0_init_5 : decode cX0_init 5 = .ok (.iconst 0, 1) := by decide +kernel
theorem dX0_init_6 : decode cX0_init 6 = .ok (.putfield 9, 3) := by decide +kernel
theorem dX0_init_9 : decode cX0_init 9 = .ok (.aload_n 0, 1) := by decide +kernel
theorem dX0_init_10 : decode cX0_init 10 = .ok (.iconst 0, 1) := by decide +kernel
theorem dX0_init_11 : decode cX0_init 11 = .ok (.putfield 15, 3) := by decide +kernel
theorem dX0_init_14 : decode cX0_init 14 = .ok (.aload_n 0, 1) := by decide +kernel
theorem dX0_init_15 : decode cX0_init 15 = .ok (.iconst 5, 1) := by decide +kernel
theorem dX0_init_16 : decode cX0_init 16 = .ok (.newarray .int, 2) := by decide +kernel
theorem dX0_init_18 : decode cX0_init 18 = .ok (.putfield 19, 3) := by decide +kernel
theorem dX0_init_21 : decode cX0_init 21 = .ok (.aload_n 0, 1) := by decide +kernel
theorem dX0_init_22 : decode cX0_init 22 = .ok (.iconst 5, 1) := by decide +kernel
theorem dX0_init_23 : decode cX0_init 23 = .ok (.newarray .int, 2) := by decide +kernel
theorem dX0_init_25 : decode cX0_init 25 = .ok (.putfield 23, 3) := by decide +kernel
theorem dX0_init_28 : decode cX0_init 28 = .ok (.aload_n 0, 1) := by decide +kernel
theorem dX0_init_29 : decode cX0_init 29 = .ok (.iconst 5, 1) := by decide +kernel
theorem dX0_init_30 : decode cX0_init 30 = .ok (.newarray .int, 2) := by decide +kernel
theorem dX0_init_32 : decode cX0_init 32 = .ok (.putfield 26, 3) := by decide +kernel
theorem dX0_init_35 : decode cX0_init 35 = .ok (.aload_n 0, 1) := by decide +kernel
theorem dX0_init_36 : decode cX0_init 36 = .ok (.iconst 5, 1) := by decide +kernel
theorem dX0_init_37 : decode cX0_init 37 = .ok (.newarray .int, 2) := by decide +kernel
theorem dX0_init_39 : decode cX0_init 39 = .ok (.putfield 29, 3) := by decide +kernel
theorem dX0_init_42 : decode cX0_init 42 = .ok (.aload_n 0, 1) := by decide +kernel
theorem dX0_init_43 : decode cX0_init 43 = .ok (.bipush 10, 2) := by decide +kernel
theorem dX0_init_45 : decode cX0_init 45 = .ok (.newarray .int, 2) := by decide +kernel
theorem dX0_init_47 : decode cX0_init 47 = .ok (.putfield 32, 3) := by decide +kernel
theorem dX0_init_50 : decode cX0_init 50 = .ok (.aload_n 0, 1) := by decide +kernel
theorem dX0_init_51 : decode cX0_init 51 = .ok (.bipush 10, 2) := by decide +kernel
theorem dX0_init_53 : decode cX0_init 53 = .ok (.newarray .int, 2) := by decide +kernel
theorem dX0_init_55 : decode cX0_init 55 = .ok (.putfield 35, 3) := by decide +kernel
theorem dX0_init_58 : decode cX0_init 58 = .ok (.aload_n 0, 1) := by decide +kernel
theorem dX0_init_59 : decode cX0_init 59 = .ok (.bipush 6, 2) := by decide +kernel
theorem dX0_init_61 : decode cX0_init 61 = .ok (.anewarray 38, 3) := by decide +kernel
theorem dX0_init_64 : decode cX0_init 64 = .ok (.putfield 40, 3) := by decide +kernel
theorem dX0_init_67 : decode cX0_init 67 = .ok (.iconst 0, 1) := by decide +kernel
theorem dX0_init_68 : decode cX0_init 68 = .ok (.istore_n 1, 1) := by decide +kernel
theorem dX0_init_69 : decode cX0_init 69 = .ok (.iload_n 1, 1) := by decide +kernel
theorem dX0_init_70 : decode cX0_init 70 = .ok (.iconst 5, 1) := by decide +kernel
theorem dX0_init_71 : decode cX0_init 71 = .ok (.if_icmp .gt 22, 3) := by decide +kernel
theorem dX0_init_74 : decode cX0_init 74 = .ok (.aload_n 0, 1) := by decide +kernel
theorem dX0_init_75 : decode cX0_init 75 = .ok (.getfield 40, 3) := by decide +kernel
theorem dX0_init_78 : decode cX0_init 78 = .ok (.iload_n 1, 1) := by decide +kernel
theorem dX0_init_79 : decode cX0_init 79 = .ok (.new 38, 3) := by decide +kernel
theorem dX0_init_82 : decode cX0_init 82 = .ok (.dup, 1) := by decide +kernel
theorem dX0_init_83 : decode cX0_init 83 = .ok (.invokespecial 44, 3) := by decide +kernel
theorem dX0_init_86 : decode cX0_init 86 = .ok (.aastore, 1) := by decide +kernel
theorem dX0_init_87 : decode cX0_init 87 = .ok (.iinc 1 1, 3) := by decide +kernel
theorem dX0_init_90 : decode cX0_init 90 = .ok (.goto (-21), 3) := by decide +kernel
theorem dX0_init_93 : decode cX0_init 93 = .ok (.return_, 1) := by decide +kernel
set_option maxRecDepth 20000 in
theorem ggX0_search_X0_foldableColumns : GoodIn wsX0_search wsX0_foldableColumns := goodIn_r _ [7, 8, 9, 10, 11, 12, 13, 14, 15, 16, 17, 18, 19, 20, 21, 22, 6, 23, 24, 25, 26, 27, 28, 29, 30, 31, 32, 87, 88, 89, 90, 91, 92, 93, 94, 95, 96, 97, 98, 99, 100, 101, 102, 103, 104, 105] (by decide +kernel) (by decide +kernel)
set_option maxRecDepth 20000 in
theorem gX0_search_X0_foldableColumns : GoodIn wsX0_search (wsV RX0 45 RX0 yX0_foldableColumns wsX0_foldableColumns) := goodIn_app (goodIn_of _ (by decide +kernel)) ggX0_search_X0_foldableColumns
set_option maxRecDepth 20000 in
theorem ggX0_search_X0_extend : GoodIn wsX0_search wsX0_extend := goodIn_r _ [36, 1, 37, 38, 39, 6, 40, 41, 42, 43, 44, 45, 46, 47, 48, 49, 50, 51, 52, 53, 54, 55, 56, 57, 58, 59, 60, 61, 62, 63, 64, 65, 18, 19, 20, 66, 67, 68, 69, 9, 70, 8, 71, 72, 73, 74, 75, 76, 77, 78, 79, 80, 81, 82, 83, 84, 85, 86, 33, 34, 35, 87, 88, 89, 90, 91, 92, 93, 94, 95, 106] (by decide +kernel) (by decide +kernel)
set_option maxRecDepth 20000 in
theorem gX0_search_X0_extend : GoodIn wsX0_search (wsV RX0 49 RX0 yX0_extend wsX0_extend) := goodIn_app (goodIn_of _ (by decide +kernel)) ggX0_search_X0_extend
theorem dX0_search_0 : decode cX0_search 0 = .ok (.aload_n 0, 1) := by decide +kernel
theorem dX0_search_1 : decode cX0_search 1 = .ok (.iconst 0, 1) := by decide +kernel
theorem dX0_search_2 : decode cX0_search 2 = .ok (.putfield 15, 3) := by decide +kernel
theorem dX0_search_5 : decode cX0_search 5 = .ok (.aload_n 0, 1) := by decide +kernel
theorem dX0_search_6 : decode cX0_search 6 = .ok (.iconst 0, 1) := by decide +kernel
theorem dX0_search_7 : decode cX0_search 7 = .ok (.iconst 0, 1) := by decide +kernel
theorem dX0_search_8 : decode cX0_search 8 = .ok (.aload_n 0, 1) := by decide +kernel
theorem dX0_search_9 : decode cX0_search 9 = .ok (.aload_n 1, 1) := by decide +kernel
theorem dX0_search_10 : decode cX0_search 10 = .ok (.invokevirtual 45, 3) := by decide +kernel
theorem dX0_search_13 : decode cX0_search 13 = .ok (.invokevirtual 49, 3) := by decide +kernel
theorem dX0_search_16 : decode cX0_search 16 = .ok (.aload_n 0, 1) := by decide +kernel
theorem dX0_search_17 : decode cX0_search 17 = .ok (.iconst 1, 1) := by decide +kernel
theorem dX0_search_18 : decode cX0_search 18 = .ok (.putfield 9, 3) := by decide +kernel
theorem dX0_search_21 : decode cX0_search 21 = .ok (.return_, 1) := by decide +kernel
set_option maxRecDepth 20000 in
theorem ggX0_foldableColumns_X4_termsOfColumn : GoodIn wsX0_foldableColumns wsX4_termsOfColumn := goodIn_r _ [6, 7, 8, 9, 10, 11, 12, 13, 36, 37, 38, 39, 40, 41, 42, 43, 44, 45] (by decide +kernel) (by decide +kernel)
set_option maxRecDepth 20000 in
theorem gX0_foldableColumns_X4_termsOfColumn_n53 : GoodIn wsX0_foldableColumns (wsX4_termsOfColumn) := ggX0_foldableColumns_X4_termsOfColumn
set_option maxRecDepth 20000 in
theorem ggX0_foldableColumns_X0_matesOf : GoodIn wsX0_foldableColumns wsX0_matesOf := goodIn_r _ [17, 18, 4, 19, 20, 21, 22, 23, 24, 25, 26, 3, 5, 6, 7, 8, 9, 10, 11, 12, 13, 36, 37, 38, 39, 40, 41, 42, 43, 44, 45] (by decide +kernel) (by decide +kernel)
set_option maxRecDepth 20000 in
theorem gX0_foldableColumns_X0_matesOf : GoodIn wsX0_foldableColumns (va_wsS RX0 59 yX0_matesOf wsX0_matesOf) := goodIn_app (goodIn_of _ (by decide +kernel)) ggX0_foldableColumns_X0_matesOf
theorem dX0_foldableColumns_0 : decode cX0_foldableColumns 0 = .ok (.iconst 0, 1) := by decide +kernel
theorem dX0_foldableColumns_1 : decode cX0_foldableColumns 1 = .ok (.istore_n 2, 1) := by decide +kernel
theorem dX0_foldableColumns_2 : decode cX0_foldableColumns 2 = .ok (.iconst 0, 1) := by decide +kernel
theorem dX0_foldableColumns_3 : decode cX0_foldableColumns 3 = .ok (.istore_n 3, 1) := by decide +kernel
theorem dX0_foldableColumns_4 : decode cX0_foldableColumns 4 = .ok (.iload_n 3, 1) := by decide +kernel
theorem dX0_foldableColumns_5 : decode cX0_foldableColumns 5 = .ok (.bipush 10, 2) := by decide +kernel
theorem dX0_foldableColumns_7 : decode cX0_foldableColumns 7 = .ok (.if_icmp .ge 46, 3) := by decide +kernel
theorem dX0_foldableColumns_10 : decode cX0_foldableColumns 10 = .ok (.aload_n 0, 1) := by decide +kernel
theorem dX0_foldableColumns_11 : decode cX0_foldableColumns 11 = .ok (.getfield 32, 3) := by decide +kernel
theorem dX0_foldableColumns_14 : decode cX0_foldableColumns 14 = .ok (.iload_n 3, 1) := by decide +kernel
theorem dX0_foldableColumns_15 : decode cX0_foldableColumns 15 = .ok (.aload_n 1, 1) := by decide +kernel
theorem dX0_foldableColumns_16 : decode cX0_foldableColumns 16 = .ok (.iload_n 3, 1) := by decide +kernel
theorem dX0_foldableColumns_17 : decode cX0_foldableColumns 17 = .ok (.invokevirtual 53, 3) := by decide +kernel
theorem dX0_foldableColumns_20 : decode cX0_foldableColumns 20 = .ok (.iastore, 1) := by decide +kernel
theorem dX0_foldableColumns_21 : decode cX0_foldableColumns 21 = .ok (.aload_n 0, 1) := by decide +kernel
theorem dX0_foldableColumns_22 : decode cX0_foldableColumns 22 = .ok (.getfield 35, 3) := by decide +kernel
theorem dX0_foldableColumns_25 : decode cX0_foldableColumns 25 = .ok (.iload_n 3, 1) := by decide +kernel
theorem dX0_foldableColumns_26 : decode cX0_foldableColumns 26 = .ok (.aload_n 1, 1) := by decide +kernel
theorem dX0_foldableColumns_27 : decode cX0_foldableColumns 27 = .ok (.iload_n 3, 1) := by decide +kernel
theorem dX0_foldableColumns_28 : decode cX0_foldableColumns 28 = .ok (.invokestatic 59, 3) := by decide +kernel
theorem dX0_foldableColumns_31 : decode cX0_foldableColumns 31 = .ok (.iastore, 1) := by decide +kernel
theorem dX0_foldableColumns_32 : decode cX0_foldableColumns 32 = .ok (.aload_n 0, 1) := by decide +kernel
theorem dX0_foldableColumns_33 : decode cX0_foldableColumns 33 = .ok (.getfield 35, 3) := by decide +kernel
theorem dX0_foldableColumns_36 : decode cX0_foldableColumns 36 = .ok (.iload_n 3, 1) := by decide +kernel
theorem dX0_foldableColumns_37 : decode cX0_foldableColumns 37 = .ok (.iaload, 1) := by decide +kernel
theorem dX0_foldableColumns_38 : decode cX0_foldableColumns 38 = .ok (.ifCond .eq 9, 3) := by decide +kernel
theorem dX0_foldableColumns_41 : decode cX0_foldableColumns 41 = .ok (.iload_n 2, 1) := by decide +kernel
theorem dX0_foldableColumns_42 : decode cX0_foldableColumns 42 = .ok (.iconst 1, 1) := by decide +kernel
theorem dX0_foldableColumns_43 : decode cX0_foldableColumns 43 = .ok (.iload_n 3, 1) := by decide +kernel
theorem dX0_foldableColumns_44 : decode cX0_foldableColumns 44 = .ok (.ishl, 1) := by decide +kernel
theorem dX0_foldableColumns_45 : decode cX0_foldableColumns 45 = .ok (.ior, 1) := by decide +kernel
theorem dX0_foldableColumns_46 : decode cX0_foldableColumns 46 = .ok (.istore_n 2, 1) := by decide +kernel
theorem dX0_foldableColumns_47 : decode cX0_foldableColumns 47 = .ok (.iinc 3 1, 3) := by decide +kernel
theorem dX0_foldableColumns_50 : decode cX0_foldableColumns 50 = .ok (.goto (-46), 3) := by decide +kernel
theorem dX0_foldableColumns_53 : decode cX0_foldableColumns 53 = .ok (.iload_n 2, 1) := by decide +kernel
theorem dX0_foldableColumns_54 : decode cX0_foldableColumns 54 = .ok (.ireturn, 1) := by decide +kernel
set_option maxRecDepth 20000 in
theorem ggX0_matesOf_X4_hasColumn : GoodIn wsX0_matesOf wsX4_hasColumn := goodIn_r _ [4, 5, 6, 21, 22, 23, 24, 25, 26, 27, 28, 29, 30] (by decide +kernel) (by decide +kernel)
set_option maxRecDepth 20000 in
theorem gX0_matesOf_X4_hasColumn_n63 : GoodIn wsX0_matesOf (wsX4_hasColumn) := ggX0_matesOf_X4_hasColumn
set_option maxRecDepth 20000 in
theorem ggX0_matesOf_X4_isPair : GoodIn wsX0_matesOf wsX4_isPair := goodIn_r _ [9, 10, 11, 12, 2, 13, 14, 15, 16, 17, 18, 19, 20, 21, 22, 23, 24, 25, 26, 27, 28, 29, 30] (by decide +kernel) (by decide +kernel)
set_option maxRecDepth 20000 in
theorem gX0_matesOf_X4_isPair_n67 : GoodIn wsX0_matesOf (wsX4_isPair) := ggX0_matesOf_X4_isPair
theorem dX0_matesOf_0 : decode cX0_matesOf 0 = .ok (.iconst 0, 1) := by decide +kernel
theorem dX0_matesOf_1 : decode cX0_matesOf 1 = .ok (.istore_n 2, 1) := by decide +kernel
theorem dX0_matesOf_2 : decode cX0_matesOf 2 = .ok (.iconst 0, 1) := by decide +kernel
theorem dX0_matesOf_3 : decode cX0_matesOf 3 = .ok (.istore_n 3, 1) := by decide +kernel
theorem dX0_matesOf_4 : decode cX0_matesOf 4 = .ok (.iload_n 3, 1) := by decide +kernel
theorem dX0_matesOf_5 : decode cX0_matesOf 5 = .ok (.bipush 10, 2) := by decide +kernel
theorem dX0_matesOf_7 : decode cX0_matesOf 7 = .ok (.if_icmp .ge 40, 3) := by decide +kernel
theorem dX0_matesOf_10 : decode cX0_matesOf 10 = .ok (.aload_n 0, 1) := by decide +kernel
theorem dX0_matesOf_11 : decode cX0_matesOf 11 = .ok (.iload_n 1, 1) := by decide +kernel
theorem dX0_matesOf_12 : decode cX0_matesOf 12 = .ok (.invokevirtual 63, 3) := by decide +kernel
theorem dX0_matesOf_15 : decode cX0_matesOf 15 = .ok (.ifCond .eq 26, 3) := by decide +kernel
theorem dX0_matesOf_18 : decode cX0_matesOf 18 = .ok (.aload_n 0, 1) := by decide +kernel
theorem dX0_matesOf_19 : decode cX0_matesOf 19 = .ok (.iload_n 3, 1) := by decide +kernel
theorem dX0_matesOf_20 : decode cX0_matesOf 20 = .ok (.invokevirtual 63, 3) := by decide +kernel
theorem dX0_matesOf_23 : decode cX0_matesOf 23 = .ok (.ifCond .eq 18, 3) := by decide +kernel
theorem dX0_matesOf_26 : decode cX0_matesOf 26 = .ok (.aload_n 0, 1) := by decide +kernel
theorem dX0_matesOf_27 : decode cX0_matesOf 27 = .ok (.iload_n 1, 1) := by decide +kernel
theorem dX0_matesOf_28 : decode cX0_matesOf 28 = .ok (.iload_n 3, 1) := by decide +kernel
theorem dX0_matesOf_29 : decode cX0_matesOf 29 = .ok (.invokevirtual 67, 3) := by decide +kernel
theorem dX0_matesOf_32 : decode cX0_matesOf 32 = .ok (.ifCond .eq 9, 3) := by decide +kernel
theorem dX0_matesOf_35 : decode cX0_matesOf 35 = .ok (.iload_n 2, 1) := by decide +kernel
theorem dX0_matesOf_36 : decode cX0_matesOf 36 = .ok (.iconst 1, 1) := by decide +kernel
theorem dX0_matesOf_37 : decode cX0_matesOf 37 = .ok (.iload_n 3, 1) := by decide +kernel
theorem dX0_matesOf_38 : decode cX0_matesOf 38 = .ok (.ishl, 1) := by decide +kernel
theorem dX0_matesOf_39 : decode cX0_matesOf 39 = .ok (.ior, 1) := by decide +kernel
theorem dX0_matesOf_40 : decode cX0_matesOf 40 = .ok (.istore_n 2, 1) := by decide +kernel
theorem dX0_matesOf_41 : decode cX0_matesOf 41 = .ok (.iinc 3 1, 3) := by decide +kernel
theorem dX0_matesOf_44 : decode cX0_matesOf 44 = .ok (.goto (-40), 3) := by decide +kernel
theorem dX0_matesOf_47 : decode cX0_matesOf 47 = .ok (.iload_n 2, 1) := by decide +kernel
theorem dX0_matesOf_48 : decode cX0_matesOf 48 = .ok (.ireturn, 1) := by decide +kernel
set_option maxRecDepth 20000 in
theorem ggX0_extend_X0_keep : GoodIn wsX0_extend wsX0_keep := goodIn_r _ [6, 1, 7, 8, 9, 10, 11, 12, 13, 14, 61, 62, 63, 64, 65, 66, 67, 68, 69] (by decide +kernel) (by decide +kernel)
set_option maxRecDepth 20000 in
theorem gX0_extend_X0_keep : GoodIn wsX0_extend (wsV RX0 71 RX0 yX0_keep wsX0_keep) := goodIn_app (goodIn_of _ (by decide +kernel)) ggX0_extend_X0_keep
set_option maxRecDepth 20000 in
theorem ggX0_extend_X0_mostFolds : GoodIn wsX0_extend wsX0_mostFolds := goodIn_r _ [17, 18, 19, 5, 20, 21, 22, 23, 24, 25, 26, 27, 28, 29, 30, 31] (by decide +kernel) (by decide +kernel)
set_option maxRecDepth 20000 in
theorem gX0_extend_X0_mostFolds : GoodIn wsX0_extend (va_wsS RX0 75 yX0_mostFolds wsX0_mostFolds) := goodIn_app (goodIn_of _ (by decide +kernel)) ggX0_extend_X0_mostFolds
set_option maxRecDepth 20000 in
theorem ggX0_extend_X5_contains : GoodIn wsX0_extend wsX5_contains := goodIn_r _ [34] (by decide +kernel) (by decide +kernel)
set_option maxRecDepth 20000 in
theorem gX0_extend_X5_contains_n79 : GoodIn wsX0_extend (wsX5_contains) := ggX0_extend_X5_contains
set_option maxRecDepth 20000 in
theorem ggX0_extend_X0_tryLowers : GoodIn wsX0_extend wsX0_tryLowers := goodIn_r _ [38, 39, 40, 41, 7, 13, 32, 33, 34, 42, 43, 44, 45, 46, 47, 48, 49, 50, 51, 52, 53, 54, 10, 11, 12, 55, 56, 57, 58, 59, 60, 5, 0, 1, 2, 3, 4, 6, 8, 9, 14, 15, 16, 17, 18, 19, 20, 21, 22, 23, 24, 25, 26, 27, 28, 29, 30, 31, 35, 36, 37, 61, 62, 63, 64, 65, 66, 67, 68, 69, 70] (by decide +kernel) (by decide +kernel)
set_option maxRecDepth 20000 in
theorem gX0_extend_X0_tryLowers : GoodIn wsX0_extend (wsV RX0 82 RX0 yX0_tryLowers wsX0_tryLowers) := goodIn_app (goodIn_of _ (by decide +kernel)) ggX0_extend_X0_tryLowers
theorem dX0_extend_0 : decode cX0_extend 0 = .ok (.iload_n 1, 1) := by decide +kernel
theorem dX0_extend_1 : decode cX0_extend 1 = .ok (.aload_n 0, 1) := by decide +kernel
theorem dX0_extend_2 : decode cX0_extend 2 = .ok (.getfield 15, 3) := by decide +kernel
theorem dX0_extend_5 : decode cX0_extend 5 = .ok (.if_icmp .le 8, 3) := by decide +kernel
theorem dX0_extend_8 : decode cX0_extend 8 = .ok (.aload_n 0, 1) := by decide +kernel
theorem dX0_extend_9 : decode cX0_extend 9 = .ok (.iload_n 1, 1) := by decide +kernel
theorem dX0_extend_10 : decode cX0_extend 10 = .ok (.invokevirtual 71, 3) := by decide +kernel
theorem dX0_extend_13 : decode cX0_extend 13 = .ok (.iload_n 2, 1) := by decide +kernel
theorem dX0_extend_14 : decode cX0_extend 14 = .ok (.istore 4, 2) := by decide +kernel
theorem dX0_extend_16 : decode cX0_extend 16 = .ok (.iload 4, 2) := by decide +kernel
theorem dX0_extend_18 : decode cX0_extend 18 = .ok (.bipush 10, 2) := by decide +kernel
theorem dX0_extend_20 : decode cX0_extend 20 = .ok (.if_icmp .ge 42, 3) := by decide +kernel
theorem dX0_extend_23 : decode cX0_extend 23 = .ok (.iload_n 1, 1) := by decide +kernel
theorem dX0_extend_24 : decode cX0_extend 24 = .ok (.iload_n 3, 1) := by decide +kernel
theorem dX0_extend_25 : decode cX0_extend 25 = .ok (.iload 4, 2) := by decide +kernel
theorem dX0_extend_27 : decode cX0_extend 27 = .ok (.invokestatic 75, 3) := by decide +kernel
theorem dX0_extend_30 : decode cX0_extend 30 = .ok (.iadd, 1) := by decide +kernel
theorem dX0_extend_31 : decode cX0_extend 31 = .ok (.aload_n 0, 1) := by decide +kernel
theorem dX0_extend_32 : decode cX0_extend 32 = .ok (.getfield 15, 3) := by decide +kernel
theorem dX0_extend_35 : decode cX0_extend 35 = .ok (.if_icmp .gt 4, 3) := by decide +kernel
theorem dX0_extend_38 : decode cX0_extend 38 = .ok (.return_, 1) := by decide +kernel
theorem dX0_extend_39 : decode cX0_extend 39 = .ok (.iload_n 3, 1) := by decide +kernel
theorem dX0_extend_40 : decode cX0_extend 40 = .ok (.iload 4, 2) := by decide +kernel
theorem dX0_extend_42 : decode cX0_extend 42 = .ok (.invokestatic 79, 3) := by decide +kernel
theorem dX0_extend_45 : decode cX0_extend 45 = .ok (.ifCond .eq 11, 3) := by decide +kernel
theorem dX0_extend_48 : decode cX0_extend 48 = .ok (.aload_n 0, 1) := by decide +kernel
theorem dX0_extend_49 : decode cX0_extend 49 = .ok (.iload_n 1, 1) := by decide +kernel
theorem dX0_extend_50 : decode cX0_extend 50 = .ok (.iload 4, 2) := by decide +kernel
theorem dX0_extend_52 : decode cX0_extend 52 = .ok (.iload_n 3, 1) := by decide +kernel
theorem dX0_extend_53 : decode cX0_extend 53 = .ok (.invokevirtual 82, 3) := by decide +kernel
theorem dX0_extend_56 : decode cX0_extend 56 = .ok (.iinc 4 1, 3) := by decide +kernel
theorem dX0_extend_59 : decode cX0_extend 59 = .ok (.goto (-43), 3) := by decide +kernel
theorem dX0_extend_62 : decode cX0_extend 62 = .ok (.return_, 1) := by decide +kernel
set_option maxRecDepth 20000 in
theorem ggX0_tryLowers_X5_contains : GoodIn wsX0_tryLowers wsX5_contains := goodIn_r _ [8] (by decide +kernel) (by decide +kernel)
set_option maxRecDepth 20000 in
theorem gX0_tryLowers_X5_contains_n79 : GoodIn wsX0_tryLowers (wsX5_contains) := ggX0_tryLowers_X5_contains
set_option maxRecDepth 20000 in
theorem ggX0_tryLowers_X1_allow : GoodIn wsX0_tryLowers wsX1_allow := goodIn_r _ [12, 13, 14, 15, 10, 16, 17, 6, 7, 8, 70] (by decide +kernel) (by decide +kernel)
set_option maxRecDepth 20000 in
theorem gX0_tryLowers_X1_allow_n85 : GoodIn wsX0_tryLowers (wsX1_allow) := ggX0_tryLowers_X1_allow
set_option maxRecDepth 20000 in
theorem ggX0_tryLowers_X1_copyFrom : GoodIn wsX0_tryLowers wsX1_copyFrom := goodIn_r _ [20, 17, 21, 22, 23, 24, 70] (by decide +kernel) (by decide +kernel)
set_option maxRecDepth 20000 in
theorem gX0_tryLowers_X1_copyFrom_n88 : GoodIn wsX0_tryLowers (wsX1_copyFrom) := ggX0_tryLowers_X1_copyFrom
set_option maxRecDepth 20000 in
theorem ggX0_tryLowers_X1_add : GoodIn wsX0_tryLowers wsX1_add := goodIn_r _ [27, 17, 13, 14, 15, 10, 16, 6, 7, 8, 70] (by decide +kernel) (by decide +kernel)
set_option maxRecDepth 20000 in
theorem gX0_tryLowers_X1_add_n92 : GoodIn wsX0_tryLowers (wsX1_add) := ggX0_tryLowers_X1_add
set_option maxRecDepth 20000 in
theorem ggX0_tryLowers_X0_extend : GoodIn wsX0_tryLowers wsX0_extend := goodIn_r _ [32, 33, 34, 35, 36, 31, 37, 4, 38, 39, 22, 23, 24, 5, 40, 41, 42, 43, 44, 45, 46, 47, 48, 49, 50, 51, 52, 53, 54, 55, 56, 57, 6, 7, 8, 58, 59, 60, 0, 1, 2, 3, 9, 10, 11, 12, 13, 14, 15, 16, 17, 18, 19, 20, 21, 25, 26, 27, 28, 29, 30, 61, 62, 63, 64, 65, 66, 67, 68, 69, 70] (by decide +kernel) (by decide +kernel)
set_option maxRecDepth 20000 in
theorem gX0_tryLowers_X0_extend : GoodIn wsX0_tryLowers (wsV RX0 49 RX0 yX0_extend wsX0_extend) := goodIn_app (goodIn_of _ (by decide +kernel)) ggX0_tryLowers_X0_extend
theorem dX0_tryLowers_0 : decode cX0_tryLowers 0 = .ok (.iload_n 1, 1) := by decide +kernel
theorem dX0_tryLowers_1 : decode cX0_tryLowers 1 = .ok (.iconst 5, 1) := by decide +kernel
theorem dX0_tryLowers_2 : decode cX0_tryLowers 2 = .ok (.if_icmp .lt 4, 3) := by decide +kernel
theorem dX0_tryLowers_5 : decode cX0_tryLowers 5 = .ok (.return_, 1) := by decide +kernel
theorem dX0_tryLowers_6 : decode cX0_tryLowers 6 = .ok (.aload_n 0, 1) := by decide +kernel
theorem dX0_tryLowers_7 : decode cX0_tryLowers 7 = .ok (.getfield 35, 3) := by decide +kernel
theorem dX0_tryLowers_10 : decode cX0_tryLowers 10 = .ok (.iload_n 2, 1) := by decide +kernel
theorem dX0_tryLowers_11 : decode cX0_tryLowers 11 = .ok (.iaload, 1) := by decide +kernel
theorem dX0_tryLowers_12 : decode cX0_tryLowers 12 = .ok (.iload_n 3, 1) := by decide +kernel
theorem dX0_tryLowers_13 : decode cX0_tryLowers 13 = .ok (.iand, 1) := by decide +kernel
theorem dX0_tryLowers_14 : decode cX0_tryLowers 14 = .ok (.istore 4, 2) := by decide +kernel
theorem dX0_tryLowers_16 : decode cX0_tryLowers 16 = .ok (.iconst 0, 1) := by decide +kernel
theorem dX0_tryLowers_17 : decode cX0_tryLowers 17 = .ok (.istore 5, 2) := by decide +kernel
theorem dX0_tryLowers_19 : decode cX0_tryLowers 19 = .ok (.iload 5, 2) := by decide +kernel
theorem dX0_tryLowers_21 : decode cX0_tryLowers 21 = .ok (.bipush 10, 2) := by decide +kernel
theorem dX0_tryLowers_23 : decode cX0_tryLowers 23 = .ok (.if_icmp .ge 122, 3) := by decide +kernel
theorem dX0_tryLowers_26 : decode cX0_tryLowers 26 = .ok (.iload 4, 2) := by decide +kernel
theorem dX0_tryLowers_28 : decode cX0_tryLowers 28 = .ok (.iload 5, 2) := by decide +kernel
theorem dX0_tryLowers_30 : decode cX0_tryLowers 30 = .ok (.invokestatic 79, 3) := by decide +kernel
theorem dX0_tryLowers_33 : decode cX0_tryLowers 33 = .ok (.ifCond .eq 106, 3) := by decide +kernel
theorem dX0_tryLowers_36 : decode cX0_tryLowers 36 = .ok (.aload_n 0, 1) := by decide +kernel
theorem dX0_tryLowers_37 : decode cX0_tryLowers 37 = .ok (.getfield 40, 3) := by decide +kernel
theorem dX0_tryLowers_40 : decode cX0_tryLowers 40 = .ok (.iload_n 1, 1) := by decide +kernel
theorem dX0_tryLowers_41 : decode cX0_tryLowers 41 = .ok (.aaload, 1) := by decide +kernel
theorem dX0_tryLowers_42 : decode cX0_tryLowers 42 = .ok (.aload_n 0, 1) := by decide +kernel
theorem dX0_tryLowers_43 : decode cX0_tryLowers 43 = .ok (.getfield 32, 3) := by decide +kernel
theorem dX0_tryLowers_46 : decode cX0_tryLowers 46 = .ok (.iload_n 2, 1) := by decide +kernel
theorem dX0_tryLowers_47 : decode cX0_tryLowers 47 = .ok (.iaload, 1) := by decide +kernel
theorem dX0_tryLowers_48 : decode cX0_tryLowers 48 = .ok (.aload_n 0, 1) := by decide +kernel
theorem dX0_tryLowers_49 : decode cX0_tryLowers 49 = .ok (.getfield 32, 3) := by decide +kernel
theorem dX0_tryLowers_52 : decode cX0_tryLowers 52 = .ok (.iload 5, 2) := by decide +kernel
theorem dX0_tryLowers_54 : decode cX0_tryLowers 54 = .ok (.iaload, 1) := by decide +kernel
theorem dX0_tryLowers_55 : decode cX0_tryLowers 55 = .ok (.invokevirtual 85, 3) := by decide +kernel
theorem dX0_tryLowers_58 : decode cX0_tryLowers 58 = .ok (.ifCond .eq 81, 3) := by decide +kernel
theorem dX0_tryLowers_61 : decode cX0_tryLowers 61 = .ok (.aload_n 0, 1) := by decide +kernel
theorem dX0_tryLowers_62 : decode cX0_tryLowers 62 = .ok (.getfield 26, 3) := by decide +kernel
theorem dX0_tryLowers_65 : decode cX0_tryLowers 65 = .ok (.iload_n 1, 1) := by decide +kernel
theorem dX0_tryLowers_66 : decode cX0_tryLowers 66 = .ok (.iload_n 2, 1) := by decide +kernel
theorem dX0_tryLowers_67 : decode cX0_tryLowers 67 = .ok (.iastore, 1) := by decide +kernel
theorem dX0_tryLowers_68 : decode cX0_tryLowers 68 = .ok (.aload_n 0, 1) := by decide +kernel
theorem dX0_tryLowers_69 : decode cX0_tryLowers 69 = .ok (.getfield 29, 3) := by decide +kernel
theorem dX0_tryLowers_72 : decode cX0_tryLowers 72 = .ok (.iload_n 1, 1) := by decide +kernel
theorem dX0_tryLowers_73 : decode cX0_tryLowers 73 = .ok (.iload 5, 2) := by decide +kernel
theorem dX0_tryLowers_75 : decode cX0_tryLowers 75 = .ok (.iastore, 1) := by decide +kernel
theorem dX0_tryLowers_76 : decode cX0_tryLowers 76 = .ok (.aload_n 0, 1) := by decide +kernel
theorem dX0_tryLowers_77 : decode cX0_tryLowers 77 = .ok (.getfield 40, 3) := by decide +kernel
theorem dX0_tryLowers_80 : decode cX0_tryLowers 80 = .ok (.iload_n 1, 1) := by decide +kernel
theorem dX0_tryLowers_81 : decode cX0_tryLowers 81 = .ok (.iconst 1, 1) := by decide +kernel
theorem dX0_tryLowers_82 : decode cX0_tryLowers 82 = .ok (.iadd, 1) := by decide +kernel
theorem dX0_tryLowers_83 : decode cX0_tryLowers 83 = .ok (.aaload, 1) := by decide +kernel
theorem dX0_tryLowers_84 : decode cX0_tryLowers 84 = .ok (.aload_n 0, 1) := by decide +kernel
theorem dX0_tryLowers_85 : decode cX0_tryLowers 85 = .ok (.getfield 40, 3) := by decide +kernel
theorem dX0_tryLowers_88 : decode cX0_tryLowers 88 = .ok (.iload_n 1, 1) := by decide +kernel
theorem dX0_tryLowers_89 : decode cX0_tryLowers 89 = .ok (.aaload, 1) := by decide +kernel
theorem dX0_tryLowers_90 : decode cX0_tryLowers 90 = .ok (.invokevirtual 88, 3) := by decide +kernel
theorem dX0_tryLowers_93 : decode cX0_tryLowers 93 = .ok (.aload_n 0, 1) := by decide +kernel
theorem dX0_tryLowers_94 : decode cX0_tryLowers 94 = .ok (.getfield 40, 3) := by decide +kernel
theorem dX0_tryLowers_97 : decode cX0_tryLowers 97 = .ok (.iload_n 1, 1) := by decide +kernel
theorem dX0_tryLowers_98 : decode cX0_tryLowers 98 = .ok (.iconst 1, 1) := by decide +kernel
theorem dX0_tryLowers_99 : decode cX0_tryLowers 99 = .ok (.iadd, 1) := by decide +kernel
theorem dX0_tryLowers_100 : decode cX0_tryLowers 100 = .ok (.aaload, 1) := by decide +kernel
theorem dX0_tryLowers_101 : decode cX0_tryLowers 101 = .ok (.aload_n 0, 1) := by decide +kernel
theorem dX0_tryLowers_102 : decode cX0_tryLowers 102 = .ok (.getfield 32, 3) := by decide +kernel
theorem dX0_tryLowers_105 : decode cX0_tryLowers 105 = .ok (.iload_n 2, 1) := by decide +kernel
theorem dX0_tryLowers_106 : decode cX0_tryLowers 106 = .ok (.iaload, 1) := by decide +kernel
theorem dX0_tryLowers_107 : decode cX0_tryLowers 107 = .ok (.aload_n 0, 1) := by decide +kernel
theorem dX0_tryLowers_108 : decode cX0_tryLowers 108 = .ok (.getfield 32, 3) := by decide +kernel
theorem dX0_tryLowers_111 : decode cX0_tryLowers 111 = .ok (.iload 5, 2) := by decide +kernel
theorem dX0_tryLowers_113 : decode cX0_tryLowers 113 = .ok (.iaload, 1) := by decide +kernel
theorem dX0_tryLowers_114 : decode cX0_tryLowers 114 = .ok (.invokevirtual 92, 3) := by decide +kernel
theorem dX0_tryLowers_117 : decode cX0_tryLowers 117 = .ok (.aload_n 0, 1) := by decide +kernel
theorem dX0_tryLowers_118 : decode cX0_tryLowers 118 = .ok (.iload_n 1, 1) := by decide +kernel
theorem dX0_tryLowers_119 : decode cX0_tryLowers 119 = .ok (.iconst 1, 1) := by decide +kernel
theorem dX0_tryLowers_120 : decode cX0_tryLowers 120 = .ok (.iadd, 1) := by decide +kernel
theorem dX0_tryLowers_121 : decode cX0_tryLowers 121 = .ok (.iload_n 2, 1) := by decide +kernel
theorem dX0_tryLowers_122 : decode cX0_tryLowers 122 = .ok (.iconst 1, 1) := by decide +kernel
theorem dX0_tryLowers_123 : decode cX0_tryLowers 123 = .ok (.iadd, 1) := by decide +kernel
theorem dX0_tryLowers_124 : decode cX0_tryLowers 124 = .ok (.iload_n 3, 1) := by decide +kernel
theorem dX0_tryLowers_125 : decode cX0_tryLowers 125 = .ok (.iconst 1, 1) := by decide +kernel
theorem dX0_tryLowers_126 : decode cX0_tryLowers 126 = .ok (.iload_n 2, 1) := by decide +kernel
theorem dX0_tryLowers_127 : decode cX0_tryLowers 127 = .ok (.ishl, 1) := by decide +kernel
theorem dX0_tryLowers_128 : decode cX0_tryLowers 128 = .ok (.iconst 1, 1) := by decide +kernel
theorem dX0_tryLowers_129 : decode cX0_tryLowers 129 = .ok (.iload 5, 2) := by decide +kernel
theorem dX0_tryLowers_131 : decode cX0_tryLowers 131 = .ok (.ishl, 1) := by decide +kernel
theorem dX0_tryLowers_132 : decode cX0_tryLowers 132 = .ok (.ior, 1) := by decide +kernel
theorem dX0_tryLowers_133 : decode cX0_tryLowers 133 = .ok (.iconst (-1), 1) := by decide +kernel
theorem dX0_tryLowers_134 : decode cX0_tryLowers 134 = .ok (.ixor, 1) := by decide +kernel
theorem dX0_tryLowers_135 : decode cX0_tryLowers 135 = .ok (.iand, 1) := by decide +kernel
theorem dX0_tryLowers_136 : decode cX0_tryLowers 136 = .ok (.invokevirtual 49, 3) := by decide +kernel
theorem dX0_tryLowers_139 : decode cX0_tryLowers 139 = .ok (.iinc 5 1, 3) := by decide +kernel
theorem dX0_tryLowers_142 : decode cX0_tryLowers 142 = .ok (.goto (-123), 3) := by decide +kernel
theorem dX0_tryLowers_145 : decode cX0_tryLowers 145 = .ok (.return_, 1) := by decide +kernel
theorem dX0_keep_0 : decode cX0_keep 0 = .ok (.aload_n 0, 1) := by decide +kernel
theorem dX0_keep_1 : decode cX0_keep 1 = .ok (.iload_n 1, 1) := by decide +kernel
theorem dX0_keep_2 : decode cX0_keep 2 = .ok (.putfield 15, 3) := by decide +kernel
theorem dX0_keep_5 : decode cX0_keep 5 = .ok (.aload_n 0, 1) := by decide +kernel
theorem dX0_keep_6 : decode cX0_keep 6 = .ok (.getfield 26, 3) := by decide +kernel
theorem dX0_keep_9 : decode cX0_keep 9 = .ok (.iconst 0, 1) := by decide +kernel
theorem dX0_keep_10 : decode cX0_keep 10 = .ok (.aload_n 0, 1) := by decide +kernel
theorem dX0_keep_11 : decode cX0_keep 11 = .ok (.getfield 19, 3) := by decide +kernel
theorem dX0_keep_14 : decode cX0_keep 14 = .ok (.iconst 0, 1) := by decide +kernel
theorem dX0_keep_15 : decode cX0_keep 15 = .ok (.iload_n 1, 1) := by decide +kernel
theorem dX0_keep_16 : decode cX0_keep 16 = .ok (.invokestatic 96, 3) := by decide +kernel
theorem dX0_keep_19 : decode cX0_keep 19 = .ok (.aload_n 0, 1) := by decide +kernel
theorem dX0_keep_20 : decode cX0_keep 20 = .ok (.getfield 29, 3) := by decide +kernel
theorem dX0_keep_23 : decode cX0_keep 23 = .ok (.iconst 0, 1) := by decide +kernel
theorem dX0_keep_24 : decode cX0_keep 24 = .ok (.aload_n 0, 1) := by decide +kernel
theorem dX0_keep_25 : decode cX0_keep 25 = .ok (.getfield 23, 3) := by decide +kernel
theorem dX0_keep_28 : decode cX0_keep 28 = .ok (.iconst 0, 1) := by decide +kernel
theorem dX0_keep_29 : decode cX0_keep 29 = .ok (.iload_n 1, 1) := by decide +kernel
theorem dX0_keep_30 : decode cX0_keep 30 = .ok (.invokestatic 96, 3) := by decide +kernel
theorem dX0_keep_33 : decode cX0_keep 33 = .ok (.return_, 1) := by decide +kernel
set_option maxRecDepth 20000 in
theorem ggX0_mostFolds_X0_mostOfKind : GoodIn wsX0_mostFolds wsX0_mostOfKind := goodIn_r _ [4, 5, 6, 7, 8, 9, 10, 11, 12, 13, 14, 15] (by decide +kernel) (by decide +kernel)
set_option maxRecDepth 20000 in
theorem gX0_mostFolds_X0_mostOfKind : GoodIn wsX0_mostFolds (va_wsS RX0 102 yX0_mostOfKind wsX0_mostOfKind) := goodIn_app (goodIn_of _ (by decide +kernel)) ggX0_mostFolds_X0_mostOfKind
theorem dX0_mostFolds_0 : decode cX0_mostFolds 0 = .ok (.iload_n 0, 1) := by decide +kernel
theorem dX0_mostFolds_1 : decode cX0_mostFolds 1 = .ok (.bipush 63, 2) := by decide +kernel
theorem dX0_mostFolds_3 : decode cX0_mostFolds 3 = .ok (.iand, 1) := by decide +kernel
theorem dX0_mostFolds_4 : decode cX0_mostFolds 4 = .ok (.iload_n 1, 1) := by decide +kernel
theorem dX0_mostFolds_5 : decode cX0_mostFolds 5 = .ok (.invokestatic 102, 3) := by decide +kernel
theorem dX0_mostFolds_8 : decode cX0_mostFolds 8 = .ok (.iload_n 0, 1) := by decide +kernel
theorem dX0_mostFolds_9 : decode cX0_mostFolds 9 = .ok (.sipush 960, 3) := by decide +kernel
theorem dX0_mostFolds_12 : decode cX0_mostFolds 12 = .ok (.iand, 1) := by decide +kernel
theorem dX0_mostFolds_13 : decode cX0_mostFolds 13 = .ok (.iload_n 1, 1) := by decide +kernel
theorem dX0_mostFolds_14 : decode cX0_mostFolds 14 = .ok (.invokestatic 102, 3) := by decide +kernel
theorem dX0_mostFolds_17 : decode cX0_mostFolds 17 = .ok (.iadd, 1) := by decide +kernel
theorem dX0_mostFolds_18 : decode cX0_mostFolds 18 = .ok (.ireturn, 1) := by decide +kernel
set_option maxRecDepth 20000 in
theorem ggX0_mostOfKind_J6_bitCount_0f7a4 : GoodIn wsX0_mostOfKind wsJ6_bitCount_0f7a4 := goodIn_r _ [8, 9, 10, 11] (by decide +kernel) (by decide +kernel)
set_option maxRecDepth 20000 in
theorem gX0_mostOfKind_J6_bitCount_0f7a4 : GoodIn wsX0_mostOfKind (va_wsS RX0 105 yJ6_bitCount_0f7a4 wsJ6_bitCount_0f7a4) := goodIn_app (goodIn_of _ (by decide +kernel)) ggX0_mostOfKind_J6_bitCount_0f7a4
theorem dX0_mostOfKind_0 : decode cX0_mostOfKind 0 = .ok (.iload_n 0, 1) := by decide +kernel
theorem dX0_mostOfKind_1 : decode cX0_mostOfKind 1 = .ok (.iload_n 1, 1) := by decide +kernel
theorem dX0_mostOfKind_2 : decode cX0_mostOfKind 2 = .ok (.ishr, 1) := by decide +kernel
theorem dX0_mostOfKind_3 : decode cX0_mostOfKind 3 = .ok (.invokestatic 105, 3) := by decide +kernel
theorem dX0_mostOfKind_6 : decode cX0_mostOfKind 6 = .ok (.istore_n 2, 1) := by decide +kernel
theorem dX0_mostOfKind_7 : decode cX0_mostOfKind 7 = .ok (.iload_n 2, 1) := by decide +kernel
theorem dX0_mostOfKind_8 : decode cX0_mostOfKind 8 = .ok (.iload_n 0, 1) := by decide +kernel
theorem dX0_mostOfKind_9 : decode cX0_mostOfKind 9 = .ok (.invokestatic 105, 3) := by decide +kernel
theorem dX0_mostOfKind_12 : decode cX0_mostOfKind 12 = .ok (.iconst 2, 1) := by decide +kernel
theorem dX0_mostOfKind_13 : decode cX0_mostOfKind 13 = .ok (.idiv, 1) := by decide +kernel
theorem dX0_mostOfKind_14 : decode cX0_mostOfKind 14 = .ok (.invokestatic 110, 3) := by decide +kernel
theorem dX0_mostOfKind_17 : decode cX0_mostOfKind 17 = .ok (.ireturn, 1) := by decide +kernel
theorem dX1_init_0 : decode cX1_init 0 = .ok (.aload_n 0, 1) := by decide +kernel
theorem dX1_init_1 : decode cX1_init 1 = .ok (.invokespecial 3, 3) := by decide +kernel
theorem dX1_init_4 : decode cX1_init 4 = .ok (.aload_n 0, 1) := by decide +kernel
theorem dX1_init_5 : decode cX1_init 5 = .ok (.bipush 10, 2) := by decide +kernel
theorem dX1_init_7 : decode cX1_init 7 = .ok (.newarray .int, 2) := by decide +kernel
theorem dX1_init_9 : decode cX1_init 9 = .ok (.putfield 9, 3) := by decide +kernel
theorem dX1_init_12 : decode cX1_init 12 = .ok (.return_, 1) := by decide +kernel
set_option maxRecDepth 20000 in
theorem ggX1_clear_J7_fill_53178 : GoodIn wsX1_clear wsJ7_fill_53178 := goodIn_r _ [5] (by decide +kernel) (by decide +kernel)
set_option maxRecDepth 20000 in
theorem gX1_clear_J7_fill_53178 : GoodIn wsX1_clear (va_wsS RX1 15 yJ7_fill_53178 wsJ7_fill_53178) := goodIn_app (goodIn_of _ (by decide +kernel)) ggX1_clear_J7_fill_53178
theorem dX1_clear_0 : decode cX1_clear 0 = .ok (.aload_n 0, 1) := by decide +kernel
theorem dX1_clear_1 : decode cX1_clear 1 = .ok (.getfield 9, 3) := by decide +kernel
theorem dX1_clear_4 : decode cX1_clear 4 = .ok (.iconst 0, 1) := by decide +kernel
theorem dX1_clear_5 : decode cX1_clear 5 = .ok (.invokestatic 15, 3) := by decide +kernel
theorem dX1_clear_8 : decode cX1_clear 8 = .ok (.return_, 1) := by decide +kernel
theorem dX1_copyFrom_0 : decode cX1_copyFrom 0 = .ok (.aload_n 1, 1) := by decide +kernel
theorem dX1_copyFrom_1 : decode cX1_copyFrom 1 = .ok (.getfield 9, 3) := by decide +kernel
theorem dX1_copyFrom_4 : decode cX1_copyFrom 4 = .ok (.iconst 0, 1) := by decide +kernel
theorem dX1_copyFrom_5 : decode cX1_copyFrom 5 = .ok (.aload_n 0, 1) := by decide +kernel
theorem dX1_copyFrom_6 : decode cX1_copyFrom 6 = .ok (.getfield 9, 3) := by decide +kernel
theorem dX1_copyFrom_9 : decode cX1_copyFrom 9 = .ok (.iconst 0, 1) := by decide +kernel
theorem dX1_copyFrom_10 : decode cX1_copyFrom 10 = .ok (.bipush 10, 2) := by decide +kernel
theorem dX1_copyFrom_12 : decode cX1_copyFrom 12 = .ok (.invokestatic 21, 3) := by decide +kernel
theorem dX1_copyFrom_15 : decode cX1_copyFrom 15 = .ok (.return_, 1) := by decide +kernel
set_option maxRecDepth 20000 in
theorem ggX1_collect_X1_clear : GoodIn wsX1_collect wsX1_clear := goodIn_r _ [5, 6, 7, 8, 9, 10, 40] (by decide +kernel) (by decide +kernel)
set_option maxRecDepth 20000 in
theorem gX1_collect_X1_clear : GoodIn wsX1_collect (wsV RX1 27 RX1 yX1_clear wsX1_clear) := goodIn_app (goodIn_of _ (by decide +kernel)) ggX1_collect_X1_clear
set_option maxRecDepth 20000 in
theorem ggX1_collect_X4_termsOfColumn : GoodIn wsX1_collect wsX4_termsOfColumn := goodIn_r _ [14, 15, 16, 17, 18, 19, 20, 21, 30, 31, 32, 33, 34, 35, 36, 37, 38, 39] (by decide +kernel) (by decide +kernel)
set_option maxRecDepth 20000 in
theorem gX1_collect_X4_termsOfColumn_n35 : GoodIn wsX1_collect (wsX4_termsOfColumn) := ggX1_collect_X4_termsOfColumn
set_option maxRecDepth 20000 in
theorem ggX1_collect_X1_add : GoodIn wsX1_collect wsX1_add := goodIn_r _ [25, 6, 26, 27, 28, 4, 29, 19, 20, 21, 40] (by decide +kernel) (by decide +kernel)
set_option maxRecDepth 20000 in
theorem gX1_collect_X1_add : GoodIn wsX1_collect (wsV RX1 39 RX1 yX1_add wsX1_add) := goodIn_app (goodIn_of _ (by decide +kernel)) ggX1_collect_X1_add
theorem dX1_collect_0 : decode cX1_collect 0 = .ok (.aload_n 0, 1) := by decide +kernel
theorem dX1_collect_1 : decode cX1_collect 1 = .ok (.invokevirtual 27, 3) := by decide +kernel
theorem dX1_collect_4 : decode cX1_collect 4 = .ok (.iconst 0, 1) := by decide +kernel
theorem dX1_collect_5 : decode cX1_collect 5 = .ok (.istore_n 2, 1) := by decide +kernel
theorem dX1_collect_6 : decode cX1_collect 6 = .ok (.iload_n 2, 1) := by decide +kernel
theorem dX1_collect_7 : decode cX1_collect 7 = .ok (.bipush 10, 2) := by decide +kernel
theorem dX1_collect_9 : decode cX1_collect 9 = .ok (.if_icmp .ge 35, 3) := by decide +kernel
theorem dX1_collect_12 : decode cX1_collect 12 = .ok (.aload_n 1, 1) := by decide +kernel
theorem dX1_collect_13 : decode cX1_collect 13 = .ok (.getfield 30, 3) := by decide +kernel
theorem dX1_collect_16 : decode cX1_collect 16 = .ok (.iload_n 2, 1) := by decide +kernel
theorem dX1_collect_17 : decode cX1_collect 17 = .ok (.iaload, 1) := by decide +kernel
theorem dX1_collect_18 : decode cX1_collect 18 = .ok (.istore_n 3, 1) := by decide +kernel
theorem dX1_collect_19 : decode cX1_collect 19 = .ok (.iload_n 3, 1) := by decide +kernel
theorem dX1_collect_20 : decode cX1_collect 20 = .ok (.iconst (-1), 1) := by decide +kernel
theorem dX1_collect_21 : decode cX1_collect 21 = .ok (.if_icmp .eq 17, 3) := by decide +kernel
theorem dX1_collect_24 : decode cX1_collect 24 = .ok (.aload_n 0, 1) := by decide +kernel
theorem dX1_collect_25 : decode cX1_collect 25 = .ok (.aload_n 1, 1) := by decide +kernel
theorem dX1_collect_26 : decode cX1_collect 26 = .ok (.iload_n 2, 1) := by decide +kernel
theorem dX1_collect_27 : decode cX1_collect 27 = .ok (.invokevirtual 35, 3) := by decide +kernel
theorem dX1_collect_30 : decode cX1_collect 30 = .ok (.aload_n 1, 1) := by decide +kernel
theorem dX1_collect_31 : decode cX1_collect 31 = .ok (.iload_n 3, 1) := by decide +kernel
theorem dX1_collect_32 : decode cX1_collect 32 = .ok (.invokevirtual 35, 3) := by decide +kernel
theorem dX1_collect_35 : decode cX1_collect 35 = .ok (.invokevirtual 39, 3) := by decide +kernel
theorem dX1_collect_38 : decode cX1_collect 38 = .ok (.iinc 2 1, 3) := by decide +kernel
theorem dX1_collect_41 : decode cX1_collect 41 = .ok (.goto (-35), 3) := by decide +kernel
theorem dX1_collect_44 : decode cX1_collect 44 = .ok (.return_, 1) := by decide +kernel
set_option maxRecDepth 20000 in
theorem ggX1_withAllAbove_X5_contains : GoodIn wsX1_withAllAbove wsX5_contains := goodIn_r _ [4] (by decide +kernel) (by decide +kernel)
set_option maxRecDepth 20000 in
theorem gX1_withAllAbove_X5_contains_n43 : GoodIn wsX1_withAllAbove (wsX5_contains) := ggX1_withAllAbove_X5_contains
theorem dX1_withAllAbove_0 : decode cX1_withAllAbove 0 = .ok (.iload_n 1, 1) := by decide +kernel
theorem dX1_withAllAbove_1 : decode cX1_withAllAbove 1 = .ok (.istore_n 2, 1) := by decide +kernel
theorem dX1_withAllAbove_2 : decode cX1_withAllAbove 2 = .ok (.iconst 0, 1) := by decide +kernel
theorem dX1_withAllAbove_3 : decode cX1_withAllAbove 3 = .ok (.istore_n 3, 1) := by decide +kernel
theorem dX1_withAllAbove_4 : decode cX1_withAllAbove 4 = .ok (.iload_n 3, 1) := by decide +kernel
theorem dX1_withAllAbove_5 : decode cX1_withAllAbove 5 = .ok (.bipush 10, 2) := by decide +kernel
theorem dX1_withAllAbove_7 : decode cX1_withAllAbove 7 = .ok (.if_icmp .ge 26, 3) := by decide +kernel
theorem dX1_withAllAbove_10 : decode cX1_withAllAbove 10 = .ok (.iload_n 1, 1) := by decide +kernel
theorem dX1_withAllAbove_11 : decode cX1_withAllAbove 11 = .ok (.iload_n 3, 1) := by decide +kernel
theorem dX1_withAllAbove_12 : decode cX1_withAllAbove 12 = .ok (.invokestatic 43, 3) := by decide +kernel
theorem dX1_withAllAbove_15 : decode cX1_withAllAbove 15 = .ok (.ifCond .eq 12, 3) := by decide +kernel
theorem dX1_withAllAbove_18 : decode cX1_withAllAbove 18 = .ok (.iload_n 2, 1) := by decide +kernel
theorem dX1_withAllAbove_19 : decode cX1_withAllAbove 19 = .ok (.aload_n 0, 1) := by decide +kernel
theorem dX1_withAllAbove_20 : decode cX1_withAllAbove 20 = .ok (.getfield 9, 3) := by decide +kernel
theorem dX1_withAllAbove_23 : decode cX1_withAllAbove 23 = .ok (.iload_n 3, 1) := by decide +kernel
theorem dX1_withAllAbove_24 : decode cX1_withAllAbove 24 = .ok (.iaload, 1) := by decide +kernel
theorem dX1_withAllAbove_25 : decode cX1_withAllAbove 25 = .ok (.ior, 1) := by decide +kernel
theorem dX1_withAllAbove_26 : decode cX1_withAllAbove 26 = .ok (.istore_n 2, 1) := by decide +kernel
theorem dX1_withAllAbove_27 : decode cX1_withAllAbove 27 = .ok (.iinc 3 1, 3) := by decide +kernel
theorem dX1_withAllAbove_30 : decode cX1_withAllAbove 30 = .ok (.goto (-26), 3) := by decide +kernel
theorem dX1_withAllAbove_33 : decode cX1_withAllAbove 33 = .ok (.iload_n 2, 1) := by decide +kernel
theorem dX1_withAllAbove_34 : decode cX1_withAllAbove 34 = .ok (.ireturn, 1) := by decide +kernel
set_option maxRecDepth 20000 in
theorem ggX1_allow_X1_withAllAbove : GoodIn wsX1_allow wsX1_withAllAbove := goodIn_r _ [5, 6, 7, 8, 9, 10] (by decide +kernel) (by decide +kernel)
set_option maxRecDepth 20000 in
theorem gX1_allow_X1_withAllAbove : GoodIn wsX1_allow (wsV RX1 47 RX1 yX1_withAllAbove wsX1_withAllAbove) := goodIn_app (goodIn_of _ (by decide +kernel)) ggX1_allow_X1_withAllAbove
theorem dX1_allow_0 : decode cX1_allow 0 = .ok (.aload_n 0, 1) := by decide +kernel
theorem dX1_allow_1 : decode cX1_allow 1 = .ok (.iload_n 1, 1) := by decide +kernel
theorem dX1_allow_2 : decode cX1_allow 2 = .ok (.invokevirtual 47, 3) := by decide +kernel
theorem dX1_allow_5 : decode cX1_allow 5 = .ok (.iload_n 2, 1) := by decide +kernel
theorem dX1_allow_6 : decode cX1_allow 6 = .ok (.iand, 1) := by decide +kernel
theorem dX1_allow_7 : decode cX1_allow 7 = .ok (.ifCond .ne 7, 3) := by decide +kernel
theorem dX1_allow_10 : decode cX1_allow 10 = .ok (.iconst 1, 1) := by decide +kernel
theorem dX1_allow_11 : decode cX1_allow 11 = .ok (.goto 4, 3) := by decide +kernel
theorem dX1_allow_14 : decode cX1_allow 14 = .ok (.iconst 0, 1) := by decide +kernel
theorem dX1_allow_15 : decode cX1_allow 15 = .ok (.ireturn, 1) := by decide +kernel
set_option maxRecDepth 20000 in
theorem ggX1_add_X1_withAllAbove : GoodIn wsX1_add wsX1_withAllAbove := goodIn_r _ [6, 1, 7, 8, 9, 10] (by decide +kernel) (by decide +kernel)
set_option maxRecDepth 20000 in
theorem gX1_add_X1_withAllAbove : GoodIn wsX1_add (wsV RX1 47 RX1 yX1_withAllAbove wsX1_withAllAbove) := goodIn_app (goodIn_of _ (by decide +kernel)) ggX1_add_X1_withAllAbove
set_option maxRecDepth 20000 in
theorem ggX1_add_X5_contains : GoodIn wsX1_add wsX5_contains := goodIn_r _ [9] (by decide +kernel) (by decide +kernel)
set_option maxRecDepth 20000 in
theorem gX1_add_X5_contains_n43 : GoodIn wsX1_add (wsX5_contains) := ggX1_add_X5_contains
theorem dX1_add_0 : decode cX1_add 0 = .ok (.aload_n 0, 1) := by decide +kernel
theorem dX1_add_1 : decode cX1_add 1 = .ok (.iload_n 1, 1) := by decide +kernel
theorem dX1_add_2 : decode cX1_add 2 = .ok (.invokevirtual 47, 3) := by decide +kernel
theorem dX1_add_5 : decode cX1_add 5 = .ok (.istore_n 3, 1) := by decide +kernel
theorem dX1_add_6 : decode cX1_add 6 = .ok (.iconst 0, 1) := by decide +kernel
theorem dX1_add_7 : decode cX1_add 7 = .ok (.istore 4, 2) := by decide +kernel
theorem dX1_add_9 : decode cX1_add 9 = .ok (.iload 4, 2) := by decide +kernel
theorem dX1_add_11 : decode cX1_add 11 = .ok (.bipush 10, 2) := by decide +kernel
theorem dX1_add_13 : decode cX1_add 13 = .ok (.if_icmp .ge 41, 3) := by decide +kernel
theorem dX1_add_16 : decode cX1_add 16 = .ok (.iload_n 2, 1) := by decide +kernel
theorem dX1_add_17 : decode cX1_add 17 = .ok (.iload 4, 2) := by decide +kernel
theorem dX1_add_19 : decode cX1_add 19 = .ok (.invokestatic 43, 3) := by decide +kernel
theorem dX1_add_22 : decode cX1_add 22 = .ok (.ifCond .ne 15, 3) := by decide +kernel
theorem dX1_add_25 : decode cX1_add 25 = .ok (.aload_n 0, 1) := by decide +kernel
theorem dX1_add_26 : decode cX1_add 26 = .ok (.getfield 9, 3) := by decide +kernel
theorem dX1_add_29 : decode cX1_add 29 = .ok (.iload 4, 2) := by decide +kernel
theorem dX1_add_31 : decode cX1_add 31 = .ok (.iaload, 1) := by decide +kernel
theorem dX1_add_32 : decode cX1_add 32 = .ok (.iload_n 2, 1) := by decide +kernel
theorem dX1_add_33 : decode cX1_add 33 = .ok (.iand, 1) := by decide +kernel
theorem dX1_add_34 : decode cX1_add 34 = .ok (.ifCond .eq 14, 3) := by decide +kernel
theorem dX1_add_37 : decode cX1_add 37 = .ok (.aload_n 0, 1) := by decide +kernel
theorem dX1_add_38 : decode cX1_add 38 = .ok (.getfield 9, 3) := by decide +kernel
theorem dX1_add_41 : decode cX1_add 41 = .ok (.iload 4, 2) := by decide +kernel
theorem dX1_add_43 : decode cX1_add 43 = .ok (.dup2, 1) := by decide +kernel
theorem dX1_add_44 : decode cX1_add 44 = .ok (.iaload, 1) := by decide +kernel
theorem dX1_add_45 : decode cX1_add 45 = .ok (.iload_n 3, 1) := by decide +kernel
theorem dX1_add_46 : decode cX1_add 46 = .ok (.ior, 1) := by decide +kernel
theorem dX1_add_47 : decode cX1_add 47 = .ok (.iastore, 1) := by decide +kernel
theorem dX1_add_48 : decode cX1_add 48 = .ok (.iinc 4 1, 3) := by decide +kernel
theorem dX1_add_51 : decode cX1_add 51 = .ok (.goto (-42), 3) := by decide +kernel
theorem dX1_add_54 : decode cX1_add 54 = .ok (.return_, 1) := by decide +kernel
set_option maxRecDepth 20000 in
theorem ggX2_init_X4_init : GoodIn wsX2_init wsX4_init := goodIn_r _ [10, 11, 2, 3, 12, 13, 14, 15, 16, 17, 18, 19, 20, 21, 22, 23, 24, 25, 26, 27, 30, 31, 32, 33, 34, 35, 36, 37, 38, 39] (by decide +kernel) (by decide +kernel)
set_option maxRecDepth 20000 in
theorem gX2_init_X4_init_n21 : GoodIn wsX2_init (wsX4_init) := ggX2_init_X4_init
theorem dX2_init_0 : decode cX2_init 0 = .ok (.aload_n 0, 1) := by decide +kernel
theorem dX2_init_1 : decode cX2_init 1 = .ok (.invokespecial 3, 3) := by decide +kernel
theorem dX2_init_4 : decode cX2_init 4 = .ok (.aload_n 0, 1) := by decide +kernel
theorem dX2_init_5 : decode cX2_init 5 = .ok (.iconst 5, 1) := by decide +kernel
theorem dX2_init_6 : decode cX2_init 6 = .ok (.anewarray 9, 3) := by decide +kernel
theorem dX2_init_9 : decode cX2_init 9 = .ok (.putfield 11, 3) := by decide +kernel
theorem dX2_init_12 : decode cX2_init 12 = .ok (.aload_n 0, 1) := by decide +kernel
theorem dX2_init_13 : decode cX2_init 13 = .ok (.iconst 0, 1) := by decide +kernel
theorem dX2_init_14 : decode cX2_init 14 = .ok (.putfield 17, 3) := by decide +kernel
theorem dX2_init_17 : decode cX2_init 17 = .ok (.iconst 0, 1) := by decide +kernel
theorem dX2_init_18 : decode cX2_init 18 = .ok (.istore_n 1, 1) := by decide +kernel
theorem dX2_init_19 : decode cX2_init 19 = .ok (.iload_n 1, 1) := by decide +kernel
theorem dX2_init_20 : decode cX2_init 20 = .ok (.iconst 5, 1) := by decide +kernel
theorem dX2_init_21 : decode cX2_init 21 = .ok (.if_icmp .ge 22, 3) := by decide +kernel
theorem dX2_init_24 : decode cX2_init 24 = .ok (.aload_n 0, 1) := by decide +kernel
theorem dX2_init_25 : decode cX2_init 25 = .ok (.getfield 11, 3) := by decide +kernel
theorem dX2_init_28 : decode cX2_init 28 = .ok (.iload_n 1, 1) := by decide +kernel
theorem dX2_init_29 : decode cX2_init 29 = .ok (.new 9, 3) := by decide +kernel
theorem dX2_init_32 : decode cX2_init 32 = .ok (.dup, 1) := by decide +kernel
theorem dX2_init_33 : decode cX2_init 33 = .ok (.invokespecial 21, 3) := by decide +kernel
theorem dX2_init_36 : decode cX2_init 36 = .ok (.aastore, 1) := by decide +kernel
theorem dX2_init_37 : decode cX2_init 37 = .ok (.iinc 1 1, 3) := by decide +kernel
theorem dX2_init_40 : decode cX2_init 40 = .ok (.goto (-21), 3) := by decide +kernel
theorem dX2_init_43 : decode cX2_init 43 = .ok (.return_, 1) := by decide +kernel
set_option maxRecDepth 20000 in
theorem ggX2_push_X2_dropOldest : GoodIn wsX2_push wsX2_dropOldest := goodIn_r _ [7, 2, 1, 26, 27] (by decide +kernel) (by decide +kernel)
set_option maxRecDepth 20000 in
theorem gX2_push_X2_dropOldest : GoodIn wsX2_push (wsV RX2 22 RX2 yX2_dropOldest wsX2_dropOldest) := goodIn_app (goodIn_of _ (by decide +kernel)) ggX2_push_X2_dropOldest
set_option maxRecDepth 20000 in
theorem ggX2_push_X4_copyFrom : GoodIn wsX2_push wsX4_copyFrom := goodIn_r _ [11, 12, 13, 14, 15, 16, 17, 18, 19, 20, 21, 22, 23, 24, 25, 28, 29, 30, 31, 32, 33, 34, 35, 36, 37] (by decide +kernel) (by decide +kernel)
set_option maxRecDepth 20000 in
theorem gX2_push_X4_copyFrom_n25 : GoodIn wsX2_push (wsX4_copyFrom) := ggX2_push_X4_copyFrom
theorem dX2_push_0 : decode cX2_push 0 = .ok (.aload_n 0, 1) := by decide +kernel
theorem dX2_push_1 : decode cX2_push 1 = .ok (.getfield 17, 3) := by decide +kernel
theorem dX2_push_4 : decode cX2_push 4 = .ok (.iconst 5, 1) := by decide +kernel
theorem dX2_push_5 : decode cX2_push 5 = .ok (.if_icmp .lt 7, 3) := by decide +kernel
theorem dX2_push_8 : decode cX2_push 8 = .ok (.aload_n 0, 1) := by decide +kernel
theorem dX2_push_9 : decode cX2_push 9 = .ok (.invokevirtual 22, 3) := by decide +kernel
theorem dX2_push_12 : decode cX2_push 12 = .ok (.aload_n 0, 1) := by decide +kernel
theorem dX2_push_13 : decode cX2_push 13 = .ok (.getfield 11, 3) := by decide +kernel
theorem dX2_push_16 : decode cX2_push 16 = .ok (.aload_n 0, 1) := by decide +kernel
theorem dX2_push_17 : decode cX2_push 17 = .ok (.getfield 17, 3) := by decide +kernel
theorem dX2_push_20 : decode cX2_push 20 = .ok (.aaload, 1) := by decide +kernel
theorem dX2_push_21 : decode cX2_push 21 = .ok (.aload_n 1, 1) := by decide +kernel
theorem dX2_push_22 : decode cX2_push 22 = .ok (.invokevirtual 25, 3) := by decide +kernel
theorem dX2_push_25 : decode cX2_push 25 = .ok (.aload_n 0, 1) := by decide +kernel
theorem dX2_push_26 : decode cX2_push 26 = .ok (.dup, 1) := by decide +kernel
theorem dX2_push_27 : decode cX2_push 27 = .ok (.getfield 17, 3) := by decide +kernel
theorem dX2_push_30 : decode cX2_push 30 = .ok (.iconst 1, 1) := by decide +kernel
theorem dX2_push_31 : decode cX2_push 31 = .ok (.iadd, 1) := by decide +kernel
theorem dX2_push_32 : decode cX2_push 32 = .ok (.putfield 17, 3) := by decide +kernel
theorem dX2_push_35 : decode cX2_push 35 = .ok (.return_, 1) := by decide +kernel
theorem dX2_dropOldest_0 : decode cX2_dropOldest 0 = .ok (.aload_n 0, 1) := by decide +kernel
theorem dX2_dropOldest_1 : decode cX2_dropOldest 1 = .ok (.getfield 11, 3) := by decide +kernel
theorem dX2_dropOldest_4 : decode cX2_dropOldest 4 = .ok (.iconst 0, 1) := by decide +kernel
theorem dX2_dropOldest_5 : decode cX2_dropOldest 5 = .ok (.aaload, 1) := by decide +kernel
theorem dX2_dropOldest_6 : decode cX2_dropOldest 6 = .ok (.astore_n 1, 1) := by decide +kernel
theorem dX2_dropOldest_7 : decode cX2_dropOldest 7 = .ok (.iconst 1, 1) := by decide +kernel
theorem dX2_dropOldest_8 : decode cX2_dropOldest 8 = .ok (.istore_n 2, 1) := by decide +kernel
theorem dX2_dropOldest_9 : decode cX2_dropOldest 9 = .ok (.iload_n 2, 1) := by decide +kernel
theorem dX2_dropOldest_10 : decode cX2_dropOldest 10 = .ok (.iconst 5, 1) := by decide +kernel
theorem dX2_dropOldest_11 : decode cX2_dropOldest 11 = .ok (.if_icmp .ge 23, 3) := by decide +kernel
theorem dX2_dropOldest_14 : decode cX2_dropOldest 14 = .ok (.aload_n 0, 1) := by decide +kernel
theorem dX2_dropOldest_15 : decode cX2_dropOldest 15 = .ok (.getfield 11, 3) := by decide +kernel
theorem dX2_dropOldest_18 : decode cX2_dropOldest 18 = .ok (.iload_n 2, 1) := by decide +kernel
theorem dX2_dropOldest_19 : decode cX2_dropOldest 19 = .ok (.iconst 1, 1) := by decide +kernel
theorem dX2_dropOldest_20 : decode cX2_dropOldest 20 = .ok (.isub, 1) := by decide +kernel
theorem dX2_dropOldest_21 : decode cX2_dropOldest 21 = .ok (.aload_n 0, 1) := by decide +kernel
theorem dX2_dropOldest_22 : decode cX2_dropOldest 22 = .ok (.getfield 11, 3) := by decide +kernel
theorem dX2_dropOldest_25 : decode cX2_dropOldest 25 = .ok (.iload_n 2, 1) := by decide +kernel
theorem dX2_dropOldest_26 : decode cX2_dropOldest 26 = .ok (.aaload, 1) := by decide +kernel
theorem dX2_dropOldest_27 : decode cX2_dropOldest 27 = .ok (.aastore, 1) := by decide +kernel
theorem dX2_dropOldest_28 : decode cX2_dropOldest 28 = .ok (.iinc 2 1, 3) := by decide +kernel
theorem dX2_dropOldest_31 : decode cX2_dropOldest 31 = .ok (.goto (-22), 3) := by decide +kernel
theorem dX2_dropOldest_34 : decode cX2_dropOldest 34 = .ok (.aload_n 0, 1) := by decide +kernel
theorem dX2_dropOldest_35 : decode cX2_dropOldest 35 = .ok (.getfield 11, 3) := by decide +kernel
theorem dX2_dropOldest_38 : decode cX2_dropOldest 38 = .ok (.iconst 4, 1) := by decide +kernel
theorem dX2_dropOldest_39 : decode cX2_dropOldest 39 = .ok (.aload_n 1, 1) := by decide +kernel
theorem dX2_dropOldest_40 : decode cX2_dropOldest 40 = .ok (.aastore, 1) := by decide +kernel
theorem dX2_dropOldest_41 : decode cX2_dropOldest 41 = .ok (.aload_n 0, 1) := by decide +kernel
theorem dX2_dropOldest_42 : decode cX2_dropOldest 42 = .ok (.iconst 4, 1) := by decide +kernel
theorem dX2_dropOldest_43 : decode cX2_dropOldest 43 = .ok (.putfield 17, 3) := by decide +kernel
theorem dX2_dropOldest_46 : decode cX2_dropOldest 46 = .ok (.return_, 1) := by decide +kernel
set_option maxRecDepth 20000 in
theorem ggX2_pop_X4_copyFrom : GoodIn wsX2_pop wsX4_copyFrom := goodIn_r _ [6, 7, 8, 9, 10, 11, 12, 13, 14, 15, 16, 17, 18, 19, 20, 23, 24, 25, 26, 27, 28, 29, 30, 31, 32] (by decide +kernel) (by decide +kernel)
set_option maxRecDepth 20000 in
theorem gX2_pop_X4_copyFrom_n25 : GoodIn wsX2_pop (wsX4_copyFrom) := ggX2_pop_X4_copyFrom
theorem dX2_pop_0 : decode cX2_pop 0 = .ok (.aload_n 0, 1) := by decide +kernel
theorem dX2_pop_1 : decode cX2_pop 1 = .ok (.getfield 17, 3) := by decide +kernel
theorem dX2_pop_4 : decode cX2_pop 4 = .ok (.ifCond .gt 4, 3) := by decide +kernel
theorem dX2_pop_7 : decode cX2_pop 7 = .ok (.return_, 1) := by decide +kernel
theorem dX2_pop_8 : decode cX2_pop 8 = .ok (.aload_n 0, 1) := by decide +kernel
theorem dX2_pop_9 : decode cX2_pop 9 = .ok (.dup, 1) := by decide +kernel
theorem dX2_pop_10 : decode cX2_pop 10 = .ok (.getfield 17, 3) := by decide +kernel
theorem dX2_pop_13 : decode cX2_pop 13 = .ok (.iconst 1, 1) := by decide +kernel
theorem dX2_pop_14 : decode cX2_pop 14 = .ok (.isub, 1) := by decide +kernel
theorem dX2_pop_15 : decode cX2_pop 15 = .ok (.putfield 17, 3) := by decide +kernel
theorem dX2_pop_18 : decode cX2_pop 18 = .ok (.aload_n 1, 1) := by decide +kernel
theorem dX2_pop_19 : decode cX2_pop 19 = .ok (.aload_n 0, 1) := by decide +kernel
theorem dX2_pop_20 : decode cX2_pop 20 = .ok (.getfield 11, 3) := by decide +kernel
theorem dX2_pop_23 : decode cX2_pop 23 = .ok (.aload_n 0, 1) := by decide +kernel
theorem dX2_pop_24 : decode cX2_pop 24 = .ok (.getfield 17, 3) := by decide +kernel
theorem dX2_pop_27 : decode cX2_pop 27 = .ok (.aaload, 1) := by decide +kernel
theorem dX2_pop_28 : decode cX2_pop 28 = .ok (.invokevirtual 25, 3) := by decide +kernel
theorem dX2_pop_31 : decode cX2_pop 31 = .ok (.return_, 1) := by decide +kernel
theorem dX3_init_0 : decode cX3_init 0 = .ok (.aload_n 0, 1) := by decide +kernel
theorem dX3_init_1 : decode cX3_init 1 = .ok (.invokespecial 3, 3) := by decide +kernel
theorem dX3_init_4 : decode cX3_init 4 = .ok (.aload_n 0, 1) := by decide +kernel
theorem dX3_init_5 : decode cX3_init 5 = .ok (.bipush 10, 2) := by decide +kernel
theorem dX3_init_7 : decode cX3_init 7 = .ok (.newarray .int, 2) := by decide +kernel
theorem dX3_init_9 : decode cX3_init 9 = .ok (.putfield 9, 3) := by decide +kernel
theorem dX3_init_12 : decode cX3_init 12 = .ok (.aload_n 0, 1) := by decide +kernel
theorem dX3_init_13 : decode cX3_init 13 = .ok (.bipush 10, 2) := by decide +kernel
theorem dX3_init_15 : decode cX3_init 15 = .ok (.newarray .int, 2) := by decide +kernel
theorem dX3_init_17 : decode cX3_init 17 = .ok (.putfield 15, 3) := by decide +kernel
theorem dX3_init_20 : decode cX3_init 20 = .ok (.return_, 1) := by decide +kernel
set_option maxRecDepth 20000 in
theorem ggX3_build_X3_nextTerm : GoodIn wsX3_build wsX3_nextTerm := goodIn_r _ [6, 7, 8, 9, 12] (by decide +kernel) (by decide +kernel)
set_option maxRecDepth 20000 in
theorem gX3_build_X3_nextTerm : GoodIn wsX3_build (va_wsS RX3 18 yX3_nextTerm wsX3_nextTerm) := goodIn_app (goodIn_of _ (by decide +kernel)) ggX3_build_X3_nextTerm
theorem dX3_build_0 : decode cX3_build 0 = .ok (.iconst 0, 1) := by decide +kernel
theorem dX3_build_1 : decode cX3_build 1 = .ok (.istore_n 3, 1) := by decide +kernel
theorem dX3_build_2 : decode cX3_build 2 = .ok (.iconst 0, 1) := by decide +kernel
theorem dX3_build_3 : decode cX3_build 3 = .ok (.istore 4, 2) := by decide +kernel
theorem dX3_build_5 : decode cX3_build 5 = .ok (.iload 4, 2) := by decide +kernel
theorem dX3_build_7 : decode cX3_build 7 = .ok (.iload_n 2, 1) := by decide +kernel
theorem dX3_build_8 : decode cX3_build 8 = .ok (.if_icmp .ge 49, 3) := by decide +kernel
theorem dX3_build_11 : decode cX3_build 11 = .ok (.aload_n 1, 1) := by decide +kernel
theorem dX3_build_12 : decode cX3_build 12 = .ok (.iload_n 2, 1) := by decide +kernel
theorem dX3_build_13 : decode cX3_build 13 = .ok (.iload_n 3, 1) := by decide +kernel
theorem dX3_build_14 : decode cX3_build 14 = .ok (.invokestatic 18, 3) := by decide +kernel
theorem dX3_build_17 : decode cX3_build 17 = .ok (.istore 5, 2) := by decide +kernel
theorem dX3_build_19 : decode cX3_build 19 = .ok (.iload 5, 2) := by decide +kernel
theorem dX3_build_21 : decode cX3_build 21 = .ok (.iconst (-1), 1) := by decide +kernel
theorem dX3_build_22 : decode cX3_build 22 = .ok (.if_icmp .ne 4, 3) := by decide +kernel
theorem dX3_build_25 : decode cX3_build 25 = .ok (.return_, 1) := by decide +kernel
theorem dX3_build_26 : decode cX3_build 26 = .ok (.aload_n 0, 1) := by decide +kernel
theorem dX3_build_27 : decode cX3_build 27 = .ok (.getfield 9, 3) := by decide +kernel
theorem dX3_build_30 : decode cX3_build 30 = .ok (.iload 4, 2) := by decide +kernel
theorem dX3_build_32 : decode cX3_build 32 = .ok (.iload 5, 2) := by decide +kernel
theorem dX3_build_34 : decode cX3_build 34 = .ok (.iastore, 1) := by decide +kernel
theorem dX3_build_35 : decode cX3_build 35 = .ok (.aload_n 0, 1) := by decide +kernel
theorem dX3_build_36 : decode cX3_build 36 = .ok (.getfield 15, 3) := by decide +kernel
theorem dX3_build_39 : decode cX3_build 39 = .ok (.iload 5, 2) := by decide +kernel
theorem dX3_build_41 : decode cX3_build 41 = .ok (.iload 4, 2) := by decide +kernel
theorem dX3_build_43 : decode cX3_build 43 = .ok (.iastore, 1) := by decide +kernel
theorem dX3_build_44 : decode cX3_build 44 = .ok (.iload_n 3, 1) := by decide +kernel
theorem dX3_build_45 : decode cX3_build 45 = .ok (.iconst 1, 1) := by decide +kernel
theorem dX3_build_46 : decode cX3_build 46 = .ok (.iload 5, 2) := by decide +kernel
theorem dX3_build_48 : decode cX3_build 48 = .ok (.ishl, 1) := by decide +kernel
theorem dX3_build_49 : decode cX3_build 49 = .ok (.ior, 1) := by decide +kernel
theorem dX3_build_50 : decode cX3_build 50 = .ok (.istore_n 3, 1) := by decide +kernel
theorem dX3_build_51 : decode cX3_build 51 = .ok (.iinc 4 1, 3) := by decide +kernel
theorem dX3_build_54 : decode cX3_build 54 = .ok (.goto (-49), 3) := by decide +kernel
theorem dX3_build_57 : decode cX3_build 57 = .ok (.return_, 1) := by decide +kernel
set_option maxRecDepth 20000 in
theorem ggX3_nextTerm_X5_contains : GoodIn wsX3_nextTerm wsX5_contains := goodIn_r _ [3] (by decide +kernel) (by decide +kernel)
set_option maxRecDepth 20000 in
theorem gX3_nextTerm_X5_contains_n22 : GoodIn wsX3_nextTerm (wsX5_contains) := ggX3_nextTerm_X5_contains
theorem dX3_nextTerm_0 : decode cX3_nextTerm 0 = .ok (.iconst 0, 1) := by decide +kernel
theorem dX3_nextTerm_1 : decode cX3_nextTerm 1 = .ok (.istore_n 3, 1) := by decide +kernel
theorem dX3_nextTerm_2 : decode cX3_nextTerm 2 = .ok (.iload_n 3, 1) := by decide +kernel
theorem dX3_nextTerm_3 : decode cX3_nextTerm 3 = .ok (.iload_n 1, 1) := by decide +kernel
theorem dX3_nextTerm_4 : decode cX3_nextTerm 4 = .ok (.if_icmp .ge 32, 3) := by decide +kernel
theorem dX3_nextTerm_7 : decode cX3_nextTerm 7 = .ok (.iload_n 2, 1) := by decide +kernel
theorem dX3_nextTerm_8 : decode cX3_nextTerm 8 = .ok (.iload_n 3, 1) := by decide +kernel
theorem dX3_nextTerm_9 : decode cX3_nextTerm 9 = .ok (.invokestatic 22, 3) := by decide +kernel
theorem dX3_nextTerm_12 : decode cX3_nextTerm 12 = .ok (.ifCond .ne 18, 3) := by decide +kernel
theorem dX3_nextTerm_15 : decode cX3_nextTerm 15 = .ok (.aload_n 0, 1) := by decide +kernel
theorem dX3_nextTerm_16 : decode cX3_nextTerm 16 = .ok (.getfield 26, 3) := by decide +kernel
theorem dX3_nextTerm_19 : decode cX3_nextTerm 19 = .ok (.iload_n 3, 1) := by decide +kernel
theorem dX3_nextTerm_20 : decode cX3_nextTerm 20 = .ok (.iaload, 1) := by decide +kernel
theorem dX3_nextTerm_21 : decode cX3_nextTerm 21 = .ok (.iload_n 2, 1) := by decide +kernel
theorem dX3_nextTerm_22 : decode cX3_nextTerm 22 = .ok (.iconst (-1), 1) := by decide +kernel
theorem dX3_nextTerm_23 : decode cX3_nextTerm 23 = .ok (.ixor, 1) := by decide +kernel
theorem dX3_nextTerm_24 : decode cX3_nextTerm 24 = .ok (.iand, 1) := by decide +kernel
theorem dX3_nextTerm_25 : decode cX3_nextTerm 25 = .ok (.ifCond .ne 5, 3) := by decide +kernel
theorem dX3_nextTerm_28 : decode cX3_nextTerm 28 = .ok (.iload_n 3, 1) := by decide +kernel
theorem dX3_nextTerm_29 : decode cX3_nextTerm 29 = .ok (.ireturn, 1) := by decide +kernel
theorem dX3_nextTerm_30 : decode cX3_nextTerm 30 = .ok (.iinc 3 1, 3) := by decide +kernel
theorem dX3_nextTerm_33 : decode cX3_nextTerm 33 = .ok (.goto (-31), 3) := by decide +kernel
theorem dX3_nextTerm_36 : decode cX3_nextTerm 36 = .ok (.iconst (-1), 1) := by decide +kernel
theorem dX3_nextTerm_37 : decode cX3_nextTerm 37 = .ok (.ireturn, 1) := by decide +kernel
set_option maxRecDepth 20000 in
theorem ggX3_spread_X5_contains : GoodIn wsX3_spread wsX5_contains := goodIn_r _ [11] (by decide +kernel) (by decide +kernel)
set_option maxRecDepth 20000 in
theorem gX3_spread_X5_contains_n22 : GoodIn wsX3_spread (wsX5_contains) := ggX3_spread_X5_contains
theorem dX3_spread_0 : decode cX3_spread 0 = .ok (.iload_n 2, 1) := by decide +kernel
theorem dX3_spread_1 : decode cX3_spread 1 = .ok (.istore_n 3, 1) := by decide +kernel
theorem dX3_spread_2 : decode cX3_spread 2 = .ok (.iconst (-1), 1) := by decide +kernel
theorem dX3_spread_3 : decode cX3_spread 3 = .ok (.istore 4, 2) := by decide +kernel
theorem dX3_spread_5 : decode cX3_spread 5 = .ok (.iconst 0, 1) := by decide +kernel
theorem dX3_spread_6 : decode cX3_spread 6 = .ok (.istore 5, 2) := by decide +kernel
theorem dX3_spread_8 : decode cX3_spread 8 = .ok (.iload 5, 2) := by decide +kernel
theorem dX3_spread_10 : decode cX3_spread 10 = .ok (.iload_n 2, 1) := by decide +kernel
theorem dX3_spread_11 : decode cX3_spread 11 = .ok (.if_icmp .ge 44, 3) := by decide +kernel
theorem dX3_spread_14 : decode cX3_spread 14 = .ok (.iload_n 1, 1) := by decide +kernel
theorem dX3_spread_15 : decode cX3_spread 15 = .ok (.iload 5, 2) := by decide +kernel
theorem dX3_spread_17 : decode cX3_spread 17 = .ok (.invokestatic 22, 3) := by decide +kernel
theorem dX3_spread_20 : decode cX3_spread 20 = .ok (.ifCond .eq 29, 3) := by decide +kernel
theorem dX3_spread_23 : decode cX3_spread 23 = .ok (.iload_n 3, 1) := by decide +kernel
theorem dX3_spread_24 : decode cX3_spread 24 = .ok (.aload_n 0, 1) := by decide +kernel
theorem dX3_spread_25 : decode cX3_spread 25 = .ok (.getfield 15, 3) := by decide +kernel
theorem dX3_spread_28 : decode cX3_spread 28 = .ok (.iload 5, 2) := by decide +kernel
theorem dX3_spread_30 : decode cX3_spread 30 = .ok (.iaload, 1) := by decide +kernel
theorem dX3_spread_31 : decode cX3_spread 31 = .ok (.invokestatic 31, 3) := by decide +kernel
theorem dX3_spread_34 : decode cX3_spread 34 = .ok (.istore_n 3, 1) := by decide +kernel
theorem dX3_spread_35 : decode cX3_spread 35 = .ok (.iload 4, 2) := by decide +kernel
theorem dX3_spread_37 : decode cX3_spread 37 = .ok (.aload_n 0, 1) := by decide +kernel
theorem dX3_spread_38 : decode cX3_spread 38 = .ok (.getfield 15, 3) := by decide +kernel
theorem dX3_spread_41 : decode cX3_spread 41 = .ok (.iload 5, 2) := by decide +kernel
theorem dX3_spread_43 : decode cX3_spread 43 = .ok (.iaload, 1) := by decide +kernel
theorem dX3_spread_44 : decode cX3_spread 44 = .ok (.invokestatic 37, 3) := by decide +kernel
theorem dX3_spread_47 : decode cX3_spread 47 = .ok (.istore 4, 2) := by decide +kernel
theorem dX3_spread_49 : decode cX3_spread 49 = .ok (.iinc 5 1, 3) := by decide +kernel
theorem dX3_spread_52 : decode cX3_spread 52 = .ok (.goto (-44), 3) := by decide +kernel
theorem dX3_spread_55 : decode cX3_spread 55 = .ok (.iload 4, 2) := by decide +kernel
theorem dX3_spread_57 : decode cX3_spread 57 = .ok (.ifCond .ge 7, 3) := by decide +kernel
theorem dX3_spread_60 : decode cX3_spread 60 = .ok (.iconst 0, 1) := by decide +kernel
theorem dX3_spread_61 : decode cX3_spread 61 = .ok (.goto 9, 3) := by decide +kernel
theorem dX3_spread_64 : decode cX3_spread 64 = .ok (.iload 4, 2) := by decide +kernel
theorem dX3_spread_66 : decode cX3_spread 66 = .ok (.iload_n 3, 1) := by decide +kernel
theorem dX3_spread_67 : decode cX3_spread 67 = .ok (.isub, 1) := by decide +kernel
theorem dX3_spread_68 : decode cX3_spread 68 = .ok (.iconst 1, 1) := by decide +kernel
theorem dX3_spread_69 : decode cX3_spread 69 = .ok (.iadd, 1) := by decide +kernel
theorem dX3_spread_70 : decode cX3_spread 70 = .ok (.ireturn, 1) := by decide +kernel
set_option maxRecDepth 20000 in
theorem ggX4_init_J7_fill_53178 : GoodIn wsX4_init wsJ7_fill_53178 := goodIn_r _ [19] (by decide +kernel) (by decide +kernel)
set_option maxRecDepth 20000 in
theorem gX4_init_J7_fill_53178 : GoodIn wsX4_init (va_wsS RX4 44 yJ7_fill_53178 wsJ7_fill_53178) := goodIn_app (goodIn_of _ (by decide +kernel)) ggX4_init_J7_fill_53178
theorem dX4_init_0 : decode cX4_init 0 = .ok (.aload_n 0, 1) := by decide +kernel
theorem dX4_init_1 : decode cX4_init 1 = .ok (.invokespecial 3, 3) := by decide +kernel
theorem dX4_init_4 : decode cX4_init 4 = .ok (.aload_n 0, 1) := by decide +kernel
theorem dX4_init_5 : decode cX4_init 5 = .ok (.iconst 4, 1) := by decide +kernel
theorem dX4_init_6 : decode cX4_init 6 = .ok (.putfield 9, 3) := by decide +kernel
theorem dX4_init_9 : decode cX4_init 9 = .ok (.aload_n 0, 1) := by decide +kernel
theorem dX4_init_10 : decode cX4_init 10 = .ok (.iconst 2, 1) := by decide +kernel
theorem dX4_init_11 : decode cX4_init 11 = .ok (.putfield 15, 3) := by decide +kernel
theorem dX4_init_14 : decode cX4_init 14 = .ok (.aload_n 0, 1) := by decide +kernel
theorem dX4_init_15 : decode cX4_init 15 = .ok (.iconst 0, 1) := by decide +kernel
theorem dX4_init_16 : decode cX4_init 16 = .ok (.putfield 18, 3) := by decide +kernel
theorem dX4_init_19 : decode cX4_init 19 = .ok (.aload_n 0, 1) := by decide +kernel
theorem dX4_init_20 : decode cX4_init 20 = .ok (.iconst 0, 1) := by decide +kernel
theorem dX4_init_21 : decode cX4_init 21 = .ok (.putfield 21, 3) := by decide +kernel
theorem dX4_init_24 : decode cX4_init 24 = .ok (.aload_n 0, 1) := by decide +kernel
theorem dX4_init_25 : decode cX4_init 25 = .ok (.bipush 10, 2) := by decide +kernel
theorem dX4_init_27 : decode cX4_init 27 = .ok (.newarray .int, 2) := by decide +kernel
theorem dX4_init_29 : decode cX4_init 29 = .ok (.putfield 24, 3) := by decide +kernel
theorem dX4_init_32 : decode cX4_init 32 = .ok (.aload_n 0, 1) := by decide +kernel
theorem dX4_init_33 : decode cX4_init 33 = .ok (.bipush 10, 2) := by decide +kernel
theorem dX4_init_35 : decode cX4_init 35 = .ok (.newarray .int, 2) := by decide +kernel
theorem dX4_init_37 : decode cX4_init 37 = .ok (.putfield 28, 3) := by decide +kernel
theorem dX4_init_40 : decode cX4_init 40 = .ok (.aload_n 0, 1) := by decide +kernel
theorem dX4_init_41 : decode cX4_init 41 = .ok (.bipush 10, 2) := by decide +kernel
theorem dX4_init_43 : decode cX4_init 43 = .ok (.newarray .int, 2) := by decide +kernel
theorem dX4_init_45 : decode cX4_init 45 = .ok (.putfield 31, 3) := by decide +kernel
theorem dX4_init_48 : decode cX4_init 48 = .ok (.aload_n 0, 1) := by decide +kernel
theorem dX4_init_49 : decode cX4_init 49 = .ok (.bipush 10, 2) := by decide +kernel
theorem dX4_init_51 : decode cX4_init 51 = .ok (.newarray .long, 2) := by decide +kernel
theorem dX4_init_53 : decode cX4_init 53 = .ok (.putfield 34, 3) := by decide +kernel
theorem dX4_init_56 : decode cX4_init 56 = .ok (.aload_n 0, 1) := by decide +kernel
theorem dX4_init_57 : decode cX4_init 57 = .ok (.bipush 10, 2) := by decide +kernel
theorem dX4_init_59 : decode cX4_init 59 = .ok (.newarray .int, 2) := by decide +kernel
theorem dX4_init_61 : decode cX4_init 61 = .ok (.putfield 38, 3) := by decide +kernel
theorem dX4_init_64 : decode cX4_init 64 = .ok (.aload_n 0, 1) := by decide +kernel
theorem dX4_init_65 : decode cX4_init 65 = .ok (.bipush 10, 2) := by decide +kernel
theorem dX4_init_67 : decode cX4_init 67 = .ok (.newarray .int, 2) := by decide +kernel
theorem dX4_init_69 : decode cX4_init 69 = .ok (.putfield 41, 3) := by decide +kernel
theorem dX4_init_72 : decode cX4_init 72 = .ok (.aload_n 0, 1) := by decide +kernel
theorem dX4_init_73 : decode cX4_init 73 = .ok (.getfield 38, 3) := by decide +kernel
theorem dX4_init_76 : decode cX4_init 76 = .ok (.iconst (-1), 1) := by decide +kernel
theorem dX4_init_77 : decode cX4_init 77 = .ok (.invokestatic 44, 3) := by decide +kernel
theorem dX4_init_80 : decode cX4_init 80 = .ok (.aload_n 0, 1) := by decide +kernel
theorem dX4_init_81 : decode cX4_init 81 = .ok (.getfield 41, 3) := by decide +kernel
theorem dX4_init_84 : decode cX4_init 84 = .ok (.iconst (-1), 1) := by decide +kernel
theorem dX4_init_85 : decode cX4_init 85 = .ok (.invokestatic 44, 3) := by decide +kernel
theorem dX4_init_88 : decode cX4_init 88 = .ok (.return_, 1) := by decide +kernel
theorem dX4_copyFrom_0 : decode cX4_copyFrom 0 = .ok (.aload_n 0, 1) := by decide +kernel
theorem dX4_copyFrom_1 : decode cX4_copyFrom 1 = .ok (.aload_n 1, 1) := by decide +kernel
theorem dX4_copyFrom_2 : decode cX4_copyFrom 2 = .ok (.getfield 9, 3) := by decide +kernel
theorem dX4_copyFrom_5 : decode cX4_copyFrom 5 = .ok (.putfield 9, 3) := by decide +kernel
theorem dX4_copyFrom_8 : decode cX4_copyFrom 8 = .ok (.aload_n 0, 1) := by decide +kernel
theorem dX4_copyFrom_9 : decode cX4_copyFrom 9 = .ok (.aload_n 1, 1) := by decide +kernel
theorem dX4_copyFrom_10 : decode cX4_copyFrom 10 = .ok (.getfield 15, 3) := by decide +kernel
theorem dX4_copyFrom_13 : decode cX4_copyFrom 13 = .ok (.putfield 15, 3) := by decide +kernel
theorem dX4_copyFrom_16 : decode cX4_copyFrom 16 = .ok (.aload_n 0, 1) := by decide +kernel
theorem dX4_copyFrom_17 : decode cX4_copyFrom 17 = .ok (.aload_n 1, 1) := by decide +kernel
theorem dX4_copyFrom_18 : decode cX4_copyFrom 18 = .ok (.getfield 18, 3) := by decide +kernel
theorem dX4_copyFrom_21 : decode cX4_copyFrom 21 = .ok (.putfield 18, 3) := by decide +kernel
theorem dX4_copyFrom_24 : decode cX4_copyFrom 24 = .ok (.aload_n 0, 1) := by decide +kernel
theorem dX4_copyFrom_25 : decode cX4_copyFrom 25 = .ok (.aload_n 1, 1) := by decide +kernel
theorem dX4_copyFrom_26 : decode cX4_copyFrom 26 = .ok (.getfield 21, 3) := by decide +kernel
theorem dX4_copyFrom_29 : decode cX4_copyFrom 29 = .ok (.putfield 21, 3) := by decide +kernel
theorem dX4_copyFrom_32 : decode cX4_copyFrom 32 = .ok (.aload_n 1, 1) := by decide +kernel
theorem dX4_copyFrom_33 : decode cX4_copyFrom 33 = .ok (.getfield 24, 3) := by decide +kernel
theorem dX4_copyFrom_36 : decode cX4_copyFrom 36 = .ok (.iconst 0, 1) := by decide +kernel
theorem dX4_copyFrom_37 : decode cX4_copyFrom 37 = .ok (.aload_n 0, 1) := by decide +kernel
theorem dX4_copyFrom_38 : decode cX4_copyFrom 38 = .ok (.getfield 24, 3) := by decide +kernel
theorem dX4_copyFrom_41 : decode cX4_copyFrom 41 = .ok (.iconst 0, 1) := by decide +kernel
theorem dX4_copyFrom_42 : decode cX4_copyFrom 42 = .ok (.bipush 10, 2) := by decide +kernel
theorem dX4_copyFrom_44 : decode cX4_copyFrom 44 = .ok (.invokestatic 50, 3) := by decide +kernel
theorem dX4_copyFrom_47 : decode cX4_copyFrom 47 = .ok (.aload_n 1, 1) := by decide +kernel
theorem dX4_copyFrom_48 : decode cX4_copyFrom 48 = .ok (.getfield 28, 3) := by decide +kernel
theorem dX4_copyFrom_51 : decode cX4_copyFrom 51 = .ok (.iconst 0, 1) := by decide +kernel
theorem dX4_copyFrom_52 : decode cX4_copyFrom 52 = .ok (.aload_n 0, 1) := by decide +kernel
theorem dX4_copyFrom_53 : decode cX4_copyFrom 53 = .ok (.getfield 28, 3) := by decide +kernel
theorem dX4_copyFrom_56 : decode cX4_copyFrom 56 = .ok (.iconst 0, 1) := by decide +kernel
theorem dX4_copyFrom_57 : decode cX4_copyFrom 57 = .ok (.bipush 10, 2) := by decide +kernel
theorem dX4_copyFrom_59 : decode cX4_copyFrom 59 = .ok (.invokestatic 50, 3) := by decide +kernel
theorem dX4_copyFrom_62 : decode cX4_copyFrom 62 = .ok (.aload_n 1, 1) := by decide +kernel
theorem dX4_copyFrom_63 : decode cX4_copyFrom 63 = .ok (.getfield 31, 3) := by decide +kernel
theorem dX4_copyFrom_66 : decode cX4_copyFrom 66 = .ok (.iconst 0, 1) := by decide +kernel
theorem dX4_copyFrom_67 : decode cX4_copyFrom 67 = .ok (.aload_n 0, 1) := by decide +kernel
theorem dX4_copyFrom_68 : decode cX4_copyFrom 68 = .ok (.getfield 31, 3) := by decide +kernel
theorem dX4_copyFrom_71 : decode cX4_copyFrom 71 = .ok (.iconst 0, 1) := by decide +kernel
theorem dX4_copyFrom_72 : decode cX4_copyFrom 72 = .ok (.bipush 10, 2) := by decide +kernel
theorem dX4_copyFrom_74 : decode cX4_copyFrom 74 = .ok (.invokestatic 50, 3) := by decide +kernel
theorem dX4_copyFrom_77 : decode cX4_copyFrom 77 = .ok (.aload_n 1, 1) := by decide +kernel
theorem dX4_copyFrom_78 : decode cX4_copyFrom 78 = .ok (.getfield 34, 3) := by decide +kernel
theorem dX4_copyFrom_81 : decode cX4_copyFrom 81 = .ok (.iconst 0, 1) := by decide +kernel
theorem dX4_copyFrom_82 : decode cX4_copyFrom 82 = .ok (.aload_n 0, 1) := by decide +kernel
theorem dX4_copyFrom_83 : decode cX4_copyFrom 83 = .ok (.getfield 34, 3) := by decide +kernel
theorem dX4_copyFrom_86 : decode cX4_copyFrom 86 = .ok (.iconst 0, 1) := by decide +kernel
theorem dX4_copyFrom_87 : decode cX4_copyFrom 87 = .ok (.bipush 10, 2) := by decide +kernel
theorem dX4_copyFrom_89 : decode cX4_copyFrom 89 = .ok (.invokestatic 50, 3) := by decide +kernel
theorem dX4_copyFrom_92 : decode cX4_copyFrom 92 = .ok (.aload_n 1, 1) := by decide +kernel
