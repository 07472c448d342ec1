/-! ===== BEGIN words of one list among another's, by their places ===== -/
theorem goodIn_r {big : List Cond} (ws : List Cond) (ps : List Nat) (hp : ws = ps.filterMap (fun i => big[i]?)) (h : ws.all goodWord = true) : GoodIn big ws := by
  intro w hw
  have h1 := List.all_eq_true.mp h w hw
  rw [hp] at hw
  obtain ⟨i, -, hi⟩ := List.mem_filterMap.mp hw
  have hm : w ∈ big := by first | exact List.mem_of_getElem? hi | exact List.getElem?_mem hi
  exact ⟨hm, good_of_word h1⟩
theorem goodIn_app {big a b : List Cond} (ha : GoodIn big a) (hb : GoodIn big b) : GoodIn big (a ++ b) := fun w h => (List.mem_append.mp h).elim (ha w) (hb w)
theorem goodIn_ca {big a b : List Cond} {c : Cond} (ha : GoodIn big (c :: a)) (hb : GoodIn big b) : GoodIn big (c :: (a ++ b)) := fun w h => (List.mem_cons.mp h).elim (fun e => ha w (List.mem_cons.mpr (Or.inl e))) (fun h => (List.mem_append.mp h).elim (fun h => ha w (List.mem_cons.mpr (Or.inr h))) (hb w))
theorem goodIn_sub {big ws : List Cond} (hm : ∀ w ∈ ws, w ∈ big) (h : ws.all goodWord = true) : GoodIn big ws := fun w hw => ⟨hm w hw, good_of_word (List.all_eq_true.mp h w hw)⟩
/-! ===== END ===== -/

/-! ===== BEGIN printed: names, fields, word lists, decode rows ===== -/
def RX0 : String := "LayeredCharters$Guild"
def TX0 : u_T := fun k => match k with
  | 0 => ("LayeredCharters$Guild", "crafts", "[I", true)
  | 1 => ("LayeredCharters$Guild", "ranks", "[I", true)
  | 2 => ("LayeredCharters$Guild", "done", "[I", true)
  | 3 => ("LayeredCharters$Guild", "refused", "[I", true)
  | 4 => ("LayeredCharters$Guild", "refusals", "[I", true)
  | 5 => ("LayeredCharters$Guild", "size", "I", false)
  | _ => ("LayeredCharters$Guild", "doneInAll", "I", false)
def tyX0 : Nat → FieldType := fun k => match k with
  | 0 => .array .int
  | 1 => .array .int
  | 2 => .array .int
  | 3 => .array .int
  | 4 => .array .int
  | 5 => .int
  | _ => .int
abbrev wsX00 : List Cond := u_ws RX0 TX0 7
theorem nmX0 : ∀ a, a < 7 → ∀ b, b < 7 → a ≠ b → (TX0 a).2.1 ≠ (TX0 b).2.1 := by decide +kernel
theorem tyX0_ok : ∀ k, k < 7 → parseFieldDescriptor (TX0 k).2.2.1 = some (tyX0 k) := by decide +kernel
abbrev cX0_init : ByteArray := prog_2_method_1_code
def yX0_init : MethodName := ⟨RX0, "<init>", "()V"⟩
abbrev cX0_copyFrom : ByteArray := prog_2_method_2_code
def yX0_copyFrom : MethodName := ⟨RX0, "copyFrom", "(LLayeredCharters$Guild;)V"⟩
abbrev cX0_has : ByteArray := prog_2_method_3_code
def yX0_has : MethodName := ⟨RX0, "has", "(I)Z"⟩
abbrev cX0_append : ByteArray := prog_2_method_4_code
def yX0_append : MethodName := ⟨RX0, "append", "(II)V"⟩
abbrev cX0_remove : ByteArray := prog_2_method_5_code
def yX0_remove : MethodName := ⟨RX0, "remove", "(I)V"⟩
abbrev cX0_noteDone : ByteArray := prog_2_method_6_code
def yX0_noteDone : MethodName := ⟨RX0, "noteDone", "(I)V"⟩
abbrev cX0_noteRefusal : ByteArray := prog_2_method_7_code
def yX0_noteRefusal : MethodName := ⟨RX0, "noteRefusal", "(II)V"⟩
abbrev cX0_refusalsOf : ByteArray := prog_2_method_8_code
def yX0_refusalsOf : MethodName := ⟨RX0, "refusalsOf", "(I)I"⟩
def RX1 : String := "LayeredCharters$Pad"
def TX1 : u_T := fun k => match k with
  | 0 => ("LayeredCharters$Pad", "signs", "[C", true)
  | _ => ("LayeredCharters$Pad", "length", "I", false)
def tyX1 : Nat → FieldType := fun k => match k with
  | 0 => .array .char
  | _ => .int
abbrev wsX10 : List Cond := u_ws RX1 TX1 2
theorem nmX1 : ∀ a, a < 2 → ∀ b, b < 2 → a ≠ b → (TX1 a).2.1 ≠ (TX1 b).2.1 := by decide +kernel
theorem tyX1_ok : ∀ k, k < 2 → parseFieldDescriptor (TX1 k).2.2.1 = some (tyX1 k) := by decide +kernel
abbrev cX1_init : ByteArray := prog_3_method_1_code
def yX1_init : MethodName := ⟨RX1, "<init>", "()V"⟩
def RX2 : String := "LayeredCharters$Rules"
def TX2 : u_T := fun k => match k with
  | 0 => ("LayeredCharters$Rules", "layers", "[I", true)
  | 1 => ("LayeredCharters$Rules", "kinds", "[I", true)
  | 2 => ("LayeredCharters$Rules", "crafts", "[I", true)
  | 3 => ("LayeredCharters$Rules", "deeds", "[I", true)
  | 4 => ("LayeredCharters$Rules", "seals", "[I", true)
  | 5 => ("LayeredCharters$Rules", "pairs", "[I", true)
  | _ => ("LayeredCharters$Rules", "size", "I", false)
def tyX2 : Nat → FieldType := fun k => match k with
  | 0 => .array .int
  | 1 => .array .int
  | 2 => .array .int
  | 3 => .array .int
  | 4 => .array .int
  | 5 => .array .int
  | _ => .int
abbrev wsX20 : List Cond := u_ws RX2 TX2 7
theorem nmX2 : ∀ a, a < 7 → ∀ b, b < 7 → a ≠ b → (TX2 a).2.1 ≠ (TX2 b).2.1 := by decide +kernel
theorem tyX2_ok : ∀ k, k < 7 → parseFieldDescriptor (TX2 k).2.2.1 = some (tyX2 k) := by decide +kernel
abbrev cX2_init : ByteArray := prog_4_method_1_code
def yX2_init : MethodName := ⟨RX2, "<init>", "()V"⟩
abbrev cX2_copyFrom : ByteArray := prog_4_method_2_code
def yX2_copyFrom : MethodName := ⟨RX2, "copyFrom", "(LLayeredCharters$Rules;)V"⟩
abbrev cX2_has : ByteArray := prog_4_method_3_code
def yX2_has : MethodName := ⟨RX2, "has", "(I)Z"⟩
abbrev cX2_append : ByteArray := prog_4_method_4_code
def yX2_append : MethodName := ⟨RX2, "append", "(IIIII)V"⟩
abbrev cX2_remove : ByteArray := prog_4_method_5_code
def yX2_remove : MethodName := ⟨RX2, "remove", "(I)V"⟩
abbrev cX2_sizeOfKind : ByteArray := prog_4_method_6_code
def yX2_sizeOfKind : MethodName := ⟨RX2, "sizeOfKind", "(I)I"⟩
abbrev cX2_oddsOf : ByteArray := prog_4_method_7_code
def yX2_oddsOf : MethodName := ⟨RX2, "oddsOf", "(I)I"⟩
abbrev cX2_oddPairs : ByteArray := prog_4_method_8_code
def yX2_oddPairs : MethodName := ⟨RX2, "oddPairs", "()I"⟩
abbrev cX2_areAtOdds : ByteArray := prog_4_method_9_code
def yX2_areAtOdds : MethodName := ⟨RX2, "areAtOdds", "(II)Z"⟩
abbrev cX2_reason : ByteArray := prog_4_method_10_code
def yX2_reason : MethodName := ⟨RX2, "reason", "(II)I"⟩
abbrev cX2_allowsByLayers : ByteArray := prog_4_method_11_code
def yX2_allowsByLayers : MethodName := ⟨RX2, "allowsByLayers", "(II)Z"⟩
abbrev cX2_strongest : ByteArray := prog_4_method_12_code
def yX2_strongest : MethodName := ⟨RX2, "strongest", "(III)I"⟩
abbrev cX2_allowedPairs : ByteArray := prog_4_method_13_code
def yX2_allowedPairs : MethodName := ⟨RX2, "allowedPairs", "(I)I"⟩
abbrev cX2_triples : ByteArray := prog_4_method_14_code
def yX2_triples : MethodName := ⟨RX2, "triples", "()I"⟩
abbrev cX2_leastRankFor : ByteArray := prog_4_method_15_code
def yX2_leastRankFor : MethodName := ⟨RX2, "leastRankFor", "(I)I"⟩
abbrev cX2_permittedPairs : ByteArray := prog_4_method_16_code
def yX2_permittedPairs : MethodName := ⟨RX2, "permittedPairs", "()I"⟩
abbrev cX2_heldPairsOfSeal : ByteArray := prog_4_method_17_code
def yX2_heldPairsOfSeal : MethodName := ⟨RX2, "heldPairsOfSeal", "(I)I"⟩
abbrev cX2_heldPairs : ByteArray := prog_4_method_18_code
def yX2_heldPairs : MethodName := ⟨RX2, "heldPairs", "(I)I"⟩
abbrev cX2_lifts : ByteArray := prog_4_method_19_code
def yX2_lifts : MethodName := ⟨RX2, "lifts", "(II)Z"⟩
def RX3 : String := "LayeredCharters$State"
def TX3 : u_T := fun k => match k with
  | 0 => ("LayeredCharters$State", "rules", "LLayeredCharters$Rules;", true)
  | _ => ("LayeredCharters$State", "guild", "LLayeredCharters$Guild;", true)
def tyX3 : Nat → FieldType := fun k => match k with
  | 0 => .object "LayeredCharters$Rules"
  | _ => .object "LayeredCharters$Guild"
abbrev wsX30 : List Cond := u_ws RX3 TX3 2
theorem nmX3 : ∀ a, a < 2 → ∀ b, b < 2 → a ≠ b → (TX3 a).2.1 ≠ (TX3 b).2.1 := by decide +kernel
theorem tyX3_ok : ∀ k, k < 2 → parseFieldDescriptor (TX3 k).2.2.1 = some (tyX3 k) := by decide +kernel
abbrev cX3_init : ByteArray := prog_5_method_1_code
def yX3_init : MethodName := ⟨RX3, "<init>", "()V"⟩
abbrev cX3_copyFrom : ByteArray := prog_5_method_2_code
def yX3_copyFrom : MethodName := ⟨RX3, "copyFrom", "(LLayeredCharters$State;)V"⟩
def RX4 : String := "LayeredCharters"
def TX4 : u_T := fun k => match k with
  | 0 => ("LayeredCharters", "now", "LLayeredCharters$State;", true)
  | 1 => ("LayeredCharters", "pad", "LLayeredCharters$Pad;", true)
  | 2 => ("LayeredCharters", "slots", "[LLayeredCharters$State;", true)
  | 3 => ("LayeredCharters", "history", "[LLayeredCharters$State;", true)
  | 4 => ("LayeredCharters", "remembered", "I", false)
  | _ => ("LayeredCharters", "trial", "LLayeredCharters$Rules;", true)
def tyX4 : Nat → FieldType := fun k => match k with
  | 0 => .object "LayeredCharters$State"
  | 1 => .object "LayeredCharters$Pad"
  | 2 => .array (.object "LayeredCharters$State")
  | 3 => .array (.object "LayeredCharters$State")
  | 4 => .int
  | _ => .object "LayeredCharters$Rules"
abbrev wsX40 : List Cond := u_ws RX4 TX4 6
theorem nmX4 : ∀ a, a < 6 → ∀ b, b < 6 → a ≠ b → (TX4 a).2.1 ≠ (TX4 b).2.1 := by decide +kernel
theorem tyX4_ok : ∀ k, k < 6 → parseFieldDescriptor (TX4 k).2.2.1 = some (tyX4 k) := by decide +kernel
abbrev cX4_init : ByteArray := prog_1_method_1_code
def yX4_init : MethodName := ⟨RX4, "<init>", "()V"⟩
abbrev cX4_add : ByteArray := prog_1_method_2_code
def yX4_add : MethodName := ⟨RX4, "add", "(IIIII)I"⟩
abbrev cX4_strike : ByteArray := prog_1_method_3_code
def yX4_strike : MethodName := ⟨RX4, "strike", "(I)I"⟩
abbrev cX4_seal : ByteArray := prog_1_method_4_code
def yX4_seal : MethodName := ⟨RX4, "seal", "(II)I"⟩
abbrev cX4_move : ByteArray := prog_1_method_5_code
def yX4_move : MethodName := ⟨RX4, "move", "(II)I"⟩
abbrev cX4_tidy : ByteArray := prog_1_method_7_code
def yX4_tidy : MethodName := ⟨RX4, "tidy", "()I"⟩
abbrev cX4_join : ByteArray := prog_1_method_8_code
def yX4_join : MethodName := ⟨RX4, "join", "(II)I"⟩
abbrev cX4_leave : ByteArray := prog_1_method_9_code
def yX4_leave : MethodName := ⟨RX4, "leave", "(I)I"⟩
abbrev cX4_rank : ByteArray := prog_1_method_10_code
def yX4_rank : MethodName := ⟨RX4, "rank", "(II)I"⟩
abbrev cX4_act : ByteArray := prog_1_method_11_code
def yX4_act : MethodName := ⟨RX4, "act", "(II)I"⟩
abbrev cX4_rule : ByteArray := prog_1_method_12_code
def yX4_rule : MethodName := ⟨RX4, "rule", "(II)I"⟩
abbrev cX4_member : ByteArray := prog_1_method_13_code
def yX4_member : MethodName := ⟨RX4, "member", "(II)I"⟩
abbrev cX4_allowed : ByteArray := prog_1_method_14_code
def yX4_allowed : MethodName := ⟨RX4, "allowed", "(IIII)I"⟩
abbrev cX4_why : ByteArray := prog_1_method_15_code
def yX4_why : MethodName := ⟨RX4, "why", "(III)I"⟩
abbrev cX4_count : ByteArray := prog_1_method_16_code
def yX4_count : MethodName := ⟨RX4, "count", "(I)I"⟩
abbrev cX4_leastRank : ByteArray := prog_1_method_17_code
def yX4_leastRank : MethodName := ⟨RX4, "leastRank", "(II)I"⟩
abbrev cX4_ifStruck : ByteArray := prog_1_method_18_code
def yX4_ifStruck : MethodName := ⟨RX4, "ifStruck", "(I)I"⟩
abbrev cX4_worstBan : ByteArray := prog_1_method_19_code
def yX4_worstBan : MethodName := ⟨RX4, "worstBan", "()I"⟩
abbrev cX4_bestWaiver : ByteArray := prog_1_method_20_code
def yX4_bestWaiver : MethodName := ⟨RX4, "bestWaiver", "(I)I"⟩
abbrev cX4_undo : ByteArray := prog_1_method_24_code
def yX4_undo : MethodName := ⟨RX4, "undo", "()I"⟩
abbrev cX4_remember : ByteArray := prog_1_method_27_code
def yX4_remember : MethodName := ⟨RX4, "remember", "()V"⟩
abbrev cX4_dropOldest : ByteArray := prog_1_method_28_code
def yX4_dropOldest : MethodName := ⟨RX4, "dropOldest", "()V"⟩
abbrev cX4_copyInto : ByteArray := prog_1_method_29_code
def yX4_copyInto : MethodName := ⟨RX4, "copyInto", "(LLayeredCharters$State;)LLayeredCharters$State;"⟩
abbrev cX4_triplesWithout : ByteArray := prog_1_method_30_code
def yX4_triplesWithout : MethodName := ⟨RX4, "triplesWithout", "(I)I"⟩
abbrev cX4_triplesWithWaiver : ByteArray := prog_1_method_31_code
def yX4_triplesWithWaiver : MethodName := ⟨RX4, "triplesWithWaiver", "(II)I"⟩
abbrev cX4_isIdle : ByteArray := prog_1_method_32_code
def yX4_isIdle : MethodName := ⟨RX4, "isIdle", "(II)Z"⟩
abbrev cX4_firstIdle : ByteArray := prog_1_method_33_code
def yX4_firstIdle : MethodName := ⟨RX4, "firstIdle", "()I"⟩
abbrev cX4_idleRules : ByteArray := prog_1_method_34_code
def yX4_idleRules : MethodName := ⟨RX4, "idleRules", "()I"⟩
abbrev cX4_deedsAllowed : ByteArray := prog_1_method_35_code
def yX4_deedsAllowed : MethodName := ⟨RX4, "deedsAllowed", "(II)I"⟩
abbrev cX4_isBetween : ByteArray := prog_1_method_36_code
def yX4_isBetween : MethodName := ⟨RX4, "isBetween", "(III)Z"⟩
abbrev cX4_isLayer : ByteArray := prog_1_method_37_code
def yX4_isLayer : MethodName := ⟨RX4, "isLayer", "(I)Z"⟩
abbrev cX4_isCraft : ByteArray := prog_1_method_38_code
def yX4_isCraft : MethodName := ⟨RX4, "isCraft", "(I)Z"⟩
abbrev cX4_isDeed : ByteArray := prog_1_method_39_code
def yX4_isDeed : MethodName := ⟨RX4, "isDeed", "(I)Z"⟩
abbrev cX4_isSeal : ByteArray := prog_1_method_40_code
def yX4_isSeal : MethodName := ⟨RX4, "isSeal", "(I)Z"⟩
abbrev cX4_isRank : ByteArray := prog_1_method_41_code
def yX4_isRank : MethodName := ⟨RX4, "isRank", "(I)Z"⟩
abbrev cX4_pairsOf : ByteArray := prog_1_method_42_code
def yX4_pairsOf : MethodName := ⟨RX4, "pairsOf", "(II)I"⟩
abbrev cX4_closeGap : ByteArray := prog_1_method_43_code
def yX4_closeGap : MethodName := ⟨RX4, "closeGap", "([II)V"⟩
abbrev cX4_copyRow : ByteArray := prog_1_method_44_code
def yX4_copyRow : MethodName := ⟨RX4, "copyRow", "([I[I)V"⟩
def RX5 : String := "LayeredChartersModel"
def TX5 : u_T := fun k => match k with
  | _ => ("", "", "", false)
def tyX5 : Nat → FieldType := fun k => match k with
  | _ => .int
abbrev wsX50 : List Cond := u_ws RX5 TX5 0
theorem nmX5 : ∀ a, a < 0 → ∀ b, b < 0 → a ≠ b → (TX5 a).2.1 ≠ (TX5 b).2.1 := by decide +kernel
theorem tyX5_ok : ∀ k, k < 0 → parseFieldDescriptor (TX5 k).2.2.1 = some (tyX5 k) := by decide +kernel
def RJ6 : String := "java/lang/Integer"
def TJ6 : u_T := fun k => match k with
  | _ => ("", "", "", false)
def tyJ6 : Nat → FieldType := fun k => match k with
  | _ => .int
abbrev wsJ60 : List Cond := u_ws RJ6 TJ6 0
theorem nmJ6 : ∀ a, a < 0 → ∀ b, b < 0 → a ≠ b → (TJ6 a).2.1 ≠ (TJ6 b).2.1 := by decide +kernel
theorem tyJ6_ok : ∀ k, k < 0 → parseFieldDescriptor (TJ6 k).2.2.1 = some (tyJ6 k) := by decide +kernel
abbrev cJ6_bitCount_0f7a4 : ByteArray := prog_8_method_49_code
def yJ6_bitCount_0f7a4 : MethodName := ⟨RJ6, "bitCount", "(I)I"⟩
def RJ9 : String := "java/lang/Math"
def TJ9 : u_T := fun k => match k with
  | _ => ("", "", "", false)
def tyJ9 : Nat → FieldType := fun k => match k with
  | _ => .int
abbrev wsJ90 : List Cond := u_ws RJ9 TJ9 0
theorem nmJ9 : ∀ a, a < 0 → ∀ b, b < 0 → a ≠ b → (TJ9 a).2.1 ≠ (TJ9 b).2.1 := by decide +kernel
theorem tyJ9_ok : ∀ k, k < 0 → parseFieldDescriptor (TJ9 k).2.2.1 = some (tyJ9 k) := by decide +kernel
abbrev cJ9_max_7cf53 : ByteArray := prog_9_method_65_code
def yJ9_max_7cf53 : MethodName := ⟨RJ9, "max", "(II)I"⟩
abbrev cJ9_min_7cf53 : ByteArray := prog_9_method_69_code
def yJ9_min_7cf53 : MethodName := ⟨RJ9, "min", "(II)I"⟩
def RJ10 : String := "java/lang/System"
def TJ10 : u_T := fun k => match k with
  | _ => ("", "", "", false)
def tyJ10 : Nat → FieldType := fun k => match k with
  | _ => .int
abbrev wsJ100 : List Cond := u_ws RJ10 TJ10 0
theorem nmJ10 : ∀ a, a < 0 → ∀ b, b < 0 → a ≠ b → (TJ10 a).2.1 ≠ (TJ10 b).2.1 := by decide +kernel
theorem tyJ10_ok : ∀ k, k < 0 → parseFieldDescriptor (TJ10 k).2.2.1 = some (tyJ10 k) := by decide +kernel
def wsX0_init : List Cond := .code yX0_init cX0_init 1 none :: ([.methodLink RX0 3 objectInit, .instanceMethod objectInit, .code objectInit ⟨#[0xb1]⟩ 1 none, .arrayClass .int, .fieldLink RX0 9 "LayeredCharters$Guild" "crafts" "[I", .fieldLink RX0 15 "LayeredCharters$Guild" "ranks" "[I", .fieldLink RX0 18 "LayeredCharters$Guild" "done" "[I", .fieldLink RX0 21 "LayeredCharters$Guild" "refused" "[I", .fieldLink RX0 24 "LayeredCharters$Guild" "refusals" "[I", .fieldLink RX0 27 "LayeredCharters$Guild" "size" "I", .fieldLink RX0 31 "LayeredCharters$Guild" "doneInAll" "I"] ++ wsX00)
def wsX4_copyRow : List Cond := .code yX4_copyRow cX4_copyRow 2 none :: ([.methodLink RX4 229 Lib.Math.min.name, .static Lib.Math.min.name, .initialized "java/lang/Math", .code Lib.Math.min.name Lib.Math.min.code 2 (some .int), .methodLink RX4 232 arraycopyName, .native arraycopyName, .static arraycopyName, .initialized "java/lang/System"])
def wsX0_copyFrom : List Cond := .code yX0_copyFrom cX0_copyFrom 2 none :: ([.fieldLink RX0 9 "LayeredCharters$Guild" "crafts" "[I", .fieldLink RX0 15 "LayeredCharters$Guild" "ranks" "[I", .fieldLink RX0 18 "LayeredCharters$Guild" "done" "[I", .fieldLink RX0 21 "LayeredCharters$Guild" "refused" "[I", .fieldLink RX0 24 "LayeredCharters$Guild" "refusals" "[I", .fieldLink RX0 27 "LayeredCharters$Guild" "size" "I", .fieldLink RX0 31 "LayeredCharters$Guild" "doneInAll" "I", .static yX4_copyRow, .initialized RX4, .code yX4_copyRow cX4_copyRow 2 none, .methodLink RX4 229 Lib.Math.min.name, .static Lib.Math.min.name, .initialized "java/lang/Math", .code Lib.Math.min.name Lib.Math.min.code 2 (some .int), .methodLink RX4 232 arraycopyName, .native arraycopyName, .static arraycopyName, .initialized "java/lang/System"] ++ wsX00)
def wsX0_has : List Cond := .code yX0_has cX0_has 2 (some .boolean) :: ([.fieldLink RX0 27 "LayeredCharters$Guild" "size" "I"] ++ wsX00)
def wsX0_append : List Cond := .code yX0_append cX0_append 3 none :: ([.fieldLink RX0 27 "LayeredCharters$Guild" "size" "I", .fieldLink RX0 9 "LayeredCharters$Guild" "crafts" "[I", .fieldLink RX0 15 "LayeredCharters$Guild" "ranks" "[I", .fieldLink RX0 18 "LayeredCharters$Guild" "done" "[I", .fieldLink RX0 21 "LayeredCharters$Guild" "refused" "[I"] ++ wsX00)
def wsX4_closeGap : List Cond := .code yX4_closeGap cX4_closeGap 3 none :: ([.methodLink RX4 224 Lib.Math.max.name, .static Lib.Math.max.name, .initialized "java/lang/Math", .code Lib.Math.max.name Lib.Math.max.code 2 (some .int)])
def wsX0_remove : List Cond := .code yX0_remove cX0_remove 2 none :: ([.fieldLink RX0 9 "LayeredCharters$Guild" "crafts" "[I", .fieldLink RX0 15 "LayeredCharters$Guild" "ranks" "[I", .fieldLink RX0 18 "LayeredCharters$Guild" "done" "[I", .fieldLink RX0 21 "LayeredCharters$Guild" "refused" "[I", .fieldLink RX0 27 "LayeredCharters$Guild" "size" "I", .methodLink RX0 38 yX0_has, .instanceMethod yX0_has, .selects RX0 yX0_has yX0_has, .initialized RX0, .code yX0_has cX0_has 2 (some .boolean), .static yX4_closeGap, .initialized RX4, .code yX4_closeGap cX4_closeGap 3 none, .methodLink RX4 224 Lib.Math.max.name, .static Lib.Math.max.name, .initialized "java/lang/Math", .code Lib.Math.max.name Lib.Math.max.code 2 (some .int)] ++ wsX00)
def wsX0_noteDone : List Cond := .code yX0_noteDone cX0_noteDone 2 none :: ([.fieldLink RX0 18 "LayeredCharters$Guild" "done" "[I", .fieldLink RX0 31 "LayeredCharters$Guild" "doneInAll" "I", .methodLink RX0 38 yX0_has, .instanceMethod yX0_has, .selects RX0 yX0_has yX0_has, .initialized RX0, .code yX0_has cX0_has 2 (some .boolean), .fieldLink RX0 27 "LayeredCharters$Guild" "size" "I"] ++ wsX00)
def wsX4_isBetween : List Cond := .code yX4_isBetween cX4_isBetween 3 (some .boolean) :: ([])
def wsX0_noteRefusal : List Cond := .code yX0_noteRefusal cX0_noteRefusal 3 none :: ([.fieldLink RX0 21 "LayeredCharters$Guild" "refused" "[I", .fieldLink RX0 24 "LayeredCharters$Guild" "refusals" "[I", .methodLink RX0 38 yX0_has, .instanceMethod yX0_has, .selects RX0 yX0_has yX0_has, .initialized RX0, .code yX0_has cX0_has 2 (some .boolean), .fieldLink RX0 27 "LayeredCharters$Guild" "size" "I", .static yX4_isBetween, .initialized RX4, .code yX4_isBetween cX4_isBetween 3 (some .boolean)] ++ wsX00)
def wsX0_refusalsOf : List Cond := .code yX0_refusalsOf cX0_refusalsOf 2 (some .int) :: ([.fieldLink RX0 24 "LayeredCharters$Guild" "refusals" "[I", .static yX4_isBetween, .initialized RX4, .code yX4_isBetween cX4_isBetween 3 (some .boolean)] ++ wsX00)
def wsX1_init : List Cond := .code yX1_init cX1_init 1 none :: ([.methodLink RX1 3 objectInit, .instanceMethod objectInit, .code objectInit ⟨#[0xb1]⟩ 1 none, .arrayClass .char, .fieldLink RX1 9 "LayeredCharters$Pad" "signs" "[C", .fieldLink RX1 15 "LayeredCharters$Pad" "length" "I"] ++ wsX10)
def wsX2_init : List Cond := .code yX2_init cX2_init 1 none :: ([.methodLink RX2 3 objectInit, .instanceMethod objectInit, .code objectInit ⟨#[0xb1]⟩ 1 none, .arrayClass .int, .fieldLink RX2 11 "LayeredCharters$Rules" "layers" "[I", .fieldLink RX2 15 "LayeredCharters$Rules" "kinds" "[I", .fieldLink RX2 18 "LayeredCharters$Rules" "crafts" "[I", .fieldLink RX2 21 "LayeredCharters$Rules" "deeds" "[I", .fieldLink RX2 24 "LayeredCharters$Rules" "seals" "[I", .fieldLink RX2 27 "LayeredCharters$Rules" "pairs" "[I", .fieldLink RX2 30 "LayeredCharters$Rules" "size" "I"] ++ wsX20)
def wsX2_copyFrom : List Cond := .code yX2_copyFrom cX2_copyFrom 2 none :: ([.fieldLink RX2 11 "LayeredCharters$Rules" "layers" "[I", .fieldLink RX2 15 "LayeredCharters$Rules" "kinds" "[I", .fieldLink RX2 18 "LayeredCharters$Rules" "crafts" "[I", .fieldLink RX2 21 "LayeredCharters$Rules" "deeds" "[I", .fieldLink RX2 24 "LayeredCharters$Rules" "seals" "[I", .fieldLink RX2 27 "LayeredCharters$Rules" "pairs" "[I", .fieldLink RX2 30 "LayeredCharters$Rules" "size" "I", .static yX4_copyRow, .initialized RX4, .code yX4_copyRow cX4_copyRow 2 none, .methodLink RX4 229 Lib.Math.min.name, .static Lib.Math.min.name, .initialized "java/lang/Math", .code Lib.Math.min.name Lib.Math.min.code 2 (some .int), .methodLink RX4 232 arraycopyName, .native arraycopyName, .static arraycopyName, .initialized "java/lang/System"] ++ wsX20)
def wsX2_has : List Cond := .code yX2_has cX2_has 2 (some .boolean) :: ([.fieldLink RX2 30 "LayeredCharters$Rules" "size" "I"] ++ wsX20)
def wsX4_pairsOf : List Cond := .code yX4_pairsOf cX4_pairsOf 5 (some .int) :: ([])
def wsX2_append : List Cond := .code yX2_append cX2_append 6 none :: ([.fieldLink RX2 30 "LayeredCharters$Rules" "size" "I", .fieldLink RX2 11 "LayeredCharters$Rules" "layers" "[I", .fieldLink RX2 15 "LayeredCharters$Rules" "kinds" "[I", .fieldLink RX2 18 "LayeredCharters$Rules" "crafts" "[I", .fieldLink RX2 21 "LayeredCharters$Rules" "deeds" "[I", .fieldLink RX2 24 "LayeredCharters$Rules" "seals" "[I", .fieldLink RX2 27 "LayeredCharters$Rules" "pairs" "[I", .static yX4_pairsOf, .initialized RX4, .code yX4_pairsOf cX4_pairsOf 5 (some .int)] ++ wsX20)
def wsX2_remove : List Cond := .code yX2_remove cX2_remove 2 none :: ([.fieldLink RX2 11 "LayeredCharters$Rules" "layers" "[I", .fieldLink RX2 15 "LayeredCharters$Rules" "kinds" "[I", .fieldLink RX2 18 "LayeredCharters$Rules" "crafts" "[I", .fieldLink RX2 21 "LayeredCharters$Rules" "deeds" "[I", .fieldLink RX2 24 "LayeredCharters$Rules" "seals" "[I", .fieldLink RX2 27 "LayeredCharters$Rules" "pairs" "[I", .fieldLink RX2 30 "LayeredCharters$Rules" "size" "I", .methodLink RX2 42 yX2_has, .instanceMethod yX2_has, .selects RX2 yX2_has yX2_has, .initialized RX2, .code yX2_has cX2_has 2 (some .boolean), .static yX4_closeGap, .initialized RX4, .code yX4_closeGap cX4_closeGap 3 none, .methodLink RX4 224 Lib.Math.max.name, .static Lib.Math.max.name, .initialized "java/lang/Math", .code Lib.Math.max.name Lib.Math.max.code 2 (some .int)] ++ wsX20)
def wsX2_sizeOfKind : List Cond := .code yX2_sizeOfKind cX2_sizeOfKind 4 (some .int) :: ([.fieldLink RX2 30 "LayeredCharters$Rules" "size" "I", .fieldLink RX2 15 "LayeredCharters$Rules" "kinds" "[I"] ++ wsX20)
def wsX2_areAtOdds : List Cond := .code yX2_areAtOdds cX2_areAtOdds 3 (some .boolean) :: ([.fieldLink RX2 15 "LayeredCharters$Rules" "kinds" "[I", .fieldLink RX2 27 "LayeredCharters$Rules" "pairs" "[I"] ++ wsX20)
def wsX2_oddsOf : List Cond := .code yX2_oddsOf cX2_oddsOf 4 (some .int) :: ([.fieldLink RX2 30 "LayeredCharters$Rules" "size" "I", .methodLink RX2 50 yX2_areAtOdds, .instanceMethod yX2_areAtOdds, .selects RX2 yX2_areAtOdds yX2_areAtOdds, .initialized RX2, .code yX2_areAtOdds cX2_areAtOdds 3 (some .boolean), .fieldLink RX2 15 "LayeredCharters$Rules" "kinds" "[I", .fieldLink RX2 27 "LayeredCharters$Rules" "pairs" "[I"] ++ wsX20)
def wsX2_oddPairs : List Cond := .code yX2_oddPairs cX2_oddPairs 3 (some .int) :: ([.fieldLink RX2 30 "LayeredCharters$Rules" "size" "I", .fieldLink RX2 15 "LayeredCharters$Rules" "kinds" "[I", .methodLink RX2 54 yX2_oddsOf, .instanceMethod yX2_oddsOf, .selects RX2 yX2_oddsOf yX2_oddsOf, .initialized RX2, .code yX2_oddsOf cX2_oddsOf 4 (some .int), .methodLink RX2 50 yX2_areAtOdds, .instanceMethod yX2_areAtOdds, .selects RX2 yX2_areAtOdds yX2_areAtOdds, .code yX2_areAtOdds cX2_areAtOdds 3 (some .boolean), .fieldLink RX2 27 "LayeredCharters$Rules" "pairs" "[I"] ++ wsX20)
def wsX2_permittedPairs : List Cond := .code yX2_permittedPairs cX2_permittedPairs 3 (some .int) :: ([.fieldLink RX2 30 "LayeredCharters$Rules" "size" "I", .fieldLink RX2 15 "LayeredCharters$Rules" "kinds" "[I", .fieldLink RX2 27 "LayeredCharters$Rules" "pairs" "[I"] ++ wsX20)
def wsX2_lifts : List Cond := .code yX2_lifts cX2_lifts 3 (some .boolean) :: ([.fieldLink RX2 15 "LayeredCharters$Rules" "kinds" "[I", .fieldLink RX2 11 "LayeredCharters$Rules" "layers" "[I", .fieldLink RX2 24 "LayeredCharters$Rules" "seals" "[I"] ++ wsX20)
def wsX2_heldPairs : List Cond := .code yX2_heldPairs cX2_heldPairs 4 (some .int) :: ([.fieldLink RX2 27 "LayeredCharters$Rules" "pairs" "[I", .fieldLink RX2 30 "LayeredCharters$Rules" "size" "I", .methodLink RX2 82 yX2_lifts, .instanceMethod yX2_lifts, .selects RX2 yX2_lifts yX2_lifts, .initialized RX2, .code yX2_lifts cX2_lifts 3 (some .boolean), .fieldLink RX2 15 "LayeredCharters$Rules" "kinds" "[I", .fieldLink RX2 11 "LayeredCharters$Rules" "layers" "[I", .fieldLink RX2 24 "LayeredCharters$Rules" "seals" "[I"] ++ wsX20)
def wsX2_reason : List Cond := .code yX2_reason cX2_reason 6 (some .int) :: ([.fieldLink RX2 30 "LayeredCharters$Rules" "size" "I", .fieldLink RX2 15 "LayeredCharters$Rules" "kinds" "[I", .fieldLink RX2 24 "LayeredCharters$Rules" "seals" "[I", .fieldLink RX2 11 "LayeredCharters$Rules" "layers" "[I", .methodLink RX2 58 yX2_permittedPairs, .instanceMethod yX2_permittedPairs, .selects RX2 yX2_permittedPairs yX2_permittedPairs, .initialized RX2, .code yX2_permittedPairs cX2_permittedPairs 3 (some .int), .fieldLink RX2 27 "LayeredCharters$Rules" "pairs" "[I", .methodLink RX2 62 yX2_heldPairs, .instanceMethod yX2_heldPairs, .selects RX2 yX2_heldPairs yX2_heldPairs, .code yX2_heldPairs cX2_heldPairs 4 (some .int), .methodLink RX2 82 yX2_lifts, .instanceMethod yX2_lifts, .selects RX2 yX2_lifts yX2_lifts, .code yX2_lifts cX2_lifts 3 (some .boolean)] ++ wsX20)
def wsX2_strongest : List Cond := .code yX2_strongest cX2_strongest 6 (some .int) :: ([.fieldLink RX2 30 "LayeredCharters$Rules" "size" "I", .fieldLink RX2 15 "LayeredCharters$Rules" "kinds" "[I", .fieldLink RX2 11 "LayeredCharters$Rules" "layers" "[I", .fieldLink RX2 27 "LayeredCharters$Rules" "pairs" "[I", .fieldLink RX2 24 "LayeredCharters$Rules" "seals" "[I", .methodLink RX2 69 Lib.Math.max.name, .static Lib.Math.max.name, .initialized "java/lang/Math", .code Lib.Math.max.name Lib.Math.max.code 2 (some .int)] ++ wsX20)
def wsX2_allowsByLayers : List Cond := .code yX2_allowsByLayers cX2_allowsByLayers 5 (some .boolean) :: ([.methodLink RX2 69 Lib.Math.max.name, .static Lib.Math.max.name, .initialized "java/lang/Math", .code Lib.Math.max.name Lib.Math.max.code 2 (some .int), .methodLink RX2 58 yX2_permittedPairs, .instanceMethod yX2_permittedPairs, .selects RX2 yX2_permittedPairs yX2_permittedPairs, .initialized RX2, .code yX2_permittedPairs cX2_permittedPairs 3 (some .int), .fieldLink RX2 30 "LayeredCharters$Rules" "size" "I", .fieldLink RX2 15 "LayeredCharters$Rules" "kinds" "[I", .fieldLink RX2 27 "LayeredCharters$Rules" "pairs" "[I", .methodLink RX2 65 yX2_strongest, .instanceMethod yX2_strongest, .selects RX2 yX2_strongest yX2_strongest, .code yX2_strongest cX2_strongest 6 (some .int), .fieldLink RX2 11 "LayeredCharters$Rules" "layers" "[I", .fieldLink RX2 24 "LayeredCharters$Rules" "seals" "[I"] ++ wsX20)
def wsX2_heldPairsOfSeal : List Cond := .code yX2_heldPairsOfSeal cX2_heldPairsOfSeal 4 (some .int) :: ([.fieldLink RX2 30 "LayeredCharters$Rules" "size" "I", .fieldLink RX2 15 "LayeredCharters$Rules" "kinds" "[I", .fieldLink RX2 24 "LayeredCharters$Rules" "seals" "[I", .methodLink RX2 62 yX2_heldPairs, .instanceMethod yX2_heldPairs, .selects RX2 yX2_heldPairs yX2_heldPairs, .initialized RX2, .code yX2_heldPairs cX2_heldPairs 4 (some .int), .fieldLink RX2 27 "LayeredCharters$Rules" "pairs" "[I", .methodLink RX2 82 yX2_lifts, .instanceMethod yX2_lifts, .selects RX2 yX2_lifts yX2_lifts, .code yX2_lifts cX2_lifts 3 (some .boolean), .fieldLink RX2 11 "LayeredCharters$Rules" "layers" "[I"] ++ wsX20)
def wsX2_allowedPairs : List Cond := .code yX2_allowedPairs cX2_allowedPairs 4 (some .int) :: ([.methodLink RX2 58 yX2_permittedPairs, .instanceMethod yX2_permittedPairs, .selects RX2 yX2_permittedPairs yX2_permittedPairs, .initialized RX2, .code yX2_permittedPairs cX2_permittedPairs 3 (some .int), .fieldLink RX2 30 "LayeredCharters$Rules" "size" "I", .fieldLink RX2 15 "LayeredCharters$Rules" "kinds" "[I", .fieldLink RX2 27 "LayeredCharters$Rules" "pairs" "[I", .methodLink RX2 74 yX2_heldPairsOfSeal, .instanceMethod yX2_heldPairsOfSeal, .selects RX2 yX2_heldPairsOfSeal yX2_heldPairsOfSeal, .code yX2_heldPairsOfSeal cX2_heldPairsOfSeal 4 (some .int), .fieldLink RX2 24 "LayeredCharters$Rules" "seals" "[I", .methodLink RX2 62 yX2_heldPairs, .instanceMethod yX2_heldPairs, .selects RX2 yX2_heldPairs yX2_heldPairs, .code yX2_heldPairs cX2_heldPairs 4 (some .int), .methodLink RX2 82 yX2_lifts, .instanceMethod yX2_lifts, .selects RX2 yX2_lifts yX2_lifts, .code yX2_lifts cX2_lifts 3 (some .boolean), .fieldLink RX2 11 "LayeredCharters$Rules" "layers" "[I"] ++ wsX20)
def wsJ6_bitCount_0f7a4 : List Cond := .code yJ6_bitCount_0f7a4 cJ6_bitCount_0f7a4 1 (some .int) :: ([.constant RJ6 265 (1431655765), .constant RJ6 266 (858993459), .constant RJ6 267 (252645135)])
def wsX2_triples_r1 : List Cond := [Cond.methodLink RX2 58 yX2_permittedPairs, Cond.instanceMethod yX2_permittedPairs, Cond.selects RX2 yX2_permittedPairs yX2_permittedPairs, Cond.initialized RX2, Cond.code yX2_permittedPairs cX2_permittedPairs 3 (some .int), Cond.fieldLink RX2 30 "LayeredCharters$Rules" "size" "I", Cond.fieldLink RX2 15 "LayeredCharters$Rules" "kinds" "[I", Cond.fieldLink RX2 27 "LayeredCharters$Rules" "pairs" "[I", Cond.methodLink RX2 77 yJ6_bitCount_0f7a4, Cond.static yJ6_bitCount_0f7a4, Cond.initialized RJ6, Cond.code yJ6_bitCount_0f7a4 cJ6_bitCount_0f7a4 1 (some .int), Cond.constant RJ6 265 (1431655765), Cond.constant RJ6 266 (858993459), Cond.constant RJ6 267 (252645135), Cond.methodLink RX2 74 yX2_heldPairsOfSeal, Cond.instanceMethod yX2_heldPairsOfSeal, Cond.selects RX2 yX2_heldPairsOfSeal yX2_heldPairsOfSeal, Cond.code yX2_heldPairsOfSeal cX2_heldPairsOfSeal 4 (some .int), Cond.fieldLink RX2 24 "LayeredCharters$Rules" "seals" "[I", Cond.methodLink RX2 62 yX2_heldPairs, Cond.instanceMethod yX2_heldPairs, Cond.selects RX2 yX2_heldPairs yX2_heldPairs, Cond.code yX2_heldPairs cX2_heldPairs 4 (some .int)]
def wsX2_triples_r2 : List Cond := [Cond.methodLink RX2 82 yX2_lifts, Cond.instanceMethod yX2_lifts, Cond.selects RX2 yX2_lifts yX2_lifts, Cond.code yX2_lifts cX2_lifts 3 (some .boolean), Cond.fieldLink RX2 11 "LayeredCharters$Rules" "layers" "[I"]
def wsX2_triples : List Cond := .code yX2_triples cX2_triples 4 (some .int) :: ((wsX2_triples_r1 ++ wsX2_triples_r2) ++ wsX20)
def wsX2_leastRankFor : List Cond := .code yX2_leastRankFor cX2_leastRankFor 3 (some .int) :: ([.methodLink RX2 58 yX2_permittedPairs, .instanceMethod yX2_permittedPairs, .selects RX2 yX2_permittedPairs yX2_permittedPairs, .initialized RX2, .code yX2_permittedPairs cX2_permittedPairs 3 (some .int), .fieldLink RX2 30 "LayeredCharters$Rules" "size" "I", .fieldLink RX2 15 "LayeredCharters$Rules" "kinds" "[I", .fieldLink RX2 27 "LayeredCharters$Rules" "pairs" "[I", .methodLink RX2 74 yX2_heldPairsOfSeal, .instanceMethod yX2_heldPairsOfSeal, .selects RX2 yX2_heldPairsOfSeal yX2_heldPairsOfSeal, .code yX2_heldPairsOfSeal cX2_heldPairsOfSeal 4 (some .int), .fieldLink RX2 24 "LayeredCharters$Rules" "seals" "[I", .methodLink RX2 62 yX2_heldPairs, .instanceMethod yX2_heldPairs, .selects RX2 yX2_heldPairs yX2_heldPairs, .code yX2_heldPairs cX2_heldPairs 4 (some .int), .methodLink RX2 82 yX2_lifts, .instanceMethod yX2_lifts, .selects RX2 yX2_lifts yX2_lifts, .code yX2_lifts cX2_lifts 3 (some .boolean), .fieldLink RX2 11 "LayeredCharters$Rules" "layers" "[I"] ++ wsX20)
def wsX3_init_r1 : List Cond := [Cond.methodLink RX3 1 objectInit, Cond.instanceMethod objectInit, Cond.code objectInit ⟨#[0xb1]⟩ 1 none, Cond.classLink RX3 7 RX2, Cond.instantiable RX2 7, Cond.initialized RX2, Cond.fieldLink RX3 10 "LayeredCharters$State" "rules" "LLayeredCharters$Rules;", Cond.classLink RX3 16 RX0, Cond.instantiable RX0 7, Cond.initialized RX0, Cond.fieldLink RX3 19 "LayeredCharters$State" "guild" "LLayeredCharters$Guild;", Cond.instanceMethod yX2_init, Cond.code yX2_init cX2_init 1 none, Cond.methodLink RX2 3 objectInit, Cond.arrayClass .int, Cond.fieldLink RX2 11 "LayeredCharters$Rules" "layers" "[I", Cond.fieldLink RX2 15 "LayeredCharters$Rules" "kinds" "[I", Cond.fieldLink RX2 18 "LayeredCharters$Rules" "crafts" "[I", Cond.fieldLink RX2 21 "LayeredCharters$Rules" "deeds" "[I", Cond.fieldLink RX2 24 "LayeredCharters$Rules" "seals" "[I", Cond.fieldLink RX2 27 "LayeredCharters$Rules" "pairs" "[I", Cond.fieldLink RX2 30 "LayeredCharters$Rules" "size" "I", Cond.instanceMethod yX0_init, Cond.code yX0_init cX0_init 1 none]
def wsX3_init_r2 : List Cond := [Cond.methodLink RX0 3 objectInit, Cond.fieldLink RX0 9 "LayeredCharters$Guild" "crafts" "[I", Cond.fieldLink RX0 15 "LayeredCharters$Guild" "ranks" "[I", Cond.fieldLink RX0 18 "LayeredCharters$Guild" "done" "[I", Cond.fieldLink RX0 21 "LayeredCharters$Guild" "refused" "[I", Cond.fieldLink RX0 24 "LayeredCharters$Guild" "refusals" "[I", Cond.fieldLink RX0 27 "LayeredCharters$Guild" "size" "I", Cond.fieldLink RX0 31 "LayeredCharters$Guild" "doneInAll" "I"]
def wsX3_init : List Cond := .code yX3_init cX3_init 1 none :: ((wsX3_init_r1 ++ wsX3_init_r2) ++ wsX20 ++ wsX30 ++ wsX00)
def wsX3_copyFrom_r1 : List Cond := [Cond.fieldLink RX3 10 "LayeredCharters$State" "rules" "LLayeredCharters$Rules;", Cond.fieldLink RX3 19 "LayeredCharters$State" "guild" "LLayeredCharters$Guild;", Cond.methodLink RX3 23 yX2_copyFrom, Cond.instanceMethod yX2_copyFrom, Cond.selects RX2 yX2_copyFrom yX2_copyFrom, Cond.initialized RX2, Cond.code yX2_copyFrom cX2_copyFrom 2 none, Cond.fieldLink RX2 11 "LayeredCharters$Rules" "layers" "[I", Cond.fieldLink RX2 15 "LayeredCharters$Rules" "kinds" "[I", Cond.fieldLink RX2 18 "LayeredCharters$Rules" "crafts" "[I", Cond.fieldLink RX2 21 "LayeredCharters$Rules" "deeds" "[I", Cond.fieldLink RX2 24 "LayeredCharters$Rules" "seals" "[I", Cond.fieldLink RX2 27 "LayeredCharters$Rules" "pairs" "[I", Cond.fieldLink RX2 30 "LayeredCharters$Rules" "size" "I", Cond.static yX4_copyRow, Cond.initialized RX4, Cond.code yX4_copyRow cX4_copyRow 2 none, Cond.methodLink RX4 229 Lib.Math.min.name, Cond.static Lib.Math.min.name, Cond.initialized "java/lang/Math", Cond.code Lib.Math.min.name Lib.Math.min.code 2 (some .int), Cond.methodLink RX4 232 arraycopyName, Cond.native arraycopyName, Cond.static arraycopyName]
def wsX3_copyFrom_r2 : List Cond := [Cond.initialized "java/lang/System", Cond.methodLink RX3 27 yX0_copyFrom, Cond.instanceMethod yX0_copyFrom, Cond.selects RX0 yX0_copyFrom yX0_copyFrom, Cond.initialized RX0, Cond.code yX0_copyFrom cX0_copyFrom 2 none, Cond.fieldLink RX0 9 "LayeredCharters$Guild" "crafts" "[I", Cond.fieldLink RX0 15 "LayeredCharters$Guild" "ranks" "[I", Cond.fieldLink RX0 18 "LayeredCharters$Guild" "done" "[I", Cond.fieldLink RX0 21 "LayeredCharters$Guild" "refused" "[I", Cond.fieldLink RX0 24 "LayeredCharters$Guild" "refusals" "[I", Cond.fieldLink RX0 27 "LayeredCharters$Guild" "size" "I", Cond.fieldLink RX0 31 "LayeredCharters$Guild" "doneInAll" "I"]
def wsX3_copyFrom : List Cond := .code yX3_copyFrom cX3_copyFrom 2 none :: ((wsX3_copyFrom_r1 ++ wsX3_copyFrom_r2) ++ wsX30 ++ wsX20 ++ wsX00)
def wsX4_init_r1 : List Cond := [Cond.methodLink RX4 3 objectInit, Cond.instanceMethod objectInit, Cond.code objectInit ⟨#[0xb1]⟩ 1 none, Cond.classLink RX4 9 RX3, Cond.instantiable RX3 2, Cond.initialized RX3, Cond.fieldLink RX4 12 "LayeredCharters" "now" "LLayeredCharters$State;", Cond.classLink RX4 16 RX1, Cond.instantiable RX1 2, Cond.initialized RX1, Cond.fieldLink RX4 19 "LayeredCharters" "pad" "LLayeredCharters$Pad;", Cond.fieldLink RX4 23 "LayeredCharters" "slots" "[LLayeredCharters$State;", Cond.fieldLink RX4 27 "LayeredCharters" "history" "[LLayeredCharters$State;", Cond.fieldLink RX4 30 "LayeredCharters" "remembered" "I", Cond.classLink RX4 34 RX2, Cond.instantiable RX2 7, Cond.initialized RX2, Cond.fieldLink RX4 37 "LayeredCharters" "trial" "LLayeredCharters$Rules;", Cond.instanceMethod yX3_init, Cond.code yX3_init cX3_init 1 none, Cond.methodLink RX3 1 objectInit, Cond.classLink RX3 7 RX2, Cond.fieldLink RX3 10 "LayeredCharters$State" "rules" "LLayeredCharters$Rules;", Cond.classLink RX3 16 RX0]
def wsX4_init_r2 : List Cond := [Cond.instantiable RX0 7, Cond.initialized RX0, Cond.fieldLink RX3 19 "LayeredCharters$State" "guild" "LLayeredCharters$Guild;", Cond.instanceMethod yX2_init, Cond.code yX2_init cX2_init 1 none, Cond.methodLink RX2 3 objectInit, Cond.arrayClass .int, Cond.fieldLink RX2 11 "LayeredCharters$Rules" "layers" "[I", Cond.fieldLink RX2 15 "LayeredCharters$Rules" "kinds" "[I", Cond.fieldLink RX2 18 "LayeredCharters$Rules" "crafts" "[I", Cond.fieldLink RX2 21 "LayeredCharters$Rules" "deeds" "[I", Cond.fieldLink RX2 24 "LayeredCharters$Rules" "seals" "[I", Cond.fieldLink RX2 27 "LayeredCharters$Rules" "pairs" "[I", Cond.fieldLink RX2 30 "LayeredCharters$Rules" "size" "I", Cond.instanceMethod yX0_init, Cond.code yX0_init cX0_init 1 none, Cond.methodLink RX0 3 objectInit, Cond.fieldLink RX0 9 "LayeredCharters$Guild" "crafts" "[I", Cond.fieldLink RX0 15 "LayeredCharters$Guild" "ranks" "[I", Cond.fieldLink RX0 18 "LayeredCharters$Guild" "done" "[I", Cond.fieldLink RX0 21 "LayeredCharters$Guild" "refused" "[I", Cond.fieldLink RX0 24 "LayeredCharters$Guild" "refusals" "[I", Cond.fieldLink RX0 27 "LayeredCharters$Guild" "size" "I", Cond.fieldLink RX0 31 "LayeredCharters$Guild" "doneInAll" "I"]
def wsX4_init_r3 : List Cond := [Cond.instanceMethod yX1_init, Cond.code yX1_init cX1_init 1 none, Cond.methodLink RX1 3 objectInit, Cond.arrayClass .char, Cond.fieldLink RX1 9 "LayeredCharters$Pad" "signs" "[C", Cond.fieldLink RX1 15 "LayeredCharters$Pad" "length" "I"]
def wsX4_init : List Cond := .code yX4_init cX4_init 1 none :: ((wsX4_init_r1 ++ (wsX4_init_r2 ++ wsX4_init_r3)) ++ wsX30 ++ wsX40 ++ wsX10 ++ wsX20 ++ wsX00)
def wsX4_isLayer : List Cond := .code yX4_isLayer cX4_isLayer 1 (some .boolean) :: ([.methodLink RX4 45 yX4_isBetween, .static yX4_isBetween, .initialized RX4, .code yX4_isBetween cX4_isBetween 3 (some .boolean)])
def wsX4_isSeal : List Cond := .code yX4_isSeal cX4_isSeal 1 (some .boolean) :: ([.methodLink RX4 45 yX4_isBetween, .static yX4_isBetween, .initialized RX4, .code yX4_isBetween cX4_isBetween 3 (some .boolean)])
def wsX4_dropOldest : List Cond := .code yX4_dropOldest cX4_dropOldest 3 none :: ([.fieldLink RX4 27 "LayeredCharters" "history" "[LLayeredCharters$State;", .fieldLink RX4 30 "LayeredCharters" "remembered" "I"] ++ wsX40)
def wsX4_copyInto_r1 : List Cond := [Cond.classLink RX4 9 RX3, Cond.instantiable RX3 2, Cond.initialized RX3, Cond.fieldLink RX4 12 "LayeredCharters" "now" "LLayeredCharters$State;", Cond.instanceMethod yX3_init, Cond.code yX3_init cX3_init 1 none, Cond.methodLink RX3 1 objectInit, Cond.instanceMethod objectInit, Cond.code objectInit ⟨#[0xb1]⟩ 1 none, Cond.classLink RX3 7 RX2, Cond.instantiable RX2 7, Cond.initialized RX2, Cond.fieldLink RX3 10 "LayeredCharters$State" "rules" "LLayeredCharters$Rules;", Cond.classLink RX3 16 RX0, Cond.instantiable RX0 7, Cond.initialized RX0, Cond.fieldLink RX3 19 "LayeredCharters$State" "guild" "LLayeredCharters$Guild;", Cond.instanceMethod yX2_init, Cond.code yX2_init cX2_init 1 none, Cond.methodLink RX2 3 objectInit, Cond.arrayClass .int, Cond.fieldLink RX2 11 "LayeredCharters$Rules" "layers" "[I", Cond.fieldLink RX2 15 "LayeredCharters$Rules" "kinds" "[I", Cond.fieldLink RX2 18 "LayeredCharters$Rules" "crafts" "[I"]
def wsX4_copyInto_r2 : List Cond := [Cond.fieldLink RX2 21 "LayeredCharters$Rules" "deeds" "[I", Cond.fieldLink RX2 24 "LayeredCharters$Rules" "seals" "[I", Cond.fieldLink RX2 27 "LayeredCharters$Rules" "pairs" "[I", Cond.fieldLink RX2 30 "LayeredCharters$Rules" "size" "I", Cond.instanceMethod yX0_init, Cond.code yX0_init cX0_init 1 none, Cond.methodLink RX0 3 objectInit, Cond.fieldLink RX0 9 "LayeredCharters$Guild" "crafts" "[I", Cond.fieldLink RX0 15 "LayeredCharters$Guild" "ranks" "[I", Cond.fieldLink RX0 18 "LayeredCharters$Guild" "done" "[I", Cond.fieldLink RX0 21 "LayeredCharters$Guild" "refused" "[I", Cond.fieldLink RX0 24 "LayeredCharters$Guild" "refusals" "[I", Cond.fieldLink RX0 27 "LayeredCharters$Guild" "size" "I", Cond.fieldLink RX0 31 "LayeredCharters$Guild" "doneInAll" "I", Cond.methodLink RX4 208 yX3_copyFrom, Cond.instanceMethod yX3_copyFrom, Cond.selects RX3 yX3_copyFrom yX3_copyFrom, Cond.code yX3_copyFrom cX3_copyFrom 2 none, Cond.methodLink RX3 23 yX2_copyFrom, Cond.instanceMethod yX2_copyFrom, Cond.selects RX2 yX2_copyFrom yX2_copyFrom, Cond.code yX2_copyFrom cX2_copyFrom 2 none, Cond.static yX4_copyRow, Cond.initialized RX4]
def wsX4_copyInto_r3 : List Cond := [Cond.code yX4_copyRow cX4_copyRow 2 none, Cond.methodLink RX4 229 Lib.Math.min.name, Cond.static Lib.Math.min.name, Cond.initialized "java/lang/Math", Cond.code Lib.Math.min.name Lib.Math.min.code 2 (some .int), Cond.methodLink RX4 232 arraycopyName, Cond.native arraycopyName, Cond.static arraycopyName, Cond.initialized "java/lang/System", Cond.methodLink RX3 27 yX0_copyFrom, Cond.instanceMethod yX0_copyFrom, Cond.selects RX0 yX0_copyFrom yX0_copyFrom, Cond.code yX0_copyFrom cX0_copyFrom 2 none]
def wsX4_copyInto : List Cond := .code yX4_copyInto cX4_copyInto 3 (some (.object "LayeredCharters$State")) :: ((wsX4_copyInto_r1 ++ (wsX4_copyInto_r2 ++ wsX4_copyInto_r3)) ++ wsX30 ++ wsX40 ++ wsX20 ++ wsX00)
def wsX4_remember_r1 : List Cond := [Cond.fieldLink RX4 30 "LayeredCharters" "remembered" "I", Cond.fieldLink RX4 27 "LayeredCharters" "history" "[LLayeredCharters$State;", Cond.methodLink RX4 216 yX4_dropOldest, Cond.instanceMethod yX4_dropOldest, Cond.selects RX4 yX4_dropOldest yX4_dropOldest, Cond.initialized RX4, Cond.code yX4_dropOldest cX4_dropOldest 3 none, Cond.methodLink RX4 212 yX4_copyInto, Cond.instanceMethod yX4_copyInto, Cond.selects RX4 yX4_copyInto yX4_copyInto, Cond.code yX4_copyInto cX4_copyInto 3 (some (.object "LayeredCharters$State")), Cond.classLink RX4 9 RX3, Cond.instantiable RX3 2, Cond.initialized RX3, Cond.fieldLink RX4 12 "LayeredCharters" "now" "LLayeredCharters$State;", Cond.instanceMethod yX3_init, Cond.code yX3_init cX3_init 1 none, Cond.methodLink RX3 1 objectInit, Cond.instanceMethod objectInit, Cond.code objectInit ⟨#[0xb1]⟩ 1 none, Cond.classLink RX3 7 RX2, Cond.instantiable RX2 7, Cond.initialized RX2, Cond.fieldLink RX3 10 "LayeredCharters$State" "rules" "LLayeredCharters$Rules;"]
def wsX4_remember_r2 : List Cond := [Cond.classLink RX3 16 RX0, Cond.instantiable RX0 7, Cond.initialized RX0, Cond.fieldLink RX3 19 "LayeredCharters$State" "guild" "LLayeredCharters$Guild;", Cond.instanceMethod yX2_init, Cond.code yX2_init cX2_init 1 none, Cond.methodLink RX2 3 objectInit, Cond.arrayClass .int, Cond.fieldLink RX2 11 "LayeredCharters$Rules" "layers" "[I", Cond.fieldLink RX2 15 "LayeredCharters$Rules" "kinds" "[I", Cond.fieldLink RX2 18 "LayeredCharters$Rules" "crafts" "[I", Cond.fieldLink RX2 21 "LayeredCharters$Rules" "deeds" "[I", Cond.fieldLink RX2 24 "LayeredCharters$Rules" "seals" "[I", Cond.fieldLink RX2 27 "LayeredCharters$Rules" "pairs" "[I", Cond.fieldLink RX2 30 "LayeredCharters$Rules" "size" "I", Cond.instanceMethod yX0_init, Cond.code yX0_init cX0_init 1 none, Cond.methodLink RX0 3 objectInit, Cond.fieldLink RX0 9 "LayeredCharters$Guild" "crafts" "[I", Cond.fieldLink RX0 15 "LayeredCharters$Guild" "ranks" "[I", Cond.fieldLink RX0 18 "LayeredCharters$Guild" "done" "[I", Cond.fieldLink RX0 21 "LayeredCharters$Guild" "refused" "[I", Cond.fieldLink RX0 24 "LayeredCharters$Guild" "refusals" "[I", Cond.fieldLink RX0 27 "LayeredCharters$Guild" "size" "I"]
def wsX4_remember_r3 : List Cond := [Cond.fieldLink RX0 31 "LayeredCharters$Guild" "doneInAll" "I", Cond.methodLink RX4 208 yX3_copyFrom, Cond.instanceMethod yX3_copyFrom, Cond.selects RX3 yX3_copyFrom yX3_copyFrom, Cond.code yX3_copyFrom cX3_copyFrom 2 none, Cond.methodLink RX3 23 yX2_copyFrom, Cond.instanceMethod yX2_copyFrom, Cond.selects RX2 yX2_copyFrom yX2_copyFrom, Cond.code yX2_copyFrom cX2_copyFrom 2 none, Cond.static yX4_copyRow, Cond.code yX4_copyRow cX4_copyRow 2 none, Cond.methodLink RX4 229 Lib.Math.min.name, Cond.static Lib.Math.min.name, Cond.initialized "java/lang/Math", Cond.code Lib.Math.min.name Lib.Math.min.code 2 (some .int), Cond.methodLink RX4 232 arraycopyName, Cond.native arraycopyName, Cond.static arraycopyName, Cond.initialized "java/lang/System", Cond.methodLink RX3 27 yX0_copyFrom, Cond.instanceMethod yX0_copyFrom, Cond.selects RX0 yX0_copyFrom yX0_copyFrom, Cond.code yX0_copyFrom cX0_copyFrom 2 none]
def wsX4_remember : List Cond := .code yX4_remember cX4_remember 1 none :: ((wsX4_remember_r1 ++ (wsX4_remember_r2 ++ wsX4_remember_r3)) ++ wsX40 ++ wsX30 ++ wsX20 ++ wsX00)
def wsX4_add_r1 : List Cond := [Cond.fieldLink RX4 12 "LayeredCharters" "now" "LLayeredCharters$State;", Cond.fieldLink RX4 52 "LayeredCharters$State" "rules" "LLayeredCharters$Rules;", Cond.fieldLink RX4 55 "LayeredCharters$Rules" "size" "I", Cond.methodLink RX4 41 yX4_isLayer, Cond.static yX4_isLayer, Cond.initialized RX4, Cond.code yX4_isLayer cX4_isLayer 1 (some .boolean), Cond.methodLink RX4 45 yX4_isBetween, Cond.static yX4_isBetween, Cond.code yX4_isBetween cX4_isBetween 3 (some .boolean), Cond.methodLink RX4 49 yX4_isSeal, Cond.static yX4_isSeal, Cond.code yX4_isSeal cX4_isSeal 1 (some .boolean), Cond.methodLink RX4 58 yX4_remember, Cond.instanceMethod yX4_remember, Cond.selects RX4 yX4_remember yX4_remember, Cond.code yX4_remember cX4_remember 1 none, Cond.fieldLink RX4 30 "LayeredCharters" "remembered" "I", Cond.fieldLink RX4 27 "LayeredCharters" "history" "[LLayeredCharters$State;", Cond.methodLink RX4 216 yX4_dropOldest, Cond.instanceMethod yX4_dropOldest, Cond.selects RX4 yX4_dropOldest yX4_dropOldest, Cond.code yX4_dropOldest cX4_dropOldest 3 none, Cond.methodLink RX4 212 yX4_copyInto]
def wsX4_add_r2 : List Cond := [Cond.instanceMethod yX4_copyInto, Cond.selects RX4 yX4_copyInto yX4_copyInto, Cond.code yX4_copyInto cX4_copyInto 3 (some (.object "LayeredCharters$State")), Cond.classLink RX4 9 RX3, Cond.instantiable RX3 2, Cond.initialized RX3, Cond.instanceMethod yX3_init, Cond.code yX3_init cX3_init 1 none, Cond.methodLink RX3 1 objectInit, Cond.instanceMethod objectInit, Cond.code objectInit ⟨#[0xb1]⟩ 1 none, Cond.classLink RX3 7 RX2, Cond.instantiable RX2 7, Cond.initialized RX2, Cond.fieldLink RX3 10 "LayeredCharters$State" "rules" "LLayeredCharters$Rules;", Cond.classLink RX3 16 RX0, Cond.instantiable RX0 7, Cond.initialized RX0, Cond.fieldLink RX3 19 "LayeredCharters$State" "guild" "LLayeredCharters$Guild;", Cond.instanceMethod yX2_init, Cond.code yX2_init cX2_init 1 none, Cond.methodLink RX2 3 objectInit, Cond.arrayClass .int, Cond.fieldLink RX2 11 "LayeredCharters$Rules" "layers" "[I"]
def wsX4_add_r3 : List Cond := [Cond.fieldLink RX2 15 "LayeredCharters$Rules" "kinds" "[I", Cond.fieldLink RX2 18 "LayeredCharters$Rules" "crafts" "[I", Cond.fieldLink RX2 21 "LayeredCharters$Rules" "deeds" "[I", Cond.fieldLink RX2 24 "LayeredCharters$Rules" "seals" "[I", Cond.fieldLink RX2 27 "LayeredCharters$Rules" "pairs" "[I", Cond.fieldLink RX2 30 "LayeredCharters$Rules" "size" "I", Cond.instanceMethod yX0_init, Cond.code yX0_init cX0_init 1 none, Cond.methodLink RX0 3 objectInit, Cond.fieldLink RX0 9 "LayeredCharters$Guild" "crafts" "[I", Cond.fieldLink RX0 15 "LayeredCharters$Guild" "ranks" "[I", Cond.fieldLink RX0 18 "LayeredCharters$Guild" "done" "[I", Cond.fieldLink RX0 21 "LayeredCharters$Guild" "refused" "[I", Cond.fieldLink RX0 24 "LayeredCharters$Guild" "refusals" "[I", Cond.fieldLink RX0 27 "LayeredCharters$Guild" "size" "I", Cond.fieldLink RX0 31 "LayeredCharters$Guild" "doneInAll" "I", Cond.methodLink RX4 208 yX3_copyFrom, Cond.instanceMethod yX3_copyFrom, Cond.selects RX3 yX3_copyFrom yX3_copyFrom, Cond.code yX3_copyFrom cX3_copyFrom 2 none, Cond.methodLink RX3 23 yX2_copyFrom, Cond.instanceMethod yX2_copyFrom, Cond.selects RX2 yX2_copyFrom yX2_copyFrom, Cond.code yX2_copyFrom cX2_copyFrom 2 none]
def wsX4_add_r4 : List Cond := [Cond.static yX4_copyRow, Cond.code yX4_copyRow cX4_copyRow 2 none, Cond.methodLink RX4 229 Lib.Math.min.name, Cond.static Lib.Math.min.name, Cond.initialized "java/lang/Math", Cond.code Lib.Math.min.name Lib.Math.min.code 2 (some .int), Cond.methodLink RX4 232 arraycopyName, Cond.native arraycopyName, Cond.static arraycopyName, Cond.initialized "java/lang/System", Cond.methodLink RX3 27 yX0_copyFrom, Cond.instanceMethod yX0_copyFrom, Cond.selects RX0 yX0_copyFrom yX0_copyFrom, Cond.code yX0_copyFrom cX0_copyFrom 2 none, Cond.methodLink RX4 61 yX2_append, Cond.instanceMethod yX2_append, Cond.selects RX2 yX2_append yX2_append, Cond.code yX2_append cX2_append 6 none, Cond.static yX4_pairsOf, Cond.code yX4_pairsOf cX4_pairsOf 5 (some .int)]
def wsX4_add : List Cond := .code yX4_add cX4_add 6 (some .int) :: ((wsX4_add_r1 ++ (wsX4_add_r2 ++ (wsX4_add_r3 ++ wsX4_add_r4))) ++ wsX40 ++ wsX30 ++ wsX20 ++ wsX00)
def wsX4_strike_r1 : List Cond := [Cond.fieldLink RX4 12 "LayeredCharters" "now" "LLayeredCharters$State;", Cond.fieldLink RX4 52 "LayeredCharters$State" "rules" "LLayeredCharters$Rules;", Cond.fieldLink RX4 55 "LayeredCharters$Rules" "size" "I", Cond.methodLink RX4 65 yX2_has, Cond.instanceMethod yX2_has, Cond.selects RX2 yX2_has yX2_has, Cond.initialized RX2, Cond.code yX2_has cX2_has 2 (some .boolean), Cond.fieldLink RX2 30 "LayeredCharters$Rules" "size" "I", Cond.methodLink RX4 58 yX4_remember, Cond.instanceMethod yX4_remember, Cond.selects RX4 yX4_remember yX4_remember, Cond.initialized RX4, Cond.code yX4_remember cX4_remember 1 none, Cond.fieldLink RX4 30 "LayeredCharters" "remembered" "I", Cond.fieldLink RX4 27 "LayeredCharters" "history" "[LLayeredCharters$State;", Cond.methodLink RX4 216 yX4_dropOldest, Cond.instanceMethod yX4_dropOldest, Cond.selects RX4 yX4_dropOldest yX4_dropOldest, Cond.code yX4_dropOldest cX4_dropOldest 3 none, Cond.methodLink RX4 212 yX4_copyInto, Cond.instanceMethod yX4_copyInto, Cond.selects RX4 yX4_copyInto yX4_copyInto, Cond.code yX4_copyInto cX4_copyInto 3 (some (.object "LayeredCharters$State"))]
def wsX4_strike_r2 : List Cond := [Cond.classLink RX4 9 RX3, Cond.instantiable RX3 2, Cond.initialized RX3, Cond.instanceMethod yX3_init, Cond.code yX3_init cX3_init 1 none, Cond.methodLink RX3 1 objectInit, Cond.instanceMethod objectInit, Cond.code objectInit ⟨#[0xb1]⟩ 1 none, Cond.classLink RX3 7 RX2, Cond.instantiable RX2 7, Cond.fieldLink RX3 10 "LayeredCharters$State" "rules" "LLayeredCharters$Rules;", Cond.classLink RX3 16 RX0, Cond.instantiable RX0 7, Cond.initialized RX0, Cond.fieldLink RX3 19 "LayeredCharters$State" "guild" "LLayeredCharters$Guild;", Cond.instanceMethod yX2_init, Cond.code yX2_init cX2_init 1 none, Cond.methodLink RX2 3 objectInit, Cond.arrayClass .int, Cond.fieldLink RX2 11 "LayeredCharters$Rules" "layers" "[I", Cond.fieldLink RX2 15 "LayeredCharters$Rules" "kinds" "[I", Cond.fieldLink RX2 18 "LayeredCharters$Rules" "crafts" "[I", Cond.fieldLink RX2 21 "LayeredCharters$Rules" "deeds" "[I", Cond.fieldLink RX2 24 "LayeredCharters$Rules" "seals" "[I"]
def wsX4_strike_r3 : List Cond := [Cond.fieldLink RX2 27 "LayeredCharters$Rules" "pairs" "[I", Cond.instanceMethod yX0_init, Cond.code yX0_init cX0_init 1 none, Cond.methodLink RX0 3 objectInit, Cond.fieldLink RX0 9 "LayeredCharters$Guild" "crafts" "[I", Cond.fieldLink RX0 15 "LayeredCharters$Guild" "ranks" "[I", Cond.fieldLink RX0 18 "LayeredCharters$Guild" "done" "[I", Cond.fieldLink RX0 21 "LayeredCharters$Guild" "refused" "[I", Cond.fieldLink RX0 24 "LayeredCharters$Guild" "refusals" "[I", Cond.fieldLink RX0 27 "LayeredCharters$Guild" "size" "I", Cond.fieldLink RX0 31 "LayeredCharters$Guild" "doneInAll" "I", Cond.methodLink RX4 208 yX3_copyFrom, Cond.instanceMethod yX3_copyFrom, Cond.selects RX3 yX3_copyFrom yX3_copyFrom, Cond.code yX3_copyFrom cX3_copyFrom 2 none, Cond.methodLink RX3 23 yX2_copyFrom, Cond.instanceMethod yX2_copyFrom, Cond.selects RX2 yX2_copyFrom yX2_copyFrom, Cond.code yX2_copyFrom cX2_copyFrom 2 none, Cond.static yX4_copyRow, Cond.code yX4_copyRow cX4_copyRow 2 none, Cond.methodLink RX4 229 Lib.Math.min.name, Cond.static Lib.Math.min.name, Cond.initialized "java/lang/Math"]
def wsX4_strike_r4 : List Cond := [Cond.code Lib.Math.min.name Lib.Math.min.code 2 (some .int), Cond.methodLink RX4 232 arraycopyName, Cond.native arraycopyName, Cond.static arraycopyName, Cond.initialized "java/lang/System", Cond.methodLink RX3 27 yX0_copyFrom, Cond.instanceMethod yX0_copyFrom, Cond.selects RX0 yX0_copyFrom yX0_copyFrom, Cond.code yX0_copyFrom cX0_copyFrom 2 none, Cond.methodLink RX4 68 yX2_remove, Cond.instanceMethod yX2_remove, Cond.selects RX2 yX2_remove yX2_remove, Cond.code yX2_remove cX2_remove 2 none, Cond.methodLink RX2 42 yX2_has, Cond.static yX4_closeGap, Cond.code yX4_closeGap cX4_closeGap 3 none, Cond.methodLink RX4 224 Lib.Math.max.name, Cond.static Lib.Math.max.name, Cond.code Lib.Math.max.name Lib.Math.max.code 2 (some .int)]
def wsX4_strike : List Cond := .code yX4_strike cX4_strike 2 (some .int) :: ((wsX4_strike_r1 ++ (wsX4_strike_r2 ++ (wsX4_strike_r3 ++ wsX4_strike_r4))) ++ wsX40 ++ wsX30 ++ wsX20 ++ wsX00)
def wsX4_seal_r1 : List Cond := [Cond.fieldLink RX4 12 "LayeredCharters" "now" "LLayeredCharters$State;", Cond.fieldLink RX4 52 "LayeredCharters$State" "rules" "LLayeredCharters$Rules;", Cond.fieldLink RX4 72 "LayeredCharters$Rules" "seals" "[I", Cond.methodLink RX4 65 yX2_has, Cond.instanceMethod yX2_has, Cond.selects RX2 yX2_has yX2_has, Cond.initialized RX2, Cond.code yX2_has cX2_has 2 (some .boolean), Cond.fieldLink RX2 30 "LayeredCharters$Rules" "size" "I", Cond.methodLink RX4 49 yX4_isSeal, Cond.static yX4_isSeal, Cond.initialized RX4, Cond.code yX4_isSeal cX4_isSeal 1 (some .boolean), Cond.methodLink RX4 45 yX4_isBetween, Cond.static yX4_isBetween, Cond.code yX4_isBetween cX4_isBetween 3 (some .boolean), Cond.methodLink RX4 58 yX4_remember, Cond.instanceMethod yX4_remember, Cond.selects RX4 yX4_remember yX4_remember, Cond.code yX4_remember cX4_remember 1 none, Cond.fieldLink RX4 30 "LayeredCharters" "remembered" "I", Cond.fieldLink RX4 27 "LayeredCharters" "history" "[LLayeredCharters$State;", Cond.methodLink RX4 216 yX4_dropOldest, Cond.instanceMethod yX4_dropOldest]
def wsX4_seal_r2 : List Cond := [Cond.selects RX4 yX4_dropOldest yX4_dropOldest, Cond.code yX4_dropOldest cX4_dropOldest 3 none, Cond.methodLink RX4 212 yX4_copyInto, Cond.instanceMethod yX4_copyInto, Cond.selects RX4 yX4_copyInto yX4_copyInto, Cond.code yX4_copyInto cX4_copyInto 3 (some (.object "LayeredCharters$State")), Cond.classLink RX4 9 RX3, Cond.instantiable RX3 2, Cond.initialized RX3, Cond.instanceMethod yX3_init, Cond.code yX3_init cX3_init 1 none, Cond.methodLink RX3 1 objectInit, Cond.instanceMethod objectInit, Cond.code objectInit ⟨#[0xb1]⟩ 1 none, Cond.classLink RX3 7 RX2, Cond.instantiable RX2 7, Cond.fieldLink RX3 10 "LayeredCharters$State" "rules" "LLayeredCharters$Rules;", Cond.classLink RX3 16 RX0, Cond.instantiable RX0 7, Cond.initialized RX0, Cond.fieldLink RX3 19 "LayeredCharters$State" "guild" "LLayeredCharters$Guild;", Cond.instanceMethod yX2_init, Cond.code yX2_init cX2_init 1 none, Cond.methodLink RX2 3 objectInit]
def wsX4_seal_r3 : List Cond := [Cond.arrayClass .int, Cond.fieldLink RX2 11 "LayeredCharters$Rules" "layers" "[I", Cond.fieldLink RX2 15 "LayeredCharters$Rules" "kinds" "[I", Cond.fieldLink RX2 18 "LayeredCharters$Rules" "crafts" "[I", Cond.fieldLink RX2 21 "LayeredCharters$Rules" "deeds" "[I", Cond.fieldLink RX2 24 "LayeredCharters$Rules" "seals" "[I", Cond.fieldLink RX2 27 "LayeredCharters$Rules" "pairs" "[I", Cond.instanceMethod yX0_init, Cond.code yX0_init cX0_init 1 none, Cond.methodLink RX0 3 objectInit, Cond.fieldLink RX0 9 "LayeredCharters$Guild" "crafts" "[I", Cond.fieldLink RX0 15 "LayeredCharters$Guild" "ranks" "[I", Cond.fieldLink RX0 18 "LayeredCharters$Guild" "done" "[I", Cond.fieldLink RX0 21 "LayeredCharters$Guild" "refused" "[I", Cond.fieldLink RX0 24 "LayeredCharters$Guild" "refusals" "[I", Cond.fieldLink RX0 27 "LayeredCharters$Guild" "size" "I", Cond.fieldLink RX0 31 "LayeredCharters$Guild" "doneInAll" "I", Cond.methodLink RX4 208 yX3_copyFrom, Cond.instanceMethod yX3_copyFrom, Cond.selects RX3 yX3_copyFrom yX3_copyFrom, Cond.code yX3_copyFrom cX3_copyFrom 2 none, Cond.methodLink RX3 23 yX2_copyFrom, Cond.instanceMethod yX2_copyFrom, Cond.selects RX2 yX2_copyFrom yX2_copyFrom]
def wsX4_seal_r4 : List Cond := [Cond.code yX2_copyFrom cX2_copyFrom 2 none, Cond.static yX4_copyRow, Cond.code yX4_copyRow cX4_copyRow 2 none, Cond.methodLink RX4 229 Lib.Math.min.name, Cond.static Lib.Math.min.name, Cond.initialized "java/lang/Math", Cond.code Lib.Math.min.name Lib.Math.min.code 2 (some .int), Cond.methodLink RX4 232 arraycopyName, Cond.native arraycopyName, Cond.static arraycopyName, Cond.initialized "java/lang/System", Cond.methodLink RX3 27 yX0_copyFrom, Cond.instanceMethod yX0_copyFrom, Cond.selects RX0 yX0_copyFrom yX0_copyFrom, Cond.code yX0_copyFrom cX0_copyFrom 2 none]
def wsX4_seal : List Cond := .code yX4_seal cX4_seal 4 (some .int) :: ((wsX4_seal_r1 ++ (wsX4_seal_r2 ++ (wsX4_seal_r3 ++ wsX4_seal_r4))) ++ wsX40 ++ wsX30 ++ wsX20 ++ wsX00)
def wsX4_move_r1 : List Cond := [Cond.fieldLink RX4 12 "LayeredCharters" "now" "LLayeredCharters$State;", Cond.fieldLink RX4 52 "LayeredCharters$State" "rules" "LLayeredCharters$Rules;", Cond.fieldLink RX4 76 "LayeredCharters$Rules" "kinds" "[I", Cond.fieldLink RX4 79 "LayeredCharters$Rules" "layers" "[I", Cond.methodLink RX4 65 yX2_has, Cond.instanceMethod yX2_has, Cond.selects RX2 yX2_has yX2_has, Cond.initialized RX2, Cond.code yX2_has cX2_has 2 (some .boolean), Cond.fieldLink RX2 30 "LayeredCharters$Rules" "size" "I", Cond.methodLink RX4 41 yX4_isLayer, Cond.static yX4_isLayer, Cond.initialized RX4, Cond.code yX4_isLayer cX4_isLayer 1 (some .boolean), Cond.methodLink RX4 45 yX4_isBetween, Cond.static yX4_isBetween, Cond.code yX4_isBetween cX4_isBetween 3 (some .boolean), Cond.methodLink RX4 58 yX4_remember, Cond.instanceMethod yX4_remember, Cond.selects RX4 yX4_remember yX4_remember, Cond.code yX4_remember cX4_remember 1 none, Cond.fieldLink RX4 30 "LayeredCharters" "remembered" "I", Cond.fieldLink RX4 27 "LayeredCharters" "history" "[LLayeredCharters$State;", Cond.methodLink RX4 216 yX4_dropOldest]
def wsX4_move_r2 : List Cond := [Cond.instanceMethod yX4_dropOldest, Cond.selects RX4 yX4_dropOldest yX4_dropOldest, Cond.code yX4_dropOldest cX4_dropOldest 3 none, Cond.methodLink RX4 212 yX4_copyInto, Cond.instanceMethod yX4_copyInto, Cond.selects RX4 yX4_copyInto yX4_copyInto, Cond.code yX4_copyInto cX4_copyInto 3 (some (.object "LayeredCharters$State")), Cond.classLink RX4 9 RX3, Cond.instantiable RX3 2, Cond.initialized RX3, Cond.instanceMethod yX3_init, Cond.code yX3_init cX3_init 1 none, Cond.methodLink RX3 1 objectInit, Cond.instanceMethod objectInit, Cond.code objectInit ⟨#[0xb1]⟩ 1 none, Cond.classLink RX3 7 RX2, Cond.instantiable RX2 7, Cond.fieldLink RX3 10 "LayeredCharters$State" "rules" "LLayeredCharters$Rules;", Cond.classLink RX3 16 RX0, Cond.instantiable RX0 7, Cond.initialized RX0, Cond.fieldLink RX3 19 "LayeredCharters$State" "guild" "LLayeredCharters$Guild;", Cond.instanceMethod yX2_init, Cond.code yX2_init cX2_init 1 none]
def wsX4_move_r3 : List Cond := [Cond.methodLink RX2 3 objectInit, Cond.arrayClass .int, Cond.fieldLink RX2 11 "LayeredCharters$Rules" "layers" "[I", Cond.fieldLink RX2 15 "LayeredCharters$Rules" "kinds" "[I", Cond.fieldLink RX2 18 "LayeredCharters$Rules" "crafts" "[I", Cond.fieldLink RX2 21 "LayeredCharters$Rules" "deeds" "[I", Cond.fieldLink RX2 24 "LayeredCharters$Rules" "seals" "[I", Cond.fieldLink RX2 27 "LayeredCharters$Rules" "pairs" "[I", Cond.instanceMethod yX0_init, Cond.code yX0_init cX0_init 1 none, Cond.methodLink RX0 3 objectInit, Cond.fieldLink RX0 9 "LayeredCharters$Guild" "crafts" "[I", Cond.fieldLink RX0 15 "LayeredCharters$Guild" "ranks" "[I", Cond.fieldLink RX0 18 "LayeredCharters$Guild" "done" "[I", Cond.fieldLink RX0 21 "LayeredCharters$Guild" "refused" "[I", Cond.fieldLink RX0 24 "LayeredCharters$Guild" "refusals" "[I", Cond.fieldLink RX0 27 "LayeredCharters$Guild" "size" "I", Cond.fieldLink RX0 31 "LayeredCharters$Guild" "doneInAll" "I", Cond.methodLink RX4 208 yX3_copyFrom, Cond.instanceMethod yX3_copyFrom, Cond.selects RX3 yX3_copyFrom yX3_copyFrom, Cond.code yX3_copyFrom cX3_copyFrom 2 none, Cond.methodLink RX3 23 yX2_copyFrom, Cond.instanceMethod yX2_copyFrom]
def wsX4_move_r4 : List Cond := [Cond.selects RX2 yX2_copyFrom yX2_copyFrom, Cond.code yX2_copyFrom cX2_copyFrom 2 none, Cond.static yX4_copyRow, Cond.code yX4_copyRow cX4_copyRow 2 none, Cond.methodLink RX4 229 Lib.Math.min.name, Cond.static Lib.Math.min.name, Cond.initialized "java/lang/Math", Cond.code Lib.Math.min.name Lib.Math.min.code 2 (some .int), Cond.methodLink RX4 232 arraycopyName, Cond.native arraycopyName, Cond.static arraycopyName, Cond.initialized "java/lang/System", Cond.methodLink RX3 27 yX0_copyFrom, Cond.instanceMethod yX0_copyFrom, Cond.selects RX0 yX0_copyFrom yX0_copyFrom, Cond.code yX0_copyFrom cX0_copyFrom 2 none]
def wsX4_move : List Cond := .code yX4_move cX4_move 4 (some .int) :: ((wsX4_move_r1 ++ (wsX4_move_r2 ++ (wsX4_move_r3 ++ wsX4_move_r4))) ++ wsX40 ++ wsX30 ++ wsX20 ++ wsX00)
def wsX4_triplesWithout_r1 : List Cond := [Cond.fieldLink RX4 37 "LayeredCharters" "trial" "LLayeredCharters$Rules;", Cond.fieldLink RX4 12 "LayeredCharters" "now" "LLayeredCharters$State;", Cond.fieldLink RX4 52 "LayeredCharters$State" "rules" "LLayeredCharters$Rules;", Cond.methodLink RX4 219 yX2_copyFrom, Cond.instanceMethod yX2_copyFrom, Cond.selects RX2 yX2_copyFrom yX2_copyFrom, Cond.initialized RX2, Cond.code yX2_copyFrom cX2_copyFrom 2 none, Cond.fieldLink RX2 11 "LayeredCharters$Rules" "layers" "[I", Cond.fieldLink RX2 15 "LayeredCharters$Rules" "kinds" "[I", Cond.fieldLink RX2 18 "LayeredCharters$Rules" "crafts" "[I", Cond.fieldLink RX2 21 "LayeredCharters$Rules" "deeds" "[I", Cond.fieldLink RX2 24 "LayeredCharters$Rules" "seals" "[I", Cond.fieldLink RX2 27 "LayeredCharters$Rules" "pairs" "[I", Cond.fieldLink RX2 30 "LayeredCharters$Rules" "size" "I", Cond.static yX4_copyRow, Cond.initialized RX4, Cond.code yX4_copyRow cX4_copyRow 2 none, Cond.methodLink RX4 229 Lib.Math.min.name, Cond.static Lib.Math.min.name, Cond.initialized "java/lang/Math", Cond.code Lib.Math.min.name Lib.Math.min.code 2 (some .int), Cond.methodLink RX4 232 arraycopyName, Cond.native arraycopyName]
def wsX4_triplesWithout_r2 : List Cond := [Cond.static arraycopyName, Cond.initialized "java/lang/System", Cond.methodLink RX4 68 yX2_remove, Cond.instanceMethod yX2_remove, Cond.selects RX2 yX2_remove yX2_remove, Cond.code yX2_remove cX2_remove 2 none, Cond.methodLink RX2 42 yX2_has, Cond.instanceMethod yX2_has, Cond.selects RX2 yX2_has yX2_has, Cond.code yX2_has cX2_has 2 (some .boolean), Cond.static yX4_closeGap, Cond.code yX4_closeGap cX4_closeGap 3 none, Cond.methodLink RX4 224 Lib.Math.max.name, Cond.static Lib.Math.max.name, Cond.code Lib.Math.max.name Lib.Math.max.code 2 (some .int), Cond.methodLink RX4 146 yX2_triples, Cond.instanceMethod yX2_triples, Cond.selects RX2 yX2_triples yX2_triples, Cond.code yX2_triples cX2_triples 4 (some .int), Cond.methodLink RX2 58 yX2_permittedPairs, Cond.instanceMethod yX2_permittedPairs, Cond.selects RX2 yX2_permittedPairs yX2_permittedPairs, Cond.code yX2_permittedPairs cX2_permittedPairs 3 (some .int), Cond.methodLink RX2 77 yJ6_bitCount_0f7a4]
def wsX4_triplesWithout_r3 : List Cond := [Cond.static yJ6_bitCount_0f7a4, Cond.initialized RJ6, Cond.code yJ6_bitCount_0f7a4 cJ6_bitCount_0f7a4 1 (some .int), Cond.constant RJ6 265 (1431655765), Cond.constant RJ6 266 (858993459), Cond.constant RJ6 267 (252645135), Cond.methodLink RX2 74 yX2_heldPairsOfSeal, Cond.instanceMethod yX2_heldPairsOfSeal, Cond.selects RX2 yX2_heldPairsOfSeal yX2_heldPairsOfSeal, Cond.code yX2_heldPairsOfSeal cX2_heldPairsOfSeal 4 (some .int), Cond.methodLink RX2 62 yX2_heldPairs, Cond.instanceMethod yX2_heldPairs, Cond.selects RX2 yX2_heldPairs yX2_heldPairs, Cond.code yX2_heldPairs cX2_heldPairs 4 (some .int), Cond.methodLink RX2 82 yX2_lifts, Cond.instanceMethod yX2_lifts, Cond.selects RX2 yX2_lifts yX2_lifts, Cond.code yX2_lifts cX2_lifts 3 (some .boolean)]
def wsX4_triplesWithout : List Cond := .code yX4_triplesWithout cX4_triplesWithout 2 (some .int) :: ((wsX4_triplesWithout_r1 ++ (wsX4_triplesWithout_r2 ++ wsX4_triplesWithout_r3)) ++ wsX40 ++ wsX30 ++ wsX20)
def wsX4_isIdle_r1 : List Cond := [Cond.methodLink RX4 195 yX4_triplesWithout, Cond.instanceMethod yX4_triplesWithout, Cond.selects RX4 yX4_triplesWithout yX4_triplesWithout, Cond.initialized RX4, Cond.code yX4_triplesWithout cX4_triplesWithout 2 (some .int), Cond.fieldLink RX4 37 "LayeredCharters" "trial" "LLayeredCharters$Rules;", Cond.fieldLink RX4 12 "LayeredCharters" "now" "LLayeredCharters$State;", Cond.fieldLink RX4 52 "LayeredCharters$State" "rules" "LLayeredCharters$Rules;", Cond.methodLink RX4 219 yX2_copyFrom, Cond.instanceMethod yX2_copyFrom, Cond.selects RX2 yX2_copyFrom yX2_copyFrom, Cond.initialized RX2, Cond.code yX2_copyFrom cX2_copyFrom 2 none, Cond.fieldLink RX2 11 "LayeredCharters$Rules" "layers" "[I", Cond.fieldLink RX2 15 "LayeredCharters$Rules" "kinds" "[I", Cond.fieldLink RX2 18 "LayeredCharters$Rules" "crafts" "[I", Cond.fieldLink RX2 21 "LayeredCharters$Rules" "deeds" "[I", Cond.fieldLink RX2 24 "LayeredCharters$Rules" "seals" "[I", Cond.fieldLink RX2 27 "LayeredCharters$Rules" "pairs" "[I", Cond.fieldLink RX2 30 "LayeredCharters$Rules" "size" "I", Cond.static yX4_copyRow, Cond.code yX4_copyRow cX4_copyRow 2 none, Cond.methodLink RX4 229 Lib.Math.min.name, Cond.static Lib.Math.min.name]
def wsX4_isIdle_r2 : List Cond := [Cond.initialized "java/lang/Math", Cond.code Lib.Math.min.name Lib.Math.min.code 2 (some .int), Cond.methodLink RX4 232 arraycopyName, Cond.native arraycopyName, Cond.static arraycopyName, Cond.initialized "java/lang/System", Cond.methodLink RX4 68 yX2_remove, Cond.instanceMethod yX2_remove, Cond.selects RX2 yX2_remove yX2_remove, Cond.code yX2_remove cX2_remove 2 none, Cond.methodLink RX2 42 yX2_has, Cond.instanceMethod yX2_has, Cond.selects RX2 yX2_has yX2_has, Cond.code yX2_has cX2_has 2 (some .boolean), Cond.static yX4_closeGap, Cond.code yX4_closeGap cX4_closeGap 3 none, Cond.methodLink RX4 224 Lib.Math.max.name, Cond.static Lib.Math.max.name, Cond.code Lib.Math.max.name Lib.Math.max.code 2 (some .int), Cond.methodLink RX4 146 yX2_triples, Cond.instanceMethod yX2_triples, Cond.selects RX2 yX2_triples yX2_triples, Cond.code yX2_triples cX2_triples 4 (some .int), Cond.methodLink RX2 58 yX2_permittedPairs]
def wsX4_isIdle_r3 : List Cond := [Cond.instanceMethod yX2_permittedPairs, Cond.selects RX2 yX2_permittedPairs yX2_permittedPairs, Cond.code yX2_permittedPairs cX2_permittedPairs 3 (some .int), Cond.methodLink RX2 77 yJ6_bitCount_0f7a4, Cond.static yJ6_bitCount_0f7a4, Cond.initialized RJ6, Cond.code yJ6_bitCount_0f7a4 cJ6_bitCount_0f7a4 1 (some .int), Cond.constant RJ6 265 (1431655765), Cond.constant RJ6 266 (858993459), Cond.constant RJ6 267 (252645135), Cond.methodLink RX2 74 yX2_heldPairsOfSeal, Cond.instanceMethod yX2_heldPairsOfSeal, Cond.selects RX2 yX2_heldPairsOfSeal yX2_heldPairsOfSeal, Cond.code yX2_heldPairsOfSeal cX2_heldPairsOfSeal 4 (some .int), Cond.methodLink RX2 62 yX2_heldPairs, Cond.instanceMethod yX2_heldPairs, Cond.selects RX2 yX2_heldPairs yX2_heldPairs, Cond.code yX2_heldPairs cX2_heldPairs 4 (some .int), Cond.methodLink RX2 82 yX2_lifts, Cond.instanceMethod yX2_lifts, Cond.selects RX2 yX2_lifts yX2_lifts, Cond.code yX2_lifts cX2_lifts 3 (some .boolean)]
def wsX4_isIdle : List Cond := .code yX4_isIdle cX4_isIdle 3 (some .boolean) :: ((wsX4_isIdle_r1 ++ (wsX4_isIdle_r2 ++ wsX4_isIdle_r3)) ++ wsX40 ++ wsX30 ++ wsX20)
def wsX4_firstIdle_r1 : List Cond := [Cond.fieldLink RX4 12 "LayeredCharters" "now" "LLayeredCharters$State;", Cond.fieldLink RX4 52 "LayeredCharters$State" "rules" "LLayeredCharters$Rules;", Cond.fieldLink RX4 55 "LayeredCharters$Rules" "size" "I", Cond.methodLink RX4 146 yX2_triples, Cond.instanceMethod yX2_triples, Cond.selects RX2 yX2_triples yX2_triples, Cond.initialized RX2, Cond.code yX2_triples cX2_triples 4 (some .int), Cond.methodLink RX2 58 yX2_permittedPairs, Cond.instanceMethod yX2_permittedPairs, Cond.selects RX2 yX2_permittedPairs yX2_permittedPairs, Cond.code yX2_permittedPairs cX2_permittedPairs 3 (some .int), Cond.fieldLink RX2 30 "LayeredCharters$Rules" "size" "I", Cond.fieldLink RX2 15 "LayeredCharters$Rules" "kinds" "[I", Cond.fieldLink RX2 27 "LayeredCharters$Rules" "pairs" "[I", Cond.methodLink RX2 77 yJ6_bitCount_0f7a4, Cond.static yJ6_bitCount_0f7a4, Cond.initialized RJ6, Cond.code yJ6_bitCount_0f7a4 cJ6_bitCount_0f7a4 1 (some .int), Cond.constant RJ6 265 (1431655765), Cond.constant RJ6 266 (858993459), Cond.constant RJ6 267 (252645135), Cond.methodLink RX2 74 yX2_heldPairsOfSeal, Cond.instanceMethod yX2_heldPairsOfSeal]
def wsX4_firstIdle_r2 : List Cond := [Cond.selects RX2 yX2_heldPairsOfSeal yX2_heldPairsOfSeal, Cond.code yX2_heldPairsOfSeal cX2_heldPairsOfSeal 4 (some .int), Cond.fieldLink RX2 24 "LayeredCharters$Rules" "seals" "[I", Cond.methodLink RX2 62 yX2_heldPairs, Cond.instanceMethod yX2_heldPairs, Cond.selects RX2 yX2_heldPairs yX2_heldPairs, Cond.code yX2_heldPairs cX2_heldPairs 4 (some .int), Cond.methodLink RX2 82 yX2_lifts, Cond.instanceMethod yX2_lifts, Cond.selects RX2 yX2_lifts yX2_lifts, Cond.code yX2_lifts cX2_lifts 3 (some .boolean), Cond.fieldLink RX2 11 "LayeredCharters$Rules" "layers" "[I", Cond.methodLink RX4 149 yX4_isIdle, Cond.instanceMethod yX4_isIdle, Cond.selects RX4 yX4_isIdle yX4_isIdle, Cond.initialized RX4, Cond.code yX4_isIdle cX4_isIdle 3 (some .boolean), Cond.methodLink RX4 195 yX4_triplesWithout, Cond.instanceMethod yX4_triplesWithout, Cond.selects RX4 yX4_triplesWithout yX4_triplesWithout, Cond.code yX4_triplesWithout cX4_triplesWithout 2 (some .int), Cond.fieldLink RX4 37 "LayeredCharters" "trial" "LLayeredCharters$Rules;", Cond.methodLink RX4 219 yX2_copyFrom, Cond.instanceMethod yX2_copyFrom]
def wsX4_firstIdle_r3 : List Cond := [Cond.selects RX2 yX2_copyFrom yX2_copyFrom, Cond.code yX2_copyFrom cX2_copyFrom 2 none, Cond.fieldLink RX2 18 "LayeredCharters$Rules" "crafts" "[I", Cond.fieldLink RX2 21 "LayeredCharters$Rules" "deeds" "[I", Cond.static yX4_copyRow, Cond.code yX4_copyRow cX4_copyRow 2 none, Cond.methodLink RX4 229 Lib.Math.min.name, Cond.static Lib.Math.min.name, Cond.initialized "java/lang/Math", Cond.code Lib.Math.min.name Lib.Math.min.code 2 (some .int), Cond.methodLink RX4 232 arraycopyName, Cond.native arraycopyName, Cond.static arraycopyName, Cond.initialized "java/lang/System", Cond.methodLink RX4 68 yX2_remove, Cond.instanceMethod yX2_remove, Cond.selects RX2 yX2_remove yX2_remove, Cond.code yX2_remove cX2_remove 2 none, Cond.methodLink RX2 42 yX2_has, Cond.instanceMethod yX2_has, Cond.selects RX2 yX2_has yX2_has, Cond.code yX2_has cX2_has 2 (some .boolean), Cond.static yX4_closeGap, Cond.code yX4_closeGap cX4_closeGap 3 none]
def wsX4_firstIdle_r4 : List Cond := [Cond.methodLink RX4 224 Lib.Math.max.name, Cond.static Lib.Math.max.name, Cond.code Lib.Math.max.name Lib.Math.max.code 2 (some .int)]
def wsX4_firstIdle : List Cond := .code yX4_firstIdle cX4_firstIdle 3 (some .int) :: ((wsX4_firstIdle_r1 ++ (wsX4_firstIdle_r2 ++ (wsX4_firstIdle_r3 ++ wsX4_firstIdle_r4))) ++ wsX40 ++ wsX30 ++ wsX20)
def wsX4_tidy_r1 : List Cond := [Cond.fieldLink RX4 12 "LayeredCharters" "now" "LLayeredCharters$State;", Cond.fieldLink RX4 52 "LayeredCharters$State" "rules" "LLayeredCharters$Rules;", Cond.methodLink RX4 58 yX4_remember, Cond.instanceMethod yX4_remember, Cond.selects RX4 yX4_remember yX4_remember, Cond.initialized RX4, Cond.code yX4_remember cX4_remember 1 none, Cond.fieldLink RX4 30 "LayeredCharters" "remembered" "I", Cond.fieldLink RX4 27 "LayeredCharters" "history" "[LLayeredCharters$State;", Cond.methodLink RX4 216 yX4_dropOldest, Cond.instanceMethod yX4_dropOldest, Cond.selects RX4 yX4_dropOldest yX4_dropOldest, Cond.code yX4_dropOldest cX4_dropOldest 3 none, Cond.methodLink RX4 212 yX4_copyInto, Cond.instanceMethod yX4_copyInto, Cond.selects RX4 yX4_copyInto yX4_copyInto, Cond.code yX4_copyInto cX4_copyInto 3 (some (.object "LayeredCharters$State")), Cond.classLink RX4 9 RX3, Cond.instantiable RX3 2, Cond.initialized RX3, Cond.instanceMethod yX3_init, Cond.code yX3_init cX3_init 1 none, Cond.methodLink RX3 1 objectInit, Cond.instanceMethod objectInit]
def wsX4_tidy_r2 : List Cond := [Cond.code objectInit ⟨#[0xb1]⟩ 1 none, Cond.classLink RX3 7 RX2, Cond.instantiable RX2 7, Cond.initialized RX2, Cond.fieldLink RX3 10 "LayeredCharters$State" "rules" "LLayeredCharters$Rules;", Cond.classLink RX3 16 RX0, Cond.instantiable RX0 7, Cond.initialized RX0, Cond.fieldLink RX3 19 "LayeredCharters$State" "guild" "LLayeredCharters$Guild;", Cond.instanceMethod yX2_init, Cond.code yX2_init cX2_init 1 none, Cond.methodLink RX2 3 objectInit, Cond.arrayClass .int, Cond.fieldLink RX2 11 "LayeredCharters$Rules" "layers" "[I", Cond.fieldLink RX2 15 "LayeredCharters$Rules" "kinds" "[I", Cond.fieldLink RX2 18 "LayeredCharters$Rules" "crafts" "[I", Cond.fieldLink RX2 21 "LayeredCharters$Rules" "deeds" "[I", Cond.fieldLink RX2 24 "LayeredCharters$Rules" "seals" "[I", Cond.fieldLink RX2 27 "LayeredCharters$Rules" "pairs" "[I", Cond.fieldLink RX2 30 "LayeredCharters$Rules" "size" "I", Cond.instanceMethod yX0_init, Cond.code yX0_init cX0_init 1 none, Cond.methodLink RX0 3 objectInit, Cond.fieldLink RX0 9 "LayeredCharters$Guild" "crafts" "[I"]
def wsX4_tidy_r3 : List Cond := [Cond.fieldLink RX0 15 "LayeredCharters$Guild" "ranks" "[I", Cond.fieldLink RX0 18 "LayeredCharters$Guild" "done" "[I", Cond.fieldLink RX0 21 "LayeredCharters$Guild" "refused" "[I", Cond.fieldLink RX0 24 "LayeredCharters$Guild" "refusals" "[I", Cond.fieldLink RX0 27 "LayeredCharters$Guild" "size" "I", Cond.fieldLink RX0 31 "LayeredCharters$Guild" "doneInAll" "I", Cond.methodLink RX4 208 yX3_copyFrom, Cond.instanceMethod yX3_copyFrom, Cond.selects RX3 yX3_copyFrom yX3_copyFrom, Cond.code yX3_copyFrom cX3_copyFrom 2 none, Cond.methodLink RX3 23 yX2_copyFrom, Cond.instanceMethod yX2_copyFrom, Cond.selects RX2 yX2_copyFrom yX2_copyFrom, Cond.code yX2_copyFrom cX2_copyFrom 2 none, Cond.static yX4_copyRow, Cond.code yX4_copyRow cX4_copyRow 2 none, Cond.methodLink RX4 229 Lib.Math.min.name, Cond.static Lib.Math.min.name, Cond.initialized "java/lang/Math", Cond.code Lib.Math.min.name Lib.Math.min.code 2 (some .int), Cond.methodLink RX4 232 arraycopyName, Cond.native arraycopyName, Cond.static arraycopyName, Cond.initialized "java/lang/System"]
def wsX4_tidy_r4 : List Cond := [Cond.methodLink RX3 27 yX0_copyFrom, Cond.instanceMethod yX0_copyFrom, Cond.selects RX0 yX0_copyFrom yX0_copyFrom, Cond.code yX0_copyFrom cX0_copyFrom 2 none, Cond.methodLink RX4 96 yX4_firstIdle, Cond.instanceMethod yX4_firstIdle, Cond.selects RX4 yX4_firstIdle yX4_firstIdle, Cond.code yX4_firstIdle cX4_firstIdle 3 (some .int), Cond.fieldLink RX4 55 "LayeredCharters$Rules" "size" "I", Cond.methodLink RX4 146 yX2_triples, Cond.instanceMethod yX2_triples, Cond.selects RX2 yX2_triples yX2_triples, Cond.code yX2_triples cX2_triples 4 (some .int), Cond.methodLink RX2 58 yX2_permittedPairs, Cond.instanceMethod yX2_permittedPairs, Cond.selects RX2 yX2_permittedPairs yX2_permittedPairs, Cond.code yX2_permittedPairs cX2_permittedPairs 3 (some .int), Cond.methodLink RX2 77 yJ6_bitCount_0f7a4, Cond.static yJ6_bitCount_0f7a4, Cond.initialized RJ6, Cond.code yJ6_bitCount_0f7a4 cJ6_bitCount_0f7a4 1 (some .int), Cond.constant RJ6 265 (1431655765), Cond.constant RJ6 266 (858993459), Cond.constant RJ6 267 (252645135)]
def wsX4_tidy_r5 : List Cond := [Cond.methodLink RX2 74 yX2_heldPairsOfSeal, Cond.instanceMethod yX2_heldPairsOfSeal, Cond.selects RX2 yX2_heldPairsOfSeal yX2_heldPairsOfSeal, Cond.code yX2_heldPairsOfSeal cX2_heldPairsOfSeal 4 (some .int), Cond.methodLink RX2 62 yX2_heldPairs, Cond.instanceMethod yX2_heldPairs, Cond.selects RX2 yX2_heldPairs yX2_heldPairs, Cond.code yX2_heldPairs cX2_heldPairs 4 (some .int), Cond.methodLink RX2 82 yX2_lifts, Cond.instanceMethod yX2_lifts, Cond.selects RX2 yX2_lifts yX2_lifts, Cond.code yX2_lifts cX2_lifts 3 (some .boolean), Cond.methodLink RX4 149 yX4_isIdle, Cond.instanceMethod yX4_isIdle, Cond.selects RX4 yX4_isIdle yX4_isIdle, Cond.code yX4_isIdle cX4_isIdle 3 (some .boolean), Cond.methodLink RX4 195 yX4_triplesWithout, Cond.instanceMethod yX4_triplesWithout, Cond.selects RX4 yX4_triplesWithout yX4_triplesWithout, Cond.code yX4_triplesWithout cX4_triplesWithout 2 (some .int), Cond.fieldLink RX4 37 "LayeredCharters" "trial" "LLayeredCharters$Rules;", Cond.methodLink RX4 219 yX2_copyFrom, Cond.methodLink RX4 68 yX2_remove, Cond.instanceMethod yX2_remove]
def wsX4_tidy_r6 : List Cond := [Cond.selects RX2 yX2_remove yX2_remove, Cond.code yX2_remove cX2_remove 2 none, Cond.methodLink RX2 42 yX2_has, Cond.instanceMethod yX2_has, Cond.selects RX2 yX2_has yX2_has, Cond.code yX2_has cX2_has 2 (some .boolean), Cond.static yX4_closeGap, Cond.code yX4_closeGap cX4_closeGap 3 none, Cond.methodLink RX4 224 Lib.Math.max.name, Cond.static Lib.Math.max.name, Cond.code Lib.Math.max.name Lib.Math.max.code 2 (some .int)]
def wsX4_tidy : List Cond := .code yX4_tidy cX4_tidy 3 (some .int) :: ((wsX4_tidy_r1 ++ (wsX4_tidy_r2 ++ (wsX4_tidy_r3 ++ (wsX4_tidy_r4 ++ (wsX4_tidy_r5 ++ wsX4_tidy_r6))))) ++ wsX40 ++ wsX30 ++ wsX20 ++ wsX00)
def wsX4_isCraft : List Cond := .code yX4_isCraft cX4_isCraft 1 (some .boolean) :: ([.methodLink RX4 45 yX4_isBetween, .static yX4_isBetween, .initialized RX4, .code yX4_isBetween cX4_isBetween 3 (some .boolean)])
def wsX4_isRank : List Cond := .code yX4_isRank cX4_isRank 1 (some .boolean) :: ([.methodLink RX4 45 yX4_isBetween, .static yX4_isBetween, .initialized RX4, .code yX4_isBetween cX4_isBetween 3 (some .boolean)])
def wsX4_join_r1 : List Cond := [Cond.fieldLink RX4 12 "LayeredCharters" "now" "LLayeredCharters$State;", Cond.fieldLink RX4 105 "LayeredCharters$State" "guild" "LLayeredCharters$Guild;", Cond.fieldLink RX4 109 "LayeredCharters$Guild" "size" "I", Cond.methodLink RX4 99 yX4_isCraft, Cond.static yX4_isCraft, Cond.initialized RX4, Cond.code yX4_isCraft cX4_isCraft 1 (some .boolean), Cond.methodLink RX4 45 yX4_isBetween, Cond.static yX4_isBetween, Cond.code yX4_isBetween cX4_isBetween 3 (some .boolean), Cond.methodLink RX4 102 yX4_isRank, Cond.static yX4_isRank, Cond.code yX4_isRank cX4_isRank 1 (some .boolean), Cond.methodLink RX4 58 yX4_remember, Cond.instanceMethod yX4_remember, Cond.selects RX4 yX4_remember yX4_remember, Cond.code yX4_remember cX4_remember 1 none, Cond.fieldLink RX4 30 "LayeredCharters" "remembered" "I", Cond.fieldLink RX4 27 "LayeredCharters" "history" "[LLayeredCharters$State;", Cond.methodLink RX4 216 yX4_dropOldest, Cond.instanceMethod yX4_dropOldest, Cond.selects RX4 yX4_dropOldest yX4_dropOldest, Cond.code yX4_dropOldest cX4_dropOldest 3 none, Cond.methodLink RX4 212 yX4_copyInto]
def wsX4_join_r2 : List Cond := [Cond.instanceMethod yX4_copyInto, Cond.selects RX4 yX4_copyInto yX4_copyInto, Cond.code yX4_copyInto cX4_copyInto 3 (some (.object "LayeredCharters$State")), Cond.classLink RX4 9 RX3, Cond.instantiable RX3 2, Cond.initialized RX3, Cond.instanceMethod yX3_init, Cond.code yX3_init cX3_init 1 none, Cond.methodLink RX3 1 objectInit, Cond.instanceMethod objectInit, Cond.code objectInit ⟨#[0xb1]⟩ 1 none, Cond.classLink RX3 7 RX2, Cond.instantiable RX2 7, Cond.initialized RX2, Cond.fieldLink RX3 10 "LayeredCharters$State" "rules" "LLayeredCharters$Rules;", Cond.classLink RX3 16 RX0, Cond.instantiable RX0 7, Cond.initialized RX0, Cond.fieldLink RX3 19 "LayeredCharters$State" "guild" "LLayeredCharters$Guild;", Cond.instanceMethod yX2_init, Cond.code yX2_init cX2_init 1 none, Cond.methodLink RX2 3 objectInit, Cond.arrayClass .int, Cond.fieldLink RX2 11 "LayeredCharters$Rules" "layers" "[I"]
def wsX4_join_r3 : List Cond := [Cond.fieldLink RX2 15 "LayeredCharters$Rules" "kinds" "[I", Cond.fieldLink RX2 18 "LayeredCharters$Rules" "crafts" "[I", Cond.fieldLink RX2 21 "LayeredCharters$Rules" "deeds" "[I", Cond.fieldLink RX2 24 "LayeredCharters$Rules" "seals" "[I", Cond.fieldLink RX2 27 "LayeredCharters$Rules" "pairs" "[I", Cond.fieldLink RX2 30 "LayeredCharters$Rules" "size" "I", Cond.instanceMethod yX0_init, Cond.code yX0_init cX0_init 1 none, Cond.methodLink RX0 3 objectInit, Cond.fieldLink RX0 9 "LayeredCharters$Guild" "crafts" "[I", Cond.fieldLink RX0 15 "LayeredCharters$Guild" "ranks" "[I", Cond.fieldLink RX0 18 "LayeredCharters$Guild" "done" "[I", Cond.fieldLink RX0 21 "LayeredCharters$Guild" "refused" "[I", Cond.fieldLink RX0 24 "LayeredCharters$Guild" "refusals" "[I", Cond.fieldLink RX0 27 "LayeredCharters$Guild" "size" "I", Cond.fieldLink RX0 31 "LayeredCharters$Guild" "doneInAll" "I", Cond.methodLink RX4 208 yX3_copyFrom, Cond.instanceMethod yX3_copyFrom, Cond.selects RX3 yX3_copyFrom yX3_copyFrom, Cond.code yX3_copyFrom cX3_copyFrom 2 none, Cond.methodLink RX3 23 yX2_copyFrom, Cond.instanceMethod yX2_copyFrom, Cond.selects RX2 yX2_copyFrom yX2_copyFrom, Cond.code yX2_copyFrom cX2_copyFrom 2 none]
def wsX4_join_r4 : List Cond := [Cond.static yX4_copyRow, Cond.code yX4_copyRow cX4_copyRow 2 none, Cond.methodLink RX4 229 Lib.Math.min.name, Cond.static Lib.Math.min.name, Cond.initialized "java/lang/Math", Cond.code Lib.Math.min.name Lib.Math.min.code 2 (some .int), Cond.methodLink RX4 232 arraycopyName, Cond.native arraycopyName, Cond.static arraycopyName, Cond.initialized "java/lang/System", Cond.methodLink RX3 27 yX0_copyFrom, Cond.instanceMethod yX0_copyFrom, Cond.selects RX0 yX0_copyFrom yX0_copyFrom, Cond.code yX0_copyFrom cX0_copyFrom 2 none, Cond.methodLink RX4 112 yX0_append, Cond.instanceMethod yX0_append, Cond.selects RX0 yX0_append yX0_append, Cond.code yX0_append cX0_append 3 none]
def wsX4_join : List Cond := .code yX4_join cX4_join 3 (some .int) :: ((wsX4_join_r1 ++ (wsX4_join_r2 ++ (wsX4_join_r3 ++ wsX4_join_r4))) ++ wsX40 ++ wsX30 ++ wsX00 ++ wsX20)
def wsX4_leave_r1 : List Cond := [Cond.fieldLink RX4 12 "LayeredCharters" "now" "LLayeredCharters$State;", Cond.fieldLink RX4 105 "LayeredCharters$State" "guild" "LLayeredCharters$Guild;", Cond.fieldLink RX4 116 "LayeredCharters$Guild" "done" "[I", Cond.methodLink RX4 115 yX0_has, Cond.instanceMethod yX0_has, Cond.selects RX0 yX0_has yX0_has, Cond.initialized RX0, Cond.code yX0_has cX0_has 2 (some .boolean), Cond.fieldLink RX0 27 "LayeredCharters$Guild" "size" "I", Cond.methodLink RX4 58 yX4_remember, Cond.instanceMethod yX4_remember, Cond.selects RX4 yX4_remember yX4_remember, Cond.initialized RX4, Cond.code yX4_remember cX4_remember 1 none, Cond.fieldLink RX4 30 "LayeredCharters" "remembered" "I", Cond.fieldLink RX4 27 "LayeredCharters" "history" "[LLayeredCharters$State;", Cond.methodLink RX4 216 yX4_dropOldest, Cond.instanceMethod yX4_dropOldest, Cond.selects RX4 yX4_dropOldest yX4_dropOldest, Cond.code yX4_dropOldest cX4_dropOldest 3 none, Cond.methodLink RX4 212 yX4_copyInto, Cond.instanceMethod yX4_copyInto, Cond.selects RX4 yX4_copyInto yX4_copyInto, Cond.code yX4_copyInto cX4_copyInto 3 (some (.object "LayeredCharters$State"))]
def wsX4_leave_r2 : List Cond := [Cond.classLink RX4 9 RX3, Cond.instantiable RX3 2, Cond.initialized RX3, Cond.instanceMethod yX3_init, Cond.code yX3_init cX3_init 1 none, Cond.methodLink RX3 1 objectInit, Cond.instanceMethod objectInit, Cond.code objectInit ⟨#[0xb1]⟩ 1 none, Cond.classLink RX3 7 RX2, Cond.instantiable RX2 7, Cond.initialized RX2, Cond.fieldLink RX3 10 "LayeredCharters$State" "rules" "LLayeredCharters$Rules;", Cond.classLink RX3 16 RX0, Cond.instantiable RX0 7, Cond.fieldLink RX3 19 "LayeredCharters$State" "guild" "LLayeredCharters$Guild;", Cond.instanceMethod yX2_init, Cond.code yX2_init cX2_init 1 none, Cond.methodLink RX2 3 objectInit, Cond.arrayClass .int, Cond.fieldLink RX2 11 "LayeredCharters$Rules" "layers" "[I", Cond.fieldLink RX2 15 "LayeredCharters$Rules" "kinds" "[I", Cond.fieldLink RX2 18 "LayeredCharters$Rules" "crafts" "[I", Cond.fieldLink RX2 21 "LayeredCharters$Rules" "deeds" "[I", Cond.fieldLink RX2 24 "LayeredCharters$Rules" "seals" "[I"]
def wsX4_leave_r3 : List Cond := [Cond.fieldLink RX2 27 "LayeredCharters$Rules" "pairs" "[I", Cond.fieldLink RX2 30 "LayeredCharters$Rules" "size" "I", Cond.instanceMethod yX0_init, Cond.code yX0_init cX0_init 1 none, Cond.methodLink RX0 3 objectInit, Cond.fieldLink RX0 9 "LayeredCharters$Guild" "crafts" "[I", Cond.fieldLink RX0 15 "LayeredCharters$Guild" "ranks" "[I", Cond.fieldLink RX0 18 "LayeredCharters$Guild" "done" "[I", Cond.fieldLink RX0 21 "LayeredCharters$Guild" "refused" "[I", Cond.fieldLink RX0 24 "LayeredCharters$Guild" "refusals" "[I", Cond.fieldLink RX0 31 "LayeredCharters$Guild" "doneInAll" "I", Cond.methodLink RX4 208 yX3_copyFrom, Cond.instanceMethod yX3_copyFrom, Cond.selects RX3 yX3_copyFrom yX3_copyFrom, Cond.code yX3_copyFrom cX3_copyFrom 2 none, Cond.methodLink RX3 23 yX2_copyFrom, Cond.instanceMethod yX2_copyFrom, Cond.selects RX2 yX2_copyFrom yX2_copyFrom, Cond.code yX2_copyFrom cX2_copyFrom 2 none, Cond.static yX4_copyRow, Cond.code yX4_copyRow cX4_copyRow 2 none, Cond.methodLink RX4 229 Lib.Math.min.name, Cond.static Lib.Math.min.name, Cond.initialized "java/lang/Math"]
def wsX4_leave_r4 : List Cond := [Cond.code Lib.Math.min.name Lib.Math.min.code 2 (some .int), Cond.methodLink RX4 232 arraycopyName, Cond.native arraycopyName, Cond.static arraycopyName, Cond.initialized "java/lang/System", Cond.methodLink RX3 27 yX0_copyFrom, Cond.instanceMethod yX0_copyFrom, Cond.selects RX0 yX0_copyFrom yX0_copyFrom, Cond.code yX0_copyFrom cX0_copyFrom 2 none, Cond.methodLink RX4 119 yX0_remove, Cond.instanceMethod yX0_remove, Cond.selects RX0 yX0_remove yX0_remove, Cond.code yX0_remove cX0_remove 2 none, Cond.methodLink RX0 38 yX0_has, Cond.static yX4_closeGap, Cond.code yX4_closeGap cX4_closeGap 3 none, Cond.methodLink RX4 224 Lib.Math.max.name, Cond.static Lib.Math.max.name, Cond.code Lib.Math.max.name Lib.Math.max.code 2 (some .int)]
def wsX4_leave : List Cond := .code yX4_leave cX4_leave 3 (some .int) :: ((wsX4_leave_r1 ++ (wsX4_leave_r2 ++ (wsX4_leave_r3 ++ wsX4_leave_r4))) ++ wsX40 ++ wsX30 ++ wsX00 ++ wsX20)
def wsX4_rank_r1 : List Cond := [Cond.fieldLink RX4 12 "LayeredCharters" "now" "LLayeredCharters$State;", Cond.fieldLink RX4 105 "LayeredCharters$State" "guild" "LLayeredCharters$Guild;", Cond.fieldLink RX4 120 "LayeredCharters$Guild" "ranks" "[I", Cond.methodLink RX4 115 yX0_has, Cond.instanceMethod yX0_has, Cond.selects RX0 yX0_has yX0_has, Cond.initialized RX0, Cond.code yX0_has cX0_has 2 (some .boolean), Cond.fieldLink RX0 27 "LayeredCharters$Guild" "size" "I", Cond.methodLink RX4 102 yX4_isRank, Cond.static yX4_isRank, Cond.initialized RX4, Cond.code yX4_isRank cX4_isRank 1 (some .boolean), Cond.methodLink RX4 45 yX4_isBetween, Cond.static yX4_isBetween, Cond.code yX4_isBetween cX4_isBetween 3 (some .boolean), Cond.methodLink RX4 58 yX4_remember, Cond.instanceMethod yX4_remember, Cond.selects RX4 yX4_remember yX4_remember, Cond.code yX4_remember cX4_remember 1 none, Cond.fieldLink RX4 30 "LayeredCharters" "remembered" "I", Cond.fieldLink RX4 27 "LayeredCharters" "history" "[LLayeredCharters$State;", Cond.methodLink RX4 216 yX4_dropOldest, Cond.instanceMethod yX4_dropOldest]
def wsX4_rank_r2 : List Cond := [Cond.selects RX4 yX4_dropOldest yX4_dropOldest, Cond.code yX4_dropOldest cX4_dropOldest 3 none, Cond.methodLink RX4 212 yX4_copyInto, Cond.instanceMethod yX4_copyInto, Cond.selects RX4 yX4_copyInto yX4_copyInto, Cond.code yX4_copyInto cX4_copyInto 3 (some (.object "LayeredCharters$State")), Cond.classLink RX4 9 RX3, Cond.instantiable RX3 2, Cond.initialized RX3, Cond.instanceMethod yX3_init, Cond.code yX3_init cX3_init 1 none, Cond.methodLink RX3 1 objectInit, Cond.instanceMethod objectInit, Cond.code objectInit ⟨#[0xb1]⟩ 1 none, Cond.classLink RX3 7 RX2, Cond.instantiable RX2 7, Cond.initialized RX2, Cond.fieldLink RX3 10 "LayeredCharters$State" "rules" "LLayeredCharters$Rules;", Cond.classLink RX3 16 RX0, Cond.instantiable RX0 7, Cond.fieldLink RX3 19 "LayeredCharters$State" "guild" "LLayeredCharters$Guild;", Cond.instanceMethod yX2_init, Cond.code yX2_init cX2_init 1 none, Cond.methodLink RX2 3 objectInit]
def wsX4_rank_r3 : List Cond := [Cond.arrayClass .int, Cond.fieldLink RX2 11 "LayeredCharters$Rules" "layers" "[I", Cond.fieldLink RX2 15 "LayeredCharters$Rules" "kinds" "[I", Cond.fieldLink RX2 18 "LayeredCharters$Rules" "crafts" "[I", Cond.fieldLink RX2 21 "LayeredCharters$Rules" "deeds" "[I", Cond.fieldLink RX2 24 "LayeredCharters$Rules" "seals" "[I", Cond.fieldLink RX2 27 "LayeredCharters$Rules" "pairs" "[I", Cond.fieldLink RX2 30 "LayeredCharters$Rules" "size" "I", Cond.instanceMethod yX0_init, Cond.code yX0_init cX0_init 1 none, Cond.methodLink RX0 3 objectInit, Cond.fieldLink RX0 9 "LayeredCharters$Guild" "crafts" "[I", Cond.fieldLink RX0 15 "LayeredCharters$Guild" "ranks" "[I", Cond.fieldLink RX0 18 "LayeredCharters$Guild" "done" "[I", Cond.fieldLink RX0 21 "LayeredCharters$Guild" "refused" "[I", Cond.fieldLink RX0 24 "LayeredCharters$Guild" "refusals" "[I", Cond.fieldLink RX0 31 "LayeredCharters$Guild" "doneInAll" "I", Cond.methodLink RX4 208 yX3_copyFrom, Cond.instanceMethod yX3_copyFrom, Cond.selects RX3 yX3_copyFrom yX3_copyFrom, Cond.code yX3_copyFrom cX3_copyFrom 2 none, Cond.methodLink RX3 23 yX2_copyFrom, Cond.instanceMethod yX2_copyFrom, Cond.selects RX2 yX2_copyFrom yX2_copyFrom]
def wsX4_rank_r4 : List Cond := [Cond.code yX2_copyFrom cX2_copyFrom 2 none, Cond.static yX4_copyRow, Cond.code yX4_copyRow cX4_copyRow 2 none, Cond.methodLink RX4 229 Lib.Math.min.name, Cond.static Lib.Math.min.name, Cond.initialized "java/lang/Math", Cond.code Lib.Math.min.name Lib.Math.min.code 2 (some .int), Cond.methodLink RX4 232 arraycopyName, Cond.native arraycopyName, Cond.static arraycopyName, Cond.initialized "java/lang/System", Cond.methodLink RX3 27 yX0_copyFrom, Cond.instanceMethod yX0_copyFrom, Cond.selects RX0 yX0_copyFrom yX0_copyFrom, Cond.code yX0_copyFrom cX0_copyFrom 2 none]
def wsX4_rank : List Cond := .code yX4_rank cX4_rank 4 (some .int) :: ((wsX4_rank_r1 ++ (wsX4_rank_r2 ++ (wsX4_rank_r3 ++ wsX4_rank_r4))) ++ wsX40 ++ wsX30 ++ wsX00 ++ wsX20)
def wsX4_isDeed : List Cond := .code yX4_isDeed cX4_isDeed 1 (some .boolean) :: ([.methodLink RX4 45 yX4_isBetween, .static yX4_isBetween, .initialized RX4, .code yX4_isBetween cX4_isBetween 3 (some .boolean)])
def wsX4_act_r1 : List Cond := [Cond.fieldLink RX4 12 "LayeredCharters" "now" "LLayeredCharters$State;", Cond.fieldLink RX4 105 "LayeredCharters$State" "guild" "LLayeredCharters$Guild;", Cond.fieldLink RX4 52 "LayeredCharters$State" "rules" "LLayeredCharters$Rules;", Cond.fieldLink RX4 126 "LayeredCharters$Guild" "crafts" "[I", Cond.fieldLink RX4 120 "LayeredCharters$Guild" "ranks" "[I", Cond.fieldLink RX4 79 "LayeredCharters$Rules" "layers" "[I", Cond.methodLink RX4 115 yX0_has, Cond.instanceMethod yX0_has, Cond.selects RX0 yX0_has yX0_has, Cond.initialized RX0, Cond.code yX0_has cX0_has 2 (some .boolean), Cond.fieldLink RX0 27 "LayeredCharters$Guild" "size" "I", Cond.methodLink RX4 123 yX4_isDeed, Cond.static yX4_isDeed, Cond.initialized RX4, Cond.code yX4_isDeed cX4_isDeed 1 (some .boolean), Cond.methodLink RX4 45 yX4_isBetween, Cond.static yX4_isBetween, Cond.code yX4_isBetween cX4_isBetween 3 (some .boolean), Cond.methodLink RX4 58 yX4_remember, Cond.instanceMethod yX4_remember, Cond.selects RX4 yX4_remember yX4_remember, Cond.code yX4_remember cX4_remember 1 none, Cond.fieldLink RX4 30 "LayeredCharters" "remembered" "I"]
def wsX4_act_r2 : List Cond := [Cond.fieldLink RX4 27 "LayeredCharters" "history" "[LLayeredCharters$State;", Cond.methodLink RX4 216 yX4_dropOldest, Cond.instanceMethod yX4_dropOldest, Cond.selects RX4 yX4_dropOldest yX4_dropOldest, Cond.code yX4_dropOldest cX4_dropOldest 3 none, Cond.methodLink RX4 212 yX4_copyInto, Cond.instanceMethod yX4_copyInto, Cond.selects RX4 yX4_copyInto yX4_copyInto, Cond.code yX4_copyInto cX4_copyInto 3 (some (.object "LayeredCharters$State")), Cond.classLink RX4 9 RX3, Cond.instantiable RX3 2, Cond.initialized RX3, Cond.instanceMethod yX3_init, Cond.code yX3_init cX3_init 1 none, Cond.methodLink RX3 1 objectInit, Cond.instanceMethod objectInit, Cond.code objectInit ⟨#[0xb1]⟩ 1 none, Cond.classLink RX3 7 RX2, Cond.instantiable RX2 7, Cond.initialized RX2, Cond.fieldLink RX3 10 "LayeredCharters$State" "rules" "LLayeredCharters$Rules;", Cond.classLink RX3 16 RX0, Cond.instantiable RX0 7, Cond.fieldLink RX3 19 "LayeredCharters$State" "guild" "LLayeredCharters$Guild;"]
def wsX4_act_r3 : List Cond := [Cond.instanceMethod yX2_init, Cond.code yX2_init cX2_init 1 none, Cond.methodLink RX2 3 objectInit, Cond.arrayClass .int, Cond.fieldLink RX2 11 "LayeredCharters$Rules" "layers" "[I", Cond.fieldLink RX2 15 "LayeredCharters$Rules" "kinds" "[I", Cond.fieldLink RX2 18 "LayeredCharters$Rules" "crafts" "[I", Cond.fieldLink RX2 21 "LayeredCharters$Rules" "deeds" "[I", Cond.fieldLink RX2 24 "LayeredCharters$Rules" "seals" "[I", Cond.fieldLink RX2 27 "LayeredCharters$Rules" "pairs" "[I", Cond.fieldLink RX2 30 "LayeredCharters$Rules" "size" "I", Cond.instanceMethod yX0_init, Cond.code yX0_init cX0_init 1 none, Cond.methodLink RX0 3 objectInit, Cond.fieldLink RX0 9 "LayeredCharters$Guild" "crafts" "[I", Cond.fieldLink RX0 15 "LayeredCharters$Guild" "ranks" "[I", Cond.fieldLink RX0 18 "LayeredCharters$Guild" "done" "[I", Cond.fieldLink RX0 21 "LayeredCharters$Guild" "refused" "[I", Cond.fieldLink RX0 24 "LayeredCharters$Guild" "refusals" "[I", Cond.fieldLink RX0 31 "LayeredCharters$Guild" "doneInAll" "I", Cond.methodLink RX4 208 yX3_copyFrom, Cond.instanceMethod yX3_copyFrom, Cond.selects RX3 yX3_copyFrom yX3_copyFrom, Cond.code yX3_copyFrom cX3_copyFrom 2 none]
def wsX4_act_r4 : List Cond := [Cond.methodLink RX3 23 yX2_copyFrom, Cond.instanceMethod yX2_copyFrom, Cond.selects RX2 yX2_copyFrom yX2_copyFrom, Cond.code yX2_copyFrom cX2_copyFrom 2 none, Cond.static yX4_copyRow, Cond.code yX4_copyRow cX4_copyRow 2 none, Cond.methodLink RX4 229 Lib.Math.min.name, Cond.static Lib.Math.min.name, Cond.initialized "java/lang/Math", Cond.code Lib.Math.min.name Lib.Math.min.code 2 (some .int), Cond.methodLink RX4 232 arraycopyName, Cond.native arraycopyName, Cond.static arraycopyName, Cond.initialized "java/lang/System", Cond.methodLink RX3 27 yX0_copyFrom, Cond.instanceMethod yX0_copyFrom, Cond.selects RX0 yX0_copyFrom yX0_copyFrom, Cond.code yX0_copyFrom cX0_copyFrom 2 none, Cond.methodLink RX4 129 yX4_pairsOf, Cond.static yX4_pairsOf, Cond.code yX4_pairsOf cX4_pairsOf 5 (some .int), Cond.methodLink RX4 133 yX2_reason, Cond.instanceMethod yX2_reason, Cond.selects RX2 yX2_reason yX2_reason]
def wsX4_act_r5 : List Cond := [Cond.code yX2_reason cX2_reason 6 (some .int), Cond.methodLink RX2 58 yX2_permittedPairs, Cond.instanceMethod yX2_permittedPairs, Cond.selects RX2 yX2_permittedPairs yX2_permittedPairs, Cond.code yX2_permittedPairs cX2_permittedPairs 3 (some .int), Cond.methodLink RX2 62 yX2_heldPairs, Cond.instanceMethod yX2_heldPairs, Cond.selects RX2 yX2_heldPairs yX2_heldPairs, Cond.code yX2_heldPairs cX2_heldPairs 4 (some .int), Cond.methodLink RX2 82 yX2_lifts, Cond.instanceMethod yX2_lifts, Cond.selects RX2 yX2_lifts yX2_lifts, Cond.code yX2_lifts cX2_lifts 3 (some .boolean), Cond.methodLink RX4 136 yX0_noteDone, Cond.instanceMethod yX0_noteDone, Cond.selects RX0 yX0_noteDone yX0_noteDone, Cond.code yX0_noteDone cX0_noteDone 2 none, Cond.methodLink RX0 38 yX0_has, Cond.methodLink RX4 65 yX2_has, Cond.instanceMethod yX2_has, Cond.selects RX2 yX2_has yX2_has, Cond.code yX2_has cX2_has 2 (some .boolean), Cond.methodLink RX4 139 yX0_noteRefusal, Cond.instanceMethod yX0_noteRefusal]
def wsX4_act_r6 : List Cond := [Cond.selects RX0 yX0_noteRefusal yX0_noteRefusal, Cond.code yX0_noteRefusal cX0_noteRefusal 3 none]
def wsX4_act : List Cond := .code yX4_act cX4_act 4 (some .int) :: ((wsX4_act_r1 ++ (wsX4_act_r2 ++ (wsX4_act_r3 ++ (wsX4_act_r4 ++ (wsX4_act_r5 ++ wsX4_act_r6))))) ++ wsX40 ++ wsX30 ++ wsX00 ++ wsX20)
def wsX4_rule_r1 : List Cond := [Cond.fieldLink RX4 12 "LayeredCharters" "now" "LLayeredCharters$State;", Cond.fieldLink RX4 52 "LayeredCharters$State" "rules" "LLayeredCharters$Rules;", Cond.fieldLink RX4 79 "LayeredCharters$Rules" "layers" "[I", Cond.fieldLink RX4 76 "LayeredCharters$Rules" "kinds" "[I", Cond.fieldLink RX4 142 "LayeredCharters$Rules" "crafts" "[I", Cond.fieldLink RX4 143 "LayeredCharters$Rules" "deeds" "[I", Cond.fieldLink RX4 72 "LayeredCharters$Rules" "seals" "[I", Cond.fieldLink RX4 157 "LayeredCharters$Rules" "pairs" "[I", Cond.methodLink RX4 65 yX2_has, Cond.instanceMethod yX2_has, Cond.selects RX2 yX2_has yX2_has, Cond.initialized RX2, Cond.code yX2_has cX2_has 2 (some .boolean), Cond.fieldLink RX2 30 "LayeredCharters$Rules" "size" "I", Cond.methodLink RX4 146 yX2_triples, Cond.instanceMethod yX2_triples, Cond.selects RX2 yX2_triples yX2_triples, Cond.code yX2_triples cX2_triples 4 (some .int), Cond.methodLink RX2 58 yX2_permittedPairs, Cond.instanceMethod yX2_permittedPairs, Cond.selects RX2 yX2_permittedPairs yX2_permittedPairs, Cond.code yX2_permittedPairs cX2_permittedPairs 3 (some .int), Cond.fieldLink RX2 15 "LayeredCharters$Rules" "kinds" "[I", Cond.fieldLink RX2 27 "LayeredCharters$Rules" "pairs" "[I"]
def wsX4_rule_r2 : List Cond := [Cond.methodLink RX2 77 yJ6_bitCount_0f7a4, Cond.static yJ6_bitCount_0f7a4, Cond.initialized RJ6, Cond.code yJ6_bitCount_0f7a4 cJ6_bitCount_0f7a4 1 (some .int), Cond.constant RJ6 265 (1431655765), Cond.constant RJ6 266 (858993459), Cond.constant RJ6 267 (252645135), Cond.methodLink RX2 74 yX2_heldPairsOfSeal, Cond.instanceMethod yX2_heldPairsOfSeal, Cond.selects RX2 yX2_heldPairsOfSeal yX2_heldPairsOfSeal, Cond.code yX2_heldPairsOfSeal cX2_heldPairsOfSeal 4 (some .int), Cond.fieldLink RX2 24 "LayeredCharters$Rules" "seals" "[I", Cond.methodLink RX2 62 yX2_heldPairs, Cond.instanceMethod yX2_heldPairs, Cond.selects RX2 yX2_heldPairs yX2_heldPairs, Cond.code yX2_heldPairs cX2_heldPairs 4 (some .int), Cond.methodLink RX2 82 yX2_lifts, Cond.instanceMethod yX2_lifts, Cond.selects RX2 yX2_lifts yX2_lifts, Cond.code yX2_lifts cX2_lifts 3 (some .boolean), Cond.fieldLink RX2 11 "LayeredCharters$Rules" "layers" "[I", Cond.methodLink RX4 149 yX4_isIdle, Cond.instanceMethod yX4_isIdle, Cond.selects RX4 yX4_isIdle yX4_isIdle]
def wsX4_rule_r3 : List Cond := [Cond.initialized RX4, Cond.code yX4_isIdle cX4_isIdle 3 (some .boolean), Cond.methodLink RX4 195 yX4_triplesWithout, Cond.instanceMethod yX4_triplesWithout, Cond.selects RX4 yX4_triplesWithout yX4_triplesWithout, Cond.code yX4_triplesWithout cX4_triplesWithout 2 (some .int), Cond.fieldLink RX4 37 "LayeredCharters" "trial" "LLayeredCharters$Rules;", Cond.methodLink RX4 219 yX2_copyFrom, Cond.instanceMethod yX2_copyFrom, Cond.selects RX2 yX2_copyFrom yX2_copyFrom, Cond.code yX2_copyFrom cX2_copyFrom 2 none, Cond.fieldLink RX2 18 "LayeredCharters$Rules" "crafts" "[I", Cond.fieldLink RX2 21 "LayeredCharters$Rules" "deeds" "[I", Cond.static yX4_copyRow, Cond.code yX4_copyRow cX4_copyRow 2 none, Cond.methodLink RX4 229 Lib.Math.min.name, Cond.static Lib.Math.min.name, Cond.initialized "java/lang/Math", Cond.code Lib.Math.min.name Lib.Math.min.code 2 (some .int), Cond.methodLink RX4 232 arraycopyName, Cond.native arraycopyName, Cond.static arraycopyName, Cond.initialized "java/lang/System", Cond.methodLink RX4 68 yX2_remove]
def wsX4_rule_r4 : List Cond := [Cond.instanceMethod yX2_remove, Cond.selects RX2 yX2_remove yX2_remove, Cond.code yX2_remove cX2_remove 2 none, Cond.methodLink RX2 42 yX2_has, Cond.static yX4_closeGap, Cond.code yX4_closeGap cX4_closeGap 3 none, Cond.methodLink RX4 224 Lib.Math.max.name, Cond.static Lib.Math.max.name, Cond.code Lib.Math.max.name Lib.Math.max.code 2 (some .int), Cond.methodLink RX4 153 yX2_oddsOf, Cond.instanceMethod yX2_oddsOf, Cond.selects RX2 yX2_oddsOf yX2_oddsOf, Cond.code yX2_oddsOf cX2_oddsOf 4 (some .int), Cond.methodLink RX2 50 yX2_areAtOdds, Cond.instanceMethod yX2_areAtOdds, Cond.selects RX2 yX2_areAtOdds yX2_areAtOdds, Cond.code yX2_areAtOdds cX2_areAtOdds 3 (some .boolean), Cond.methodLink RX4 160 yJ6_bitCount_0f7a4]
def wsX4_rule : List Cond := .code yX4_rule cX4_rule 3 (some .int) :: ((wsX4_rule_r1 ++ (wsX4_rule_r2 ++ (wsX4_rule_r3 ++ wsX4_rule_r4))) ++ wsX40 ++ wsX30 ++ wsX20)
def wsX4_deedsAllowed_r1 : List Cond := [Cond.fieldLink RX4 12 "LayeredCharters" "now" "LLayeredCharters$State;", Cond.fieldLink RX4 52 "LayeredCharters$State" "rules" "LLayeredCharters$Rules;", Cond.methodLink RX4 221 yX2_allowedPairs, Cond.instanceMethod yX2_allowedPairs, Cond.selects RX2 yX2_allowedPairs yX2_allowedPairs, Cond.initialized RX2, Cond.code yX2_allowedPairs cX2_allowedPairs 4 (some .int), Cond.methodLink RX2 58 yX2_permittedPairs, Cond.instanceMethod yX2_permittedPairs, Cond.selects RX2 yX2_permittedPairs yX2_permittedPairs, Cond.code yX2_permittedPairs cX2_permittedPairs 3 (some .int), Cond.fieldLink RX2 30 "LayeredCharters$Rules" "size" "I", Cond.fieldLink RX2 15 "LayeredCharters$Rules" "kinds" "[I", Cond.fieldLink RX2 27 "LayeredCharters$Rules" "pairs" "[I", Cond.methodLink RX2 74 yX2_heldPairsOfSeal, Cond.instanceMethod yX2_heldPairsOfSeal, Cond.selects RX2 yX2_heldPairsOfSeal yX2_heldPairsOfSeal, Cond.code yX2_heldPairsOfSeal cX2_heldPairsOfSeal 4 (some .int), Cond.fieldLink RX2 24 "LayeredCharters$Rules" "seals" "[I", Cond.methodLink RX2 62 yX2_heldPairs, Cond.instanceMethod yX2_heldPairs, Cond.selects RX2 yX2_heldPairs yX2_heldPairs, Cond.code yX2_heldPairs cX2_heldPairs 4 (some .int), Cond.methodLink RX2 82 yX2_lifts]
def wsX4_deedsAllowed_r2 : List Cond := [Cond.instanceMethod yX2_lifts, Cond.selects RX2 yX2_lifts yX2_lifts, Cond.code yX2_lifts cX2_lifts 3 (some .boolean), Cond.fieldLink RX2 11 "LayeredCharters$Rules" "layers" "[I"]
def wsX4_deedsAllowed : List Cond := .code yX4_deedsAllowed cX4_deedsAllowed 3 (some .int) :: ((wsX4_deedsAllowed_r1 ++ wsX4_deedsAllowed_r2) ++ wsX40 ++ wsX30 ++ wsX20)
def wsX4_member_r1 : List Cond := [Cond.fieldLink RX4 12 "LayeredCharters" "now" "LLayeredCharters$State;", Cond.fieldLink RX4 105 "LayeredCharters$State" "guild" "LLayeredCharters$Guild;", Cond.fieldLink RX4 126 "LayeredCharters$Guild" "crafts" "[I", Cond.fieldLink RX4 120 "LayeredCharters$Guild" "ranks" "[I", Cond.fieldLink RX4 116 "LayeredCharters$Guild" "done" "[I", Cond.fieldLink RX4 168 "LayeredCharters$Guild" "refused" "[I", Cond.methodLink RX4 115 yX0_has, Cond.instanceMethod yX0_has, Cond.selects RX0 yX0_has yX0_has, Cond.initialized RX0, Cond.code yX0_has cX0_has 2 (some .boolean), Cond.fieldLink RX0 27 "LayeredCharters$Guild" "size" "I", Cond.methodLink RX4 165 yX4_deedsAllowed, Cond.instanceMethod yX4_deedsAllowed, Cond.selects RX4 yX4_deedsAllowed yX4_deedsAllowed, Cond.initialized RX4, Cond.code yX4_deedsAllowed cX4_deedsAllowed 3 (some .int), Cond.fieldLink RX4 52 "LayeredCharters$State" "rules" "LLayeredCharters$Rules;", Cond.methodLink RX4 221 yX2_allowedPairs, Cond.instanceMethod yX2_allowedPairs, Cond.selects RX2 yX2_allowedPairs yX2_allowedPairs, Cond.initialized RX2, Cond.code yX2_allowedPairs cX2_allowedPairs 4 (some .int), Cond.methodLink RX2 58 yX2_permittedPairs]
def wsX4_member_r2 : List Cond := [Cond.instanceMethod yX2_permittedPairs, Cond.selects RX2 yX2_permittedPairs yX2_permittedPairs, Cond.code yX2_permittedPairs cX2_permittedPairs 3 (some .int), Cond.fieldLink RX2 30 "LayeredCharters$Rules" "size" "I", Cond.fieldLink RX2 15 "LayeredCharters$Rules" "kinds" "[I", Cond.fieldLink RX2 27 "LayeredCharters$Rules" "pairs" "[I", Cond.methodLink RX2 74 yX2_heldPairsOfSeal, Cond.instanceMethod yX2_heldPairsOfSeal, Cond.selects RX2 yX2_heldPairsOfSeal yX2_heldPairsOfSeal, Cond.code yX2_heldPairsOfSeal cX2_heldPairsOfSeal 4 (some .int), Cond.fieldLink RX2 24 "LayeredCharters$Rules" "seals" "[I", Cond.methodLink RX2 62 yX2_heldPairs, Cond.instanceMethod yX2_heldPairs, Cond.selects RX2 yX2_heldPairs yX2_heldPairs, Cond.code yX2_heldPairs cX2_heldPairs 4 (some .int), Cond.methodLink RX2 82 yX2_lifts, Cond.instanceMethod yX2_lifts, Cond.selects RX2 yX2_lifts yX2_lifts, Cond.code yX2_lifts cX2_lifts 3 (some .boolean), Cond.fieldLink RX2 11 "LayeredCharters$Rules" "layers" "[I"]
def wsX4_member : List Cond := .code yX4_member cX4_member 3 (some .int) :: ((wsX4_member_r1 ++ wsX4_member_r2) ++ wsX40 ++ wsX30 ++ wsX00 ++ wsX20)
def wsX4_allowed_r1 : List Cond := [Cond.fieldLink RX4 12 "LayeredCharters" "now" "LLayeredCharters$State;", Cond.fieldLink RX4 52 "LayeredCharters$State" "rules" "LLayeredCharters$Rules;", Cond.methodLink RX4 99 yX4_isCraft, Cond.static yX4_isCraft, Cond.initialized RX4, Cond.code yX4_isCraft cX4_isCraft 1 (some .boolean), Cond.methodLink RX4 45 yX4_isBetween, Cond.static yX4_isBetween, Cond.code yX4_isBetween cX4_isBetween 3 (some .boolean), Cond.methodLink RX4 123 yX4_isDeed, Cond.static yX4_isDeed, Cond.code yX4_isDeed cX4_isDeed 1 (some .boolean), Cond.methodLink RX4 102 yX4_isRank, Cond.static yX4_isRank, Cond.code yX4_isRank cX4_isRank 1 (some .boolean), Cond.methodLink RX4 129 yX4_pairsOf, Cond.static yX4_pairsOf, Cond.code yX4_pairsOf cX4_pairsOf 5 (some .int), Cond.methodLink RX4 171 yX2_allowsByLayers, Cond.instanceMethod yX2_allowsByLayers, Cond.selects RX2 yX2_allowsByLayers yX2_allowsByLayers, Cond.initialized RX2, Cond.code yX2_allowsByLayers cX2_allowsByLayers 5 (some .boolean), Cond.methodLink RX2 69 Lib.Math.max.name]
def wsX4_allowed_r2 : List Cond := [Cond.static Lib.Math.max.name, Cond.initialized "java/lang/Math", Cond.code Lib.Math.max.name Lib.Math.max.code 2 (some .int), Cond.methodLink RX2 58 yX2_permittedPairs, Cond.instanceMethod yX2_permittedPairs, Cond.selects RX2 yX2_permittedPairs yX2_permittedPairs, Cond.code yX2_permittedPairs cX2_permittedPairs 3 (some .int), Cond.fieldLink RX2 30 "LayeredCharters$Rules" "size" "I", Cond.fieldLink RX2 15 "LayeredCharters$Rules" "kinds" "[I", Cond.fieldLink RX2 27 "LayeredCharters$Rules" "pairs" "[I", Cond.methodLink RX2 65 yX2_strongest, Cond.instanceMethod yX2_strongest, Cond.selects RX2 yX2_strongest yX2_strongest, Cond.code yX2_strongest cX2_strongest 6 (some .int), Cond.fieldLink RX2 11 "LayeredCharters$Rules" "layers" "[I", Cond.fieldLink RX2 24 "LayeredCharters$Rules" "seals" "[I", Cond.methodLink RX4 133 yX2_reason, Cond.instanceMethod yX2_reason, Cond.selects RX2 yX2_reason yX2_reason, Cond.code yX2_reason cX2_reason 6 (some .int), Cond.methodLink RX2 62 yX2_heldPairs, Cond.instanceMethod yX2_heldPairs, Cond.selects RX2 yX2_heldPairs yX2_heldPairs, Cond.code yX2_heldPairs cX2_heldPairs 4 (some .int)]
def wsX4_allowed_r3 : List Cond := [Cond.methodLink RX2 82 yX2_lifts, Cond.instanceMethod yX2_lifts, Cond.selects RX2 yX2_lifts yX2_lifts, Cond.code yX2_lifts cX2_lifts 3 (some .boolean)]
def wsX4_allowed : List Cond := .code yX4_allowed cX4_allowed 7 (some .int) :: ((wsX4_allowed_r1 ++ (wsX4_allowed_r2 ++ wsX4_allowed_r3)) ++ wsX40 ++ wsX30 ++ wsX20)
def wsX4_why_r1 : List Cond := [Cond.fieldLink RX4 12 "LayeredCharters" "now" "LLayeredCharters$State;", Cond.fieldLink RX4 52 "LayeredCharters$State" "rules" "LLayeredCharters$Rules;", Cond.methodLink RX4 99 yX4_isCraft, Cond.static yX4_isCraft, Cond.initialized RX4, Cond.code yX4_isCraft cX4_isCraft 1 (some .boolean), Cond.methodLink RX4 45 yX4_isBetween, Cond.static yX4_isBetween, Cond.code yX4_isBetween cX4_isBetween 3 (some .boolean), Cond.methodLink RX4 123 yX4_isDeed, Cond.static yX4_isDeed, Cond.code yX4_isDeed cX4_isDeed 1 (some .boolean), Cond.methodLink RX4 102 yX4_isRank, Cond.static yX4_isRank, Cond.code yX4_isRank cX4_isRank 1 (some .boolean), Cond.methodLink RX4 129 yX4_pairsOf, Cond.static yX4_pairsOf, Cond.code yX4_pairsOf cX4_pairsOf 5 (some .int), Cond.methodLink RX4 133 yX2_reason, Cond.instanceMethod yX2_reason, Cond.selects RX2 yX2_reason yX2_reason, Cond.initialized RX2, Cond.code yX2_reason cX2_reason 6 (some .int), Cond.fieldLink RX2 30 "LayeredCharters$Rules" "size" "I"]
def wsX4_why_r2 : List Cond := [Cond.fieldLink RX2 15 "LayeredCharters$Rules" "kinds" "[I", Cond.fieldLink RX2 24 "LayeredCharters$Rules" "seals" "[I", Cond.fieldLink RX2 11 "LayeredCharters$Rules" "layers" "[I", Cond.methodLink RX2 58 yX2_permittedPairs, Cond.instanceMethod yX2_permittedPairs, Cond.selects RX2 yX2_permittedPairs yX2_permittedPairs, Cond.code yX2_permittedPairs cX2_permittedPairs 3 (some .int), Cond.fieldLink RX2 27 "LayeredCharters$Rules" "pairs" "[I", Cond.methodLink RX2 62 yX2_heldPairs, Cond.instanceMethod yX2_heldPairs, Cond.selects RX2 yX2_heldPairs yX2_heldPairs, Cond.code yX2_heldPairs cX2_heldPairs 4 (some .int), Cond.methodLink RX2 82 yX2_lifts, Cond.instanceMethod yX2_lifts, Cond.selects RX2 yX2_lifts yX2_lifts, Cond.code yX2_lifts cX2_lifts 3 (some .boolean)]
def wsX4_why : List Cond := .code yX4_why cX4_why 4 (some .int) :: ((wsX4_why_r1 ++ wsX4_why_r2) ++ wsX40 ++ wsX30 ++ wsX20)
def wsX4_idleRules_r1 : List Cond := [Cond.fieldLink RX4 12 "LayeredCharters" "now" "LLayeredCharters$State;", Cond.fieldLink RX4 52 "LayeredCharters$State" "rules" "LLayeredCharters$Rules;", Cond.fieldLink RX4 55 "LayeredCharters$Rules" "size" "I", Cond.methodLink RX4 146 yX2_triples, Cond.instanceMethod yX2_triples, Cond.selects RX2 yX2_triples yX2_triples, Cond.initialized RX2, Cond.code yX2_triples cX2_triples 4 (some .int), Cond.methodLink RX2 58 yX2_permittedPairs, Cond.instanceMethod yX2_permittedPairs, Cond.selects RX2 yX2_permittedPairs yX2_permittedPairs, Cond.code yX2_permittedPairs cX2_permittedPairs 3 (some .int), Cond.fieldLink RX2 30 "LayeredCharters$Rules" "size" "I", Cond.fieldLink RX2 15 "LayeredCharters$Rules" "kinds" "[I", Cond.fieldLink RX2 27 "LayeredCharters$Rules" "pairs" "[I", Cond.methodLink RX2 77 yJ6_bitCount_0f7a4, Cond.static yJ6_bitCount_0f7a4, Cond.initialized RJ6, Cond.code yJ6_bitCount_0f7a4 cJ6_bitCount_0f7a4 1 (some .int), Cond.constant RJ6 265 (1431655765), Cond.constant RJ6 266 (858993459), Cond.constant RJ6 267 (252645135), Cond.methodLink RX2 74 yX2_heldPairsOfSeal, Cond.instanceMethod yX2_heldPairsOfSeal]
def wsX4_idleRules_r2 : List Cond := [Cond.selects RX2 yX2_heldPairsOfSeal yX2_heldPairsOfSeal, Cond.code yX2_heldPairsOfSeal cX2_heldPairsOfSeal 4 (some .int), Cond.fieldLink RX2 24 "LayeredCharters$Rules" "seals" "[I", Cond.methodLink RX2 62 yX2_heldPairs, Cond.instanceMethod yX2_heldPairs, Cond.selects RX2 yX2_heldPairs yX2_heldPairs, Cond.code yX2_heldPairs cX2_heldPairs 4 (some .int), Cond.methodLink RX2 82 yX2_lifts, Cond.instanceMethod yX2_lifts, Cond.selects RX2 yX2_lifts yX2_lifts, Cond.code yX2_lifts cX2_lifts 3 (some .boolean), Cond.fieldLink RX2 11 "LayeredCharters$Rules" "layers" "[I", Cond.methodLink RX4 149 yX4_isIdle, Cond.instanceMethod yX4_isIdle, Cond.selects RX4 yX4_isIdle yX4_isIdle, Cond.initialized RX4, Cond.code yX4_isIdle cX4_isIdle 3 (some .boolean), Cond.methodLink RX4 195 yX4_triplesWithout, Cond.instanceMethod yX4_triplesWithout, Cond.selects RX4 yX4_triplesWithout yX4_triplesWithout, Cond.code yX4_triplesWithout cX4_triplesWithout 2 (some .int), Cond.fieldLink RX4 37 "LayeredCharters" "trial" "LLayeredCharters$Rules;", Cond.methodLink RX4 219 yX2_copyFrom, Cond.instanceMethod yX2_copyFrom]
def wsX4_idleRules_r3 : List Cond := [Cond.selects RX2 yX2_copyFrom yX2_copyFrom, Cond.code yX2_copyFrom cX2_copyFrom 2 none, Cond.fieldLink RX2 18 "LayeredCharters$Rules" "crafts" "[I", Cond.fieldLink RX2 21 "LayeredCharters$Rules" "deeds" "[I", Cond.static yX4_copyRow, Cond.code yX4_copyRow cX4_copyRow 2 none, Cond.methodLink RX4 229 Lib.Math.min.name, Cond.static Lib.Math.min.name, Cond.initialized "java/lang/Math", Cond.code Lib.Math.min.name Lib.Math.min.code 2 (some .int), Cond.methodLink RX4 232 arraycopyName, Cond.native arraycopyName, Cond.static arraycopyName, Cond.initialized "java/lang/System", Cond.methodLink RX4 68 yX2_remove, Cond.instanceMethod yX2_remove, Cond.selects RX2 yX2_remove yX2_remove, Cond.code yX2_remove cX2_remove 2 none, Cond.methodLink RX2 42 yX2_has, Cond.instanceMethod yX2_has, Cond.selects RX2 yX2_has yX2_has, Cond.code yX2_has cX2_has 2 (some .boolean), Cond.static yX4_closeGap, Cond.code yX4_closeGap cX4_closeGap 3 none]
def wsX4_idleRules_r4 : List Cond := [Cond.methodLink RX4 224 Lib.Math.max.name, Cond.static Lib.Math.max.name, Cond.code Lib.Math.max.name Lib.Math.max.code 2 (some .int)]
def wsX4_idleRules : List Cond := .code yX4_idleRules cX4_idleRules 4 (some .int) :: ((wsX4_idleRules_r1 ++ (wsX4_idleRules_r2 ++ (wsX4_idleRules_r3 ++ wsX4_idleRules_r4))) ++ wsX40 ++ wsX30 ++ wsX20)
def wsX4_count_r1 : List Cond := [Cond.fieldLink RX4 12 "LayeredCharters" "now" "LLayeredCharters$State;", Cond.fieldLink RX4 52 "LayeredCharters$State" "rules" "LLayeredCharters$Rules;", Cond.fieldLink RX4 55 "LayeredCharters$Rules" "size" "I", Cond.fieldLink RX4 105 "LayeredCharters$State" "guild" "LLayeredCharters$Guild;", Cond.fieldLink RX4 109 "LayeredCharters$Guild" "size" "I", Cond.fieldLink RX4 183 "LayeredCharters$Guild" "doneInAll" "I", Cond.fieldLink RX4 19 "LayeredCharters" "pad" "LLayeredCharters$Pad;", Cond.fieldLink RX4 189 "LayeredCharters$Pad" "length" "I", Cond.fieldLink RX4 30 "LayeredCharters" "remembered" "I", Cond.methodLink RX4 174 yX2_sizeOfKind, Cond.instanceMethod yX2_sizeOfKind, Cond.selects RX2 yX2_sizeOfKind yX2_sizeOfKind, Cond.initialized RX2, Cond.code yX2_sizeOfKind cX2_sizeOfKind 4 (some .int), Cond.fieldLink RX2 30 "LayeredCharters$Rules" "size" "I", Cond.fieldLink RX2 15 "LayeredCharters$Rules" "kinds" "[I", Cond.methodLink RX4 177 yX4_idleRules, Cond.instanceMethod yX4_idleRules, Cond.selects RX4 yX4_idleRules yX4_idleRules, Cond.initialized RX4, Cond.code yX4_idleRules cX4_idleRules 4 (some .int), Cond.methodLink RX4 146 yX2_triples, Cond.instanceMethod yX2_triples, Cond.selects RX2 yX2_triples yX2_triples]
def wsX4_count_r2 : List Cond := [Cond.code yX2_triples cX2_triples 4 (some .int), Cond.methodLink RX2 58 yX2_permittedPairs, Cond.instanceMethod yX2_permittedPairs, Cond.selects RX2 yX2_permittedPairs yX2_permittedPairs, Cond.code yX2_permittedPairs cX2_permittedPairs 3 (some .int), Cond.fieldLink RX2 27 "LayeredCharters$Rules" "pairs" "[I", Cond.methodLink RX2 77 yJ6_bitCount_0f7a4, Cond.static yJ6_bitCount_0f7a4, Cond.initialized RJ6, Cond.code yJ6_bitCount_0f7a4 cJ6_bitCount_0f7a4 1 (some .int), Cond.constant RJ6 265 (1431655765), Cond.constant RJ6 266 (858993459), Cond.constant RJ6 267 (252645135), Cond.methodLink RX2 74 yX2_heldPairsOfSeal, Cond.instanceMethod yX2_heldPairsOfSeal, Cond.selects RX2 yX2_heldPairsOfSeal yX2_heldPairsOfSeal, Cond.code yX2_heldPairsOfSeal cX2_heldPairsOfSeal 4 (some .int), Cond.fieldLink RX2 24 "LayeredCharters$Rules" "seals" "[I", Cond.methodLink RX2 62 yX2_heldPairs, Cond.instanceMethod yX2_heldPairs, Cond.selects RX2 yX2_heldPairs yX2_heldPairs, Cond.code yX2_heldPairs cX2_heldPairs 4 (some .int), Cond.methodLink RX2 82 yX2_lifts, Cond.instanceMethod yX2_lifts]
def wsX4_count_r3 : List Cond := [Cond.selects RX2 yX2_lifts yX2_lifts, Cond.code yX2_lifts cX2_lifts 3 (some .boolean), Cond.fieldLink RX2 11 "LayeredCharters$Rules" "layers" "[I", Cond.methodLink RX4 149 yX4_isIdle, Cond.instanceMethod yX4_isIdle, Cond.selects RX4 yX4_isIdle yX4_isIdle, Cond.code yX4_isIdle cX4_isIdle 3 (some .boolean), Cond.methodLink RX4 195 yX4_triplesWithout, Cond.instanceMethod yX4_triplesWithout, Cond.selects RX4 yX4_triplesWithout yX4_triplesWithout, Cond.code yX4_triplesWithout cX4_triplesWithout 2 (some .int), Cond.fieldLink RX4 37 "LayeredCharters" "trial" "LLayeredCharters$Rules;", Cond.methodLink RX4 219 yX2_copyFrom, Cond.instanceMethod yX2_copyFrom, Cond.selects RX2 yX2_copyFrom yX2_copyFrom, Cond.code yX2_copyFrom cX2_copyFrom 2 none, Cond.fieldLink RX2 18 "LayeredCharters$Rules" "crafts" "[I", Cond.fieldLink RX2 21 "LayeredCharters$Rules" "deeds" "[I", Cond.static yX4_copyRow, Cond.code yX4_copyRow cX4_copyRow 2 none, Cond.methodLink RX4 229 Lib.Math.min.name, Cond.static Lib.Math.min.name, Cond.initialized "java/lang/Math", Cond.code Lib.Math.min.name Lib.Math.min.code 2 (some .int)]
def wsX4_count_r4 : List Cond := [Cond.methodLink RX4 232 arraycopyName, Cond.native arraycopyName, Cond.static arraycopyName, Cond.initialized "java/lang/System", Cond.methodLink RX4 68 yX2_remove, Cond.instanceMethod yX2_remove, Cond.selects RX2 yX2_remove yX2_remove, Cond.code yX2_remove cX2_remove 2 none, Cond.methodLink RX2 42 yX2_has, Cond.instanceMethod yX2_has, Cond.selects RX2 yX2_has yX2_has, Cond.code yX2_has cX2_has 2 (some .boolean), Cond.static yX4_closeGap, Cond.code yX4_closeGap cX4_closeGap 3 none, Cond.methodLink RX4 224 Lib.Math.max.name, Cond.static Lib.Math.max.name, Cond.code Lib.Math.max.name Lib.Math.max.code 2 (some .int), Cond.methodLink RX4 180 yX2_oddPairs, Cond.instanceMethod yX2_oddPairs, Cond.selects RX2 yX2_oddPairs yX2_oddPairs, Cond.code yX2_oddPairs cX2_oddPairs 3 (some .int), Cond.methodLink RX2 54 yX2_oddsOf, Cond.instanceMethod yX2_oddsOf, Cond.selects RX2 yX2_oddsOf yX2_oddsOf]
def wsX4_count_r5 : List Cond := [Cond.code yX2_oddsOf cX2_oddsOf 4 (some .int), Cond.methodLink RX2 50 yX2_areAtOdds, Cond.instanceMethod yX2_areAtOdds, Cond.selects RX2 yX2_areAtOdds yX2_areAtOdds, Cond.code yX2_areAtOdds cX2_areAtOdds 3 (some .boolean), Cond.methodLink RX4 186 yX0_refusalsOf, Cond.instanceMethod yX0_refusalsOf, Cond.selects RX0 yX0_refusalsOf yX0_refusalsOf, Cond.initialized RX0, Cond.code yX0_refusalsOf cX0_refusalsOf 2 (some .int), Cond.fieldLink RX0 24 "LayeredCharters$Guild" "refusals" "[I", Cond.static yX4_isBetween, Cond.code yX4_isBetween cX4_isBetween 3 (some .boolean)]
def wsX4_count : List Cond := .code yX4_count cX4_count 2 (some .int) :: ((wsX4_count_r1 ++ (wsX4_count_r2 ++ (wsX4_count_r3 ++ (wsX4_count_r4 ++ wsX4_count_r5)))) ++ wsX40 ++ wsX30 ++ wsX20 ++ wsX00 ++ wsX10)
def wsX4_leastRank_r1 : List Cond := [Cond.fieldLink RX4 12 "LayeredCharters" "now" "LLayeredCharters$State;", Cond.fieldLink RX4 52 "LayeredCharters$State" "rules" "LLayeredCharters$Rules;", Cond.methodLink RX4 99 yX4_isCraft, Cond.static yX4_isCraft, Cond.initialized RX4, Cond.code yX4_isCraft cX4_isCraft 1 (some .boolean), Cond.methodLink RX4 45 yX4_isBetween, Cond.static yX4_isBetween, Cond.code yX4_isBetween cX4_isBetween 3 (some .boolean), Cond.methodLink RX4 123 yX4_isDeed, Cond.static yX4_isDeed, Cond.code yX4_isDeed cX4_isDeed 1 (some .boolean), Cond.methodLink RX4 129 yX4_pairsOf, Cond.static yX4_pairsOf, Cond.code yX4_pairsOf cX4_pairsOf 5 (some .int), Cond.methodLink RX4 192 yX2_leastRankFor, Cond.instanceMethod yX2_leastRankFor, Cond.selects RX2 yX2_leastRankFor yX2_leastRankFor, Cond.initialized RX2, Cond.code yX2_leastRankFor cX2_leastRankFor 3 (some .int), Cond.methodLink RX2 58 yX2_permittedPairs, Cond.instanceMethod yX2_permittedPairs, Cond.selects RX2 yX2_permittedPairs yX2_permittedPairs, Cond.code yX2_permittedPairs cX2_permittedPairs 3 (some .int)]
def wsX4_leastRank_r2 : List Cond := [Cond.fieldLink RX2 30 "LayeredCharters$Rules" "size" "I", Cond.fieldLink RX2 15 "LayeredCharters$Rules" "kinds" "[I", Cond.fieldLink RX2 27 "LayeredCharters$Rules" "pairs" "[I", Cond.methodLink RX2 74 yX2_heldPairsOfSeal, Cond.instanceMethod yX2_heldPairsOfSeal, Cond.selects RX2 yX2_heldPairsOfSeal yX2_heldPairsOfSeal, Cond.code yX2_heldPairsOfSeal cX2_heldPairsOfSeal 4 (some .int), Cond.fieldLink RX2 24 "LayeredCharters$Rules" "seals" "[I", Cond.methodLink RX2 62 yX2_heldPairs, Cond.instanceMethod yX2_heldPairs, Cond.selects RX2 yX2_heldPairs yX2_heldPairs, Cond.code yX2_heldPairs cX2_heldPairs 4 (some .int), Cond.methodLink RX2 82 yX2_lifts, Cond.instanceMethod yX2_lifts, Cond.selects RX2 yX2_lifts yX2_lifts, Cond.code yX2_lifts cX2_lifts 3 (some .boolean), Cond.fieldLink RX2 11 "LayeredCharters$Rules" "layers" "[I"]
def wsX4_leastRank : List Cond := .code yX4_leastRank cX4_leastRank 3 (some .int) :: ((wsX4_leastRank_r1 ++ wsX4_leastRank_r2) ++ wsX40 ++ wsX30 ++ wsX20)
def wsX4_ifStruck_r1 : List Cond := [Cond.fieldLink RX4 12 "LayeredCharters" "now" "LLayeredCharters$State;", Cond.fieldLink RX4 52 "LayeredCharters$State" "rules" "LLayeredCharters$Rules;", Cond.methodLink RX4 65 yX2_has, Cond.instanceMethod yX2_has, Cond.selects RX2 yX2_has yX2_has, Cond.initialized RX2, Cond.code yX2_has cX2_has 2 (some .boolean), Cond.fieldLink RX2 30 "LayeredCharters$Rules" "size" "I", Cond.methodLink RX4 195 yX4_triplesWithout, Cond.instanceMethod yX4_triplesWithout, Cond.selects RX4 yX4_triplesWithout yX4_triplesWithout, Cond.initialized RX4, Cond.code yX4_triplesWithout cX4_triplesWithout 2 (some .int), Cond.fieldLink RX4 37 "LayeredCharters" "trial" "LLayeredCharters$Rules;", Cond.methodLink RX4 219 yX2_copyFrom, Cond.instanceMethod yX2_copyFrom, Cond.selects RX2 yX2_copyFrom yX2_copyFrom, Cond.code yX2_copyFrom cX2_copyFrom 2 none, Cond.fieldLink RX2 11 "LayeredCharters$Rules" "layers" "[I", Cond.fieldLink RX2 15 "LayeredCharters$Rules" "kinds" "[I", Cond.fieldLink RX2 18 "LayeredCharters$Rules" "crafts" "[I", Cond.fieldLink RX2 21 "LayeredCharters$Rules" "deeds" "[I", Cond.fieldLink RX2 24 "LayeredCharters$Rules" "seals" "[I", Cond.fieldLink RX2 27 "LayeredCharters$Rules" "pairs" "[I"]
def wsX4_ifStruck_r2 : List Cond := [Cond.static yX4_copyRow, Cond.code yX4_copyRow cX4_copyRow 2 none, Cond.methodLink RX4 229 Lib.Math.min.name, Cond.static Lib.Math.min.name, Cond.initialized "java/lang/Math", Cond.code Lib.Math.min.name Lib.Math.min.code 2 (some .int), Cond.methodLink RX4 232 arraycopyName, Cond.native arraycopyName, Cond.static arraycopyName, Cond.initialized "java/lang/System", Cond.methodLink RX4 68 yX2_remove, Cond.instanceMethod yX2_remove, Cond.selects RX2 yX2_remove yX2_remove, Cond.code yX2_remove cX2_remove 2 none, Cond.methodLink RX2 42 yX2_has, Cond.static yX4_closeGap, Cond.code yX4_closeGap cX4_closeGap 3 none, Cond.methodLink RX4 224 Lib.Math.max.name, Cond.static Lib.Math.max.name, Cond.code Lib.Math.max.name Lib.Math.max.code 2 (some .int), Cond.methodLink RX4 146 yX2_triples, Cond.instanceMethod yX2_triples, Cond.selects RX2 yX2_triples yX2_triples, Cond.code yX2_triples cX2_triples 4 (some .int)]
def wsX4_ifStruck_r3 : List Cond := [Cond.methodLink RX2 58 yX2_permittedPairs, Cond.instanceMethod yX2_permittedPairs, Cond.selects RX2 yX2_permittedPairs yX2_permittedPairs, Cond.code yX2_permittedPairs cX2_permittedPairs 3 (some .int), Cond.methodLink RX2 77 yJ6_bitCount_0f7a4, Cond.static yJ6_bitCount_0f7a4, Cond.initialized RJ6, Cond.code yJ6_bitCount_0f7a4 cJ6_bitCount_0f7a4 1 (some .int), Cond.constant RJ6 265 (1431655765), Cond.constant RJ6 266 (858993459), Cond.constant RJ6 267 (252645135), Cond.methodLink RX2 74 yX2_heldPairsOfSeal, Cond.instanceMethod yX2_heldPairsOfSeal, Cond.selects RX2 yX2_heldPairsOfSeal yX2_heldPairsOfSeal, Cond.code yX2_heldPairsOfSeal cX2_heldPairsOfSeal 4 (some .int), Cond.methodLink RX2 62 yX2_heldPairs, Cond.instanceMethod yX2_heldPairs, Cond.selects RX2 yX2_heldPairs yX2_heldPairs, Cond.code yX2_heldPairs cX2_heldPairs 4 (some .int), Cond.methodLink RX2 82 yX2_lifts, Cond.instanceMethod yX2_lifts, Cond.selects RX2 yX2_lifts yX2_lifts, Cond.code yX2_lifts cX2_lifts 3 (some .boolean)]
def wsX4_ifStruck : List Cond := .code yX4_ifStruck cX4_ifStruck 2 (some .int) :: ((wsX4_ifStruck_r1 ++ (wsX4_ifStruck_r2 ++ wsX4_ifStruck_r3)) ++ wsX40 ++ wsX30 ++ wsX20)
def wsX4_worstBan_r1 : List Cond := [Cond.fieldLink RX4 12 "LayeredCharters" "now" "LLayeredCharters$State;", Cond.fieldLink RX4 52 "LayeredCharters$State" "rules" "LLayeredCharters$Rules;", Cond.fieldLink RX4 55 "LayeredCharters$Rules" "size" "I", Cond.fieldLink RX4 76 "LayeredCharters$Rules" "kinds" "[I", Cond.methodLink RX4 195 yX4_triplesWithout, Cond.instanceMethod yX4_triplesWithout, Cond.selects RX4 yX4_triplesWithout yX4_triplesWithout, Cond.initialized RX4, Cond.code yX4_triplesWithout cX4_triplesWithout 2 (some .int), Cond.fieldLink RX4 37 "LayeredCharters" "trial" "LLayeredCharters$Rules;", Cond.methodLink RX4 219 yX2_copyFrom, Cond.instanceMethod yX2_copyFrom, Cond.selects RX2 yX2_copyFrom yX2_copyFrom, Cond.initialized RX2, Cond.code yX2_copyFrom cX2_copyFrom 2 none, Cond.fieldLink RX2 11 "LayeredCharters$Rules" "layers" "[I", Cond.fieldLink RX2 15 "LayeredCharters$Rules" "kinds" "[I", Cond.fieldLink RX2 18 "LayeredCharters$Rules" "crafts" "[I", Cond.fieldLink RX2 21 "LayeredCharters$Rules" "deeds" "[I", Cond.fieldLink RX2 24 "LayeredCharters$Rules" "seals" "[I", Cond.fieldLink RX2 27 "LayeredCharters$Rules" "pairs" "[I", Cond.fieldLink RX2 30 "LayeredCharters$Rules" "size" "I", Cond.static yX4_copyRow, Cond.code yX4_copyRow cX4_copyRow 2 none]
def wsX4_worstBan_r2 : List Cond := [Cond.methodLink RX4 229 Lib.Math.min.name, Cond.static Lib.Math.min.name, Cond.initialized "java/lang/Math", Cond.code Lib.Math.min.name Lib.Math.min.code 2 (some .int), Cond.methodLink RX4 232 arraycopyName, Cond.native arraycopyName, Cond.static arraycopyName, Cond.initialized "java/lang/System", Cond.methodLink RX4 68 yX2_remove, Cond.instanceMethod yX2_remove, Cond.selects RX2 yX2_remove yX2_remove, Cond.code yX2_remove cX2_remove 2 none, Cond.methodLink RX2 42 yX2_has, Cond.instanceMethod yX2_has, Cond.selects RX2 yX2_has yX2_has, Cond.code yX2_has cX2_has 2 (some .boolean), Cond.static yX4_closeGap, Cond.code yX4_closeGap cX4_closeGap 3 none, Cond.methodLink RX4 224 Lib.Math.max.name, Cond.static Lib.Math.max.name, Cond.code Lib.Math.max.name Lib.Math.max.code 2 (some .int), Cond.methodLink RX4 146 yX2_triples, Cond.instanceMethod yX2_triples, Cond.selects RX2 yX2_triples yX2_triples]
def wsX4_worstBan_r3 : List Cond := [Cond.code yX2_triples cX2_triples 4 (some .int), Cond.methodLink RX2 58 yX2_permittedPairs, Cond.instanceMethod yX2_permittedPairs, Cond.selects RX2 yX2_permittedPairs yX2_permittedPairs, Cond.code yX2_permittedPairs cX2_permittedPairs 3 (some .int), Cond.methodLink RX2 77 yJ6_bitCount_0f7a4, Cond.static yJ6_bitCount_0f7a4, Cond.initialized RJ6, Cond.code yJ6_bitCount_0f7a4 cJ6_bitCount_0f7a4 1 (some .int), Cond.constant RJ6 265 (1431655765), Cond.constant RJ6 266 (858993459), Cond.constant RJ6 267 (252645135), Cond.methodLink RX2 74 yX2_heldPairsOfSeal, Cond.instanceMethod yX2_heldPairsOfSeal, Cond.selects RX2 yX2_heldPairsOfSeal yX2_heldPairsOfSeal, Cond.code yX2_heldPairsOfSeal cX2_heldPairsOfSeal 4 (some .int), Cond.methodLink RX2 62 yX2_heldPairs, Cond.instanceMethod yX2_heldPairs, Cond.selects RX2 yX2_heldPairs yX2_heldPairs, Cond.code yX2_heldPairs cX2_heldPairs 4 (some .int), Cond.methodLink RX2 82 yX2_lifts, Cond.instanceMethod yX2_lifts, Cond.selects RX2 yX2_lifts yX2_lifts, Cond.code yX2_lifts cX2_lifts 3 (some .boolean)]
def wsX4_worstBan : List Cond := .code yX4_worstBan cX4_worstBan 5 (some .int) :: ((wsX4_worstBan_r1 ++ (wsX4_worstBan_r2 ++ wsX4_worstBan_r3)) ++ wsX40 ++ wsX30 ++ wsX20)
def wsX4_triplesWithWaiver_r1 : List Cond := [Cond.fieldLink RX4 37 "LayeredCharters" "trial" "LLayeredCharters$Rules;", Cond.fieldLink RX4 12 "LayeredCharters" "now" "LLayeredCharters$State;", Cond.fieldLink RX4 52 "LayeredCharters$State" "rules" "LLayeredCharters$Rules;", Cond.methodLink RX4 219 yX2_copyFrom, Cond.instanceMethod yX2_copyFrom, Cond.selects RX2 yX2_copyFrom yX2_copyFrom, Cond.initialized RX2, Cond.code yX2_copyFrom cX2_copyFrom 2 none, Cond.fieldLink RX2 11 "LayeredCharters$Rules" "layers" "[I", Cond.fieldLink RX2 15 "LayeredCharters$Rules" "kinds" "[I", Cond.fieldLink RX2 18 "LayeredCharters$Rules" "crafts" "[I", Cond.fieldLink RX2 21 "LayeredCharters$Rules" "deeds" "[I", Cond.fieldLink RX2 24 "LayeredCharters$Rules" "seals" "[I", Cond.fieldLink RX2 27 "LayeredCharters$Rules" "pairs" "[I", Cond.fieldLink RX2 30 "LayeredCharters$Rules" "size" "I", Cond.static yX4_copyRow, Cond.initialized RX4, Cond.code yX4_copyRow cX4_copyRow 2 none, Cond.methodLink RX4 229 Lib.Math.min.name, Cond.static Lib.Math.min.name, Cond.initialized "java/lang/Math", Cond.code Lib.Math.min.name Lib.Math.min.code 2 (some .int), Cond.methodLink RX4 232 arraycopyName, Cond.native arraycopyName]
def wsX4_triplesWithWaiver_r2 : List Cond := [Cond.static arraycopyName, Cond.initialized "java/lang/System", Cond.methodLink RX4 61 yX2_append, Cond.instanceMethod yX2_append, Cond.selects RX2 yX2_append yX2_append, Cond.code yX2_append cX2_append 6 none, Cond.static yX4_pairsOf, Cond.code yX4_pairsOf cX4_pairsOf 5 (some .int), Cond.methodLink RX4 146 yX2_triples, Cond.instanceMethod yX2_triples, Cond.selects RX2 yX2_triples yX2_triples, Cond.code yX2_triples cX2_triples 4 (some .int), Cond.methodLink RX2 58 yX2_permittedPairs, Cond.instanceMethod yX2_permittedPairs, Cond.selects RX2 yX2_permittedPairs yX2_permittedPairs, Cond.code yX2_permittedPairs cX2_permittedPairs 3 (some .int), Cond.methodLink RX2 77 yJ6_bitCount_0f7a4, Cond.static yJ6_bitCount_0f7a4, Cond.initialized RJ6, Cond.code yJ6_bitCount_0f7a4 cJ6_bitCount_0f7a4 1 (some .int), Cond.constant RJ6 265 (1431655765), Cond.constant RJ6 266 (858993459), Cond.constant RJ6 267 (252645135), Cond.methodLink RX2 74 yX2_heldPairsOfSeal]
def wsX4_triplesWithWaiver_r3 : List Cond := [Cond.instanceMethod yX2_heldPairsOfSeal, Cond.selects RX2 yX2_heldPairsOfSeal yX2_heldPairsOfSeal, Cond.code yX2_heldPairsOfSeal cX2_heldPairsOfSeal 4 (some .int), Cond.methodLink RX2 62 yX2_heldPairs, Cond.instanceMethod yX2_heldPairs, Cond.selects RX2 yX2_heldPairs yX2_heldPairs, Cond.code yX2_heldPairs cX2_heldPairs 4 (some .int), Cond.methodLink RX2 82 yX2_lifts, Cond.instanceMethod yX2_lifts, Cond.selects RX2 yX2_lifts yX2_lifts, Cond.code yX2_lifts cX2_lifts 3 (some .boolean)]
def wsX4_triplesWithWaiver : List Cond := .code yX4_triplesWithWaiver cX4_triplesWithWaiver 3 (some .int) :: ((wsX4_triplesWithWaiver_r1 ++ (wsX4_triplesWithWaiver_r2 ++ wsX4_triplesWithWaiver_r3)) ++ wsX40 ++ wsX30 ++ wsX20)
def wsX4_bestWaiver_r1 : List Cond := [Cond.methodLink RX4 49 yX4_isSeal, Cond.static yX4_isSeal, Cond.initialized RX4, Cond.code yX4_isSeal cX4_isSeal 1 (some .boolean), Cond.methodLink RX4 45 yX4_isBetween, Cond.static yX4_isBetween, Cond.code yX4_isBetween cX4_isBetween 3 (some .boolean), Cond.methodLink RX4 198 yX4_triplesWithWaiver, Cond.instanceMethod yX4_triplesWithWaiver, Cond.selects RX4 yX4_triplesWithWaiver yX4_triplesWithWaiver, Cond.code yX4_triplesWithWaiver cX4_triplesWithWaiver 3 (some .int), Cond.fieldLink RX4 37 "LayeredCharters" "trial" "LLayeredCharters$Rules;", Cond.fieldLink RX4 12 "LayeredCharters" "now" "LLayeredCharters$State;", Cond.fieldLink RX4 52 "LayeredCharters$State" "rules" "LLayeredCharters$Rules;", Cond.methodLink RX4 219 yX2_copyFrom, Cond.instanceMethod yX2_copyFrom, Cond.selects RX2 yX2_copyFrom yX2_copyFrom, Cond.initialized RX2, Cond.code yX2_copyFrom cX2_copyFrom 2 none, Cond.fieldLink RX2 11 "LayeredCharters$Rules" "layers" "[I", Cond.fieldLink RX2 15 "LayeredCharters$Rules" "kinds" "[I", Cond.fieldLink RX2 18 "LayeredCharters$Rules" "crafts" "[I", Cond.fieldLink RX2 21 "LayeredCharters$Rules" "deeds" "[I", Cond.fieldLink RX2 24 "LayeredCharters$Rules" "seals" "[I"]
def wsX4_bestWaiver_r2 : List Cond := [Cond.fieldLink RX2 27 "LayeredCharters$Rules" "pairs" "[I", Cond.fieldLink RX2 30 "LayeredCharters$Rules" "size" "I", Cond.static yX4_copyRow, Cond.code yX4_copyRow cX4_copyRow 2 none, Cond.methodLink RX4 229 Lib.Math.min.name, Cond.static Lib.Math.min.name, Cond.initialized "java/lang/Math", Cond.code Lib.Math.min.name Lib.Math.min.code 2 (some .int), Cond.methodLink RX4 232 arraycopyName, Cond.native arraycopyName, Cond.static arraycopyName, Cond.initialized "java/lang/System", Cond.methodLink RX4 61 yX2_append, Cond.instanceMethod yX2_append, Cond.selects RX2 yX2_append yX2_append, Cond.code yX2_append cX2_append 6 none, Cond.static yX4_pairsOf, Cond.code yX4_pairsOf cX4_pairsOf 5 (some .int), Cond.methodLink RX4 146 yX2_triples, Cond.instanceMethod yX2_triples, Cond.selects RX2 yX2_triples yX2_triples, Cond.code yX2_triples cX2_triples 4 (some .int), Cond.methodLink RX2 58 yX2_permittedPairs, Cond.instanceMethod yX2_permittedPairs]
def wsX4_bestWaiver_r3 : List Cond := [Cond.selects RX2 yX2_permittedPairs yX2_permittedPairs, Cond.code yX2_permittedPairs cX2_permittedPairs 3 (some .int), Cond.methodLink RX2 77 yJ6_bitCount_0f7a4, Cond.static yJ6_bitCount_0f7a4, Cond.initialized RJ6, Cond.code yJ6_bitCount_0f7a4 cJ6_bitCount_0f7a4 1 (some .int), Cond.constant RJ6 265 (1431655765), Cond.constant RJ6 266 (858993459), Cond.constant RJ6 267 (252645135), Cond.methodLink RX2 74 yX2_heldPairsOfSeal, Cond.instanceMethod yX2_heldPairsOfSeal, Cond.selects RX2 yX2_heldPairsOfSeal yX2_heldPairsOfSeal, Cond.code yX2_heldPairsOfSeal cX2_heldPairsOfSeal 4 (some .int), Cond.methodLink RX2 62 yX2_heldPairs, Cond.instanceMethod yX2_heldPairs, Cond.selects RX2 yX2_heldPairs yX2_heldPairs, Cond.code yX2_heldPairs cX2_heldPairs 4 (some .int), Cond.methodLink RX2 82 yX2_lifts, Cond.instanceMethod yX2_lifts, Cond.selects RX2 yX2_lifts yX2_lifts, Cond.code yX2_lifts cX2_lifts 3 (some .boolean)]
def wsX4_bestWaiver : List Cond := .code yX4_bestWaiver cX4_bestWaiver 6 (some .int) :: ((wsX4_bestWaiver_r1 ++ (wsX4_bestWaiver_r2 ++ wsX4_bestWaiver_r3)) ++ wsX40 ++ wsX30 ++ wsX20)
def wsX4_undo_r1 : List Cond := [Cond.fieldLink RX4 30 "LayeredCharters" "remembered" "I", Cond.fieldLink RX4 27 "LayeredCharters" "history" "[LLayeredCharters$State;", Cond.fieldLink RX4 12 "LayeredCharters" "now" "LLayeredCharters$State;", Cond.methodLink RX4 45 yX4_isBetween, Cond.static yX4_isBetween, Cond.initialized RX4, Cond.code yX4_isBetween cX4_isBetween 3 (some .boolean), Cond.methodLink RX4 208 yX3_copyFrom, Cond.instanceMethod yX3_copyFrom, Cond.selects RX3 yX3_copyFrom yX3_copyFrom, Cond.initialized RX3, Cond.code yX3_copyFrom cX3_copyFrom 2 none, Cond.fieldLink RX3 10 "LayeredCharters$State" "rules" "LLayeredCharters$Rules;", Cond.fieldLink RX3 19 "LayeredCharters$State" "guild" "LLayeredCharters$Guild;", Cond.methodLink RX3 23 yX2_copyFrom, Cond.instanceMethod yX2_copyFrom, Cond.selects RX2 yX2_copyFrom yX2_copyFrom, Cond.initialized RX2, Cond.code yX2_copyFrom cX2_copyFrom 2 none, Cond.fieldLink RX2 11 "LayeredCharters$Rules" "layers" "[I", Cond.fieldLink RX2 15 "LayeredCharters$Rules" "kinds" "[I", Cond.fieldLink RX2 18 "LayeredCharters$Rules" "crafts" "[I", Cond.fieldLink RX2 21 "LayeredCharters$Rules" "deeds" "[I", Cond.fieldLink RX2 24 "LayeredCharters$Rules" "seals" "[I"]
def wsX4_undo_r2 : List Cond := [Cond.fieldLink RX2 27 "LayeredCharters$Rules" "pairs" "[I", Cond.fieldLink RX2 30 "LayeredCharters$Rules" "size" "I", Cond.static yX4_copyRow, Cond.code yX4_copyRow cX4_copyRow 2 none, Cond.methodLink RX4 229 Lib.Math.min.name, Cond.static Lib.Math.min.name, Cond.initialized "java/lang/Math", Cond.code Lib.Math.min.name Lib.Math.min.code 2 (some .int), Cond.methodLink RX4 232 arraycopyName, Cond.native arraycopyName, Cond.static arraycopyName, Cond.initialized "java/lang/System", Cond.methodLink RX3 27 yX0_copyFrom, Cond.instanceMethod yX0_copyFrom, Cond.selects RX0 yX0_copyFrom yX0_copyFrom, Cond.initialized RX0, Cond.code yX0_copyFrom cX0_copyFrom 2 none, Cond.fieldLink RX0 9 "LayeredCharters$Guild" "crafts" "[I", Cond.fieldLink RX0 15 "LayeredCharters$Guild" "ranks" "[I", Cond.fieldLink RX0 18 "LayeredCharters$Guild" "done" "[I", Cond.fieldLink RX0 21 "LayeredCharters$Guild" "refused" "[I", Cond.fieldLink RX0 24 "LayeredCharters$Guild" "refusals" "[I", Cond.fieldLink RX0 27 "LayeredCharters$Guild" "size" "I", Cond.fieldLink RX0 31 "LayeredCharters$Guild" "doneInAll" "I"]
def wsX4_undo : List Cond := .code yX4_undo cX4_undo 2 (some .int) :: ((wsX4_undo_r1 ++ wsX4_undo_r2) ++ wsX40 ++ wsX30 ++ wsX20 ++ wsX00)
def wsJ9_max_7cf53 : List Cond := .code yJ9_max_7cf53 cJ9_max_7cf53 2 (some .int) :: ([])
def wsJ9_min_7cf53 : List Cond := .code yJ9_min_7cf53 cJ9_min_7cf53 2 (some .int) :: ([])
theorem dX0_init_0 : decode cX0_init 0 = .ok (.aload_n 0, 1) := by decide +kernel
theorem dX0_init_1 : decode cX0_init 1 = .ok (.invokespecial 3, 3) := by decide +kernel
theorem dX0_init_4 : decode cX0_init 4 = .ok (.aload_n 0, 1) := by decide +kernel
theorem dX0_init_5 : decode cX0_init 5 = .ok (.bipush 10, 2) := by decide +kernel
theorem dX0_init_7 : decode cX0_init 7 = .ok (.newarray .int, 2) := by decide +kernel
theorem dX0_init_9 : decode cX0_init 9 = .ok (.putfield 9, 3) := by decide +kernel
theorem dX0_init_12 : decode cX0_init 12 = .ok (.aload_n 0, 1) := by decide +kernel
theorem dX0_init_13 : decode cX0_init 13 = .ok (.bipush 10, 2) := by decide +kernel
theorem dX0_init_15 : decode cX0_init 15 = .ok (.newarray .int, 2) := by decide +kernel
theorem dX0_init_17 : decode cX0_init 17 = .ok (.putfield 15, 3) := by decide +kernel
theorem dX0_init_20 : decode cX0_init 20 = .ok (.aload_n 0, 1) := by decide +kernel
theorem dX0_init_21 : decode cX0_init 21 = .ok (.bipush 10, 2) := by decide +kernel
theorem dX0_init_23 : decode cX0_init 23 = .ok (.newarray .int, 2) := by decide +kernel
theorem dX0_init_25 : decode cX0_init 25 = .ok (.putfield 18, 3) := by decide +kernel
theorem dX0_init_28 : decode cX0_init 28 = .ok (.aload_n 0, 1) := by decide +kernel
theorem dX0_init_29 : decode cX0_init 29 = .ok (.bipush 10, 2) := by decide +kernel
theorem dX0_init_31 : decode cX0_init 31 = .ok (.newarray .int, 2) := by decide +kernel
theorem dX0_init_33 : decode cX0_init 33 = .ok (.putfield 21, 3) := by decide +kernel
theorem dX0_init_36 : decode cX0_init 36 = .ok (.aload_n 0, 1) := by decide +kernel
theorem dX0_init_37 : decode cX0_init 37 = .ok (.bipush 6, 2) := by decide +kernel
theorem dX0_init_39 : decode cX0_init 39 = .ok (.newarray .int, 2) := by decide +kernel
theorem dX0_init_41 : decode cX0_init 41 = .ok (.putfield 24, 3) := by decide +kernel
theorem dX0_init_44 : decode cX0_init 44 = .ok (.aload_n 0, 1) := by decide +kernel
theorem dX0_init_45 : decode cX0_init 45 = .ok (.iconst 0, 1) := by decide +kernel
theorem dX0_init_46 : decode cX0_init 46 = .ok (.putfield 27, 3) := by decide +kernel
theorem dX0_init_49 : decode cX0_init 49 = .ok (.aload_n 0, 1) := by decide +kernel
theorem dX0_init_50 : decode cX0_init 50 = .ok (.iconst 0, 1) := by decide +kernel
theorem dX0_init_51 : decode cX0_init 51 = .ok (.putfield 31, 3) := by decide +kernel
theorem dX0_init_54 : decode cX0_init 54 = .ok (.return_, 1) := by decide +kernel
set_option maxRecDepth 20000 in
theorem ggX0_copyFrom_X4_copyRow : GoodIn wsX0_copyFrom wsX4_copyRow := goodIn_r _ [10, 11, 12, 13, 14, 15, 16, 17, 18] (by decide +kernel) (by decide +kernel)
set_option maxRecDepth 20000 in
theorem gX0_copyFrom_X4_copyRow_n34 : GoodIn wsX0_copyFrom (wsX4_copyRow) := ggX0_copyFrom_X4_copyRow
theorem dX0_copyFrom_0 : decode cX0_copyFrom 0 = .ok (.aload_n 1, 1) := by decide +kernel
theorem dX0_copyFrom_1 : decode cX0_copyFrom 1 = .ok (.getfield 9, 3) := by decide +kernel
theorem dX0_copyFrom_4 : decode cX0_copyFrom 4 = .ok (.aload_n 0, 1) := by decide +kernel
theorem dX0_copyFrom_5 : decode cX0_copyFrom 5 = .ok (.getfield 9, 3) := by decide +kernel
theorem dX0_copyFrom_8 : decode cX0_copyFrom 8 = .ok (.invokestatic 34, 3) := by decide +kernel
theorem dX0_copyFrom_11 : decode cX0_copyFrom 11 = .ok (.aload_n 1, 1) := by decide +kernel
theorem dX0_copyFrom_12 : decode cX0_copyFrom 12 = .ok (.getfield 15, 3) := by decide +kernel
theorem dX0_copyFrom_15 : decode cX0_copyFrom 15 = .ok (.aload_n 0, 1) := by decide +kernel
theorem dX0_copyFrom_16 : decode cX0_copyFrom 16 = .ok (.getfield 15, 3) := by decide +kernel
theorem dX0_copyFrom_19 : decode cX0_copyFrom 19 = .ok (.invokestatic 34, 3) := by decide +kernel
theorem dX0_copyFrom_22 : decode cX0_copyFrom 22 = .ok (.aload_n 1, 1) := by decide +kernel
theorem dX0_copyFrom_23 : decode cX0_copyFrom 23 = .ok (.getfield 18, 3) := by decide +kernel
theorem dX0_copyFrom_26 : decode cX0_copyFrom 26 = .ok (.aload_n 0, 1) := by decide +kernel
theorem dX0_copyFrom_27 : decode cX0_copyFrom 27 = .ok (.getfield 18, 3) := by decide +kernel
theorem dX0_copyFrom_30 : decode cX0_copyFrom 30 = .ok (.invokestatic 34, 3) := by decide +kernel
theorem dX0_copyFrom_33 : decode cX0_copyFrom 33 = .ok (.aload_n 1, 1) := by decide +kernel
theorem dX0_copyFrom_34 : decode cX0_copyFrom 34 = .ok (.getfield 21, 3) := by decide +kernel
theorem dX0_copyFrom_37 : decode cX0_copyFrom 37 = .ok (.aload_n 0, 1) := by decide +kernel
theorem dX0_copyFrom_38 : decode cX0_copyFrom 38 = .ok (.getfield 21, 3) := by decide +kernel
theorem dX0_copyFrom_41 : decode cX0_copyFrom 41 = .ok (.invokestatic 34, 3) := by decide +kernel
theorem dX0_copyFrom_44 : decode cX0_copyFrom 44 = .ok (.aload_n 1, 1) := by decide +kernel
theorem dX0_copyFrom_45 : decode cX0_copyFrom 45 = .ok (.getfield 24, 3) := by decide +kernel
theorem dX0_copyFrom_48 : decode cX0_copyFrom 48 = .ok (.aload_n 0, 1) := by decide +kernel
theorem dX0_copyFrom_49 : decode cX0_copyFrom 49 = .ok (.getfield 24, 3) := by decide +kernel
theorem dX0_copyFrom_52 : decode cX0_copyFrom 52 = .ok (.invokestatic 34, 3) := by decide +kernel
theorem dX0_copyFrom_55 : decode cX0_copyFrom 55 = .ok (.aload_n 0, 1) := by decide +kernel
theorem dX0_copyFrom_56 : decode cX0_copyFrom 56 = .ok (.aload_n 1, 1) := by decide +kernel
theorem dX0_copyFrom_57 : decode cX0_copyFrom 57 = .ok (.getfield 27, 3) := by decide +kernel
theorem dX0_copyFrom_60 : decode cX0_copyFrom 60 = .ok (.putfield 27, 3) := by decide +kernel
theorem dX0_copyFrom_63 : decode cX0_copyFrom 63 = .ok (.aload_n 0, 1) := by decide +kernel
theorem dX0_copyFrom_64 : decode cX0_copyFrom 64 = .ok (.aload_n 1, 1) := by decide +kernel
theorem dX0_copyFrom_65 : decode cX0_copyFrom 65 = .ok (.getfield 31, 3) := by decide +kernel
theorem dX0_copyFrom_68 : decode cX0_copyFrom 68 = .ok (.putfield 31, 3) := by decide +kernel
theorem dX0_copyFrom_71 : decode cX0_copyFrom 71 = .ok (.return_, 1) := by decide +kernel
theorem dX0_has_0 : decode cX0_has 0 = .ok (.iload_n 1, 1) := by decide +kernel
theorem dX0_has_1 : decode cX0_has 1 = .ok (.ifCond .lt 15, 3) := by decide +kernel
theorem dX0_has_4 : decode cX0_has 4 = .ok (.iload_n 1, 1) := by decide +kernel
theorem dX0_has_5 : decode cX0_has 5 = .ok (.aload_n 0, 1) := by decide +kernel
theorem dX0_has_6 : decode cX0_has 6 = .ok (.getfield 27, 3) := by decide +kernel
theorem dX0_has_9 : decode cX0_has 9 = .ok (.if_icmp .ge 7, 3) := by decide +kernel
theorem dX0_has_12 : decode cX0_has 12 = .ok (.iconst 1, 1) := by decide +kernel
theorem dX0_has_13 : decode cX0_has 13 = .ok (.goto 4, 3) := by decide +kernel
theorem dX0_has_16 : decode cX0_has 16 = .ok (.iconst 0, 1) := by decide +kernel
theorem dX0_has_17 : decode cX0_has 17 = .ok (.ireturn, 1) := by decide +kernel
theorem dX0_append_0 : decode cX0_append 0 = .ok (.aload_n 0, 1) := by decide +kernel
theorem dX0_append_1 : decode cX0_append 1 = .ok (.getfield 27, 3) := by decide +kernel
theorem dX0_append_4 : decode cX0_append 4 = .ok (.bipush 10, 2) := by decide +kernel
theorem dX0_append_6 : decode cX0_append 6 = .ok (.if_icmp .lt 4, 3) := by decide +kernel
theorem dX0_append_9 : decode cX0_append 9 = .ok (.return_, 1) := by decide +kernel
theorem dX0_append_10 : decode cX0_append 10 = .ok (.aload_n 0, 1) := by decide +kernel
theorem dX0_append_11 : decode cX0_append 11 = .ok (.getfield 9, 3) := by decide +kernel
theorem dX0_append_14 : decode cX0_append 14 = .ok (.aload_n 0, 1) := by decide +kernel
theorem dX0_append_15 : decode cX0_append 15 = .ok (.getfield 27, 3) := by decide +kernel
theorem dX0_append_18 : decode cX0_append 18 = .ok (.iload_n 1, 1) := by decide +kernel
theorem dX0_append_19 : decode cX0_append 19 = .ok (.iastore, 1) := by decide +kernel
theorem dX0_append_20 : decode cX0_append 20 = .ok (.aload_n 0, 1) := by decide +kernel
theorem dX0_append_21 : decode cX0_append 21 = .ok (.getfield 15, 3) := by decide +kernel
theorem dX0_append_24 : decode cX0_append 24 = .ok (.aload_n 0, 1) := by decide +kernel
theorem dX0_append_25 : decode cX0_append 25 = .ok (.getfield 27, 3) := by decide +kernel
theorem dX0_append_28 : decode cX0_append 28 = .ok (.iload_n 2, 1) := by decide +kernel
theorem dX0_append_29 : decode cX0_append 29 = .ok (.iastore, 1) := by decide +kernel
theorem dX0_append_30 : decode cX0_append 30 = .ok (.aload_n 0, 1) := by decide +kernel
theorem dX0_append_31 : decode cX0_append 31 = .ok (.getfield 18, 3) := by decide +kernel
theorem dX0_append_34 : decode cX0_append 34 = .ok (.aload_n 0, 1) := by decide +kernel
theorem dX0_append_35 : decode cX0_append 35 = .ok (.getfield 27, 3) := by decide +kernel
theorem dX0_append_38 : decode cX0_append 38 = .ok (.iconst 0, 1) := by decide +kernel
theorem dX0_append_39 : decode cX0_append 39 = .ok (.iastore, 1) := by decide +kernel
theorem dX0_append_40 : decode cX0_append 40 = .ok (.aload_n 0, 1) := by decide +kernel
theorem dX0_append_41 : decode cX0_append 41 = .ok (.getfield 21, 3) := by decide +kernel
theorem dX0_append_44 : decode cX0_append 44 = .ok (.aload_n 0, 1) := by decide +kernel
theorem dX0_append_45 : decode cX0_append 45 = .ok (.getfield 27, 3) := by decide +kernel
theorem dX0_append_48 : decode cX0_append 48 = .ok (.iconst 0, 1) := by decide +kernel
theorem dX0_append_49 : decode cX0_append 49 = .ok (.iastore, 1) := by decide +kernel
theorem dX0_append_50 : decode cX0_append 50 = .ok (.aload_n 0, 1) := by decide +kernel
theorem dX0_append_51 : decode cX0_append 51 = .ok (.dup, 1) := by decide +kernel
theorem dX0_append_52 : decode cX0_append 52 = .ok (.getfield 27, 3) := by decide +kernel
theorem dX0_append_55 : decode cX0_append 55 = .ok (.iconst 1, 1) := by decide +kernel
theorem dX0_append_56 : decode cX0_append 56 = .ok (.iadd, 1) := by decide +kernel
theorem dX0_append_57 : decode cX0_append 57 = .ok (.putfield 27, 3) := by decide +kernel
theorem dX0_append_60 : decode cX0_append 60 = .ok (.return_, 1) := by decide +kernel
set_option maxRecDepth 20000 in
theorem ggX0_remove_X0_has : GoodIn wsX0_remove wsX0_has := goodIn_r _ [10, 5, 18, 19, 20, 21, 22, 23, 24] (by decide +kernel) (by decide +kernel)
set_option maxRecDepth 20000 in
theorem gX0_remove_X0_has : GoodIn wsX0_remove (wsV RX0 38 RX0 yX0_has wsX0_has) := goodIn_app (goodIn_of _ (by decide +kernel)) ggX0_remove_X0_has
set_option maxRecDepth 20000 in
theorem ggX0_remove_X4_closeGap : GoodIn wsX0_remove wsX4_closeGap := goodIn_r _ [13, 14, 15, 16, 17] (by decide +kernel) (by decide +kernel)
set_option maxRecDepth 20000 in
theorem gX0_remove_X4_closeGap_n42 : GoodIn wsX0_remove (wsX4_closeGap) := ggX0_remove_X4_closeGap
theorem dX0_remove_0 : decode cX0_remove 0 = .ok (.aload_n 0, 1) := by decide +kernel
theorem dX0_remove_1 : decode cX0_remove 1 = .ok (.iload_n 1, 1) := by decide +kernel
theorem dX0_remove_2 : decode cX0_remove 2 = .ok (.invokevirtual 38, 3) := by decide +kernel
theorem dX0_remove_5 : decode cX0_remove 5 = .ok (.ifCond .ne 4, 3) := by decide +kernel
theorem dX0_remove_8 : decode cX0_remove 8 = .ok (.return_, 1) := by decide +kernel
theorem dX0_remove_9 : decode cX0_remove 9 = .ok (.aload_n 0, 1) := by decide +kernel
theorem dX0_remove_10 : decode cX0_remove 10 = .ok (.getfield 9, 3) := by decide +kernel
theorem dX0_remove_13 : decode cX0_remove 13 = .ok (.iload_n 1, 1) := by decide +kernel
theorem dX0_remove_14 : decode cX0_remove 14 = .ok (.invokestatic 42, 3) := by decide +kernel
theorem dX0_remove_17 : decode cX0_remove 17 = .ok (.aload_n 0, 1) := by decide +kernel
theorem dX0_remove_18 : decode cX0_remove 18 = .ok (.getfield 15, 3) := by decide +kernel
theorem dX0_remove_21 : decode cX0_remove 21 = .ok (.iload_n 1, 1) := by decide +kernel
theorem dX0_remove_22 : decode cX0_remove 22 = .ok (.invokestatic 42, 3) := by decide +kernel
theorem dX0_remove_25 : decode cX0_remove 25 = .ok (.aload_n 0, 1) := by decide +kernel
theorem dX0_remove_26 : decode cX0_remove 26 = .ok (.getfield 18, 3) := by decide +kernel
theorem dX0_remove_29 : decode cX0_remove 29 = .ok (.iload_n 1, 1) := by decide +kernel
theorem dX0_remove_30 : decode cX0_remove 30 = .ok (.invokestatic 42, 3) := by decide +kernel
theorem dX0_remove_33 : decode cX0_remove 33 = .ok (.aload_n 0, 1) := by decide +kernel
theorem dX0_remove_34 : decode cX0_remove 34 = .ok (.getfield 21, 3) := by decide +kernel
theorem dX0_remove_37 : decode cX0_remove 37 = .ok (.iload_n 1, 1) := by decide +kernel
theorem dX0_remove_38 : decode cX0_remove 38 = .ok (.invokestatic 42, 3) := by decide +kernel
theorem dX0_remove_41 : decode cX0_remove 41 = .ok (.aload_n 0, 1) := by decide +kernel
theorem dX0_remove_42 : decode cX0_remove 42 = .ok (.dup, 1) := by decide +kernel
theorem dX0_remove_43 : decode cX0_remove 43 = .ok (.getfield 27, 3) := by decide +kernel
theorem dX0_remove_46 : decode cX0_remove 46 = .ok (.iconst 1, 1) := by decide +kernel
theorem dX0_remove_47 : decode cX0_remove 47 = .ok (.isub, 1) := by decide +kernel
theorem dX0_remove_48 : decode cX0_remove 48 = .ok (.putfield 27, 3) := by decide +kernel
theorem dX0_remove_51 : decode cX0_remove 51 = .ok (.return_, 1) := by decide +kernel
set_option maxRecDepth 20000 in
theorem ggX0_noteDone_X0_has : GoodIn wsX0_noteDone wsX0_has := goodIn_r _ [7, 8, 9, 10, 11, 12, 13, 14, 15] (by decide +kernel) (by decide +kernel)
set_option maxRecDepth 20000 in
theorem gX0_noteDone_X0_has : GoodIn wsX0_noteDone (wsV RX0 38 RX0 yX0_has wsX0_has) := goodIn_app (goodIn_of _ (by decide +kernel)) ggX0_noteDone_X0_has
theorem dX0_noteDone_0 : decode cX0_noteDone 0 = .ok (.aload_n 0, 1) := by decide +kernel
theorem dX0_noteDone_1 : decode cX0_noteDone 1 = .ok (.iload_n 1, 1) := by decide +kernel
theorem dX0_noteDone_2 : decode cX0_noteDone 2 = .ok (.invokevirtual 38, 3) := by decide +kernel
theorem dX0_noteDone_5 : decode cX0_noteDone 5 = .ok (.ifCond .ne 4, 3) := by decide +kernel
theorem dX0_noteDone_8 : decode cX0_noteDone 8 = .ok (.return_, 1) := by decide +kernel
theorem dX0_noteDone_9 : decode cX0_noteDone 9 = .ok (.aload_n 0, 1) := by decide +kernel
theorem dX0_noteDone_10 : decode cX0_noteDone 10 = .ok (.getfield 18, 3) := by decide +kernel
theorem dX0_noteDone_13 : decode cX0_noteDone 13 = .ok (.iload_n 1, 1) := by decide +kernel
theorem dX0_noteDone_14 : decode cX0_noteDone 14 = .ok (.dup2, 1) := by decide +kernel
theorem dX0_noteDone_15 : decode cX0_noteDone 15 = .ok (.iaload, 1) := by decide +kernel
theorem dX0_noteDone_16 : decode cX0_noteDone 16 = .ok (.iconst 1, 1) := by decide +kernel
theorem dX0_noteDone_17 : decode cX0_noteDone 17 = .ok (.iadd, 1) := by decide +kernel
theorem dX0_noteDone_18 : decode cX0_noteDone 18 = .ok (.iastore, 1) := by decide +kernel
theorem dX0_noteDone_19 : decode cX0_noteDone 19 = .ok (.aload_n 0, 1) := by decide +kernel
theorem dX0_noteDone_20 : decode cX0_noteDone 20 = .ok (.dup, 1) := by decide +kernel
theorem dX0_noteDone_21 : decode cX0_noteDone 21 = .ok (.getfield 31, 3) := by decide +kernel
theorem dX0_noteDone_24 : decode cX0_noteDone 24 = .ok (.iconst 1, 1) := by decide +kernel
theorem dX0_noteDone_25 : decode cX0_noteDone 25 = .ok (.iadd, 1) := by decide +kernel
theorem dX0_noteDone_26 : decode cX0_noteDone 26 = .ok (.putfield 31, 3) := by decide +kernel
theorem dX0_noteDone_29 : decode cX0_noteDone 29 = .ok (.return_, 1) := by decide +kernel
set_option maxRecDepth 20000 in
theorem ggX0_noteRefusal_X0_has : GoodIn wsX0_noteRefusal wsX0_has := goodIn_r _ [7, 8, 12, 13, 14, 15, 16, 17, 18] (by decide +kernel) (by decide +kernel)
set_option maxRecDepth 20000 in
theorem gX0_noteRefusal_X0_has : GoodIn wsX0_noteRefusal (wsV RX0 38 RX0 yX0_has wsX0_has) := goodIn_app (goodIn_of _ (by decide +kernel)) ggX0_noteRefusal_X0_has
set_option maxRecDepth 20000 in
theorem ggX0_noteRefusal_X4_isBetween : GoodIn wsX0_noteRefusal wsX4_isBetween := goodIn_r _ [11] (by decide +kernel) (by decide +kernel)
set_option maxRecDepth 20000 in
theorem gX0_noteRefusal_X4_isBetween_n46 : GoodIn wsX0_noteRefusal (wsX4_isBetween) := ggX0_noteRefusal_X4_isBetween
theorem dX0_noteRefusal_0 : decode cX0_noteRefusal 0 = .ok (.aload_n 0, 1) := by decide +kernel
theorem dX0_noteRefusal_1 : decode cX0_noteRefusal 1 = .ok (.iload_n 1, 1) := by decide +kernel
theorem dX0_noteRefusal_2 : decode cX0_noteRefusal 2 = .ok (.invokevirtual 38, 3) := by decide +kernel
theorem dX0_noteRefusal_5 : decode cX0_noteRefusal 5 = .ok (.ifCond .eq 12, 3) := by decide +kernel
theorem dX0_noteRefusal_8 : decode cX0_noteRefusal 8 = .ok (.iload_n 2, 1) := by decide +kernel
theorem dX0_noteRefusal_9 : decode cX0_noteRefusal 9 = .ok (.iconst 0, 1) := by decide +kernel
theorem dX0_noteRefusal_10 : decode cX0_noteRefusal 10 = .ok (.iconst 5, 1) := by decide +kernel
theorem dX0_noteRefusal_11 : decode cX0_noteRefusal 11 = .ok (.invokestatic 46, 3) := by decide +kernel
theorem dX0_noteRefusal_14 : decode cX0_noteRefusal 14 = .ok (.ifCond .ne 4, 3) := by decide +kernel
theorem dX0_noteRefusal_17 : decode cX0_noteRefusal 17 = .ok (.return_, 1) := by decide +kernel
theorem dX0_noteRefusal_18 : decode cX0_noteRefusal 18 = .ok (.aload_n 0, 1) := by decide +kernel
theorem dX0_noteRefusal_19 : decode cX0_noteRefusal 19 = .ok (.getfield 21, 3) := by decide +kernel
theorem dX0_noteRefusal_22 : decode cX0_noteRefusal 22 = .ok (.iload_n 1, 1) := by decide +kernel
theorem dX0_noteRefusal_23 : decode cX0_noteRefusal 23 = .ok (.dup2, 1) := by decide +kernel
theorem dX0_noteRefusal_24 : decode cX0_noteRefusal 24 = .ok (.iaload, 1) := by decide +kernel
theorem dX0_noteRefusal_25 : decode cX0_noteRefusal 25 = .ok (.iconst 1, 1) := by decide +kernel
theorem dX0_noteRefusal_26 : decode cX0_noteRefusal 26 = .ok (.iadd, 1) := by decide +kernel
theorem dX0_noteRefusal_27 : decode cX0_noteRefusal 27 = .ok (.iastore, 1) := by decide +kernel
theorem dX0_noteRefusal_28 : decode cX0_noteRefusal 28 = .ok (.aload_n 0, 1) := by decide +kernel
theorem dX0_noteRefusal_29 : decode cX0_noteRefusal 29 = .ok (.getfield 24, 3) := by decide +kernel
theorem dX0_noteRefusal_32 : decode cX0_noteRefusal 32 = .ok (.iload_n 2, 1) := by decide +kernel
theorem dX0_noteRefusal_33 : decode cX0_noteRefusal 33 = .ok (.dup2, 1) := by decide +kernel
theorem dX0_noteRefusal_34 : decode cX0_noteRefusal 34 = .ok (.iaload, 1) := by decide +kernel
theorem dX0_noteRefusal_35 : decode cX0_noteRefusal 35 = .ok (.iconst 1, 1) := by decide +kernel
theorem dX0_noteRefusal_36 : decode cX0_noteRefusal 36 = .ok (.iadd, 1) := by decide +kernel
theorem dX0_noteRefusal_37 : decode cX0_noteRefusal 37 = .ok (.iastore, 1) := by decide +kernel
theorem dX0_noteRefusal_38 : decode cX0_noteRefusal 38 = .ok (.return_, 1) := by decide +kernel
set_option maxRecDepth 20000 in
theorem ggX0_refusalsOf_X4_isBetween : GoodIn wsX0_refusalsOf wsX4_isBetween := goodIn_r _ [4] (by decide +kernel) (by decide +kernel)
set_option maxRecDepth 20000 in
theorem gX0_refusalsOf_X4_isBetween_n46 : GoodIn wsX0_refusalsOf (wsX4_isBetween) := ggX0_refusalsOf_X4_isBetween
theorem dX0_refusalsOf_0 : decode cX0_refusalsOf 0 = .ok (.iload_n 1, 1) := by decide +kernel
theorem dX0_refusalsOf_1 : decode cX0_refusalsOf 1 = .ok (.iconst 0, 1) := by decide +kernel
theorem dX0_refusalsOf_2 : decode cX0_refusalsOf 2 = .ok (.iconst 5, 1) := by decide +kernel
theorem dX0_refusalsOf_3 : decode cX0_refusalsOf 3 = .ok (.invokestatic 46, 3) := by decide +kernel
theorem dX0_refusalsOf_6 : decode cX0_refusalsOf 6 = .ok (.ifCond .eq 12, 3) := by decide +kernel
theorem dX0_refusalsOf_9 : decode cX0_refusalsOf 9 = .ok (.aload_n 0, 1) := by decide +kernel
theorem dX0_refusalsOf_10 : decode cX0_refusalsOf 10 = .ok (.getfield 24, 3) := by decide +kernel
theorem dX0_refusalsOf_13 : decode cX0_refusalsOf 13 = .ok (.iload_n 1, 1) := by decide +kernel
theorem dX0_refusalsOf_14 : decode cX0_refusalsOf 14 = .ok (.iaload, 1) := by decide +kernel
theorem dX0_refusalsOf_15 : decode cX0_refusalsOf 15 = .ok (.goto 4, 3) := by decide +kernel
theorem dX0_refusalsOf_18 : decode cX0_refusalsOf 18 = .ok (.iconst 0, 1) := by decide +kernel
theorem dX0_refusalsOf_19 : decode cX0_refusalsOf 19 = .ok (.ireturn, 1) := by decide +kernel
theorem dX1_init_0 : decode cX1_init 0 = .ok (.aload_n 0, 1) := by decide +kernel
theorem dX1_init_1 : decode cX1_init 1 = .ok (.invokespecial 3, 3) := by decide +kernel
theorem dX1_init_4 : decode cX1_init 4 = .ok (.aload_n 0, 1) := by decide +kernel
theorem dX1_init_5 : decode cX1_init 5 = .ok (.bipush 60, 2) := by decide +kernel
theorem dX1_init_7 : decode cX1_init 7 = .ok (.newarray .char, 2) := by decide +kernel
theorem dX1_init_9 : decode cX1_init 9 = .ok (.putfield 9, 3) := by decide +kernel
theorem dX1_init_12 : decode cX1_init 12 = .ok (.aload_n 0, 1) := by decide +kernel
theorem dX1_init_13 : decode cX1_init 13 = .ok (.iconst 0, 1) := by decide +kernel
theorem dX1_init_14 : decode cX1_init 14 = .ok (.putfield 15, 3) := by decide +kernel
theorem dX1_init_17 : decode cX1_init 17 = .ok (.return_, 1) := by decide +kernel
theorem dX2_init_0 : decode cX2_init 0 = .ok (.aload_n 0, 1) := by decide +kernel
theorem dX2_init_1 : decode cX2_init 1 = .ok (.invokespecial 3, 3) := by decide +kernel
theorem dX2_init_4 : decode cX2_init 4 = .ok (.aload_n 0, 1) := by decide +kernel
theorem dX2_init_5 : decode cX2_init 5 = .ok (.bipush 25, 2) := by decide +kernel
theorem dX2_init_7 : decode cX2_init 7 = .ok (.newarray .int, 2) := by decide +kernel
theorem dX2_init_9 : decode cX2_init 9 = .ok (.putfield 11, 3) := by decide +kernel
theorem dX2_init_12 : decode cX2_init 12 = .ok (.aload_n 0, 1) := by decide +kernel
theorem dX2_init_13 : decode cX2_init 13 = .ok (.bipush 25, 2) := by decide +kernel
theorem dX2_init_15 : decode cX2_init 15 = .ok (.newarray .int, 2) := by decide +kernel
theorem dX2_init_17 : decode cX2_init 17 = .ok (.putfield 15, 3) := by decide +kernel
theorem dX2_init_20 : decode cX2_init 20 = .ok (.aload_n 0, 1) := by decide +kernel
theorem dX2_init_21 : decode cX2_init 21 = .ok (.bipush 25, 2) := by decide +kernel
theorem dX2_init_23 : decode cX2_init 23 = .ok (.newarray .int, 2) := by decide +kernel
theorem dX2_init_25 : decode cX2_init 25 = .ok (.putfield 18, 3) := by decide +kernel
theorem dX2_init_28 : decode cX2_init 28 = .ok (.aload_n 0, 1) := by decide +kernel
theorem dX2_init_29 : decode cX2_init 29 = .ok (.bipush 25, 2) := by decide +kernel
theorem dX2_init_31 : decode cX2_init 31 = .ok (.newarray .int, 2) := by decide +kernel
theorem dX2_init_33 : decode cX2_init 33 = .ok (.putfield 21, 3) := by decide +kernel
theorem dX2_init_36 : decode cX2_init 36 = .ok (.aload_n 0, 1) := by decide +kernel
theorem dX2_init_37 : decode cX2_init 37 = .ok (.bipush 25, 2) := by decide +kernel
theorem dX2_init_39 : decode cX2_init 39 = .ok (.newarray .int, 2) := by decide +kernel
theorem dX2_init_41 : decode cX2_init 41 = .ok (.putfield 24, 3) := by decide +kernel
theorem dX2_init_44 : decode cX2_init 44 = .ok (.aload_n 0, 1) := by decide +kernel
theorem dX2_init_45 : decode cX2_init 45 = .ok (.bipush 25, 2) := by decide +kernel
theorem dX2_init_47 : decode cX2_init 47 = .ok (.newarray .int, 2) := by decide +kernel
theorem dX2_init_49 : decode cX2_init 49 = .ok (.putfield 27, 3) := by decide +kernel
theorem dX2_init_52 : decode cX2_init 52 = .ok (.aload_n 0, 1) := by decide +kernel
theorem dX2_init_53 : decode cX2_init 53 = .ok (.iconst 0, 1) := by decide +kernel
theorem dX2_init_54 : decode cX2_init 54 = .ok (.putfield 30, 3) := by decide +kernel
theorem dX2_init_57 : decode cX2_init 57 = .ok (.return_, 1) := by decide +kernel
set_option maxRecDepth 20000 in
theorem ggX2_copyFrom_X4_copyRow : GoodIn wsX2_copyFrom wsX4_copyRow := goodIn_r _ [10, 11, 12, 13, 14, 15, 16, 17, 18] (by decide +kernel) (by decide +kernel)
set_option maxRecDepth 20000 in
theorem gX2_copyFrom_X4_copyRow_n34 : GoodIn wsX2_copyFrom (wsX4_copyRow) := ggX2_copyFrom_X4_copyRow
theorem dX2_copyFrom_0 : decode cX2_copyFrom 0 = .ok (.aload_n 1, 1) := by decide +kernel
theorem dX2_copyFrom_1 : decode cX2_copyFrom 1 = .ok (.getfield 11, 3) := by decide +kernel
theorem dX2_copyFrom_4 : decode cX2_copyFrom 4 = .ok (.aload_n 0, 1) := by decide +kernel
theorem dX2_copyFrom_5 : decode cX2_copyFrom 5 = .ok (.getfield 11, 3) := by decide +kernel
theorem dX2_copyFrom_8 : decode cX2_copyFrom 8 = .ok (.invokestatic 34, 3) := by decide +kernel
theorem dX2_copyFrom_11 : decode cX2_copyFrom 11 = .ok (.aload_n 1, 1) := by decide +kernel
theorem dX2_copyFrom_12 : decode cX2_copyFrom 12 = .ok (.getfield 15, 3) := by decide +kernel
theorem dX2_copyFrom_15 : decode cX2_copyFrom 15 = .ok (.aload_n 0, 1) := by decide +kernel
theorem dX2_copyFrom_16 : decode cX2_copyFrom 16 = .ok (.getfield 15, 3) := by decide +kernel
theorem dX2_copyFrom_19 : decode cX2_copyFrom 19 = .ok (.invokestatic 34, 3) := by decide +kernel
theorem dX2_copyFrom_22 : decode cX2_copyFrom 22 = .ok (.aload_n 1, 1) := by decide +kernel
theorem dX2_copyFrom_23 : decode cX2_copyFrom 23 = .ok (.getfield 18, 3) := by decide +kernel
theorem dX2_copyFrom_26 : decode cX2_copyFrom 26 = .ok (.aload_n 0, 1) := by decide +kernel
theorem dX2_copyFrom_27 : decode cX2_copyFrom 27 = .ok (.getfield 18, 3) := by decide +kernel
theorem dX2_copyFrom_30 : decode cX2_copyFrom 30 = .ok (.invokestatic 34, 3) := by decide +kernel
theorem dX2_copyFrom_33 : decode cX2_copyFrom 33 = .ok (.aload_n 1, 1) := by decide +kernel
theorem dX2_copyFrom_34 : decode cX2_copyFrom 34 = .ok (.getfield 21, 3) := by decide +kernel
theorem dX2_copyFrom_37 : decode cX2_copyFrom 37 = .ok (.aload_n 0, 1) := by decide +kernel
theorem dX2_copyFrom_38 : decode cX2_copyFrom 38 = .ok (.getfield 21, 3) := by decide +kernel
theorem dX2_copyFrom_41 : decode cX2_copyFrom 41 = .ok (.invokestatic 34, 3) := by decide +kernel
theorem dX2_copyFrom_44 : decode cX2_copyFrom 44 = .ok (.aload_n 1, 1) := by decide +kernel
theorem dX2_copyFrom_45 : decode cX2_copyFrom 45 = .ok (.getfield 24, 3) := by decide +kernel
theorem dX2_copyFrom_48 : decode cX2_copyFrom 48 = .ok (.aload_n 0, 1) := by decide +kernel
theorem dX2_copyFrom_49 : decode cX2_copyFrom 49 = .ok (.getfield 24, 3) := by decide +kernel
theorem dX2_copyFrom_52 : decode cX2_copyFrom 52 = .ok (.invokestatic 34, 3) := by decide +kernel
theorem dX2_copyFrom_55 : decode cX2_copyFrom 55 = .ok (.aload_n 1, 1) := by decide +kernel
theorem dX2_copyFrom_56 : decode cX2_copyFrom 56 = .ok (.getfield 27, 3) := by decide +kernel
theorem dX2_copyFrom_59 : decode cX2_copyFrom 59 = .ok (.aload_n 0, 1) := by decide +kernel
theorem dX2_copyFrom_60 : decode cX2_copyFrom 60 = .ok (.getfield 27, 3) := by decide +kernel
theorem dX2_copyFrom_63 : decode cX2_copyFrom 63 = .ok (.invokestatic 34, 3) := by decide +kernel
theorem dX2_copyFrom_66 : decode cX2_copyFrom 66 = .ok (.aload_n 0, 1) := by decide +kernel
theorem dX2_copyFrom_67 : decode cX2_copyFrom 67 = .ok (.aload_n 1, 1) := by decide +kernel
theorem dX2_copyFrom_68 : decode cX2_copyFrom 68 = .ok (.getfield 30, 3) := by decide +kernel
theorem dX2_copyFrom_71 : decode cX2_copyFrom 71 = .ok (.putfield 30, 3) := by decide +kernel
theorem dX2_copyFrom_74 : decode cX2_copyFrom 74 = .ok (.return_, 1) := by decide +kernel
theorem dX2_has_0 : decode cX2_has 0 = .ok (.iload_n 1, 1) := by decide +kernel
theorem dX2_has_1 : decode cX2_has 1 = .ok (.ifCond .lt 15, 3) := by decide +kernel
theorem dX2_has_4 : decode cX2_has 4 = .ok (.iload_n 1, 1) := by decide +kernel
theorem dX2_has_5 : decode cX2_has 5 = .ok (.aload_n 0, 1) := by decide +kernel
theorem dX2_has_6 : decode cX2_has 6 = .ok (.getfield 30, 3) := by decide +kernel
theorem dX2_has_9 : decode cX2_has 9 = .ok (.if_icmp .ge 7, 3) := by decide +kernel
theorem dX2_has_12 : decode cX2_has 12 = .ok (.iconst 1, 1) := by decide +kernel
theorem dX2_has_13 : decode cX2_has 13 = .ok (.goto 4, 3) := by decide +kernel
theorem dX2_has_16 : decode cX2_has 16 = .ok (.iconst 0, 1) := by decide +kernel
theorem dX2_has_17 : decode cX2_has 17 = .ok (.ireturn, 1) := by decide +kernel
set_option maxRecDepth 20000 in
theorem ggX2_append_X4_pairsOf : GoodIn wsX2_append wsX4_pairsOf := goodIn_r _ [10] (by decide +kernel) (by decide +kernel)
set_option maxRecDepth 20000 in
theorem gX2_append_X4_pairsOf_n38 : GoodIn wsX2_append (wsX4_pairsOf) := ggX2_append_X4_pairsOf
theorem dX2_append_0 : decode cX2_append 0 = .ok (.aload_n 0, 1) := by decide +kernel
theorem dX2_append_1 : decode cX2_append 1 = .ok (.getfield 30, 3) := by decide +kernel
theorem dX2_append_4 : decode cX2_append 4 = .ok (.bipush 25, 2) := by decide +kernel
theorem dX2_append_6 : decode cX2_append 6 = .ok (.if_icmp .lt 4, 3) := by decide +kernel
theorem dX2_append_9 : decode cX2_append 9 = .ok (.return_, 1) := by decide +kernel
theorem dX2_append_10 : decode cX2_append 10 = .ok (.aload_n 0, 1) := by decide +kernel
theorem dX2_append_11 : decode cX2_append 11 = .ok (.getfield 11, 3) := by decide +kernel
theorem dX2_append_14 : decode cX2_append 14 = .ok (.aload_n 0, 1) := by decide +kernel
theorem dX2_append_15 : decode cX2_append 15 = .ok (.getfield 30, 3) := by decide +kernel
theorem dX2_append_18 : decode cX2_append 18 = .ok (.iload_n 1, 1) := by decide +kernel
theorem dX2_append_19 : decode cX2_append 19 = .ok (.iastore, 1) := by decide +kernel
theorem dX2_append_20 : decode cX2_append 20 = .ok (.aload_n 0, 1) := by decide +kernel
theorem dX2_append_21 : decode cX2_append 21 = .ok (.getfield 15, 3) := by decide +kernel
theorem dX2_append_24 : decode cX2_append 24 = .ok (.aload_n 0, 1) := by decide +kernel
theorem dX2_append_25 : decode cX2_append 25 = .ok (.getfield 30, 3) := by decide +kernel
theorem dX2_append_28 : decode cX2_append 28 = .ok (.iload_n 2, 1) := by decide +kernel
theorem dX2_append_29 : decode cX2_append 29 = .ok (.iastore, 1) := by decide +kernel
theorem dX2_append_30 : decode cX2_append 30 = .ok (.aload_n 0, 1) := by decide +kernel
theorem dX2_append_31 : decode cX2_append 31 = .ok (.getfield 18, 3) := by decide +kernel
theorem dX2_append_34 : decode cX2_append 34 = .ok (.aload_n 0, 1) := by decide +kernel
theorem dX2_append_35 : decode cX2_append 35 = .ok (.getfield 30, 3) := by decide +kernel
theorem dX2_append_38 : decode cX2_append 38 = .ok (.iload_n 3, 1) := by decide +kernel
theorem dX2_append_39 : decode cX2_append 39 = .ok (.iastore, 1) := by decide +kernel
theorem dX2_append_40 : decode cX2_append 40 = .ok (.aload_n 0, 1) := by decide +kernel
theorem dX2_append_41 : decode cX2_append 41 = .ok (.getfield 21, 3) := by decide +kernel
theorem dX2_append_44 : decode cX2_append 44 = .ok (.aload_n 0, 1) := by decide +kernel
theorem dX2_append_45 : decode cX2_append 45 = .ok (.getfield 30, 3) := by decide +kernel
theorem dX2_append_48 : decode cX2_append 48 = .ok (.iload 4, 2) := by decide +kernel
theorem dX2_append_50 : decode cX2_append 50 = .ok (.iastore, 1) := by decide +kernel
theorem dX2_append_51 : decode cX2_append 51 = .ok (.aload_n 0, 1) := by decide +kernel
theorem dX2_append_52 : decode cX2_append 52 = .ok (.getfield 24, 3) := by decide +kernel
theorem dX2_append_55 : decode cX2_append 55 = .ok (.aload_n 0, 1) := by decide +kernel
theorem dX2_append_56 : decode cX2_append 56 = .ok (.getfield 30, 3) := by decide +kernel
theorem dX2_append_59 : decode cX2_append 59 = .ok (.iload 5, 2) := by decide +kernel
theorem dX2_append_61 : decode cX2_append 61 = .ok (.iastore, 1) := by decide +kernel
theorem dX2_append_62 : decode cX2_append 62 = .ok (.aload_n 0, 1) := by decide +kernel
theorem dX2_append_63 : decode cX2_append 63 = .ok (.getfield 27, 3) := by decide +kernel
theorem dX2_append_66 : decode cX2_append 66 = .ok (.aload_n 0, 1) := by decide +kernel
theorem dX2_append_67 : decode cX2_append 67 = .ok (.getfield 30, 3) := by decide +kernel
theorem dX2_append_70 : decode cX2_append 70 = .ok (.iload_n 3, 1) := by decide +kernel
theorem dX2_append_71 : decode cX2_append 71 = .ok (.iload 4, 2) := by decide +kernel
theorem dX2_append_73 : decode cX2_append 73 = .ok (.invokestatic 38, 3) := by decide +kernel
theorem dX2_append_76 : decode cX2_append 76 = .ok (.iastore, 1) := by decide +kernel
theorem dX2_append_77 : decode cX2_append 77 = .ok (.aload_n 0, 1) := by decide +kernel
theorem dX2_append_78 : decode cX2_append 78 = .ok (.dup, 1) := by decide +kernel
theorem dX2_append_79 : decode cX2_append 79 = .ok (.getfield 30, 3) := by decide +kernel
theorem dX2_append_82 : decode cX2_append 82 = .ok (.iconst 1, 1) := by decide +kernel
theorem dX2_append_83 : decode cX2_append 83 = .ok (.iadd, 1) := by decide +kernel
theorem dX2_append_84 : decode cX2_append 84 = .ok (.putfield 30, 3) := by decide +kernel
theorem dX2_append_87 : decode cX2_append 87 = .ok (.return_, 1) := by decide +kernel
set_option maxRecDepth 20000 in
theorem ggX2_remove_X2_has : GoodIn wsX2_remove wsX2_has := goodIn_r _ [12, 7, 20, 21, 22, 23, 24, 25, 26] (by decide +kernel) (by decide +kernel)
set_option maxRecDepth 20000 in
theorem gX2_remove_X2_has : GoodIn wsX2_remove (wsV RX2 42 RX2 yX2_has wsX2_has) := goodIn_app (goodIn_of _ (by decide +kernel)) ggX2_remove_X2_has
set_option maxRecDepth 20000 in
theorem ggX2_remove_X4_closeGap : GoodIn wsX2_remove wsX4_closeGap := goodIn_r _ [15, 16, 17, 18, 19] (by decide +kernel) (by decide +kernel)
set_option maxRecDepth 20000 in
theorem gX2_remove_X4_closeGap_n46 : GoodIn wsX2_remove (wsX4_closeGap) := ggX2_remove_X4_closeGap
theorem dX2_remove_0 : decode cX2_remove 0 = .ok (.aload_n 0, 1) := by decide +kernel
theorem dX2_remove_1 : decode cX2_remove 1 = .ok (.iload_n 1, 1) := by decide +kernel
theorem dX2_remove_2 : decode cX2_remove 2 = .ok (.invokevirtual 42, 3) := by decide +kernel
theorem dX2_remove_5 : decode cX2_remove 5 = .ok (.ifCond .ne 4, 3) := by decide +kernel
theorem dX2_remove_8 : decode cX2_remove 8 = .ok (.return_, 1) := by decide +kernel
theorem dX2_remove_9 : decode cX2_remove 9 = .ok (.aload_n 0, 1) := by decide +kernel
theorem dX2_remove_10 : decode cX2_remove 10 = .ok (.getfield 11, 3) := by decide +kernel
theorem dX2_remove_13 : decode cX2_remove 13 = .ok (.iload_n 1, 1) := by decide +kernel
theorem dX2_remove_14 : decode cX2_remove 14 = .ok (.invokestatic 46, 3) := by decide +kernel
theorem dX2_remove_17 : decode cX2_remove 17 = .ok (.aload_n 0, 1) := by decide +kernel
theorem dX2_remove_18 : decode cX2_remove 18 = .ok (.getfield 15, 3) := by decide +kernel
theorem dX2_remove_21 : decode cX2_remove 21 = .ok (.iload_n 1, 1) := by decide +kernel
theorem dX2_remove_22 : decode cX2_remove 22 = .ok (.invokestatic 46, 3) := by decide +kernel
theorem dX2_remove_25 : decode cX2_remove 25 = .ok (.aload_n 0, 1) := by decide +kernel
theorem dX2_remove_26 : decode cX2_remove 26 = .ok (.getfield 18, 3) := by decide +kernel
theorem dX2_remove_29 : decode cX2_remove 29 = .ok (.iload_n 1, 1) := by decide +kernel
theorem dX2_remove_30 : decode cX2_remove 30 = .ok (.invokestatic 46, 3) := by decide +kernel
theorem dX2_remove_33 : decode cX2_remove 33 = .ok (.aload_n 0, 1) := by decide +kernel
theorem dX2_remove_34 : decode cX2_remove 34 = .ok (.getfield 21, 3) := by decide +kernel
theorem dX2_remove_37 : decode cX2_remove 37 = .ok (.iload_n 1, 1) := by decide +kernel
theorem dX2_remove_38 : decode cX2_remove 38 = .ok (.invokestatic 46, 3) := by decide +kernel
theorem dX2_remove_41 : decode cX2_remove 41 = .ok (.aload_n 0, 1) := by decide +kernel
theorem dX2_remove_42 : decode cX2_remove 42 = .ok (.getfield 24, 3) := by decide +kernel
theorem dX2_remove_45 : decode cX2_remove 45 = .ok (.iload_n 1, 1) := by decide +kernel
theorem dX2_remove_46 : decode cX2_remove 46 = .ok (.invokestatic 46, 3) := by decide +kernel
theorem dX2_remove_49 : decode cX2_remove 49 = .ok (.aload_n 0, 1) := by decide +kernel
theorem dX2_remove_50 : decode cX2_remove 50 = .ok (.getfield 27, 3) := by decide +kernel
theorem dX2_remove_53 : decode cX2_remove 53 = .ok (.iload_n 1, 1) := by decide +kernel
theorem dX2_remove_54 : decode cX2_remove 54 = .ok (.invokestatic 46, 3) := by decide +kernel
theorem dX2_remove_57 : decode cX2_remove 57 = .ok (.aload_n 0, 1) := by decide +kernel
theorem dX2_remove_58 : decode cX2_remove 58 = .ok (.dup, 1) := by decide +kernel
theorem dX2_remove_59 : decode cX2_remove 59 = .ok (.getfield 30, 3) := by decide +kernel
theorem dX2_remove_62 : decode cX2_remove 62 = .ok (.iconst 1, 1) := by decide +kernel
theorem dX2_remove_63 : decode cX2_remove 63 = .ok (.isub, 1) := by decide +kernel
theorem dX2_remove_64 : decode cX2_remove 64 = .ok (.putfield 30, 3) := by decide +kernel
theorem dX2_remove_67 : decode cX2_remove 67 = .ok (.return_, 1) := by decide +kernel
theorem dX2_sizeOfKind_0 : decode cX2_sizeOfKind 0 = .ok (.iconst 0, 1) := by decide +kernel
theorem dX2_sizeOfKind_1 : decode cX2_sizeOfKind 1 = .ok (.istore_n 2, 1) := by decide +kernel
theorem dX2_sizeOfKind_2 : decode cX2_sizeOfKind 2 = .ok (.iconst 0, 1) := by decide +kernel
theorem dX2_sizeOfKind_3 : decode cX2_sizeOfKind 3 = .ok (.istore_n 3, 1) := by decide +kernel
theorem dX2_sizeOfKind_4 : decode cX2_sizeOfKind 4 = .ok (.iload_n 3, 1) := by decide +kernel
theorem dX2_sizeOfKind_5 : decode cX2_sizeOfKind 5 = .ok (.aload_n 0, 1) := by decide +kernel
theorem dX2_sizeOfKind_6 : decode cX2_sizeOfKind 6 = .ok (.getfield 30, 3) := by decide +kernel
theorem dX2_sizeOfKind_9 : decode cX2_sizeOfKind 9 = .ok (.if_icmp .ge 22, 3) := by decide +kernel
theorem dX2_sizeOfKind_12 : decode cX2_sizeOfKind 12 = .ok (.aload_n 0, 1) := by decide +kernel
theorem dX2_sizeOfKind_13 : decode cX2_sizeOfKind 13 = .ok (.getfield 15, 3) := by decide +kernel
theorem dX2_sizeOfKind_16 : decode cX2_sizeOfKind 16 = .ok (.iload_n 3, 1) := by decide +kernel
theorem dX2_sizeOfKind_17 : decode cX2_sizeOfKind 17 = .ok (.iaload, 1) := by decide +kernel
theorem dX2_sizeOfKind_18 : decode cX2_sizeOfKind 18 = .ok (.iload_n 1, 1) := by decide +kernel
theorem dX2_sizeOfKind_19 : decode cX2_sizeOfKind 19 = .ok (.if_icmp .ne 6, 3) := by decide +kernel
theorem dX2_sizeOfKind_22 : decode cX2_sizeOfKind 22 = .ok (.iinc 2 1, 3) := by decide +kernel
theorem dX2_sizeOfKind_25 : decode cX2_sizeOfKind 25 = .ok (.iinc 3 1, 3) := by decide +kernel
theorem dX2_sizeOfKind_28 : decode cX2_sizeOfKind 28 = .ok (.goto (-24), 3) := by decide +kernel
theorem dX2_sizeOfKind_31 : decode cX2_sizeOfKind 31 = .ok (.iload_n 2, 1) := by decide +kernel
theorem dX2_sizeOfKind_32 : decode cX2_sizeOfKind 32 = .ok (.ireturn, 1) := by decide +kernel
set_option maxRecDepth 20000 in
theorem ggX2_oddsOf_X2_areAtOdds : GoodIn wsX2_oddsOf wsX2_areAtOdds := goodIn_r _ [6, 7, 8, 9, 10, 11, 12, 13, 14, 15] (by decide +kernel) (by decide +kernel)
set_option maxRecDepth 20000 in
theorem gX2_oddsOf_X2_areAtOdds : GoodIn wsX2_oddsOf (wsV RX2 50 RX2 yX2_areAtOdds wsX2_areAtOdds) := goodIn_app (goodIn_of _ (by decide +kernel)) ggX2_oddsOf_X2_areAtOdds
theorem dX2_oddsOf_0 : decode cX2_oddsOf 0 = .ok (.iconst 0, 1) := by decide +kernel
theorem dX2_oddsOf_1 : decode cX2_oddsOf 1 = .ok (.istore_n 2, 1) := by decide +kernel
theorem dX2_oddsOf_2 : decode cX2_oddsOf 2 = .ok (.iconst 0, 1) := by decide +kernel
theorem dX2_oddsOf_3 : decode cX2_oddsOf 3 = .ok (.istore_n 3, 1) := by decide +kernel
theorem dX2_oddsOf_4 : decode cX2_oddsOf 4 = .ok (.iload_n 3, 1) := by decide +kernel
theorem dX2_oddsOf_5 : decode cX2_oddsOf 5 = .ok (.aload_n 0, 1) := by decide +kernel
theorem dX2_oddsOf_6 : decode cX2_oddsOf 6 = .ok (.getfield 30, 3) := by decide +kernel
theorem dX2_oddsOf_9 : decode cX2_oddsOf 9 = .ok (.if_icmp .ge 21, 3) := by decide +kernel
theorem dX2_oddsOf_12 : decode cX2_oddsOf 12 = .ok (.aload_n 0, 1) := by decide +kernel
theorem dX2_oddsOf_13 : decode cX2_oddsOf 13 = .ok (.iload_n 1, 1) := by decide +kernel
theorem dX2_oddsOf_14 : decode cX2_oddsOf 14 = .ok (.iload_n 3, 1) := by decide +kernel
theorem dX2_oddsOf_15 : decode cX2_oddsOf 15 = .ok (.invokevirtual 50, 3) := by decide +kernel
theorem dX2_oddsOf_18 : decode cX2_oddsOf 18 = .ok (.ifCond .eq 6, 3) := by decide +kernel
theorem dX2_oddsOf_21 : decode cX2_oddsOf 21 = .ok (.iinc 2 1, 3) := by decide +kernel
theorem dX2_oddsOf_24 : decode cX2_oddsOf 24 = .ok (.iinc 3 1, 3) := by decide +kernel
theorem dX2_oddsOf_27 : decode cX2_oddsOf 27 = .ok (.goto (-23), 3) := by decide +kernel
theorem dX2_oddsOf_30 : decode cX2_oddsOf 30 = .ok (.iload_n 2, 1) := by decide +kernel
theorem dX2_oddsOf_31 : decode cX2_oddsOf 31 = .ok (.ireturn, 1) := by decide +kernel
set_option maxRecDepth 20000 in
theorem ggX2_oddPairs_X2_oddsOf : GoodIn wsX2_oddPairs wsX2_oddsOf := goodIn_r _ [7, 1, 8, 9, 10, 6, 11, 2, 12, 13, 14, 15, 16, 17, 18, 19] (by decide +kernel) (by decide +kernel)
set_option maxRecDepth 20000 in
theorem gX2_oddPairs_X2_oddsOf : GoodIn wsX2_oddPairs (wsV RX2 54 RX2 yX2_oddsOf wsX2_oddsOf) := goodIn_app (goodIn_of _ (by decide +kernel)) ggX2_oddPairs_X2_oddsOf
theorem dX2_oddPairs_0 : decode cX2_oddPairs 0 = .ok (.iconst 0, 1) := by decide +kernel
theorem dX2_oddPairs_1 : decode cX2_oddPairs 1 = .ok (.istore_n 1, 1) := by decide +kernel
theorem dX2_oddPairs_2 : decode cX2_oddPairs 2 = .ok (.iconst 0, 1) := by decide +kernel
theorem dX2_oddPairs_3 : decode cX2_oddPairs 3 = .ok (.istore_n 2, 1) := by decide +kernel
theorem dX2_oddPairs_4 : decode cX2_oddPairs 4 = .ok (.iload_n 2, 1) := by decide +kernel
theorem dX2_oddPairs_5 : decode cX2_oddPairs 5 = .ok (.aload_n 0, 1) := by decide +kernel
theorem dX2_oddPairs_6 : decode cX2_oddPairs 6 = .ok (.getfield 30, 3) := by decide +kernel
theorem dX2_oddPairs_9 : decode cX2_oddPairs 9 = .ok (.if_icmp .ge 27, 3) := by decide +kernel
theorem dX2_oddPairs_12 : decode cX2_oddPairs 12 = .ok (.aload_n 0, 1) := by decide +kernel
theorem dX2_oddPairs_13 : decode cX2_oddPairs 13 = .ok (.getfield 15, 3) := by decide +kernel
theorem dX2_oddPairs_16 : decode cX2_oddPairs 16 = .ok (.iload_n 2, 1) := by decide +kernel
theorem dX2_oddPairs_17 : decode cX2_oddPairs 17 = .ok (.iaload, 1) := by decide +kernel
theorem dX2_oddPairs_18 : decode cX2_oddPairs 18 = .ok (.iconst 1, 1) := by decide +kernel
theorem dX2_oddPairs_19 : decode cX2_oddPairs 19 = .ok (.if_icmp .ne 11, 3) := by decide +kernel
theorem dX2_oddPairs_22 : decode cX2_oddPairs 22 = .ok (.iload_n 1, 1) := by decide +kernel
theorem dX2_oddPairs_23 : decode cX2_oddPairs 23 = .ok (.aload_n 0, 1) := by decide +kernel
theorem dX2_oddPairs_24 : decode cX2_oddPairs 24 = .ok (.iload_n 2, 1) := by decide +kernel
theorem dX2_oddPairs_25 : decode cX2_oddPairs 25 = .ok (.invokevirtual 54, 3) := by decide +kernel
theorem dX2_oddPairs_28 : decode cX2_oddPairs 28 = .ok (.iadd, 1) := by decide +kernel
theorem dX2_oddPairs_29 : decode cX2_oddPairs 29 = .ok (.istore_n 1, 1) := by decide +kernel
theorem dX2_oddPairs_30 : decode cX2_oddPairs 30 = .ok (.iinc 2 1, 3) := by decide +kernel
theorem dX2_oddPairs_33 : decode cX2_oddPairs 33 = .ok (.goto (-29), 3) := by decide +kernel
theorem dX2_oddPairs_36 : decode cX2_oddPairs 36 = .ok (.iload_n 1, 1) := by decide +kernel
theorem dX2_oddPairs_37 : decode cX2_oddPairs 37 = .ok (.ireturn, 1) := by decide +kernel
theorem dX2_areAtOdds_0 : decode cX2_areAtOdds 0 = .ok (.aload_n 0, 1) := by decide +kernel
theorem dX2_areAtOdds_1 : decode cX2_areAtOdds 1 = .ok (.getfield 15, 3) := by decide +kernel
theorem dX2_areAtOdds_4 : decode cX2_areAtOdds 4 = .ok (.iload_n 1, 1) := by decide +kernel
theorem dX2_areAtOdds_5 : decode cX2_areAtOdds 5 = .ok (.iaload, 1) := by decide +kernel
theorem dX2_areAtOdds_6 : decode cX2_areAtOdds 6 = .ok (.iconst 1, 1) := by decide +kernel
theorem dX2_areAtOdds_7 : decode cX2_areAtOdds 7 = .ok (.if_icmp .ne 7, 3) := by decide +kernel
theorem dX2_areAtOdds_10 : decode cX2_areAtOdds 10 = .ok (.iconst 1, 1) := by decide +kernel
theorem dX2_areAtOdds_11 : decode cX2_areAtOdds 11 = .ok (.goto 4, 3) := by decide +kernel
theorem dX2_areAtOdds_14 : decode cX2_areAtOdds 14 = .ok (.iconst 0, 1) := by decide +kernel
theorem dX2_areAtOdds_15 : decode cX2_areAtOdds 15 = .ok (.aload_n 0, 1) := by decide +kernel
theorem dX2_areAtOdds_16 : decode cX2_areAtOdds 16 = .ok (.getfield 15, 3) := by decide +kernel
theorem dX2_areAtOdds_19 : decode cX2_areAtOdds 19 = .ok (.iload_n 2, 1) := by decide +kernel
theorem dX2_areAtOdds_20 : decode cX2_areAtOdds 20 = .ok (.iaload, 1) := by decide +kernel
theorem dX2_areAtOdds_21 : decode cX2_areAtOdds 21 = .ok (.iconst 1, 1) := by decide +kernel
theorem dX2_areAtOdds_22 : decode cX2_areAtOdds 22 = .ok (.if_icmp .ne 7, 3) := by decide +kernel
theorem dX2_areAtOdds_25 : decode cX2_areAtOdds 25 = .ok (.iconst 1, 1) := by decide +kernel
theorem dX2_areAtOdds_26 : decode cX2_areAtOdds 26 = .ok (.goto 4, 3) := by decide +kernel
theorem dX2_areAtOdds_29 : decode cX2_areAtOdds 29 = .ok (.iconst 0, 1) := by decide +kernel
theorem dX2_areAtOdds_30 : decode cX2_areAtOdds 30 = .ok (.if_icmp .eq 23, 3) := by decide +kernel
theorem dX2_areAtOdds_33 : decode cX2_areAtOdds 33 = .ok (.aload_n 0, 1) := by decide +kernel
theorem dX2_areAtOdds_34 : decode cX2_areAtOdds 34 = .ok (.getfield 27, 3) := by decide +kernel
theorem dX2_areAtOdds_37 : decode cX2_areAtOdds 37 = .ok (.iload_n 1, 1) := by decide +kernel
theorem dX2_areAtOdds_38 : decode cX2_areAtOdds 38 = .ok (.iaload, 1) := by decide +kernel
theorem dX2_areAtOdds_39 : decode cX2_areAtOdds 39 = .ok (.aload_n 0, 1) := by decide +kernel
theorem dX2_areAtOdds_40 : decode cX2_areAtOdds 40 = .ok (.getfield 27, 3) := by decide +kernel
theorem dX2_areAtOdds_43 : decode cX2_areAtOdds 43 = .ok (.iload_n 2, 1) := by decide +kernel
theorem dX2_areAtOdds_44 : decode cX2_areAtOdds 44 = .ok (.iaload, 1) := by decide +kernel
theorem dX2_areAtOdds_45 : decode cX2_areAtOdds 45 = .ok (.iand, 1) := by decide +kernel
theorem dX2_areAtOdds_46 : decode cX2_areAtOdds 46 = .ok (.ifCond .eq 7, 3) := by decide +kernel
theorem dX2_areAtOdds_49 : decode cX2_areAtOdds 49 = .ok (.iconst 1, 1) := by decide +kernel
theorem dX2_areAtOdds_50 : decode cX2_areAtOdds 50 = .ok (.goto 4, 3) := by decide +kernel
theorem dX2_areAtOdds_53 : decode cX2_areAtOdds 53 = .ok (.iconst 0, 1) := by decide +kernel
theorem dX2_areAtOdds_54 : decode cX2_areAtOdds 54 = .ok (.ireturn, 1) := by decide +kernel
set_option maxRecDepth 20000 in
theorem ggX2_reason_X2_permittedPairs : GoodIn wsX2_reason wsX2_permittedPairs := goodIn_r _ [9, 1, 2, 10, 19, 20, 21, 22, 23, 24, 25] (by decide +kernel) (by decide +kernel)
set_option maxRecDepth 20000 in
theorem gX2_reason_X2_permittedPairs : GoodIn wsX2_reason (wsV RX2 58 RX2 yX2_permittedPairs wsX2_permittedPairs) := goodIn_app (goodIn_of _ (by decide +kernel)) ggX2_reason_X2_permittedPairs
set_option maxRecDepth 20000 in
theorem ggX2_reason_X2_heldPairs : GoodIn wsX2_reason wsX2_heldPairs := goodIn_r _ [14, 10, 1, 15, 16, 17, 8, 18, 2, 4, 3, 19, 20, 21, 22, 23, 24, 25] (by decide +kernel) (by decide +kernel)
set_option maxRecDepth 20000 in
theorem gX2_reason_X2_heldPairs : GoodIn wsX2_reason (wsV RX2 62 RX2 yX2_heldPairs wsX2_heldPairs) := goodIn_app (goodIn_of _ (by decide +kernel)) ggX2_reason_X2_heldPairs
theorem dX2_reason_0 : decode cX2_reason 0 = .ok (.aload_n 0, 1) := by decide +kernel
theorem dX2_reason_1 : decode cX2_reason 1 = .ok (.invokevirtual 58, 3) := by decide +kernel
theorem dX2_reason_4 : decode cX2_reason 4 = .ok (.iload_n 1, 1) := by decide +kernel
theorem dX2_reason_5 : decode cX2_reason 5 = .ok (.iand, 1) := by decide +kernel
theorem dX2_reason_6 : decode cX2_reason 6 = .ok (.ifCond .ne 6, 3) := by decide +kernel
theorem dX2_reason_9 : decode cX2_reason 9 = .ok (.bipush 100, 2) := by decide +kernel
theorem dX2_reason_11 : decode cX2_reason 11 = .ok (.ireturn, 1) := by decide +kernel
theorem dX2_reason_12 : decode cX2_reason 12 = .ok (.bipush (-6), 2) := by decide +kernel
theorem dX2_reason_14 : decode cX2_reason 14 = .ok (.istore_n 3, 1) := by decide +kernel
theorem dX2_reason_15 : decode cX2_reason 15 = .ok (.iconst 5, 1) := by decide +kernel
theorem dX2_reason_16 : decode cX2_reason 16 = .ok (.istore 4, 2) := by decide +kernel
theorem dX2_reason_18 : decode cX2_reason 18 = .ok (.iconst 0, 1) := by decide +kernel
theorem dX2_reason_19 : decode cX2_reason 19 = .ok (.istore 5, 2) := by decide +kernel
theorem dX2_reason_21 : decode cX2_reason 21 = .ok (.iload 5, 2) := by decide +kernel
theorem dX2_reason_23 : decode cX2_reason 23 = .ok (.aload_n 0, 1) := by decide +kernel
theorem dX2_reason_24 : decode cX2_reason 24 = .ok (.getfield 30, 3) := by decide +kernel
theorem dX2_reason_27 : decode cX2_reason 27 = .ok (.if_icmp .ge 69, 3) := by decide +kernel
theorem dX2_reason_30 : decode cX2_reason 30 = .ok (.aload_n 0, 1) := by decide +kernel
theorem dX2_reason_31 : decode cX2_reason 31 = .ok (.getfield 15, 3) := by decide +kernel
theorem dX2_reason_34 : decode cX2_reason 34 = .ok (.iload 5, 2) := by decide +kernel
theorem dX2_reason_36 : decode cX2_reason 36 = .ok (.iaload, 1) := by decide +kernel
theorem dX2_reason_37 : decode cX2_reason 37 = .ok (.iconst 1, 1) := by decide +kernel
theorem dX2_reason_38 : decode cX2_reason 38 = .ok (.if_icmp .ne 52, 3) := by decide +kernel
theorem dX2_reason_41 : decode cX2_reason 41 = .ok (.iload_n 2, 1) := by decide +kernel
theorem dX2_reason_42 : decode cX2_reason 42 = .ok (.aload_n 0, 1) := by decide +kernel
theorem dX2_reason_43 : decode cX2_reason 43 = .ok (.getfield 24, 3) := by decide +kernel
theorem dX2_reason_46 : decode cX2_reason 46 = .ok (.iload 5, 2) := by decide +kernel
theorem dX2_reason_48 : decode cX2_reason 48 = .ok (.iaload, 1) := by decide +kernel
theorem dX2_reason_49 : decode cX2_reason 49 = .ok (.if_icmp .ge 41, 3) := by decide +kernel
theorem dX2_reason_52 : decode cX2_reason 52 = .ok (.aload_n 0, 1) := by decide +kernel
theorem dX2_reason_53 : decode cX2_reason 53 = .ok (.getfield 11, 3) := by decide +kernel
theorem dX2_reason_56 : decode cX2_reason 56 = .ok (.iload 5, 2) := by decide +kernel
theorem dX2_reason_58 : decode cX2_reason 58 = .ok (.iaload, 1) := by decide +kernel
theorem dX2_reason_59 : decode cX2_reason 59 = .ok (.iload 4, 2) := by decide +kernel
theorem dX2_reason_61 : decode cX2_reason 61 = .ok (.if_icmp .lt 6, 3) := by decide +kernel
theorem dX2_reason_64 : decode cX2_reason 64 = .ok (.goto 26, 3) := by decide +kernel
theorem dX2_reason_67 : decode cX2_reason 67 = .ok (.aload_n 0, 1) := by decide +kernel
theorem dX2_reason_68 : decode cX2_reason 68 = .ok (.iload 5, 2) := by decide +kernel
theorem dX2_reason_70 : decode cX2_reason 70 = .ok (.invokevirtual 62, 3) := by decide +kernel
theorem dX2_reason_73 : decode cX2_reason 73 = .ok (.iload_n 1, 1) := by decide +kernel
theorem dX2_reason_74 : decode cX2_reason 74 = .ok (.iand, 1) := by decide +kernel
theorem dX2_reason_75 : decode cX2_reason 75 = .ok (.ifCond .eq 15, 3) := by decide +kernel
theorem dX2_reason_78 : decode cX2_reason 78 = .ok (.iload 5, 2) := by decide +kernel
theorem dX2_reason_80 : decode cX2_reason 80 = .ok (.istore_n 3, 1) := by decide +kernel
theorem dX2_reason_81 : decode cX2_reason 81 = .ok (.aload_n 0, 1) := by decide +kernel
theorem dX2_reason_82 : decode cX2_reason 82 = .ok (.getfield 11, 3) := by decide +kernel
theorem dX2_reason_85 : decode cX2_reason 85 = .ok (.iload 5, 2) := by decide +kernel
theorem dX2_reason_87 : decode cX2_reason 87 = .ok (.iaload, 1) := by decide +kernel
theorem dX2_reason_88 : decode cX2_reason 88 = .ok (.istore 4, 2) := by decide +kernel
theorem dX2_reason_90 : decode cX2_reason 90 = .ok (.iinc 5 1, 3) := by decide +kernel
theorem dX2_reason_93 : decode cX2_reason 93 = .ok (.goto (-72), 3) := by decide +kernel
theorem dX2_reason_96 : decode cX2_reason 96 = .ok (.iload_n 3, 1) := by decide +kernel
theorem dX2_reason_97 : decode cX2_reason 97 = .ok (.ireturn, 1) := by decide +kernel
set_option maxRecDepth 20000 in
theorem ggX2_allowsByLayers_X2_permittedPairs : GoodIn wsX2_allowsByLayers wsX2_permittedPairs := goodIn_r _ [9, 10, 11, 12, 19, 20, 21, 22, 23, 24, 25] (by decide +kernel) (by decide +kernel)
set_option maxRecDepth 20000 in
theorem gX2_allowsByLayers_X2_permittedPairs : GoodIn wsX2_allowsByLayers (wsV RX2 58 RX2 yX2_permittedPairs wsX2_permittedPairs) := goodIn_app (goodIn_of _ (by decide +kernel)) ggX2_allowsByLayers_X2_permittedPairs
set_option maxRecDepth 20000 in
theorem ggX2_allowsByLayers_X2_strongest : GoodIn wsX2_allowsByLayers wsX2_strongest := goodIn_r _ [16, 10, 11, 17, 12, 18, 1, 2, 3, 4, 19, 20, 21, 22, 23, 24, 25] (by decide +kernel) (by decide +kernel)
set_option maxRecDepth 20000 in
theorem gX2_allowsByLayers_X2_strongest : GoodIn wsX2_allowsByLayers (wsV RX2 65 RX2 yX2_strongest wsX2_strongest) := goodIn_app (goodIn_of _ (by decide +kernel)) ggX2_allowsByLayers_X2_strongest
theorem dX2_allowsByLayers_0 : decode cX2_allowsByLayers 0 = .ok (.aload_n 0, 1) := by decide +kernel
theorem dX2_allowsByLayers_1 : decode cX2_allowsByLayers 1 = .ok (.invokevirtual 58, 3) := by decide +kernel
theorem dX2_allowsByLayers_4 : decode cX2_allowsByLayers 4 = .ok (.iload_n 1, 1) := by decide +kernel
theorem dX2_allowsByLayers_5 : decode cX2_allowsByLayers 5 = .ok (.iand, 1) := by decide +kernel
theorem dX2_allowsByLayers_6 : decode cX2_allowsByLayers 6 = .ok (.ifCond .ne 5, 3) := by decide +kernel
theorem dX2_allowsByLayers_9 : decode cX2_allowsByLayers 9 = .ok (.iconst 0, 1) := by decide +kernel
theorem dX2_allowsByLayers_10 : decode cX2_allowsByLayers 10 = .ok (.ireturn, 1) := by decide +kernel
theorem dX2_allowsByLayers_11 : decode cX2_allowsByLayers 11 = .ok (.iconst 0, 1) := by decide +kernel
theorem dX2_allowsByLayers_12 : decode cX2_allowsByLayers 12 = .ok (.istore_n 3, 1) := by decide +kernel
theorem dX2_allowsByLayers_13 : decode cX2_allowsByLayers 13 = .ok (.iconst 0, 1) := by decide +kernel
theorem dX2_allowsByLayers_14 : decode cX2_allowsByLayers 14 = .ok (.istore 4, 2) := by decide +kernel
theorem dX2_allowsByLayers_16 : decode cX2_allowsByLayers 16 = .ok (.iload 4, 2) := by decide +kernel
theorem dX2_allowsByLayers_18 : decode cX2_allowsByLayers 18 = .ok (.iconst 5, 1) := by decide +kernel
theorem dX2_allowsByLayers_19 : decode cX2_allowsByLayers 19 = .ok (.if_icmp .ge 40, 3) := by decide +kernel
theorem dX2_allowsByLayers_22 : decode cX2_allowsByLayers 22 = .ok (.iload_n 3, 1) := by decide +kernel
theorem dX2_allowsByLayers_23 : decode cX2_allowsByLayers 23 = .ok (.aload_n 0, 1) := by decide +kernel
theorem dX2_allowsByLayers_24 : decode cX2_allowsByLayers 24 = .ok (.iconst 2, 1) := by decide +kernel
theorem dX2_allowsByLayers_25 : decode cX2_allowsByLayers 25 = .ok (.iload 4, 2) := by decide +kernel
theorem dX2_allowsByLayers_27 : decode cX2_allowsByLayers 27 = .ok (.iload_n 1, 1) := by decide +kernel
theorem dX2_allowsByLayers_28 : decode cX2_allowsByLayers 28 = .ok (.invokevirtual 65, 3) := by decide +kernel
theorem dX2_allowsByLayers_31 : decode cX2_allowsByLayers 31 = .ok (.invokestatic 69, 3) := by decide +kernel
theorem dX2_allowsByLayers_34 : decode cX2_allowsByLayers 34 = .ok (.istore_n 3, 1) := by decide +kernel
theorem dX2_allowsByLayers_35 : decode cX2_allowsByLayers 35 = .ok (.aload_n 0, 1) := by decide +kernel
theorem dX2_allowsByLayers_36 : decode cX2_allowsByLayers 36 = .ok (.iconst 1, 1) := by decide +kernel
theorem dX2_allowsByLayers_37 : decode cX2_allowsByLayers 37 = .ok (.iload 4, 2) := by decide +kernel
theorem dX2_allowsByLayers_39 : decode cX2_allowsByLayers 39 = .ok (.iload_n 1, 1) := by decide +kernel
theorem dX2_allowsByLayers_40 : decode cX2_allowsByLayers 40 = .ok (.invokevirtual 65, 3) := by decide +kernel
theorem dX2_allowsByLayers_43 : decode cX2_allowsByLayers 43 = .ok (.iload_n 3, 1) := by decide +kernel
theorem dX2_allowsByLayers_44 : decode cX2_allowsByLayers 44 = .ok (.iload_n 2, 1) := by decide +kernel
theorem dX2_allowsByLayers_45 : decode cX2_allowsByLayers 45 = .ok (.invokestatic 69, 3) := by decide +kernel
theorem dX2_allowsByLayers_48 : decode cX2_allowsByLayers 48 = .ok (.if_icmp .le 5, 3) := by decide +kernel
theorem dX2_allowsByLayers_51 : decode cX2_allowsByLayers 51 = .ok (.iconst 0, 1) := by decide +kernel
theorem dX2_allowsByLayers_52 : decode cX2_allowsByLayers 52 = .ok (.ireturn, 1) := by decide +kernel
theorem dX2_allowsByLayers_53 : decode cX2_allowsByLayers 53 = .ok (.iinc 4 1, 3) := by decide +kernel
theorem dX2_allowsByLayers_56 : decode cX2_allowsByLayers 56 = .ok (.goto (-40), 3) := by decide +kernel
theorem dX2_allowsByLayers_59 : decode cX2_allowsByLayers 59 = .ok (.iconst 1, 1) := by decide +kernel
theorem dX2_allowsByLayers_60 : decode cX2_allowsByLayers 60 = .ok (.ireturn, 1) := by decide +kernel
theorem dX2_strongest_0 : decode cX2_strongest 0 = .ok (.iconst 0, 1) := by decide +kernel
theorem dX2_strongest_1 : decode cX2_strongest 1 = .ok (.istore 4, 2) := by decide +kernel
theorem dX2_strongest_3 : decode cX2_strongest 3 = .ok (.iconst 0, 1) := by decide +kernel
theorem dX2_strongest_4 : decode cX2_strongest 4 = .ok (.istore 5, 2) := by decide +kernel
theorem dX2_strongest_6 : decode cX2_strongest 6 = .ok (.iload 5, 2) := by decide +kernel
theorem dX2_strongest_8 : decode cX2_strongest 8 = .ok (.aload_n 0, 1) := by decide +kernel
theorem dX2_strongest_9 : decode cX2_strongest 9 = .ok (.getfield 30, 3) := by decide +kernel
theorem dX2_strongest_12 : decode cX2_strongest 12 = .ok (.if_icmp .ge 57, 3) := by decide +kernel
theorem dX2_strongest_15 : decode cX2_strongest 15 = .ok (.aload_n 0, 1) := by decide +kernel
theorem dX2_strongest_16 : decode cX2_strongest 16 = .ok (.getfield 15, 3) := by decide +kernel
theorem dX2_strongest_19 : decode cX2_strongest 19 = .ok (.iload 5, 2) := by decide +kernel
theorem dX2_strongest_21 : decode cX2_strongest 21 = .ok (.iaload, 1) := by decide +kernel
theorem dX2_strongest_22 : decode cX2_strongest 22 = .ok (.iload_n 1, 1) := by decide +kernel
theorem dX2_strongest_23 : decode cX2_strongest 23 = .ok (.if_icmp .ne 40, 3) := by decide +kernel
theorem dX2_strongest_26 : decode cX2_strongest 26 = .ok (.aload_n 0, 1) := by decide +kernel
theorem dX2_strongest_27 : decode cX2_strongest 27 = .ok (.getfield 11, 3) := by decide +kernel
theorem dX2_strongest_30 : decode cX2_strongest 30 = .ok (.iload 5, 2) := by decide +kernel
theorem dX2_strongest_32 : decode cX2_strongest 32 = .ok (.iaload, 1) := by decide +kernel
theorem dX2_strongest_33 : decode cX2_strongest 33 = .ok (.iload_n 2, 1) := by decide +kernel
theorem dX2_strongest_34 : decode cX2_strongest 34 = .ok (.if_icmp .ne 29, 3) := by decide +kernel
theorem dX2_strongest_37 : decode cX2_strongest 37 = .ok (.aload_n 0, 1) := by decide +kernel
theorem dX2_strongest_38 : decode cX2_strongest 38 = .ok (.getfield 27, 3) := by decide +kernel
theorem dX2_strongest_41 : decode cX2_strongest 41 = .ok (.iload 5, 2) := by decide +kernel
theorem dX2_strongest_43 : decode cX2_strongest 43 = .ok (.iaload, 1) := by decide +kernel
theorem dX2_strongest_44 : decode cX2_strongest 44 = .ok (.iload_n 3, 1) := by decide +kernel
theorem dX2_strongest_45 : decode cX2_strongest 45 = .ok (.iand, 1) := by decide +kernel
theorem dX2_strongest_46 : decode cX2_strongest 46 = .ok (.ifCond .eq 17, 3) := by decide +kernel
theorem dX2_strongest_49 : decode cX2_strongest 49 = .ok (.iload 4, 2) := by decide +kernel
theorem dX2_strongest_51 : decode cX2_strongest 51 = .ok (.aload_n 0, 1) := by decide +kernel
theorem dX2_strongest_52 : decode cX2_strongest 52 = .ok (.getfield 24, 3) := by decide +kernel
theorem dX2_strongest_55 : decode cX2_strongest 55 = .ok (.iload 5, 2) := by decide +kernel
theorem dX2_strongest_57 : decode cX2_strongest 57 = .ok (.iaload, 1) := by decide +kernel
theorem dX2_strongest_58 : decode cX2_strongest 58 = .ok (.invokestatic 69, 3) := by decide +kernel
theorem dX2_strongest_61 : decode cX2_strongest 61 = .ok (.istore 4, 2) := by decide +kernel
theorem dX2_strongest_63 : decode cX2_strongest 63 = .ok (.iinc 5 1, 3) := by decide +kernel
theorem dX2_strongest_66 : decode cX2_strongest 66 = .ok (.goto (-60), 3) := by decide +kernel
theorem dX2_strongest_69 : decode cX2_strongest 69 = .ok (.iload 4, 2) := by decide +kernel
theorem dX2_strongest_71 : decode cX2_strongest 71 = .ok (.ireturn, 1) := by decide +kernel
set_option maxRecDepth 20000 in
theorem ggX2_allowedPairs_X2_permittedPairs : GoodIn wsX2_allowedPairs wsX2_permittedPairs := goodIn_r _ [5, 6, 7, 8, 23, 24, 25, 26, 27, 28, 29] (by decide +kernel) (by decide +kernel)
set_option maxRecDepth 20000 in
theorem gX2_allowedPairs_X2_permittedPairs : GoodIn wsX2_allowedPairs (wsV RX2 58 RX2 yX2_permittedPairs wsX2_permittedPairs) := goodIn_app (goodIn_of _ (by decide +kernel)) ggX2_allowedPairs_X2_permittedPairs
set_option maxRecDepth 20000 in
theorem ggX2_allowedPairs_X2_heldPairsOfSeal : GoodIn wsX2_allowedPairs wsX2_heldPairsOfSeal := goodIn_r _ [12, 6, 7, 13, 14, 15, 16, 4, 17, 8, 18, 19, 20, 21, 22, 23, 24, 25, 26, 27, 28, 29] (by decide +kernel) (by decide +kernel)
set_option maxRecDepth 20000 in
theorem gX2_allowedPairs_X2_heldPairsOfSeal : GoodIn wsX2_allowedPairs (wsV RX2 74 RX2 yX2_heldPairsOfSeal wsX2_heldPairsOfSeal) := goodIn_app (goodIn_of _ (by decide +kernel)) ggX2_allowedPairs_X2_heldPairsOfSeal
theorem dX2_allowedPairs_0 : decode cX2_allowedPairs 0 = .ok (.aload_n 0, 1) := by decide +kernel
theorem dX2_allowedPairs_1 : decode cX2_allowedPairs 1 = .ok (.invokevirtual 58, 3) := by decide +kernel
theorem dX2_allowedPairs_4 : decode cX2_allowedPairs 4 = .ok (.istore_n 2, 1) := by decide +kernel
theorem dX2_allowedPairs_5 : decode cX2_allowedPairs 5 = .ok (.bipush 9, 2) := by decide +kernel
theorem dX2_allowedPairs_7 : decode cX2_allowedPairs 7 = .ok (.istore_n 3, 1) := by decide +kernel
theorem dX2_allowedPairs_8 : decode cX2_allowedPairs 8 = .ok (.iload_n 3, 1) := by decide +kernel
theorem dX2_allowedPairs_9 : decode cX2_allowedPairs 9 = .ok (.iload_n 1, 1) := by decide +kernel
theorem dX2_allowedPairs_10 : decode cX2_allowedPairs 10 = .ok (.if_icmp .le 19, 3) := by decide +kernel
theorem dX2_allowedPairs_13 : decode cX2_allowedPairs 13 = .ok (.iload_n 2, 1) := by decide +kernel
theorem dX2_allowedPairs_14 : decode cX2_allowedPairs 14 = .ok (.aload_n 0, 1) := by decide +kernel
theorem dX2_allowedPairs_15 : decode cX2_allowedPairs 15 = .ok (.iload_n 3, 1) := by decide +kernel
theorem dX2_allowedPairs_16 : decode cX2_allowedPairs 16 = .ok (.invokevirtual 74, 3) := by decide +kernel
theorem dX2_allowedPairs_19 : decode cX2_allowedPairs 19 = .ok (.iconst (-1), 1) := by decide +kernel
theorem dX2_allowedPairs_20 : decode cX2_allowedPairs 20 = .ok (.ixor, 1) := by decide +kernel
theorem dX2_allowedPairs_21 : decode cX2_allowedPairs 21 = .ok (.iand, 1) := by decide +kernel
theorem dX2_allowedPairs_22 : decode cX2_allowedPairs 22 = .ok (.istore_n 2, 1) := by decide +kernel
theorem dX2_allowedPairs_23 : decode cX2_allowedPairs 23 = .ok (.iinc 3 (-1), 3) := by decide +kernel
theorem dX2_allowedPairs_26 : decode cX2_allowedPairs 26 = .ok (.goto (-18), 3) := by decide +kernel
theorem dX2_allowedPairs_29 : decode cX2_allowedPairs 29 = .ok (.iload_n 2, 1) := by decide +kernel
theorem dX2_allowedPairs_30 : decode cX2_allowedPairs 30 = .ok (.ireturn, 1) := by decide +kernel
set_option maxRecDepth 20000 in
theorem ggX2_triples_X2_permittedPairs : GoodIn wsX2_triples wsX2_permittedPairs := goodIn_r _ [5, 6, 7, 8, 30, 31, 32, 33, 34, 35, 36] (by decide +kernel) (by decide +kernel)
set_option maxRecDepth 20000 in
theorem gX2_triples_X2_permittedPairs : GoodIn wsX2_triples (wsV RX2 58 RX2 yX2_permittedPairs wsX2_permittedPairs) := goodIn_app (goodIn_of _ (by decide +kernel)) ggX2_triples_X2_permittedPairs
set_option maxRecDepth 20000 in
theorem ggX2_triples_J6_bitCount_0f7a4 : GoodIn wsX2_triples wsJ6_bitCount_0f7a4 := goodIn_r _ [12, 13, 14, 15] (by decide +kernel) (by decide +kernel)
set_option maxRecDepth 20000 in
theorem gX2_triples_J6_bitCount_0f7a4 : GoodIn wsX2_triples (va_wsS RX2 77 yJ6_bitCount_0f7a4 wsJ6_bitCount_0f7a4) := goodIn_app (goodIn_of _ (by decide +kernel)) ggX2_triples_J6_bitCount_0f7a4
set_option maxRecDepth 20000 in
theorem ggX2_triples_X2_heldPairsOfSeal : GoodIn wsX2_triples wsX2_heldPairsOfSeal := goodIn_r _ [19, 6, 7, 20, 21, 22, 23, 4, 24, 8, 25, 26, 27, 28, 29, 30, 31, 32, 33, 34, 35, 36] (by decide +kernel) (by decide +kernel)
set_option maxRecDepth 20000 in
theorem gX2_triples_X2_heldPairsOfSeal : GoodIn wsX2_triples (wsV RX2 74 RX2 yX2_heldPairsOfSeal wsX2_heldPairsOfSeal) := goodIn_app (goodIn_of _ (by decide +kernel)) ggX2_triples_X2_heldPairsOfSeal
theorem dX2_triples_0 : decode cX2_triples 0 = .ok (.aload_n 0, 1) := by decide +kernel
theorem dX2_triples_1 : decode cX2_triples 1 = .ok (.invokevirtual 58, 3) := by decide +kernel
theorem dX2_triples_4 : decode cX2_triples 4 = .ok (.istore_n 1, 1) := by decide +kernel
theorem dX2_triples_5 : decode cX2_triples 5 = .ok (.iload_n 1, 1) := by decide +kernel
theorem dX2_triples_6 : decode cX2_triples 6 = .ok (.invokestatic 77, 3) := by decide +kernel
theorem dX2_triples_9 : decode cX2_triples 9 = .ok (.istore_n 2, 1) := by decide +kernel
theorem dX2_triples_10 : decode cX2_triples 10 = .ok (.bipush 9, 2) := by decide +kernel
theorem dX2_triples_12 : decode cX2_triples 12 = .ok (.istore_n 3, 1) := by decide +kernel
theorem dX2_triples_13 : decode cX2_triples 13 = .ok (.iload_n 3, 1) := by decide +kernel
theorem dX2_triples_14 : decode cX2_triples 14 = .ok (.iconst 1, 1) := by decide +kernel
theorem dX2_triples_15 : decode cX2_triples 15 = .ok (.if_icmp .lt 26, 3) := by decide +kernel
theorem dX2_triples_18 : decode cX2_triples 18 = .ok (.iload_n 1, 1) := by decide +kernel
theorem dX2_triples_19 : decode cX2_triples 19 = .ok (.aload_n 0, 1) := by decide +kernel
theorem dX2_triples_20 : decode cX2_triples 20 = .ok (.iload_n 3, 1) := by decide +kernel
theorem dX2_triples_21 : decode cX2_triples 21 = .ok (.invokevirtual 74, 3) := by decide +kernel
theorem dX2_triples_24 : decode cX2_triples 24 = .ok (.iconst (-1), 1) := by decide +kernel
theorem dX2_triples_25 : decode cX2_triples 25 = .ok (.ixor, 1) := by decide +kernel
theorem dX2_triples_26 : decode cX2_triples 26 = .ok (.iand, 1) := by decide +kernel
theorem dX2_triples_27 : decode cX2_triples 27 = .ok (.istore_n 1, 1) := by decide +kernel
theorem dX2_triples_28 : decode cX2_triples 28 = .ok (.iload_n 2, 1) := by decide +kernel
theorem dX2_triples_29 : decode cX2_triples 29 = .ok (.iload_n 1, 1) := by decide +kernel
theorem dX2_triples_30 : decode cX2_triples 30 = .ok (.invokestatic 77, 3) := by decide +kernel
theorem dX2_triples_33 : decode cX2_triples 33 = .ok (.iadd, 1) := by decide +kernel
theorem dX2_triples_34 : decode cX2_triples 34 = .ok (.istore_n 2, 1) := by decide +kernel
theorem dX2_triples_35 : decode cX2_triples 35 = .ok (.iinc 3 (-1), 3) := by decide +kernel
theorem dX2_triples_38 : decode cX2_triples 38 = .ok (.goto (-25), 3) := by decide +kernel
theorem dX2_triples_41 : decode cX2_triples 41 = .ok (.iload_n 2, 1) := by decide +kernel
theorem dX2_triples_42 : decode cX2_triples 42 = .ok (.ireturn, 1) := by decide +kernel
set_option maxRecDepth 20000 in
theorem ggX2_leastRankFor_X2_permittedPairs : GoodIn wsX2_leastRankFor wsX2_permittedPairs := goodIn_r _ [5, 6, 7, 8, 23, 24, 25, 26, 27, 28, 29] (by decide +kernel) (by decide +kernel)
set_option maxRecDepth 20000 in
theorem gX2_leastRankFor_X2_permittedPairs : GoodIn wsX2_leastRankFor (wsV RX2 58 RX2 yX2_permittedPairs wsX2_permittedPairs) := goodIn_app (goodIn_of _ (by decide +kernel)) ggX2_leastRankFor_X2_permittedPairs
set_option maxRecDepth 20000 in
theorem ggX2_leastRankFor_X2_heldPairsOfSeal : GoodIn wsX2_leastRankFor wsX2_heldPairsOfSeal := goodIn_r _ [12, 6, 7, 13, 14, 15, 16, 4, 17, 8, 18, 19, 20, 21, 22, 23, 24, 25, 26, 27, 28, 29] (by decide +kernel) (by decide +kernel)
set_option maxRecDepth 20000 in
theorem gX2_leastRankFor_X2_heldPairsOfSeal : GoodIn wsX2_leastRankFor (wsV RX2 74 RX2 yX2_heldPairsOfSeal wsX2_heldPairsOfSeal) := goodIn_app (goodIn_of _ (by decide +kernel)) ggX2_leastRankFor_X2_heldPairsOfSeal
theorem dX2_leastRankFor_0 : decode cX2_leastRankFor 0 = .ok (.aload_n 0, 1) := by decide +kernel
theorem dX2_leastRankFor_1 : decode cX2_leastRankFor 1 = .ok (.invokevirtual 58, 3) := by decide +kernel
theorem dX2_leastRankFor_4 : decode cX2_leastRankFor 4 = .ok (.iload_n 1, 1) := by decide +kernel
theorem dX2_leastRankFor_5 : decode cX2_leastRankFor 5 = .ok (.iand, 1) := by decide +kernel
theorem dX2_leastRankFor_6 : decode cX2_leastRankFor 6 = .ok (.ifCond .ne 6, 3) := by decide +kernel
theorem dX2_leastRankFor_9 : decode cX2_leastRankFor 9 = .ok (.bipush (-6), 2) := by decide +kernel
theorem dX2_leastRankFor_11 : decode cX2_leastRankFor 11 = .ok (.ireturn, 1) := by decide +kernel
theorem dX2_leastRankFor_12 : decode cX2_leastRankFor 12 = .ok (.bipush 9, 2) := by decide +kernel
theorem dX2_leastRankFor_14 : decode cX2_leastRankFor 14 = .ok (.istore_n 2, 1) := by decide +kernel
theorem dX2_leastRankFor_15 : decode cX2_leastRankFor 15 = .ok (.iload_n 2, 1) := by decide +kernel
theorem dX2_leastRankFor_16 : decode cX2_leastRankFor 16 = .ok (.iconst 1, 1) := by decide +kernel
theorem dX2_leastRankFor_17 : decode cX2_leastRankFor 17 = .ok (.if_icmp .lt 21, 3) := by decide +kernel
theorem dX2_leastRankFor_20 : decode cX2_leastRankFor 20 = .ok (.aload_n 0, 1) := by decide +kernel
theorem dX2_leastRankFor_21 : decode cX2_leastRankFor 21 = .ok (.iload_n 2, 1) := by decide +kernel
theorem dX2_leastRankFor_22 : decode cX2_leastRankFor 22 = .ok (.invokevirtual 74, 3) := by decide +kernel
theorem dX2_leastRankFor_25 : decode cX2_leastRankFor 25 = .ok (.iload_n 1, 1) := by decide +kernel
theorem dX2_leastRankFor_26 : decode cX2_leastRankFor 26 = .ok (.iand, 1) := by decide +kernel
theorem dX2_leastRankFor_27 : decode cX2_leastRankFor 27 = .ok (.ifCond .eq 5, 3) := by decide +kernel
theorem dX2_leastRankFor_30 : decode cX2_leastRankFor 30 = .ok (.iload_n 2, 1) := by decide +kernel
theorem dX2_leastRankFor_31 : decode cX2_leastRankFor 31 = .ok (.ireturn, 1) := by decide +kernel
theorem dX2_leastRankFor_32 : decode cX2_leastRankFor 32 = .ok (.iinc 2 (-1), 3) := by decide +kernel
theorem dX2_leastRankFor_35 : decode cX2_leastRankFor 35 = .ok (.goto (-20), 3) := by decide +kernel
theorem dX2_leastRankFor_38 : decode cX2_leastRankFor 38 = .ok (.iconst 0, 1) := by decide +kernel
theorem dX2_leastRankFor_39 : decode cX2_leastRankFor 39 = .ok (.ireturn, 1) := by decide +kernel
theorem dX2_permittedPairs_0 : decode cX2_permittedPairs 0 = .ok (.iconst 0, 1) := by decide +kernel
theorem dX2_permittedPairs_1 : decode cX2_permittedPairs 1 = .ok (.istore_n 1, 1) := by decide +kernel
theorem dX2_permittedPairs_2 : decode cX2_permittedPairs 2 = .ok (.iconst 0, 1) := by decide +kernel
theorem dX2_permittedPairs_3 : decode cX2_permittedPairs 3 = .ok (.istore_n 2, 1) := by decide +kernel
theorem dX2_permittedPairs_4 : decode cX2_permittedPairs 4 = .ok (.iload_n 2, 1) := by decide +kernel
theorem dX2_permittedPairs_5 : decode cX2_permittedPairs 5 = .ok (.aload_n 0, 1) := by decide +kernel
theorem dX2_permittedPairs_6 : decode cX2_permittedPairs 6 = .ok (.getfield 30, 3) := by decide +kernel
theorem dX2_permittedPairs_9 : decode cX2_permittedPairs 9 = .ok (.if_icmp .ge 27, 3) := by decide +kernel
theorem dX2_permittedPairs_12 : decode cX2_permittedPairs 12 = .ok (.aload_n 0, 1) := by decide +kernel
theorem dX2_permittedPairs_13 : decode cX2_permittedPairs 13 = .ok (.getfield 15, 3) := by decide +kernel
theorem dX2_permittedPairs_16 : decode cX2_permittedPairs 16 = .ok (.iload_n 2, 1) := by decide +kernel
theorem dX2_permittedPairs_17 : decode cX2_permittedPairs 17 = .ok (.iaload, 1) := by decide +kernel
theorem dX2_permittedPairs_18 : decode cX2_permittedPairs 18 = .ok (.ifCond .ne 12, 3) := by decide +kernel
theorem dX2_permittedPairs_21 : decode cX2_permittedPairs 21 = .ok (.iload_n 1, 1) := by decide +kernel
theorem dX2_permittedPairs_22 : decode cX2_permittedPairs 22 = .ok (.aload_n 0, 1) := by decide +kernel
theorem dX2_permittedPairs_23 : decode cX2_permittedPairs 23 = .ok (.getfield 27, 3) := by decide +kernel
theorem dX2_permittedPairs_26 : decode cX2_permittedPairs 26 = .ok (.iload_n 2, 1) := by decide +kernel
theorem dX2_permittedPairs_27 : decode cX2_permittedPairs 27 = .ok (.iaload, 1) := by decide +kernel
theorem dX2_permittedPairs_28 : decode cX2_permittedPairs 28 = .ok (.ior, 1) := by decide +kernel
theorem dX2_permittedPairs_29 : decode cX2_permittedPairs 29 = .ok (.istore_n 1, 1) := by decide +kernel
theorem dX2_permittedPairs_30 : decode cX2_permittedPairs 30 = .ok (.iinc 2 1, 3) := by decide +kernel
theorem dX2_permittedPairs_33 : decode cX2_permittedPairs 33 = .ok (.goto (-29), 3) := by decide +kernel
theorem dX2_permittedPairs_36 : decode cX2_permittedPairs 36 = .ok (.iload_n 1, 1) := by decide +kernel
theorem dX2_permittedPairs_37 : decode cX2_permittedPairs 37 = .ok (.ireturn, 1) := by decide +kernel
set_option maxRecDepth 20000 in
theorem ggX2_heldPairsOfSeal_X2_heldPairs : GoodIn wsX2_heldPairsOfSeal wsX2_heldPairs := goodIn_r _ [8, 9, 1, 10, 11, 12, 7, 13, 2, 14, 3, 15, 16, 17, 18, 19, 20, 21] (by decide +kernel) (by decide +kernel)
set_option maxRecDepth 20000 in
theorem gX2_heldPairsOfSeal_X2_heldPairs : GoodIn wsX2_heldPairsOfSeal (wsV RX2 62 RX2 yX2_heldPairs wsX2_heldPairs) := goodIn_app (goodIn_of _ (by decide +kernel)) ggX2_heldPairsOfSeal_X2_heldPairs
theorem dX2_heldPairsOfSeal_0 : decode cX2_heldPairsOfSeal 0 = .ok (.iconst 0, 1) := by decide +kernel
theorem dX2_heldPairsOfSeal_1 : decode cX2_heldPairsOfSeal 1 = .ok (.istore_n 2, 1) := by decide +kernel
theorem dX2_heldPairsOfSeal_2 : decode cX2_heldPairsOfSeal 2 = .ok (.iconst 0, 1) := by decide +kernel
theorem dX2_heldPairsOfSeal_3 : decode cX2_heldPairsOfSeal 3 = .ok (.istore_n 3, 1) := by decide +kernel
theorem dX2_heldPairsOfSeal_4 : decode cX2_heldPairsOfSeal 4 = .ok (.iload_n 3, 1) := by decide +kernel
theorem dX2_heldPairsOfSeal_5 : decode cX2_heldPairsOfSeal 5 = .ok (.aload_n 0, 1) := by decide +kernel
theorem dX2_heldPairsOfSeal_6 : decode cX2_heldPairsOfSeal 6 = .ok (.getfield 30, 3) := by decide +kernel
theorem dX2_heldPairsOfSeal_9 : decode cX2_heldPairsOfSeal 9 = .ok (.if_icmp .ge 37, 3) := by decide +kernel
theorem dX2_heldPairsOfSeal_12 : decode cX2_heldPairsOfSeal 12 = .ok (.aload_n 0, 1) := by decide +kernel
theorem dX2_heldPairsOfSeal_13 : decode cX2_heldPairsOfSeal 13 = .ok (.getfield 15, 3) := by decide +kernel
theorem dX2_heldPairsOfSeal_16 : decode cX2_heldPairsOfSeal 16 = .ok (.iload_n 3, 1) := by decide +kernel
theorem dX2_heldPairsOfSeal_17 : decode cX2_heldPairsOfSeal 17 = .ok (.iaload, 1) := by decide +kernel
theorem dX2_heldPairsOfSeal_18 : decode cX2_heldPairsOfSeal 18 = .ok (.iconst 1, 1) := by decide +kernel
theorem dX2_heldPairsOfSeal_19 : decode cX2_heldPairsOfSeal 19 = .ok (.if_icmp .ne 21, 3) := by decide +kernel
theorem dX2_heldPairsOfSeal_22 : decode cX2_heldPairsOfSeal 22 = .ok (.aload_n 0, 1) := by decide +kernel
theorem dX2_heldPairsOfSeal_23 : decode cX2_heldPairsOfSeal 23 = .ok (.getfield 24, 3) := by decide +kernel
theorem dX2_heldPairsOfSeal_26 : decode cX2_heldPairsOfSeal 26 = .ok (.iload_n 3, 1) := by decide +kernel
theorem dX2_heldPairsOfSeal_27 : decode cX2_heldPairsOfSeal 27 = .ok (.iaload, 1) := by decide +kernel
theorem dX2_heldPairsOfSeal_28 : decode cX2_heldPairsOfSeal 28 = .ok (.iload_n 1, 1) := by decide +kernel
theorem dX2_heldPairsOfSeal_29 : decode cX2_heldPairsOfSeal 29 = .ok (.if_icmp .ne 11, 3) := by decide +kernel
theorem dX2_heldPairsOfSeal_32 : decode cX2_heldPairsOfSeal 32 = .ok (.iload_n 2, 1) := by decide +kernel
theorem dX2_heldPairsOfSeal_33 : decode cX2_heldPairsOfSeal 33 = .ok (.aload_n 0, 1) := by decide +kernel
theorem dX2_heldPairsOfSeal_34 : decode cX2_heldPairsOfSeal 34 = .ok (.iload_n 3, 1) := by decide +kernel
theorem dX2_heldPairsOfSeal_35 : decode cX2_heldPairsOfSeal 35 = .ok (.invokevirtual 62, 3) := by decide +kernel
theorem dX2_heldPairsOfSeal_38 : decode cX2_heldPairsOfSeal 38 = .ok (.ior, 1) := by decide +kernel
theorem dX2_heldPairsOfSeal_39 : decode cX2_heldPairsOfSeal 39 = .ok (.istore_n 2, 1) := by decide +kernel
theorem dX2_heldPairsOfSeal_40 : decode cX2_heldPairsOfSeal 40 = .ok (.iinc 3 1, 3) := by decide +kernel
theorem dX2_heldPairsOfSeal_43 : decode cX2_heldPairsOfSeal 43 = .ok (.goto (-39), 3) := by decide +kernel
theorem dX2_heldPairsOfSeal_46 : decode cX2_heldPairsOfSeal 46 = .ok (.iload_n 2, 1) := by decide +kernel
theorem dX2_heldPairsOfSeal_47 : decode cX2_heldPairsOfSeal 47 = .ok (.ireturn, 1) := by decide +kernel
set_option maxRecDepth 20000 in
theorem ggX2_heldPairs_X2_lifts : GoodIn wsX2_heldPairs wsX2_lifts := goodIn_r _ [7, 8, 9, 10, 11, 12, 13, 14, 15, 16, 17] (by decide +kernel) (by decide +kernel)
set_option maxRecDepth 20000 in
theorem gX2_heldPairs_X2_lifts : GoodIn wsX2_heldPairs (wsV RX2 82 RX2 yX2_lifts wsX2_lifts) := goodIn_app (goodIn_of _ (by decide +kernel)) ggX2_heldPairs_X2_lifts
theorem dX2_heldPairs_0 : decode cX2_heldPairs 0 = .ok (.aload_n 0, 1) := by decide +kernel
theorem dX2_heldPairs_1 : decode cX2_heldPairs 1 = .ok (.getfield 27, 3) := by decide +kernel
theorem dX2_heldPairs_4 : decode cX2_heldPairs 4 = .ok (.iload_n 1, 1) := by decide +kernel
theorem dX2_heldPairs_5 : decode cX2_heldPairs 5 = .ok (.iaload, 1) := by decide +kernel
theorem dX2_heldPairs_6 : decode cX2_heldPairs 6 = .ok (.istore_n 2, 1) := by decide +kernel
theorem dX2_heldPairs_7 : decode cX2_heldPairs 7 = .ok (.iconst 0, 1) := by decide +kernel
theorem dX2_heldPairs_8 : decode cX2_heldPairs 8 = .ok (.istore_n 3, 1) := by decide +kernel
theorem dX2_heldPairs_9 : decode cX2_heldPairs 9 = .ok (.iload_n 3, 1) := by decide +kernel
theorem dX2_heldPairs_10 : decode cX2_heldPairs 10 = .ok (.aload_n 0, 1) := by decide +kernel
theorem dX2_heldPairs_11 : decode cX2_heldPairs 11 = .ok (.getfield 30, 3) := by decide +kernel
theorem dX2_heldPairs_14 : decode cX2_heldPairs 14 = .ok (.if_icmp .ge 29, 3) := by decide +kernel
theorem dX2_heldPairs_17 : decode cX2_heldPairs 17 = .ok (.aload_n 0, 1) := by decide +kernel
theorem dX2_heldPairs_18 : decode cX2_heldPairs 18 = .ok (.iload_n 3, 1) := by decide +kernel
theorem dX2_heldPairs_19 : decode cX2_heldPairs 19 = .ok (.iload_n 1, 1) := by decide +kernel
theorem dX2_heldPairs_20 : decode cX2_heldPairs 20 = .ok (.invokevirtual 82, 3) := by decide +kernel
theorem dX2_heldPairs_23 : decode cX2_heldPairs 23 = .ok (.ifCond .eq 14, 3) := by decide +kernel
theorem dX2_heldPairs_26 : decode cX2_heldPairs 26 = .ok (.iload_n 2, 1) := by decide +kernel
theorem dX2_heldPairs_27 : decode cX2_heldPairs 27 = .ok (.aload_n 0, 1) := by decide +kernel
theorem dX2_heldPairs_28 : decode cX2_heldPairs 28 = .ok (.getfield 27, 3) := by decide +kernel
theorem dX2_heldPairs_31 : decode cX2_heldPairs 31 = .ok (.iload_n 3, 1) := by decide +kernel
theorem dX2_heldPairs_32 : decode cX2_heldPairs 32 = .ok (.iaload, 1) := by decide +kernel
theorem dX2_heldPairs_33 : decode cX2_heldPairs 33 = .ok (.iconst (-1), 1) := by decide +kernel
theorem dX2_heldPairs_34 : decode cX2_heldPairs 34 = .ok (.ixor, 1) := by decide +kernel
theorem dX2_heldPairs_35 : decode cX2_heldPairs 35 = .ok (.iand, 1) := by decide +kernel
theorem dX2_heldPairs_36 : decode cX2_heldPairs 36 = .ok (.istore_n 2, 1) := by decide +kernel
theorem dX2_heldPairs_37 : decode cX2_heldPairs 37 = .ok (.iinc 3 1, 3) := by decide +kernel
theorem dX2_heldPairs_40 : decode cX2_heldPairs 40 = .ok (.goto (-31), 3) := by decide +kernel
theorem dX2_heldPairs_43 : decode cX2_heldPairs 43 = .ok (.iload_n 2, 1) := by decide +kernel
theorem dX2_heldPairs_44 : decode cX2_heldPairs 44 = .ok (.ireturn, 1) := by decide +kernel
theorem dX2_lifts_0 : decode cX2_lifts 0 = .ok (.aload_n 0, 1) := by decide +kernel
theorem dX2_lifts_1 : decode cX2_lifts 1 = .ok (.getfield 15, 3) := by decide +kernel
theorem dX2_lifts_4 : decode cX2_lifts 4 = .ok (.iload_n 1, 1) := by decide +kernel
theorem dX2_lifts_5 : decode cX2_lifts 5 = .ok (.iaload, 1) := by decide +kernel
theorem dX2_lifts_6 : decode cX2_lifts 6 = .ok (.iconst 2, 1) := by decide +kernel
theorem dX2_lifts_7 : decode cX2_lifts 7 = .ok (.if_icmp .ne 37, 3) := by decide +kernel
theorem dX2_lifts_10 : decode cX2_lifts 10 = .ok (.aload_n 0, 1) := by decide +kernel
theorem dX2_lifts_11 : decode cX2_lifts 11 = .ok (.getfield 11, 3) := by decide +kernel
theorem dX2_lifts_14 : decode cX2_lifts 14 = .ok (.iload_n 1, 1) := by decide +kernel
theorem dX2_lifts_15 : decode cX2_lifts 15 = .ok (.iaload, 1) := by decide +kernel
theorem dX2_lifts_16 : decode cX2_lifts 16 = .ok (.aload_n 0, 1) := by decide +kernel
theorem dX2_lifts_17 : decode cX2_lifts 17 = .ok (.getfield 11, 3) := by decide +kernel
theorem dX2_lifts_20 : decode cX2_lifts 20 = .ok (.iload_n 2, 1) := by decide +kernel
theorem dX2_lifts_21 : decode cX2_lifts 21 = .ok (.iaload, 1) := by decide +kernel
theorem dX2_lifts_22 : decode cX2_lifts 22 = .ok (.if_icmp .gt 22, 3) := by decide +kernel
theorem dX2_lifts_25 : decode cX2_lifts 25 = .ok (.aload_n 0, 1) := by decide +kernel
theorem dX2_lifts_26 : decode cX2_lifts 26 = .ok (.getfield 24, 3) := by decide +kernel
theorem dX2_lifts_29 : decode cX2_lifts 29 = .ok (.iload_n 1, 1) := by decide +kernel
theorem dX2_lifts_30 : decode cX2_lifts 30 = .ok (.iaload, 1) := by decide +kernel
theorem dX2_lifts_31 : decode cX2_lifts 31 = .ok (.aload_n 0, 1) := by decide +kernel
theorem dX2_lifts_32 : decode cX2_lifts 32 = .ok (.getfield 24, 3) := by decide +kernel
theorem dX2_lifts_35 : decode cX2_lifts 35 = .ok (.iload_n 2, 1) := by decide +kernel
theorem dX2_lifts_36 : decode cX2_lifts 36 = .ok (.iaload, 1) := by decide +kernel
theorem dX2_lifts_37 : decode cX2_lifts 37 = .ok (.if_icmp .lt 7, 3) := by decide +kernel
theorem dX2_lifts_40 : decode cX2_lifts 40 = .ok (.iconst 1, 1) := by decide +kernel
theorem dX2_lifts_41 : decode cX2_lifts 41 = .ok (.goto 4, 3) := by decide +kernel
theorem dX2_lifts_44 : decode cX2_lifts 44 = .ok (.iconst 0, 1) := by decide +kernel
theorem dX2_lifts_45 : decode cX2_lifts 45 = .ok (.ireturn, 1) := by decide +kernel
set_option maxRecDepth 20000 in
theorem ggX3_init_X2_init : GoodIn wsX3_init wsX2_init := goodIn_r _ [13, 14, 2, 3, 15, 16, 17, 18, 19, 20, 21, 22, 33, 34, 35, 36, 37, 38, 39] (by decide +kernel) (by decide +kernel)
set_option maxRecDepth 20000 in
theorem gX3_init_X2_init_n9 : GoodIn wsX3_init (wsX2_init) := ggX3_init_X2_init
set_option maxRecDepth 20000 in
theorem ggX3_init_X0_init : GoodIn wsX3_init wsX0_init := goodIn_r _ [24, 25, 2, 3, 15, 26, 27, 28, 29, 30, 31, 32, 42, 43, 44, 45, 46, 47, 48] (by decide +kernel) (by decide +kernel)
set_option maxRecDepth 20000 in
theorem gX3_init_X0_init_n18 : GoodIn wsX3_init (wsX0_init) := ggX3_init_X0_init
theorem dX3_init_0 : decode cX3_init 0 = .ok (.aload_n 0, 1) := by decide +kernel
theorem dX3_init_1 : decode cX3_init 1 = .ok (.invokespecial 1, 3) := by decide +kernel
theorem dX3_init_4 : decode cX3_init 4 = .ok (.aload_n 0, 1) := by decide +kernel
theorem dX3_init_5 : decode cX3_init 5 = .ok (.new 7, 3) := by decide +kernel
theorem dX3_init_8 : decode cX3_init 8 = .ok (.dup, 1) := by decide +kernel
theorem dX3_init_9 : decode cX3_init 9 = .ok (.invokespecial 9, 3) := by decide +kernel
theorem dX3_init_12 : decode cX3_init 12 = .ok (.putfield 10, 3) := by decide +kernel
theorem dX3_init_15 : decode cX3_init 15 = .ok (.aload_n 0, 1) := by decide +kernel
theorem dX3_init_16 : decode cX3_init 16 = .ok (.new 16, 3) := by decide +kernel
theorem dX3_init_19 : decode cX3_init 19 = .ok (.dup, 1) := by decide +kernel
theorem dX3_init_20 : decode cX3_init 20 = .ok (.invokespecial 18, 3) := by decide +kernel
theorem dX3_init_23 : decode cX3_init 23 = .ok (.putfield 19, 3) := by decide +kernel
theorem dX3_init_26 : decode cX3_init 26 = .ok (.return_, 1) := by decide +kernel
set_option maxRecDepth 20000 in
theorem ggX3_copyFrom_X2_copyFrom : GoodIn wsX3_copyFrom wsX2_copyFrom := goodIn_r _ [7, 8, 9, 10, 11, 12, 13, 14, 15, 16, 17, 18, 19, 20, 21, 22, 23, 24, 25, 40, 41, 42, 43, 44, 45, 46] (by decide +kernel) (by decide +kernel)
set_option maxRecDepth 20000 in
theorem gX3_copyFrom_X2_copyFrom : GoodIn wsX3_copyFrom (wsV RX3 23 RX2 yX2_copyFrom wsX2_copyFrom) := goodIn_app (goodIn_of _ (by decide +kernel)) ggX3_copyFrom_X2_copyFrom
set_option maxRecDepth 20000 in
theorem ggX3_copyFrom_X0_copyFrom : GoodIn wsX3_copyFrom wsX0_copyFrom := goodIn_r _ [30, 31, 32, 33, 34, 35, 36, 37, 15, 16, 17, 18, 19, 20, 21, 22, 23, 24, 25, 47, 48, 49, 50, 51, 52, 53] (by decide +kernel) (by decide +kernel)
set_option maxRecDepth 20000 in
theorem gX3_copyFrom_X0_copyFrom : GoodIn wsX3_copyFrom (wsV RX3 27 RX0 yX0_copyFrom wsX0_copyFrom) := goodIn_app (goodIn_of _ (by decide +kernel)) ggX3_copyFrom_X0_copyFrom
theorem dX3_copyFrom_0 : decode cX3_copyFrom 0 = .ok (.aload_n 0, 1) := by decide +kernel
theorem dX3_copyFrom_1 : decode cX3_copyFrom 1 = .ok (.getfield 10, 3) := by decide +kernel
theorem dX3_copyFrom_4 : decode cX3_copyFrom 4 = .ok (.aload_n 1, 1) := by decide +kernel
theorem dX3_copyFrom_5 : decode cX3_copyFrom 5 = .ok (.getfield 10, 3) := by decide +kernel
theorem dX3_copyFrom_8 : decode cX3_copyFrom 8 = .ok (.invokevirtual 23, 3) := by decide +kernel
theorem dX3_copyFrom_11 : decode cX3_copyFrom 11 = .ok (.aload_n 0, 1) := by decide +kernel
theorem dX3_copyFrom_12 : decode cX3_copyFrom 12 = .ok (.getfield 19, 3) := by decide +kernel
theorem dX3_copyFrom_15 : decode cX3_copyFrom 15 = .ok (.aload_n 1, 1) := by decide +kernel
theorem dX3_copyFrom_16 : decode cX3_copyFrom 16 = .ok (.getfield 19, 3) := by decide +kernel
theorem dX3_copyFrom_19 : decode cX3_copyFrom 19 = .ok (.invokevirtual 27, 3) := by decide +kernel
theorem dX3_copyFrom_22 : decode cX3_copyFrom 22 = .ok (.return_, 1) := by decide +kernel
set_option maxRecDepth 20000 in
theorem ggX4_init_X3_init : GoodIn wsX4_init wsX3_init := goodIn_r _ [20, 21, 2, 3, 22, 16, 17, 23, 24, 25, 26, 27, 28, 29, 30, 31, 32, 33, 34, 35, 36, 37, 38, 39, 40, 41, 42, 43, 44, 45, 46, 47, 48, 65, 66, 67, 68, 69, 70, 71, 55, 56, 72, 73, 74, 75, 76, 77, 78] (by decide +kernel) (by decide +kernel)
set_option maxRecDepth 20000 in
theorem gX4_init_X3_init_n11 : GoodIn wsX4_init (wsX3_init) := ggX4_init_X3_init
set_option maxRecDepth 20000 in
theorem ggX4_init_X1_init : GoodIn wsX4_init wsX1_init := goodIn_r _ [50, 51, 2, 3, 52, 53, 54, 63, 64] (by decide +kernel) (by decide +kernel)
set_option maxRecDepth 20000 in
theorem gX4_init_X1_init_n18 : GoodIn wsX4_init (wsX1_init) := ggX4_init_X1_init
set_option maxRecDepth 20000 in
theorem ggX4_init_X2_init : GoodIn wsX4_init wsX2_init := goodIn_r _ [29, 30, 2, 3, 31, 32, 33, 34, 35, 36, 37, 38, 65, 66, 67, 68, 69, 70, 71] (by decide +kernel) (by decide +kernel)
set_option maxRecDepth 20000 in
theorem gX4_init_X2_init_n36 : GoodIn wsX4_init (wsX2_init) := ggX4_init_X2_init
theorem dX4_init_0 : decode cX4_init 0 = .ok (.aload_n 0, 1) := by decide +kernel
theorem dX4_init_1 : decode cX4_init 1 = .ok (.invokespecial 3, 3) := by decide +kernel
theorem dX4_init_4 : decode cX4_init 4 = .ok (.aload_n 0, 1) := by decide +kernel
theorem dX4_init_5 : decode cX4_init 5 = .ok (.new 9, 3) := by decide +kernel
theorem dX4_init_8 : decode cX4_init 8 = .ok (.dup, 1) := by decide +kernel
theorem dX4_init_9 : decode cX4_init 9 = .ok (.invokespecial 11, 3) := by decide +kernel
theorem dX4_init_12 : decode cX4_init 12 = .ok (.putfield 12, 3) := by decide +kernel
theorem dX4_init_15 : decode cX4_init 15 = .ok (.aload_n 0, 1) := by decide +kernel
theorem dX4_init_16 : decode cX4_init 16 = .ok (.new 16, 3) := by decide +kernel
theorem dX4_init_19 : decode cX4_init 19 = .ok (.dup, 1) := by decide +kernel
theorem dX4_init_20 : decode cX4_init 20 = .ok (.invokespecial 18, 3) := by decide +kernel
theorem dX4_init_23 : decode cX4_init 23 = .ok (.putfield 19, 3) := by decide +kernel
theorem dX4_init_26 : decode cX4_init 26 = .ok (.aload_n 0, 1) := by decide +kernel
theorem dX4_init_27 : decode cX4_init 27 = .ok (.iconst 2, 1) := by decide +kernel
theorem dX4_init_28 : decode cX4_init 28 = .ok (.anewarray 9, 3) := by decide +kernel
theorem dX4_init_31 : decode cX4_init 31 = .ok (.putfield 23, 3) := by decide +kernel
theorem dX4_init_34 : decode cX4_init 34 = .ok (.aload_n 0, 1) := by decide +kernel
theorem dX4_init_35 : decode cX4_init 35 = .ok (.bipush 6, 2) := by decide +kernel
theorem dX4_init_37 : decode cX4_init 37 = .ok (.anewarray 9, 3) := by decide +kernel
theorem dX4_init_40 : decode cX4_init 40 = .ok (.putfield 27, 3) := by decide +kernel
theorem dX4_init_43 : decode cX4_init 43 = .ok (.aload_n 0, 1) := by decide +kernel
theorem dX4_init_44 : decode cX4_init 44 = .ok (.iconst 0, 1) := by decide +kernel
theorem dX4_init_45 : decode cX4_init 45 = .ok (.putfield 30, 3) := by decide +kernel
theorem dX4_init_48 : decode cX4_init 48 = .ok (.aload_n 0, 1) := by decide +kernel
theorem dX4_init_49 : decode cX4_init 49 = .ok (.new 34, 3) := by decide +kernel
theorem dX4_init_52 : decode cX4_init 52 = .ok (.dup, 1) := by decide +kernel
theorem dX4_init_53 : decode cX4_init 53 = .ok (.invokespecial 36, 3) := by decide +kernel
theorem dX4_init_56 : decode cX4_init 56 = .ok (.putfield 37, 3) := by decide +kernel
theorem dX4_init_59 : decode cX4_init 59 = .ok (.return_, 1) := by decide +kernel
set_option maxRecDepth 20000 in
theorem ggX4_add_X4_isLayer : GoodIn wsX4_add wsX4_isLayer := goodIn_r _ [7, 8, 9, 6, 10] (by decide +kernel) (by decide +kernel)
set_option maxRecDepth 20000 in
theorem gX4_add_X4_isLayer : GoodIn wsX4_add (va_wsS RX4 41 yX4_isLayer wsX4_isLayer) := goodIn_app (goodIn_of _ (by decide +kernel)) ggX4_add_X4_isLayer
set_option maxRecDepth 20000 in
theorem ggX4_add_X4_isBetween : GoodIn wsX4_add wsX4_isBetween := goodIn_r _ [10] (by decide +kernel) (by decide +kernel)
set_option maxRecDepth 20000 in
theorem gX4_add_X4_isBetween : GoodIn wsX4_add (va_wsS RX4 45 yX4_isBetween wsX4_isBetween) := goodIn_app (goodIn_of _ (by decide +kernel)) ggX4_add_X4_isBetween
set_option maxRecDepth 20000 in
theorem ggX4_add_X4_isSeal : GoodIn wsX4_add wsX4_isSeal := goodIn_r _ [13, 8, 9, 6, 10] (by decide +kernel) (by decide +kernel)
set_option maxRecDepth 20000 in
theorem gX4_add_X4_isSeal : GoodIn wsX4_add (va_wsS RX4 49 yX4_isSeal wsX4_isSeal) := goodIn_app (goodIn_of _ (by decide +kernel)) ggX4_add_X4_isSeal
set_option maxRecDepth 20000 in
theorem ggX4_add_X4_remember : GoodIn wsX4_add wsX4_remember := goodIn_r _ [17, 18, 19, 20, 21, 22, 6, 23, 24, 25, 26, 27, 28, 29, 30, 1, 31, 32, 33, 34, 35, 36, 37, 38, 39, 40, 41, 42, 43, 44, 45, 46, 47, 48, 49, 50, 51, 52, 53, 54, 55, 56, 57, 58, 59, 60, 61, 62, 63, 64, 65, 66, 67, 68, 69, 70, 71, 72, 73, 74, 75, 76, 77, 78, 79, 80, 81, 82, 83, 84, 85, 86, 93, 94, 95, 96, 97, 98, 99, 100, 101, 102, 103, 104, 105, 106, 107, 108, 109, 110, 111, 112, 113, 114] (by decide +kernel) (by decide +kernel)
set_option maxRecDepth 20000 in
theorem gX4_add_X4_remember : GoodIn wsX4_add (wsV RX4 58 RX4 yX4_remember wsX4_remember) := goodIn_app (goodIn_of _ (by decide +kernel)) ggX4_add_X4_remember
set_option maxRecDepth 20000 in
theorem ggX4_add_X2_append : GoodIn wsX4_add wsX2_append := goodIn_r _ [90, 54, 48, 49, 50, 51, 52, 53, 91, 6, 92, 101, 102, 103, 104, 105, 106, 107] (by decide +kernel) (by decide +kernel)
set_option maxRecDepth 20000 in
theorem gX4_add_X2_append : GoodIn wsX4_add (wsV RX4 61 RX2 yX2_append wsX2_append) := goodIn_app (goodIn_of _ (by decide +kernel)) ggX4_add_X2_append
theorem dX4_add_0 : decode cX4_add 0 = .ok (.iload_n 1, 1) := by decide +kernel
theorem dX4_add_1 : decode cX4_add 1 = .ok (.invokestatic 41, 3) := by decide +kernel
theorem dX4_add_4 : decode cX4_add 4 = .ok (.ifCond .eq 23, 3) := by decide +kernel
theorem dX4_add_7 : decode cX4_add 7 = .ok (.iload_n 3, 1) := by decide +kernel
theorem dX4_add_8 : decode cX4_add 8 = .ok (.iconst 0, 1) := by decide +kernel
theorem dX4_add_9 : decode cX4_add 9 = .ok (.iconst 5, 1) := by decide +kernel
theorem dX4_add_10 : decode cX4_add 10 = .ok (.invokestatic 45, 3) := by decide +kernel
theorem dX4_add_13 : decode cX4_add 13 = .ok (.ifCond .eq 14, 3) := by decide +kernel
theorem dX4_add_16 : decode cX4_add 16 = .ok (.iload 4, 2) := by decide +kernel
theorem dX4_add_18 : decode cX4_add 18 = .ok (.iconst 0, 1) := by decide +kernel
theorem dX4_add_19 : decode cX4_add 19 = .ok (.bipush 6, 2) := by decide +kernel
theorem dX4_add_21 : decode cX4_add 21 = .ok (.invokestatic 45, 3) := by decide +kernel
theorem dX4_add_24 : decode cX4_add 24 = .ok (.ifCond .ne 5, 3) := by decide +kernel
theorem dX4_add_27 : decode cX4_add 27 = .ok (.iconst (-1), 1) := by decide +kernel
theorem dX4_add_28 : decode cX4_add 28 = .ok (.ireturn, 1) := by decide +kernel
theorem dX4_add_29 : decode cX4_add 29 = .ok (.iload_n 2, 1) := by decide +kernel
theorem dX4_add_30 : decode cX4_add 30 = .ok (.iconst 0, 1) := by decide +kernel
theorem dX4_add_31 : decode cX4_add 31 = .ok (.iconst 2, 1) := by decide +kernel
theorem dX4_add_32 : decode cX4_add 32 = .ok (.invokestatic 45, 3) := by decide +kernel
theorem dX4_add_35 : decode cX4_add 35 = .ok (.ifCond .eq 11, 3) := by decide +kernel
theorem dX4_add_38 : decode cX4_add 38 = .ok (.iload 5, 2) := by decide +kernel
theorem dX4_add_40 : decode cX4_add 40 = .ok (.invokestatic 49, 3) := by decide +kernel
theorem dX4_add_43 : decode cX4_add 43 = .ok (.ifCond .ne 6, 3) := by decide +kernel
theorem dX4_add_46 : decode cX4_add 46 = .ok (.bipush (-2), 2) := by decide +kernel
theorem dX4_add_48 : decode cX4_add 48 = .ok (.ireturn, 1) := by decide +kernel
theorem dX4_add_49 : decode cX4_add 49 = .ok (.iload_n 2, 1) := by decide +kernel
theorem dX4_add_50 : decode cX4_add 50 = .ok (.ifCond .ne 10, 3) := by decide +kernel
theorem dX4_add_53 : decode cX4_add 53 = .ok (.iload_n 1, 1) := by decide +kernel
theorem dX4_add_54 : decode cX4_add 54 = .ok (.ifCond .eq 6, 3) := by decide +kernel
theorem dX4_add_57 : decode cX4_add 57 = .ok (.bipush (-5), 2) := by decide +kernel
theorem dX4_add_59 : decode cX4_add 59 = .ok (.ireturn, 1) := by decide +kernel
theorem dX4_add_60 : decode cX4_add 60 = .ok (.aload_n 0, 1) := by decide +kernel
theorem dX4_add_61 : decode cX4_add 61 = .ok (.getfield 12, 3) := by decide +kernel
theorem dX4_add_64 : decode cX4_add 64 = .ok (.getfield 52, 3) := by decide +kernel
theorem dX4_add_67 : decode cX4_add 67 = .ok (.getfield 55, 3) := by decide +kernel
theorem dX4_add_70 : decode cX4_add 70 = .ok (.bipush 24, 2) := by decide +kernel
theorem dX4_add_72 : decode cX4_add 72 = .ok (.if_icmp .lt 6, 3) := by decide +kernel
theorem dX4_add_75 : decode cX4_add 75 = .ok (.bipush (-4), 2) := by decide +kernel
theorem dX4_add_77 : decode cX4_add 77 = .ok (.ireturn, 1) := by decide +kernel
theorem dX4_add_78 : decode cX4_add 78 = .ok (.aload_n 0, 1) := by decide +kernel
theorem dX4_add_79 : decode cX4_add 79 = .ok (.invokevirtual 58, 3) := by decide +kernel
theorem dX4_add_82 : decode cX4_add 82 = .ok (.aload_n 0, 1) := by decide +kernel
theorem dX4_add_83 : decode cX4_add 83 = .ok (.getfield 12, 3) := by decide +kernel
theorem dX4_add_86 : decode cX4_add 86 = .ok (.getfield 52, 3) := by decide +kernel
theorem dX4_add_89 : decode cX4_add 89 = .ok (.iload_n 1, 1) := by decide +kernel
theorem dX4_add_90 : decode cX4_add 90 = .ok (.iload_n 2, 1) := by decide +kernel
theorem dX4_add_91 : decode cX4_add 91 = .ok (.iload_n 3, 1) := by decide +kernel
theorem dX4_add_92 : decode cX4_add 92 = .ok (.iload 4, 2) := by decide +kernel
theorem dX4_add_94 : decode cX4_add 94 = .ok (.iload 5, 2) := by decide +kernel
theorem dX4_add_96 : decode cX4_add 96 = .ok (.invokevirtual 61, 3) := by decide +kernel
theorem dX4_add_99 : decode cX4_add 99 = .ok (.aload_n 0, 1) := by decide +kernel
theorem dX4_add_100 : decode cX4_add 100 = .ok (.getfield 12, 3) := by decide +kernel
theorem dX4_add_103 : decode cX4_add 103 = .ok (.getfield 52, 3) := by decide +kernel
theorem dX4_add_106 : decode cX4_add 106 = .ok (.getfield 55, 3) := by decide +kernel
theorem dX4_add_109 : decode cX4_add 109 = .ok (.iconst 1, 1) := by decide +kernel
theorem dX4_add_110 : decode cX4_add 110 = .ok (.isub, 1) := by decide +kernel
theorem dX4_add_111 : decode cX4_add 111 = .ok (.ireturn, 1) := by decide +kernel
set_option maxRecDepth 20000 in
theorem ggX4_strike_X2_has : GoodIn wsX4_strike wsX2_has := goodIn_r _ [8, 9, 100, 101, 102, 103, 104, 105, 106] (by decide +kernel) (by decide +kernel)
set_option maxRecDepth 20000 in
theorem gX4_strike_X2_has : GoodIn wsX4_strike (wsV RX4 65 RX2 yX2_has wsX2_has) := goodIn_app (goodIn_of _ (by decide +kernel)) ggX4_strike_X2_has
set_option maxRecDepth 20000 in
theorem ggX4_strike_X4_remember : GoodIn wsX4_strike wsX4_remember := goodIn_r _ [14, 15, 16, 17, 18, 19, 13, 20, 21, 22, 23, 24, 25, 26, 27, 1, 28, 29, 30, 31, 32, 33, 34, 7, 35, 36, 37, 38, 39, 40, 41, 42, 43, 44, 45, 46, 47, 48, 49, 9, 50, 51, 52, 53, 54, 55, 56, 57, 58, 59, 60, 61, 62, 63, 64, 65, 66, 67, 68, 69, 70, 71, 72, 73, 74, 75, 76, 77, 78, 79, 80, 81, 92, 93, 94, 95, 96, 97, 98, 99, 100, 101, 102, 103, 104, 105, 106, 107, 108, 109, 110, 111, 112, 113] (by decide +kernel) (by decide +kernel)
set_option maxRecDepth 20000 in
theorem gX4_strike_X4_remember : GoodIn wsX4_strike (wsV RX4 58 RX4 yX4_remember wsX4_remember) := goodIn_app (goodIn_of _ (by decide +kernel)) ggX4_strike_X4_remember
set_option maxRecDepth 20000 in
theorem ggX4_strike_X2_remove : GoodIn wsX4_strike wsX2_remove := goodIn_r _ [85, 44, 45, 46, 47, 48, 49, 9, 86, 5, 6, 7, 8, 87, 13, 88, 89, 90, 72, 91, 100, 101, 102, 103, 104, 105, 106] (by decide +kernel) (by decide +kernel)
set_option maxRecDepth 20000 in
theorem gX4_strike_X2_remove : GoodIn wsX4_strike (wsV RX4 68 RX2 yX2_remove wsX2_remove) := goodIn_app (goodIn_of _ (by decide +kernel)) ggX4_strike_X2_remove
theorem dX4_strike_0 : decode cX4_strike 0 = .ok (.aload_n 0, 1) := by decide +kernel
theorem dX4_strike_1 : decode cX4_strike 1 = .ok (.getfield 12, 3) := by decide +kernel
theorem dX4_strike_4 : decode cX4_strike 4 = .ok (.getfield 52, 3) := by decide +kernel
theorem dX4_strike_7 : decode cX4_strike 7 = .ok (.iload_n 1, 1) := by decide +kernel
theorem dX4_strike_8 : decode cX4_strike 8 = .ok (.invokevirtual 65, 3) := by decide +kernel
theorem dX4_strike_11 : decode cX4_strike 11 = .ok (.ifCond .ne 5, 3) := by decide +kernel
theorem dX4_strike_14 : decode cX4_strike 14 = .ok (.iconst (-1), 1) := by decide +kernel
theorem dX4_strike_15 : decode cX4_strike 15 = .ok (.ireturn, 1) := by decide +kernel
theorem dX4_strike_16 : decode cX4_strike 16 = .ok (.aload_n 0, 1) := by decide +kernel
theorem dX4_strike_17 : decode cX4_strike 17 = .ok (.invokevirtual 58, 3) := by decide +kernel
theorem dX4_strike_20 : decode cX4_strike 20 = .ok (.aload_n 0, 1) := by decide +kernel
theorem dX4_strike_21 : decode cX4_strike 21 = .ok (.getfield 12, 3) := by decide +kernel
theorem dX4_strike_24 : decode cX4_strike 24 = .ok (.getfield 52, 3) := by decide +kernel
theorem dX4_strike_27 : decode cX4_strike 27 = .ok (.iload_n 1, 1) := by decide +kernel
theorem dX4_strike_28 : decode cX4_strike 28 = .ok (.invokevirtual 68, 3) := by decide +kernel
theorem dX4_strike_31 : decode cX4_strike 31 = .ok (.aload_n 0, 1) := by decide +kernel
theorem dX4_strike_32 : decode cX4_strike 32 = .ok (.getfield 12, 3) := by decide +kernel
theorem dX4_strike_35 : decode cX4_strike 35 = .ok (.getfield 52, 3) := by decide +kernel
theorem dX4_strike_38 : decode cX4_strike 38 = .ok (.getfield 55, 3) := by decide +kernel
theorem dX4_strike_41 : decode cX4_strike 41 = .ok (.ireturn, 1) := by decide +kernel
set_option maxRecDepth 20000 in
theorem ggX4_seal_X2_has : GoodIn wsX4_seal wsX2_has := goodIn_r _ [8, 9, 96, 97, 98, 99, 100, 101, 102] (by decide +kernel) (by decide +kernel)
set_option maxRecDepth 20000 in
theorem gX4_seal_X2_has : GoodIn wsX4_seal (wsV RX4 65 RX2 yX2_has wsX2_has) := goodIn_app (goodIn_of _ (by decide +kernel)) ggX4_seal_X2_has
set_option maxRecDepth 20000 in
theorem ggX4_seal_X4_isSeal : GoodIn wsX4_seal wsX4_isSeal := goodIn_r _ [13, 14, 15, 12, 16] (by decide +kernel) (by decide +kernel)
set_option maxRecDepth 20000 in
theorem gX4_seal_X4_isSeal : GoodIn wsX4_seal (va_wsS RX4 49 yX4_isSeal wsX4_isSeal) := goodIn_app (goodIn_of _ (by decide +kernel)) ggX4_seal_X4_isSeal
set_option maxRecDepth 20000 in
theorem ggX4_seal_X4_remember : GoodIn wsX4_seal wsX4_remember := goodIn_r _ [20, 21, 22, 23, 24, 25, 12, 26, 27, 28, 29, 30, 31, 32, 33, 1, 34, 35, 36, 37, 38, 39, 40, 7, 41, 42, 43, 44, 45, 46, 47, 48, 49, 50, 51, 52, 53, 54, 55, 9, 56, 57, 58, 59, 60, 61, 62, 63, 64, 65, 66, 67, 68, 69, 70, 71, 72, 73, 74, 75, 76, 77, 78, 79, 80, 81, 82, 83, 84, 85, 86, 87, 88, 89, 90, 91, 92, 93, 94, 95, 96, 97, 98, 99, 100, 101, 102, 103, 104, 105, 106, 107, 108, 109] (by decide +kernel) (by decide +kernel)
set_option maxRecDepth 20000 in
theorem gX4_seal_X4_remember : GoodIn wsX4_seal (wsV RX4 58 RX4 yX4_remember wsX4_remember) := goodIn_app (goodIn_of _ (by decide +kernel)) ggX4_seal_X4_remember
theorem dX4_seal_0 : decode cX4_seal 0 = .ok (.aload_n 0, 1) := by decide +kernel
theorem dX4_seal_1 : decode cX4_seal 1 = .ok (.getfield 12, 3) := by decide +kernel
theorem dX4_seal_4 : decode cX4_seal 4 = .ok (.getfield 52, 3) := by decide +kernel
theorem dX4_seal_7 : decode cX4_seal 7 = .ok (.iload_n 1, 1) := by decide +kernel
theorem dX4_seal_8 : decode cX4_seal 8 = .ok (.invokevirtual 65, 3) := by decide +kernel
theorem dX4_seal_11 : decode cX4_seal 11 = .ok (.ifCond .ne 5, 3) := by decide +kernel
theorem dX4_seal_14 : decode cX4_seal 14 = .ok (.iconst (-1), 1) := by decide +kernel
theorem dX4_seal_15 : decode cX4_seal 15 = .ok (.ireturn, 1) := by decide +kernel
theorem dX4_seal_16 : decode cX4_seal 16 = .ok (.iload_n 2, 1) := by decide +kernel
theorem dX4_seal_17 : decode cX4_seal 17 = .ok (.invokestatic 49, 3) := by decide +kernel
theorem dX4_seal_20 : decode cX4_seal 20 = .ok (.ifCond .ne 6, 3) := by decide +kernel
theorem dX4_seal_23 : decode cX4_seal 23 = .ok (.bipush (-2), 2) := by decide +kernel
theorem dX4_seal_25 : decode cX4_seal 25 = .ok (.ireturn, 1) := by decide +kernel
theorem dX4_seal_26 : decode cX4_seal 26 = .ok (.aload_n 0, 1) := by decide +kernel
theorem dX4_seal_27 : decode cX4_seal 27 = .ok (.invokevirtual 58, 3) := by decide +kernel
theorem dX4_seal_30 : decode cX4_seal 30 = .ok (.aload_n 0, 1) := by decide +kernel
theorem dX4_seal_31 : decode cX4_seal 31 = .ok (.getfield 12, 3) := by decide +kernel
theorem dX4_seal_34 : decode cX4_seal 34 = .ok (.getfield 52, 3) := by decide +kernel
theorem dX4_seal_37 : decode cX4_seal 37 = .ok (.getfield 72, 3) := by decide +kernel
theorem dX4_seal_40 : decode cX4_seal 40 = .ok (.iload_n 1, 1) := by decide +kernel
theorem dX4_seal_41 : decode cX4_seal 41 = .ok (.iaload, 1) := by decide +kernel
theorem dX4_seal_42 : decode cX4_seal 42 = .ok (.istore_n 3, 1) := by decide +kernel
theorem dX4_seal_43 : decode cX4_seal 43 = .ok (.aload_n 0, 1) := by decide +kernel
theorem dX4_seal_44 : decode cX4_seal 44 = .ok (.getfield 12, 3) := by decide +kernel
theorem dX4_seal_47 : decode cX4_seal 47 = .ok (.getfield 52, 3) := by decide +kernel
theorem dX4_seal_50 : decode cX4_seal 50 = .ok (.getfield 72, 3) := by decide +kernel
theorem dX4_seal_53 : decode cX4_seal 53 = .ok (.iload_n 1, 1) := by decide +kernel
theorem dX4_seal_54 : decode cX4_seal 54 = .ok (.iload_n 2, 1) := by decide +kernel
theorem dX4_seal_55 : decode cX4_seal 55 = .ok (.iastore, 1) := by decide +kernel
theorem dX4_seal_56 : decode cX4_seal 56 = .ok (.iload_n 3, 1) := by decide +kernel
theorem dX4_seal_57 : decode cX4_seal 57 = .ok (.ireturn, 1) := by decide +kernel
set_option maxRecDepth 20000 in
theorem ggX4_move_X2_has : GoodIn wsX4_move wsX2_has := goodIn_r _ [9, 10, 97, 98, 99, 100, 101, 102, 103] (by decide +kernel) (by decide +kernel)
set_option maxRecDepth 20000 in
theorem gX4_move_X2_has : GoodIn wsX4_move (wsV RX4 65 RX2 yX2_has wsX2_has) := goodIn_app (goodIn_of _ (by decide +kernel)) ggX4_move_X2_has
set_option maxRecDepth 20000 in
theorem ggX4_move_X4_isLayer : GoodIn wsX4_move wsX4_isLayer := goodIn_r _ [14, 15, 16, 13, 17] (by decide +kernel) (by decide +kernel)
set_option maxRecDepth 20000 in
theorem gX4_move_X4_isLayer : GoodIn wsX4_move (va_wsS RX4 41 yX4_isLayer wsX4_isLayer) := goodIn_app (goodIn_of _ (by decide +kernel)) ggX4_move_X4_isLayer
set_option maxRecDepth 20000 in
theorem ggX4_move_X4_remember : GoodIn wsX4_move wsX4_remember := goodIn_r _ [21, 22, 23, 24, 25, 26, 13, 27, 28, 29, 30, 31, 32, 33, 34, 1, 35, 36, 37, 38, 39, 40, 41, 8, 42, 43, 44, 45, 46, 47, 48, 49, 50, 51, 52, 53, 54, 55, 56, 10, 57, 58, 59, 60, 61, 62, 63, 64, 65, 66, 67, 68, 69, 70, 71, 72, 73, 74, 75, 76, 77, 78, 79, 80, 81, 82, 83, 84, 85, 86, 87, 88, 89, 90, 91, 92, 93, 94, 95, 96, 97, 98, 99, 100, 101, 102, 103, 104, 105, 106, 107, 108, 109, 110] (by decide +kernel) (by decide +kernel)
set_option maxRecDepth 20000 in
theorem gX4_move_X4_remember : GoodIn wsX4_move (wsV RX4 58 RX4 yX4_remember wsX4_remember) := goodIn_app (goodIn_of _ (by decide +kernel)) ggX4_move_X4_remember
theorem dX4_move_0 : decode cX4_move 0 = .ok (.aload_n 0, 1) := by decide +kernel
theorem dX4_move_1 : decode cX4_move 1 = .ok (.getfield 12, 3) := by decide +kernel
theorem dX4_move_4 : decode cX4_move 4 = .ok (.getfield 52, 3) := by decide +kernel
theorem dX4_move_7 : decode cX4_move 7 = .ok (.iload_n 1, 1) := by decide +kernel
theorem dX4_move_8 : decode cX4_move 8 = .ok (.invokevirtual 65, 3) := by decide +kernel
theorem dX4_move_11 : decode cX4_move 11 = .ok (.ifCond .eq 10, 3) := by decide +kernel
theorem dX4_move_14 : decode cX4_move 14 = .ok (.iload_n 2, 1) := by decide +kernel
theorem dX4_move_15 : decode cX4_move 15 = .ok (.invokestatic 41, 3) := by decide +kernel
theorem dX4_move_18 : decode cX4_move 18 = .ok (.ifCond .ne 5, 3) := by decide +kernel
theorem dX4_move_21 : decode cX4_move 21 = .ok (.iconst (-1), 1) := by decide +kernel
theorem dX4_move_22 : decode cX4_move 22 = .ok (.ireturn, 1) := by decide +kernel
theorem dX4_move_23 : decode cX4_move 23 = .ok (.aload_n 0, 1) := by decide +kernel
theorem dX4_move_24 : decode cX4_move 24 = .ok (.getfield 12, 3) := by decide +kernel
theorem dX4_move_27 : decode cX4_move 27 = .ok (.getfield 52, 3) := by decide +kernel
theorem dX4_move_30 : decode cX4_move 30 = .ok (.getfield 76, 3) := by decide +kernel
theorem dX4_move_33 : decode cX4_move 33 = .ok (.iload_n 1, 1) := by decide +kernel
theorem dX4_move_34 : decode cX4_move 34 = .ok (.iaload, 1) := by decide +kernel
theorem dX4_move_35 : decode cX4_move 35 = .ok (.ifCond .ne 10, 3) := by decide +kernel
theorem dX4_move_38 : decode cX4_move 38 = .ok (.iload_n 2, 1) := by decide +kernel
theorem dX4_move_39 : decode cX4_move 39 = .ok (.ifCond .eq 6, 3) := by decide +kernel
theorem dX4_move_42 : decode cX4_move 42 = .ok (.bipush (-5), 2) := by decide +kernel
theorem dX4_move_44 : decode cX4_move 44 = .ok (.ireturn, 1) := by decide +kernel
theorem dX4_move_45 : decode cX4_move 45 = .ok (.aload_n 0, 1) := by decide +kernel
theorem dX4_move_46 : decode cX4_move 46 = .ok (.invokevirtual 58, 3) := by decide +kernel
theorem dX4_move_49 : decode cX4_move 49 = .ok (.aload_n 0, 1) := by decide +kernel
theorem dX4_move_50 : decode cX4_move 50 = .ok (.getfield 12, 3) := by decide +kernel
theorem dX4_move_53 : decode cX4_move 53 = .ok (.getfield 52, 3) := by decide +kernel
theorem dX4_move_56 : decode cX4_move 56 = .ok (.getfield 79, 3) := by decide +kernel
theorem dX4_move_59 : decode cX4_move 59 = .ok (.iload_n 1, 1) := by decide +kernel
theorem dX4_move_60 : decode cX4_move 60 = .ok (.iaload, 1) := by decide +kernel
theorem dX4_move_61 : decode cX4_move 61 = .ok (.istore_n 3, 1) := by decide +kernel
theorem dX4_move_62 : decode cX4_move 62 = .ok (.aload_n 0, 1) := by decide +kernel
theorem dX4_move_63 : decode cX4_move 63 = .ok (.getfield 12, 3) := by decide +kernel
theorem dX4_move_66 : decode cX4_move 66 = .ok (.getfield 52, 3) := by decide +kernel
theorem dX4_move_69 : decode cX4_move 69 = .ok (.getfield 79, 3) := by decide +kernel
theorem dX4_move_72 : decode cX4_move 72 = .ok (.iload_n 1, 1) := by decide +kernel
theorem dX4_move_73 : decode cX4_move 73 = .ok (.iload_n 2, 1) := by decide +kernel
theorem dX4_move_74 : decode cX4_move 74 = .ok (.iastore, 1) := by decide +kernel
theorem dX4_move_75 : decode cX4_move 75 = .ok (.iload_n 3, 1) := by decide +kernel
theorem dX4_move_76 : decode cX4_move 76 = .ok (.ireturn, 1) := by decide +kernel
set_option maxRecDepth 20000 in
theorem ggX4_tidy_X4_remember : GoodIn wsX4_tidy wsX4_remember := goodIn_r _ [7, 8, 9, 10, 11, 12, 6, 13, 14, 15, 16, 17, 18, 19, 20, 1, 21, 22, 23, 24, 25, 26, 27, 28, 29, 30, 31, 32, 33, 34, 35, 36, 37, 38, 39, 40, 41, 42, 43, 44, 45, 46, 47, 48, 49, 50, 51, 52, 53, 54, 55, 56, 57, 58, 59, 60, 61, 62, 63, 64, 65, 66, 67, 68, 69, 70, 71, 72, 73, 74, 75, 76, 132, 133, 134, 135, 136, 137, 138, 139, 140, 141, 142, 143, 144, 145, 146, 147, 148, 149, 150, 151, 152, 153] (by decide +kernel) (by decide +kernel)
set_option maxRecDepth 20000 in
theorem gX4_tidy_X4_remember : GoodIn wsX4_tidy (wsV RX4 58 RX4 yX4_remember wsX4_remember) := goodIn_app (goodIn_of _ (by decide +kernel)) ggX4_tidy_X4_remember
set_option maxRecDepth 20000 in
theorem ggX4_tidy_X4_firstIdle : GoodIn wsX4_tidy wsX4_firstIdle := goodIn_r _ [80, 1, 2, 81, 82, 83, 84, 28, 85, 86, 87, 88, 89, 44, 39, 43, 90, 91, 92, 93, 94, 95, 96, 97, 98, 99, 100, 42, 101, 102, 103, 104, 105, 106, 107, 108, 38, 109, 110, 111, 6, 112, 113, 114, 115, 116, 117, 118, 60, 61, 62, 40, 41, 63, 64, 65, 66, 67, 68, 69, 70, 71, 72, 119, 120, 121, 122, 123, 124, 125, 126, 127, 128, 129, 130, 131, 132, 133, 134, 135, 136, 137, 138, 139, 140, 141, 142, 143, 144, 145, 146] (by decide +kernel) (by decide +kernel)
set_option maxRecDepth 20000 in
theorem gX4_tidy_X4_firstIdle : GoodIn wsX4_tidy (wsV RX4 96 RX4 yX4_firstIdle wsX4_firstIdle) := goodIn_app (goodIn_of _ (by decide +kernel)) ggX4_tidy_X4_firstIdle
set_option maxRecDepth 20000 in
theorem ggX4_tidy_X2_remove : GoodIn wsX4_tidy wsX2_remove := goodIn_r _ [122, 38, 39, 40, 41, 42, 43, 44, 123, 124, 125, 28, 126, 127, 6, 128, 129, 130, 67, 131, 140, 141, 142, 143, 144, 145, 146] (by decide +kernel) (by decide +kernel)
set_option maxRecDepth 20000 in
theorem gX4_tidy_X2_remove : GoodIn wsX4_tidy (wsV RX4 68 RX2 yX2_remove wsX2_remove) := goodIn_app (goodIn_of _ (by decide +kernel)) ggX4_tidy_X2_remove
theorem dX4_tidy_0 : decode cX4_tidy 0 = .ok (.aload_n 0, 1) := by decide +kernel
theorem dX4_tidy_1 : decode cX4_tidy 1 = .ok (.invokevirtual 58, 3) := by decide +kernel
theorem dX4_tidy_4 : decode cX4_tidy 4 = .ok (.iconst 0, 1) := by decide +kernel
theorem dX4_tidy_5 : decode cX4_tidy 5 = .ok (.istore_n 1, 1) := by decide +kernel
theorem dX4_tidy_6 : decode cX4_tidy 6 = .ok (.iload_n 1, 1) := by decide +kernel
theorem dX4_tidy_7 : decode cX4_tidy 7 = .ok (.bipush 24, 2) := by decide +kernel
theorem dX4_tidy_9 : decode cX4_tidy 9 = .ok (.if_icmp .ge 33, 3) := by decide +kernel
theorem dX4_tidy_12 : decode cX4_tidy 12 = .ok (.aload_n 0, 1) := by decide +kernel
theorem dX4_tidy_13 : decode cX4_tidy 13 = .ok (.invokevirtual 96, 3) := by decide +kernel
theorem dX4_tidy_16 : decode cX4_tidy 16 = .ok (.istore_n 2, 1) := by decide +kernel
theorem dX4_tidy_17 : decode cX4_tidy 17 = .ok (.iload_n 2, 1) := by decide +kernel
theorem dX4_tidy_18 : decode cX4_tidy 18 = .ok (.bipush (-6), 2) := by decide +kernel
theorem dX4_tidy_20 : decode cX4_tidy 20 = .ok (.if_icmp .ne 5, 3) := by decide +kernel
theorem dX4_tidy_23 : decode cX4_tidy 23 = .ok (.iload_n 1, 1) := by decide +kernel
theorem dX4_tidy_24 : decode cX4_tidy 24 = .ok (.ireturn, 1) := by decide +kernel
theorem dX4_tidy_25 : decode cX4_tidy 25 = .ok (.aload_n 0, 1) := by decide +kernel
theorem dX4_tidy_26 : decode cX4_tidy 26 = .ok (.getfield 12, 3) := by decide +kernel
theorem dX4_tidy_29 : decode cX4_tidy 29 = .ok (.getfield 52, 3) := by decide +kernel
theorem dX4_tidy_32 : decode cX4_tidy 32 = .ok (.iload_n 2, 1) := by decide +kernel
theorem dX4_tidy_33 : decode cX4_tidy 33 = .ok (.invokevirtual 68, 3) := by decide +kernel
theorem dX4_tidy_36 : decode cX4_tidy 36 = .ok (.iinc 1 1, 3) := by decide +kernel
theorem dX4_tidy_39 : decode cX4_tidy 39 = .ok (.goto (-33), 3) := by decide +kernel
theorem dX4_tidy_42 : decode cX4_tidy 42 = .ok (.bipush 24, 2) := by decide +kernel
theorem dX4_tidy_44 : decode cX4_tidy 44 = .ok (.ireturn, 1) := by decide +kernel
set_option maxRecDepth 20000 in
theorem ggX4_join_X4_isCraft : GoodIn wsX4_join wsX4_isCraft := goodIn_r _ [7, 8, 9, 6, 10] (by decide +kernel) (by decide +kernel)
set_option maxRecDepth 20000 in
theorem gX4_join_X4_isCraft : GoodIn wsX4_join (va_wsS RX4 99 yX4_isCraft wsX4_isCraft) := goodIn_app (goodIn_of _ (by decide +kernel)) ggX4_join_X4_isCraft
set_option maxRecDepth 20000 in
theorem ggX4_join_X4_isRank : GoodIn wsX4_join wsX4_isRank := goodIn_r _ [13, 8, 9, 6, 10] (by decide +kernel) (by decide +kernel)
set_option maxRecDepth 20000 in
theorem gX4_join_X4_isRank : GoodIn wsX4_join (va_wsS RX4 102 yX4_isRank wsX4_isRank) := goodIn_app (goodIn_of _ (by decide +kernel)) ggX4_join_X4_isRank
set_option maxRecDepth 20000 in
theorem ggX4_join_X4_remember : GoodIn wsX4_join wsX4_remember := goodIn_r _ [17, 18, 19, 20, 21, 22, 6, 23, 24, 25, 26, 27, 28, 29, 30, 1, 31, 32, 33, 34, 35, 36, 37, 38, 39, 40, 41, 42, 43, 44, 45, 46, 47, 48, 49, 50, 51, 52, 53, 54, 55, 56, 57, 58, 59, 60, 61, 62, 63, 64, 65, 66, 67, 68, 69, 70, 71, 72, 73, 74, 75, 76, 77, 78, 79, 80, 81, 82, 83, 84, 85, 86, 91, 92, 93, 94, 95, 96, 97, 98, 106, 107, 108, 109, 110, 111, 112, 99, 100, 101, 102, 103, 104, 105] (by decide +kernel) (by decide +kernel)
set_option maxRecDepth 20000 in
theorem gX4_join_X4_remember : GoodIn wsX4_join (wsV RX4 58 RX4 yX4_remember wsX4_remember) := goodIn_app (goodIn_of _ (by decide +kernel)) ggX4_join_X4_remember
set_option maxRecDepth 20000 in
theorem ggX4_join_X0_append : GoodIn wsX4_join wsX0_append := goodIn_r _ [90, 63, 58, 59, 60, 61, 99, 100, 101, 102, 103, 104, 105] (by decide +kernel) (by decide +kernel)
set_option maxRecDepth 20000 in
theorem gX4_join_X0_append : GoodIn wsX4_join (wsV RX4 112 RX0 yX0_append wsX0_append) := goodIn_app (goodIn_of _ (by decide +kernel)) ggX4_join_X0_append
theorem dX4_join_0 : decode cX4_join 0 = .ok (.iload_n 1, 1) := by decide +kernel
theorem dX4_join_1 : decode cX4_join 1 = .ok (.invokestatic 99, 3) := by decide +kernel
theorem dX4_join_4 : decode cX4_join 4 = .ok (.ifCond .ne 5, 3) := by decide +kernel
theorem dX4_join_7 : decode cX4_join 7 = .ok (.iconst (-1), 1) := by decide +kernel
theorem dX4_join_8 : decode cX4_join 8 = .ok (.ireturn, 1) := by decide +kernel
theorem dX4_join_9 : decode cX4_join 9 = .ok (.iload_n 2, 1) := by decide +kernel
theorem dX4_join_10 : decode cX4_join 10 = .ok (.invokestatic 102, 3) := by decide +kernel
theorem dX4_join_13 : decode cX4_join 13 = .ok (.ifCond .ne 6, 3) := by decide +kernel
theorem dX4_join_16 : decode cX4_join 16 = .ok (.bipush (-2), 2) := by decide +kernel
theorem dX4_join_18 : decode cX4_join 18 = .ok (.ireturn, 1) := by decide +kernel
theorem dX4_join_19 : decode cX4_join 19 = .ok (.aload_n 0, 1) := by decide +kernel
theorem dX4_join_20 : decode cX4_join 20 = .ok (.getfield 12, 3) := by decide +kernel
theorem dX4_join_23 : decode cX4_join 23 = .ok (.getfield 105, 3) := by decide +kernel
theorem dX4_join_26 : decode cX4_join 26 = .ok (.getfield 109, 3) := by decide +kernel
theorem dX4_join_29 : decode cX4_join 29 = .ok (.bipush 10, 2) := by decide +kernel
theorem dX4_join_31 : decode cX4_join 31 = .ok (.if_icmp .lt 6, 3) := by decide +kernel
theorem dX4_join_34 : decode cX4_join 34 = .ok (.bipush (-4), 2) := by decide +kernel
theorem dX4_join_36 : decode cX4_join 36 = .ok (.ireturn, 1) := by decide +kernel
theorem dX4_join_37 : decode cX4_join 37 = .ok (.aload_n 0, 1) := by decide +kernel
theorem dX4_join_38 : decode cX4_join 38 = .ok (.invokevirtual 58, 3) := by decide +kernel
theorem dX4_join_41 : decode cX4_join 41 = .ok (.aload_n 0, 1) := by decide +kernel
theorem dX4_join_42 : decode cX4_join 42 = .ok (.getfield 12, 3) := by decide +kernel
theorem dX4_join_45 : decode cX4_join 45 = .ok (.getfield 105, 3) := by decide +kernel
theorem dX4_join_48 : decode cX4_join 48 = .ok (.iload_n 1, 1) := by decide +kernel
theorem dX4_join_49 : decode cX4_join 49 = .ok (.iload_n 2, 1) := by decide +kernel
theorem dX4_join_50 : decode cX4_join 50 = .ok (.invokevirtual 112, 3) := by decide +kernel
theorem dX4_join_53 : decode cX4_join 53 = .ok (.aload_n 0, 1) := by decide +kernel
theorem dX4_join_54 : decode cX4_join 54 = .ok (.getfield 12, 3) := by decide +kernel
theorem dX4_join_57 : decode cX4_join 57 = .ok (.getfield 105, 3) := by decide +kernel
theorem dX4_join_60 : decode cX4_join 60 = .ok (.getfield 109, 3) := by decide +kernel
theorem dX4_join_63 : decode cX4_join 63 = .ok (.iconst 1, 1) := by decide +kernel
theorem dX4_join_64 : decode cX4_join 64 = .ok (.isub, 1) := by decide +kernel
theorem dX4_join_65 : decode cX4_join 65 = .ok (.ireturn, 1) := by decide +kernel
set_option maxRecDepth 20000 in
theorem ggX4_leave_X0_has : GoodIn wsX4_leave wsX0_has := goodIn_r _ [8, 9, 100, 101, 102, 103, 104, 105, 106] (by decide +kernel) (by decide +kernel)
set_option maxRecDepth 20000 in
theorem gX4_leave_X0_has : GoodIn wsX4_leave (wsV RX4 115 RX0 yX0_has wsX0_has) := goodIn_app (goodIn_of _ (by decide +kernel)) ggX4_leave_X0_has
set_option maxRecDepth 20000 in
theorem ggX4_leave_X4_remember : GoodIn wsX4_leave wsX4_remember := goodIn_r _ [14, 15, 16, 17, 18, 19, 13, 20, 21, 22, 23, 24, 25, 26, 27, 1, 28, 29, 30, 31, 32, 33, 34, 35, 36, 37, 38, 7, 39, 40, 41, 42, 43, 44, 45, 46, 47, 48, 49, 50, 51, 52, 53, 54, 55, 56, 57, 58, 9, 59, 60, 61, 62, 63, 64, 65, 66, 67, 68, 69, 70, 71, 72, 73, 74, 75, 76, 77, 78, 79, 80, 81, 92, 93, 94, 95, 96, 97, 98, 99, 107, 108, 109, 110, 111, 112, 113, 100, 101, 102, 103, 104, 105, 106] (by decide +kernel) (by decide +kernel)
set_option maxRecDepth 20000 in
theorem gX4_leave_X4_remember : GoodIn wsX4_leave (wsV RX4 58 RX4 yX4_remember wsX4_remember) := goodIn_app (goodIn_of _ (by decide +kernel)) ggX4_leave_X4_remember
set_option maxRecDepth 20000 in
theorem ggX4_leave_X0_remove : GoodIn wsX4_leave wsX0_remove := goodIn_r _ [85, 54, 55, 56, 57, 9, 86, 5, 6, 7, 8, 87, 13, 88, 89, 90, 72, 91, 100, 101, 102, 103, 104, 105, 106] (by decide +kernel) (by decide +kernel)
set_option maxRecDepth 20000 in
theorem gX4_leave_X0_remove : GoodIn wsX4_leave (wsV RX4 119 RX0 yX0_remove wsX0_remove) := goodIn_app (goodIn_of _ (by decide +kernel)) ggX4_leave_X0_remove
theorem dX4_leave_0 : decode cX4_leave 0 = .ok (.aload_n 0, 1) := by decide +kernel
theorem dX4_leave_1 : decode cX4_leave 1 = .ok (.getfield 12, 3) := by decide +kernel
theorem dX4_leave_4 : decode cX4_leave 4 = .ok (.getfield 105, 3) := by decide +kernel
theorem dX4_leave_7 : decode cX4_leave 7 = .ok (.iload_n 1, 1) := by decide +kernel
theorem dX4_leave_8 : decode cX4_leave 8 = .ok (.invokevirtual 115, 3) := by decide +kernel
theorem dX4_leave_11 : decode cX4_leave 11 = .ok (.ifCond .ne 5, 3) := by decide +kernel
theorem dX4_leave_14 : decode cX4_leave 14 = .ok (.iconst (-1), 1) := by decide +kernel
theorem dX4_leave_15 : decode cX4_leave 15 = .ok (.ireturn, 1) := by decide +kernel
theorem dX4_leave_16 : decode cX4_leave 16 = .ok (.aload_n 0, 1) := by decide +kernel
theorem dX4_leave_17 : decode cX4_leave 17 = .ok (.invokevirtual 58, 3) := by decide +kernel
theorem dX4_leave_20 : decode cX4_leave 20 = .ok (.aload_n 0, 1) := by decide +kernel
theorem dX4_leave_21 : decode cX4_leave 21 = .ok (.getfield 12, 3) := by decide +kernel
theorem dX4_leave_24 : decode cX4_leave 24 = .ok (.getfield 105, 3) := by decide +kernel
theorem dX4_leave_27 : decode cX4_leave 27 = .ok (.getfield 116, 3) := by decide +kernel
theorem dX4_leave_30 : decode cX4_leave 30 = .ok (.iload_n 1, 1) := by decide +kernel
theorem dX4_leave_31 : decode cX4_leave 31 = .ok (.iaload, 1) := by decide +kernel
theorem dX4_leave_32 : decode cX4_leave 32 = .ok (.istore_n 2, 1) := by decide +kernel
theorem dX4_leave_33 : decode cX4_leave 33 = .ok (.aload_n 0, 1) := by decide +kernel
theorem dX4_leave_34 : decode cX4_leave 34 = .ok (.getfield 12, 3) := by decide +kernel
theorem dX4_leave_37 : decode cX4_leave 37 = .ok (.getfield 105, 3) := by decide +kernel
theorem dX4_leave_40 : decode cX4_leave 40 = .ok (.iload_n 1, 1) := by decide +kernel
theorem dX4_leave_41 : decode cX4_leave 41 = .ok (.invokevirtual 119, 3) := by decide +kernel
theorem dX4_leave_44 : decode cX4_leave 44 = .ok (.iload_n 2, 1) := by decide +kernel
theorem dX4_leave_45 : decode cX4_leave 45 = .ok (.ireturn, 1) := by decide +kernel
set_option maxRecDepth 20000 in
theorem ggX4_rank_X0_has : GoodIn wsX4_rank wsX0_has := goodIn_r _ [8, 9, 96, 97, 98, 99, 100, 101, 102] (by decide +kernel) (by decide +kernel)
set_option maxRecDepth 20000 in
theorem gX4_rank_X0_has : GoodIn wsX4_rank (wsV RX4 115 RX0 yX0_has wsX0_has) := goodIn_app (goodIn_of _ (by decide +kernel)) ggX4_rank_X0_has
set_option maxRecDepth 20000 in
theorem ggX4_rank_X4_isRank : GoodIn wsX4_rank wsX4_isRank := goodIn_r _ [13, 14, 15, 12, 16] (by decide +kernel) (by decide +kernel)
set_option maxRecDepth 20000 in
theorem gX4_rank_X4_isRank : GoodIn wsX4_rank (va_wsS RX4 102 yX4_isRank wsX4_isRank) := goodIn_app (goodIn_of _ (by decide +kernel)) ggX4_rank_X4_isRank
set_option maxRecDepth 20000 in
theorem ggX4_rank_X4_remember : GoodIn wsX4_rank wsX4_remember := goodIn_r _ [20, 21, 22, 23, 24, 25, 12, 26, 27, 28, 29, 30, 31, 32, 33, 1, 34, 35, 36, 37, 38, 39, 40, 41, 42, 43, 44, 7, 45, 46, 47, 48, 49, 50, 51, 52, 53, 54, 55, 56, 57, 58, 59, 60, 61, 62, 63, 64, 9, 65, 66, 67, 68, 69, 70, 71, 72, 73, 74, 75, 76, 77, 78, 79, 80, 81, 82, 83, 84, 85, 86, 87, 88, 89, 90, 91, 92, 93, 94, 95, 103, 104, 105, 106, 107, 108, 109, 96, 97, 98, 99, 100, 101, 102] (by decide +kernel) (by decide +kernel)
set_option maxRecDepth 20000 in
theorem gX4_rank_X4_remember : GoodIn wsX4_rank (wsV RX4 58 RX4 yX4_remember wsX4_remember) := goodIn_app (goodIn_of _ (by decide +kernel)) ggX4_rank_X4_remember
theorem dX4_rank_0 : decode cX4_rank 0 = .ok (.aload_n 0, 1) := by decide +kernel
theorem dX4_rank_1 : decode cX4_rank 1 = .ok (.getfield 12, 3) := by decide +kernel
theorem dX4_rank_4 : decode cX4_rank 4 = .ok (.getfield 105, 3) := by decide +kernel
theorem dX4_rank_7 : decode cX4_rank 7 = .ok (.iload_n 1, 1) := by decide +kernel
theorem dX4_rank_8 : decode cX4_rank 8 = .ok (.invokevirtual 115, 3) := by decide +kernel
theorem dX4_rank_11 : decode cX4_rank 11 = .ok (.ifCond .ne 5, 3) := by decide +kernel
theorem dX4_rank_14 : decode cX4_rank 14 = .ok (.iconst (-1), 1) := by decide +kernel
theorem dX4_rank_15 : decode cX4_rank 15 = .ok (.ireturn, 1) := by decide +kernel
theorem dX4_rank_16 : decode cX4_rank 16 = .ok (.iload_n 2, 1) := by decide +kernel
theorem dX4_rank_17 : decode cX4_rank 17 = .ok (.invokestatic 102, 3) := by decide +kernel
theorem dX4_rank_20 : decode cX4_rank 20 = .ok (.ifCond .ne 6, 3) := by decide +kernel
theorem dX4_rank_23 : decode cX4_rank 23 = .ok (.bipush (-2), 2) := by decide +kernel
theorem dX4_rank_25 : decode cX4_rank 25 = .ok (.ireturn, 1) := by decide +kernel
theorem dX4_rank_26 : decode cX4_rank 26 = .ok (.aload_n 0, 1) := by decide +kernel
theorem dX4_rank_27 : decode cX4_rank 27 = .ok (.invokevirtual 58, 3) := by decide +kernel
theorem dX4_rank_30 : decode cX4_rank 30 = .ok (.aload_n 0, 1) := by decide +kernel
theorem dX4_rank_31 : decode cX4_rank 31 = .ok (.getfield 12, 3) := by decide +kernel
theorem dX4_rank_34 : decode cX4_rank 34 = .ok (.getfield 105, 3) := by decide +kernel
theorem dX4_rank_37 : decode cX4_rank 37 = .ok (.getfield 120, 3) := by decide +kernel
theorem dX4_rank_40 : decode cX4_rank 40 = .ok (.iload_n 1, 1) := by decide +kernel
theorem dX4_rank_41 : decode cX4_rank 41 = .ok (.iaload, 1) := by decide +kernel
theorem dX4_rank_42 : decode cX4_rank 42 = .ok (.istore_n 3, 1) := by decide +kernel
theorem dX4_rank_43 : decode cX4_rank 43 = .ok (.aload_n 0, 1) := by decide +kernel
theorem dX4_rank_44 : decode cX4_rank 44 = .ok (.getfield 12, 3) := by decide +kernel
theorem dX4_rank_47 : decode cX4_rank 47 = .ok (.getfield 105, 3) := by decide +kernel
theorem dX4_rank_50 : decode cX4_rank 50 = .ok (.getfield 120, 3) := by decide +kernel
theorem dX4_rank_53 : decode cX4_rank 53 = .ok (.iload_n 1, 1) := by decide +kernel
theorem dX4_rank_54 : decode cX4_rank 54 = .ok (.iload_n 2, 1) := by decide +kernel
theorem dX4_rank_55 : decode cX4_rank 55 = .ok (.iastore, 1) := by decide +kernel
theorem dX4_rank_56 : decode cX4_rank 56 = .ok (.iload_n 3, 1) := by decide +kernel
theorem dX4_rank_57 : decode cX4_rank 57 = .ok (.ireturn, 1) := by decide +kernel
set_option maxRecDepth 20000 in
theorem ggX4_act_X0_has : GoodIn wsX4_act wsX0_has := goodIn_r _ [11, 12, 131, 132, 133, 134, 135, 136, 137] (by decide +kernel) (by decide +kernel)
set_option maxRecDepth 20000 in
theorem gX4_act_X0_has : GoodIn wsX4_act (wsV RX4 115 RX0 yX0_has wsX0_has) := goodIn_app (goodIn_of _ (by decide +kernel)) ggX4_act_X0_has
set_option maxRecDepth 20000 in
theorem ggX4_act_X4_isDeed : GoodIn wsX4_act wsX4_isDeed := goodIn_r _ [16, 17, 18, 15, 19] (by decide +kernel) (by decide +kernel)
set_option maxRecDepth 20000 in
theorem gX4_act_X4_isDeed : GoodIn wsX4_act (va_wsS RX4 123 yX4_isDeed wsX4_isDeed) := goodIn_app (goodIn_of _ (by decide +kernel)) ggX4_act_X4_isDeed
set_option maxRecDepth 20000 in
theorem ggX4_act_X4_remember : GoodIn wsX4_act wsX4_remember := goodIn_r _ [23, 24, 25, 26, 27, 28, 15, 29, 30, 31, 32, 33, 34, 35, 36, 1, 37, 38, 39, 40, 41, 42, 43, 44, 45, 46, 47, 10, 48, 49, 50, 51, 52, 53, 54, 55, 56, 57, 58, 59, 60, 61, 62, 63, 64, 65, 66, 67, 12, 68, 69, 70, 71, 72, 73, 74, 75, 76, 77, 78, 79, 80, 81, 82, 83, 84, 85, 86, 87, 88, 89, 90, 123, 124, 125, 126, 127, 128, 129, 130, 138, 139, 140, 141, 142, 143, 144, 131, 132, 133, 134, 135, 136, 137] (by decide +kernel) (by decide +kernel)
set_option maxRecDepth 20000 in
theorem gX4_act_X4_remember : GoodIn wsX4_act (wsV RX4 58 RX4 yX4_remember wsX4_remember) := goodIn_app (goodIn_of _ (by decide +kernel)) ggX4_act_X4_remember
set_option maxRecDepth 20000 in
theorem ggX4_act_X4_pairsOf : GoodIn wsX4_act wsX4_pairsOf := goodIn_r _ [93] (by decide +kernel) (by decide +kernel)
set_option maxRecDepth 20000 in
theorem gX4_act_X4_pairsOf : GoodIn wsX4_act (va_wsS RX4 129 yX4_pairsOf wsX4_pairsOf) := goodIn_app (goodIn_of _ (by decide +kernel)) ggX4_act_X4_pairsOf
set_option maxRecDepth 20000 in
theorem ggX4_act_X2_reason : GoodIn wsX4_act wsX2_reason := goodIn_r _ [97, 59, 54, 57, 53, 98, 99, 100, 44, 101, 58, 102, 103, 104, 105, 106, 107, 108, 109, 138, 139, 140, 141, 142, 143, 144] (by decide +kernel) (by decide +kernel)
set_option maxRecDepth 20000 in
theorem gX4_act_X2_reason : GoodIn wsX4_act (wsV RX4 133 RX2 yX2_reason wsX2_reason) := goodIn_app (goodIn_of _ (by decide +kernel)) ggX4_act_X2_reason
set_option maxRecDepth 20000 in
theorem ggX4_act_X0_noteDone : GoodIn wsX4_act wsX0_noteDone := goodIn_r _ [113, 65, 68, 114, 8, 9, 10, 11, 12, 131, 132, 133, 134, 135, 136, 137] (by decide +kernel) (by decide +kernel)
set_option maxRecDepth 20000 in
theorem gX4_act_X0_noteDone : GoodIn wsX4_act (wsV RX4 136 RX0 yX0_noteDone wsX0_noteDone) := goodIn_app (goodIn_of _ (by decide +kernel)) ggX4_act_X0_noteDone
set_option maxRecDepth 20000 in
theorem ggX4_act_X2_has : GoodIn wsX4_act wsX2_has := goodIn_r _ [118, 59, 138, 139, 140, 141, 142, 143, 144] (by decide +kernel) (by decide +kernel)
set_option maxRecDepth 20000 in
theorem gX4_act_X2_has : GoodIn wsX4_act (wsV RX4 65 RX2 yX2_has wsX2_has) := goodIn_app (goodIn_of _ (by decide +kernel)) ggX4_act_X2_has
set_option maxRecDepth 20000 in
theorem ggX4_act_X0_noteRefusal : GoodIn wsX4_act wsX0_noteRefusal := goodIn_r _ [122, 66, 67, 114, 8, 9, 10, 11, 12, 18, 15, 19, 131, 132, 133, 134, 135, 136, 137] (by decide +kernel) (by decide +kernel)
set_option maxRecDepth 20000 in
theorem gX4_act_X0_noteRefusal : GoodIn wsX4_act (wsV RX4 139 RX0 yX0_noteRefusal wsX0_noteRefusal) := goodIn_app (goodIn_of _ (by decide +kernel)) ggX4_act_X0_noteRefusal
theorem dX4_act_0 : decode cX4_act 0 = .ok (.aload_n 0, 1) := by decide +kernel
theorem dX4_act_1 : decode cX4_act 1 = .ok (.getfield 12, 3) := by decide +kernel
theorem dX4_act_4 : decode cX4_act 4 = .ok (.getfield 105, 3) := by decide +kernel
theorem dX4_act_7 : decode cX4_act 7 = .ok (.iload_n 1, 1) := by decide +kernel
theorem dX4_act_8 : decode cX4_act 8 = .ok (.invokevirtual 115, 3) := by decide +kernel
theorem dX4_act_11 : decode cX4_act 11 = .ok (.ifCond .eq 10, 3) := by decide +kernel
theorem dX4_act_14 : decode cX4_act 14 = .ok (.iload_n 2, 1) := by decide +kernel
theorem dX4_act_15 : decode cX4_act 15 = .ok (.invokestatic 123, 3) := by decide +kernel
theorem dX4_act_18 : decode cX4_act 18 = .ok (.ifCond .ne 5, 3) := by decide +kernel
theorem dX4_act_21 : decode cX4_act 21 = .ok (.iconst (-1), 1) := by decide +kernel
theorem dX4_act_22 : decode cX4_act 22 = .ok (.ireturn, 1) := by decide +kernel
theorem dX4_act_23 : decode cX4_act 23 = .ok (.aload_n 0, 1) := by decide +kernel
theorem dX4_act_24 : decode cX4_act 24 = .ok (.invokevirtual 58, 3) := by decide +kernel
theorem dX4_act_27 : decode cX4_act 27 = .ok (.aload_n 0, 1) := by decide +kernel
theorem dX4_act_28 : decode cX4_act 28 = .ok (.getfield 12, 3) := by decide +kernel
theorem dX4_act_31 : decode cX4_act 31 = .ok (.getfield 52, 3) := by decide +kernel
theorem dX4_act_34 : decode cX4_act 34 = .ok (.aload_n 0, 1) := by decide +kernel
theorem dX4_act_35 : decode cX4_act 35 = .ok (.getfield 12, 3) := by decide +kernel
theorem dX4_act_38 : decode cX4_act 38 = .ok (.getfield 105, 3) := by decide +kernel
theorem dX4_act_41 : decode cX4_act 41 = .ok (.getfield 126, 3) := by decide +kernel
theorem dX4_act_44 : decode cX4_act 44 = .ok (.iload_n 1, 1) := by decide +kernel
theorem dX4_act_45 : decode cX4_act 45 = .ok (.iaload, 1) := by decide +kernel
theorem dX4_act_46 : decode cX4_act 46 = .ok (.iload_n 2, 1) := by decide +kernel
theorem dX4_act_47 : decode cX4_act 47 = .ok (.invokestatic 129, 3) := by decide +kernel
theorem dX4_act_50 : decode cX4_act 50 = .ok (.aload_n 0, 1) := by decide +kernel
theorem dX4_act_51 : decode cX4_act 51 = .ok (.getfield 12, 3) := by decide +kernel
theorem dX4_act_54 : decode cX4_act 54 = .ok (.getfield 105, 3) := by decide +kernel
theorem dX4_act_57 : decode cX4_act 57 = .ok (.getfield 120, 3) := by decide +kernel
theorem dX4_act_60 : decode cX4_act 60 = .ok (.iload_n 1, 1) := by decide +kernel
theorem dX4_act_61 : decode cX4_act 61 = .ok (.iaload, 1) := by decide +kernel
theorem dX4_act_62 : decode cX4_act 62 = .ok (.invokevirtual 133, 3) := by decide +kernel
theorem dX4_act_65 : decode cX4_act 65 = .ok (.istore_n 3, 1) := by decide +kernel
theorem dX4_act_66 : decode cX4_act 66 = .ok (.iload_n 3, 1) := by decide +kernel
theorem dX4_act_67 : decode cX4_act 67 = .ok (.bipush (-6), 2) := by decide +kernel
theorem dX4_act_69 : decode cX4_act 69 = .ok (.if_icmp .ne 17, 3) := by decide +kernel
theorem dX4_act_72 : decode cX4_act 72 = .ok (.aload_n 0, 1) := by decide +kernel
theorem dX4_act_73 : decode cX4_act 73 = .ok (.getfield 12, 3) := by decide +kernel
theorem dX4_act_76 : decode cX4_act 76 = .ok (.getfield 105, 3) := by decide +kernel
theorem dX4_act_79 : decode cX4_act 79 = .ok (.iload_n 1, 1) := by decide +kernel
theorem dX4_act_80 : decode cX4_act 80 = .ok (.invokevirtual 136, 3) := by decide +kernel
theorem dX4_act_83 : decode cX4_act 83 = .ok (.goto 55, 3) := by decide +kernel
theorem dX4_act_86 : decode cX4_act 86 = .ok (.aload_n 0, 1) := by decide +kernel
theorem dX4_act_87 : decode cX4_act 87 = .ok (.getfield 12, 3) := by decide +kernel
theorem dX4_act_90 : decode cX4_act 90 = .ok (.getfield 52, 3) := by decide +kernel
theorem dX4_act_93 : decode cX4_act 93 = .ok (.iload_n 3, 1) := by decide +kernel
theorem dX4_act_94 : decode cX4_act 94 = .ok (.invokevirtual 65, 3) := by decide +kernel
theorem dX4_act_97 : decode cX4_act 97 = .ok (.ifCond .eq 29, 3) := by decide +kernel
theorem dX4_act_100 : decode cX4_act 100 = .ok (.aload_n 0, 1) := by decide +kernel
theorem dX4_act_101 : decode cX4_act 101 = .ok (.getfield 12, 3) := by decide +kernel
theorem dX4_act_104 : decode cX4_act 104 = .ok (.getfield 105, 3) := by decide +kernel
theorem dX4_act_107 : decode cX4_act 107 = .ok (.iload_n 1, 1) := by decide +kernel
theorem dX4_act_108 : decode cX4_act 108 = .ok (.aload_n 0, 1) := by decide +kernel
theorem dX4_act_109 : decode cX4_act 109 = .ok (.getfield 12, 3) := by decide +kernel
theorem dX4_act_112 : decode cX4_act 112 = .ok (.getfield 52, 3) := by decide +kernel
theorem dX4_act_115 : decode cX4_act 115 = .ok (.getfield 79, 3) := by decide +kernel
theorem dX4_act_118 : decode cX4_act 118 = .ok (.iload_n 3, 1) := by decide +kernel
theorem dX4_act_119 : decode cX4_act 119 = .ok (.iaload, 1) := by decide +kernel
theorem dX4_act_120 : decode cX4_act 120 = .ok (.invokevirtual 139, 3) := by decide +kernel
theorem dX4_act_123 : decode cX4_act 123 = .ok (.goto 15, 3) := by decide +kernel
theorem dX4_act_126 : decode cX4_act 126 = .ok (.aload_n 0, 1) := by decide +kernel
theorem dX4_act_127 : decode cX4_act 127 = .ok (.getfield 12, 3) := by decide +kernel
theorem dX4_act_130 : decode cX4_act 130 = .ok (.getfield 105, 3) := by decide +kernel
theorem dX4_act_133 : decode cX4_act 133 = .ok (.iload_n 1, 1) := by decide +kernel
theorem dX4_act_134 : decode cX4_act 134 = .ok (.iconst 5, 1) := by decide +kernel
theorem dX4_act_135 : decode cX4_act 135 = .ok (.invokevirtual 139, 3) := by decide +kernel
theorem dX4_act_138 : decode cX4_act 138 = .ok (.iload_n 3, 1) := by decide +kernel
theorem dX4_act_139 : decode cX4_act 139 = .ok (.ireturn, 1) := by decide +kernel
set_option maxRecDepth 20000 in
theorem ggX4_rule_X2_has : GoodIn wsX4_rule wsX2_has := goodIn_r _ [13, 14, 99, 100, 101, 102, 103, 104, 105] (by decide +kernel) (by decide +kernel)
set_option maxRecDepth 20000 in
theorem gX4_rule_X2_has : GoodIn wsX4_rule (wsV RX4 65 RX2 yX2_has wsX2_has) := goodIn_app (goodIn_of _ (by decide +kernel)) ggX4_rule_X2_has
set_option maxRecDepth 20000 in
theorem ggX4_rule_X2_triples : GoodIn wsX4_rule wsX2_triples := goodIn_r _ [18, 19, 20, 21, 12, 22, 14, 23, 24, 25, 26, 27, 28, 29, 30, 31, 32, 33, 34, 35, 36, 37, 38, 39, 40, 41, 42, 43, 44, 45, 99, 100, 101, 102, 103, 104, 105] (by decide +kernel) (by decide +kernel)
set_option maxRecDepth 20000 in
theorem gX4_rule_X2_triples : GoodIn wsX4_rule (wsV RX4 146 RX2 yX2_triples wsX2_triples) := goodIn_app (goodIn_of _ (by decide +kernel)) ggX4_rule_X2_triples
set_option maxRecDepth 20000 in
theorem ggX4_rule_X4_isIdle : GoodIn wsX4_rule wsX4_isIdle := goodIn_r _ [50, 51, 52, 53, 49, 54, 55, 1, 2, 56, 57, 58, 12, 59, 45, 23, 60, 61, 36, 24, 14, 62, 63, 64, 65, 66, 67, 68, 69, 70, 71, 72, 73, 74, 75, 76, 10, 11, 13, 77, 78, 79, 80, 81, 15, 16, 17, 18, 19, 20, 21, 22, 25, 26, 27, 28, 29, 30, 31, 32, 33, 34, 35, 37, 38, 39, 40, 41, 42, 43, 44, 91, 92, 93, 94, 95, 96, 97, 98, 99, 100, 101, 102, 103, 104, 105] (by decide +kernel) (by decide +kernel)
set_option maxRecDepth 20000 in
theorem gX4_rule_X4_isIdle : GoodIn wsX4_rule (wsV RX4 149 RX4 yX4_isIdle wsX4_isIdle) := goodIn_app (goodIn_of _ (by decide +kernel)) ggX4_rule_X4_isIdle
set_option maxRecDepth 20000 in
theorem ggX4_rule_X2_oddsOf : GoodIn wsX4_rule wsX2_oddsOf := goodIn_r _ [85, 14, 86, 87, 88, 12, 89, 23, 24, 99, 100, 101, 102, 103, 104, 105] (by decide +kernel) (by decide +kernel)
set_option maxRecDepth 20000 in
theorem gX4_rule_X2_oddsOf : GoodIn wsX4_rule (wsV RX4 153 RX2 yX2_oddsOf wsX2_oddsOf) := goodIn_app (goodIn_of _ (by decide +kernel)) ggX4_rule_X2_oddsOf
set_option maxRecDepth 20000 in
theorem ggX4_rule_J6_bitCount_0f7a4 : GoodIn wsX4_rule wsJ6_bitCount_0f7a4 := goodIn_r _ [28, 29, 30, 31] (by decide +kernel) (by decide +kernel)
set_option maxRecDepth 20000 in
theorem gX4_rule_J6_bitCount_0f7a4 : GoodIn wsX4_rule (va_wsS RX4 160 yJ6_bitCount_0f7a4 wsJ6_bitCount_0f7a4) := goodIn_app (goodIn_of _ (by decide +kernel)) ggX4_rule_J6_bitCount_0f7a4
theorem dX4_rule_0 : decode cX4_rule 0 = .ok (.aload_n 0, 1) := by decide +kernel
theorem dX4_rule_1 : decode cX4_rule 1 = .ok (.getfield 12, 3) := by decide +kernel
theorem dX4_rule_4 : decode cX4_rule 4 = .ok (.getfield 52, 3) := by decide +kernel
theorem dX4_rule_7 : decode cX4_rule 7 = .ok (.iload_n 1, 1) := by decide +kernel
theorem dX4_rule_8 : decode cX4_rule 8 = .ok (.invokevirtual 65, 3) := by decide +kernel
theorem dX4_rule_11 : decode cX4_rule 11 = .ok (.ifCond .ne 5, 3) := by decide +kernel
theorem dX4_rule_14 : decode cX4_rule 14 = .ok (.iconst (-1), 1) := by decide +kernel
theorem dX4_rule_15 : decode cX4_rule 15 = .ok (.ireturn, 1) := by decide +kernel
theorem dX4_rule_16 : decode cX4_rule 16 = .ok (.iload_n 2, 1) := by decide +kernel
theorem dX4_rule_17 : decode cX4_rule 17 = .ok (.tableswitch 164 0 7 #[47, 60, 73, 86, 99, 112, 136, 148], 47) := by decide +kernel
theorem dX4_rule_64 : decode cX4_rule 64 = .ok (.aload_n 0, 1) := by decide +kernel
theorem dX4_rule_65 : decode cX4_rule 65 = .ok (.getfield 12, 3) := by decide +kernel
theorem dX4_rule_68 : decode cX4_rule 68 = .ok (.getfield 52, 3) := by decide +kernel
theorem dX4_rule_71 : decode cX4_rule 71 = .ok (.getfield 79, 3) := by decide +kernel
theorem dX4_rule_74 : decode cX4_rule 74 = .ok (.iload_n 1, 1) := by decide +kernel
theorem dX4_rule_75 : decode cX4_rule 75 = .ok (.iaload, 1) := by decide +kernel
theorem dX4_rule_76 : decode cX4_rule 76 = .ok (.ireturn, 1) := by decide +kernel
theorem dX4_rule_77 : decode cX4_rule 77 = .ok (.aload_n 0, 1) := by decide +kernel
theorem dX4_rule_78 : decode cX4_rule 78 = .ok (.getfield 12, 3) := by decide +kernel
theorem dX4_rule_81 : decode cX4_rule 81 = .ok (.getfield 52, 3) := by decide +kernel
theorem dX4_rule_84 : decode cX4_rule 84 = .ok (.getfield 76, 3) := by decide +kernel
theorem dX4_rule_87 : decode cX4_rule 87 = .ok (.iload_n 1, 1) := by decide +kernel
theorem dX4_rule_88 : decode cX4_rule 88 = .ok (.iaload, 1) := by decide +kernel
theorem dX4_rule_89 : decode cX4_rule 89 = .ok (.ireturn, 1) := by decide +kernel
theorem dX4_rule_90 : decode cX4_rule 90 = .ok (.aload_n 0, 1) := by decide +kernel
theorem dX4_rule_91 : decode cX4_rule 91 = .ok (.getfield 12, 3) := by decide +kernel
theorem dX4_rule_94 : decode cX4_rule 94 = .ok (.getfield 52, 3) := by decide +kernel
theorem dX4_rule_97 : decode cX4_rule 97 = .ok (.getfield 142, 3) := by decide +kernel
theorem dX4_rule_100 : decode cX4_rule 100 = .ok (.iload_n 1, 1) := by decide +kernel
theorem dX4_rule_101 : decode cX4_rule 101 = .ok (.iaload, 1) := by decide +kernel
theorem dX4_rule_102 : decode cX4_rule 102 = .ok (.ireturn, 1) := by decide +kernel
theorem dX4_rule_103 : decode cX4_rule 103 = .ok (.aload_n 0, 1) := by decide +kernel
theorem dX4_rule_104 : decode cX4_rule 104 = .ok (.getfield 12, 3) := by decide +kernel
theorem dX4_rule_107 : decode cX4_rule 107 = .ok (.getfield 52, 3) := by decide +kernel
theorem dX4_rule_110 : decode cX4_rule 110 = .ok (.getfield 143, 3) := by decide +kernel
theorem dX4_rule_113 : decode cX4_rule 113 = .ok (.iload_n 1, 1) := by decide +kernel
theorem dX4_rule_114 : decode cX4_rule 114 = .ok (.iaload, 1) := by decide +kernel
theorem dX4_rule_115 : decode cX4_rule 115 = .ok (.ireturn, 1) := by decide +kernel
theorem dX4_rule_116 : decode cX4_rule 116 = .ok (.aload_n 0, 1) := by decide +kernel
theorem dX4_rule_117 : decode cX4_rule 117 = .ok (.getfield 12, 3) := by decide +kernel
theorem dX4_rule_120 : decode cX4_rule 120 = .ok (.getfield 52, 3) := by decide +kernel
theorem dX4_rule_123 : decode cX4_rule 123 = .ok (.getfield 72, 3) := by decide +kernel
theorem dX4_rule_126 : decode cX4_rule 126 = .ok (.iload_n 1, 1) := by decide +kernel
theorem dX4_rule_127 : decode cX4_rule 127 = .ok (.iaload, 1) := by decide +kernel
theorem dX4_rule_128 : decode cX4_rule 128 = .ok (.ireturn, 1) := by decide +kernel
theorem dX4_rule_129 : decode cX4_rule 129 = .ok (.aload_n 0, 1) := by decide +kernel
theorem dX4_rule_130 : decode cX4_rule 130 = .ok (.iload_n 1, 1) := by decide +kernel
theorem dX4_rule_131 : decode cX4_rule 131 = .ok (.aload_n 0, 1) := by decide +kernel
theorem dX4_rule_132 : decode cX4_rule 132 = .ok (.getfield 12, 3) := by decide +kernel
theorem dX4_rule_135 : decode cX4_rule 135 = .ok (.getfield 52, 3) := by decide +kernel
theorem dX4_rule_138 : decode cX4_rule 138 = .ok (.invokevirtual 146, 3) := by decide +kernel
theorem dX4_rule_141 : decode cX4_rule 141 = .ok (.invokevirtual 149, 3) := by decide +kernel
theorem dX4_rule_144 : decode cX4_rule 144 = .ok (.ifCond .eq 7, 3) := by decide +kernel
theorem dX4_rule_147 : decode cX4_rule 147 = .ok (.iconst 1, 1) := by decide +kernel
theorem dX4_rule_148 : decode cX4_rule 148 = .ok (.goto 4, 3) := by decide +kernel
theorem dX4_rule_151 : decode cX4_rule 151 = .ok (.iconst 0, 1) := by decide +kernel
theorem dX4_rule_152 : decode cX4_rule 152 = .ok (.ireturn, 1) := by decide +kernel
theorem dX4_rule_153 : decode cX4_rule 153 = .ok (.aload_n 0, 1) := by decide +kernel
theorem dX4_rule_154 : decode cX4_rule 154 = .ok (.getfield 12, 3) := by decide +kernel
theorem dX4_rule_157 : decode cX4_rule 157 = .ok (.getfield 52, 3) := by decide +kernel
theorem dX4_rule_160 : decode cX4_rule 160 = .ok (.iload_n 1, 1) := by decide +kernel
theorem dX4_rule_161 : decode cX4_rule 161 = .ok (.invokevirtual 153, 3) := by decide +kernel
theorem dX4_rule_164 : decode cX4_rule 164 = .ok (.ireturn, 1) := by decide +kernel
theorem dX4_rule_165 : decode cX4_rule 165 = .ok (.aload_n 0, 1) := by decide +kernel
theorem dX4_rule_166 : decode cX4_rule 166 = .ok (.getfield 12, 3) := by decide +kernel
theorem dX4_rule_169 : decode cX4_rule 169 = .ok (.getfield 52, 3) := by decide +kernel
theorem dX4_rule_172 : decode cX4_rule 172 = .ok (.getfield 157, 3) := by decide +kernel
theorem dX4_rule_175 : decode cX4_rule 175 = .ok (.iload_n 1, 1) := by decide +kernel
theorem dX4_rule_176 : decode cX4_rule 176 = .ok (.iaload, 1) := by decide +kernel
theorem dX4_rule_177 : decode cX4_rule 177 = .ok (.invokestatic 160, 3) := by decide +kernel
theorem dX4_rule_180 : decode cX4_rule 180 = .ok (.ireturn, 1) := by decide +kernel
theorem dX4_rule_181 : decode cX4_rule 181 = .ok (.bipush (-2), 2) := by decide +kernel
theorem dX4_rule_183 : decode cX4_rule 183 = .ok (.ireturn, 1) := by decide +kernel
set_option maxRecDepth 20000 in
theorem ggX4_member_X0_has : GoodIn wsX4_member wsX0_has := goodIn_r _ [11, 12, 53, 54, 55, 56, 57, 58, 59] (by decide +kernel) (by decide +kernel)
set_option maxRecDepth 20000 in
theorem gX4_member_X0_has : GoodIn wsX4_member (wsV RX4 115 RX0 yX0_has wsX0_has) := goodIn_app (goodIn_of _ (by decide +kernel)) ggX4_member_X0_has
set_option maxRecDepth 20000 in
theorem ggX4_member_X4_deedsAllowed : GoodIn wsX4_member wsX4_deedsAllowed := goodIn_r _ [17, 1, 18, 19, 20, 21, 22, 23, 24, 25, 26, 27, 28, 29, 30, 31, 32, 33, 34, 35, 36, 37, 38, 39, 40, 41, 42, 43, 44, 45, 46, 47, 48, 49, 50, 51, 52, 60, 61, 62, 63, 64, 65, 66] (by decide +kernel) (by decide +kernel)
set_option maxRecDepth 20000 in
theorem gX4_member_X4_deedsAllowed : GoodIn wsX4_member (wsV RX4 165 RX4 yX4_deedsAllowed wsX4_deedsAllowed) := goodIn_app (goodIn_of _ (by decide +kernel)) ggX4_member_X4_deedsAllowed
theorem dX4_member_0 : decode cX4_member 0 = .ok (.aload_n 0, 1) := by decide +kernel
theorem dX4_member_1 : decode cX4_member 1 = .ok (.getfield 12, 3) := by decide +kernel
theorem dX4_member_4 : decode cX4_member 4 = .ok (.getfield 105, 3) := by decide +kernel
theorem dX4_member_7 : decode cX4_member 7 = .ok (.iload_n 1, 1) := by decide +kernel
theorem dX4_member_8 : decode cX4_member 8 = .ok (.invokevirtual 115, 3) := by decide +kernel
theorem dX4_member_11 : decode cX4_member 11 = .ok (.ifCond .ne 5, 3) := by decide +kernel
theorem dX4_member_14 : decode cX4_member 14 = .ok (.iconst (-1), 1) := by decide +kernel
theorem dX4_member_15 : decode cX4_member 15 = .ok (.ireturn, 1) := by decide +kernel
theorem dX4_member_16 : decode cX4_member 16 = .ok (.iload_n 2, 1) := by decide +kernel
theorem dX4_member_17 : decode cX4_member 17 = .ok (.tableswitch 116 0 4 #[35, 48, 61, 90, 103], 35) := by decide +kernel
theorem dX4_member_52 : decode cX4_member 52 = .ok (.aload_n 0, 1) := by decide +kernel
theorem dX4_member_53 : decode cX4_member 53 = .ok (.getfield 12, 3) := by decide +kernel
theorem dX4_member_56 : decode cX4_member 56 = .ok (.getfield 105, 3) := by decide +kernel
theorem dX4_member_59 : decode cX4_member 59 = .ok (.getfield 126, 3) := by decide +kernel
theorem dX4_member_62 : decode cX4_member 62 = .ok (.iload_n 1, 1) := by decide +kernel
theorem dX4_member_63 : decode cX4_member 63 = .ok (.iaload, 1) := by decide +kernel
theorem dX4_member_64 : decode cX4_member 64 = .ok (.ireturn, 1) := by decide +kernel
theorem dX4_member_65 : decode cX4_member 65 = .ok (.aload_n 0, 1) := by decide +kernel
theorem dX4_member_66 : decode cX4_member 66 = .ok (.getfield 12, 3) := by decide +kernel
theorem dX4_member_69 : decode cX4_member 69 = .ok (.getfield 105, 3) := by decide +kernel
theorem dX4_member_72 : decode cX4_member 72 = .ok (.getfield 120, 3) := by decide +kernel
theorem dX4_member_75 : decode cX4_member 75 = .ok (.iload_n 1, 1) := by decide +kernel
theorem dX4_member_76 : decode cX4_member 76 = .ok (.iaload, 1) := by decide +kernel
theorem dX4_member_77 : decode cX4_member 77 = .ok (.ireturn, 1) := by decide +kernel
theorem dX4_member_78 : decode cX4_member 78 = .ok (.aload_n 0, 1) := by decide +kernel
theorem dX4_member_79 : decode cX4_member 79 = .ok (.aload_n 0, 1) := by decide +kernel
theorem dX4_member_80 : decode cX4_member 80 = .ok (.getfield 12, 3) := by decide +kernel
theorem dX4_member_83 : decode cX4_member 83 = .ok (.getfield 105, 3) := by decide +kernel
theorem dX4_member_86 : decode cX4_member 86 = .ok (.getfield 126, 3) := by decide +kernel
theorem dX4_member_89 : decode cX4_member 89 = .ok (.iload_n 1, 1) := by decide +kernel
theorem dX4_member_90 : decode cX4_member 90 = .ok (.iaload, 1) := by decide +kernel
theorem dX4_member_91 : decode cX4_member 91 = .ok (.aload_n 0, 1) := by decide +kernel
theorem dX4_member_92 : decode cX4_member 92 = .ok (.getfield 12, 3) := by decide +kernel
theorem dX4_member_95 : decode cX4_member 95 = .ok (.getfield 105, 3) := by decide +kernel
theorem dX4_member_98 : decode cX4_member 98 = .ok (.getfield 120, 3) := by decide +kernel
theorem dX4_member_101 : decode cX4_member 101 = .ok (.iload_n 1, 1) := by decide +kernel
theorem dX4_member_102 : decode cX4_member 102 = .ok (.iaload, 1) := by decide +kernel
theorem dX4_member_103 : decode cX4_member 103 = .ok (.invokevirtual 165, 3) := by decide +kernel
theorem dX4_member_106 : decode cX4_member 106 = .ok (.ireturn, 1) := by decide +kernel
theorem dX4_member_107 : decode cX4_member 107 = .ok (.aload_n 0, 1) := by decide +kernel
theorem dX4_member_108 : decode cX4_member 108 = .ok (.getfield 12, 3) := by decide +kernel
theorem dX4_member_111 : decode cX4_member 111 = .ok (.getfield 105, 3) := by decide +kernel
theorem dX4_member_114 : decode cX4_member 114 = .ok (.getfield 116, 3) := by decide +kernel
theorem dX4_member_117 : decode cX4_member 117 = .ok (.iload_n 1, 1) := by decide +kernel
theorem dX4_member_118 : decode cX4_member 118 = .ok (.iaload, 1) := by decide +kernel
theorem dX4_member_119 : decode cX4_member 119 = .ok (.ireturn, 1) := by decide +kernel
theorem dX4_member_120 : decode cX4_member 120 = .ok (.aload_n 0, 1) := by decide +kernel
theorem dX4_member_121 : decode cX4_member 121 = .ok (.getfield 12, 3) := by decide +kernel
theorem dX4_member_124 : decode cX4_member 124 = .ok (.getfield 105, 3) := by decide +kernel
theorem dX4_member_127 : decode cX4_member 127 = .ok (.getfield 168, 3) := by decide +kernel
theorem dX4_member_130 : decode cX4_member 130 = .ok (.iload_n 1, 1) := by decide +kernel
theorem dX4_member_131 : decode cX4_member 131 = .ok (.iaload, 1) := by decide +kernel
theorem dX4_member_132 : decode cX4_member 132 = .ok (.ireturn, 1) := by decide +kernel
theorem dX4_member_133 : decode cX4_member 133 = .ok (.bipush (-2), 2) := by decide +kernel
theorem dX4_member_135 : decode cX4_member 135 = .ok (.ireturn, 1) := by decide +kernel
set_option maxRecDepth 20000 in
theorem ggX4_allowed_X4_isCraft : GoodIn wsX4_allowed wsX4_isCraft := goodIn_r _ [6, 7, 8, 5, 9] (by decide +kernel) (by decide +kernel)
set_option maxRecDepth 20000 in
theorem gX4_allowed_X4_isCraft : GoodIn wsX4_allowed (va_wsS RX4 99 yX4_isCraft wsX4_isCraft) := goodIn_app (goodIn_of _ (by decide +kernel)) ggX4_allowed_X4_isCraft
set_option maxRecDepth 20000 in
theorem ggX4_allowed_X4_isDeed : GoodIn wsX4_allowed wsX4_isDeed := goodIn_r _ [12, 7, 8, 5, 9] (by decide +kernel) (by decide +kernel)
set_option maxRecDepth 20000 in
theorem gX4_allowed_X4_isDeed : GoodIn wsX4_allowed (va_wsS RX4 123 yX4_isDeed wsX4_isDeed) := goodIn_app (goodIn_of _ (by decide +kernel)) ggX4_allowed_X4_isDeed
set_option maxRecDepth 20000 in
theorem ggX4_allowed_X4_isRank : GoodIn wsX4_allowed wsX4_isRank := goodIn_r _ [15, 7, 8, 5, 9] (by decide +kernel) (by decide +kernel)
set_option maxRecDepth 20000 in
theorem gX4_allowed_X4_isRank : GoodIn wsX4_allowed (va_wsS RX4 102 yX4_isRank wsX4_isRank) := goodIn_app (goodIn_of _ (by decide +kernel)) ggX4_allowed_X4_isRank
set_option maxRecDepth 20000 in
theorem ggX4_allowed_X4_isBetween : GoodIn wsX4_allowed wsX4_isBetween := goodIn_r _ [9] (by decide +kernel) (by decide +kernel)
set_option maxRecDepth 20000 in
theorem gX4_allowed_X4_isBetween : GoodIn wsX4_allowed (va_wsS RX4 45 yX4_isBetween wsX4_isBetween) := goodIn_app (goodIn_of _ (by decide +kernel)) ggX4_allowed_X4_isBetween
set_option maxRecDepth 20000 in
theorem ggX4_allowed_X4_pairsOf : GoodIn wsX4_allowed wsX4_pairsOf := goodIn_r _ [18] (by decide +kernel) (by decide +kernel)
set_option maxRecDepth 20000 in
theorem gX4_allowed_X4_pairsOf : GoodIn wsX4_allowed (va_wsS RX4 129 yX4_pairsOf wsX4_pairsOf) := goodIn_app (goodIn_of _ (by decide +kernel)) ggX4_allowed_X4_pairsOf
set_option maxRecDepth 20000 in
theorem ggX4_allowed_X2_allowsByLayers : GoodIn wsX4_allowed wsX2_allowsByLayers := goodIn_r _ [23, 24, 25, 26, 27, 28, 29, 30, 22, 31, 32, 33, 34, 35, 36, 37, 38, 39, 40, 61, 62, 63, 64, 65, 66, 67] (by decide +kernel) (by decide +kernel)
set_option maxRecDepth 20000 in
theorem gX4_allowed_X2_allowsByLayers : GoodIn wsX4_allowed (wsV RX4 171 RX2 yX2_allowsByLayers wsX2_allowsByLayers) := goodIn_app (goodIn_of _ (by decide +kernel)) ggX4_allowed_X2_allowsByLayers
set_option maxRecDepth 20000 in
theorem ggX4_allowed_X2_reason : GoodIn wsX4_allowed wsX2_reason := goodIn_r _ [44, 32, 33, 40, 39, 28, 29, 30, 22, 31, 34, 45, 46, 47, 48, 49, 50, 51, 52, 61, 62, 63, 64, 65, 66, 67] (by decide +kernel) (by decide +kernel)
set_option maxRecDepth 20000 in
theorem gX4_allowed_X2_reason : GoodIn wsX4_allowed (wsV RX4 133 RX2 yX2_reason wsX2_reason) := goodIn_app (goodIn_of _ (by decide +kernel)) ggX4_allowed_X2_reason
theorem dX4_allowed_0 : decode cX4_allowed 0 = .ok (.iload_n 1, 1) := by decide +kernel
theorem dX4_allowed_1 : decode cX4_allowed 1 = .ok (.invokestatic 99, 3) := by decide +kernel
theorem dX4_allowed_4 : decode cX4_allowed 4 = .ok (.ifCond .eq 10, 3) := by decide +kernel
theorem dX4_allowed_7 : decode cX4_allowed 7 = .ok (.iload_n 2, 1) := by decide +kernel
theorem dX4_allowed_8 : decode cX4_allowed 8 = .ok (.invokestatic 123, 3) := by decide +kernel
theorem dX4_allowed_11 : decode cX4_allowed 11 = .ok (.ifCond .ne 5, 3) := by decide +kernel
theorem dX4_allowed_14 : decode cX4_allowed 14 = .ok (.iconst (-1), 1) := by decide +kernel
theorem dX4_allowed_15 : decode cX4_allowed 15 = .ok (.ireturn, 1) := by decide +kernel
theorem dX4_allowed_16 : decode cX4_allowed 16 = .ok (.iload_n 3, 1) := by decide +kernel
theorem dX4_allowed_17 : decode cX4_allowed 17 = .ok (.invokestatic 102, 3) := by decide +kernel
theorem dX4_allowed_20 : decode cX4_allowed 20 = .ok (.ifCond .eq 13, 3) := by decide +kernel
theorem dX4_allowed_23 : decode cX4_allowed 23 = .ok (.iload 4, 2) := by decide +kernel
theorem dX4_allowed_25 : decode cX4_allowed 25 = .ok (.iconst 0, 1) := by decide +kernel
theorem dX4_allowed_26 : decode cX4_allowed 26 = .ok (.iconst 1, 1) := by decide +kernel
theorem dX4_allowed_27 : decode cX4_allowed 27 = .ok (.invokestatic 45, 3) := by decide +kernel
theorem dX4_allowed_30 : decode cX4_allowed 30 = .ok (.ifCond .ne 6, 3) := by decide +kernel
theorem dX4_allowed_33 : decode cX4_allowed 33 = .ok (.bipush (-2), 2) := by decide +kernel
theorem dX4_allowed_35 : decode cX4_allowed 35 = .ok (.ireturn, 1) := by decide +kernel
theorem dX4_allowed_36 : decode cX4_allowed 36 = .ok (.iload_n 1, 1) := by decide +kernel
theorem dX4_allowed_37 : decode cX4_allowed 37 = .ok (.iload_n 2, 1) := by decide +kernel
theorem dX4_allowed_38 : decode cX4_allowed 38 = .ok (.invokestatic 129, 3) := by decide +kernel
theorem dX4_allowed_41 : decode cX4_allowed 41 = .ok (.istore 5, 2) := by decide +kernel
theorem dX4_allowed_43 : decode cX4_allowed 43 = .ok (.iload 4, 2) := by decide +kernel
theorem dX4_allowed_45 : decode cX4_allowed 45 = .ok (.ifCond .ne 19, 3) := by decide +kernel
theorem dX4_allowed_48 : decode cX4_allowed 48 = .ok (.aload_n 0, 1) := by decide +kernel
theorem dX4_allowed_49 : decode cX4_allowed 49 = .ok (.getfield 12, 3) := by decide +kernel
theorem dX4_allowed_52 : decode cX4_allowed 52 = .ok (.getfield 52, 3) := by decide +kernel
theorem dX4_allowed_55 : decode cX4_allowed 55 = .ok (.iload 5, 2) := by decide +kernel
theorem dX4_allowed_57 : decode cX4_allowed 57 = .ok (.iload_n 3, 1) := by decide +kernel
theorem dX4_allowed_58 : decode cX4_allowed 58 = .ok (.invokevirtual 171, 3) := by decide +kernel
theorem dX4_allowed_61 : decode cX4_allowed 61 = .ok (.goto 26, 3) := by decide +kernel
theorem dX4_allowed_64 : decode cX4_allowed 64 = .ok (.aload_n 0, 1) := by decide +kernel
theorem dX4_allowed_65 : decode cX4_allowed 65 = .ok (.getfield 12, 3) := by decide +kernel
theorem dX4_allowed_68 : decode cX4_allowed 68 = .ok (.getfield 52, 3) := by decide +kernel
theorem dX4_allowed_71 : decode cX4_allowed 71 = .ok (.iload 5, 2) := by decide +kernel
theorem dX4_allowed_73 : decode cX4_allowed 73 = .ok (.iload_n 3, 1) := by decide +kernel
theorem dX4_allowed_74 : decode cX4_allowed 74 = .ok (.invokevirtual 133, 3) := by decide +kernel
theorem dX4_allowed_77 : decode cX4_allowed 77 = .ok (.bipush (-6), 2) := by decide +kernel
theorem dX4_allowed_79 : decode cX4_allowed 79 = .ok (.if_icmp .ne 7, 3) := by decide +kernel
theorem dX4_allowed_82 : decode cX4_allowed 82 = .ok (.iconst 1, 1) := by decide +kernel
theorem dX4_allowed_83 : decode cX4_allowed 83 = .ok (.goto 4, 3) := by decide +kernel
theorem dX4_allowed_86 : decode cX4_allowed 86 = .ok (.iconst 0, 1) := by decide +kernel
theorem dX4_allowed_87 : decode cX4_allowed 87 = .ok (.istore 6, 2) := by decide +kernel
theorem dX4_allowed_89 : decode cX4_allowed 89 = .ok (.iload 6, 2) := by decide +kernel
theorem dX4_allowed_91 : decode cX4_allowed 91 = .ok (.ifCond .eq 7, 3) := by decide +kernel
theorem dX4_allowed_94 : decode cX4_allowed 94 = .ok (.iconst 1, 1) := by decide +kernel
theorem dX4_allowed_95 : decode cX4_allowed 95 = .ok (.goto 4, 3) := by decide +kernel
theorem dX4_allowed_98 : decode cX4_allowed 98 = .ok (.iconst 0, 1) := by decide +kernel
theorem dX4_allowed_99 : decode cX4_allowed 99 = .ok (.ireturn, 1) := by decide +kernel
set_option maxRecDepth 20000 in
theorem ggX4_why_X4_isCraft : GoodIn wsX4_why wsX4_isCraft := goodIn_r _ [6, 7, 8, 5, 9] (by decide +kernel) (by decide +kernel)
set_option maxRecDepth 20000 in
theorem gX4_why_X4_isCraft : GoodIn wsX4_why (va_wsS RX4 99 yX4_isCraft wsX4_isCraft) := goodIn_app (goodIn_of _ (by decide +kernel)) ggX4_why_X4_isCraft
set_option maxRecDepth 20000 in
theorem ggX4_why_X4_isDeed : GoodIn wsX4_why wsX4_isDeed := goodIn_r _ [12, 7, 8, 5, 9] (by decide +kernel) (by decide +kernel)
set_option maxRecDepth 20000 in
theorem gX4_why_X4_isDeed : GoodIn wsX4_why (va_wsS RX4 123 yX4_isDeed wsX4_isDeed) := goodIn_app (goodIn_of _ (by decide +kernel)) ggX4_why_X4_isDeed
set_option maxRecDepth 20000 in
theorem ggX4_why_X4_isRank : GoodIn wsX4_why wsX4_isRank := goodIn_r _ [15, 7, 8, 5, 9] (by decide +kernel) (by decide +kernel)
set_option maxRecDepth 20000 in
theorem gX4_why_X4_isRank : GoodIn wsX4_why (va_wsS RX4 102 yX4_isRank wsX4_isRank) := goodIn_app (goodIn_of _ (by decide +kernel)) ggX4_why_X4_isRank
set_option maxRecDepth 20000 in
theorem ggX4_why_X4_pairsOf : GoodIn wsX4_why wsX4_pairsOf := goodIn_r _ [18] (by decide +kernel) (by decide +kernel)
set_option maxRecDepth 20000 in
theorem gX4_why_X4_pairsOf : GoodIn wsX4_why (va_wsS RX4 129 yX4_pairsOf wsX4_pairsOf) := goodIn_app (goodIn_of _ (by decide +kernel)) ggX4_why_X4_pairsOf
set_option maxRecDepth 20000 in
theorem ggX4_why_X2_reason : GoodIn wsX4_why wsX2_reason := goodIn_r _ [23, 24, 25, 26, 27, 28, 29, 30, 22, 31, 32, 33, 34, 35, 36, 37, 38, 39, 40, 49, 50, 51, 52, 53, 54, 55] (by decide +kernel) (by decide +kernel)
set_option maxRecDepth 20000 in
theorem gX4_why_X2_reason : GoodIn wsX4_why (wsV RX4 133 RX2 yX2_reason wsX2_reason) := goodIn_app (goodIn_of _ (by decide +kernel)) ggX4_why_X2_reason
theorem dX4_why_0 : decode cX4_why 0 = .ok (.iload_n 1, 1) := by decide +kernel
theorem dX4_why_1 : decode cX4_why 1 = .ok (.invokestatic 99, 3) := by decide +kernel
theorem dX4_why_4 : decode cX4_why 4 = .ok (.ifCond .eq 10, 3) := by decide +kernel
theorem dX4_why_7 : decode cX4_why 7 = .ok (.iload_n 2, 1) := by decide +kernel
theorem dX4_why_8 : decode cX4_why 8 = .ok (.invokestatic 123, 3) := by decide +kernel
theorem dX4_why_11 : decode cX4_why 11 = .ok (.ifCond .ne 5, 3) := by decide +kernel
theorem dX4_why_14 : decode cX4_why 14 = .ok (.iconst (-1), 1) := by decide +kernel
theorem dX4_why_15 : decode cX4_why 15 = .ok (.ireturn, 1) := by decide +kernel
theorem dX4_why_16 : decode cX4_why 16 = .ok (.iload_n 3, 1) := by decide +kernel
theorem dX4_why_17 : decode cX4_why 17 = .ok (.invokestatic 102, 3) := by decide +kernel
theorem dX4_why_20 : decode cX4_why 20 = .ok (.ifCond .ne 6, 3) := by decide +kernel
theorem dX4_why_23 : decode cX4_why 23 = .ok (.bipush (-2), 2) := by decide +kernel
theorem dX4_why_25 : decode cX4_why 25 = .ok (.ireturn, 1) := by decide +kernel
theorem dX4_why_26 : decode cX4_why 26 = .ok (.aload_n 0, 1) := by decide +kernel
theorem dX4_why_27 : decode cX4_why 27 = .ok (.getfield 12, 3) := by decide +kernel
theorem dX4_why_30 : decode cX4_why 30 = .ok (.getfield 52, 3) := by decide +kernel
theorem dX4_why_33 : decode cX4_why 33 = .ok (.iload_n 1, 1) := by decide +kernel
theorem dX4_why_34 : decode cX4_why 34 = .ok (.iload_n 2, 1) := by decide +kernel
theorem dX4_why_35 : decode cX4_why 35 = .ok (.invokestatic 129, 3) := by decide +kernel
theorem dX4_why_38 : decode cX4_why 38 = .ok (.iload_n 3, 1) := by decide +kernel
theorem dX4_why_39 : decode cX4_why 39 = .ok (.invokevirtual 133, 3) := by decide +kernel
theorem dX4_why_42 : decode cX4_why 42 = .ok (.ireturn, 1) := by decide +kernel
set_option maxRecDepth 20000 in
theorem ggX4_count_X2_sizeOfKind : GoodIn wsX4_count wsX2_sizeOfKind := goodIn_r _ [14, 15, 16, 118, 119, 120, 121, 122, 123, 124] (by decide +kernel) (by decide +kernel)
set_option maxRecDepth 20000 in
theorem gX4_count_X2_sizeOfKind : GoodIn wsX4_count (wsV RX4 174 RX2 yX2_sizeOfKind wsX2_sizeOfKind) := goodIn_app (goodIn_of _ (by decide +kernel)) ggX4_count_X2_sizeOfKind
set_option maxRecDepth 20000 in
theorem ggX4_count_X4_idleRules : GoodIn wsX4_count wsX4_idleRules := goodIn_r _ [21, 1, 2, 3, 22, 23, 24, 13, 25, 26, 27, 28, 29, 15, 16, 30, 31, 32, 33, 34, 35, 36, 37, 38, 39, 40, 41, 42, 43, 44, 45, 46, 47, 48, 49, 50, 51, 52, 53, 54, 20, 55, 56, 57, 58, 59, 60, 61, 62, 63, 64, 65, 66, 67, 68, 69, 70, 71, 72, 73, 74, 75, 76, 77, 78, 79, 80, 81, 82, 83, 84, 85, 86, 87, 88, 89, 110, 111, 112, 113, 114, 115, 116, 117, 118, 119, 120, 121, 122, 123, 124] (by decide +kernel) (by decide +kernel)
set_option maxRecDepth 20000 in
theorem gX4_count_X4_idleRules : GoodIn wsX4_count (wsV RX4 177 RX4 yX4_idleRules wsX4_idleRules) := goodIn_app (goodIn_of _ (by decide +kernel)) ggX4_count_X4_idleRules
set_option maxRecDepth 20000 in
theorem ggX4_count_X2_oddPairs : GoodIn wsX4_count wsX2_oddPairs := goodIn_r _ [93, 15, 16, 94, 95, 96, 13, 97, 98, 99, 100, 101, 30, 118, 119, 120, 121, 122, 123, 124] (by decide +kernel) (by decide +kernel)
set_option maxRecDepth 20000 in
theorem gX4_count_X2_oddPairs : GoodIn wsX4_count (wsV RX4 180 RX2 yX2_oddPairs wsX2_oddPairs) := goodIn_app (goodIn_of _ (by decide +kernel)) ggX4_count_X2_oddPairs
set_option maxRecDepth 20000 in
theorem ggX4_count_X2_triples : GoodIn wsX4_count wsX2_triples := goodIn_r _ [25, 26, 27, 28, 13, 29, 15, 16, 30, 31, 32, 33, 34, 35, 36, 37, 38, 39, 40, 41, 42, 43, 44, 45, 46, 47, 48, 49, 50, 51, 118, 119, 120, 121, 122, 123, 124] (by decide +kernel) (by decide +kernel)
set_option maxRecDepth 20000 in
theorem gX4_count_X2_triples : GoodIn wsX4_count (wsV RX4 146 RX2 yX2_triples wsX2_triples) := goodIn_app (goodIn_of _ (by decide +kernel)) ggX4_count_X2_triples
set_option maxRecDepth 20000 in
theorem ggX4_count_X0_refusalsOf : GoodIn wsX4_count wsX0_refusalsOf := goodIn_r _ [106, 107, 108, 20, 109, 125, 126, 127, 128, 129, 130, 131] (by decide +kernel) (by decide +kernel)
set_option maxRecDepth 20000 in
theorem gX4_count_X0_refusalsOf : GoodIn wsX4_count (wsV RX4 186 RX0 yX0_refusalsOf wsX0_refusalsOf) := goodIn_app (goodIn_of _ (by decide +kernel)) ggX4_count_X0_refusalsOf
theorem dX4_count_0 : decode cX4_count 0 = .ok (.iload_n 1, 1) := by decide +kernel
theorem dX4_count_1 : decode cX4_count 1 = .ok (.tableswitch 264 0 16 #[83, 94, 106, 118, 130, 135, 146, 157, 168, 179, 191, 203, 215, 227, 239, 251, 259], 83) := by decide +kernel
theorem dX4_count_84 : decode cX4_count 84 = .ok (.aload_n 0, 1) := by decide +kernel
theorem dX4_count_85 : decode cX4_count 85 = .ok (.getfield 12, 3) := by decide +kernel
theorem dX4_count_88 : decode cX4_count 88 = .ok (.getfield 52, 3) := by decide +kernel
theorem dX4_count_91 : decode cX4_count 91 = .ok (.getfield 55, 3) := by decide +kernel
theorem dX4_count_94 : decode cX4_count 94 = .ok (.ireturn, 1) := by decide +kernel
theorem dX4_count_95 : decode cX4_count 95 = .ok (.aload_n 0, 1) := by decide +kernel
theorem dX4_count_96 : decode cX4_count 96 = .ok (.getfield 12, 3) := by decide +kernel
theorem dX4_count_99 : decode cX4_count 99 = .ok (.getfield 52, 3) := by decide +kernel
theorem dX4_count_102 : decode cX4_count 102 = .ok (.iconst 0, 1) := by decide +kernel
theorem dX4_count_103 : decode cX4_count 103 = .ok (.invokevirtual 174, 3) := by decide +kernel
theorem dX4_count_106 : decode cX4_count 106 = .ok (.ireturn, 1) := by decide +kernel
theorem dX4_count_107 : decode cX4_count 107 = .ok (.aload_n 0, 1) := by decide +kernel
theorem dX4_count_108 : decode cX4_count 108 = .ok (.getfield 12, 3) := by decide +kernel
theorem dX4_count_111 : decode cX4_count 111 = .ok (.getfield 52, 3) := by decide +kernel
theorem dX4_count_114 : decode cX4_count 114 = .ok (.iconst 1, 1) := by decide +kernel
theorem dX4_count_115 : decode cX4_count 115 = .ok (.invokevirtual 174, 3) := by decide +kernel
theorem dX4_count_118 : decode cX4_count 118 = .ok (.ireturn, 1) := by decide +kernel
theorem dX4_count_119 : decode cX4_count 119 = .ok (.aload_n 0, 1) := by decide +kernel
theorem dX4_count_120 : decode cX4_count 120 = .ok (.getfield 12, 3) := by decide +kernel
theorem dX4_count_123 : decode cX4_count 123 = .ok (.getfield 52, 3) := by decide +kernel
theorem dX4_count_126 : decode cX4_count 126 = .ok (.iconst 2, 1) := by decide +kernel
theorem dX4_count_127 : decode cX4_count 127 = .ok (.invokevirtual 174, 3) := by decide +kernel
theorem dX4_count_130 : decode cX4_count 130 = .ok (.ireturn, 1) := by decide +kernel
theorem dX4_count_131 : decode cX4_count 131 = .ok (.aload_n 0, 1) := by decide +kernel
theorem dX4_count_132 : decode cX4_count 132 = .ok (.invokevirtual 177, 3) := by decide +kernel
theorem dX4_count_135 : decode cX4_count 135 = .ok (.ireturn, 1) := by decide +kernel
theorem dX4_count_136 : decode cX4_count 136 = .ok (.aload_n 0, 1) := by decide +kernel
theorem dX4_count_137 : decode cX4_count 137 = .ok (.getfield 12, 3) := by decide +kernel
theorem dX4_count_140 : decode cX4_count 140 = .ok (.getfield 52, 3) := by decide +kernel
theorem dX4_count_143 : decode cX4_count 143 = .ok (.invokevirtual 180, 3) := by decide +kernel
theorem dX4_count_146 : decode cX4_count 146 = .ok (.ireturn, 1) := by decide +kernel
theorem dX4_count_147 : decode cX4_count 147 = .ok (.aload_n 0, 1) := by decide +kernel
theorem dX4_count_148 : decode cX4_count 148 = .ok (.getfield 12, 3) := by decide +kernel
theorem dX4_count_151 : decode cX4_count 151 = .ok (.getfield 52, 3) := by decide +kernel
theorem dX4_count_154 : decode cX4_count 154 = .ok (.invokevirtual 146, 3) := by decide +kernel
theorem dX4_count_157 : decode cX4_count 157 = .ok (.ireturn, 1) := by decide +kernel
theorem dX4_count_158 : decode cX4_count 158 = .ok (.aload_n 0, 1) := by decide +kernel
theorem dX4_count_159 : decode cX4_count 159 = .ok (.getfield 12, 3) := by decide +kernel
theorem dX4_count_162 : decode cX4_count 162 = .ok (.getfield 105, 3) := by decide +kernel
theorem dX4_count_165 : decode cX4_count 165 = .ok (.getfield 109, 3) := by decide +kernel
theorem dX4_count_168 : decode cX4_count 168 = .ok (.ireturn, 1) := by decide +kernel
theorem dX4_count_169 : decode cX4_count 169 = .ok (.aload_n 0, 1) := by decide +kernel
theorem dX4_count_170 : decode cX4_count 170 = .ok (.getfield 12, 3) := by decide +kernel
theorem dX4_count_173 : decode cX4_count 173 = .ok (.getfield 105, 3) := by decide +kernel
theorem dX4_count_176 : decode cX4_count 176 = .ok (.getfield 183, 3) := by decide +kernel
theorem dX4_count_179 : decode cX4_count 179 = .ok (.ireturn, 1) := by decide +kernel
theorem dX4_count_180 : decode cX4_count 180 = .ok (.aload_n 0, 1) := by decide +kernel
theorem dX4_count_181 : decode cX4_count 181 = .ok (.getfield 12, 3) := by decide +kernel
theorem dX4_count_184 : decode cX4_count 184 = .ok (.getfield 105, 3) := by decide +kernel
theorem dX4_count_187 : decode cX4_count 187 = .ok (.iconst 0, 1) := by decide +kernel
theorem dX4_count_188 : decode cX4_count 188 = .ok (.invokevirtual 186, 3) := by decide +kernel
theorem dX4_count_191 : decode cX4_count 191 = .ok (.ireturn, 1) := by decide +kernel
theorem dX4_count_192 : decode cX4_count 192 = .ok (.aload_n 0, 1) := by decide +kernel
theorem dX4_count_193 : decode cX4_count 193 = .ok (.getfield 12, 3) := by decide +kernel
theorem dX4_count_196 : decode cX4_count 196 = .ok (.getfield 105, 3) := by decide +kernel
theorem dX4_count_199 : decode cX4_count 199 = .ok (.iconst 1, 1) := by decide +kernel
theorem dX4_count_200 : decode cX4_count 200 = .ok (.invokevirtual 186, 3) := by decide +kernel
theorem dX4_count_203 : decode cX4_count 203 = .ok (.ireturn, 1) := by decide +kernel
theorem dX4_count_204 : decode cX4_count 204 = .ok (.aload_n 0, 1) := by decide +kernel
theorem dX4_count_205 : decode cX4_count 205 = .ok (.getfield 12, 3) := by decide +kernel
theorem dX4_count_208 : decode cX4_count 208 = .ok (.getfield 105, 3) := by decide +kernel
theorem dX4_count_211 : decode cX4_count 211 = .ok (.iconst 2, 1) := by decide +kernel
theorem dX4_count_212 : decode cX4_count 212 = .ok (.invokevirtual 186, 3) := by decide +kernel
theorem dX4_count_215 : decode cX4_count 215 = .ok (.ireturn, 1) := by decide +kernel
theorem dX4_count_216 : decode cX4_count 216 = .ok (.aload_n 0, 1) := by decide +kernel
theorem dX4_count_217 : decode cX4_count 217 = .ok (.getfield 12, 3) := by decide +kernel
theorem dX4_count_220 : decode cX4_count 220 = .ok (.getfield 105, 3) := by decide +kernel
theorem dX4_count_223 : decode cX4_count 223 = .ok (.iconst 3, 1) := by decide +kernel
theorem dX4_count_224 : decode cX4_count 224 = .ok (.invokevirtual 186, 3) := by decide +kernel
theorem dX4_count_227 : decode cX4_count 227 = .ok (.ireturn, 1) := by decide +kernel
theorem dX4_count_228 : decode cX4_count 228 = .ok (.aload_n 0, 1) := by decide +kernel
theorem dX4_count_229 : decode cX4_count 229 = .ok (.getfield 12, 3) := by decide +kernel
theorem dX4_count_232 : decode cX4_count 232 = .ok (.getfield 105, 3) := by decide +kernel
theorem dX4_count_235 : decode cX4_count 235 = .ok (.iconst 4, 1) := by decide +kernel
theorem dX4_count_236 : decode cX4_count 236 = .ok (.invokevirtual 186, 3) := by decide +kernel
theorem dX4_count_239 : decode cX4_count 239 = .ok (.ireturn, 1) := by decide +kernel
theorem dX4_count_240 : decode cX4_count 240 = .ok (.aload_n 0, 1) := by decide +kernel
theorem dX4_count_241 : decode cX4_count 241 = .ok (.getfield 12, 3) := by decide +kernel
theorem dX4_count_244 : decode cX4_count 244 = .ok (.getfield 105, 3) := by decide +kernel
theorem dX4_count_247 : decode cX4_count 247 = .ok (.iconst 5, 1) := by decide +kernel
theorem dX4_count_248 : decode cX4_count 248 = .ok (.invokevirtual 186, 3) := by decide +kernel
theorem dX4_count_251 : decode cX4_count 251 = .ok (.ireturn, 1) := by decide +kernel
theorem dX4_count_252 : decode cX4_count 252 = .ok (.aload_n 0, 1) := by decide +kernel
theorem dX4_count_253 : decode cX4_count 253 = .ok (.getfield 19, 3) := by decide +kernel
theorem dX4_count_256 : decode cX4_count 256 = .ok (.getfield 189, 3) := by decide +kernel
theorem dX4_count_259 : decode cX4_count 259 = .ok (.ireturn, 1) := by decide +kernel
theorem dX4_count_260 : decode cX4_count 260 = .ok (.aload_n 0, 1) := by decide +kernel
theorem dX4_count_261 : decode cX4_count 261 = .ok (.getfield 30, 3) := by decide +kernel
theorem dX4_count_264 : decode cX4_count 264 = .ok (.ireturn, 1) := by decide +kernel
theorem dX4_count_265 : decode cX4_count 265 = .ok (.bipush (-2), 2) := by decide +kernel
theorem dX4_count_267 : decode cX4_count 267 = .ok (.ireturn, 1) := by decide +kernel
set_option maxRecDepth 20000 in
theorem ggX4_leastRank_X4_isCraft : GoodIn wsX4_leastRank wsX4_isCraft := goodIn_r _ [6, 7, 8, 5, 9] (by decide +kernel) (by decide +kernel)
set_option maxRecDepth 20000 in
theorem gX4_leastRank_X4_isCraft : GoodIn wsX4_leastRank (va_wsS RX4 99 yX4_isCraft wsX4_isCraft) := goodIn_app (goodIn_of _ (by decide +kernel)) ggX4_leastRank_X4_isCraft
set_option maxRecDepth 20000 in
theorem ggX4_leastRank_X4_isDeed : GoodIn wsX4_leastRank wsX4_isDeed := goodIn_r _ [12, 7, 8, 5, 9] (by decide +kernel) (by decide +kernel)
set_option maxRecDepth 20000 in
theorem gX4_leastRank_X4_isDeed : GoodIn wsX4_leastRank (va_wsS RX4 123 yX4_isDeed wsX4_isDeed) := goodIn_app (goodIn_of _ (by decide +kernel)) ggX4_leastRank_X4_isDeed
set_option maxRecDepth 20000 in
theorem ggX4_leastRank_X4_pairsOf : GoodIn wsX4_leastRank wsX4_pairsOf := goodIn_r _ [15] (by decide +kernel) (by decide +kernel)
set_option maxRecDepth 20000 in
theorem gX4_leastRank_X4_pairsOf : GoodIn wsX4_leastRank (va_wsS RX4 129 yX4_pairsOf wsX4_pairsOf) := goodIn_app (goodIn_of _ (by decide +kernel)) ggX4_leastRank_X4_pairsOf
set_option maxRecDepth 20000 in
theorem ggX4_leastRank_X2_leastRankFor : GoodIn wsX4_leastRank wsX2_leastRankFor := goodIn_r _ [20, 21, 22, 23, 19, 24, 25, 26, 27, 28, 29, 30, 31, 32, 33, 34, 35, 36, 37, 38, 39, 40, 41, 50, 51, 52, 53, 54, 55, 56] (by decide +kernel) (by decide +kernel)
set_option maxRecDepth 20000 in
theorem gX4_leastRank_X2_leastRankFor : GoodIn wsX4_leastRank (wsV RX4 192 RX2 yX2_leastRankFor wsX2_leastRankFor) := goodIn_app (goodIn_of _ (by decide +kernel)) ggX4_leastRank_X2_leastRankFor
theorem dX4_leastRank_0 : decode cX4_leastRank 0 = .ok (.iload_n 1, 1) := by decide +kernel
theorem dX4_leastRank_1 : decode cX4_leastRank 1 = .ok (.invokestatic 99, 3) := by decide +kernel
theorem dX4_leastRank_4 : decode cX4_leastRank 4 = .ok (.ifCond .eq 10, 3) := by decide +kernel
theorem dX4_leastRank_7 : decode cX4_leastRank 7 = .ok (.iload_n 2, 1) := by decide +kernel
theorem dX4_leastRank_8 : decode cX4_leastRank 8 = .ok (.invokestatic 123, 3) := by decide +kernel
theorem dX4_leastRank_11 : decode cX4_leastRank 11 = .ok (.ifCond .ne 5, 3) := by decide +kernel
theorem dX4_leastRank_14 : decode cX4_leastRank 14 = .ok (.iconst (-1), 1) := by decide +kernel
theorem dX4_leastRank_15 : decode cX4_leastRank 15 = .ok (.ireturn, 1) := by decide +kernel
theorem dX4_leastRank_16 : decode cX4_leastRank 16 = .ok (.aload_n 0, 1) := by decide +kernel
theorem dX4_leastRank_17 : decode cX4_leastRank 17 = .ok (.getfield 12, 3) := by decide +kernel
theorem dX4_leastRank_20 : decode cX4_leastRank 20 = .ok (.getfield 52, 3) := by decide +kernel
theorem dX4_leastRank_23 : decode cX4_leastRank 23 = .ok (.iload_n 1, 1) := by decide +kernel
theorem dX4_leastRank_24 : decode cX4_leastRank 24 = .ok (.iload_n 2, 1) := by decide +kernel
theorem dX4_leastRank_25 : decode cX4_leastRank 25 = .ok (.invokestatic 129, 3) := by decide +kernel
theorem dX4_leastRank_28 : decode cX4_leastRank 28 = .ok (.invokevirtual 192, 3) := by decide +kernel
theorem dX4_leastRank_31 : decode cX4_leastRank 31 = .ok (.ireturn, 1) := by decide +kernel
set_option maxRecDepth 20000 in
theorem ggX4_ifStruck_X2_has : GoodIn wsX4_ifStruck wsX2_has := goodIn_r _ [7, 8, 80, 81, 82, 83, 84, 85, 86] (by decide +kernel) (by decide +kernel)
set_option maxRecDepth 20000 in
theorem gX4_ifStruck_X2_has : GoodIn wsX4_ifStruck (wsV RX4 65 RX2 yX2_has wsX2_has) := goodIn_app (goodIn_of _ (by decide +kernel)) ggX4_ifStruck_X2_has
set_option maxRecDepth 20000 in
theorem ggX4_ifStruck_X4_triplesWithout : GoodIn wsX4_ifStruck wsX4_triplesWithout := goodIn_r _ [13, 14, 1, 2, 15, 16, 17, 6, 18, 19, 20, 21, 22, 23, 24, 8, 25, 12, 26, 27, 28, 29, 30, 31, 32, 33, 34, 35, 36, 37, 38, 39, 4, 5, 7, 40, 41, 42, 43, 44, 45, 46, 47, 48, 49, 50, 51, 52, 53, 54, 55, 56, 57, 58, 59, 60, 61, 62, 63, 64, 65, 66, 67, 68, 69, 70, 71, 72, 73, 74, 75, 76, 77, 78, 79, 80, 81, 82, 83, 84, 85, 86] (by decide +kernel) (by decide +kernel)
set_option maxRecDepth 20000 in
theorem gX4_ifStruck_X4_triplesWithout : GoodIn wsX4_ifStruck (wsV RX4 195 RX4 yX4_triplesWithout wsX4_triplesWithout) := goodIn_app (goodIn_of _ (by decide +kernel)) ggX4_ifStruck_X4_triplesWithout
set_option maxRecDepth 20000 in
theorem ggX4_ifStruck_X2_triples : GoodIn wsX4_ifStruck wsX2_triples := goodIn_r _ [48, 49, 50, 51, 6, 52, 8, 20, 24, 53, 54, 55, 56, 57, 58, 59, 60, 61, 62, 63, 23, 64, 65, 66, 67, 68, 69, 70, 71, 19, 80, 81, 82, 83, 84, 85, 86] (by decide +kernel) (by decide +kernel)
set_option maxRecDepth 20000 in
theorem gX4_ifStruck_X2_triples : GoodIn wsX4_ifStruck (wsV RX4 146 RX2 yX2_triples wsX2_triples) := goodIn_app (goodIn_of _ (by decide +kernel)) ggX4_ifStruck_X2_triples
theorem dX4_ifStruck_0 : decode cX4_ifStruck 0 = .ok (.aload_n 0, 1) := by decide +kernel
theorem dX4_ifStruck_1 : decode cX4_ifStruck 1 = .ok (.getfield 12, 3) := by decide +kernel
theorem dX4_ifStruck_4 : decode cX4_ifStruck 4 = .ok (.getfield 52, 3) := by decide +kernel
theorem dX4_ifStruck_7 : decode cX4_ifStruck 7 = .ok (.iload_n 1, 1) := by decide +kernel
theorem dX4_ifStruck_8 : decode cX4_ifStruck 8 = .ok (.invokevirtual 65, 3) := by decide +kernel
theorem dX4_ifStruck_11 : decode cX4_ifStruck 11 = .ok (.ifCond .ne 5, 3) := by decide +kernel
theorem dX4_ifStruck_14 : decode cX4_ifStruck 14 = .ok (.iconst (-1), 1) := by decide +kernel
theorem dX4_ifStruck_15 : decode cX4_ifStruck 15 = .ok (.ireturn, 1) := by decide +kernel
theorem dX4_ifStruck_16 : decode cX4_ifStruck 16 = .ok (.sipush 1000, 3) := by decide +kernel
theorem dX4_ifStruck_19 : decode cX4_ifStruck 19 = .ok (.aload_n 0, 1) := by decide +kernel
theorem dX4_ifStruck_20 : decode cX4_ifStruck 20 = .ok (.iload_n 1, 1) := by decide +kernel
theorem dX4_ifStruck_21 : decode cX4_ifStruck 21 = .ok (.invokevirtual 195, 3) := by decide +kernel
theorem dX4_ifStruck_24 : decode cX4_ifStruck 24 = .ok (.iadd, 1) := by decide +kernel
theorem dX4_ifStruck_25 : decode cX4_ifStruck 25 = .ok (.aload_n 0, 1) := by decide +kernel
theorem dX4_ifStruck_26 : decode cX4_ifStruck 26 = .ok (.getfield 12, 3) := by decide +kernel
theorem dX4_ifStruck_29 : decode cX4_ifStruck 29 = .ok (.getfield 52, 3) := by decide +kernel
theorem dX4_ifStruck_32 : decode cX4_ifStruck 32 = .ok (.invokevirtual 146, 3) := by decide +kernel
theorem dX4_ifStruck_35 : decode cX4_ifStruck 35 = .ok (.isub, 1) := by decide +kernel
theorem dX4_ifStruck_36 : decode cX4_ifStruck 36 = .ok (.ireturn, 1) := by decide +kernel
set_option maxRecDepth 20000 in
theorem ggX4_worstBan_X4_triplesWithout : GoodIn wsX4_worstBan wsX4_triplesWithout := goodIn_r _ [9, 10, 1, 2, 11, 12, 13, 14, 15, 16, 17, 18, 19, 20, 21, 22, 23, 8, 24, 25, 26, 27, 28, 29, 30, 31, 32, 33, 34, 35, 36, 37, 38, 39, 40, 41, 42, 43, 44, 45, 46, 47, 48, 49, 50, 51, 52, 53, 54, 55, 56, 57, 58, 59, 60, 61, 62, 63, 64, 65, 66, 67, 68, 69, 70, 71, 72, 73, 74, 75, 76, 77, 78, 79, 80, 81, 82, 83, 84, 85, 86, 87] (by decide +kernel) (by decide +kernel)
set_option maxRecDepth 20000 in
theorem gX4_worstBan_X4_triplesWithout : GoodIn wsX4_worstBan (wsV RX4 195 RX4 yX4_triplesWithout wsX4_triplesWithout) := goodIn_app (goodIn_of _ (by decide +kernel)) ggX4_worstBan_X4_triplesWithout
theorem dX4_worstBan_0 : decode cX4_worstBan 0 = .ok (.bipush (-6), 2) := by decide +kernel
theorem dX4_worstBan_2 : decode cX4_worstBan 2 = .ok (.istore_n 1, 1) := by decide +kernel
theorem dX4_worstBan_3 : decode cX4_worstBan 3 = .ok (.iconst (-1), 1) := by decide +kernel
theorem dX4_worstBan_4 : decode cX4_worstBan 4 = .ok (.istore_n 2, 1) := by decide +kernel
theorem dX4_worstBan_5 : decode cX4_worstBan 5 = .ok (.iconst 0, 1) := by decide +kernel
theorem dX4_worstBan_6 : decode cX4_worstBan 6 = .ok (.istore_n 3, 1) := by decide +kernel
theorem dX4_worstBan_7 : decode cX4_worstBan 7 = .ok (.iload_n 3, 1) := by decide +kernel
theorem dX4_worstBan_8 : decode cX4_worstBan 8 = .ok (.aload_n 0, 1) := by decide +kernel
theorem dX4_worstBan_9 : decode cX4_worstBan 9 = .ok (.getfield 12, 3) := by decide +kernel
theorem dX4_worstBan_12 : decode cX4_worstBan 12 = .ok (.getfield 52, 3) := by decide +kernel
theorem dX4_worstBan_15 : decode cX4_worstBan 15 = .ok (.getfield 55, 3) := by decide +kernel
theorem dX4_worstBan_18 : decode cX4_worstBan 18 = .ok (.if_icmp .ge 46, 3) := by decide +kernel
theorem dX4_worstBan_21 : decode cX4_worstBan 21 = .ok (.aload_n 0, 1) := by decide +kernel
theorem dX4_worstBan_22 : decode cX4_worstBan 22 = .ok (.getfield 12, 3) := by decide +kernel
theorem dX4_worstBan_25 : decode cX4_worstBan 25 = .ok (.getfield 52, 3) := by decide +kernel
theorem dX4_worstBan_28 : decode cX4_worstBan 28 = .ok (.getfield 76, 3) := by decide +kernel
theorem dX4_worstBan_31 : decode cX4_worstBan 31 = .ok (.iload_n 3, 1) := by decide +kernel
theorem dX4_worstBan_32 : decode cX4_worstBan 32 = .ok (.iaload, 1) := by decide +kernel
theorem dX4_worstBan_33 : decode cX4_worstBan 33 = .ok (.iconst 1, 1) := by decide +kernel
theorem dX4_worstBan_34 : decode cX4_worstBan 34 = .ok (.if_icmp .eq 6, 3) := by decide +kernel
theorem dX4_worstBan_37 : decode cX4_worstBan 37 = .ok (.goto 21, 3) := by decide +kernel
theorem dX4_worstBan_40 : decode cX4_worstBan 40 = .ok (.aload_n 0, 1) := by decide +kernel
theorem dX4_worstBan_41 : decode cX4_worstBan 41 = .ok (.iload_n 3, 1) := by decide +kernel
theorem dX4_worstBan_42 : decode cX4_worstBan 42 = .ok (.invokevirtual 195, 3) := by decide +kernel
theorem dX4_worstBan_45 : decode cX4_worstBan 45 = .ok (.istore 4, 2) := by decide +kernel
theorem dX4_worstBan_47 : decode cX4_worstBan 47 = .ok (.iload 4, 2) := by decide +kernel
theorem dX4_worstBan_49 : decode cX4_worstBan 49 = .ok (.iload_n 2, 1) := by decide +kernel
theorem dX4_worstBan_50 : decode cX4_worstBan 50 = .ok (.if_icmp .le 8, 3) := by decide +kernel
theorem dX4_worstBan_53 : decode cX4_worstBan 53 = .ok (.iload 4, 2) := by decide +kernel
theorem dX4_worstBan_55 : decode cX4_worstBan 55 = .ok (.istore_n 2, 1) := by decide +kernel
theorem dX4_worstBan_56 : decode cX4_worstBan 56 = .ok (.iload_n 3, 1) := by decide +kernel
theorem dX4_worstBan_57 : decode cX4_worstBan 57 = .ok (.istore_n 1, 1) := by decide +kernel
theorem dX4_worstBan_58 : decode cX4_worstBan 58 = .ok (.iinc 3 1, 3) := by decide +kernel
theorem dX4_worstBan_61 : decode cX4_worstBan 61 = .ok (.goto (-54), 3) := by decide +kernel
theorem dX4_worstBan_64 : decode cX4_worstBan 64 = .ok (.iload_n 1, 1) := by decide +kernel
theorem dX4_worstBan_65 : decode cX4_worstBan 65 = .ok (.ireturn, 1) := by decide +kernel
set_option maxRecDepth 20000 in
theorem ggX4_bestWaiver_X4_isSeal : GoodIn wsX4_bestWaiver wsX4_isSeal := goodIn_r _ [4, 5, 6, 3, 7] (by decide +kernel) (by decide +kernel)
set_option maxRecDepth 20000 in
theorem gX4_bestWaiver_X4_isSeal : GoodIn wsX4_bestWaiver (va_wsS RX4 49 yX4_isSeal wsX4_isSeal) := goodIn_app (goodIn_of _ (by decide +kernel)) ggX4_bestWaiver_X4_isSeal
set_option maxRecDepth 20000 in
theorem ggX4_bestWaiver_X4_triplesWithWaiver : GoodIn wsX4_bestWaiver wsX4_triplesWithWaiver := goodIn_r _ [11, 12, 13, 14, 15, 16, 17, 18, 19, 20, 21, 22, 23, 24, 25, 26, 27, 3, 28, 29, 30, 31, 32, 33, 34, 35, 36, 37, 38, 39, 40, 41, 42, 43, 44, 45, 46, 47, 48, 49, 50, 51, 52, 53, 54, 55, 56, 57, 58, 59, 60, 61, 62, 63, 64, 65, 66, 67, 68, 69, 70, 71, 72, 73, 74, 75, 76, 77, 78, 79, 80, 81, 82, 83, 84] (by decide +kernel) (by decide +kernel)
set_option maxRecDepth 20000 in
theorem gX4_bestWaiver_X4_triplesWithWaiver : GoodIn wsX4_bestWaiver (wsV RX4 198 RX4 yX4_triplesWithWaiver wsX4_triplesWithWaiver) := goodIn_app (goodIn_of _ (by decide +kernel)) ggX4_bestWaiver_X4_triplesWithWaiver
theorem dX4_bestWaiver_0 : decode cX4_bestWaiver 0 = .ok (.iload_n 1, 1) := by decide +kernel
theorem dX4_bestWaiver_1 : decode cX4_bestWaiver 1 = .ok (.invokestatic 49, 3) := by decide +kernel
theorem dX4_bestWaiver_4 : decode cX4_bestWaiver 4 = .ok (.ifCond .ne 6, 3) := by decide +kernel
theorem dX4_bestWaiver_7 : decode cX4_bestWaiver 7 = .ok (.bipush (-2), 2) := by decide +kernel
theorem dX4_bestWaiver_9 : decode cX4_bestWaiver 9 = .ok (.ireturn, 1) := by decide +kernel
theorem dX4_bestWaiver_10 : decode cX4_bestWaiver 10 = .ok (.iconst 0, 1) := by decide +kernel
theorem dX4_bestWaiver_11 : decode cX4_bestWaiver 11 = .ok (.istore_n 2, 1) := by decide +kernel
theorem dX4_bestWaiver_12 : decode cX4_bestWaiver 12 = .ok (.iconst (-1), 1) := by decide +kernel
theorem dX4_bestWaiver_13 : decode cX4_bestWaiver 13 = .ok (.istore_n 3, 1) := by decide +kernel
theorem dX4_bestWaiver_14 : decode cX4_bestWaiver 14 = .ok (.iconst 0, 1) := by decide +kernel
theorem dX4_bestWaiver_15 : decode cX4_bestWaiver 15 = .ok (.istore 4, 2) := by decide +kernel
theorem dX4_bestWaiver_17 : decode cX4_bestWaiver 17 = .ok (.iload 4, 2) := by decide +kernel
theorem dX4_bestWaiver_19 : decode cX4_bestWaiver 19 = .ok (.iconst 5, 1) := by decide +kernel
theorem dX4_bestWaiver_20 : decode cX4_bestWaiver 20 = .ok (.if_icmp .ge 30, 3) := by decide +kernel
theorem dX4_bestWaiver_23 : decode cX4_bestWaiver 23 = .ok (.aload_n 0, 1) := by decide +kernel
theorem dX4_bestWaiver_24 : decode cX4_bestWaiver 24 = .ok (.iload 4, 2) := by decide +kernel
theorem dX4_bestWaiver_26 : decode cX4_bestWaiver 26 = .ok (.iload_n 1, 1) := by decide +kernel
theorem dX4_bestWaiver_27 : decode cX4_bestWaiver 27 = .ok (.invokevirtual 198, 3) := by decide +kernel
theorem dX4_bestWaiver_30 : decode cX4_bestWaiver 30 = .ok (.istore 5, 2) := by decide +kernel
theorem dX4_bestWaiver_32 : decode cX4_bestWaiver 32 = .ok (.iload 5, 2) := by decide +kernel
theorem dX4_bestWaiver_34 : decode cX4_bestWaiver 34 = .ok (.iload_n 3, 1) := by decide +kernel
theorem dX4_bestWaiver_35 : decode cX4_bestWaiver 35 = .ok (.if_icmp .lt 9, 3) := by decide +kernel
theorem dX4_bestWaiver_38 : decode cX4_bestWaiver 38 = .ok (.iload 5, 2) := by decide +kernel
theorem dX4_bestWaiver_40 : decode cX4_bestWaiver 40 = .ok (.istore_n 3, 1) := by decide +kernel
theorem dX4_bestWaiver_41 : decode cX4_bestWaiver 41 = .ok (.iload 4, 2) := by decide +kernel
theorem dX4_bestWaiver_43 : decode cX4_bestWaiver 43 = .ok (.istore_n 2, 1) := by decide +kernel
theorem dX4_bestWaiver_44 : decode cX4_bestWaiver 44 = .ok (.iinc 4 1, 3) := by decide +kernel
theorem dX4_bestWaiver_47 : decode cX4_bestWaiver 47 = .ok (.goto (-30), 3) := by decide +kernel
theorem dX4_bestWaiver_50 : decode cX4_bestWaiver 50 = .ok (.iload_n 2, 1) := by decide +kernel
theorem dX4_bestWaiver_51 : decode cX4_bestWaiver 51 = .ok (.ireturn, 1) := by decide +kernel
set_option maxRecDepth 20000 in
theorem ggX4_undo_X4_isBetween : GoodIn wsX4_undo wsX4_isBetween := goodIn_r _ [7] (by decide +kernel) (by decide +kernel)
set_option maxRecDepth 20000 in
theorem gX4_undo_X4_isBetween : GoodIn wsX4_undo (va_wsS RX4 45 yX4_isBetween wsX4_isBetween) := goodIn_app (goodIn_of _ (by decide +kernel)) ggX4_undo_X4_isBetween
set_option maxRecDepth 20000 in
theorem ggX4_undo_X3_copyFrom : GoodIn wsX4_undo wsX3_copyFrom := goodIn_r _ [12, 13, 14, 15, 16, 17, 18, 19, 20, 21, 22, 23, 24, 25, 26, 27, 6, 28, 29, 30, 31, 32, 33, 34, 35, 36, 37, 38, 39, 40, 41, 42, 43, 44, 45, 46, 47, 48, 55, 56, 57, 58, 59, 60, 61, 62, 63, 64, 65, 66, 67, 68, 69, 70] (by decide +kernel) (by decide +kernel)
set_option maxRecDepth 20000 in
theorem gX4_undo_X3_copyFrom : GoodIn wsX4_undo (wsV RX4 208 RX3 yX3_copyFrom wsX3_copyFrom) := goodIn_app (goodIn_of _ (by decide +kernel)) ggX4_undo_X3_copyFrom
theorem dX4_undo_0 : decode cX4_undo 0 = .ok (.aload_n 0, 1) := by decide +kernel
theorem dX4_undo_1 : decode cX4_undo 1 = .ok (.getfield 30, 3) := by decide +kernel
theorem dX4_undo_4 : decode cX4_undo 4 = .ok (.iconst 1, 1) := by decide +kernel
theorem dX4_undo_5 : decode cX4_undo 5 = .ok (.bipush 6, 2) := by decide +kernel
theorem dX4_undo_7 : decode cX4_undo 7 = .ok (.invokestatic 45, 3) := by decide +kernel
theorem dX4_undo_10 : decode cX4_undo 10 = .ok (.ifCond .ne 6, 3) := by decide +kernel
theorem dX4_undo_13 : decode cX4_undo 13 = .ok (.bipush (-5), 2) := by decide +kernel
theorem dX4_undo_15 : decode cX4_undo 15 = .ok (.ireturn, 1) := by decide +kernel
theorem dX4_undo_16 : decode cX4_undo 16 = .ok (.aload_n 0, 1) := by decide +kernel
theorem dX4_undo_17 : decode cX4_undo 17 = .ok (.getfield 27, 3) := by decide +kernel
theorem dX4_undo_20 : decode cX4_undo 20 = .ok (.aload_n 0, 1) := by decide +kernel
theorem dX4_undo_21 : decode cX4_undo 21 = .ok (.getfield 30, 3) := by decide +kernel
theorem dX4_undo_24 : decode cX4_undo 24 = .ok (.iconst 1, 1) := by decide +kernel
theorem dX4_undo_25 : decode cX4_undo 25 = .ok (.isub, 1) := by decide +kernel
theorem dX4_undo_26 : decode cX4_undo 26 = .ok (.aaload, 1) := by decide +kernel
theorem dX4_undo_27 : decode cX4_undo 27 = .ok (.astore_n 1, 1) := by decide +kernel
theorem dX4_undo_28 : decode cX4_undo 28 = .ok (.aload_n 1, 1) := by decide +kernel
theorem dX4_undo_29 : decode cX4_undo 29 = .ok (.ifnonnull 6, 3) := by decide +kernel
theorem dX4_undo_32 : decode cX4_undo 32 = .ok (.bipush (-5), 2) := by decide +kernel
theorem dX4_undo_34 : decode cX4_undo 34 = .ok (.ireturn, 1) := by decide +kernel
theorem dX4_undo_35 : decode cX4_undo 35 = .ok (.aload_n 0, 1) := by decide +kernel
theorem dX4_undo_36 : decode cX4_undo 36 = .ok (.getfield 12, 3) := by decide +kernel
theorem dX4_undo_39 : decode cX4_undo 39 = .ok (.aload_n 1, 1) := by decide +kernel
theorem dX4_undo_40 : decode cX4_undo 40 = .ok (.invokevirtual 208, 3) := by decide +kernel
theorem dX4_undo_43 : decode cX4_undo 43 = .ok (.aload_n 0, 1) := by decide +kernel
theorem dX4_undo_44 : decode cX4_undo 44 = .ok (.dup, 1) := by decide +kernel
theorem dX4_undo_45 : decode cX4_undo 45 = .ok (.getfield 30, 3) := by decide +kernel
theorem dX4_undo_48 : decode cX4_undo 48 = .ok (.iconst 1, 1) := by decide +kernel
theorem dX4_undo_49 : decode cX4_undo 49 = .ok (.isub, 1) := by decide +kernel
theorem dX4_undo_50 : decode cX4_undo 50 = .ok (.putfield 30, 3) := by decide +kernel
theorem dX4_undo_53 : decode cX4_undo 53 = .ok (.aload_n 0, 1) := by decide +kernel
theorem dX4_undo_54 : decode cX4_undo 54 = .ok (.getfield 30, 3) := by decide +kernel
theorem dX4_undo_57 : decode cX4_undo 57 = .ok (.ireturn, 1) := by decide +kernel
set_option maxRecDepth 20000 in
theorem ggX4_remember_X4_dropOldest : GoodIn wsX4_remember wsX4_dropOldest := goodIn_r _ [7, 2, 1, 72, 73, 74, 75, 76, 77] (by decide +kernel) (by decide +kernel)
set_option maxRecDepth 20000 in
theorem gX4_remember_X4_dropOldest : GoodIn wsX4_remember (wsV RX4 216 RX4 yX4_dropOldest wsX4_dropOldest) := goodIn_app (goodIn_of _ (by decide +kernel)) ggX4_remember_X4_dropOldest
set_option maxRecDepth 20000 in
theorem ggX4_remember_X4_copyInto : GoodIn wsX4_remember wsX4_copyInto := goodIn_r _ [11, 12, 13, 14, 15, 16, 17, 18, 19, 20, 21, 22, 23, 24, 25, 26, 27, 28, 29, 30, 31, 32, 33, 34, 35, 36, 37, 38, 39, 40, 41, 42, 43, 44, 45, 46, 47, 48, 49, 50, 51, 52, 53, 54, 55, 56, 57, 58, 6, 59, 60, 61, 62, 63, 64, 65, 66, 67, 68, 69, 70, 71, 78, 79, 72, 73, 74, 75, 76, 77, 80, 81, 82, 83, 84, 85, 86, 87, 88, 89, 90, 91, 92, 93] (by decide +kernel) (by decide +kernel)
set_option maxRecDepth 20000 in
theorem gX4_remember_X4_copyInto : GoodIn wsX4_remember (wsV RX4 212 RX4 yX4_copyInto wsX4_copyInto) := goodIn_app (goodIn_of _ (by decide +kernel)) ggX4_remember_X4_copyInto
theorem dX4_remember_0 : decode cX4_remember 0 = .ok (.aload_n 0, 1) := by decide +kernel
theorem dX4_remember_1 : decode cX4_remember 1 = .ok (.getfield 30, 3) := by decide +kernel
theorem dX4_remember_4 : decode cX4_remember 4 = .ok (.bipush 6, 2) := by decide +kernel
theorem dX4_remember_6 : decode cX4_remember 6 = .ok (.if_icmp .lt 7, 3) := by decide +kernel
theorem dX4_remember_9 : decode cX4_remember 9 = .ok (.aload_n 0, 1) := by decide +kernel
theorem dX4_remember_10 : decode cX4_remember 10 = .ok (.invokevirtual 216, 3) := by decide +kernel
theorem dX4_remember_13 : decode cX4_remember 13 = .ok (.aload_n 0, 1) := by decide +kernel
theorem dX4_remember_14 : decode cX4_remember 14 = .ok (.getfield 27, 3) := by decide +kernel
theorem dX4_remember_17 : decode cX4_remember 17 = .ok (.aload_n 0, 1) := by decide +kernel
theorem dX4_remember_18 : decode cX4_remember 18 = .ok (.getfield 30, 3) := by decide +kernel
theorem dX4_remember_21 : decode cX4_remember 21 = .ok (.aload_n 0, 1) := by decide +kernel
theorem dX4_remember_22 : decode cX4_remember 22 = .ok (.aload_n 0, 1) := by decide +kernel
theorem dX4_remember_23 : decode cX4_remember 23 = .ok (.getfield 27, 3) := by decide +kernel
theorem dX4_remember_26 : decode cX4_remember 26 = .ok (.aload_n 0, 1) := by decide +kernel
theorem dX4_remember_27 : decode cX4_remember 27 = .ok (.getfield 30, 3) := by decide +kernel
theorem dX4_remember_30 : decode cX4_remember 30 = .ok (.aaload, 1) := by decide +kernel
theorem dX4_remember_31 : decode cX4_remember 31 = .ok (.invokevirtual 212, 3) := by decide +kernel
theorem dX4_remember_34 : decode cX4_remember 34 = .ok (.aastore, 1) := by decide +kernel
theorem dX4_remember_35 : decode cX4_remember 35 = .ok (.aload_n 0, 1) := by decide +kernel
theorem dX4_remember_36 : decode cX4_remember 36 = .ok (.dup, 1) := by decide +kernel
theorem dX4_remember_37 : decode cX4_remember 37 = .ok (.getfield 30, 3) := by decide +kernel
theorem dX4_remember_40 : decode cX4_remember 40 = .ok (.iconst 1, 1) := by decide +kernel
theorem dX4_remember_41 : decode cX4_remember 41 = .ok (.iadd, 1) := by decide +kernel
theorem dX4_remember_42 : decode cX4_remember 42 = .ok (.putfield 30, 3) := by decide +kernel
theorem dX4_remember_45 : decode cX4_remember 45 = .ok (.return_, 1) := by decide +kernel
theorem dX4_dropOldest_0 : decode cX4_dropOldest 0 = .ok (.aload_n 0, 1) := by decide +kernel
theorem dX4_dropOldest_1 : decode cX4_dropOldest 1 = .ok (.getfield 27, 3) := by decide +kernel
theorem dX4_dropOldest_4 : decode cX4_dropOldest 4 = .ok (.iconst 0, 1) := by decide +kernel
theorem dX4_dropOldest_5 : decode cX4_dropOldest 5 = .ok (.aaload, 1) := by decide +kernel
theorem dX4_dropOldest_6 : decode cX4_dropOldest 6 = .ok (.astore_n 1, 1) := by decide +kernel
theorem dX4_dropOldest_7 : decode cX4_dropOldest 7 = .ok (.iconst 0, 1) := by decide +kernel
theorem dX4_dropOldest_8 : decode cX4_dropOldest 8 = .ok (.istore_n 2, 1) := by decide +kernel
theorem dX4_dropOldest_9 : decode cX4_dropOldest 9 = .ok (.iload_n 2, 1) := by decide +kernel
theorem dX4_dropOldest_10 : decode cX4_dropOldest 10 = .ok (.iconst 5, 1) := by decide +kernel
theorem dX4_dropOldest_11 : decode cX4_dropOldest 11 = .ok (.if_icmp .ge 23, 3) := by decide +kernel
theorem dX4_dropOldest_14 : decode cX4_dropOldest 14 = .ok (.aload_n 0, 1) := by decide +kernel
theorem dX4_dropOldest_15 : decode cX4_dropOldest 15 = .ok (.getfield 27, 3) := by decide +kernel
theorem dX4_dropOldest_18 : decode cX4_dropOldest 18 = .ok (.iload_n 2, 1) := by decide +kernel
theorem dX4_dropOldest_19 : decode cX4_dropOldest 19 = .ok (.aload_n 0, 1) := by decide +kernel
theorem dX4_dropOldest_20 : decode cX4_dropOldest 20 = .ok (.getfield 27, 3) := by decide +kernel
theorem dX4_dropOldest_23 : decode cX4_dropOldest 23 = .ok (.iload_n 2, 1) := by decide +kernel
theorem dX4_dropOldest_24 : decode cX4_dropOldest 24 = .ok (.iconst 1, 1) := by decide +kernel
theorem dX4_dropOldest_25 : decode cX4_dropOldest 25 = .ok (.iadd, 1) := by decide +kernel
theorem dX4_dropOldest_26 : decode cX4_dropOldest 26 = .ok (.aaload, 1) := by decide +kernel
theorem dX4_dropOldest_27 : decode cX4_dropOldest 27 = .ok (.aastore, 1) := by decide +kernel
theorem dX4_dropOldest_28 : decode cX4_dropOldest 28 = .ok (.iinc 2 1, 3) := by decide +kernel
theorem dX4_dropOldest_31 : decode cX4_dropOldest 31 = .ok (.goto (-22), 3) := by decide +kernel
theorem dX4_dropOldest_34 : decode cX4_dropOldest 34 = .ok (.aload_n 0, 1) := by decide +kernel
theorem dX4_dropOldest_35 : decode cX4_dropOldest 35 = .ok (.getfield 27, 3) := by decide +kernel
theorem dX4_dropOldest_38 : decode cX4_dropOldest 38 = .ok (.iconst 5, 1) := by decide +kernel
theorem dX4_dropOldest_39 : decode cX4_dropOldest 39 = .ok (.aload_n 1, 1) := by decide +kernel
theorem dX4_dropOldest_40 : decode cX4_dropOldest 40 = .ok (.aastore, 1) := by decide +kernel
theorem dX4_dropOldest_41 : decode cX4_dropOldest 41 = .ok (.aload_n 0, 1) := by decide +kernel
theorem dX4_dropOldest_42 : decode cX4_dropOldest 42 = .ok (.iconst 5, 1) := by decide +kernel
theorem dX4_dropOldest_43 : decode cX4_dropOldest 43 = .ok (.putfield 30, 3) := by decide +kernel
theorem dX4_dropOldest_46 : decode cX4_dropOldest 46 = .ok (.return_, 1) := by decide +kernel
set_option maxRecDepth 20000 in
theorem ggX4_copyInto_X3_init : GoodIn wsX4_copyInto wsX3_init := goodIn_r _ [6, 7, 8, 9, 10, 11, 12, 13, 14, 15, 16, 17, 18, 19, 20, 21, 22, 23, 24, 25, 26, 27, 28, 29, 30, 31, 32, 33, 34, 35, 36, 37, 38, 70, 71, 72, 73, 74, 75, 76, 62, 63, 77, 78, 79, 80, 81, 82, 83] (by decide +kernel) (by decide +kernel)
set_option maxRecDepth 20000 in
theorem gX4_copyInto_X3_init_n11 : GoodIn wsX4_copyInto (wsX3_init) := ggX4_copyInto_X3_init
set_option maxRecDepth 20000 in
theorem ggX4_copyInto_X3_copyFrom : GoodIn wsX4_copyInto wsX3_copyFrom := goodIn_r _ [42, 13, 17, 43, 44, 45, 12, 46, 22, 23, 24, 25, 26, 27, 28, 47, 48, 49, 50, 51, 52, 53, 54, 55, 56, 57, 58, 59, 60, 16, 61, 32, 33, 34, 35, 36, 37, 38, 62, 63, 70, 71, 72, 73, 74, 75, 76, 77, 78, 79, 80, 81, 82, 83] (by decide +kernel) (by decide +kernel)
set_option maxRecDepth 20000 in
theorem gX4_copyInto_X3_copyFrom : GoodIn wsX4_copyInto (wsV RX4 208 RX3 yX3_copyFrom wsX3_copyFrom) := goodIn_app (goodIn_of _ (by decide +kernel)) ggX4_copyInto_X3_copyFrom
theorem dX4_copyInto_0 : decode cX4_copyInto 0 = .ok (.aload_n 1, 1) := by decide +kernel
theorem dX4_copyInto_1 : decode cX4_copyInto 1 = .ok (.ifnonnull 13, 3) := by decide +kernel
theorem dX4_copyInto_4 : decode cX4_copyInto 4 = .ok (.new 9, 3) := by decide +kernel
theorem dX4_copyInto_7 : decode cX4_copyInto 7 = .ok (.dup, 1) := by decide +kernel
theorem dX4_copyInto_8 : decode cX4_copyInto 8 = .ok (.invokespecial 11, 3) := by decide +kernel
theorem dX4_copyInto_11 : decode cX4_copyInto 11 = .ok (.goto 4, 3) := by decide +kernel
theorem dX4_copyInto_14 : decode cX4_copyInto 14 = .ok (.aload_n 1, 1) := by decide +kernel
theorem dX4_copyInto_15 : decode cX4_copyInto 15 = .ok (.astore_n 2, 1) := by decide +kernel
theorem dX4_copyInto_16 : decode cX4_copyInto 16 = .ok (.aload_n 2, 1) := by decide +kernel
theorem dX4_copyInto_17 : decode cX4_copyInto 17 = .ok (.aload_n 0, 1) := by decide +kernel
theorem dX4_copyInto_18 : decode cX4_copyInto 18 = .ok (.getfield 12, 3) := by decide +kernel
theorem dX4_copyInto_21 : decode cX4_copyInto 21 = .ok (.invokevirtual 208, 3) := by decide +kernel
theorem dX4_copyInto_24 : decode cX4_copyInto 24 = .ok (.aload_n 2, 1) := by decide +kernel
theorem dX4_copyInto_25 : decode cX4_copyInto 25 = .ok (.areturn, 1) := by decide +kernel
set_option maxRecDepth 20000 in
theorem ggX4_triplesWithout_X2_copyFrom : GoodIn wsX4_triplesWithout wsX2_copyFrom := goodIn_r _ [8, 9, 10, 11, 12, 13, 14, 15, 16, 17, 18, 19, 20, 21, 22, 23, 24, 25, 26, 75, 76, 77, 78, 79, 80, 81] (by decide +kernel) (by decide +kernel)
set_option maxRecDepth 20000 in
theorem gX4_triplesWithout_X2_copyFrom : GoodIn wsX4_triplesWithout (wsV RX4 219 RX2 yX2_copyFrom wsX2_copyFrom) := goodIn_app (goodIn_of _ (by decide +kernel)) ggX4_triplesWithout_X2_copyFrom
set_option maxRecDepth 20000 in
theorem ggX4_triplesWithout_X2_remove : GoodIn wsX4_triplesWithout wsX2_remove := goodIn_r _ [30, 9, 10, 11, 12, 13, 14, 15, 31, 32, 33, 7, 34, 35, 17, 36, 37, 38, 21, 39, 75, 76, 77, 78, 79, 80, 81] (by decide +kernel) (by decide +kernel)
set_option maxRecDepth 20000 in
theorem gX4_triplesWithout_X2_remove : GoodIn wsX4_triplesWithout (wsV RX4 68 RX2 yX2_remove wsX2_remove) := goodIn_app (goodIn_of _ (by decide +kernel)) ggX4_triplesWithout_X2_remove
set_option maxRecDepth 20000 in
theorem ggX4_triplesWithout_X2_triples : GoodIn wsX4_triplesWithout wsX2_triples := goodIn_r _ [43, 44, 45, 46, 7, 47, 15, 10, 14, 48, 49, 50, 51, 52, 53, 54, 55, 56, 57, 58, 13, 59, 60, 61, 62, 63, 64, 65, 66, 9, 75, 76, 77, 78, 79, 80, 81] (by decide +kernel) (by decide +kernel)
set_option maxRecDepth 20000 in
theorem gX4_triplesWithout_X2_triples : GoodIn wsX4_triplesWithout (wsV RX4 146 RX2 yX2_triples wsX2_triples) := goodIn_app (goodIn_of _ (by decide +kernel)) ggX4_triplesWithout_X2_triples
theorem dX4_triplesWithout_0 : decode cX4_triplesWithout 0 = .ok (.aload_n 0, 1) := by decide +kernel
theorem dX4_triplesWithout_1 : decode cX4_triplesWithout 1 = .ok (.getfield 37, 3) := by decide +kernel
theorem dX4_triplesWithout_4 : decode cX4_triplesWithout 4 = .ok (.aload_n 0, 1) := by decide +kernel
theorem dX4_triplesWithout_5 : decode cX4_triplesWithout 5 = .ok (.getfield 12, 3) := by decide +kernel
theorem dX4_triplesWithout_8 : decode cX4_triplesWithout 8 = .ok (.getfield 52, 3) := by decide +kernel
theorem dX4_triplesWithout_11 : decode cX4_triplesWithout 11 = .ok (.invokevirtual 219, 3) := by decide +kernel
theorem dX4_triplesWithout_14 : decode cX4_triplesWithout 14 = .ok (.aload_n 0, 1) := by decide +kernel
theorem dX4_triplesWithout_15 : decode cX4_triplesWithout 15 = .ok (.getfield 37, 3) := by decide +kernel
theorem dX4_triplesWithout_18 : decode cX4_triplesWithout 18 = .ok (.iload_n 1, 1) := by decide +kernel
theorem dX4_triplesWithout_19 : decode cX4_triplesWithout 19 = .ok (.invokevirtual 68, 3) := by decide +kernel
theorem dX4_triplesWithout_22 : decode cX4_triplesWithout 22 = .ok (.aload_n 0, 1) := by decide +kernel
theorem dX4_triplesWithout_23 : decode cX4_triplesWithout 23 = .ok (.getfield 37, 3) := by decide +kernel
theorem dX4_triplesWithout_26 : decode cX4_triplesWithout 26 = .ok (.invokevirtual 146, 3) := by decide +kernel
theorem dX4_triplesWithout_29 : decode cX4_triplesWithout 29 = .ok (.ireturn, 1) := by decide +kernel
set_option maxRecDepth 20000 in
theorem ggX4_triplesWithWaiver_X2_copyFrom : GoodIn wsX4_triplesWithWaiver wsX2_copyFrom := goodIn_r _ [8, 9, 10, 11, 12, 13, 14, 15, 16, 17, 18, 19, 20, 21, 22, 23, 24, 25, 26, 68, 69, 70, 71, 72, 73, 74] (by decide +kernel) (by decide +kernel)
set_option maxRecDepth 20000 in
theorem gX4_triplesWithWaiver_X2_copyFrom : GoodIn wsX4_triplesWithWaiver (wsV RX4 219 RX2 yX2_copyFrom wsX2_copyFrom) := goodIn_app (goodIn_of _ (by decide +kernel)) ggX4_triplesWithWaiver_X2_copyFrom
set_option maxRecDepth 20000 in
theorem ggX4_triplesWithWaiver_X2_append : GoodIn wsX4_triplesWithWaiver wsX2_append := goodIn_r _ [30, 15, 9, 10, 11, 12, 13, 14, 31, 17, 32, 68, 69, 70, 71, 72, 73, 74] (by decide +kernel) (by decide +kernel)
set_option maxRecDepth 20000 in
theorem gX4_triplesWithWaiver_X2_append : GoodIn wsX4_triplesWithWaiver (wsV RX4 61 RX2 yX2_append wsX2_append) := goodIn_app (goodIn_of _ (by decide +kernel)) ggX4_triplesWithWaiver_X2_append
set_option maxRecDepth 20000 in
theorem ggX4_triplesWithWaiver_X2_triples : GoodIn wsX4_triplesWithWaiver wsX2_triples := goodIn_r _ [36, 37, 38, 39, 7, 40, 15, 10, 14, 41, 42, 43, 44, 45, 46, 47, 48, 49, 50, 51, 13, 52, 53, 54, 55, 56, 57, 58, 59, 9, 68, 69, 70, 71, 72, 73, 74] (by decide +kernel) (by decide +kernel)
set_option maxRecDepth 20000 in
theorem gX4_triplesWithWaiver_X2_triples : GoodIn wsX4_triplesWithWaiver (wsV RX4 146 RX2 yX2_triples wsX2_triples) := goodIn_app (goodIn_of _ (by decide +kernel)) ggX4_triplesWithWaiver_X2_triples
theorem dX4_triplesWithWaiver_0 : decode cX4_triplesWithWaiver 0 = .ok (.aload_n 0, 1) := by decide +kernel
theorem dX4_triplesWithWaiver_1 : decode cX4_triplesWithWaiver 1 = .ok (.getfield 37, 3) := by decide +kernel
theorem dX4_triplesWithWaiver_4 : decode cX4_triplesWithWaiver 4 = .ok (.aload_n 0, 1) := by decide +kernel
theorem dX4_triplesWithWaiver_5 : decode cX4_triplesWithWaiver 5 = .ok (.getfield 12, 3) := by decide +kernel
theorem dX4_triplesWithWaiver_8 : decode cX4_triplesWithWaiver 8 = .ok (.getfield 52, 3) := by decide +kernel
theorem dX4_triplesWithWaiver_11 : decode cX4_triplesWithWaiver 11 = .ok (.invokevirtual 219, 3) := by decide +kernel
theorem dX4_triplesWithWaiver_14 : decode cX4_triplesWithWaiver 14 = .ok (.aload_n 0, 1) := by decide +kernel
theorem dX4_triplesWithWaiver_15 : decode cX4_triplesWithWaiver 15 = .ok (.getfield 37, 3) := by decide +kernel
theorem dX4_triplesWithWaiver_18 : decode cX4_triplesWithWaiver 18 = .ok (.iload_n 1, 1) := by decide +kernel
theorem dX4_triplesWithWaiver_19 : decode cX4_triplesWithWaiver 19 = .ok (.iconst 2, 1) := by decide +kernel
theorem dX4_triplesWithWaiver_20 : decode cX4_triplesWithWaiver 20 = .ok (.iconst 5, 1) := by decide +kernel
theorem dX4_triplesWithWaiver_21 : decode cX4_triplesWithWaiver 21 = .ok (.bipush 6, 2) := by decide +kernel
theorem dX4_triplesWithWaiver_23 : decode cX4_triplesWithWaiver 23 = .ok (.iload_n 2, 1) := by decide +kernel
theorem dX4_triplesWithWaiver_24 : decode cX4_triplesWithWaiver 24 = .ok (.invokevirtual 61, 3) := by decide +kernel
theorem dX4_triplesWithWaiver_27 : decode cX4_triplesWithWaiver 27 = .ok (.aload_n 0, 1) := by decide +kernel
theorem dX4_triplesWithWaiver_28 : decode cX4_triplesWithWaiver 28 = .ok (.getfield 37, 3) := by decide +kernel
theorem dX4_triplesWithWaiver_31 : decode cX4_triplesWithWaiver 31 = .ok (.invokevirtual 146, 3) := by decide +kernel
theorem dX4_triplesWithWaiver_34 : decode cX4_triplesWithWaiver 34 = .ok (.ireturn, 1) := by decide +kernel
set_option maxRecDepth 20000 in
theorem ggX4_isIdle_X4_triplesWithout : GoodIn wsX4_isIdle wsX4_triplesWithout := goodIn_r _ [5, 6, 7, 8, 9, 10, 11, 12, 13, 14, 15, 16, 17, 18, 19, 20, 21, 4, 22, 23, 24, 25, 26, 27, 28, 29, 30, 31, 32, 33, 34, 35, 36, 37, 38, 39, 40, 41, 42, 43, 44, 45, 46, 47, 48, 49, 50, 51, 52, 53, 54, 55, 56, 57, 58, 59, 60, 61, 62, 63, 64, 65, 66, 67, 68, 69, 70, 71, 72, 73, 74, 75, 76, 77, 78, 79, 80, 81, 82, 83, 84, 85] (by decide +kernel) (by decide +kernel)
set_option maxRecDepth 20000 in
theorem gX4_isIdle_X4_triplesWithout : GoodIn wsX4_isIdle (wsV RX4 195 RX4 yX4_triplesWithout wsX4_triplesWithout) := goodIn_app (goodIn_of _ (by decide +kernel)) ggX4_isIdle_X4_triplesWithout
theorem dX4_isIdle_0 : decode cX4_isIdle 0 = .ok (.aload_n 0, 1) := by decide +kernel
theorem dX4_isIdle_1 : decode cX4_isIdle 1 = .ok (.iload_n 1, 1) := by decide +kernel
theorem dX4_isIdle_2 : decode cX4_isIdle 2 = .ok (.invokevirtual 195, 3) := by decide +kernel
theorem dX4_isIdle_5 : decode cX4_isIdle 5 = .ok (.iload_n 2, 1) := by decide +kernel
theorem dX4_isIdle_6 : decode cX4_isIdle 6 = .ok (.if_icmp .ne 7, 3) := by decide +kernel
theorem dX4_isIdle_9 : decode cX4_isIdle 9 = .ok (.iconst 1, 1) := by decide +kernel
theorem dX4_isIdle_10 : decode cX4_isIdle 10 = .ok (.goto 4, 3) := by decide +kernel
theorem dX4_isIdle_13 : decode cX4_isIdle 13 = .ok (.iconst 0, 1) := by decide +kernel
theorem dX4_isIdle_14 : decode cX4_isIdle 14 = .ok (.ireturn, 1) := by decide +kernel
set_option maxRecDepth 20000 in
theorem ggX4_firstIdle_X2_triples : GoodIn wsX4_firstIdle wsX2_triples := goodIn_r _ [8, 9, 10, 11, 7, 12, 13, 14, 15, 16, 17, 18, 19, 20, 21, 22, 23, 24, 25, 26, 27, 28, 29, 30, 31, 32, 33, 34, 35, 36, 84, 85, 86, 87, 88, 89, 90] (by decide +kernel) (by decide +kernel)
set_option maxRecDepth 20000 in
theorem gX4_firstIdle_X2_triples : GoodIn wsX4_firstIdle (wsV RX4 146 RX2 yX2_triples wsX2_triples) := goodIn_app (goodIn_of _ (by decide +kernel)) ggX4_firstIdle_X2_triples
set_option maxRecDepth 20000 in
theorem ggX4_firstIdle_X4_isIdle : GoodIn wsX4_firstIdle wsX4_isIdle := goodIn_r _ [41, 42, 43, 44, 40, 45, 46, 1, 2, 47, 48, 49, 7, 50, 36, 14, 51, 52, 27, 15, 13, 53, 54, 55, 56, 57, 58, 59, 60, 61, 62, 63, 64, 65, 66, 67, 68, 69, 70, 71, 72, 73, 74, 75, 4, 5, 6, 8, 9, 10, 11, 12, 16, 17, 18, 19, 20, 21, 22, 23, 24, 25, 26, 28, 29, 30, 31, 32, 33, 34, 35, 76, 77, 78, 79, 80, 81, 82, 83, 84, 85, 86, 87, 88, 89, 90] (by decide +kernel) (by decide +kernel)
set_option maxRecDepth 20000 in
theorem gX4_firstIdle_X4_isIdle : GoodIn wsX4_firstIdle (wsV RX4 149 RX4 yX4_isIdle wsX4_isIdle) := goodIn_app (goodIn_of _ (by decide +kernel)) ggX4_firstIdle_X4_isIdle
theorem dX4_firstIdle_0 : decode cX4_firstIdle 0 = .ok (.aload_n 0, 1) := by decide +kernel
theorem dX4_firstIdle_1 : decode cX4_firstIdle 1 = .ok (.getfield 12, 3) := by decide +kernel
theorem dX4_firstIdle_4 : decode cX4_firstIdle 4 = .ok (.getfield 52, 3) := by decide +kernel
theorem dX4_firstIdle_7 : decode cX4_firstIdle 7 = .ok (.invokevirtual 146, 3) := by decide +kernel
theorem dX4_firstIdle_10 : decode cX4_firstIdle 10 = .ok (.istore_n 1, 1) := by decide +kernel
theorem dX4_firstIdle_11 : decode cX4_firstIdle 11 = .ok (.iconst 0, 1) := by decide +kernel
theorem dX4_firstIdle_12 : decode cX4_firstIdle 12 = .ok (.istore_n 2, 1) := by decide +kernel
theorem dX4_firstIdle_13 : decode cX4_firstIdle 13 = .ok (.iload_n 2, 1) := by decide +kernel
theorem dX4_firstIdle_14 : decode cX4_firstIdle 14 = .ok (.aload_n 0, 1) := by decide +kernel
theorem dX4_firstIdle_15 : decode cX4_firstIdle 15 = .ok (.getfield 12, 3) := by decide +kernel
theorem dX4_firstIdle_18 : decode cX4_firstIdle 18 = .ok (.getfield 52, 3) := by decide +kernel
theorem dX4_firstIdle_21 : decode cX4_firstIdle 21 = .ok (.getfield 55, 3) := by decide +kernel
theorem dX4_firstIdle_24 : decode cX4_firstIdle 24 = .ok (.if_icmp .ge 20, 3) := by decide +kernel
theorem dX4_firstIdle_27 : decode cX4_firstIdle 27 = .ok (.aload_n 0, 1) := by decide +kernel
theorem dX4_firstIdle_28 : decode cX4_firstIdle 28 = .ok (.iload_n 2, 1) := by decide +kernel
theorem dX4_firstIdle_29 : decode cX4_firstIdle 29 = .ok (.iload_n 1, 1) := by decide +kernel
theorem dX4_firstIdle_30 : decode cX4_firstIdle 30 = .ok (.invokevirtual 149, 3) := by decide +kernel
theorem dX4_firstIdle_33 : decode cX4_firstIdle 33 = .ok (.ifCond .eq 5, 3) := by decide +kernel
theorem dX4_firstIdle_36 : decode cX4_firstIdle 36 = .ok (.iload_n 2, 1) := by decide +kernel
theorem dX4_firstIdle_37 : decode cX4_firstIdle 37 = .ok (.ireturn, 1) := by decide +kernel
theorem dX4_firstIdle_38 : decode cX4_firstIdle 38 = .ok (.iinc 2 1, 3) := by decide +kernel
theorem dX4_firstIdle_41 : decode cX4_firstIdle 41 = .ok (.goto (-28), 3) := by decide +kernel
theorem dX4_firstIdle_44 : decode cX4_firstIdle 44 = .ok (.bipush (-6), 2) := by decide +kernel
theorem dX4_firstIdle_46 : decode cX4_firstIdle 46 = .ok (.ireturn, 1) := by decide +kernel
set_option maxRecDepth 20000 in
theorem ggX4_idleRules_X2_triples : GoodIn wsX4_idleRules wsX2_triples := goodIn_r _ [8, 9, 10, 11, 7, 12, 13, 14, 15, 16, 17, 18, 19, 20, 21, 22, 23, 24, 25, 26, 27, 28, 29, 30, 31, 32, 33, 34, 35, 36, 84, 85, 86, 87, 88, 89, 90] (by decide +kernel) (by decide +kernel)
set_option maxRecDepth 20000 in
theorem gX4_idleRules_X2_triples : GoodIn wsX4_idleRules (wsV RX4 146 RX2 yX2_triples wsX2_triples) := goodIn_app (goodIn_of _ (by decide +kernel)) ggX4_idleRules_X2_triples
set_option maxRecDepth 20000 in
theorem ggX4_idleRules_X4_isIdle : GoodIn wsX4_idleRules wsX4_isIdle := goodIn_r _ [41, 42, 43, 44, 40, 45, 46, 1, 2, 47, 48, 49, 7, 50, 36, 14, 51, 52, 27, 15, 13, 53, 54, 55, 56, 57, 58, 59, 60, 61, 62, 63, 64, 65, 66, 67, 68, 69, 70, 71, 72, 73, 74, 75, 4, 5, 6, 8, 9, 10, 11, 12, 16, 17, 18, 19, 20, 21, 22, 23, 24, 25, 26, 28, 29, 30, 31, 32, 33, 34, 35, 76, 77, 78, 79, 80, 81, 82, 83, 84, 85, 86, 87, 88, 89, 90] (by decide +kernel) (by decide +kernel)
set_option maxRecDepth 20000 in
theorem gX4_idleRules_X4_isIdle : GoodIn wsX4_idleRules (wsV RX4 149 RX4 yX4_isIdle wsX4_isIdle) := goodIn_app (goodIn_of _ (by decide +kernel)) ggX4_idleRules_X4_isIdle
theorem dX4_idleRules_0 : decode cX4_idleRules 0 = .ok (.aload_n 0, 1) := by decide +kernel
theorem dX4_idleRules_1 : decode cX4_idleRules 1 = .ok (.getfield 12, 3) := by decide +kernel
theorem dX4_idleRules_4 : decode cX4_idleRules 4 = .ok (.getfield 52, 3) := by decide +kernel
theorem dX4_idleRules_7 : decode cX4_idleRules 7 = .ok (.invokevirtual 146, 3) := by decide +kernel
theorem dX4_idleRules_10 : decode cX4_idleRules 10 = .ok (.istore_n 1, 1) := by decide +kernel
theorem dX4_idleRules_11 : decode cX4_idleRules 11 = .ok (.iconst 0, 1) := by decide +kernel
theorem dX4_idleRules_12 : decode cX4_idleRules 12 = .ok (.istore_n 2, 1) := by decide +kernel
theorem dX4_idleRules_13 : decode cX4_idleRules 13 = .ok (.iconst 0, 1) := by decide +kernel
theorem dX4_idleRules_14 : decode cX4_idleRules 14 = .ok (.istore_n 3, 1) := by decide +kernel
theorem dX4_idleRules_15 : decode cX4_idleRules 15 = .ok (.iload_n 3, 1) := by decide +kernel
theorem dX4_idleRules_16 : decode cX4_idleRules 16 = .ok (.aload_n 0, 1) := by decide +kernel
theorem dX4_idleRules_17 : decode cX4_idleRules 17 = .ok (.getfield 12, 3) := by decide +kernel
theorem dX4_idleRules_20 : decode cX4_idleRules 20 = .ok (.getfield 52, 3) := by decide +kernel
theorem dX4_idleRules_23 : decode cX4_idleRules 23 = .ok (.getfield 55, 3) := by decide +kernel
theorem dX4_idleRules_26 : decode cX4_idleRules 26 = .ok (.if_icmp .ge 21, 3) := by decide +kernel
theorem dX4_idleRules_29 : decode cX4_idleRules 29 = .ok (.aload_n 0, 1) := by decide +kernel
theorem dX4_idleRules_30 : decode cX4_idleRules 30 = .ok (.iload_n 3, 1) := by decide +kernel
theorem dX4_idleRules_31 : decode cX4_idleRules 31 = .ok (.iload_n 1, 1) := by decide +kernel
theorem dX4_idleRules_32 : decode cX4_idleRules 32 = .ok (.invokevirtual 149, 3) := by decide +kernel
theorem dX4_idleRules_35 : decode cX4_idleRules 35 = .ok (.ifCond .eq 6, 3) := by decide +kernel
theorem dX4_idleRules_38 : decode cX4_idleRules 38 = .ok (.iinc 2 1, 3) := by decide +kernel
theorem dX4_idleRules_41 : decode cX4_idleRules 41 = .ok (.iinc 3 1, 3) := by decide +kernel
theorem dX4_idleRules_44 : decode cX4_idleRules 44 = .ok (.goto (-29), 3) := by decide +kernel
theorem dX4_idleRules_47 : decode cX4_idleRules 47 = .ok (.iload_n 2, 1) := by decide +kernel
theorem dX4_idleRules_48 : decode cX4_idleRules 48 = .ok (.ireturn, 1) := by decide +kernel
set_option maxRecDepth 20000 in
theorem ggX4_deedsAllowed_X2_allowedPairs : GoodIn wsX4_deedsAllowed wsX2_allowedPairs := goodIn_r _ [7, 8, 9, 10, 6, 11, 12, 13, 14, 15, 16, 17, 18, 19, 20, 21, 22, 23, 24, 25, 26, 27, 28, 37, 38, 39, 40, 41, 42, 43] (by decide +kernel) (by decide +kernel)
set_option maxRecDepth 20000 in
theorem gX4_deedsAllowed_X2_allowedPairs : GoodIn wsX4_deedsAllowed (wsV RX4 221 RX2 yX2_allowedPairs wsX2_allowedPairs) := goodIn_app (goodIn_of _ (by decide +kernel)) ggX4_deedsAllowed_X2_allowedPairs
theorem dX4_deedsAllowed_0 : decode cX4_deedsAllowed 0 = .ok (.aload_n 0, 1) := by decide +kernel
theorem dX4_deedsAllowed_1 : decode cX4_deedsAllowed 1 = .ok (.getfield 12, 3) := by decide +kernel
theorem dX4_deedsAllowed_4 : decode cX4_deedsAllowed 4 = .ok (.getfield 52, 3) := by decide +kernel
theorem dX4_deedsAllowed_7 : decode cX4_deedsAllowed 7 = .ok (.iload_n 2, 1) := by decide +kernel
theorem dX4_deedsAllowed_8 : decode cX4_deedsAllowed 8 = .ok (.invokevirtual 221, 3) := by decide +kernel
theorem dX4_deedsAllowed_11 : decode cX4_deedsAllowed 11 = .ok (.iload_n 1, 1) := by decide +kernel
theorem dX4_deedsAllowed_12 : decode cX4_deedsAllowed 12 = .ok (.bipush 6, 2) := by decide +kernel
theorem dX4_deedsAllowed_14 : decode cX4_deedsAllowed 14 = .ok (.imul, 1) := by decide +kernel
theorem dX4_deedsAllowed_15 : decode cX4_deedsAllowed 15 = .ok (.ishr, 1) := by decide +kernel
theorem dX4_deedsAllowed_16 : decode cX4_deedsAllowed 16 = .ok (.bipush 63, 2) := by decide +kernel
theorem dX4_deedsAllowed_18 : decode cX4_deedsAllowed 18 = .ok (.iand, 1) := by decide +kernel
theorem dX4_deedsAllowed_19 : decode cX4_deedsAllowed 19 = .ok (.ireturn, 1) := by decide +kernel
theorem dX4_isBetween_0 : decode cX4_isBetween 0 = .ok (.iload_n 0, 1) := by decide +kernel
theorem dX4_isBetween_1 : decode cX4_isBetween 1 = .ok (.iload_n 1, 1) := by decide +kernel
theorem dX4_isBetween_2 : decode cX4_isBetween 2 = .ok (.if_icmp .lt 12, 3) := by decide +kernel
theorem dX4_isBetween_5 : decode cX4_isBetween 5 = .ok (.iload_n 0, 1) := by decide +kernel
theorem dX4_isBetween_6 : decode cX4_isBetween 6 = .ok (.iload_n 2, 1) := by decide +kernel
theorem dX4_isBetween_7 : decode cX4_isBetween 7 = .ok (.if_icmp .gt 7, 3) := by decide +kernel
theorem dX4_isBetween_10 : decode cX4_isBetween 10 = .ok (.iconst 1, 1) := by decide +kernel
theorem dX4_isBetween_11 : decode cX4_isBetween 11 = .ok (.goto 4, 3) := by decide +kernel
theorem dX4_isBetween_14 : decode cX4_isBetween 14 = .ok (.iconst 0, 1) := by decide +kernel
theorem dX4_isBetween_15 : decode cX4_isBetween 15 = .ok (.ireturn, 1) := by decide +kernel
set_option maxRecDepth 20000 in
theorem ggX4_isLayer_X4_isBetween : GoodIn wsX4_isLayer wsX4_isBetween := goodIn_r _ [4] (by decide +kernel) (by decide +kernel)
set_option maxRecDepth 20000 in
theorem gX4_isLayer_X4_isBetween : GoodIn wsX4_isLayer (va_wsS RX4 45 yX4_isBetween wsX4_isBetween) := goodIn_app (goodIn_of _ (by decide +kernel)) ggX4_isLayer_X4_isBetween
theorem dX4_isLayer_0 : decode cX4_isLayer 0 = .ok (.iload_n 0, 1) := by decide +kernel
theorem dX4_isLayer_1 : decode cX4_isLayer 1 = .ok (.iconst 0, 1) := by decide +kernel
theorem dX4_isLayer_2 : decode cX4_isLayer 2 = .ok (.iconst 4, 1) := by decide +kernel
theorem dX4_isLayer_3 : decode cX4_isLayer 3 = .ok (.invokestatic 45, 3) := by decide +kernel
theorem dX4_isLayer_6 : decode cX4_isLayer 6 = .ok (.ireturn, 1) := by decide +kernel
set_option maxRecDepth 20000 in
theorem ggX4_isCraft_X4_isBetween : GoodIn wsX4_isCraft wsX4_isBetween := goodIn_r _ [4] (by decide +kernel) (by decide +kernel)
set_option maxRecDepth 20000 in
theorem gX4_isCraft_X4_isBetween : GoodIn wsX4_isCraft (va_wsS RX4 45 yX4_isBetween wsX4_isBetween) := goodIn_app (goodIn_of _ (by decide +kernel)) ggX4_isCraft_X4_isBetween
theorem dX4_isCraft_0 : decode cX4_isCraft 0 = .ok (.iload_n 0, 1) := by decide +kernel
theorem dX4_isCraft_1 : decode cX4_isCraft 1 = .ok (.iconst 0, 1) := by decide +kernel
theorem dX4_isCraft_2 : decode cX4_isCraft 2 = .ok (.iconst 4, 1) := by decide +kernel
theorem dX4_isCraft_3 : decode cX4_isCraft 3 = .ok (.invokestatic 45, 3) := by decide +kernel
theorem dX4_isCraft_6 : decode cX4_isCraft 6 = .ok (.ireturn, 1) := by decide +kernel
set_option maxRecDepth 20000 in
theorem ggX4_isDeed_X4_isBetween : GoodIn wsX4_isDeed wsX4_isBetween := goodIn_r _ [4] (by decide +kernel) (by decide +kernel)
set_option maxRecDepth 20000 in
theorem gX4_isDeed_X4_isBetween : GoodIn wsX4_isDeed (va_wsS RX4 45 yX4_isBetween wsX4_isBetween) := goodIn_app (goodIn_of _ (by decide +kernel)) ggX4_isDeed_X4_isBetween
theorem dX4_isDeed_0 : decode cX4_isDeed 0 = .ok (.iload_n 0, 1) := by decide +kernel
theorem dX4_isDeed_1 : decode cX4_isDeed 1 = .ok (.iconst 0, 1) := by decide +kernel
theorem dX4_isDeed_2 : decode cX4_isDeed 2 = .ok (.iconst 5, 1) := by decide +kernel
theorem dX4_isDeed_3 : decode cX4_isDeed 3 = .ok (.invokestatic 45, 3) := by decide +kernel
theorem dX4_isDeed_6 : decode cX4_isDeed 6 = .ok (.ireturn, 1) := by decide +kernel
set_option maxRecDepth 20000 in
theorem ggX4_isSeal_X4_isBetween : GoodIn wsX4_isSeal wsX4_isBetween := goodIn_r _ [4] (by decide +kernel) (by decide +kernel)
set_option maxRecDepth 20000 in
theorem gX4_isSeal_X4_isBetween : GoodIn wsX4_isSeal (va_wsS RX4 45 yX4_isBetween wsX4_isBetween) := goodIn_app (goodIn_of _ (by decide +kernel)) ggX4_isSeal_X4_isBetween
theorem dX4_isSeal_0 : decode cX4_isSeal 0 = .ok (.iload_n 0, 1) := by decide +kernel
theorem dX4_isSeal_1 : decode cX4_isSeal 1 = .ok (.iconst 1, 1) := by decide +kernel
theorem dX4_isSeal_2 : decode cX4_isSeal 2 = .ok (.bipush 9, 2) := by decide +kernel
theorem dX4_isSeal_4 : decode cX4_isSeal 4 = .ok (.invokestatic 45, 3) := by decide +kernel
theorem dX4_isSeal_7 : decode cX4_isSeal 7 = .ok (.ireturn, 1) := by decide +kernel
set_option maxRecDepth 20000 in
theorem ggX4_isRank_X4_isBetween : GoodIn wsX4_isRank wsX4_isBetween := goodIn_r _ [4] (by decide +kernel) (by decide +kernel)
set_option maxRecDepth 20000 in
theorem gX4_isRank_X4_isBetween : GoodIn wsX4_isRank (va_wsS RX4 45 yX4_isBetween wsX4_isBetween) := goodIn_app (goodIn_of _ (by decide +kernel)) ggX4_isRank_X4_isBetween
theorem dX4_isRank_0 : decode cX4_isRank 0 = .ok (.iload_n 0, 1) := by decide +kernel
theorem dX4_isRank_1 : decode cX4_isRank 1 = .ok (.iconst 0, 1) := by decide +kernel
theorem dX4_isRank_2 : decode cX4_isRank 2 = .ok (.bipush 9, 2) := by decide +kernel
theorem dX4_isRank_4 : decode cX4_isRank 4 = .ok (.invokestatic 45, 3) := by decide +kernel
theorem dX4_isRank_7 : decode cX4_isRank 7 = .ok (.ireturn, 1) := by decide +kernel
theorem dX4_pairsOf_0 : decode cX4_pairsOf 0 = .ok (.iload_n 1, 1) := by decide +kernel
theorem dX4_pairsOf_1 : decode cX4_pairsOf 1 = .ok (.bipush 6, 2) := by decide +kernel
theorem dX4_pairsOf_3 : decode cX4_pairsOf 3 = .ok (.if_icmp .ne 8, 3) := by decide +kernel
theorem dX4_pairsOf_6 : decode cX4_pairsOf 6 = .ok (.bipush 63, 2) := by decide +kernel
theorem dX4_pairsOf_8 : decode cX4_pairsOf 8 = .ok (.goto 6, 3) := by decide +kernel
theorem dX4_pairsOf_11 : decode cX4_pairsOf 11 = .ok (.iconst 1, 1) := by decide +kernel
theorem dX4_pairsOf_12 : decode cX4_pairsOf 12 = .ok (.iload_n 1, 1) := by decide +kernel
theorem dX4_pairsOf_13 : decode cX4_pairsOf 13 = .ok (.ishl, 1) := by decide +kernel
theorem dX4_pairsOf_14 : decode cX4_pairsOf 14 = .ok (.istore_n 2, 1) := by decide +kernel
theorem dX4_pairsOf_15 : decode cX4_pairsOf 15 = .ok (.iload_n 0, 1) := by decide +kernel
theorem dX4_pairsOf_16 : decode cX4_pairsOf 16 = .ok (.iconst 5, 1) := by decide +kernel
theorem dX4_pairsOf_17 : decode cX4_pairsOf 17 = .ok (.if_icmp .eq 10, 3) := by decide +kernel
theorem dX4_pairsOf_20 : decode cX4_pairsOf 20 = .ok (.iload_n 2, 1) := by decide +kernel
theorem dX4_pairsOf_21 : decode cX4_pairsOf 21 = .ok (.iload_n 0, 1) := by decide +kernel
theorem dX4_pairsOf_22 : decode cX4_pairsOf 22 = .ok (.bipush 6, 2) := by decide +kernel
theorem dX4_pairsOf_24 : decode cX4_pairsOf 24 = .ok (.imul, 1) := by decide +kernel
theorem dX4_pairsOf_25 : decode cX4_pairsOf 25 = .ok (.ishl, 1) := by decide +kernel
theorem dX4_pairsOf_26 : decode cX4_pairsOf 26 = .ok (.ireturn, 1) := by decide +kernel
theorem dX4_pairsOf_27 : decode cX4_pairsOf 27 = .ok (.iconst 0, 1) := by decide +kernel
theorem dX4_pairsOf_28 : decode cX4_pairsOf 28 = .ok (.istore_n 3, 1) := by decide +kernel
theorem dX4_pairsOf_29 : decode cX4_pairsOf 29 = .ok (.iconst 0, 1) := by decide +kernel
theorem dX4_pairsOf_30 : decode cX4_pairsOf 30 = .ok (.istore 4, 2) := by decide +kernel
theorem dX4_pairsOf_32 : decode cX4_pairsOf 32 = .ok (.iload 4, 2) := by decide +kernel
theorem dX4_pairsOf_34 : decode cX4_pairsOf 34 = .ok (.iconst 5, 1) := by decide +kernel
theorem dX4_pairsOf_35 : decode cX4_pairsOf 35 = .ok (.if_icmp .ge 19, 3) := by decide +kernel
theorem dX4_pairsOf_38 : decode cX4_pairsOf 38 = .ok (.iload_n 3, 1) := by decide +kernel
theorem dX4_pairsOf_39 : decode cX4_pairsOf 39 = .ok (.iload_n 2, 1) := by decide +kernel
theorem dX4_pairsOf_40 : decode cX4_pairsOf 40 = .ok (.iload 4, 2) := by decide +kernel
theorem dX4_pairsOf_42 : decode cX4_pairsOf 42 = .ok (.bipush 6, 2) := by decide +kernel
theorem dX4_pairsOf_44 : decode cX4_pairsOf 44 = .ok (.imul, 1) := by decide +kernel
theorem dX4_pairsOf_45 : decode cX4_pairsOf 45 = .ok (.ishl, 1) := by decide +kernel
theorem dX4_pairsOf_46 : decode cX4_pairsOf 46 = .ok (.ior, 1) := by decide +kernel
theorem dX4_pairsOf_47 : decode cX4_pairsOf 47 = .ok (.istore_n 3, 1) := by decide +kernel
theorem dX4_pairsOf_48 : decode cX4_pairsOf 48 = .ok (.iinc 4 1, 3) := by decide +kernel
theorem dX4_pairsOf_51 : decode cX4_pairsOf 51 = .ok (.goto (-19), 3) := by decide +kernel
theorem dX4_pairsOf_54 : decode cX4_pairsOf 54 = .ok (.iload_n 3, 1) := by decide +kernel
theorem dX4_pairsOf_55 : decode cX4_pairsOf 55 = .ok (.ireturn, 1) := by decide +kernel
theorem dX4_closeGap_0 : decode cX4_closeGap 0 = .ok (.iload_n 1, 1) := by decide +kernel
theorem dX4_closeGap_1 : decode cX4_closeGap 1 = .ok (.iconst 0, 1) := by decide +kernel
theorem dX4_closeGap_2 : decode cX4_closeGap 2 = .ok (.invokestatic 224, 3) := by decide +kernel
theorem dX4_closeGap_5 : decode cX4_closeGap 5 = .ok (.istore_n 2, 1) := by decide +kernel
theorem dX4_closeGap_6 : decode cX4_closeGap 6 = .ok (.iload_n 2, 1) := by decide +kernel
theorem dX4_closeGap_7 : decode cX4_closeGap 7 = .ok (.aload_n 0, 1) := by decide +kernel
theorem dX4_closeGap_8 : decode cX4_closeGap 8 = .ok (.arraylength, 1) := by decide +kernel
theorem dX4_closeGap_9 : decode cX4_closeGap 9 = .ok (.iconst 1, 1) := by decide +kernel
theorem dX4_closeGap_10 : decode cX4_closeGap 10 = .ok (.isub, 1) := by decide +kernel
theorem dX4_closeGap_11 : decode cX4_closeGap 11 = .ok (.if_icmp .ge 17, 3) := by decide +kernel
theorem dX4_closeGap_14 : decode cX4_closeGap 14 = .ok (.aload_n 0, 1) := by decide +kernel
theorem dX4_closeGap_15 : decode cX4_closeGap 15 = .ok (.iload_n 2, 1) := by decide +kernel
theorem dX4_closeGap_16 : decode cX4_closeGap 16 = .ok (.aload_n 0, 1) := by decide +kernel
theorem dX4_closeGap_17 : decode cX4_closeGap 17 = .ok (.iload_n 2, 1) := by decide +kernel
theorem dX4_closeGap_18 : decode cX4_closeGap 18 = .ok (.iconst 1, 1) := by decide +kernel
theorem dX4_closeGap_19 : decode cX4_closeGap 19 = .ok (.iadd, 1) := by decide +kernel
theorem dX4_closeGap_20 : decode cX4_closeGap 20 = .ok (.iaload, 1) := by decide +kernel
theorem dX4_closeGap_21 : decode cX4_closeGap 21 = .ok (.iastore, 1) := by decide +kernel
theorem dX4_closeGap_22 : decode cX4_closeGap 22 = .ok (.iinc 2 1, 3) := by decide +kernel
theorem dX4_closeGap_25 : decode cX4_closeGap 25 = .ok (.goto (-19), 3) := by decide +kernel
theorem dX4_closeGap_28 : decode cX4_closeGap 28 = .ok (.return_, 1) := by decide +kernel
theorem dX4_copyRow_0 : decode cX4_copyRow 0 = .ok (.aload_n 0, 1) := by decide +kernel
theorem dX4_copyRow_1 : decode cX4_copyRow 1 = .ok (.iconst 0, 1) := by decide +kernel
theorem dX4_copyRow_2 : decode cX4_copyRow 2 = .ok (.aload_n 1, 1) := by decide +kernel
theorem dX4_copyRow_3 : decode cX4_copyRow 3 = .ok (.iconst 0, 1) := by decide +kernel
theorem dX4_copyRow_4 : decode cX4_copyRow 4 = .ok (.aload_n 0, 1) := by decide +kernel
theorem dX4_copyRow_5 : decode cX4_copyRow 5 = .ok (.arraylength, 1) := by decide +kernel
theorem dX4_copyRow_6 : decode cX4_copyRow 6 = .ok (.aload_n 1, 1) := by decide +kernel
theorem dX4_copyRow_7 : decode cX4_copyRow 7 = .ok (.arraylength, 1) := by decide +kernel
theorem dX4_copyRow_8 : decode cX4_copyRow 8 = .ok (.invokestatic 229, 3) := by decide +kernel
theorem dX4_copyRow_11 : decode cX4_copyRow 11 = .ok (.invokestatic 232, 3) := by decide +kernel
theorem dX4_copyRow_14 : decode cX4_copyRow 14 = .ok (.return_, 1) := by decide +kernel
theorem dJ6_bitCount_0f7a4_0 : decode cJ6_bitCount_0f7a4 0 = .ok (.iload_n 0, 1) := by decide +kernel
theorem dJ6_bitCount_0f7a4_1 : decode cJ6_bitCount_0f7a4 1 = .ok (.iload_n 0, 1) := by decide +kernel
theorem dJ6_bitCount_0f7a4_2 : decode cJ6_bitCount_0f7a4 2 = .ok (.iconst 1, 1) := by decide +kernel
theorem dJ6_bitCount_0f7a4_3 : decode cJ6_bitCount_0f7a4 3 = .ok (.iushr, 1) := by decide +kernel
theorem dJ6_bitCount_0f7a4_4 : decode cJ6_bitCount_0f7a4 4 = .ok (.ldc_w 265, 3) := by decide +kernel
theorem dJ6_bitCount_0f7a4_7 : decode cJ6_bitCount_0f7a4 7 = .ok (.iand, 1) := by decide +kernel
theorem dJ6_bitCount_0f7a4_8 : decode cJ6_bitCount_0f7a4 8 = .ok (.isub, 1) := by decide +kernel
theorem dJ6_bitCount_0f7a4_9 : decode cJ6_bitCount_0f7a4 9 = .ok (.istore_n 0, 1) := by decide +kernel
theorem dJ6_bitCount_0f7a4_10 : decode cJ6_bitCount_0f7a4 10 = .ok (.iload_n 0, 1) := by decide +kernel
theorem dJ6_bitCount_0f7a4_11 : decode cJ6_bitCount_0f7a4 11 = .ok (.ldc_w 266, 3) := by decide +kernel
theorem dJ6_bitCount_0f7a4_14 : decode cJ6_bitCount_0f7a4 14 = .ok (.iand, 1) := by decide +kernel
theorem dJ6_bitCount_0f7a4_15 : decode cJ6_bitCount_0f7a4 15 = .ok (.iload_n 0, 1) := by decide +kernel
theorem dJ6_bitCount_0f7a4_16 : decode cJ6_bitCount_0f7a4 16 = .ok (.iconst 2, 1) := by decide +kernel
theorem dJ6_bitCount_0f7a4_17 : decode cJ6_bitCount_0f7a4 17 = .ok (.iushr, 1) := by decide +kernel
theorem dJ6_bitCount_0f7a4_18 : decode cJ6_bitCount_0f7a4 18 = .ok (.ldc_w 266, 3) := by decide +kernel
theorem dJ6_bitCount_0f7a4_21 : decode cJ6_bitCount_0f7a4 21 = .ok (.iand, 1) := by decide +kernel
theorem dJ6_bitCount_0f7a4_22 : decode cJ6_bitCount_0f7a4 22 = .ok (.iadd, 1) := by decide +kernel
theorem dJ6_bitCount_0f7a4_23 : decode cJ6_bitCount_0f7a4 23 = .ok (.istore_n 0, 1) := by decide +kernel
theorem dJ6_bitCount_0f7a4_24 : decode cJ6_bitCount_0f7a4 24 = .ok (.iload_n 0, 1) := by decide +kernel
theorem dJ6_bitCount_0f7a4_25 : decode cJ6_bitCount_0f7a4 25 = .ok (.iload_n 0, 1) := by decide +kernel
theorem dJ6_bitCount_0f7a4_26 : decode cJ6_bitCount_0f7a4 26 = .ok (.iconst 4, 1) := by decide +kernel
theorem dJ6_bitCount_0f7a4_27 : decode cJ6_bitCount_0f7a4 27 = .ok (.iushr, 1) := by decide +kernel
theorem dJ6_bitCount_0f7a4_28 : decode cJ6_bitCount_0f7a4 28 = .ok (.iadd, 1) := by decide +kernel
theorem dJ6_bitCount_0f7a4_29 : decode cJ6_bitCount_0f7a4 29 = .ok (.ldc_w 267, 3) := by decide +kernel
theorem dJ6_bitCount_0f7a4_32 : decode cJ6_bitCount_0f7a4 32 = .ok (.iand, 1) := by decide +kernel
theorem dJ6_bitCount_0f7a4_33 : decode cJ6_bitCount_0f7a4 33 = .ok (.istore_n 0, 1) := by decide +kernel
theorem dJ6_bitCount_0f7a4_34 : decode cJ6_bitCount_0f7a4 34 = .ok (.iload_n 0, 1) := by decide +kernel
theorem dJ6_bitCount_0f7a4_35 : decode cJ6_bitCount_0f7a4 35 = .ok (.iload_n 0, 1) := by decide +kernel
theorem dJ6_bitCount_0f7a4_36 : decode cJ6_bitCount_0f7a4 36 = .ok (.bipush 8, 2) := by decide +kernel
theorem dJ6_bitCount_0f7a4_38 : decode cJ6_bitCount_0f7a4 38 = .ok (.iushr, 1) := by decide +kernel
theorem dJ6_bitCount_0f7a4_39 : decode cJ6_bitCount_0f7a4 39 = .ok (.iadd, 1) := by decide +kernel
theorem dJ6_bitCount_0f7a4_40 : decode cJ6_bitCount_0f7a4 40 = .ok (.istore_n 0, 1) := by decide +kernel
theorem dJ6_bitCount_0f7a4_41 : decode cJ6_bitCount_0f7a4 41 = .ok (.iload_n 0, 1) := by decide +kernel
theorem dJ6_bitCount_0f7a4_42 : decode cJ6_bitCount_0f7a4 42 = .ok (.iload_n 0, 1) := by decide +kernel
theorem dJ6_bitCount_0f7a4_43 : decode cJ6_bitCount_0f7a4 43 = .ok (.bipush 16, 2) := by decide +kernel
theorem dJ6_bitCount_0f7a4_45 : decode cJ6_bitCount_0f7a4 45 = .ok (.iushr, 1) := by decide +kernel
theorem dJ6_bitCount_0f7a4_46 : decode cJ6_bitCount_0f7a4 46 = .ok (.iadd, 1) := by decide +kernel
theorem dJ6_bitCount_0f7a4_47 : decode cJ6_bitCount_0f7a4 47 = .ok (.istore_n 0, 1) := by decide +kernel
theorem dJ6_bitCount_0f7a4_48 : decode cJ6_bitCount_0f7a4 48 = .ok (.iload_n 0, 1) := by decide +kernel
theorem dJ6_bitCount_0f7a4_49 : decode cJ6_bitCount_0f7a4 49 = .ok (.bipush 63, 2) := by decide +kernel
theorem dJ6_bitCount_0f7a4_51 : decode cJ6_bitCount_0f7a4 51 = .ok (.iand, 1) := by decide +kernel
theorem dJ6_bitCount_0f7a4_52 : decode cJ6_bitCount_0f7a4 52 = .ok (.ireturn, 1) := by decide +kernel
theorem dJ9_max_7cf53_0 : decode cJ9_max_7cf53 0 = .ok (.iload_n 0, 1) := by decide +kernel
theorem dJ9_max_7cf53_1 : decode cJ9_max_7cf53 1 = .ok (.iload_n 1, 1) := by decide +kernel
theorem dJ9_max_7cf53_2 : decode cJ9_max_7cf53 2 = .ok (.if_icmp .lt 7, 3) := by decide +kernel
theorem dJ9_max_7cf53_5 : decode cJ9_max_7cf53 5 = .ok (.iload_n 0, 1) := by decide +kernel
theorem dJ9_max_7cf53_6 : decode cJ9_max_7cf53 6 = .ok (.goto 4, 3) := by decide +kernel
theorem dJ9_max_7cf53_9 : decode cJ9_max_7cf53 9 = .ok (.iload_n 1, 1) := by decide +kernel
theorem dJ9_max_7cf53_10 : decode cJ9_max_7cf53 10 = .ok (.ireturn, 1) := by decide +kernel
theorem dJ9_min_7cf53_0 : decode cJ9_min_7cf53 0 = .ok (.iload_n 0, 1) := by decide +kernel
theorem dJ9_min_7cf53_1 : decode cJ9_min_7cf53 1 = .ok (.iload_n 1, 1) := by decide +kernel
theorem dJ9_min_7cf53_2 : decode cJ9_min_7cf53 2 = .ok (.if_icmp .gt 7, 3) := by decide +kernel
theorem dJ9_min_7cf53_5 : decode cJ9_min_7cf53 5 = .ok (.iload_n 0, 1) := by decide +kernel
theorem dJ9_min_7cf53_6 : decode cJ9_min_7cf53 6 = .ok (.goto 4, 3) := by decide +kernel
theorem dJ9_min_7cf53_9 : decode cJ9_min_7cf53 9 = .ok (.iload_n 1, 1) := by decide +kernel
theorem dJ9_min_7cf53_10 : decode cJ9_min_7cf53 10 = .ok (.ireturn, 1) := by decide +kernel
abbrev vwCl : List vw_C := [(RX0, TX0, 7), (RX1, TX1, 2), (RX2, TX2, 7), (RX3, TX3, 2), (RX4, TX4, 6)]
