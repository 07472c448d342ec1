section
-- ===== PART A: goes FIRST, ahead of the names: the tables' words, and 'selects' of the private methods out of them =====
/-- a private method of a class that the tables say can be made, by its rows of tables_1 -/
def lw_okq (q : MethodName × Nat) : Prop := (q.1.cls ≠ "java/lang/invoke/MethodHandle" ∧ q.1.cls ≠ "java/lang/invoke/VarHandle") ∧ Cond.instantiable q.1.cls q.2 ∈ tables_1 ∧ Cond.privateMethod q.1 ∈ tables_1 ∧ Cond.instanceMethod q.1 ∈ tables_1
theorem lw_p0 : lw_okq (⟨"LayeredCharters", "idleRules", "()I"⟩, 6) := ⟨⟨by decide +kernel, by decide +kernel⟩, List.mem_of_getElem? (i := 10) (by decide +kernel), List.mem_of_getElem? (i := 188) (by decide +kernel), List.mem_of_getElem? (i := 189) (by decide +kernel)⟩
theorem lw_p1 : lw_okq (⟨"LayeredCharters$Rules", "permittedPairs", "()I"⟩, 7) := ⟨⟨by decide +kernel, by decide +kernel⟩, List.mem_of_getElem? (i := 24) (by decide +kernel), List.mem_of_getElem? (i := 196) (by decide +kernel), List.mem_of_getElem? (i := 197) (by decide +kernel)⟩
theorem lw_p2 : lw_okq (⟨"LayeredCharters$Rules", "heldPairsOfSeal", "(I)I"⟩, 7) := ⟨⟨by decide +kernel, by decide +kernel⟩, List.mem_of_getElem? (i := 24) (by decide +kernel), List.mem_of_getElem? (i := 206) (by decide +kernel), List.mem_of_getElem? (i := 207) (by decide +kernel)⟩
theorem lw_p3 : lw_okq (⟨"LayeredCharters$Rules", "heldPairs", "(I)I"⟩, 7) := ⟨⟨by decide +kernel, by decide +kernel⟩, List.mem_of_getElem? (i := 24) (by decide +kernel), List.mem_of_getElem? (i := 210) (by decide +kernel), List.mem_of_getElem? (i := 211) (by decide +kernel)⟩
theorem lw_p4 : lw_okq (⟨"LayeredCharters$Rules", "lifts", "(II)Z"⟩, 7) := ⟨⟨by decide +kernel, by decide +kernel⟩, List.mem_of_getElem? (i := 24) (by decide +kernel), List.mem_of_getElem? (i := 214) (by decide +kernel), List.mem_of_getElem? (i := 215) (by decide +kernel)⟩
theorem lw_p5 : lw_okq (⟨"LayeredCharters", "isIdle", "(II)Z"⟩, 6) := ⟨⟨by decide +kernel, by decide +kernel⟩, List.mem_of_getElem? (i := 10) (by decide +kernel), List.mem_of_getElem? (i := 218) (by decide +kernel), List.mem_of_getElem? (i := 219) (by decide +kernel)⟩
theorem lw_p6 : lw_okq (⟨"LayeredCharters", "triplesWithout", "(I)I"⟩, 6) := ⟨⟨by decide +kernel, by decide +kernel⟩, List.mem_of_getElem? (i := 10) (by decide +kernel), List.mem_of_getElem? (i := 222) (by decide +kernel), List.mem_of_getElem? (i := 223) (by decide +kernel)⟩
theorem lw_p7 : lw_okq (⟨"LayeredCharters$Rules", "areAtOdds", "(II)Z"⟩, 7) := ⟨⟨by decide +kernel, by decide +kernel⟩, List.mem_of_getElem? (i := 24) (by decide +kernel), List.mem_of_getElem? (i := 249) (by decide +kernel), List.mem_of_getElem? (i := 250) (by decide +kernel)⟩
theorem lw_p8 : lw_okq (⟨"LayeredCharters", "remember", "()V"⟩, 6) := ⟨⟨by decide +kernel, by decide +kernel⟩, List.mem_of_getElem? (i := 10) (by decide +kernel), List.mem_of_getElem? (i := 268) (by decide +kernel), List.mem_of_getElem? (i := 269) (by decide +kernel)⟩
theorem lw_p9 : lw_okq (⟨"LayeredCharters", "dropOldest", "()V"⟩, 6) := ⟨⟨by decide +kernel, by decide +kernel⟩, List.mem_of_getElem? (i := 10) (by decide +kernel), List.mem_of_getElem? (i := 272) (by decide +kernel), List.mem_of_getElem? (i := 273) (by decide +kernel)⟩
theorem lw_p10 : lw_okq (⟨"LayeredCharters", "copyInto", "(LLayeredCharters$State;)LLayeredCharters$State;"⟩, 6) := ⟨⟨by decide +kernel, by decide +kernel⟩, List.mem_of_getElem? (i := 10) (by decide +kernel), List.mem_of_getElem? (i := 276) (by decide +kernel), List.mem_of_getElem? (i := 277) (by decide +kernel)⟩
theorem lw_p11 : lw_okq (⟨"LayeredCharters", "firstIdle", "()I"⟩, 6) := ⟨⟨by decide +kernel, by decide +kernel⟩, List.mem_of_getElem? (i := 10) (by decide +kernel), List.mem_of_getElem? (i := 310) (by decide +kernel), List.mem_of_getElem? (i := 311) (by decide +kernel)⟩
theorem lw_p12 : lw_okq (⟨"LayeredCharters", "deedsAllowed", "(II)I"⟩, 6) := ⟨⟨by decide +kernel, by decide +kernel⟩, List.mem_of_getElem? (i := 10) (by decide +kernel), List.mem_of_getElem? (i := 336) (by decide +kernel), List.mem_of_getElem? (i := 337) (by decide +kernel)⟩
theorem lw_p13 : lw_okq (⟨"LayeredCharters$Rules", "strongest", "(III)I"⟩, 7) := ⟨⟨by decide +kernel, by decide +kernel⟩, List.mem_of_getElem? (i := 24) (by decide +kernel), List.mem_of_getElem? (i := 396) (by decide +kernel), List.mem_of_getElem? (i := 397) (by decide +kernel)⟩
theorem lw_p14 : lw_okq (⟨"LayeredCharters", "triplesWithWaiver", "(II)I"⟩, 6) := ⟨⟨by decide +kernel, by decide +kernel⟩, List.mem_of_getElem? (i := 10) (by decide +kernel), List.mem_of_getElem? (i := 433) (by decide +kernel), List.mem_of_getElem? (i := 434) (by decide +kernel)⟩
def lw_privs_1 : List (MethodName × Nat) := [(⟨"LayeredCharters", "idleRules", "()I"⟩, 6), (⟨"LayeredCharters$Rules", "permittedPairs", "()I"⟩, 7), (⟨"LayeredCharters$Rules", "heldPairsOfSeal", "(I)I"⟩, 7), (⟨"LayeredCharters$Rules", "heldPairs", "(I)I"⟩, 7), (⟨"LayeredCharters$Rules", "lifts", "(II)Z"⟩, 7), (⟨"LayeredCharters", "isIdle", "(II)Z"⟩, 6), (⟨"LayeredCharters", "triplesWithout", "(I)I"⟩, 6), (⟨"LayeredCharters$Rules", "areAtOdds", "(II)Z"⟩, 7), (⟨"LayeredCharters", "remember", "()V"⟩, 6), (⟨"LayeredCharters", "dropOldest", "()V"⟩, 6), (⟨"LayeredCharters", "copyInto", "(LLayeredCharters$State;)LLayeredCharters$State;"⟩, 6), (⟨"LayeredCharters", "firstIdle", "()I"⟩, 6), (⟨"LayeredCharters", "deedsAllowed", "(II)I"⟩, 6), (⟨"LayeredCharters$Rules", "strongest", "(III)I"⟩, 7), (⟨"LayeredCharters", "triplesWithWaiver", "(II)I"⟩, 6)]
theorem lw_r1 : ∀ q ∈ lw_privs_1, lw_okq q := List.forall_mem_cons.mpr ⟨lw_p0, List.forall_mem_cons.mpr ⟨lw_p1, List.forall_mem_cons.mpr ⟨lw_p2, List.forall_mem_cons.mpr ⟨lw_p3, List.forall_mem_cons.mpr ⟨lw_p4, List.forall_mem_cons.mpr ⟨lw_p5, List.forall_mem_cons.mpr ⟨lw_p6, List.forall_mem_cons.mpr ⟨lw_p7, List.forall_mem_cons.mpr ⟨lw_p8, List.forall_mem_cons.mpr ⟨lw_p9, List.forall_mem_cons.mpr ⟨lw_p10, List.forall_mem_cons.mpr ⟨lw_p11, List.forall_mem_cons.mpr ⟨lw_p12, List.forall_mem_cons.mpr ⟨lw_p13, List.forall_mem_cons.mpr ⟨lw_p14, fun _ h => absurd h List.not_mem_nil⟩⟩⟩⟩⟩⟩⟩⟩⟩⟩⟩⟩⟩⟩⟩
def lw_privs : List (MethodName × Nat) := lw_privs_1
def lw_tbl : List Cond := k2_sels lw_privs ++ tables_1
theorem lw_privs_ok : ∀ q ∈ lw_privs, lw_okq q := lw_r1
end
section
/-! ===== BEGIN words of one list among another's, by their places ===== -/
theorem goodIn_r {big : List Cond} (ws : List Cond) (ps : List Nat) (hp : ws = ps.filterMap (fun i => big[i]?)) (h : ws.all goodWord = true) : GoodIn big ws := by
  intro w hw
  have h1 := List.all_eq_true.mp h w hw
  rw [hp] at hw
  obtain ⟨i, -, hi⟩ := List.mem_filterMap.mp hw
  have hm : w ∈ big := by first | exact List.mem_of_getElem? hi | exact List.getElem?_mem hi
  exact ⟨hm, good_of_word h1⟩
theorem goodIn_app {big a b : List Cond} (ha : GoodIn big a) (hb : GoodIn big b) : GoodIn big (a ++ b) := fun w h => (List.mem_append.mp h).elim (ha w) (hb w)
theorem goodIn_ca {big a b : List Cond} {c : Cond} (ha : GoodIn big (c :: a)) (hb : GoodIn big b) : GoodIn big (c :: (a ++ b)) := fun w h => (List.mem_cons.mp h).elim (fun e => ha w (List.mem_cons.mpr (Or.inl e))) (fun h => (List.mem_append.mp h).elim (fun h => ha w (List.mem_cons.mpr (Or.inr h))) (hb w))
theorem goodIn_sub {big ws : List Cond} (hm : ∀ w ∈ ws, w ∈ big) (h : ws.all goodWord = true) : GoodIn big ws := fun w hw => ⟨hm w hw, good_of_word (List.all_eq_true.mp h w hw)⟩
/-! ===== END ===== -/

/-! ===== BEGIN printed: names, fields, word lists, decode rows ===== -/
def RX0 : String := "LayeredCharters$Guild"
def TX0 : u_T := fun k => match k with
  | 0 => ("LayeredCharters$Guild", "crafts", "[I", true)
  | 1 => ("LayeredCharters$Guild", "ranks", "[I", true)
  | 2 => ("LayeredCharters$Guild", "done", "[I", true)
  | 3 => ("LayeredCharters$Guild", "refused", "[I", true)
  | 4 => ("LayeredCharters$Guild", "refusals", "[I", true)
  | 5 => ("LayeredCharters$Guild", "size", "I", false)
  | _ => ("LayeredCharters$Guild", "doneInAll", "I", false)
def tyX0 : Nat → FieldType := fun k => match k with
  | 0 => .array .int
  | 1 => .array .int
  | 2 => .array .int
  | 3 => .array .int
  | 4 => .array .int
  | 5 => .int
  | _ => .int
abbrev wsX00 : List Cond := u_ws RX0 TX0 7
theorem nmX0 : ∀ a, a < 7 → ∀ b, b < 7 → a ≠ b → (TX0 a).2.1 ≠ (TX0 b).2.1 := by decide +kernel
theorem tyX0_ok : ∀ k, k < 7 → parseFieldDescriptor (TX0 k).2.2.1 = some (tyX0 k) := by decide +kernel
abbrev cX0_init : ByteArray := prog_2_method_1_code
def yX0_init : MethodName := ⟨RX0, "<init>", "()V"⟩
abbrev cX0_copyFrom : ByteArray := prog_2_method_2_code
def yX0_copyFrom : MethodName := ⟨RX0, "copyFrom", "(LLayeredCharters$Guild;)V"⟩
abbrev cX0_has : ByteArray := prog_2_method_3_code
def yX0_has : MethodName := ⟨RX0, "has", "(I)Z"⟩
abbrev cX0_append : ByteArray := prog_2_method_4_code
def yX0_append : MethodName := ⟨RX0, "append", "(II)V"⟩
abbrev cX0_remove : ByteArray := prog_2_method_5_code
def yX0_remove : MethodName := ⟨RX0, "remove", "(I)V"⟩
abbrev cX0_noteDone : ByteArray := prog_2_method_6_code
def yX0_noteDone : MethodName := ⟨RX0, "noteDone", "(I)V"⟩
abbrev cX0_noteRefusal : ByteArray := prog_2_method_7_code
def yX0_noteRefusal : MethodName := ⟨RX0, "noteRefusal", "(II)V"⟩
abbrev cX0_refusalsOf : ByteArray := prog_2_method_8_code
def yX0_refusalsOf : MethodName := ⟨RX0, "refusalsOf", "(I)I"⟩
def RX1 : String := "LayeredCharters$Pad"
def TX1 : u_T := fun k => match k with
  | 0 => ("LayeredCharters$Pad", "signs", "[C", true)
  | _ => ("LayeredCharters$Pad", "length", "I", false)
def tyX1 : Nat → FieldType := fun k => match k with
  | 0 => .array .char
  | _ => .int
abbrev wsX10 : List Cond := u_ws RX1 TX1 2
theorem nmX1 : ∀ a, a < 2 → ∀ b, b < 2 → a ≠ b → (TX1 a).2.1 ≠ (TX1 b).2.1 := by decide +kernel
theorem tyX1_ok : ∀ k, k < 2 → parseFieldDescriptor (TX1 k).2.2.1 = some (tyX1 k) := by decide +kernel
abbrev cX1_init : ByteArray := prog_3_method_1_code
def yX1_init : MethodName := ⟨RX1, "<init>", "()V"⟩
def RX2 : String := "LayeredCharters$Rules"
def TX2 : u_T := fun k => match k with
  | 0 => ("LayeredCharters$Rules", "layers", "[I", true)
  | 1 => ("LayeredCharters$Rules", "kinds", "[I", true)
  | 2 => ("LayeredCharters$Rules", "crafts", "[I", true)
  | 3 => ("LayeredCharters$Rules", "deeds", "[I", true)
  | 4 => ("LayeredCharters$Rules", "seals", "[I", true)
  | 5 => ("LayeredCharters$Rules", "pairs", "[I", true)
  | _ => ("LayeredCharters$Rules", "size", "I", false)
def tyX2 : Nat → FieldType := fun k => match k with
  | 0 => .array .int
  | 1 => .array .int
  | 2 => .array .int
  | 3 => .array .int
  | 4 => .array .int
  | 5 => .array .int
  | _ => .int
abbrev wsX20 : List Cond := u_ws RX2 TX2 7
theorem nmX2 : ∀ a, a < 7 → ∀ b, b < 7 → a ≠ b → (TX2 a).2.1 ≠ (TX2 b).2.1 := by decide +kernel
theorem tyX2_ok : ∀ k, k < 7 → parseFieldDescriptor (TX2 k).2.2.1 = some (tyX2 k) := by decide +kernel
abbrev cX2_init : ByteArray := prog_4_method_1_code
def yX2_init : MethodName := ⟨RX2, "<init>", "()V"⟩
abbrev cX2_copyFrom : ByteArray := prog_4_method_2_code
def yX2_copyFrom : MethodName := ⟨RX2, "copyFrom", "(LLayeredCharters$Rules;)V"⟩
abbrev cX2_has : ByteArray := prog_4_method_3_code
def yX2_has : MethodName := ⟨RX2, "has", "(I)Z"⟩
abbrev cX2_append : ByteArray := prog_4_method_4_code
def yX2_append : MethodName := ⟨RX2, "append", "(IIIII)V"⟩
abbrev cX2_remove : ByteArray := prog_4_method_5_code
def yX2_remove : MethodName := ⟨RX2, "remove", "(I)V"⟩
abbrev cX2_sizeOfKind : ByteArray := prog_4_method_6_code
def yX2_sizeOfKind : MethodName := ⟨RX2, "sizeOfKind", "(I)I"⟩
abbrev cX2_oddsOf : ByteArray := prog_4_method_7_code
def yX2_oddsOf : MethodName := ⟨RX2, "oddsOf", "(I)I"⟩
abbrev cX2_oddPairs : ByteArray := prog_4_method_8_code
def yX2_oddPairs : MethodName := ⟨RX2, "oddPairs", "()I"⟩
abbrev cX2_areAtOdds : ByteArray := prog_4_method_9_code
def yX2_areAtOdds : MethodName := ⟨RX2, "areAtOdds", "(II)Z"⟩
abbrev cX2_reason : ByteArray := prog_4_method_10_code
def yX2_reason : MethodName := ⟨RX2, "reason", "(II)I"⟩
abbrev cX2_allowsByLayers : ByteArray := prog_4_method_11_code
def yX2_allowsByLayers : MethodName := ⟨RX2, "allowsByLayers", "(II)Z"⟩
abbrev cX2_strongest : ByteArray := prog_4_method_12_code
def yX2_strongest : MethodName := ⟨RX2, "strongest", "(III)I"⟩
abbrev cX2_allowedPairs : ByteArray := prog_4_method_13_code
def yX2_allowedPairs : MethodName := ⟨RX2, "allowedPairs", "(I)I"⟩
abbrev cX2_triples : ByteArray := prog_4_method_14_code
def yX2_triples : MethodName := ⟨RX2, "triples", "()I"⟩
abbrev cX2_leastRankFor : ByteArray := prog_4_method_15_code
def yX2_leastRankFor : MethodName := ⟨RX2, "leastRankFor", "(I)I"⟩
abbrev cX2_permittedPairs : ByteArray := prog_4_method_16_code
def yX2_permittedPairs : MethodName := ⟨RX2, "permittedPairs", "()I"⟩
abbrev cX2_heldPairsOfSeal : ByteArray := prog_4_method_17_code
def yX2_heldPairsOfSeal : MethodName := ⟨RX2, "heldPairsOfSeal", "(I)I"⟩
abbrev cX2_heldPairs : ByteArray := prog_4_method_18_code
def yX2_heldPairs : MethodName := ⟨RX2, "heldPairs", "(I)I"⟩
abbrev cX2_lifts : ByteArray := prog_4_method_19_code
def yX2_lifts : MethodName := ⟨RX2, "lifts", "(II)Z"⟩
def RX3 : String := "LayeredCharters$State"
def TX3 : u_T := fun k => match k with
  | 0 => ("LayeredCharters$State", "rules", "LLayeredCharters$Rules;", true)
  | _ => ("LayeredCharters$State", "guild", "LLayeredCharters$Guild;", true)
def tyX3 : Nat → FieldType := fun k => match k with
  | 0 => .object "LayeredCharters$Rules"
  | _ => .object "LayeredCharters$Guild"
abbrev wsX30 : List Cond := u_ws RX3 TX3 2
theorem nmX3 : ∀ a, a < 2 → ∀ b, b < 2 → a ≠ b → (TX3 a).2.1 ≠ (TX3 b).2.1 := by decide +kernel
theorem tyX3_ok : ∀ k, k < 2 → parseFieldDescriptor (TX3 k).2.2.1 = some (tyX3 k) := by decide +kernel
abbrev cX3_init : ByteArray := prog_5_method_1_code
def yX3_init : MethodName := ⟨RX3, "<init>", "()V"⟩
abbrev cX3_copyFrom : ByteArray := prog_5_method_2_code
def yX3_copyFrom : MethodName := ⟨RX3, "copyFrom", "(LLayeredCharters$State;)V"⟩
def RX4 : String := "LayeredCharters"
def TX4 : u_T := fun k => match k with
  | 0 => ("LayeredCharters", "now", "LLayeredCharters$State;", true)
  | 1 => ("LayeredCharters", "pad", "LLayeredCharters$Pad;", true)
  | 2 => ("LayeredCharters", "slots", "[LLayeredCharters$State;", true)
  | 3 => ("LayeredCharters", "history", "[LLayeredCharters$State;", true)
  | 4 => ("LayeredCharters", "remembered", "I", false)
  | _ => ("LayeredCharters", "trial", "LLayeredCharters$Rules;", true)
def tyX4 : Nat → FieldType := fun k => match k with
  | 0 => .object "LayeredCharters$State"
  | 1 => .object "LayeredCharters$Pad"
  | 2 => .array (.object "LayeredCharters$State")
  | 3 => .array (.object "LayeredCharters$State")
  | 4 => .int
  | _ => .object "LayeredCharters$Rules"
abbrev wsX40 : List Cond := u_ws RX4 TX4 6
theorem nmX4 : ∀ a, a < 6 → ∀ b, b < 6 → a ≠ b → (TX4 a).2.1 ≠ (TX4 b).2.1 := by decide +kernel
theorem tyX4_ok : ∀ k, k < 6 → parseFieldDescriptor (TX4 k).2.2.1 = some (tyX4 k) := by decide +kernel
abbrev cX4_init : ByteArray := prog_1_method_1_code
def yX4_init : MethodName := ⟨RX4, "<init>", "()V"⟩
abbrev cX4_add : ByteArray := prog_1_method_2_code
def yX4_add : MethodName := ⟨RX4, "add", "(IIIII)I"⟩
abbrev cX4_strike : ByteArray := prog_1_method_3_code
def yX4_strike : MethodName := ⟨RX4, "strike", "(I)I"⟩
abbrev cX4_seal : ByteArray := prog_1_method_4_code
def yX4_seal : MethodName := ⟨RX4, "seal", "(II)I"⟩
abbrev cX4_move : ByteArray := prog_1_method_5_code
def yX4_move : MethodName := ⟨RX4, "move", "(II)I"⟩
abbrev cX4_tidy : ByteArray := prog_1_method_7_code
def yX4_tidy : MethodName := ⟨RX4, "tidy", "()I"⟩
abbrev cX4_join : ByteArray := prog_1_method_8_code
def yX4_join : MethodName := ⟨RX4, "join", "(II)I"⟩
abbrev cX4_leave : ByteArray := prog_1_method_9_code
def yX4_leave : MethodName := ⟨RX4, "leave", "(I)I"⟩
abbrev cX4_rank : ByteArray := prog_1_method_10_code
def yX4_rank : MethodName := ⟨RX4, "rank", "(II)I"⟩
abbrev cX4_act : ByteArray := prog_1_method_11_code
def yX4_act : MethodName := ⟨RX4, "act", "(II)I"⟩
abbrev cX4_rule : ByteArray := prog_1_method_12_code
def yX4_rule : MethodName := ⟨RX4, "rule", "(II)I"⟩
abbrev cX4_member : ByteArray := prog_1_method_13_code
def yX4_member : MethodName := ⟨RX4, "member", "(II)I"⟩
abbrev cX4_allowed : ByteArray := prog_1_method_14_code
def yX4_allowed : MethodName := ⟨RX4, "allowed", "(IIII)I"⟩
abbrev cX4_why : ByteArray := prog_1_method_15_code
def yX4_why : MethodName := ⟨RX4, "why", "(III)I"⟩
abbrev cX4_count : ByteArray := prog_1_method_16_code
def yX4_count : MethodName := ⟨RX4, "count", "(I)I"⟩
abbrev cX4_leastRank : ByteArray := prog_1_method_17_code
def yX4_leastRank : MethodName := ⟨RX4, "leastRank", "(II)I"⟩
abbrev cX4_ifStruck : ByteArray := prog_1_method_18_code
def yX4_ifStruck : MethodName := ⟨RX4, "ifStruck", "(I)I"⟩
abbrev cX4_worstBan : ByteArray := prog_1_method_19_code
def yX4_worstBan : MethodName := ⟨RX4, "worstBan", "()I"⟩
abbrev cX4_bestWaiver : ByteArray := prog_1_method_20_code
def yX4_bestWaiver : MethodName := ⟨RX4, "bestWaiver", "(I)I"⟩
abbrev cX4_undo : ByteArray := prog_1_method_24_code
def yX4_undo : MethodName := ⟨RX4, "undo", "()I"⟩
abbrev cX4_remember : ByteArray := prog_1_method_27_code
def yX4_remember : MethodName := ⟨RX4, "remember", "()V"⟩
abbrev cX4_dropOldest : ByteArray := prog_1_method_28_code
def yX4_dropOldest : MethodName := ⟨RX4, "dropOldest", "()V"⟩
abbrev cX4_copyInto : ByteArray := prog_1_method_29_code
def yX4_copyInto : MethodName := ⟨RX4, "copyInto", "(LLayeredCharters$State;)LLayeredCharters$State;"⟩
abbrev cX4_triplesWithout : ByteArray := prog_1_method_30_code
def yX4_triplesWithout : MethodName := ⟨RX4, "triplesWithout", "(I)I"⟩
abbrev cX4_triplesWithWaiver : ByteArray := prog_1_method_31_code
def yX4_triplesWithWaiver : MethodName := ⟨RX4, "triplesWithWaiver", "(II)I"⟩
abbrev cX4_isIdle : ByteArray := prog_1_method_32_code
def yX4_isIdle : MethodName := ⟨RX4, "isIdle", "(II)Z"⟩
abbrev cX4_firstIdle : ByteArray := prog_1_method_33_code
def yX4_firstIdle : MethodName := ⟨RX4, "firstIdle", "()I"⟩
abbrev cX4_idleRules : ByteArray := prog_1_method_34_code
def yX4_idleRules : MethodName := ⟨RX4, "idleRules", "()I"⟩
abbrev cX4_deedsAllowed : ByteArray := prog_1_method_35_code
def yX4_deedsAllowed : MethodName := ⟨RX4, "deedsAllowed", "(II)I"⟩
abbrev cX4_isBetween : ByteArray := prog_1_method_36_code
def yX4_isBetween : MethodName := ⟨RX4, "isBetween", "(III)Z"⟩
abbrev cX4_isLayer : ByteArray := prog_1_method_37_code
def yX4_isLayer : MethodName := ⟨RX4, "isLayer", "(I)Z"⟩
abbrev cX4_isCraft : ByteArray := prog_1_method_38_code
def yX4_isCraft : MethodName := ⟨RX4, "isCraft", "(I)Z"⟩
abbrev cX4_isDeed : ByteArray := prog_1_method_39_code
def yX4_isDeed : MethodName := ⟨RX4, "isDeed", "(I)Z"⟩
abbrev cX4_isSeal : ByteArray := prog_1_method_40_code
def yX4_isSeal : MethodName := ⟨RX4, "isSeal", "(I)Z"⟩
abbrev cX4_isRank : ByteArray := prog_1_method_41_code
def yX4_isRank : MethodName := ⟨RX4, "isRank", "(I)Z"⟩
abbrev cX4_pairsOf : ByteArray := prog_1_method_42_code
def yX4_pairsOf : MethodName := ⟨RX4, "pairsOf", "(II)I"⟩
abbrev cX4_closeGap : ByteArray := prog_1_method_43_code
def yX4_closeGap : MethodName := ⟨RX4, "closeGap", "([II)V"⟩
abbrev cX4_copyRow : ByteArray := prog_1_method_44_code
def yX4_copyRow : MethodName := ⟨RX4, "copyRow", "([I[I)V"⟩
def RX5 : String := "LayeredChartersModel"
def TX5 : u_T := fun k => match k with
  | _ => ("", "", "", false)
def tyX5 : Nat → FieldType := fun k => match k with
  | _ => .int
abbrev wsX50 : List Cond := u_ws RX5 TX5 0
theorem nmX5 : ∀ a, a < 0 → ∀ b, b < 0 → a ≠ b → (TX5 a).2.1 ≠ (TX5 b).2.1 := by decide +kernel
theorem tyX5_ok : ∀ k, k < 0 → parseFieldDescriptor (TX5 k).2.2.1 = some (tyX5 k) := by decide +kernel
def RJ6 : String := "java/lang/Integer"
def TJ6 : u_T := fun k => match k with
  | _ => ("", "", "", false)
def tyJ6 : Nat → FieldType := fun k => match k with
  | _ => .int
abbrev wsJ60 : List Cond := u_ws RJ6 TJ6 0
theorem nmJ6 : ∀ a, a < 0 → ∀ b, b < 0 → a ≠ b → (TJ6 a).2.1 ≠ (TJ6 b).2.1 := by decide +kernel
theorem tyJ6_ok : ∀ k, k < 0 → parseFieldDescriptor (TJ6 k).2.2.1 = some (tyJ6 k) := by decide +kernel
abbrev cJ6_bitCount_0f7a4 : ByteArray := prog_8_method_49_code
def yJ6_bitCount_0f7a4 : MethodName := ⟨RJ6, "bitCount", "(I)I"⟩
def RJ9 : String := "java/lang/Math"
def TJ9 : u_T := fun k => match k with
  | _ => ("", "", "", false)
def tyJ9 : Nat → FieldType := fun k => match k with
  | _ => .int
abbrev wsJ90 : List Cond := u_ws RJ9 TJ9 0
theorem nmJ9 : ∀ a, a < 0 → ∀ b, b < 0 → a ≠ b → (TJ9 a).2.1 ≠ (TJ9 b).2.1 := by decide +kernel
theorem tyJ9_ok : ∀ k, k < 0 → parseFieldDescriptor (TJ9 k).2.2.1 = some (tyJ9 k) := by decide +kernel
abbrev cJ9_max_7cf53 : ByteArray := prog_9_method_65_code
def yJ9_max_7cf53 : MethodName := ⟨RJ9, "max", "(II)I"⟩
abbrev cJ9_min_7cf53 : ByteArray := prog_9_method_69_code
def yJ9_min_7cf53 : MethodName := ⟨RJ9, "min", "(II)I"⟩
def RJ10 : String := "java/lang/System"
def TJ10 : u_T := fun k => match k with
  | _ => ("", "", "", false)
def tyJ10 : Nat → FieldType := fun k => match k with
  | _ => .int
abbrev wsJ100 : List Cond := u_ws RJ10 TJ10 0
theorem nmJ10 : ∀ a, a < 0 → ∀ b, b < 0 → a ≠ b → (TJ10 a).2.1 ≠ (TJ10 b).2.1 := by decide +kernel
theorem tyJ10_ok : ∀ k, k < 0 → parseFieldDescriptor (TJ10 k).2.2.1 = some (tyJ10 k) := by decide +kernel
def wsX0_init : List Cond := .code yX0_init cX0_init 1 none :: ([.methodLink RX0 3 objectInit, .instanceMethod objectInit, .code objectInit ⟨#[0xb1]⟩ 1 none, .arrayClass .int, .fieldLink RX0 9 "LayeredCharters$Guild" "crafts" "[I", .fieldLink RX0 15 "LayeredCharters$Guild" "ranks" "[I", .fieldLink RX0 18 "LayeredCharters$Guild" "done" "[I", .fieldLink RX0 21 "LayeredCharters$Guild" "refused" "[I", .fieldLink RX0 24 "LayeredCharters$Guild" "refusals" "[I", .fieldLink RX0 27 "LayeredCharters$Guild" "size" "I", .fieldLink RX0 31 "LayeredCharters$Guild" "doneInAll" "I"] ++ wsX00)
def wsX4_copyRow : List Cond := .code yX4_copyRow cX4_copyRow 2 none :: ([.methodLink RX4 229 Lib.Math.min.name, .static Lib.Math.min.name, .initialized "java/lang/Math", .code Lib.Math.min.name Lib.Math.min.code 2 (some .int), .methodLink RX4 232 arraycopyName, .native arraycopyName, .static arraycopyName, .initialized "java/lang/System"])
def wsX0_copyFrom : List Cond := .code yX0_copyFrom cX0_copyFrom 2 none :: ([.fieldLink RX0 9 "LayeredCharters$Guild" "crafts" "[I", .fieldLink RX0 15 "LayeredCharters$Guild" "ranks" "[I", .fieldLink RX0 18 "LayeredCharters$Guild" "done" "[I", .fieldLink RX0 21 "LayeredCharters$Guild" "refused" "[I", .fieldLink RX0 24 "LayeredCharters$Guild" "refusals" "[I", .fieldLink RX0 27 "LayeredCharters$Guild" "size" "I", .fieldLink RX0 31 "LayeredCharters$Guild" "doneInAll" "I", .static yX4_copyRow, .initialized RX4, .code yX4_copyRow cX4_copyRow 2 none, .methodLink RX4 229 Lib.Math.min.name, .static Lib.Math.min.name, .initialized "java/lang/Math", .code Lib.Math.min.name Lib.Math.min.code 2 (some .int), .methodLink RX4 232 arraycopyName, .native arraycopyName, .static arraycopyName, .initialized "java/lang/System"] ++ wsX00)
def wsX0_has : List Cond := .code yX0_has cX0_has 2 (some .boolean) :: ([.fieldLink RX0 27 "LayeredCharters$Guild" "size" "I"] ++ wsX00)
def wsX0_append : List Cond := .code yX0_append cX0_append 3 none :: ([.fieldLink RX0 27 "LayeredCharters$Guild" "size" "I", .fieldLink RX0 9 "LayeredCharters$Guild" "crafts" "[I", .fieldLink RX0 15 "LayeredCharters$Guild" "ranks" "[I", .fieldLink RX0 18 "LayeredCharters$Guild" "done" "[I", .fieldLink RX0 21 "LayeredCharters$Guild" "refused" "[I"] ++ wsX00)
def wsX4_closeGap : List Cond := .code yX4_closeGap cX4_closeGap 3 none :: ([.methodLink RX4 224 Lib.Math.max.name, .static Lib.Math.max.name, .initialized "java/lang/Math", .code Lib.Math.max.name Lib.Math.max.code 2 (some .int)])
def wsX0_remove : List Cond := .code yX0_remove cX0_remove 2 none :: ([.fieldLink RX0 9 "LayeredCharters$Guild" "crafts" "[I", .fieldLink RX0 15 "LayeredCharters$Guild" "ranks" "[I", .fieldLink RX0 18 "LayeredCharters$Guild" "done" "[I", .fieldLink RX0 21 "LayeredCharters$Guild" "refused" "[I", .fieldLink RX0 27 "LayeredCharters$Guild" "size" "I", .methodLink RX0 38 yX0_has, .instanceMethod yX0_has, .selects RX0 yX0_has yX0_has, .initialized RX0, .code yX0_has cX0_has 2 (some .boolean), .static yX4_closeGap, .initialized RX4, .code yX4_closeGap cX4_closeGap 3 none, .methodLink RX4 224 Lib.Math.max.name, .static Lib.Math.max.name, .initialized "java/lang/Math", .code Lib.Math.max.name Lib.Math.max.code 2 (some .int)] ++ wsX00)
def wsX0_noteDone : List Cond := .code yX0_noteDone cX0_noteDone 2 none :: ([.fieldLink RX0 18 "LayeredCharters$Guild" "done" "[I", .fieldLink RX0 31 "LayeredCharters$Guild" "doneInAll" "I", .methodLink RX0 38 yX0_has, .instanceMethod yX0_has, .selects RX0 yX0_has yX0_has, .initialized RX0, .code yX0_has cX0_has 2 (some .boolean), .fieldLink RX0 27 "LayeredCharters$Guild" "size" "I"] ++ wsX00)
def wsX4_isBetween : List Cond := .code yX4_isBetween cX4_isBetween 3 (some .boolean) :: ([])
def wsX0_noteRefusal : List Cond := .code yX0_noteRefusal cX0_noteRefusal 3 none :: ([.fieldLink RX0 21 "LayeredCharters$Guild" "refused" "[I", .fieldLink RX0 24 "LayeredCharters$Guild" "refusals" "[I", .methodLink RX0 38 yX0_has, .instanceMethod yX0_has, .selects RX0 yX0_has yX0_has, .initialized RX0, .code yX0_has cX0_has 2 (some .boolean), .fieldLink RX0 27 "LayeredCharters$Guild" "size" "I", .static yX4_isBetween, .initialized RX4, .code yX4_isBetween cX4_isBetween 3 (some .boolean)] ++ wsX00)
def wsX0_refusalsOf : List Cond := .code yX0_refusalsOf cX0_refusalsOf 2 (some .int) :: ([.fieldLink RX0 24 "LayeredCharters$Guild" "refusals" "[I", .static yX4_isBetween, .initialized RX4, .code yX4_isBetween cX4_isBetween 3 (some .boolean)] ++ wsX00)
def wsX1_init : List Cond := .code yX1_init cX1_init 1 none :: ([.methodLink RX1 3 objectInit, .instanceMethod objectInit, .code objectInit ⟨#[0xb1]⟩ 1 none, .arrayClass .char, .fieldLink RX1 9 "LayeredCharters$Pad" "signs" "[C", .fieldLink RX1 15 "LayeredCharters$Pad" "length" "I"] ++ wsX10)
def wsX2_init : List Cond := .code yX2_init cX2_init 1 none :: ([.methodLink RX2 3 objectInit, .instanceMethod objectInit, .code objectInit ⟨#[0xb1]⟩ 1 none, .arrayClass .int, .fieldLink RX2 11 "LayeredCharters$Rules" "layers" "[I", .fieldLink RX2 15 "LayeredCharters$Rules" "kinds" "[I", .fieldLink RX2 18 "LayeredCharters$Rules" "crafts" "[I", .fieldLink RX2 21 "LayeredCharters$Rules" "deeds" "[I", .fieldLink RX2 24 "LayeredCharters$Rules" "seals" "[I", .fieldLink RX2 27 "LayeredCharters$Rules" "pairs" "[I", .fieldLink RX2 30 "LayeredCharters$Rules" "size" "I"] ++ wsX20)
def wsX2_copyFrom : List Cond := .code yX2_copyFrom cX2_copyFrom 2 none :: ([.fieldLink RX2 11 "LayeredCharters$Rules" "layers" "[I", .fieldLink RX2 15 "LayeredCharters$Rules" "kinds" "[I", .fieldLink RX2 18 "LayeredCharters$Rules" "crafts" "[I", .fieldLink RX2 21 "LayeredCharters$Rules" "deeds" "[I", .fieldLink RX2 24 "LayeredCharters$Rules" "seals" "[I", .fieldLink RX2 27 "LayeredCharters$Rules" "pairs" "[I", .fieldLink RX2 30 "LayeredCharters$Rules" "size" "I", .static yX4_copyRow, .initialized RX4, .code yX4_copyRow cX4_copyRow 2 none, .methodLink RX4 229 Lib.Math.min.name, .static Lib.Math.min.name, .initialized "java/lang/Math", .code Lib.Math.min.name Lib.Math.min.code 2 (some .int), .methodLink RX4 232 arraycopyName, .native arraycopyName, .static arraycopyName, .initialized "java/lang/System"] ++ wsX20)
def wsX2_has : List Cond := .code yX2_has cX2_has 2 (some .boolean) :: ([.fieldLink RX2 30 "LayeredCharters$Rules" "size" "I"] ++ wsX20)
def wsX4_pairsOf : List Cond := .code yX4_pairsOf cX4_pairsOf 5 (some .int) :: ([])
def wsX2_append : List Cond := .code yX2_append cX2_append 6 none :: ([.fieldLink RX2 30 "LayeredCharters$Rules" "size" "I", .fieldLink RX2 11 "LayeredCharters$Rules" "layers" "[I", .fieldLink RX2 15 "LayeredCharters$Rules" "kinds" "[I", .fieldLink RX2 18 "LayeredCharters$Rules" "crafts" "[I", .fieldLink RX2 21 "LayeredCharters$Rules" "deeds" "[I", .fieldLink RX2 24 "LayeredCharters$Rules" "seals" "[I", .fieldLink RX2 27 "LayeredCharters$Rules" "pairs" "[I", .static yX4_pairsOf, .initialized RX4, .code yX4_pairsOf cX4_pairsOf 5 (some .int)] ++ wsX20)
def wsX2_remove : List Cond := .code yX2_remove cX2_remove 2 none :: ([.fieldLink RX2 11 "LayeredCharters$Rules" "layers" "[I", .fieldLink RX2 15 "LayeredCharters$Rules" "kinds" "[I", .fieldLink RX2 18 "LayeredCharters$Rules" "crafts" "[I", .fieldLink RX2 21 "LayeredCharters$Rules" "deeds" "[I", .fieldLink RX2 24 "LayeredCharters$Rules" "seals" "[I", .fieldLink RX2 27 "LayeredCharters$Rules" "pairs" "[I", .fieldLink RX2 30 "LayeredCharters$Rules" "size" "I", .methodLink RX2 42 yX2_has, .instanceMethod yX2_has, .selects RX2 yX2_has yX2_has, .initialized RX2, .code yX2_has cX2_has 2 (some .boolean), .static yX4_closeGap, .initialized RX4, .code yX4_closeGap cX4_closeGap 3 none, .methodLink RX4 224 Lib.Math.max.name, .static Lib.Math.max.name, .initialized "java/lang/Math", .code Lib.Math.max.name Lib.Math.max.code 2 (some .int)] ++ wsX20)
def wsX2_sizeOfKind : List Cond := .code yX2_sizeOfKind cX2_sizeOfKind 4 (some .int) :: ([.fieldLink RX2 30 "LayeredCharters$Rules" "size" "I", .fieldLink RX2 15 "LayeredCharters$Rules" "kinds" "[I"] ++ wsX20)
def wsX2_areAtOdds : List Cond := .code yX2_areAtOdds cX2_areAtOdds 3 (some .boolean) :: ([.fieldLink RX2 15 "LayeredCharters$Rules" "kinds" "[I", .fieldLink RX2 27 "LayeredCharters$Rules" "pairs" "[I"] ++ wsX20)
def wsX2_oddsOf : List Cond := .code yX2_oddsOf cX2_oddsOf 4 (some .int) :: ([.fieldLink RX2 30 "LayeredCharters$Rules" "size" "I", .methodLink RX2 50 yX2_areAtOdds, .instanceMethod yX2_areAtOdds, .selects RX2 yX2_areAtOdds yX2_areAtOdds, .initialized RX2, .code yX2_areAtOdds cX2_areAtOdds 3 (some .boolean), .fieldLink RX2 15 "LayeredCharters$Rules" "kinds" "[I", .fieldLink RX2 27 "LayeredCharters$Rules" "pairs" "[I"] ++ wsX20)
def wsX2_oddPairs : List Cond := .code yX2_oddPairs cX2_oddPairs 3 (some .int) :: ([.fieldLink RX2 30 "LayeredCharters$Rules" "size" "I", .fieldLink RX2 15 "LayeredCharters$Rules" "kinds" "[I", .methodLink RX2 54 yX2_oddsOf, .instanceMethod yX2_oddsOf, .selects RX2 yX2_oddsOf yX2_oddsOf, .initialized RX2, .code yX2_oddsOf cX2_oddsOf 4 (some .int), .methodLink RX2 50 yX2_areAtOdds, .instanceMethod yX2_areAtOdds, .selects RX2 yX2_areAtOdds yX2_areAtOdds, .code yX2_areAtOdds cX2_areAtOdds 3 (some .boolean), .fieldLink RX2 27 "LayeredCharters$Rules" "pairs" "[I"] ++ wsX20)
def wsX2_permittedPairs : List Cond := .code yX2_permittedPairs cX2_permittedPairs 3 (some .int) :: ([.fieldLink RX2 30 "LayeredCharters$Rules" "size" "I", .fieldLink RX2 15 "LayeredCharters$Rules" "kinds" "[I", .fieldLink RX2 27 "LayeredCharters$Rules" "pairs" "[I"] ++ wsX20)
def wsX2_lifts : List Cond := .code yX2_lifts cX2_lifts 3 (some .boolean) :: ([.fieldLink RX2 15 "LayeredCharters$Rules" "kinds" "[I", .fieldLink RX2 11 "LayeredCharters$Rules" "layers" "[I", .fieldLink RX2 24 "LayeredCharters$Rules" "seals" "[I"] ++ wsX20)
def wsX2_heldPairs : List Cond := .code yX2_heldPairs cX2_heldPairs 4 (some .int) :: ([.fieldLink RX2 27 "LayeredCharters$Rules" "pairs" "[I", .fieldLink RX2 30 "LayeredCharters$Rules" "size" "I", .methodLink RX2 82 yX2_lifts, .instanceMethod yX2_lifts, .selects RX2 yX2_lifts yX2_lifts, .initialized RX2, .code yX2_lifts cX2_lifts 3 (some .boolean), .fieldLink RX2 15 "LayeredCharters$Rules" "kinds" "[I", .fieldLink RX2 11 "LayeredCharters$Rules" "layers" "[I", .fieldLink RX2 24 "LayeredCharters$Rules" "seals" "[I"] ++ wsX20)
def wsX2_reason : List Cond := .code yX2_reason cX2_reason 6 (some .int) :: ([.fieldLink RX2 30 "LayeredCharters$Rules" "size" "I", .fieldLink RX2 15 "LayeredCharters$Rules" "kinds" "[I", .fieldLink RX2 24 "LayeredCharters$Rules" "seals" "[I", .fieldLink RX2 11 "LayeredCharters$Rules" "layers" "[I", .methodLink RX2 58 yX2_permittedPairs, .instanceMethod yX2_permittedPairs, .selects RX2 yX2_permittedPairs yX2_permittedPairs, .initialized RX2, .code yX2_permittedPairs cX2_permittedPairs 3 (some .int), .fieldLink RX2 27 "LayeredCharters$Rules" "pairs" "[I", .methodLink RX2 62 yX2_heldPairs, .instanceMethod yX2_heldPairs, .selects RX2 yX2_heldPairs yX2_heldPairs, .code yX2_heldPairs cX2_heldPairs 4 (some .int), .methodLink RX2 82 yX2_lifts, .instanceMethod yX2_lifts, .selects RX2 yX2_lifts yX2_lifts, .code yX2_lifts cX2_lifts 3 (some .boolean)] ++ wsX20)
def wsX2_strongest : List Cond := .code yX2_strongest cX2_strongest 6 (some .int) :: ([.fieldLink RX2 30 "LayeredCharters$Rules" "size" "I", .fieldLink RX2 15 "LayeredCharters$Rules" "kinds" "[I", .fieldLink RX2 11 "LayeredCharters$Rules" "layers" "[I", .fieldLink RX2 27 "LayeredCharters$Rules" "pairs" "[I", .fieldLink RX2 24 "LayeredCharters$Rules" "seals" "[I", .methodLink RX2 69 Lib.Math.max.name, .static Lib.Math.max.name, .initialized "java/lang/Math", .code Lib.Math.max.name Lib.Math.max.code 2 (some .int)] ++ wsX20)
def wsX2_allowsByLayers : List Cond := .code yX2_allowsByLayers cX2_allowsByLayers 5 (some .boolean) :: ([.methodLink RX2 69 Lib.Math.max.name, .static Lib.Math.max.name, .initialized "java/lang/Math", .code Lib.Math.max.name Lib.Math.max.code 2 (some .int), .methodLink RX2 58 yX2_permittedPairs, .instanceMethod yX2_permittedPairs, .selects RX2 yX2_permittedPairs yX2_permittedPairs, .initialized RX2, .code yX2_permittedPairs cX2_permittedPairs 3 (some .int), .fieldLink RX2 30 "LayeredCharters$Rules" "size" "I", .fieldLink RX2 15 "LayeredCharters$Rules" "kinds" "[I", .fieldLink RX2 27 "LayeredCharters$Rules" "pairs" "[I", .methodLink RX2 65 yX2_strongest, .instanceMethod yX2_strongest, .selects RX2 yX2_strongest yX2_strongest, .code yX2_strongest cX2_strongest 6 (some .int), .fieldLink RX2 11 "LayeredCharters$Rules" "layers" "[I", .fieldLink RX2 24 "LayeredCharters$Rules" "seals" "[I"] ++ wsX20)
def wsX2_heldPairsOfSeal : List Cond := .code yX2_heldPairsOfSeal cX2_heldPairsOfSeal 4 (some .int) :: ([.fieldLink RX2 30 "LayeredCharters$Rules" "size" "I", .fieldLink RX2 15 "LayeredCharters$Rules" "kinds" "[I", .fieldLink RX2 24 "LayeredCharters$Rules" "seals" "[I", .methodLink RX2 62 yX2_heldPairs, .instanceMethod yX2_heldPairs, .selects RX2 yX2_heldPairs yX2_heldPairs, .initialized RX2, .code yX2_heldPairs cX2_heldPairs 4 (some .int), .fieldLink RX2 27 "LayeredCharters$Rules" "pairs" "[I", .methodLink RX2 82 yX2_lifts, .instanceMethod yX2_lifts, .selects RX2 yX2_lifts yX2_lifts, .code yX2_lifts cX2_lifts 3 (some .boolean), .fieldLink RX2 11 "LayeredCharters$Rules" "layers" "[I"] ++ wsX20)
def wsX2_allowedPairs : List Cond := .code yX2_allowedPairs cX2_allowedPairs 4 (some .int) :: ([.methodLink RX2 58 yX2_permittedPairs, .instanceMethod yX2_permittedPairs, .selects RX2 yX2_permittedPairs yX2_permittedPairs, .initialized RX2, .code yX2_permittedPairs cX2_permittedPairs 3 (some .int), .fieldLink RX2 30 "LayeredCharters$Rules" "size" "I", .fieldLink RX2 15 "LayeredCharters$Rules" "kinds" "[I", .fieldLink RX2 27 "LayeredCharters$Rules" "pairs" "[I", .methodLink RX2 74 yX2_heldPairsOfSeal, .instanceMethod yX2_heldPairsOfSeal, .selects RX2 yX2_heldPairsOfSeal yX2_heldPairsOfSeal, .code yX2_heldPairsOfSeal cX2_heldPairsOfSeal 4 (some .int), .fieldLink RX2 24 "LayeredCharters$Rules" "seals" "[I", .methodLink RX2 62 yX2_heldPairs, .instanceMethod yX2_heldPairs, .selects RX2 yX2_heldPairs yX2_heldPairs, .code yX2_heldPairs cX2_heldPairs 4 (some .int), .methodLink RX2 82 yX2_lifts, .instanceMethod yX2_lifts, .selects RX2 yX2_lifts yX2_lifts, .code yX2_lifts cX2_lifts 3 (some .boolean), .fieldLink RX2 11 "LayeredCharters$Rules" "layers" "[I"] ++ wsX20)
def wsJ6_bitCount_0f7a4 : List Cond := .code yJ6_bitCount_0f7a4 cJ6_bitCount_0f7a4 1 (some .int) :: ([.constant RJ6 265 (1431655765), .constant RJ6 266 (858993459), .constant RJ6 267 (252645135)])
def wsX2_triples_r1 : List Cond := [Cond.methodLink RX2 58 yX2_permittedPairs, Cond.instanceMethod yX2_permittedPairs, Cond.selects RX2 yX2_permittedPairs yX2_permittedPairs, Cond.initialized RX2, Cond.code yX2_permittedPairs cX2_permittedPairs 3 (some .int), Cond.fieldLink RX2 30 "LayeredCharters$Rules" "size" "I", Cond.fieldLink RX2 15 "LayeredCharters$Rules" "kinds" "[I", Cond.fieldLink RX2 27 "LayeredCharters$Rules" "pairs" "[I", Cond.methodLink RX2 77 yJ6_bitCount_0f7a4, Cond.static yJ6_bitCount_0f7a4, Cond.initialized RJ6, Cond.code yJ6_bitCount_0f7a4 cJ6_bitCount_0f7a4 1 (some .int), Cond.constant RJ6 265 (1431655765), Cond.constant RJ6 266 (858993459), Cond.constant RJ6 267 (252645135), Cond.methodLink RX2 74 yX2_heldPairsOfSeal, Cond.instanceMethod yX2_heldPairsOfSeal, Cond.selects RX2 yX2_heldPairsOfSeal yX2_heldPairsOfSeal, Cond.code yX2_heldPairsOfSeal cX2_heldPairsOfSeal 4 (some .int), Cond.fieldLink RX2 24 "LayeredCharters$Rules" "seals" "[I", Cond.methodLink RX2 62 yX2_heldPairs, Cond.instanceMethod yX2_heldPairs, Cond.selects RX2 yX2_heldPairs yX2_heldPairs, Cond.code yX2_heldPairs cX2_heldPairs 4 (some .int)]
def wsX2_triples_r2 : List Cond := [Cond.methodLink RX2 82 yX2_lifts, Cond.instanceMethod yX2_lifts, Cond.selects RX2 yX2_lifts yX2_lifts, Cond.code yX2_lifts cX2_lifts 3 (some .boolean), Cond.fieldLink RX2 11 "LayeredCharters$Rules" "layers" "[I"]
def wsX2_triples : List Cond := .code yX2_triples cX2_triples 4 (some .int) :: ((wsX2_triples_r1 ++ wsX2_triples_r2) ++ wsX20)
def wsX2_leastRankFor : List Cond := .code yX2_leastRankFor cX2_leastRankFor 3 (some .int) :: ([.methodLink RX2 58 yX2_permittedPairs, .instanceMethod yX2_permittedPairs, .selects RX2 yX2_permittedPairs yX2_permittedPairs, .initialized RX2, .code yX2_permittedPairs cX2_permittedPairs 3 (some .int), .fieldLink RX2 30 "LayeredCharters$Rules" "size" "I", .fieldLink RX2 15 "LayeredCharters$Rules" "kinds" "[I", .fieldLink RX2 27 "LayeredCharters$Rules" "pairs" "[I", .methodLink RX2 74 yX2_heldPairsOfSeal, .instanceMethod yX2_heldPairsOfSeal, .selects RX2 yX2_heldPairsOfSeal yX2_heldPairsOfSeal, .code yX2_heldPairsOfSeal cX2_heldPairsOfSeal 4 (some .int), .fieldLink RX2 24 "LayeredCharters$Rules" "seals" "[I", .methodLink RX2 62 yX2_heldPairs, .instanceMethod yX2_heldPairs, .selects RX2 yX2_heldPairs yX2_heldPairs, .code yX2_heldPairs cX2_heldPairs 4 (some .int), .methodLink RX2 82 yX2_lifts, .instanceMethod yX2_lifts, .selects RX2 yX2_lifts yX2_lifts, .code yX2_lifts cX2_lifts 3 (some .boolean), .fieldLink RX2 11 "LayeredCharters$Rules" "layers" "[I"] ++ wsX20)
def wsX3_init_r1 : List Cond := [Cond.methodLink RX3 1 objectInit, Cond.instanceMethod objectInit, Cond.code objectInit ⟨#[0xb1]⟩ 1 none, Cond.classLink RX3 7 RX2, Cond.instantiable RX2 7, Cond.initialized RX2, Cond.fieldLink RX3 10 "LayeredCharters$State" "rules" "LLayeredCharters$Rules;", Cond.classLink RX3 16 RX0, Cond.instantiable RX0 7, Cond.initialized RX0, Cond.fieldLink RX3 19 "LayeredCharters$State" "guild" "LLayeredCharters$Guild;", Cond.instanceMethod yX2_init, Cond.code yX2_init cX2_init 1 none, Cond.methodLink RX2 3 objectInit, Cond.arrayClass .int, Cond.fieldLink RX2 11 "LayeredCharters$Rules" "layers" "[I", Cond.fieldLink RX2 15 "LayeredCharters$Rules" "kinds" "[I", Cond.fieldLink RX2 18 "LayeredCharters$Rules" "crafts" "[I", Cond.fieldLink RX2 21 "LayeredCharters$Rules" "deeds" "[I", Cond.fieldLink RX2 24 "LayeredCharters$Rules" "seals" "[I", Cond.fieldLink RX2 27 "LayeredCharters$Rules" "pairs" "[I", Cond.fieldLink RX2 30 "LayeredCharters$Rules" "size" "I", Cond.instanceMethod yX0_init, Cond.code yX0_init cX0_init 1 none]
def wsX3_init_r2 : List Cond := [Cond.methodLink RX0 3 objectInit, Cond.fieldLink RX0 9 "LayeredCharters$Guild" "crafts" "[I", Cond.fieldLink RX0 15 "LayeredCharters$Guild" "ranks" "[I", Cond.fieldLink RX0 18 "LayeredCharters$Guild" "done" "[I", Cond.fieldLink RX0 21 "LayeredCharters$Guild" "refused" "[I", Cond.fieldLink RX0 24 "LayeredCharters$Guild" "refusals" "[I", Cond.fieldLink RX0 27 "LayeredCharters$Guild" "size" "I", Cond.fieldLink RX0 31 "LayeredCharters$Guild" "doneInAll" "I"]
def wsX3_init : List Cond := .code yX3_init cX3_init 1 none :: ((wsX3_init_r1 ++ wsX3_init_r2) ++ wsX20 ++ wsX30 ++ wsX00)
def wsX3_copyFrom_r1 : List Cond := [Cond.fieldLink RX3 10 "LayeredCharters$State" "rules" "LLayeredCharters$Rules;", Cond.fieldLink RX3 19 "LayeredCharters$State" "guild" "LLayeredCharters$Guild;", Cond.methodLink RX3 23 yX2_copyFrom, Cond.instanceMethod yX2_copyFrom, Cond.selects RX2 yX2_copyFrom yX2_copyFrom, Cond.initialized RX2, Cond.code yX2_copyFrom cX2_copyFrom 2 none, Cond.fieldLink RX2 11 "LayeredCharters$Rules" "layers" "[I", Cond.fieldLink RX2 15 "LayeredCharters$Rules" "kinds" "[I", Cond.fieldLink RX2 18 "LayeredCharters$Rules" "crafts" "[I", Cond.fieldLink RX2 21 "LayeredCharters$Rules" "deeds" "[I", Cond.fieldLink RX2 24 "LayeredCharters$Rules" "seals" "[I", Cond.fieldLink RX2 27 "LayeredCharters$Rules" "pairs" "[I", Cond.fieldLink RX2 30 "LayeredCharters$Rules" "size" "I", Cond.static yX4_copyRow, Cond.initialized RX4, Cond.code yX4_copyRow cX4_copyRow 2 none, Cond.methodLink RX4 229 Lib.Math.min.name, Cond.static Lib.Math.min.name, Cond.initialized "java/lang/Math", Cond.code Lib.Math.min.name Lib.Math.min.code 2 (some .int), Cond.methodLink RX4 232 arraycopyName, Cond.native arraycopyName, Cond.static arraycopyName]
def wsX3_copyFrom_r2 : List Cond := [Cond.initialized "java/lang/System", Cond.methodLink RX3 27 yX0_copyFrom, Cond.instanceMethod yX0_copyFrom, Cond.selects RX0 yX0_copyFrom yX0_copyFrom, Cond.initialized RX0, Cond.code yX0_copyFrom cX0_copyFrom 2 none, Cond.fieldLink RX0 9 "LayeredCharters$Guild" "crafts" "[I", Cond.fieldLink RX0 15 "LayeredCharters$Guild" "ranks" "[I", Cond.fieldLink RX0 18 "LayeredCharters$Guild" "done" "[I", Cond.fieldLink RX0 21 "LayeredCharters$Guild" "refused" "[I", Cond.fieldLink RX0 24 "LayeredCharters$Guild" "refusals" "[I", Cond.fieldLink RX0 27 "LayeredCharters$Guild" "size" "I", Cond.fieldLink RX0 31 "LayeredCharters$Guild" "doneInAll" "I"]
def wsX3_copyFrom : List Cond := .code yX3_copyFrom cX3_copyFrom 2 none :: ((wsX3_copyFrom_r1 ++ wsX3_copyFrom_r2) ++ wsX30 ++ wsX20 ++ wsX00)
def wsX4_init_r1 : List Cond := [Cond.methodLink RX4 3 objectInit, Cond.instanceMethod objectInit, Cond.code objectInit ⟨#[0xb1]⟩ 1 none, Cond.classLink RX4 9 RX3, Cond.instantiable RX3 2, Cond.initialized RX3, Cond.fieldLink RX4 12 "LayeredCharters" "now" "LLayeredCharters$State;", Cond.classLink RX4 16 RX1, Cond.instantiable RX1 2, Cond.initialized RX1, Cond.fieldLink RX4 19 "LayeredCharters" "pad" "LLayeredCharters$Pad;", Cond.fieldLink RX4 23 "LayeredCharters" "slots" "[LLayeredCharters$State;", Cond.fieldLink RX4 27 "LayeredCharters" "history" "[LLayeredCharters$State;", Cond.fieldLink RX4 30 "LayeredCharters" "remembered" "I", Cond.classLink RX4 34 RX2, Cond.instantiable RX2 7, Cond.initialized RX2, Cond.fieldLink RX4 37 "LayeredCharters" "trial" "LLayeredCharters$Rules;", Cond.instanceMethod yX3_init, Cond.code yX3_init cX3_init 1 none, Cond.methodLink RX3 1 objectInit, Cond.classLink RX3 7 RX2, Cond.fieldLink RX3 10 "LayeredCharters$State" "rules" "LLayeredCharters$Rules;", Cond.classLink RX3 16 RX0]
def wsX4_init_r2 : List Cond := [Cond.instantiable RX0 7, Cond.initialized RX0, Cond.fieldLink RX3 19 "LayeredCharters$State" "guild" "LLayeredCharters$Guild;", Cond.instanceMethod yX2_init, Cond.code yX2_init cX2_init 1 none, Cond.methodLink RX2 3 objectInit, Cond.arrayClass .int, Cond.fieldLink RX2 11 "LayeredCharters$Rules" "layers" "[I", Cond.fieldLink RX2 15 "LayeredCharters$Rules" "kinds" "[I", Cond.fieldLink RX2 18 "LayeredCharters$Rules" "crafts" "[I", Cond.fieldLink RX2 21 "LayeredCharters$Rules" "deeds" "[I", Cond.fieldLink RX2 24 "LayeredCharters$Rules" "seals" "[I", Cond.fieldLink RX2 27 "LayeredCharters$Rules" "pairs" "[I", Cond.fieldLink RX2 30 "LayeredCharters$Rules" "size" "I", Cond.instanceMethod yX0_init, Cond.code yX0_init cX0_init 1 none, Cond.methodLink RX0 3 objectInit, Cond.fieldLink RX0 9 "LayeredCharters$Guild" "crafts" "[I", Cond.fieldLink RX0 15 "LayeredCharters$Guild" "ranks" "[I", Cond.fieldLink RX0 18 "LayeredCharters$Guild" "done" "[I", Cond.fieldLink RX0 21 "LayeredCharters$Guild" "refused" "[I", Cond.fieldLink RX0 24 "LayeredCharters$Guild" "refusals" "[I", Cond.fieldLink RX0 27 "LayeredCharters$Guild" "size" "I", Cond.fieldLink RX0 31 "LayeredCharters$Guild" "doneInAll" "I"]
def wsX4_init_r3 : List Cond := [Cond.instanceMethod yX1_init, Cond.code yX1_init cX1_init 1 none, Cond.methodLink RX1 3 objectInit, Cond.arrayClass .char, Cond.fieldLink RX1 9 "LayeredCharters$Pad" "signs" "[C", Cond.fieldLink RX1 15 "LayeredCharters$Pad" "length" "I"]
def wsX4_init : List Cond := .code yX4_init cX4_init 1 none :: ((wsX4_init_r1 ++ (wsX4_init_r2 ++ wsX4_init_r3)) ++ wsX30 ++ wsX40 ++ wsX10 ++ wsX20 ++ wsX00)
def wsX4_isLayer : List Cond := .code yX4_isLayer cX4_isLayer 1 (some .boolean) :: ([.methodLink RX4 45 yX4_isBetween, .static yX4_isBetween, .initialized RX4, .code yX4_isBetween cX4_isBetween 3 (some .boolean)])
def wsX4_isSeal : List Cond := .code yX4_isSeal cX4_isSeal 1 (some .boolean) :: ([.methodLink RX4 45 yX4_isBetween, .static yX4_isBetween, .initialized RX4, .code yX4_isBetween cX4_isBetween 3 (some .boolean)])
def wsX4_dropOldest : List Cond := .code yX4_dropOldest cX4_dropOldest 3 none :: ([.fieldLink RX4 27 "LayeredCharters" "history" "[LLayeredCharters$State;", .fieldLink RX4 30 "LayeredCharters" "remembered" "I"] ++ wsX40)
def wsX4_copyInto_r1 : List Cond := [Cond.classLink RX4 9 RX3, Cond.instantiable RX3 2, Cond.initialized RX3, Cond.fieldLink RX4 12 "LayeredCharters" "now" "LLayeredCharters$State;", Cond.instanceMethod yX3_init, Cond.code yX3_init cX3_init 1 none, Cond.methodLink RX3 1 objectInit, Cond.instanceMethod objectInit, Cond.code objectInit ⟨#[0xb1]⟩ 1 none, Cond.classLink RX3 7 RX2, Cond.instantiable RX2 7, Cond.initialized RX2, Cond.fieldLink RX3 10 "LayeredCharters$State" "rules" "LLayeredCharters$Rules;", Cond.classLink RX3 16 RX0, Cond.instantiable RX0 7, Cond.initialized RX0, Cond.fieldLink RX3 19 "LayeredCharters$State" "guild" "LLayeredCharters$Guild;", Cond.instanceMethod yX2_init, Cond.code yX2_init cX2_init 1 none, Cond.methodLink RX2 3 objectInit, Cond.arrayClass .int, Cond.fieldLink RX2 11 "LayeredCharters$Rules" "layers" "[I", Cond.fieldLink RX2 15 "LayeredCharters$Rules" "kinds" "[I", Cond.fieldLink RX2 18 "LayeredCharters$Rules" "crafts" "[I"]
def wsX4_copyInto_r2 : List Cond := [Cond.fieldLink RX2 21 "LayeredCharters$Rules" "deeds" "[I", Cond.fieldLink RX2 24 "LayeredCharters$Rules" "seals" "[I", Cond.fieldLink RX2 27 "LayeredCharters$Rules" "pairs" "[I", Cond.fieldLink RX2 30 "LayeredCharters$Rules" "size" "I", Cond.instanceMethod yX0_init, Cond.code yX0_init cX0_init 1 none, Cond.methodLink RX0 3 objectInit, Cond.fieldLink RX0 9 "LayeredCharters$Guild" "crafts" "[I", Cond.fieldLink RX0 15 "LayeredCharters$Guild" "ranks" "[I", Cond.fieldLink RX0 18 "LayeredCharters$Guild" "done" "[I", Cond.fieldLink RX0 21 "LayeredCharters$Guild" "refused" "[I", Cond.fieldLink RX0 24 "LayeredCharters$Guild" "refusals" "[I", Cond.fieldLink RX0 27 "LayeredCharters$Guild" "size" "I", Cond.fieldLink RX0 31 "LayeredCharters$Guild" "doneInAll" "I", Cond.methodLink RX4 208 yX3_copyFrom, Cond.instanceMethod yX3_copyFrom, Cond.selects RX3 yX3_copyFrom yX3_copyFrom, Cond.code yX3_copyFrom cX3_copyFrom 2 none, Cond.methodLink RX3 23 yX2_copyFrom, Cond.instanceMethod yX2_copyFrom, Cond.selects RX2 yX2_copyFrom yX2_copyFrom, Cond.code yX2_copyFrom cX2_copyFrom 2 none, Cond.static yX4_copyRow, Cond.initialized RX4]
def wsX4_copyInto_r3 : List Cond := [Cond.code yX4_copyRow cX4_copyRow 2 none, Cond.methodLink RX4 229 Lib.Math.min.name, Cond.static Lib.Math.min.name, Cond.initialized "java/lang/Math", Cond.code Lib.Math.min.name Lib.Math.min.code 2 (some .int), Cond.methodLink RX4 232 arraycopyName, Cond.native arraycopyName, Cond.static arraycopyName, Cond.initialized "java/lang/System", Cond.methodLink RX3 27 yX0_copyFrom, Cond.instanceMethod yX0_copyFrom, Cond.selects RX0 yX0_copyFrom yX0_copyFrom, Cond.code yX0_copyFrom cX0_copyFrom 2 none]
def wsX4_copyInto : List Cond := .code yX4_copyInto cX4_copyInto 3 (some (.object "LayeredCharters$State")) :: ((wsX4_copyInto_r1 ++ (wsX4_copyInto_r2 ++ wsX4_copyInto_r3)) ++ wsX30 ++ wsX40 ++ wsX20 ++ wsX00)
def wsX4_remember_r1 : List Cond := [Cond.fieldLink RX4 30 "LayeredCharters" "remembered" "I", Cond.fieldLink RX4 27 "LayeredCharters" "history" "[LLayeredCharters$State;", Cond.methodLink RX4 216 yX4_dropOldest, Cond.instanceMethod yX4_dropOldest, Cond.selects RX4 yX4_dropOldest yX4_dropOldest, Cond.initialized RX4, Cond.code yX4_dropOldest cX4_dropOldest 3 none, Cond.methodLink RX4 212 yX4_copyInto, Cond.instanceMethod yX4_copyInto, Cond.selects RX4 yX4_copyInto yX4_copyInto, Cond.code yX4_copyInto cX4_copyInto 3 (some (.object "LayeredCharters$State")), Cond.classLink RX4 9 RX3, Cond.instantiable RX3 2, Cond.initialized RX3, Cond.fieldLink RX4 12 "LayeredCharters" "now" "LLayeredCharters$State;", Cond.instanceMethod yX3_init, Cond.code yX3_init cX3_init 1 none, Cond.methodLink RX3 1 objectInit, Cond.instanceMethod objectInit, Cond.code objectInit ⟨#[0xb1]⟩ 1 none, Cond.classLink RX3 7 RX2, Cond.instantiable RX2 7, Cond.initialized RX2, Cond.fieldLink RX3 10 "LayeredCharters$State" "rules" "LLayeredCharters$Rules;"]
def wsX4_remember_r2 : List Cond := [Cond.classLink RX3 16 RX0, Cond.instantiable RX0 7, Cond.initialized RX0, Cond.fieldLink RX3 19 "LayeredCharters$State" "guild" "LLayeredCharters$Guild;", Cond.instanceMethod yX2_init, Cond.code yX2_init cX2_init 1 none, Cond.methodLink RX2 3 objectInit, Cond.arrayClass .int, Cond.fieldLink RX2 11 "LayeredCharters$Rules" "layers" "[I", Cond.fieldLink RX2 15 "LayeredCharters$Rules" "kinds" "[I", Cond.fieldLink RX2 18 "LayeredCharters$Rules" "crafts" "[I", Cond.fieldLink RX2 21 "LayeredCharters$Rules" "deeds" "[I", Cond.fieldLink RX2 24 "LayeredCharters$Rules" "seals" "[I", Cond.fieldLink RX2 27 "LayeredCharters$Rules" "pairs" "[I", Cond.fieldLink RX2 30 "LayeredCharters$Rules" "size" "I", Cond.instanceMethod yX0_init, Cond.code yX0_init cX0_init 1 none, Cond.methodLink RX0 3 objectInit, Cond.fieldLink RX0 9 "LayeredCharters$Guild" "crafts" "[I", Cond.fieldLink RX0 15 "LayeredCharters$Guild" "ranks" "[I", Cond.fieldLink RX0 18 "LayeredCharters$Guild" "done" "[I", Cond.fieldLink RX0 21 "LayeredCharters$Guild" "refused" "[I", Cond.fieldLink RX0 24 "LayeredCharters$Guild" "refusals" "[I", Cond.fieldLink RX0 27 "LayeredCharters$Guild" "size" "I"]
def wsX4_remember_r3 : List Cond := [Cond.fieldLink RX0 31 "LayeredCharters$Guild" "doneInAll" "I", Cond.methodLink RX4 208 yX3_copyFrom, Cond.instanceMethod yX3_copyFrom, Cond.selects RX3 yX3_copyFrom yX3_copyFrom, Cond.code yX3_copyFrom cX3_copyFrom 2 none, Cond.methodLink RX3 23 yX2_copyFrom, Cond.instanceMethod yX2_copyFrom, Cond.selects RX2 yX2_copyFrom yX2_copyFrom, Cond.code yX2_copyFrom cX2_copyFrom 2 none, Cond.static yX4_copyRow, Cond.code yX4_copyRow cX4_copyRow 2 none, Cond.methodLink RX4 229 Lib.Math.min.name, Cond.static Lib.Math.min.name, Cond.initialized "java/lang/Math", Cond.code Lib.Math.min.name Lib.Math.min.code 2 (some .int), Cond.methodLink RX4 232 arraycopyName, Cond.native arraycopyName, Cond.static arraycopyName, Cond.initialized "java/lang/System", Cond.methodLink RX3 27 yX0_copyFrom, Cond.instanceMethod yX0_copyFrom, Cond.selects RX0 yX0_copyFrom yX0_copyFrom, Cond.code yX0_copyFrom cX0_copyFrom 2 none]
def wsX4_remember : List Cond := .code yX4_remember cX4_remember 1 none :: ((wsX4_remember_r1 ++ (wsX4_remember_r2 ++ wsX4_remember_r3)) ++ wsX40 ++ wsX30 ++ wsX20 ++ wsX00)
def wsX4_add_r1 : List Cond := [Cond.fieldLink RX4 12 "LayeredCharters" "now" "LLayeredCharters$State;", Cond.fieldLink RX4 52 "LayeredCharters$State" "rules" "LLayeredCharters$Rules;", Cond.fieldLink RX4 55 "LayeredCharters$Rules" "size" "I", Cond.methodLink RX4 41 yX4_isLayer, Cond.static yX4_isLayer, Cond.initialized RX4, Cond.code yX4_isLayer cX4_isLayer 1 (some .boolean), Cond.methodLink RX4 45 yX4_isBetween, Cond.static yX4_isBetween, Cond.code yX4_isBetween cX4_isBetween 3 (some .boolean), Cond.methodLink RX4 49 yX4_isSeal, Cond.static yX4_isSeal, Cond.code yX4_isSeal cX4_isSeal 1 (some .boolean), Cond.methodLink RX4 58 yX4_remember, Cond.instanceMethod yX4_remember, Cond.selects RX4 yX4_remember yX4_remember, Cond.code yX4_remember cX4_remember 1 none, Cond.fieldLink RX4 30 "LayeredCharters" "remembered" "I", Cond.fieldLink RX4 27 "LayeredCharters" "history" "[LLayeredCharters$State;", Cond.methodLink RX4 216 yX4_dropOldest, Cond.instanceMethod yX4_dropOldest, Cond.selects RX4 yX4_dropOldest yX4_dropOldest, Cond.code yX4_dropOldest cX4_dropOldest 3 none, Cond.methodLink RX4 212 yX4_copyInto]
def wsX4_add_r2 : List Cond := [Cond.instanceMethod yX4_copyInto, Cond.selects RX4 yX4_copyInto yX4_copyInto, Cond.code yX4_copyInto cX4_copyInto 3 (some (.object "LayeredCharters$State")), Cond.classLink RX4 9 RX3, Cond.instantiable RX3 2, Cond.initialized RX3, Cond.instanceMethod yX3_init, Cond.code yX3_init cX3_init 1 none, Cond.methodLink RX3 1 objectInit, Cond.instanceMethod objectInit, Cond.code objectInit ⟨#[0xb1]⟩ 1 none, Cond.classLink RX3 7 RX2, Cond.instantiable RX2 7, Cond.initialized RX2, Cond.fieldLink RX3 10 "LayeredCharters$State" "rules" "LLayeredCharters$Rules;", Cond.classLink RX3 16 RX0, Cond.instantiable RX0 7, Cond.initialized RX0, Cond.fieldLink RX3 19 "LayeredCharters$State" "guild" "LLayeredCharters$Guild;", Cond.instanceMethod yX2_init, Cond.code yX2_init cX2_init 1 none, Cond.methodLink RX2 3 objectInit, Cond.arrayClass .int, Cond.fieldLink RX2 11 "LayeredCharters$Rules" "layers" "[I"]
def wsX4_add_r3 : List Cond := [Cond.fieldLink RX2 15 "LayeredCharters$Rules" "kinds" "[I", Cond.fieldLink RX2 18 "LayeredCharters$Rules" "crafts" "[I", Cond.fieldLink RX2 21 "LayeredCharters$Rules" "deeds" "[I", Cond.fieldLink RX2 24 "LayeredCharters$Rules" "seals" "[I", Cond.fieldLink RX2 27 "LayeredCharters$Rules" "pairs" "[I", Cond.fieldLink RX2 30 "LayeredCharters$Rules" "size" "I", Cond.instanceMethod yX0_init, Cond.code yX0_init cX0_init 1 none, Cond.methodLink RX0 3 objectInit, Cond.fieldLink RX0 9 "LayeredCharters$Guild" "crafts" "[I", Cond.fieldLink RX0 15 "LayeredCharters$Guild" "ranks" "[I", Cond.fieldLink RX0 18 "LayeredCharters$Guild" "done" "[I", Cond.fieldLink RX0 21 "LayeredCharters$Guild" "refused" "[I", Cond.fieldLink RX0 24 "LayeredCharters$Guild" "refusals" "[I", Cond.fieldLink RX0 27 "LayeredCharters$Guild" "size" "I", Cond.fieldLink RX0 31 "LayeredCharters$Guild" "doneInAll" "I", Cond.methodLink RX4 208 yX3_copyFrom, Cond.instanceMethod yX3_copyFrom, Cond.selects RX3 yX3_copyFrom yX3_copyFrom, Cond.code yX3_copyFrom cX3_copyFrom 2 none, Cond.methodLink RX3 23 yX2_copyFrom, Cond.instanceMethod yX2_copyFrom, Cond.selects RX2 yX2_copyFrom yX2_copyFrom, Cond.code yX2_copyFrom cX2_copyFrom 2 none]
def wsX4_add_r4 : List Cond := [Cond.static yX4_copyRow, Cond.code yX4_copyRow cX4_copyRow 2 none, Cond.methodLink RX4 229 Lib.Math.min.name, Cond.static Lib.Math.min.name, Cond.initialized "java/lang/Math", Cond.code Lib.Math.min.name Lib.Math.min.code 2 (some .int), Cond.methodLink RX4 232 arraycopyName, Cond.native arraycopyName, Cond.static arraycopyName, Cond.initialized "java/lang/System", Cond.methodLink RX3 27 yX0_copyFrom, Cond.instanceMethod yX0_copyFrom, Cond.selects RX0 yX0_copyFrom yX0_copyFrom, Cond.code yX0_copyFrom cX0_copyFrom 2 none, Cond.methodLink RX4 61 yX2_append, Cond.instanceMethod yX2_append, Cond.selects RX2 yX2_append yX2_append, Cond.code yX2_append cX2_append 6 none, Cond.static yX4_pairsOf, Cond.code yX4_pairsOf cX4_pairsOf 5 (some .int)]
def wsX4_add : List Cond := .code yX4_add cX4_add 6 (some .int) :: ((wsX4_add_r1 ++ (wsX4_add_r2 ++ (wsX4_add_r3 ++ wsX4_add_r4))) ++ wsX40 ++ wsX30 ++ wsX20 ++ wsX00)
def wsX4_strike_r1 : List Cond := [Cond.fieldLink RX4 12 "LayeredCharters" "now" "LLayeredCharters$State;", Cond.fieldLink RX4 52 "LayeredCharters$State" "rules" "LLayeredCharters$Rules;", Cond.fieldLink RX4 55 "LayeredCharters$Rules" "size" "I", Cond.methodLink RX4 65 yX2_has, Cond.instanceMethod yX2_has, Cond.selects RX2 yX2_has yX2_has, Cond.initialized RX2, Cond.code yX2_has cX2_has 2 (some .boolean), Cond.fieldLink RX2 30 "LayeredCharters$Rules" "size" "I", Cond.methodLink RX4 58 yX4_remember, Cond.instanceMethod yX4_remember, Cond.selects RX4 yX4_remember yX4_remember, Cond.initialized RX4, Cond.code yX4_remember cX4_remember 1 none, Cond.fieldLink RX4 30 "LayeredCharters" "remembered" "I", Cond.fieldLink RX4 27 "LayeredCharters" "history" "[LLayeredCharters$State;", Cond.methodLink RX4 216 yX4_dropOldest, Cond.instanceMethod yX4_dropOldest, Cond.selects RX4 yX4_dropOldest yX4_dropOldest, Cond.code yX4_dropOldest cX4_dropOldest 3 none, Cond.methodLink RX4 212 yX4_copyInto, Cond.instanceMethod yX4_copyInto, Cond.selects RX4 yX4_copyInto yX4_copyInto, Cond.code yX4_copyInto cX4_copyInto 3 (some (.object "LayeredCharters$State"))]
def wsX4_strike_r2 : List Cond := [Cond.classLink RX4 9 RX3, Cond.instantiable RX3 2, Cond.initialized RX3, Cond.instanceMethod yX3_init, Cond.code yX3_init cX3_init 1 none, Cond.methodLink RX3 1 objectInit, Cond.instanceMethod objectInit, Cond.code objectInit ⟨#[0xb1]⟩ 1 none, Cond.classLink RX3 7 RX2, Cond.instantiable RX2 7, Cond.fieldLink RX3 10 "LayeredCharters$State" "rules" "LLayeredCharters$Rules;", Cond.classLink RX3 16 RX0, Cond.instantiable RX0 7, Cond.initialized RX0, Cond.fieldLink RX3 19 "LayeredCharters$State" "guild" "LLayeredCharters$Guild;", Cond.instanceMethod yX2_init, Cond.code yX2_init cX2_init 1 none, Cond.methodLink RX2 3 objectInit, Cond.arrayClass .int, Cond.fieldLink RX2 11 "LayeredCharters$Rules" "layers" "[I", Cond.fieldLink RX2 15 "LayeredCharters$Rules" "kinds" "[I", Cond.fieldLink RX2 18 "LayeredCharters$Rules" "crafts" "[I", Cond.fieldLink RX2 21 "LayeredCharters$Rules" "deeds" "[I", Cond.fieldLink RX2 24 "LayeredCharters$Rules" "seals" "[I"]
def wsX4_strike_r3 : List Cond := [Cond.fieldLink RX2 27 "LayeredCharters$Rules" "pairs" "[I", Cond.instanceMethod yX0_init, Cond.code yX0_init cX0_init 1 none, Cond.methodLink RX0 3 objectInit, Cond.fieldLink RX0 9 "LayeredCharters$Guild" "crafts" "[I", Cond.fieldLink RX0 15 "LayeredCharters$Guild" "ranks" "[I", Cond.fieldLink RX0 18 "LayeredCharters$Guild" "done" "[I", Cond.fieldLink RX0 21 "LayeredCharters$Guild" "refused" "[I", Cond.fieldLink RX0 24 "LayeredCharters$Guild" "refusals" "[I", Cond.fieldLink RX0 27 "LayeredCharters$Guild" "size" "I", Cond.fieldLink RX0 31 "LayeredCharters$Guild" "doneInAll" "I", Cond.methodLink RX4 208 yX3_copyFrom, Cond.instanceMethod yX3_copyFrom, Cond.selects RX3 yX3_copyFrom yX3_copyFrom, Cond.code yX3_copyFrom cX3_copyFrom 2 none, Cond.methodLink RX3 23 yX2_copyFrom, Cond.instanceMethod yX2_copyFrom, Cond.selects RX2 yX2_copyFrom yX2_copyFrom, Cond.code yX2_copyFrom cX2_copyFrom 2 none, Cond.static yX4_copyRow, Cond.code yX4_copyRow cX4_copyRow 2 none, Cond.methodLink RX4 229 Lib.Math.min.name, Cond.static Lib.Math.min.name, Cond.initialized "java/lang/Math"]
def wsX4_strike_r4 : List Cond := [Cond.code Lib.Math.min.name Lib.Math.min.code 2 (some .int), Cond.methodLink RX4 232 arraycopyName, Cond.native arraycopyName, Cond.static arraycopyName, Cond.initialized "java/lang/System", Cond.methodLink RX3 27 yX0_copyFrom, Cond.instanceMethod yX0_copyFrom, Cond.selects RX0 yX0_copyFrom yX0_copyFrom, Cond.code yX0_copyFrom cX0_copyFrom 2 none, Cond.methodLink RX4 68 yX2_remove, Cond.instanceMethod yX2_remove, Cond.selects RX2 yX2_remove yX2_remove, Cond.code yX2_remove cX2_remove 2 none, Cond.methodLink RX2 42 yX2_has, Cond.static yX4_closeGap, Cond.code yX4_closeGap cX4_closeGap 3 none, Cond.methodLink RX4 224 Lib.Math.max.name, Cond.static Lib.Math.max.name, Cond.code Lib.Math.max.name Lib.Math.max.code 2 (some .int)]
def wsX4_strike : List Cond := .code yX4_strike cX4_strike 2 (some .int) :: ((wsX4_strike_r1 ++ (wsX4_strike_r2 ++ (wsX4_strike_r3 ++ wsX4_strike_r4))) ++ wsX40 ++ wsX30 ++ wsX20 ++ wsX00)
def wsX4_seal_r1 : List Cond := [Cond.fieldLink RX4 12 "LayeredCharters" "now" "LLayeredCharters$State;", Cond.fieldLink RX4 52 "LayeredCharters$State" "rules" "LLayeredCharters$Rules;", Cond.fieldLink RX4 72 "LayeredCharters$Rules" "seals" "[I", Cond.methodLink RX4 65 yX2_has, Cond.instanceMethod yX2_has, Cond.selects RX2 yX2_has yX2_has, Cond.initialized RX2, Cond.code yX2_has cX2_has 2 (some .boolean), Cond.fieldLink RX2 30 "LayeredCharters$Rules" "size" "I", Cond.methodLink RX4 49 yX4_isSeal, Cond.static yX4_isSeal, Cond.initialized RX4, Cond.code yX4_isSeal cX4_isSeal 1 (some .boolean), Cond.methodLink RX4 45 yX4_isBetween, Cond.static yX4_isBetween, Cond.code yX4_isBetween cX4_isBetween 3 (some .boolean), Cond.methodLink RX4 58 yX4_remember, Cond.instanceMethod yX4_remember, Cond.selects RX4 yX4_remember yX4_remember, Cond.code yX4_remember cX4_remember 1 none, Cond.fieldLink RX4 30 "LayeredCharters" "remembered" "I", Cond.fieldLink RX4 27 "LayeredCharters" "history" "[LLayeredCharters$State;", Cond.methodLink RX4 216 yX4_dropOldest, Cond.instanceMethod yX4_dropOldest]
def wsX4_seal_r2 : List Cond := [Cond.selects RX4 yX4_dropOldest yX4_dropOldest, Cond.code yX4_dropOldest cX4_dropOldest 3 none, Cond.methodLink RX4 212 yX4_copyInto, Cond.instanceMethod yX4_copyInto, Cond.selects RX4 yX4_copyInto yX4_copyInto, Cond.code yX4_copyInto cX4_copyInto 3 (some (.object "LayeredCharters$State")), Cond.classLink RX4 9 RX3, Cond.instantiable RX3 2, Cond.initialized RX3, Cond.instanceMethod yX3_init, Cond.code yX3_init cX3_init 1 none, Cond.methodLink RX3 1 objectInit, Cond.instanceMethod objectInit, Cond.code objectInit ⟨#[0xb1]⟩ 1 none, Cond.classLink RX3 7 RX2, Cond.instantiable RX2 7, Cond.fieldLink RX3 10 "LayeredCharters$State" "rules" "LLayeredCharters$Rules;", Cond.classLink RX3 16 RX0, Cond.instantiable RX0 7, Cond.initialized RX0, Cond.fieldLink RX3 19 "LayeredCharters$State" "guild" "LLayeredCharters$Guild;", Cond.instanceMethod yX2_init, Cond.code yX2_init cX2_init 1 none, Cond.methodLink RX2 3 objectInit]
def wsX4_seal_r3 : List Cond := [Cond.arrayClass .int, Cond.fieldLink RX2 11 "LayeredCharters$Rules" "layers" "[I", Cond.fieldLink RX2 15 "LayeredCharters$Rules" "kinds" "[I", Cond.fieldLink RX2 18 "LayeredCharters$Rules" "crafts" "[I", Cond.fieldLink RX2 21 "LayeredCharters$Rules" "deeds" "[I", Cond.fieldLink RX2 24 "LayeredCharters$Rules" "seals" "[I", Cond.fieldLink RX2 27 "LayeredCharters$Rules" "pairs" "[I", Cond.instanceMethod yX0_init, Cond.code yX0_init cX0_init 1 none, Cond.methodLink RX0 3 objectInit, Cond.fieldLink RX0 9 "LayeredCharters$Guild" "crafts" "[I", Cond.fieldLink RX0 15 "LayeredCharters$Guild" "ranks" "[I", Cond.fieldLink RX0 18 "LayeredCharters$Guild" "done" "[I", Cond.fieldLink RX0 21 "LayeredCharters$Guild" "refused" "[I", Cond.fieldLink RX0 24 "LayeredCharters$Guild" "refusals" "[I", Cond.fieldLink RX0 27 "LayeredCharters$Guild" "size" "I", Cond.fieldLink RX0 31 "LayeredCharters$Guild" "doneInAll" "I", Cond.methodLink RX4 208 yX3_copyFrom, Cond.instanceMethod yX3_copyFrom, Cond.selects RX3 yX3_copyFrom yX3_copyFrom, Cond.code yX3_copyFrom cX3_copyFrom 2 none, Cond.methodLink RX3 23 yX2_copyFrom, Cond.instanceMethod yX2_copyFrom, Cond.selects RX2 yX2_copyFrom yX2_copyFrom]
def wsX4_seal_r4 : List Cond := [Cond.code yX2_copyFrom cX2_copyFrom 2 none, Cond.static yX4_copyRow, Cond.code yX4_copyRow cX4_copyRow 2 none, Cond.methodLink RX4 229 Lib.Math.min.name, Cond.static Lib.Math.min.name, Cond.initialized "java/lang/Math", Cond.code Lib.Math.min.name Lib.Math.min.code 2 (some .int), Cond.methodLink RX4 232 arraycopyName, Cond.native arraycopyName, Cond.static arraycopyName, Cond.initialized "java/lang/System", Cond.methodLink RX3 27 yX0_copyFrom, Cond.instanceMethod yX0_copyFrom, Cond.selects RX0 yX0_copyFrom yX0_copyFrom, Cond.code yX0_copyFrom cX0_copyFrom 2 none]
def wsX4_seal : List Cond := .code yX4_seal cX4_seal 4 (some .int) :: ((wsX4_seal_r1 ++ (wsX4_seal_r2 ++ (wsX4_seal_r3 ++ wsX4_seal_r4))) ++ wsX40 ++ wsX30 ++ wsX20 ++ wsX00)
def wsX4_move_r1 : List Cond := [Cond.fieldLink RX4 12 "LayeredCharters" "now" "LLayeredCharters$State;", Cond.fieldLink RX4 52 "LayeredCharters$State" "rules" "LLayeredCharters$Rules;", Cond.fieldLink RX4 76 "LayeredCharters$Rules" "kinds" "[I", Cond.fieldLink RX4 79 "LayeredCharters$Rules" "layers" "[I", Cond.methodLink RX4 65 yX2_has, Cond.instanceMethod yX2_has, Cond.selects RX2 yX2_has yX2_has, Cond.initialized RX2, Cond.code yX2_has cX2_has 2 (some .boolean), Cond.fieldLink RX2 30 "LayeredCharters$Rules" "size" "I", Cond.methodLink RX4 41 yX4_isLayer, Cond.static yX4_isLayer, Cond.initialized RX4, Cond.code yX4_isLayer cX4_isLayer 1 (some .boolean), Cond.methodLink RX4 45 yX4_isBetween, Cond.static yX4_isBetween, Cond.code yX4_isBetween cX4_isBetween 3 (some .boolean), Cond.methodLink RX4 58 yX4_remember, Cond.instanceMethod yX4_remember, Cond.selects RX4 yX4_remember yX4_remember, Cond.code yX4_remember cX4_remember 1 none, Cond.fieldLink RX4 30 "LayeredCharters" "remembered" "I", Cond.fieldLink RX4 27 "LayeredCharters" "history" "[LLayeredCharters$State;", Cond.methodLink RX4 216 yX4_dropOldest]
def wsX4_move_r2 : List Cond := [Cond.instanceMethod yX4_dropOldest, Cond.selects RX4 yX4_dropOldest yX4_dropOldest, Cond.code yX4_dropOldest cX4_dropOldest 3 none, Cond.methodLink RX4 212 yX4_copyInto, Cond.instanceMethod yX4_copyInto, Cond.selects RX4 yX4_copyInto yX4_copyInto, Cond.code yX4_copyInto cX4_copyInto 3 (some (.object "LayeredCharters$State")), Cond.classLink RX4 9 RX3, Cond.instantiable RX3 2, Cond.initialized RX3, Cond.instanceMethod yX3_init, Cond.code yX3_init cX3_init 1 none, Cond.methodLink RX3 1 objectInit, Cond.instanceMethod objectInit, Cond.code objectInit ⟨#[0xb1]⟩ 1 none, Cond.classLink RX3 7 RX2, Cond.instantiable RX2 7, Cond.fieldLink RX3 10 "LayeredCharters$State" "rules" "LLayeredCharters$Rules;", Cond.classLink RX3 16 RX0, Cond.instantiable RX0 7, Cond.initialized RX0, Cond.fieldLink RX3 19 "LayeredCharters$State" "guild" "LLayeredCharters$Guild;", Cond.instanceMethod yX2_init, Cond.code yX2_init cX2_init 1 none]
def wsX4_move_r3 : List Cond := [Cond.methodLink RX2 3 objectInit, Cond.arrayClass .int, Cond.fieldLink RX2 11 "LayeredCharters$Rules" "layers" "[I", Cond.fieldLink RX2 15 "LayeredCharters$Rules" "kinds" "[I", Cond.fieldLink RX2 18 "LayeredCharters$Rules" "crafts" "[I", Cond.fieldLink RX2 21 "LayeredCharters$Rules" "deeds" "[I", Cond.fieldLink RX2 24 "LayeredCharters$Rules" "seals" "[I", Cond.fieldLink RX2 27 "LayeredCharters$Rules" "pairs" "[I", Cond.instanceMethod yX0_init, Cond.code yX0_init cX0_init 1 none, Cond.methodLink RX0 3 objectInit, Cond.fieldLink RX0 9 "LayeredCharters$Guild" "crafts" "[I", Cond.fieldLink RX0 15 "LayeredCharters$Guild" "ranks" "[I", Cond.fieldLink RX0 18 "LayeredCharters$Guild" "done" "[I", Cond.fieldLink RX0 21 "LayeredCharters$Guild" "refused" "[I", Cond.fieldLink RX0 24 "LayeredCharters$Guild" "refusals" "[I", Cond.fieldLink RX0 27 "LayeredCharters$Guild" "size" "I", Cond.fieldLink RX0 31 "LayeredCharters$Guild" "doneInAll" "I", Cond.methodLink RX4 208 yX3_copyFrom, Cond.instanceMethod yX3_copyFrom, Cond.selects RX3 yX3_copyFrom yX3_copyFrom, Cond.code yX3_copyFrom cX3_copyFrom 2 none, Cond.methodLink RX3 23 yX2_copyFrom, Cond.instanceMethod yX2_copyFrom]
def wsX4_move_r4 : List Cond := [Cond.selects RX2 yX2_copyFrom yX2_copyFrom, Cond.code yX2_copyFrom cX2_copyFrom 2 none, Cond.static yX4_copyRow, Cond.code yX4_copyRow cX4_copyRow 2 none, Cond.methodLink RX4 229 Lib.Math.min.name, Cond.static Lib.Math.min.name, Cond.initialized "java/lang/Math", Cond.code Lib.Math.min.name Lib.Math.min.code 2 (some .int), Cond.methodLink RX4 232 arraycopyName, Cond.native arraycopyName, Cond.static arraycopyName, Cond.initialized "java/lang/System", Cond.methodLink RX3 27 yX0_copyFrom, Cond.instanceMethod yX0_copyFrom, Cond.selects RX0 yX0_copyFrom yX0_copyFrom, Cond.code yX0_copyFrom cX0_copyFrom 2 none]
def wsX4_move : List Cond := .code yX4_move cX4_move 4 (some .int) :: ((wsX4_move_r1 ++ (wsX4_move_r2 ++ (wsX4_move_r3 ++ wsX4_move_r4))) ++ wsX40 ++ wsX30 ++ wsX20 ++ wsX00)
def wsX4_triplesWithout_r1 : List Cond := [Cond.fieldLink RX4 37 "LayeredCharters" "trial" "LLayeredCharters$Rules;", Cond.fieldLink RX4 12 "LayeredCharters" "now" "LLayeredCharters$State;", Cond.fieldLink RX4 52 "LayeredCharters$State" "rules" "LLayeredCharters$Rules;", Cond.methodLink RX4 219 yX2_copyFrom, Cond.instanceMethod yX2_copyFrom, Cond.selects RX2 yX2_copyFrom yX2_copyFrom, Cond.initialized RX2, Cond.code yX2_copyFrom cX2_copyFrom 2 none, Cond.fieldLink RX2 11 "LayeredCharters$Rules" "layers" "[I", Cond.fieldLink RX2 15 "LayeredCharters$Rules" "kinds" "[I", Cond.fieldLink RX2 18 "LayeredCharters$Rules" "crafts" "[I", Cond.fieldLink RX2 21 "LayeredCharters$Rules" "deeds" "[I", Cond.fieldLink RX2 24 "LayeredCharters$Rules" "seals" "[I", Cond.fieldLink RX2 27 "LayeredCharters$Rules" "pairs" "[I", Cond.fieldLink RX2 30 "LayeredCharters$Rules" "size" "I", Cond.static yX4_copyRow, Cond.initialized RX4, Cond.code yX4_copyRow cX4_copyRow 2 none, Cond.methodLink RX4 229 Lib.Math.min.name, Cond.static Lib.Math.min.name, Cond.initialized "java/lang/Math", Cond.code Lib.Math.min.name Lib.Math.min.code 2 (some .int), Cond.methodLink RX4 232 arraycopyName, Cond.native arraycopyName]
def wsX4_triplesWithout_r2 : List Cond := [Cond.static arraycopyName, Cond.initialized "java/lang/System", Cond.methodLink RX4 68 yX2_remove, Cond.instanceMethod yX2_remove, Cond.selects RX2 yX2_remove yX2_remove, Cond.code yX2_remove cX2_remove 2 none, Cond.methodLink RX2 42 yX2_has, Cond.instanceMethod yX2_has, Cond.selects RX2 yX2_has yX2_has, Cond.code yX2_has cX2_has 2 (some .boolean), Cond.static yX4_closeGap, Cond.code yX4_closeGap cX4_closeGap 3 none, Cond.methodLink RX4 224 Lib.Math.max.name, Cond.static Lib.Math.max.name, Cond.code Lib.Math.max.name Lib.Math.max.code 2 (some .int), Cond.methodLink RX4 146 yX2_triples, Cond.instanceMethod yX2_triples, Cond.selects RX2 yX2_triples yX2_triples, Cond.code yX2_triples cX2_triples 4 (some .int), Cond.methodLink RX2 58 yX2_permittedPairs, Cond.instanceMethod yX2_permittedPairs, Cond.selects RX2 yX2_permittedPairs yX2_permittedPairs, Cond.code yX2_permittedPairs cX2_permittedPairs 3 (some .int), Cond.methodLink RX2 77 yJ6_bitCount_0f7a4]
def wsX4_triplesWithout_r3 : List Cond := [Cond.static yJ6_bitCount_0f7a4, Cond.initialized RJ6, Cond.code yJ6_bitCount_0f7a4 cJ6_bitCount_0f7a4 1 (some .int), Cond.constant RJ6 265 (1431655765), Cond.constant RJ6 266 (858993459), Cond.constant RJ6 267 (252645135), Cond.methodLink RX2 74 yX2_heldPairsOfSeal, Cond.instanceMethod yX2_heldPairsOfSeal, Cond.selects RX2 yX2_heldPairsOfSeal yX2_heldPairsOfSeal, Cond.code yX2_heldPairsOfSeal cX2_heldPairsOfSeal 4 (some .int), Cond.methodLink RX2 62 yX2_heldPairs, Cond.instanceMethod yX2_heldPairs, Cond.selects RX2 yX2_heldPairs yX2_heldPairs, Cond.code yX2_heldPairs cX2_heldPairs 4 (some .int), Cond.methodLink RX2 82 yX2_lifts, Cond.instanceMethod yX2_lifts, Cond.selects RX2 yX2_lifts yX2_lifts, Cond.code yX2_lifts cX2_lifts 3 (some .boolean)]
def wsX4_triplesWithout : List Cond := .code yX4_triplesWithout cX4_triplesWithout 2 (some .int) :: ((wsX4_triplesWithout_r1 ++ (wsX4_triplesWithout_r2 ++ wsX4_triplesWithout_r3)) ++ wsX40 ++ wsX30 ++ wsX20)
def wsX4_isIdle_r1 : List Cond := [Cond.methodLink RX4 195 yX4_triplesWithout, Cond.instanceMethod yX4_triplesWithout, Cond.selects RX4 yX4_triplesWithout yX4_triplesWithout, Cond.initialized RX4, Cond.code yX4_triplesWithout cX4_triplesWithout 2 (some .int), Cond.fieldLink RX4 37 "LayeredCharters" "trial" "LLayeredCharters$Rules;", Cond.fieldLink RX4 12 "LayeredCharters" "now" "LLayeredCharters$State;", Cond.fieldLink RX4 52 "LayeredCharters$State" "rules" "LLayeredCharters$Rules;", Cond.methodLink RX4 219 yX2_copyFrom, Cond.instanceMethod yX2_copyFrom, Cond.selects RX2 yX2_copyFrom yX2_copyFrom, Cond.initialized RX2, Cond.code yX2_copyFrom cX2_copyFrom 2 none, Cond.fieldLink RX2 11 "LayeredCharters$Rules" "layers" "[I", Cond.fieldLink RX2 15 "LayeredCharters$Rules" "kinds" "[I", Cond.fieldLink RX2 18 "LayeredCharters$Rules" "crafts" "[I", Cond.fieldLink RX2 21 "LayeredCharters$Rules" "deeds" "[I", Cond.fieldLink RX2 24 "LayeredCharters$Rules" "seals" "[I", Cond.fieldLink RX2 27 "LayeredCharters$Rules" "pairs" "[I", Cond.fieldLink RX2 30 "LayeredCharters$Rules" "size" "I", Cond.static yX4_copyRow, Cond.code yX4_copyRow cX4_copyRow 2 none, Cond.methodLink RX4 229 Lib.Math.min.name, Cond.static Lib.Math.min.name]
def wsX4_isIdle_r2 : List Cond := [Cond.initialized "java/lang/Math", Cond.code Lib.Math.min.name Lib.Math.min.code 2 (some .int), Cond.methodLink RX4 232 arraycopyName, Cond.native arraycopyName, Cond.static arraycopyName, Cond.initialized "java/lang/System", Cond.methodLink RX4 68 yX2_remove, Cond.instanceMethod yX2_remove, Cond.selects RX2 yX2_remove yX2_remove, Cond.code yX2_remove cX2_remove 2 none, Cond.methodLink RX2 42 yX2_has, Cond.instanceMethod yX2_has, Cond.selects RX2 yX2_has yX2_has, Cond.code yX2_has cX2_has 2 (some .boolean), Cond.static yX4_closeGap, Cond.code yX4_closeGap cX4_closeGap 3 none, Cond.methodLink RX4 224 Lib.Math.max.name, Cond.static Lib.Math.max.name, Cond.code Lib.Math.max.name Lib.Math.max.code 2 (some .int), Cond.methodLink RX4 146 yX2_triples, Cond.instanceMethod yX2_triples, Cond.selects RX2 yX2_triples yX2_triples, Cond.code yX2_triples cX2_triples 4 (some .int), Cond.methodLink RX2 58 yX2_permittedPairs]
def wsX4_isIdle_r3 : List Cond := [Cond.instanceMethod yX2_permittedPairs, Cond.selects RX2 yX2_permittedPairs yX2_permittedPairs, Cond.code yX2_permittedPairs cX2_permittedPairs 3 (some .int), Cond.methodLink RX2 77 yJ6_bitCount_0f7a4, Cond.static yJ6_bitCount_0f7a4, Cond.initialized RJ6, Cond.code yJ6_bitCount_0f7a4 cJ6_bitCount_0f7a4 1 (some .int), Cond.constant RJ6 265 (1431655765), Cond.constant RJ6 266 (858993459), Cond.constant RJ6 267 (252645135), Cond.methodLink RX2 74 yX2_heldPairsOfSeal, Cond.instanceMethod yX2_heldPairsOfSeal, Cond.selects RX2 yX2_heldPairsOfSeal yX2_heldPairsOfSeal, Cond.code yX2_heldPairsOfSeal cX2_heldPairsOfSeal 4 (some .int), Cond.methodLink RX2 62 yX2_heldPairs, Cond.instanceMethod yX2_heldPairs, Cond.selects RX2 yX2_heldPairs yX2_heldPairs, Cond.code yX2_heldPairs cX2_heldPairs 4 (some .int), Cond.methodLink RX2 82 yX2_lifts, Cond.instanceMethod yX2_lifts, Cond.selects RX2 yX2_lifts yX2_lifts, Cond.code yX2_lifts cX2_lifts 3 (some .boolean)]
def wsX4_isIdle : List Cond := .code yX4_isIdle cX4_isIdle 3 (some .boolean) :: ((wsX4_isIdle_r1 ++ (wsX4_isIdle_r2 ++ wsX4_isIdle_r3)) ++ wsX40 ++ wsX30 ++ wsX20)
def wsX4_firstIdle_r1 : List Cond := [Cond.fieldLink RX4 12 "LayeredCharters" "now" "LLayeredCharters$State;", Cond.fieldLink RX4 52 "LayeredCharters$State" "rules" "LLayeredCharters$Rules;", Cond.fieldLink RX4 55 "LayeredCharters$Rules" "size" "I", Cond.methodLink RX4 146 yX2_triples, Cond.instanceMethod yX2_triples, Cond.selects RX2 yX2_triples yX2_triples, Cond.initialized RX2, Cond.code yX2_triples cX2_triples 4 (some .int), Cond.methodLink RX2 58 yX2_permittedPairs, Cond.instanceMethod yX2_permittedPairs, Cond.selects RX2 yX2_permittedPairs yX2_permittedPairs, Cond.code yX2_permittedPairs cX2_permittedPairs 3 (some .int), Cond.fieldLink RX2 30 "LayeredCharters$Rules" "size" "I", Cond.fieldLink RX2 15 "LayeredCharters$Rules" "kinds" "[I", Cond.fieldLink RX2 27 "LayeredCharters$Rules" "pairs" "[I", Cond.methodLink RX2 77 yJ6_bitCount_0f7a4, Cond.static yJ6_bitCount_0f7a4, Cond.initialized RJ6, Cond.code yJ6_bitCount_0f7a4 cJ6_bitCount_0f7a4 1 (some .int), Cond.constant RJ6 265 (1431655765), Cond.constant RJ6 266 (858993459), Cond.constant RJ6 267 (252645135), Cond.methodLink RX2 74 yX2_heldPairsOfSeal, Cond.instanceMethod yX2_heldPairsOfSeal]
def wsX4_firstIdle_r2 : List Cond := [Cond.selects RX2 yX2_heldPairsOfSeal yX2_heldPairsOfSeal, Cond.code yX2_heldPairsOfSeal cX2_heldPairsOfSeal 4 (some .int), Cond.fieldLink RX2 24 "LayeredCharters$Rules" "seals" "[I", Cond.methodLink RX2 62 yX2_heldPairs, Cond.instanceMethod yX2_heldPairs, Cond.selects RX2 yX2_heldPairs yX2_heldPairs, Cond.code yX2_heldPairs cX2_heldPairs 4 (some .int), Cond.methodLink RX2 82 yX2_lifts, Cond.instanceMethod yX2_lifts, Cond.selects RX2 yX2_lifts yX2_lifts, Cond.code yX2_lifts cX2_lifts 3 (some .boolean), Cond.fieldLink RX2 11 "LayeredCharters$Rules" "layers" "[I", Cond.methodLink RX4 149 yX4_isIdle, Cond.instanceMethod yX4_isIdle, Cond.selects RX4 yX4_isIdle yX4_isIdle, Cond.initialized RX4, Cond.code yX4_isIdle cX4_isIdle 3 (some .boolean), Cond.methodLink RX4 195 yX4_triplesWithout, Cond.instanceMethod yX4_triplesWithout, Cond.selects RX4 yX4_triplesWithout yX4_triplesWithout, Cond.code yX4_triplesWithout cX4_triplesWithout 2 (some .int), Cond.fieldLink RX4 37 "LayeredCharters" "trial" "LLayeredCharters$Rules;", Cond.methodLink RX4 219 yX2_copyFrom, Cond.instanceMethod yX2_copyFrom]
def wsX4_firstIdle_r3 : List Cond := [Cond.selects RX2 yX2_copyFrom yX2_copyFrom, Cond.code yX2_copyFrom cX2_copyFrom 2 none, Cond.fieldLink RX2 18 "LayeredCharters$Rules" "crafts" "[I", Cond.fieldLink RX2 21 "LayeredCharters$Rules" "deeds" "[I", Cond.static yX4_copyRow, Cond.code yX4_copyRow cX4_copyRow 2 none, Cond.methodLink RX4 229 Lib.Math.min.name, Cond.static Lib.Math.min.name, Cond.initialized "java/lang/Math", Cond.code Lib.Math.min.name Lib.Math.min.code 2 (some .int), Cond.methodLink RX4 232 arraycopyName, Cond.native arraycopyName, Cond.static arraycopyName, Cond.initialized "java/lang/System", Cond.methodLink RX4 68 yX2_remove, Cond.instanceMethod yX2_remove, Cond.selects RX2 yX2_remove yX2_remove, Cond.code yX2_remove cX2_remove 2 none, Cond.methodLink RX2 42 yX2_has, Cond.instanceMethod yX2_has, Cond.selects RX2 yX2_has yX2_has, Cond.code yX2_has cX2_has 2 (some .boolean), Cond.static yX4_closeGap, Cond.code yX4_closeGap cX4_closeGap 3 none]
def wsX4_firstIdle_r4 : List Cond := [Cond.methodLink RX4 224 Lib.Math.max.name, Cond.static Lib.Math.max.name, Cond.code Lib.Math.max.name Lib.Math.max.code 2 (some .int)]
def wsX4_firstIdle : List Cond := .code yX4_firstIdle cX4_firstIdle 3 (some .int) :: ((wsX4_firstIdle_r1 ++ (wsX4_firstIdle_r2 ++ (wsX4_firstIdle_r3 ++ wsX4_firstIdle_r4))) ++ wsX40 ++ wsX30 ++ wsX20)
def wsX4_tidy_r1 : List Cond := [Cond.fieldLink RX4 12 "LayeredCharters" "now" "LLayeredCharters$State;", Cond.fieldLink RX4 52 "LayeredCharters$State" "rules" "LLayeredCharters$Rules;", Cond.methodLink RX4 58 yX4_remember, Cond.instanceMethod yX4_remember, Cond.selects RX4 yX4_remember yX4_remember, Cond.initialized RX4, Cond.code yX4_remember cX4_remember 1 none, Cond.fieldLink RX4 30 "LayeredCharters" "remembered" "I", Cond.fieldLink RX4 27 "LayeredCharters" "history" "[LLayeredCharters$State;", Cond.methodLink RX4 216 yX4_dropOldest, Cond.instanceMethod yX4_dropOldest, Cond.selects RX4 yX4_dropOldest yX4_dropOldest, Cond.code yX4_dropOldest cX4_dropOldest 3 none, Cond.methodLink RX4 212 yX4_copyInto, Cond.instanceMethod yX4_copyInto, Cond.selects RX4 yX4_copyInto yX4_copyInto, Cond.code yX4_copyInto cX4_copyInto 3 (some (.object "LayeredCharters$State")), Cond.classLink RX4 9 RX3, Cond.instantiable RX3 2, Cond.initialized RX3, Cond.instanceMethod yX3_init, Cond.code yX3_init cX3_init 1 none, Cond.methodLink RX3 1 objectInit, Cond.instanceMethod objectInit]
def wsX4_tidy_r2 : List Cond := [Cond.code objectInit ⟨#[0xb1]⟩ 1 none, Cond.classLink RX3 7 RX2, Cond.instantiable RX2 7, Cond.initialized RX2, Cond.fieldLink RX3 10 "LayeredCharters$State" "rules" "LLayeredCharters$Rules;", Cond.classLink RX3 16 RX0, Cond.instantiable RX0 7, Cond.initialized RX0, Cond.fieldLink RX3 19 "LayeredCharters$State" "guild" "LLayeredCharters$Guild;", Cond.instanceMethod yX2_init, Cond.code yX2_init cX2_init 1 none, Cond.methodLink RX2 3 objectInit, Cond.arrayClass .int, Cond.fieldLink RX2 11 "LayeredCharters$Rules" "layers" "[I", Cond.fieldLink RX2 15 "LayeredCharters$Rules" "kinds" "[I", Cond.fieldLink RX2 18 "LayeredCharters$Rules" "crafts" "[I", Cond.fieldLink RX2 21 "LayeredCharters$Rules" "deeds" "[I", Cond.fieldLink RX2 24 "LayeredCharters$Rules" "seals" "[I", Cond.fieldLink RX2 27 "LayeredCharters$Rules" "pairs" "[I", Cond.fieldLink RX2 30 "LayeredCharters$Rules" "size" "I", Cond.instanceMethod yX0_init, Cond.code yX0_init cX0_init 1 none, Cond.methodLink RX0 3 objectInit, Cond.fieldLink RX0 9 "LayeredCharters$Guild" "crafts" "[I"]
def wsX4_tidy_r3 : List Cond := [Cond.fieldLink RX0 15 "LayeredCharters$Guild" "ranks" "[I", Cond.fieldLink RX0 18 "LayeredCharters$Guild" "done" "[I", Cond.fieldLink RX0 21 "LayeredCharters$Guild" "refused" "[I", Cond.fieldLink RX0 24 "LayeredCharters$Guild" "refusals" "[I", Cond.fieldLink RX0 27 "LayeredCharters$Guild" "size" "I", Cond.fieldLink RX0 31 "LayeredCharters$Guild" "doneInAll" "I", Cond.methodLink RX4 208 yX3_copyFrom, Cond.instanceMethod yX3_copyFrom, Cond.selects RX3 yX3_copyFrom yX3_copyFrom, Cond.code yX3_copyFrom cX3_copyFrom 2 none, Cond.methodLink RX3 23 yX2_copyFrom, Cond.instanceMethod yX2_copyFrom, Cond.selects RX2 yX2_copyFrom yX2_copyFrom, Cond.code yX2_copyFrom cX2_copyFrom 2 none, Cond.static yX4_copyRow, Cond.code yX4_copyRow cX4_copyRow 2 none, Cond.methodLink RX4 229 Lib.Math.min.name, Cond.static Lib.Math.min.name, Cond.initialized "java/lang/Math", Cond.code Lib.Math.min.name Lib.Math.min.code 2 (some .int), Cond.methodLink RX4 232 arraycopyName, Cond.native arraycopyName, Cond.static arraycopyName, Cond.initialized "java/lang/System"]
def wsX4_tidy_r4 : List Cond := [Cond.methodLink RX3 27 yX0_copyFrom, Cond.instanceMethod yX0_copyFrom, Cond.selects RX0 yX0_copyFrom yX0_copyFrom, Cond.code yX0_copyFrom cX0_copyFrom 2 none, Cond.methodLink RX4 96 yX4_firstIdle, Cond.instanceMethod yX4_firstIdle, Cond.selects RX4 yX4_firstIdle yX4_firstIdle, Cond.code yX4_firstIdle cX4_firstIdle 3 (some .int), Cond.fieldLink RX4 55 "LayeredCharters$Rules" "size" "I", Cond.methodLink RX4 146 yX2_triples, Cond.instanceMethod yX2_triples, Cond.selects RX2 yX2_triples yX2_triples, Cond.code yX2_triples cX2_triples 4 (some .int), Cond.methodLink RX2 58 yX2_permittedPairs, Cond.instanceMethod yX2_permittedPairs, Cond.selects RX2 yX2_permittedPairs yX2_permittedPairs, Cond.code yX2_permittedPairs cX2_permittedPairs 3 (some .int), Cond.methodLink RX2 77 yJ6_bitCount_0f7a4, Cond.static yJ6_bitCount_0f7a4, Cond.initialized RJ6, Cond.code yJ6_bitCount_0f7a4 cJ6_bitCount_0f7a4 1 (some .int), Cond.constant RJ6 265 (1431655765), Cond.constant RJ6 266 (858993459), Cond.constant RJ6 267 (252645135)]
def wsX4_tidy_r5 : List Cond := [Cond.methodLink RX2 74 yX2_heldPairsOfSeal, Cond.instanceMethod yX2_heldPairsOfSeal, Cond.selects RX2 yX2_heldPairsOfSeal yX2_heldPairsOfSeal, Cond.code yX2_heldPairsOfSeal cX2_heldPairsOfSeal 4 (some .int), Cond.methodLink RX2 62 yX2_heldPairs, Cond.instanceMethod yX2_heldPairs, Cond.selects RX2 yX2_heldPairs yX2_heldPairs, Cond.code yX2_heldPairs cX2_heldPairs 4 (some .int), Cond.methodLink RX2 82 yX2_lifts, Cond.instanceMethod yX2_lifts, Cond.selects RX2 yX2_lifts yX2_lifts, Cond.code yX2_lifts cX2_lifts 3 (some .boolean), Cond.methodLink RX4 149 yX4_isIdle, Cond.instanceMethod yX4_isIdle, Cond.selects RX4 yX4_isIdle yX4_isIdle, Cond.code yX4_isIdle cX4_isIdle 3 (some .boolean), Cond.methodLink RX4 195 yX4_triplesWithout, Cond.instanceMethod yX4_triplesWithout, Cond.selects RX4 yX4_triplesWithout yX4_triplesWithout, Cond.code yX4_triplesWithout cX4_triplesWithout 2 (some .int), Cond.fieldLink RX4 37 "LayeredCharters" "trial" "LLayeredCharters$Rules;", Cond.methodLink RX4 219 yX2_copyFrom, Cond.methodLink RX4 68 yX2_remove, Cond.instanceMethod yX2_remove]
def wsX4_tidy_r6 : List Cond := [Cond.selects RX2 yX2_remove yX2_remove, Cond.code yX2_remove cX2_remove 2 none, Cond.methodLink RX2 42 yX2_has, Cond.instanceMethod yX2_has, Cond.selects RX2 yX2_has yX2_has, Cond.code yX2_has cX2_has 2 (some .boolean), Cond.static yX4_closeGap, Cond.code yX4_closeGap cX4_closeGap 3 none, Cond.methodLink RX4 224 Lib.Math.max.name, Cond.static Lib.Math.max.name, Cond.code Lib.Math.max.name Lib.Math.max.code 2 (some .int)]
def wsX4_tidy : List Cond := .code yX4_tidy cX4_tidy 3 (some .int) :: ((wsX4_tidy_r1 ++ (wsX4_tidy_r2 ++ (wsX4_tidy_r3 ++ (wsX4_tidy_r4 ++ (wsX4_tidy_r5 ++ wsX4_tidy_r6))))) ++ wsX40 ++ wsX30 ++ wsX20 ++ wsX00)
def wsX4_isCraft : List Cond := .code yX4_isCraft cX4_isCraft 1 (some .boolean) :: ([.methodLink RX4 45 yX4_isBetween, .static yX4_isBetween, .initialized RX4, .code yX4_isBetween cX4_isBetween 3 (some .boolean)])
def wsX4_isRank : List Cond := .code yX4_isRank cX4_isRank 1 (some .boolean) :: ([.methodLink RX4 45 yX4_isBetween, .static yX4_isBetween, .initialized RX4, .code yX4_isBetween cX4_isBetween 3 (some .boolean)])
def wsX4_join_r1 : List Cond := [Cond.fieldLink RX4 12 "LayeredCharters" "now" "LLayeredCharters$State;", Cond.fieldLink RX4 105 "LayeredCharters$State" "guild" "LLayeredCharters$Guild;", Cond.fieldLink RX4 109 "LayeredCharters$Guild" "size" "I", Cond.methodLink RX4 99 yX4_isCraft, Cond.static yX4_isCraft, Cond.initialized RX4, Cond.code yX4_isCraft cX4_isCraft 1 (some .boolean), Cond.methodLink RX4 45 yX4_isBetween, Cond.static yX4_isBetween, Cond.code yX4_isBetween cX4_isBetween 3 (some .boolean), Cond.methodLink RX4 102 yX4_isRank, Cond.static yX4_isRank, Cond.code yX4_isRank cX4_isRank 1 (some .boolean), Cond.methodLink RX4 58 yX4_remember, Cond.instanceMethod yX4_remember, Cond.selects RX4 yX4_remember yX4_remember, Cond.code yX4_remember cX4_remember 1 none, Cond.fieldLink RX4 30 "LayeredCharters" "remembered" "I", Cond.fieldLink RX4 27 "LayeredCharters" "history" "[LLayeredCharters$State;", Cond.methodLink RX4 216 yX4_dropOldest, Cond.instanceMethod yX4_dropOldest, Cond.selects RX4 yX4_dropOldest yX4_dropOldest, Cond.code yX4_dropOldest cX4_dropOldest 3 none, Cond.methodLink RX4 212 yX4_copyInto]
def wsX4_join_r2 : List Cond := [Cond.instanceMethod yX4_copyInto, Cond.selects RX4 yX4_copyInto yX4_copyInto, Cond.code yX4_copyInto cX4_copyInto 3 (some (.object "LayeredCharters$State")), Cond.classLink RX4 9 RX3, Cond.instantiable RX3 2, Cond.initialized RX3, Cond.instanceMethod yX3_init, Cond.code yX3_init cX3_init 1 none, Cond.methodLink RX3 1 objectInit, Cond.instanceMethod objectInit, Cond.code objectInit ⟨#[0xb1]⟩ 1 none, Cond.classLink RX3 7 RX2, Cond.instantiable RX2 7, Cond.initialized RX2, Cond.fieldLink RX3 10 "LayeredCharters$State" "rules" "LLayeredCharters$Rules;", Cond.classLink RX3 16 RX0, Cond.instantiable RX0 7, Cond.initialized RX0, Cond.fieldLink RX3 19 "LayeredCharters$State" "guild" "LLayeredCharters$Guild;", Cond.instanceMethod yX2_init, Cond.code yX2_init cX2_init 1 none, Cond.methodLink RX2 3 objectInit, Cond.arrayClass .int, Cond.fieldLink RX2 11 "LayeredCharters$Rules" "layers" "[I"]
def wsX4_join_r3 : List Cond := [Cond.fieldLink RX2 15 "LayeredCharters$Rules" "kinds" "[I", Cond.fieldLink RX2 18 "LayeredCharters$Rules" "crafts" "[I", Cond.fieldLink RX2 21 "LayeredCharters$Rules" "deeds" "[I", Cond.fieldLink RX2 24 "LayeredCharters$Rules" "seals" "[I", Cond.fieldLink RX2 27 "LayeredCharters$Rules" "pairs" "[I", Cond.fieldLink RX2 30 "LayeredCharters$Rules" "size" "I", Cond.instanceMethod yX0_init, Cond.code yX0_init cX0_init 1 none, Cond.methodLink RX0 3 objectInit, Cond.fieldLink RX0 9 "LayeredCharters$Guild" "crafts" "[I", Cond.fieldLink RX0 15 "LayeredCharters$Guild" "ranks" "[I", Cond.fieldLink RX0 18 "LayeredCharters$Guild" "done" "[I", Cond.fieldLink RX0 21 "LayeredCharters$Guild" "refused" "[I", Cond.fieldLink RX0 24 "LayeredCharters$Guild" "refusals" "[I", Cond.fieldLink RX0 27 "LayeredCharters$Guild" "size" "I", Cond.fieldLink RX0 31 "LayeredCharters$Guild" "doneInAll" "I", Cond.methodLink RX4 208 yX3_copyFrom, Cond.instanceMethod yX3_copyFrom, Cond.selects RX3 yX3_copyFrom yX3_copyFrom, Cond.code yX3_copyFrom cX3_copyFrom 2 none, Cond.methodLink RX3 23 yX2_copyFrom, Cond.instanceMethod yX2_copyFrom, Cond.selects RX2 yX2_copyFrom yX2_copyFrom, Cond.code yX2_copyFrom cX2_copyFrom 2 none]
def wsX4_join_r4 : List Cond := [Cond.static yX4_copyRow, Cond.code yX4_copyRow cX4_copyRow 2 none, Cond.methodLink RX4 229 Lib.Math.min.name, Cond.static Lib.Math.min.name, Cond.initialized "java/lang/Math", Cond.code Lib.Math.min.name Lib.Math.min.code 2 (some .int), Cond.methodLink RX4 232 arraycopyName, Cond.native arraycopyName, Cond.static arraycopyName, Cond.initialized "java/lang/System", Cond.methodLink RX3 27 yX0_copyFrom, Cond.instanceMethod yX0_copyFrom, Cond.selects RX0 yX0_copyFrom yX0_copyFrom, Cond.code yX0_copyFrom cX0_copyFrom 2 none, Cond.methodLink RX4 112 yX0_append, Cond.instanceMethod yX0_append, Cond.selects RX0 yX0_append yX0_append, Cond.code yX0_append cX0_append 3 none]
def wsX4_join : List Cond := .code yX4_join cX4_join 3 (some .int) :: ((wsX4_join_r1 ++ (wsX4_join_r2 ++ (wsX4_join_r3 ++ wsX4_join_r4))) ++ wsX40 ++ wsX30 ++ wsX00 ++ wsX20)
def wsX4_leave_r1 : List Cond := [Cond.fieldLink RX4 12 "LayeredCharters" "now" "LLayeredCharters$State;", Cond.fieldLink RX4 105 "LayeredCharters$State" "guild" "LLayeredCharters$Guild;", Cond.fieldLink RX4 116 "LayeredCharters$Guild" "done" "[I", Cond.methodLink RX4 115 yX0_has, Cond.instanceMethod yX0_has, Cond.selects RX0 yX0_has yX0_has, Cond.initialized RX0, Cond.code yX0_has cX0_has 2 (some .boolean), Cond.fieldLink RX0 27 "LayeredCharters$Guild" "size" "I", Cond.methodLink RX4 58 yX4_remember, Cond.instanceMethod yX4_remember, Cond.selects RX4 yX4_remember yX4_remember, Cond.initialized RX4, Cond.code yX4_remember cX4_remember 1 none, Cond.fieldLink RX4 30 "LayeredCharters" "remembered" "I", Cond.fieldLink RX4 27 "LayeredCharters" "history" "[LLayeredCharters$State;", Cond.methodLink RX4 216 yX4_dropOldest, Cond.instanceMethod yX4_dropOldest, Cond.selects RX4 yX4_dropOldest yX4_dropOldest, Cond.code yX4_dropOldest cX4_dropOldest 3 none, Cond.methodLink RX4 212 yX4_copyInto, Cond.instanceMethod yX4_copyInto, Cond.selects RX4 yX4_copyInto yX4_copyInto, Cond.code yX4_copyInto cX4_copyInto 3 (some (.object "LayeredCharters$State"))]
def wsX4_leave_r2 : List Cond := [Cond.classLink RX4 9 RX3, Cond.instantiable RX3 2, Cond.initialized RX3, Cond.instanceMethod yX3_init, Cond.code yX3_init cX3_init 1 none, Cond.methodLink RX3 1 objectInit, Cond.instanceMethod objectInit, Cond.code objectInit ⟨#[0xb1]⟩ 1 none, Cond.classLink RX3 7 RX2, Cond.instantiable RX2 7, Cond.initialized RX2, Cond.fieldLink RX3 10 "LayeredCharters$State" "rules" "LLayeredCharters$Rules;", Cond.classLink RX3 16 RX0, Cond.instantiable RX0 7, Cond.fieldLink RX3 19 "LayeredCharters$State" "guild" "LLayeredCharters$Guild;", Cond.instanceMethod yX2_init, Cond.code yX2_init cX2_init 1 none, Cond.methodLink RX2 3 objectInit, Cond.arrayClass .int, Cond.fieldLink RX2 11 "LayeredCharters$Rules" "layers" "[I", Cond.fieldLink RX2 15 "LayeredCharters$Rules" "kinds" "[I", Cond.fieldLink RX2 18 "LayeredCharters$Rules" "crafts" "[I", Cond.fieldLink RX2 21 "LayeredCharters$Rules" "deeds" "[I", Cond.fieldLink RX2 24 "LayeredCharters$Rules" "seals" "[I"]
def wsX4_leave_r3 : List Cond := [Cond.fieldLink RX2 27 "LayeredCharters$Rules" "pairs" "[I", Cond.fieldLink RX2 30 "LayeredCharters$Rules" "size" "I", Cond.instanceMethod yX0_init, Cond.code yX0_init cX0_init 1 none, Cond.methodLink RX0 3 objectInit, Cond.fieldLink RX0 9 "LayeredCharters$Guild" "crafts" "[I", Cond.fieldLink RX0 15 "LayeredCharters$Guild" "ranks" "[I", Cond.fieldLink RX0 18 "LayeredCharters$Guild" "done" "[I", Cond.fieldLink RX0 21 "LayeredCharters$Guild" "refused" "[I", Cond.fieldLink RX0 24 "LayeredCharters$Guild" "refusals" "[I", Cond.fieldLink RX0 31 "LayeredCharters$Guild" "doneInAll" "I", Cond.methodLink RX4 208 yX3_copyFrom, Cond.instanceMethod yX3_copyFrom, Cond.selects RX3 yX3_copyFrom yX3_copyFrom, Cond.code yX3_copyFrom cX3_copyFrom 2 none, Cond.methodLink RX3 23 yX2_copyFrom, Cond.instanceMethod yX2_copyFrom, Cond.selects RX2 yX2_copyFrom yX2_copyFrom, Cond.code yX2_copyFrom cX2_copyFrom 2 none, Cond.static yX4_copyRow, Cond.code yX4_copyRow cX4_copyRow 2 none, Cond.methodLink RX4 229 Lib.Math.min.name, Cond.static Lib.Math.min.name, Cond.initialized "java/lang/Math"]
def wsX4_leave_r4 : List Cond := [Cond.code Lib.Math.min.name Lib.Math.min.code 2 (some .int), Cond.methodLink RX4 232 arraycopyName, Cond.native arraycopyName, Cond.static arraycopyName, Cond.initialized "java/lang/System", Cond.methodLink RX3 27 yX0_copyFrom, Cond.instanceMethod yX0_copyFrom, Cond.selects RX0 yX0_copyFrom yX0_copyFrom, Cond.code yX0_copyFrom cX0_copyFrom 2 none, Cond.methodLink RX4 119 yX0_remove, Cond.instanceMethod yX0_remove, Cond.selects RX0 yX0_remove yX0_remove, Cond.code yX0_remove cX0_remove 2 none, Cond.methodLink RX0 38 yX0_has, Cond.static yX4_closeGap, Cond.code yX4_closeGap cX4_closeGap 3 none, Cond.methodLink RX4 224 Lib.Math.max.name, Cond.static Lib.Math.max.name, Cond.code Lib.Math.max.name Lib.Math.max.code 2 (some .int)]
def wsX4_leave : List Cond := .code yX4_leave cX4_leave 3 (some .int) :: ((wsX4_leave_r1 ++ (wsX4_leave_r2 ++ (wsX4_leave_r3 ++ wsX4_leave_r4))) ++ wsX40 ++ wsX30 ++ wsX00 ++ wsX20)
def wsX4_rank_r1 : List Cond := [Cond.fieldLink RX4 12 "LayeredCharters" "now" "LLayeredCharters$State;", Cond.fieldLink RX4 105 "LayeredCharters$State" "guild" "LLayeredCharters$Guild;", Cond.fieldLink RX4 120 "LayeredCharters$Guild" "ranks" "[I", Cond.methodLink RX4 115 yX0_has, Cond.instanceMethod yX0_has, Cond.selects RX0 yX0_has yX0_has, Cond.initialized RX0, Cond.code yX0_has cX0_has 2 (some .boolean), Cond.fieldLink RX0 27 "LayeredCharters$Guild" "size" "I", Cond.methodLink RX4 102 yX4_isRank, Cond.static yX4_isRank, Cond.initialized RX4, Cond.code yX4_isRank cX4_isRank 1 (some .boolean), Cond.methodLink RX4 45 yX4_isBetween, Cond.static yX4_isBetween, Cond.code yX4_isBetween cX4_isBetween 3 (some .boolean), Cond.methodLink RX4 58 yX4_remember, Cond.instanceMethod yX4_remember, Cond.selects RX4 yX4_remember yX4_remember, Cond.code yX4_remember cX4_remember 1 none, Cond.fieldLink RX4 30 "LayeredCharters" "remembered" "I", Cond.fieldLink RX4 27 "LayeredCharters" "history" "[LLayeredCharters$State;", Cond.methodLink RX4 216 yX4_dropOldest, Cond.instanceMethod yX4_dropOldest]
def wsX4_rank_r2 : List Cond := [Cond.selects RX4 yX4_dropOldest yX4_dropOldest, Cond.code yX4_dropOldest cX4_dropOldest 3 none, Cond.methodLink RX4 212 yX4_copyInto, Cond.instanceMethod yX4_copyInto, Cond.selects RX4 yX4_copyInto yX4_copyInto, Cond.code yX4_copyInto cX4_copyInto 3 (some (.object "LayeredCharters$State")), Cond.classLink RX4 9 RX3, Cond.instantiable RX3 2, Cond.initialized RX3, Cond.instanceMethod yX3_init, Cond.code yX3_init cX3_init 1 none, Cond.methodLink RX3 1 objectInit, Cond.instanceMethod objectInit, Cond.code objectInit ⟨#[0xb1]⟩ 1 none, Cond.classLink RX3 7 RX2, Cond.instantiable RX2 7, Cond.initialized RX2, Cond.fieldLink RX3 10 "LayeredCharters$State" "rules" "LLayeredCharters$Rules;", Cond.classLink RX3 16 RX0, Cond.instantiable RX0 7, Cond.fieldLink RX3 19 "LayeredCharters$State" "guild" "LLayeredCharters$Guild;", Cond.instanceMethod yX2_init, Cond.code yX2_init cX2_init 1 none, Cond.methodLink RX2 3 objectInit]
def wsX4_rank_r3 : List Cond := [Cond.arrayClass .int, Cond.fieldLink RX2 11 "LayeredCharters$Rules" "layers" "[I", Cond.fieldLink RX2 15 "LayeredCharters$Rules" "kinds" "[I", Cond.fieldLink RX2 18 "LayeredCharters$Rules" "crafts" "[I", Cond.fieldLink RX2 21 "LayeredCharters$Rules" "deeds" "[I", Cond.fieldLink RX2 24 "LayeredCharters$Rules" "seals" "[I", Cond.fieldLink RX2 27 "LayeredCharters$Rules" "pairs" "[I", Cond.fieldLink RX2 30 "LayeredCharters$Rules" "size" "I", Cond.instanceMethod yX0_init, Cond.code yX0_init cX0_init 1 none, Cond.methodLink RX0 3 objectInit, Cond.fieldLink RX0 9 "LayeredCharters$Guild" "crafts" "[I", Cond.fieldLink RX0 15 "LayeredCharters$Guild" "ranks" "[I", Cond.fieldLink RX0 18 "LayeredCharters$Guild" "done" "[I", Cond.fieldLink RX0 21 "LayeredCharters$Guild" "refused" "[I", Cond.fieldLink RX0 24 "LayeredCharters$Guild" "refusals" "[I", Cond.fieldLink RX0 31 "LayeredCharters$Guild" "doneInAll" "I", Cond.methodLink RX4 208 yX3_copyFrom, Cond.instanceMethod yX3_copyFrom, Cond.selects RX3 yX3_copyFrom yX3_copyFrom, Cond.code yX3_copyFrom cX3_copyFrom 2 none, Cond.methodLink RX3 23 yX2_copyFrom, Cond.instanceMethod yX2_copyFrom, Cond.selects RX2 yX2_copyFrom yX2_copyFrom]
def wsX4_rank_r4 : List Cond := [Cond.code yX2_copyFrom cX2_copyFrom 2 none, Cond.static yX4_copyRow, Cond.code yX4_copyRow cX4_copyRow 2 none, Cond.methodLink RX4 229 Lib.Math.min.name, Cond.static Lib.Math.min.name, Cond.initialized "java/lang/Math", Cond.code Lib.Math.min.name Lib.Math.min.code 2 (some .int), Cond.methodLink RX4 232 arraycopyName, Cond.native arraycopyName, Cond.static arraycopyName, Cond.initialized "java/lang/System", Cond.methodLink RX3 27 yX0_copyFrom, Cond.instanceMethod yX0_copyFrom, Cond.selects RX0 yX0_copyFrom yX0_copyFrom, Cond.code yX0_copyFrom cX0_copyFrom 2 none]
def wsX4_rank : List Cond := .code yX4_rank cX4_rank 4 (some .int) :: ((wsX4_rank_r1 ++ (wsX4_rank_r2 ++ (wsX4_rank_r3 ++ wsX4_rank_r4))) ++ wsX40 ++ wsX30 ++ wsX00 ++ wsX20)
def wsX4_isDeed : List Cond := .code yX4_isDeed cX4_isDeed 1 (some .boolean) :: ([.methodLink RX4 45 yX4_isBetween, .static yX4_isBetween, .initialized RX4, .code yX4_isBetween cX4_isBetween 3 (some .boolean)])
def wsX4_act_r1 : List Cond := [Cond.fieldLink RX4 12 "LayeredCharters" "now" "LLayeredCharters$State;", Cond.fieldLink RX4 105 "LayeredCharters$State" "guild" "LLayeredCharters$Guild;", Cond.fieldLink RX4 52 "LayeredCharters$State" "rules" "LLayeredCharters$Rules;", Cond.fieldLink RX4 126 "LayeredCharters$Guild" "crafts" "[I", Cond.fieldLink RX4 120 "LayeredCharters$Guild" "ranks" "[I", Cond.fieldLink RX4 79 "LayeredCharters$Rules" "layers" "[I", Cond.methodLink RX4 115 yX0_has, Cond.instanceMethod yX0_has, Cond.selects RX0 yX0_has yX0_has, Cond.initialized RX0, Cond.code yX0_has cX0_has 2 (some .boolean), Cond.fieldLink RX0 27 "LayeredCharters$Guild" "size" "I", Cond.methodLink RX4 123 yX4_isDeed, Cond.static yX4_isDeed, Cond.initialized RX4, Cond.code yX4_isDeed cX4_isDeed 1 (some .boolean), Cond.methodLink RX4 45 yX4_isBetween, Cond.static yX4_isBetween, Cond.code yX4_isBetween cX4_isBetween 3 (some .boolean), Cond.methodLink RX4 58 yX4_remember, Cond.instanceMethod yX4_remember, Cond.selects RX4 yX4_remember yX4_remember, Cond.code yX4_remember cX4_remember 1 none, Cond.fieldLink RX4 30 "LayeredCharters" "remembered" "I"]
def wsX4_act_r2 : List Cond := [Cond.fieldLink RX4 27 "LayeredCharters" "history" "[LLayeredCharters$State;", Cond.methodLink RX4 216 yX4_dropOldest, Cond.instanceMethod yX4_dropOldest, Cond.selects RX4 yX4_dropOldest yX4_dropOldest, Cond.code yX4_dropOldest cX4_dropOldest 3 none, Cond.methodLink RX4 212 yX4_copyInto, Cond.instanceMethod yX4_copyInto, Cond.selects RX4 yX4_copyInto yX4_copyInto, Cond.code yX4_copyInto cX4_copyInto 3 (some (.object "LayeredCharters$State")), Cond.classLink RX4 9 RX3, Cond.instantiable RX3 2, Cond.initialized RX3, Cond.instanceMethod yX3_init, Cond.code yX3_init cX3_init 1 none, Cond.methodLink RX3 1 objectInit, Cond.instanceMethod objectInit, Cond.code objectInit ⟨#[0xb1]⟩ 1 none, Cond.classLink RX3 7 RX2, Cond.instantiable RX2 7, Cond.initialized RX2, Cond.fieldLink RX3 10 "LayeredCharters$State" "rules" "LLayeredCharters$Rules;", Cond.classLink RX3 16 RX0, Cond.instantiable RX0 7, Cond.fieldLink RX3 19 "LayeredCharters$State" "guild" "LLayeredCharters$Guild;"]
def wsX4_act_r3 : List Cond := [Cond.instanceMethod yX2_init, Cond.code yX2_init cX2_init 1 none, Cond.methodLink RX2 3 objectInit, Cond.arrayClass .int, Cond.fieldLink RX2 11 "LayeredCharters$Rules" "layers" "[I", Cond.fieldLink RX2 15 "LayeredCharters$Rules" "kinds" "[I", Cond.fieldLink RX2 18 "LayeredCharters$Rules" "crafts" "[I", Cond.fieldLink RX2 21 "LayeredCharters$Rules" "deeds" "[I", Cond.fieldLink RX2 24 "LayeredCharters$Rules" "seals" "[I", Cond.fieldLink RX2 27 "LayeredCharters$Rules" "pairs" "[I", Cond.fieldLink RX2 30 "LayeredCharters$Rules" "size" "I", Cond.instanceMethod yX0_init, Cond.code yX0_init cX0_init 1 none, Cond.methodLink RX0 3 objectInit, Cond.fieldLink RX0 9 "LayeredCharters$Guild" "crafts" "[I", Cond.fieldLink RX0 15 "LayeredCharters$Guild" "ranks" "[I", Cond.fieldLink RX0 18 "LayeredCharters$Guild" "done" "[I", Cond.fieldLink RX0 21 "LayeredCharters$Guild" "refused" "[I", Cond.fieldLink RX0 24 "LayeredCharters$Guild" "refusals" "[I", Cond.fieldLink RX0 31 "LayeredCharters$Guild" "doneInAll" "I", Cond.methodLink RX4 208 yX3_copyFrom, Cond.instanceMethod yX3_copyFrom, Cond.selects RX3 yX3_copyFrom yX3_copyFrom, Cond.code yX3_copyFrom cX3_copyFrom 2 none]
def wsX4_act_r4 : List Cond := [Cond.methodLink RX3 23 yX2_copyFrom, Cond.instanceMethod yX2_copyFrom, Cond.selects RX2 yX2_copyFrom yX2_copyFrom, Cond.code yX2_copyFrom cX2_copyFrom 2 none, Cond.static yX4_copyRow, Cond.code yX4_copyRow cX4_copyRow 2 none, Cond.methodLink RX4 229 Lib.Math.min.name, Cond.static Lib.Math.min.name, Cond.initialized "java/lang/Math", Cond.code Lib.Math.min.name Lib.Math.min.code 2 (some .int), Cond.methodLink RX4 232 arraycopyName, Cond.native arraycopyName, Cond.static arraycopyName, Cond.initialized "java/lang/System", Cond.methodLink RX3 27 yX0_copyFrom, Cond.instanceMethod yX0_copyFrom, Cond.selects RX0 yX0_copyFrom yX0_copyFrom, Cond.code yX0_copyFrom cX0_copyFrom 2 none, Cond.methodLink RX4 129 yX4_pairsOf, Cond.static yX4_pairsOf, Cond.code yX4_pairsOf cX4_pairsOf 5 (some .int), Cond.methodLink RX4 133 yX2_reason, Cond.instanceMethod yX2_reason, Cond.selects RX2 yX2_reason yX2_reason]
def wsX4_act_r5 : List Cond := [Cond.code yX2_reason cX2_reason 6 (some .int), Cond.methodLink RX2 58 yX2_permittedPairs, Cond.instanceMethod yX2_permittedPairs, Cond.selects RX2 yX2_permittedPairs yX2_permittedPairs, Cond.code yX2_permittedPairs cX2_permittedPairs 3 (some .int), Cond.methodLink RX2 62 yX2_heldPairs, Cond.instanceMethod yX2_heldPairs, Cond.selects RX2 yX2_heldPairs yX2_heldPairs, Cond.code yX2_heldPairs cX2_heldPairs 4 (some .int), Cond.methodLink RX2 82 yX2_lifts, Cond.instanceMethod yX2_lifts, Cond.selects RX2 yX2_lifts yX2_lifts, Cond.code yX2_lifts cX2_lifts 3 (some .boolean), Cond.methodLink RX4 136 yX0_noteDone, Cond.instanceMethod yX0_noteDone, Cond.selects RX0 yX0_noteDone yX0_noteDone, Cond.code yX0_noteDone cX0_noteDone 2 none, Cond.methodLink RX0 38 yX0_has, Cond.methodLink RX4 65 yX2_has, Cond.instanceMethod yX2_has, Cond.selects RX2 yX2_has yX2_has, Cond.code yX2_has cX2_has 2 (some .boolean), Cond.methodLink RX4 139 yX0_noteRefusal, Cond.instanceMethod yX0_noteRefusal]
def wsX4_act_r6 : List Cond := [Cond.selects RX0 yX0_noteRefusal yX0_noteRefusal, Cond.code yX0_noteRefusal cX0_noteRefusal 3 none]
def wsX4_act : List Cond := .code yX4_act cX4_act 4 (some .int) :: ((wsX4_act_r1 ++ (wsX4_act_r2 ++ (wsX4_act_r3 ++ (wsX4_act_r4 ++ (wsX4_act_r5 ++ wsX4_act_r6))))) ++ wsX40 ++ wsX30 ++ wsX00 ++ wsX20)
def wsX4_rule_r1 : List Cond := [Cond.fieldLink RX4 12 "LayeredCharters" "now" "LLayeredCharters$State;", Cond.fieldLink RX4 52 "LayeredCharters$State" "rules" "LLayeredCharters$Rules;", Cond.fieldLink RX4 79 "LayeredCharters$Rules" "layers" "[I", Cond.fieldLink RX4 76 "LayeredCharters$Rules" "kinds" "[I", Cond.fieldLink RX4 142 "LayeredCharters$Rules" "crafts" "[I", Cond.fieldLink RX4 143 "LayeredCharters$Rules" "deeds" "[I", Cond.fieldLink RX4 72 "LayeredCharters$Rules" "seals" "[I", Cond.fieldLink RX4 157 "LayeredCharters$Rules" "pairs" "[I", Cond.methodLink RX4 65 yX2_has, Cond.instanceMethod yX2_has, Cond.selects RX2 yX2_has yX2_has, Cond.initialized RX2, Cond.code yX2_has cX2_has 2 (some .boolean), Cond.fieldLink RX2 30 "LayeredCharters$Rules" "size" "I", Cond.methodLink RX4 146 yX2_triples, Cond.instanceMethod yX2_triples, Cond.selects RX2 yX2_triples yX2_triples, Cond.code yX2_triples cX2_triples 4 (some .int), Cond.methodLink RX2 58 yX2_permittedPairs, Cond.instanceMethod yX2_permittedPairs, Cond.selects RX2 yX2_permittedPairs yX2_permittedPairs, Cond.code yX2_permittedPairs cX2_permittedPairs 3 (some .int), Cond.fieldLink RX2 15 "LayeredCharters$Rules" "kinds" "[I", Cond.fieldLink RX2 27 "LayeredCharters$Rules" "pairs" "[I"]
def wsX4_rule_r2 : List Cond := [Cond.methodLink RX2 77 yJ6_bitCount_0f7a4, Cond.static yJ6_bitCount_0f7a4, Cond.initialized RJ6, Cond.code yJ6_bitCount_0f7a4 cJ6_bitCount_0f7a4 1 (some .int), Cond.constant RJ6 265 (1431655765), Cond.constant RJ6 266 (858993459), Cond.constant RJ6 267 (252645135), Cond.methodLink RX2 74 yX2_heldPairsOfSeal, Cond.instanceMethod yX2_heldPairsOfSeal, Cond.selects RX2 yX2_heldPairsOfSeal yX2_heldPairsOfSeal, Cond.code yX2_heldPairsOfSeal cX2_heldPairsOfSeal 4 (some .int), Cond.fieldLink RX2 24 "LayeredCharters$Rules" "seals" "[I", Cond.methodLink RX2 62 yX2_heldPairs, Cond.instanceMethod yX2_heldPairs, Cond.selects RX2 yX2_heldPairs yX2_heldPairs, Cond.code yX2_heldPairs cX2_heldPairs 4 (some .int), Cond.methodLink RX2 82 yX2_lifts, Cond.instanceMethod yX2_lifts, Cond.selects RX2 yX2_lifts yX2_lifts, Cond.code yX2_lifts cX2_lifts 3 (some .boolean), Cond.fieldLink RX2 11 "LayeredCharters$Rules" "layers" "[I", Cond.methodLink RX4 149 yX4_isIdle, Cond.instanceMethod yX4_isIdle, Cond.selects RX4 yX4_isIdle yX4_isIdle]
def wsX4_rule_r3 : List Cond := [Cond.initialized RX4, Cond.code yX4_isIdle cX4_isIdle 3 (some .boolean), Cond.methodLink RX4 195 yX4_triplesWithout, Cond.instanceMethod yX4_triplesWithout, Cond.selects RX4 yX4_triplesWithout yX4_triplesWithout, Cond.code yX4_triplesWithout cX4_triplesWithout 2 (some .int), Cond.fieldLink RX4 37 "LayeredCharters" "trial" "LLayeredCharters$Rules;", Cond.methodLink RX4 219 yX2_copyFrom, Cond.instanceMethod yX2_copyFrom, Cond.selects RX2 yX2_copyFrom yX2_copyFrom, Cond.code yX2_copyFrom cX2_copyFrom 2 none, Cond.fieldLink RX2 18 "LayeredCharters$Rules" "crafts" "[I", Cond.fieldLink RX2 21 "LayeredCharters$Rules" "deeds" "[I", Cond.static yX4_copyRow, Cond.code yX4_copyRow cX4_copyRow 2 none, Cond.methodLink RX4 229 Lib.Math.min.name, Cond.static Lib.Math.min.name, Cond.initialized "java/lang/Math", Cond.code Lib.Math.min.name Lib.Math.min.code 2 (some .int), Cond.methodLink RX4 232 arraycopyName, Cond.native arraycopyName, Cond.static arraycopyName, Cond.initialized "java/lang/System", Cond.methodLink RX4 68 yX2_remove]
def wsX4_rule_r4 : List Cond := [Cond.instanceMethod yX2_remove, Cond.selects RX2 yX2_remove yX2_remove, Cond.code yX2_remove cX2_remove 2 none, Cond.methodLink RX2 42 yX2_has, Cond.static yX4_closeGap, Cond.code yX4_closeGap cX4_closeGap 3 none, Cond.methodLink RX4 224 Lib.Math.max.name, Cond.static Lib.Math.max.name, Cond.code Lib.Math.max.name Lib.Math.max.code 2 (some .int), Cond.methodLink RX4 153 yX2_oddsOf, Cond.instanceMethod yX2_oddsOf, Cond.selects RX2 yX2_oddsOf yX2_oddsOf, Cond.code yX2_oddsOf cX2_oddsOf 4 (some .int), Cond.methodLink RX2 50 yX2_areAtOdds, Cond.instanceMethod yX2_areAtOdds, Cond.selects RX2 yX2_areAtOdds yX2_areAtOdds, Cond.code yX2_areAtOdds cX2_areAtOdds 3 (some .boolean), Cond.methodLink RX4 160 yJ6_bitCount_0f7a4]
def wsX4_rule : List Cond := .code yX4_rule cX4_rule 3 (some .int) :: ((wsX4_rule_r1 ++ (wsX4_rule_r2 ++ (wsX4_rule_r3 ++ wsX4_rule_r4))) ++ wsX40 ++ wsX30 ++ wsX20)
def wsX4_deedsAllowed_r1 : List Cond := [Cond.fieldLink RX4 12 "LayeredCharters" "now" "LLayeredCharters$State;", Cond.fieldLink RX4 52 "LayeredCharters$State" "rules" "LLayeredCharters$Rules;", Cond.methodLink RX4 221 yX2_allowedPairs, Cond.instanceMethod yX2_allowedPairs, Cond.selects RX2 yX2_allowedPairs yX2_allowedPairs, Cond.initialized RX2, Cond.code yX2_allowedPairs cX2_allowedPairs 4 (some .int), Cond.methodLink RX2 58 yX2_permittedPairs, Cond.instanceMethod yX2_permittedPairs, Cond.selects RX2 yX2_permittedPairs yX2_permittedPairs, Cond.code yX2_permittedPairs cX2_permittedPairs 3 (some .int), Cond.fieldLink RX2 30 "LayeredCharters$Rules" "size" "I", Cond.fieldLink RX2 15 "LayeredCharters$Rules" "kinds" "[I", Cond.fieldLink RX2 27 "LayeredCharters$Rules" "pairs" "[I", Cond.methodLink RX2 74 yX2_heldPairsOfSeal, Cond.instanceMethod yX2_heldPairsOfSeal, Cond.selects RX2 yX2_heldPairsOfSeal yX2_heldPairsOfSeal, Cond.code yX2_heldPairsOfSeal cX2_heldPairsOfSeal 4 (some .int), Cond.fieldLink RX2 24 "LayeredCharters$Rules" "seals" "[I", Cond.methodLink RX2 62 yX2_heldPairs, Cond.instanceMethod yX2_heldPairs, Cond.selects RX2 yX2_heldPairs yX2_heldPairs, Cond.code yX2_heldPairs cX2_heldPairs 4 (some .int), Cond.methodLink RX2 82 yX2_lifts]
def wsX4_deedsAllowed_r2 : List Cond := [Cond.instanceMethod yX2_lifts, Cond.selects RX2 yX2_lifts yX2_lifts, Cond.code yX2_lifts cX2_lifts 3 (some .boolean), Cond.fieldLink RX2 11 "LayeredCharters$Rules" "layers" "[I"]
def wsX4_deedsAllowed : List Cond := .code yX4_deedsAllowed cX4_deedsAllowed 3 (some .int) :: ((wsX4_deedsAllowed_r1 ++ wsX4_deedsAllowed_r2) ++ wsX40 ++ wsX30 ++ wsX20)
def wsX4_member_r1 : List Cond := [Cond.fieldLink RX4 12 "LayeredCharters" "now" "LLayeredCharters$State;", Cond.fieldLink RX4 105 "LayeredCharters$State" "guild" "LLayeredCharters$Guild;", Cond.fieldLink RX4 126 "LayeredCharters$Guild" "crafts" "[I", Cond.fieldLink RX4 120 "LayeredCharters$Guild" "ranks" "[I", Cond.fieldLink RX4 116 "LayeredCharters$Guild" "done" "[I", Cond.fieldLink RX4 168 "LayeredCharters$Guild" "refused" "[I", Cond.methodLink RX4 115 yX0_has, Cond.instanceMethod yX0_has, Cond.selects RX0 yX0_has yX0_has, Cond.initialized RX0, Cond.code yX0_has cX0_has 2 (some .boolean), Cond.fieldLink RX0 27 "LayeredCharters$Guild" "size" "I", Cond.methodLink RX4 165 yX4_deedsAllowed, Cond.instanceMethod yX4_deedsAllowed, Cond.selects RX4 yX4_deedsAllowed yX4_deedsAllowed, Cond.initialized RX4, Cond.code yX4_deedsAllowed cX4_deedsAllowed 3 (some .int), Cond.fieldLink RX4 52 "LayeredCharters$State" "rules" "LLayeredCharters$Rules;", Cond.methodLink RX4 221 yX2_allowedPairs, Cond.instanceMethod yX2_allowedPairs, Cond.selects RX2 yX2_allowedPairs yX2_allowedPairs, Cond.initialized RX2, Cond.code yX2_allowedPairs cX2_allowedPairs 4 (some .int), Cond.methodLink RX2 58 yX2_permittedPairs]
def wsX4_member_r2 : List Cond := [Cond.instanceMethod yX2_permittedPairs, Cond.selects RX2 yX2_permittedPairs yX2_permittedPairs, Cond.code yX2_permittedPairs cX2_permittedPairs 3 (some .int), Cond.fieldLink RX2 30 "LayeredCharters$Rules" "size" "I", Cond.fieldLink RX2 15 "LayeredCharters$Rules" "kinds" "[I", Cond.fieldLink RX2 27 "LayeredCharters$Rules" "pairs" "[I", Cond.methodLink RX2 74 yX2_heldPairsOfSeal, Cond.instanceMethod yX2_heldPairsOfSeal, Cond.selects RX2 yX2_heldPairsOfSeal yX2_heldPairsOfSeal, Cond.code yX2_heldPairsOfSeal cX2_heldPairsOfSeal 4 (some .int), Cond.fieldLink RX2 24 "LayeredCharters$Rules" "seals" "[I", Cond.methodLink RX2 62 yX2_heldPairs, Cond.instanceMethod yX2_heldPairs, Cond.selects RX2 yX2_heldPairs yX2_heldPairs, Cond.code yX2_heldPairs cX2_heldPairs 4 (some .int), Cond.methodLink RX2 82 yX2_lifts, Cond.instanceMethod yX2_lifts, Cond.selects RX2 yX2_lifts yX2_lifts, Cond.code yX2_lifts cX2_lifts 3 (some .boolean), Cond.fieldLink RX2 11 "LayeredCharters$Rules" "layers" "[I"]
def wsX4_member : List Cond := .code yX4_member cX4_member 3 (some .int) :: ((wsX4_member_r1 ++ wsX4_member_r2) ++ wsX40 ++ wsX30 ++ wsX00 ++ wsX20)
def wsX4_allowed_r1 : List Cond := [Cond.fieldLink RX4 12 "LayeredCharters" "now" "LLayeredCharters$State;", Cond.fieldLink RX4 52 "LayeredCharters$State" "rules" "LLayeredCharters$Rules;", Cond.methodLink RX4 99 yX4_isCraft, Cond.static yX4_isCraft, Cond.initialized RX4, Cond.code yX4_isCraft cX4_isCraft 1 (some .boolean), Cond.methodLink RX4 45 yX4_isBetween, Cond.static yX4_isBetween, Cond.code yX4_isBetween cX4_isBetween 3 (some .boolean), Cond.methodLink RX4 123 yX4_isDeed, Cond.static yX4_isDeed, Cond.code yX4_isDeed cX4_isDeed 1 (some .boolean), Cond.methodLink RX4 102 yX4_isRank, Cond.static yX4_isRank, Cond.code yX4_isRank cX4_isRank 1 (some .boolean), Cond.methodLink RX4 129 yX4_pairsOf, Cond.static yX4_pairsOf, Cond.code yX4_pairsOf cX4_pairsOf 5 (some .int), Cond.methodLink RX4 171 yX2_allowsByLayers, Cond.instanceMethod yX2_allowsByLayers, Cond.selects RX2 yX2_allowsByLayers yX2_allowsByLayers, Cond.initialized RX2, Cond.code yX2_allowsByLayers cX2_allowsByLayers 5 (some .boolean), Cond.methodLink RX2 69 Lib.Math.max.name]
def wsX4_allowed_r2 : List Cond := [Cond.static Lib.Math.max.name, Cond.initialized "java/lang/Math", Cond.code Lib.Math.max.name Lib.Math.max.code 2 (some .int), Cond.methodLink RX2 58 yX2_permittedPairs, Cond.instanceMethod yX2_permittedPairs, Cond.selects RX2 yX2_permittedPairs yX2_permittedPairs, Cond.code yX2_permittedPairs cX2_permittedPairs 3 (some .int), Cond.fieldLink RX2 30 "LayeredCharters$Rules" "size" "I", Cond.fieldLink RX2 15 "LayeredCharters$Rules" "kinds" "[I", Cond.fieldLink RX2 27 "LayeredCharters$Rules" "pairs" "[I", Cond.methodLink RX2 65 yX2_strongest, Cond.instanceMethod yX2_strongest, Cond.selects RX2 yX2_strongest yX2_strongest, Cond.code yX2_strongest cX2_strongest 6 (some .int), Cond.fieldLink RX2 11 "LayeredCharters$Rules" "layers" "[I", Cond.fieldLink RX2 24 "LayeredCharters$Rules" "seals" "[I", Cond.methodLink RX4 133 yX2_reason, Cond.instanceMethod yX2_reason, Cond.selects RX2 yX2_reason yX2_reason, Cond.code yX2_reason cX2_reason 6 (some .int), Cond.methodLink RX2 62 yX2_heldPairs, Cond.instanceMethod yX2_heldPairs, Cond.selects RX2 yX2_heldPairs yX2_heldPairs, Cond.code yX2_heldPairs cX2_heldPairs 4 (some .int)]
def wsX4_allowed_r3 : List Cond := [Cond.methodLink RX2 82 yX2_lifts, Cond.instanceMethod yX2_lifts, Cond.selects RX2 yX2_lifts yX2_lifts, Cond.code yX2_lifts cX2_lifts 3 (some .boolean)]
def wsX4_allowed : List Cond := .code yX4_allowed cX4_allowed 7 (some .int) :: ((wsX4_allowed_r1 ++ (wsX4_allowed_r2 ++ wsX4_allowed_r3)) ++ wsX40 ++ wsX30 ++ wsX20)
def wsX4_why_r1 : List Cond := [Cond.fieldLink RX4 12 "LayeredCharters" "now" "LLayeredCharters$State;", Cond.fieldLink RX4 52 "LayeredCharters$State" "rules" "LLayeredCharters$Rules;", Cond.methodLink RX4 99 yX4_isCraft, Cond.static yX4_isCraft, Cond.initialized RX4, Cond.code yX4_isCraft cX4_isCraft 1 (some .boolean), Cond.methodLink RX4 45 yX4_isBetween, Cond.static yX4_isBetween, Cond.code yX4_isBetween cX4_isBetween 3 (some .boolean), Cond.methodLink RX4 123 yX4_isDeed, Cond.static yX4_isDeed, Cond.code yX4_isDeed cX4_isDeed 1 (some .boolean), Cond.methodLink RX4 102 yX4_isRank, Cond.static yX4_isRank, Cond.code yX4_isRank cX4_isRank 1 (some .boolean), Cond.methodLink RX4 129 yX4_pairsOf, Cond.static yX4_pairsOf, Cond.code yX4_pairsOf cX4_pairsOf 5 (some .int), Cond.methodLink RX4 133 yX2_reason, Cond.instanceMethod yX2_reason, Cond.selects RX2 yX2_reason yX2_reason, Cond.initialized RX2, Cond.code yX2_reason cX2_reason 6 (some .int), Cond.fieldLink RX2 30 "LayeredCharters$Rules" "size" "I"]
def wsX4_why_r2 : List Cond := [Cond.fieldLink RX2 15 "LayeredCharters$Rules" "kinds" "[I", Cond.fieldLink RX2 24 "LayeredCharters$Rules" "seals" "[I", Cond.fieldLink RX2 11 "LayeredCharters$Rules" "layers" "[I", Cond.methodLink RX2 58 yX2_permittedPairs, Cond.instanceMethod yX2_permittedPairs, Cond.selects RX2 yX2_permittedPairs yX2_permittedPairs, Cond.code yX2_permittedPairs cX2_permittedPairs 3 (some .int), Cond.fieldLink RX2 27 "LayeredCharters$Rules" "pairs" "[I", Cond.methodLink RX2 62 yX2_heldPairs, Cond.instanceMethod yX2_heldPairs, Cond.selects RX2 yX2_heldPairs yX2_heldPairs, Cond.code yX2_heldPairs cX2_heldPairs 4 (some .int), Cond.methodLink RX2 82 yX2_lifts, Cond.instanceMethod yX2_lifts, Cond.selects RX2 yX2_lifts yX2_lifts, Cond.code yX2_lifts cX2_lifts 3 (some .boolean)]
def wsX4_why : List Cond := .code yX4_why cX4_why 4 (some .int) :: ((wsX4_why_r1 ++ wsX4_why_r2) ++ wsX40 ++ wsX30 ++ wsX20)
def wsX4_idleRules_r1 : List Cond := [Cond.fieldLink RX4 12 "LayeredCharters" "now" "LLayeredCharters$State;", Cond.fieldLink RX4 52 "LayeredCharters$State" "rules" "LLayeredCharters$Rules;", Cond.fieldLink RX4 55 "LayeredCharters$Rules" "size" "I", Cond.methodLink RX4 146 yX2_triples, Cond.instanceMethod yX2_triples, Cond.selects RX2 yX2_triples yX2_triples, Cond.initialized RX2, Cond.code yX2_triples cX2_triples 4 (some .int), Cond.methodLink RX2 58 yX2_permittedPairs, Cond.instanceMethod yX2_permittedPairs, Cond.selects RX2 yX2_permittedPairs yX2_permittedPairs, Cond.code yX2_permittedPairs cX2_permittedPairs 3 (some .int), Cond.fieldLink RX2 30 "LayeredCharters$Rules" "size" "I", Cond.fieldLink RX2 15 "LayeredCharters$Rules" "kinds" "[I", Cond.fieldLink RX2 27 "LayeredCharters$Rules" "pairs" "[I", Cond.methodLink RX2 77 yJ6_bitCount_0f7a4, Cond.static yJ6_bitCount_0f7a4, Cond.initialized RJ6, Cond.code yJ6_bitCount_0f7a4 cJ6_bitCount_0f7a4 1 (some .int), Cond.constant RJ6 265 (1431655765), Cond.constant RJ6 266 (858993459), Cond.constant RJ6 267 (252645135), Cond.methodLink RX2 74 yX2_heldPairsOfSeal, Cond.instanceMethod yX2_heldPairsOfSeal]
def wsX4_idleRules_r2 : List Cond := [Cond.selects RX2 yX2_heldPairsOfSeal yX2_heldPairsOfSeal, Cond.code yX2_heldPairsOfSeal cX2_heldPairsOfSeal 4 (some .int), Cond.fieldLink RX2 24 "LayeredCharters$Rules" "seals" "[I", Cond.methodLink RX2 62 yX2_heldPairs, Cond.instanceMethod yX2_heldPairs, Cond.selects RX2 yX2_heldPairs yX2_heldPairs, Cond.code yX2_heldPairs cX2_heldPairs 4 (some .int), Cond.methodLink RX2 82 yX2_lifts, Cond.instanceMethod yX2_lifts, Cond.selects RX2 yX2_lifts yX2_lifts, Cond.code yX2_lifts cX2_lifts 3 (some .boolean), Cond.fieldLink RX2 11 "LayeredCharters$Rules" "layers" "[I", Cond.methodLink RX4 149 yX4_isIdle, Cond.instanceMethod yX4_isIdle, Cond.selects RX4 yX4_isIdle yX4_isIdle, Cond.initialized RX4, Cond.code yX4_isIdle cX4_isIdle 3 (some .boolean), Cond.methodLink RX4 195 yX4_triplesWithout, Cond.instanceMethod yX4_triplesWithout, Cond.selects RX4 yX4_triplesWithout yX4_triplesWithout, Cond.code yX4_triplesWithout cX4_triplesWithout 2 (some .int), Cond.fieldLink RX4 37 "LayeredCharters" "trial" "LLayeredCharters$Rules;", Cond.methodLink RX4 219 yX2_copyFrom, Cond.instanceMethod yX2_copyFrom]
def wsX4_idleRules_r3 : List Cond := [Cond.selects RX2 yX2_copyFrom yX2_copyFrom, Cond.code yX2_copyFrom cX2_copyFrom 2 none, Cond.fieldLink RX2 18 "LayeredCharters$Rules" "crafts" "[I", Cond.fieldLink RX2 21 "LayeredCharters$Rules" "deeds" "[I", Cond.static yX4_copyRow, Cond.code yX4_copyRow cX4_copyRow 2 none, Cond.methodLink RX4 229 Lib.Math.min.name, Cond.static Lib.Math.min.name, Cond.initialized "java/lang/Math", Cond.code Lib.Math.min.name Lib.Math.min.code 2 (some .int), Cond.methodLink RX4 232 arraycopyName, Cond.native arraycopyName, Cond.static arraycopyName, Cond.initialized "java/lang/System", Cond.methodLink RX4 68 yX2_remove, Cond.instanceMethod yX2_remove, Cond.selects RX2 yX2_remove yX2_remove, Cond.code yX2_remove cX2_remove 2 none, Cond.methodLink RX2 42 yX2_has, Cond.instanceMethod yX2_has, Cond.selects RX2 yX2_has yX2_has, Cond.code yX2_has cX2_has 2 (some .boolean), Cond.static yX4_closeGap, Cond.code yX4_closeGap cX4_closeGap 3 none]
def wsX4_idleRules_r4 : List Cond := [Cond.methodLink RX4 224 Lib.Math.max.name, Cond.static Lib.Math.max.name, Cond.code Lib.Math.max.name Lib.Math.max.code 2 (some .int)]
def wsX4_idleRules : List Cond := .code yX4_idleRules cX4_idleRules 4 (some .int) :: ((wsX4_idleRules_r1 ++ (wsX4_idleRules_r2 ++ (wsX4_idleRules_r3 ++ wsX4_idleRules_r4))) ++ wsX40 ++ wsX30 ++ wsX20)
def wsX4_count_r1 : List Cond := [Cond.fieldLink RX4 12 "LayeredCharters" "now" "LLayeredCharters$State;", Cond.fieldLink RX4 52 "LayeredCharters$State" "rules" "LLayeredCharters$Rules;", Cond.fieldLink RX4 55 "LayeredCharters$Rules" "size" "I", Cond.fieldLink RX4 105 "LayeredCharters$State" "guild" "LLayeredCharters$Guild;", Cond.fieldLink RX4 109 "LayeredCharters$Guild" "size" "I", Cond.fieldLink RX4 183 "LayeredCharters$Guild" "doneInAll" "I", Cond.fieldLink RX4 19 "LayeredCharters" "pad" "LLayeredCharters$Pad;", Cond.fieldLink RX4 189 "LayeredCharters$Pad" "length" "I", Cond.fieldLink RX4 30 "LayeredCharters" "remembered" "I", Cond.methodLink RX4 174 yX2_sizeOfKind, Cond.instanceMethod yX2_sizeOfKind, Cond.selects RX2 yX2_sizeOfKind yX2_sizeOfKind, Cond.initialized RX2, Cond.code yX2_sizeOfKind cX2_sizeOfKind 4 (some .int), Cond.fieldLink RX2 30 "LayeredCharters$Rules" "size" "I", Cond.fieldLink RX2 15 "LayeredCharters$Rules" "kinds" "[I", Cond.methodLink RX4 177 yX4_idleRules, Cond.instanceMethod yX4_idleRules, Cond.selects RX4 yX4_idleRules yX4_idleRules, Cond.initialized RX4, Cond.code yX4_idleRules cX4_idleRules 4 (some .int), Cond.methodLink RX4 146 yX2_triples, Cond.instanceMethod yX2_triples, Cond.selects RX2 yX2_triples yX2_triples]
def wsX4_count_r2 : List Cond := [Cond.code yX2_triples cX2_triples 4 (some .int), Cond.methodLink RX2 58 yX2_permittedPairs, Cond.instanceMethod yX2_permittedPairs, Cond.selects RX2 yX2_permittedPairs yX2_permittedPairs, Cond.code yX2_permittedPairs cX2_permittedPairs 3 (some .int), Cond.fieldLink RX2 27 "LayeredCharters$Rules" "pairs" "[I", Cond.methodLink RX2 77 yJ6_bitCount_0f7a4, Cond.static yJ6_bitCount_0f7a4, Cond.initialized RJ6, Cond.code yJ6_bitCount_0f7a4 cJ6_bitCount_0f7a4 1 (some .int), Cond.constant RJ6 265 (1431655765), Cond.constant RJ6 266 (858993459), Cond.constant RJ6 267 (252645135), Cond.methodLink RX2 74 yX2_heldPairsOfSeal, Cond.instanceMethod yX2_heldPairsOfSeal, Cond.selects RX2 yX2_heldPairsOfSeal yX2_heldPairsOfSeal, Cond.code yX2_heldPairsOfSeal cX2_heldPairsOfSeal 4 (some .int), Cond.fieldLink RX2 24 "LayeredCharters$Rules" "seals" "[I", Cond.methodLink RX2 62 yX2_heldPairs, Cond.instanceMethod yX2_heldPairs, Cond.selects RX2 yX2_heldPairs yX2_heldPairs, Cond.code yX2_heldPairs cX2_heldPairs 4 (some .int), Cond.methodLink RX2 82 yX2_lifts, Cond.instanceMethod yX2_lifts]
def wsX4_count_r3 : List Cond := [Cond.selects RX2 yX2_lifts yX2_lifts, Cond.code yX2_lifts cX2_lifts 3 (some .boolean), Cond.fieldLink RX2 11 "LayeredCharters$Rules" "layers" "[I", Cond.methodLink RX4 149 yX4_isIdle, Cond.instanceMethod yX4_isIdle, Cond.selects RX4 yX4_isIdle yX4_isIdle, Cond.code yX4_isIdle cX4_isIdle 3 (some .boolean), Cond.methodLink RX4 195 yX4_triplesWithout, Cond.instanceMethod yX4_triplesWithout, Cond.selects RX4 yX4_triplesWithout yX4_triplesWithout, Cond.code yX4_triplesWithout cX4_triplesWithout 2 (some .int), Cond.fieldLink RX4 37 "LayeredCharters" "trial" "LLayeredCharters$Rules;", Cond.methodLink RX4 219 yX2_copyFrom, Cond.instanceMethod yX2_copyFrom, Cond.selects RX2 yX2_copyFrom yX2_copyFrom, Cond.code yX2_copyFrom cX2_copyFrom 2 none, Cond.fieldLink RX2 18 "LayeredCharters$Rules" "crafts" "[I", Cond.fieldLink RX2 21 "LayeredCharters$Rules" "deeds" "[I", Cond.static yX4_copyRow, Cond.code yX4_copyRow cX4_copyRow 2 none, Cond.methodLink RX4 229 Lib.Math.min.name, Cond.static Lib.Math.min.name, Cond.initialized "java/lang/Math", Cond.code Lib.Math.min.name Lib.Math.min.code 2 (some .int)]
def wsX4_count_r4 : List Cond := [Cond.methodLink RX4 232 arraycopyName, Cond.native arraycopyName, Cond.static arraycopyName, Cond.initialized "java/lang/System", Cond.methodLink RX4 68 yX2_remove, Cond.instanceMethod yX2_remove, Cond.selects RX2 yX2_remove yX2_remove, Cond.code yX2_remove cX2_remove 2 none, Cond.methodLink RX2 42 yX2_has, Cond.instanceMethod yX2_has, Cond.selects RX2 yX2_has yX2_has, Cond.code yX2_has cX2_has 2 (some .boolean), Cond.static yX4_closeGap, Cond.code yX4_closeGap cX4_closeGap 3 none, Cond.methodLink RX4 224 Lib.Math.max.name, Cond.static Lib.Math.max.name, Cond.code Lib.Math.max.name Lib.Math.max.code 2 (some .int), Cond.methodLink RX4 180 yX2_oddPairs, Cond.instanceMethod yX2_oddPairs, Cond.selects RX2 yX2_oddPairs yX2_oddPairs, Cond.code yX2_oddPairs cX2_oddPairs 3 (some .int), Cond.methodLink RX2 54 yX2_oddsOf, Cond.instanceMethod yX2_oddsOf, Cond.selects RX2 yX2_oddsOf yX2_oddsOf]
def wsX4_count_r5 : List Cond := [Cond.code yX2_oddsOf cX2_oddsOf 4 (some .int), Cond.methodLink RX2 50 yX2_areAtOdds, Cond.instanceMethod yX2_areAtOdds, Cond.selects RX2 yX2_areAtOdds yX2_areAtOdds, Cond.code yX2_areAtOdds cX2_areAtOdds 3 (some .boolean), Cond.methodLink RX4 186 yX0_refusalsOf, Cond.instanceMethod yX0_refusalsOf, Cond.selects RX0 yX0_refusalsOf yX0_refusalsOf, Cond.initialized RX0, Cond.code yX0_refusalsOf cX0_refusalsOf 2 (some .int), Cond.fieldLink RX0 24 "LayeredCharters$Guild" "refusals" "[I", Cond.static yX4_isBetween, Cond.code yX4_isBetween cX4_isBetween 3 (some .boolean)]
def wsX4_count : List Cond := .code yX4_count cX4_count 2 (some .int) :: ((wsX4_count_r1 ++ (wsX4_count_r2 ++ (wsX4_count_r3 ++ (wsX4_count_r4 ++ wsX4_count_r5)))) ++ wsX40 ++ wsX30 ++ wsX20 ++ wsX00 ++ wsX10)
def wsX4_leastRank_r1 : List Cond := [Cond.fieldLink RX4 12 "LayeredCharters" "now" "LLayeredCharters$State;", Cond.fieldLink RX4 52 "LayeredCharters$State" "rules" "LLayeredCharters$Rules;", Cond.methodLink RX4 99 yX4_isCraft, Cond.static yX4_isCraft, Cond.initialized RX4, Cond.code yX4_isCraft cX4_isCraft 1 (some .boolean), Cond.methodLink RX4 45 yX4_isBetween, Cond.static yX4_isBetween, Cond.code yX4_isBetween cX4_isBetween 3 (some .boolean), Cond.methodLink RX4 123 yX4_isDeed, Cond.static yX4_isDeed, Cond.code yX4_isDeed cX4_isDeed 1 (some .boolean), Cond.methodLink RX4 129 yX4_pairsOf, Cond.static yX4_pairsOf, Cond.code yX4_pairsOf cX4_pairsOf 5 (some .int), Cond.methodLink RX4 192 yX2_leastRankFor, Cond.instanceMethod yX2_leastRankFor, Cond.selects RX2 yX2_leastRankFor yX2_leastRankFor, Cond.initialized RX2, Cond.code yX2_leastRankFor cX2_leastRankFor 3 (some .int), Cond.methodLink RX2 58 yX2_permittedPairs, Cond.instanceMethod yX2_permittedPairs, Cond.selects RX2 yX2_permittedPairs yX2_permittedPairs, Cond.code yX2_permittedPairs cX2_permittedPairs 3 (some .int)]
def wsX4_leastRank_r2 : List Cond := [Cond.fieldLink RX2 30 "LayeredCharters$Rules" "size" "I", Cond.fieldLink RX2 15 "LayeredCharters$Rules" "kinds" "[I", Cond.fieldLink RX2 27 "LayeredCharters$Rules" "pairs" "[I", Cond.methodLink RX2 74 yX2_heldPairsOfSeal, Cond.instanceMethod yX2_heldPairsOfSeal, Cond.selects RX2 yX2_heldPairsOfSeal yX2_heldPairsOfSeal, Cond.code yX2_heldPairsOfSeal cX2_heldPairsOfSeal 4 (some .int), Cond.fieldLink RX2 24 "LayeredCharters$Rules" "seals" "[I", Cond.methodLink RX2 62 yX2_heldPairs, Cond.instanceMethod yX2_heldPairs, Cond.selects RX2 yX2_heldPairs yX2_heldPairs, Cond.code yX2_heldPairs cX2_heldPairs 4 (some .int), Cond.methodLink RX2 82 yX2_lifts, Cond.instanceMethod yX2_lifts, Cond.selects RX2 yX2_lifts yX2_lifts, Cond.code yX2_lifts cX2_lifts 3 (some .boolean), Cond.fieldLink RX2 11 "LayeredCharters$Rules" "layers" "[I"]
def wsX4_leastRank : List Cond := .code yX4_leastRank cX4_leastRank 3 (some .int) :: ((wsX4_leastRank_r1 ++ wsX4_leastRank_r2) ++ wsX40 ++ wsX30 ++ wsX20)
def wsX4_ifStruck_r1 : List Cond := [Cond.fieldLink RX4 12 "LayeredCharters" "now" "LLayeredCharters$State;", Cond.fieldLink RX4 52 "LayeredCharters$State" "rules" "LLayeredCharters$Rules;", Cond.methodLink RX4 65 yX2_has, Cond.instanceMethod yX2_has, Cond.selects RX2 yX2_has yX2_has, Cond.initialized RX2, Cond.code yX2_has cX2_has 2 (some .boolean), Cond.fieldLink RX2 30 "LayeredCharters$Rules" "size" "I", Cond.methodLink RX4 195 yX4_triplesWithout, Cond.instanceMethod yX4_triplesWithout, Cond.selects RX4 yX4_triplesWithout yX4_triplesWithout, Cond.initialized RX4, Cond.code yX4_triplesWithout cX4_triplesWithout 2 (some .int), Cond.fieldLink RX4 37 "LayeredCharters" "trial" "LLayeredCharters$Rules;", Cond.methodLink RX4 219 yX2_copyFrom, Cond.instanceMethod yX2_copyFrom, Cond.selects RX2 yX2_copyFrom yX2_copyFrom, Cond.code yX2_copyFrom cX2_copyFrom 2 none, Cond.fieldLink RX2 11 "LayeredCharters$Rules" "layers" "[I", Cond.fieldLink RX2 15 "LayeredCharters$Rules" "kinds" "[I", Cond.fieldLink RX2 18 "LayeredCharters$Rules" "crafts" "[I", Cond.fieldLink RX2 21 "LayeredCharters$Rules" "deeds" "[I", Cond.fieldLink RX2 24 "LayeredCharters$Rules" "seals" "[I", Cond.fieldLink RX2 27 "LayeredCharters$Rules" "pairs" "[I"]
def wsX4_ifStruck_r2 : List Cond := [Cond.static yX4_copyRow, Cond.code yX4_copyRow cX4_copyRow 2 none, Cond.methodLink RX4 229 Lib.Math.min.name, Cond.static Lib.Math.min.name, Cond.initialized "java/lang/Math", Cond.code Lib.Math.min.name Lib.Math.min.code 2 (some .int), Cond.methodLink RX4 232 arraycopyName, Cond.native arraycopyName, Cond.static arraycopyName, Cond.initialized "java/lang/System", Cond.methodLink RX4 68 yX2_remove, Cond.instanceMethod yX2_remove, Cond.selects RX2 yX2_remove yX2_remove, Cond.code yX2_remove cX2_remove 2 none, Cond.methodLink RX2 42 yX2_has, Cond.static yX4_closeGap, Cond.code yX4_closeGap cX4_closeGap 3 none, Cond.methodLink RX4 224 Lib.Math.max.name, Cond.static Lib.Math.max.name, Cond.code Lib.Math.max.name Lib.Math.max.code 2 (some .int), Cond.methodLink RX4 146 yX2_triples, Cond.instanceMethod yX2_triples, Cond.selects RX2 yX2_triples yX2_triples, Cond.code yX2_triples cX2_triples 4 (some .int)]
def wsX4_ifStruck_r3 : List Cond := [Cond.methodLink RX2 58 yX2_permittedPairs, Cond.instanceMethod yX2_permittedPairs, Cond.selects RX2 yX2_permittedPairs yX2_permittedPairs, Cond.code yX2_permittedPairs cX2_permittedPairs 3 (some .int), Cond.methodLink RX2 77 yJ6_bitCount_0f7a4, Cond.static yJ6_bitCount_0f7a4, Cond.initialized RJ6, Cond.code yJ6_bitCount_0f7a4 cJ6_bitCount_0f7a4 1 (some .int), Cond.constant RJ6 265 (1431655765), Cond.constant RJ6 266 (858993459), Cond.constant RJ6 267 (252645135), Cond.methodLink RX2 74 yX2_heldPairsOfSeal, Cond.instanceMethod yX2_heldPairsOfSeal, Cond.selects RX2 yX2_heldPairsOfSeal yX2_heldPairsOfSeal, Cond.code yX2_heldPairsOfSeal cX2_heldPairsOfSeal 4 (some .int), Cond.methodLink RX2 62 yX2_heldPairs, Cond.instanceMethod yX2_heldPairs, Cond.selects RX2 yX2_heldPairs yX2_heldPairs, Cond.code yX2_heldPairs cX2_heldPairs 4 (some .int), Cond.methodLink RX2 82 yX2_lifts, Cond.instanceMethod yX2_lifts, Cond.selects RX2 yX2_lifts yX2_lifts, Cond.code yX2_lifts cX2_lifts 3 (some .boolean)]
def wsX4_ifStruck : List Cond := .code yX4_ifStruck cX4_ifStruck 2 (some .int) :: ((wsX4_ifStruck_r1 ++ (wsX4_ifStruck_r2 ++ wsX4_ifStruck_r3)) ++ wsX40 ++ wsX30 ++ wsX20)
def wsX4_worstBan_r1 : List Cond := [Cond.fieldLink RX4 12 "LayeredCharters" "now" "LLayeredCharters$State;", Cond.fieldLink RX4 52 "LayeredCharters$State" "rules" "LLayeredCharters$Rules;", Cond.fieldLink RX4 55 "LayeredCharters$Rules" "size" "I", Cond.fieldLink RX4 76 "LayeredCharters$Rules" "kinds" "[I", Cond.methodLink RX4 195 yX4_triplesWithout, Cond.instanceMethod yX4_triplesWithout, Cond.selects RX4 yX4_triplesWithout yX4_triplesWithout, Cond.initialized RX4, Cond.code yX4_triplesWithout cX4_triplesWithout 2 (some .int), Cond.fieldLink RX4 37 "LayeredCharters" "trial" "LLayeredCharters$Rules;", Cond.methodLink RX4 219 yX2_copyFrom, Cond.instanceMethod yX2_copyFrom, Cond.selects RX2 yX2_copyFrom yX2_copyFrom, Cond.initialized RX2, Cond.code yX2_copyFrom cX2_copyFrom 2 none, Cond.fieldLink RX2 11 "LayeredCharters$Rules" "layers" "[I", Cond.fieldLink RX2 15 "LayeredCharters$Rules" "kinds" "[I", Cond.fieldLink RX2 18 "LayeredCharters$Rules" "crafts" "[I", Cond.fieldLink RX2 21 "LayeredCharters$Rules" "deeds" "[I", Cond.fieldLink RX2 24 "LayeredCharters$Rules" "seals" "[I", Cond.fieldLink RX2 27 "LayeredCharters$Rules" "pairs" "[I", Cond.fieldLink RX2 30 "LayeredCharters$Rules" "size" "I", Cond.static yX4_copyRow, Cond.code yX4_copyRow cX4_copyRow 2 none]
def wsX4_worstBan_r2 : List Cond := [Cond.methodLink RX4 229 Lib.Math.min.name, Cond.static Lib.Math.min.name, Cond.initialized "java/lang/Math", Cond.code Lib.Math.min.name Lib.Math.min.code 2 (some .int), Cond.methodLink RX4 232 arraycopyName, Cond.native arraycopyName, Cond.static arraycopyName, Cond.initialized "java/lang/System", Cond.methodLink RX4 68 yX2_remove, Cond.instanceMethod yX2_remove, Cond.selects RX2 yX2_remove yX2_remove, Cond.code yX2_remove cX2_remove 2 none, Cond.methodLink RX2 42 yX2_has, Cond.instanceMethod yX2_has, Cond.selects RX2 yX2_has yX2_has, Cond.code yX2_has cX2_has 2 (some .boolean), Cond.static yX4_closeGap, Cond.code yX4_closeGap cX4_closeGap 3 none, Cond.methodLink RX4 224 Lib.Math.max.name, Cond.static Lib.Math.max.name, Cond.code Lib.Math.max.name Lib.Math.max.code 2 (some .int), Cond.methodLink RX4 146 yX2_triples, Cond.instanceMethod yX2_triples, Cond.selects RX2 yX2_triples yX2_triples]
def wsX4_worstBan_r3 : List Cond := [Cond.code yX2_triples cX2_triples 4 (some .int), Cond.methodLink RX2 58 yX2_permittedPairs, Cond.instanceMethod yX2_permittedPairs, Cond.selects RX2 yX2_permittedPairs yX2_permittedPairs, Cond.code yX2_permittedPairs cX2_permittedPairs 3 (some .int), Cond.methodLink RX2 77 yJ6_bitCount_0f7a4, Cond.static yJ6_bitCount_0f7a4, Cond.initialized RJ6, Cond.code yJ6_bitCount_0f7a4 cJ6_bitCount_0f7a4 1 (some .int), Cond.constant RJ6 265 (1431655765), Cond.constant RJ6 266 (858993459), Cond.constant RJ6 267 (252645135), Cond.methodLink RX2 74 yX2_heldPairsOfSeal, Cond.instanceMethod yX2_heldPairsOfSeal, Cond.selects RX2 yX2_heldPairsOfSeal yX2_heldPairsOfSeal, Cond.code yX2_heldPairsOfSeal cX2_heldPairsOfSeal 4 (some .int), Cond.methodLink RX2 62 yX2_heldPairs, Cond.instanceMethod yX2_heldPairs, Cond.selects RX2 yX2_heldPairs yX2_heldPairs, Cond.code yX2_heldPairs cX2_heldPairs 4 (some .int), Cond.methodLink RX2 82 yX2_lifts, Cond.instanceMethod yX2_lifts, Cond.selects RX2 yX2_lifts yX2_lifts, Cond.code yX2_lifts cX2_lifts 3 (some .boolean)]
def wsX4_worstBan : List Cond := .code yX4_worstBan cX4_worstBan 5 (some .int) :: ((wsX4_worstBan_r1 ++ (wsX4_worstBan_r2 ++ wsX4_worstBan_r3)) ++ wsX40 ++ wsX30 ++ wsX20)
def wsX4_triplesWithWaiver_r1 : List Cond := [Cond.fieldLink RX4 37 "LayeredCharters" "trial" "LLayeredCharters$Rules;", Cond.fieldLink RX4 12 "LayeredCharters" "now" "LLayeredCharters$State;", Cond.fieldLink RX4 52 "LayeredCharters$State" "rules" "LLayeredCharters$Rules;", Cond.methodLink RX4 219 yX2_copyFrom, Cond.instanceMethod yX2_copyFrom, Cond.selects RX2 yX2_copyFrom yX2_copyFrom, Cond.initialized RX2, Cond.code yX2_copyFrom cX2_copyFrom 2 none, Cond.fieldLink RX2 11 "LayeredCharters$Rules" "layers" "[I", Cond.fieldLink RX2 15 "LayeredCharters$Rules" "kinds" "[I", Cond.fieldLink RX2 18 "LayeredCharters$Rules" "crafts" "[I", Cond.fieldLink RX2 21 "LayeredCharters$Rules" "deeds" "[I", Cond.fieldLink RX2 24 "LayeredCharters$Rules" "seals" "[I", Cond.fieldLink RX2 27 "LayeredCharters$Rules" "pairs" "[I", Cond.fieldLink RX2 30 "LayeredCharters$Rules" "size" "I", Cond.static yX4_copyRow, Cond.initialized RX4, Cond.code yX4_copyRow cX4_copyRow 2 none, Cond.methodLink RX4 229 Lib.Math.min.name, Cond.static Lib.Math.min.name, Cond.initialized "java/lang/Math", Cond.code Lib.Math.min.name Lib.Math.min.code 2 (some .int), Cond.methodLink RX4 232 arraycopyName, Cond.native arraycopyName]
def wsX4_triplesWithWaiver_r2 : List Cond := [Cond.static arraycopyName, Cond.initialized "java/lang/System", Cond.methodLink RX4 61 yX2_append, Cond.instanceMethod yX2_append, Cond.selects RX2 yX2_append yX2_append, Cond.code yX2_append cX2_append 6 none, Cond.static yX4_pairsOf, Cond.code yX4_pairsOf cX4_pairsOf 5 (some .int), Cond.methodLink RX4 146 yX2_triples, Cond.instanceMethod yX2_triples, Cond.selects RX2 yX2_triples yX2_triples, Cond.code yX2_triples cX2_triples 4 (some .int), Cond.methodLink RX2 58 yX2_permittedPairs, Cond.instanceMethod yX2_permittedPairs, Cond.selects RX2 yX2_permittedPairs yX2_permittedPairs, Cond.code yX2_permittedPairs cX2_permittedPairs 3 (some .int), Cond.methodLink RX2 77 yJ6_bitCount_0f7a4, Cond.static yJ6_bitCount_0f7a4, Cond.initialized RJ6, Cond.code yJ6_bitCount_0f7a4 cJ6_bitCount_0f7a4 1 (some .int), Cond.constant RJ6 265 (1431655765), Cond.constant RJ6 266 (858993459), Cond.constant RJ6 267 (252645135), Cond.methodLink RX2 74 yX2_heldPairsOfSeal]
def wsX4_triplesWithWaiver_r3 : List Cond := [Cond.instanceMethod yX2_heldPairsOfSeal, Cond.selects RX2 yX2_heldPairsOfSeal yX2_heldPairsOfSeal, Cond.code yX2_heldPairsOfSeal cX2_heldPairsOfSeal 4 (some .int), Cond.methodLink RX2 62 yX2_heldPairs, Cond.instanceMethod yX2_heldPairs, Cond.selects RX2 yX2_heldPairs yX2_heldPairs, Cond.code yX2_heldPairs cX2_heldPairs 4 (some .int), Cond.methodLink RX2 82 yX2_lifts, Cond.instanceMethod yX2_lifts, Cond.selects RX2 yX2_lifts yX2_lifts, Cond.code yX2_lifts cX2_lifts 3 (some .boolean)]
def wsX4_triplesWithWaiver : List Cond := .code yX4_triplesWithWaiver cX4_triplesWithWaiver 3 (some .int) :: ((wsX4_triplesWithWaiver_r1 ++ (wsX4_triplesWithWaiver_r2 ++ wsX4_triplesWithWaiver_r3)) ++ wsX40 ++ wsX30 ++ wsX20)
def wsX4_bestWaiver_r1 : List Cond := [Cond.methodLink RX4 49 yX4_isSeal, Cond.static yX4_isSeal, Cond.initialized RX4, Cond.code yX4_isSeal cX4_isSeal 1 (some .boolean), Cond.methodLink RX4 45 yX4_isBetween, Cond.static yX4_isBetween, Cond.code yX4_isBetween cX4_isBetween 3 (some .boolean), Cond.methodLink RX4 198 yX4_triplesWithWaiver, Cond.instanceMethod yX4_triplesWithWaiver, Cond.selects RX4 yX4_triplesWithWaiver yX4_triplesWithWaiver, Cond.code yX4_triplesWithWaiver cX4_triplesWithWaiver 3 (some .int), Cond.fieldLink RX4 37 "LayeredCharters" "trial" "LLayeredCharters$Rules;", Cond.fieldLink RX4 12 "LayeredCharters" "now" "LLayeredCharters$State;", Cond.fieldLink RX4 52 "LayeredCharters$State" "rules" "LLayeredCharters$Rules;", Cond.methodLink RX4 219 yX2_copyFrom, Cond.instanceMethod yX2_copyFrom, Cond.selects RX2 yX2_copyFrom yX2_copyFrom, Cond.initialized RX2, Cond.code yX2_copyFrom cX2_copyFrom 2 none, Cond.fieldLink RX2 11 "LayeredCharters$Rules" "layers" "[I", Cond.fieldLink RX2 15 "LayeredCharters$Rules" "kinds" "[I", Cond.fieldLink RX2 18 "LayeredCharters$Rules" "crafts" "[I", Cond.fieldLink RX2 21 "LayeredCharters$Rules" "deeds" "[I", Cond.fieldLink RX2 24 "LayeredCharters$Rules" "seals" "[I"]
def wsX4_bestWaiver_r2 : List Cond := [Cond.fieldLink RX2 27 "LayeredCharters$Rules" "pairs" "[I", Cond.fieldLink RX2 30 "LayeredCharters$Rules" "size" "I", Cond.static yX4_copyRow, Cond.code yX4_copyRow cX4_copyRow 2 none, Cond.methodLink RX4 229 Lib.Math.min.name, Cond.static Lib.Math.min.name, Cond.initialized "java/lang/Math", Cond.code Lib.Math.min.name Lib.Math.min.code 2 (some .int), Cond.methodLink RX4 232 arraycopyName, Cond.native arraycopyName, Cond.static arraycopyName, Cond.initialized "java/lang/System", Cond.methodLink RX4 61 yX2_append, Cond.instanceMethod yX2_append, Cond.selects RX2 yX2_append yX2_append, Cond.code yX2_append cX2_append 6 none, Cond.static yX4_pairsOf, Cond.code yX4_pairsOf cX4_pairsOf 5 (some .int), Cond.methodLink RX4 146 yX2_triples, Cond.instanceMethod yX2_triples, Cond.selects RX2 yX2_triples yX2_triples, Cond.code yX2_triples cX2_triples 4 (some .int), Cond.methodLink RX2 58 yX2_permittedPairs, Cond.instanceMethod yX2_permittedPairs]
def wsX4_bestWaiver_r3 : List Cond := [Cond.selects RX2 yX2_permittedPairs yX2_permittedPairs, Cond.code yX2_permittedPairs cX2_permittedPairs 3 (some .int), Cond.methodLink RX2 77 yJ6_bitCount_0f7a4, Cond.static yJ6_bitCount_0f7a4, Cond.initialized RJ6, Cond.code yJ6_bitCount_0f7a4 cJ6_bitCount_0f7a4 1 (some .int), Cond.constant RJ6 265 (1431655765), Cond.constant RJ6 266 (858993459), Cond.constant RJ6 267 (252645135), Cond.methodLink RX2 74 yX2_heldPairsOfSeal, Cond.instanceMethod yX2_heldPairsOfSeal, Cond.selects RX2 yX2_heldPairsOfSeal yX2_heldPairsOfSeal, Cond.code yX2_heldPairsOfSeal cX2_heldPairsOfSeal 4 (some .int), Cond.methodLink RX2 62 yX2_heldPairs, Cond.instanceMethod yX2_heldPairs, Cond.selects RX2 yX2_heldPairs yX2_heldPairs, Cond.code yX2_heldPairs cX2_heldPairs 4 (some .int), Cond.methodLink RX2 82 yX2_lifts, Cond.instanceMethod yX2_lifts, Cond.selects RX2 yX2_lifts yX2_lifts, Cond.code yX2_lifts cX2_lifts 3 (some .boolean)]
def wsX4_bestWaiver : List Cond := .code yX4_bestWaiver cX4_bestWaiver 6 (some .int) :: ((wsX4_bestWaiver_r1 ++ (wsX4_bestWaiver_r2 ++ wsX4_bestWaiver_r3)) ++ wsX40 ++ wsX30 ++ wsX20)
def wsX4_undo_r1 : List Cond := [Cond.fieldLink RX4 30 "LayeredCharters" "remembered" "I", Cond.fieldLink RX4 27 "LayeredCharters" "history" "[LLayeredCharters$State;", Cond.fieldLink RX4 12 "LayeredCharters" "now" "LLayeredCharters$State;", Cond.methodLink RX4 45 yX4_isBetween, Cond.static yX4_isBetween, Cond.initialized RX4, Cond.code yX4_isBetween cX4_isBetween 3 (some .boolean), Cond.methodLink RX4 208 yX3_copyFrom, Cond.instanceMethod yX3_copyFrom, Cond.selects RX3 yX3_copyFrom yX3_copyFrom, Cond.initialized RX3, Cond.code yX3_copyFrom cX3_copyFrom 2 none, Cond.fieldLink RX3 10 "LayeredCharters$State" "rules" "LLayeredCharters$Rules;", Cond.fieldLink RX3 19 "LayeredCharters$State" "guild" "LLayeredCharters$Guild;", Cond.methodLink RX3 23 yX2_copyFrom, Cond.instanceMethod yX2_copyFrom, Cond.selects RX2 yX2_copyFrom yX2_copyFrom, Cond.initialized RX2, Cond.code yX2_copyFrom cX2_copyFrom 2 none, Cond.fieldLink RX2 11 "LayeredCharters$Rules" "layers" "[I", Cond.fieldLink RX2 15 "LayeredCharters$Rules" "kinds" "[I", Cond.fieldLink RX2 18 "LayeredCharters$Rules" "crafts" "[I", Cond.fieldLink RX2 21 "LayeredCharters$Rules" "deeds" "[I", Cond.fieldLink RX2 24 "LayeredCharters$Rules" "seals" "[I"]
def wsX4_undo_r2 : List Cond := [Cond.fieldLink RX2 27 "LayeredCharters$Rules" "pairs" "[I", Cond.fieldLink RX2 30 "LayeredCharters$Rules" "size" "I", Cond.static yX4_copyRow, Cond.code yX4_copyRow cX4_copyRow 2 none, Cond.methodLink RX4 229 Lib.Math.min.name, Cond.static Lib.Math.min.name, Cond.initialized "java/lang/Math", Cond.code Lib.Math.min.name Lib.Math.min.code 2 (some .int), Cond.methodLink RX4 232 arraycopyName, Cond.native arraycopyName, Cond.static arraycopyName, Cond.initialized "java/lang/System", Cond.methodLink RX3 27 yX0_copyFrom, Cond.instanceMethod yX0_copyFrom, Cond.selects RX0 yX0_copyFrom yX0_copyFrom, Cond.initialized RX0, Cond.code yX0_copyFrom cX0_copyFrom 2 none, Cond.fieldLink RX0 9 "LayeredCharters$Guild" "crafts" "[I", Cond.fieldLink RX0 15 "LayeredCharters$Guild" "ranks" "[I", Cond.fieldLink RX0 18 "LayeredCharters$Guild" "done" "[I", Cond.fieldLink RX0 21 "LayeredCharters$Guild" "refused" "[I", Cond.fieldLink RX0 24 "LayeredCharters$Guild" "refusals" "[I", Cond.fieldLink RX0 27 "LayeredCharters$Guild" "size" "I", Cond.fieldLink RX0 31 "LayeredCharters$Guild" "doneInAll" "I"]
def wsX4_undo : List Cond := .code yX4_undo cX4_undo 2 (some .int) :: ((wsX4_undo_r1 ++ wsX4_undo_r2) ++ wsX40 ++ wsX30 ++ wsX20 ++ wsX00)
def wsJ9_max_7cf53 : List Cond := .code yJ9_max_7cf53 cJ9_max_7cf53 2 (some .int) :: ([])
def wsJ9_min_7cf53 : List Cond := .code yJ9_min_7cf53 cJ9_min_7cf53 2 (some .int) :: ([])
theorem dX0_init_0 : decode cX0_init 0 = .ok (.aload_n 0, 1) := by decide +kernel
theorem dX0_init_1 : decode cX0_init 1 = .ok (.invokespecial 3, 3) := by decide +kernel
theorem dX0_init_4 : decode cX0_init 4 = .ok (.aload_n 0, 1) := by decide +kernel
theorem dX0_init_5 : decode cX0_init 5 = .ok (.bipush 10, 2) := by decide +kernel
theorem dX0_init_7 : decode cX0_init 7 = .ok (.newarray .int, 2) := by decide +kernel
theorem dX0_init_9 : decode cX0_init 9 = .ok (.putfield 9, 3) := by decide +kernel
theorem dX0_init_12 : decode cX0_init 12 = .ok (.aload_n 0, 1) := by decide +kernel
theorem dX0_init_13 : decode cX0_init 13 = .ok (.bipush 10, 2) := by decide +kernel
theorem dX0_init_15 : decode cX0_init 15 = .ok (.newarray .int, 2) := by decide +kernel
theorem dX0_init_17 : decode cX0_init 17 = .ok (.putfield 15, 3) := by decide +kernel
theorem dX0_init_20 : decode cX0_init 20 = .ok (.aload_n 0, 1) := by decide +kernel
theorem dX0_init_21 : decode cX0_init 21 = .ok (.bipush 10, 2) := by decide +kernel
theorem dX0_init_23 : decode cX0_init 23 = .ok (.newarray .int, 2) := by decide +kernel
theorem dX0_init_25 : decode cX0_init 25 = .ok (.putfield 18, 3) := by decide +kernel
theorem dX0_init_28 : decode cX0_init 28 = .ok (.aload_n 0, 1) := by decide +kernel
theorem dX0_init_29 : decode cX0_init 29 = .ok (.bipush 10, 2) := by decide +kernel
theorem dX0_init_31 : decode cX0_init 31 = .ok (.newarray .int, 2) := by decide +kernel
theorem dX0_init_33 : decode cX0_init 33 = .ok (.putfield 21, 3) := by decide +kernel
theorem dX0_init_36 : decode cX0_init 36 = .ok (.aload_n 0, 1) := by decide +kernel
theorem dX0_init_37 : decode cX0_init 37 = .ok (.bipush 6, 2) := by decide +kernel
theorem dX0_init_39 : decode cX0_init 39 = .ok (.newarray .int, 2) := by decide +kernel
theorem dX0_init_41 : decode cX0_init 41 = .ok (.putfield 24, 3) := by decide +kernel
theorem dX0_init_44 : decode cX0_init 44 = .ok (.aload_n 0, 1) := by decide +kernel
theorem dX0_init_45 : decode cX0_init 45 = .ok (.iconst 0, 1) := by decide +kernel
theorem dX0_init_46 : decode cX0_init 46 = .ok (.putfield 27, 3) := by decide +kernel
theorem dX0_init_49 : decode cX0_init 49 = .ok (.aload_n 0, 1) := by decide +kernel
theorem dX0_init_50 : decode cX0_init 50 = .ok (.iconst 0, 1) := by decide +kernel
theorem dX0_init_51 : decode cX0_init 51 = .ok (.putfield 31, 3) := by decide +kernel
theorem dX0_init_54 : decode cX0_init 54 = .ok (.return_, 1) := by decide +kernel
set_option maxRecDepth 20000 in
theorem ggX0_copyFrom_X4_copyRow : GoodIn wsX0_copyFrom wsX4_copyRow := goodIn_r _ [10, 11, 12, 13, 14, 15, 16, 17, 18] (by decide +kernel) (by decide +kernel)
set_option maxRecDepth 20000 in
theorem gX0_copyFrom_X4_copyRow_n34 : GoodIn wsX0_copyFrom (wsX4_copyRow) := ggX0_copyFrom_X4_copyRow
theorem dX0_copyFrom_0 : decode cX0_copyFrom 0 = .ok (.aload_n 1, 1) := by decide +kernel
theorem dX0_copyFrom_1 : decode cX0_copyFrom 1 = .ok (.getfield 9, 3) := by decide +kernel
theorem dX0_copyFrom_4 : decode cX0_copyFrom 4 = .ok (.aload_n 0, 1) := by decide +kernel
theorem dX0_copyFrom_5 : decode cX0_copyFrom 5 = .ok (.getfield 9, 3) := by decide +kernel
theorem dX0_copyFrom_8 : decode cX0_copyFrom 8 = .ok (.invokestatic 34, 3) := by decide +kernel
theorem dX0_copyFrom_11 : decode cX0_copyFrom 11 = .ok (.aload_n 1, 1) := by decide +kernel
theorem dX0_copyFrom_12 : decode cX0_copyFrom 12 = .ok (.getfield 15, 3) := by decide +kernel
theorem dX0_copyFrom_15 : decode cX0_copyFrom 15 = .ok (.aload_n 0, 1) := by decide +kernel
theorem dX0_copyFrom_16 : decode cX0_copyFrom 16 = .ok (.getfield 15, 3) := by decide +kernel
theorem dX0_copyFrom_19 : decode cX0_copyFrom 19 = .ok (.invokestatic 34, 3) := by decide +kernel
theorem dX0_copyFrom_22 : decode cX0_copyFrom 22 = .ok (.aload_n 1, 1) := by decide +kernel
theorem dX0_copyFrom_23 : decode cX0_copyFrom 23 = .ok (.getfield 18, 3) := by decide +kernel
theorem dX0_copyFrom_26 : decode cX0_copyFrom 26 = .ok (.aload_n 0, 1) := by decide +kernel
theorem dX0_copyFrom_27 : decode cX0_copyFrom 27 = .ok (.getfield 18, 3) := by decide +kernel
theorem dX0_copyFrom_30 : decode cX0_copyFrom 30 = .ok (.invokestatic 34, 3) := by decide +kernel
theorem dX0_copyFrom_33 : decode cX0_copyFrom 33 = .ok (.aload_n 1, 1) := by decide +kernel
theorem dX0_copyFrom_34 : decode cX0_copyFrom 34 = .ok (.getfield 21, 3) := by decide +kernel
theorem dX0_copyFrom_37 : decode cX0_copyFrom 37 = .ok (.aload_n 0, 1) := by decide +kernel
theorem dX0_copyFrom_38 : decode cX0_copyFrom 38 = .ok (.getfield 21, 3) := by decide +kernel
theorem dX0_copyFrom_41 : decode cX0_copyFrom 41 = .ok (.invokestatic 34, 3) := by decide +kernel
theorem dX0_copyFrom_44 : decode cX0_copyFrom 44 = .ok (.aload_n 1, 1) := by decide +kernel
theorem dX0_copyFrom_45 : decode cX0_copyFrom 45 = .ok (.getfield 24, 3) := by decide +kernel
theorem dX0_copyFrom_48 : decode cX0_copyFrom 48 = .ok (.aload_n 0, 1) := by decide +kernel
theorem dX0_copyFrom_49 : decode cX0_copyFrom 49 = .ok (.getfield 24, 3) := by decide +kernel
theorem dX0_copyFrom_52 : decode cX0_copyFrom 52 = .ok (.invokestatic 34, 3) := by decide +kernel
theorem dX0_copyFrom_55 : decode cX0_copyFrom 55 = .ok (.aload_n 0, 1) := by decide +kernel
theorem dX0_copyFrom_56 : decode cX0_copyFrom 56 = .ok (.aload_n 1, 1) := by decide +kernel
theorem dX0_copyFrom_57 : decode cX0_copyFrom 57 = .ok (.getfield 27, 3) := by decide +kernel
theorem dX0_copyFrom_60 : decode cX0_copyFrom 60 = .ok (.putfield 27, 3) := by decide +kernel
theorem dX0_copyFrom_63 : decode cX0_copyFrom 63 = .ok (.aload_n 0, 1) := by decide +kernel
theorem dX0_copyFrom_64 : decode cX0_copyFrom 64 = .ok (.aload_n 1, 1) := by decide +kernel
theorem dX0_copyFrom_65 : decode cX0_copyFrom 65 = .ok (.getfield 31, 3) := by decide +kernel
theorem dX0_copyFrom_68 : decode cX0_copyFrom 68 = .ok (.putfield 31, 3) := by decide +kernel
theorem dX0_copyFrom_71 : decode cX0_copyFrom 71 = .ok (.return_, 1) := by decide +kernel
theorem dX0_has_0 : decode cX0_has 0 = .ok (.iload_n 1, 1) := by decide +kernel
theorem dX0_has_1 : decode cX0_has 1 = .ok (.ifCond .lt 15, 3) := by decide +kernel
theorem dX0_has_4 : decode cX0_has 4 = .ok (.iload_n 1, 1) := by decide +kernel
theorem dX0_has_5 : decode cX0_has 5 = .ok (.aload_n 0, 1) := by decide +kernel
theorem dX0_has_6 : decode cX0_has 6 = .ok (.getfield 27, 3) := by decide +kernel
theorem dX0_has_9 : decode cX0_has 9 = .ok (.if_icmp .ge 7, 3) := by decide +kernel
theorem dX0_has_12 : decode cX0_has 12 = .ok (.iconst 1, 1) := by decide +kernel
theorem dX0_has_13 : decode cX0_has 13 = .ok (.goto 4, 3) := by decide +kernel
theorem dX0_has_16 : decode cX0_has 16 = .ok (.iconst 0, 1) := by decide +kernel
theorem dX0_has_17 : decode cX0_has 17 = .ok (.ireturn, 1) := by decide +kernel
theorem dX0_append_0 : decode cX0_append 0 = .ok (.aload_n 0, 1) := by decide +kernel
theorem dX0_append_1 : decode cX0_append 1 = .ok (.getfield 27, 3) := by decide +kernel
theorem dX0_append_4 : decode cX0_append 4 = .ok (.bipush 10, 2) := by decide +kernel
theorem dX0_append_6 : decode cX0_append 6 = .ok (.if_icmp .lt 4, 3) := by decide +kernel
theorem dX0_append_9 : decode cX0_append 9 = .ok (.return_, 1) := by decide +kernel
theorem dX0_append_10 : decode cX0_append 10 = .ok (.aload_n 0, 1) := by decide +kernel
theorem dX0_append_11 : decode cX0_append 11 = .ok (.getfield 9, 3) := by decide +kernel
theorem dX0_append_14 : decode cX0_append 14 = .ok (.aload_n 0, 1) := by decide +kernel
theorem dX0_append_15 : decode cX0_append 15 = .ok (.getfield 27, 3) := by decide +kernel
theorem dX0_append_18 : decode cX0_append 18 = .ok (.iload_n 1, 1) := by decide +kernel
theorem dX0_append_19 : decode cX0_append 19 = .ok (.iastore, 1) := by decide +kernel
theorem dX0_append_20 : decode cX0_append 20 = .ok (.aload_n 0, 1) := by decide +kernel
theorem dX0_append_21 : decode cX0_append 21 = .ok (.getfield 15, 3) := by decide +kernel
theorem dX0_append_24 : decode cX0_append 24 = .ok (.aload_n 0, 1) := by decide +kernel
theorem dX0_append_25 : decode cX0_append 25 = .ok (.getfield 27, 3) := by decide +kernel
theorem dX0_append_28 : decode cX0_append 28 = .ok (.iload_n 2, 1) := by decide +kernel
theorem dX0_append_29 : decode cX0_append 29 = .ok (.iastore, 1) := by decide +kernel
theorem dX0_append_30 : decode cX0_append 30 = .ok (.aload_n 0, 1) := by decide +kernel
theorem dX0_append_31 : decode cX0_append 31 = .ok (.getfield 18, 3) := by decide +kernel
theorem dX0_append_34 : decode cX0_append 34 = .ok (.aload_n 0, 1) := by decide +kernel
theorem dX0_append_35 : decode cX0_append 35 = .ok (.getfield 27, 3) := by decide +kernel
theorem dX0_append_38 : decode cX0_append 38 = .ok (.iconst 0, 1) := by decide +kernel
theorem dX0_append_39 : decode cX0_append 39 = .ok (.iastore, 1) := by decide +kernel
theorem dX0_append_40 : decode cX0_append 40 = .ok (.aload_n 0, 1) := by decide +kernel
theorem dX0_append_41 : decode cX0_append 41 = .ok (.getfield 21, 3) := by decide +kernel
theorem dX0_append_44 : decode cX0_append 44 = .ok (.aload_n 0, 1) := by decide +kernel
theorem dX0_append_45 : decode cX0_append 45 = .ok (.getfield 27, 3) := by decide +kernel
theorem dX0_append_48 : decode cX0_append 48 = .ok (.iconst 0, 1) := by decide +kernel
theorem dX0_append_49 : decode cX0_append 49 = .ok (.iastore, 1) := by decide +kernel
theorem dX0_append_50 : decode cX0_append 50 = .ok (.aload_n 0, 1) := by decide +kernel
theorem dX0_append_51 : decode cX0_append 51 = .ok (.dup, 1) := by decide +kernel
theorem dX0_append_52 : decode cX0_append 52 = .ok (.getfield 27, 3) := by decide +kernel
theorem dX0_append_55 : decode cX0_append 55 = .ok (.iconst 1, 1) := by decide +kernel
theorem dX0_append_56 : decode cX0_append 56 = .ok (.iadd, 1) := by decide +kernel
theorem dX0_append_57 : decode cX0_append 57 = .ok (.putfield 27, 3) := by decide +kernel
theorem dX0_append_60 : decode cX0_append 60 = .ok (.return_, 1) := by decide +kernel
set_option maxRecDepth 20000 in
theorem ggX0_remove_X0_has : GoodIn wsX0_remove wsX0_has := goodIn_r _ [10, 5, 18, 19, 20, 21, 22, 23, 24] (by decide +kernel) (by decide +kernel)
set_option maxRecDepth 20000 in
theorem gX0_remove_X0_has : GoodIn wsX0_remove (wsV RX0 38 RX0 yX0_has wsX0_has) := goodIn_app (goodIn_of _ (by decide +kernel)) ggX0_remove_X0_has
set_option maxRecDepth 20000 in
theorem ggX0_remove_X4_closeGap : GoodIn wsX0_remove wsX4_closeGap := goodIn_r _ [13, 14, 15, 16, 17] (by decide +kernel) (by decide +kernel)
set_option maxRecDepth 20000 in
theorem gX0_remove_X4_closeGap_n42 : GoodIn wsX0_remove (wsX4_closeGap) := ggX0_remove_X4_closeGap
theorem dX0_remove_0 : decode cX0_remove 0 = .ok (.aload_n 0, 1) := by decide +kernel
theorem dX0_remove_1 : decode cX0_remove 1 = .ok (.iload_n 1, 1) := by decide +kernel
theorem dX0_remove_2 : decode cX0_remove 2 = .ok (.invokevirtual 38, 3) := by decide +kernel
theorem dX0_remove_5 : decode cX0_remove 5 = .ok (.ifCond .ne 4, 3) := by decide +kernel
theorem dX0_remove_8 : decode cX0_remove 8 = .ok (.return_, 1) := by decide +kernel
theorem dX0_remove_9 : decode cX0_remove 9 = .ok (.aload_n 0, 1) := by decide +kernel
theorem dX0_remove_10 : decode cX0_remove 10 = .ok (.getfield 9, 3) := by decide +kernel
theorem dX0_remove_13 : decode cX0_remove 13 = .ok (.iload_n 1, 1) := by decide +kernel
theorem dX0_remove_14 : decode cX0_remove 14 = .ok (.invokestatic 42, 3) := by decide +kernel
theorem dX0_remove_17 : decode cX0_remove 17 = .ok (.aload_n 0, 1) := by decide +kernel
theorem dX0_remove_18 : decode cX0_remove 18 = .ok (.getfield 15, 3) := by decide +kernel
theorem dX0_remove_21 : decode cX0_remove 21 = .ok (.iload_n 1, 1) := by decide +kernel
theorem dX0_remove_22 : decode cX0_remove 22 = .ok (.invokestatic 42, 3) := by decide +kernel
theorem dX0_remove_25 : decode cX0_remove 25 = .ok (.aload_n 0, 1) := by decide +kernel
theorem dX0_remove_26 : decode cX0_remove 26 = .ok (.getfield 18, 3) := by decide +kernel
theorem dX0_remove_29 : decode cX0_remove 29 = .ok (.iload_n 1, 1) := by decide +kernel
theorem dX0_remove_30 : decode cX0_remove 30 = .ok (.invokestatic 42, 3) := by decide +kernel
theorem dX0_remove_33 : decode cX0_remove 33 = .ok (.aload_n 0, 1) := by decide +kernel
theorem dX0_remove_34 : decode cX0_remove 34 = .ok (.getfield 21, 3) := by decide +kernel
theorem dX0_remove_37 : decode cX0_remove 37 = .ok (.iload_n 1, 1) := by decide +kernel
theorem dX0_remove_38 : decode cX0_remove 38 = .ok (.invokestatic 42, 3) := by decide +kernel
theorem dX0_remove_41 : decode cX0_remove 41 = .ok (.aload_n 0, 1) := by decide +kernel
theorem dX0_remove_42 : decode cX0_remove 42 = .ok (.dup, 1) := by decide +kernel
theorem dX0_remove_43 : decode cX0_remove 43 = .ok (.getfield 27, 3) := by decide +kernel
theorem dX0_remove_46 : decode cX0_remove 46 = .ok (.iconst 1, 1) := by decide +kernel
theorem dX0_remove_47 : decode cX0_remove 47 = .ok (.isub, 1) := by decide +kernel
theorem dX0_remove_48 : decode cX0_remove 48 = .ok (.putfield 27, 3) := by decide +kernel
theorem dX0_remove_51 : decode cX0_remove 51 = .ok (.return_, 1) := by decide +kernel
set_option maxRecDepth 20000 in
theorem ggX0_noteDone_X0_has : GoodIn wsX0_noteDone wsX0_has := goodIn_r _ [7, 8, 9, 10, 11, 12, 13, 14, 15] (by decide +kernel) (by decide +kernel)
set_option maxRecDepth 20000 in
theorem gX0_noteDone_X0_has : GoodIn wsX0_noteDone (wsV RX0 38 RX0 yX0_has wsX0_has) := goodIn_app (goodIn_of _ (by decide +kernel)) ggX0_noteDone_X0_has
theorem dX0_noteDone_0 : decode cX0_noteDone 0 = .ok (.aload_n 0, 1) := by decide +kernel
theorem dX0_noteDone_1 : decode cX0_noteDone 1 = .ok (.iload_n 1, 1) := by decide +kernel
theorem dX0_noteDone_2 : decode cX0_noteDone 2 = .ok (.invokevirtual 38, 3) := by decide +kernel
theorem dX0_noteDone_5 : decode cX0_noteDone 5 = .ok (.ifCond .ne 4, 3) := by decide +kernel
theorem dX0_noteDone_8 : decode cX0_noteDone 8 = .ok (.return_, 1) := by decide +kernel
theorem dX0_noteDone_9 : decode cX0_noteDone 9 = .ok (.aload_n 0, 1) := by decide +kernel
theorem dX0_noteDone_10 : decode cX0_noteDone 10 = .ok (.getfield 18, 3) := by decide +kernel
theorem dX0_noteDone_13 : decode cX0_noteDone 13 = .ok (.iload_n 1, 1) := by decide +kernel
theorem dX0_noteDone_14 : decode cX0_noteDone 14 = .ok (.dup2, 1) := by decide +kernel
theorem dX0_noteDone_15 : decode cX0_noteDone 15 = .ok (.iaload, 1) := by decide +kernel
theorem dX0_noteDone_16 : decode cX0_noteDone 16 = .ok (.iconst 1, 1) := by decide +kernel
theorem dX0_noteDone_17 : decode cX0_noteDone 17 = .ok (.iadd, 1) := by decide +kernel
theorem dX0_noteDone_18 : decode cX0_noteDone 18 = .ok (.iastore, 1) := by decide +kernel
theorem dX0_noteDone_19 : decode cX0_noteDone 19 = .ok (.aload_n 0, 1) := by decide +kernel
theorem dX0_noteDone_20 : decode cX0_noteDone 20 = .ok (.dup, 1) := by decide +kernel
theorem dX0_noteDone_21 : decode cX0_noteDone 21 = .ok (.getfield 31, 3) := by decide +kernel
theorem dX0_noteDone_24 : decode cX0_noteDone 24 = .ok (.iconst 1, 1) := by decide +kernel
theorem dX0_noteDone_25 : decode cX0_noteDone 25 = .ok (.iadd, 1) := by decide +kernel
theorem dX0_noteDone_26 : decode cX0_noteDone 26 = .ok (.putfield 31, 3) := by decide +kernel
theorem dX0_noteDone_29 : decode cX0_noteDone 29 = .ok (.return_, 1) := by decide +kernel
set_option maxRecDepth 20000 in
theorem ggX0_noteRefusal_X0_has : GoodIn wsX0_noteRefusal wsX0_has := goodIn_r _ [7, 8, 12, 13, 14, 15, 16, 17, 18] (by decide +kernel) (by decide +kernel)
set_option maxRecDepth 20000 in
theorem gX0_noteRefusal_X0_has : GoodIn wsX0_noteRefusal (wsV RX0 38 RX0 yX0_has wsX0_has) := goodIn_app (goodIn_of _ (by decide +kernel)) ggX0_noteRefusal_X0_has
set_option maxRecDepth 20000 in
theorem ggX0_noteRefusal_X4_isBetween : GoodIn wsX0_noteRefusal wsX4_isBetween := goodIn_r _ [11] (by decide +kernel) (by decide +kernel)
set_option maxRecDepth 20000 in
theorem gX0_noteRefusal_X4_isBetween_n46 : GoodIn wsX0_noteRefusal (wsX4_isBetween) := ggX0_noteRefusal_X4_isBetween
theorem dX0_noteRefusal_0 : decode cX0_noteRefusal 0 = .ok (.aload_n 0, 1) := by decide +kernel
theorem dX0_noteRefusal_1 : decode cX0_noteRefusal 1 = .ok (.iload_n 1, 1) := by decide +kernel
theorem dX0_noteRefusal_2 : decode cX0_noteRefusal 2 = .ok (.invokevirtual 38, 3) := by decide +kernel
theorem dX0_noteRefusal_5 : decode cX0_noteRefusal 5 = .ok (.ifCond .eq 12, 3) := by decide +kernel
theorem dX0_noteRefusal_8 : decode cX0_noteRefusal 8 = .ok (.iload_n 2, 1) := by decide +kernel
theorem dX0_noteRefusal_9 : decode cX0_noteRefusal 9 = .ok (.iconst 0, 1) := by decide +kernel
theorem dX0_noteRefusal_10 : decode cX0_noteRefusal 10 = .ok (.iconst 5, 1) := by decide +kernel
theorem dX0_noteRefusal_11 : decode cX0_noteRefusal 11 = .ok (.invokestatic 46, 3) := by decide +kernel
theorem dX0_noteRefusal_14 : decode cX0_noteRefusal 14 = .ok (.ifCond .ne 4, 3) := by decide +kernel
theorem dX0_noteRefusal_17 : decode cX0_noteRefusal 17 = .ok (.return_, 1) := by decide +kernel
theorem dX0_noteRefusal_18 : decode cX0_noteRefusal 18 = .ok (.aload_n 0, 1) := by decide +kernel
theorem dX0_noteRefusal_19 : decode cX0_noteRefusal 19 = .ok (.getfield 21, 3) := by decide +kernel
theorem dX0_noteRefusal_22 : decode cX0_noteRefusal 22 = .ok (.iload_n 1, 1) := by decide +kernel
theorem dX0_noteRefusal_23 : decode cX0_noteRefusal 23 = .ok (.dup2, 1) := by decide +kernel
theorem dX0_noteRefusal_24 : decode cX0_noteRefusal 24 = .ok (.iaload, 1) := by decide +kernel
theorem dX0_noteRefusal_25 : decode cX0_noteRefusal 25 = .ok (.iconst 1, 1) := by decide +kernel
theorem dX0_noteRefusal_26 : decode cX0_noteRefusal 26 = .ok (.iadd, 1) := by decide +kernel
theorem dX0_noteRefusal_27 : decode cX0_noteRefusal 27 = .ok (.iastore, 1) := by decide +kernel
theorem dX0_noteRefusal_28 : decode cX0_noteRefusal 28 = .ok (.aload_n 0, 1) := by decide +kernel
theorem dX0_noteRefusal_29 : decode cX0_noteRefusal 29 = .ok (.getfield 24, 3) := by decide +kernel
theorem dX0_noteRefusal_32 : decode cX0_noteRefusal 32 = .ok (.iload_n 2, 1) := by decide +kernel
theorem dX0_noteRefusal_33 : decode cX0_noteRefusal 33 = .ok (.dup2, 1) := by decide +kernel
theorem dX0_noteRefusal_34 : decode cX0_noteRefusal 34 = .ok (.iaload, 1) := by decide +kernel
theorem dX0_noteRefusal_35 : decode cX0_noteRefusal 35 = .ok (.iconst 1, 1) := by decide +kernel
theorem dX0_noteRefusal_36 : decode cX0_noteRefusal 36 = .ok (.iadd, 1) := by decide +kernel
theorem dX0_noteRefusal_37 : decode cX0_noteRefusal 37 = .ok (.iastore, 1) := by decide +kernel
theorem dX0_noteRefusal_38 : decode cX0_noteRefusal 38 = .ok (.return_, 1) := by decide +kernel
set_option maxRecDepth 20000 in
theorem ggX0_refusalsOf_X4_isBetween : GoodIn wsX0_refusalsOf wsX4_isBetween := goodIn_r _ [4] (by decide +kernel) (by decide +kernel)
set_option maxRecDepth 20000 in
theorem gX0_refusalsOf_X4_isBetween_n46 : GoodIn wsX0_refusalsOf (wsX4_isBetween) := ggX0_refusalsOf_X4_isBetween
theorem dX0_refusalsOf_0 : decode cX0_refusalsOf 0 = .ok (.iload_n 1, 1) := by decide +kernel
theorem dX0_refusalsOf_1 : decode cX0_refusalsOf 1 = .ok (.iconst 0, 1) := by decide +kernel
theorem dX0_refusalsOf_2 : decode cX0_refusalsOf 2 = .ok (.iconst 5, 1) := by decide +kernel
theorem dX0_refusalsOf_3 : decode cX0_refusalsOf 3 = .ok (.invokestatic 46, 3) := by decide +kernel
theorem dX0_refusalsOf_6 : decode cX0_refusalsOf 6 = .ok (.ifCond .eq 12, 3) := by decide +kernel
theorem dX0_refusalsOf_9 : decode cX0_refusalsOf 9 = .ok (.aload_n 0, 1) := by decide +kernel
theorem dX0_refusalsOf_10 : decode cX0_refusalsOf 10 = .ok (.getfield 24, 3) := by decide +kernel
theorem dX0_refusalsOf_13 : decode cX0_refusalsOf 13 = .ok (.iload_n 1, 1) := by decide +kernel
theorem dX0_refusalsOf_14 : decode cX0_refusalsOf 14 = .ok (.iaload, 1) := by decide +kernel
theorem dX0_refusalsOf_15 : decode cX0_refusalsOf 15 = .ok (.goto 4, 3) := by decide +kernel
theorem dX0_refusalsOf_18 : decode cX0_refusalsOf 18 = .ok (.iconst 0, 1) := by decide +kernel
theorem dX0_refusalsOf_19 : decode cX0_refusalsOf 19 = .ok (.ireturn, 1) := by decide +kernel
theorem dX1_init_0 : decode cX1_init 0 = .ok (.aload_n 0, 1) := by decide +kernel
theorem dX1_init_1 : decode cX1_init 1 = .ok (.invokespecial 3, 3) := by decide +kernel
theorem dX1_init_4 : decode cX1_init 4 = .ok (.aload_n 0, 1) := by decide +kernel
theorem dX1_init_5 : decode cX1_init 5 = .ok (.bipush 60, 2) := by decide +kernel
theorem dX1_init_7 : decode cX1_init 7 = .ok (.newarray .char, 2) := by decide +kernel
theorem dX1_init_9 : decode cX1_init 9 = .ok (.putfield 9, 3) := by decide +kernel
theorem dX1_init_12 : decode cX1_init 12 = .ok (.aload_n 0, 1) := by decide +kernel
theorem dX1_init_13 : decode cX1_init 13 = .ok (.iconst 0, 1) := by decide +kernel
theorem dX1_init_14 : decode cX1_init 14 = .ok (.putfield 15, 3) := by decide +kernel
theorem dX1_init_17 : decode cX1_init 17 = .ok (.return_, 1) := by decide +kernel
theorem dX2_init_0 : decode cX2_init 0 = .ok (.aload_n 0, 1) := by decide +kernel
theorem dX2_init_1 : decode cX2_init 1 = .ok (.invokespecial 3, 3) := by decide +kernel
theorem dX2_init_4 : decode cX2_init 4 = .ok (.aload_n 0, 1) := by decide +kernel
theorem dX2_init_5 : decode cX2_init 5 = .ok (.bipush 25, 2) := by decide +kernel
theorem dX2_init_7 : decode cX2_init 7 = .ok (.newarray .int, 2) := by decide +kernel
theorem dX2_init_9 : decode cX2_init 9 = .ok (.putfield 11, 3) := by decide +kernel
theorem dX2_init_12 : decode cX2_init 12 = .ok (.aload_n 0, 1) := by decide +kernel
theorem dX2_init_13 : decode cX2_init 13 = .ok (.bipush 25, 2) := by decide +kernel
theorem dX2_init_15 : decode cX2_init 15 = .ok (.newarray .int, 2) := by decide +kernel
theorem dX2_init_17 : decode cX2_init 17 = .ok (.putfield 15, 3) := by decide +kernel
theorem dX2_init_20 : decode cX2_init 20 = .ok (.aload_n 0, 1) := by decide +kernel
theorem dX2_init_21 : decode cX2_init 21 = .ok (.bipush 25, 2) := by decide +kernel
theorem dX2_init_23 : decode cX2_init 23 = .ok (.newarray .int, 2) := by decide +kernel
theorem dX2_init_25 : decode cX2_init 25 = .ok (.putfield 18, 3) := by decide +kernel
theorem dX2_init_28 : decode cX2_init 28 = .ok (.aload_n 0, 1) := by decide +kernel
theorem dX2_init_29 : decode cX2_init 29 = .ok (.bipush 25, 2) := by decide +kernel
theorem dX2_init_31 : decode cX2_init 31 = .ok (.newarray .int, 2) := by decide +kernel
theorem dX2_init_33 : decode cX2_init 33 = .ok (.putfield 21, 3) := by decide +kernel
theorem dX2_init_36 : decode cX2_init 36 = .ok (.aload_n 0, 1) := by decide +kernel
theorem dX2_init_37 : decode cX2_init 37 = .ok (.bipush 25, 2) := by decide +kernel
theorem dX2_init_39 : decode cX2_init 39 = .ok (.newarray .int, 2) := by decide +kernel
theorem dX2_init_41 : decode cX2_init 41 = .ok (.putfield 24, 3) := by decide +kernel
theorem dX2_init_44 : decode cX2_init 44 = .ok (.aload_n 0, 1) := by decide +kernel
theorem dX2_init_45 : decode cX2_init 45 = .ok (.bipush 25, 2) := by decide +kernel
theorem dX2_init_47 : decode cX2_init 47 = .ok (.newarray .int, 2) := by decide +kernel
theorem dX2_init_49 : decode cX2_init 49 = .ok (.putfield 27, 3) := by decide +kernel
theorem dX2_init_52 : decode cX2_init 52 = .ok (.aload_n 0, 1) := by decide +kernel
theorem dX2_init_53 : decode cX2_init 53 = .ok (.iconst 0, 1) := by decide +kernel
theorem dX2_init_54 : decode cX2_init 54 = .ok (.putfield 30, 3) := by decide +kernel
theorem dX2_init_57 : decode cX2_init 57 = .ok (.return_, 1) := by decide +kernel
set_option maxRecDepth 20000 in
theorem ggX2_copyFrom_X4_copyRow : GoodIn wsX2_copyFrom wsX4_copyRow := goodIn_r _ [10, 11, 12, 13, 14, 15, 16, 17, 18] (by decide +kernel) (by decide +kernel)
set_option maxRecDepth 20000 in
theorem gX2_copyFrom_X4_copyRow_n34 : GoodIn wsX2_copyFrom (wsX4_copyRow) := ggX2_copyFrom_X4_copyRow
theorem dX2_copyFrom_0 : decode cX2_copyFrom 0 = .ok (.aload_n 1, 1) := by decide +kernel
theorem dX2_copyFrom_1 : decode cX2_copyFrom 1 = .ok (.getfield 11, 3) := by decide +kernel
theorem dX2_copyFrom_4 : decode cX2_copyFrom 4 = .ok (.aload_n 0, 1) := by decide +kernel
theorem dX2_copyFrom_5 : decode cX2_copyFrom 5 = .ok (.getfield 11, 3) := by decide +kernel
theorem dX2_copyFrom_8 : decode cX2_copyFrom 8 = .ok (.invokestatic 34, 3) := by decide +kernel
theorem dX2_copyFrom_11 : decode cX2_copyFrom 11 = .ok (.aload_n 1, 1) := by decide +kernel
theorem dX2_copyFrom_12 : decode cX2_copyFrom 12 = .ok (.getfield 15, 3) := by decide +kernel
theorem dX2_copyFrom_15 : decode cX2_copyFrom 15 = .ok (.aload_n 0, 1) := by decide +kernel
theorem dX2_copyFrom_16 : decode cX2_copyFrom 16 = .ok (.getfield 15, 3) := by decide +kernel
theorem dX2_copyFrom_19 : decode cX2_copyFrom 19 = .ok (.invokestatic 34, 3) := by decide +kernel
theorem dX2_copyFrom_22 : decode cX2_copyFrom 22 = .ok (.aload_n 1, 1) := by decide +kernel
theorem dX2_copyFrom_23 : decode cX2_copyFrom 23 = .ok (.getfield 18, 3) := by decide +kernel
theorem dX2_copyFrom_26 : decode cX2_copyFrom 26 = .ok (.aload_n 0, 1) := by decide +kernel
theorem dX2_copyFrom_27 : decode cX2_copyFrom 27 = .ok (.getfield 18, 3) := by decide +kernel
theorem dX2_copyFrom_30 : decode cX2_copyFrom 30 = .ok (.invokestatic 34, 3) := by decide +kernel
theorem dX2_copyFrom_33 : decode cX2_copyFrom 33 = .ok (.aload_n 1, 1) := by decide +kernel
theorem dX2_copyFrom_34 : decode cX2_copyFrom 34 = .ok (.getfield 21, 3) := by decide +kernel
theorem dX2_copyFrom_37 : decode cX2_copyFrom 37 = .ok (.aload_n 0, 1) := by decide +kernel
theorem dX2_copyFrom_38 : decode cX2_copyFrom 38 = .ok (.getfield 21, 3) := by decide +kernel
theorem dX2_copyFrom_41 : decode cX2_copyFrom 41 = .ok (.invokestatic 34, 3) := by decide +kernel
theorem dX2_copyFrom_44 : decode cX2_copyFrom 44 = .ok (.aload_n 1, 1) := by decide +kernel
theorem dX2_copyFrom_45 : decode cX2_copyFrom 45 = .ok (.getfield 24, 3) := by decide +kernel
theorem dX2_copyFrom_48 : decode cX2_copyFrom 48 = .ok (.aload_n 0, 1) := by decide +kernel
theorem dX2_copyFrom_49 : decode cX2_copyFrom 49 = .ok (.getfield 24, 3) := by decide +kernel
theorem dX2_copyFrom_52 : decode cX2_copyFrom 52 = .ok (.invokestatic 34, 3) := by decide +kernel
theorem dX2_copyFrom_55 : decode cX2_copyFrom 55 = .ok (.aload_n 1, 1) := by decide +kernel
theorem dX2_copyFrom_56 : decode cX2_copyFrom 56 = .ok (.getfield 27, 3) := by decide +kernel
theorem dX2_copyFrom_59 : decode cX2_copyFrom 59 = .ok (.aload_n 0, 1) := by decide +kernel
theorem dX2_copyFrom_60 : decode cX2_copyFrom 60 = .ok (.getfield 27, 3) := by decide +kernel
theorem dX2_copyFrom_63 : decode cX2_copyFrom 63 = .ok (.invokestatic 34, 3) := by decide +kernel
theorem dX2_copyFrom_66 : decode cX2_copyFrom 66 = .ok (.aload_n 0, 1) := by decide +kernel
theorem dX2_copyFrom_67 : decode cX2_copyFrom 67 = .ok (.aload_n 1, 1) := by decide +kernel
theorem dX2_copyFrom_68 : decode cX2_copyFrom 68 = .ok (.getfield 30, 3) := by decide +kernel
theorem dX2_copyFrom_71 : decode cX2_copyFrom 71 = .ok (.putfield 30, 3) := by decide +kernel
theorem dX2_copyFrom_74 : decode cX2_copyFrom 74 = .ok (.return_, 1) := by decide +kernel
theorem dX2_has_0 : decode cX2_has 0 = .ok (.iload_n 1, 1) := by decide +kernel
theorem dX2_has_1 : decode cX2_has 1 = .ok (.ifCond .lt 15, 3) := by decide +kernel
theorem dX2_has_4 : decode cX2_has 4 = .ok (.iload_n 1, 1) := by decide +kernel
theorem dX2_has_5 : decode cX2_has 5 = .ok (.aload_n 0, 1) := by decide +kernel
theorem dX2_has_6 : decode cX2_has 6 = .ok (.getfield 30, 3) := by decide +kernel
theorem dX2_has_9 : decode cX2_has 9 = .ok (.if_icmp .ge 7, 3) := by decide +kernel
theorem dX2_has_12 : decode cX2_has 12 = .ok (.iconst 1, 1) := by decide +kernel
theorem dX2_has_13 : decode cX2_has 13 = .ok (.goto 4, 3) := by decide +kernel
theorem dX2_has_16 : decode cX2_has 16 = .ok (.iconst 0, 1) := by decide +kernel
theorem dX2_has_17 : decode cX2_has 17 = .ok (.ireturn, 1) := by decide +kernel
set_option maxRecDepth 20000 in
theorem ggX2_append_X4_pairsOf : GoodIn wsX2_append wsX4_pairsOf := goodIn_r _ [10] (by decide +kernel) (by decide +kernel)
set_option maxRecDepth 20000 in
theorem gX2_append_X4_pairsOf_n38 : GoodIn wsX2_append (wsX4_pairsOf) := ggX2_append_X4_pairsOf
theorem dX2_append_0 : decode cX2_append 0 = .ok (.aload_n 0, 1) := by decide +kernel
theorem dX2_append_1 : decode cX2_append 1 = .ok (.getfield 30, 3) := by decide +kernel
theorem dX2_append_4 : decode cX2_append 4 = .ok (.bipush 25, 2) := by decide +kernel
theorem dX2_append_6 : decode cX2_append 6 = .ok (.if_icmp .lt 4, 3) := by decide +kernel
theorem dX2_append_9 : decode cX2_append 9 = .ok (.return_, 1) := by decide +kernel
theorem dX2_append_10 : decode cX2_append 10 = .ok (.aload_n 0, 1) := by decide +kernel
theorem dX2_append_11 : decode cX2_append 11 = .ok (.getfield 11, 3) := by decide +kernel
theorem dX2_append_14 : decode cX2_append 14 = .ok (.aload_n 0, 1) := by decide +kernel
theorem dX2_append_15 : decode cX2_append 15 = .ok (.getfield 30, 3) := by decide +kernel
theorem dX2_append_18 : decode cX2_append 18 = .ok (.iload_n 1, 1) := by decide +kernel
theorem dX2_append_19 : decode cX2_append 19 = .ok (.iastore, 1) := by decide +kernel
theorem dX2_append_20 : decode cX2_append 20 = .ok (.aload_n 0, 1) := by decide +kernel
theorem dX2_append_21 : decode cX2_append 21 = .ok (.getfield 15, 3) := by decide +kernel
theorem dX2_append_24 : decode cX2_append 24 = .ok (.aload_n 0, 1) := by decide +kernel
theorem dX2_append_25 : decode cX2_append 25 = .ok (.getfield 30, 3) := by decide +kernel
theorem dX2_append_28 : decode cX2_append 28 = .ok (.iload_n 2, 1) := by decide +kernel
theorem dX2_append_29 : decode cX2_append 29 = .ok (.iastore, 1) := by decide +kernel
theorem dX2_append_30 : decode cX2_append 30 = .ok (.aload_n 0, 1) := by decide +kernel
theorem dX2_append_31 : decode cX2_append 31 = .ok (.getfield 18, 3) := by decide +kernel
theorem dX2_append_34 : decode cX2_append 34 = .ok (.aload_n 0, 1) := by decide +kernel
theorem dX2_append_35 : decode cX2_append 35 = .ok (.getfield 30, 3) := by decide +kernel
theorem dX2_append_38 : decode cX2_append 38 = .ok (.iload_n 3, 1) := by decide +kernel
theorem dX2_append_39 : decode cX2_append 39 = .ok (.iastore, 1) := by decide +kernel
theorem dX2_append_40 : decode cX2_append 40 = .ok (.aload_n 0, 1) := by decide +kernel
theorem dX2_append_41 : decode cX2_append 41 = .ok (.getfield 21, 3) := by decide +kernel
theorem dX2_append_44 : decode cX2_append 44 = .ok (.aload_n 0, 1) := by decide +kernel
theorem dX2_append_45 : decode cX2_append 45 = .ok (.getfield 30, 3) := by decide +kernel
theorem dX2_append_48 : decode cX2_append 48 = .ok (.iload 4, 2) := by decide +kernel
theorem dX2_append_50 : decode cX2_append 50 = .ok (.iastore, 1) := by decide +kernel
theorem dX2_append_51 : decode cX2_append 51 = .ok (.aload_n 0, 1) := by decide +kernel
theorem dX2_append_52 : decode cX2_append 52 = .ok (.getfield 24, 3) := by decide +kernel
theorem dX2_append_55 : decode cX2_append 55 = .ok (.aload_n 0, 1) := by decide +kernel
theorem dX2_append_56 : decode cX2_append 56 = .ok (.getfield 30, 3) := by decide +kernel
theorem dX2_append_59 : decode cX2_append 59 = .ok (.iload 5, 2) := by decide +kernel
theorem dX2_append_61 : decode cX2_append 61 = .ok (.iastore, 1) := by decide +kernel
theorem dX2_append_62 : decode cX2_append 62 = .ok (.aload_n 0, 1) := by decide +kernel
theorem dX2_append_63 : decode cX2_append 63 = .ok (.getfield 27, 3) := by decide +kernel
theorem dX2_append_66 : decode cX2_append 66 = .ok (.aload_n 0, 1) := by decide +kernel
theorem dX2_append_67 : decode cX2_append 67 = .ok (.getfield 30, 3) := by decide +kernel
theorem dX2_append_70 : decode cX2_append 70 = .ok (.iload_n 3, 1) := by decide +kernel
theorem dX2_append_71 : decode cX2_append 71 = .ok (.iload 4, 2) := by decide +kernel
theorem dX2_append_73 : decode cX2_append 73 = .ok (.invokestatic 38, 3) := by decide +kernel
theorem dX2_append_76 : decode cX2_append 76 = .ok (.iastore, 1) := by decide +kernel
theorem dX2_append_77 : decode cX2_append 77 = .ok (.aload_n 0, 1) := by decide +kernel
theorem dX2_append_78 : decode cX2_append 78 = .ok (.dup, 1) := by decide +kernel
theorem dX2_append_79 : decode cX2_append 79 = .ok (.getfield 30, 3) := by decide +kernel
theorem dX2_append_82 : decode cX2_append 82 = .ok (.iconst 1, 1) := by decide +kernel
theorem dX2_append_83 : decode cX2_append 83 = .ok (.iadd, 1) := by decide +kernel
theorem dX2_append_84 : decode cX2_append 84 = .ok (.putfield 30, 3) := by decide +kernel
theorem dX2_append_87 : decode cX2_append 87 = .ok (.return_, 1) := by decide +kernel
set_option maxRecDepth 20000 in
theorem ggX2_remove_X2_has : GoodIn wsX2_remove wsX2_has := goodIn_r _ [12, 7, 20, 21, 22, 23, 24, 25, 26] (by decide +kernel) (by decide +kernel)
set_option maxRecDepth 20000 in
theorem gX2_remove_X2_has : GoodIn wsX2_remove (wsV RX2 42 RX2 yX2_has wsX2_has) := goodIn_app (goodIn_of _ (by decide +kernel)) ggX2_remove_X2_has
set_option maxRecDepth 20000 in
theorem ggX2_remove_X4_closeGap : GoodIn wsX2_remove wsX4_closeGap := goodIn_r _ [15, 16, 17, 18, 19] (by decide +kernel) (by decide +kernel)
set_option maxRecDepth 20000 in
theorem gX2_remove_X4_closeGap_n46 : GoodIn wsX2_remove (wsX4_closeGap) := ggX2_remove_X4_closeGap
theorem dX2_remove_0 : decode cX2_remove 0 = .ok (.aload_n 0, 1) := by decide +kernel
theorem dX2_remove_1 : decode cX2_remove 1 = .ok (.iload_n 1, 1) := by decide +kernel
theorem dX2_remove_2 : decode cX2_remove 2 = .ok (.invokevirtual 42, 3) := by decide +kernel
theorem dX2_remove_5 : decode cX2_remove 5 = .ok (.ifCond .ne 4, 3) := by decide +kernel
theorem dX2_remove_8 : decode cX2_remove 8 = .ok (.return_, 1) := by decide +kernel
theorem dX2_remove_9 : decode cX2_remove 9 = .ok (.aload_n 0, 1) := by decide +kernel
theorem dX2_remove_10 : decode cX2_remove 10 = .ok (.getfield 11, 3) := by decide +kernel
theorem dX2_remove_13 : decode cX2_remove 13 = .ok (.iload_n 1, 1) := by decide +kernel
theorem dX2_remove_14 : decode cX2_remove 14 = .ok (.invokestatic 46, 3) := by decide +kernel
theorem dX2_remove_17 : decode cX2_remove 17 = .ok (.aload_n 0, 1) := by decide +kernel
theorem dX2_remove_18 : decode cX2_remove 18 = .ok (.getfield 15, 3) := by decide +kernel
theorem dX2_remove_21 : decode cX2_remove 21 = .ok (.iload_n 1, 1) := by decide +kernel
theorem dX2_remove_22 : decode cX2_remove 22 = .ok (.invokestatic 46, 3) := by decide +kernel
theorem dX2_remove_25 : decode cX2_remove 25 = .ok (.aload_n 0, 1) := by decide +kernel
theorem dX2_remove_26 : decode cX2_remove 26 = .ok (.getfield 18, 3) := by decide +kernel
theorem dX2_remove_29 : decode cX2_remove 29 = .ok (.iload_n 1, 1) := by decide +kernel
theorem dX2_remove_30 : decode cX2_remove 30 = .ok (.invokestatic 46, 3) := by decide +kernel
theorem dX2_remove_33 : decode cX2_remove 33 = .ok (.aload_n 0, 1) := by decide +kernel
theorem dX2_remove_34 : decode cX2_remove 34 = .ok (.getfield 21, 3) := by decide +kernel
theorem dX2_remove_37 : decode cX2_remove 37 = .ok (.iload_n 1, 1) := by decide +kernel
theorem dX2_remove_38 : decode cX2_remove 38 = .ok (.invokestatic 46, 3) := by decide +kernel
theorem dX2_remove_41 : decode cX2_remove 41 = .ok (.aload_n 0, 1) := by decide +kernel
theorem dX2_remove_42 : decode cX2_remove 42 = .ok (.getfield 24, 3) := by decide +kernel
theorem dX2_remove_45 : decode cX2_remove 45 = .ok (.iload_n 1, 1) := by decide +kernel
theorem dX2_remove_46 : decode cX2_remove 46 = .ok (.invokestatic 46, 3) := by decide +kernel
theorem dX2_remove_49 : decode cX2_remove 49 = .ok (.aload_n 0, 1) := by decide +kernel
theorem dX2_remove_50 : decode cX2_remove 50 = .ok (.getfield 27, 3) := by decide +kernel
theorem dX2_remove_53 : decode cX2_remove 53 = .ok (.iload_n 1, 1) := by decide +kernel
theorem dX2_remove_54 : decode cX2_remove 54 = .ok (.invokestatic 46, 3) := by decide +kernel
theorem dX2_remove_57 : decode cX2_remove 57 = .ok (.aload_n 0, 1) := by decide +kernel
theorem dX2_remove_58 : decode cX2_remove 58 = .ok (.dup, 1) := by decide +kernel
theorem dX2_remove_59 : decode cX2_remove 59 = .ok (.getfield 30, 3) := by decide +kernel
theorem dX2_remove_62 : decode cX2_remove 62 = .ok (.iconst 1, 1) := by decide +kernel
theorem dX2_remove_63 : decode cX2_remove 63 = .ok (.isub, 1) := by decide +kernel
theorem dX2_remove_64 : decode cX2_remove 64 = .ok (.putfield 30, 3) := by decide +kernel
theorem dX2_remove_67 : decode cX2_remove 67 = .ok (.return_, 1) := by decide +kernel
theorem dX2_sizeOfKind_0 : decode cX2_sizeOfKind 0 = .ok (.iconst 0, 1) := by decide +kernel
theorem dX2_sizeOfKind_1 : decode cX2_sizeOfKind 1 = .ok (.istore_n 2, 1) := by decide +kernel
theorem dX2_sizeOfKind_2 : decode cX2_sizeOfKind 2 = .ok (.iconst 0, 1) := by decide +kernel
theorem dX2_sizeOfKind_3 : decode cX2_sizeOfKind 3 = .ok (.istore_n 3, 1) := by decide +kernel
theorem dX2_sizeOfKind_4 : decode cX2_sizeOfKind 4 = .ok (.iload_n 3, 1) := by decide +kernel
theorem dX2_sizeOfKind_5 : decode cX2_sizeOfKind 5 = .ok (.aload_n 0, 1) := by decide +kernel
theorem dX2_sizeOfKind_6 : decode cX2_sizeOfKind 6 = .ok (.getfield 30, 3) := by decide +kernel
theorem dX2_sizeOfKind_9 : decode cX2_sizeOfKind 9 = .ok (.if_icmp .ge 22, 3) := by decide +kernel
theorem dX2_sizeOfKind_12 : decode cX2_sizeOfKind 12 = .ok (.aload_n 0, 1) := by decide +kernel
theorem dX2_sizeOfKind_13 : decode cX2_sizeOfKind 13 = .ok (.getfield 15, 3) := by decide +kernel
theorem dX2_sizeOfKind_16 : decode cX2_sizeOfKind 16 = .ok (.iload_n 3, 1) := by decide +kernel
theorem dX2_sizeOfKind_17 : decode cX2_sizeOfKind 17 = .ok (.iaload, 1) := by decide +kernel
theorem dX2_sizeOfKind_18 : decode cX2_sizeOfKind 18 = .ok (.iload_n 1, 1) := by decide +kernel
theorem dX2_sizeOfKind_19 : decode cX2_sizeOfKind 19 = .ok (.if_icmp .ne 6, 3) := by decide +kernel
theorem dX2_sizeOfKind_22 : decode cX2_sizeOfKind 22 = .ok (.iinc 2 1, 3) := by decide +kernel
theorem dX2_sizeOfKind_25 : decode cX2_sizeOfKind 25 = .ok (.iinc 3 1, 3) := by decide +kernel
theorem dX2_sizeOfKind_28 : decode cX2_sizeOfKind 28 = .ok (.goto (-24), 3) := by decide +kernel
theorem dX2_sizeOfKind_31 : decode cX2_sizeOfKind 31 = .ok (.iload_n 2, 1) := by decide +kernel
theorem dX2_sizeOfKind_32 : decode cX2_sizeOfKind 32 = .ok (.ireturn, 1) := by decide +kernel
set_option maxRecDepth 20000 in
theorem ggX2_oddsOf_X2_areAtOdds : GoodIn wsX2_oddsOf wsX2_areAtOdds := goodIn_r _ [6, 7, 8, 9, 10, 11, 12, 13, 14, 15] (by decide +kernel) (by decide +kernel)
set_option maxRecDepth 20000 in
theorem gX2_oddsOf_X2_areAtOdds : GoodIn wsX2_oddsOf (wsV RX2 50 RX2 yX2_areAtOdds wsX2_areAtOdds) := goodIn_app (goodIn_of _ (by decide +kernel)) ggX2_oddsOf_X2_areAtOdds
theorem dX2_oddsOf_0 : decode cX2_oddsOf 0 = .ok (.iconst 0, 1) := by decide +kernel
theorem dX2_oddsOf_1 : decode cX2_oddsOf 1 = .ok (.istore_n 2, 1) := by decide +kernel
theorem dX2_oddsOf_2 : decode cX2_oddsOf 2 = .ok (.iconst 0, 1) := by decide +kernel
theorem dX2_oddsOf_3 : decode cX2_oddsOf 3 = .ok (.istore_n 3, 1) := by decide +kernel
theorem dX2_oddsOf_4 : decode cX2_oddsOf 4 = .ok (.iload_n 3, 1) := by decide +kernel
theorem dX2_oddsOf_5 : decode cX2_oddsOf 5 = .ok (.aload_n 0, 1) := by decide +kernel
theorem dX2_oddsOf_6 : decode cX2_oddsOf 6 = .ok (.getfield 30, 3) := by decide +kernel
theorem dX2_oddsOf_9 : decode cX2_oddsOf 9 = .ok (.if_icmp .ge 21, 3) := by decide +kernel
theorem dX2_oddsOf_12 : decode cX2_oddsOf 12 = .ok (.aload_n 0, 1) := by decide +kernel
theorem dX2_oddsOf_13 : decode cX2_oddsOf 13 = .ok (.iload_n 1, 1) := by decide +kernel
theorem dX2_oddsOf_14 : decode cX2_oddsOf 14 = .ok (.iload_n 3, 1) := by decide +kernel
theorem dX2_oddsOf_15 : decode cX2_oddsOf 15 = .ok (.invokevirtual 50, 3) := by decide +kernel
theorem dX2_oddsOf_18 : decode cX2_oddsOf 18 = .ok (.ifCond .eq 6, 3) := by decide +kernel
theorem dX2_oddsOf_21 : decode cX2_oddsOf 21 = .ok (.iinc 2 1, 3) := by decide +kernel
theorem dX2_oddsOf_24 : decode cX2_oddsOf 24 = .ok (.iinc 3 1, 3) := by decide +kernel
theorem dX2_oddsOf_27 : decode cX2_oddsOf 27 = .ok (.goto (-23), 3) := by decide +kernel
theorem dX2_oddsOf_30 : decode cX2_oddsOf 30 = .ok (.iload_n 2, 1) := by decide +kernel
theorem dX2_oddsOf_31 : decode cX2_oddsOf 31 = .ok (.ireturn, 1) := by decide +kernel
set_option maxRecDepth 20000 in
theorem ggX2_oddPairs_X2_oddsOf : GoodIn wsX2_oddPairs wsX2_oddsOf := goodIn_r _ [7, 1, 8, 9, 10, 6, 11, 2, 12, 13, 14, 15, 16, 17, 18, 19] (by decide +kernel) (by decide +kernel)
set_option maxRecDepth 20000 in
theorem gX2_oddPairs_X2_oddsOf : GoodIn wsX2_oddPairs (wsV RX2 54 RX2 yX2_oddsOf wsX2_oddsOf) := goodIn_app (goodIn_of _ (by decide +kernel)) ggX2_oddPairs_X2_oddsOf
theorem dX2_oddPairs_0 : decode cX2_oddPairs 0 = .ok (.iconst 0, 1) := by decide +kernel
theorem dX2_oddPairs_1 : decode cX2_oddPairs 1 = .ok (.istore_n 1, 1) := by decide +kernel
theorem dX2_oddPairs_2 : decode cX2_oddPairs 2 = .ok (.iconst 0, 1) := by decide +kernel
theorem dX2_oddPairs_3 : decode cX2_oddPairs 3 = .ok (.istore_n 2, 1) := by decide +kernel
theorem dX2_oddPairs_4 : decode cX2_oddPairs 4 = .ok (.iload_n 2, 1) := by decide +kernel
theorem dX2_oddPairs_5 : decode cX2_oddPairs 5 = .ok (.aload_n 0, 1) := by decide +kernel
theorem dX2_oddPairs_6 : decode cX2_oddPairs 6 = .ok (.getfield 30, 3) := by decide +kernel
theorem dX2_oddPairs_9 : decode cX2_oddPairs 9 = .ok (.if_icmp .ge 27, 3) := by decide +kernel
theorem dX2_oddPairs_12 : decode cX2_oddPairs 12 = .ok (.aload_n 0, 1) := by decide +kernel
theorem dX2_oddPairs_13 : decode cX2_oddPairs 13 = .ok (.getfield 15, 3) := by decide +kernel
theorem dX2_oddPairs_16 : decode cX2_oddPairs 16 = .ok (.iload_n 2, 1) := by decide +kernel
theorem dX2_oddPairs_17 : decode cX2_oddPairs 17 = .ok (.iaload, 1) := by decide +kernel
theorem dX2_oddPairs_18 : decode cX2_oddPairs 18 = .ok (.iconst 1, 1) := by decide +kernel
theorem dX2_oddPairs_19 : decode cX2_oddPairs 19 = .ok (.if_icmp .ne 11, 3) := by decide +kernel
theorem dX2_oddPairs_22 : decode cX2_oddPairs 22 = .ok (.iload_n 1, 1) := by decide +kernel
theorem dX2_oddPairs_23 : decode cX2_oddPairs 23 = .ok (.aload_n 0, 1) := by decide +kernel
theorem dX2_oddPairs_24 : decode cX2_oddPairs 24 = .ok (.iload_n 2, 1) := by decide +kernel
theorem dX2_oddPairs_25 : decode cX2_oddPairs 25 = .ok (.invokevirtual 54, 3) := by decide +kernel
theorem dX2_oddPairs_28 : decode cX2_oddPairs 28 = .ok (.iadd, 1) := by decide +kernel
theorem dX2_oddPairs_29 : decode cX2_oddPairs 29 = .ok (.istore_n 1, 1) := by decide +kernel
theorem dX2_oddPairs_30 : decode cX2_oddPairs 30 = .ok (.iinc 2 1, 3) := by decide +kernel
theorem dX2_oddPairs_33 : decode cX2_oddPairs 33 = .ok (.goto (-29), 3) := by decide +kernel
theorem dX2_oddPairs_36 : decode cX2_oddPairs 36 = .ok (.iload_n 1, 1) := by decide +kernel
theorem dX2_oddPairs_37 : decode cX2_oddPairs 37 = .ok (.ireturn, 1) := by decide +kernel
theorem dX2_areAtOdds_0 : decode cX2_areAtOdds 0 = .ok (.aload_n 0, 1) := by decide +kernel
theorem dX2_areAtOdds_1 : decode cX2_areAtOdds 1 = .ok (.getfield 15, 3) := by decide +kernel
theorem dX2_areAtOdds_4 : decode cX2_areAtOdds 4 = .ok (.iload_n 1, 1) := by decide +kernel
theorem dX2_areAtOdds_5 : decode cX2_areAtOdds 5 = .ok (.iaload, 1) := by decide +kernel
theorem dX2_areAtOdds_6 : decode cX2_areAtOdds 6 = .ok (.iconst 1, 1) := by decide +kernel
theorem dX2_areAtOdds_7 : decode cX2_areAtOdds 7 = .ok (.if_icmp .ne 7, 3) := by decide +kernel
theorem dX2_areAtOdds_10 : decode cX2_areAtOdds 10 = .ok (.iconst 1, 1) := by decide +kernel
theorem dX2_areAtOdds_11 : decode cX2_areAtOdds 11 = .ok (.goto 4, 3) := by decide +kernel
theorem dX2_areAtOdds_14 : decode cX2_areAtOdds 14 = .ok (.iconst 0, 1) := by decide +kernel
theorem dX2_areAtOdds_15 : decode cX2_areAtOdds 15 = .ok (.aload_n 0, 1) := by decide +kernel
theorem dX2_areAtOdds_16 : decode cX2_areAtOdds 16 = .ok (.getfield 15, 3) := by decide +kernel
theorem dX2_areAtOdds_19 : decode cX2_areAtOdds 19 = .ok (.iload_n 2, 1) := by decide +kernel
theorem dX2_areAtOdds_20 : decode cX2_areAtOdds 20 = .ok (.iaload, 1) := by decide +kernel
theorem dX2_areAtOdds_21 : decode cX2_areAtOdds 21 = .ok (.iconst 1, 1) := by decide +kernel
theorem dX2_areAtOdds_22 : decode cX2_areAtOdds 22 = .ok (.if_icmp .ne 7, 3) := by decide +kernel
theorem dX2_areAtOdds_25 : decode cX2_areAtOdds 25 = .ok (.iconst 1, 1) := by decide +kernel
theorem dX2_areAtOdds_26 : decode cX2_areAtOdds 26 = .ok (.goto 4, 3) := by decide +kernel
theorem dX2_areAtOdds_29 : decode cX2_areAtOdds 29 = .ok (.iconst 0, 1) := by decide +kernel
theorem dX2_areAtOdds_30 : decode cX2_areAtOdds 30 = .ok (.if_icmp .eq 23, 3) := by decide +kernel
theorem dX2_areAtOdds_33 : decode cX2_areAtOdds 33 = .ok (.aload_n 0, 1) := by decide +kernel
theorem dX2_areAtOdds_34 : decode cX2_areAtOdds 34 = .ok (.getfield 27, 3) := by decide +kernel
theorem dX2_areAtOdds_37 : decode cX2_areAtOdds 37 = .ok (.iload_n 1, 1) := by decide +kernel
theorem dX2_areAtOdds_38 : decode cX2_areAtOdds 38 = .ok (.iaload, 1) := by decide +kernel
theorem dX2_areAtOdds_39 : decode cX2_areAtOdds 39 = .ok (.aload_n 0, 1) := by decide +kernel
theorem dX2_areAtOdds_40 : decode cX2_areAtOdds 40 = .ok (.getfield 27, 3) := by decide +kernel
theorem dX2_areAtOdds_43 : decode cX2_areAtOdds 43 = .ok (.iload_n 2, 1) := by decide +kernel
theorem dX2_areAtOdds_44 : decode cX2_areAtOdds 44 = .ok (.iaload, 1) := by decide +kernel
theorem dX2_areAtOdds_45 : decode cX2_areAtOdds 45 = .ok (.iand, 1) := by decide +kernel
theorem dX2_areAtOdds_46 : decode cX2_areAtOdds 46 = .ok (.ifCond .eq 7, 3) := by decide +kernel
theorem dX2_areAtOdds_49 : decode cX2_areAtOdds 49 = .ok (.iconst 1, 1) := by decide +kernel
theorem dX2_areAtOdds_50 : decode cX2_areAtOdds 50 = .ok (.goto 4, 3) := by decide +kernel
theorem dX2_areAtOdds_53 : decode cX2_areAtOdds 53 = .ok (.iconst 0, 1) := by decide +kernel
theorem dX2_areAtOdds_54 : decode cX2_areAtOdds 54 = .ok (.ireturn, 1) := by decide +kernel
set_option maxRecDepth 20000 in
theorem ggX2_reason_X2_permittedPairs : GoodIn wsX2_reason wsX2_permittedPairs := goodIn_r _ [9, 1, 2, 10, 19, 20, 21, 22, 23, 24, 25] (by decide +kernel) (by decide +kernel)
set_option maxRecDepth 20000 in
theorem gX2_reason_X2_permittedPairs : GoodIn wsX2_reason (wsV RX2 58 RX2 yX2_permittedPairs wsX2_permittedPairs) := goodIn_app (goodIn_of _ (by decide +kernel)) ggX2_reason_X2_permittedPairs
set_option maxRecDepth 20000 in
theorem ggX2_reason_X2_heldPairs : GoodIn wsX2_reason wsX2_heldPairs := goodIn_r _ [14, 10, 1, 15, 16, 17, 8, 18, 2, 4, 3, 19, 20, 21, 22, 23, 24, 25] (by decide +kernel) (by decide +kernel)
set_option maxRecDepth 20000 in
theorem gX2_reason_X2_heldPairs : GoodIn wsX2_reason (wsV RX2 62 RX2 yX2_heldPairs wsX2_heldPairs) := goodIn_app (goodIn_of _ (by decide +kernel)) ggX2_reason_X2_heldPairs
theorem dX2_reason_0 : decode cX2_reason 0 = .ok (.aload_n 0, 1) := by decide +kernel
theorem dX2_reason_1 : decode cX2_reason 1 = .ok (.invokevirtual 58, 3) := by decide +kernel
theorem dX2_reason_4 : decode cX2_reason 4 = .ok (.iload_n 1, 1) := by decide +kernel
theorem dX2_reason_5 : decode cX2_reason 5 = .ok (.iand, 1) := by decide +kernel
theorem dX2_reason_6 : decode cX2_reason 6 = .ok (.ifCond .ne 6, 3) := by decide +kernel
theorem dX2_reason_9 : decode cX2_reason 9 = .ok (.bipush 100, 2) := by decide +kernel
theorem dX2_reason_11 : decode cX2_reason 11 = .ok (.ireturn, 1) := by decide +kernel
theorem dX2_reason_12 : decode cX2_reason 12 = .ok (.bipush (-6), 2) := by decide +kernel
theorem dX2_reason_14 : decode cX2_reason 14 = .ok (.istore_n 3, 1) := by decide +kernel
theorem dX2_reason_15 : decode cX2_reason 15 = .ok (.iconst 5, 1) := by decide +kernel
theorem dX2_reason_16 : decode cX2_reason 16 = .ok (.istore 4, 2) := by decide +kernel
theorem dX2_reason_18 : decode cX2_reason 18 = .ok (.iconst 0, 1) := by decide +kernel
theorem dX2_reason_19 : decode cX2_reason 19 = .ok (.istore 5, 2) := by decide +kernel
theorem dX2_reason_21 : decode cX2_reason 21 = .ok (.iload 5, 2) := by decide +kernel
theorem dX2_reason_23 : decode cX2_reason 23 = .ok (.aload_n 0, 1) := by decide +kernel
theorem dX2_reason_24 : decode cX2_reason 24 = .ok (.getfield 30, 3) := by decide +kernel
theorem dX2_reason_27 : decode cX2_reason 27 = .ok (.if_icmp .ge 69, 3) := by decide +kernel
theorem dX2_reason_30 : decode cX2_reason 30 = .ok (.aload_n 0, 1) := by decide +kernel
theorem dX2_reason_31 : decode cX2_reason 31 = .ok (.getfield 15, 3) := by decide +kernel
theorem dX2_reason_34 : decode cX2_reason 34 = .ok (.iload 5, 2) := by decide +kernel
theorem dX2_reason_36 : decode cX2_reason 36 = .ok (.iaload, 1) := by decide +kernel
theorem dX2_reason_37 : decode cX2_reason 37 = .ok (.iconst 1, 1) := by decide +kernel
theorem dX2_reason_38 : decode cX2_reason 38 = .ok (.if_icmp .ne 52, 3) := by decide +kernel
theorem dX2_reason_41 : decode cX2_reason 41 = .ok (.iload_n 2, 1) := by decide +kernel
theorem dX2_reason_42 : decode cX2_reason 42 = .ok (.aload_n 0, 1) := by decide +kernel
theorem dX2_reason_43 : decode cX2_reason 43 = .ok (.getfield 24, 3) := by decide +kernel
theorem dX2_reason_46 : decode cX2_reason 46 = .ok (.iload 5, 2) := by decide +kernel
theorem dX2_reason_48 : decode cX2_reason 48 = .ok (.iaload, 1) := by decide +kernel
theorem dX2_reason_49 : decode cX2_reason 49 = .ok (.if_icmp .ge 41, 3) := by decide +kernel
theorem dX2_reason_52 : decode cX2_reason 52 = .ok (.aload_n 0, 1) := by decide +kernel
theorem dX2_reason_53 : decode cX2_reason 53 = .ok (.getfield 11, 3) := by decide +kernel
theorem dX2_reason_56 : decode cX2_reason 56 = .ok (.iload 5, 2) := by decide +kernel
theorem dX2_reason_58 : decode cX2_reason 58 = .ok (.iaload, 1) := by decide +kernel
theorem dX2_reason_59 : decode cX2_reason 59 = .ok (.iload 4, 2) := by decide +kernel
theorem dX2_reason_61 : decode cX2_reason 61 = .ok (.if_icmp .lt 6, 3) := by decide +kernel
theorem dX2_reason_64 : decode cX2_reason 64 = .ok (.goto 26, 3) := by decide +kernel
theorem dX2_reason_67 : decode cX2_reason 67 = .ok (.aload_n 0, 1) := by decide +kernel
theorem dX2_reason_68 : decode cX2_reason 68 = .ok (.iload 5, 2) := by decide +kernel
theorem dX2_reason_70 : decode cX2_reason 70 = .ok (.invokevirtual 62, 3) := by decide +kernel
theorem dX2_reason_73 : decode cX2_reason 73 = .ok (.iload_n 1, 1) := by decide +kernel
theorem dX2_reason_74 : decode cX2_reason 74 = .ok (.iand, 1) := by decide +kernel
theorem dX2_reason_75 : decode cX2_reason 75 = .ok (.ifCond .eq 15, 3) := by decide +kernel
theorem dX2_reason_78 : decode cX2_reason 78 = .ok (.iload 5, 2) := by decide +kernel
theorem dX2_reason_80 : decode cX2_reason 80 = .ok (.istore_n 3, 1) := by decide +kernel
theorem dX2_reason_81 : decode cX2_reason 81 = .ok (.aload_n 0, 1) := by decide +kernel
theorem dX2_reason_82 : decode cX2_reason 82 = .ok (.getfield 11, 3) := by decide +kernel
theorem dX2_reason_85 : decode cX2_reason 85 = .ok (.iload 5, 2) := by decide +kernel
theorem dX2_reason_87 : decode cX2_reason 87 = .ok (.iaload, 1) := by decide +kernel
theorem dX2_reason_88 : decode cX2_reason 88 = .ok (.istore 4, 2) := by decide +kernel
theorem dX2_reason_90 : decode cX2_reason 90 = .ok (.iinc 5 1, 3) := by decide +kernel
theorem dX2_reason_93 : decode cX2_reason 93 = .ok (.goto (-72), 3) := by decide +kernel
theorem dX2_reason_96 : decode cX2_reason 96 = .ok (.iload_n 3, 1) := by decide +kernel
theorem dX2_reason_97 : decode cX2_reason 97 = .ok (.ireturn, 1) := by decide +kernel
set_option maxRecDepth 20000 in
theorem ggX2_allowsByLayers_X2_permittedPairs : GoodIn wsX2_allowsByLayers wsX2_permittedPairs := goodIn_r _ [9, 10, 11, 12, 19, 20, 21, 22, 23, 24, 25] (by decide +kernel) (by decide +kernel)
set_option maxRecDepth 20000 in
theorem gX2_allowsByLayers_X2_permittedPairs : GoodIn wsX2_allowsByLayers (wsV RX2 58 RX2 yX2_permittedPairs wsX2_permittedPairs) := goodIn_app (goodIn_of _ (by decide +kernel)) ggX2_allowsByLayers_X2_permittedPairs
set_option maxRecDepth 20000 in
theorem ggX2_allowsByLayers_X2_strongest : GoodIn wsX2_allowsByLayers wsX2_strongest := goodIn_r _ [16, 10, 11, 17, 12, 18, 1, 2, 3, 4, 19, 20, 21, 22, 23, 24, 25] (by decide +kernel) (by decide +kernel)
set_option maxRecDepth 20000 in
theorem gX2_allowsByLayers_X2_strongest : GoodIn wsX2_allowsByLayers (wsV RX2 65 RX2 yX2_strongest wsX2_strongest) := goodIn_app (goodIn_of _ (by decide +kernel)) ggX2_allowsByLayers_X2_strongest
theorem dX2_allowsByLayers_0 : decode cX2_allowsByLayers 0 = .ok (.aload_n 0, 1) := by decide +kernel
theorem dX2_allowsByLayers_1 : decode cX2_allowsByLayers 1 = .ok (.invokevirtual 58, 3) := by decide +kernel
theorem dX2_allowsByLayers_4 : decode cX2_allowsByLayers 4 = .ok (.iload_n 1, 1) := by decide +kernel
theorem dX2_allowsByLayers_5 : decode cX2_allowsByLayers 5 = .ok (.iand, 1) := by decide +kernel
theorem dX2_allowsByLayers_6 : decode cX2_allowsByLayers 6 = .ok (.ifCond .ne 5, 3) := by decide +kernel
theorem dX2_allowsByLayers_9 : decode cX2_allowsByLayers 9 = .ok (.iconst 0, 1) := by decide +kernel
theorem dX2_allowsByLayers_10 : decode cX2_allowsByLayers 10 = .ok (.ireturn, 1) := by decide +kernel
theorem dX2_allowsByLayers_11 : decode cX2_allowsByLayers 11 = .ok (.iconst 0, 1) := by decide +kernel
theorem dX2_allowsByLayers_12 : decode cX2_allowsByLayers 12 = .ok (.istore_n 3, 1) := by decide +kernel
theorem dX2_allowsByLayers_13 : decode cX2_allowsByLayers 13 = .ok (.iconst 0, 1) := by decide +kernel
theorem dX2_allowsByLayers_14 : decode cX2_allowsByLayers 14 = .ok (.istore 4, 2) := by decide +kernel
theorem dX2_allowsByLayers_16 : decode cX2_allowsByLayers 16 = .ok (.iload 4, 2) := by decide +kernel
theorem dX2_allowsByLayers_18 : decode cX2_allowsByLayers 18 = .ok (.iconst 5, 1) := by decide +kernel
theorem dX2_allowsByLayers_19 : decode cX2_allowsByLayers 19 = .ok (.if_icmp .ge 40, 3) := by decide +kernel
theorem dX2_allowsByLayers_22 : decode cX2_allowsByLayers 22 = .ok (.iload_n 3, 1) := by decide +kernel
theorem dX2_allowsByLayers_23 : decode cX2_allowsByLayers 23 = .ok (.aload_n 0, 1) := by decide +kernel
theorem dX2_allowsByLayers_24 : decode cX2_allowsByLayers 24 = .ok (.iconst 2, 1) := by decide +kernel
theorem dX2_allowsByLayers_25 : decode cX2_allowsByLayers 25 = .ok (.iload 4, 2) := by decide +kernel
theorem dX2_allowsByLayers_27 : decode cX2_allowsByLayers 27 = .ok (.iload_n 1, 1) := by decide +kernel
theorem dX2_allowsByLayers_28 : decode cX2_allowsByLayers 28 = .ok (.invokevirtual 65, 3) := by decide +kernel
theorem dX2_allowsByLayers_31 : decode cX2_allowsByLayers 31 = .ok (.invokestatic 69, 3) := by decide +kernel
theorem dX2_allowsByLayers_34 : decode cX2_allowsByLayers 34 = .ok (.istore_n 3, 1) := by decide +kernel
theorem dX2_allowsByLayers_35 : decode cX2_allowsByLayers 35 = .ok (.aload_n 0, 1) := by decide +kernel
theorem dX2_allowsByLayers_36 : decode cX2_allowsByLayers 36 = .ok (.iconst 1, 1) := by decide +kernel
theorem dX2_allowsByLayers_37 : decode cX2_allowsByLayers 37 = .ok (.iload 4, 2) := by decide +kernel
theorem dX2_allowsByLayers_39 : decode cX2_allowsByLayers 39 = .ok (.iload_n 1, 1) := by decide +kernel
theorem dX2_allowsByLayers_40 : decode cX2_allowsByLayers 40 = .ok (.invokevirtual 65, 3) := by decide +kernel
theorem dX2_allowsByLayers_43 : decode cX2_allowsByLayers 43 = .ok (.iload_n 3, 1) := by decide +kernel
theorem dX2_allowsByLayers_44 : decode cX2_allowsByLayers 44 = .ok (.iload_n 2, 1) := by decide +kernel
theorem dX2_allowsByLayers_45 : decode cX2_allowsByLayers 45 = .ok (.invokestatic 69, 3) := by decide +kernel
theorem dX2_allowsByLayers_48 : decode cX2_allowsByLayers 48 = .ok (.if_icmp .le 5, 3) := by decide +kernel
theorem dX2_allowsByLayers_51 : decode cX2_allowsByLayers 51 = .ok (.iconst 0, 1) := by decide +kernel
theorem dX2_allowsByLayers_52 : decode cX2_allowsByLayers 52 = .ok (.ireturn, 1) := by decide +kernel
theorem dX2_allowsByLayers_53 : decode cX2_allowsByLayers 53 = .ok (.iinc 4 1, 3) := by decide +kernel
theorem dX2_allowsByLayers_56 : decode cX2_allowsByLayers 56 = .ok (.goto (-40), 3) := by decide +kernel
theorem dX2_allowsByLayers_59 : decode cX2_allowsByLayers 59 = .ok (.iconst 1, 1) := by decide +kernel
theorem dX2_allowsByLayers_60 : decode cX2_allowsByLayers 60 = .ok (.ireturn, 1) := by decide +kernel
theorem dX2_strongest_0 : decode cX2_strongest 0 = .ok (.iconst 0, 1) := by decide +kernel
theorem dX2_strongest_1 : decode cX2_strongest 1 = .ok (.istore 4, 2) := by decide +kernel
theorem dX2_strongest_3 : decode cX2_strongest 3 = .ok (.iconst 0, 1) := by decide +kernel
theorem dX2_strongest_4 : decode cX2_strongest 4 = .ok (.istore 5, 2) := by decide +kernel
theorem dX2_strongest_6 : decode cX2_strongest 6 = .ok (.iload 5, 2) := by decide +kernel
theorem dX2_strongest_8 : decode cX2_strongest 8 = .ok (.aload_n 0, 1) := by decide +kernel
theorem dX2_strongest_9 : decode cX2_strongest 9 = .ok (.getfield 30, 3) := by decide +kernel
theorem dX2_strongest_12 : decode cX2_strongest 12 = .ok (.if_icmp .ge 57, 3) := by decide +kernel
theorem dX2_strongest_15 : decode cX2_strongest 15 = .ok (.aload_n 0, 1) := by decide +kernel
theorem dX2_strongest_16 : decode cX2_strongest 16 = .ok (.getfield 15, 3) := by decide +kernel
theorem dX2_strongest_19 : decode cX2_strongest 19 = .ok (.iload 5, 2) := by decide +kernel
theorem dX2_strongest_21 : decode cX2_strongest 21 = .ok (.iaload, 1) := by decide +kernel
theorem dX2_strongest_22 : decode cX2_strongest 22 = .ok (.iload_n 1, 1) := by decide +kernel
theorem dX2_strongest_23 : decode cX2_strongest 23 = .ok (.if_icmp .ne 40, 3) := by decide +kernel
theorem dX2_strongest_26 : decode cX2_strongest 26 = .ok (.aload_n 0, 1) := by decide +kernel
theorem dX2_strongest_27 : decode cX2_strongest 27 = .ok (.getfield 11, 3) := by decide +kernel
theorem dX2_strongest_30 : decode cX2_strongest 30 = .ok (.iload 5, 2) := by decide +kernel
theorem dX2_strongest_32 : decode cX2_strongest 32 = .ok (.iaload, 1) := by decide +kernel
theorem dX2_strongest_33 : decode cX2_strongest 33 = .ok (.iload_n 2, 1) := by decide +kernel
theorem dX2_strongest_34 : decode cX2_strongest 34 = .ok (.if_icmp .ne 29, 3) := by decide +kernel
theorem dX2_strongest_37 : decode cX2_strongest 37 = .ok (.aload_n 0, 1) := by decide +kernel
theorem dX2_strongest_38 : decode cX2_strongest 38 = .ok (.getfield 27, 3) := by decide +kernel
theorem dX2_strongest_41 : decode cX2_strongest 41 = .ok (.iload 5, 2) := by decide +kernel
theorem dX2_strongest_43 : decode cX2_strongest 43 = .ok (.iaload, 1) := by decide +kernel
theorem dX2_strongest_44 : decode cX2_strongest 44 = .ok (.iload_n 3, 1) := by decide +kernel
theorem dX2_strongest_45 : decode cX2_strongest 45 = .ok (.iand, 1) := by decide +kernel
theorem dX2_strongest_46 : decode cX2_strongest 46 = .ok (.ifCond .eq 17, 3) := by decide +kernel
theorem dX2_strongest_49 : decode cX2_strongest 49 = .ok (.iload 4, 2) := by decide +kernel
theorem dX2_strongest_51 : decode cX2_strongest 51 = .ok (.aload_n 0, 1) := by decide +kernel
theorem dX2_strongest_52 : decode cX2_strongest 52 = .ok (.getfield 24, 3) := by decide +kernel
theorem dX2_strongest_55 : decode cX2_strongest 55 = .ok (.iload 5, 2) := by decide +kernel
theorem dX2_strongest_57 : decode cX2_strongest 57 = .ok (.iaload, 1) := by decide +kernel
theorem dX2_strongest_58 : decode cX2_strongest 58 = .ok (.invokestatic 69, 3) := by decide +kernel
theorem dX2_strongest_61 : decode cX2_strongest 61 = .ok (.istore 4, 2) := by decide +kernel
theorem dX2_strongest_63 : decode cX2_strongest 63 = .ok (.iinc 5 1, 3) := by decide +kernel
theorem dX2_strongest_66 : decode cX2_strongest 66 = .ok (.goto (-60), 3) := by decide +kernel
theorem dX2_strongest_69 : decode cX2_strongest 69 = .ok (.iload 4, 2) := by decide +kernel
theorem dX2_strongest_71 : decode cX2_strongest 71 = .ok (.ireturn, 1) := by decide +kernel
set_option maxRecDepth 20000 in
theorem ggX2_allowedPairs_X2_permittedPairs : GoodIn wsX2_allowedPairs wsX2_permittedPairs := goodIn_r _ [5, 6, 7, 8, 23, 24, 25, 26, 27, 28, 29] (by decide +kernel) (by decide +kernel)
set_option maxRecDepth 20000 in
theorem gX2_allowedPairs_X2_permittedPairs : GoodIn wsX2_allowedPairs (wsV RX2 58 RX2 yX2_permittedPairs wsX2_permittedPairs) := goodIn_app (goodIn_of _ (by decide +kernel)) ggX2_allowedPairs_X2_permittedPairs
set_option maxRecDepth 20000 in
theorem ggX2_allowedPairs_X2_heldPairsOfSeal : GoodIn wsX2_allowedPairs wsX2_heldPairsOfSeal := goodIn_r _ [12, 6, 7, 13, 14, 15, 16, 4, 17, 8, 18, 19, 20, 21, 22, 23, 24, 25, 26, 27, 28, 29] (by decide +kernel) (by decide +kernel)
set_option maxRecDepth 20000 in
theorem gX2_allowedPairs_X2_heldPairsOfSeal : GoodIn wsX2_allowedPairs (wsV RX2 74 RX2 yX2_heldPairsOfSeal wsX2_heldPairsOfSeal) := goodIn_app (goodIn_of _ (by decide +kernel)) ggX2_allowedPairs_X2_heldPairsOfSeal
theorem dX2_allowedPairs_0 : decode cX2_allowedPairs 0 = .ok (.aload_n 0, 1) := by decide +kernel
theorem dX2_allowedPairs_1 : decode cX2_allowedPairs 1 = .ok (.invokevirtual 58, 3) := by decide +kernel
theorem dX2_allowedPairs_4 : decode cX2_allowedPairs 4 = .ok (.istore_n 2, 1) := by decide +kernel
theorem dX2_allowedPairs_5 : decode cX2_allowedPairs 5 = .ok (.bipush 9, 2) := by decide +kernel
theorem dX2_allowedPairs_7 : decode cX2_allowedPairs 7 = .ok (.istore_n 3, 1) := by decide +kernel
theorem dX2_allowedPairs_8 : decode cX2_allowedPairs 8 = .ok (.iload_n 3, 1) := by decide +kernel
theorem dX2_allowedPairs_9 : decode cX2_allowedPairs 9 = .ok (.iload_n 1, 1) := by decide +kernel
theorem dX2_allowedPairs_10 : decode cX2_allowedPairs 10 = .ok (.if_icmp .le 19, 3) := by decide +kernel
theorem dX2_allowedPairs_13 : decode cX2_allowedPairs 13 = .ok (.iload_n 2, 1) := by decide +kernel
theorem dX2_allowedPairs_14 : decode cX2_allowedPairs 14 = .ok (.aload_n 0, 1) := by decide +kernel
theorem dX2_allowedPairs_15 : decode cX2_allowedPairs 15 = .ok (.iload_n 3, 1) := by decide +kernel
theorem dX2_allowedPairs_16 : decode cX2_allowedPairs 16 = .ok (.invokevirtual 74, 3) := by decide +kernel
theorem dX2_allowedPairs_19 : decode cX2_allowedPairs 19 = .ok (.iconst (-1), 1) := by decide +kernel
theorem dX2_allowedPairs_20 : decode cX2_allowedPairs 20 = .ok (.ixor, 1) := by decide +kernel
theorem dX2_allowedPairs_21 : decode cX2_allowedPairs 21 = .ok (.iand, 1) := by decide +kernel
theorem dX2_allowedPairs_22 : decode cX2_allowedPairs 22 = .ok (.istore_n 2, 1) := by decide +kernel
theorem dX2_allowedPairs_23 : decode cX2_allowedPairs 23 = .ok (.iinc 3 (-1), 3) := by decide +kernel
theorem dX2_allowedPairs_26 : decode cX2_allowedPairs 26 = .ok (.goto (-18), 3) := by decide +kernel
theorem dX2_allowedPairs_29 : decode cX2_allowedPairs 29 = .ok (.iload_n 2, 1) := by decide +kernel
theorem dX2_allowedPairs_30 : decode cX2_allowedPairs 30 = .ok (.ireturn, 1) := by decide +kernel
set_option maxRecDepth 20000 in
theorem ggX2_triples_X2_permittedPairs : GoodIn wsX2_triples wsX2_permittedPairs := goodIn_r _ [5, 6, 7, 8, 30, 31, 32, 33, 34, 35, 36] (by decide +kernel) (by decide +kernel)
set_option maxRecDepth 20000 in
theorem gX2_triples_X2_permittedPairs : GoodIn wsX2_triples (wsV RX2 58 RX2 yX2_permittedPairs wsX2_permittedPairs) := goodIn_app (goodIn_of _ (by decide +kernel)) ggX2_triples_X2_permittedPairs
set_option maxRecDepth 20000 in
theorem ggX2_triples_J6_bitCount_0f7a4 : GoodIn wsX2_triples wsJ6_bitCount_0f7a4 := goodIn_r _ [12, 13, 14, 15] (by decide +kernel) (by decide +kernel)
set_option maxRecDepth 20000 in
theorem gX2_triples_J6_bitCount_0f7a4 : GoodIn wsX2_triples (va_wsS RX2 77 yJ6_bitCount_0f7a4 wsJ6_bitCount_0f7a4) := goodIn_app (goodIn_of _ (by decide +kernel)) ggX2_triples_J6_bitCount_0f7a4
set_option maxRecDepth 20000 in
theorem ggX2_triples_X2_heldPairsOfSeal : GoodIn wsX2_triples wsX2_heldPairsOfSeal := goodIn_r _ [19, 6, 7, 20, 21, 22, 23, 4, 24, 8, 25, 26, 27, 28, 29, 30, 31, 32, 33, 34, 35, 36] (by decide +kernel) (by decide +kernel)
set_option maxRecDepth 20000 in
theorem gX2_triples_X2_heldPairsOfSeal : GoodIn wsX2_triples (wsV RX2 74 RX2 yX2_heldPairsOfSeal wsX2_heldPairsOfSeal) := goodIn_app (goodIn_of _ (by decide +kernel)) ggX2_triples_X2_heldPairsOfSeal
theorem dX2_triples_0 : decode cX2_triples 0 = .ok (.aload_n 0, 1) := by decide +kernel
theorem dX2_triples_1 : decode cX2_triples 1 = .ok (.invokevirtual 58, 3) := by decide +kernel
theorem dX2_triples_4 : decode cX2_triples 4 = .ok (.istore_n 1, 1) := by decide +kernel
theorem dX2_triples_5 : decode cX2_triples 5 = .ok (.iload_n 1, 1) := by decide +kernel
theorem dX2_triples_6 : decode cX2_triples 6 = .ok (.invokestatic 77, 3) := by decide +kernel
theorem dX2_triples_9 : decode cX2_triples 9 = .ok (.istore_n 2, 1) := by decide +kernel
theorem dX2_triples_10 : decode cX2_triples 10 = .ok (.bipush 9, 2) := by decide +kernel
theorem dX2_triples_12 : decode cX2_triples 12 = .ok (.istore_n 3, 1) := by decide +kernel
theorem dX2_triples_13 : decode cX2_triples 13 = .ok (.iload_n 3, 1) := by decide +kernel
theorem dX2_triples_14 : decode cX2_triples 14 = .ok (.iconst 1, 1) := by decide +kernel
theorem dX2_triples_15 : decode cX2_triples 15 = .ok (.if_icmp .lt 26, 3) := by decide +kernel
theorem dX2_triples_18 : decode cX2_triples 18 = .ok (.iload_n 1, 1) := by decide +kernel
theorem dX2_triples_19 : decode cX2_triples 19 = .ok (.aload_n 0, 1) := by decide +kernel
theorem dX2_triples_20 : decode cX2_triples 20 = .ok (.iload_n 3, 1) := by decide +kernel
theorem dX2_triples_21 : decode cX2_triples 21 = .ok (.invokevirtual 74, 3) := by decide +kernel
theorem dX2_triples_24 : decode cX2_triples 24 = .ok (.iconst (-1), 1) := by decide +kernel
theorem dX2_triples_25 : decode cX2_triples 25 = .ok (.ixor, 1) := by decide +kernel
theorem dX2_triples_26 : decode cX2_triples 26 = .ok (.iand, 1) := by decide +kernel
theorem dX2_triples_27 : decode cX2_triples 27 = .ok (.istore_n 1, 1) := by decide +kernel
theorem dX2_triples_28 : decode cX2_triples 28 = .ok (.iload_n 2, 1) := by decide +kernel
theorem dX2_triples_29 : decode cX2_triples 29 = .ok (.iload_n 1, 1) := by decide +kernel
theorem dX2_triples_30 : decode cX2_triples 30 = .ok (.invokestatic 77, 3) := by decide +kernel
theorem dX2_triples_33 : decode cX2_triples 33 = .ok (.iadd, 1) := by decide +kernel
theorem dX2_triples_34 : decode cX2_triples 34 = .ok (.istore_n 2, 1) := by decide +kernel
theorem dX2_triples_35 : decode cX2_triples 35 = .ok (.iinc 3 (-1), 3) := by decide +kernel
theorem dX2_triples_38 : decode cX2_triples 38 = .ok (.goto (-25), 3) := by decide +kernel
theorem dX2_triples_41 : decode cX2_triples 41 = .ok (.iload_n 2, 1) := by decide +kernel
theorem dX2_triples_42 : decode cX2_triples 42 = .ok (.ireturn, 1) := by decide +kernel
set_option maxRecDepth 20000 in
theorem ggX2_leastRankFor_X2_permittedPairs : GoodIn wsX2_leastRankFor wsX2_permittedPairs := goodIn_r _ [5, 6, 7, 8, 23, 24, 25, 26, 27, 28, 29] (by decide +kernel) (by decide +kernel)
set_option maxRecDepth 20000 in
theorem gX2_leastRankFor_X2_permittedPairs : GoodIn wsX2_leastRankFor (wsV RX2 58 RX2 yX2_permittedPairs wsX2_permittedPairs) := goodIn_app (goodIn_of _ (by decide +kernel)) ggX2_leastRankFor_X2_permittedPairs
set_option maxRecDepth 20000 in
theorem ggX2_leastRankFor_X2_heldPairsOfSeal : GoodIn wsX2_leastRankFor wsX2_heldPairsOfSeal := goodIn_r _ [12, 6, 7, 13, 14, 15, 16, 4, 17, 8, 18, 19, 20, 21, 22, 23, 24, 25, 26, 27, 28, 29] (by decide +kernel) (by decide +kernel)
set_option maxRecDepth 20000 in
theorem gX2_leastRankFor_X2_heldPairsOfSeal : GoodIn wsX2_leastRankFor (wsV RX2 74 RX2 yX2_heldPairsOfSeal wsX2_heldPairsOfSeal) := goodIn_app (goodIn_of _ (by decide +kernel)) ggX2_leastRankFor_X2_heldPairsOfSeal
theorem dX2_leastRankFor_0 : decode cX2_leastRankFor 0 = .ok (.aload_n 0, 1) := by decide +kernel
theorem dX2_leastRankFor_1 : decode cX2_leastRankFor 1 = .ok (.invokevirtual 58, 3) := by decide +kernel
theorem dX2_leastRankFor_4 : decode cX2_leastRankFor 4 = .ok (.iload_n 1, 1) := by decide +kernel
theorem dX2_leastRankFor_5 : decode cX2_leastRankFor 5 = .ok (.iand, 1) := by decide +kernel
theorem dX2_leastRankFor_6 : decode cX2_leastRankFor 6 = .ok (.ifCond .ne 6, 3) := by decide +kernel
theorem dX2_leastRankFor_9 : decode cX2_leastRankFor 9 = .ok (.bipush (-6), 2) := by decide +kernel
theorem dX2_leastRankFor_11 : decode cX2_leastRankFor 11 = .ok (.ireturn, 1) := by decide +kernel
theorem dX2_leastRankFor_12 : decode cX2_leastRankFor 12 = .ok (.bipush 9, 2) := by decide +kernel
theorem dX2_leastRankFor_14 : decode cX2_leastRankFor 14 = .ok (.istore_n 2, 1) := by decide +kernel
theorem dX2_leastRankFor_15 : decode cX2_leastRankFor 15 = .ok (.iload_n 2, 1) := by decide +kernel
theorem dX2_leastRankFor_16 : decode cX2_leastRankFor 16 = .ok (.iconst 1, 1) := by decide +kernel
theorem dX2_leastRankFor_17 : decode cX2_leastRankFor 17 = .ok (.if_icmp .lt 21, 3) := by decide +kernel
theorem dX2_leastRankFor_20 : decode cX2_leastRankFor 20 = .ok (.aload_n 0, 1) := by decide +kernel
theorem dX2_leastRankFor_21 : decode cX2_leastRankFor 21 = .ok (.iload_n 2, 1) := by decide +kernel
theorem dX2_leastRankFor_22 : decode cX2_leastRankFor 22 = .ok (.invokevirtual 74, 3) := by decide +kernel
theorem dX2_leastRankFor_25 : decode cX2_leastRankFor 25 = .ok (.iload_n 1, 1) := by decide +kernel
theorem dX2_leastRankFor_26 : decode cX2_leastRankFor 26 = .ok (.iand, 1) := by decide +kernel
theorem dX2_leastRankFor_27 : decode cX2_leastRankFor 27 = .ok (.ifCond .eq 5, 3) := by decide +kernel
theorem dX2_leastRankFor_30 : decode cX2_leastRankFor 30 = .ok (.iload_n 2, 1) := by decide +kernel
theorem dX2_leastRankFor_31 : decode cX2_leastRankFor 31 = .ok (.ireturn, 1) := by decide +kernel
theorem dX2_leastRankFor_32 : decode cX2_leastRankFor 32 = .ok (.iinc 2 (-1), 3) := by decide +kernel
theorem dX2_leastRankFor_35 : decode cX2_leastRankFor 35 = .ok (.goto (-20), 3) := by decide +kernel
theorem dX2_leastRankFor_38 : decode cX2_leastRankFor 38 = .ok (.iconst 0, 1) := by decide +kernel
theorem dX2_leastRankFor_39 : decode cX2_leastRankFor 39 = .ok (.ireturn, 1) := by decide +kernel
theorem dX2_permittedPairs_0 : decode cX2_permittedPairs 0 = .ok (.iconst 0, 1) := by decide +kernel
theorem dX2_permittedPairs_1 : decode cX2_permittedPairs 1 = .ok (.istore_n 1, 1) := by decide +kernel
theorem dX2_permittedPairs_2 : decode cX2_permittedPairs 2 = .ok (.iconst 0, 1) := by decide +kernel
theorem dX2_permittedPairs_3 : decode cX2_permittedPairs 3 = .ok (.istore_n 2, 1) := by decide +kernel
theorem dX2_permittedPairs_4 : decode cX2_permittedPairs 4 = .ok (.iload_n 2, 1) := by decide +kernel
theorem dX2_permittedPairs_5 : decode cX2_permittedPairs 5 = .ok (.aload_n 0, 1) := by decide +kernel
theorem dX2_permittedPairs_6 : decode cX2_permittedPairs 6 = .ok (.getfield 30, 3) := by decide +kernel
theorem dX2_permittedPairs_9 : decode cX2_permittedPairs 9 = .ok (.if_icmp .ge 27, 3) := by decide +kernel
theorem dX2_permittedPairs_12 : decode cX2_permittedPairs 12 = .ok (.aload_n 0, 1) := by decide +kernel
theorem dX2_permittedPairs_13 : decode cX2_permittedPairs 13 = .ok (.getfield 15, 3) := by decide +kernel
theorem dX2_permittedPairs_16 : decode cX2_permittedPairs 16 = .ok (.iload_n 2, 1) := by decide +kernel
theorem dX2_permittedPairs_17 : decode cX2_permittedPairs 17 = .ok (.iaload, 1) := by decide +kernel
theorem dX2_permittedPairs_18 : decode cX2_permittedPairs 18 = .ok (.ifCond .ne 12, 3) := by decide +kernel
theorem dX2_permittedPairs_21 : decode cX2_permittedPairs 21 = .ok (.iload_n 1, 1) := by decide +kernel
theorem dX2_permittedPairs_22 : decode cX2_permittedPairs 22 = .ok (.aload_n 0, 1) := by decide +kernel
theorem dX2_permittedPairs_23 : decode cX2_permittedPairs 23 = .ok (.getfield 27, 3) := by decide +kernel
theorem dX2_permittedPairs_26 : decode cX2_permittedPairs 26 = .ok (.iload_n 2, 1) := by decide +kernel
theorem dX2_permittedPairs_27 : decode cX2_permittedPairs 27 = .ok (.iaload, 1) := by decide +kernel
theorem dX2_permittedPairs_28 : decode cX2_permittedPairs 28 = .ok (.ior, 1) := by decide +kernel
theorem dX2_permittedPairs_29 : decode cX2_permittedPairs 29 = .ok (.istore_n 1, 1) := by decide +kernel
theorem dX2_permittedPairs_30 : decode cX2_permittedPairs 30 = .ok (.iinc 2 1, 3) := by decide +kernel
theorem dX2_permittedPairs_33 : decode cX2_permittedPairs 33 = .ok (.goto (-29), 3) := by decide +kernel
theorem dX2_permittedPairs_36 : decode cX2_permittedPairs 36 = .ok (.iload_n 1, 1) := by decide +kernel
theorem dX2_permittedPairs_37 : decode cX2_permittedPairs 37 = .ok (.ireturn, 1) := by decide +kernel
set_option maxRecDepth 20000 in
theorem ggX2_heldPairsOfSeal_X2_heldPairs : GoodIn wsX2_heldPairsOfSeal wsX2_heldPairs := goodIn_r _ [8, 9, 1, 10, 11, 12, 7, 13, 2, 14, 3, 15, 16, 17, 18, 19, 20, 21] (by decide +kernel) (by decide +kernel)
set_option maxRecDepth 20000 in
theorem gX2_heldPairsOfSeal_X2_heldPairs : GoodIn wsX2_heldPairsOfSeal (wsV RX2 62 RX2 yX2_heldPairs wsX2_heldPairs) := goodIn_app (goodIn_of _ (by decide +kernel)) ggX2_heldPairsOfSeal_X2_heldPairs
theorem dX2_heldPairsOfSeal_0 : decode cX2_heldPairsOfSeal 0 = .ok (.iconst 0, 1) := by decide +kernel
theorem dX2_heldPairsOfSeal_1 : decode cX2_heldPairsOfSeal 1 = .ok (.istore_n 2, 1) := by decide +kernel
theorem dX2_heldPairsOfSeal_2 : decode cX2_heldPairsOfSeal 2 = .ok (.iconst 0, 1) := by decide +kernel
theorem dX2_heldPairsOfSeal_3 : decode cX2_heldPairsOfSeal 3 = .ok (.istore_n 3, 1) := by decide +kernel
theorem dX2_heldPairsOfSeal_4 : decode cX2_heldPairsOfSeal 4 = .ok (.iload_n 3, 1) := by decide +kernel
theorem dX2_heldPairsOfSeal_5 : decode cX2_heldPairsOfSeal 5 = .ok (.aload_n 0, 1) := by decide +kernel
theorem dX2_heldPairsOfSeal_6 : decode cX2_heldPairsOfSeal 6 = .ok (.getfield 30, 3) := by decide +kernel
theorem dX2_heldPairsOfSeal_9 : decode cX2_heldPairsOfSeal 9 = .ok (.if_icmp .ge 37, 3) := by decide +kernel
theorem dX2_heldPairsOfSeal_12 : decode cX2_heldPairsOfSeal 12 = .ok (.aload_n 0, 1) := by decide +kernel
theorem dX2_heldPairsOfSeal_13 : decode cX2_heldPairsOfSeal 13 = .ok (.getfield 15, 3) := by decide +kernel
theorem dX2_heldPairsOfSeal_16 : decode cX2_heldPairsOfSeal 16 = .ok (.iload_n 3, 1) := by decide +kernel
theorem dX2_heldPairsOfSeal_17 : decode cX2_heldPairsOfSeal 17 = .ok (.iaload, 1) := by decide +kernel
theorem dX2_heldPairsOfSeal_18 : decode cX2_heldPairsOfSeal 18 = .ok (.iconst 1, 1) := by decide +kernel
theorem dX2_heldPairsOfSeal_19 : decode cX2_heldPairsOfSeal 19 = .ok (.if_icmp .ne 21, 3) := by decide +kernel
theorem dX2_heldPairsOfSeal_22 : decode cX2_heldPairsOfSeal 22 = .ok (.aload_n 0, 1) := by decide +kernel
theorem dX2_heldPairsOfSeal_23 : decode cX2_heldPairsOfSeal 23 = .ok (.getfield 24, 3) := by decide +kernel
theorem dX2_heldPairsOfSeal_26 : decode cX2_heldPairsOfSeal 26 = .ok (.iload_n 3, 1) := by decide +kernel
theorem dX2_heldPairsOfSeal_27 : decode cX2_heldPairsOfSeal 27 = .ok (.iaload, 1) := by decide +kernel
theorem dX2_heldPairsOfSeal_28 : decode cX2_heldPairsOfSeal 28 = .ok (.iload_n 1, 1) := by decide +kernel
theorem dX2_heldPairsOfSeal_29 : decode cX2_heldPairsOfSeal 29 = .ok (.if_icmp .ne 11, 3) := by decide +kernel
theorem dX2_heldPairsOfSeal_32 : decode cX2_heldPairsOfSeal 32 = .ok (.iload_n 2, 1) := by decide +kernel
theorem dX2_heldPairsOfSeal_33 : decode cX2_heldPairsOfSeal 33 = .ok (.aload_n 0, 1) := by decide +kernel
theorem dX2_heldPairsOfSeal_34 : decode cX2_heldPairsOfSeal 34 = .ok (.iload_n 3, 1) := by decide +kernel
theorem dX2_heldPairsOfSeal_35 : decode cX2_heldPairsOfSeal 35 = .ok (.invokevirtual 62, 3) := by decide +kernel
theorem dX2_heldPairsOfSeal_38 : decode cX2_heldPairsOfSeal 38 = .ok (.ior, 1) := by decide +kernel
theorem dX2_heldPairsOfSeal_39 : decode cX2_heldPairsOfSeal 39 = .ok (.istore_n 2, 1) := by decide +kernel
theorem dX2_heldPairsOfSeal_40 : decode cX2_heldPairsOfSeal 40 = .ok (.iinc 3 1, 3) := by decide +kernel
theorem dX2_heldPairsOfSeal_43 : decode cX2_heldPairsOfSeal 43 = .ok (.goto (-39), 3) := by decide +kernel
theorem dX2_heldPairsOfSeal_46 : decode cX2_heldPairsOfSeal 46 = .ok (.iload_n 2, 1) := by decide +kernel
theorem dX2_heldPairsOfSeal_47 : decode cX2_heldPairsOfSeal 47 = .ok (.ireturn, 1) := by decide +kernel
set_option maxRecDepth 20000 in
theorem ggX2_heldPairs_X2_lifts : GoodIn wsX2_heldPairs wsX2_lifts := goodIn_r _ [7, 8, 9, 10, 11, 12, 13, 14, 15, 16, 17] (by decide +kernel) (by decide +kernel)
set_option maxRecDepth 20000 in
theorem gX2_heldPairs_X2_lifts : GoodIn wsX2_heldPairs (wsV RX2 82 RX2 yX2_lifts wsX2_lifts) := goodIn_app (goodIn_of _ (by decide +kernel)) ggX2_heldPairs_X2_lifts
theorem dX2_heldPairs_0 : decode cX2_heldPairs 0 = .ok (.aload_n 0, 1) := by decide +kernel
theorem dX2_heldPairs_1 : decode cX2_heldPairs 1 = .ok (.getfield 27, 3) := by decide +kernel
theorem dX2_heldPairs_4 : decode cX2_heldPairs 4 = .ok (.iload_n 1, 1) := by decide +kernel
theorem dX2_heldPairs_5 : decode cX2_heldPairs 5 = .ok (.iaload, 1) := by decide +kernel
theorem dX2_heldPairs_6 : decode cX2_heldPairs 6 = .ok (.istore_n 2, 1) := by decide +kernel
theorem dX2_heldPairs_7 : decode cX2_heldPairs 7 = .ok (.iconst 0, 1) := by decide +kernel
theorem dX2_heldPairs_8 : decode cX2_heldPairs 8 = .ok (.istore_n 3, 1) := by decide +kernel
theorem dX2_heldPairs_9 : decode cX2_heldPairs 9 = .ok (.iload_n 3, 1) := by decide +kernel
theorem dX2_heldPairs_10 : decode cX2_heldPairs 10 = .ok (.aload_n 0, 1) := by decide +kernel
theorem dX2_heldPairs_11 : decode cX2_heldPairs 11 = .ok (.getfield 30, 3) := by decide +kernel
theorem dX2_heldPairs_14 : decode cX2_heldPairs 14 = .ok (.if_icmp .ge 29, 3) := by decide +kernel
theorem dX2_heldPairs_17 : decode cX2_heldPairs 17 = .ok (.aload_n 0, 1) := by decide +kernel
theorem dX2_heldPairs_18 : decode cX2_heldPairs 18 = .ok (.iload_n 3, 1) := by decide +kernel
theorem dX2_heldPairs_19 : decode cX2_heldPairs 19 = .ok (.iload_n 1, 1) := by decide +kernel
theorem dX2_heldPairs_20 : decode cX2_heldPairs 20 = .ok (.invokevirtual 82, 3) := by decide +kernel
theorem dX2_heldPairs_23 : decode cX2_heldPairs 23 = .ok (.ifCond .eq 14, 3) := by decide +kernel
theorem dX2_heldPairs_26 : decode cX2_heldPairs 26 = .ok (.iload_n 2, 1) := by decide +kernel
theorem dX2_heldPairs_27 : decode cX2_heldPairs 27 = .ok (.aload_n 0, 1) := by decide +kernel
theorem dX2_heldPairs_28 : decode cX2_heldPairs 28 = .ok (.getfield 27, 3) := by decide +kernel
theorem dX2_heldPairs_31 : decode cX2_heldPairs 31 = .ok (.iload_n 3, 1) := by decide +kernel
theorem dX2_heldPairs_32 : decode cX2_heldPairs 32 = .ok (.iaload, 1) := by decide +kernel
theorem dX2_heldPairs_33 : decode cX2_heldPairs 33 = .ok (.iconst (-1), 1) := by decide +kernel
theorem dX2_heldPairs_34 : decode cX2_heldPairs 34 = .ok (.ixor, 1) := by decide +kernel
theorem dX2_heldPairs_35 : decode cX2_heldPairs 35 = .ok (.iand, 1) := by decide +kernel
theorem dX2_heldPairs_36 : decode cX2_heldPairs 36 = .ok (.istore_n 2, 1) := by decide +kernel
theorem dX2_heldPairs_37 : decode cX2_heldPairs 37 = .ok (.iinc 3 1, 3) := by decide +kernel
theorem dX2_heldPairs_40 : decode cX2_heldPairs 40 = .ok (.goto (-31), 3) := by decide +kernel
theorem dX2_heldPairs_43 : decode cX2_heldPairs 43 = .ok (.iload_n 2, 1) := by decide +kernel
theorem dX2_heldPairs_44 : decode cX2_heldPairs 44 = .ok (.ireturn, 1) := by decide +kernel
theorem dX2_lifts_0 : decode cX2_lifts 0 = .ok (.aload_n 0, 1) := by decide +kernel
theorem dX2_lifts_1 : decode cX2_lifts 1 = .ok (.getfield 15, 3) := by decide +kernel
theorem dX2_lifts_4 : decode cX2_lifts 4 = .ok (.iload_n 1, 1) := by decide +kernel
theorem dX2_lifts_5 : decode cX2_lifts 5 = .ok (.iaload, 1) := by decide +kernel
theorem dX2_lifts_6 : decode cX2_lifts 6 = .ok (.iconst 2, 1) := by decide +kernel
theorem dX2_lifts_7 : decode cX2_lifts 7 = .ok (.if_icmp .ne 37, 3) := by decide +kernel
theorem dX2_lifts_10 : decode cX2_lifts 10 = .ok (.aload_n 0, 1) := by decide +kernel
theorem dX2_lifts_11 : decode cX2_lifts 11 = .ok (.getfield 11, 3) := by decide +kernel
theorem dX2_lifts_14 : decode cX2_lifts 14 = .ok (.iload_n 1, 1) := by decide +kernel
theorem dX2_lifts_15 : decode cX2_lifts 15 = .ok (.iaload, 1) := by decide +kernel
theorem dX2_lifts_16 : decode cX2_lifts 16 = .ok (.aload_n 0, 1) := by decide +kernel
theorem dX2_lifts_17 : decode cX2_lifts 17 = .ok (.getfield 11, 3) := by decide +kernel
theorem dX2_lifts_20 : decode cX2_lifts 20 = .ok (.iload_n 2, 1) := by decide +kernel
theorem dX2_lifts_21 : decode cX2_lifts 21 = .ok (.iaload, 1) := by decide +kernel
theorem dX2_lifts_22 : decode cX2_lifts 22 = .ok (.if_icmp .gt 22, 3) := by decide +kernel
theorem dX2_lifts_25 : decode cX2_lifts 25 = .ok (.aload_n 0, 1) := by decide +kernel
theorem dX2_lifts_26 : decode cX2_lifts 26 = .ok (.getfield 24, 3) := by decide +kernel
theorem dX2_lifts_29 : decode cX2_lifts 29 = .ok (.iload_n 1, 1) := by decide +kernel
theorem dX2_lifts_30 : decode cX2_lifts 30 = .ok (.iaload, 1) := by decide +kernel
theorem dX2_lifts_31 : decode cX2_lifts 31 = .ok (.aload_n 0, 1) := by decide +kernel
theorem dX2_lifts_32 : decode cX2_lifts 32 = .ok (.getfield 24, 3) := by decide +kernel
theorem dX2_lifts_35 : decode cX2_lifts 35 = .ok (.iload_n 2, 1) := by decide +kernel
theorem dX2_lifts_36 : decode cX2_lifts 36 = .ok (.iaload, 1) := by decide +kernel
theorem dX2_lifts_37 : decode cX2_lifts 37 = .ok (.if_icmp .lt 7, 3) := by decide +kernel
theorem dX2_lifts_40 : decode cX2_lifts 40 = .ok (.iconst 1, 1) := by decide +kernel
theorem dX2_lifts_41 : decode cX2_lifts 41 = .ok (.goto 4, 3) := by decide +kernel
theorem dX2_lifts_44 : decode cX2_lifts 44 = .ok (.iconst 0, 1) := by decide +kernel
theorem dX2_lifts_45 : decode cX2_lifts 45 = .ok (.ireturn, 1) := by decide +kernel
set_option maxRecDepth 20000 in
theorem ggX3_init_X2_init : GoodIn wsX3_init wsX2_init := goodIn_r _ [13, 14, 2, 3, 15, 16, 17, 18, 19, 20, 21, 22, 33, 34, 35, 36, 37, 38, 39] (by decide +kernel) (by decide +kernel)
set_option maxRecDepth 20000 in
theorem gX3_init_X2_init_n9 : GoodIn wsX3_init (wsX2_init) := ggX3_init_X2_init
set_option maxRecDepth 20000 in
theorem ggX3_init_X0_init : GoodIn wsX3_init wsX0_init := goodIn_r _ [24, 25, 2, 3, 15, 26, 27, 28, 29, 30, 31, 32, 42, 43, 44, 45, 46, 47, 48] (by decide +kernel) (by decide +kernel)
set_option maxRecDepth 20000 in
theorem gX3_init_X0_init_n18 : GoodIn wsX3_init (wsX0_init) := ggX3_init_X0_init
theorem dX3_init_0 : decode cX3_init 0 = .ok (.aload_n 0, 1) := by decide +kernel
theorem dX3_init_1 : decode cX3_init 1 = .ok (.invokespecial 1, 3) := by decide +kernel
theorem dX3_init_4 : decode cX3_init 4 = .ok (.aload_n 0, 1) := by decide +kernel
theorem dX3_init_5 : decode cX3_init 5 = .ok (.new 7, 3) := by decide +kernel
theorem dX3_init_8 : decode cX3_init 8 = .ok (.dup, 1) := by decide +kernel
theorem dX3_init_9 : decode cX3_init 9 = .ok (.invokespecial 9, 3) := by decide +kernel
theorem dX3_init_12 : decode cX3_init 12 = .ok (.putfield 10, 3) := by decide +kernel
theorem dX3_init_15 : decode cX3_init 15 = .ok (.aload_n 0, 1) := by decide +kernel
theorem dX3_init_16 : decode cX3_init 16 = .ok (.new 16, 3) := by decide +kernel
theorem dX3_init_19 : decode cX3_init 19 = .ok (.dup, 1) := by decide +kernel
theorem dX3_init_20 : decode cX3_init 20 = .ok (.invokespecial 18, 3) := by decide +kernel
theorem dX3_init_23 : decode cX3_init 23 = .ok (.putfield 19, 3) := by decide +kernel
theorem dX3_init_26 : decode cX3_init 26 = .ok (.return_, 1) := by decide +kernel
set_option maxRecDepth 20000 in
theorem ggX3_copyFrom_X2_copyFrom : GoodIn wsX3_copyFrom wsX2_copyFrom := goodIn_r _ [7, 8, 9, 10, 11, 12, 13, 14, 15, 16, 17, 18, 19, 20, 21, 22, 23, 24, 25, 40, 41, 42, 43, 44, 45, 46] (by decide +kernel) (by decide +kernel)
set_option maxRecDepth 20000 in
theorem gX3_copyFrom_X2_copyFrom : GoodIn wsX3_copyFrom (wsV RX3 23 RX2 yX2_copyFrom wsX2_copyFrom) := goodIn_app (goodIn_of _ (by decide +kernel)) ggX3_copyFrom_X2_copyFrom
set_option maxRecDepth 20000 in
theorem ggX3_copyFrom_X0_copyFrom : GoodIn wsX3_copyFrom wsX0_copyFrom := goodIn_r _ [30, 31, 32, 33, 34, 35, 36, 37, 15, 16, 17, 18, 19, 20, 21, 22, 23, 24, 25, 47, 48, 49, 50, 51, 52, 53] (by decide +kernel) (by decide +kernel)
set_option maxRecDepth 20000 in
theorem gX3_copyFrom_X0_copyFrom : GoodIn wsX3_copyFrom (wsV RX3 27 RX0 yX0_copyFrom wsX0_copyFrom) := goodIn_app (goodIn_of _ (by decide +kernel)) ggX3_copyFrom_X0_copyFrom
theorem dX3_copyFrom_0 : decode cX3_copyFrom 0 = .ok (.aload_n 0, 1) := by decide +kernel
theorem dX3_copyFrom_1 : decode cX3_copyFrom 1 = .ok (.getfield 10, 3) := by decide +kernel
theorem dX3_copyFrom_4 : decode cX3_copyFrom 4 = .ok (.aload_n 1, 1) := by decide +kernel
theorem dX3_copyFrom_5 : decode cX3_copyFrom 5 = .ok (.getfield 10, 3) := by decide +kernel
theorem dX3_copyFrom_8 : decode cX3_copyFrom 8 = .ok (.invokevirtual 23, 3) := by decide +kernel
theorem dX3_copyFrom_11 : decode cX3_copyFrom 11 = .ok (.aload_n 0, 1) := by decide +kernel
theorem dX3_copyFrom_12 : decode cX3_copyFrom 12 = .ok (.getfield 19, 3) := by decide +kernel
theorem dX3_copyFrom_15 : decode cX3_copyFrom 15 = .ok (.aload_n 1, 1) := by decide +kernel
theorem dX3_copyFrom_16 : decode cX3_copyFrom 16 = .ok (.getfield 19, 3) := by decide +kernel
theorem dX3_copyFrom_19 : decode cX3_copyFrom 19 = .ok (.invokevirtual 27, 3) := by decide +kernel
theorem dX3_copyFrom_22 : decode cX3_copyFrom 22 = .ok (.return_, 1) := by decide +kernel
set_option maxRecDepth 20000 in
theorem ggX4_init_X3_init : GoodIn wsX4_init wsX3_init := goodIn_r _ [20, 21, 2, 3, 22, 16, 17, 23, 24, 25, 26, 27, 28, 29, 30, 31, 32, 33, 34, 35, 36, 37, 38, 39, 40, 41, 42, 43, 44, 45, 46, 47, 48, 65, 66, 67, 68, 69, 70, 71, 55, 56, 72, 73, 74, 75, 76, 77, 78] (by decide +kernel) (by decide +kernel)
set_option maxRecDepth 20000 in
theorem gX4_init_X3_init_n11 : GoodIn wsX4_init (wsX3_init) := ggX4_init_X3_init
set_option maxRecDepth 20000 in
theorem ggX4_init_X1_init : GoodIn wsX4_init wsX1_init := goodIn_r _ [50, 51, 2, 3, 52, 53, 54, 63, 64] (by decide +kernel) (by decide +kernel)
set_option maxRecDepth 20000 in
theorem gX4_init_X1_init_n18 : GoodIn wsX4_init (wsX1_init) := ggX4_init_X1_init
set_option maxRecDepth 20000 in
theorem ggX4_init_X2_init : GoodIn wsX4_init wsX2_init := goodIn_r _ [29, 30, 2, 3, 31, 32, 33, 34, 35, 36, 37, 38, 65, 66, 67, 68, 69, 70, 71] (by decide +kernel) (by decide +kernel)
set_option maxRecDepth 20000 in
theorem gX4_init_X2_init_n36 : GoodIn wsX4_init (wsX2_init) := ggX4_init_X2_init
theorem dX4_init_0 : decode cX4_init 0 = .ok (.aload_n 0, 1) := by decide +kernel
theorem dX4_init_1 : decode cX4_init 1 = .ok (.invokespecial 3, 3) := by decide +kernel
theorem dX4_init_4 : decode cX4_init 4 = .ok (.aload_n 0, 1) := by decide +kernel
theorem dX4_init_5 : decode cX4_init 5 = .ok (.new 9, 3) := by decide +kernel
theorem dX4_init_8 : decode cX4_init 8 = .ok (.dup, 1) := by decide +kernel
theorem dX4_init_9 : decode cX4_init 9 = .ok (.invokespecial 11, 3) := by decide +kernel
theorem dX4_init_12 : decode cX4_init 12 = .ok (.putfield 12, 3) := by decide +kernel
theorem dX4_init_15 : decode cX4_init 15 = .ok (.aload_n 0, 1) := by decide +kernel
theorem dX4_init_16 : decode cX4_init 16 = .ok (.new 16, 3) := by decide +kernel
theorem dX4_init_19 : decode cX4_init 19 = .ok (.dup, 1) := by decide +kernel
theorem dX4_init_20 : decode cX4_init 20 = .ok (.invokespecial 18, 3) := by decide +kernel
theorem dX4_init_23 : decode cX4_init 23 = .ok (.putfield 19, 3) := by decide +kernel
theorem dX4_init_26 : decode cX4_init 26 = .ok (.aload_n 0, 1) := by decide +kernel
theorem dX4_init_27 : decode cX4_init 27 = .ok (.iconst 2, 1) := by decide +kernel
theorem dX4_init_28 : decode cX4_init 28 = .ok (.anewarray 9, 3) := by decide +kernel
theorem dX4_init_31 : decode cX4_init 31 = .ok (.putfield 23, 3) := by decide +kernel
theorem dX4_init_34 : decode cX4_init 34 = .ok (.aload_n 0, 1) := by decide +kernel
theorem dX4_init_35 : decode cX4_init 35 = .ok (.bipush 6, 2) := by decide +kernel
theorem dX4_init_37 : decode cX4_init 37 = .ok (.anewarray 9, 3) := by decide +kernel
theorem dX4_init_40 : decode cX4_init 40 = .ok (.putfield 27, 3) := by decide +kernel
theorem dX4_init_43 : decode cX4_init 43 = .ok (.aload_n 0, 1) := by decide +kernel
theorem dX4_init_44 : decode cX4_init 44 = .ok (.iconst 0, 1) := by decide +kernel
theorem dX4_init_45 : decode cX4_init 45 = .ok (.putfield 30, 3) := by decide +kernel
theorem dX4_init_48 : decode cX4_init 48 = .ok (.aload_n 0, 1) := by decide +kernel
theorem dX4_init_49 : decode cX4_init 49 = .ok (.new 34, 3) := by decide +kernel
theorem dX4_init_52 : decode cX4_init 52 = .ok (.dup, 1) := by decide +kernel
theorem dX4_init_53 : decode cX4_init 53 = .ok (.invokespecial 36, 3) := by decide +kernel
theorem dX4_init_56 : decode cX4_init 56 = .ok (.putfield 37, 3) := by decide +kernel
theorem dX4_init_59 : decode cX4_init 59 = .ok (.return_, 1) := by decide +kernel
set_option maxRecDepth 20000 in
theorem ggX4_add_X4_isLayer : GoodIn wsX4_add wsX4_isLayer := goodIn_r _ [7, 8, 9, 6, 10] (by decide +kernel) (by decide +kernel)
set_option maxRecDepth 20000 in
theorem gX4_add_X4_isLayer : GoodIn wsX4_add (va_wsS RX4 41 yX4_isLayer wsX4_isLayer) := goodIn_app (goodIn_of _ (by decide +kernel)) ggX4_add_X4_isLayer
set_option maxRecDepth 20000 in
theorem ggX4_add_X4_isBetween : GoodIn wsX4_add wsX4_isBetween := goodIn_r _ [10] (by decide +kernel) (by decide +kernel)
set_option maxRecDepth 20000 in
theorem gX4_add_X4_isBetween : GoodIn wsX4_add (va_wsS RX4 45 yX4_isBetween wsX4_isBetween) := goodIn_app (goodIn_of _ (by decide +kernel)) ggX4_add_X4_isBetween
set_option maxRecDepth 20000 in
theorem ggX4_add_X4_isSeal : GoodIn wsX4_add wsX4_isSeal := goodIn_r _ [13, 8, 9, 6, 10] (by decide +kernel) (by decide +kernel)
set_option maxRecDepth 20000 in
theorem gX4_add_X4_isSeal : GoodIn wsX4_add (va_wsS RX4 49 yX4_isSeal wsX4_isSeal) := goodIn_app (goodIn_of _ (by decide +kernel)) ggX4_add_X4_isSeal
set_option maxRecDepth 20000 in
theorem ggX4_add_X4_remember : GoodIn wsX4_add wsX4_remember := goodIn_r _ [17, 18, 19, 20, 21, 22, 6, 23, 24, 25, 26, 27, 28, 29, 30, 1, 31, 32, 33, 34, 35, 36, 37, 38, 39, 40, 41, 42, 43, 44, 45, 46, 47, 48, 49, 50, 51, 52, 53, 54, 55, 56, 57, 58, 59, 60, 61, 62, 63, 64, 65, 66, 67, 68, 69, 70, 71, 72, 73, 74, 75, 76, 77, 78, 79, 80, 81, 82, 83, 84, 85, 86, 93, 94, 95, 96, 97, 98, 99, 100, 101, 102, 103, 104, 105, 106, 107, 108, 109, 110, 111, 112, 113, 114] (by decide +kernel) (by decide +kernel)
set_option maxRecDepth 20000 in
theorem gX4_add_X4_remember : GoodIn wsX4_add (wsV RX4 58 RX4 yX4_remember wsX4_remember) := goodIn_app (goodIn_of _ (by decide +kernel)) ggX4_add_X4_remember
set_option maxRecDepth 20000 in
theorem ggX4_add_X2_append : GoodIn wsX4_add wsX2_append := goodIn_r _ [90, 54, 48, 49, 50, 51, 52, 53, 91, 6, 92, 101, 102, 103, 104, 105, 106, 107] (by decide +kernel) (by decide +kernel)
set_option maxRecDepth 20000 in
theorem gX4_add_X2_append : GoodIn wsX4_add (wsV RX4 61 RX2 yX2_append wsX2_append) := goodIn_app (goodIn_of _ (by decide +kernel)) ggX4_add_X2_append
theorem dX4_add_0 : decode cX4_add 0 = .ok (.iload_n 1, 1) := by decide +kernel
theorem dX4_add_1 : decode cX4_add 1 = .ok (.invokestatic 41, 3) := by decide +kernel
theorem dX4_add_4 : decode cX4_add 4 = .ok (.ifCond .eq 23, 3) := by decide +kernel
theorem dX4_add_7 : decode cX4_add 7 = .ok (.iload_n 3, 1) := by decide +kernel
theorem dX4_add_8 : decode cX4_add 8 = .ok (.iconst 0, 1) := by decide +kernel
theorem dX4_add_9 : decode cX4_add 9 = .ok (.iconst 5, 1) := by decide +kernel
theorem dX4_add_10 : decode cX4_add 10 = .ok (.invokestatic 45, 3) := by decide +kernel
theorem dX4_add_13 : decode cX4_add 13 = .ok (.ifCond .eq 14, 3) := by decide +kernel
theorem dX4_add_16 : decode cX4_add 16 = .ok (.iload 4, 2) := by decide +kernel
theorem dX4_add_18 : decode cX4_add 18 = .ok (.iconst 0, 1) := by decide +kernel
theorem dX4_add_19 : decode cX4_add 19 = .ok (.bipush 6, 2) := by decide +kernel
theorem dX4_add_21 : decode cX4_add 21 = .ok (.invokestatic 45, 3) := by decide +kernel
theorem dX4_add_24 : decode cX4_add 24 = .ok (.ifCond .ne 5, 3) := by decide +kernel
theorem dX4_add_27 : decode cX4_add 27 = .ok (.iconst (-1), 1) := by decide +kernel
theorem dX4_add_28 : decode cX4_add 28 = .ok (.ireturn, 1) := by decide +kernel
theorem dX4_add_29 : decode cX4_add 29 = .ok (.iload_n 2, 1) := by decide +kernel
theorem dX4_add_30 : decode cX4_add 30 = .ok (.iconst 0, 1) := by decide +kernel
theorem dX4_add_31 : decode cX4_add 31 = .ok (.iconst 2, 1) := by decide +kernel
theorem dX4_add_32 : decode cX4_add 32 = .ok (.invokestatic 45, 3) := by decide +kernel
theorem dX4_add_35 : decode cX4_add 35 = .ok (.ifCond .eq 11, 3) := by decide +kernel
theorem dX4_add_38 : decode cX4_add 38 = .ok (.iload 5, 2) := by decide +kernel
theorem dX4_add_40 : decode cX4_add 40 = .ok (.invokestatic 49, 3) := by decide +kernel
theorem dX4_add_43 : decode cX4_add 43 = .ok (.ifCond .ne 6, 3) := by decide +kernel
theorem dX4_add_46 : decode cX4_add 46 = .ok (.bipush (-2), 2) := by decide +kernel
theorem dX4_add_48 : decode cX4_add 48 = .ok (.ireturn, 1) := by decide +kernel
theorem dX4_add_49 : decode cX4_add 49 = .ok (.iload_n 2, 1) := by decide +kernel
theorem dX4_add_50 : decode cX4_add 50 = .ok (.ifCond .ne 10, 3) := by decide +kernel
theorem dX4_add_53 : decode cX4_add 53 = .ok (.iload_n 1, 1) := by decide +kernel
theorem dX4_add_54 : decode cX4_add 54 = .ok (.ifCond .eq 6, 3) := by decide +kernel
theorem dX4_add_57 : decode cX4_add 57 = .ok (.bipush (-5), 2) := by decide +kernel
theorem dX4_add_59 : decode cX4_add 59 = .ok (.ireturn, 1) := by decide +kernel
theorem dX4_add_60 : decode cX4_add 60 = .ok (.aload_n 0, 1) := by decide +kernel
theorem dX4_add_61 : decode cX4_add 61 = .ok (.getfield 12, 3) := by decide +kernel
theorem dX4_add_64 : decode cX4_add 64 = .ok (.getfield 52, 3) := by decide +kernel
theorem dX4_add_67 : decode cX4_add 67 = .ok (.getfield 55, 3) := by decide +kernel
theorem dX4_add_70 : decode cX4_add 70 = .ok (.bipush 24, 2) := by decide +kernel
theorem dX4_add_72 : decode cX4_add 72 = .ok (.if_icmp .lt 6, 3) := by decide +kernel
theorem dX4_add_75 : decode cX4_add 75 = .ok (.bipush (-4), 2) := by decide +kernel
theorem dX4_add_77 : decode cX4_add 77 = .ok (.ireturn, 1) := by decide +kernel
theorem dX4_add_78 : decode cX4_add 78 = .ok (.aload_n 0, 1) := by decide +kernel
theorem dX4_add_79 : decode cX4_add 79 = .ok (.invokevirtual 58, 3) := by decide +kernel
theorem dX4_add_82 : decode cX4_add 82 = .ok (.aload_n 0, 1) := by decide +kernel
theorem dX4_add_83 : decode cX4_add 83 = .ok (.getfield 12, 3) := by decide +kernel
theorem dX4_add_86 : decode cX4_add 86 = .ok (.getfield 52, 3) := by decide +kernel
theorem dX4_add_89 : decode cX4_add 89 = .ok (.iload_n 1, 1) := by decide +kernel
theorem dX4_add_90 : decode cX4_add 90 = .ok (.iload_n 2, 1) := by decide +kernel
theorem dX4_add_91 : decode cX4_add 91 = .ok (.iload_n 3, 1) := by decide +kernel
theorem dX4_add_92 : decode cX4_add 92 = .ok (.iload 4, 2) := by decide +kernel
theorem dX4_add_94 : decode cX4_add 94 = .ok (.iload 5, 2) := by decide +kernel
theorem dX4_add_96 : decode cX4_add 96 = .ok (.invokevirtual 61, 3) := by decide +kernel
theorem dX4_add_99 : decode cX4_add 99 = .ok (.aload_n 0, 1) := by decide +kernel
theorem dX4_add_100 : decode cX4_add 100 = .ok (.getfield 12, 3) := by decide +kernel
theorem dX4_add_103 : decode cX4_add 103 = .ok (.getfield 52, 3) := by decide +kernel
theorem dX4_add_106 : decode cX4_add 106 = .ok (.getfield 55, 3) := by decide +kernel
theorem dX4_add_109 : decode cX4_add 109 = .ok (.iconst 1, 1) := by decide +kernel
theorem dX4_add_110 : decode cX4_add 110 = .ok (.isub, 1) := by decide +kernel
theorem dX4_add_111 : decode cX4_add 111 = .ok (.ireturn, 1) := by decide +kernel
set_option maxRecDepth 20000 in
theorem ggX4_strike_X2_has : GoodIn wsX4_strike wsX2_has := goodIn_r _ [8, 9, 100, 101, 102, 103, 104, 105, 106] (by decide +kernel) (by decide +kernel)
set_option maxRecDepth 20000 in
theorem gX4_strike_X2_has : GoodIn wsX4_strike (wsV RX4 65 RX2 yX2_has wsX2_has) := goodIn_app (goodIn_of _ (by decide +kernel)) ggX4_strike_X2_has
set_option maxRecDepth 20000 in
theorem ggX4_strike_X4_remember : GoodIn wsX4_strike wsX4_remember := goodIn_r _ [14, 15, 16, 17, 18, 19, 13, 20, 21, 22, 23, 24, 25, 26, 27, 1, 28, 29, 30, 31, 32, 33, 34, 7, 35, 36, 37, 38, 39, 40, 41, 42, 43, 44, 45, 46, 47, 48, 49, 9, 50, 51, 52, 53, 54, 55, 56, 57, 58, 59, 60, 61, 62, 63, 64, 65, 66, 67, 68, 69, 70, 71, 72, 73, 74, 75, 76, 77, 78, 79, 80, 81, 92, 93, 94, 95, 96, 97, 98, 99, 100, 101, 102, 103, 104, 105, 106, 107, 108, 109, 110, 111, 112, 113] (by decide +kernel) (by decide +kernel)
set_option maxRecDepth 20000 in
theorem gX4_strike_X4_remember : GoodIn wsX4_strike (wsV RX4 58 RX4 yX4_remember wsX4_remember) := goodIn_app (goodIn_of _ (by decide +kernel)) ggX4_strike_X4_remember
set_option maxRecDepth 20000 in
theorem ggX4_strike_X2_remove : GoodIn wsX4_strike wsX2_remove := goodIn_r _ [85, 44, 45, 46, 47, 48, 49, 9, 86, 5, 6, 7, 8, 87, 13, 88, 89, 90, 72, 91, 100, 101, 102, 103, 104, 105, 106] (by decide +kernel) (by decide +kernel)
set_option maxRecDepth 20000 in
theorem gX4_strike_X2_remove : GoodIn wsX4_strike (wsV RX4 68 RX2 yX2_remove wsX2_remove) := goodIn_app (goodIn_of _ (by decide +kernel)) ggX4_strike_X2_remove
theorem dX4_strike_0 : decode cX4_strike 0 = .ok (.aload_n 0, 1) := by decide +kernel
theorem dX4_strike_1 : decode cX4_strike 1 = .ok (.getfield 12, 3) := by decide +kernel
theorem dX4_strike_4 : decode cX4_strike 4 = .ok (.getfield 52, 3) := by decide +kernel
theorem dX4_strike_7 : decode cX4_strike 7 = .ok (.iload_n 1, 1) := by decide +kernel
theorem dX4_strike_8 : decode cX4_strike 8 = .ok (.invokevirtual 65, 3) := by decide +kernel
theorem dX4_strike_11 : decode cX4_strike 11 = .ok (.ifCond .ne 5, 3) := by decide +kernel
theorem dX4_strike_14 : decode cX4_strike 14 = .ok (.iconst (-1), 1) := by decide +kernel
theorem dX4_strike_15 : decode cX4_strike 15 = .ok (.ireturn, 1) := by decide +kernel
theorem dX4_strike_16 : decode cX4_strike 16 = .ok (.aload_n 0, 1) := by decide +kernel
theorem dX4_strike_17 : decode cX4_strike 17 = .ok (.invokevirtual 58, 3) := by decide +kernel
theorem dX4_strike_20 : decode cX4_strike 20 = .ok (.aload_n 0, 1) := by decide +kernel
theorem dX4_strike_21 : decode cX4_strike 21 = .ok (.getfield 12, 3) := by decide +kernel
theorem dX4_strike_24 : decode cX4_strike 24 = .ok (.getfield 52, 3) := by decide +kernel
theorem dX4_strike_27 : decode cX4_strike 27 = .ok (.iload_n 1, 1) := by decide +kernel
theorem dX4_strike_28 : decode cX4_strike 28 = .ok (.invokevirtual 68, 3) := by decide +kernel
theorem dX4_strike_31 : decode cX4_strike 31 = .ok (.aload_n 0, 1) := by decide +kernel
theorem dX4_strike_32 : decode cX4_strike 32 = .ok (.getfield 12, 3) := by decide +kernel
theorem dX4_strike_35 : decode cX4_strike 35 = .ok (.getfield 52, 3) := by decide +kernel
theorem dX4_strike_38 : decode cX4_strike 38 = .ok (.getfield 55, 3) := by decide +kernel
theorem dX4_strike_41 : decode cX4_strike 41 = .ok (.ireturn, 1) := by decide +kernel
set_option maxRecDepth 20000 in
theorem ggX4_seal_X2_has : GoodIn wsX4_seal wsX2_has := goodIn_r _ [8, 9, 96, 97, 98, 99, 100, 101, 102] (by decide +kernel) (by decide +kernel)
set_option maxRecDepth 20000 in
theorem gX4_seal_X2_has : GoodIn wsX4_seal (wsV RX4 65 RX2 yX2_has wsX2_has) := goodIn_app (goodIn_of _ (by decide +kernel)) ggX4_seal_X2_has
set_option maxRecDepth 20000 in
theorem ggX4_seal_X4_isSeal : GoodIn wsX4_seal wsX4_isSeal := goodIn_r _ [13, 14, 15, 12, 16] (by decide +kernel) (by decide +kernel)
set_option maxRecDepth 20000 in
theorem gX4_seal_X4_isSeal : GoodIn wsX4_seal (va_wsS RX4 49 yX4_isSeal wsX4_isSeal) := goodIn_app (goodIn_of _ (by decide +kernel)) ggX4_seal_X4_isSeal
set_option maxRecDepth 20000 in
theorem ggX4_seal_X4_remember : GoodIn wsX4_seal wsX4_remember := goodIn_r _ [20, 21, 22, 23, 24, 25, 12, 26, 27, 28, 29, 30, 31, 32, 33, 1, 34, 35, 36, 37, 38, 39, 40, 7, 41, 42, 43, 44, 45, 46, 47, 48, 49, 50, 51, 52, 53, 54, 55, 9, 56, 57, 58, 59, 60, 61, 62, 63, 64, 65, 66, 67, 68, 69, 70, 71, 72, 73, 74, 75, 76, 77, 78, 79, 80, 81, 82, 83, 84, 85, 86, 87, 88, 89, 90, 91, 92, 93, 94, 95, 96, 97, 98, 99, 100, 101, 102, 103, 104, 105, 106, 107, 108, 109] (by decide +kernel) (by decide +kernel)
set_option maxRecDepth 20000 in
theorem gX4_seal_X4_remember : GoodIn wsX4_seal (wsV RX4 58 RX4 yX4_remember wsX4_remember) := goodIn_app (goodIn_of _ (by decide +kernel)) ggX4_seal_X4_remember
theorem dX4_seal_0 : decode cX4_seal 0 = .ok (.aload_n 0, 1) := by decide +kernel
theorem dX4_seal_1 : decode cX4_seal 1 = .ok (.getfield 12, 3) := by decide +kernel
theorem dX4_seal_4 : decode cX4_seal 4 = .ok (.getfield 52, 3) := by decide +kernel
theorem dX4_seal_7 : decode cX4_seal 7 = .ok (.iload_n 1, 1) := by decide +kernel
theorem dX4_seal_8 : decode cX4_seal 8 = .ok (.invokevirtual 65, 3) := by decide +kernel
theorem dX4_seal_11 : decode cX4_seal 11 = .ok (.ifCond .ne 5, 3) := by decide +kernel
theorem dX4_seal_14 : decode cX4_seal 14 = .ok (.iconst (-1), 1) := by decide +kernel
theorem dX4_seal_15 : decode cX4_seal 15 = .ok (.ireturn, 1) := by decide +kernel
theorem dX4_seal_16 : decode cX4_seal 16 = .ok (.iload_n 2, 1) := by decide +kernel
theorem dX4_seal_17 : decode cX4_seal 17 = .ok (.invokestatic 49, 3) := by decide +kernel
theorem dX4_seal_20 : decode cX4_seal 20 = .ok (.ifCond .ne 6, 3) := by decide +kernel
theorem dX4_seal_23 : decode cX4_seal 23 = .ok (.bipush (-2), 2) := by decide +kernel
theorem dX4_seal_25 : decode cX4_seal 25 = .ok (.ireturn, 1) := by decide +kernel
theorem dX4_seal_26 : decode cX4_seal 26 = .ok (.aload_n 0, 1) := by decide +kernel
theorem dX4_seal_27 : decode cX4_seal 27 = .ok (.invokevirtual 58, 3) := by decide +kernel
theorem dX4_seal_30 : decode cX4_seal 30 = .ok (.aload_n 0, 1) := by decide +kernel
theorem dX4_seal_31 : decode cX4_seal 31 = .ok (.getfield 12, 3) := by decide +kernel
theorem dX4_seal_34 : decode cX4_seal 34 = .ok (.getfield 52, 3) := by decide +kernel
theorem dX4_seal_37 : decode cX4_seal 37 = .ok (.getfield 72, 3) := by decide +kernel
theorem dX4_seal_40 : decode cX4_seal 40 = .ok (.iload_n 1, 1) := by decide +kernel
theorem dX4_seal_41 : decode cX4_seal 41 = .ok (.iaload, 1) := by decide +kernel
theorem dX4_seal_42 : decode cX4_seal 42 = .ok (.istore_n 3, 1) := by decide +kernel
theorem dX4_seal_43 : decode cX4_seal 43 = .ok (.aload_n 0, 1) := by decide +kernel
theorem dX4_seal_44 : decode cX4_seal 44 = .ok (.getfield 12, 3) := by decide +kernel
theorem dX4_seal_47 : decode cX4_seal 47 = .ok (.getfield 52, 3) := by decide +kernel
theorem dX4_seal_50 : decode cX4_seal 50 = .ok (.getfield 72, 3) := by decide +kernel
theorem dX4_seal_53 : decode cX4_seal 53 = .ok (.iload_n 1, 1) := by decide +kernel
theorem dX4_seal_54 : decode cX4_seal 54 = .ok (.iload_n 2, 1) := by decide +kernel
theorem dX4_seal_55 : decode cX4_seal 55 = .ok (.iastore, 1) := by decide +kernel
theorem dX4_seal_56 : decode cX4_seal 56 = .ok (.iload_n 3, 1) := by decide +kernel
theorem dX4_seal_57 : decode cX4_seal 57 = .ok (.ireturn, 1) := by decide +kernel
set_option maxRecDepth 20000 in
theorem ggX4_move_X2_has : GoodIn wsX4_move wsX2_has := goodIn_r _ [9, 10, 97, 98, 99, 100, 101, 102, 103] (by decide +kernel) (by decide +kernel)
set_option maxRecDepth 20000 in
theorem gX4_move_X2_has : GoodIn wsX4_move (wsV RX4 65 RX2 yX2_has wsX2_has) := goodIn_app (goodIn_of _ (by decide +kernel)) ggX4_move_X2_has
set_option maxRecDepth 20000 in
theorem ggX4_move_X4_isLayer : GoodIn wsX4_move wsX4_isLayer := goodIn_r _ [14, 15, 16, 13, 17] (by decide +kernel) (by decide +kernel)
set_option maxRecDepth 20000 in
theorem gX4_move_X4_isLayer : GoodIn wsX4_move (va_wsS RX4 41 yX4_isLayer wsX4_isLayer) := goodIn_app (goodIn_of _ (by decide +kernel)) ggX4_move_X4_isLayer
set_option maxRecDepth 20000 in
theorem ggX4_move_X4_remember : GoodIn wsX4_move wsX4_remember := goodIn_r _ [21, 22, 23, 24, 25, 26, 13, 27, 28, 29, 30, 31, 32, 33, 34, 1, 35, 36, 37, 38, 39, 40, 41, 8, 42, 43, 44, 45, 46, 47, 48, 49, 50, 51, 52, 53, 54, 55, 56, 10, 57, 58, 59, 60, 61, 62, 63, 64, 65, 66, 67, 68, 69, 70, 71, 72, 73, 74, 75, 76, 77, 78, 79, 80, 81, 82, 83, 84, 85, 86, 87, 88, 89, 90, 91, 92, 93, 94, 95, 96, 97, 98, 99, 100, 101, 102, 103, 104, 105, 106, 107, 108, 109, 110] (by decide +kernel) (by decide +kernel)
set_option maxRecDepth 20000 in
theorem gX4_move_X4_remember : GoodIn wsX4_move (wsV RX4 58 RX4 yX4_remember wsX4_remember) := goodIn_app (goodIn_of _ (by decide +kernel)) ggX4_move_X4_remember
theorem dX4_move_0 : decode cX4_move 0 = .ok (.aload_n 0, 1) := by decide +kernel
theorem dX4_move_1 : decode cX4_move 1 = .ok (.getfield 12, 3) := by decide +kernel
theorem dX4_move_4 : decode cX4_move 4 = .ok (.getfield 52, 3) := by decide +kernel
theorem dX4_move_7 : decode cX4_move 7 = .ok (.iload_n 1, 1) := by decide +kernel
theorem dX4_move_8 : decode cX4_move 8 = .ok (.invokevirtual 65, 3) := by decide +kernel
theorem dX4_move_11 : decode cX4_move 11 = .ok (.ifCond .eq 10, 3) := by decide +kernel
theorem dX4_move_14 : decode cX4_move 14 = .ok (.iload_n 2, 1) := by decide +kernel
theorem dX4_move_15 : decode cX4_move 15 = .ok (.invokestatic 41, 3) := by decide +kernel
theorem dX4_move_18 : decode cX4_move 18 = .ok (.ifCond .ne 5, 3) := by decide +kernel
theorem dX4_move_21 : decode cX4_move 21 = .ok (.iconst (-1), 1) := by decide +kernel
theorem dX4_move_22 : decode cX4_move 22 = .ok (.ireturn, 1) := by decide +kernel
theorem dX4_move_23 : decode cX4_move 23 = .ok (.aload_n 0, 1) := by decide +kernel
theorem dX4_move_24 : decode cX4_move 24 = .ok (.getfield 12, 3) := by decide +kernel
theorem dX4_move_27 : decode cX4_move 27 = .ok (.getfield 52, 3) := by decide +kernel
theorem dX4_move_30 : decode cX4_move 30 = .ok (.getfield 76, 3) := by decide +kernel
theorem dX4_move_33 : decode cX4_move 33 = .ok (.iload_n 1, 1) := by decide +kernel
theorem dX4_move_34 : decode cX4_move 34 = .ok (.iaload, 1) := by decide +kernel
theorem dX4_move_35 : decode cX4_move 35 = .ok (.ifCond .ne 10, 3) := by decide +kernel
theorem dX4_move_38 : decode cX4_move 38 = .ok (.iload_n 2, 1) := by decide +kernel
theorem dX4_move_39 : decode cX4_move 39 = .ok (.ifCond .eq 6, 3) := by decide +kernel
theorem dX4_move_42 : decode cX4_move 42 = .ok (.bipush (-5), 2) := by decide +kernel
theorem dX4_move_44 : decode cX4_move 44 = .ok (.ireturn, 1) := by decide +kernel
theorem dX4_move_45 : decode cX4_move 45 = .ok (.aload_n 0, 1) := by decide +kernel
theorem dX4_move_46 : decode cX4_move 46 = .ok (.invokevirtual 58, 3) := by decide +kernel
theorem dX4_move_49 : decode cX4_move 49 = .ok (.aload_n 0, 1) := by decide +kernel
theorem dX4_move_50 : decode cX4_move 50 = .ok (.getfield 12, 3) := by decide +kernel
theorem dX4_move_53 : decode cX4_move 53 = .ok (.getfield 52, 3) := by decide +kernel
theorem dX4_move_56 : decode cX4_move 56 = .ok (.getfield 79, 3) := by decide +kernel
theorem dX4_move_59 : decode cX4_move 59 = .ok (.iload_n 1, 1) := by decide +kernel
theorem dX4_move_60 : decode cX4_move 60 = .ok (.iaload, 1) := by decide +kernel
theorem dX4_move_61 : decode cX4_move 61 = .ok (.istore_n 3, 1) := by decide +kernel
theorem dX4_move_62 : decode cX4_move 62 = .ok (.aload_n 0, 1) := by decide +kernel
theorem dX4_move_63 : decode cX4_move 63 = .ok (.getfield 12, 3) := by decide +kernel
theorem dX4_move_66 : decode cX4_move 66 = .ok (.getfield 52, 3) := by decide +kernel
theorem dX4_move_69 : decode cX4_move 69 = .ok (.getfield 79, 3) := by decide +kernel
theorem dX4_move_72 : decode cX4_move 72 = .ok (.iload_n 1, 1) := by decide +kernel
theorem dX4_move_73 : decode cX4_move 73 = .ok (.iload_n 2, 1) := by decide +kernel
theorem dX4_move_74 : decode cX4_move 74 = .ok (.iastore, 1) := by decide +kernel
theorem dX4_move_75 : decode cX4_move 75 = .ok (.iload_n 3, 1) := by decide +kernel
theorem dX4_move_76 : decode cX4_move 76 = .ok (.ireturn, 1) := by decide +kernel
set_option maxRecDepth 20000 in
theorem ggX4_tidy_X4_remember : GoodIn wsX4_tidy wsX4_remember := goodIn_r _ [7, 8, 9, 10, 11, 12, 6, 13, 14, 15, 16, 17, 18, 19, 20, 1, 21, 22, 23, 24, 25, 26, 27, 28, 29, 30, 31, 32, 33, 34, 35, 36, 37, 38, 39, 40, 41, 42, 43, 44, 45, 46, 47, 48, 49, 50, 51, 52, 53, 54, 55, 56, 57, 58, 59, 60, 61, 62, 63, 64, 65, 66, 67, 68, 69, 70, 71, 72, 73, 74, 75, 76, 132, 133, 134, 135, 136, 137, 138, 139, 140, 141, 142, 143, 144, 145, 146, 147, 148, 149, 150, 151, 152, 153] (by decide +kernel) (by decide +kernel)
set_option maxRecDepth 20000 in
theorem gX4_tidy_X4_remember : GoodIn wsX4_tidy (wsV RX4 58 RX4 yX4_remember wsX4_remember) := goodIn_app (goodIn_of _ (by decide +kernel)) ggX4_tidy_X4_remember
set_option maxRecDepth 20000 in
theorem ggX4_tidy_X4_firstIdle : GoodIn wsX4_tidy wsX4_firstIdle := goodIn_r _ [80, 1, 2, 81, 82, 83, 84, 28, 85, 86, 87, 88, 89, 44, 39, 43, 90, 91, 92, 93, 94, 95, 96, 97, 98, 99, 100, 42, 101, 102, 103, 104, 105, 106, 107, 108, 38, 109, 110, 111, 6, 112, 113, 114, 115, 116, 117, 118, 60, 61, 62, 40, 41, 63, 64, 65, 66, 67, 68, 69, 70, 71, 72, 119, 120, 121, 122, 123, 124, 125, 126, 127, 128, 129, 130, 131, 132, 133, 134, 135, 136, 137, 138, 139, 140, 141, 142, 143, 144, 145, 146] (by decide +kernel) (by decide +kernel)
set_option maxRecDepth 20000 in
theorem gX4_tidy_X4_firstIdle : GoodIn wsX4_tidy (wsV RX4 96 RX4 yX4_firstIdle wsX4_firstIdle) := goodIn_app (goodIn_of _ (by decide +kernel)) ggX4_tidy_X4_firstIdle
set_option maxRecDepth 20000 in
theorem ggX4_tidy_X2_remove : GoodIn wsX4_tidy wsX2_remove := goodIn_r _ [122, 38, 39, 40, 41, 42, 43, 44, 123, 124, 125, 28, 126, 127, 6, 128, 129, 130, 67, 131, 140, 141, 142, 143, 144, 145, 146] (by decide +kernel) (by decide +kernel)
set_option maxRecDepth 20000 in
theorem gX4_tidy_X2_remove : GoodIn wsX4_tidy (wsV RX4 68 RX2 yX2_remove wsX2_remove) := goodIn_app (goodIn_of _ (by decide +kernel)) ggX4_tidy_X2_remove
theorem dX4_tidy_0 : decode cX4_tidy 0 = .ok (.aload_n 0, 1) := by decide +kernel
theorem dX4_tidy_1 : decode cX4_tidy 1 = .ok (.invokevirtual 58, 3) := by decide +kernel
theorem dX4_tidy_4 : decode cX4_tidy 4 = .ok (.iconst 0, 1) := by decide +kernel
theorem dX4_tidy_5 : decode cX4_tidy 5 = .ok (.istore_n 1, 1) := by decide +kernel
theorem dX4_tidy_6 : decode cX4_tidy 6 = .ok (.iload_n 1, 1) := by decide +kernel
theorem dX4_tidy_7 : decode cX4_tidy 7 = .ok (.bipush 24, 2) := by decide +kernel
theorem dX4_tidy_9 : decode cX4_tidy 9 = .ok (.if_icmp .ge 33, 3) := by decide +kernel
theorem dX4_tidy_12 : decode cX4_tidy 12 = .ok (.aload_n 0, 1) := by decide +kernel
theorem dX4_tidy_13 : decode cX4_tidy 13 = .ok (.invokevirtual 96, 3) := by decide +kernel
theorem dX4_tidy_16 : decode cX4_tidy 16 = .ok (.istore_n 2, 1) := by decide +kernel
theorem dX4_tidy_17 : decode cX4_tidy 17 = .ok (.iload_n 2, 1) := by decide +kernel
theorem dX4_tidy_18 : decode cX4_tidy 18 = .ok (.bipush (-6), 2) := by decide +kernel
theorem dX4_tidy_20 : decode cX4_tidy 20 = .ok (.if_icmp .ne 5, 3) := by decide +kernel
theorem dX4_tidy_23 : decode cX4_tidy 23 = .ok (.iload_n 1, 1) := by decide +kernel
theorem dX4_tidy_24 : decode cX4_tidy 24 = .ok (.ireturn, 1) := by decide +kernel
theorem dX4_tidy_25 : decode cX4_tidy 25 = .ok (.aload_n 0, 1) := by decide +kernel
theorem dX4_tidy_26 : decode cX4_tidy 26 = .ok (.getfield 12, 3) := by decide +kernel
theorem dX4_tidy_29 : decode cX4_tidy 29 = .ok (.getfield 52, 3) := by decide +kernel
theorem dX4_tidy_32 : decode cX4_tidy 32 = .ok (.iload_n 2, 1) := by decide +kernel
theorem dX4_tidy_33 : decode cX4_tidy 33 = .ok (.invokevirtual 68, 3) := by decide +kernel
theorem dX4_tidy_36 : decode cX4_tidy 36 = .ok (.iinc 1 1, 3) := by decide +kernel
theorem dX4_tidy_39 : decode cX4_tidy 39 = .ok (.goto (-33), 3) := by decide +kernel
theorem dX4_tidy_42 : decode cX4_tidy 42 = .ok (.bipush 24, 2) := by decide +kernel
theorem dX4_tidy_44 : decode cX4_tidy 44 = .ok (.ireturn, 1) := by decide +kernel
set_option maxRecDepth 20000 in
theorem ggX4_join_X4_isCraft : GoodIn wsX4_join wsX4_isCraft := goodIn_r _ [7, 8, 9, 6, 10] (by decide +kernel) (by decide +kernel)
set_option maxRecDepth 20000 in
theorem gX4_join_X4_isCraft : GoodIn wsX4_join (va_wsS RX4 99 yX4_isCraft wsX4_isCraft) := goodIn_app (goodIn_of _ (by decide +kernel)) ggX4_join_X4_isCraft
set_option maxRecDepth 20000 in
theorem ggX4_join_X4_isRank : GoodIn wsX4_join wsX4_isRank := goodIn_r _ [13, 8, 9, 6, 10] (by decide +kernel) (by decide +kernel)
set_option maxRecDepth 20000 in
theorem gX4_join_X4_isRank : GoodIn wsX4_join (va_wsS RX4 102 yX4_isRank wsX4_isRank) := goodIn_app (goodIn_of _ (by decide +kernel)) ggX4_join_X4_isRank
set_option maxRecDepth 20000 in
theorem ggX4_join_X4_remember : GoodIn wsX4_join wsX4_remember := goodIn_r _ [17, 18, 19, 20, 21, 22, 6, 23, 24, 25, 26, 27, 28, 29, 30, 1, 31, 32, 33, 34, 35, 36, 37, 38, 39, 40, 41, 42, 43, 44, 45, 46, 47, 48, 49, 50, 51, 52, 53, 54, 55, 56, 57, 58, 59, 60, 61, 62, 63, 64, 65, 66, 67, 68, 69, 70, 71, 72, 73, 74, 75, 76, 77, 78, 79, 80, 81, 82, 83, 84, 85, 86, 91, 92, 93, 94, 95, 96, 97, 98, 106, 107, 108, 109, 110, 111, 112, 99, 100, 101, 102, 103, 104, 105] (by decide +kernel) (by decide +kernel)
set_option maxRecDepth 20000 in
theorem gX4_join_X4_remember : GoodIn wsX4_join (wsV RX4 58 RX4 yX4_remember wsX4_remember) := goodIn_app (goodIn_of _ (by decide +kernel)) ggX4_join_X4_remember
set_option maxRecDepth 20000 in
theorem ggX4_join_X0_append : GoodIn wsX4_join wsX0_append := goodIn_r _ [90, 63, 58, 59, 60, 61, 99, 100, 101, 102, 103, 104, 105] (by decide +kernel) (by decide +kernel)
set_option maxRecDepth 20000 in
theorem gX4_join_X0_append : GoodIn wsX4_join (wsV RX4 112 RX0 yX0_append wsX0_append) := goodIn_app (goodIn_of _ (by decide +kernel)) ggX4_join_X0_append
theorem dX4_join_0 : decode cX4_join 0 = .ok (.iload_n 1, 1) := by decide +kernel
theorem dX4_join_1 : decode cX4_join 1 = .ok (.invokestatic 99, 3) := by decide +kernel
theorem dX4_join_4 : decode cX4_join 4 = .ok (.ifCond .ne 5, 3) := by decide +kernel
theorem dX4_join_7 : decode cX4_join 7 = .ok (.iconst (-1), 1) := by decide +kernel
theorem dX4_join_8 : decode cX4_join 8 = .ok (.ireturn, 1) := by decide +kernel
theorem dX4_join_9 : decode cX4_join 9 = .ok (.iload_n 2, 1) := by decide +kernel
theorem dX4_join_10 : decode cX4_join 10 = .ok (.invokestatic 102, 3) := by decide +kernel
theorem dX4_join_13 : decode cX4_join 13 = .ok (.ifCond .ne 6, 3) := by decide +kernel
theorem dX4_join_16 : decode cX4_join 16 = .ok (.bipush (-2), 2) := by decide +kernel
theorem dX4_join_18 : decode cX4_join 18 = .ok (.ireturn, 1) := by decide +kernel
theorem dX4_join_19 : decode cX4_join 19 = .ok (.aload_n 0, 1) := by decide +kernel
theorem dX4_join_20 : decode cX4_join 20 = .ok (.getfield 12, 3) := by decide +kernel
theorem dX4_join_23 : decode cX4_join 23 = .ok (.getfield 105, 3) := by decide +kernel
theorem dX4_join_26 : decode cX4_join 26 = .ok (.getfield 109, 3) := by decide +kernel
theorem dX4_join_29 : decode cX4_join 29 = .ok (.bipush 10, 2) := by decide +kernel
theorem dX4_join_31 : decode cX4_join 31 = .ok (.if_icmp .lt 6, 3) := by decide +kernel
theorem dX4_join_34 : decode cX4_join 34 = .ok (.bipush (-4), 2) := by decide +kernel
theorem dX4_join_36 : decode cX4_join 36 = .ok (.ireturn, 1) := by decide +kernel
theorem dX4_join_37 : decode cX4_join 37 = .ok (.aload_n 0, 1) := by decide +kernel
theorem dX4_join_38 : decode cX4_join 38 = .ok (.invokevirtual 58, 3) := by decide +kernel
theorem dX4_join_41 : decode cX4_join 41 = .ok (.aload_n 0, 1) := by decide +kernel
theorem dX4_join_42 : decode cX4_join 42 = .ok (.getfield 12, 3) := by decide +kernel
theorem dX4_join_45 : decode cX4_join 45 = .ok (.getfield 105, 3) := by decide +kernel
theorem dX4_join_48 : decode cX4_join 48 = .ok (.iload_n 1, 1) := by decide +kernel
theorem dX4_join_49 : decode cX4_join 49 = .ok (.iload_n 2, 1) := by decide +kernel
theorem dX4_join_50 : decode cX4_join 50 = .ok (.invokevirtual 112, 3) := by decide +kernel
theorem dX4_join_53 : decode cX4_join 53 = .ok (.aload_n 0, 1) := by decide +kernel
theorem dX4_join_54 : decode cX4_join 54 = .ok (.getfield 12, 3) := by decide +kernel
theorem dX4_join_57 : decode cX4_join 57 = .ok (.getfield 105, 3) := by decide +kernel
theorem dX4_join_60 : decode cX4_join 60 = .ok (.getfield 109, 3) := by decide +kernel
theorem dX4_join_63 : decode cX4_join 63 = .ok (.iconst 1, 1) := by decide +kernel
theorem dX4_join_64 : decode cX4_join 64 = .ok (.isub, 1) := by decide +kernel
theorem dX4_join_65 : decode cX4_join 65 = .ok (.ireturn, 1) := by decide +kernel
set_option maxRecDepth 20000 in
theorem ggX4_leave_X0_has : GoodIn wsX4_leave wsX0_has := goodIn_r _ [8, 9, 100, 101, 102, 103, 104, 105, 106] (by decide +kernel) (by decide +kernel)
set_option maxRecDepth 20000 in
theorem gX4_leave_X0_has : GoodIn wsX4_leave (wsV RX4 115 RX0 yX0_has wsX0_has) := goodIn_app (goodIn_of _ (by decide +kernel)) ggX4_leave_X0_has
set_option maxRecDepth 20000 in
theorem ggX4_leave_X4_remember : GoodIn wsX4_leave wsX4_remember := goodIn_r _ [14, 15, 16, 17, 18, 19, 13, 20, 21, 22, 23, 24, 25, 26, 27, 1, 28, 29, 30, 31, 32, 33, 34, 35, 36, 37, 38, 7, 39, 40, 41, 42, 43, 44, 45, 46, 47, 48, 49, 50, 51, 52, 53, 54, 55, 56, 57, 58, 9, 59, 60, 61, 62, 63, 64, 65, 66, 67, 68, 69, 70, 71, 72, 73, 74, 75, 76, 77, 78, 79, 80, 81, 92, 93, 94, 95, 96, 97, 98, 99, 107, 108, 109, 110, 111, 112, 113, 100, 101, 102, 103, 104, 105, 106] (by decide +kernel) (by decide +kernel)
set_option maxRecDepth 20000 in
theorem gX4_leave_X4_remember : GoodIn wsX4_leave (wsV RX4 58 RX4 yX4_remember wsX4_remember) := goodIn_app (goodIn_of _ (by decide +kernel)) ggX4_leave_X4_remember
set_option maxRecDepth 20000 in
theorem ggX4_leave_X0_remove : GoodIn wsX4_leave wsX0_remove := goodIn_r _ [85, 54, 55, 56, 57, 9, 86, 5, 6, 7, 8, 87, 13, 88, 89, 90, 72, 91, 100, 101, 102, 103, 104, 105, 106] (by decide +kernel) (by decide +kernel)
set_option maxRecDepth 20000 in
theorem gX4_leave_X0_remove : GoodIn wsX4_leave (wsV RX4 119 RX0 yX0_remove wsX0_remove) := goodIn_app (goodIn_of _ (by decide +kernel)) ggX4_leave_X0_remove
theorem dX4_leave_0 : decode cX4_leave 0 = .ok (.aload_n 0, 1) := by decide +kernel
theorem dX4_leave_1 : decode cX4_leave 1 = .ok (.getfield 12, 3) := by decide +kernel
theorem dX4_leave_4 : decode cX4_leave 4 = .ok (.getfield 105, 3) := by decide +kernel
theorem dX4_leave_7 : decode cX4_leave 7 = .ok (.iload_n 1, 1) := by decide +kernel
theorem dX4_leave_8 : decode cX4_leave 8 = .ok (.invokevirtual 115, 3) := by decide +kernel
theorem dX4_leave_11 : decode cX4_leave 11 = .ok (.ifCond .ne 5, 3) := by decide +kernel
theorem dX4_leave_14 : decode cX4_leave 14 = .ok (.iconst (-1), 1) := by decide +kernel
theorem dX4_leave_15 : decode cX4_leave 15 = .ok (.ireturn, 1) := by decide +kernel
theorem dX4_leave_16 : decode cX4_leave 16 = .ok (.aload_n 0, 1) := by decide +kernel
theorem dX4_leave_17 : decode cX4_leave 17 = .ok (.invokevirtual 58, 3) := by decide +kernel
theorem dX4_leave_20 : decode cX4_leave 20 = .ok (.aload_n 0, 1) := by decide +kernel
theorem dX4_leave_21 : decode cX4_leave 21 = .ok (.getfield 12, 3) := by decide +kernel
theorem dX4_leave_24 : decode cX4_leave 24 = .ok (.getfield 105, 3) := by decide +kernel
theorem dX4_leave_27 : decode cX4_leave 27 = .ok (.getfield 116, 3) := by decide +kernel
theorem dX4_leave_30 : decode cX4_leave 30 = .ok (.iload_n 1, 1) := by decide +kernel
theorem dX4_leave_31 : decode cX4_leave 31 = .ok (.iaload, 1) := by decide +kernel
theorem dX4_leave_32 : decode cX4_leave 32 = .ok (.istore_n 2, 1) := by decide +kernel
theorem dX4_leave_33 : decode cX4_leave 33 = .ok (.aload_n 0, 1) := by decide +kernel
theorem dX4_leave_34 : decode cX4_leave 34 = .ok (.getfield 12, 3) := by decide +kernel
theorem dX4_leave_37 : decode cX4_leave 37 = .ok (.getfield 105, 3) := by decide +kernel
theorem dX4_leave_40 : decode cX4_leave 40 = .ok (.iload_n 1, 1) := by decide +kernel
theorem dX4_leave_41 : decode cX4_leave 41 = .ok (.invokevirtual 119, 3) := by decide +kernel
theorem dX4_leave_44 : decode cX4_leave 44 = .ok (.iload_n 2, 1) := by decide +kernel
theorem dX4_leave_45 : decode cX4_leave 45 = .ok (.ireturn, 1) := by decide +kernel
set_option maxRecDepth 20000 in
theorem ggX4_rank_X0_has : GoodIn wsX4_rank wsX0_has := goodIn_r _ [8, 9, 96, 97, 98, 99, 100, 101, 102] (by decide +kernel) (by decide +kernel)
set_option maxRecDepth 20000 in
theorem gX4_rank_X0_has : GoodIn wsX4_rank (wsV RX4 115 RX0 yX0_has wsX0_has) := goodIn_app (goodIn_of _ (by decide +kernel)) ggX4_rank_X0_has
set_option maxRecDepth 20000 in
theorem ggX4_rank_X4_isRank : GoodIn wsX4_rank wsX4_isRank := goodIn_r _ [13, 14, 15, 12, 16] (by decide +kernel) (by decide +kernel)
set_option maxRecDepth 20000 in
theorem gX4_rank_X4_isRank : GoodIn wsX4_rank (va_wsS RX4 102 yX4_isRank wsX4_isRank) := goodIn_app (goodIn_of _ (by decide +kernel)) ggX4_rank_X4_isRank
set_option maxRecDepth 20000 in
theorem ggX4_rank_X4_remember : GoodIn wsX4_rank wsX4_remember := goodIn_r _ [20, 21, 22, 23, 24, 25, 12, 26, 27, 28, 29, 30, 31, 32, 33, 1, 34, 35, 36, 37, 38, 39, 40, 41, 42, 43, 44, 7, 45, 46, 47, 48, 49, 50, 51, 52, 53, 54, 55, 56, 57, 58, 59, 60, 61, 62, 63, 64, 9, 65, 66, 67, 68, 69, 70, 71, 72, 73, 74, 75, 76, 77, 78, 79, 80, 81, 82, 83, 84, 85, 86, 87, 88, 89, 90, 91, 92, 93, 94, 95, 103, 104, 105, 106, 107, 108, 109, 96, 97, 98, 99, 100, 101, 102] (by decide +kernel) (by decide +kernel)
set_option maxRecDepth 20000 in
theorem gX4_rank_X4_remember : GoodIn wsX4_rank (wsV RX4 58 RX4 yX4_remember wsX4_remember) := goodIn_app (goodIn_of _ (by decide +kernel)) ggX4_rank_X4_remember
theorem dX4_rank_0 : decode cX4_rank 0 = .ok (.aload_n 0, 1) := by decide +kernel
theorem dX4_rank_1 : decode cX4_rank 1 = .ok (.getfield 12, 3) := by decide +kernel
theorem dX4_rank_4 : decode cX4_rank 4 = .ok (.getfield 105, 3) := by decide +kernel
theorem dX4_rank_7 : decode cX4_rank 7 = .ok (.iload_n 1, 1) := by decide +kernel
theorem dX4_rank_8 : decode cX4_rank 8 = .ok (.invokevirtual 115, 3) := by decide +kernel
theorem dX4_rank_11 : decode cX4_rank 11 = .ok (.ifCond .ne 5, 3) := by decide +kernel
theorem dX4_rank_14 : decode cX4_rank 14 = .ok (.iconst (-1), 1) := by decide +kernel
theorem dX4_rank_15 : decode cX4_rank 15 = .ok (.ireturn, 1) := by decide +kernel
theorem dX4_rank_16 : decode cX4_rank 16 = .ok (.iload_n 2, 1) := by decide +kernel
theorem dX4_rank_17 : decode cX4_rank 17 = .ok (.invokestatic 102, 3) := by decide +kernel
theorem dX4_rank_20 : decode cX4_rank 20 = .ok (.ifCond .ne 6, 3) := by decide +kernel
theorem dX4_rank_23 : decode cX4_rank 23 = .ok (.bipush (-2), 2) := by decide +kernel
theorem dX4_rank_25 : decode cX4_rank 25 = .ok (.ireturn, 1) := by decide +kernel
theorem dX4_rank_26 : decode cX4_rank 26 = .ok (.aload_n 0, 1) := by decide +kernel
theorem dX4_rank_27 : decode cX4_rank 27 = .ok (.invokevirtual 58, 3) := by decide +kernel
theorem dX4_rank_30 : decode cX4_rank 30 = .ok (.aload_n 0, 1) := by decide +kernel
theorem dX4_rank_31 : decode cX4_rank 31 = .ok (.getfield 12, 3) := by decide +kernel
theorem dX4_rank_34 : decode cX4_rank 34 = .ok (.getfield 105, 3) := by decide +kernel
theorem dX4_rank_37 : decode cX4_rank 37 = .ok (.getfield 120, 3) := by decide +kernel
theorem dX4_rank_40 : decode cX4_rank 40 = .ok (.iload_n 1, 1) := by decide +kernel
theorem dX4_rank_41 : decode cX4_rank 41 = .ok (.iaload, 1) := by decide +kernel
theorem dX4_rank_42 : decode cX4_rank 42 = .ok (.istore_n 3, 1) := by decide +kernel
theorem dX4_rank_43 : decode cX4_rank 43 = .ok (.aload_n 0, 1) := by decide +kernel
theorem dX4_rank_44 : decode cX4_rank 44 = .ok (.getfield 12, 3) := by decide +kernel
theorem dX4_rank_47 : decode cX4_rank 47 = .ok (.getfield 105, 3) := by decide +kernel
theorem dX4_rank_50 : decode cX4_rank 50 = .ok (.getfield 120, 3) := by decide +kernel
theorem dX4_rank_53 : decode cX4_rank 53 = .ok (.iload_n 1, 1) := by decide +kernel
theorem dX4_rank_54 : decode cX4_rank 54 = .ok (.iload_n 2, 1) := by decide +kernel
theorem dX4_rank_55 : decode cX4_rank 55 = .ok (.iastore, 1) := by decide +kernel
theorem dX4_rank_56 : decode cX4_rank 56 = .ok (.iload_n 3, 1) := by decide +kernel
theorem dX4_rank_57 : decode cX4_rank 57 = .ok (.ireturn, 1) := by decide +kernel
set_option maxRecDepth 20000 in
theorem ggX4_act_X0_has : GoodIn wsX4_act wsX0_has := goodIn_r _ [11, 12, 131, 132, 133, 134, 135, 136, 137] (by decide +kernel) (by decide +kernel)
set_option maxRecDepth 20000 in
theorem gX4_act_X0_has : GoodIn wsX4_act (wsV RX4 115 RX0 yX0_has wsX0_has) := goodIn_app (goodIn_of _ (by decide +kernel)) ggX4_act_X0_has
set_option maxRecDepth 20000 in
theorem ggX4_act_X4_isDeed : GoodIn wsX4_act wsX4_isDeed := goodIn_r _ [16, 17, 18, 15, 19] (by decide +kernel) (by decide +kernel)
set_option maxRecDepth 20000 in
theorem gX4_act_X4_isDeed : GoodIn wsX4_act (va_wsS RX4 123 yX4_isDeed wsX4_isDeed) := goodIn_app (goodIn_of _ (by decide +kernel)) ggX4_act_X4_isDeed
set_option maxRecDepth 20000 in
theorem ggX4_act_X4_remember : GoodIn wsX4_act wsX4_remember := goodIn_r _ [23, 24, 25, 26, 27, 28, 15, 29, 30, 31, 32, 33, 34, 35, 36, 1, 37, 38, 39, 40, 41, 42, 43, 44, 45, 46, 47, 10, 48, 49, 50, 51, 52, 53, 54, 55, 56, 57, 58, 59, 60, 61, 62, 63, 64, 65, 66, 67, 12, 68, 69, 70, 71, 72, 73, 74, 75, 76, 77, 78, 79, 80, 81, 82, 83, 84, 85, 86, 87, 88, 89, 90, 123, 124, 125, 126, 127, 128, 129, 130, 138, 139, 140, 141, 142, 143, 144, 131, 132, 133, 134, 135, 136, 137] (by decide +kernel) (by decide +kernel)
set_option maxRecDepth 20000 in
theorem gX4_act_X4_remember : GoodIn wsX4_act (wsV RX4 58 RX4 yX4_remember wsX4_remember) := goodIn_app (goodIn_of _ (by decide +kernel)) ggX4_act_X4_remember
set_option maxRecDepth 20000 in
theorem ggX4_act_X4_pairsOf : GoodIn wsX4_act wsX4_pairsOf := goodIn_r _ [93] (by decide +kernel) (by decide +kernel)
set_option maxRecDepth 20000 in
theorem gX4_act_X4_pairsOf : GoodIn wsX4_act (va_wsS RX4 129 yX4_pairsOf wsX4_pairsOf) := goodIn_app (goodIn_of _ (by decide +kernel)) ggX4_act_X4_pairsOf
set_option maxRecDepth 20000 in
theorem ggX4_act_X2_reason : GoodIn wsX4_act wsX2_reason := goodIn_r _ [97, 59, 54, 57, 53, 98, 99, 100, 44, 101, 58, 102, 103, 104, 105, 106, 107, 108, 109, 138, 139, 140, 141, 142, 143, 144] (by decide +kernel) (by decide +kernel)
set_option maxRecDepth 20000 in
theorem gX4_act_X2_reason : GoodIn wsX4_act (wsV RX4 133 RX2 yX2_reason wsX2_reason) := goodIn_app (goodIn_of _ (by decide +kernel)) ggX4_act_X2_reason
set_option maxRecDepth 20000 in
theorem ggX4_act_X0_noteDone : GoodIn wsX4_act wsX0_noteDone := goodIn_r _ [113, 65, 68, 114, 8, 9, 10, 11, 12, 131, 132, 133, 134, 135, 136, 137] (by decide +kernel) (by decide +kernel)
set_option maxRecDepth 20000 in
theorem gX4_act_X0_noteDone : GoodIn wsX4_act (wsV RX4 136 RX0 yX0_noteDone wsX0_noteDone) := goodIn_app (goodIn_of _ (by decide +kernel)) ggX4_act_X0_noteDone
set_option maxRecDepth 20000 in
theorem ggX4_act_X2_has : GoodIn wsX4_act wsX2_has := goodIn_r _ [118, 59, 138, 139, 140, 141, 142, 143, 144] (by decide +kernel) (by decide +kernel)
set_option maxRecDepth 20000 in
theorem gX4_act_X2_has : GoodIn wsX4_act (wsV RX4 65 RX2 yX2_has wsX2_has) := goodIn_app (goodIn_of _ (by decide +kernel)) ggX4_act_X2_has
set_option maxRecDepth 20000 in
theorem ggX4_act_X0_noteRefusal : GoodIn wsX4_act wsX0_noteRefusal := goodIn_r _ [122, 66, 67, 114, 8, 9, 10, 11, 12, 18, 15, 19, 131, 132, 133, 134, 135, 136, 137] (by decide +kernel) (by decide +kernel)
set_option maxRecDepth 20000 in
theorem gX4_act_X0_noteRefusal : GoodIn wsX4_act (wsV RX4 139 RX0 yX0_noteRefusal wsX0_noteRefusal) := goodIn_app (goodIn_of _ (by decide +kernel)) ggX4_act_X0_noteRefusal
theorem dX4_act_0 : decode cX4_act 0 = .ok (.aload_n 0, 1) := by decide +kernel
theorem dX4_act_1 : decode cX4_act 1 = .ok (.getfield 12, 3) := by decide +kernel
theorem dX4_act_4 : decode cX4_act 4 = .ok (.getfield 105, 3) := by decide +kernel
theorem dX4_act_7 : decode cX4_act 7 = .ok (.iload_n 1, 1) := by decide +kernel
theorem dX4_act_8 : decode cX4_act 8 = .ok (.invokevirtual 115, 3) := by decide +kernel
theorem dX4_act_11 : decode cX4_act 11 = .ok (.ifCond .eq 10, 3) := by decide +kernel
theorem dX4_act_14 : decode cX4_act 14 = .ok (.iload_n 2, 1) := by decide +kernel
theorem dX4_act_15 : decode cX4_act 15 = .ok (.invokestatic 123, 3) := by decide +kernel
theorem dX4_act_18 : decode cX4_act 18 = .ok (.ifCond .ne 5, 3) := by decide +kernel
theorem dX4_act_21 : decode cX4_act 21 = .ok (.iconst (-1), 1) := by decide +kernel
theorem dX4_act_22 : decode cX4_act 22 = .ok (.ireturn, 1) := by decide +kernel
theorem dX4_act_23 : decode cX4_act 23 = .ok (.aload_n 0, 1) := by decide +kernel
theorem dX4_act_24 : decode cX4_act 24 = .ok (.invokevirtual 58, 3) := by decide +kernel
theorem dX4_act_27 : decode cX4_act 27 = .ok (.aload_n 0, 1) := by decide +kernel
theorem dX4_act_28 : decode cX4_act 28 = .ok (.getfield 12, 3) := by decide +kernel
theorem dX4_act_31 : decode cX4_act 31 = .ok (.getfield 52, 3) := by decide +kernel
theorem dX4_act_34 : decode cX4_act 34 = .ok (.aload_n 0, 1) := by decide +kernel
theorem dX4_act_35 : decode cX4_act 35 = .ok (.getfield 12, 3) := by decide +kernel
theorem dX4_act_38 : decode cX4_act 38 = .ok (.getfield 105, 3) := by decide +kernel
theorem dX4_act_41 : decode cX4_act 41 = .ok (.getfield 126, 3) := by decide +kernel
theorem dX4_act_44 : decode cX4_act 44 = .ok (.iload_n 1, 1) := by decide +kernel
theorem dX4_act_45 : decode cX4_act 45 = .ok (.iaload, 1) := by decide +kernel
theorem dX4_act_46 : decode cX4_act 46 = .ok (.iload_n 2, 1) := by decide +kernel
theorem dX4_act_47 : decode cX4_act 47 = .ok (.invokestatic 129, 3) := by decide +kernel
theorem dX4_act_50 : decode cX4_act 50 = .ok (.aload_n 0, 1) := by decide +kernel
theorem dX4_act_51 : decode cX4_act 51 = .ok (.getfield 12, 3) := by decide +kernel
theorem dX4_act_54 : decode cX4_act 54 = .ok (.getfield 105, 3) := by decide +kernel
theorem dX4_act_57 : decode cX4_act 57 = .ok (.getfield 120, 3) := by decide +kernel
theorem dX4_act_60 : decode cX4_act 60 = .ok (.iload_n 1, 1) := by decide +kernel
theorem dX4_act_61 : decode cX4_act 61 = .ok (.iaload, 1) := by decide +kernel
theorem dX4_act_62 : decode cX4_act 62 = .ok (.invokevirtual 133, 3) := by decide +kernel
theorem dX4_act_65 : decode cX4_act 65 = .ok (.istore_n 3, 1) := by decide +kernel
theorem dX4_act_66 : decode cX4_act 66 = .ok (.iload_n 3, 1) := by decide +kernel
theorem dX4_act_67 : decode cX4_act 67 = .ok (.bipush (-6), 2) := by decide +kernel
theorem dX4_act_69 : decode cX4_act 69 = .ok (.if_icmp .ne 17, 3) := by decide +kernel
theorem dX4_act_72 : decode cX4_act 72 = .ok (.aload_n 0, 1) := by decide +kernel
theorem dX4_act_73 : decode cX4_act 73 = .ok (.getfield 12, 3) := by decide +kernel
theorem dX4_act_76 : decode cX4_act 76 = .ok (.getfield 105, 3) := by decide +kernel
theorem dX4_act_79 : decode cX4_act 79 = .ok (.iload_n 1, 1) := by decide +kernel
theorem dX4_act_80 : decode cX4_act 80 = .ok (.invokevirtual 136, 3) := by decide +kernel
theorem dX4_act_83 : decode cX4_act 83 = .ok (.goto 55, 3) := by decide +kernel
theorem dX4_act_86 : decode cX4_act 86 = .ok (.aload_n 0, 1) := by decide +kernel
theorem dX4_act_87 : decode cX4_act 87 = .ok (.getfield 12, 3) := by decide +kernel
theorem dX4_act_90 : decode cX4_act 90 = .ok (.getfield 52, 3) := by decide +kernel
theorem dX4_act_93 : decode cX4_act 93 = .ok (.iload_n 3, 1) := by decide +kernel
theorem dX4_act_94 : decode cX4_act 94 = .ok (.invokevirtual 65, 3) := by decide +kernel
theorem dX4_act_97 : decode cX4_act 97 = .ok (.ifCond .eq 29, 3) := by decide +kernel
theorem dX4_act_100 : decode cX4_act 100 = .ok (.aload_n 0, 1) := by decide +kernel
theorem dX4_act_101 : decode cX4_act 101 = .ok (.getfield 12, 3) := by decide +kernel
theorem dX4_act_104 : decode cX4_act 104 = .ok (.getfield 105, 3) := by decide +kernel
theorem dX4_act_107 : decode cX4_act 107 = .ok (.iload_n 1, 1) := by decide +kernel
theorem dX4_act_108 : decode cX4_act 108 = .ok (.aload_n 0, 1) := by decide +kernel
theorem dX4_act_109 : decode cX4_act 109 = .ok (.getfield 12, 3) := by decide +kernel
theorem dX4_act_112 : decode cX4_act 112 = .ok (.getfield 52, 3) := by decide +kernel
theorem dX4_act_115 : decode cX4_act 115 = .ok (.getfield 79, 3) := by decide +kernel
theorem dX4_act_118 : decode cX4_act 118 = .ok (.iload_n 3, 1) := by decide +kernel
theorem dX4_act_119 : decode cX4_act 119 = .ok (.iaload, 1) := by decide +kernel
theorem dX4_act_120 : decode cX4_act 120 = .ok (.invokevirtual 139, 3) := by decide +kernel
theorem dX4_act_123 : decode cX4_act 123 = .ok (.goto 15, 3) := by decide +kernel
theorem dX4_act_126 : decode cX4_act 126 = .ok (.aload_n 0, 1) := by decide +kernel
theorem dX4_act_127 : decode cX4_act 127 = .ok (.getfield 12, 3) := by decide +kernel
theorem dX4_act_130 : decode cX4_act 130 = .ok (.getfield 105, 3) := by decide +kernel
theorem dX4_act_133 : decode cX4_act 133 = .ok (.iload_n 1, 1) := by decide +kernel
theorem dX4_act_134 : decode cX4_act 134 = .ok (.iconst 5, 1) := by decide +kernel
theorem dX4_act_135 : decode cX4_act 135 = .ok (.invokevirtual 139, 3) := by decide +kernel
theorem dX4_act_138 : decode cX4_act 138 = .ok (.iload_n 3, 1) := by decide +kernel
theorem dX4_act_139 : decode cX4_act 139 = .ok (.ireturn, 1) := by decide +kernel
set_option maxRecDepth 20000 in
theorem ggX4_rule_X2_has : GoodIn wsX4_rule wsX2_has := goodIn_r _ [13, 14, 99, 100, 101, 102, 103, 104, 105] (by decide +kernel) (by decide +kernel)
set_option maxRecDepth 20000 in
theorem gX4_rule_X2_has : GoodIn wsX4_rule (wsV RX4 65 RX2 yX2_has wsX2_has) := goodIn_app (goodIn_of _ (by decide +kernel)) ggX4_rule_X2_has
set_option maxRecDepth 20000 in
theorem ggX4_rule_X2_triples : GoodIn wsX4_rule wsX2_triples := goodIn_r _ [18, 19, 20, 21, 12, 22, 14, 23, 24, 25, 26, 27, 28, 29, 30, 31, 32, 33, 34, 35, 36, 37, 38, 39, 40, 41, 42, 43, 44, 45, 99, 100, 101, 102, 103, 104, 105] (by decide +kernel) (by decide +kernel)
set_option maxRecDepth 20000 in
theorem gX4_rule_X2_triples : GoodIn wsX4_rule (wsV RX4 146 RX2 yX2_triples wsX2_triples) := goodIn_app (goodIn_of _ (by decide +kernel)) ggX4_rule_X2_triples
set_option maxRecDepth 20000 in
theorem ggX4_rule_X4_isIdle : GoodIn wsX4_rule wsX4_isIdle := goodIn_r _ [50, 51, 52, 53, 49, 54, 55, 1, 2, 56, 57, 58, 12, 59, 45, 23, 60, 61, 36, 24, 14, 62, 63, 64, 65, 66, 67, 68, 69, 70, 71, 72, 73, 74, 75, 76, 10, 11, 13, 77, 78, 79, 80, 81, 15, 16, 17, 18, 19, 20, 21, 22, 25, 26, 27, 28, 29, 30, 31, 32, 33, 34, 35, 37, 38, 39, 40, 41, 42, 43, 44, 91, 92, 93, 94, 95, 96, 97, 98, 99, 100, 101, 102, 103, 104, 105] (by decide +kernel) (by decide +kernel)
set_option maxRecDepth 20000 in
theorem gX4_rule_X4_isIdle : GoodIn wsX4_rule (wsV RX4 149 RX4 yX4_isIdle wsX4_isIdle) := goodIn_app (goodIn_of _ (by decide +kernel)) ggX4_rule_X4_isIdle
set_option maxRecDepth 20000 in
theorem ggX4_rule_X2_oddsOf : GoodIn wsX4_rule wsX2_oddsOf := goodIn_r _ [85, 14, 86, 87, 88, 12, 89, 23, 24, 99, 100, 101, 102, 103, 104, 105] (by decide +kernel) (by decide +kernel)
set_option maxRecDepth 20000 in
theorem gX4_rule_X2_oddsOf : GoodIn wsX4_rule (wsV RX4 153 RX2 yX2_oddsOf wsX2_oddsOf) := goodIn_app (goodIn_of _ (by decide +kernel)) ggX4_rule_X2_oddsOf
set_option maxRecDepth 20000 in
theorem ggX4_rule_J6_bitCount_0f7a4 : GoodIn wsX4_rule wsJ6_bitCount_0f7a4 := goodIn_r _ [28, 29, 30, 31] (by decide +kernel) (by decide +kernel)
set_option maxRecDepth 20000 in
theorem gX4_rule_J6_bitCount_0f7a4 : GoodIn wsX4_rule (va_wsS RX4 160 yJ6_bitCount_0f7a4 wsJ6_bitCount_0f7a4) := goodIn_app (goodIn_of _ (by decide +kernel)) ggX4_rule_J6_bitCount_0f7a4
theorem dX4_rule_0 : decode cX4_rule 0 = .ok (.aload_n 0, 1) := by decide +kernel
theorem dX4_rule_1 : decode cX4_rule 1 = .ok (.getfield 12, 3) := by decide +kernel
theorem dX4_rule_4 : decode cX4_rule 4 = .ok (.getfield 52, 3) := by decide +kernel
theorem dX4_rule_7 : decode cX4_rule 7 = .ok (.iload_n 1, 1) := by decide +kernel
theorem dX4_rule_8 : decode cX4_rule 8 = .ok (.invokevirtual 65, 3) := by decide +kernel
theorem dX4_rule_11 : decode cX4_rule 11 = .ok (.ifCond .ne 5, 3) := by decide +kernel
theorem dX4_rule_14 : decode cX4_rule 14 = .ok (.iconst (-1), 1) := by decide +kernel
theorem dX4_rule_15 : decode cX4_rule 15 = .ok (.ireturn, 1) := by decide +kernel
theorem dX4_rule_16 : decode cX4_rule 16 = .ok (.iload_n 2, 1) := by decide +kernel
theorem dX4_rule_17 : decode cX4_rule 17 = .ok (.tableswitch 164 0 7 #[47, 60, 73, 86, 99, 112, 136, 148], 47) := by decide +kernel
theorem dX4_rule_64 : decode cX4_rule 64 = .ok (.aload_n 0, 1) := by decide +kernel
theorem dX4_rule_65 : decode cX4_rule 65 = .ok (.getfield 12, 3) := by decide +kernel
theorem dX4_rule_68 : decode cX4_rule 68 = .ok (.getfield 52, 3) := by decide +kernel
theorem dX4_rule_71 : decode cX4_rule 71 = .ok (.getfield 79, 3) := by decide +kernel
theorem dX4_rule_74 : decode cX4_rule 74 = .ok (.iload_n 1, 1) := by decide +kernel
theorem dX4_rule_75 : decode cX4_rule 75 = .ok (.iaload, 1) := by decide +kernel
theorem dX4_rule_76 : decode cX4_rule 76 = .ok (.ireturn, 1) := by decide +kernel
theorem dX4_rule_77 : decode cX4_rule 77 = .ok (.aload_n 0, 1) := by decide +kernel
theorem dX4_rule_78 : decode cX4_rule 78 = .ok (.getfield 12, 3) := by decide +kernel
theorem dX4_rule_81 : decode cX4_rule 81 = .ok (.getfield 52, 3) := by decide +kernel
theorem dX4_rule_84 : decode cX4_rule 84 = .ok (.getfield 76, 3) := by decide +kernel
theorem dX4_rule_87 : decode cX4_rule 87 = .ok (.iload_n 1, 1) := by decide +kernel
theorem dX4_rule_88 : decode cX4_rule 88 = .ok (.iaload, 1) := by decide +kernel
theorem dX4_rule_89 : decode cX4_rule 89 = .ok (.ireturn, 1) := by decide +kernel
theorem dX4_rule_90 : decode cX4_rule 90 = .ok (.aload_n 0, 1) := by decide +kernel
theorem dX4_rule_91 : decode cX4_rule 91 = .ok (.getfield 12, 3) := by decide +kernel
theorem dX4_rule_94 : decode cX4_rule 94 = .ok (.getfield 52, 3) := by decide +kernel
theorem dX4_rule_97 : decode cX4_rule 97 = .ok (.getfield 142, 3) := by decide +kernel
theorem dX4_rule_100 : decode cX4_rule 100 = .ok (.iload_n 1, 1) := by decide +kernel
theorem dX4_rule_101 : decode cX4_rule 101 = .ok (.iaload, 1) := by decide +kernel
theorem dX4_rule_102 : decode cX4_rule 102 = .ok (.ireturn, 1) := by decide +kernel
theorem dX4_rule_103 : decode cX4_rule 103 = .ok (.aload_n 0, 1) := by decide +kernel
theorem dX4_rule_104 : decode cX4_rule 104 = .ok (.getfield 12, 3) := by decide +kernel
theorem dX4_rule_107 : decode cX4_rule 107 = .ok (.getfield 52, 3) := by decide +kernel
theorem dX4_rule_110 : decode cX4_rule 110 = .ok (.getfield 143, 3) := by decide +kernel
theorem dX4_rule_113 : decode cX4_rule 113 = .ok (.iload_n 1, 1) := by decide +kernel
theorem dX4_rule_114 : decode cX4_rule 114 = .ok (.iaload, 1) := by decide +kernel
theorem dX4_rule_115 : decode cX4_rule 115 = .ok (.ireturn, 1) := by decide +kernel
theorem dX4_rule_116 : decode cX4_rule 116 = .ok (.aload_n 0, 1) := by decide +kernel
theorem dX4_rule_117 : decode cX4_rule 117 = .ok (.getfield 12, 3) := by decide +kernel
theorem dX4_rule_120 : decode cX4_rule 120 = .ok (.getfield 52, 3) := by decide +kernel
theorem dX4_rule_123 : decode cX4_rule 123 = .ok (.getfield 72, 3) := by decide +kernel
theorem dX4_rule_126 : decode cX4_rule 126 = .ok (.iload_n 1, 1) := by decide +kernel
theorem dX4_rule_127 : decode cX4_rule 127 = .ok (.iaload, 1) := by decide +kernel
theorem dX4_rule_128 : decode cX4_rule 128 = .ok (.ireturn, 1) := by decide +kernel
theorem dX4_rule_129 : decode cX4_rule 129 = .ok (.aload_n 0, 1) := by decide +kernel
theorem dX4_rule_130 : decode cX4_rule 130 = .ok (.iload_n 1, 1) := by decide +kernel
theorem dX4_rule_131 : decode cX4_rule 131 = .ok (.aload_n 0, 1) := by decide +kernel
theorem dX4_rule_132 : decode cX4_rule 132 = .ok (.getfield 12, 3) := by decide +kernel
theorem dX4_rule_135 : decode cX4_rule 135 = .ok (.getfield 52, 3) := by decide +kernel
theorem dX4_rule_138 : decode cX4_rule 138 = .ok (.invokevirtual 146, 3) := by decide +kernel
theorem dX4_rule_141 : decode cX4_rule 141 = .ok (.invokevirtual 149, 3) := by decide +kernel
theorem dX4_rule_144 : decode cX4_rule 144 = .ok (.ifCond .eq 7, 3) := by decide +kernel
theorem dX4_rule_147 : decode cX4_rule 147 = .ok (.iconst 1, 1) := by decide +kernel
theorem dX4_rule_148 : decode cX4_rule 148 = .ok (.goto 4, 3) := by decide +kernel
theorem dX4_rule_151 : decode cX4_rule 151 = .ok (.iconst 0, 1) := by decide +kernel
theorem dX4_rule_152 : decode cX4_rule 152 = .ok (.ireturn, 1) := by decide +kernel
theorem dX4_rule_153 : decode cX4_rule 153 = .ok (.aload_n 0, 1) := by decide +kernel
theorem dX4_rule_154 : decode cX4_rule 154 = .ok (.getfield 12, 3) := by decide +kernel
theorem dX4_rule_157 : decode cX4_rule 157 = .ok (.getfield 52, 3) := by decide +kernel
theorem dX4_rule_160 : decode cX4_rule 160 = .ok (.iload_n 1, 1) := by decide +kernel
theorem dX4_rule_161 : decode cX4_rule 161 = .ok (.invokevirtual 153, 3) := by decide +kernel
theorem dX4_rule_164 : decode cX4_rule 164 = .ok (.ireturn, 1) := by decide +kernel
theorem dX4_rule_165 : decode cX4_rule 165 = .ok (.aload_n 0, 1) := by decide +kernel
theorem dX4_rule_166 : decode cX4_rule 166 = .ok (.getfield 12, 3) := by decide +kernel
theorem dX4_rule_169 : decode cX4_rule 169 = .ok (.getfield 52, 3) := by decide +kernel
theorem dX4_rule_172 : decode cX4_rule 172 = .ok (.getfield 157, 3) := by decide +kernel
theorem dX4_rule_175 : decode cX4_rule 175 = .ok (.iload_n 1, 1) := by decide +kernel
theorem dX4_rule_176 : decode cX4_rule 176 = .ok (.iaload, 1) := by decide +kernel
theorem dX4_rule_177 : decode cX4_rule 177 = .ok (.invokestatic 160, 3) := by decide +kernel
theorem dX4_rule_180 : decode cX4_rule 180 = .ok (.ireturn, 1) := by decide +kernel
theorem dX4_rule_181 : decode cX4_rule 181 = .ok (.bipush (-2), 2) := by decide +kernel
theorem dX4_rule_183 : decode cX4_rule 183 = .ok (.ireturn, 1) := by decide +kernel
set_option maxRecDepth 20000 in
theorem ggX4_member_X0_has : GoodIn wsX4_member wsX0_has := goodIn_r _ [11, 12, 53, 54, 55, 56, 57, 58, 59] (by decide +kernel) (by decide +kernel)
set_option maxRecDepth 20000 in
theorem gX4_member_X0_has : GoodIn wsX4_member (wsV RX4 115 RX0 yX0_has wsX0_has) := goodIn_app (goodIn_of _ (by decide +kernel)) ggX4_member_X0_has
set_option maxRecDepth 20000 in
theorem ggX4_member_X4_deedsAllowed : GoodIn wsX4_member wsX4_deedsAllowed := goodIn_r _ [17, 1, 18, 19, 20, 21, 22, 23, 24, 25, 26, 27, 28, 29, 30, 31, 32, 33, 34, 35, 36, 37, 38, 39, 40, 41, 42, 43, 44, 45, 46, 47, 48, 49, 50, 51, 52, 60, 61, 62, 63, 64, 65, 66] (by decide +kernel) (by decide +kernel)
set_option maxRecDepth 20000 in
theorem gX4_member_X4_deedsAllowed : GoodIn wsX4_member (wsV RX4 165 RX4 yX4_deedsAllowed wsX4_deedsAllowed) := goodIn_app (goodIn_of _ (by decide +kernel)) ggX4_member_X4_deedsAllowed
theorem dX4_member_0 : decode cX4_member 0 = .ok (.aload_n 0, 1) := by decide +kernel
theorem dX4_member_1 : decode cX4_member 1 = .ok (.getfield 12, 3) := by decide +kernel
theorem dX4_member_4 : decode cX4_member 4 = .ok (.getfield 105, 3) := by decide +kernel
theorem dX4_member_7 : decode cX4_member 7 = .ok (.iload_n 1, 1) := by decide +kernel
theorem dX4_member_8 : decode cX4_member 8 = .ok (.invokevirtual 115, 3) := by decide +kernel
theorem dX4_member_11 : decode cX4_member 11 = .ok (.ifCond .ne 5, 3) := by decide +kernel
theorem dX4_member_14 : decode cX4_member 14 = .ok (.iconst (-1), 1) := by decide +kernel
theorem dX4_member_15 : decode cX4_member 15 = .ok (.ireturn, 1) := by decide +kernel
theorem dX4_member_16 : decode cX4_member 16 = .ok (.iload_n 2, 1) := by decide +kernel
theorem dX4_member_17 : decode cX4_member 17 = .ok (.tableswitch 116 0 4 #[35, 48, 61, 90, 103], 35) := by decide +kernel
theorem dX4_member_52 : decode cX4_member 52 = .ok (.aload_n 0, 1) := by decide +kernel
theorem dX4_member_53 : decode cX4_member 53 = .ok (.getfield 12, 3) := by decide +kernel
theorem dX4_member_56 : decode cX4_member 56 = .ok (.getfield 105, 3) := by decide +kernel
theorem dX4_member_59 : decode cX4_member 59 = .ok (.getfield 126, 3) := by decide +kernel
theorem dX4_member_62 : decode cX4_member 62 = .ok (.iload_n 1, 1) := by decide +kernel
theorem dX4_member_63 : decode cX4_member 63 = .ok (.iaload, 1) := by decide +kernel
theorem dX4_member_64 : decode cX4_member 64 = .ok (.ireturn, 1) := by decide +kernel
theorem dX4_member_65 : decode cX4_member 65 = .ok (.aload_n 0, 1) := by decide +kernel
theorem dX4_member_66 : decode cX4_member 66 = .ok (.getfield 12, 3) := by decide +kernel
theorem dX4_member_69 : decode cX4_member 69 = .ok (.getfield 105, 3) := by decide +kernel
theorem dX4_member_72 : decode cX4_member 72 = .ok (.getfield 120, 3) := by decide +kernel
theorem dX4_member_75 : decode cX4_member 75 = .ok (.iload_n 1, 1) := by decide +kernel
theorem dX4_member_76 : decode cX4_member 76 = .ok (.iaload, 1) := by decide +kernel
theorem dX4_member_77 : decode cX4_member 77 = .ok (.ireturn, 1) := by decide +kernel
theorem dX4_member_78 : decode cX4_member 78 = .ok (.aload_n 0, 1) := by decide +kernel
theorem dX4_member_79 : decode cX4_member 79 = .ok (.aload_n 0, 1) := by decide +kernel
theorem dX4_member_80 : decode cX4_member 80 = .ok (.getfield 12, 3) := by decide +kernel
theorem dX4_member_83 : decode cX4_member 83 = .ok (.getfield 105, 3) := by decide +kernel
theorem dX4_member_86 : decode cX4_member 86 = .ok (.getfield 126, 3) := by decide +kernel
theorem dX4_member_89 : decode cX4_member 89 = .ok (.iload_n 1, 1) := by decide +kernel
theorem dX4_member_90 : decode cX4_member 90 = .ok (.iaload, 1) := by decide +kernel
theorem dX4_member_91 : decode cX4_member 91 = .ok (.aload_n 0, 1) := by decide +kernel
theorem dX4_member_92 : decode cX4_member 92 = .ok (.getfield 12, 3) := by decide +kernel
theorem dX4_member_95 : decode cX4_member 95 = .ok (.getfield 105, 3) := by decide +kernel
theorem dX4_member_98 : decode cX4_member 98 = .ok (.getfield 120, 3) := by decide +kernel
theorem dX4_member_101 : decode cX4_member 101 = .ok (.iload_n 1, 1) := by decide +kernel
theorem dX4_member_102 : decode cX4_member 102 = .ok (.iaload, 1) := by decide +kernel
theorem dX4_member_103 : decode cX4_member 103 = .ok (.invokevirtual 165, 3) := by decide +kernel
theorem dX4_member_106 : decode cX4_member 106 = .ok (.ireturn, 1) := by decide +kernel
theorem dX4_member_107 : decode cX4_member 107 = .ok (.aload_n 0, 1) := by decide +kernel
theorem dX4_member_108 : decode cX4_member 108 = .ok (.getfield 12, 3) := by decide +kernel
theorem dX4_member_111 : decode cX4_member 111 = .ok (.getfield 105, 3) := by decide +kernel
theorem dX4_member_114 : decode cX4_member 114 = .ok (.getfield 116, 3) := by decide +kernel
theorem dX4_member_117 : decode cX4_member 117 = .ok (.iload_n 1, 1) := by decide +kernel
theorem dX4_member_118 : decode cX4_member 118 = .ok (.iaload, 1) := by decide +kernel
theorem dX4_member_119 : decode cX4_member 119 = .ok (.ireturn, 1) := by decide +kernel
theorem dX4_member_120 : decode cX4_member 120 = .ok (.aload_n 0, 1) := by decide +kernel
theorem dX4_member_121 : decode cX4_member 121 = .ok (.getfield 12, 3) := by decide +kernel
theorem dX4_member_124 : decode cX4_member 124 = .ok (.getfield 105, 3) := by decide +kernel
theorem dX4_member_127 : decode cX4_member 127 = .ok (.getfield 168, 3) := by decide +kernel
theorem dX4_member_130 : decode cX4_member 130 = .ok (.iload_n 1, 1) := by decide +kernel
theorem dX4_member_131 : decode cX4_member 131 = .ok (.iaload, 1) := by decide +kernel
theorem dX4_member_132 : decode cX4_member 132 = .ok (.ireturn, 1) := by decide +kernel
theorem dX4_member_133 : decode cX4_member 133 = .ok (.bipush (-2), 2) := by decide +kernel
theorem dX4_member_135 : decode cX4_member 135 = .ok (.ireturn, 1) := by decide +kernel
set_option maxRecDepth 20000 in
theorem ggX4_allowed_X4_isCraft : GoodIn wsX4_allowed wsX4_isCraft := goodIn_r _ [6, 7, 8, 5, 9] (by decide +kernel) (by decide +kernel)
set_option maxRecDepth 20000 in
theorem gX4_allowed_X4_isCraft : GoodIn wsX4_allowed (va_wsS RX4 99 yX4_isCraft wsX4_isCraft) := goodIn_app (goodIn_of _ (by decide +kernel)) ggX4_allowed_X4_isCraft
set_option maxRecDepth 20000 in
theorem ggX4_allowed_X4_isDeed : GoodIn wsX4_allowed wsX4_isDeed := goodIn_r _ [12, 7, 8, 5, 9] (by decide +kernel) (by decide +kernel)
set_option maxRecDepth 20000 in
theorem gX4_allowed_X4_isDeed : GoodIn wsX4_allowed (va_wsS RX4 123 yX4_isDeed wsX4_isDeed) := goodIn_app (goodIn_of _ (by decide +kernel)) ggX4_allowed_X4_isDeed
set_option maxRecDepth 20000 in
theorem ggX4_allowed_X4_isRank : GoodIn wsX4_allowed wsX4_isRank := goodIn_r _ [15, 7, 8, 5, 9] (by decide +kernel) (by decide +kernel)
set_option maxRecDepth 20000 in
theorem gX4_allowed_X4_isRank : GoodIn wsX4_allowed (va_wsS RX4 102 yX4_isRank wsX4_isRank) := goodIn_app (goodIn_of _ (by decide +kernel)) ggX4_allowed_X4_isRank
set_option maxRecDepth 20000 in
theorem ggX4_allowed_X4_isBetween : GoodIn wsX4_allowed wsX4_isBetween := goodIn_r _ [9] (by decide +kernel) (by decide +kernel)
set_option maxRecDepth 20000 in
theorem gX4_allowed_X4_isBetween : GoodIn wsX4_allowed (va_wsS RX4 45 yX4_isBetween wsX4_isBetween) := goodIn_app (goodIn_of _ (by decide +kernel)) ggX4_allowed_X4_isBetween
set_option maxRecDepth 20000 in
theorem ggX4_allowed_X4_pairsOf : GoodIn wsX4_allowed wsX4_pairsOf := goodIn_r _ [18] (by decide +kernel) (by decide +kernel)
set_option maxRecDepth 20000 in
theorem gX4_allowed_X4_pairsOf : GoodIn wsX4_allowed (va_wsS RX4 129 yX4_pairsOf wsX4_pairsOf) := goodIn_app (goodIn_of _ (by decide +kernel)) ggX4_allowed_X4_pairsOf
set_option maxRecDepth 20000 in
theorem ggX4_allowed_X2_allowsByLayers : GoodIn wsX4_allowed wsX2_allowsByLayers := goodIn_r _ [23, 24, 25, 26, 27, 28, 29, 30, 22, 31, 32, 33, 34, 35, 36, 37, 38, 39, 40, 61, 62, 63, 64, 65, 66, 67] (by decide +kernel) (by decide +kernel)
set_option maxRecDepth 20000 in
theorem gX4_allowed_X2_allowsByLayers : GoodIn wsX4_allowed (wsV RX4 171 RX2 yX2_allowsByLayers wsX2_allowsByLayers) := goodIn_app (goodIn_of _ (by decide +kernel)) ggX4_allowed_X2_allowsByLayers
set_option maxRecDepth 20000 in
theorem ggX4_allowed_X2_reason : GoodIn wsX4_allowed wsX2_reason := goodIn_r _ [44, 32, 33, 40, 39, 28, 29, 30, 22, 31, 34, 45, 46, 47, 48, 49, 50, 51, 52, 61, 62, 63, 64, 65, 66, 67] (by decide +kernel) (by decide +kernel)
set_option maxRecDepth 20000 in
theorem gX4_allowed_X2_reason : GoodIn wsX4_allowed (wsV RX4 133 RX2 yX2_reason wsX2_reason) := goodIn_app (goodIn_of _ (by decide +kernel)) ggX4_allowed_X2_reason
theorem dX4_allowed_0 : decode cX4_allowed 0 = .ok (.iload_n 1, 1) := by decide +kernel
theorem dX4_allowed_1 : decode cX4_allowed 1 = .ok (.invokestatic 99, 3) := by decide +kernel
theorem dX4_allowed_4 : decode cX4_allowed 4 = .ok (.ifCond .eq 10, 3) := by decide +kernel
theorem dX4_allowed_7 : decode cX4_allowed 7 = .ok (.iload_n 2, 1) := by decide +kernel
theorem dX4_allowed_8 : decode cX4_allowed 8 = .ok (.invokestatic 123, 3) := by decide +kernel
theorem dX4_allowed_11 : decode cX4_allowed 11 = .ok (.ifCond .ne 5, 3) := by decide +kernel
theorem dX4_allowed_14 : decode cX4_allowed 14 = .ok (.iconst (-1), 1) := by decide +kernel
theorem dX4_allowed_15 : decode cX4_allowed 15 = .ok (.ireturn, 1) := by decide +kernel
theorem dX4_allowed_16 : decode cX4_allowed 16 = .ok (.iload_n 3, 1) := by decide +kernel
theorem dX4_allowed_17 : decode cX4_allowed 17 = .ok (.invokestatic 102, 3) := by decide +kernel
theorem dX4_allowed_20 : decode cX4_allowed 20 = .ok (.ifCond .eq 13, 3) := by decide +kernel
theorem dX4_allowed_23 : decode cX4_allowed 23 = .ok (.iload 4, 2) := by decide +kernel
theorem dX4_allowed_25 : decode cX4_allowed 25 = .ok (.iconst 0, 1) := by decide +kernel
theorem dX4_allowed_26 : decode cX4_allowed 26 = .ok (.iconst 1, 1) := by decide +kernel
theorem dX4_allowed_27 : decode cX4_allowed 27 = .ok (.invokestatic 45, 3) := by decide +kernel
theorem dX4_allowed_30 : decode cX4_allowed 30 = .ok (.ifCond .ne 6, 3) := by decide +kernel
theorem dX4_allowed_33 : decode cX4_allowed 33 = .ok (.bipush (-2), 2) := by decide +kernel
theorem dX4_allowed_35 : decode cX4_allowed 35 = .ok (.ireturn, 1) := by decide +kernel
theorem dX4_allowed_36 : decode cX4_allowed 36 = .ok (.iload_n 1, 1) := by decide +kernel
theorem dX4_allowed_37 : decode cX4_allowed 37 = .ok (.iload_n 2, 1) := by decide +kernel
theorem dX4_allowed_38 : decode cX4_allowed 38 = .ok (.invokestatic 129, 3) := by decide +kernel
theorem dX4_allowed_41 : decode cX4_allowed 41 = .ok (.istore 5, 2) := by decide +kernel
theorem dX4_allowed_43 : decode cX4_allowed 43 = .ok (.iload 4, 2) := by decide +kernel
theorem dX4_allowed_45 : decode cX4_allowed 45 = .ok (.ifCond .ne 19, 3) := by decide +kernel
theorem dX4_allowed_48 : decode cX4_allowed 48 = .ok (.aload_n 0, 1) := by decide +kernel
theorem dX4_allowed_49 : decode cX4_allowed 49 = .ok (.getfield 12, 3) := by decide +kernel
theorem dX4_allowed_52 : decode cX4_allowed 52 = .ok (.getfield 52, 3) := by decide +kernel
theorem dX4_allowed_55 : decode cX4_allowed 55 = .ok (.iload 5, 2) := by decide +kernel
theorem dX4_allowed_57 : decode cX4_allowed 57 = .ok (.iload_n 3, 1) := by decide +kernel
theorem dX4_allowed_58 : decode cX4_allowed 58 = .ok (.invokevirtual 171, 3) := by decide +kernel
theorem dX4_allowed_61 : decode cX4_allowed 61 = .ok (.goto 26, 3) := by decide +kernel
theorem dX4_allowed_64 : decode cX4_allowed 64 = .ok (.aload_n 0, 1) := by decide +kernel
theorem dX4_allowed_65 : decode cX4_allowed 65 = .ok (.getfield 12, 3) := by decide +kernel
theorem dX4_allowed_68 : decode cX4_allowed 68 = .ok (.getfield 52, 3) := by decide +kernel
theorem dX4_allowed_71 : decode cX4_allowed 71 = .ok (.iload 5, 2) := by decide +kernel
theorem dX4_allowed_73 : decode cX4_allowed 73 = .ok (.iload_n 3, 1) := by decide +kernel
theorem dX4_allowed_74 : decode cX4_allowed 74 = .ok (.invokevirtual 133, 3) := by decide +kernel
theorem dX4_allowed_77 : decode cX4_allowed 77 = .ok (.bipush (-6), 2) := by decide +kernel
theorem dX4_allowed_79 : decode cX4_allowed 79 = .ok (.if_icmp .ne 7, 3) := by decide +kernel
theorem dX4_allowed_82 : decode cX4_allowed 82 = .ok (.iconst 1, 1) := by decide +kernel
theorem dX4_allowed_83 : decode cX4_allowed 83 = .ok (.goto 4, 3) := by decide +kernel
theorem dX4_allowed_86 : decode cX4_allowed 86 = .ok (.iconst 0, 1) := by decide +kernel
theorem dX4_allowed_87 : decode cX4_allowed 87 = .ok (.istore 6, 2) := by decide +kernel
theorem dX4_allowed_89 : decode cX4_allowed 89 = .ok (.iload 6, 2) := by decide +kernel
theorem dX4_allowed_91 : decode cX4_allowed 91 = .ok (.ifCond .eq 7, 3) := by decide +kernel
theorem dX4_allowed_94 : decode cX4_allowed 94 = .ok (.iconst 1, 1) := by decide +kernel
theorem dX4_allowed_95 : decode cX4_allowed 95 = .ok (.goto 4, 3) := by decide +kernel
theorem dX4_allowed_98 : decode cX4_allowed 98 = .ok (.iconst 0, 1) := by decide +kernel
theorem dX4_allowed_99 : decode cX4_allowed 99 = .ok (.ireturn, 1) := by decide +kernel
set_option maxRecDepth 20000 in
theorem ggX4_why_X4_isCraft : GoodIn wsX4_why wsX4_isCraft := goodIn_r _ [6, 7, 8, 5, 9] (by decide +kernel) (by decide +kernel)
set_option maxRecDepth 20000 in
theorem gX4_why_X4_isCraft : GoodIn wsX4_why (va_wsS RX4 99 yX4_isCraft wsX4_isCraft) := goodIn_app (goodIn_of _ (by decide +kernel)) ggX4_why_X4_isCraft
set_option maxRecDepth 20000 in
theorem ggX4_why_X4_isDeed : GoodIn wsX4_why wsX4_isDeed := goodIn_r _ [12, 7, 8, 5, 9] (by decide +kernel) (by decide +kernel)
set_option maxRecDepth 20000 in
theorem gX4_why_X4_isDeed : GoodIn wsX4_why (va_wsS RX4 123 yX4_isDeed wsX4_isDeed) := goodIn_app (goodIn_of _ (by decide +kernel)) ggX4_why_X4_isDeed
set_option maxRecDepth 20000 in
theorem ggX4_why_X4_isRank : GoodIn wsX4_why wsX4_isRank := goodIn_r _ [15, 7, 8, 5, 9] (by decide +kernel) (by decide +kernel)
set_option maxRecDepth 20000 in
theorem gX4_why_X4_isRank : GoodIn wsX4_why (va_wsS RX4 102 yX4_isRank wsX4_isRank) := goodIn_app (goodIn_of _ (by decide +kernel)) ggX4_why_X4_isRank
set_option maxRecDepth 20000 in
theorem ggX4_why_X4_pairsOf : GoodIn wsX4_why wsX4_pairsOf := goodIn_r _ [18] (by decide +kernel) (by decide +kernel)
set_option maxRecDepth 20000 in
theorem gX4_why_X4_pairsOf : GoodIn wsX4_why (va_wsS RX4 129 yX4_pairsOf wsX4_pairsOf) := goodIn_app (goodIn_of _ (by decide +kernel)) ggX4_why_X4_pairsOf
set_option maxRecDepth 20000 in
theorem ggX4_why_X2_reason : GoodIn wsX4_why wsX2_reason := goodIn_r _ [23, 24, 25, 26, 27, 28, 29, 30, 22, 31, 32, 33, 34, 35, 36, 37, 38, 39, 40, 49, 50, 51, 52, 53, 54, 55] (by decide +kernel) (by decide +kernel)
set_option maxRecDepth 20000 in
theorem gX4_why_X2_reason : GoodIn wsX4_why (wsV RX4 133 RX2 yX2_reason wsX2_reason) := goodIn_app (goodIn_of _ (by decide +kernel)) ggX4_why_X2_reason
theorem dX4_why_0 : decode cX4_why 0 = .ok (.iload_n 1, 1) := by decide +kernel
theorem dX4_why_1 : decode cX4_why 1 = .ok (.invokestatic 99, 3) := by decide +kernel
theorem dX4_why_4 : decode cX4_why 4 = .ok (.ifCond .eq 10, 3) := by decide +kernel
theorem dX4_why_7 : decode cX4_why 7 = .ok (.iload_n 2, 1) := by decide +kernel
theorem dX4_why_8 : decode cX4_why 8 = .ok (.invokestatic 123, 3) := by decide +kernel
theorem dX4_why_11 : decode cX4_why 11 = .ok (.ifCond .ne 5, 3) := by decide +kernel
theorem dX4_why_14 : decode cX4_why 14 = .ok (.iconst (-1), 1) := by decide +kernel
theorem dX4_why_15 : decode cX4_why 15 = .ok (.ireturn, 1) := by decide +kernel
theorem dX4_why_16 : decode cX4_why 16 = .ok (.iload_n 3, 1) := by decide +kernel
theorem dX4_why_17 : decode cX4_why 17 = .ok (.invokestatic 102, 3) := by decide +kernel
theorem dX4_why_20 : decode cX4_why 20 = .ok (.ifCond .ne 6, 3) := by decide +kernel
theorem dX4_why_23 : decode cX4_why 23 = .ok (.bipush (-2), 2) := by decide +kernel
theorem dX4_why_25 : decode cX4_why 25 = .ok (.ireturn, 1) := by decide +kernel
theorem dX4_why_26 : decode cX4_why 26 = .ok (.aload_n 0, 1) := by decide +kernel
theorem dX4_why_27 : decode cX4_why 27 = .ok (.getfield 12, 3) := by decide +kernel
theorem dX4_why_30 : decode cX4_why 30 = .ok (.getfield 52, 3) := by decide +kernel
theorem dX4_why_33 : decode cX4_why 33 = .ok (.iload_n 1, 1) := by decide +kernel
theorem dX4_why_34 : decode cX4_why 34 = .ok (.iload_n 2, 1) := by decide +kernel
theorem dX4_why_35 : decode cX4_why 35 = .ok (.invokestatic 129, 3) := by decide +kernel
theorem dX4_why_38 : decode cX4_why 38 = .ok (.iload_n 3, 1) := by decide +kernel
theorem dX4_why_39 : decode cX4_why 39 = .ok (.invokevirtual 133, 3) := by decide +kernel
theorem dX4_why_42 : decode cX4_why 42 = .ok (.ireturn, 1) := by decide +kernel
set_option maxRecDepth 20000 in
theorem ggX4_count_X2_sizeOfKind : GoodIn wsX4_count wsX2_sizeOfKind := goodIn_r _ [14, 15, 16, 118, 119, 120, 121, 122, 123, 124] (by decide +kernel) (by decide +kernel)
set_option maxRecDepth 20000 in
theorem gX4_count_X2_sizeOfKind : GoodIn wsX4_count (wsV RX4 174 RX2 yX2_sizeOfKind wsX2_sizeOfKind) := goodIn_app (goodIn_of _ (by decide +kernel)) ggX4_count_X2_sizeOfKind
set_option maxRecDepth 20000 in
theorem ggX4_count_X4_idleRules : GoodIn wsX4_count wsX4_idleRules := goodIn_r _ [21, 1, 2, 3, 22, 23, 24, 13, 25, 26, 27, 28, 29, 15, 16, 30, 31, 32, 33, 34, 35, 36, 37, 38, 39, 40, 41, 42, 43, 44, 45, 46, 47, 48, 49, 50, 51, 52, 53, 54, 20, 55, 56, 57, 58, 59, 60, 61, 62, 63, 64, 65, 66, 67, 68, 69, 70, 71, 72, 73, 74, 75, 76, 77, 78, 79, 80, 81, 82, 83, 84, 85, 86, 87, 88, 89, 110, 111, 112, 113, 114, 115, 116, 117, 118, 119, 120, 121, 122, 123, 124] (by decide +kernel) (by decide +kernel)
set_option maxRecDepth 20000 in
theorem gX4_count_X4_idleRules : GoodIn wsX4_count (wsV RX4 177 RX4 yX4_idleRules wsX4_idleRules) := goodIn_app (goodIn_of _ (by decide +kernel)) ggX4_count_X4_idleRules
set_option maxRecDepth 20000 in
theorem ggX4_count_X2_oddPairs : GoodIn wsX4_count wsX2_oddPairs := goodIn_r _ [93, 15, 16, 94, 95, 96, 13, 97, 98, 99, 100, 101, 30, 118, 119, 120, 121, 122, 123, 124] (by decide +kernel) (by decide +kernel)
set_option maxRecDepth 20000 in
theorem gX4_count_X2_oddPairs : GoodIn wsX4_count (wsV RX4 180 RX2 yX2_oddPairs wsX2_oddPairs) := goodIn_app (goodIn_of _ (by decide +kernel)) ggX4_count_X2_oddPairs
set_option maxRecDepth 20000 in
theorem ggX4_count_X2_triples : GoodIn wsX4_count wsX2_triples := goodIn_r _ [25, 26, 27, 28, 13, 29, 15, 16, 30, 31, 32, 33, 34, 35, 36, 37, 38, 39, 40, 41, 42, 43, 44, 45, 46, 47, 48, 49, 50, 51, 118, 119, 120, 121, 122, 123, 124] (by decide +kernel) (by decide +kernel)
set_option maxRecDepth 20000 in
theorem gX4_count_X2_triples : GoodIn wsX4_count (wsV RX4 146 RX2 yX2_triples wsX2_triples) := goodIn_app (goodIn_of _ (by decide +kernel)) ggX4_count_X2_triples
set_option maxRecDepth 20000 in
theorem ggX4_count_X0_refusalsOf : GoodIn wsX4_count wsX0_refusalsOf := goodIn_r _ [106, 107, 108, 20, 109, 125, 126, 127, 128, 129, 130, 131] (by decide +kernel) (by decide +kernel)
set_option maxRecDepth 20000 in
theorem gX4_count_X0_refusalsOf : GoodIn wsX4_count (wsV RX4 186 RX0 yX0_refusalsOf wsX0_refusalsOf) := goodIn_app (goodIn_of _ (by decide +kernel)) ggX4_count_X0_refusalsOf
theorem dX4_count_0 : decode cX4_count 0 = .ok (.iload_n 1, 1) := by decide +kernel
theorem dX4_count_1 : decode cX4_count 1 = .ok (.tableswitch 264 0 16 #[83, 94, 106, 118, 130, 135, 146, 157, 168, 179, 191, 203, 215, 227, 239, 251, 259], 83) := by decide +kernel
theorem dX4_count_84 : decode cX4_count 84 = .ok (.aload_n 0, 1) := by decide +kernel
theorem dX4_count_85 : decode cX4_count 85 = .ok (.getfield 12, 3) := by decide +kernel
theorem dX4_count_88 : decode cX4_count 88 = .ok (.getfield 52, 3) := by decide +kernel
theorem dX4_count_91 : decode cX4_count 91 = .ok (.getfield 55, 3) := by decide +kernel
theorem dX4_count_94 : decode cX4_count 94 = .ok (.ireturn, 1) := by decide +kernel
theorem dX4_count_95 : decode cX4_count 95 = .ok (.aload_n 0, 1) := by decide +kernel
theorem dX4_count_96 : decode cX4_count 96 = .ok (.getfield 12, 3) := by decide +kernel
theorem dX4_count_99 : decode cX4_count 99 = .ok (.getfield 52, 3) := by decide +kernel
theorem dX4_count_102 : decode cX4_count 102 = .ok (.iconst 0, 1) := by decide +kernel
theorem dX4_count_103 : decode cX4_count 103 = .ok (.invokevirtual 174, 3) := by decide +kernel
theorem dX4_count_106 : decode cX4_count 106 = .ok (.ireturn, 1) := by decide +kernel
theorem dX4_count_107 : decode cX4_count 107 = .ok (.aload_n 0, 1) := by decide +kernel
theorem dX4_count_108 : decode cX4_count 108 = .ok (.getfield 12, 3) := by decide +kernel
theorem dX4_count_111 : decode cX4_count 111 = .ok (.getfield 52, 3) := by decide +kernel
theorem dX4_count_114 : decode cX4_count 114 = .ok (.iconst 1, 1) := by decide +kernel
theorem dX4_count_115 : decode cX4_count 115 = .ok (.invokevirtual 174, 3) := by decide +kernel
theorem dX4_count_118 : decode cX4_count 118 = .ok (.ireturn, 1) := by decide +kernel
theorem dX4_count_119 : decode cX4_count 119 = .ok (.aload_n 0, 1) := by decide +kernel
theorem dX4_count_120 : decode cX4_count 120 = .ok (.getfield 12, 3) := by decide +kernel
theorem dX4_count_123 : decode cX4_count 123 = .ok (.getfield 52, 3) := by decide +kernel
theorem dX4_count_126 : decode cX4_count 126 = .ok (.iconst 2, 1) := by decide +kernel
theorem dX4_count_127 : decode cX4_count 127 = .ok (.invokevirtual 174, 3) := by decide +kernel
theorem dX4_count_130 : decode cX4_count 130 = .ok (.ireturn, 1) := by decide +kernel
theorem dX4_count_131 : decode cX4_count 131 = .ok (.aload_n 0, 1) := by decide +kernel
theorem dX4_count_132 : decode cX4_count 132 = .ok (.invokevirtual 177, 3) := by decide +kernel
theorem dX4_count_135 : decode cX4_count 135 = .ok (.ireturn, 1) := by decide +kernel
theorem dX4_count_136 : decode cX4_count 136 = .ok (.aload_n 0, 1) := by decide +kernel
theorem dX4_count_137 : decode cX4_count 137 = .ok (.getfield 12, 3) := by decide +kernel
theorem dX4_count_140 : decode cX4_count 140 = .ok (.getfield 52, 3) := by decide +kernel
theorem dX4_count_143 : decode cX4_count 143 = .ok (.invokevirtual 180, 3) := by decide +kernel
theorem dX4_count_146 : decode cX4_count 146 = .ok (.ireturn, 1) := by decide +kernel
theorem dX4_count_147 : decode cX4_count 147 = .ok (.aload_n 0, 1) := by decide +kernel
theorem dX4_count_148 : decode cX4_count 148 = .ok (.getfield 12, 3) := by decide +kernel
theorem dX4_count_151 : decode cX4_count 151 = .ok (.getfield 52, 3) := by decide +kernel
theorem dX4_count_154 : decode cX4_count 154 = .ok (.invokevirtual 146, 3) := by decide +kernel
theorem dX4_count_157 : decode cX4_count 157 = .ok (.ireturn, 1) := by decide +kernel
theorem dX4_count_158 : decode cX4_count 158 = .ok (.aload_n 0, 1) := by decide +kernel
theorem dX4_count_159 : decode cX4_count 159 = .ok (.getfield 12, 3) := by decide +kernel
theorem dX4_count_162 : decode cX4_count 162 = .ok (.getfield 105, 3) := by decide +kernel
theorem dX4_count_165 : decode cX4_count 165 = .ok (.getfield 109, 3) := by decide +kernel
theorem dX4_count_168 : decode cX4_count 168 = .ok (.ireturn, 1) := by decide +kernel
theorem dX4_count_169 : decode cX4_count 169 = .ok (.aload_n 0, 1) := by decide +kernel
theorem dX4_count_170 : decode cX4_count 170 = .ok (.getfield 12, 3) := by decide +kernel
theorem dX4_count_173 : decode cX4_count 173 = .ok (.getfield 105, 3) := by decide +kernel
theorem dX4_count_176 : decode cX4_count 176 = .ok (.getfield 183, 3) := by decide +kernel
theorem dX4_count_179 : decode cX4_count 179 = .ok (.ireturn, 1) := by decide +kernel
theorem dX4_count_180 : decode cX4_count 180 = .ok (.aload_n 0, 1) := by decide +kernel
theorem dX4_count_181 : decode cX4_count 181 = .ok (.getfield 12, 3) := by decide +kernel
theorem dX4_count_184 : decode cX4_count 184 = .ok (.getfield 105, 3) := by decide +kernel
theorem dX4_count_187 : decode cX4_count 187 = .ok (.iconst 0, 1) := by decide +kernel
theorem dX4_count_188 : decode cX4_count 188 = .ok (.invokevirtual 186, 3) := by decide +kernel
theorem dX4_count_191 : decode cX4_count 191 = .ok (.ireturn, 1) := by decide +kernel
theorem dX4_count_192 : decode cX4_count 192 = .ok (.aload_n 0, 1) := by decide +kernel
theorem dX4_count_193 : decode cX4_count 193 = .ok (.getfield 12, 3) := by decide +kernel
theorem dX4_count_196 : decode cX4_count 196 = .ok (.getfield 105, 3) := by decide +kernel
theorem dX4_count_199 : decode cX4_count 199 = .ok (.iconst 1, 1) := by decide +kernel
theorem dX4_count_200 : decode cX4_count 200 = .ok (.invokevirtual 186, 3) := by decide +kernel
theorem dX4_count_203 : decode cX4_count 203 = .ok (.ireturn, 1) := by decide +kernel
theorem dX4_count_204 : decode cX4_count 204 = .ok (.aload_n 0, 1) := by decide +kernel
theorem dX4_count_205 : decode cX4_count 205 = .ok (.getfield 12, 3) := by decide +kernel
theorem dX4_count_208 : decode cX4_count 208 = .ok (.getfield 105, 3) := by decide +kernel
theorem dX4_count_211 : decode cX4_count 211 = .ok (.iconst 2, 1) := by decide +kernel
theorem dX4_count_212 : decode cX4_count 212 = .ok (.invokevirtual 186, 3) := by decide +kernel
theorem dX4_count_215 : decode cX4_count 215 = .ok (.ireturn, 1) := by decide +kernel
theorem dX4_count_216 : decode cX4_count 216 = .ok (.aload_n 0, 1) := by decide +kernel
theorem dX4_count_217 : decode cX4_count 217 = .ok (.getfield 12, 3) := by decide +kernel
theorem dX4_count_220 : decode cX4_count 220 = .ok (.getfield 105, 3) := by decide +kernel
theorem dX4_count_223 : decode cX4_count 223 = .ok (.iconst 3, 1) := by decide +kernel
theorem dX4_count_224 : decode cX4_count 224 = .ok (.invokevirtual 186, 3) := by decide +kernel
theorem dX4_count_227 : decode cX4_count 227 = .ok (.ireturn, 1) := by decide +kernel
theorem dX4_count_228 : decode cX4_count 228 = .ok (.aload_n 0, 1) := by decide +kernel
theorem dX4_count_229 : decode cX4_count 229 = .ok (.getfield 12, 3) := by decide +kernel
theorem dX4_count_232 : decode cX4_count 232 = .ok (.getfield 105, 3) := by decide +kernel
theorem dX4_count_235 : decode cX4_count 235 = .ok (.iconst 4, 1) := by decide +kernel
theorem dX4_count_236 : decode cX4_count 236 = .ok (.invokevirtual 186, 3) := by decide +kernel
theorem dX4_count_239 : decode cX4_count 239 = .ok (.ireturn, 1) := by decide +kernel
theorem dX4_count_240 : decode cX4_count 240 = .ok (.aload_n 0, 1) := by decide +kernel
theorem dX4_count_241 : decode cX4_count 241 = .ok (.getfield 12, 3) := by decide +kernel
theorem dX4_count_244 : decode cX4_count 244 = .ok (.getfield 105, 3) := by decide +kernel
theorem dX4_count_247 : decode cX4_count 247 = .ok (.iconst 5, 1) := by decide +kernel
theorem dX4_count_248 : decode cX4_count 248 = .ok (.invokevirtual 186, 3) := by decide +kernel
theorem dX4_count_251 : decode cX4_count 251 = .ok (.ireturn, 1) := by decide +kernel
theorem dX4_count_252 : decode cX4_count 252 = .ok (.aload_n 0, 1) := by decide +kernel
theorem dX4_count_253 : decode cX4_count 253 = .ok (.getfield 19, 3) := by decide +kernel
theorem dX4_count_256 : decode cX4_count 256 = .ok (.getfield 189, 3) := by decide +kernel
theorem dX4_count_259 : decode cX4_count 259 = .ok (.ireturn, 1) := by decide +kernel
theorem dX4_count_260 : decode cX4_count 260 = .ok (.aload_n 0, 1) := by decide +kernel
theorem dX4_count_261 : decode cX4_count 261 = .ok (.getfield 30, 3) := by decide +kernel
theorem dX4_count_264 : decode cX4_count 264 = .ok (.ireturn, 1) := by decide +kernel
theorem dX4_count_265 : decode cX4_count 265 = .ok (.bipush (-2), 2) := by decide +kernel
theorem dX4_count_267 : decode cX4_count 267 = .ok (.ireturn, 1) := by decide +kernel
set_option maxRecDepth 20000 in
theorem ggX4_leastRank_X4_isCraft : GoodIn wsX4_leastRank wsX4_isCraft := goodIn_r _ [6, 7, 8, 5, 9] (by decide +kernel) (by decide +kernel)
set_option maxRecDepth 20000 in
theorem gX4_leastRank_X4_isCraft : GoodIn wsX4_leastRank (va_wsS RX4 99 yX4_isCraft wsX4_isCraft) := goodIn_app (goodIn_of _ (by decide +kernel)) ggX4_leastRank_X4_isCraft
set_option maxRecDepth 20000 in
theorem ggX4_leastRank_X4_isDeed : GoodIn wsX4_leastRank wsX4_isDeed := goodIn_r _ [12, 7, 8, 5, 9] (by decide +kernel) (by decide +kernel)
set_option maxRecDepth 20000 in
theorem gX4_leastRank_X4_isDeed : GoodIn wsX4_leastRank (va_wsS RX4 123 yX4_isDeed wsX4_isDeed) := goodIn_app (goodIn_of _ (by decide +kernel)) ggX4_leastRank_X4_isDeed
set_option maxRecDepth 20000 in
theorem ggX4_leastRank_X4_pairsOf : GoodIn wsX4_leastRank wsX4_pairsOf := goodIn_r _ [15] (by decide +kernel) (by decide +kernel)
set_option maxRecDepth 20000 in
theorem gX4_leastRank_X4_pairsOf : GoodIn wsX4_leastRank (va_wsS RX4 129 yX4_pairsOf wsX4_pairsOf) := goodIn_app (goodIn_of _ (by decide +kernel)) ggX4_leastRank_X4_pairsOf
set_option maxRecDepth 20000 in
theorem ggX4_leastRank_X2_leastRankFor : GoodIn wsX4_leastRank wsX2_leastRankFor := goodIn_r _ [20, 21, 22, 23, 19, 24, 25, 26, 27, 28, 29, 30, 31, 32, 33, 34, 35, 36, 37, 38, 39, 40, 41, 50, 51, 52, 53, 54, 55, 56] (by decide +kernel) (by decide +kernel)
set_option maxRecDepth 20000 in
theorem gX4_leastRank_X2_leastRankFor : GoodIn wsX4_leastRank (wsV RX4 192 RX2 yX2_leastRankFor wsX2_leastRankFor) := goodIn_app (goodIn_of _ (by decide +kernel)) ggX4_leastRank_X2_leastRankFor
theorem dX4_leastRank_0 : decode cX4_leastRank 0 = .ok (.iload_n 1, 1) := by decide +kernel
theorem dX4_leastRank_1 : decode cX4_leastRank 1 = .ok (.invokestatic 99, 3) := by decide +kernel
theorem dX4_leastRank_4 : decode cX4_leastRank 4 = .ok (.ifCond .eq 10, 3) := by decide +kernel
theorem dX4_leastRank_7 : decode cX4_leastRank 7 = .ok (.iload_n 2, 1) := by decide +kernel
theorem dX4_leastRank_8 : decode cX4_leastRank 8 = .ok (.invokestatic 123, 3) := by decide +kernel
theorem dX4_leastRank_11 : decode cX4_leastRank 11 = .ok (.ifCond .ne 5, 3) := by decide +kernel
theorem dX4_leastRank_14 : decode cX4_leastRank 14 = .ok (.iconst (-1), 1) := by decide +kernel
theorem dX4_leastRank_15 : decode cX4_leastRank 15 = .ok (.ireturn, 1) := by decide +kernel
theorem dX4_leastRank_16 : decode cX4_leastRank 16 = .ok (.aload_n 0, 1) := by decide +kernel
theorem dX4_leastRank_17 : decode cX4_leastRank 17 = .ok (.getfield 12, 3) := by decide +kernel
theorem dX4_leastRank_20 : decode cX4_leastRank 20 = .ok (.getfield 52, 3) := by decide +kernel
theorem dX4_leastRank_23 : decode cX4_leastRank 23 = .ok (.iload_n 1, 1) := by decide +kernel
theorem dX4_leastRank_24 : decode cX4_leastRank 24 = .ok (.iload_n 2, 1) := by decide +kernel
theorem dX4_leastRank_25 : decode cX4_leastRank 25 = .ok (.invokestatic 129, 3) := by decide +kernel
theorem dX4_leastRank_28 : decode cX4_leastRank 28 = .ok (.invokevirtual 192, 3) := by decide +kernel
theorem dX4_leastRank_31 : decode cX4_leastRank 31 = .ok (.ireturn, 1) := by decide +kernel
set_option maxRecDepth 20000 in
theorem ggX4_ifStruck_X2_has : GoodIn wsX4_ifStruck wsX2_has := goodIn_r _ [7, 8, 80, 81, 82, 83, 84, 85, 86] (by decide +kernel) (by decide +kernel)
set_option maxRecDepth 20000 in
theorem gX4_ifStruck_X2_has : GoodIn wsX4_ifStruck (wsV RX4 65 RX2 yX2_has wsX2_has) := goodIn_app (goodIn_of _ (by decide +kernel)) ggX4_ifStruck_X2_has
set_option maxRecDepth 20000 in
theorem ggX4_ifStruck_X4_triplesWithout : GoodIn wsX4_ifStruck wsX4_triplesWithout := goodIn_r _ [13, 14, 1, 2, 15, 16, 17, 6, 18, 19, 20, 21, 22, 23, 24, 8, 25, 12, 26, 27, 28, 29, 30, 31, 32, 33, 34, 35, 36, 37, 38, 39, 4, 5, 7, 40, 41, 42, 43, 44, 45, 46, 47, 48, 49, 50, 51, 52, 53, 54, 55, 56, 57, 58, 59, 60, 61, 62, 63, 64, 65, 66, 67, 68, 69, 70, 71, 72, 73, 74, 75, 76, 77, 78, 79, 80, 81, 82, 83, 84, 85, 86] (by decide +kernel) (by decide +kernel)
set_option maxRecDepth 20000 in
theorem gX4_ifStruck_X4_triplesWithout : GoodIn wsX4_ifStruck (wsV RX4 195 RX4 yX4_triplesWithout wsX4_triplesWithout) := goodIn_app (goodIn_of _ (by decide +kernel)) ggX4_ifStruck_X4_triplesWithout
set_option maxRecDepth 20000 in
theorem ggX4_ifStruck_X2_triples : GoodIn wsX4_ifStruck wsX2_triples := goodIn_r _ [48, 49, 50, 51, 6, 52, 8, 20, 24, 53, 54, 55, 56, 57, 58, 59, 60, 61, 62, 63, 23, 64, 65, 66, 67, 68, 69, 70, 71, 19, 80, 81, 82, 83, 84, 85, 86] (by decide +kernel) (by decide +kernel)
set_option maxRecDepth 20000 in
theorem gX4_ifStruck_X2_triples : GoodIn wsX4_ifStruck (wsV RX4 146 RX2 yX2_triples wsX2_triples) := goodIn_app (goodIn_of _ (by decide +kernel)) ggX4_ifStruck_X2_triples
theorem dX4_ifStruck_0 : decode cX4_ifStruck 0 = .ok (.aload_n 0, 1) := by decide +kernel
theorem dX4_ifStruck_1 : decode cX4_ifStruck 1 = .ok (.getfield 12, 3) := by decide +kernel
theorem dX4_ifStruck_4 : decode cX4_ifStruck 4 = .ok (.getfield 52, 3) := by decide +kernel
theorem dX4_ifStruck_7 : decode cX4_ifStruck 7 = .ok (.iload_n 1, 1) := by decide +kernel
theorem dX4_ifStruck_8 : decode cX4_ifStruck 8 = .ok (.invokevirtual 65, 3) := by decide +kernel
theorem dX4_ifStruck_11 : decode cX4_ifStruck 11 = .ok (.ifCond .ne 5, 3) := by decide +kernel
theorem dX4_ifStruck_14 : decode cX4_ifStruck 14 = .ok (.iconst (-1), 1) := by decide +kernel
theorem dX4_ifStruck_15 : decode cX4_ifStruck 15 = .ok (.ireturn, 1) := by decide +kernel
theorem dX4_ifStruck_16 : decode cX4_ifStruck 16 = .ok (.sipush 1000, 3) := by decide +kernel
theorem dX4_ifStruck_19 : decode cX4_ifStruck 19 = .ok (.aload_n 0, 1) := by decide +kernel
theorem dX4_ifStruck_20 : decode cX4_ifStruck 20 = .ok (.iload_n 1, 1) := by decide +kernel
theorem dX4_ifStruck_21 : decode cX4_ifStruck 21 = .ok (.invokevirtual 195, 3) := by decide +kernel
theorem dX4_ifStruck_24 : decode cX4_ifStruck 24 = .ok (.iadd, 1) := by decide +kernel
theorem dX4_ifStruck_25 : decode cX4_ifStruck 25 = .ok (.aload_n 0, 1) := by decide +kernel
theorem dX4_ifStruck_26 : decode cX4_ifStruck 26 = .ok (.getfield 12, 3) := by decide +kernel
theorem dX4_ifStruck_29 : decode cX4_ifStruck 29 = .ok (.getfield 52, 3) := by decide +kernel
theorem dX4_ifStruck_32 : decode cX4_ifStruck 32 = .ok (.invokevirtual 146, 3) := by decide +kernel
theorem dX4_ifStruck_35 : decode cX4_ifStruck 35 = .ok (.isub, 1) := by decide +kernel
theorem dX4_ifStruck_36 : decode cX4_ifStruck 36 = .ok (.ireturn, 1) := by decide +kernel
set_option maxRecDepth 20000 in
theorem ggX4_worstBan_X4_triplesWithout : GoodIn wsX4_worstBan wsX4_triplesWithout := goodIn_r _ [9, 10, 1, 2, 11, 12, 13, 14, 15, 16, 17, 18, 19, 20, 21, 22, 23, 8, 24, 25, 26, 27, 28, 29, 30, 31, 32, 33, 34, 35, 36, 37, 38, 39, 40, 41, 42, 43, 44, 45, 46, 47, 48, 49, 50, 51, 52, 53, 54, 55, 56, 57, 58, 59, 60, 61, 62, 63, 64, 65, 66, 67, 68, 69, 70, 71, 72, 73, 74, 75, 76, 77, 78, 79, 80, 81, 82, 83, 84, 85, 86, 87] (by decide +kernel) (by decide +kernel)
set_option maxRecDepth 20000 in
theorem gX4_worstBan_X4_triplesWithout : GoodIn wsX4_worstBan (wsV RX4 195 RX4 yX4_triplesWithout wsX4_triplesWithout) := goodIn_app (goodIn_of _ (by decide +kernel)) ggX4_worstBan_X4_triplesWithout
theorem dX4_worstBan_0 : decode cX4_worstBan 0 = .ok (.bipush (-6), 2) := by decide +kernel
theorem dX4_worstBan_2 : decode cX4_worstBan 2 = .ok (.istore_n 1, 1) := by decide +kernel
theorem dX4_worstBan_3 : decode cX4_worstBan 3 = .ok (.iconst (-1), 1) := by decide +kernel
theorem dX4_worstBan_4 : decode cX4_worstBan 4 = .ok (.istore_n 2, 1) := by decide +kernel
theorem dX4_worstBan_5 : decode cX4_worstBan 5 = .ok (.iconst 0, 1) := by decide +kernel
theorem dX4_worstBan_6 : decode cX4_worstBan 6 = .ok (.istore_n 3, 1) := by decide +kernel
theorem dX4_worstBan_7 : decode cX4_worstBan 7 = .ok (.iload_n 3, 1) := by decide +kernel
theorem dX4_worstBan_8 : decode cX4_worstBan 8 = .ok (.aload_n 0, 1) := by decide +kernel
theorem dX4_worstBan_9 : decode cX4_worstBan 9 = .ok (.getfield 12, 3) := by decide +kernel
theorem dX4_worstBan_12 : decode cX4_worstBan 12 = .ok (.getfield 52, 3) := by decide +kernel
theorem dX4_worstBan_15 : decode cX4_worstBan 15 = .ok (.getfield 55, 3) := by decide +kernel
theorem dX4_worstBan_18 : decode cX4_worstBan 18 = .ok (.if_icmp .ge 46, 3) := by decide +kernel
theorem dX4_worstBan_21 : decode cX4_worstBan 21 = .ok (.aload_n 0, 1) := by decide +kernel
theorem dX4_worstBan_22 : decode cX4_worstBan 22 = .ok (.getfield 12, 3) := by decide +kernel
theorem dX4_worstBan_25 : decode cX4_worstBan 25 = .ok (.getfield 52, 3) := by decide +kernel
theorem dX4_worstBan_28 : decode cX4_worstBan 28 = .ok (.getfield 76, 3) := by decide +kernel
theorem dX4_worstBan_31 : decode cX4_worstBan 31 = .ok (.iload_n 3, 1) := by decide +kernel
theorem dX4_worstBan_32 : decode cX4_worstBan 32 = .ok (.iaload, 1) := by decide +kernel
theorem dX4_worstBan_33 : decode cX4_worstBan 33 = .ok (.iconst 1, 1) := by decide +kernel
theorem dX4_worstBan_34 : decode cX4_worstBan 34 = .ok (.if_icmp .eq 6, 3) := by decide +kernel
theorem dX4_worstBan_37 : decode cX4_worstBan 37 = .ok (.goto 21, 3) := by decide +kernel
theorem dX4_worstBan_40 : decode cX4_worstBan 40 = .ok (.aload_n 0, 1) := by decide +kernel
theorem dX4_worstBan_41 : decode cX4_worstBan 41 = .ok (.iload_n 3, 1) := by decide +kernel
theorem dX4_worstBan_42 : decode cX4_worstBan 42 = .ok (.invokevirtual 195, 3) := by decide +kernel
theorem dX4_worstBan_45 : decode cX4_worstBan 45 = .ok (.istore 4, 2) := by decide +kernel
theorem dX4_worstBan_47 : decode cX4_worstBan 47 = .ok (.iload 4, 2) := by decide +kernel
theorem dX4_worstBan_49 : decode cX4_worstBan 49 = .ok (.iload_n 2, 1) := by decide +kernel
theorem dX4_worstBan_50 : decode cX4_worstBan 50 = .ok (.if_icmp .le 8, 3) := by decide +kernel
theorem dX4_worstBan_53 : decode cX4_worstBan 53 = .ok (.iload 4, 2) := by decide +kernel
theorem dX4_worstBan_55 : decode cX4_worstBan 55 = .ok (.istore_n 2, 1) := by decide +kernel
theorem dX4_worstBan_56 : decode cX4_worstBan 56 = .ok (.iload_n 3, 1) := by decide +kernel
theorem dX4_worstBan_57 : decode cX4_worstBan 57 = .ok (.istore_n 1, 1) := by decide +kernel
theorem dX4_worstBan_58 : decode cX4_worstBan 58 = .ok (.iinc 3 1, 3) := by decide +kernel
theorem dX4_worstBan_61 : decode cX4_worstBan 61 = .ok (.goto (-54), 3) := by decide +kernel
theorem dX4_worstBan_64 : decode cX4_worstBan 64 = .ok (.iload_n 1, 1) := by decide +kernel
theorem dX4_worstBan_65 : decode cX4_worstBan 65 = .ok (.ireturn, 1) := by decide +kernel
set_option maxRecDepth 20000 in
theorem ggX4_bestWaiver_X4_isSeal : GoodIn wsX4_bestWaiver wsX4_isSeal := goodIn_r _ [4, 5, 6, 3, 7] (by decide +kernel) (by decide +kernel)
set_option maxRecDepth 20000 in
theorem gX4_bestWaiver_X4_isSeal : GoodIn wsX4_bestWaiver (va_wsS RX4 49 yX4_isSeal wsX4_isSeal) := goodIn_app (goodIn_of _ (by decide +kernel)) ggX4_bestWaiver_X4_isSeal
set_option maxRecDepth 20000 in
theorem ggX4_bestWaiver_X4_triplesWithWaiver : GoodIn wsX4_bestWaiver wsX4_triplesWithWaiver := goodIn_r _ [11, 12, 13, 14, 15, 16, 17, 18, 19, 20, 21, 22, 23, 24, 25, 26, 27, 3, 28, 29, 30, 31, 32, 33, 34, 35, 36, 37, 38, 39, 40, 41, 42, 43, 44, 45, 46, 47, 48, 49, 50, 51, 52, 53, 54, 55, 56, 57, 58, 59, 60, 61, 62, 63, 64, 65, 66, 67, 68, 69, 70, 71, 72, 73, 74, 75, 76, 77, 78, 79, 80, 81, 82, 83, 84] (by decide +kernel) (by decide +kernel)
set_option maxRecDepth 20000 in
theorem gX4_bestWaiver_X4_triplesWithWaiver : GoodIn wsX4_bestWaiver (wsV RX4 198 RX4 yX4_triplesWithWaiver wsX4_triplesWithWaiver) := goodIn_app (goodIn_of _ (by decide +kernel)) ggX4_bestWaiver_X4_triplesWithWaiver
theorem dX4_bestWaiver_0 : decode cX4_bestWaiver 0 = .ok (.iload_n 1, 1) := by decide +kernel
theorem dX4_bestWaiver_1 : decode cX4_bestWaiver 1 = .ok (.invokestatic 49, 3) := by decide +kernel
theorem dX4_bestWaiver_4 : decode cX4_bestWaiver 4 = .ok (.ifCond .ne 6, 3) := by decide +kernel
theorem dX4_bestWaiver_7 : decode cX4_bestWaiver 7 = .ok (.bipush (-2), 2) := by decide +kernel
theorem dX4_bestWaiver_9 : decode cX4_bestWaiver 9 = .ok (.ireturn, 1) := by decide +kernel
theorem dX4_bestWaiver_10 : decode cX4_bestWaiver 10 = .ok (.iconst 0, 1) := by decide +kernel
theorem dX4_bestWaiver_11 : decode cX4_bestWaiver 11 = .ok (.istore_n 2, 1) := by decide +kernel
theorem dX4_bestWaiver_12 : decode cX4_bestWaiver 12 = .ok (.iconst (-1), 1) := by decide +kernel
theorem dX4_bestWaiver_13 : decode cX4_bestWaiver 13 = .ok (.istore_n 3, 1) := by decide +kernel
theorem dX4_bestWaiver_14 : decode cX4_bestWaiver 14 = .ok (.iconst 0, 1) := by decide +kernel
theorem dX4_bestWaiver_15 : decode cX4_bestWaiver 15 = .ok (.istore 4, 2) := by decide +kernel
theorem dX4_bestWaiver_17 : decode cX4_bestWaiver 17 = .ok (.iload 4, 2) := by decide +kernel
theorem dX4_bestWaiver_19 : decode cX4_bestWaiver 19 = .ok (.iconst 5, 1) := by decide +kernel
theorem dX4_bestWaiver_20 : decode cX4_bestWaiver 20 = .ok (.if_icmp .ge 30, 3) := by decide +kernel
theorem dX4_bestWaiver_23 : decode cX4_bestWaiver 23 = .ok (.aload_n 0, 1) := by decide +kernel
theorem dX4_bestWaiver_24 : decode cX4_bestWaiver 24 = .ok (.iload 4, 2) := by decide +kernel
theorem dX4_bestWaiver_26 : decode cX4_bestWaiver 26 = .ok (.iload_n 1, 1) := by decide +kernel
theorem dX4_bestWaiver_27 : decode cX4_bestWaiver 27 = .ok (.invokevirtual 198, 3) := by decide +kernel
theorem dX4_bestWaiver_30 : decode cX4_bestWaiver 30 = .ok (.istore 5, 2) := by decide +kernel
theorem dX4_bestWaiver_32 : decode cX4_bestWaiver 32 = .ok (.iload 5, 2) := by decide +kernel
theorem dX4_bestWaiver_34 : decode cX4_bestWaiver 34 = .ok (.iload_n 3, 1) := by decide +kernel
theorem dX4_bestWaiver_35 : decode cX4_bestWaiver 35 = .ok (.if_icmp .lt 9, 3) := by decide +kernel
theorem dX4_bestWaiver_38 : decode cX4_bestWaiver 38 = .ok (.iload 5, 2) := by decide +kernel
theorem dX4_bestWaiver_40 : decode cX4_bestWaiver 40 = .ok (.istore_n 3, 1) := by decide +kernel
theorem dX4_bestWaiver_41 : decode cX4_bestWaiver 41 = .ok (.iload 4, 2) := by decide +kernel
theorem dX4_bestWaiver_43 : decode cX4_bestWaiver 43 = .ok (.istore_n 2, 1) := by decide +kernel
theorem dX4_bestWaiver_44 : decode cX4_bestWaiver 44 = .ok (.iinc 4 1, 3) := by decide +kernel
theorem dX4_bestWaiver_47 : decode cX4_bestWaiver 47 = .ok (.goto (-30), 3) := by decide +kernel
theorem dX4_bestWaiver_50 : decode cX4_bestWaiver 50 = .ok (.iload_n 2, 1) := by decide +kernel
theorem dX4_bestWaiver_51 : decode cX4_bestWaiver 51 = .ok (.ireturn, 1) := by decide +kernel
set_option maxRecDepth 20000 in
theorem ggX4_undo_X4_isBetween : GoodIn wsX4_undo wsX4_isBetween := goodIn_r _ [7] (by decide +kernel) (by decide +kernel)
set_option maxRecDepth 20000 in
theorem gX4_undo_X4_isBetween : GoodIn wsX4_undo (va_wsS RX4 45 yX4_isBetween wsX4_isBetween) := goodIn_app (goodIn_of _ (by decide +kernel)) ggX4_undo_X4_isBetween
set_option maxRecDepth 20000 in
theorem ggX4_undo_X3_copyFrom : GoodIn wsX4_undo wsX3_copyFrom := goodIn_r _ [12, 13, 14, 15, 16, 17, 18, 19, 20, 21, 22, 23, 24, 25, 26, 27, 6, 28, 29, 30, 31, 32, 33, 34, 35, 36, 37, 38, 39, 40, 41, 42, 43, 44, 45, 46, 47, 48, 55, 56, 57, 58, 59, 60, 61, 62, 63, 64, 65, 66, 67, 68, 69, 70] (by decide +kernel) (by decide +kernel)
set_option maxRecDepth 20000 in
theorem gX4_undo_X3_copyFrom : GoodIn wsX4_undo (wsV RX4 208 RX3 yX3_copyFrom wsX3_copyFrom) := goodIn_app (goodIn_of _ (by decide +kernel)) ggX4_undo_X3_copyFrom
theorem dX4_undo_0 : decode cX4_undo 0 = .ok (.aload_n 0, 1) := by decide +kernel
theorem dX4_undo_1 : decode cX4_undo 1 = .ok (.getfield 30, 3) := by decide +kernel
theorem dX4_undo_4 : decode cX4_undo 4 = .ok (.iconst 1, 1) := by decide +kernel
theorem dX4_undo_5 : decode cX4_undo 5 = .ok (.bipush 6, 2) := by decide +kernel
theorem dX4_undo_7 : decode cX4_undo 7 = .ok (.invokestatic 45, 3) := by decide +kernel
theorem dX4_undo_10 : decode cX4_undo 10 = .ok (.ifCond .ne 6, 3) := by decide +kernel
theorem dX4_undo_13 : decode cX4_undo 13 = .ok (.bipush (-5), 2) := by decide +kernel
theorem dX4_undo_15 : decode cX4_undo 15 = .ok (.ireturn, 1) := by decide +kernel
theorem dX4_undo_16 : decode cX4_undo 16 = .ok (.aload_n 0, 1) := by decide +kernel
theorem dX4_undo_17 : decode cX4_undo 17 = .ok (.getfield 27, 3) := by decide +kernel
theorem dX4_undo_20 : decode cX4_undo 20 = .ok (.aload_n 0, 1) := by decide +kernel
theorem dX4_undo_21 : decode cX4_undo 21 = .ok (.getfield 30, 3) := by decide +kernel
theorem dX4_undo_24 : decode cX4_undo 24 = .ok (.iconst 1, 1) := by decide +kernel
theorem dX4_undo_25 : decode cX4_undo 25 = .ok (.isub, 1) := by decide +kernel
theorem dX4_undo_26 : decode cX4_undo 26 = .ok (.aaload, 1) := by decide +kernel
theorem dX4_undo_27 : decode cX4_undo 27 = .ok (.astore_n 1, 1) := by decide +kernel
theorem dX4_undo_28 : decode cX4_undo 28 = .ok (.aload_n 1, 1) := by decide +kernel
theorem dX4_undo_29 : decode cX4_undo 29 = .ok (.ifnonnull 6, 3) := by decide +kernel
theorem dX4_undo_32 : decode cX4_undo 32 = .ok (.bipush (-5), 2) := by decide +kernel
theorem dX4_undo_34 : decode cX4_undo 34 = .ok (.ireturn, 1) := by decide +kernel
theorem dX4_undo_35 : decode cX4_undo 35 = .ok (.aload_n 0, 1) := by decide +kernel
theorem dX4_undo_36 : decode cX4_undo 36 = .ok (.getfield 12, 3) := by decide +kernel
theorem dX4_undo_39 : decode cX4_undo 39 = .ok (.aload_n 1, 1) := by decide +kernel
theorem dX4_undo_40 : decode cX4_undo 40 = .ok (.invokevirtual 208, 3) := by decide +kernel
theorem dX4_undo_43 : decode cX4_undo 43 = .ok (.aload_n 0, 1) := by decide +kernel
theorem dX4_undo_44 : decode cX4_undo 44 = .ok (.dup, 1) := by decide +kernel
theorem dX4_undo_45 : decode cX4_undo 45 = .ok (.getfield 30, 3) := by decide +kernel
theorem dX4_undo_48 : decode cX4_undo 48 = .ok (.iconst 1, 1) := by decide +kernel
theorem dX4_undo_49 : decode cX4_undo 49 = .ok (.isub, 1) := by decide +kernel
theorem dX4_undo_50 : decode cX4_undo 50 = .ok (.putfield 30, 3) := by decide +kernel
theorem dX4_undo_53 : decode cX4_undo 53 = .ok (.aload_n 0, 1) := by decide +kernel
theorem dX4_undo_54 : decode cX4_undo 54 = .ok (.getfield 30, 3) := by decide +kernel
theorem dX4_undo_57 : decode cX4_undo 57 = .ok (.ireturn, 1) := by decide +kernel
set_option maxRecDepth 20000 in
theorem ggX4_remember_X4_dropOldest : GoodIn wsX4_remember wsX4_dropOldest := goodIn_r _ [7, 2, 1, 72, 73, 74, 75, 76, 77] (by decide +kernel) (by decide +kernel)
set_option maxRecDepth 20000 in
theorem gX4_remember_X4_dropOldest : GoodIn wsX4_remember (wsV RX4 216 RX4 yX4_dropOldest wsX4_dropOldest) := goodIn_app (goodIn_of _ (by decide +kernel)) ggX4_remember_X4_dropOldest
set_option maxRecDepth 20000 in
theorem ggX4_remember_X4_copyInto : GoodIn wsX4_remember wsX4_copyInto := goodIn_r _ [11, 12, 13, 14, 15, 16, 17, 18, 19, 20, 21, 22, 23, 24, 25, 26, 27, 28, 29, 30, 31, 32, 33, 34, 35, 36, 37, 38, 39, 40, 41, 42, 43, 44, 45, 46, 47, 48, 49, 50, 51, 52, 53, 54, 55, 56, 57, 58, 6, 59, 60, 61, 62, 63, 64, 65, 66, 67, 68, 69, 70, 71, 78, 79, 72, 73, 74, 75, 76, 77, 80, 81, 82, 83, 84, 85, 86, 87, 88, 89, 90, 91, 92, 93] (by decide +kernel) (by decide +kernel)
set_option maxRecDepth 20000 in
theorem gX4_remember_X4_copyInto : GoodIn wsX4_remember (wsV RX4 212 RX4 yX4_copyInto wsX4_copyInto) := goodIn_app (goodIn_of _ (by decide +kernel)) ggX4_remember_X4_copyInto
theorem dX4_remember_0 : decode cX4_remember 0 = .ok (.aload_n 0, 1) := by decide +kernel
theorem dX4_remember_1 : decode cX4_remember 1 = .ok (.getfield 30, 3) := by decide +kernel
theorem dX4_remember_4 : decode cX4_remember 4 = .ok (.bipush 6, 2) := by decide +kernel
theorem dX4_remember_6 : decode cX4_remember 6 = .ok (.if_icmp .lt 7, 3) := by decide +kernel
theorem dX4_remember_9 : decode cX4_remember 9 = .ok (.aload_n 0, 1) := by decide +kernel
theorem dX4_remember_10 : decode cX4_remember 10 = .ok (.invokevirtual 216, 3) := by decide +kernel
theorem dX4_remember_13 : decode cX4_remember 13 = .ok (.aload_n 0, 1) := by decide +kernel
theorem dX4_remember_14 : decode cX4_remember 14 = .ok (.getfield 27, 3) := by decide +kernel
theorem dX4_remember_17 : decode cX4_remember 17 = .ok (.aload_n 0, 1) := by decide +kernel
theorem dX4_remember_18 : decode cX4_remember 18 = .ok (.getfield 30, 3) := by decide +kernel
theorem dX4_remember_21 : decode cX4_remember 21 = .ok (.aload_n 0, 1) := by decide +kernel
theorem dX4_remember_22 : decode cX4_remember 22 = .ok (.aload_n 0, 1) := by decide +kernel
theorem dX4_remember_23 : decode cX4_remember 23 = .ok (.getfield 27, 3) := by decide +kernel
theorem dX4_remember_26 : decode cX4_remember 26 = .ok (.aload_n 0, 1) := by decide +kernel
theorem dX4_remember_27 : decode cX4_remember 27 = .ok (.getfield 30, 3) := by decide +kernel
theorem dX4_remember_30 : decode cX4_remember 30 = .ok (.aaload, 1) := by decide +kernel
theorem dX4_remember_31 : decode cX4_remember 31 = .ok (.invokevirtual 212, 3) := by decide +kernel
theorem dX4_remember_34 : decode cX4_remember 34 = .ok (.aastore, 1) := by decide +kernel
theorem dX4_remember_35 : decode cX4_remember 35 = .ok (.aload_n 0, 1) := by decide +kernel
theorem dX4_remember_36 : decode cX4_remember 36 = .ok (.dup, 1) := by decide +kernel
theorem dX4_remember_37 : decode cX4_remember 37 = .ok (.getfield 30, 3) := by decide +kernel
theorem dX4_remember_40 : decode cX4_remember 40 = .ok (.iconst 1, 1) := by decide +kernel
theorem dX4_remember_41 : decode cX4_remember 41 = .ok (.iadd, 1) := by decide +kernel
theorem dX4_remember_42 : decode cX4_remember 42 = .ok (.putfield 30, 3) := by decide +kernel
theorem dX4_remember_45 : decode cX4_remember 45 = .ok (.return_, 1) := by decide +kernel
theorem dX4_dropOldest_0 : decode cX4_dropOldest 0 = .ok (.aload_n 0, 1) := by decide +kernel
theorem dX4_dropOldest_1 : decode cX4_dropOldest 1 = .ok (.getfield 27, 3) := by decide +kernel
theorem dX4_dropOldest_4 : decode cX4_dropOldest 4 = .ok (.iconst 0, 1) := by decide +kernel
theorem dX4_dropOldest_5 : decode cX4_dropOldest 5 = .ok (.aaload, 1) := by decide +kernel
theorem dX4_dropOldest_6 : decode cX4_dropOldest 6 = .ok (.astore_n 1, 1) := by decide +kernel
theorem dX4_dropOldest_7 : decode cX4_dropOldest 7 = .ok (.iconst 0, 1) := by decide +kernel
theorem dX4_dropOldest_8 : decode cX4_dropOldest 8 = .ok (.istore_n 2, 1) := by decide +kernel
theorem dX4_dropOldest_9 : decode cX4_dropOldest 9 = .ok (.iload_n 2, 1) := by decide +kernel
theorem dX4_dropOldest_10 : decode cX4_dropOldest 10 = .ok (.iconst 5, 1) := by decide +kernel
theorem dX4_dropOldest_11 : decode cX4_dropOldest 11 = .ok (.if_icmp .ge 23, 3) := by decide +kernel
theorem dX4_dropOldest_14 : decode cX4_dropOldest 14 = .ok (.aload_n 0, 1) := by decide +kernel
theorem dX4_dropOldest_15 : decode cX4_dropOldest 15 = .ok (.getfield 27, 3) := by decide +kernel
theorem dX4_dropOldest_18 : decode cX4_dropOldest 18 = .ok (.iload_n 2, 1) := by decide +kernel
theorem dX4_dropOldest_19 : decode cX4_dropOldest 19 = .ok (.aload_n 0, 1) := by decide +kernel
theorem dX4_dropOldest_20 : decode cX4_dropOldest 20 = .ok (.getfield 27, 3) := by decide +kernel
theorem dX4_dropOldest_23 : decode cX4_dropOldest 23 = .ok (.iload_n 2, 1) := by decide +kernel
theorem dX4_dropOldest_24 : decode cX4_dropOldest 24 = .ok (.iconst 1, 1) := by decide +kernel
theorem dX4_dropOldest_25 : decode cX4_dropOldest 25 = .ok (.iadd, 1) := by decide +kernel
theorem dX4_dropOldest_26 : decode cX4_dropOldest 26 = .ok (.aaload, 1) := by decide +kernel
theorem dX4_dropOldest_27 : decode cX4_dropOldest 27 = .ok (.aastore, 1) := by decide +kernel
theorem dX4_dropOldest_28 : decode cX4_dropOldest 28 = .ok (.iinc 2 1, 3) := by decide +kernel
theorem dX4_dropOldest_31 : decode cX4_dropOldest 31 = .ok (.goto (-22), 3) := by decide +kernel
theorem dX4_dropOldest_34 : decode cX4_dropOldest 34 = .ok (.aload_n 0, 1) := by decide +kernel
theorem dX4_dropOldest_35 : decode cX4_dropOldest 35 = .ok (.getfield 27, 3) := by decide +kernel
theorem dX4_dropOldest_38 : decode cX4_dropOldest 38 = .ok (.iconst 5, 1) := by decide +kernel
theorem dX4_dropOldest_39 : decode cX4_dropOldest 39 = .ok (.aload_n 1, 1) := by decide +kernel
theorem dX4_dropOldest_40 : decode cX4_dropOldest 40 = .ok (.aastore, 1) := by decide +kernel
theorem dX4_dropOldest_41 : decode cX4_dropOldest 41 = .ok (.aload_n 0, 1) := by decide +kernel
theorem dX4_dropOldest_42 : decode cX4_dropOldest 42 = .ok (.iconst 5, 1) := by decide +kernel
theorem dX4_dropOldest_43 : decode cX4_dropOldest 43 = .ok (.putfield 30, 3) := by decide +kernel
theorem dX4_dropOldest_46 : decode cX4_dropOldest 46 = .ok (.return_, 1) := by decide +kernel
set_option maxRecDepth 20000 in
theorem ggX4_copyInto_X3_init : GoodIn wsX4_copyInto wsX3_init := goodIn_r _ [6, 7, 8, 9, 10, 11, 12, 13, 14, 15, 16, 17, 18, 19, 20, 21, 22, 23, 24, 25, 26, 27, 28, 29, 30, 31, 32, 33, 34, 35, 36, 37, 38, 70, 71, 72, 73, 74, 75, 76, 62, 63, 77, 78, 79, 80, 81, 82, 83] (by decide +kernel) (by decide +kernel)
set_option maxRecDepth 20000 in
theorem gX4_copyInto_X3_init_n11 : GoodIn wsX4_copyInto (wsX3_init) := ggX4_copyInto_X3_init
set_option maxRecDepth 20000 in
theorem ggX4_copyInto_X3_copyFrom : GoodIn wsX4_copyInto wsX3_copyFrom := goodIn_r _ [42, 13, 17, 43, 44, 45, 12, 46, 22, 23, 24, 25, 26, 27, 28, 47, 48, 49, 50, 51, 52, 53, 54, 55, 56, 57, 58, 59, 60, 16, 61, 32, 33, 34, 35, 36, 37, 38, 62, 63, 70, 71, 72, 73, 74, 75, 76, 77, 78, 79, 80, 81, 82, 83] (by decide +kernel) (by decide +kernel)
set_option maxRecDepth 20000 in
theorem gX4_copyInto_X3_copyFrom : GoodIn wsX4_copyInto (wsV RX4 208 RX3 yX3_copyFrom wsX3_copyFrom) := goodIn_app (goodIn_of _ (by decide +kernel)) ggX4_copyInto_X3_copyFrom
theorem dX4_copyInto_0 : decode cX4_copyInto 0 = .ok (.aload_n 1, 1) := by decide +kernel
theorem dX4_copyInto_1 : decode cX4_copyInto 1 = .ok (.ifnonnull 13, 3) := by decide +kernel
theorem dX4_copyInto_4 : decode cX4_copyInto 4 = .ok (.new 9, 3) := by decide +kernel
theorem dX4_copyInto_7 : decode cX4_copyInto 7 = .ok (.dup, 1) := by decide +kernel
theorem dX4_copyInto_8 : decode cX4_copyInto 8 = .ok (.invokespecial 11, 3) := by decide +kernel
theorem dX4_copyInto_11 : decode cX4_copyInto 11 = .ok (.goto 4, 3) := by decide +kernel
theorem dX4_copyInto_14 : decode cX4_copyInto 14 = .ok (.aload_n 1, 1) := by decide +kernel
theorem dX4_copyInto_15 : decode cX4_copyInto 15 = .ok (.astore_n 2, 1) := by decide +kernel
theorem dX4_copyInto_16 : decode cX4_copyInto 16 = .ok (.aload_n 2, 1) := by decide +kernel
theorem dX4_copyInto_17 : decode cX4_copyInto 17 = .ok (.aload_n 0, 1) := by decide +kernel
theorem dX4_copyInto_18 : decode cX4_copyInto 18 = .ok (.getfield 12, 3) := by decide +kernel
theorem dX4_copyInto_21 : decode cX4_copyInto 21 = .ok (.invokevirtual 208, 3) := by decide +kernel
theorem dX4_copyInto_24 : decode cX4_copyInto 24 = .ok (.aload_n 2, 1) := by decide +kernel
theorem dX4_copyInto_25 : decode cX4_copyInto 25 = .ok (.areturn, 1) := by decide +kernel
set_option maxRecDepth 20000 in
theorem ggX4_triplesWithout_X2_copyFrom : GoodIn wsX4_triplesWithout wsX2_copyFrom := goodIn_r _ [8, 9, 10, 11, 12, 13, 14, 15, 16, 17, 18, 19, 20, 21, 22, 23, 24, 25, 26, 75, 76, 77, 78, 79, 80, 81] (by decide +kernel) (by decide +kernel)
set_option maxRecDepth 20000 in
theorem gX4_triplesWithout_X2_copyFrom : GoodIn wsX4_triplesWithout (wsV RX4 219 RX2 yX2_copyFrom wsX2_copyFrom) := goodIn_app (goodIn_of _ (by decide +kernel)) ggX4_triplesWithout_X2_copyFrom
set_option maxRecDepth 20000 in
theorem ggX4_triplesWithout_X2_remove : GoodIn wsX4_triplesWithout wsX2_remove := goodIn_r _ [30, 9, 10, 11, 12, 13, 14, 15, 31, 32, 33, 7, 34, 35, 17, 36, 37, 38, 21, 39, 75, 76, 77, 78, 79, 80, 81] (by decide +kernel) (by decide +kernel)
set_option maxRecDepth 20000 in
theorem gX4_triplesWithout_X2_remove : GoodIn wsX4_triplesWithout (wsV RX4 68 RX2 yX2_remove wsX2_remove) := goodIn_app (goodIn_of _ (by decide +kernel)) ggX4_triplesWithout_X2_remove
set_option maxRecDepth 20000 in
theorem ggX4_triplesWithout_X2_triples : GoodIn wsX4_triplesWithout wsX2_triples := goodIn_r _ [43, 44, 45, 46, 7, 47, 15, 10, 14, 48, 49, 50, 51, 52, 53, 54, 55, 56, 57, 58, 13, 59, 60, 61, 62, 63, 64, 65, 66, 9, 75, 76, 77, 78, 79, 80, 81] (by decide +kernel) (by decide +kernel)
set_option maxRecDepth 20000 in
theorem gX4_triplesWithout_X2_triples : GoodIn wsX4_triplesWithout (wsV RX4 146 RX2 yX2_triples wsX2_triples) := goodIn_app (goodIn_of _ (by decide +kernel)) ggX4_triplesWithout_X2_triples
theorem dX4_triplesWithout_0 : decode cX4_triplesWithout 0 = .ok (.aload_n 0, 1) := by decide +kernel
theorem dX4_triplesWithout_1 : decode cX4_triplesWithout 1 = .ok (.getfield 37, 3) := by decide +kernel
theorem dX4_triplesWithout_4 : decode cX4_triplesWithout 4 = .ok (.aload_n 0, 1) := by decide +kernel
theorem dX4_triplesWithout_5 : decode cX4_triplesWithout 5 = .ok (.getfield 12, 3) := by decide +kernel
theorem dX4_triplesWithout_8 : decode cX4_triplesWithout 8 = .ok (.getfield 52, 3) := by decide +kernel
theorem dX4_triplesWithout_11 : decode cX4_triplesWithout 11 = .ok (.invokevirtual 219, 3) := by decide +kernel
theorem dX4_triplesWithout_14 : decode cX4_triplesWithout 14 = .ok (.aload_n 0, 1) := by decide +kernel
theorem dX4_triplesWithout_15 : decode cX4_triplesWithout 15 = .ok (.getfield 37, 3) := by decide +kernel
theorem dX4_triplesWithout_18 : decode cX4_triplesWithout 18 = .ok (.iload_n 1, 1) := by decide +kernel
theorem dX4_triplesWithout_19 : decode cX4_triplesWithout 19 = .ok (.invokevirtual 68, 3) := by decide +kernel
theorem dX4_triplesWithout_22 : decode cX4_triplesWithout 22 = .ok (.aload_n 0, 1) := by decide +kernel
theorem dX4_triplesWithout_23 : decode cX4_triplesWithout 23 = .ok (.getfield 37, 3) := by decide +kernel
theorem dX4_triplesWithout_26 : decode cX4_triplesWithout 26 = .ok (.invokevirtual 146, 3) := by decide +kernel
theorem dX4_triplesWithout_29 : decode cX4_triplesWithout 29 = .ok (.ireturn, 1) := by decide +kernel
set_option maxRecDepth 20000 in
theorem ggX4_triplesWithWaiver_X2_copyFrom : GoodIn wsX4_triplesWithWaiver wsX2_copyFrom := goodIn_r _ [8, 9, 10, 11, 12, 13, 14, 15, 16, 17, 18, 19, 20, 21, 22, 23, 24, 25, 26, 68, 69, 70, 71, 72, 73, 74] (by decide +kernel) (by decide +kernel)
set_option maxRecDepth 20000 in
theorem gX4_triplesWithWaiver_X2_copyFrom : GoodIn wsX4_triplesWithWaiver (wsV RX4 219 RX2 yX2_copyFrom wsX2_copyFrom) := goodIn_app (goodIn_of _ (by decide +kernel)) ggX4_triplesWithWaiver_X2_copyFrom
set_option maxRecDepth 20000 in
theorem ggX4_triplesWithWaiver_X2_append : GoodIn wsX4_triplesWithWaiver wsX2_append := goodIn_r _ [30, 15, 9, 10, 11, 12, 13, 14, 31, 17, 32, 68, 69, 70, 71, 72, 73, 74] (by decide +kernel) (by decide +kernel)
set_option maxRecDepth 20000 in
theorem gX4_triplesWithWaiver_X2_append : GoodIn wsX4_triplesWithWaiver (wsV RX4 61 RX2 yX2_append wsX2_append) := goodIn_app (goodIn_of _ (by decide +kernel)) ggX4_triplesWithWaiver_X2_append
set_option maxRecDepth 20000 in
theorem ggX4_triplesWithWaiver_X2_triples : GoodIn wsX4_triplesWithWaiver wsX2_triples := goodIn_r _ [36, 37, 38, 39, 7, 40, 15, 10, 14, 41, 42, 43, 44, 45, 46, 47, 48, 49, 50, 51, 13, 52, 53, 54, 55, 56, 57, 58, 59, 9, 68, 69, 70, 71, 72, 73, 74] (by decide +kernel) (by decide +kernel)
set_option maxRecDepth 20000 in
theorem gX4_triplesWithWaiver_X2_triples : GoodIn wsX4_triplesWithWaiver (wsV RX4 146 RX2 yX2_triples wsX2_triples) := goodIn_app (goodIn_of _ (by decide +kernel)) ggX4_triplesWithWaiver_X2_triples
theorem dX4_triplesWithWaiver_0 : decode cX4_triplesWithWaiver 0 = .ok (.aload_n 0, 1) := by decide +kernel
theorem dX4_triplesWithWaiver_1 : decode cX4_triplesWithWaiver 1 = .ok (.getfield 37, 3) := by decide +kernel
theorem dX4_triplesWithWaiver_4 : decode cX4_triplesWithWaiver 4 = .ok (.aload_n 0, 1) := by decide +kernel
theorem dX4_triplesWithWaiver_5 : decode cX4_triplesWithWaiver 5 = .ok (.getfield 12, 3) := by decide +kernel
theorem dX4_triplesWithWaiver_8 : decode cX4_triplesWithWaiver 8 = .ok (.getfield 52, 3) := by decide +kernel
theorem dX4_triplesWithWaiver_11 : decode cX4_triplesWithWaiver 11 = .ok (.invokevirtual 219, 3) := by decide +kernel
theorem dX4_triplesWithWaiver_14 : decode cX4_triplesWithWaiver 14 = .ok (.aload_n 0, 1) := by decide +kernel
theorem dX4_triplesWithWaiver_15 : decode cX4_triplesWithWaiver 15 = .ok (.getfield 37, 3) := by decide +kernel
theorem dX4_triplesWithWaiver_18 : decode cX4_triplesWithWaiver 18 = .ok (.iload_n 1, 1) := by decide +kernel
theorem dX4_triplesWithWaiver_19 : decode cX4_triplesWithWaiver 19 = .ok (.iconst 2, 1) := by decide +kernel
theorem dX4_triplesWithWaiver_20 : decode cX4_triplesWithWaiver 20 = .ok (.iconst 5, 1) := by decide +kernel
theorem dX4_triplesWithWaiver_21 : decode cX4_triplesWithWaiver 21 = .ok (.bipush 6, 2) := by decide +kernel
theorem dX4_triplesWithWaiver_23 : decode cX4_triplesWithWaiver 23 = .ok (.iload_n 2, 1) := by decide +kernel
theorem dX4_triplesWithWaiver_24 : decode cX4_triplesWithWaiver 24 = .ok (.invokevirtual 61, 3) := by decide +kernel
theorem dX4_triplesWithWaiver_27 : decode cX4_triplesWithWaiver 27 = .ok (.aload_n 0, 1) := by decide +kernel
theorem dX4_triplesWithWaiver_28 : decode cX4_triplesWithWaiver 28 = .ok (.getfield 37, 3) := by decide +kernel
theorem dX4_triplesWithWaiver_31 : decode cX4_triplesWithWaiver 31 = .ok (.invokevirtual 146, 3) := by decide +kernel
theorem dX4_triplesWithWaiver_34 : decode cX4_triplesWithWaiver 34 = .ok (.ireturn, 1) := by decide +kernel
set_option maxRecDepth 20000 in
theorem ggX4_isIdle_X4_triplesWithout : GoodIn wsX4_isIdle wsX4_triplesWithout := goodIn_r _ [5, 6, 7, 8, 9, 10, 11, 12, 13, 14, 15, 16, 17, 18, 19, 20, 21, 4, 22, 23, 24, 25, 26, 27, 28, 29, 30, 31, 32, 33, 34, 35, 36, 37, 38, 39, 40, 41, 42, 43, 44, 45, 46, 47, 48, 49, 50, 51, 52, 53, 54, 55, 56, 57, 58, 59, 60, 61, 62, 63, 64, 65, 66, 67, 68, 69, 70, 71, 72, 73, 74, 75, 76, 77, 78, 79, 80, 81, 82, 83, 84, 85] (by decide +kernel) (by decide +kernel)
set_option maxRecDepth 20000 in
theorem gX4_isIdle_X4_triplesWithout : GoodIn wsX4_isIdle (wsV RX4 195 RX4 yX4_triplesWithout wsX4_triplesWithout) := goodIn_app (goodIn_of _ (by decide +kernel)) ggX4_isIdle_X4_triplesWithout
theorem dX4_isIdle_0 : decode cX4_isIdle 0 = .ok (.aload_n 0, 1) := by decide +kernel
theorem dX4_isIdle_1 : decode cX4_isIdle 1 = .ok (.iload_n 1, 1) := by decide +kernel
theorem dX4_isIdle_2 : decode cX4_isIdle 2 = .ok (.invokevirtual 195, 3) := by decide +kernel
theorem dX4_isIdle_5 : decode cX4_isIdle 5 = .ok (.iload_n 2, 1) := by decide +kernel
theorem dX4_isIdle_6 : decode cX4_isIdle 6 = .ok (.if_icmp .ne 7, 3) := by decide +kernel
theorem dX4_isIdle_9 : decode cX4_isIdle 9 = .ok (.iconst 1, 1) := by decide +kernel
theorem dX4_isIdle_10 : decode cX4_isIdle 10 = .ok (.goto 4, 3) := by decide +kernel
theorem dX4_isIdle_13 : decode cX4_isIdle 13 = .ok (.iconst 0, 1) := by decide +kernel
theorem dX4_isIdle_14 : decode cX4_isIdle 14 = .ok (.ireturn, 1) := by decide +kernel
set_option maxRecDepth 20000 in
theorem ggX4_firstIdle_X2_triples : GoodIn wsX4_firstIdle wsX2_triples := goodIn_r _ [8, 9, 10, 11, 7, 12, 13, 14, 15, 16, 17, 18, 19, 20, 21, 22, 23, 24, 25, 26, 27, 28, 29, 30, 31, 32, 33, 34, 35, 36, 84, 85, 86, 87, 88, 89, 90] (by decide +kernel) (by decide +kernel)
set_option maxRecDepth 20000 in
theorem gX4_firstIdle_X2_triples : GoodIn wsX4_firstIdle (wsV RX4 146 RX2 yX2_triples wsX2_triples) := goodIn_app (goodIn_of _ (by decide +kernel)) ggX4_firstIdle_X2_triples
set_option maxRecDepth 20000 in
theorem ggX4_firstIdle_X4_isIdle : GoodIn wsX4_firstIdle wsX4_isIdle := goodIn_r _ [41, 42, 43, 44, 40, 45, 46, 1, 2, 47, 48, 49, 7, 50, 36, 14, 51, 52, 27, 15, 13, 53, 54, 55, 56, 57, 58, 59, 60, 61, 62, 63, 64, 65, 66, 67, 68, 69, 70, 71, 72, 73, 74, 75, 4, 5, 6, 8, 9, 10, 11, 12, 16, 17, 18, 19, 20, 21, 22, 23, 24, 25, 26, 28, 29, 30, 31, 32, 33, 34, 35, 76, 77, 78, 79, 80, 81, 82, 83, 84, 85, 86, 87, 88, 89, 90] (by decide +kernel) (by decide +kernel)
set_option maxRecDepth 20000 in
theorem gX4_firstIdle_X4_isIdle : GoodIn wsX4_firstIdle (wsV RX4 149 RX4 yX4_isIdle wsX4_isIdle) := goodIn_app (goodIn_of _ (by decide +kernel)) ggX4_firstIdle_X4_isIdle
theorem dX4_firstIdle_0 : decode cX4_firstIdle 0 = .ok (.aload_n 0, 1) := by decide +kernel
theorem dX4_firstIdle_1 : decode cX4_firstIdle 1 = .ok (.getfield 12, 3) := by decide +kernel
theorem dX4_firstIdle_4 : decode cX4_firstIdle 4 = .ok (.getfield 52, 3) := by decide +kernel
theorem dX4_firstIdle_7 : decode cX4_firstIdle 7 = .ok (.invokevirtual 146, 3) := by decide +kernel
theorem dX4_firstIdle_10 : decode cX4_firstIdle 10 = .ok (.istore_n 1, 1) := by decide +kernel
theorem dX4_firstIdle_11 : decode cX4_firstIdle 11 = .ok (.iconst 0, 1) := by decide +kernel
theorem dX4_firstIdle_12 : decode cX4_firstIdle 12 = .ok (.istore_n 2, 1) := by decide +kernel
theorem dX4_firstIdle_13 : decode cX4_firstIdle 13 = .ok (.iload_n 2, 1) := by decide +kernel
theorem dX4_firstIdle_14 : decode cX4_firstIdle 14 = .ok (.aload_n 0, 1) := by decide +kernel
theorem dX4_firstIdle_15 : decode cX4_firstIdle 15 = .ok (.getfield 12, 3) := by decide +kernel
theorem dX4_firstIdle_18 : decode cX4_firstIdle 18 = .ok (.getfield 52, 3) := by decide +kernel
theorem dX4_firstIdle_21 : decode cX4_firstIdle 21 = .ok (.getfield 55, 3) := by decide +kernel
theorem dX4_firstIdle_24 : decode cX4_firstIdle 24 = .ok (.if_icmp .ge 20, 3) := by decide +kernel
theorem dX4_firstIdle_27 : decode cX4_firstIdle 27 = .ok (.aload_n 0, 1) := by decide +kernel
theorem dX4_firstIdle_28 : decode cX4_firstIdle 28 = .ok (.iload_n 2, 1) := by decide +kernel
theorem dX4_firstIdle_29 : decode cX4_firstIdle 29 = .ok (.iload_n 1, 1) := by decide +kernel
theorem dX4_firstIdle_30 : decode cX4_firstIdle 30 = .ok (.invokevirtual 149, 3) := by decide +kernel
theorem dX4_firstIdle_33 : decode cX4_firstIdle 33 = .ok (.ifCond .eq 5, 3) := by decide +kernel
theorem dX4_firstIdle_36 : decode cX4_firstIdle 36 = .ok (.iload_n 2, 1) := by decide +kernel
theorem dX4_firstIdle_37 : decode cX4_firstIdle 37 = .ok (.ireturn, 1) := by decide +kernel
theorem dX4_firstIdle_38 : decode cX4_firstIdle 38 = .ok (.iinc 2 1, 3) := by decide +kernel
theorem dX4_firstIdle_41 : decode cX4_firstIdle 41 = .ok (.goto (-28), 3) := by decide +kernel
theorem dX4_firstIdle_44 : decode cX4_firstIdle 44 = .ok (.bipush (-6), 2) := by decide +kernel
theorem dX4_firstIdle_46 : decode cX4_firstIdle 46 = .ok (.ireturn, 1) := by decide +kernel
set_option maxRecDepth 20000 in
theorem ggX4_idleRules_X2_triples : GoodIn wsX4_idleRules wsX2_triples := goodIn_r _ [8, 9, 10, 11, 7, 12, 13, 14, 15, 16, 17, 18, 19, 20, 21, 22, 23, 24, 25, 26, 27, 28, 29, 30, 31, 32, 33, 34, 35, 36, 84, 85, 86, 87, 88, 89, 90] (by decide +kernel) (by decide +kernel)
set_option maxRecDepth 20000 in
theorem gX4_idleRules_X2_triples : GoodIn wsX4_idleRules (wsV RX4 146 RX2 yX2_triples wsX2_triples) := goodIn_app (goodIn_of _ (by decide +kernel)) ggX4_idleRules_X2_triples
set_option maxRecDepth 20000 in
theorem ggX4_idleRules_X4_isIdle : GoodIn wsX4_idleRules wsX4_isIdle := goodIn_r _ [41, 42, 43, 44, 40, 45, 46, 1, 2, 47, 48, 49, 7, 50, 36, 14, 51, 52, 27, 15, 13, 53, 54, 55, 56, 57, 58, 59, 60, 61, 62, 63, 64, 65, 66, 67, 68, 69, 70, 71, 72, 73, 74, 75, 4, 5, 6, 8, 9, 10, 11, 12, 16, 17, 18, 19, 20, 21, 22, 23, 24, 25, 26, 28, 29, 30, 31, 32, 33, 34, 35, 76, 77, 78, 79, 80, 81, 82, 83, 84, 85, 86, 87, 88, 89, 90] (by decide +kernel) (by decide +kernel)
set_option maxRecDepth 20000 in
theorem gX4_idleRules_X4_isIdle : GoodIn wsX4_idleRules (wsV RX4 149 RX4 yX4_isIdle wsX4_isIdle) := goodIn_app (goodIn_of _ (by decide +kernel)) ggX4_idleRules_X4_isIdle
theorem dX4_idleRules_0 : decode cX4_idleRules 0 = .ok (.aload_n 0, 1) := by decide +kernel
theorem dX4_idleRules_1 : decode cX4_idleRules 1 = .ok (.getfield 12, 3) := by decide +kernel
theorem dX4_idleRules_4 : decode cX4_idleRules 4 = .ok (.getfield 52, 3) := by decide +kernel
theorem dX4_idleRules_7 : decode cX4_idleRules 7 = .ok (.invokevirtual 146, 3) := by decide +kernel
theorem dX4_idleRules_10 : decode cX4_idleRules 10 = .ok (.istore_n 1, 1) := by decide +kernel
theorem dX4_idleRules_11 : decode cX4_idleRules 11 = .ok (.iconst 0, 1) := by decide +kernel
theorem dX4_idleRules_12 : decode cX4_idleRules 12 = .ok (.istore_n 2, 1) := by decide +kernel
theorem dX4_idleRules_13 : decode cX4_idleRules 13 = .ok (.iconst 0, 1) := by decide +kernel
theorem dX4_idleRules_14 : decode cX4_idleRules 14 = .ok (.istore_n 3, 1) := by decide +kernel
theorem dX4_idleRules_15 : decode cX4_idleRules 15 = .ok (.iload_n 3, 1) := by decide +kernel
theorem dX4_idleRules_16 : decode cX4_idleRules 16 = .ok (.aload_n 0, 1) := by decide +kernel
theorem dX4_idleRules_17 : decode cX4_idleRules 17 = .ok (.getfield 12, 3) := by decide +kernel
theorem dX4_idleRules_20 : decode cX4_idleRules 20 = .ok (.getfield 52, 3) := by decide +kernel
theorem dX4_idleRules_23 : decode cX4_idleRules 23 = .ok (.getfield 55, 3) := by decide +kernel
theorem dX4_idleRules_26 : decode cX4_idleRules 26 = .ok (.if_icmp .ge 21, 3) := by decide +kernel
theorem dX4_idleRules_29 : decode cX4_idleRules 29 = .ok (.aload_n 0, 1) := by decide +kernel
theorem dX4_idleRules_30 : decode cX4_idleRules 30 = .ok (.iload_n 3, 1) := by decide +kernel
theorem dX4_idleRules_31 : decode cX4_idleRules 31 = .ok (.iload_n 1, 1) := by decide +kernel
theorem dX4_idleRules_32 : decode cX4_idleRules 32 = .ok (.invokevirtual 149, 3) := by decide +kernel
theorem dX4_idleRules_35 : decode cX4_idleRules 35 = .ok (.ifCond .eq 6, 3) := by decide +kernel
theorem dX4_idleRules_38 : decode cX4_idleRules 38 = .ok (.iinc 2 1, 3) := by decide +kernel
theorem dX4_idleRules_41 : decode cX4_idleRules 41 = .ok (.iinc 3 1, 3) := by decide +kernel
theorem dX4_idleRules_44 : decode cX4_idleRules 44 = .ok (.goto (-29), 3) := by decide +kernel
theorem dX4_idleRules_47 : decode cX4_idleRules 47 = .ok (.iload_n 2, 1) := by decide +kernel
theorem dX4_idleRules_48 : decode cX4_idleRules 48 = .ok (.ireturn, 1) := by decide +kernel
set_option maxRecDepth 20000 in
theorem ggX4_deedsAllowed_X2_allowedPairs : GoodIn wsX4_deedsAllowed wsX2_allowedPairs := goodIn_r _ [7, 8, 9, 10, 6, 11, 12, 13, 14, 15, 16, 17, 18, 19, 20, 21, 22, 23, 24, 25, 26, 27, 28, 37, 38, 39, 40, 41, 42, 43] (by decide +kernel) (by decide +kernel)
set_option maxRecDepth 20000 in
theorem gX4_deedsAllowed_X2_allowedPairs : GoodIn wsX4_deedsAllowed (wsV RX4 221 RX2 yX2_allowedPairs wsX2_allowedPairs) := goodIn_app (goodIn_of _ (by decide +kernel)) ggX4_deedsAllowed_X2_allowedPairs
theorem dX4_deedsAllowed_0 : decode cX4_deedsAllowed 0 = .ok (.aload_n 0, 1) := by decide +kernel
theorem dX4_deedsAllowed_1 : decode cX4_deedsAllowed 1 = .ok (.getfield 12, 3) := by decide +kernel
theorem dX4_deedsAllowed_4 : decode cX4_deedsAllowed 4 = .ok (.getfield 52, 3) := by decide +kernel
theorem dX4_deedsAllowed_7 : decode cX4_deedsAllowed 7 = .ok (.iload_n 2, 1) := by decide +kernel
theorem dX4_deedsAllowed_8 : decode cX4_deedsAllowed 8 = .ok (.invokevirtual 221, 3) := by decide +kernel
theorem dX4_deedsAllowed_11 : decode cX4_deedsAllowed 11 = .ok (.iload_n 1, 1) := by decide +kernel
theorem dX4_deedsAllowed_12 : decode cX4_deedsAllowed 12 = .ok (.bipush 6, 2) := by decide +kernel
theorem dX4_deedsAllowed_14 : decode cX4_deedsAllowed 14 = .ok (.imul, 1) := by decide +kernel
theorem dX4_deedsAllowed_15 : decode cX4_deedsAllowed 15 = .ok (.ishr, 1) := by decide +kernel
theorem dX4_deedsAllowed_16 : decode cX4_deedsAllowed 16 = .ok (.bipush 63, 2) := by decide +kernel
theorem dX4_deedsAllowed_18 : decode cX4_deedsAllowed 18 = .ok (.iand, 1) := by decide +kernel
theorem dX4_deedsAllowed_19 : decode cX4_deedsAllowed 19 = .ok (.ireturn, 1) := by decide +kernel
theorem dX4_isBetween_0 : decode cX4_isBetween 0 = .ok (.iload_n 0, 1) := by decide +kernel
theorem dX4_isBetween_1 : decode cX4_isBetween 1 = .ok (.iload_n 1, 1) := by decide +kernel
theorem dX4_isBetween_2 : decode cX4_isBetween 2 = .ok (.if_icmp .lt 12, 3) := by decide +kernel
theorem dX4_isBetween_5 : decode cX4_isBetween 5 = .ok (.iload_n 0, 1) := by decide +kernel
theorem dX4_isBetween_6 : decode cX4_isBetween 6 = .ok (.iload_n 2, 1) := by decide +kernel
theorem dX4_isBetween_7 : decode cX4_isBetween 7 = .ok (.if_icmp .gt 7, 3) := by decide +kernel
theorem dX4_isBetween_10 : decode cX4_isBetween 10 = .ok (.iconst 1, 1) := by decide +kernel
theorem dX4_isBetween_11 : decode cX4_isBetween 11 = .ok (.goto 4, 3) := by decide +kernel
theorem dX4_isBetween_14 : decode cX4_isBetween 14 = .ok (.iconst 0, 1) := by decide +kernel
theorem dX4_isBetween_15 : decode cX4_isBetween 15 = .ok (.ireturn, 1) := by decide +kernel
set_option maxRecDepth 20000 in
theorem ggX4_isLayer_X4_isBetween : GoodIn wsX4_isLayer wsX4_isBetween := goodIn_r _ [4] (by decide +kernel) (by decide +kernel)
set_option maxRecDepth 20000 in
theorem gX4_isLayer_X4_isBetween : GoodIn wsX4_isLayer (va_wsS RX4 45 yX4_isBetween wsX4_isBetween) := goodIn_app (goodIn_of _ (by decide +kernel)) ggX4_isLayer_X4_isBetween
theorem dX4_isLayer_0 : decode cX4_isLayer 0 = .ok (.iload_n 0, 1) := by decide +kernel
theorem dX4_isLayer_1 : decode cX4_isLayer 1 = .ok (.iconst 0, 1) := by decide +kernel
theorem dX4_isLayer_2 : decode cX4_isLayer 2 = .ok (.iconst 4, 1) := by decide +kernel
theorem dX4_isLayer_3 : decode cX4_isLayer 3 = .ok (.invokestatic 45, 3) := by decide +kernel
theorem dX4_isLayer_6 : decode cX4_isLayer 6 = .ok (.ireturn, 1) := by decide +kernel
set_option maxRecDepth 20000 in
theorem ggX4_isCraft_X4_isBetween : GoodIn wsX4_isCraft wsX4_isBetween := goodIn_r _ [4] (by decide +kernel) (by decide +kernel)
set_option maxRecDepth 20000 in
theorem gX4_isCraft_X4_isBetween : GoodIn wsX4_isCraft (va_wsS RX4 45 yX4_isBetween wsX4_isBetween) := goodIn_app (goodIn_of _ (by decide +kernel)) ggX4_isCraft_X4_isBetween
theorem dX4_isCraft_0 : decode cX4_isCraft 0 = .ok (.iload_n 0, 1) := by decide +kernel
theorem dX4_isCraft_1 : decode cX4_isCraft 1 = .ok (.iconst 0, 1) := by decide +kernel
theorem dX4_isCraft_2 : decode cX4_isCraft 2 = .ok (.iconst 4, 1) := by decide +kernel
theorem dX4_isCraft_3 : decode cX4_isCraft 3 = .ok (.invokestatic 45, 3) := by decide +kernel
theorem dX4_isCraft_6 : decode cX4_isCraft 6 = .ok (.ireturn, 1) := by decide +kernel
set_option maxRecDepth 20000 in
theorem ggX4_isDeed_X4_isBetween : GoodIn wsX4_isDeed wsX4_isBetween := goodIn_r _ [4] (by decide +kernel) (by decide +kernel)
set_option maxRecDepth 20000 in
theorem gX4_isDeed_X4_isBetween : GoodIn wsX4_isDeed (va_wsS RX4 45 yX4_isBetween wsX4_isBetween) := goodIn_app (goodIn_of _ (by decide +kernel)) ggX4_isDeed_X4_isBetween
theorem dX4_isDeed_0 : decode cX4_isDeed 0 = .ok (.iload_n 0, 1) := by decide +kernel
theorem dX4_isDeed_1 : decode cX4_isDeed 1 = .ok (.iconst 0, 1) := by decide +kernel
theorem dX4_isDeed_2 : decode cX4_isDeed 2 = .ok (.iconst 5, 1) := by decide +kernel
theorem dX4_isDeed_3 : decode cX4_isDeed 3 = .ok (.invokestatic 45, 3) := by decide +kernel
theorem dX4_isDeed_6 : decode cX4_isDeed 6 = .ok (.ireturn, 1) := by decide +kernel
set_option maxRecDepth 20000 in
theorem ggX4_isSeal_X4_isBetween : GoodIn wsX4_isSeal wsX4_isBetween := goodIn_r _ [4] (by decide +kernel) (by decide +kernel)
set_option maxRecDepth 20000 in
theorem gX4_isSeal_X4_isBetween : GoodIn wsX4_isSeal (va_wsS RX4 45 yX4_isBetween wsX4_isBetween) := goodIn_app (goodIn_of _ (by decide +kernel)) ggX4_isSeal_X4_isBetween
theorem dX4_isSeal_0 : decode cX4_isSeal 0 = .ok (.iload_n 0, 1) := by decide +kernel
theorem dX4_isSeal_1 : decode cX4_isSeal 1 = .ok (.iconst 1, 1) := by decide +kernel
theorem dX4_isSeal_2 : decode cX4_isSeal 2 = .ok (.bipush 9, 2) := by decide +kernel
theorem dX4_isSeal_4 : decode cX4_isSeal 4 = .ok (.invokestatic 45, 3) := by decide +kernel
theorem dX4_isSeal_7 : decode cX4_isSeal 7 = .ok (.ireturn, 1) := by decide +kernel
set_option maxRecDepth 20000 in
theorem ggX4_isRank_X4_isBetween : GoodIn wsX4_isRank wsX4_isBetween := goodIn_r _ [4] (by decide +kernel) (by decide +kernel)
set_option maxRecDepth 20000 in
theorem gX4_isRank_X4_isBetween : GoodIn wsX4_isRank (va_wsS RX4 45 yX4_isBetween wsX4_isBetween) := goodIn_app (goodIn_of _ (by decide +kernel)) ggX4_isRank_X4_isBetween
theorem dX4_isRank_0 : decode cX4_isRank 0 = .ok (.iload_n 0, 1) := by decide +kernel
theorem dX4_isRank_1 : decode cX4_isRank 1 = .ok (.iconst 0, 1) := by decide +kernel
theorem dX4_isRank_2 : decode cX4_isRank 2 = .ok (.bipush 9, 2) := by decide +kernel
theorem dX4_isRank_4 : decode cX4_isRank 4 = .ok (.invokestatic 45, 3) := by decide +kernel
theorem dX4_isRank_7 : decode cX4_isRank 7 = .ok (.ireturn, 1) := by decide +kernel
theorem dX4_pairsOf_0 : decode cX4_pairsOf 0 = .ok (.iload_n 1, 1) := by decide +kernel
theorem dX4_pairsOf_1 : decode cX4_pairsOf 1 = .ok (.bipush 6, 2) := by decide +kernel
theorem dX4_pairsOf_3 : decode cX4_pairsOf 3 = .ok (.if_icmp .ne 8, 3) := by decide +kernel
theorem dX4_pairsOf_6 : decode cX4_pairsOf 6 = .ok (.bipush 63, 2) := by decide +kernel
theorem dX4_pairsOf_8 : decode cX4_pairsOf 8 = .ok (.goto 6, 3) := by decide +kernel
theorem dX4_pairsOf_11 : decode cX4_pairsOf 11 = .ok (.iconst 1, 1) := by decide +kernel
theorem dX4_pairsOf_12 : decode cX4_pairsOf 12 = .ok (.iload_n 1, 1) := by decide +kernel
theorem dX4_pairsOf_13 : decode cX4_pairsOf 13 = .ok (.ishl, 1) := by decide +kernel
theorem dX4_pairsOf_14 : decode cX4_pairsOf 14 = .ok (.istore_n 2, 1) := by decide +kernel
theorem dX4_pairsOf_15 : decode cX4_pairsOf 15 = .ok (.iload_n 0, 1) := by decide +kernel
theorem dX4_pairsOf_16 : decode cX4_pairsOf 16 = .ok (.iconst 5, 1) := by decide +kernel
theorem dX4_pairsOf_17 : decode cX4_pairsOf 17 = .ok (.if_icmp .eq 10, 3) := by decide +kernel
theorem dX4_pairsOf_20 : decode cX4_pairsOf 20 = .ok (.iload_n 2, 1) := by decide +kernel
theorem dX4_pairsOf_21 : decode cX4_pairsOf 21 = .ok (.iload_n 0, 1) := by decide +kernel
theorem dX4_pairsOf_22 : decode cX4_pairsOf 22 = .ok (.bipush 6, 2) := by decide +kernel
theorem dX4_pairsOf_24 : decode cX4_pairsOf 24 = .ok (.imul, 1) := by decide +kernel
theorem dX4_pairsOf_25 : decode cX4_pairsOf 25 = .ok (.ishl, 1) := by decide +kernel
theorem dX4_pairsOf_26 : decode cX4_pairsOf 26 = .ok (.ireturn, 1) := by decide +kernel
theorem dX4_pairsOf_27 : decode cX4_pairsOf 27 = .ok (.iconst 0, 1) := by decide +kernel
theorem dX4_pairsOf_28 : decode cX4_pairsOf 28 = .ok (.istore_n 3, 1) := by decide +kernel
theorem dX4_pairsOf_29 : decode cX4_pairsOf 29 = .ok (.iconst 0, 1) := by decide +kernel
theorem dX4_pairsOf_30 : decode cX4_pairsOf 30 = .ok (.istore 4, 2) := by decide +kernel
theorem dX4_pairsOf_32 : decode cX4_pairsOf 32 = .ok (.iload 4, 2) := by decide +kernel
theorem dX4_pairsOf_34 : decode cX4_pairsOf 34 = .ok (.iconst 5, 1) := by decide +kernel
theorem dX4_pairsOf_35 : decode cX4_pairsOf 35 = .ok (.if_icmp .ge 19, 3) := by decide +kernel
theorem dX4_pairsOf_38 : decode cX4_pairsOf 38 = .ok (.iload_n 3, 1) := by decide +kernel
theorem dX4_pairsOf_39 : decode cX4_pairsOf 39 = .ok (.iload_n 2, 1) := by decide +kernel
theorem dX4_pairsOf_40 : decode cX4_pairsOf 40 = .ok (.iload 4, 2) := by decide +kernel
theorem dX4_pairsOf_42 : decode cX4_pairsOf 42 = .ok (.bipush 6, 2) := by decide +kernel
theorem dX4_pairsOf_44 : decode cX4_pairsOf 44 = .ok (.imul, 1) := by decide +kernel
theorem dX4_pairsOf_45 : decode cX4_pairsOf 45 = .ok (.ishl, 1) := by decide +kernel
theorem dX4_pairsOf_46 : decode cX4_pairsOf 46 = .ok (.ior, 1) := by decide +kernel
theorem dX4_pairsOf_47 : decode cX4_pairsOf 47 = .ok (.istore_n 3, 1) := by decide +kernel
theorem dX4_pairsOf_48 : decode cX4_pairsOf 48 = .ok (.iinc 4 1, 3) := by decide +kernel
theorem dX4_pairsOf_51 : decode cX4_pairsOf 51 = .ok (.goto (-19), 3) := by decide +kernel
theorem dX4_pairsOf_54 : decode cX4_pairsOf 54 = .ok (.iload_n 3, 1) := by decide +kernel
theorem dX4_pairsOf_55 : decode cX4_pairsOf 55 = .ok (.ireturn, 1) := by decide +kernel
theorem dX4_closeGap_0 : decode cX4_closeGap 0 = .ok (.iload_n 1, 1) := by decide +kernel
theorem dX4_closeGap_1 : decode cX4_closeGap 1 = .ok (.iconst 0, 1) := by decide +kernel
theorem dX4_closeGap_2 : decode cX4_closeGap 2 = .ok (.invokestatic 224, 3) := by decide +kernel
theorem dX4_closeGap_5 : decode cX4_closeGap 5 = .ok (.istore_n 2, 1) := by decide +kernel
theorem dX4_closeGap_6 : decode cX4_closeGap 6 = .ok (.iload_n 2, 1) := by decide +kernel
theorem dX4_closeGap_7 : decode cX4_closeGap 7 = .ok (.aload_n 0, 1) := by decide +kernel
theorem dX4_closeGap_8 : decode cX4_closeGap 8 = .ok (.arraylength, 1) := by decide +kernel
theorem dX4_closeGap_9 : decode cX4_closeGap 9 = .ok (.iconst 1, 1) := by decide +kernel
theorem dX4_closeGap_10 : decode cX4_closeGap 10 = .ok (.isub, 1) := by decide +kernel
theorem dX4_closeGap_11 : decode cX4_closeGap 11 = .ok (.if_icmp .ge 17, 3) := by decide +kernel
theorem dX4_closeGap_14 : decode cX4_closeGap 14 = .ok (.aload_n 0, 1) := by decide +kernel
theorem dX4_closeGap_15 : decode cX4_closeGap 15 = .ok (.iload_n 2, 1) := by decide +kernel
theorem dX4_closeGap_16 : decode cX4_closeGap 16 = .ok (.aload_n 0, 1) := by decide +kernel
theorem dX4_closeGap_17 : decode cX4_closeGap 17 = .ok (.iload_n 2, 1) := by decide +kernel
theorem dX4_closeGap_18 : decode cX4_closeGap 18 = .ok (.iconst 1, 1) := by decide +kernel
theorem dX4_closeGap_19 : decode cX4_closeGap 19 = .ok (.iadd, 1) := by decide +kernel
theorem dX4_closeGap_20 : decode cX4_closeGap 20 = .ok (.iaload, 1) := by decide +kernel
theorem dX4_closeGap_21 : decode cX4_closeGap 21 = .ok (.iastore, 1) := by decide +kernel
theorem dX4_closeGap_22 : decode cX4_closeGap 22 = .ok (.iinc 2 1, 3) := by decide +kernel
theorem dX4_closeGap_25 : decode cX4_closeGap 25 = .ok (.goto (-19), 3) := by decide +kernel
theorem dX4_closeGap_28 : decode cX4_closeGap 28 = .ok (.return_, 1) := by decide +kernel
theorem dX4_copyRow_0 : decode cX4_copyRow 0 = .ok (.aload_n 0, 1) := by decide +kernel
theorem dX4_copyRow_1 : decode cX4_copyRow 1 = .ok (.iconst 0, 1) := by decide +kernel
theorem dX4_copyRow_2 : decode cX4_copyRow 2 = .ok (.aload_n 1, 1) := by decide +kernel
theorem dX4_copyRow_3 : decode cX4_copyRow 3 = .ok (.iconst 0, 1) := by decide +kernel
theorem dX4_copyRow_4 : decode cX4_copyRow 4 = .ok (.aload_n 0, 1) := by decide +kernel
theorem dX4_copyRow_5 : decode cX4_copyRow 5 = .ok (.arraylength, 1) := by decide +kernel
theorem dX4_copyRow_6 : decode cX4_copyRow 6 = .ok (.aload_n 1, 1) := by decide +kernel
theorem dX4_copyRow_7 : decode cX4_copyRow 7 = .ok (.arraylength, 1) := by decide +kernel
theorem dX4_copyRow_8 : decode cX4_copyRow 8 = .ok (.invokestatic 229, 3) := by decide +kernel
theorem dX4_copyRow_11 : decode cX4_copyRow 11 = .ok (.invokestatic 232, 3) := by decide +kernel
theorem dX4_copyRow_14 : decode cX4_copyRow 14 = .ok (.return_, 1) := by decide +kernel
theorem dJ6_bitCount_0f7a4_0 : decode cJ6_bitCount_0f7a4 0 = .ok (.iload_n 0, 1) := by decide +kernel
theorem dJ6_bitCount_0f7a4_1 : decode cJ6_bitCount_0f7a4 1 = .ok (.iload_n 0, 1) := by decide +kernel
theorem dJ6_bitCount_0f7a4_2 : decode cJ6_bitCount_0f7a4 2 = .ok (.iconst 1, 1) := by decide +kernel
theorem dJ6_bitCount_0f7a4_3 : decode cJ6_bitCount_0f7a4 3 = .ok (.iushr, 1) := by decide +kernel
theorem dJ6_bitCount_0f7a4_4 : decode cJ6_bitCount_0f7a4 4 = .ok (.ldc_w 265, 3) := by decide +kernel
theorem dJ6_bitCount_0f7a4_7 : decode cJ6_bitCount_0f7a4 7 = .ok (.iand, 1) := by decide +kernel
theorem dJ6_bitCount_0f7a4_8 : decode cJ6_bitCount_0f7a4 8 = .ok (.isub, 1) := by decide +kernel
theorem dJ6_bitCount_0f7a4_9 : decode cJ6_bitCount_0f7a4 9 = .ok (.istore_n 0, 1) := by decide +kernel
theorem dJ6_bitCount_0f7a4_10 : decode cJ6_bitCount_0f7a4 10 = .ok (.iload_n 0, 1) := by decide +kernel
theorem dJ6_bitCount_0f7a4_11 : decode cJ6_bitCount_0f7a4 11 = .ok (.ldc_w 266, 3) := by decide +kernel
theorem dJ6_bitCount_0f7a4_14 : decode cJ6_bitCount_0f7a4 14 = .ok (.iand, 1) := by decide +kernel
theorem dJ6_bitCount_0f7a4_15 : decode cJ6_bitCount_0f7a4 15 = .ok (.iload_n 0, 1) := by decide +kernel
theorem dJ6_bitCount_0f7a4_16 : decode cJ6_bitCount_0f7a4 16 = .ok (.iconst 2, 1) := by decide +kernel
theorem dJ6_bitCount_0f7a4_17 : decode cJ6_bitCount_0f7a4 17 = .ok (.iushr, 1) := by decide +kernel
theorem dJ6_bitCount_0f7a4_18 : decode cJ6_bitCount_0f7a4 18 = .ok (.ldc_w 266, 3) := by decide +kernel
theorem dJ6_bitCount_0f7a4_21 : decode cJ6_bitCount_0f7a4 21 = .ok (.iand, 1) := by decide +kernel
theorem dJ6_bitCount_0f7a4_22 : decode cJ6_bitCount_0f7a4 22 = .ok (.iadd, 1) := by decide +kernel
theorem dJ6_bitCount_0f7a4_23 : decode cJ6_bitCount_0f7a4 23 = .ok (.istore_n 0, 1) := by decide +kernel
theorem dJ6_bitCount_0f7a4_24 : decode cJ6_bitCount_0f7a4 24 = .ok (.iload_n 0, 1) := by decide +kernel
theorem dJ6_bitCount_0f7a4_25 : decode cJ6_bitCount_0f7a4 25 = .ok (.iload_n 0, 1) := by decide +kernel
theorem dJ6_bitCount_0f7a4_26 : decode cJ6_bitCount_0f7a4 26 = .ok (.iconst 4, 1) := by decide +kernel
theorem dJ6_bitCount_0f7a4_27 : decode cJ6_bitCount_0f7a4 27 = .ok (.iushr, 1) := by decide +kernel
theorem dJ6_bitCount_0f7a4_28 : decode cJ6_bitCount_0f7a4 28 = .ok (.iadd, 1) := by decide +kernel
theorem dJ6_bitCount_0f7a4_29 : decode cJ6_bitCount_0f7a4 29 = .ok (.ldc_w 267, 3) := by decide +kernel
theorem dJ6_bitCount_0f7a4_32 : decode cJ6_bitCount_0f7a4 32 = .ok (.iand, 1) := by decide +kernel
theorem dJ6_bitCount_0f7a4_33 : decode cJ6_bitCount_0f7a4 33 = .ok (.istore_n 0, 1) := by decide +kernel
theorem dJ6_bitCount_0f7a4_34 : decode cJ6_bitCount_0f7a4 34 = .ok (.iload_n 0, 1) := by decide +kernel
theorem dJ6_bitCount_0f7a4_35 : decode cJ6_bitCount_0f7a4 35 = .ok (.iload_n 0, 1) := by decide +kernel
theorem dJ6_bitCount_0f7a4_36 : decode cJ6_bitCount_0f7a4 36 = .ok (.bipush 8, 2) := by decide +kernel
theorem dJ6_bitCount_0f7a4_38 : decode cJ6_bitCount_0f7a4 38 = .ok (.iushr, 1) := by decide +kernel
theorem dJ6_bitCount_0f7a4_39 : decode cJ6_bitCount_0f7a4 39 = .ok (.iadd, 1) := by decide +kernel
theorem dJ6_bitCount_0f7a4_40 : decode cJ6_bitCount_0f7a4 40 = .ok (.istore_n 0, 1) := by decide +kernel
theorem dJ6_bitCount_0f7a4_41 : decode cJ6_bitCount_0f7a4 41 = .ok (.iload_n 0, 1) := by decide +kernel
theorem dJ6_bitCount_0f7a4_42 : decode cJ6_bitCount_0f7a4 42 = .ok (.iload_n 0, 1) := by decide +kernel
theorem dJ6_bitCount_0f7a4_43 : decode cJ6_bitCount_0f7a4 43 = .ok (.bipush 16, 2) := by decide +kernel
theorem dJ6_bitCount_0f7a4_45 : decode cJ6_bitCount_0f7a4 45 = .ok (.iushr, 1) := by decide +kernel
theorem dJ6_bitCount_0f7a4_46 : decode cJ6_bitCount_0f7a4 46 = .ok (.iadd, 1) := by decide +kernel
theorem dJ6_bitCount_0f7a4_47 : decode cJ6_bitCount_0f7a4 47 = .ok (.istore_n 0, 1) := by decide +kernel
theorem dJ6_bitCount_0f7a4_48 : decode cJ6_bitCount_0f7a4 48 = .ok (.iload_n 0, 1) := by decide +kernel
theorem dJ6_bitCount_0f7a4_49 : decode cJ6_bitCount_0f7a4 49 = .ok (.bipush 63, 2) := by decide +kernel
theorem dJ6_bitCount_0f7a4_51 : decode cJ6_bitCount_0f7a4 51 = .ok (.iand, 1) := by decide +kernel
theorem dJ6_bitCount_0f7a4_52 : decode cJ6_bitCount_0f7a4 52 = .ok (.ireturn, 1) := by decide +kernel
theorem dJ9_max_7cf53_0 : decode cJ9_max_7cf53 0 = .ok (.iload_n 0, 1) := by decide +kernel
theorem dJ9_max_7cf53_1 : decode cJ9_max_7cf53 1 = .ok (.iload_n 1, 1) := by decide +kernel
theorem dJ9_max_7cf53_2 : decode cJ9_max_7cf53 2 = .ok (.if_icmp .lt 7, 3) := by decide +kernel
theorem dJ9_max_7cf53_5 : decode cJ9_max_7cf53 5 = .ok (.iload_n 0, 1) := by decide +kernel
theorem dJ9_max_7cf53_6 : decode cJ9_max_7cf53 6 = .ok (.goto 4, 3) := by decide +kernel
theorem dJ9_max_7cf53_9 : decode cJ9_max_7cf53 9 = .ok (.iload_n 1, 1) := by decide +kernel
theorem dJ9_max_7cf53_10 : decode cJ9_max_7cf53 10 = .ok (.ireturn, 1) := by decide +kernel
theorem dJ9_min_7cf53_0 : decode cJ9_min_7cf53 0 = .ok (.iload_n 0, 1) := by decide +kernel
theorem dJ9_min_7cf53_1 : decode cJ9_min_7cf53 1 = .ok (.iload_n 1, 1) := by decide +kernel
theorem dJ9_min_7cf53_2 : decode cJ9_min_7cf53 2 = .ok (.if_icmp .gt 7, 3) := by decide +kernel
theorem dJ9_min_7cf53_5 : decode cJ9_min_7cf53 5 = .ok (.iload_n 0, 1) := by decide +kernel
theorem dJ9_min_7cf53_6 : decode cJ9_min_7cf53 6 = .ok (.goto 4, 3) := by decide +kernel
theorem dJ9_min_7cf53_9 : decode cJ9_min_7cf53 9 = .ok (.iload_n 1, 1) := by decide +kernel
theorem dJ9_min_7cf53_10 : decode cJ9_min_7cf53 10 = .ok (.ireturn, 1) := by decide +kernel
abbrev vwCl : List vw_C := [(RX0, TX0, 7), (RX1, TX1, 2), (RX2, TX2, 7), (RX3, TX3, 2), (RX4, TX4, 6)]
end
section
def RL : String := "LayeredChartersLaw"
abbrev cL_cell : ByteArray := method_2_code
def yL_cell : MethodName := ⟨RL, "cell", "([II)I"⟩
abbrev cL_low : ByteArray := method_3_code
def yL_low : MethodName := ⟨RL, "low", "(II)I"⟩
abbrev cL_change : ByteArray := method_4_code
def yL_change : MethodName := ⟨RL, "change", "(LLayeredCharters;[IIII)Z"⟩
abbrev cL_acts : ByteArray := method_5_code
def yL_acts : MethodName := ⟨RL, "acts", "(LLayeredCharters;[III)Z"⟩
abbrev cL_fits : ByteArray := method_6_code
def yL_fits : MethodName := ⟨RL, "fits", "([III)Z"⟩
abbrev cL_why : ByteArray := method_7_code
def yL_why : MethodName := ⟨RL, "why", "(LLayeredCharters;IIII)I"⟩
abbrev cL_read : ByteArray := method_8_code
def yL_read : MethodName := ⟨RL, "read", "(LLayeredCharters;I[I)V"⟩
abbrev cL_holds : ByteArray := method_9_code
def yL_holds : MethodName := ⟨RL, "holds", "(LLayeredCharters;[II)Z"⟩
abbrev cL_tries : ByteArray := method_10_code
def yL_tries : MethodName := ⟨RL, "tries", "(LLayeredCharters;I)Z"⟩
abbrev cL_law : ByteArray := code
def yL_law : MethodName := ⟨RL, "law", "([I)Z"⟩
def wsL_cell : List Cond := .code yL_cell cL_cell 2 (some .int) :: ([.constant RL 7 (40503)])
def wsL_low : List Cond := .code yL_low cL_low 2 (some .int) :: ([.constant RL 8 (2147483647)])
def wsL_acts_r1 : List Cond := [Cond.methodLink RL 44 yX4_member, Cond.instanceMethod yX4_member, Cond.selects RX4 yX4_member yX4_member, Cond.initialized RX4, Cond.code yX4_member cX4_member 3 (some .int), Cond.fieldLink RX4 12 "LayeredCharters" "now" "LLayeredCharters$State;", Cond.fieldLink RX4 105 "LayeredCharters$State" "guild" "LLayeredCharters$Guild;", Cond.fieldLink RX4 126 "LayeredCharters$Guild" "crafts" "[I", Cond.fieldLink RX4 120 "LayeredCharters$Guild" "ranks" "[I", Cond.fieldLink RX4 116 "LayeredCharters$Guild" "done" "[I", Cond.fieldLink RX4 168 "LayeredCharters$Guild" "refused" "[I", Cond.methodLink RX4 115 yX0_has, Cond.instanceMethod yX0_has, Cond.selects RX0 yX0_has yX0_has, Cond.initialized RX0, Cond.code yX0_has cX0_has 2 (some .boolean), Cond.fieldLink RX0 27 "LayeredCharters$Guild" "size" "I", Cond.methodLink RX4 165 yX4_deedsAllowed, Cond.instanceMethod yX4_deedsAllowed, Cond.selects RX4 yX4_deedsAllowed yX4_deedsAllowed, Cond.code yX4_deedsAllowed cX4_deedsAllowed 3 (some .int), Cond.fieldLink RX4 52 "LayeredCharters$State" "rules" "LLayeredCharters$Rules;", Cond.methodLink RX4 221 yX2_allowedPairs, Cond.instanceMethod yX2_allowedPairs]
def wsL_acts_r2 : List Cond := [Cond.selects RX2 yX2_allowedPairs yX2_allowedPairs, Cond.initialized RX2, Cond.code yX2_allowedPairs cX2_allowedPairs 4 (some .int), Cond.methodLink RX2 58 yX2_permittedPairs, Cond.instanceMethod yX2_permittedPairs, Cond.selects RX2 yX2_permittedPairs yX2_permittedPairs, Cond.code yX2_permittedPairs cX2_permittedPairs 3 (some .int), Cond.fieldLink RX2 30 "LayeredCharters$Rules" "size" "I", Cond.fieldLink RX2 15 "LayeredCharters$Rules" "kinds" "[I", Cond.fieldLink RX2 27 "LayeredCharters$Rules" "pairs" "[I", Cond.methodLink RX2 74 yX2_heldPairsOfSeal, Cond.instanceMethod yX2_heldPairsOfSeal, Cond.selects RX2 yX2_heldPairsOfSeal yX2_heldPairsOfSeal, Cond.code yX2_heldPairsOfSeal cX2_heldPairsOfSeal 4 (some .int), Cond.fieldLink RX2 24 "LayeredCharters$Rules" "seals" "[I", Cond.methodLink RX2 62 yX2_heldPairs, Cond.instanceMethod yX2_heldPairs, Cond.selects RX2 yX2_heldPairs yX2_heldPairs, Cond.code yX2_heldPairs cX2_heldPairs 4 (some .int), Cond.methodLink RX2 82 yX2_lifts, Cond.instanceMethod yX2_lifts, Cond.selects RX2 yX2_lifts yX2_lifts, Cond.code yX2_lifts cX2_lifts 3 (some .boolean), Cond.fieldLink RX2 11 "LayeredCharters$Rules" "layers" "[I"]
def wsL_acts_r3 : List Cond := [Cond.methodLink RL 57 yX4_act, Cond.instanceMethod yX4_act, Cond.selects RX4 yX4_act yX4_act, Cond.code yX4_act cX4_act 4 (some .int), Cond.fieldLink RX4 79 "LayeredCharters$Rules" "layers" "[I", Cond.methodLink RX4 123 yX4_isDeed, Cond.static yX4_isDeed, Cond.code yX4_isDeed cX4_isDeed 1 (some .boolean), Cond.methodLink RX4 45 yX4_isBetween, Cond.static yX4_isBetween, Cond.code yX4_isBetween cX4_isBetween 3 (some .boolean), Cond.methodLink RX4 58 yX4_remember, Cond.instanceMethod yX4_remember, Cond.selects RX4 yX4_remember yX4_remember, Cond.code yX4_remember cX4_remember 1 none, Cond.fieldLink RX4 30 "LayeredCharters" "remembered" "I", Cond.fieldLink RX4 27 "LayeredCharters" "history" "[LLayeredCharters$State;", Cond.methodLink RX4 216 yX4_dropOldest, Cond.instanceMethod yX4_dropOldest, Cond.selects RX4 yX4_dropOldest yX4_dropOldest, Cond.code yX4_dropOldest cX4_dropOldest 3 none, Cond.methodLink RX4 212 yX4_copyInto, Cond.instanceMethod yX4_copyInto, Cond.selects RX4 yX4_copyInto yX4_copyInto]
def wsL_acts_r4 : List Cond := [Cond.code yX4_copyInto cX4_copyInto 3 (some (.object "LayeredCharters$State")), Cond.classLink RX4 9 RX3, Cond.instantiable RX3 2, Cond.initialized RX3, Cond.instanceMethod yX3_init, Cond.code yX3_init cX3_init 1 none, Cond.methodLink RX3 1 objectInit, Cond.instanceMethod objectInit, Cond.code objectInit ⟨#[0xb1]⟩ 1 none, Cond.classLink RX3 7 RX2, Cond.instantiable RX2 7, Cond.fieldLink RX3 10 "LayeredCharters$State" "rules" "LLayeredCharters$Rules;", Cond.classLink RX3 16 RX0, Cond.instantiable RX0 7, Cond.fieldLink RX3 19 "LayeredCharters$State" "guild" "LLayeredCharters$Guild;", Cond.instanceMethod yX2_init, Cond.code yX2_init cX2_init 1 none, Cond.methodLink RX2 3 objectInit, Cond.arrayClass .int, Cond.fieldLink RX2 18 "LayeredCharters$Rules" "crafts" "[I", Cond.fieldLink RX2 21 "LayeredCharters$Rules" "deeds" "[I", Cond.instanceMethod yX0_init, Cond.code yX0_init cX0_init 1 none, Cond.methodLink RX0 3 objectInit]
def wsL_acts_r5 : List Cond := [Cond.fieldLink RX0 9 "LayeredCharters$Guild" "crafts" "[I", Cond.fieldLink RX0 15 "LayeredCharters$Guild" "ranks" "[I", Cond.fieldLink RX0 18 "LayeredCharters$Guild" "done" "[I", Cond.fieldLink RX0 21 "LayeredCharters$Guild" "refused" "[I", Cond.fieldLink RX0 24 "LayeredCharters$Guild" "refusals" "[I", Cond.fieldLink RX0 31 "LayeredCharters$Guild" "doneInAll" "I", Cond.methodLink RX4 208 yX3_copyFrom, Cond.instanceMethod yX3_copyFrom, Cond.selects RX3 yX3_copyFrom yX3_copyFrom, Cond.code yX3_copyFrom cX3_copyFrom 2 none, Cond.methodLink RX3 23 yX2_copyFrom, Cond.instanceMethod yX2_copyFrom, Cond.selects RX2 yX2_copyFrom yX2_copyFrom, Cond.code yX2_copyFrom cX2_copyFrom 2 none, Cond.static yX4_copyRow, Cond.code yX4_copyRow cX4_copyRow 2 none, Cond.methodLink RX4 229 Lib.Math.min.name, Cond.static Lib.Math.min.name, Cond.initialized "java/lang/Math", Cond.code Lib.Math.min.name Lib.Math.min.code 2 (some .int), Cond.methodLink RX4 232 arraycopyName, Cond.native arraycopyName, Cond.static arraycopyName, Cond.initialized "java/lang/System"]
def wsL_acts_r6 : List Cond := [Cond.methodLink RX3 27 yX0_copyFrom, Cond.instanceMethod yX0_copyFrom, Cond.selects RX0 yX0_copyFrom yX0_copyFrom, Cond.code yX0_copyFrom cX0_copyFrom 2 none, Cond.methodLink RX4 129 yX4_pairsOf, Cond.static yX4_pairsOf, Cond.code yX4_pairsOf cX4_pairsOf 5 (some .int), Cond.methodLink RX4 133 yX2_reason, Cond.instanceMethod yX2_reason, Cond.selects RX2 yX2_reason yX2_reason, Cond.code yX2_reason cX2_reason 6 (some .int), Cond.methodLink RX4 136 yX0_noteDone, Cond.instanceMethod yX0_noteDone, Cond.selects RX0 yX0_noteDone yX0_noteDone, Cond.code yX0_noteDone cX0_noteDone 2 none, Cond.methodLink RX0 38 yX0_has, Cond.methodLink RX4 65 yX2_has, Cond.instanceMethod yX2_has, Cond.selects RX2 yX2_has yX2_has, Cond.code yX2_has cX2_has 2 (some .boolean), Cond.methodLink RX4 139 yX0_noteRefusal, Cond.instanceMethod yX0_noteRefusal, Cond.selects RX0 yX0_noteRefusal yX0_noteRefusal, Cond.code yX0_noteRefusal cX0_noteRefusal 3 none]
def wsL_acts_r7 : List Cond := [Cond.methodLink RL 60 yX4_why, Cond.instanceMethod yX4_why, Cond.selects RX4 yX4_why yX4_why, Cond.code yX4_why cX4_why 4 (some .int), Cond.methodLink RX4 99 yX4_isCraft, Cond.static yX4_isCraft, Cond.code yX4_isCraft cX4_isCraft 1 (some .boolean), Cond.methodLink RX4 102 yX4_isRank, Cond.static yX4_isRank, Cond.code yX4_isRank cX4_isRank 1 (some .boolean), Cond.methodLink RL 25 yX4_rule, Cond.instanceMethod yX4_rule, Cond.selects RX4 yX4_rule yX4_rule, Cond.code yX4_rule cX4_rule 3 (some .int), Cond.fieldLink RX4 76 "LayeredCharters$Rules" "kinds" "[I", Cond.fieldLink RX4 142 "LayeredCharters$Rules" "crafts" "[I", Cond.fieldLink RX4 143 "LayeredCharters$Rules" "deeds" "[I", Cond.fieldLink RX4 72 "LayeredCharters$Rules" "seals" "[I", Cond.fieldLink RX4 157 "LayeredCharters$Rules" "pairs" "[I", Cond.methodLink RX4 146 yX2_triples, Cond.instanceMethod yX2_triples, Cond.selects RX2 yX2_triples yX2_triples, Cond.code yX2_triples cX2_triples 4 (some .int), Cond.methodLink RX2 77 yJ6_bitCount_0f7a4]
def wsL_acts_r8 : List Cond := [Cond.static yJ6_bitCount_0f7a4, Cond.initialized RJ6, Cond.code yJ6_bitCount_0f7a4 cJ6_bitCount_0f7a4 1 (some .int), Cond.constant RJ6 265 (1431655765), Cond.constant RJ6 266 (858993459), Cond.constant RJ6 267 (252645135), Cond.methodLink RX4 149 yX4_isIdle, Cond.instanceMethod yX4_isIdle, Cond.selects RX4 yX4_isIdle yX4_isIdle, Cond.code yX4_isIdle cX4_isIdle 3 (some .boolean), Cond.methodLink RX4 195 yX4_triplesWithout, Cond.instanceMethod yX4_triplesWithout, Cond.selects RX4 yX4_triplesWithout yX4_triplesWithout, Cond.code yX4_triplesWithout cX4_triplesWithout 2 (some .int), Cond.fieldLink RX4 37 "LayeredCharters" "trial" "LLayeredCharters$Rules;", Cond.methodLink RX4 219 yX2_copyFrom, Cond.methodLink RX4 68 yX2_remove, Cond.instanceMethod yX2_remove, Cond.selects RX2 yX2_remove yX2_remove, Cond.code yX2_remove cX2_remove 2 none, Cond.methodLink RX2 42 yX2_has, Cond.static yX4_closeGap, Cond.code yX4_closeGap cX4_closeGap 3 none, Cond.methodLink RX4 224 Lib.Math.max.name]
def wsL_acts_r9 : List Cond := [Cond.static Lib.Math.max.name, Cond.code Lib.Math.max.name Lib.Math.max.code 2 (some .int), Cond.methodLink RX4 153 yX2_oddsOf, Cond.instanceMethod yX2_oddsOf, Cond.selects RX2 yX2_oddsOf yX2_oddsOf, Cond.code yX2_oddsOf cX2_oddsOf 4 (some .int), Cond.methodLink RX2 50 yX2_areAtOdds, Cond.instanceMethod yX2_areAtOdds, Cond.selects RX2 yX2_areAtOdds yX2_areAtOdds, Cond.code yX2_areAtOdds cX2_areAtOdds 3 (some .boolean), Cond.methodLink RX4 160 yJ6_bitCount_0f7a4, Cond.methodLink RL 9 yX4_count, Cond.instanceMethod yX4_count, Cond.selects RX4 yX4_count yX4_count, Cond.code yX4_count cX4_count 2 (some .int), Cond.fieldLink RX4 55 "LayeredCharters$Rules" "size" "I", Cond.fieldLink RX4 109 "LayeredCharters$Guild" "size" "I", Cond.fieldLink RX4 183 "LayeredCharters$Guild" "doneInAll" "I", Cond.fieldLink RX4 19 "LayeredCharters" "pad" "LLayeredCharters$Pad;", Cond.fieldLink RX4 189 "LayeredCharters$Pad" "length" "I", Cond.methodLink RX4 174 yX2_sizeOfKind, Cond.instanceMethod yX2_sizeOfKind, Cond.selects RX2 yX2_sizeOfKind yX2_sizeOfKind, Cond.code yX2_sizeOfKind cX2_sizeOfKind 4 (some .int)]
def wsL_acts_r10 : List Cond := [Cond.methodLink RX4 177 yX4_idleRules, Cond.instanceMethod yX4_idleRules, Cond.selects RX4 yX4_idleRules yX4_idleRules, Cond.code yX4_idleRules cX4_idleRules 4 (some .int), Cond.methodLink RX4 180 yX2_oddPairs, Cond.instanceMethod yX2_oddPairs, Cond.selects RX2 yX2_oddPairs yX2_oddPairs, Cond.code yX2_oddPairs cX2_oddPairs 3 (some .int), Cond.methodLink RX2 54 yX2_oddsOf, Cond.methodLink RX4 186 yX0_refusalsOf, Cond.instanceMethod yX0_refusalsOf, Cond.selects RX0 yX0_refusalsOf yX0_refusalsOf, Cond.code yX0_refusalsOf cX0_refusalsOf 2 (some .int)]
def wsL_acts : List Cond := .code yL_acts cL_acts 10 (some .boolean) :: ((wsL_acts_r1 ++ (wsL_acts_r2 ++ (wsL_acts_r3 ++ (wsL_acts_r4 ++ (wsL_acts_r5 ++ (wsL_acts_r6 ++ (wsL_acts_r7 ++ (wsL_acts_r8 ++ (wsL_acts_r9 ++ wsL_acts_r10))))))))) ++ wsX40 ++ wsX30 ++ wsX00 ++ wsX20 ++ wsX10)
def wsL_change_r1 : List Cond := [Cond.methodLink RL 9 yX4_count, Cond.instanceMethod yX4_count, Cond.selects RX4 yX4_count yX4_count, Cond.initialized RX4, Cond.code yX4_count cX4_count 2 (some .int), Cond.fieldLink RX4 12 "LayeredCharters" "now" "LLayeredCharters$State;", Cond.fieldLink RX4 52 "LayeredCharters$State" "rules" "LLayeredCharters$Rules;", Cond.fieldLink RX4 55 "LayeredCharters$Rules" "size" "I", Cond.fieldLink RX4 105 "LayeredCharters$State" "guild" "LLayeredCharters$Guild;", Cond.fieldLink RX4 109 "LayeredCharters$Guild" "size" "I", Cond.fieldLink RX4 183 "LayeredCharters$Guild" "doneInAll" "I", Cond.fieldLink RX4 19 "LayeredCharters" "pad" "LLayeredCharters$Pad;", Cond.fieldLink RX4 189 "LayeredCharters$Pad" "length" "I", Cond.fieldLink RX4 30 "LayeredCharters" "remembered" "I", Cond.methodLink RX4 174 yX2_sizeOfKind, Cond.instanceMethod yX2_sizeOfKind, Cond.selects RX2 yX2_sizeOfKind yX2_sizeOfKind, Cond.initialized RX2, Cond.code yX2_sizeOfKind cX2_sizeOfKind 4 (some .int), Cond.fieldLink RX2 30 "LayeredCharters$Rules" "size" "I", Cond.fieldLink RX2 15 "LayeredCharters$Rules" "kinds" "[I", Cond.methodLink RX4 177 yX4_idleRules, Cond.instanceMethod yX4_idleRules, Cond.selects RX4 yX4_idleRules yX4_idleRules]
def wsL_change_r2 : List Cond := [Cond.code yX4_idleRules cX4_idleRules 4 (some .int), Cond.methodLink RX4 146 yX2_triples, Cond.instanceMethod yX2_triples, Cond.selects RX2 yX2_triples yX2_triples, Cond.code yX2_triples cX2_triples 4 (some .int), Cond.methodLink RX2 58 yX2_permittedPairs, Cond.instanceMethod yX2_permittedPairs, Cond.selects RX2 yX2_permittedPairs yX2_permittedPairs, Cond.code yX2_permittedPairs cX2_permittedPairs 3 (some .int), Cond.fieldLink RX2 27 "LayeredCharters$Rules" "pairs" "[I", Cond.methodLink RX2 77 yJ6_bitCount_0f7a4, Cond.static yJ6_bitCount_0f7a4, Cond.initialized RJ6, Cond.code yJ6_bitCount_0f7a4 cJ6_bitCount_0f7a4 1 (some .int), Cond.constant RJ6 265 (1431655765), Cond.constant RJ6 266 (858993459), Cond.constant RJ6 267 (252645135), Cond.methodLink RX2 74 yX2_heldPairsOfSeal, Cond.instanceMethod yX2_heldPairsOfSeal, Cond.selects RX2 yX2_heldPairsOfSeal yX2_heldPairsOfSeal, Cond.code yX2_heldPairsOfSeal cX2_heldPairsOfSeal 4 (some .int), Cond.fieldLink RX2 24 "LayeredCharters$Rules" "seals" "[I", Cond.methodLink RX2 62 yX2_heldPairs, Cond.instanceMethod yX2_heldPairs]
def wsL_change_r3 : List Cond := [Cond.selects RX2 yX2_heldPairs yX2_heldPairs, Cond.code yX2_heldPairs cX2_heldPairs 4 (some .int), Cond.methodLink RX2 82 yX2_lifts, Cond.instanceMethod yX2_lifts, Cond.selects RX2 yX2_lifts yX2_lifts, Cond.code yX2_lifts cX2_lifts 3 (some .boolean), Cond.fieldLink RX2 11 "LayeredCharters$Rules" "layers" "[I", Cond.methodLink RX4 149 yX4_isIdle, Cond.instanceMethod yX4_isIdle, Cond.selects RX4 yX4_isIdle yX4_isIdle, Cond.code yX4_isIdle cX4_isIdle 3 (some .boolean), Cond.methodLink RX4 195 yX4_triplesWithout, Cond.instanceMethod yX4_triplesWithout, Cond.selects RX4 yX4_triplesWithout yX4_triplesWithout, Cond.code yX4_triplesWithout cX4_triplesWithout 2 (some .int), Cond.fieldLink RX4 37 "LayeredCharters" "trial" "LLayeredCharters$Rules;", Cond.methodLink RX4 219 yX2_copyFrom, Cond.instanceMethod yX2_copyFrom, Cond.selects RX2 yX2_copyFrom yX2_copyFrom, Cond.code yX2_copyFrom cX2_copyFrom 2 none, Cond.fieldLink RX2 18 "LayeredCharters$Rules" "crafts" "[I", Cond.fieldLink RX2 21 "LayeredCharters$Rules" "deeds" "[I", Cond.static yX4_copyRow, Cond.code yX4_copyRow cX4_copyRow 2 none]
def wsL_change_r4 : List Cond := [Cond.methodLink RX4 229 Lib.Math.min.name, Cond.static Lib.Math.min.name, Cond.initialized "java/lang/Math", Cond.code Lib.Math.min.name Lib.Math.min.code 2 (some .int), Cond.methodLink RX4 232 arraycopyName, Cond.native arraycopyName, Cond.static arraycopyName, Cond.initialized "java/lang/System", Cond.methodLink RX4 68 yX2_remove, Cond.instanceMethod yX2_remove, Cond.selects RX2 yX2_remove yX2_remove, Cond.code yX2_remove cX2_remove 2 none, Cond.methodLink RX2 42 yX2_has, Cond.instanceMethod yX2_has, Cond.selects RX2 yX2_has yX2_has, Cond.code yX2_has cX2_has 2 (some .boolean), Cond.static yX4_closeGap, Cond.code yX4_closeGap cX4_closeGap 3 none, Cond.methodLink RX4 224 Lib.Math.max.name, Cond.static Lib.Math.max.name, Cond.code Lib.Math.max.name Lib.Math.max.code 2 (some .int), Cond.methodLink RX4 180 yX2_oddPairs, Cond.instanceMethod yX2_oddPairs, Cond.selects RX2 yX2_oddPairs yX2_oddPairs]
def wsL_change_r5 : List Cond := [Cond.code yX2_oddPairs cX2_oddPairs 3 (some .int), Cond.methodLink RX2 54 yX2_oddsOf, Cond.instanceMethod yX2_oddsOf, Cond.selects RX2 yX2_oddsOf yX2_oddsOf, Cond.code yX2_oddsOf cX2_oddsOf 4 (some .int), Cond.methodLink RX2 50 yX2_areAtOdds, Cond.instanceMethod yX2_areAtOdds, Cond.selects RX2 yX2_areAtOdds yX2_areAtOdds, Cond.code yX2_areAtOdds cX2_areAtOdds 3 (some .boolean), Cond.methodLink RX4 186 yX0_refusalsOf, Cond.instanceMethod yX0_refusalsOf, Cond.selects RX0 yX0_refusalsOf yX0_refusalsOf, Cond.initialized RX0, Cond.code yX0_refusalsOf cX0_refusalsOf 2 (some .int), Cond.fieldLink RX0 24 "LayeredCharters$Guild" "refusals" "[I", Cond.static yX4_isBetween, Cond.code yX4_isBetween cX4_isBetween 3 (some .boolean), Cond.methodLink RL 15 yL_low, Cond.static yL_low, Cond.initialized RL, Cond.code yL_low cL_low 2 (some .int), Cond.constant RL 8 (2147483647), Cond.methodLink RL 21 yX4_add, Cond.instanceMethod yX4_add]
def wsL_change_r6 : List Cond := [Cond.selects RX4 yX4_add yX4_add, Cond.code yX4_add cX4_add 6 (some .int), Cond.methodLink RX4 41 yX4_isLayer, Cond.static yX4_isLayer, Cond.code yX4_isLayer cX4_isLayer 1 (some .boolean), Cond.methodLink RX4 45 yX4_isBetween, Cond.methodLink RX4 49 yX4_isSeal, Cond.static yX4_isSeal, Cond.code yX4_isSeal cX4_isSeal 1 (some .boolean), Cond.methodLink RX4 58 yX4_remember, Cond.instanceMethod yX4_remember, Cond.selects RX4 yX4_remember yX4_remember, Cond.code yX4_remember cX4_remember 1 none, Cond.fieldLink RX4 27 "LayeredCharters" "history" "[LLayeredCharters$State;", Cond.methodLink RX4 216 yX4_dropOldest, Cond.instanceMethod yX4_dropOldest, Cond.selects RX4 yX4_dropOldest yX4_dropOldest, Cond.code yX4_dropOldest cX4_dropOldest 3 none, Cond.methodLink RX4 212 yX4_copyInto, Cond.instanceMethod yX4_copyInto, Cond.selects RX4 yX4_copyInto yX4_copyInto, Cond.code yX4_copyInto cX4_copyInto 3 (some (.object "LayeredCharters$State")), Cond.classLink RX4 9 RX3, Cond.instantiable RX3 2]
def wsL_change_r7 : List Cond := [Cond.initialized RX3, Cond.instanceMethod yX3_init, Cond.code yX3_init cX3_init 1 none, Cond.methodLink RX3 1 objectInit, Cond.instanceMethod objectInit, Cond.code objectInit ⟨#[0xb1]⟩ 1 none, Cond.classLink RX3 7 RX2, Cond.instantiable RX2 7, Cond.fieldLink RX3 10 "LayeredCharters$State" "rules" "LLayeredCharters$Rules;", Cond.classLink RX3 16 RX0, Cond.instantiable RX0 7, Cond.fieldLink RX3 19 "LayeredCharters$State" "guild" "LLayeredCharters$Guild;", Cond.instanceMethod yX2_init, Cond.code yX2_init cX2_init 1 none, Cond.methodLink RX2 3 objectInit, Cond.arrayClass .int, Cond.instanceMethod yX0_init, Cond.code yX0_init cX0_init 1 none, Cond.methodLink RX0 3 objectInit, Cond.fieldLink RX0 9 "LayeredCharters$Guild" "crafts" "[I", Cond.fieldLink RX0 15 "LayeredCharters$Guild" "ranks" "[I", Cond.fieldLink RX0 18 "LayeredCharters$Guild" "done" "[I", Cond.fieldLink RX0 21 "LayeredCharters$Guild" "refused" "[I", Cond.fieldLink RX0 27 "LayeredCharters$Guild" "size" "I"]
def wsL_change_r8 : List Cond := [Cond.fieldLink RX0 31 "LayeredCharters$Guild" "doneInAll" "I", Cond.methodLink RX4 208 yX3_copyFrom, Cond.instanceMethod yX3_copyFrom, Cond.selects RX3 yX3_copyFrom yX3_copyFrom, Cond.code yX3_copyFrom cX3_copyFrom 2 none, Cond.methodLink RX3 23 yX2_copyFrom, Cond.methodLink RX3 27 yX0_copyFrom, Cond.instanceMethod yX0_copyFrom, Cond.selects RX0 yX0_copyFrom yX0_copyFrom, Cond.code yX0_copyFrom cX0_copyFrom 2 none, Cond.methodLink RX4 61 yX2_append, Cond.instanceMethod yX2_append, Cond.selects RX2 yX2_append yX2_append, Cond.code yX2_append cX2_append 6 none, Cond.static yX4_pairsOf, Cond.code yX4_pairsOf cX4_pairsOf 5 (some .int), Cond.methodLink RL 25 yX4_rule, Cond.instanceMethod yX4_rule, Cond.selects RX4 yX4_rule yX4_rule, Cond.code yX4_rule cX4_rule 3 (some .int), Cond.fieldLink RX4 79 "LayeredCharters$Rules" "layers" "[I", Cond.fieldLink RX4 76 "LayeredCharters$Rules" "kinds" "[I", Cond.fieldLink RX4 142 "LayeredCharters$Rules" "crafts" "[I", Cond.fieldLink RX4 143 "LayeredCharters$Rules" "deeds" "[I"]
def wsL_change_r9 : List Cond := [Cond.fieldLink RX4 72 "LayeredCharters$Rules" "seals" "[I", Cond.fieldLink RX4 157 "LayeredCharters$Rules" "pairs" "[I", Cond.methodLink RX4 65 yX2_has, Cond.methodLink RX4 153 yX2_oddsOf, Cond.methodLink RX4 160 yJ6_bitCount_0f7a4, Cond.methodLink RL 28 yX4_strike, Cond.instanceMethod yX4_strike, Cond.selects RX4 yX4_strike yX4_strike, Cond.code yX4_strike cX4_strike 2 (some .int), Cond.methodLink RL 31 yX4_seal, Cond.instanceMethod yX4_seal, Cond.selects RX4 yX4_seal yX4_seal, Cond.code yX4_seal cX4_seal 4 (some .int), Cond.methodLink RL 34 yX4_move, Cond.instanceMethod yX4_move, Cond.selects RX4 yX4_move yX4_move, Cond.code yX4_move cX4_move 4 (some .int), Cond.methodLink RL 37 yX4_tidy, Cond.instanceMethod yX4_tidy, Cond.selects RX4 yX4_tidy yX4_tidy, Cond.code yX4_tidy cX4_tidy 3 (some .int), Cond.methodLink RX4 96 yX4_firstIdle, Cond.instanceMethod yX4_firstIdle, Cond.selects RX4 yX4_firstIdle yX4_firstIdle]
def wsL_change_r10 : List Cond := [Cond.code yX4_firstIdle cX4_firstIdle 3 (some .int), Cond.methodLink RL 41 yX4_join, Cond.instanceMethod yX4_join, Cond.selects RX4 yX4_join yX4_join, Cond.code yX4_join cX4_join 3 (some .int), Cond.methodLink RX4 99 yX4_isCraft, Cond.static yX4_isCraft, Cond.code yX4_isCraft cX4_isCraft 1 (some .boolean), Cond.methodLink RX4 102 yX4_isRank, Cond.static yX4_isRank, Cond.code yX4_isRank cX4_isRank 1 (some .boolean), Cond.methodLink RX4 112 yX0_append, Cond.instanceMethod yX0_append, Cond.selects RX0 yX0_append yX0_append, Cond.code yX0_append cX0_append 3 none, Cond.methodLink RL 44 yX4_member, Cond.instanceMethod yX4_member, Cond.selects RX4 yX4_member yX4_member, Cond.code yX4_member cX4_member 3 (some .int), Cond.fieldLink RX4 126 "LayeredCharters$Guild" "crafts" "[I", Cond.fieldLink RX4 120 "LayeredCharters$Guild" "ranks" "[I", Cond.fieldLink RX4 116 "LayeredCharters$Guild" "done" "[I", Cond.fieldLink RX4 168 "LayeredCharters$Guild" "refused" "[I", Cond.methodLink RX4 115 yX0_has]
def wsL_change_r11 : List Cond := [Cond.instanceMethod yX0_has, Cond.selects RX0 yX0_has yX0_has, Cond.code yX0_has cX0_has 2 (some .boolean), Cond.methodLink RX4 165 yX4_deedsAllowed, Cond.instanceMethod yX4_deedsAllowed, Cond.selects RX4 yX4_deedsAllowed yX4_deedsAllowed, Cond.code yX4_deedsAllowed cX4_deedsAllowed 3 (some .int), Cond.methodLink RX4 221 yX2_allowedPairs, Cond.instanceMethod yX2_allowedPairs, Cond.selects RX2 yX2_allowedPairs yX2_allowedPairs, Cond.code yX2_allowedPairs cX2_allowedPairs 4 (some .int), Cond.methodLink RL 47 yX4_leave, Cond.instanceMethod yX4_leave, Cond.selects RX4 yX4_leave yX4_leave, Cond.code yX4_leave cX4_leave 3 (some .int), Cond.methodLink RX4 119 yX0_remove, Cond.instanceMethod yX0_remove, Cond.selects RX0 yX0_remove yX0_remove, Cond.code yX0_remove cX0_remove 2 none, Cond.methodLink RX0 38 yX0_has, Cond.methodLink RL 50 yX4_rank, Cond.instanceMethod yX4_rank, Cond.selects RX4 yX4_rank yX4_rank, Cond.code yX4_rank cX4_rank 4 (some .int)]
def wsL_change_r12 : List Cond := [Cond.methodLink RL 53 yL_acts, Cond.static yL_acts, Cond.code yL_acts cL_acts 10 (some .boolean), Cond.methodLink RL 57 yX4_act, Cond.instanceMethod yX4_act, Cond.selects RX4 yX4_act yX4_act, Cond.code yX4_act cX4_act 4 (some .int), Cond.methodLink RX4 123 yX4_isDeed, Cond.static yX4_isDeed, Cond.code yX4_isDeed cX4_isDeed 1 (some .boolean), Cond.methodLink RX4 129 yX4_pairsOf, Cond.methodLink RX4 133 yX2_reason, Cond.instanceMethod yX2_reason, Cond.selects RX2 yX2_reason yX2_reason, Cond.code yX2_reason cX2_reason 6 (some .int), Cond.methodLink RX4 136 yX0_noteDone, Cond.instanceMethod yX0_noteDone, Cond.selects RX0 yX0_noteDone yX0_noteDone, Cond.code yX0_noteDone cX0_noteDone 2 none, Cond.methodLink RX4 139 yX0_noteRefusal, Cond.instanceMethod yX0_noteRefusal, Cond.selects RX0 yX0_noteRefusal yX0_noteRefusal, Cond.code yX0_noteRefusal cX0_noteRefusal 3 none, Cond.methodLink RL 60 yX4_why]
def wsL_change_r13 : List Cond := [Cond.instanceMethod yX4_why, Cond.selects RX4 yX4_why yX4_why, Cond.code yX4_why cX4_why 4 (some .int)]
def wsL_change : List Cond := .code yL_change cL_change 15 (some .boolean) :: ((wsL_change_r1 ++ (wsL_change_r2 ++ (wsL_change_r3 ++ (wsL_change_r4 ++ (wsL_change_r5 ++ (wsL_change_r6 ++ (wsL_change_r7 ++ (wsL_change_r8 ++ (wsL_change_r9 ++ (wsL_change_r10 ++ (wsL_change_r11 ++ (wsL_change_r12 ++ wsL_change_r13)))))))))))) ++ wsX40 ++ wsX30 ++ wsX20 ++ wsX00 ++ wsX10)
def wsL_fits : List Cond := .code yL_fits cL_fits 3 (some .boolean) :: ([])
def wsL_read_r1 : List Cond := [Cond.methodLink RL 25 yX4_rule, Cond.instanceMethod yX4_rule, Cond.selects RX4 yX4_rule yX4_rule, Cond.initialized RX4, Cond.code yX4_rule cX4_rule 3 (some .int), Cond.fieldLink RX4 12 "LayeredCharters" "now" "LLayeredCharters$State;", Cond.fieldLink RX4 52 "LayeredCharters$State" "rules" "LLayeredCharters$Rules;", Cond.fieldLink RX4 79 "LayeredCharters$Rules" "layers" "[I", Cond.fieldLink RX4 76 "LayeredCharters$Rules" "kinds" "[I", Cond.fieldLink RX4 142 "LayeredCharters$Rules" "crafts" "[I", Cond.fieldLink RX4 143 "LayeredCharters$Rules" "deeds" "[I", Cond.fieldLink RX4 72 "LayeredCharters$Rules" "seals" "[I", Cond.fieldLink RX4 157 "LayeredCharters$Rules" "pairs" "[I", Cond.methodLink RX4 65 yX2_has, Cond.instanceMethod yX2_has, Cond.selects RX2 yX2_has yX2_has, Cond.initialized RX2, Cond.code yX2_has cX2_has 2 (some .boolean), Cond.fieldLink RX2 30 "LayeredCharters$Rules" "size" "I", Cond.methodLink RX4 146 yX2_triples, Cond.instanceMethod yX2_triples, Cond.selects RX2 yX2_triples yX2_triples, Cond.code yX2_triples cX2_triples 4 (some .int), Cond.methodLink RX2 58 yX2_permittedPairs]
def wsL_read_r2 : List Cond := [Cond.instanceMethod yX2_permittedPairs, Cond.selects RX2 yX2_permittedPairs yX2_permittedPairs, Cond.code yX2_permittedPairs cX2_permittedPairs 3 (some .int), Cond.fieldLink RX2 15 "LayeredCharters$Rules" "kinds" "[I", Cond.fieldLink RX2 27 "LayeredCharters$Rules" "pairs" "[I", Cond.methodLink RX2 77 yJ6_bitCount_0f7a4, Cond.static yJ6_bitCount_0f7a4, Cond.initialized RJ6, Cond.code yJ6_bitCount_0f7a4 cJ6_bitCount_0f7a4 1 (some .int), Cond.constant RJ6 265 (1431655765), Cond.constant RJ6 266 (858993459), Cond.constant RJ6 267 (252645135), Cond.methodLink RX2 74 yX2_heldPairsOfSeal, Cond.instanceMethod yX2_heldPairsOfSeal, Cond.selects RX2 yX2_heldPairsOfSeal yX2_heldPairsOfSeal, Cond.code yX2_heldPairsOfSeal cX2_heldPairsOfSeal 4 (some .int), Cond.fieldLink RX2 24 "LayeredCharters$Rules" "seals" "[I", Cond.methodLink RX2 62 yX2_heldPairs, Cond.instanceMethod yX2_heldPairs, Cond.selects RX2 yX2_heldPairs yX2_heldPairs, Cond.code yX2_heldPairs cX2_heldPairs 4 (some .int), Cond.methodLink RX2 82 yX2_lifts, Cond.instanceMethod yX2_lifts, Cond.selects RX2 yX2_lifts yX2_lifts]
def wsL_read_r3 : List Cond := [Cond.code yX2_lifts cX2_lifts 3 (some .boolean), Cond.fieldLink RX2 11 "LayeredCharters$Rules" "layers" "[I", Cond.methodLink RX4 149 yX4_isIdle, Cond.instanceMethod yX4_isIdle, Cond.selects RX4 yX4_isIdle yX4_isIdle, Cond.code yX4_isIdle cX4_isIdle 3 (some .boolean), Cond.methodLink RX4 195 yX4_triplesWithout, Cond.instanceMethod yX4_triplesWithout, Cond.selects RX4 yX4_triplesWithout yX4_triplesWithout, Cond.code yX4_triplesWithout cX4_triplesWithout 2 (some .int), Cond.fieldLink RX4 37 "LayeredCharters" "trial" "LLayeredCharters$Rules;", Cond.methodLink RX4 219 yX2_copyFrom, Cond.instanceMethod yX2_copyFrom, Cond.selects RX2 yX2_copyFrom yX2_copyFrom, Cond.code yX2_copyFrom cX2_copyFrom 2 none, Cond.fieldLink RX2 18 "LayeredCharters$Rules" "crafts" "[I", Cond.fieldLink RX2 21 "LayeredCharters$Rules" "deeds" "[I", Cond.static yX4_copyRow, Cond.code yX4_copyRow cX4_copyRow 2 none, Cond.methodLink RX4 229 Lib.Math.min.name, Cond.static Lib.Math.min.name, Cond.initialized "java/lang/Math", Cond.code Lib.Math.min.name Lib.Math.min.code 2 (some .int), Cond.methodLink RX4 232 arraycopyName]
def wsL_read_r4 : List Cond := [Cond.native arraycopyName, Cond.static arraycopyName, Cond.initialized "java/lang/System", Cond.methodLink RX4 68 yX2_remove, Cond.instanceMethod yX2_remove, Cond.selects RX2 yX2_remove yX2_remove, Cond.code yX2_remove cX2_remove 2 none, Cond.methodLink RX2 42 yX2_has, Cond.static yX4_closeGap, Cond.code yX4_closeGap cX4_closeGap 3 none, Cond.methodLink RX4 224 Lib.Math.max.name, Cond.static Lib.Math.max.name, Cond.code Lib.Math.max.name Lib.Math.max.code 2 (some .int), Cond.methodLink RX4 153 yX2_oddsOf, Cond.instanceMethod yX2_oddsOf, Cond.selects RX2 yX2_oddsOf yX2_oddsOf, Cond.code yX2_oddsOf cX2_oddsOf 4 (some .int), Cond.methodLink RX2 50 yX2_areAtOdds, Cond.instanceMethod yX2_areAtOdds, Cond.selects RX2 yX2_areAtOdds yX2_areAtOdds, Cond.code yX2_areAtOdds cX2_areAtOdds 3 (some .boolean), Cond.methodLink RX4 160 yJ6_bitCount_0f7a4]
def wsL_read : List Cond := .code yL_read cL_read 4 none :: ((wsL_read_r1 ++ (wsL_read_r2 ++ (wsL_read_r3 ++ wsL_read_r4))) ++ wsX40 ++ wsX30 ++ wsX20)
def wsL_why_r1 : List Cond := [Cond.arrayClass .int, Cond.methodLink RL 9 yX4_count, Cond.instanceMethod yX4_count, Cond.selects RX4 yX4_count yX4_count, Cond.initialized RX4, Cond.code yX4_count cX4_count 2 (some .int), Cond.fieldLink RX4 12 "LayeredCharters" "now" "LLayeredCharters$State;", Cond.fieldLink RX4 52 "LayeredCharters$State" "rules" "LLayeredCharters$Rules;", Cond.fieldLink RX4 55 "LayeredCharters$Rules" "size" "I", Cond.fieldLink RX4 105 "LayeredCharters$State" "guild" "LLayeredCharters$Guild;", Cond.fieldLink RX4 109 "LayeredCharters$Guild" "size" "I", Cond.fieldLink RX4 183 "LayeredCharters$Guild" "doneInAll" "I", Cond.fieldLink RX4 19 "LayeredCharters" "pad" "LLayeredCharters$Pad;", Cond.fieldLink RX4 189 "LayeredCharters$Pad" "length" "I", Cond.fieldLink RX4 30 "LayeredCharters" "remembered" "I", Cond.methodLink RX4 174 yX2_sizeOfKind, Cond.instanceMethod yX2_sizeOfKind, Cond.selects RX2 yX2_sizeOfKind yX2_sizeOfKind, Cond.initialized RX2, Cond.code yX2_sizeOfKind cX2_sizeOfKind 4 (some .int), Cond.fieldLink RX2 30 "LayeredCharters$Rules" "size" "I", Cond.fieldLink RX2 15 "LayeredCharters$Rules" "kinds" "[I", Cond.methodLink RX4 177 yX4_idleRules, Cond.instanceMethod yX4_idleRules]
def wsL_why_r2 : List Cond := [Cond.selects RX4 yX4_idleRules yX4_idleRules, Cond.code yX4_idleRules cX4_idleRules 4 (some .int), Cond.methodLink RX4 146 yX2_triples, Cond.instanceMethod yX2_triples, Cond.selects RX2 yX2_triples yX2_triples, Cond.code yX2_triples cX2_triples 4 (some .int), Cond.methodLink RX2 58 yX2_permittedPairs, Cond.instanceMethod yX2_permittedPairs, Cond.selects RX2 yX2_permittedPairs yX2_permittedPairs, Cond.code yX2_permittedPairs cX2_permittedPairs 3 (some .int), Cond.fieldLink RX2 27 "LayeredCharters$Rules" "pairs" "[I", Cond.methodLink RX2 77 yJ6_bitCount_0f7a4, Cond.static yJ6_bitCount_0f7a4, Cond.initialized RJ6, Cond.code yJ6_bitCount_0f7a4 cJ6_bitCount_0f7a4 1 (some .int), Cond.constant RJ6 265 (1431655765), Cond.constant RJ6 266 (858993459), Cond.constant RJ6 267 (252645135), Cond.methodLink RX2 74 yX2_heldPairsOfSeal, Cond.instanceMethod yX2_heldPairsOfSeal, Cond.selects RX2 yX2_heldPairsOfSeal yX2_heldPairsOfSeal, Cond.code yX2_heldPairsOfSeal cX2_heldPairsOfSeal 4 (some .int), Cond.fieldLink RX2 24 "LayeredCharters$Rules" "seals" "[I", Cond.methodLink RX2 62 yX2_heldPairs]
def wsL_why_r3 : List Cond := [Cond.instanceMethod yX2_heldPairs, Cond.selects RX2 yX2_heldPairs yX2_heldPairs, Cond.code yX2_heldPairs cX2_heldPairs 4 (some .int), Cond.methodLink RX2 82 yX2_lifts, Cond.instanceMethod yX2_lifts, Cond.selects RX2 yX2_lifts yX2_lifts, Cond.code yX2_lifts cX2_lifts 3 (some .boolean), Cond.fieldLink RX2 11 "LayeredCharters$Rules" "layers" "[I", Cond.methodLink RX4 149 yX4_isIdle, Cond.instanceMethod yX4_isIdle, Cond.selects RX4 yX4_isIdle yX4_isIdle, Cond.code yX4_isIdle cX4_isIdle 3 (some .boolean), Cond.methodLink RX4 195 yX4_triplesWithout, Cond.instanceMethod yX4_triplesWithout, Cond.selects RX4 yX4_triplesWithout yX4_triplesWithout, Cond.code yX4_triplesWithout cX4_triplesWithout 2 (some .int), Cond.fieldLink RX4 37 "LayeredCharters" "trial" "LLayeredCharters$Rules;", Cond.methodLink RX4 219 yX2_copyFrom, Cond.instanceMethod yX2_copyFrom, Cond.selects RX2 yX2_copyFrom yX2_copyFrom, Cond.code yX2_copyFrom cX2_copyFrom 2 none, Cond.fieldLink RX2 18 "LayeredCharters$Rules" "crafts" "[I", Cond.fieldLink RX2 21 "LayeredCharters$Rules" "deeds" "[I", Cond.static yX4_copyRow]
def wsL_why_r4 : List Cond := [Cond.code yX4_copyRow cX4_copyRow 2 none, Cond.methodLink RX4 229 Lib.Math.min.name, Cond.static Lib.Math.min.name, Cond.initialized "java/lang/Math", Cond.code Lib.Math.min.name Lib.Math.min.code 2 (some .int), Cond.methodLink RX4 232 arraycopyName, Cond.native arraycopyName, Cond.static arraycopyName, Cond.initialized "java/lang/System", Cond.methodLink RX4 68 yX2_remove, Cond.instanceMethod yX2_remove, Cond.selects RX2 yX2_remove yX2_remove, Cond.code yX2_remove cX2_remove 2 none, Cond.methodLink RX2 42 yX2_has, Cond.instanceMethod yX2_has, Cond.selects RX2 yX2_has yX2_has, Cond.code yX2_has cX2_has 2 (some .boolean), Cond.static yX4_closeGap, Cond.code yX4_closeGap cX4_closeGap 3 none, Cond.methodLink RX4 224 Lib.Math.max.name, Cond.static Lib.Math.max.name, Cond.code Lib.Math.max.name Lib.Math.max.code 2 (some .int), Cond.methodLink RX4 180 yX2_oddPairs, Cond.instanceMethod yX2_oddPairs]
def wsL_why_r5 : List Cond := [Cond.selects RX2 yX2_oddPairs yX2_oddPairs, Cond.code yX2_oddPairs cX2_oddPairs 3 (some .int), Cond.methodLink RX2 54 yX2_oddsOf, Cond.instanceMethod yX2_oddsOf, Cond.selects RX2 yX2_oddsOf yX2_oddsOf, Cond.code yX2_oddsOf cX2_oddsOf 4 (some .int), Cond.methodLink RX2 50 yX2_areAtOdds, Cond.instanceMethod yX2_areAtOdds, Cond.selects RX2 yX2_areAtOdds yX2_areAtOdds, Cond.code yX2_areAtOdds cX2_areAtOdds 3 (some .boolean), Cond.methodLink RX4 186 yX0_refusalsOf, Cond.instanceMethod yX0_refusalsOf, Cond.selects RX0 yX0_refusalsOf yX0_refusalsOf, Cond.initialized RX0, Cond.code yX0_refusalsOf cX0_refusalsOf 2 (some .int), Cond.fieldLink RX0 24 "LayeredCharters$Guild" "refusals" "[I", Cond.static yX4_isBetween, Cond.code yX4_isBetween cX4_isBetween 3 (some .boolean), Cond.methodLink RL 64 yL_read, Cond.static yL_read, Cond.initialized RL, Cond.code yL_read cL_read 4 none, Cond.methodLink RL 25 yX4_rule, Cond.instanceMethod yX4_rule]
def wsL_why_r6 : List Cond := [Cond.selects RX4 yX4_rule yX4_rule, Cond.code yX4_rule cX4_rule 3 (some .int), Cond.fieldLink RX4 79 "LayeredCharters$Rules" "layers" "[I", Cond.fieldLink RX4 76 "LayeredCharters$Rules" "kinds" "[I", Cond.fieldLink RX4 142 "LayeredCharters$Rules" "crafts" "[I", Cond.fieldLink RX4 143 "LayeredCharters$Rules" "deeds" "[I", Cond.fieldLink RX4 72 "LayeredCharters$Rules" "seals" "[I", Cond.fieldLink RX4 157 "LayeredCharters$Rules" "pairs" "[I", Cond.methodLink RX4 65 yX2_has, Cond.methodLink RX4 153 yX2_oddsOf, Cond.methodLink RX4 160 yJ6_bitCount_0f7a4, Cond.methodLink RL 68 yL_fits, Cond.static yL_fits, Cond.code yL_fits cL_fits 3 (some .boolean)]
def wsL_why : List Cond := .code yL_why cL_why 13 (some .int) :: ((wsL_why_r1 ++ (wsL_why_r2 ++ (wsL_why_r3 ++ (wsL_why_r4 ++ (wsL_why_r5 ++ wsL_why_r6))))) ++ wsX40 ++ wsX30 ++ wsX20 ++ wsX00 ++ wsX10)
def wsL_holds_r1 : List Cond := [Cond.methodLink RL 9 yX4_count, Cond.instanceMethod yX4_count, Cond.selects RX4 yX4_count yX4_count, Cond.initialized RX4, Cond.code yX4_count cX4_count 2 (some .int), Cond.fieldLink RX4 12 "LayeredCharters" "now" "LLayeredCharters$State;", Cond.fieldLink RX4 52 "LayeredCharters$State" "rules" "LLayeredCharters$Rules;", Cond.fieldLink RX4 55 "LayeredCharters$Rules" "size" "I", Cond.fieldLink RX4 105 "LayeredCharters$State" "guild" "LLayeredCharters$Guild;", Cond.fieldLink RX4 109 "LayeredCharters$Guild" "size" "I", Cond.fieldLink RX4 183 "LayeredCharters$Guild" "doneInAll" "I", Cond.fieldLink RX4 19 "LayeredCharters" "pad" "LLayeredCharters$Pad;", Cond.fieldLink RX4 189 "LayeredCharters$Pad" "length" "I", Cond.fieldLink RX4 30 "LayeredCharters" "remembered" "I", Cond.methodLink RX4 174 yX2_sizeOfKind, Cond.instanceMethod yX2_sizeOfKind, Cond.selects RX2 yX2_sizeOfKind yX2_sizeOfKind, Cond.initialized RX2, Cond.code yX2_sizeOfKind cX2_sizeOfKind 4 (some .int), Cond.fieldLink RX2 30 "LayeredCharters$Rules" "size" "I", Cond.fieldLink RX2 15 "LayeredCharters$Rules" "kinds" "[I", Cond.methodLink RX4 177 yX4_idleRules, Cond.instanceMethod yX4_idleRules, Cond.selects RX4 yX4_idleRules yX4_idleRules]
def wsL_holds_r2 : List Cond := [Cond.code yX4_idleRules cX4_idleRules 4 (some .int), Cond.methodLink RX4 146 yX2_triples, Cond.instanceMethod yX2_triples, Cond.selects RX2 yX2_triples yX2_triples, Cond.code yX2_triples cX2_triples 4 (some .int), Cond.methodLink RX2 58 yX2_permittedPairs, Cond.instanceMethod yX2_permittedPairs, Cond.selects RX2 yX2_permittedPairs yX2_permittedPairs, Cond.code yX2_permittedPairs cX2_permittedPairs 3 (some .int), Cond.fieldLink RX2 27 "LayeredCharters$Rules" "pairs" "[I", Cond.methodLink RX2 77 yJ6_bitCount_0f7a4, Cond.static yJ6_bitCount_0f7a4, Cond.initialized RJ6, Cond.code yJ6_bitCount_0f7a4 cJ6_bitCount_0f7a4 1 (some .int), Cond.constant RJ6 265 (1431655765), Cond.constant RJ6 266 (858993459), Cond.constant RJ6 267 (252645135), Cond.methodLink RX2 74 yX2_heldPairsOfSeal, Cond.instanceMethod yX2_heldPairsOfSeal, Cond.selects RX2 yX2_heldPairsOfSeal yX2_heldPairsOfSeal, Cond.code yX2_heldPairsOfSeal cX2_heldPairsOfSeal 4 (some .int), Cond.fieldLink RX2 24 "LayeredCharters$Rules" "seals" "[I", Cond.methodLink RX2 62 yX2_heldPairs, Cond.instanceMethod yX2_heldPairs]
def wsL_holds_r3 : List Cond := [Cond.selects RX2 yX2_heldPairs yX2_heldPairs, Cond.code yX2_heldPairs cX2_heldPairs 4 (some .int), Cond.methodLink RX2 82 yX2_lifts, Cond.instanceMethod yX2_lifts, Cond.selects RX2 yX2_lifts yX2_lifts, Cond.code yX2_lifts cX2_lifts 3 (some .boolean), Cond.fieldLink RX2 11 "LayeredCharters$Rules" "layers" "[I", Cond.methodLink RX4 149 yX4_isIdle, Cond.instanceMethod yX4_isIdle, Cond.selects RX4 yX4_isIdle yX4_isIdle, Cond.code yX4_isIdle cX4_isIdle 3 (some .boolean), Cond.methodLink RX4 195 yX4_triplesWithout, Cond.instanceMethod yX4_triplesWithout, Cond.selects RX4 yX4_triplesWithout yX4_triplesWithout, Cond.code yX4_triplesWithout cX4_triplesWithout 2 (some .int), Cond.fieldLink RX4 37 "LayeredCharters" "trial" "LLayeredCharters$Rules;", Cond.methodLink RX4 219 yX2_copyFrom, Cond.instanceMethod yX2_copyFrom, Cond.selects RX2 yX2_copyFrom yX2_copyFrom, Cond.code yX2_copyFrom cX2_copyFrom 2 none, Cond.fieldLink RX2 18 "LayeredCharters$Rules" "crafts" "[I", Cond.fieldLink RX2 21 "LayeredCharters$Rules" "deeds" "[I", Cond.static yX4_copyRow, Cond.code yX4_copyRow cX4_copyRow 2 none]
def wsL_holds_r4 : List Cond := [Cond.methodLink RX4 229 Lib.Math.min.name, Cond.static Lib.Math.min.name, Cond.initialized "java/lang/Math", Cond.code Lib.Math.min.name Lib.Math.min.code 2 (some .int), Cond.methodLink RX4 232 arraycopyName, Cond.native arraycopyName, Cond.static arraycopyName, Cond.initialized "java/lang/System", Cond.methodLink RX4 68 yX2_remove, Cond.instanceMethod yX2_remove, Cond.selects RX2 yX2_remove yX2_remove, Cond.code yX2_remove cX2_remove 2 none, Cond.methodLink RX2 42 yX2_has, Cond.instanceMethod yX2_has, Cond.selects RX2 yX2_has yX2_has, Cond.code yX2_has cX2_has 2 (some .boolean), Cond.static yX4_closeGap, Cond.code yX4_closeGap cX4_closeGap 3 none, Cond.methodLink RX4 224 Lib.Math.max.name, Cond.static Lib.Math.max.name, Cond.code Lib.Math.max.name Lib.Math.max.code 2 (some .int), Cond.methodLink RX4 180 yX2_oddPairs, Cond.instanceMethod yX2_oddPairs, Cond.selects RX2 yX2_oddPairs yX2_oddPairs]
def wsL_holds_r5 : List Cond := [Cond.code yX2_oddPairs cX2_oddPairs 3 (some .int), Cond.methodLink RX2 54 yX2_oddsOf, Cond.instanceMethod yX2_oddsOf, Cond.selects RX2 yX2_oddsOf yX2_oddsOf, Cond.code yX2_oddsOf cX2_oddsOf 4 (some .int), Cond.methodLink RX2 50 yX2_areAtOdds, Cond.instanceMethod yX2_areAtOdds, Cond.selects RX2 yX2_areAtOdds yX2_areAtOdds, Cond.code yX2_areAtOdds cX2_areAtOdds 3 (some .boolean), Cond.methodLink RX4 186 yX0_refusalsOf, Cond.instanceMethod yX0_refusalsOf, Cond.selects RX0 yX0_refusalsOf yX0_refusalsOf, Cond.initialized RX0, Cond.code yX0_refusalsOf cX0_refusalsOf 2 (some .int), Cond.fieldLink RX0 24 "LayeredCharters$Guild" "refusals" "[I", Cond.static yX4_isBetween, Cond.code yX4_isBetween cX4_isBetween 3 (some .boolean), Cond.methodLink RL 25 yX4_rule, Cond.instanceMethod yX4_rule, Cond.selects RX4 yX4_rule yX4_rule, Cond.code yX4_rule cX4_rule 3 (some .int), Cond.fieldLink RX4 79 "LayeredCharters$Rules" "layers" "[I", Cond.fieldLink RX4 76 "LayeredCharters$Rules" "kinds" "[I", Cond.fieldLink RX4 142 "LayeredCharters$Rules" "crafts" "[I"]
def wsL_holds_r6 : List Cond := [Cond.fieldLink RX4 143 "LayeredCharters$Rules" "deeds" "[I", Cond.fieldLink RX4 72 "LayeredCharters$Rules" "seals" "[I", Cond.fieldLink RX4 157 "LayeredCharters$Rules" "pairs" "[I", Cond.methodLink RX4 65 yX2_has, Cond.methodLink RX4 153 yX2_oddsOf, Cond.methodLink RX4 160 yJ6_bitCount_0f7a4, Cond.methodLink RL 72 yX4_allowed, Cond.instanceMethod yX4_allowed, Cond.selects RX4 yX4_allowed yX4_allowed, Cond.code yX4_allowed cX4_allowed 7 (some .int), Cond.methodLink RX4 99 yX4_isCraft, Cond.static yX4_isCraft, Cond.code yX4_isCraft cX4_isCraft 1 (some .boolean), Cond.methodLink RX4 45 yX4_isBetween, Cond.methodLink RX4 123 yX4_isDeed, Cond.static yX4_isDeed, Cond.code yX4_isDeed cX4_isDeed 1 (some .boolean), Cond.methodLink RX4 102 yX4_isRank, Cond.static yX4_isRank, Cond.code yX4_isRank cX4_isRank 1 (some .boolean), Cond.methodLink RX4 129 yX4_pairsOf, Cond.static yX4_pairsOf, Cond.code yX4_pairsOf cX4_pairsOf 5 (some .int), Cond.methodLink RX4 171 yX2_allowsByLayers]
def wsL_holds_r7 : List Cond := [Cond.instanceMethod yX2_allowsByLayers, Cond.selects RX2 yX2_allowsByLayers yX2_allowsByLayers, Cond.code yX2_allowsByLayers cX2_allowsByLayers 5 (some .boolean), Cond.methodLink RX2 69 Lib.Math.max.name, Cond.methodLink RX2 65 yX2_strongest, Cond.instanceMethod yX2_strongest, Cond.selects RX2 yX2_strongest yX2_strongest, Cond.code yX2_strongest cX2_strongest 6 (some .int), Cond.methodLink RX4 133 yX2_reason, Cond.instanceMethod yX2_reason, Cond.selects RX2 yX2_reason yX2_reason, Cond.code yX2_reason cX2_reason 6 (some .int), Cond.methodLink RL 76 yX4_leastRank, Cond.instanceMethod yX4_leastRank, Cond.selects RX4 yX4_leastRank yX4_leastRank, Cond.code yX4_leastRank cX4_leastRank 3 (some .int), Cond.methodLink RX4 192 yX2_leastRankFor, Cond.instanceMethod yX2_leastRankFor, Cond.selects RX2 yX2_leastRankFor yX2_leastRankFor, Cond.code yX2_leastRankFor cX2_leastRankFor 3 (some .int), Cond.methodLink RL 15 yL_low, Cond.static yL_low, Cond.initialized RL, Cond.code yL_low cL_low 2 (some .int)]
def wsL_holds_r8 : List Cond := [Cond.constant RL 8 (2147483647), Cond.methodLink RL 60 yX4_why, Cond.instanceMethod yX4_why, Cond.selects RX4 yX4_why yX4_why, Cond.code yX4_why cX4_why 4 (some .int), Cond.methodLink RL 79 yL_why, Cond.static yL_why, Cond.code yL_why cL_why 13 (some .int), Cond.arrayClass .int, Cond.methodLink RL 64 yL_read, Cond.static yL_read, Cond.code yL_read cL_read 4 none, Cond.methodLink RL 68 yL_fits, Cond.static yL_fits, Cond.code yL_fits cL_fits 3 (some .boolean), Cond.methodLink RL 82 yX4_ifStruck, Cond.instanceMethod yX4_ifStruck, Cond.selects RX4 yX4_ifStruck yX4_ifStruck, Cond.code yX4_ifStruck cX4_ifStruck 2 (some .int), Cond.methodLink RL 44 yX4_member, Cond.instanceMethod yX4_member, Cond.selects RX4 yX4_member yX4_member, Cond.code yX4_member cX4_member 3 (some .int), Cond.fieldLink RX4 126 "LayeredCharters$Guild" "crafts" "[I"]
def wsL_holds_r9 : List Cond := [Cond.fieldLink RX4 120 "LayeredCharters$Guild" "ranks" "[I", Cond.fieldLink RX4 116 "LayeredCharters$Guild" "done" "[I", Cond.fieldLink RX4 168 "LayeredCharters$Guild" "refused" "[I", Cond.methodLink RX4 115 yX0_has, Cond.instanceMethod yX0_has, Cond.selects RX0 yX0_has yX0_has, Cond.code yX0_has cX0_has 2 (some .boolean), Cond.fieldLink RX0 27 "LayeredCharters$Guild" "size" "I", Cond.methodLink RX4 165 yX4_deedsAllowed, Cond.instanceMethod yX4_deedsAllowed, Cond.selects RX4 yX4_deedsAllowed yX4_deedsAllowed, Cond.code yX4_deedsAllowed cX4_deedsAllowed 3 (some .int), Cond.methodLink RX4 221 yX2_allowedPairs, Cond.instanceMethod yX2_allowedPairs, Cond.selects RX2 yX2_allowedPairs yX2_allowedPairs, Cond.code yX2_allowedPairs cX2_allowedPairs 4 (some .int)]
def wsL_holds : List Cond := .code yL_holds cL_holds 12 (some .boolean) :: ((wsL_holds_r1 ++ (wsL_holds_r2 ++ (wsL_holds_r3 ++ (wsL_holds_r4 ++ (wsL_holds_r5 ++ (wsL_holds_r6 ++ (wsL_holds_r7 ++ (wsL_holds_r8 ++ wsL_holds_r9)))))))) ++ wsX40 ++ wsX30 ++ wsX20 ++ wsX00 ++ wsX10)
def wsL_tries_r1 : List Cond := [Cond.methodLink RL 9 yX4_count, Cond.instanceMethod yX4_count, Cond.selects RX4 yX4_count yX4_count, Cond.initialized RX4, Cond.code yX4_count cX4_count 2 (some .int), Cond.fieldLink RX4 12 "LayeredCharters" "now" "LLayeredCharters$State;", Cond.fieldLink RX4 52 "LayeredCharters$State" "rules" "LLayeredCharters$Rules;", Cond.fieldLink RX4 55 "LayeredCharters$Rules" "size" "I", Cond.fieldLink RX4 105 "LayeredCharters$State" "guild" "LLayeredCharters$Guild;", Cond.fieldLink RX4 109 "LayeredCharters$Guild" "size" "I", Cond.fieldLink RX4 183 "LayeredCharters$Guild" "doneInAll" "I", Cond.fieldLink RX4 19 "LayeredCharters" "pad" "LLayeredCharters$Pad;", Cond.fieldLink RX4 189 "LayeredCharters$Pad" "length" "I", Cond.fieldLink RX4 30 "LayeredCharters" "remembered" "I", Cond.methodLink RX4 174 yX2_sizeOfKind, Cond.instanceMethod yX2_sizeOfKind, Cond.selects RX2 yX2_sizeOfKind yX2_sizeOfKind, Cond.initialized RX2, Cond.code yX2_sizeOfKind cX2_sizeOfKind 4 (some .int), Cond.fieldLink RX2 30 "LayeredCharters$Rules" "size" "I", Cond.fieldLink RX2 15 "LayeredCharters$Rules" "kinds" "[I", Cond.methodLink RX4 177 yX4_idleRules, Cond.instanceMethod yX4_idleRules, Cond.selects RX4 yX4_idleRules yX4_idleRules]
def wsL_tries_r2 : List Cond := [Cond.code yX4_idleRules cX4_idleRules 4 (some .int), Cond.methodLink RX4 146 yX2_triples, Cond.instanceMethod yX2_triples, Cond.selects RX2 yX2_triples yX2_triples, Cond.code yX2_triples cX2_triples 4 (some .int), Cond.methodLink RX2 58 yX2_permittedPairs, Cond.instanceMethod yX2_permittedPairs, Cond.selects RX2 yX2_permittedPairs yX2_permittedPairs, Cond.code yX2_permittedPairs cX2_permittedPairs 3 (some .int), Cond.fieldLink RX2 27 "LayeredCharters$Rules" "pairs" "[I", Cond.methodLink RX2 77 yJ6_bitCount_0f7a4, Cond.static yJ6_bitCount_0f7a4, Cond.initialized RJ6, Cond.code yJ6_bitCount_0f7a4 cJ6_bitCount_0f7a4 1 (some .int), Cond.constant RJ6 265 (1431655765), Cond.constant RJ6 266 (858993459), Cond.constant RJ6 267 (252645135), Cond.methodLink RX2 74 yX2_heldPairsOfSeal, Cond.instanceMethod yX2_heldPairsOfSeal, Cond.selects RX2 yX2_heldPairsOfSeal yX2_heldPairsOfSeal, Cond.code yX2_heldPairsOfSeal cX2_heldPairsOfSeal 4 (some .int), Cond.fieldLink RX2 24 "LayeredCharters$Rules" "seals" "[I", Cond.methodLink RX2 62 yX2_heldPairs, Cond.instanceMethod yX2_heldPairs]
def wsL_tries_r3 : List Cond := [Cond.selects RX2 yX2_heldPairs yX2_heldPairs, Cond.code yX2_heldPairs cX2_heldPairs 4 (some .int), Cond.methodLink RX2 82 yX2_lifts, Cond.instanceMethod yX2_lifts, Cond.selects RX2 yX2_lifts yX2_lifts, Cond.code yX2_lifts cX2_lifts 3 (some .boolean), Cond.fieldLink RX2 11 "LayeredCharters$Rules" "layers" "[I", Cond.methodLink RX4 149 yX4_isIdle, Cond.instanceMethod yX4_isIdle, Cond.selects RX4 yX4_isIdle yX4_isIdle, Cond.code yX4_isIdle cX4_isIdle 3 (some .boolean), Cond.methodLink RX4 195 yX4_triplesWithout, Cond.instanceMethod yX4_triplesWithout, Cond.selects RX4 yX4_triplesWithout yX4_triplesWithout, Cond.code yX4_triplesWithout cX4_triplesWithout 2 (some .int), Cond.fieldLink RX4 37 "LayeredCharters" "trial" "LLayeredCharters$Rules;", Cond.methodLink RX4 219 yX2_copyFrom, Cond.instanceMethod yX2_copyFrom, Cond.selects RX2 yX2_copyFrom yX2_copyFrom, Cond.code yX2_copyFrom cX2_copyFrom 2 none, Cond.fieldLink RX2 18 "LayeredCharters$Rules" "crafts" "[I", Cond.fieldLink RX2 21 "LayeredCharters$Rules" "deeds" "[I", Cond.static yX4_copyRow, Cond.code yX4_copyRow cX4_copyRow 2 none]
def wsL_tries_r4 : List Cond := [Cond.methodLink RX4 229 Lib.Math.min.name, Cond.static Lib.Math.min.name, Cond.initialized "java/lang/Math", Cond.code Lib.Math.min.name Lib.Math.min.code 2 (some .int), Cond.methodLink RX4 232 arraycopyName, Cond.native arraycopyName, Cond.static arraycopyName, Cond.initialized "java/lang/System", Cond.methodLink RX4 68 yX2_remove, Cond.instanceMethod yX2_remove, Cond.selects RX2 yX2_remove yX2_remove, Cond.code yX2_remove cX2_remove 2 none, Cond.methodLink RX2 42 yX2_has, Cond.instanceMethod yX2_has, Cond.selects RX2 yX2_has yX2_has, Cond.code yX2_has cX2_has 2 (some .boolean), Cond.static yX4_closeGap, Cond.code yX4_closeGap cX4_closeGap 3 none, Cond.methodLink RX4 224 Lib.Math.max.name, Cond.static Lib.Math.max.name, Cond.code Lib.Math.max.name Lib.Math.max.code 2 (some .int), Cond.methodLink RX4 180 yX2_oddPairs, Cond.instanceMethod yX2_oddPairs, Cond.selects RX2 yX2_oddPairs yX2_oddPairs]
def wsL_tries_r5 : List Cond := [Cond.code yX2_oddPairs cX2_oddPairs 3 (some .int), Cond.methodLink RX2 54 yX2_oddsOf, Cond.instanceMethod yX2_oddsOf, Cond.selects RX2 yX2_oddsOf yX2_oddsOf, Cond.code yX2_oddsOf cX2_oddsOf 4 (some .int), Cond.methodLink RX2 50 yX2_areAtOdds, Cond.instanceMethod yX2_areAtOdds, Cond.selects RX2 yX2_areAtOdds yX2_areAtOdds, Cond.code yX2_areAtOdds cX2_areAtOdds 3 (some .boolean), Cond.methodLink RX4 186 yX0_refusalsOf, Cond.instanceMethod yX0_refusalsOf, Cond.selects RX0 yX0_refusalsOf yX0_refusalsOf, Cond.initialized RX0, Cond.code yX0_refusalsOf cX0_refusalsOf 2 (some .int), Cond.fieldLink RX0 24 "LayeredCharters$Guild" "refusals" "[I", Cond.static yX4_isBetween, Cond.code yX4_isBetween cX4_isBetween 3 (some .boolean), Cond.methodLink RL 15 yL_low, Cond.static yL_low, Cond.initialized RL, Cond.code yL_low cL_low 2 (some .int), Cond.constant RL 8 (2147483647), Cond.methodLink RL 82 yX4_ifStruck, Cond.instanceMethod yX4_ifStruck]
def wsL_tries_r6 : List Cond := [Cond.selects RX4 yX4_ifStruck yX4_ifStruck, Cond.code yX4_ifStruck cX4_ifStruck 2 (some .int), Cond.methodLink RX4 65 yX2_has, Cond.methodLink RL 25 yX4_rule, Cond.instanceMethod yX4_rule, Cond.selects RX4 yX4_rule yX4_rule, Cond.code yX4_rule cX4_rule 3 (some .int), Cond.fieldLink RX4 79 "LayeredCharters$Rules" "layers" "[I", Cond.fieldLink RX4 76 "LayeredCharters$Rules" "kinds" "[I", Cond.fieldLink RX4 142 "LayeredCharters$Rules" "crafts" "[I", Cond.fieldLink RX4 143 "LayeredCharters$Rules" "deeds" "[I", Cond.fieldLink RX4 72 "LayeredCharters$Rules" "seals" "[I", Cond.fieldLink RX4 157 "LayeredCharters$Rules" "pairs" "[I", Cond.methodLink RX4 153 yX2_oddsOf, Cond.methodLink RX4 160 yJ6_bitCount_0f7a4, Cond.methodLink RL 28 yX4_strike, Cond.instanceMethod yX4_strike, Cond.selects RX4 yX4_strike yX4_strike, Cond.code yX4_strike cX4_strike 2 (some .int), Cond.methodLink RX4 58 yX4_remember, Cond.instanceMethod yX4_remember, Cond.selects RX4 yX4_remember yX4_remember, Cond.code yX4_remember cX4_remember 1 none, Cond.fieldLink RX4 27 "LayeredCharters" "history" "[LLayeredCharters$State;"]
def wsL_tries_r7 : List Cond := [Cond.methodLink RX4 216 yX4_dropOldest, Cond.instanceMethod yX4_dropOldest, Cond.selects RX4 yX4_dropOldest yX4_dropOldest, Cond.code yX4_dropOldest cX4_dropOldest 3 none, Cond.methodLink RX4 212 yX4_copyInto, Cond.instanceMethod yX4_copyInto, Cond.selects RX4 yX4_copyInto yX4_copyInto, Cond.code yX4_copyInto cX4_copyInto 3 (some (.object "LayeredCharters$State")), Cond.classLink RX4 9 RX3, Cond.instantiable RX3 2, Cond.initialized RX3, Cond.instanceMethod yX3_init, Cond.code yX3_init cX3_init 1 none, Cond.methodLink RX3 1 objectInit, Cond.instanceMethod objectInit, Cond.code objectInit ⟨#[0xb1]⟩ 1 none, Cond.classLink RX3 7 RX2, Cond.instantiable RX2 7, Cond.fieldLink RX3 10 "LayeredCharters$State" "rules" "LLayeredCharters$Rules;", Cond.classLink RX3 16 RX0, Cond.instantiable RX0 7, Cond.fieldLink RX3 19 "LayeredCharters$State" "guild" "LLayeredCharters$Guild;", Cond.instanceMethod yX2_init, Cond.code yX2_init cX2_init 1 none]
def wsL_tries_r8 : List Cond := [Cond.methodLink RX2 3 objectInit, Cond.arrayClass .int, Cond.instanceMethod yX0_init, Cond.code yX0_init cX0_init 1 none, Cond.methodLink RX0 3 objectInit, Cond.fieldLink RX0 9 "LayeredCharters$Guild" "crafts" "[I", Cond.fieldLink RX0 15 "LayeredCharters$Guild" "ranks" "[I", Cond.fieldLink RX0 18 "LayeredCharters$Guild" "done" "[I", Cond.fieldLink RX0 21 "LayeredCharters$Guild" "refused" "[I", Cond.fieldLink RX0 27 "LayeredCharters$Guild" "size" "I", Cond.fieldLink RX0 31 "LayeredCharters$Guild" "doneInAll" "I", Cond.methodLink RX4 208 yX3_copyFrom, Cond.instanceMethod yX3_copyFrom, Cond.selects RX3 yX3_copyFrom yX3_copyFrom, Cond.code yX3_copyFrom cX3_copyFrom 2 none, Cond.methodLink RX3 23 yX2_copyFrom, Cond.methodLink RX3 27 yX0_copyFrom, Cond.instanceMethod yX0_copyFrom, Cond.selects RX0 yX0_copyFrom yX0_copyFrom, Cond.code yX0_copyFrom cX0_copyFrom 2 none, Cond.methodLink RL 85 yX4_undo, Cond.instanceMethod yX4_undo, Cond.selects RX4 yX4_undo yX4_undo, Cond.code yX4_undo cX4_undo 2 (some .int)]
def wsL_tries_r9 : List Cond := [Cond.methodLink RX4 45 yX4_isBetween, Cond.methodLink RL 88 yX4_worstBan, Cond.instanceMethod yX4_worstBan, Cond.selects RX4 yX4_worstBan yX4_worstBan, Cond.code yX4_worstBan cX4_worstBan 5 (some .int), Cond.methodLink RL 91 yX4_bestWaiver, Cond.instanceMethod yX4_bestWaiver, Cond.selects RX4 yX4_bestWaiver yX4_bestWaiver, Cond.code yX4_bestWaiver cX4_bestWaiver 6 (some .int), Cond.methodLink RX4 49 yX4_isSeal, Cond.static yX4_isSeal, Cond.code yX4_isSeal cX4_isSeal 1 (some .boolean), Cond.methodLink RX4 198 yX4_triplesWithWaiver, Cond.instanceMethod yX4_triplesWithWaiver, Cond.selects RX4 yX4_triplesWithWaiver yX4_triplesWithWaiver, Cond.code yX4_triplesWithWaiver cX4_triplesWithWaiver 3 (some .int), Cond.methodLink RX4 61 yX2_append, Cond.instanceMethod yX2_append, Cond.selects RX2 yX2_append yX2_append, Cond.code yX2_append cX2_append 6 none, Cond.static yX4_pairsOf, Cond.code yX4_pairsOf cX4_pairsOf 5 (some .int), Cond.methodLink RL 21 yX4_add, Cond.instanceMethod yX4_add]
def wsL_tries_r10 : List Cond := [Cond.selects RX4 yX4_add yX4_add, Cond.code yX4_add cX4_add 6 (some .int), Cond.methodLink RX4 41 yX4_isLayer, Cond.static yX4_isLayer, Cond.code yX4_isLayer cX4_isLayer 1 (some .boolean)]
def wsL_tries : List Cond := .code yL_tries cL_tries 14 (some .boolean) :: ((wsL_tries_r1 ++ (wsL_tries_r2 ++ (wsL_tries_r3 ++ (wsL_tries_r4 ++ (wsL_tries_r5 ++ (wsL_tries_r6 ++ (wsL_tries_r7 ++ (wsL_tries_r8 ++ (wsL_tries_r9 ++ wsL_tries_r10))))))))) ++ wsX40 ++ wsX30 ++ wsX20 ++ wsX00 ++ wsX10)
def wsL_law_r1 : List Cond := [Cond.classLink RL 10 RX4, Cond.instantiable RX4 6, Cond.initialized RX4, Cond.arrayClass .int, Cond.methodLink RL 94 yX4_init, Cond.instanceMethod yX4_init, Cond.code yX4_init cX4_init 1 none, Cond.methodLink RX4 3 objectInit, Cond.instanceMethod objectInit, Cond.code objectInit ⟨#[0xb1]⟩ 1 none, Cond.classLink RX4 9 RX3, Cond.instantiable RX3 2, Cond.initialized RX3, Cond.fieldLink RX4 12 "LayeredCharters" "now" "LLayeredCharters$State;", Cond.classLink RX4 16 RX1, Cond.instantiable RX1 2, Cond.initialized RX1, Cond.fieldLink RX4 19 "LayeredCharters" "pad" "LLayeredCharters$Pad;", Cond.fieldLink RX4 23 "LayeredCharters" "slots" "[LLayeredCharters$State;", Cond.fieldLink RX4 27 "LayeredCharters" "history" "[LLayeredCharters$State;", Cond.fieldLink RX4 30 "LayeredCharters" "remembered" "I", Cond.classLink RX4 34 RX2, Cond.instantiable RX2 7, Cond.initialized RX2]
def wsL_law_r2 : List Cond := [Cond.fieldLink RX4 37 "LayeredCharters" "trial" "LLayeredCharters$Rules;", Cond.instanceMethod yX3_init, Cond.code yX3_init cX3_init 1 none, Cond.methodLink RX3 1 objectInit, Cond.classLink RX3 7 RX2, Cond.fieldLink RX3 10 "LayeredCharters$State" "rules" "LLayeredCharters$Rules;", Cond.classLink RX3 16 RX0, Cond.instantiable RX0 7, Cond.initialized RX0, Cond.fieldLink RX3 19 "LayeredCharters$State" "guild" "LLayeredCharters$Guild;", Cond.instanceMethod yX2_init, Cond.code yX2_init cX2_init 1 none, Cond.methodLink RX2 3 objectInit, Cond.fieldLink RX2 11 "LayeredCharters$Rules" "layers" "[I", Cond.fieldLink RX2 15 "LayeredCharters$Rules" "kinds" "[I", Cond.fieldLink RX2 18 "LayeredCharters$Rules" "crafts" "[I", Cond.fieldLink RX2 21 "LayeredCharters$Rules" "deeds" "[I", Cond.fieldLink RX2 24 "LayeredCharters$Rules" "seals" "[I", Cond.fieldLink RX2 27 "LayeredCharters$Rules" "pairs" "[I", Cond.fieldLink RX2 30 "LayeredCharters$Rules" "size" "I", Cond.instanceMethod yX0_init, Cond.code yX0_init cX0_init 1 none, Cond.methodLink RX0 3 objectInit, Cond.fieldLink RX0 9 "LayeredCharters$Guild" "crafts" "[I"]
def wsL_law_r3 : List Cond := [Cond.fieldLink RX0 15 "LayeredCharters$Guild" "ranks" "[I", Cond.fieldLink RX0 18 "LayeredCharters$Guild" "done" "[I", Cond.fieldLink RX0 21 "LayeredCharters$Guild" "refused" "[I", Cond.fieldLink RX0 24 "LayeredCharters$Guild" "refusals" "[I", Cond.fieldLink RX0 27 "LayeredCharters$Guild" "size" "I", Cond.fieldLink RX0 31 "LayeredCharters$Guild" "doneInAll" "I", Cond.instanceMethod yX1_init, Cond.code yX1_init cX1_init 1 none, Cond.methodLink RX1 3 objectInit, Cond.arrayClass .char, Cond.fieldLink RX1 9 "LayeredCharters$Pad" "signs" "[C", Cond.fieldLink RX1 15 "LayeredCharters$Pad" "length" "I", Cond.methodLink RL 95 yL_holds, Cond.static yL_holds, Cond.initialized RL, Cond.code yL_holds cL_holds 12 (some .boolean), Cond.methodLink RL 9 yX4_count, Cond.instanceMethod yX4_count, Cond.selects RX4 yX4_count yX4_count, Cond.code yX4_count cX4_count 2 (some .int), Cond.fieldLink RX4 52 "LayeredCharters$State" "rules" "LLayeredCharters$Rules;", Cond.fieldLink RX4 55 "LayeredCharters$Rules" "size" "I", Cond.fieldLink RX4 105 "LayeredCharters$State" "guild" "LLayeredCharters$Guild;", Cond.fieldLink RX4 109 "LayeredCharters$Guild" "size" "I"]
def wsL_law_r4 : List Cond := [Cond.fieldLink RX4 183 "LayeredCharters$Guild" "doneInAll" "I", Cond.fieldLink RX4 189 "LayeredCharters$Pad" "length" "I", Cond.methodLink RX4 174 yX2_sizeOfKind, Cond.instanceMethod yX2_sizeOfKind, Cond.selects RX2 yX2_sizeOfKind yX2_sizeOfKind, Cond.code yX2_sizeOfKind cX2_sizeOfKind 4 (some .int), Cond.methodLink RX4 177 yX4_idleRules, Cond.instanceMethod yX4_idleRules, Cond.selects RX4 yX4_idleRules yX4_idleRules, Cond.code yX4_idleRules cX4_idleRules 4 (some .int), Cond.methodLink RX4 146 yX2_triples, Cond.instanceMethod yX2_triples, Cond.selects RX2 yX2_triples yX2_triples, Cond.code yX2_triples cX2_triples 4 (some .int), Cond.methodLink RX2 58 yX2_permittedPairs, Cond.instanceMethod yX2_permittedPairs, Cond.selects RX2 yX2_permittedPairs yX2_permittedPairs, Cond.code yX2_permittedPairs cX2_permittedPairs 3 (some .int), Cond.methodLink RX2 77 yJ6_bitCount_0f7a4, Cond.static yJ6_bitCount_0f7a4, Cond.initialized RJ6, Cond.code yJ6_bitCount_0f7a4 cJ6_bitCount_0f7a4 1 (some .int), Cond.constant RJ6 265 (1431655765), Cond.constant RJ6 266 (858993459)]
def wsL_law_r5 : List Cond := [Cond.constant RJ6 267 (252645135), Cond.methodLink RX2 74 yX2_heldPairsOfSeal, Cond.instanceMethod yX2_heldPairsOfSeal, Cond.selects RX2 yX2_heldPairsOfSeal yX2_heldPairsOfSeal, Cond.code yX2_heldPairsOfSeal cX2_heldPairsOfSeal 4 (some .int), Cond.methodLink RX2 62 yX2_heldPairs, Cond.instanceMethod yX2_heldPairs, Cond.selects RX2 yX2_heldPairs yX2_heldPairs, Cond.code yX2_heldPairs cX2_heldPairs 4 (some .int), Cond.methodLink RX2 82 yX2_lifts, Cond.instanceMethod yX2_lifts, Cond.selects RX2 yX2_lifts yX2_lifts, Cond.code yX2_lifts cX2_lifts 3 (some .boolean), Cond.methodLink RX4 149 yX4_isIdle, Cond.instanceMethod yX4_isIdle, Cond.selects RX4 yX4_isIdle yX4_isIdle, Cond.code yX4_isIdle cX4_isIdle 3 (some .boolean), Cond.methodLink RX4 195 yX4_triplesWithout, Cond.instanceMethod yX4_triplesWithout, Cond.selects RX4 yX4_triplesWithout yX4_triplesWithout, Cond.code yX4_triplesWithout cX4_triplesWithout 2 (some .int), Cond.methodLink RX4 219 yX2_copyFrom, Cond.instanceMethod yX2_copyFrom, Cond.selects RX2 yX2_copyFrom yX2_copyFrom]
def wsL_law_r6 : List Cond := [Cond.code yX2_copyFrom cX2_copyFrom 2 none, Cond.static yX4_copyRow, Cond.code yX4_copyRow cX4_copyRow 2 none, Cond.methodLink RX4 229 Lib.Math.min.name, Cond.static Lib.Math.min.name, Cond.initialized "java/lang/Math", Cond.code Lib.Math.min.name Lib.Math.min.code 2 (some .int), Cond.methodLink RX4 232 arraycopyName, Cond.native arraycopyName, Cond.static arraycopyName, Cond.initialized "java/lang/System", Cond.methodLink RX4 68 yX2_remove, Cond.instanceMethod yX2_remove, Cond.selects RX2 yX2_remove yX2_remove, Cond.code yX2_remove cX2_remove 2 none, Cond.methodLink RX2 42 yX2_has, Cond.instanceMethod yX2_has, Cond.selects RX2 yX2_has yX2_has, Cond.code yX2_has cX2_has 2 (some .boolean), Cond.static yX4_closeGap, Cond.code yX4_closeGap cX4_closeGap 3 none, Cond.methodLink RX4 224 Lib.Math.max.name, Cond.static Lib.Math.max.name, Cond.code Lib.Math.max.name Lib.Math.max.code 2 (some .int)]
def wsL_law_r7 : List Cond := [Cond.methodLink RX4 180 yX2_oddPairs, Cond.instanceMethod yX2_oddPairs, Cond.selects RX2 yX2_oddPairs yX2_oddPairs, Cond.code yX2_oddPairs cX2_oddPairs 3 (some .int), Cond.methodLink RX2 54 yX2_oddsOf, Cond.instanceMethod yX2_oddsOf, Cond.selects RX2 yX2_oddsOf yX2_oddsOf, Cond.code yX2_oddsOf cX2_oddsOf 4 (some .int), Cond.methodLink RX2 50 yX2_areAtOdds, Cond.instanceMethod yX2_areAtOdds, Cond.selects RX2 yX2_areAtOdds yX2_areAtOdds, Cond.code yX2_areAtOdds cX2_areAtOdds 3 (some .boolean), Cond.methodLink RX4 186 yX0_refusalsOf, Cond.instanceMethod yX0_refusalsOf, Cond.selects RX0 yX0_refusalsOf yX0_refusalsOf, Cond.code yX0_refusalsOf cX0_refusalsOf 2 (some .int), Cond.static yX4_isBetween, Cond.code yX4_isBetween cX4_isBetween 3 (some .boolean), Cond.methodLink RL 25 yX4_rule, Cond.instanceMethod yX4_rule, Cond.selects RX4 yX4_rule yX4_rule, Cond.code yX4_rule cX4_rule 3 (some .int), Cond.fieldLink RX4 79 "LayeredCharters$Rules" "layers" "[I", Cond.fieldLink RX4 76 "LayeredCharters$Rules" "kinds" "[I"]
def wsL_law_r8 : List Cond := [Cond.fieldLink RX4 142 "LayeredCharters$Rules" "crafts" "[I", Cond.fieldLink RX4 143 "LayeredCharters$Rules" "deeds" "[I", Cond.fieldLink RX4 72 "LayeredCharters$Rules" "seals" "[I", Cond.fieldLink RX4 157 "LayeredCharters$Rules" "pairs" "[I", Cond.methodLink RX4 65 yX2_has, Cond.methodLink RX4 153 yX2_oddsOf, Cond.methodLink RX4 160 yJ6_bitCount_0f7a4, Cond.methodLink RL 72 yX4_allowed, Cond.instanceMethod yX4_allowed, Cond.selects RX4 yX4_allowed yX4_allowed, Cond.code yX4_allowed cX4_allowed 7 (some .int), Cond.methodLink RX4 99 yX4_isCraft, Cond.static yX4_isCraft, Cond.code yX4_isCraft cX4_isCraft 1 (some .boolean), Cond.methodLink RX4 45 yX4_isBetween, Cond.methodLink RX4 123 yX4_isDeed, Cond.static yX4_isDeed, Cond.code yX4_isDeed cX4_isDeed 1 (some .boolean), Cond.methodLink RX4 102 yX4_isRank, Cond.static yX4_isRank, Cond.code yX4_isRank cX4_isRank 1 (some .boolean), Cond.methodLink RX4 129 yX4_pairsOf, Cond.static yX4_pairsOf, Cond.code yX4_pairsOf cX4_pairsOf 5 (some .int)]
def wsL_law_r9 : List Cond := [Cond.methodLink RX4 171 yX2_allowsByLayers, Cond.instanceMethod yX2_allowsByLayers, Cond.selects RX2 yX2_allowsByLayers yX2_allowsByLayers, Cond.code yX2_allowsByLayers cX2_allowsByLayers 5 (some .boolean), Cond.methodLink RX2 69 Lib.Math.max.name, Cond.methodLink RX2 65 yX2_strongest, Cond.instanceMethod yX2_strongest, Cond.selects RX2 yX2_strongest yX2_strongest, Cond.code yX2_strongest cX2_strongest 6 (some .int), Cond.methodLink RX4 133 yX2_reason, Cond.instanceMethod yX2_reason, Cond.selects RX2 yX2_reason yX2_reason, Cond.code yX2_reason cX2_reason 6 (some .int), Cond.methodLink RL 76 yX4_leastRank, Cond.instanceMethod yX4_leastRank, Cond.selects RX4 yX4_leastRank yX4_leastRank, Cond.code yX4_leastRank cX4_leastRank 3 (some .int), Cond.methodLink RX4 192 yX2_leastRankFor, Cond.instanceMethod yX2_leastRankFor, Cond.selects RX2 yX2_leastRankFor yX2_leastRankFor, Cond.code yX2_leastRankFor cX2_leastRankFor 3 (some .int), Cond.methodLink RL 15 yL_low, Cond.static yL_low, Cond.code yL_low cL_low 2 (some .int)]
def wsL_law_r10 : List Cond := [Cond.constant RL 8 (2147483647), Cond.methodLink RL 60 yX4_why, Cond.instanceMethod yX4_why, Cond.selects RX4 yX4_why yX4_why, Cond.code yX4_why cX4_why 4 (some .int), Cond.methodLink RL 79 yL_why, Cond.static yL_why, Cond.code yL_why cL_why 13 (some .int), Cond.methodLink RL 64 yL_read, Cond.static yL_read, Cond.code yL_read cL_read 4 none, Cond.methodLink RL 68 yL_fits, Cond.static yL_fits, Cond.code yL_fits cL_fits 3 (some .boolean), Cond.methodLink RL 82 yX4_ifStruck, Cond.instanceMethod yX4_ifStruck, Cond.selects RX4 yX4_ifStruck yX4_ifStruck, Cond.code yX4_ifStruck cX4_ifStruck 2 (some .int), Cond.methodLink RL 44 yX4_member, Cond.instanceMethod yX4_member, Cond.selects RX4 yX4_member yX4_member, Cond.code yX4_member cX4_member 3 (some .int), Cond.fieldLink RX4 126 "LayeredCharters$Guild" "crafts" "[I", Cond.fieldLink RX4 120 "LayeredCharters$Guild" "ranks" "[I"]
def wsL_law_r11 : List Cond := [Cond.fieldLink RX4 116 "LayeredCharters$Guild" "done" "[I", Cond.fieldLink RX4 168 "LayeredCharters$Guild" "refused" "[I", Cond.methodLink RX4 115 yX0_has, Cond.instanceMethod yX0_has, Cond.selects RX0 yX0_has yX0_has, Cond.code yX0_has cX0_has 2 (some .boolean), Cond.methodLink RX4 165 yX4_deedsAllowed, Cond.instanceMethod yX4_deedsAllowed, Cond.selects RX4 yX4_deedsAllowed yX4_deedsAllowed, Cond.code yX4_deedsAllowed cX4_deedsAllowed 3 (some .int), Cond.methodLink RX4 221 yX2_allowedPairs, Cond.instanceMethod yX2_allowedPairs, Cond.selects RX2 yX2_allowedPairs yX2_allowedPairs, Cond.code yX2_allowedPairs cX2_allowedPairs 4 (some .int), Cond.methodLink RL 85 yX4_undo, Cond.instanceMethod yX4_undo, Cond.selects RX4 yX4_undo yX4_undo, Cond.code yX4_undo cX4_undo 2 (some .int), Cond.methodLink RX4 208 yX3_copyFrom, Cond.instanceMethod yX3_copyFrom, Cond.selects RX3 yX3_copyFrom yX3_copyFrom, Cond.code yX3_copyFrom cX3_copyFrom 2 none, Cond.methodLink RX3 23 yX2_copyFrom, Cond.methodLink RX3 27 yX0_copyFrom]
def wsL_law_r12 : List Cond := [Cond.instanceMethod yX0_copyFrom, Cond.selects RX0 yX0_copyFrom yX0_copyFrom, Cond.code yX0_copyFrom cX0_copyFrom 2 none, Cond.methodLink RL 99 yL_cell, Cond.static yL_cell, Cond.code yL_cell cL_cell 2 (some .int), Cond.constant RL 7 (40503), Cond.methodLink RL 103 yL_change, Cond.static yL_change, Cond.code yL_change cL_change 15 (some .boolean), Cond.methodLink RL 21 yX4_add, Cond.instanceMethod yX4_add, Cond.selects RX4 yX4_add yX4_add, Cond.code yX4_add cX4_add 6 (some .int), Cond.methodLink RX4 41 yX4_isLayer, Cond.static yX4_isLayer, Cond.code yX4_isLayer cX4_isLayer 1 (some .boolean), Cond.methodLink RX4 49 yX4_isSeal, Cond.static yX4_isSeal, Cond.code yX4_isSeal cX4_isSeal 1 (some .boolean), Cond.methodLink RX4 58 yX4_remember, Cond.instanceMethod yX4_remember, Cond.selects RX4 yX4_remember yX4_remember, Cond.code yX4_remember cX4_remember 1 none]
def wsL_law_r13 : List Cond := [Cond.methodLink RX4 216 yX4_dropOldest, Cond.instanceMethod yX4_dropOldest, Cond.selects RX4 yX4_dropOldest yX4_dropOldest, Cond.code yX4_dropOldest cX4_dropOldest 3 none, Cond.methodLink RX4 212 yX4_copyInto, Cond.instanceMethod yX4_copyInto, Cond.selects RX4 yX4_copyInto yX4_copyInto, Cond.code yX4_copyInto cX4_copyInto 3 (some (.object "LayeredCharters$State")), Cond.methodLink RX4 61 yX2_append, Cond.instanceMethod yX2_append, Cond.selects RX2 yX2_append yX2_append, Cond.code yX2_append cX2_append 6 none, Cond.methodLink RL 28 yX4_strike, Cond.instanceMethod yX4_strike, Cond.selects RX4 yX4_strike yX4_strike, Cond.code yX4_strike cX4_strike 2 (some .int), Cond.methodLink RL 31 yX4_seal, Cond.instanceMethod yX4_seal, Cond.selects RX4 yX4_seal yX4_seal, Cond.code yX4_seal cX4_seal 4 (some .int), Cond.methodLink RL 34 yX4_move, Cond.instanceMethod yX4_move, Cond.selects RX4 yX4_move yX4_move, Cond.code yX4_move cX4_move 4 (some .int)]
def wsL_law_r14 : List Cond := [Cond.methodLink RL 37 yX4_tidy, Cond.instanceMethod yX4_tidy, Cond.selects RX4 yX4_tidy yX4_tidy, Cond.code yX4_tidy cX4_tidy 3 (some .int), Cond.methodLink RX4 96 yX4_firstIdle, Cond.instanceMethod yX4_firstIdle, Cond.selects RX4 yX4_firstIdle yX4_firstIdle, Cond.code yX4_firstIdle cX4_firstIdle 3 (some .int), Cond.methodLink RL 41 yX4_join, Cond.instanceMethod yX4_join, Cond.selects RX4 yX4_join yX4_join, Cond.code yX4_join cX4_join 3 (some .int), Cond.methodLink RX4 112 yX0_append, Cond.instanceMethod yX0_append, Cond.selects RX0 yX0_append yX0_append, Cond.code yX0_append cX0_append 3 none, Cond.methodLink RL 47 yX4_leave, Cond.instanceMethod yX4_leave, Cond.selects RX4 yX4_leave yX4_leave, Cond.code yX4_leave cX4_leave 3 (some .int), Cond.methodLink RX4 119 yX0_remove, Cond.instanceMethod yX0_remove, Cond.selects RX0 yX0_remove yX0_remove, Cond.code yX0_remove cX0_remove 2 none]
def wsL_law_r15 : List Cond := [Cond.methodLink RX0 38 yX0_has, Cond.methodLink RL 50 yX4_rank, Cond.instanceMethod yX4_rank, Cond.selects RX4 yX4_rank yX4_rank, Cond.code yX4_rank cX4_rank 4 (some .int), Cond.methodLink RL 53 yL_acts, Cond.static yL_acts, Cond.code yL_acts cL_acts 10 (some .boolean), Cond.methodLink RL 57 yX4_act, Cond.instanceMethod yX4_act, Cond.selects RX4 yX4_act yX4_act, Cond.code yX4_act cX4_act 4 (some .int), Cond.methodLink RX4 136 yX0_noteDone, Cond.instanceMethod yX0_noteDone, Cond.selects RX0 yX0_noteDone yX0_noteDone, Cond.code yX0_noteDone cX0_noteDone 2 none, Cond.methodLink RX4 139 yX0_noteRefusal, Cond.instanceMethod yX0_noteRefusal, Cond.selects RX0 yX0_noteRefusal yX0_noteRefusal, Cond.code yX0_noteRefusal cX0_noteRefusal 3 none, Cond.methodLink RL 107 yL_tries, Cond.static yL_tries, Cond.code yL_tries cL_tries 14 (some .boolean), Cond.methodLink RL 88 yX4_worstBan]
def wsL_law_r16 : List Cond := [Cond.instanceMethod yX4_worstBan, Cond.selects RX4 yX4_worstBan yX4_worstBan, Cond.code yX4_worstBan cX4_worstBan 5 (some .int), Cond.methodLink RL 91 yX4_bestWaiver, Cond.instanceMethod yX4_bestWaiver, Cond.selects RX4 yX4_bestWaiver yX4_bestWaiver, Cond.code yX4_bestWaiver cX4_bestWaiver 6 (some .int), Cond.methodLink RX4 198 yX4_triplesWithWaiver, Cond.instanceMethod yX4_triplesWithWaiver, Cond.selects RX4 yX4_triplesWithWaiver yX4_triplesWithWaiver, Cond.code yX4_triplesWithWaiver cX4_triplesWithWaiver 3 (some .int)]
def wsL_law : List Cond := (wsL_law_r1 ++ (wsL_law_r2 ++ (wsL_law_r3 ++ (wsL_law_r4 ++ (wsL_law_r5 ++ (wsL_law_r6 ++ (wsL_law_r7 ++ (wsL_law_r8 ++ (wsL_law_r9 ++ (wsL_law_r10 ++ (wsL_law_r11 ++ (wsL_law_r12 ++ (wsL_law_r13 ++ (wsL_law_r14 ++ (wsL_law_r15 ++ wsL_law_r16))))))))))))))) ++ wsX40 ++ wsX30 ++ wsX10 ++ wsX20 ++ wsX00 ++ ([] : List Cond)
theorem dL_cell_0 : decode cL_cell 0 = .ok (.iload_n 1, 1) := by decide +kernel
theorem dL_cell_1 : decode cL_cell 1 = .ok (.aload_n 0, 1) := by decide +kernel
theorem dL_cell_2 : decode cL_cell 2 = .ok (.arraylength, 1) := by decide +kernel
theorem dL_cell_3 : decode cL_cell 3 = .ok (.if_icmp .ge 9, 3) := by decide +kernel
theorem dL_cell_6 : decode cL_cell 6 = .ok (.aload_n 0, 1) := by decide +kernel
theorem dL_cell_7 : decode cL_cell 7 = .ok (.iload_n 1, 1) := by decide +kernel
theorem dL_cell_8 : decode cL_cell 8 = .ok (.iaload, 1) := by decide +kernel
theorem dL_cell_9 : decode cL_cell 9 = .ok (.goto 11, 3) := by decide +kernel
theorem dL_cell_12 : decode cL_cell 12 = .ok (.ldc 7, 2) := by decide +kernel
theorem dL_cell_14 : decode cL_cell 14 = .ok (.iload_n 1, 1) := by decide +kernel
theorem dL_cell_15 : decode cL_cell 15 = .ok (.imul, 1) := by decide +kernel
theorem dL_cell_16 : decode cL_cell 16 = .ok (.sipush 977, 3) := by decide +kernel
theorem dL_cell_19 : decode cL_cell 19 = .ok (.iadd, 1) := by decide +kernel
theorem dL_cell_20 : decode cL_cell 20 = .ok (.ireturn, 1) := by decide +kernel
theorem dL_low_0 : decode cL_low 0 = .ok (.iload_n 0, 1) := by decide +kernel
theorem dL_low_1 : decode cL_low 1 = .ok (.ldc 8, 2) := by decide +kernel
theorem dL_low_3 : decode cL_low 3 = .ok (.iand, 1) := by decide +kernel
theorem dL_low_4 : decode cL_low 4 = .ok (.iload_n 1, 1) := by decide +kernel
theorem dL_low_5 : decode cL_low 5 = .ok (.irem, 1) := by decide +kernel
theorem dL_low_6 : decode cL_low 6 = .ok (.ireturn, 1) := by decide +kernel
theorem dL_change_0 : decode cL_change 0 = .ok (.aload_n 0, 1) := by decide +kernel
theorem dL_change_1 : decode cL_change 1 = .ok (.iconst 0, 1) := by decide +kernel
theorem dL_change_2 : decode cL_change 2 = .ok (.invokevirtual 9, 3) := by decide +kernel
theorem dL_change_5 : decode cL_change 5 = .ok (.istore 5, 2) := by decide +kernel
theorem dL_change_7 : decode cL_change 7 = .ok (.iload_n 3, 1) := by decide +kernel
theorem dL_change_8 : decode cL_change 8 = .ok (.iload 5, 2) := by decide +kernel
theorem dL_change_10 : decode cL_change 10 = .ok (.iconst 1, 1) := by decide +kernel
theorem dL_change_11 : decode cL_change 11 = .ok (.iadd, 1) := by decide +kernel
theorem dL_change_12 : decode cL_change 12 = .ok (.invokestatic 15, 3) := by decide +kernel
theorem dL_change_15 : decode cL_change 15 = .ok (.istore 6, 2) := by decide +kernel
theorem dL_change_17 : decode cL_change 17 = .ok (.iconst 0, 1) := by decide +kernel
theorem dL_change_18 : decode cL_change 18 = .ok (.istore 7, 2) := by decide +kernel
theorem dL_change_20 : decode cL_change 20 = .ok (.iconst 0, 1) := by decide +kernel
theorem dL_change_21 : decode cL_change 21 = .ok (.istore 8, 2) := by decide +kernel
theorem dL_change_23 : decode cL_change 23 = .ok (.aload_n 0, 1) := by decide +kernel
theorem dL_change_24 : decode cL_change 24 = .ok (.bipush 7, 2) := by decide +kernel
theorem dL_change_26 : decode cL_change 26 = .ok (.invokevirtual 9, 3) := by decide +kernel
theorem dL_change_29 : decode cL_change 29 = .ok (.istore 9, 2) := by decide +kernel
theorem dL_change_31 : decode cL_change 31 = .ok (.iload_n 3, 1) := by decide +kernel
theorem dL_change_32 : decode cL_change 32 = .ok (.iload 9, 2) := by decide +kernel
theorem dL_change_34 : decode cL_change 34 = .ok (.iconst 1, 1) := by decide +kernel
theorem dL_change_35 : decode cL_change 35 = .ok (.iadd, 1) := by decide +kernel
theorem dL_change_36 : decode cL_change 36 = .ok (.invokestatic 15, 3) := by decide +kernel
theorem dL_change_39 : decode cL_change 39 = .ok (.istore 10, 2) := by decide +kernel
theorem dL_change_41 : decode cL_change 41 = .ok (.iload_n 2, 1) := by decide +kernel
theorem dL_change_42 : decode cL_change 42 = .ok (.tableswitch 545 0 11 #[62, 62, 62, 62, 62, 210, 240, 299, 364, 438, 438, 477], 62) := by decide +kernel
theorem dL_change_104 : decode cL_change 104 = .ok (.iload 4, 2) := by decide +kernel
theorem dL_change_106 : decode cL_change 106 = .ok (.iconst 5, 1) := by decide +kernel
theorem dL_change_107 : decode cL_change 107 = .ok (.invokestatic 15, 3) := by decide +kernel
theorem dL_change_110 : decode cL_change 110 = .ok (.ifCond .ne 7, 3) := by decide +kernel
theorem dL_change_113 : decode cL_change 113 = .ok (.iconst 0, 1) := by decide +kernel
theorem dL_change_114 : decode cL_change 114 = .ok (.goto 13, 3) := by decide +kernel
theorem dL_change_117 : decode cL_change 117 = .ok (.iconst 1, 1) := by decide +kernel
theorem dL_change_118 : decode cL_change 118 = .ok (.iload 4, 2) := by decide +kernel
theorem dL_change_120 : decode cL_change 120 = .ok (.iconst 3, 1) := by decide +kernel
theorem dL_change_121 : decode cL_change 121 = .ok (.ishr, 1) := by decide +kernel
theorem dL_change_122 : decode cL_change 122 = .ok (.iconst 2, 1) := by decide +kernel
theorem dL_change_123 : decode cL_change 123 = .ok (.invokestatic 15, 3) := by decide +kernel
theorem dL_change_126 : decode cL_change 126 = .ok (.iadd, 1) := by decide +kernel
theorem dL_change_127 : decode cL_change 127 = .ok (.istore 11, 2) := by decide +kernel
theorem dL_change_129 : decode cL_change 129 = .ok (.iload_n 3, 1) := by decide +kernel
theorem dL_change_130 : decode cL_change 130 = .ok (.iconst 5, 1) := by decide +kernel
theorem dL_change_131 : decode cL_change 131 = .ok (.invokestatic 15, 3) := by decide +kernel
theorem dL_change_134 : decode cL_change 134 = .ok (.istore 12, 2) := by decide +kernel
theorem dL_change_136 : decode cL_change 136 = .ok (.aload_n 0, 1) := by decide +kernel
theorem dL_change_137 : decode cL_change 137 = .ok (.iload 12, 2) := by decide +kernel
theorem dL_change_139 : decode cL_change 139 = .ok (.iload 11, 2) := by decide +kernel
theorem dL_change_141 : decode cL_change 141 = .ok (.iload_n 3, 1) := by decide +kernel
theorem dL_change_142 : decode cL_change 142 = .ok (.iconst 3, 1) := by decide +kernel
theorem dL_change_143 : decode cL_change 143 = .ok (.ishr, 1) := by decide +kernel
theorem dL_change_144 : decode cL_change 144 = .ok (.bipush 6, 2) := by decide +kernel
theorem dL_change_146 : decode cL_change 146 = .ok (.invokestatic 15, 3) := by decide +kernel
theorem dL_change_149 : decode cL_change 149 = .ok (.iload_n 3, 1) := by decide +kernel
theorem dL_change_150 : decode cL_change 150 = .ok (.bipush 6, 2) := by decide +kernel
theorem dL_change_152 : decode cL_change 152 = .ok (.ishr, 1) := by decide +kernel
theorem dL_change_153 : decode cL_change 153 = .ok (.bipush 7, 2) := by decide +kernel
theorem dL_change_155 : decode cL_change 155 = .ok (.invokestatic 15, 3) := by decide +kernel
theorem dL_change_158 : decode cL_change 158 = .ok (.iconst 1, 1) := by decide +kernel
theorem dL_change_159 : decode cL_change 159 = .ok (.iload 4, 2) := by decide +kernel
theorem dL_change_161 : decode cL_change 161 = .ok (.iconst 5, 1) := by decide +kernel
theorem dL_change_162 : decode cL_change 162 = .ok (.ishr, 1) := by decide +kernel
theorem dL_change_163 : decode cL_change 163 = .ok (.bipush 9, 2) := by decide +kernel
theorem dL_change_165 : decode cL_change 165 = .ok (.invokestatic 15, 3) := by decide +kernel
theorem dL_change_168 : decode cL_change 168 = .ok (.iadd, 1) := by decide +kernel
theorem dL_change_169 : decode cL_change 169 = .ok (.invokevirtual 21, 3) := by decide +kernel
theorem dL_change_172 : decode cL_change 172 = .ok (.istore 8, 2) := by decide +kernel
theorem dL_change_174 : decode cL_change 174 = .ok (.iload 8, 2) := by decide +kernel
theorem dL_change_176 : decode cL_change 176 = .ok (.iload 11, 2) := by decide +kernel
theorem dL_change_178 : decode cL_change 178 = .ok (.ifCond .ne 13, 3) := by decide +kernel
theorem dL_change_181 : decode cL_change 181 = .ok (.iload 12, 2) := by decide +kernel
theorem dL_change_183 : decode cL_change 183 = .ok (.ifCond .le 8, 3) := by decide +kernel
theorem dL_change_186 : decode cL_change 186 = .ok (.bipush (-5), 2) := by decide +kernel
theorem dL_change_188 : decode cL_change 188 = .ok (.goto 17, 3) := by decide +kernel
theorem dL_change_191 : decode cL_change 191 = .ok (.iload 5, 2) := by decide +kernel
theorem dL_change_193 : decode cL_change 193 = .ok (.bipush 24, 2) := by decide +kernel
theorem dL_change_195 : decode cL_change 195 = .ok (.if_icmp .ne 8, 3) := by decide +kernel
theorem dL_change_198 : decode cL_change 198 = .ok (.bipush (-4), 2) := by decide +kernel
theorem dL_change_200 : decode cL_change 200 = .ok (.goto 5, 3) := by decide +kernel
theorem dL_change_203 : decode cL_change 203 = .ok (.iload 5, 2) := by decide +kernel
theorem dL_change_205 : decode cL_change 205 = .ok (.if_icmp .ne 45, 3) := by decide +kernel
theorem dL_change_208 : decode cL_change 208 = .ok (.iload 8, 2) := by decide +kernel
theorem dL_change_210 : decode cL_change 210 = .ok (.ifCond .lt 36, 3) := by decide +kernel
theorem dL_change_213 : decode cL_change 213 = .ok (.aload_n 0, 1) := by decide +kernel
theorem dL_change_214 : decode cL_change 214 = .ok (.iload 5, 2) := by decide +kernel
theorem dL_change_216 : decode cL_change 216 = .ok (.iconst 1, 1) := by decide +kernel
theorem dL_change_217 : decode cL_change 217 = .ok (.invokevirtual 25, 3) := by decide +kernel
theorem dL_change_220 : decode cL_change 220 = .ok (.iload 11, 2) := by decide +kernel
theorem dL_change_222 : decode cL_change 222 = .ok (.if_icmp .ne 28, 3) := by decide +kernel
theorem dL_change_225 : decode cL_change 225 = .ok (.aload_n 0, 1) := by decide +kernel
theorem dL_change_226 : decode cL_change 226 = .ok (.iload 5, 2) := by decide +kernel
theorem dL_change_228 : decode cL_change 228 = .ok (.iconst 4, 1) := by decide +kernel
theorem dL_change_229 : decode cL_change 229 = .ok (.invokevirtual 25, 3) := by decide +kernel
theorem dL_change_232 : decode cL_change 232 = .ok (.iconst 1, 1) := by decide +kernel
theorem dL_change_233 : decode cL_change 233 = .ok (.iload 4, 2) := by decide +kernel
theorem dL_change_235 : decode cL_change 235 = .ok (.iconst 5, 1) := by decide +kernel
theorem dL_change_236 : decode cL_change 236 = .ok (.ishr, 1) := by decide +kernel
theorem dL_change_237 : decode cL_change 237 = .ok (.bipush 9, 2) := by decide +kernel
theorem dL_change_239 : decode cL_change 239 = .ok (.invokestatic 15, 3) := by decide +kernel
theorem dL_change_242 : decode cL_change 242 = .ok (.iadd, 1) := by decide +kernel
theorem dL_change_243 : decode cL_change 243 = .ok (.if_icmp .ne 7, 3) := by decide +kernel
theorem dL_change_246 : decode cL_change 246 = .ok (.iconst 1, 1) := by decide +kernel
theorem dL_change_247 : decode cL_change 247 = .ok (.goto 4, 3) := by decide +kernel
theorem dL_change_250 : decode cL_change 250 = .ok (.iconst 0, 1) := by decide +kernel
theorem dL_change_251 : decode cL_change 251 = .ok (.ireturn, 1) := by decide +kernel
theorem dL_change_252 : decode cL_change 252 = .ok (.aload_n 0, 1) := by decide +kernel
theorem dL_change_253 : decode cL_change 253 = .ok (.iload 6, 2) := by decide +kernel
theorem dL_change_255 : decode cL_change 255 = .ok (.invokevirtual 28, 3) := by decide +kernel
theorem dL_change_258 : decode cL_change 258 = .ok (.iload 6, 2) := by decide +kernel
theorem dL_change_260 : decode cL_change 260 = .ok (.iload 5, 2) := by decide +kernel
theorem dL_change_262 : decode cL_change 262 = .ok (.if_icmp .ne 7, 3) := by decide +kernel
theorem dL_change_265 : decode cL_change 265 = .ok (.iconst (-1), 1) := by decide +kernel
theorem dL_change_266 : decode cL_change 266 = .ok (.goto 7, 3) := by decide +kernel
theorem dL_change_269 : decode cL_change 269 = .ok (.iload 5, 2) := by decide +kernel
theorem dL_change_271 : decode cL_change 271 = .ok (.iconst 1, 1) := by decide +kernel
theorem dL_change_272 : decode cL_change 272 = .ok (.isub, 1) := by decide +kernel
theorem dL_change_273 : decode cL_change 273 = .ok (.if_icmp .ne 7, 3) := by decide +kernel
theorem dL_change_276 : decode cL_change 276 = .ok (.iconst 1, 1) := by decide +kernel
theorem dL_change_277 : decode cL_change 277 = .ok (.goto 4, 3) := by decide +kernel
theorem dL_change_280 : decode cL_change 280 = .ok (.iconst 0, 1) := by decide +kernel
theorem dL_change_281 : decode cL_change 281 = .ok (.ireturn, 1) := by decide +kernel
theorem dL_change_282 : decode cL_change 282 = .ok (.aload_n 0, 1) := by decide +kernel
theorem dL_change_283 : decode cL_change 283 = .ok (.iload 6, 2) := by decide +kernel
theorem dL_change_285 : decode cL_change 285 = .ok (.iconst 4, 1) := by decide +kernel
theorem dL_change_286 : decode cL_change 286 = .ok (.invokevirtual 25, 3) := by decide +kernel
theorem dL_change_289 : decode cL_change 289 = .ok (.istore 7, 2) := by decide +kernel
theorem dL_change_291 : decode cL_change 291 = .ok (.aload_n 0, 1) := by decide +kernel
theorem dL_change_292 : decode cL_change 292 = .ok (.iload 6, 2) := by decide +kernel
theorem dL_change_294 : decode cL_change 294 = .ok (.iconst 1, 1) := by decide +kernel
theorem dL_change_295 : decode cL_change 295 = .ok (.iload 4, 2) := by decide +kernel
theorem dL_change_297 : decode cL_change 297 = .ok (.bipush 9, 2) := by decide +kernel
theorem dL_change_299 : decode cL_change 299 = .ok (.invokestatic 15, 3) := by decide +kernel
theorem dL_change_302 : decode cL_change 302 = .ok (.iadd, 1) := by decide +kernel
theorem dL_change_303 : decode cL_change 303 = .ok (.invokevirtual 31, 3) := by decide +kernel
theorem dL_change_306 : decode cL_change 306 = .ok (.iload 7, 2) := by decide +kernel
theorem dL_change_308 : decode cL_change 308 = .ok (.if_icmp .ne 31, 3) := by decide +kernel
theorem dL_change_311 : decode cL_change 311 = .ok (.iload 7, 2) := by decide +kernel
theorem dL_change_313 : decode cL_change 313 = .ok (.ifCond .lt 22, 3) := by decide +kernel
theorem dL_change_316 : decode cL_change 316 = .ok (.aload_n 0, 1) := by decide +kernel
theorem dL_change_317 : decode cL_change 317 = .ok (.iload 6, 2) := by decide +kernel
theorem dL_change_319 : decode cL_change 319 = .ok (.iconst 4, 1) := by decide +kernel
theorem dL_change_320 : decode cL_change 320 = .ok (.invokevirtual 25, 3) := by decide +kernel
theorem dL_change_323 : decode cL_change 323 = .ok (.iconst 1, 1) := by decide +kernel
theorem dL_change_324 : decode cL_change 324 = .ok (.iload 4, 2) := by decide +kernel
theorem dL_change_326 : decode cL_change 326 = .ok (.bipush 9, 2) := by decide +kernel
theorem dL_change_328 : decode cL_change 328 = .ok (.invokestatic 15, 3) := by decide +kernel
theorem dL_change_331 : decode cL_change 331 = .ok (.iadd, 1) := by decide +kernel
theorem dL_change_332 : decode cL_change 332 = .ok (.if_icmp .ne 7, 3) := by decide +kernel
theorem dL_change_335 : decode cL_change 335 = .ok (.iconst 1, 1) := by decide +kernel
theorem dL_change_336 : decode cL_change 336 = .ok (.goto 4, 3) := by decide +kernel
theorem dL_change_339 : decode cL_change 339 = .ok (.iconst 0, 1) := by decide +kernel
theorem dL_change_340 : decode cL_change 340 = .ok (.ireturn, 1) := by decide +kernel
theorem dL_change_341 : decode cL_change 341 = .ok (.aload_n 0, 1) := by decide +kernel
theorem dL_change_342 : decode cL_change 342 = .ok (.iload 6, 2) := by decide +kernel
theorem dL_change_344 : decode cL_change 344 = .ok (.iconst 0, 1) := by decide +kernel
theorem dL_change_345 : decode cL_change 345 = .ok (.invokevirtual 25, 3) := by decide +kernel
theorem dL_change_348 : decode cL_change 348 = .ok (.istore 7, 2) := by decide +kernel
theorem dL_change_350 : decode cL_change 350 = .ok (.aload_n 0, 1) := by decide +kernel
theorem dL_change_351 : decode cL_change 351 = .ok (.iload 6, 2) := by decide +kernel
theorem dL_change_353 : decode cL_change 353 = .ok (.iload 4, 2) := by decide +kernel
theorem dL_change_355 : decode cL_change 355 = .ok (.iconst 5, 1) := by decide +kernel
theorem dL_change_356 : decode cL_change 356 = .ok (.invokestatic 15, 3) := by decide +kernel
theorem dL_change_359 : decode cL_change 359 = .ok (.invokevirtual 34, 3) := by decide +kernel
theorem dL_change_362 : decode cL_change 362 = .ok (.istore 8, 2) := by decide +kernel
theorem dL_change_364 : decode cL_change 364 = .ok (.iload 8, 2) := by decide +kernel
theorem dL_change_366 : decode cL_change 366 = .ok (.iload 7, 2) := by decide +kernel
theorem dL_change_368 : decode cL_change 368 = .ok (.ifCond .lt 27, 3) := by decide +kernel
theorem dL_change_371 : decode cL_change 371 = .ok (.aload_n 0, 1) := by decide +kernel
theorem dL_change_372 : decode cL_change 372 = .ok (.iload 6, 2) := by decide +kernel
theorem dL_change_374 : decode cL_change 374 = .ok (.iconst 1, 1) := by decide +kernel
theorem dL_change_375 : decode cL_change 375 = .ok (.invokevirtual 25, 3) := by decide +kernel
theorem dL_change_378 : decode cL_change 378 = .ok (.ifCond .ne 17, 3) := by decide +kernel
theorem dL_change_381 : decode cL_change 381 = .ok (.iload 4, 2) := by decide +kernel
theorem dL_change_383 : decode cL_change 383 = .ok (.iconst 5, 1) := by decide +kernel
theorem dL_change_384 : decode cL_change 384 = .ok (.invokestatic 15, 3) := by decide +kernel
theorem dL_change_387 : decode cL_change 387 = .ok (.ifCond .le 8, 3) := by decide +kernel
theorem dL_change_390 : decode cL_change 390 = .ok (.bipush (-5), 2) := by decide +kernel
theorem dL_change_392 : decode cL_change 392 = .ok (.goto 5, 3) := by decide +kernel
theorem dL_change_395 : decode cL_change 395 = .ok (.iload 7, 2) := by decide +kernel
theorem dL_change_397 : decode cL_change 397 = .ok (.if_icmp .ne 7, 3) := by decide +kernel
theorem dL_change_400 : decode cL_change 400 = .ok (.iconst 1, 1) := by decide +kernel
theorem dL_change_401 : decode cL_change 401 = .ok (.goto 4, 3) := by decide +kernel
theorem dL_change_404 : decode cL_change 404 = .ok (.iconst 0, 1) := by decide +kernel
theorem dL_change_405 : decode cL_change 405 = .ok (.ireturn, 1) := by decide +kernel
theorem dL_change_406 : decode cL_change 406 = .ok (.aload_n 0, 1) := by decide +kernel
theorem dL_change_407 : decode cL_change 407 = .ok (.bipush 6, 2) := by decide +kernel
theorem dL_change_409 : decode cL_change 409 = .ok (.invokevirtual 9, 3) := by decide +kernel
theorem dL_change_412 : decode cL_change 412 = .ok (.istore 13, 2) := by decide +kernel
theorem dL_change_414 : decode cL_change 414 = .ok (.aload_n 0, 1) := by decide +kernel
theorem dL_change_415 : decode cL_change 415 = .ok (.iconst 4, 1) := by decide +kernel
theorem dL_change_416 : decode cL_change 416 = .ok (.invokevirtual 9, 3) := by decide +kernel
theorem dL_change_419 : decode cL_change 419 = .ok (.istore 14, 2) := by decide +kernel
theorem dL_change_421 : decode cL_change 421 = .ok (.aload_n 0, 1) := by decide +kernel
theorem dL_change_422 : decode cL_change 422 = .ok (.invokevirtual 37, 3) := by decide +kernel
theorem dL_change_425 : decode cL_change 425 = .ok (.istore 8, 2) := by decide +kernel
theorem dL_change_427 : decode cL_change 427 = .ok (.iload 8, 2) := by decide +kernel
theorem dL_change_429 : decode cL_change 429 = .ok (.iload 14, 2) := by decide +kernel
theorem dL_change_431 : decode cL_change 431 = .ok (.ifCond .le 7, 3) := by decide +kernel
theorem dL_change_434 : decode cL_change 434 = .ok (.iconst 1, 1) := by decide +kernel
theorem dL_change_435 : decode cL_change 435 = .ok (.goto 4, 3) := by decide +kernel
theorem dL_change_438 : decode cL_change 438 = .ok (.iconst 0, 1) := by decide +kernel
theorem dL_change_439 : decode cL_change 439 = .ok (.if_icmp .lt 39, 3) := by decide +kernel
theorem dL_change_442 : decode cL_change 442 = .ok (.aload_n 0, 1) := by decide +kernel
theorem dL_change_443 : decode cL_change 443 = .ok (.iconst 0, 1) := by decide +kernel
theorem dL_change_444 : decode cL_change 444 = .ok (.invokevirtual 9, 3) := by decide +kernel
theorem dL_change_447 : decode cL_change 447 = .ok (.iload 5, 2) := by decide +kernel
theorem dL_change_449 : decode cL_change 449 = .ok (.iload 8, 2) := by decide +kernel
theorem dL_change_451 : decode cL_change 451 = .ok (.isub, 1) := by decide +kernel
theorem dL_change_452 : decode cL_change 452 = .ok (.if_icmp .ne 26, 3) := by decide +kernel
theorem dL_change_455 : decode cL_change 455 = .ok (.aload_n 0, 1) := by decide +kernel
theorem dL_change_456 : decode cL_change 456 = .ok (.iconst 4, 1) := by decide +kernel
theorem dL_change_457 : decode cL_change 457 = .ok (.invokevirtual 9, 3) := by decide +kernel
theorem dL_change_460 : decode cL_change 460 = .ok (.ifCond .ne 18, 3) := by decide +kernel
theorem dL_change_463 : decode cL_change 463 = .ok (.aload_n 0, 1) := by decide +kernel
theorem dL_change_464 : decode cL_change 464 = .ok (.bipush 6, 2) := by decide +kernel
theorem dL_change_466 : decode cL_change 466 = .ok (.invokevirtual 9, 3) := by decide +kernel
theorem dL_change_469 : decode cL_change 469 = .ok (.iload 13, 2) := by decide +kernel
theorem dL_change_471 : decode cL_change 471 = .ok (.if_icmp .ne 7, 3) := by decide +kernel
theorem dL_change_474 : decode cL_change 474 = .ok (.iconst 1, 1) := by decide +kernel
theorem dL_change_475 : decode cL_change 475 = .ok (.goto 4, 3) := by decide +kernel
theorem dL_change_478 : decode cL_change 478 = .ok (.iconst 0, 1) := by decide +kernel
theorem dL_change_479 : decode cL_change 479 = .ok (.ireturn, 1) := by decide +kernel
theorem dL_change_480 : decode cL_change 480 = .ok (.aload_n 0, 1) := by decide +kernel
theorem dL_change_481 : decode cL_change 481 = .ok (.iload_n 3, 1) := by decide +kernel
theorem dL_change_482 : decode cL_change 482 = .ok (.iconst 5, 1) := by decide +kernel
theorem dL_change_483 : decode cL_change 483 = .ok (.invokestatic 15, 3) := by decide +kernel
theorem dL_change_486 : decode cL_change 486 = .ok (.iload 4, 2) := by decide +kernel
theorem dL_change_488 : decode cL_change 488 = .ok (.bipush 10, 2) := by decide +kernel
theorem dL_change_490 : decode cL_change 490 = .ok (.invokestatic 15, 3) := by decide +kernel
theorem dL_change_493 : decode cL_change 493 = .ok (.invokevirtual 41, 3) := by decide +kernel
theorem dL_change_496 : decode cL_change 496 = .ok (.iload 9, 2) := by decide +kernel
theorem dL_change_498 : decode cL_change 498 = .ok (.bipush 10, 2) := by decide +kernel
theorem dL_change_500 : decode cL_change 500 = .ok (.if_icmp .ne 8, 3) := by decide +kernel
theorem dL_change_503 : decode cL_change 503 = .ok (.bipush (-4), 2) := by decide +kernel
theorem dL_change_505 : decode cL_change 505 = .ok (.goto 5, 3) := by decide +kernel
theorem dL_change_508 : decode cL_change 508 = .ok (.iload 9, 2) := by decide +kernel
theorem dL_change_510 : decode cL_change 510 = .ok (.if_icmp .ne 7, 3) := by decide +kernel
theorem dL_change_513 : decode cL_change 513 = .ok (.iconst 1, 1) := by decide +kernel
theorem dL_change_514 : decode cL_change 514 = .ok (.goto 4, 3) := by decide +kernel
theorem dL_change_517 : decode cL_change 517 = .ok (.iconst 0, 1) := by decide +kernel
theorem dL_change_518 : decode cL_change 518 = .ok (.ireturn, 1) := by decide +kernel
theorem dL_change_519 : decode cL_change 519 = .ok (.iload 4, 2) := by decide +kernel
theorem dL_change_521 : decode cL_change 521 = .ok (.iconst 3, 1) := by decide +kernel
theorem dL_change_522 : decode cL_change 522 = .ok (.iand, 1) := by decide +kernel
theorem dL_change_523 : decode cL_change 523 = .ok (.ifCond .ne 29, 3) := by decide +kernel
theorem dL_change_526 : decode cL_change 526 = .ok (.aload_n 0, 1) := by decide +kernel
theorem dL_change_527 : decode cL_change 527 = .ok (.iload 10, 2) := by decide +kernel
theorem dL_change_529 : decode cL_change 529 = .ok (.iconst 3, 1) := by decide +kernel
theorem dL_change_530 : decode cL_change 530 = .ok (.invokevirtual 44, 3) := by decide +kernel
theorem dL_change_533 : decode cL_change 533 = .ok (.istore 7, 2) := by decide +kernel
theorem dL_change_535 : decode cL_change 535 = .ok (.aload_n 0, 1) := by decide +kernel
theorem dL_change_536 : decode cL_change 536 = .ok (.iload 10, 2) := by decide +kernel
theorem dL_change_538 : decode cL_change 538 = .ok (.invokevirtual 47, 3) := by decide +kernel
theorem dL_change_541 : decode cL_change 541 = .ok (.iload 7, 2) := by decide +kernel
theorem dL_change_543 : decode cL_change 543 = .ok (.if_icmp .ne 7, 3) := by decide +kernel
theorem dL_change_546 : decode cL_change 546 = .ok (.iconst 1, 1) := by decide +kernel
theorem dL_change_547 : decode cL_change 547 = .ok (.goto 4, 3) := by decide +kernel
theorem dL_change_550 : decode cL_change 550 = .ok (.iconst 0, 1) := by decide +kernel
theorem dL_change_551 : decode cL_change 551 = .ok (.ireturn, 1) := by decide +kernel
theorem dL_change_552 : decode cL_change 552 = .ok (.aload_n 0, 1) := by decide +kernel
theorem dL_change_553 : decode cL_change 553 = .ok (.iload 10, 2) := by decide +kernel
theorem dL_change_555 : decode cL_change 555 = .ok (.iconst 1, 1) := by decide +kernel
theorem dL_change_556 : decode cL_change 556 = .ok (.invokevirtual 44, 3) := by decide +kernel
theorem dL_change_559 : decode cL_change 559 = .ok (.istore 7, 2) := by decide +kernel
theorem dL_change_561 : decode cL_change 561 = .ok (.aload_n 0, 1) := by decide +kernel
theorem dL_change_562 : decode cL_change 562 = .ok (.iload 10, 2) := by decide +kernel
theorem dL_change_564 : decode cL_change 564 = .ok (.iload 4, 2) := by decide +kernel
theorem dL_change_566 : decode cL_change 566 = .ok (.iconst 2, 1) := by decide +kernel
theorem dL_change_567 : decode cL_change 567 = .ok (.ishr, 1) := by decide +kernel
theorem dL_change_568 : decode cL_change 568 = .ok (.bipush 10, 2) := by decide +kernel
theorem dL_change_570 : decode cL_change 570 = .ok (.invokestatic 15, 3) := by decide +kernel
theorem dL_change_573 : decode cL_change 573 = .ok (.invokevirtual 50, 3) := by decide +kernel
theorem dL_change_576 : decode cL_change 576 = .ok (.iload 7, 2) := by decide +kernel
theorem dL_change_578 : decode cL_change 578 = .ok (.if_icmp .ne 7, 3) := by decide +kernel
theorem dL_change_581 : decode cL_change 581 = .ok (.iconst 1, 1) := by decide +kernel
theorem dL_change_582 : decode cL_change 582 = .ok (.goto 4, 3) := by decide +kernel
theorem dL_change_585 : decode cL_change 585 = .ok (.iconst 0, 1) := by decide +kernel
theorem dL_change_586 : decode cL_change 586 = .ok (.ireturn, 1) := by decide +kernel
theorem dL_change_587 : decode cL_change 587 = .ok (.aload_n 0, 1) := by decide +kernel
theorem dL_change_588 : decode cL_change 588 = .ok (.aload_n 1, 1) := by decide +kernel
theorem dL_change_589 : decode cL_change 589 = .ok (.iload 10, 2) := by decide +kernel
theorem dL_change_591 : decode cL_change 591 = .ok (.iload 4, 2) := by decide +kernel
theorem dL_change_593 : decode cL_change 593 = .ok (.bipush 6, 2) := by decide +kernel
theorem dL_change_595 : decode cL_change 595 = .ok (.invokestatic 15, 3) := by decide +kernel
theorem dL_change_598 : decode cL_change 598 = .ok (.invokestatic 53, 3) := by decide +kernel
theorem dL_change_601 : decode cL_change 601 = .ok (.ireturn, 1) := by decide +kernel
theorem dL_acts_0 : decode cL_acts 0 = .ok (.aload_n 0, 1) := by decide +kernel
theorem dL_acts_1 : decode cL_acts 1 = .ok (.iload_n 2, 1) := by decide +kernel
theorem dL_acts_2 : decode cL_acts 2 = .ok (.iconst 0, 1) := by decide +kernel
theorem dL_acts_3 : decode cL_acts 3 = .ok (.invokevirtual 44, 3) := by decide +kernel
theorem dL_acts_6 : decode cL_acts 6 = .ok (.istore 4, 2) := by decide +kernel
theorem dL_acts_8 : decode cL_acts 8 = .ok (.iload 4, 2) := by decide +kernel
theorem dL_acts_10 : decode cL_acts 10 = .ok (.ifCond .ge 19, 3) := by decide +kernel
theorem dL_acts_13 : decode cL_acts 13 = .ok (.aload_n 0, 1) := by decide +kernel
theorem dL_acts_14 : decode cL_acts 14 = .ok (.iload_n 2, 1) := by decide +kernel
theorem dL_acts_15 : decode cL_acts 15 = .ok (.iload_n 3, 1) := by decide +kernel
theorem dL_acts_16 : decode cL_acts 16 = .ok (.invokevirtual 57, 3) := by decide +kernel
theorem dL_acts_19 : decode cL_acts 19 = .ok (.iconst (-1), 1) := by decide +kernel
theorem dL_acts_20 : decode cL_acts 20 = .ok (.if_icmp .ne 7, 3) := by decide +kernel
theorem dL_acts_23 : decode cL_acts 23 = .ok (.iconst 1, 1) := by decide +kernel
theorem dL_acts_24 : decode cL_acts 24 = .ok (.goto 4, 3) := by decide +kernel
theorem dL_acts_27 : decode cL_acts 27 = .ok (.iconst 0, 1) := by decide +kernel
theorem dL_acts_28 : decode cL_acts 28 = .ok (.ireturn, 1) := by decide +kernel
theorem dL_acts_29 : decode cL_acts 29 = .ok (.aload_n 0, 1) := by decide +kernel
theorem dL_acts_30 : decode cL_acts 30 = .ok (.iload 4, 2) := by decide +kernel
theorem dL_acts_32 : decode cL_acts 32 = .ok (.iload_n 3, 1) := by decide +kernel
theorem dL_acts_33 : decode cL_acts 33 = .ok (.aload_n 0, 1) := by decide +kernel
theorem dL_acts_34 : decode cL_acts 34 = .ok (.iload_n 2, 1) := by decide +kernel
theorem dL_acts_35 : decode cL_acts 35 = .ok (.iconst 1, 1) := by decide +kernel
theorem dL_acts_36 : decode cL_acts 36 = .ok (.invokevirtual 44, 3) := by decide +kernel
theorem dL_acts_39 : decode cL_acts 39 = .ok (.invokevirtual 60, 3) := by decide +kernel
theorem dL_acts_42 : decode cL_acts 42 = .ok (.istore 5, 2) := by decide +kernel
theorem dL_acts_44 : decode cL_acts 44 = .ok (.iload 5, 2) := by decide +kernel
theorem dL_acts_46 : decode cL_acts 46 = .ok (.bipush (-6), 2) := by decide +kernel
theorem dL_acts_48 : decode cL_acts 48 = .ok (.if_icmp .ne 8, 3) := by decide +kernel
theorem dL_acts_51 : decode cL_acts 51 = .ok (.bipush 8, 2) := by decide +kernel
theorem dL_acts_53 : decode cL_acts 53 = .ok (.goto 25, 3) := by decide +kernel
theorem dL_acts_56 : decode cL_acts 56 = .ok (.iload 5, 2) := by decide +kernel
theorem dL_acts_58 : decode cL_acts 58 = .ok (.bipush 100, 2) := by decide +kernel
theorem dL_acts_60 : decode cL_acts 60 = .ok (.if_icmp .ne 8, 3) := by decide +kernel
theorem dL_acts_63 : decode cL_acts 63 = .ok (.bipush 14, 2) := by decide +kernel
theorem dL_acts_65 : decode cL_acts 65 = .ok (.goto 13, 3) := by decide +kernel
theorem dL_acts_68 : decode cL_acts 68 = .ok (.bipush 9, 2) := by decide +kernel
theorem dL_acts_70 : decode cL_acts 70 = .ok (.aload_n 0, 1) := by decide +kernel
theorem dL_acts_71 : decode cL_acts 71 = .ok (.iload 5, 2) := by decide +kernel
theorem dL_acts_73 : decode cL_acts 73 = .ok (.iconst 0, 1) := by decide +kernel
theorem dL_acts_74 : decode cL_acts 74 = .ok (.invokevirtual 25, 3) := by decide +kernel
theorem dL_acts_77 : decode cL_acts 77 = .ok (.iadd, 1) := by decide +kernel
theorem dL_acts_78 : decode cL_acts 78 = .ok (.istore 6, 2) := by decide +kernel
theorem dL_acts_80 : decode cL_acts 80 = .ok (.aload_n 0, 1) := by decide +kernel
theorem dL_acts_81 : decode cL_acts 81 = .ok (.iload 6, 2) := by decide +kernel
theorem dL_acts_83 : decode cL_acts 83 = .ok (.invokevirtual 9, 3) := by decide +kernel
theorem dL_acts_86 : decode cL_acts 86 = .ok (.istore 7, 2) := by decide +kernel
theorem dL_acts_88 : decode cL_acts 88 = .ok (.aload_n 0, 1) := by decide +kernel
theorem dL_acts_89 : decode cL_acts 89 = .ok (.iload_n 2, 1) := by decide +kernel
theorem dL_acts_90 : decode cL_acts 90 = .ok (.iconst 3, 1) := by decide +kernel
theorem dL_acts_91 : decode cL_acts 91 = .ok (.invokevirtual 44, 3) := by decide +kernel
theorem dL_acts_94 : decode cL_acts 94 = .ok (.istore 8, 2) := by decide +kernel
theorem dL_acts_96 : decode cL_acts 96 = .ok (.aload_n 0, 1) := by decide +kernel
theorem dL_acts_97 : decode cL_acts 97 = .ok (.iload_n 2, 1) := by decide +kernel
theorem dL_acts_98 : decode cL_acts 98 = .ok (.iconst 4, 1) := by decide +kernel
theorem dL_acts_99 : decode cL_acts 99 = .ok (.invokevirtual 44, 3) := by decide +kernel
theorem dL_acts_102 : decode cL_acts 102 = .ok (.istore 9, 2) := by decide +kernel
theorem dL_acts_104 : decode cL_acts 104 = .ok (.aload_n 1, 1) := by decide +kernel
theorem dL_acts_105 : decode cL_acts 105 = .ok (.iload 5, 2) := by decide +kernel
theorem dL_acts_107 : decode cL_acts 107 = .ok (.bipush (-6), 2) := by decide +kernel
theorem dL_acts_109 : decode cL_acts 109 = .ok (.if_icmp .ne 7, 3) := by decide +kernel
theorem dL_acts_112 : decode cL_acts 112 = .ok (.iconst 0, 1) := by decide +kernel
theorem dL_acts_113 : decode cL_acts 113 = .ok (.goto 4, 3) := by decide +kernel
theorem dL_acts_116 : decode cL_acts 116 = .ok (.iconst 1, 1) := by decide +kernel
theorem dL_acts_117 : decode cL_acts 117 = .ok (.dup2, 1) := by decide +kernel
theorem dL_acts_118 : decode cL_acts 118 = .ok (.iaload, 1) := by decide +kernel
theorem dL_acts_119 : decode cL_acts 119 = .ok (.iconst 1, 1) := by decide +kernel
theorem dL_acts_120 : decode cL_acts 120 = .ok (.iadd, 1) := by decide +kernel
theorem dL_acts_121 : decode cL_acts 121 = .ok (.iastore, 1) := by decide +kernel
theorem dL_acts_122 : decode cL_acts 122 = .ok (.aload_n 0, 1) := by decide +kernel
theorem dL_acts_123 : decode cL_acts 123 = .ok (.iload_n 2, 1) := by decide +kernel
theorem dL_acts_124 : decode cL_acts 124 = .ok (.iload_n 3, 1) := by decide +kernel
theorem dL_acts_125 : decode cL_acts 125 = .ok (.invokevirtual 57, 3) := by decide +kernel
theorem dL_acts_128 : decode cL_acts 128 = .ok (.iload 5, 2) := by decide +kernel
theorem dL_acts_130 : decode cL_acts 130 = .ok (.if_icmp .ne 68, 3) := by decide +kernel
theorem dL_acts_133 : decode cL_acts 133 = .ok (.aload_n 0, 1) := by decide +kernel
theorem dL_acts_134 : decode cL_acts 134 = .ok (.iload 6, 2) := by decide +kernel
theorem dL_acts_136 : decode cL_acts 136 = .ok (.invokevirtual 9, 3) := by decide +kernel
theorem dL_acts_139 : decode cL_acts 139 = .ok (.iload 7, 2) := by decide +kernel
theorem dL_acts_141 : decode cL_acts 141 = .ok (.iconst 1, 1) := by decide +kernel
theorem dL_acts_142 : decode cL_acts 142 = .ok (.iadd, 1) := by decide +kernel
theorem dL_acts_143 : decode cL_acts 143 = .ok (.if_icmp .ne 55, 3) := by decide +kernel
theorem dL_acts_146 : decode cL_acts 146 = .ok (.aload_n 0, 1) := by decide +kernel
theorem dL_acts_147 : decode cL_acts 147 = .ok (.iload_n 2, 1) := by decide +kernel
theorem dL_acts_148 : decode cL_acts 148 = .ok (.iconst 3, 1) := by decide +kernel
theorem dL_acts_149 : decode cL_acts 149 = .ok (.invokevirtual 44, 3) := by decide +kernel
theorem dL_acts_152 : decode cL_acts 152 = .ok (.iload 8, 2) := by decide +kernel
theorem dL_acts_154 : decode cL_acts 154 = .ok (.iload 5, 2) := by decide +kernel
theorem dL_acts_156 : decode cL_acts 156 = .ok (.bipush (-6), 2) := by decide +kernel
theorem dL_acts_158 : decode cL_acts 158 = .ok (.if_icmp .ne 7, 3) := by decide +kernel
theorem dL_acts_161 : decode cL_acts 161 = .ok (.iconst 1, 1) := by decide +kernel
theorem dL_acts_162 : decode cL_acts 162 = .ok (.goto 4, 3) := by decide +kernel
theorem dL_acts_165 : decode cL_acts 165 = .ok (.iconst 0, 1) := by decide +kernel
theorem dL_acts_166 : decode cL_acts 166 = .ok (.iadd, 1) := by decide +kernel
theorem dL_acts_167 : decode cL_acts 167 = .ok (.if_icmp .ne 31, 3) := by decide +kernel
theorem dL_acts_170 : decode cL_acts 170 = .ok (.aload_n 0, 1) := by decide +kernel
theorem dL_acts_171 : decode cL_acts 171 = .ok (.iload_n 2, 1) := by decide +kernel
theorem dL_acts_172 : decode cL_acts 172 = .ok (.iconst 4, 1) := by decide +kernel
theorem dL_acts_173 : decode cL_acts 173 = .ok (.invokevirtual 44, 3) := by decide +kernel
theorem dL_acts_176 : decode cL_acts 176 = .ok (.iload 9, 2) := by decide +kernel
theorem dL_acts_178 : decode cL_acts 178 = .ok (.iload 5, 2) := by decide +kernel
theorem dL_acts_180 : decode cL_acts 180 = .ok (.bipush (-6), 2) := by decide +kernel
theorem dL_acts_182 : decode cL_acts 182 = .ok (.if_icmp .ne 7, 3) := by decide +kernel
theorem dL_acts_185 : decode cL_acts 185 = .ok (.iconst 0, 1) := by decide +kernel
theorem dL_acts_186 : decode cL_acts 186 = .ok (.goto 4, 3) := by decide +kernel
theorem dL_acts_189 : decode cL_acts 189 = .ok (.iconst 1, 1) := by decide +kernel
theorem dL_acts_190 : decode cL_acts 190 = .ok (.iadd, 1) := by decide +kernel
theorem dL_acts_191 : decode cL_acts 191 = .ok (.if_icmp .ne 7, 3) := by decide +kernel
theorem dL_acts_194 : decode cL_acts 194 = .ok (.iconst 1, 1) := by decide +kernel
theorem dL_acts_195 : decode cL_acts 195 = .ok (.goto 4, 3) := by decide +kernel
theorem dL_acts_198 : decode cL_acts 198 = .ok (.iconst 0, 1) := by decide +kernel
theorem dL_acts_199 : decode cL_acts 199 = .ok (.ireturn, 1) := by decide +kernel
theorem dL_fits_0 : decode cL_fits 0 = .ok (.aload_n 0, 1) := by decide +kernel
theorem dL_fits_1 : decode cL_fits 1 = .ok (.iconst 2, 1) := by decide +kernel
theorem dL_fits_2 : decode cL_fits 2 = .ok (.iaload, 1) := by decide +kernel
theorem dL_fits_3 : decode cL_fits 3 = .ok (.iconst 5, 1) := by decide +kernel
theorem dL_fits_4 : decode cL_fits 4 = .ok (.if_icmp .eq 10, 3) := by decide +kernel
theorem dL_fits_7 : decode cL_fits 7 = .ok (.aload_n 0, 1) := by decide +kernel
theorem dL_fits_8 : decode cL_fits 8 = .ok (.iconst 2, 1) := by decide +kernel
theorem dL_fits_9 : decode cL_fits 9 = .ok (.iaload, 1) := by decide +kernel
theorem dL_fits_10 : decode cL_fits 10 = .ok (.iload_n 1, 1) := by decide +kernel
theorem dL_fits_11 : decode cL_fits 11 = .ok (.if_icmp .ne 22, 3) := by decide +kernel
theorem dL_fits_14 : decode cL_fits 14 = .ok (.aload_n 0, 1) := by decide +kernel
theorem dL_fits_15 : decode cL_fits 15 = .ok (.iconst 3, 1) := by decide +kernel
theorem dL_fits_16 : decode cL_fits 16 = .ok (.iaload, 1) := by decide +kernel
theorem dL_fits_17 : decode cL_fits 17 = .ok (.bipush 6, 2) := by decide +kernel
theorem dL_fits_19 : decode cL_fits 19 = .ok (.if_icmp .eq 10, 3) := by decide +kernel
theorem dL_fits_22 : decode cL_fits 22 = .ok (.aload_n 0, 1) := by decide +kernel
theorem dL_fits_23 : decode cL_fits 23 = .ok (.iconst 3, 1) := by decide +kernel
theorem dL_fits_24 : decode cL_fits 24 = .ok (.iaload, 1) := by decide +kernel
theorem dL_fits_25 : decode cL_fits 25 = .ok (.iload_n 2, 1) := by decide +kernel
theorem dL_fits_26 : decode cL_fits 26 = .ok (.if_icmp .ne 7, 3) := by decide +kernel
theorem dL_fits_29 : decode cL_fits 29 = .ok (.iconst 1, 1) := by decide +kernel
theorem dL_fits_30 : decode cL_fits 30 = .ok (.goto 4, 3) := by decide +kernel
theorem dL_fits_33 : decode cL_fits 33 = .ok (.iconst 0, 1) := by decide +kernel
theorem dL_fits_34 : decode cL_fits 34 = .ok (.ireturn, 1) := by decide +kernel
theorem dL_why_0 : decode cL_why 0 = .ok (.iconst 5, 1) := by decide +kernel
theorem dL_why_1 : decode cL_why 1 = .ok (.newarray .int, 2) := by decide +kernel
theorem dL_why_3 : decode cL_why 3 = .ok (.astore 5, 2) := by decide +kernel
theorem dL_why_5 : decode cL_why 5 = .ok (.iconst 5, 1) := by decide +kernel
theorem dL_why_6 : decode cL_why 6 = .ok (.newarray .int, 2) := by decide +kernel
theorem dL_why_8 : decode cL_why 8 = .ok (.astore 6, 2) := by decide +kernel
theorem dL_why_10 : decode cL_why 10 = .ok (.iconst 0, 1) := by decide +kernel
theorem dL_why_11 : decode cL_why 11 = .ok (.istore 7, 2) := by decide +kernel
theorem dL_why_13 : decode cL_why 13 = .ok (.bipush (-6), 2) := by decide +kernel
theorem dL_why_15 : decode cL_why 15 = .ok (.istore 8, 2) := by decide +kernel
theorem dL_why_17 : decode cL_why 17 = .ok (.bipush 9, 2) := by decide +kernel
theorem dL_why_19 : decode cL_why 19 = .ok (.istore 9, 2) := by decide +kernel
theorem dL_why_21 : decode cL_why 21 = .ok (.iconst 0, 1) := by decide +kernel
theorem dL_why_22 : decode cL_why 22 = .ok (.istore 10, 2) := by decide +kernel
theorem dL_why_24 : decode cL_why 24 = .ok (.iload 10, 2) := by decide +kernel
theorem dL_why_26 : decode cL_why 26 = .ok (.aload_n 0, 1) := by decide +kernel
theorem dL_why_27 : decode cL_why 27 = .ok (.iconst 0, 1) := by decide +kernel
theorem dL_why_28 : decode cL_why 28 = .ok (.invokevirtual 9, 3) := by decide +kernel
theorem dL_why_31 : decode cL_why 31 = .ok (.if_icmp .ge 214, 3) := by decide +kernel
theorem dL_why_34 : decode cL_why 34 = .ok (.aload_n 0, 1) := by decide +kernel
theorem dL_why_35 : decode cL_why 35 = .ok (.iload 10, 2) := by decide +kernel
theorem dL_why_37 : decode cL_why 37 = .ok (.aload 5, 2) := by decide +kernel
theorem dL_why_39 : decode cL_why 39 = .ok (.invokestatic 64, 3) := by decide +kernel
theorem dL_why_42 : decode cL_why 42 = .ok (.iload 7, 2) := by decide +kernel
theorem dL_why_44 : decode cL_why 44 = .ok (.ifCond .ne 27, 3) := by decide +kernel
theorem dL_why_47 : decode cL_why 47 = .ok (.iload 10, 2) := by decide +kernel
theorem dL_why_49 : decode cL_why 49 = .ok (.iload 4, 2) := by decide +kernel
theorem dL_why_51 : decode cL_why 51 = .ok (.if_icmp .eq 24, 3) := by decide +kernel
theorem dL_why_54 : decode cL_why 54 = .ok (.aload 5, 2) := by decide +kernel
theorem dL_why_56 : decode cL_why 56 = .ok (.iconst 1, 1) := by decide +kernel
theorem dL_why_57 : decode cL_why 57 = .ok (.iaload, 1) := by decide +kernel
theorem dL_why_58 : decode cL_why 58 = .ok (.ifCond .ne 17, 3) := by decide +kernel
theorem dL_why_61 : decode cL_why 61 = .ok (.aload 5, 2) := by decide +kernel
theorem dL_why_63 : decode cL_why 63 = .ok (.iload_n 1, 1) := by decide +kernel
theorem dL_why_64 : decode cL_why 64 = .ok (.iload_n 2, 1) := by decide +kernel
theorem dL_why_65 : decode cL_why 65 = .ok (.invokestatic 68, 3) := by decide +kernel
theorem dL_why_68 : decode cL_why 68 = .ok (.ifCond .eq 7, 3) := by decide +kernel
theorem dL_why_71 : decode cL_why 71 = .ok (.iconst 1, 1) := by decide +kernel
theorem dL_why_72 : decode cL_why 72 = .ok (.goto 4, 3) := by decide +kernel
theorem dL_why_75 : decode cL_why 75 = .ok (.iconst 0, 1) := by decide +kernel
theorem dL_why_76 : decode cL_why 76 = .ok (.istore 7, 2) := by decide +kernel
theorem dL_why_78 : decode cL_why 78 = .ok (.iload 10, 2) := by decide +kernel
theorem dL_why_80 : decode cL_why 80 = .ok (.iload 4, 2) := by decide +kernel
theorem dL_why_82 : decode cL_why 82 = .ok (.if_icmp .eq 157, 3) := by decide +kernel
theorem dL_why_85 : decode cL_why 85 = .ok (.aload 5, 2) := by decide +kernel
theorem dL_why_87 : decode cL_why 87 = .ok (.iconst 1, 1) := by decide +kernel
theorem dL_why_88 : decode cL_why 88 = .ok (.iaload, 1) := by decide +kernel
theorem dL_why_89 : decode cL_why 89 = .ok (.iconst 1, 1) := by decide +kernel
theorem dL_why_90 : decode cL_why 90 = .ok (.if_icmp .ne 149, 3) := by decide +kernel
theorem dL_why_93 : decode cL_why 93 = .ok (.aload 5, 2) := by decide +kernel
theorem dL_why_95 : decode cL_why 95 = .ok (.iload_n 1, 1) := by decide +kernel
theorem dL_why_96 : decode cL_why 96 = .ok (.iload_n 2, 1) := by decide +kernel
theorem dL_why_97 : decode cL_why 97 = .ok (.invokestatic 68, 3) := by decide +kernel
theorem dL_why_100 : decode cL_why 100 = .ok (.ifCond .eq 139, 3) := by decide +kernel
theorem dL_why_103 : decode cL_why 103 = .ok (.iload_n 3, 1) := by decide +kernel
theorem dL_why_104 : decode cL_why 104 = .ok (.aload 5, 2) := by decide +kernel
theorem dL_why_106 : decode cL_why 106 = .ok (.iconst 4, 1) := by decide +kernel
theorem dL_why_107 : decode cL_why 107 = .ok (.iaload, 1) := by decide +kernel
theorem dL_why_108 : decode cL_why 108 = .ok (.if_icmp .ge 131, 3) := by decide +kernel
theorem dL_why_111 : decode cL_why 111 = .ok (.aload 5, 2) := by decide +kernel
theorem dL_why_113 : decode cL_why 113 = .ok (.iconst 0, 1) := by decide +kernel
theorem dL_why_114 : decode cL_why 114 = .ok (.iaload, 1) := by decide +kernel
theorem dL_why_115 : decode cL_why 115 = .ok (.iload 9, 2) := by decide +kernel
theorem dL_why_117 : decode cL_why 117 = .ok (.if_icmp .ge 122, 3) := by decide +kernel
theorem dL_why_120 : decode cL_why 120 = .ok (.iconst 1, 1) := by decide +kernel
theorem dL_why_121 : decode cL_why 121 = .ok (.istore 11, 2) := by decide +kernel
theorem dL_why_123 : decode cL_why 123 = .ok (.iconst 0, 1) := by decide +kernel
theorem dL_why_124 : decode cL_why 124 = .ok (.istore 12, 2) := by decide +kernel
theorem dL_why_126 : decode cL_why 126 = .ok (.iload 12, 2) := by decide +kernel
theorem dL_why_128 : decode cL_why 128 = .ok (.aload_n 0, 1) := by decide +kernel
theorem dL_why_129 : decode cL_why 129 = .ok (.iconst 0, 1) := by decide +kernel
theorem dL_why_130 : decode cL_why 130 = .ok (.invokevirtual 9, 3) := by decide +kernel
theorem dL_why_133 : decode cL_why 133 = .ok (.if_icmp .ge 76, 3) := by decide +kernel
theorem dL_why_136 : decode cL_why 136 = .ok (.aload_n 0, 1) := by decide +kernel
theorem dL_why_137 : decode cL_why 137 = .ok (.iload 12, 2) := by decide +kernel
theorem dL_why_139 : decode cL_why 139 = .ok (.aload 6, 2) := by decide +kernel
theorem dL_why_141 : decode cL_why 141 = .ok (.invokestatic 64, 3) := by decide +kernel
theorem dL_why_144 : decode cL_why 144 = .ok (.iload 11, 2) := by decide +kernel
theorem dL_why_146 : decode cL_why 146 = .ok (.ifCond .eq 54, 3) := by decide +kernel
theorem dL_why_149 : decode cL_why 149 = .ok (.iload 12, 2) := by decide +kernel
theorem dL_why_151 : decode cL_why 151 = .ok (.iload 4, 2) := by decide +kernel
theorem dL_why_153 : decode cL_why 153 = .ok (.if_icmp .eq 43, 3) := by decide +kernel
theorem dL_why_156 : decode cL_why 156 = .ok (.aload 6, 2) := by decide +kernel
theorem dL_why_158 : decode cL_why 158 = .ok (.iconst 1, 1) := by decide +kernel
theorem dL_why_159 : decode cL_why 159 = .ok (.iaload, 1) := by decide +kernel
theorem dL_why_160 : decode cL_why 160 = .ok (.iconst 2, 1) := by decide +kernel
theorem dL_why_161 : decode cL_why 161 = .ok (.if_icmp .ne 35, 3) := by decide +kernel
theorem dL_why_164 : decode cL_why 164 = .ok (.aload 6, 2) := by decide +kernel
theorem dL_why_166 : decode cL_why 166 = .ok (.iload_n 1, 1) := by decide +kernel
theorem dL_why_167 : decode cL_why 167 = .ok (.iload_n 2, 1) := by decide +kernel
theorem dL_why_168 : decode cL_why 168 = .ok (.invokestatic 68, 3) := by decide +kernel
theorem dL_why_171 : decode cL_why 171 = .ok (.ifCond .eq 25, 3) := by decide +kernel
theorem dL_why_174 : decode cL_why 174 = .ok (.aload 6, 2) := by decide +kernel
theorem dL_why_176 : decode cL_why 176 = .ok (.iconst 0, 1) := by decide +kernel
theorem dL_why_177 : decode cL_why 177 = .ok (.iaload, 1) := by decide +kernel
theorem dL_why_178 : decode cL_why 178 = .ok (.aload 5, 2) := by decide +kernel
theorem dL_why_180 : decode cL_why 180 = .ok (.iconst 0, 1) := by decide +kernel
theorem dL_why_181 : decode cL_why 181 = .ok (.iaload, 1) := by decide +kernel
theorem dL_why_182 : decode cL_why 182 = .ok (.if_icmp .gt 14, 3) := by decide +kernel
theorem dL_why_185 : decode cL_why 185 = .ok (.aload 6, 2) := by decide +kernel
theorem dL_why_187 : decode cL_why 187 = .ok (.iconst 4, 1) := by decide +kernel
theorem dL_why_188 : decode cL_why 188 = .ok (.iaload, 1) := by decide +kernel
theorem dL_why_189 : decode cL_why 189 = .ok (.aload 5, 2) := by decide +kernel
theorem dL_why_191 : decode cL_why 191 = .ok (.iconst 4, 1) := by decide +kernel
theorem dL_why_192 : decode cL_why 192 = .ok (.iaload, 1) := by decide +kernel
theorem dL_why_193 : decode cL_why 193 = .ok (.if_icmp .ge 7, 3) := by decide +kernel
theorem dL_why_196 : decode cL_why 196 = .ok (.iconst 1, 1) := by decide +kernel
theorem dL_why_197 : decode cL_why 197 = .ok (.goto 4, 3) := by decide +kernel
theorem dL_why_200 : decode cL_why 200 = .ok (.iconst 0, 1) := by decide +kernel
theorem dL_why_201 : decode cL_why 201 = .ok (.istore 11, 2) := by decide +kernel
theorem dL_why_203 : decode cL_why 203 = .ok (.iinc 12 1, 3) := by decide +kernel
theorem dL_why_206 : decode cL_why 206 = .ok (.goto (-80), 3) := by decide +kernel
theorem dL_why_209 : decode cL_why 209 = .ok (.iload 11, 2) := by decide +kernel
theorem dL_why_211 : decode cL_why 211 = .ok (.ifCond .eq 8, 3) := by decide +kernel
theorem dL_why_214 : decode cL_why 214 = .ok (.iload 10, 2) := by decide +kernel
theorem dL_why_216 : decode cL_why 216 = .ok (.goto 5, 3) := by decide +kernel
theorem dL_why_219 : decode cL_why 219 = .ok (.iload 8, 2) := by decide +kernel
theorem dL_why_221 : decode cL_why 221 = .ok (.istore 8, 2) := by decide +kernel
theorem dL_why_223 : decode cL_why 223 = .ok (.iload 11, 2) := by decide +kernel
theorem dL_why_225 : decode cL_why 225 = .ok (.ifCond .eq 10, 3) := by decide +kernel
theorem dL_why_228 : decode cL_why 228 = .ok (.aload 5, 2) := by decide +kernel
theorem dL_why_230 : decode cL_why 230 = .ok (.iconst 0, 1) := by decide +kernel
theorem dL_why_231 : decode cL_why 231 = .ok (.iaload, 1) := by decide +kernel
theorem dL_why_232 : decode cL_why 232 = .ok (.goto 5, 3) := by decide +kernel
theorem dL_why_235 : decode cL_why 235 = .ok (.iload 9, 2) := by decide +kernel
theorem dL_why_237 : decode cL_why 237 = .ok (.istore 9, 2) := by decide +kernel
theorem dL_why_239 : decode cL_why 239 = .ok (.iinc 10 1, 3) := by decide +kernel
theorem dL_why_242 : decode cL_why 242 = .ok (.goto (-218), 3) := by decide +kernel
theorem dL_why_245 : decode cL_why 245 = .ok (.iload 7, 2) := by decide +kernel
theorem dL_why_247 : decode cL_why 247 = .ok (.ifCond .eq 8, 3) := by decide +kernel
theorem dL_why_250 : decode cL_why 250 = .ok (.iload 8, 2) := by decide +kernel
theorem dL_why_252 : decode cL_why 252 = .ok (.goto 5, 3) := by decide +kernel
theorem dL_why_255 : decode cL_why 255 = .ok (.bipush 100, 2) := by decide +kernel
theorem dL_why_257 : decode cL_why 257 = .ok (.ireturn, 1) := by decide +kernel
theorem dL_read_0 : decode cL_read 0 = .ok (.iconst 0, 1) := by decide +kernel
theorem dL_read_1 : decode cL_read 1 = .ok (.istore_n 3, 1) := by decide +kernel
theorem dL_read_2 : decode cL_read 2 = .ok (.iload_n 3, 1) := by decide +kernel
theorem dL_read_3 : decode cL_read 3 = .ok (.iconst 5, 1) := by decide +kernel
theorem dL_read_4 : decode cL_read 4 = .ok (.if_icmp .ge 18, 3) := by decide +kernel
theorem dL_read_7 : decode cL_read 7 = .ok (.aload_n 2, 1) := by decide +kernel
theorem dL_read_8 : decode cL_read 8 = .ok (.iload_n 3, 1) := by decide +kernel
theorem dL_read_9 : decode cL_read 9 = .ok (.aload_n 0, 1) := by decide +kernel
theorem dL_read_10 : decode cL_read 10 = .ok (.iload_n 1, 1) := by decide +kernel
theorem dL_read_11 : decode cL_read 11 = .ok (.iload_n 3, 1) := by decide +kernel
theorem dL_read_12 : decode cL_read 12 = .ok (.invokevirtual 25, 3) := by decide +kernel
theorem dL_read_15 : decode cL_read 15 = .ok (.iastore, 1) := by decide +kernel
theorem dL_read_16 : decode cL_read 16 = .ok (.iinc 3 1, 3) := by decide +kernel
theorem dL_read_19 : decode cL_read 19 = .ok (.goto (-17), 3) := by decide +kernel
theorem dL_read_22 : decode cL_read 22 = .ok (.return_, 1) := by decide +kernel
theorem dL_holds_0 : decode cL_holds 0 = .ok (.iconst 0, 1) := by decide +kernel
theorem dL_holds_1 : decode cL_holds 1 = .ok (.istore_n 3, 1) := by decide +kernel
theorem dL_holds_2 : decode cL_holds 2 = .ok (.iconst 0, 1) := by decide +kernel
theorem dL_holds_3 : decode cL_holds 3 = .ok (.istore 4, 2) := by decide +kernel
theorem dL_holds_5 : decode cL_holds 5 = .ok (.aload_n 0, 1) := by decide +kernel
theorem dL_holds_6 : decode cL_holds 6 = .ok (.aload_n 0, 1) := by decide +kernel
theorem dL_holds_7 : decode cL_holds 7 = .ok (.iconst 0, 1) := by decide +kernel
theorem dL_holds_8 : decode cL_holds 8 = .ok (.invokevirtual 9, 3) := by decide +kernel
theorem dL_holds_11 : decode cL_holds 11 = .ok (.iconst 0, 1) := by decide +kernel
theorem dL_holds_12 : decode cL_holds 12 = .ok (.invokevirtual 25, 3) := by decide +kernel
theorem dL_holds_15 : decode cL_holds 15 = .ok (.iconst (-1), 1) := by decide +kernel
theorem dL_holds_16 : decode cL_holds 16 = .ok (.if_icmp .ne 19, 3) := by decide +kernel
theorem dL_holds_19 : decode cL_holds 19 = .ok (.aload_n 0, 1) := by decide +kernel
theorem dL_holds_20 : decode cL_holds 20 = .ok (.iconst 5, 1) := by decide +kernel
theorem dL_holds_21 : decode cL_holds 21 = .ok (.iconst 0, 1) := by decide +kernel
theorem dL_holds_22 : decode cL_holds 22 = .ok (.iconst 0, 1) := by decide +kernel
theorem dL_holds_23 : decode cL_holds 23 = .ok (.iconst 0, 1) := by decide +kernel
theorem dL_holds_24 : decode cL_holds 24 = .ok (.invokevirtual 72, 3) := by decide +kernel
theorem dL_holds_27 : decode cL_holds 27 = .ok (.iconst (-1), 1) := by decide +kernel
theorem dL_holds_28 : decode cL_holds 28 = .ok (.if_icmp .ne 7, 3) := by decide +kernel
theorem dL_holds_31 : decode cL_holds 31 = .ok (.iconst 1, 1) := by decide +kernel
theorem dL_holds_32 : decode cL_holds 32 = .ok (.goto 4, 3) := by decide +kernel
theorem dL_holds_35 : decode cL_holds 35 = .ok (.iconst 0, 1) := by decide +kernel
theorem dL_holds_36 : decode cL_holds 36 = .ok (.istore 5, 2) := by decide +kernel
theorem dL_holds_38 : decode cL_holds 38 = .ok (.iconst 0, 1) := by decide +kernel
theorem dL_holds_39 : decode cL_holds 39 = .ok (.istore 6, 2) := by decide +kernel
theorem dL_holds_41 : decode cL_holds 41 = .ok (.iload 6, 2) := by decide +kernel
theorem dL_holds_43 : decode cL_holds 43 = .ok (.iconst 5, 1) := by decide +kernel
theorem dL_holds_44 : decode cL_holds 44 = .ok (.if_icmp .ge 263, 3) := by decide +kernel
theorem dL_holds_47 : decode cL_holds 47 = .ok (.iload 5, 2) := by decide +kernel
theorem dL_holds_49 : decode cL_holds 49 = .ok (.ifCond .eq 258, 3) := by decide +kernel
theorem dL_holds_52 : decode cL_holds 52 = .ok (.iconst 0, 1) := by decide +kernel
theorem dL_holds_53 : decode cL_holds 53 = .ok (.istore 7, 2) := by decide +kernel
theorem dL_holds_55 : decode cL_holds 55 = .ok (.iload 7, 2) := by decide +kernel
theorem dL_holds_57 : decode cL_holds 57 = .ok (.bipush 6, 2) := by decide +kernel
theorem dL_holds_59 : decode cL_holds 59 = .ok (.if_icmp .ge 242, 3) := by decide +kernel
theorem dL_holds_62 : decode cL_holds 62 = .ok (.iload 5, 2) := by decide +kernel
theorem dL_holds_64 : decode cL_holds 64 = .ok (.ifCond .eq 237, 3) := by decide +kernel
theorem dL_holds_67 : decode cL_holds 67 = .ok (.aload_n 0, 1) := by decide +kernel
theorem dL_holds_68 : decode cL_holds 68 = .ok (.iload 6, 2) := by decide +kernel
theorem dL_holds_70 : decode cL_holds 70 = .ok (.iload 7, 2) := by decide +kernel
theorem dL_holds_72 : decode cL_holds 72 = .ok (.invokevirtual 76, 3) := by decide +kernel
theorem dL_holds_75 : decode cL_holds 75 = .ok (.istore 8, 2) := by decide +kernel
theorem dL_holds_77 : decode cL_holds 77 = .ok (.iload_n 2, 1) := by decide +kernel
theorem dL_holds_78 : decode cL_holds 78 = .ok (.bipush 7, 2) := by decide +kernel
theorem dL_holds_80 : decode cL_holds 80 = .ok (.iload 6, 2) := by decide +kernel
theorem dL_holds_82 : decode cL_holds 82 = .ok (.imul, 1) := by decide +kernel
theorem dL_holds_83 : decode cL_holds 83 = .ok (.iadd, 1) := by decide +kernel
theorem dL_holds_84 : decode cL_holds 84 = .ok (.iload 7, 2) := by decide +kernel
theorem dL_holds_86 : decode cL_holds 86 = .ok (.iadd, 1) := by decide +kernel
theorem dL_holds_87 : decode cL_holds 87 = .ok (.bipush 10, 2) := by decide +kernel
theorem dL_holds_89 : decode cL_holds 89 = .ok (.invokestatic 15, 3) := by decide +kernel
theorem dL_holds_92 : decode cL_holds 92 = .ok (.istore 9, 2) := by decide +kernel
theorem dL_holds_94 : decode cL_holds 94 = .ok (.iconst 0, 1) := by decide +kernel
theorem dL_holds_95 : decode cL_holds 95 = .ok (.istore 10, 2) := by decide +kernel
theorem dL_holds_97 : decode cL_holds 97 = .ok (.iload 10, 2) := by decide +kernel
theorem dL_holds_99 : decode cL_holds 99 = .ok (.bipush 10, 2) := by decide +kernel
theorem dL_holds_101 : decode cL_holds 101 = .ok (.if_icmp .ge 122, 3) := by decide +kernel
theorem dL_holds_104 : decode cL_holds 104 = .ok (.iload 5, 2) := by decide +kernel
theorem dL_holds_106 : decode cL_holds 106 = .ok (.ifCond .eq 117, 3) := by decide +kernel
theorem dL_holds_109 : decode cL_holds 109 = .ok (.aload_n 0, 1) := by decide +kernel
theorem dL_holds_110 : decode cL_holds 110 = .ok (.iload 6, 2) := by decide +kernel
theorem dL_holds_112 : decode cL_holds 112 = .ok (.iload 7, 2) := by decide +kernel
theorem dL_holds_114 : decode cL_holds 114 = .ok (.iload 10, 2) := by decide +kernel
theorem dL_holds_116 : decode cL_holds 116 = .ok (.iconst 0, 1) := by decide +kernel
theorem dL_holds_117 : decode cL_holds 117 = .ok (.invokevirtual 72, 3) := by decide +kernel
theorem dL_holds_120 : decode cL_holds 120 = .ok (.iload 8, 2) := by decide +kernel
theorem dL_holds_122 : decode cL_holds 122 = .ok (.bipush (-6), 2) := by decide +kernel
theorem dL_holds_124 : decode cL_holds 124 = .ok (.if_icmp .eq 14, 3) := by decide +kernel
theorem dL_holds_127 : decode cL_holds 127 = .ok (.iload 10, 2) := by decide +kernel
theorem dL_holds_129 : decode cL_holds 129 = .ok (.iload 8, 2) := by decide +kernel
theorem dL_holds_131 : decode cL_holds 131 = .ok (.if_icmp .lt 7, 3) := by decide +kernel
theorem dL_holds_134 : decode cL_holds 134 = .ok (.iconst 1, 1) := by decide +kernel
theorem dL_holds_135 : decode cL_holds 135 = .ok (.goto 4, 3) := by decide +kernel
theorem dL_holds_138 : decode cL_holds 138 = .ok (.iconst 0, 1) := by decide +kernel
theorem dL_holds_139 : decode cL_holds 139 = .ok (.if_icmp .ne 75, 3) := by decide +kernel
theorem dL_holds_142 : decode cL_holds 142 = .ok (.aload_n 0, 1) := by decide +kernel
theorem dL_holds_143 : decode cL_holds 143 = .ok (.iload 6, 2) := by decide +kernel
theorem dL_holds_145 : decode cL_holds 145 = .ok (.iload 7, 2) := by decide +kernel
theorem dL_holds_147 : decode cL_holds 147 = .ok (.iload 10, 2) := by decide +kernel
theorem dL_holds_149 : decode cL_holds 149 = .ok (.iconst 1, 1) := by decide +kernel
theorem dL_holds_150 : decode cL_holds 150 = .ok (.invokevirtual 72, 3) := by decide +kernel
theorem dL_holds_153 : decode cL_holds 153 = .ok (.aload_n 0, 1) := by decide +kernel
theorem dL_holds_154 : decode cL_holds 154 = .ok (.iload 6, 2) := by decide +kernel
theorem dL_holds_156 : decode cL_holds 156 = .ok (.iload 7, 2) := by decide +kernel
theorem dL_holds_158 : decode cL_holds 158 = .ok (.iload 10, 2) := by decide +kernel
theorem dL_holds_160 : decode cL_holds 160 = .ok (.iconst 0, 1) := by decide +kernel
theorem dL_holds_161 : decode cL_holds 161 = .ok (.invokevirtual 72, 3) := by decide +kernel
theorem dL_holds_164 : decode cL_holds 164 = .ok (.if_icmp .ne 50, 3) := by decide +kernel
theorem dL_holds_167 : decode cL_holds 167 = .ok (.aload_n 0, 1) := by decide +kernel
theorem dL_holds_168 : decode cL_holds 168 = .ok (.iload 6, 2) := by decide +kernel
theorem dL_holds_170 : decode cL_holds 170 = .ok (.iload 7, 2) := by decide +kernel
theorem dL_holds_172 : decode cL_holds 172 = .ok (.iload 10, 2) := by decide +kernel
theorem dL_holds_174 : decode cL_holds 174 = .ok (.invokevirtual 60, 3) := by decide +kernel
theorem dL_holds_177 : decode cL_holds 177 = .ok (.bipush (-6), 2) := by decide +kernel
theorem dL_holds_179 : decode cL_holds 179 = .ok (.if_icmp .ne 7, 3) := by decide +kernel
theorem dL_holds_182 : decode cL_holds 182 = .ok (.iconst 1, 1) := by decide +kernel
theorem dL_holds_183 : decode cL_holds 183 = .ok (.goto 4, 3) := by decide +kernel
theorem dL_holds_186 : decode cL_holds 186 = .ok (.iconst 0, 1) := by decide +kernel
theorem dL_holds_187 : decode cL_holds 187 = .ok (.aload_n 0, 1) := by decide +kernel
theorem dL_holds_188 : decode cL_holds 188 = .ok (.iload 6, 2) := by decide +kernel
theorem dL_holds_190 : decode cL_holds 190 = .ok (.iload 7, 2) := by decide +kernel
theorem dL_holds_192 : decode cL_holds 192 = .ok (.iload 10, 2) := by decide +kernel
theorem dL_holds_194 : decode cL_holds 194 = .ok (.iconst 0, 1) := by decide +kernel
theorem dL_holds_195 : decode cL_holds 195 = .ok (.invokevirtual 72, 3) := by decide +kernel
theorem dL_holds_198 : decode cL_holds 198 = .ok (.iconst 1, 1) := by decide +kernel
theorem dL_holds_199 : decode cL_holds 199 = .ok (.if_icmp .ne 7, 3) := by decide +kernel
theorem dL_holds_202 : decode cL_holds 202 = .ok (.iconst 1, 1) := by decide +kernel
theorem dL_holds_203 : decode cL_holds 203 = .ok (.goto 4, 3) := by decide +kernel
theorem dL_holds_206 : decode cL_holds 206 = .ok (.iconst 0, 1) := by decide +kernel
theorem dL_holds_207 : decode cL_holds 207 = .ok (.if_icmp .ne 7, 3) := by decide +kernel
theorem dL_holds_210 : decode cL_holds 210 = .ok (.iconst 1, 1) := by decide +kernel
theorem dL_holds_211 : decode cL_holds 211 = .ok (.goto 4, 3) := by decide +kernel
theorem dL_holds_214 : decode cL_holds 214 = .ok (.iconst 0, 1) := by decide +kernel
theorem dL_holds_215 : decode cL_holds 215 = .ok (.istore 5, 2) := by decide +kernel
theorem dL_holds_217 : decode cL_holds 217 = .ok (.iinc 10 1, 3) := by decide +kernel
theorem dL_holds_220 : decode cL_holds 220 = .ok (.goto (-123), 3) := by decide +kernel
theorem dL_holds_223 : decode cL_holds 223 = .ok (.iload_n 3, 1) := by decide +kernel
theorem dL_holds_224 : decode cL_holds 224 = .ok (.iload 8, 2) := by decide +kernel
theorem dL_holds_226 : decode cL_holds 226 = .ok (.bipush (-6), 2) := by decide +kernel
theorem dL_holds_228 : decode cL_holds 228 = .ok (.if_icmp .ne 7, 3) := by decide +kernel
theorem dL_holds_231 : decode cL_holds 231 = .ok (.iconst 0, 1) := by decide +kernel
theorem dL_holds_232 : decode cL_holds 232 = .ok (.goto 8, 3) := by decide +kernel
theorem dL_holds_235 : decode cL_holds 235 = .ok (.bipush 10, 2) := by decide +kernel
theorem dL_holds_237 : decode cL_holds 237 = .ok (.iload 8, 2) := by decide +kernel
theorem dL_holds_239 : decode cL_holds 239 = .ok (.isub, 1) := by decide +kernel
theorem dL_holds_240 : decode cL_holds 240 = .ok (.iadd, 1) := by decide +kernel
theorem dL_holds_241 : decode cL_holds 241 = .ok (.istore_n 3, 1) := by decide +kernel
theorem dL_holds_242 : decode cL_holds 242 = .ok (.iload 5, 2) := by decide +kernel
theorem dL_holds_244 : decode cL_holds 244 = .ok (.ifCond .eq 47, 3) := by decide +kernel
theorem dL_holds_247 : decode cL_holds 247 = .ok (.iload 6, 2) := by decide +kernel
theorem dL_holds_249 : decode cL_holds 249 = .ok (.iload 7, 2) := by decide +kernel
theorem dL_holds_251 : decode cL_holds 251 = .ok (.iadd, 1) := by decide +kernel
theorem dL_holds_252 : decode cL_holds 252 = .ok (.iload_n 2, 1) := by decide +kernel
theorem dL_holds_253 : decode cL_holds 253 = .ok (.iadd, 1) := by decide +kernel
theorem dL_holds_254 : decode cL_holds 254 = .ok (.iconst 3, 1) := by decide +kernel
theorem dL_holds_255 : decode cL_holds 255 = .ok (.iand, 1) := by decide +kernel
theorem dL_holds_256 : decode cL_holds 256 = .ok (.ifCond .ne 35, 3) := by decide +kernel
theorem dL_holds_259 : decode cL_holds 259 = .ok (.aload_n 0, 1) := by decide +kernel
theorem dL_holds_260 : decode cL_holds 260 = .ok (.iload 6, 2) := by decide +kernel
theorem dL_holds_262 : decode cL_holds 262 = .ok (.iload 7, 2) := by decide +kernel
theorem dL_holds_264 : decode cL_holds 264 = .ok (.iload 9, 2) := by decide +kernel
theorem dL_holds_266 : decode cL_holds 266 = .ok (.invokevirtual 60, 3) := by decide +kernel
theorem dL_holds_269 : decode cL_holds 269 = .ok (.aload_n 0, 1) := by decide +kernel
theorem dL_holds_270 : decode cL_holds 270 = .ok (.iload 6, 2) := by decide +kernel
theorem dL_holds_272 : decode cL_holds 272 = .ok (.iload 7, 2) := by decide +kernel
theorem dL_holds_274 : decode cL_holds 274 = .ok (.iload 9, 2) := by decide +kernel
theorem dL_holds_276 : decode cL_holds 276 = .ok (.iconst (-1), 1) := by decide +kernel
theorem dL_holds_277 : decode cL_holds 277 = .ok (.invokestatic 79, 3) := by decide +kernel
theorem dL_holds_280 : decode cL_holds 280 = .ok (.if_icmp .ne 7, 3) := by decide +kernel
theorem dL_holds_283 : decode cL_holds 283 = .ok (.iconst 1, 1) := by decide +kernel
theorem dL_holds_284 : decode cL_holds 284 = .ok (.goto 9, 3) := by decide +kernel
theorem dL_holds_287 : decode cL_holds 287 = .ok (.iconst 0, 1) := by decide +kernel
theorem dL_holds_288 : decode cL_holds 288 = .ok (.goto 5, 3) := by decide +kernel
theorem dL_holds_291 : decode cL_holds 291 = .ok (.iload 5, 2) := by decide +kernel
theorem dL_holds_293 : decode cL_holds 293 = .ok (.istore 5, 2) := by decide +kernel
theorem dL_holds_295 : decode cL_holds 295 = .ok (.iinc 7 1, 3) := by decide +kernel
theorem dL_holds_298 : decode cL_holds 298 = .ok (.goto (-243), 3) := by decide +kernel
theorem dL_holds_301 : decode cL_holds 301 = .ok (.iinc 6 1, 3) := by decide +kernel
theorem dL_holds_304 : decode cL_holds 304 = .ok (.goto (-263), 3) := by decide +kernel
theorem dL_holds_307 : decode cL_holds 307 = .ok (.iconst 0, 1) := by decide +kernel
theorem dL_holds_308 : decode cL_holds 308 = .ok (.istore 6, 2) := by decide +kernel
theorem dL_holds_310 : decode cL_holds 310 = .ok (.iconst 0, 1) := by decide +kernel
theorem dL_holds_311 : decode cL_holds 311 = .ok (.istore 7, 2) := by decide +kernel
theorem dL_holds_313 : decode cL_holds 313 = .ok (.iconst 0, 1) := by decide +kernel
theorem dL_holds_314 : decode cL_holds 314 = .ok (.istore 8, 2) := by decide +kernel
theorem dL_holds_316 : decode cL_holds 316 = .ok (.iload 8, 2) := by decide +kernel
theorem dL_holds_318 : decode cL_holds 318 = .ok (.aload_n 0, 1) := by decide +kernel
theorem dL_holds_319 : decode cL_holds 319 = .ok (.iconst 0, 1) := by decide +kernel
theorem dL_holds_320 : decode cL_holds 320 = .ok (.invokevirtual 9, 3) := by decide +kernel
theorem dL_holds_323 : decode cL_holds 323 = .ok (.if_icmp .ge 145, 3) := by decide +kernel
theorem dL_holds_326 : decode cL_holds 326 = .ok (.iload 5, 2) := by decide +kernel
theorem dL_holds_328 : decode cL_holds 328 = .ok (.ifCond .eq 140, 3) := by decide +kernel
theorem dL_holds_331 : decode cL_holds 331 = .ok (.iload 4, 2) := by decide +kernel
theorem dL_holds_333 : decode cL_holds 333 = .ok (.aload_n 0, 1) := by decide +kernel
theorem dL_holds_334 : decode cL_holds 334 = .ok (.iload 8, 2) := by decide +kernel
theorem dL_holds_336 : decode cL_holds 336 = .ok (.iconst 1, 1) := by decide +kernel
theorem dL_holds_337 : decode cL_holds 337 = .ok (.invokevirtual 25, 3) := by decide +kernel
theorem dL_holds_340 : decode cL_holds 340 = .ok (.ifCond .lt 14, 3) := by decide +kernel
theorem dL_holds_343 : decode cL_holds 343 = .ok (.aload_n 0, 1) := by decide +kernel
theorem dL_holds_344 : decode cL_holds 344 = .ok (.iload 8, 2) := by decide +kernel
theorem dL_holds_346 : decode cL_holds 346 = .ok (.iconst 1, 1) := by decide +kernel
theorem dL_holds_347 : decode cL_holds 347 = .ok (.invokevirtual 25, 3) := by decide +kernel
theorem dL_holds_350 : decode cL_holds 350 = .ok (.iconst 2, 1) := by decide +kernel
theorem dL_holds_351 : decode cL_holds 351 = .ok (.if_icmp .le 7, 3) := by decide +kernel
theorem dL_holds_354 : decode cL_holds 354 = .ok (.iconst 1, 1) := by decide +kernel
theorem dL_holds_355 : decode cL_holds 355 = .ok (.goto 4, 3) := by decide +kernel
theorem dL_holds_358 : decode cL_holds 358 = .ok (.iconst 0, 1) := by decide +kernel
theorem dL_holds_359 : decode cL_holds 359 = .ok (.iadd, 1) := by decide +kernel
theorem dL_holds_360 : decode cL_holds 360 = .ok (.istore 4, 2) := by decide +kernel
theorem dL_holds_362 : decode cL_holds 362 = .ok (.iload 6, 2) := by decide +kernel
theorem dL_holds_364 : decode cL_holds 364 = .ok (.aload_n 0, 1) := by decide +kernel
theorem dL_holds_365 : decode cL_holds 365 = .ok (.iload 8, 2) := by decide +kernel
theorem dL_holds_367 : decode cL_holds 367 = .ok (.bipush 6, 2) := by decide +kernel
theorem dL_holds_369 : decode cL_holds 369 = .ok (.invokevirtual 25, 3) := by decide +kernel
theorem dL_holds_372 : decode cL_holds 372 = .ok (.iadd, 1) := by decide +kernel
theorem dL_holds_373 : decode cL_holds 373 = .ok (.istore 6, 2) := by decide +kernel
theorem dL_holds_375 : decode cL_holds 375 = .ok (.iload 7, 2) := by decide +kernel
theorem dL_holds_377 : decode cL_holds 377 = .ok (.aload_n 0, 1) := by decide +kernel
theorem dL_holds_378 : decode cL_holds 378 = .ok (.iload 8, 2) := by decide +kernel
theorem dL_holds_380 : decode cL_holds 380 = .ok (.iconst 5, 1) := by decide +kernel
theorem dL_holds_381 : decode cL_holds 381 = .ok (.invokevirtual 25, 3) := by decide +kernel
theorem dL_holds_384 : decode cL_holds 384 = .ok (.iadd, 1) := by decide +kernel
theorem dL_holds_385 : decode cL_holds 385 = .ok (.istore 7, 2) := by decide +kernel
theorem dL_holds_387 : decode cL_holds 387 = .ok (.aload_n 0, 1) := by decide +kernel
theorem dL_holds_388 : decode cL_holds 388 = .ok (.iload 8, 2) := by decide +kernel
theorem dL_holds_390 : decode cL_holds 390 = .ok (.bipush 7, 2) := by decide +kernel
theorem dL_holds_392 : decode cL_holds 392 = .ok (.invokevirtual 25, 3) := by decide +kernel
theorem dL_holds_395 : decode cL_holds 395 = .ok (.aload_n 0, 1) := by decide +kernel
theorem dL_holds_396 : decode cL_holds 396 = .ok (.iload 8, 2) := by decide +kernel
theorem dL_holds_398 : decode cL_holds 398 = .ok (.iconst 2, 1) := by decide +kernel
theorem dL_holds_399 : decode cL_holds 399 = .ok (.invokevirtual 25, 3) := by decide +kernel
theorem dL_holds_402 : decode cL_holds 402 = .ok (.iconst 5, 1) := by decide +kernel
theorem dL_holds_403 : decode cL_holds 403 = .ok (.if_icmp .ne 7, 3) := by decide +kernel
theorem dL_holds_406 : decode cL_holds 406 = .ok (.iconst 5, 1) := by decide +kernel
theorem dL_holds_407 : decode cL_holds 407 = .ok (.goto 4, 3) := by decide +kernel
theorem dL_holds_410 : decode cL_holds 410 = .ok (.iconst 1, 1) := by decide +kernel
theorem dL_holds_411 : decode cL_holds 411 = .ok (.aload_n 0, 1) := by decide +kernel
theorem dL_holds_412 : decode cL_holds 412 = .ok (.iload 8, 2) := by decide +kernel
theorem dL_holds_414 : decode cL_holds 414 = .ok (.iconst 3, 1) := by decide +kernel
theorem dL_holds_415 : decode cL_holds 415 = .ok (.invokevirtual 25, 3) := by decide +kernel
theorem dL_holds_418 : decode cL_holds 418 = .ok (.bipush 6, 2) := by decide +kernel
theorem dL_holds_420 : decode cL_holds 420 = .ok (.if_icmp .ne 8, 3) := by decide +kernel
theorem dL_holds_423 : decode cL_holds 423 = .ok (.bipush 6, 2) := by decide +kernel
theorem dL_holds_425 : decode cL_holds 425 = .ok (.goto 4, 3) := by decide +kernel
theorem dL_holds_428 : decode cL_holds 428 = .ok (.iconst 1, 1) := by decide +kernel
theorem dL_holds_429 : decode cL_holds 429 = .ok (.imul, 1) := by decide +kernel
theorem dL_holds_430 : decode cL_holds 430 = .ok (.if_icmp .ne 29, 3) := by decide +kernel
theorem dL_holds_433 : decode cL_holds 433 = .ok (.aload_n 0, 1) := by decide +kernel
theorem dL_holds_434 : decode cL_holds 434 = .ok (.iload 8, 2) := by decide +kernel
theorem dL_holds_436 : decode cL_holds 436 = .ok (.iconst 5, 1) := by decide +kernel
theorem dL_holds_437 : decode cL_holds 437 = .ok (.invokevirtual 25, 3) := by decide +kernel
theorem dL_holds_440 : decode cL_holds 440 = .ok (.ifCond .eq 15, 3) := by decide +kernel
theorem dL_holds_443 : decode cL_holds 443 = .ok (.aload_n 0, 1) := by decide +kernel
theorem dL_holds_444 : decode cL_holds 444 = .ok (.iload 8, 2) := by decide +kernel
theorem dL_holds_446 : decode cL_holds 446 = .ok (.invokevirtual 82, 3) := by decide +kernel
theorem dL_holds_449 : decode cL_holds 449 = .ok (.sipush 1000, 3) := by decide +kernel
theorem dL_holds_452 : decode cL_holds 452 = .ok (.if_icmp .ne 7, 3) := by decide +kernel
theorem dL_holds_455 : decode cL_holds 455 = .ok (.iconst 1, 1) := by decide +kernel
theorem dL_holds_456 : decode cL_holds 456 = .ok (.goto 4, 3) := by decide +kernel
theorem dL_holds_459 : decode cL_holds 459 = .ok (.iconst 0, 1) := by decide +kernel
theorem dL_holds_460 : decode cL_holds 460 = .ok (.istore 5, 2) := by decide +kernel
theorem dL_holds_462 : decode cL_holds 462 = .ok (.iinc 8 1, 3) := by decide +kernel
theorem dL_holds_465 : decode cL_holds 465 = .ok (.goto (-149), 3) := by decide +kernel
theorem dL_holds_468 : decode cL_holds 468 = .ok (.iconst 0, 1) := by decide +kernel
theorem dL_holds_469 : decode cL_holds 469 = .ok (.istore 8, 2) := by decide +kernel
theorem dL_holds_471 : decode cL_holds 471 = .ok (.iconst 0, 1) := by decide +kernel
theorem dL_holds_472 : decode cL_holds 472 = .ok (.istore 9, 2) := by decide +kernel
theorem dL_holds_474 : decode cL_holds 474 = .ok (.iload 9, 2) := by decide +kernel
theorem dL_holds_476 : decode cL_holds 476 = .ok (.aload_n 0, 1) := by decide +kernel
theorem dL_holds_477 : decode cL_holds 477 = .ok (.bipush 7, 2) := by decide +kernel
theorem dL_holds_479 : decode cL_holds 479 = .ok (.invokevirtual 9, 3) := by decide +kernel
theorem dL_holds_482 : decode cL_holds 482 = .ok (.if_icmp .ge 93, 3) := by decide +kernel
theorem dL_holds_485 : decode cL_holds 485 = .ok (.iload 5, 2) := by decide +kernel
theorem dL_holds_487 : decode cL_holds 487 = .ok (.ifCond .eq 88, 3) := by decide +kernel
theorem dL_holds_490 : decode cL_holds 490 = .ok (.iconst 0, 1) := by decide +kernel
theorem dL_holds_491 : decode cL_holds 491 = .ok (.istore 10, 2) := by decide +kernel
theorem dL_holds_493 : decode cL_holds 493 = .ok (.iconst 0, 1) := by decide +kernel
theorem dL_holds_494 : decode cL_holds 494 = .ok (.istore 11, 2) := by decide +kernel
theorem dL_holds_496 : decode cL_holds 496 = .ok (.iload 11, 2) := by decide +kernel
theorem dL_holds_498 : decode cL_holds 498 = .ok (.bipush 6, 2) := by decide +kernel
theorem dL_holds_500 : decode cL_holds 500 = .ok (.if_icmp .ge 38, 3) := by decide +kernel
theorem dL_holds_503 : decode cL_holds 503 = .ok (.iload 10, 2) := by decide +kernel
theorem dL_holds_505 : decode cL_holds 505 = .ok (.aload_n 0, 1) := by decide +kernel
theorem dL_holds_506 : decode cL_holds 506 = .ok (.aload_n 0, 1) := by decide +kernel
theorem dL_holds_507 : decode cL_holds 507 = .ok (.iload 9, 2) := by decide +kernel
theorem dL_holds_509 : decode cL_holds 509 = .ok (.iconst 0, 1) := by decide +kernel
theorem dL_holds_510 : decode cL_holds 510 = .ok (.invokevirtual 44, 3) := by decide +kernel
theorem dL_holds_513 : decode cL_holds 513 = .ok (.iload 11, 2) := by decide +kernel
theorem dL_holds_515 : decode cL_holds 515 = .ok (.aload_n 0, 1) := by decide +kernel
theorem dL_holds_516 : decode cL_holds 516 = .ok (.iload 9, 2) := by decide +kernel
theorem dL_holds_518 : decode cL_holds 518 = .ok (.iconst 1, 1) := by decide +kernel
theorem dL_holds_519 : decode cL_holds 519 = .ok (.invokevirtual 44, 3) := by decide +kernel
theorem dL_holds_522 : decode cL_holds 522 = .ok (.iconst 0, 1) := by decide +kernel
theorem dL_holds_523 : decode cL_holds 523 = .ok (.invokevirtual 72, 3) := by decide +kernel
theorem dL_holds_526 : decode cL_holds 526 = .ok (.iload 11, 2) := by decide +kernel
theorem dL_holds_528 : decode cL_holds 528 = .ok (.ishl, 1) := by decide +kernel
theorem dL_holds_529 : decode cL_holds 529 = .ok (.ior, 1) := by decide +kernel
theorem dL_holds_530 : decode cL_holds 530 = .ok (.istore 10, 2) := by decide +kernel
theorem dL_holds_532 : decode cL_holds 532 = .ok (.iinc 11 1, 3) := by decide +kernel
theorem dL_holds_535 : decode cL_holds 535 = .ok (.goto (-39), 3) := by decide +kernel
theorem dL_holds_538 : decode cL_holds 538 = .ok (.aload_n 0, 1) := by decide +kernel
theorem dL_holds_539 : decode cL_holds 539 = .ok (.iload 9, 2) := by decide +kernel
theorem dL_holds_541 : decode cL_holds 541 = .ok (.iconst 2, 1) := by decide +kernel
theorem dL_holds_542 : decode cL_holds 542 = .ok (.invokevirtual 44, 3) := by decide +kernel
theorem dL_holds_545 : decode cL_holds 545 = .ok (.iload 10, 2) := by decide +kernel
theorem dL_holds_547 : decode cL_holds 547 = .ok (.if_icmp .ne 7, 3) := by decide +kernel
theorem dL_holds_550 : decode cL_holds 550 = .ok (.iconst 1, 1) := by decide +kernel
theorem dL_holds_551 : decode cL_holds 551 = .ok (.goto 4, 3) := by decide +kernel
theorem dL_holds_554 : decode cL_holds 554 = .ok (.iconst 0, 1) := by decide +kernel
theorem dL_holds_555 : decode cL_holds 555 = .ok (.istore 5, 2) := by decide +kernel
theorem dL_holds_557 : decode cL_holds 557 = .ok (.iload 8, 2) := by decide +kernel
theorem dL_holds_559 : decode cL_holds 559 = .ok (.aload_n 0, 1) := by decide +kernel
theorem dL_holds_560 : decode cL_holds 560 = .ok (.iload 9, 2) := by decide +kernel
theorem dL_holds_562 : decode cL_holds 562 = .ok (.iconst 3, 1) := by decide +kernel
theorem dL_holds_563 : decode cL_holds 563 = .ok (.invokevirtual 44, 3) := by decide +kernel
theorem dL_holds_566 : decode cL_holds 566 = .ok (.iadd, 1) := by decide +kernel
theorem dL_holds_567 : decode cL_holds 567 = .ok (.istore 8, 2) := by decide +kernel
theorem dL_holds_569 : decode cL_holds 569 = .ok (.iinc 9 1, 3) := by decide +kernel
theorem dL_holds_572 : decode cL_holds 572 = .ok (.goto (-98), 3) := by decide +kernel
theorem dL_holds_575 : decode cL_holds 575 = .ok (.iconst 0, 1) := by decide +kernel
theorem dL_holds_576 : decode cL_holds 576 = .ok (.istore 9, 2) := by decide +kernel
theorem dL_holds_578 : decode cL_holds 578 = .ok (.bipush 9, 2) := by decide +kernel
theorem dL_holds_580 : decode cL_holds 580 = .ok (.istore 10, 2) := by decide +kernel
theorem dL_holds_582 : decode cL_holds 582 = .ok (.iload 10, 2) := by decide +kernel
theorem dL_holds_584 : decode cL_holds 584 = .ok (.bipush 15, 2) := by decide +kernel
theorem dL_holds_586 : decode cL_holds 586 = .ok (.if_icmp .ge 20, 3) := by decide +kernel
theorem dL_holds_589 : decode cL_holds 589 = .ok (.iload 9, 2) := by decide +kernel
theorem dL_holds_591 : decode cL_holds 591 = .ok (.aload_n 0, 1) := by decide +kernel
theorem dL_holds_592 : decode cL_holds 592 = .ok (.iload 10, 2) := by decide +kernel
theorem dL_holds_594 : decode cL_holds 594 = .ok (.invokevirtual 9, 3) := by decide +kernel
theorem dL_holds_597 : decode cL_holds 597 = .ok (.iadd, 1) := by decide +kernel
theorem dL_holds_598 : decode cL_holds 598 = .ok (.istore 9, 2) := by decide +kernel
theorem dL_holds_600 : decode cL_holds 600 = .ok (.iinc 10 1, 3) := by decide +kernel
theorem dL_holds_603 : decode cL_holds 603 = .ok (.goto (-21), 3) := by decide +kernel
theorem dL_holds_606 : decode cL_holds 606 = .ok (.iload 5, 2) := by decide +kernel
theorem dL_holds_608 : decode cL_holds 608 = .ok (.ifCond .eq 100, 3) := by decide +kernel
theorem dL_holds_611 : decode cL_holds 611 = .ok (.iload 4, 2) := by decide +kernel
theorem dL_holds_613 : decode cL_holds 613 = .ok (.ifCond .ne 95, 3) := by decide +kernel
theorem dL_holds_616 : decode cL_holds 616 = .ok (.iload_n 3, 1) := by decide +kernel
theorem dL_holds_617 : decode cL_holds 617 = .ok (.aload_n 0, 1) := by decide +kernel
theorem dL_holds_618 : decode cL_holds 618 = .ok (.bipush 6, 2) := by decide +kernel
theorem dL_holds_620 : decode cL_holds 620 = .ok (.invokevirtual 9, 3) := by decide +kernel
theorem dL_holds_623 : decode cL_holds 623 = .ok (.if_icmp .ne 85, 3) := by decide +kernel
theorem dL_holds_626 : decode cL_holds 626 = .ok (.iload 6, 2) := by decide +kernel
theorem dL_holds_628 : decode cL_holds 628 = .ok (.iconst 2, 1) := by decide +kernel
theorem dL_holds_629 : decode cL_holds 629 = .ok (.aload_n 0, 1) := by decide +kernel
theorem dL_holds_630 : decode cL_holds 630 = .ok (.iconst 5, 1) := by decide +kernel
theorem dL_holds_631 : decode cL_holds 631 = .ok (.invokevirtual 9, 3) := by decide +kernel
theorem dL_holds_634 : decode cL_holds 634 = .ok (.imul, 1) := by decide +kernel
theorem dL_holds_635 : decode cL_holds 635 = .ok (.if_icmp .ne 73, 3) := by decide +kernel
theorem dL_holds_638 : decode cL_holds 638 = .ok (.iload 7, 2) := by decide +kernel
theorem dL_holds_640 : decode cL_holds 640 = .ok (.aload_n 0, 1) := by decide +kernel
theorem dL_holds_641 : decode cL_holds 641 = .ok (.iconst 4, 1) := by decide +kernel
theorem dL_holds_642 : decode cL_holds 642 = .ok (.invokevirtual 9, 3) := by decide +kernel
theorem dL_holds_645 : decode cL_holds 645 = .ok (.if_icmp .ne 63, 3) := by decide +kernel
theorem dL_holds_648 : decode cL_holds 648 = .ok (.aload_n 0, 1) := by decide +kernel
theorem dL_holds_649 : decode cL_holds 649 = .ok (.iconst 1, 1) := by decide +kernel
theorem dL_holds_650 : decode cL_holds 650 = .ok (.invokevirtual 9, 3) := by decide +kernel
theorem dL_holds_653 : decode cL_holds 653 = .ok (.aload_n 0, 1) := by decide +kernel
theorem dL_holds_654 : decode cL_holds 654 = .ok (.iconst 2, 1) := by decide +kernel
theorem dL_holds_655 : decode cL_holds 655 = .ok (.invokevirtual 9, 3) := by decide +kernel
theorem dL_holds_658 : decode cL_holds 658 = .ok (.iadd, 1) := by decide +kernel
theorem dL_holds_659 : decode cL_holds 659 = .ok (.aload_n 0, 1) := by decide +kernel
theorem dL_holds_660 : decode cL_holds 660 = .ok (.iconst 3, 1) := by decide +kernel
theorem dL_holds_661 : decode cL_holds 661 = .ok (.invokevirtual 9, 3) := by decide +kernel
theorem dL_holds_664 : decode cL_holds 664 = .ok (.iadd, 1) := by decide +kernel
theorem dL_holds_665 : decode cL_holds 665 = .ok (.aload_n 0, 1) := by decide +kernel
theorem dL_holds_666 : decode cL_holds 666 = .ok (.iconst 0, 1) := by decide +kernel
theorem dL_holds_667 : decode cL_holds 667 = .ok (.invokevirtual 9, 3) := by decide +kernel
theorem dL_holds_670 : decode cL_holds 670 = .ok (.if_icmp .ne 38, 3) := by decide +kernel
theorem dL_holds_673 : decode cL_holds 673 = .ok (.iload 8, 2) := by decide +kernel
theorem dL_holds_675 : decode cL_holds 675 = .ok (.aload_n 0, 1) := by decide +kernel
theorem dL_holds_676 : decode cL_holds 676 = .ok (.bipush 8, 2) := by decide +kernel
theorem dL_holds_678 : decode cL_holds 678 = .ok (.invokevirtual 9, 3) := by decide +kernel
theorem dL_holds_681 : decode cL_holds 681 = .ok (.if_icmp .gt 27, 3) := by decide +kernel
theorem dL_holds_684 : decode cL_holds 684 = .ok (.aload_n 1, 1) := by decide +kernel
theorem dL_holds_685 : decode cL_holds 685 = .ok (.iconst 0, 1) := by decide +kernel
theorem dL_holds_686 : decode cL_holds 686 = .ok (.iaload, 1) := by decide +kernel
theorem dL_holds_687 : decode cL_holds 687 = .ok (.aload_n 0, 1) := by decide +kernel
theorem dL_holds_688 : decode cL_holds 688 = .ok (.bipush 8, 2) := by decide +kernel
theorem dL_holds_690 : decode cL_holds 690 = .ok (.invokevirtual 9, 3) := by decide +kernel
theorem dL_holds_693 : decode cL_holds 693 = .ok (.if_icmp .ne 15, 3) := by decide +kernel
theorem dL_holds_696 : decode cL_holds 696 = .ok (.aload_n 1, 1) := by decide +kernel
theorem dL_holds_697 : decode cL_holds 697 = .ok (.iconst 1, 1) := by decide +kernel
theorem dL_holds_698 : decode cL_holds 698 = .ok (.iaload, 1) := by decide +kernel
theorem dL_holds_699 : decode cL_holds 699 = .ok (.iload 9, 2) := by decide +kernel
theorem dL_holds_701 : decode cL_holds 701 = .ok (.if_icmp .ne 7, 3) := by decide +kernel
theorem dL_holds_704 : decode cL_holds 704 = .ok (.iconst 1, 1) := by decide +kernel
theorem dL_holds_705 : decode cL_holds 705 = .ok (.goto 4, 3) := by decide +kernel
theorem dL_holds_708 : decode cL_holds 708 = .ok (.iconst 0, 1) := by decide +kernel
theorem dL_holds_709 : decode cL_holds 709 = .ok (.ireturn, 1) := by decide +kernel
theorem dL_tries_0 : decode cL_tries 0 = .ok (.aload_n 0, 1) := by decide +kernel
theorem dL_tries_1 : decode cL_tries 1 = .ok (.iconst 0, 1) := by decide +kernel
theorem dL_tries_2 : decode cL_tries 2 = .ok (.invokevirtual 9, 3) := by decide +kernel
theorem dL_tries_5 : decode cL_tries 5 = .ok (.istore_n 2, 1) := by decide +kernel
theorem dL_tries_6 : decode cL_tries 6 = .ok (.aload_n 0, 1) := by decide +kernel
theorem dL_tries_7 : decode cL_tries 7 = .ok (.bipush 6, 2) := by decide +kernel
theorem dL_tries_9 : decode cL_tries 9 = .ok (.invokevirtual 9, 3) := by decide +kernel
theorem dL_tries_12 : decode cL_tries 12 = .ok (.istore_n 3, 1) := by decide +kernel
theorem dL_tries_13 : decode cL_tries 13 = .ok (.iload_n 1, 1) := by decide +kernel
theorem dL_tries_14 : decode cL_tries 14 = .ok (.iload_n 2, 1) := by decide +kernel
theorem dL_tries_15 : decode cL_tries 15 = .ok (.iconst 1, 1) := by decide +kernel
theorem dL_tries_16 : decode cL_tries 16 = .ok (.iadd, 1) := by decide +kernel
theorem dL_tries_17 : decode cL_tries 17 = .ok (.invokestatic 15, 3) := by decide +kernel
theorem dL_tries_20 : decode cL_tries 20 = .ok (.istore 4, 2) := by decide +kernel
theorem dL_tries_22 : decode cL_tries 22 = .ok (.aload_n 0, 1) := by decide +kernel
theorem dL_tries_23 : decode cL_tries 23 = .ok (.iload 4, 2) := by decide +kernel
theorem dL_tries_25 : decode cL_tries 25 = .ok (.invokevirtual 82, 3) := by decide +kernel
theorem dL_tries_28 : decode cL_tries 28 = .ok (.istore 5, 2) := by decide +kernel
theorem dL_tries_30 : decode cL_tries 30 = .ok (.aload_n 0, 1) := by decide +kernel
theorem dL_tries_31 : decode cL_tries 31 = .ok (.iload 4, 2) := by decide +kernel
theorem dL_tries_33 : decode cL_tries 33 = .ok (.iconst 5, 1) := by decide +kernel
theorem dL_tries_34 : decode cL_tries 34 = .ok (.invokevirtual 25, 3) := by decide +kernel
theorem dL_tries_37 : decode cL_tries 37 = .ok (.istore 6, 2) := by decide +kernel
theorem dL_tries_39 : decode cL_tries 39 = .ok (.iload 4, 2) := by decide +kernel
theorem dL_tries_41 : decode cL_tries 41 = .ok (.iload_n 2, 1) := by decide +kernel
theorem dL_tries_42 : decode cL_tries 42 = .ok (.if_icmp .ne 17, 3) := by decide +kernel
theorem dL_tries_45 : decode cL_tries 45 = .ok (.iload 5, 2) := by decide +kernel
theorem dL_tries_47 : decode cL_tries 47 = .ok (.iconst (-1), 1) := by decide +kernel
theorem dL_tries_48 : decode cL_tries 48 = .ok (.if_icmp .ne 7, 3) := by decide +kernel
theorem dL_tries_51 : decode cL_tries 51 = .ok (.iconst 1, 1) := by decide +kernel
theorem dL_tries_52 : decode cL_tries 52 = .ok (.goto 63, 3) := by decide +kernel
theorem dL_tries_55 : decode cL_tries 55 = .ok (.iconst 0, 1) := by decide +kernel
theorem dL_tries_56 : decode cL_tries 56 = .ok (.goto 59, 3) := by decide +kernel
theorem dL_tries_59 : decode cL_tries 59 = .ok (.aload_n 0, 1) := by decide +kernel
theorem dL_tries_60 : decode cL_tries 60 = .ok (.iload 4, 2) := by decide +kernel
theorem dL_tries_62 : decode cL_tries 62 = .ok (.invokevirtual 28, 3) := by decide +kernel
theorem dL_tries_65 : decode cL_tries 65 = .ok (.iload_n 2, 1) := by decide +kernel
theorem dL_tries_66 : decode cL_tries 66 = .ok (.iconst 1, 1) := by decide +kernel
theorem dL_tries_67 : decode cL_tries 67 = .ok (.isub, 1) := by decide +kernel
theorem dL_tries_68 : decode cL_tries 68 = .ok (.if_icmp .ne 46, 3) := by decide +kernel
theorem dL_tries_71 : decode cL_tries 71 = .ok (.aload_n 0, 1) := by decide +kernel
theorem dL_tries_72 : decode cL_tries 72 = .ok (.bipush 6, 2) := by decide +kernel
theorem dL_tries_74 : decode cL_tries 74 = .ok (.invokevirtual 9, 3) := by decide +kernel
theorem dL_tries_77 : decode cL_tries 77 = .ok (.iload_n 3, 1) := by decide +kernel
theorem dL_tries_78 : decode cL_tries 78 = .ok (.iload 5, 2) := by decide +kernel
theorem dL_tries_80 : decode cL_tries 80 = .ok (.iadd, 1) := by decide +kernel
theorem dL_tries_81 : decode cL_tries 81 = .ok (.sipush 1000, 3) := by decide +kernel
theorem dL_tries_84 : decode cL_tries 84 = .ok (.isub, 1) := by decide +kernel
theorem dL_tries_85 : decode cL_tries 85 = .ok (.if_icmp .ne 29, 3) := by decide +kernel
theorem dL_tries_88 : decode cL_tries 88 = .ok (.iload 6, 2) := by decide +kernel
theorem dL_tries_90 : decode cL_tries 90 = .ok (.ifCond .eq 13, 3) := by decide +kernel
theorem dL_tries_93 : decode cL_tries 93 = .ok (.aload_n 0, 1) := by decide +kernel
theorem dL_tries_94 : decode cL_tries 94 = .ok (.bipush 6, 2) := by decide +kernel
theorem dL_tries_96 : decode cL_tries 96 = .ok (.invokevirtual 9, 3) := by decide +kernel
theorem dL_tries_99 : decode cL_tries 99 = .ok (.iload_n 3, 1) := by decide +kernel
theorem dL_tries_100 : decode cL_tries 100 = .ok (.if_icmp .ne 14, 3) := by decide +kernel
theorem dL_tries_103 : decode cL_tries 103 = .ok (.aload_n 0, 1) := by decide +kernel
theorem dL_tries_104 : decode cL_tries 104 = .ok (.invokevirtual 85, 3) := by decide +kernel
theorem dL_tries_107 : decode cL_tries 107 = .ok (.ifCond .lt 7, 3) := by decide +kernel
theorem dL_tries_110 : decode cL_tries 110 = .ok (.iconst 1, 1) := by decide +kernel
theorem dL_tries_111 : decode cL_tries 111 = .ok (.goto 4, 3) := by decide +kernel
theorem dL_tries_114 : decode cL_tries 114 = .ok (.iconst 0, 1) := by decide +kernel
theorem dL_tries_115 : decode cL_tries 115 = .ok (.istore 7, 2) := by decide +kernel
theorem dL_tries_117 : decode cL_tries 117 = .ok (.aload_n 0, 1) := by decide +kernel
theorem dL_tries_118 : decode cL_tries 118 = .ok (.invokevirtual 88, 3) := by decide +kernel
theorem dL_tries_121 : decode cL_tries 121 = .ok (.istore 8, 2) := by decide +kernel
theorem dL_tries_123 : decode cL_tries 123 = .ok (.iload 7, 2) := by decide +kernel
theorem dL_tries_125 : decode cL_tries 125 = .ok (.ifCond .eq 35, 3) := by decide +kernel
theorem dL_tries_128 : decode cL_tries 128 = .ok (.iload 8, 2) := by decide +kernel
theorem dL_tries_130 : decode cL_tries 130 = .ok (.bipush (-6), 2) := by decide +kernel
theorem dL_tries_132 : decode cL_tries 132 = .ok (.if_icmp .ne 7, 3) := by decide +kernel
theorem dL_tries_135 : decode cL_tries 135 = .ok (.iconst 1, 1) := by decide +kernel
theorem dL_tries_136 : decode cL_tries 136 = .ok (.goto 4, 3) := by decide +kernel
theorem dL_tries_139 : decode cL_tries 139 = .ok (.iconst 0, 1) := by decide +kernel
theorem dL_tries_140 : decode cL_tries 140 = .ok (.aload_n 0, 1) := by decide +kernel
theorem dL_tries_141 : decode cL_tries 141 = .ok (.iconst 2, 1) := by decide +kernel
theorem dL_tries_142 : decode cL_tries 142 = .ok (.invokevirtual 9, 3) := by decide +kernel
theorem dL_tries_145 : decode cL_tries 145 = .ok (.ifCond .ne 7, 3) := by decide +kernel
theorem dL_tries_148 : decode cL_tries 148 = .ok (.iconst 1, 1) := by decide +kernel
theorem dL_tries_149 : decode cL_tries 149 = .ok (.goto 4, 3) := by decide +kernel
theorem dL_tries_152 : decode cL_tries 152 = .ok (.iconst 0, 1) := by decide +kernel
theorem dL_tries_153 : decode cL_tries 153 = .ok (.if_icmp .ne 7, 3) := by decide +kernel
theorem dL_tries_156 : decode cL_tries 156 = .ok (.iconst 1, 1) := by decide +kernel
theorem dL_tries_157 : decode cL_tries 157 = .ok (.goto 4, 3) := by decide +kernel
theorem dL_tries_160 : decode cL_tries 160 = .ok (.iconst 0, 1) := by decide +kernel
theorem dL_tries_161 : decode cL_tries 161 = .ok (.istore 7, 2) := by decide +kernel
theorem dL_tries_163 : decode cL_tries 163 = .ok (.iconst 0, 1) := by decide +kernel
theorem dL_tries_164 : decode cL_tries 164 = .ok (.istore 9, 2) := by decide +kernel
theorem dL_tries_166 : decode cL_tries 166 = .ok (.iload 9, 2) := by decide +kernel
theorem dL_tries_168 : decode cL_tries 168 = .ok (.iload_n 2, 1) := by decide +kernel
theorem dL_tries_169 : decode cL_tries 169 = .ok (.if_icmp .ge 76, 3) := by decide +kernel
theorem dL_tries_172 : decode cL_tries 172 = .ok (.iload 7, 2) := by decide +kernel
theorem dL_tries_174 : decode cL_tries 174 = .ok (.ifCond .eq 71, 3) := by decide +kernel
theorem dL_tries_177 : decode cL_tries 177 = .ok (.iload 8, 2) := by decide +kernel
theorem dL_tries_179 : decode cL_tries 179 = .ok (.bipush (-6), 2) := by decide +kernel
theorem dL_tries_181 : decode cL_tries 181 = .ok (.if_icmp .eq 64, 3) := by decide +kernel
theorem dL_tries_184 : decode cL_tries 184 = .ok (.aload_n 0, 1) := by decide +kernel
theorem dL_tries_185 : decode cL_tries 185 = .ok (.iload 9, 2) := by decide +kernel
theorem dL_tries_187 : decode cL_tries 187 = .ok (.iconst 1, 1) := by decide +kernel
theorem dL_tries_188 : decode cL_tries 188 = .ok (.invokevirtual 25, 3) := by decide +kernel
theorem dL_tries_191 : decode cL_tries 191 = .ok (.iconst 1, 1) := by decide +kernel
theorem dL_tries_192 : decode cL_tries 192 = .ok (.if_icmp .ne 40, 3) := by decide +kernel
theorem dL_tries_195 : decode cL_tries 195 = .ok (.aload_n 0, 1) := by decide +kernel
theorem dL_tries_196 : decode cL_tries 196 = .ok (.iload 9, 2) := by decide +kernel
theorem dL_tries_198 : decode cL_tries 198 = .ok (.invokevirtual 82, 3) := by decide +kernel
theorem dL_tries_201 : decode cL_tries 201 = .ok (.aload_n 0, 1) := by decide +kernel
theorem dL_tries_202 : decode cL_tries 202 = .ok (.iload 8, 2) := by decide +kernel
theorem dL_tries_204 : decode cL_tries 204 = .ok (.invokevirtual 82, 3) := by decide +kernel
theorem dL_tries_207 : decode cL_tries 207 = .ok (.if_icmp .lt 25, 3) := by decide +kernel
theorem dL_tries_210 : decode cL_tries 210 = .ok (.aload_n 0, 1) := by decide +kernel
theorem dL_tries_211 : decode cL_tries 211 = .ok (.iload 9, 2) := by decide +kernel
theorem dL_tries_213 : decode cL_tries 213 = .ok (.invokevirtual 82, 3) := by decide +kernel
theorem dL_tries_216 : decode cL_tries 216 = .ok (.aload_n 0, 1) := by decide +kernel
theorem dL_tries_217 : decode cL_tries 217 = .ok (.iload 8, 2) := by decide +kernel
theorem dL_tries_219 : decode cL_tries 219 = .ok (.invokevirtual 82, 3) := by decide +kernel
theorem dL_tries_222 : decode cL_tries 222 = .ok (.if_icmp .ne 14, 3) := by decide +kernel
theorem dL_tries_225 : decode cL_tries 225 = .ok (.iload 9, 2) := by decide +kernel
theorem dL_tries_227 : decode cL_tries 227 = .ok (.iload 8, 2) := by decide +kernel
theorem dL_tries_229 : decode cL_tries 229 = .ok (.if_icmp .lt 7, 3) := by decide +kernel
theorem dL_tries_232 : decode cL_tries 232 = .ok (.iconst 1, 1) := by decide +kernel
theorem dL_tries_233 : decode cL_tries 233 = .ok (.goto 4, 3) := by decide +kernel
theorem dL_tries_236 : decode cL_tries 236 = .ok (.iconst 0, 1) := by decide +kernel
theorem dL_tries_237 : decode cL_tries 237 = .ok (.istore 7, 2) := by decide +kernel
theorem dL_tries_239 : decode cL_tries 239 = .ok (.iinc 9 1, 3) := by decide +kernel
theorem dL_tries_242 : decode cL_tries 242 = .ok (.goto (-76), 3) := by decide +kernel
theorem dL_tries_245 : decode cL_tries 245 = .ok (.iconst 1, 1) := by decide +kernel
theorem dL_tries_246 : decode cL_tries 246 = .ok (.iload_n 1, 1) := by decide +kernel
theorem dL_tries_247 : decode cL_tries 247 = .ok (.iconst 5, 1) := by decide +kernel
theorem dL_tries_248 : decode cL_tries 248 = .ok (.ishr, 1) := by decide +kernel
theorem dL_tries_249 : decode cL_tries 249 = .ok (.bipush 9, 2) := by decide +kernel
theorem dL_tries_251 : decode cL_tries 251 = .ok (.invokestatic 15, 3) := by decide +kernel
theorem dL_tries_254 : decode cL_tries 254 = .ok (.iadd, 1) := by decide +kernel
theorem dL_tries_255 : decode cL_tries 255 = .ok (.istore 9, 2) := by decide +kernel
theorem dL_tries_257 : decode cL_tries 257 = .ok (.aload_n 0, 1) := by decide +kernel
theorem dL_tries_258 : decode cL_tries 258 = .ok (.iload 9, 2) := by decide +kernel
theorem dL_tries_260 : decode cL_tries 260 = .ok (.invokevirtual 91, 3) := by decide +kernel
theorem dL_tries_263 : decode cL_tries 263 = .ok (.istore 10, 2) := by decide +kernel
theorem dL_tries_265 : decode cL_tries 265 = .ok (.iconst (-1), 1) := by decide +kernel
theorem dL_tries_266 : decode cL_tries 266 = .ok (.istore 11, 2) := by decide +kernel
theorem dL_tries_268 : decode cL_tries 268 = .ok (.iconst 4, 1) := by decide +kernel
theorem dL_tries_269 : decode cL_tries 269 = .ok (.istore 12, 2) := by decide +kernel
theorem dL_tries_271 : decode cL_tries 271 = .ok (.iload 12, 2) := by decide +kernel
theorem dL_tries_273 : decode cL_tries 273 = .ok (.ifCond .lt 121, 3) := by decide +kernel
theorem dL_tries_276 : decode cL_tries 276 = .ok (.iload 7, 2) := by decide +kernel
theorem dL_tries_278 : decode cL_tries 278 = .ok (.ifCond .eq 116, 3) := by decide +kernel
theorem dL_tries_281 : decode cL_tries 281 = .ok (.iload_n 2, 1) := by decide +kernel
theorem dL_tries_282 : decode cL_tries 282 = .ok (.bipush 24, 2) := by decide +kernel
theorem dL_tries_284 : decode cL_tries 284 = .ok (.if_icmp .ge 110, 3) := by decide +kernel
theorem dL_tries_287 : decode cL_tries 287 = .ok (.aload_n 0, 1) := by decide +kernel
theorem dL_tries_288 : decode cL_tries 288 = .ok (.iload 12, 2) := by decide +kernel
theorem dL_tries_290 : decode cL_tries 290 = .ok (.iconst 2, 1) := by decide +kernel
theorem dL_tries_291 : decode cL_tries 291 = .ok (.iconst 5, 1) := by decide +kernel
theorem dL_tries_292 : decode cL_tries 292 = .ok (.bipush 6, 2) := by decide +kernel
theorem dL_tries_294 : decode cL_tries 294 = .ok (.iload 9, 2) := by decide +kernel
theorem dL_tries_296 : decode cL_tries 296 = .ok (.invokevirtual 21, 3) := by decide +kernel
theorem dL_tries_299 : decode cL_tries 299 = .ok (.iload_n 2, 1) := by decide +kernel
theorem dL_tries_300 : decode cL_tries 300 = .ok (.if_icmp .ne 7, 3) := by decide +kernel
theorem dL_tries_303 : decode cL_tries 303 = .ok (.iconst 1, 1) := by decide +kernel
theorem dL_tries_304 : decode cL_tries 304 = .ok (.goto 4, 3) := by decide +kernel
theorem dL_tries_307 : decode cL_tries 307 = .ok (.iconst 0, 1) := by decide +kernel
theorem dL_tries_308 : decode cL_tries 308 = .ok (.istore 7, 2) := by decide +kernel
theorem dL_tries_310 : decode cL_tries 310 = .ok (.aload_n 0, 1) := by decide +kernel
theorem dL_tries_311 : decode cL_tries 311 = .ok (.bipush 6, 2) := by decide +kernel
theorem dL_tries_313 : decode cL_tries 313 = .ok (.invokevirtual 9, 3) := by decide +kernel
theorem dL_tries_316 : decode cL_tries 316 = .ok (.istore 13, 2) := by decide +kernel
theorem dL_tries_318 : decode cL_tries 318 = .ok (.iload 7, 2) := by decide +kernel
theorem dL_tries_320 : decode cL_tries 320 = .ok (.ifCond .eq 61, 3) := by decide +kernel
theorem dL_tries_323 : decode cL_tries 323 = .ok (.iload 12, 2) := by decide +kernel
theorem dL_tries_325 : decode cL_tries 325 = .ok (.iconst 4, 1) := by decide +kernel
theorem dL_tries_326 : decode cL_tries 326 = .ok (.if_icmp .ne 9, 3) := by decide +kernel
theorem dL_tries_329 : decode cL_tries 329 = .ok (.iload 13, 2) := by decide +kernel
theorem dL_tries_331 : decode cL_tries 331 = .ok (.iload_n 3, 1) := by decide +kernel
theorem dL_tries_332 : decode cL_tries 332 = .ok (.if_icmp .lt 49, 3) := by decide +kernel
theorem dL_tries_335 : decode cL_tries 335 = .ok (.iload 13, 2) := by decide +kernel
theorem dL_tries_337 : decode cL_tries 337 = .ok (.iload 11, 2) := by decide +kernel
theorem dL_tries_339 : decode cL_tries 339 = .ok (.if_icmp .lt 42, 3) := by decide +kernel
theorem dL_tries_342 : decode cL_tries 342 = .ok (.iload 13, 2) := by decide +kernel
theorem dL_tries_344 : decode cL_tries 344 = .ok (.iload 11, 2) := by decide +kernel
theorem dL_tries_346 : decode cL_tries 346 = .ok (.if_icmp .eq 10, 3) := by decide +kernel
theorem dL_tries_349 : decode cL_tries 349 = .ok (.iload 12, 2) := by decide +kernel
theorem dL_tries_351 : decode cL_tries 351 = .ok (.iload 10, 2) := by decide +kernel
theorem dL_tries_353 : decode cL_tries 353 = .ok (.if_icmp .lt 28, 3) := by decide +kernel
theorem dL_tries_356 : decode cL_tries 356 = .ok (.iload 12, 2) := by decide +kernel
theorem dL_tries_358 : decode cL_tries 358 = .ok (.iload 10, 2) := by decide +kernel
theorem dL_tries_360 : decode cL_tries 360 = .ok (.if_icmp .ne 10, 3) := by decide +kernel
theorem dL_tries_363 : decode cL_tries 363 = .ok (.iload 13, 2) := by decide +kernel
theorem dL_tries_365 : decode cL_tries 365 = .ok (.iload 11, 2) := by decide +kernel
theorem dL_tries_367 : decode cL_tries 367 = .ok (.if_icmp .le 14, 3) := by decide +kernel
theorem dL_tries_370 : decode cL_tries 370 = .ok (.aload_n 0, 1) := by decide +kernel
theorem dL_tries_371 : decode cL_tries 371 = .ok (.invokevirtual 85, 3) := by decide +kernel
theorem dL_tries_374 : decode cL_tries 374 = .ok (.ifCond .lt 7, 3) := by decide +kernel
theorem dL_tries_377 : decode cL_tries 377 = .ok (.iconst 1, 1) := by decide +kernel
theorem dL_tries_378 : decode cL_tries 378 = .ok (.goto 4, 3) := by decide +kernel
theorem dL_tries_381 : decode cL_tries 381 = .ok (.iconst 0, 1) := by decide +kernel
theorem dL_tries_382 : decode cL_tries 382 = .ok (.istore 7, 2) := by decide +kernel
theorem dL_tries_384 : decode cL_tries 384 = .ok (.iload 13, 2) := by decide +kernel
theorem dL_tries_386 : decode cL_tries 386 = .ok (.istore 11, 2) := by decide +kernel
theorem dL_tries_388 : decode cL_tries 388 = .ok (.iinc 12 (-1), 3) := by decide +kernel
theorem dL_tries_391 : decode cL_tries 391 = .ok (.goto (-120), 3) := by decide +kernel
theorem dL_tries_394 : decode cL_tries 394 = .ok (.iload 7, 2) := by decide +kernel
theorem dL_tries_396 : decode cL_tries 396 = .ok (.ifCond .eq 28, 3) := by decide +kernel
theorem dL_tries_399 : decode cL_tries 399 = .ok (.iload 10, 2) := by decide +kernel
theorem dL_tries_401 : decode cL_tries 401 = .ok (.ifCond .lt 23, 3) := by decide +kernel
theorem dL_tries_404 : decode cL_tries 404 = .ok (.iload 10, 2) := by decide +kernel
theorem dL_tries_406 : decode cL_tries 406 = .ok (.iconst 5, 1) := by decide +kernel
theorem dL_tries_407 : decode cL_tries 407 = .ok (.if_icmp .ge 17, 3) := by decide +kernel
theorem dL_tries_410 : decode cL_tries 410 = .ok (.aload_n 0, 1) := by decide +kernel
theorem dL_tries_411 : decode cL_tries 411 = .ok (.bipush 6, 2) := by decide +kernel
theorem dL_tries_413 : decode cL_tries 413 = .ok (.invokevirtual 9, 3) := by decide +kernel
theorem dL_tries_416 : decode cL_tries 416 = .ok (.iload_n 3, 1) := by decide +kernel
theorem dL_tries_417 : decode cL_tries 417 = .ok (.if_icmp .ne 7, 3) := by decide +kernel
theorem dL_tries_420 : decode cL_tries 420 = .ok (.iconst 1, 1) := by decide +kernel
theorem dL_tries_421 : decode cL_tries 421 = .ok (.goto 4, 3) := by decide +kernel
theorem dL_tries_424 : decode cL_tries 424 = .ok (.iconst 0, 1) := by decide +kernel
theorem dL_tries_425 : decode cL_tries 425 = .ok (.ireturn, 1) := by decide +kernel
theorem dL_law_0 : decode cL_law 0 = .ok (.new 10, 3) := by decide +kernel
theorem dL_law_3 : decode cL_law 3 = .ok (.dup, 1) := by decide +kernel
theorem dL_law_4 : decode cL_law 4 = .ok (.invokespecial 94, 3) := by decide +kernel
theorem dL_law_7 : decode cL_law 7 = .ok (.astore_n 1, 1) := by decide +kernel
theorem dL_law_8 : decode cL_law 8 = .ok (.iconst 2, 1) := by decide +kernel
theorem dL_law_9 : decode cL_law 9 = .ok (.newarray .int, 2) := by decide +kernel
theorem dL_law_11 : decode cL_law 11 = .ok (.astore_n 2, 1) := by decide +kernel
theorem dL_law_12 : decode cL_law 12 = .ok (.aload_n 1, 1) := by decide +kernel
theorem dL_law_13 : decode cL_law 13 = .ok (.aload_n 2, 1) := by decide +kernel
theorem dL_law_14 : decode cL_law 14 = .ok (.iconst 1, 1) := by decide +kernel
theorem dL_law_15 : decode cL_law 15 = .ok (.invokestatic 95, 3) := by decide +kernel
theorem dL_law_18 : decode cL_law 18 = .ok (.ifCond .eq 16, 3) := by decide +kernel
theorem dL_law_21 : decode cL_law 21 = .ok (.aload_n 1, 1) := by decide +kernel
theorem dL_law_22 : decode cL_law 22 = .ok (.invokevirtual 85, 3) := by decide +kernel
theorem dL_law_25 : decode cL_law 25 = .ok (.bipush (-5), 2) := by decide +kernel
theorem dL_law_27 : decode cL_law 27 = .ok (.if_icmp .ne 7, 3) := by decide +kernel
theorem dL_law_30 : decode cL_law 30 = .ok (.iconst 1, 1) := by decide +kernel
theorem dL_law_31 : decode cL_law 31 = .ok (.goto 4, 3) := by decide +kernel
theorem dL_law_34 : decode cL_law 34 = .ok (.iconst 0, 1) := by decide +kernel
theorem dL_law_35 : decode cL_law 35 = .ok (.istore_n 3, 1) := by decide +kernel
theorem dL_law_36 : decode cL_law 36 = .ok (.aload_n 0, 1) := by decide +kernel
theorem dL_law_37 : decode cL_law 37 = .ok (.arraylength, 1) := by decide +kernel
theorem dL_law_38 : decode cL_law 38 = .ok (.iconst 3, 1) := by decide +kernel
theorem dL_law_39 : decode cL_law 39 = .ok (.idiv, 1) := by decide +kernel
theorem dL_law_40 : decode cL_law 40 = .ok (.bipush 36, 2) := by decide +kernel
theorem dL_law_42 : decode cL_law 42 = .ok (.if_icmp .le 8, 3) := by decide +kernel
theorem dL_law_45 : decode cL_law 45 = .ok (.bipush 36, 2) := by decide +kernel
theorem dL_law_47 : decode cL_law 47 = .ok (.goto 7, 3) := by decide +kernel
theorem dL_law_50 : decode cL_law 50 = .ok (.aload_n 0, 1) := by decide +kernel
theorem dL_law_51 : decode cL_law 51 = .ok (.arraylength, 1) := by decide +kernel
theorem dL_law_52 : decode cL_law 52 = .ok (.iconst 3, 1) := by decide +kernel
theorem dL_law_53 : decode cL_law 53 = .ok (.idiv, 1) := by decide +kernel
theorem dL_law_54 : decode cL_law 54 = .ok (.istore 4, 2) := by decide +kernel
theorem dL_law_56 : decode cL_law 56 = .ok (.iconst 0, 1) := by decide +kernel
theorem dL_law_57 : decode cL_law 57 = .ok (.istore 5, 2) := by decide +kernel
theorem dL_law_59 : decode cL_law 59 = .ok (.iload 5, 2) := by decide +kernel
theorem dL_law_61 : decode cL_law 61 = .ok (.iload 4, 2) := by decide +kernel
theorem dL_law_63 : decode cL_law 63 = .ok (.if_icmp .ge 105, 3) := by decide +kernel
theorem dL_law_66 : decode cL_law 66 = .ok (.iload_n 3, 1) := by decide +kernel
theorem dL_law_67 : decode cL_law 67 = .ok (.ifCond .eq 101, 3) := by decide +kernel
theorem dL_law_70 : decode cL_law 70 = .ok (.aload_n 1, 1) := by decide +kernel
theorem dL_law_71 : decode cL_law 71 = .ok (.aload_n 2, 1) := by decide +kernel
theorem dL_law_72 : decode cL_law 72 = .ok (.aload_n 0, 1) := by decide +kernel
theorem dL_law_73 : decode cL_law 73 = .ok (.iconst 3, 1) := by decide +kernel
theorem dL_law_74 : decode cL_law 74 = .ok (.iload 5, 2) := by decide +kernel
theorem dL_law_76 : decode cL_law 76 = .ok (.imul, 1) := by decide +kernel
theorem dL_law_77 : decode cL_law 77 = .ok (.invokestatic 99, 3) := by decide +kernel
theorem dL_law_80 : decode cL_law 80 = .ok (.bipush 16, 2) := by decide +kernel
theorem dL_law_82 : decode cL_law 82 = .ok (.invokestatic 15, 3) := by decide +kernel
theorem dL_law_85 : decode cL_law 85 = .ok (.aload_n 0, 1) := by decide +kernel
theorem dL_law_86 : decode cL_law 86 = .ok (.iconst 3, 1) := by decide +kernel
theorem dL_law_87 : decode cL_law 87 = .ok (.iload 5, 2) := by decide +kernel
theorem dL_law_89 : decode cL_law 89 = .ok (.imul, 1) := by decide +kernel
theorem dL_law_90 : decode cL_law 90 = .ok (.iconst 1, 1) := by decide +kernel
theorem dL_law_91 : decode cL_law 91 = .ok (.iadd, 1) := by decide +kernel
theorem dL_law_92 : decode cL_law 92 = .ok (.invokestatic 99, 3) := by decide +kernel
theorem dL_law_95 : decode cL_law 95 = .ok (.aload_n 0, 1) := by decide +kernel
theorem dL_law_96 : decode cL_law 96 = .ok (.iconst 3, 1) := by decide +kernel
theorem dL_law_97 : decode cL_law 97 = .ok (.iload 5, 2) := by decide +kernel
theorem dL_law_99 : decode cL_law 99 = .ok (.imul, 1) := by decide +kernel
theorem dL_law_100 : decode cL_law 100 = .ok (.iconst 2, 1) := by decide +kernel
theorem dL_law_101 : decode cL_law 101 = .ok (.iadd, 1) := by decide +kernel
theorem dL_law_102 : decode cL_law 102 = .ok (.invokestatic 99, 3) := by decide +kernel
theorem dL_law_105 : decode cL_law 105 = .ok (.invokestatic 103, 3) := by decide +kernel
theorem dL_law_108 : decode cL_law 108 = .ok (.ifCond .eq 52, 3) := by decide +kernel
theorem dL_law_111 : decode cL_law 111 = .ok (.aload_n 1, 1) := by decide +kernel
theorem dL_law_112 : decode cL_law 112 = .ok (.aload_n 2, 1) := by decide +kernel
theorem dL_law_113 : decode cL_law 113 = .ok (.aload_n 0, 1) := by decide +kernel
theorem dL_law_114 : decode cL_law 114 = .ok (.iconst 3, 1) := by decide +kernel
theorem dL_law_115 : decode cL_law 115 = .ok (.iload 5, 2) := by decide +kernel
theorem dL_law_117 : decode cL_law 117 = .ok (.imul, 1) := by decide +kernel
theorem dL_law_118 : decode cL_law 118 = .ok (.invokestatic 99, 3) := by decide +kernel
theorem dL_law_121 : decode cL_law 121 = .ok (.sipush 1023, 3) := by decide +kernel
theorem dL_law_124 : decode cL_law 124 = .ok (.iand, 1) := by decide +kernel
theorem dL_law_125 : decode cL_law 125 = .ok (.invokestatic 95, 3) := by decide +kernel
theorem dL_law_128 : decode cL_law 128 = .ok (.ifCond .eq 32, 3) := by decide +kernel
theorem dL_law_131 : decode cL_law 131 = .ok (.iload 5, 2) := by decide +kernel
theorem dL_law_133 : decode cL_law 133 = .ok (.iconst 4, 1) := by decide +kernel
theorem dL_law_134 : decode cL_law 134 = .ok (.irem, 1) := by decide +kernel
theorem dL_law_135 : decode cL_law 135 = .ok (.iconst 3, 1) := by decide +kernel
theorem dL_law_136 : decode cL_law 136 = .ok (.if_icmp .ne 20, 3) := by decide +kernel
theorem dL_law_139 : decode cL_law 139 = .ok (.aload_n 1, 1) := by decide +kernel
theorem dL_law_140 : decode cL_law 140 = .ok (.aload_n 0, 1) := by decide +kernel
theorem dL_law_141 : decode cL_law 141 = .ok (.iconst 3, 1) := by decide +kernel
theorem dL_law_142 : decode cL_law 142 = .ok (.iload 5, 2) := by decide +kernel
theorem dL_law_144 : decode cL_law 144 = .ok (.imul, 1) := by decide +kernel
theorem dL_law_145 : decode cL_law 145 = .ok (.iconst 2, 1) := by decide +kernel
theorem dL_law_146 : decode cL_law 146 = .ok (.iadd, 1) := by decide +kernel
theorem dL_law_147 : decode cL_law 147 = .ok (.invokestatic 99, 3) := by decide +kernel
theorem dL_law_150 : decode cL_law 150 = .ok (.invokestatic 107, 3) := by decide +kernel
theorem dL_law_153 : decode cL_law 153 = .ok (.ifCond .eq 7, 3) := by decide +kernel
theorem dL_law_156 : decode cL_law 156 = .ok (.iconst 1, 1) := by decide +kernel
theorem dL_law_157 : decode cL_law 157 = .ok (.goto 4, 3) := by decide +kernel
theorem dL_law_160 : decode cL_law 160 = .ok (.iconst 0, 1) := by decide +kernel
theorem dL_law_161 : decode cL_law 161 = .ok (.istore_n 3, 1) := by decide +kernel
theorem dL_law_162 : decode cL_law 162 = .ok (.iinc 5 1, 3) := by decide +kernel
theorem dL_law_165 : decode cL_law 165 = .ok (.goto (-106), 3) := by decide +kernel
theorem dL_law_168 : decode cL_law 168 = .ok (.iload_n 3, 1) := by decide +kernel
theorem dL_law_169 : decode cL_law 169 = .ok (.ireturn, 1) := by decide +kernel
end
section
set_option maxRecDepth 20000 in
theorem ggL_change_X4_count : GoodIn wsL_change wsX4_count := goodIn_r _ [5, 6, 7, 8, 9, 10, 11, 12, 13, 14, 15, 16, 17, 18, 19, 20, 21, 22, 23, 24, 4, 25, 26, 27, 28, 29, 30, 31, 32, 33, 34, 35, 36, 37, 38, 39, 40, 41, 42, 43, 44, 45, 46, 47, 48, 49, 50, 51, 52, 53, 54, 55, 56, 57, 58, 59, 60, 61, 62, 63, 64, 65, 66, 67, 68, 69, 70, 71, 72, 73, 74, 75, 76, 77, 78, 79, 80, 81, 82, 83, 84, 85, 86, 87, 88, 89, 90, 91, 92, 93, 94, 95, 96, 97, 98, 99, 100, 101, 102, 103, 104, 105, 106, 107, 108, 109, 110, 111, 112, 113, 292, 293, 294, 295, 296, 297, 298, 299, 300, 301, 302, 303, 304, 305, 306, 307, 308, 309, 310, 311, 312, 313, 314, 315] (by decide +kernel) (by decide +kernel)
set_option maxRecDepth 20000 in
theorem gL_change_X4_count : GoodIn wsL_change (wsV RL 9 RX4 yX4_count wsX4_count) := goodIn_app (goodIn_of _ (by decide +kernel)) ggL_change_X4_count
set_option maxRecDepth 20000 in
theorem ggL_change_L_low : GoodIn wsL_change wsL_low := goodIn_r _ [117, 118] (by decide +kernel) (by decide +kernel)
set_option maxRecDepth 20000 in
theorem gL_change_L_low : GoodIn wsL_change (va_wsS RL 15 yL_low wsL_low) := goodIn_app (goodIn_of _ (by decide +kernel)) ggL_change_L_low
set_option maxRecDepth 20000 in
theorem ggL_change_X4_add : GoodIn wsL_change wsX4_add := goodIn_r _ [122, 6, 7, 8, 123, 124, 4, 125, 126, 112, 113, 127, 128, 129, 130, 131, 132, 133, 14, 134, 135, 136, 137, 138, 139, 140, 141, 142, 143, 144, 145, 146, 147, 148, 149, 150, 151, 152, 18, 153, 154, 155, 109, 156, 157, 158, 159, 160, 55, 21, 69, 70, 46, 34, 20, 161, 162, 163, 164, 165, 166, 167, 111, 168, 169, 170, 171, 172, 173, 174, 66, 67, 68, 71, 72, 73, 74, 75, 76, 77, 78, 79, 80, 175, 176, 177, 178, 179, 180, 181, 182, 183, 184, 292, 293, 294, 295, 296, 297, 298, 299, 300, 301, 302, 303, 304, 305, 306, 307, 308, 309, 310, 311, 312, 313] (by decide +kernel) (by decide +kernel)
set_option maxRecDepth 20000 in
theorem gL_change_X4_add : GoodIn wsL_change (wsV RL 21 RX4 yX4_add wsX4_add) := goodIn_app (goodIn_of _ (by decide +kernel)) ggL_change_X4_add
set_option maxRecDepth 20000 in
theorem ggL_change_X4_rule : GoodIn wsL_change wsX4_rule := goodIn_r _ [188, 6, 7, 189, 190, 191, 192, 193, 194, 195, 86, 87, 18, 88, 20, 26, 27, 28, 29, 30, 31, 32, 33, 21, 34, 35, 36, 37, 38, 39, 40, 41, 42, 43, 44, 45, 46, 47, 48, 49, 50, 51, 52, 53, 54, 55, 56, 57, 58, 4, 59, 60, 61, 62, 63, 64, 65, 66, 67, 68, 69, 70, 71, 72, 73, 74, 75, 76, 77, 78, 79, 80, 81, 82, 83, 84, 85, 89, 90, 91, 92, 93, 196, 99, 100, 101, 102, 103, 104, 105, 197, 292, 293, 294, 295, 296, 297, 298, 299, 300, 301, 302, 303, 304, 305, 306] (by decide +kernel) (by decide +kernel)
set_option maxRecDepth 20000 in
theorem gL_change_X4_rule : GoodIn wsL_change (wsV RL 25 RX4 yX4_rule wsX4_rule) := goodIn_app (goodIn_of _ (by decide +kernel)) ggL_change_X4_rule
set_option maxRecDepth 20000 in
theorem ggL_change_X4_strike : GoodIn wsL_change wsX4_strike := goodIn_r _ [201, 6, 7, 8, 195, 86, 87, 18, 88, 20, 130, 131, 132, 4, 133, 14, 134, 135, 136, 137, 138, 139, 140, 141, 142, 143, 144, 145, 146, 147, 148, 149, 150, 151, 152, 153, 154, 155, 109, 156, 157, 158, 159, 160, 55, 21, 69, 70, 46, 34, 161, 162, 163, 164, 165, 166, 167, 111, 168, 169, 170, 171, 172, 173, 174, 66, 67, 68, 71, 72, 73, 74, 75, 76, 77, 78, 79, 80, 175, 176, 177, 178, 81, 82, 83, 84, 85, 89, 90, 91, 92, 93, 292, 293, 294, 295, 296, 297, 298, 299, 300, 301, 302, 303, 304, 305, 306, 307, 308, 309, 310, 311, 312, 313] (by decide +kernel) (by decide +kernel)
set_option maxRecDepth 20000 in
theorem gL_change_X4_strike : GoodIn wsL_change (wsV RL 28 RX4 yX4_strike wsX4_strike) := goodIn_app (goodIn_of _ (by decide +kernel)) ggL_change_X4_strike
set_option maxRecDepth 20000 in
theorem ggL_change_X4_seal : GoodIn wsL_change wsX4_seal := goodIn_r _ [205, 6, 7, 193, 195, 86, 87, 18, 88, 20, 127, 128, 4, 129, 126, 112, 113, 130, 131, 132, 133, 14, 134, 135, 136, 137, 138, 139, 140, 141, 142, 143, 144, 145, 146, 147, 148, 149, 150, 151, 152, 153, 154, 155, 109, 156, 157, 158, 159, 160, 55, 21, 69, 70, 46, 34, 161, 162, 163, 164, 165, 166, 167, 111, 168, 169, 170, 171, 172, 173, 174, 66, 67, 68, 71, 72, 73, 74, 75, 76, 77, 78, 79, 80, 175, 176, 177, 178, 292, 293, 294, 295, 296, 297, 298, 299, 300, 301, 302, 303, 304, 305, 306, 307, 308, 309, 310, 311, 312, 313] (by decide +kernel) (by decide +kernel)
set_option maxRecDepth 20000 in
theorem gL_change_X4_seal : GoodIn wsL_change (wsV RL 31 RX4 yX4_seal wsX4_seal) := goodIn_app (goodIn_of _ (by decide +kernel)) ggL_change_X4_seal
set_option maxRecDepth 20000 in
theorem ggL_change_X4_move : GoodIn wsL_change wsX4_move := goodIn_r _ [209, 6, 7, 190, 189, 195, 86, 87, 18, 88, 20, 123, 124, 4, 125, 126, 112, 113, 130, 131, 132, 133, 14, 134, 135, 136, 137, 138, 139, 140, 141, 142, 143, 144, 145, 146, 147, 148, 149, 150, 151, 152, 153, 154, 155, 109, 156, 157, 158, 159, 160, 55, 21, 69, 70, 46, 34, 161, 162, 163, 164, 165, 166, 167, 111, 168, 169, 170, 171, 172, 173, 174, 66, 67, 68, 71, 72, 73, 74, 75, 76, 77, 78, 79, 80, 175, 176, 177, 178, 292, 293, 294, 295, 296, 297, 298, 299, 300, 301, 302, 303, 304, 305, 306, 307, 308, 309, 310, 311, 312, 313] (by decide +kernel) (by decide +kernel)
set_option maxRecDepth 20000 in
theorem gL_change_X4_move : GoodIn wsL_change (wsV RL 34 RX4 yX4_move wsX4_move) := goodIn_app (goodIn_of _ (by decide +kernel)) ggL_change_X4_move
set_option maxRecDepth 20000 in
theorem ggL_change_X4_tidy : GoodIn wsL_change wsX4_tidy := goodIn_r _ [213, 6, 7, 130, 131, 132, 4, 133, 14, 134, 135, 136, 137, 138, 139, 140, 141, 142, 143, 144, 145, 146, 147, 148, 149, 150, 151, 152, 18, 153, 154, 155, 109, 156, 157, 158, 159, 160, 55, 21, 69, 70, 46, 34, 20, 161, 162, 163, 164, 165, 166, 167, 111, 168, 169, 170, 171, 172, 173, 174, 66, 67, 68, 71, 72, 73, 74, 75, 76, 77, 78, 79, 80, 175, 176, 177, 178, 214, 215, 216, 217, 8, 26, 27, 28, 29, 30, 31, 32, 33, 35, 36, 37, 38, 39, 40, 41, 42, 43, 44, 45, 47, 48, 49, 50, 51, 52, 53, 54, 56, 57, 58, 59, 60, 61, 62, 63, 64, 65, 81, 82, 83, 84, 85, 86, 87, 88, 89, 90, 91, 92, 93, 292, 293, 294, 295, 296, 297, 298, 299, 300, 301, 302, 303, 304, 305, 306, 307, 308, 309, 310, 311, 312, 313] (by decide +kernel) (by decide +kernel)
set_option maxRecDepth 20000 in
theorem gL_change_X4_tidy : GoodIn wsL_change (wsV RL 37 RX4 yX4_tidy wsX4_tidy) := goodIn_app (goodIn_of _ (by decide +kernel)) ggL_change_X4_tidy
set_option maxRecDepth 20000 in
theorem ggL_change_X4_join : GoodIn wsL_change wsX4_join := goodIn_r _ [221, 6, 9, 10, 222, 223, 4, 224, 126, 112, 113, 225, 226, 227, 130, 131, 132, 133, 14, 134, 135, 136, 137, 138, 139, 140, 141, 142, 143, 144, 145, 146, 147, 148, 149, 150, 151, 152, 18, 153, 154, 155, 109, 156, 157, 158, 159, 160, 55, 21, 69, 70, 46, 34, 20, 161, 162, 163, 164, 165, 166, 167, 111, 168, 169, 170, 171, 172, 173, 174, 66, 67, 68, 71, 72, 73, 74, 75, 76, 77, 78, 79, 80, 175, 176, 177, 178, 228, 229, 230, 231, 292, 293, 294, 295, 296, 297, 298, 299, 307, 308, 309, 310, 311, 312, 313, 300, 301, 302, 303, 304, 305, 306] (by decide +kernel) (by decide +kernel)
set_option maxRecDepth 20000 in
theorem gL_change_X4_join : GoodIn wsL_change (wsV RL 41 RX4 yX4_join wsX4_join) := goodIn_app (goodIn_of _ (by decide +kernel)) ggL_change_X4_join
set_option maxRecDepth 20000 in
theorem ggL_change_X4_member : GoodIn wsL_change wsX4_member := goodIn_r _ [235, 6, 9, 236, 237, 238, 239, 240, 241, 242, 109, 243, 168, 244, 245, 246, 4, 247, 7, 248, 249, 250, 18, 251, 30, 31, 32, 33, 20, 21, 34, 42, 43, 44, 45, 46, 47, 48, 49, 50, 51, 52, 53, 54, 55, 292, 293, 294, 295, 296, 297, 298, 299, 307, 308, 309, 310, 311, 312, 313, 300, 301, 302, 303, 304, 305, 306] (by decide +kernel) (by decide +kernel)
set_option maxRecDepth 20000 in
theorem gL_change_X4_member : GoodIn wsL_change (wsV RL 44 RX4 yX4_member wsX4_member) := goodIn_app (goodIn_of _ (by decide +kernel)) ggL_change_X4_member
set_option maxRecDepth 20000 in
theorem ggL_change_X4_leave : GoodIn wsL_change wsX4_leave := goodIn_r _ [255, 6, 9, 238, 240, 241, 242, 109, 243, 168, 130, 131, 132, 4, 133, 14, 134, 135, 136, 137, 138, 139, 140, 141, 142, 143, 144, 145, 146, 147, 148, 149, 150, 151, 152, 18, 153, 154, 155, 156, 157, 158, 159, 160, 55, 21, 69, 70, 46, 34, 20, 161, 162, 163, 164, 165, 166, 167, 111, 169, 170, 171, 172, 173, 174, 66, 67, 68, 71, 72, 73, 74, 75, 76, 77, 78, 79, 80, 175, 176, 177, 178, 256, 257, 258, 259, 260, 89, 90, 91, 92, 93, 292, 293, 294, 295, 296, 297, 298, 299, 307, 308, 309, 310, 311, 312, 313, 300, 301, 302, 303, 304, 305, 306] (by decide +kernel) (by decide +kernel)
set_option maxRecDepth 20000 in
theorem gL_change_X4_leave : GoodIn wsL_change (wsV RL 47 RX4 yX4_leave wsX4_leave) := goodIn_app (goodIn_of _ (by decide +kernel)) ggL_change_X4_leave
set_option maxRecDepth 20000 in
theorem ggL_change_X4_rank : GoodIn wsL_change wsX4_rank := goodIn_r _ [264, 6, 9, 237, 240, 241, 242, 109, 243, 168, 225, 226, 4, 227, 126, 112, 113, 130, 131, 132, 133, 14, 134, 135, 136, 137, 138, 139, 140, 141, 142, 143, 144, 145, 146, 147, 148, 149, 150, 151, 152, 18, 153, 154, 155, 156, 157, 158, 159, 160, 55, 21, 69, 70, 46, 34, 20, 161, 162, 163, 164, 165, 166, 167, 111, 169, 170, 171, 172, 173, 174, 66, 67, 68, 71, 72, 73, 74, 75, 76, 77, 78, 79, 80, 175, 176, 177, 178, 292, 293, 294, 295, 296, 297, 298, 299, 307, 308, 309, 310, 311, 312, 313, 300, 301, 302, 303, 304, 305, 306] (by decide +kernel) (by decide +kernel)
set_option maxRecDepth 20000 in
theorem gL_change_X4_rank : GoodIn wsL_change (wsV RL 50 RX4 yX4_rank wsX4_rank) := goodIn_app (goodIn_of _ (by decide +kernel)) ggL_change_X4_rank
set_option maxRecDepth 20000 in
theorem ggL_change_L_acts : GoodIn wsL_change wsL_acts := goodIn_r _ [267, 232, 233, 234, 4, 235, 6, 9, 236, 237, 238, 239, 240, 241, 242, 109, 243, 168, 244, 245, 246, 247, 7, 248, 249, 250, 18, 251, 30, 31, 32, 33, 20, 21, 34, 42, 43, 44, 45, 46, 47, 48, 49, 50, 51, 52, 53, 54, 55, 268, 269, 270, 271, 189, 272, 273, 274, 126, 112, 113, 130, 131, 132, 133, 14, 134, 135, 136, 137, 138, 139, 140, 141, 142, 143, 144, 145, 146, 147, 148, 149, 150, 151, 152, 153, 154, 155, 156, 157, 158, 159, 160, 69, 70, 161, 162, 163, 164, 165, 166, 167, 111, 169, 170, 171, 172, 173, 174, 66, 67, 68, 71, 72, 73, 74, 75, 76, 77, 78, 79, 80, 175, 176, 177, 178, 275, 183, 184, 276, 277, 278, 279, 280, 281, 282, 283, 260, 195, 86, 87, 88, 284, 285, 286, 287, 288, 289, 290, 291, 222, 223, 224, 225, 226, 227, 185, 186, 187, 188, 190, 191, 192, 193, 194, 26, 27, 28, 29, 35, 36, 37, 38, 39, 40, 41, 56, 57, 58, 59, 60, 61, 62, 63, 64, 65, 81, 82, 83, 84, 85, 89, 90, 91, 92, 93, 196, 99, 100, 101, 102, 103, 104, 105, 197, 1, 2, 3, 5, 8, 10, 11, 12, 13, 15, 16, 17, 19, 22, 23, 24, 25, 94, 95, 96, 97, 98, 106, 107, 108, 110, 292, 293, 294, 295, 296, 297, 298, 299, 307, 308, 309, 310, 311, 312, 313, 300, 301, 302, 303, 304, 305, 306, 314, 315] (by decide +kernel) (by decide +kernel)
set_option maxRecDepth 20000 in
theorem gL_change_L_acts : GoodIn wsL_change (va_wsS RL 53 yL_acts wsL_acts) := goodIn_app (goodIn_of _ (by decide +kernel)) ggL_change_L_acts
set_option maxRecDepth 20000 in
theorem ggL_acts_X4_member : GoodIn wsL_acts wsX4_member := goodIn_r _ [5, 6, 7, 8, 9, 10, 11, 12, 13, 14, 15, 16, 17, 18, 19, 20, 4, 21, 22, 23, 24, 25, 26, 27, 28, 29, 30, 31, 32, 33, 34, 35, 36, 37, 38, 39, 40, 41, 42, 43, 44, 45, 46, 47, 48, 230, 231, 232, 233, 234, 235, 236, 237, 238, 239, 240, 241, 242, 243, 244, 245, 246, 247, 248, 249, 250, 251] (by decide +kernel) (by decide +kernel)
set_option maxRecDepth 20000 in
theorem gL_acts_X4_member : GoodIn wsL_acts (wsV RL 44 RX4 yX4_member wsX4_member) := goodIn_app (goodIn_of _ (by decide +kernel)) ggL_acts_X4_member
set_option maxRecDepth 20000 in
theorem ggL_acts_X4_act : GoodIn wsL_acts wsX4_act := goodIn_r _ [52, 6, 7, 22, 8, 9, 53, 12, 13, 14, 15, 16, 17, 54, 55, 4, 56, 57, 58, 59, 60, 61, 62, 63, 64, 65, 66, 67, 68, 69, 70, 71, 72, 73, 74, 75, 76, 77, 78, 79, 80, 81, 82, 83, 26, 84, 85, 86, 87, 88, 89, 90, 91, 48, 33, 92, 93, 39, 34, 32, 94, 95, 96, 97, 98, 99, 100, 101, 102, 103, 104, 105, 106, 107, 108, 109, 110, 111, 112, 113, 114, 115, 116, 117, 118, 119, 120, 121, 122, 123, 124, 125, 126, 127, 128, 129, 130, 131, 28, 29, 30, 31, 40, 41, 42, 43, 44, 45, 46, 47, 132, 133, 134, 135, 136, 137, 138, 139, 140, 141, 142, 143, 144, 230, 231, 232, 233, 234, 235, 236, 237, 238, 239, 240, 241, 242, 243, 244, 245, 246, 247, 248, 249, 250, 251] (by decide +kernel) (by decide +kernel)
set_option maxRecDepth 20000 in
theorem gL_acts_X4_act : GoodIn wsL_acts (wsV RL 57 RX4 yX4_act wsX4_act) := goodIn_app (goodIn_of _ (by decide +kernel)) ggL_acts_X4_act
set_option maxRecDepth 20000 in
theorem ggL_acts_X4_why : GoodIn wsL_acts wsX4_why := goodIn_r _ [148, 6, 22, 149, 150, 4, 151, 57, 58, 59, 54, 55, 56, 152, 153, 154, 125, 126, 127, 128, 129, 130, 26, 131, 32, 33, 39, 48, 28, 29, 30, 31, 34, 40, 41, 42, 43, 44, 45, 46, 47, 230, 231, 232, 233, 234, 235, 236, 237, 245, 246, 247, 248, 249, 250, 251] (by decide +kernel) (by decide +kernel)
set_option maxRecDepth 20000 in
theorem gL_acts_X4_why : GoodIn wsL_acts (wsV RL 60 RX4 yX4_why wsX4_why) := goodIn_app (goodIn_of _ (by decide +kernel)) ggL_acts_X4_why
set_option maxRecDepth 20000 in
theorem ggL_acts_X4_rule : GoodIn wsL_acts wsX4_rule := goodIn_r _ [158, 6, 22, 53, 159, 160, 161, 162, 163, 137, 138, 139, 26, 140, 32, 164, 165, 166, 167, 28, 29, 30, 31, 33, 34, 168, 169, 170, 171, 172, 173, 174, 35, 36, 37, 38, 39, 40, 41, 42, 43, 44, 45, 46, 47, 48, 175, 176, 177, 4, 178, 179, 180, 181, 182, 183, 184, 108, 109, 110, 92, 93, 111, 112, 113, 114, 115, 116, 117, 118, 119, 120, 185, 186, 187, 188, 189, 190, 191, 192, 193, 194, 195, 196, 197, 198, 199, 200, 201, 202, 203, 230, 231, 232, 233, 234, 235, 236, 237, 245, 246, 247, 248, 249, 250, 251] (by decide +kernel) (by decide +kernel)
set_option maxRecDepth 20000 in
theorem gL_acts_X4_rule : GoodIn wsL_acts (wsV RL 25 RX4 yX4_rule wsX4_rule) := goodIn_app (goodIn_of _ (by decide +kernel)) ggL_acts_X4_rule
set_option maxRecDepth 20000 in
theorem ggL_acts_X4_count : GoodIn wsL_acts wsX4_count := goodIn_r _ [207, 6, 22, 208, 7, 209, 210, 211, 212, 64, 213, 214, 215, 26, 216, 32, 33, 217, 218, 219, 4, 220, 164, 165, 166, 167, 28, 29, 30, 31, 34, 168, 169, 170, 171, 172, 173, 174, 35, 36, 37, 38, 39, 40, 41, 42, 43, 44, 45, 46, 47, 48, 175, 176, 177, 178, 179, 180, 181, 182, 183, 184, 108, 109, 110, 92, 93, 111, 112, 113, 114, 115, 116, 117, 118, 119, 120, 185, 186, 187, 188, 189, 138, 139, 140, 190, 191, 192, 193, 194, 221, 222, 223, 224, 225, 196, 197, 198, 199, 200, 201, 202, 226, 227, 228, 15, 229, 101, 58, 59, 230, 231, 232, 233, 234, 235, 236, 237, 245, 246, 247, 248, 249, 250, 251, 238, 239, 240, 241, 242, 243, 244, 252, 253] (by decide +kernel) (by decide +kernel)
set_option maxRecDepth 20000 in
theorem gL_acts_X4_count : GoodIn wsL_acts (wsV RL 9 RX4 yX4_count wsX4_count) := goodIn_app (goodIn_of _ (by decide +kernel)) ggL_acts_X4_count
set_option maxRecDepth 20000 in
theorem ggL_why_X4_count : GoodIn wsL_why wsX4_count := goodIn_r _ [6, 7, 8, 9, 10, 11, 12, 13, 14, 15, 16, 17, 18, 19, 20, 21, 22, 23, 24, 25, 5, 26, 27, 28, 29, 30, 31, 32, 33, 34, 35, 36, 37, 38, 39, 40, 41, 42, 43, 44, 45, 46, 47, 48, 49, 50, 51, 52, 53, 54, 55, 56, 57, 58, 59, 60, 61, 62, 63, 64, 65, 66, 67, 68, 69, 70, 71, 72, 73, 74, 75, 76, 77, 78, 79, 80, 81, 82, 83, 84, 85, 86, 87, 88, 89, 90, 91, 92, 93, 94, 95, 96, 97, 98, 99, 100, 101, 102, 103, 104, 105, 106, 107, 108, 109, 110, 111, 112, 113, 114, 135, 136, 137, 138, 139, 140, 141, 142, 143, 144, 145, 146, 147, 148, 149, 150, 151, 152, 153, 154, 155, 156, 157, 158] (by decide +kernel) (by decide +kernel)
set_option maxRecDepth 20000 in
theorem gL_why_X4_count : GoodIn wsL_why (wsV RL 9 RX4 yX4_count wsX4_count) := goodIn_app (goodIn_of _ (by decide +kernel)) ggL_why_X4_count
set_option maxRecDepth 20000 in
theorem ggL_why_L_read : GoodIn wsL_why wsL_read := goodIn_r _ [118, 119, 120, 121, 5, 122, 7, 8, 123, 124, 125, 126, 127, 128, 129, 87, 88, 19, 89, 21, 27, 28, 29, 30, 31, 32, 33, 34, 22, 35, 36, 37, 38, 39, 40, 41, 42, 43, 44, 45, 46, 47, 48, 49, 50, 51, 52, 53, 54, 55, 56, 57, 58, 59, 60, 61, 62, 63, 64, 65, 66, 67, 68, 69, 70, 71, 72, 73, 74, 75, 76, 77, 78, 79, 80, 81, 82, 83, 84, 85, 86, 90, 91, 92, 93, 94, 130, 100, 101, 102, 103, 104, 105, 106, 131, 135, 136, 137, 138, 139, 140, 141, 142, 143, 144, 145, 146, 147, 148, 149] (by decide +kernel) (by decide +kernel)
set_option maxRecDepth 20000 in
theorem gL_why_L_read : GoodIn wsL_why (va_wsS RL 64 yL_read wsL_read) := goodIn_app (goodIn_of _ (by decide +kernel)) ggL_why_L_read
set_option maxRecDepth 20000 in
theorem ggL_why_L_fits : GoodIn wsL_why wsL_fits := goodIn_r _ [134] (by decide +kernel) (by decide +kernel)
set_option maxRecDepth 20000 in
theorem gL_why_L_fits : GoodIn wsL_why (va_wsS RL 68 yL_fits wsL_fits) := goodIn_app (goodIn_of _ (by decide +kernel)) ggL_why_L_fits
set_option maxRecDepth 20000 in
theorem ggL_read_X4_rule : GoodIn wsL_read wsX4_rule := goodIn_r _ [5, 6, 7, 8, 9, 10, 11, 12, 13, 14, 15, 16, 17, 18, 19, 20, 21, 22, 23, 24, 25, 26, 27, 28, 29, 30, 31, 32, 33, 34, 35, 36, 37, 38, 39, 40, 41, 42, 43, 44, 45, 46, 47, 48, 49, 50, 51, 52, 53, 4, 54, 55, 56, 57, 58, 59, 60, 61, 62, 63, 64, 65, 66, 67, 68, 69, 70, 71, 72, 73, 74, 75, 76, 77, 78, 79, 80, 81, 82, 83, 84, 85, 86, 87, 88, 89, 90, 91, 92, 93, 94, 95, 96, 97, 98, 99, 100, 101, 102, 103, 104, 105, 106, 107, 108, 109] (by decide +kernel) (by decide +kernel)
set_option maxRecDepth 20000 in
theorem gL_read_X4_rule : GoodIn wsL_read (wsV RL 25 RX4 yX4_rule wsX4_rule) := goodIn_app (goodIn_of _ (by decide +kernel)) ggL_read_X4_rule
end
section
set_option maxRecDepth 20000 in
theorem ggL_holds_X4_count : GoodIn wsL_holds wsX4_count := goodIn_r _ [5, 6, 7, 8, 9, 10, 11, 12, 13, 14, 15, 16, 17, 18, 19, 20, 21, 22, 23, 24, 4, 25, 26, 27, 28, 29, 30, 31, 32, 33, 34, 35, 36, 37, 38, 39, 40, 41, 42, 43, 44, 45, 46, 47, 48, 49, 50, 51, 52, 53, 54, 55, 56, 57, 58, 59, 60, 61, 62, 63, 64, 65, 66, 67, 68, 69, 70, 71, 72, 73, 74, 75, 76, 77, 78, 79, 80, 81, 82, 83, 84, 85, 86, 87, 88, 89, 90, 91, 92, 93, 94, 95, 96, 97, 98, 99, 100, 101, 102, 103, 104, 105, 106, 107, 108, 109, 110, 111, 112, 113, 209, 210, 211, 212, 213, 214, 215, 216, 217, 218, 219, 220, 221, 222, 223, 224, 225, 226, 227, 228, 229, 230, 231, 232] (by decide +kernel) (by decide +kernel)
set_option maxRecDepth 20000 in
theorem gL_holds_X4_count : GoodIn wsL_holds (wsV RL 9 RX4 yX4_count wsX4_count) := goodIn_app (goodIn_of _ (by decide +kernel)) ggL_holds_X4_count
set_option maxRecDepth 20000 in
theorem ggL_holds_X4_rule : GoodIn wsL_holds wsX4_rule := goodIn_r _ [117, 6, 7, 118, 119, 120, 121, 122, 123, 124, 86, 87, 18, 88, 20, 26, 27, 28, 29, 30, 31, 32, 33, 21, 34, 35, 36, 37, 38, 39, 40, 41, 42, 43, 44, 45, 46, 47, 48, 49, 50, 51, 52, 53, 54, 55, 56, 57, 58, 4, 59, 60, 61, 62, 63, 64, 65, 66, 67, 68, 69, 70, 71, 72, 73, 74, 75, 76, 77, 78, 79, 80, 81, 82, 83, 84, 85, 89, 90, 91, 92, 93, 125, 99, 100, 101, 102, 103, 104, 105, 126, 209, 210, 211, 212, 213, 214, 215, 216, 217, 218, 219, 220, 221, 222, 223] (by decide +kernel) (by decide +kernel)
set_option maxRecDepth 20000 in
theorem gL_holds_X4_rule : GoodIn wsL_holds (wsV RL 25 RX4 yX4_rule wsX4_rule) := goodIn_app (goodIn_of _ (by decide +kernel)) ggL_holds_X4_rule
set_option maxRecDepth 20000 in
theorem ggL_holds_X4_allowed : GoodIn wsL_holds wsX4_allowed := goodIn_r _ [130, 6, 7, 131, 132, 4, 133, 134, 112, 113, 135, 136, 137, 138, 139, 140, 141, 142, 143, 144, 145, 146, 18, 147, 148, 92, 75, 93, 30, 31, 32, 33, 20, 21, 34, 149, 150, 151, 152, 55, 46, 153, 154, 155, 156, 47, 48, 49, 50, 51, 52, 53, 54, 209, 210, 211, 212, 213, 214, 215, 216, 217, 218, 219, 220, 221, 222, 223] (by decide +kernel) (by decide +kernel)
set_option maxRecDepth 20000 in
theorem gL_holds_X4_allowed : GoodIn wsL_holds (wsV RL 72 RX4 yX4_allowed wsX4_allowed) := goodIn_app (goodIn_of _ (by decide +kernel)) ggL_holds_X4_allowed
set_option maxRecDepth 20000 in
theorem ggL_holds_X4_leastRank : GoodIn wsL_holds wsX4_leastRank := goodIn_r _ [160, 6, 7, 131, 132, 4, 133, 134, 112, 113, 135, 136, 137, 141, 142, 143, 161, 162, 163, 18, 164, 30, 31, 32, 33, 20, 21, 34, 42, 43, 44, 45, 46, 47, 48, 49, 50, 51, 52, 53, 54, 55, 209, 210, 211, 212, 213, 214, 215, 216, 217, 218, 219, 220, 221, 222, 223] (by decide +kernel) (by decide +kernel)
set_option maxRecDepth 20000 in
theorem gL_holds_X4_leastRank : GoodIn wsL_holds (wsV RL 76 RX4 yX4_leastRank wsX4_leastRank) := goodIn_app (goodIn_of _ (by decide +kernel)) ggL_holds_X4_leastRank
set_option maxRecDepth 20000 in
theorem ggL_holds_L_low : GoodIn wsL_holds wsL_low := goodIn_r _ [168, 169] (by decide +kernel) (by decide +kernel)
set_option maxRecDepth 20000 in
theorem gL_holds_L_low : GoodIn wsL_holds (va_wsS RL 15 yL_low wsL_low) := goodIn_app (goodIn_of _ (by decide +kernel)) ggL_holds_L_low
set_option maxRecDepth 20000 in
theorem ggL_holds_X4_why : GoodIn wsL_holds wsX4_why := goodIn_r _ [173, 6, 7, 131, 132, 4, 133, 134, 112, 113, 135, 136, 137, 138, 139, 140, 141, 142, 143, 153, 154, 155, 18, 156, 20, 21, 46, 55, 30, 31, 32, 33, 34, 47, 48, 49, 50, 51, 52, 53, 54, 209, 210, 211, 212, 213, 214, 215, 216, 217, 218, 219, 220, 221, 222, 223] (by decide +kernel) (by decide +kernel)
set_option maxRecDepth 20000 in
theorem gL_holds_X4_why : GoodIn wsL_holds (wsV RL 60 RX4 yX4_why wsX4_why) := goodIn_app (goodIn_of _ (by decide +kernel)) ggL_holds_X4_why
set_option maxRecDepth 20000 in
theorem ggL_holds_L_why : GoodIn wsL_holds wsL_why := goodIn_r _ [176, 177, 1, 2, 3, 4, 5, 6, 7, 8, 9, 10, 11, 12, 13, 14, 15, 16, 17, 18, 19, 20, 21, 22, 23, 24, 25, 26, 27, 28, 29, 30, 31, 32, 33, 34, 35, 36, 37, 38, 39, 40, 41, 42, 43, 44, 45, 46, 47, 48, 49, 50, 51, 52, 53, 54, 55, 56, 57, 58, 59, 60, 61, 62, 63, 64, 65, 66, 67, 68, 69, 70, 71, 72, 73, 74, 75, 76, 77, 78, 79, 80, 81, 82, 83, 84, 85, 86, 87, 88, 89, 90, 91, 92, 93, 94, 95, 96, 97, 98, 99, 100, 101, 102, 103, 104, 105, 106, 107, 108, 109, 110, 111, 112, 113, 178, 179, 167, 180, 114, 115, 116, 117, 118, 119, 120, 121, 122, 123, 124, 125, 126, 181, 182, 183, 209, 210, 211, 212, 213, 214, 215, 216, 217, 218, 219, 220, 221, 222, 223, 224, 225, 226, 227, 228, 229, 230, 231, 232] (by decide +kernel) (by decide +kernel)
set_option maxRecDepth 20000 in
theorem gL_holds_L_why : GoodIn wsL_holds (va_wsS RL 79 yL_why wsL_why) := goodIn_app (goodIn_of _ (by decide +kernel)) ggL_holds_L_why
set_option maxRecDepth 20000 in
theorem ggL_holds_X4_ifStruck : GoodIn wsL_holds wsX4_ifStruck := goodIn_r _ [187, 6, 7, 124, 86, 87, 18, 88, 20, 60, 61, 62, 4, 63, 64, 65, 66, 67, 68, 55, 21, 69, 70, 46, 34, 71, 72, 73, 74, 75, 76, 77, 78, 79, 80, 81, 82, 83, 84, 85, 89, 90, 91, 92, 93, 26, 27, 28, 29, 30, 31, 32, 33, 35, 36, 37, 38, 39, 40, 41, 42, 43, 44, 45, 47, 48, 49, 50, 51, 52, 53, 54, 209, 210, 211, 212, 213, 214, 215, 216, 217, 218, 219, 220, 221, 222, 223] (by decide +kernel) (by decide +kernel)
set_option maxRecDepth 20000 in
theorem gL_holds_X4_ifStruck : GoodIn wsL_holds (wsV RL 82 RX4 yX4_ifStruck wsX4_ifStruck) := goodIn_app (goodIn_of _ (by decide +kernel)) ggL_holds_X4_ifStruck
set_option maxRecDepth 20000 in
theorem ggL_holds_X4_member : GoodIn wsL_holds wsX4_member := goodIn_r _ [191, 6, 9, 192, 193, 194, 195, 196, 197, 198, 109, 199, 200, 201, 202, 203, 4, 204, 7, 205, 206, 207, 18, 208, 30, 31, 32, 33, 20, 21, 34, 42, 43, 44, 45, 46, 47, 48, 49, 50, 51, 52, 53, 54, 55, 209, 210, 211, 212, 213, 214, 215, 216, 224, 225, 226, 227, 228, 229, 230, 217, 218, 219, 220, 221, 222, 223] (by decide +kernel) (by decide +kernel)
set_option maxRecDepth 20000 in
theorem gL_holds_X4_member : GoodIn wsL_holds (wsV RL 44 RX4 yX4_member wsX4_member) := goodIn_app (goodIn_of _ (by decide +kernel)) ggL_holds_X4_member
set_option maxRecDepth 20000 in
theorem ggL_tries_X4_count : GoodIn wsL_tries wsX4_count := goodIn_r _ [5, 6, 7, 8, 9, 10, 11, 12, 13, 14, 15, 16, 17, 18, 19, 20, 21, 22, 23, 24, 4, 25, 26, 27, 28, 29, 30, 31, 32, 33, 34, 35, 36, 37, 38, 39, 40, 41, 42, 43, 44, 45, 46, 47, 48, 49, 50, 51, 52, 53, 54, 55, 56, 57, 58, 59, 60, 61, 62, 63, 64, 65, 66, 67, 68, 69, 70, 71, 72, 73, 74, 75, 76, 77, 78, 79, 80, 81, 82, 83, 84, 85, 86, 87, 88, 89, 90, 91, 92, 93, 94, 95, 96, 97, 98, 99, 100, 101, 102, 103, 104, 105, 106, 107, 108, 109, 110, 111, 112, 113, 222, 223, 224, 225, 226, 227, 228, 229, 230, 231, 232, 233, 234, 235, 236, 237, 238, 239, 240, 241, 242, 243, 244, 245] (by decide +kernel) (by decide +kernel)
set_option maxRecDepth 20000 in
theorem gL_tries_X4_count : GoodIn wsL_tries (wsV RL 9 RX4 yX4_count wsX4_count) := goodIn_app (goodIn_of _ (by decide +kernel)) ggL_tries_X4_count
set_option maxRecDepth 20000 in
theorem ggL_tries_L_low : GoodIn wsL_tries wsL_low := goodIn_r _ [117, 118] (by decide +kernel) (by decide +kernel)
set_option maxRecDepth 20000 in
theorem gL_tries_L_low : GoodIn wsL_tries (va_wsS RL 15 yL_low wsL_low) := goodIn_app (goodIn_of _ (by decide +kernel)) ggL_tries_L_low
set_option maxRecDepth 20000 in
theorem ggL_tries_X4_ifStruck : GoodIn wsL_tries wsX4_ifStruck := goodIn_r _ [122, 6, 7, 123, 86, 87, 18, 88, 20, 60, 61, 62, 4, 63, 64, 65, 66, 67, 68, 55, 21, 69, 70, 46, 34, 71, 72, 73, 74, 75, 76, 77, 78, 79, 80, 81, 82, 83, 84, 85, 89, 90, 91, 92, 93, 26, 27, 28, 29, 30, 31, 32, 33, 35, 36, 37, 38, 39, 40, 41, 42, 43, 44, 45, 47, 48, 49, 50, 51, 52, 53, 54, 222, 223, 224, 225, 226, 227, 228, 229, 230, 231, 232, 233, 234, 235, 236] (by decide +kernel) (by decide +kernel)
set_option maxRecDepth 20000 in
theorem gL_tries_X4_ifStruck : GoodIn wsL_tries (wsV RL 82 RX4 yX4_ifStruck wsX4_ifStruck) := goodIn_app (goodIn_of _ (by decide +kernel)) ggL_tries_X4_ifStruck
set_option maxRecDepth 20000 in
theorem ggL_tries_X4_rule : GoodIn wsL_tries wsX4_rule := goodIn_r _ [127, 6, 7, 128, 129, 130, 131, 132, 133, 123, 86, 87, 18, 88, 20, 26, 27, 28, 29, 30, 31, 32, 33, 21, 34, 35, 36, 37, 38, 39, 40, 41, 42, 43, 44, 45, 46, 47, 48, 49, 50, 51, 52, 53, 54, 55, 56, 57, 58, 4, 59, 60, 61, 62, 63, 64, 65, 66, 67, 68, 69, 70, 71, 72, 73, 74, 75, 76, 77, 78, 79, 80, 81, 82, 83, 84, 85, 89, 90, 91, 92, 93, 134, 99, 100, 101, 102, 103, 104, 105, 135, 222, 223, 224, 225, 226, 227, 228, 229, 230, 231, 232, 233, 234, 235, 236] (by decide +kernel) (by decide +kernel)
set_option maxRecDepth 20000 in
theorem gL_tries_X4_rule : GoodIn wsL_tries (wsV RL 25 RX4 yX4_rule wsX4_rule) := goodIn_app (goodIn_of _ (by decide +kernel)) ggL_tries_X4_rule
set_option maxRecDepth 20000 in
theorem ggL_tries_X4_strike : GoodIn wsL_tries wsX4_strike := goodIn_r _ [139, 6, 7, 8, 123, 86, 87, 18, 88, 20, 140, 141, 142, 4, 143, 14, 144, 145, 146, 147, 148, 149, 150, 151, 152, 153, 154, 155, 156, 157, 158, 159, 160, 161, 162, 163, 164, 165, 109, 166, 167, 168, 169, 170, 55, 21, 69, 70, 46, 34, 171, 172, 173, 174, 175, 176, 177, 111, 178, 179, 180, 181, 182, 183, 184, 66, 67, 68, 71, 72, 73, 74, 75, 76, 77, 78, 79, 80, 185, 186, 187, 188, 81, 82, 83, 84, 85, 89, 90, 91, 92, 93, 222, 223, 224, 225, 226, 227, 228, 229, 230, 231, 232, 233, 234, 235, 236, 237, 238, 239, 240, 241, 242, 243] (by decide +kernel) (by decide +kernel)
set_option maxRecDepth 20000 in
theorem gL_tries_X4_strike : GoodIn wsL_tries (wsV RL 28 RX4 yX4_strike wsX4_strike) := goodIn_app (goodIn_of _ (by decide +kernel)) ggL_tries_X4_strike
set_option maxRecDepth 20000 in
theorem ggL_tries_X4_undo : GoodIn wsL_tries wsX4_undo := goodIn_r _ [192, 14, 144, 6, 193, 112, 4, 113, 180, 181, 182, 155, 183, 163, 166, 184, 66, 67, 18, 68, 55, 21, 69, 70, 46, 34, 20, 71, 72, 73, 74, 75, 76, 77, 78, 79, 80, 185, 186, 187, 109, 188, 174, 175, 176, 177, 111, 178, 179, 222, 223, 224, 225, 226, 227, 228, 229, 230, 231, 232, 233, 234, 235, 236, 237, 238, 239, 240, 241, 242, 243] (by decide +kernel) (by decide +kernel)
set_option maxRecDepth 20000 in
theorem gL_tries_X4_undo : GoodIn wsL_tries (wsV RL 85 RX4 yX4_undo wsX4_undo) := goodIn_app (goodIn_of _ (by decide +kernel)) ggL_tries_X4_undo
set_option maxRecDepth 20000 in
theorem ggL_tries_X4_worstBan : GoodIn wsL_tries wsX4_worstBan := goodIn_r _ [197, 6, 7, 8, 129, 60, 61, 62, 4, 63, 64, 65, 66, 67, 18, 68, 55, 21, 69, 70, 46, 34, 20, 71, 72, 73, 74, 75, 76, 77, 78, 79, 80, 81, 82, 83, 84, 85, 86, 87, 88, 89, 90, 91, 92, 93, 26, 27, 28, 29, 30, 31, 32, 33, 35, 36, 37, 38, 39, 40, 41, 42, 43, 44, 45, 47, 48, 49, 50, 51, 52, 53, 54, 222, 223, 224, 225, 226, 227, 228, 229, 230, 231, 232, 233, 234, 235, 236] (by decide +kernel) (by decide +kernel)
set_option maxRecDepth 20000 in
theorem gL_tries_X4_worstBan : GoodIn wsL_tries (wsV RL 88 RX4 yX4_worstBan wsX4_worstBan) := goodIn_app (goodIn_of _ (by decide +kernel)) ggL_tries_X4_worstBan
set_option maxRecDepth 20000 in
theorem ggL_tries_X4_bestWaiver : GoodIn wsL_tries wsX4_bestWaiver := goodIn_r _ [201, 202, 203, 4, 204, 193, 112, 113, 205, 206, 207, 208, 64, 6, 7, 65, 66, 67, 18, 68, 55, 21, 69, 70, 46, 34, 20, 71, 72, 73, 74, 75, 76, 77, 78, 79, 80, 209, 210, 211, 212, 213, 214, 26, 27, 28, 29, 30, 31, 32, 33, 35, 36, 37, 38, 39, 40, 41, 42, 43, 44, 45, 47, 48, 49, 50, 51, 52, 53, 54, 222, 223, 224, 225, 226, 227, 228, 229, 230, 231, 232, 233, 234, 235, 236] (by decide +kernel) (by decide +kernel)
set_option maxRecDepth 20000 in
theorem gL_tries_X4_bestWaiver : GoodIn wsL_tries (wsV RL 91 RX4 yX4_bestWaiver wsX4_bestWaiver) := goodIn_app (goodIn_of _ (by decide +kernel)) ggL_tries_X4_bestWaiver
set_option maxRecDepth 20000 in
theorem ggL_tries_X4_add : GoodIn wsL_tries wsX4_add := goodIn_r _ [218, 6, 7, 8, 219, 220, 4, 221, 193, 112, 113, 202, 203, 204, 140, 141, 142, 143, 14, 144, 145, 146, 147, 148, 149, 150, 151, 152, 153, 154, 155, 156, 157, 158, 159, 160, 161, 162, 18, 163, 164, 165, 109, 166, 167, 168, 169, 170, 55, 21, 69, 70, 46, 34, 20, 171, 172, 173, 174, 175, 176, 177, 111, 178, 179, 180, 181, 182, 183, 184, 66, 67, 68, 71, 72, 73, 74, 75, 76, 77, 78, 79, 80, 185, 186, 187, 188, 209, 210, 211, 212, 213, 214, 222, 223, 224, 225, 226, 227, 228, 229, 230, 231, 232, 233, 234, 235, 236, 237, 238, 239, 240, 241, 242, 243] (by decide +kernel) (by decide +kernel)
set_option maxRecDepth 20000 in
theorem gL_tries_X4_add : GoodIn wsL_tries (wsV RL 21 RX4 yX4_add wsX4_add) := goodIn_app (goodIn_of _ (by decide +kernel)) ggL_tries_X4_add
end
section
theorem inlX0 : ∀ w ∈ wsX00, w ∈ wsL_law := fun _ h => List.mem_append_left _ (List.mem_append_right _ h)
theorem inlX1 : ∀ w ∈ wsX10, w ∈ wsL_law := fun _ h => List.mem_append_left _ (List.mem_append_left _ (List.mem_append_left _ (List.mem_append_right _ h)))
theorem inlX2 : ∀ w ∈ wsX20, w ∈ wsL_law := fun _ h => List.mem_append_left _ (List.mem_append_left _ (List.mem_append_right _ h))
theorem inlX3 : ∀ w ∈ wsX30, w ∈ wsL_law := fun _ h => List.mem_append_left _ (List.mem_append_left _ (List.mem_append_left _ (List.mem_append_left _ (List.mem_append_right _ h))))
theorem inlX4 : ∀ w ∈ wsX40, w ∈ wsL_law := fun _ h => List.mem_append_left _ (List.mem_append_left _ (List.mem_append_left _ (List.mem_append_left _ (List.mem_append_left _ (List.mem_append_right _ h)))))
set_option maxRecDepth 20000 in
theorem ggL_law_X4_init : GoodIn wsL_law wsX4_init := goodIn_r _ [6, 7, 8, 9, 10, 11, 12, 13, 14, 15, 16, 17, 18, 19, 20, 21, 22, 23, 24, 25, 26, 27, 28, 29, 30, 31, 32, 33, 34, 35, 36, 3, 37, 38, 39, 40, 41, 42, 43, 44, 45, 46, 47, 48, 49, 50, 51, 52, 53, 54, 55, 56, 57, 58, 59, 377, 378, 371, 372, 373, 374, 375, 376, 379, 380, 381, 382, 383, 384, 385, 386, 387, 388, 389, 390, 391, 392, 393, 394] (by decide +kernel) (by decide +kernel)
set_option maxRecDepth 20000 in
theorem gL_law_X4_init : GoodIn wsL_law (wsX4_init) := ggL_law_X4_init
set_option maxRecDepth 20000 in
theorem ggL_law_X4_undo : GoodIn wsL_law wsX4_undo := goodIn_r _ [257, 20, 19, 13, 182, 160, 2, 161, 258, 259, 260, 12, 261, 29, 33, 262, 118, 119, 23, 120, 37, 38, 39, 40, 41, 42, 43, 121, 122, 123, 124, 125, 126, 127, 128, 129, 130, 263, 264, 265, 32, 266, 47, 48, 49, 50, 51, 52, 53, 371, 372, 373, 374, 375, 376, 377, 378, 381, 382, 383, 384, 385, 386, 387, 388, 389, 390, 391, 392, 393, 394] (by decide +kernel) (by decide +kernel)
set_option maxRecDepth 20000 in
theorem gL_law_X4_undo : GoodIn wsL_law (wsV RL 85 RX4 yX4_undo wsX4_undo) := goodIn_app (goodIn_of _ (by decide +kernel)) ggL_law_X4_undo
set_option maxRecDepth 20000 in
theorem ggL_law_L_cell : GoodIn wsL_law wsL_cell := goodIn_r _ [269, 270] (by decide +kernel) (by decide +kernel)
set_option maxRecDepth 20000 in
theorem gL_law_L_cell : GoodIn wsL_law (va_wsS RL 99 yL_cell wsL_cell) := goodIn_app (goodIn_of _ (by decide +kernel)) ggL_law_L_cell
set_option maxRecDepth 20000 in
theorem ggL_law_L_low : GoodIn wsL_law wsL_low := goodIn_r _ [215, 216] (by decide +kernel) (by decide +kernel)
set_option maxRecDepth 20000 in
theorem gL_law_L_low : GoodIn wsL_law (va_wsS RL 15 yL_low wsL_low) := goodIn_app (goodIn_of _ (by decide +kernel)) ggL_law_L_low
end
section
set_option maxRecDepth 20000 in
theorem gm_L_holds_r1 : ∀ w ∈ wsL_holds_r1, w ∈ wsL_law := List.forall_mem_cons.mpr ⟨List.mem_of_getElem? (i := 64) rfl, List.forall_mem_cons.mpr ⟨List.mem_of_getElem? (i := 65) rfl, List.forall_mem_cons.mpr ⟨List.mem_of_getElem? (i := 66) rfl, List.forall_mem_cons.mpr ⟨List.mem_of_getElem? (i := 2) rfl, List.forall_mem_cons.mpr ⟨List.mem_of_getElem? (i := 67) rfl, List.forall_mem_cons.mpr ⟨List.mem_of_getElem? (i := 13) rfl, List.forall_mem_cons.mpr ⟨List.mem_of_getElem? (i := 68) rfl, List.forall_mem_cons.mpr ⟨List.mem_of_getElem? (i := 69) rfl, List.forall_mem_cons.mpr ⟨List.mem_of_getElem? (i := 70) rfl, List.forall_mem_cons.mpr ⟨List.mem_of_getElem? (i := 71) rfl, List.forall_mem_cons.mpr ⟨List.mem_of_getElem? (i := 72) rfl, List.forall_mem_cons.mpr ⟨List.mem_of_getElem? (i := 17) rfl, List.forall_mem_cons.mpr ⟨List.mem_of_getElem? (i := 73) rfl, List.forall_mem_cons.mpr ⟨List.mem_of_getElem? (i := 20) rfl, List.forall_mem_cons.mpr ⟨List.mem_of_getElem? (i := 74) rfl, List.forall_mem_cons.mpr ⟨List.mem_of_getElem? (i := 75) rfl, List.forall_mem_cons.mpr ⟨List.mem_of_getElem? (i := 76) rfl, List.forall_mem_cons.mpr ⟨List.mem_of_getElem? (i := 23) rfl, List.forall_mem_cons.mpr ⟨List.mem_of_getElem? (i := 77) rfl, List.forall_mem_cons.mpr ⟨List.mem_of_getElem? (i := 43) rfl, List.forall_mem_cons.mpr ⟨List.mem_of_getElem? (i := 38) rfl, List.forall_mem_cons.mpr ⟨List.mem_of_getElem? (i := 78) rfl, List.forall_mem_cons.mpr ⟨List.mem_of_getElem? (i := 79) rfl, List.forall_mem_cons.mpr ⟨List.mem_of_getElem? (i := 80) rfl, (fun w h => absurd h List.not_mem_nil)⟩⟩⟩⟩⟩⟩⟩⟩⟩⟩⟩⟩⟩⟩⟩⟩⟩⟩⟩⟩⟩⟩⟩⟩
set_option maxRecDepth 20000 in
theorem gm_L_holds_r2 : ∀ w ∈ wsL_holds_r2, w ∈ wsL_law := List.forall_mem_cons.mpr ⟨List.mem_of_getElem? (i := 81) rfl, List.forall_mem_cons.mpr ⟨List.mem_of_getElem? (i := 82) rfl, List.forall_mem_cons.mpr ⟨List.mem_of_getElem? (i := 83) rfl, List.forall_mem_cons.mpr ⟨List.mem_of_getElem? (i := 84) rfl, List.forall_mem_cons.mpr ⟨List.mem_of_getElem? (i := 85) rfl, List.forall_mem_cons.mpr ⟨List.mem_of_getElem? (i := 86) rfl, List.forall_mem_cons.mpr ⟨List.mem_of_getElem? (i := 87) rfl, List.forall_mem_cons.mpr ⟨List.mem_of_getElem? (i := 88) rfl, List.forall_mem_cons.mpr ⟨List.mem_of_getElem? (i := 89) rfl, List.forall_mem_cons.mpr ⟨List.mem_of_getElem? (i := 42) rfl, List.forall_mem_cons.mpr ⟨List.mem_of_getElem? (i := 90) rfl, List.forall_mem_cons.mpr ⟨List.mem_of_getElem? (i := 91) rfl, List.forall_mem_cons.mpr ⟨List.mem_of_getElem? (i := 92) rfl, List.forall_mem_cons.mpr ⟨List.mem_of_getElem? (i := 93) rfl, List.forall_mem_cons.mpr ⟨List.mem_of_getElem? (i := 94) rfl, List.forall_mem_cons.mpr ⟨List.mem_of_getElem? (i := 95) rfl, List.forall_mem_cons.mpr ⟨List.mem_of_getElem? (i := 96) rfl, List.forall_mem_cons.mpr ⟨List.mem_of_getElem? (i := 97) rfl, List.forall_mem_cons.mpr ⟨List.mem_of_getElem? (i := 98) rfl, List.forall_mem_cons.mpr ⟨List.mem_of_getElem? (i := 99) rfl, List.forall_mem_cons.mpr ⟨List.mem_of_getElem? (i := 100) rfl, List.forall_mem_cons.mpr ⟨List.mem_of_getElem? (i := 41) rfl, List.forall_mem_cons.mpr ⟨List.mem_of_getElem? (i := 101) rfl, List.forall_mem_cons.mpr ⟨List.mem_of_getElem? (i := 102) rfl, (fun w h => absurd h List.not_mem_nil)⟩⟩⟩⟩⟩⟩⟩⟩⟩⟩⟩⟩⟩⟩⟩⟩⟩⟩⟩⟩⟩⟩⟩⟩
set_option maxRecDepth 20000 in
theorem gm_L_holds_r3 : ∀ w ∈ wsL_holds_r3, w ∈ wsL_law := List.forall_mem_cons.mpr ⟨List.mem_of_getElem? (i := 103) rfl, List.forall_mem_cons.mpr ⟨List.mem_of_getElem? (i := 104) rfl, List.forall_mem_cons.mpr ⟨List.mem_of_getElem? (i := 105) rfl, List.forall_mem_cons.mpr ⟨List.mem_of_getElem? (i := 106) rfl, List.forall_mem_cons.mpr ⟨List.mem_of_getElem? (i := 107) rfl, List.forall_mem_cons.mpr ⟨List.mem_of_getElem? (i := 108) rfl, List.forall_mem_cons.mpr ⟨List.mem_of_getElem? (i := 37) rfl, List.forall_mem_cons.mpr ⟨List.mem_of_getElem? (i := 109) rfl, List.forall_mem_cons.mpr ⟨List.mem_of_getElem? (i := 110) rfl, List.forall_mem_cons.mpr ⟨List.mem_of_getElem? (i := 111) rfl, List.forall_mem_cons.mpr ⟨List.mem_of_getElem? (i := 112) rfl, List.forall_mem_cons.mpr ⟨List.mem_of_getElem? (i := 113) rfl, List.forall_mem_cons.mpr ⟨List.mem_of_getElem? (i := 114) rfl, List.forall_mem_cons.mpr ⟨List.mem_of_getElem? (i := 115) rfl, List.forall_mem_cons.mpr ⟨List.mem_of_getElem? (i := 116) rfl, List.forall_mem_cons.mpr ⟨List.mem_of_getElem? (i := 24) rfl, List.forall_mem_cons.mpr ⟨List.mem_of_getElem? (i := 117) rfl, List.forall_mem_cons.mpr ⟨List.mem_of_getElem? (i := 118) rfl, List.forall_mem_cons.mpr ⟨List.mem_of_getElem? (i := 119) rfl, List.forall_mem_cons.mpr ⟨List.mem_of_getElem? (i := 120) rfl, List.forall_mem_cons.mpr ⟨List.mem_of_getElem? (i := 39) rfl, List.forall_mem_cons.mpr ⟨List.mem_of_getElem? (i := 40) rfl, List.forall_mem_cons.mpr ⟨List.mem_of_getElem? (i := 121) rfl, List.forall_mem_cons.mpr ⟨List.mem_of_getElem? (i := 122) rfl, (fun w h => absurd h List.not_mem_nil)⟩⟩⟩⟩⟩⟩⟩⟩⟩⟩⟩⟩⟩⟩⟩⟩⟩⟩⟩⟩⟩⟩⟩⟩
set_option maxRecDepth 20000 in
theorem gm_L_holds_r4 : ∀ w ∈ wsL_holds_r4, w ∈ wsL_law := List.forall_mem_cons.mpr ⟨List.mem_of_getElem? (i := 123) rfl, List.forall_mem_cons.mpr ⟨List.mem_of_getElem? (i := 124) rfl, List.forall_mem_cons.mpr ⟨List.mem_of_getElem? (i := 125) rfl, List.forall_mem_cons.mpr ⟨List.mem_of_getElem? (i := 126) rfl, List.forall_mem_cons.mpr ⟨List.mem_of_getElem? (i := 127) rfl, List.forall_mem_cons.mpr ⟨List.mem_of_getElem? (i := 128) rfl, List.forall_mem_cons.mpr ⟨List.mem_of_getElem? (i := 129) rfl, List.forall_mem_cons.mpr ⟨List.mem_of_getElem? (i := 130) rfl, List.forall_mem_cons.mpr ⟨List.mem_of_getElem? (i := 131) rfl, List.forall_mem_cons.mpr ⟨List.mem_of_getElem? (i := 132) rfl, List.forall_mem_cons.mpr ⟨List.mem_of_getElem? (i := 133) rfl, List.forall_mem_cons.mpr ⟨List.mem_of_getElem? (i := 134) rfl, List.forall_mem_cons.mpr ⟨List.mem_of_getElem? (i := 135) rfl, List.forall_mem_cons.mpr ⟨List.mem_of_getElem? (i := 136) rfl, List.forall_mem_cons.mpr ⟨List.mem_of_getElem? (i := 137) rfl, List.forall_mem_cons.mpr ⟨List.mem_of_getElem? (i := 138) rfl, List.forall_mem_cons.mpr ⟨List.mem_of_getElem? (i := 139) rfl, List.forall_mem_cons.mpr ⟨List.mem_of_getElem? (i := 140) rfl, List.forall_mem_cons.mpr ⟨List.mem_of_getElem? (i := 141) rfl, List.forall_mem_cons.mpr ⟨List.mem_of_getElem? (i := 142) rfl, List.forall_mem_cons.mpr ⟨List.mem_of_getElem? (i := 143) rfl, List.forall_mem_cons.mpr ⟨List.mem_of_getElem? (i := 144) rfl, List.forall_mem_cons.mpr ⟨List.mem_of_getElem? (i := 145) rfl, List.forall_mem_cons.mpr ⟨List.mem_of_getElem? (i := 146) rfl, (fun w h => absurd h List.not_mem_nil)⟩⟩⟩⟩⟩⟩⟩⟩⟩⟩⟩⟩⟩⟩⟩⟩⟩⟩⟩⟩⟩⟩⟩⟩
set_option maxRecDepth 20000 in
theorem gm_L_holds_r5 : ∀ w ∈ wsL_holds_r5, w ∈ wsL_law := List.forall_mem_cons.mpr ⟨List.mem_of_getElem? (i := 147) rfl, List.forall_mem_cons.mpr ⟨List.mem_of_getElem? (i := 148) rfl, List.forall_mem_cons.mpr ⟨List.mem_of_getElem? (i := 149) rfl, List.forall_mem_cons.mpr ⟨List.mem_of_getElem? (i := 150) rfl, List.forall_mem_cons.mpr ⟨List.mem_of_getElem? (i := 151) rfl, List.forall_mem_cons.mpr ⟨List.mem_of_getElem? (i := 152) rfl, List.forall_mem_cons.mpr ⟨List.mem_of_getElem? (i := 153) rfl, List.forall_mem_cons.mpr ⟨List.mem_of_getElem? (i := 154) rfl, List.forall_mem_cons.mpr ⟨List.mem_of_getElem? (i := 155) rfl, List.forall_mem_cons.mpr ⟨List.mem_of_getElem? (i := 156) rfl, List.forall_mem_cons.mpr ⟨List.mem_of_getElem? (i := 157) rfl, List.forall_mem_cons.mpr ⟨List.mem_of_getElem? (i := 158) rfl, List.forall_mem_cons.mpr ⟨List.mem_of_getElem? (i := 32) rfl, List.forall_mem_cons.mpr ⟨List.mem_of_getElem? (i := 159) rfl, List.forall_mem_cons.mpr ⟨List.mem_of_getElem? (i := 51) rfl, List.forall_mem_cons.mpr ⟨List.mem_of_getElem? (i := 160) rfl, List.forall_mem_cons.mpr ⟨List.mem_of_getElem? (i := 161) rfl, List.forall_mem_cons.mpr ⟨List.mem_of_getElem? (i := 162) rfl, List.forall_mem_cons.mpr ⟨List.mem_of_getElem? (i := 163) rfl, List.forall_mem_cons.mpr ⟨List.mem_of_getElem? (i := 164) rfl, List.forall_mem_cons.mpr ⟨List.mem_of_getElem? (i := 165) rfl, List.forall_mem_cons.mpr ⟨List.mem_of_getElem? (i := 166) rfl, List.forall_mem_cons.mpr ⟨List.mem_of_getElem? (i := 167) rfl, List.forall_mem_cons.mpr ⟨List.mem_of_getElem? (i := 168) rfl, (fun w h => absurd h List.not_mem_nil)⟩⟩⟩⟩⟩⟩⟩⟩⟩⟩⟩⟩⟩⟩⟩⟩⟩⟩⟩⟩⟩⟩⟩⟩
set_option maxRecDepth 20000 in
theorem gm_L_holds_r6 : ∀ w ∈ wsL_holds_r6, w ∈ wsL_law := List.forall_mem_cons.mpr ⟨List.mem_of_getElem? (i := 169) rfl, List.forall_mem_cons.mpr ⟨List.mem_of_getElem? (i := 170) rfl, List.forall_mem_cons.mpr ⟨List.mem_of_getElem? (i := 171) rfl, List.forall_mem_cons.mpr ⟨List.mem_of_getElem? (i := 172) rfl, List.forall_mem_cons.mpr ⟨List.mem_of_getElem? (i := 173) rfl, List.forall_mem_cons.mpr ⟨List.mem_of_getElem? (i := 174) rfl, List.forall_mem_cons.mpr ⟨List.mem_of_getElem? (i := 175) rfl, List.forall_mem_cons.mpr ⟨List.mem_of_getElem? (i := 176) rfl, List.forall_mem_cons.mpr ⟨List.mem_of_getElem? (i := 177) rfl, List.forall_mem_cons.mpr ⟨List.mem_of_getElem? (i := 178) rfl, List.forall_mem_cons.mpr ⟨List.mem_of_getElem? (i := 179) rfl, List.forall_mem_cons.mpr ⟨List.mem_of_getElem? (i := 180) rfl, List.forall_mem_cons.mpr ⟨List.mem_of_getElem? (i := 181) rfl, List.forall_mem_cons.mpr ⟨List.mem_of_getElem? (i := 182) rfl, List.forall_mem_cons.mpr ⟨List.mem_of_getElem? (i := 183) rfl, List.forall_mem_cons.mpr ⟨List.mem_of_getElem? (i := 184) rfl, List.forall_mem_cons.mpr ⟨List.mem_of_getElem? (i := 185) rfl, List.forall_mem_cons.mpr ⟨List.mem_of_getElem? (i := 186) rfl, List.forall_mem_cons.mpr ⟨List.mem_of_getElem? (i := 187) rfl, List.forall_mem_cons.mpr ⟨List.mem_of_getElem? (i := 188) rfl, List.forall_mem_cons.mpr ⟨List.mem_of_getElem? (i := 189) rfl, List.forall_mem_cons.mpr ⟨List.mem_of_getElem? (i := 190) rfl, List.forall_mem_cons.mpr ⟨List.mem_of_getElem? (i := 191) rfl, List.forall_mem_cons.mpr ⟨List.mem_of_getElem? (i := 192) rfl, (fun w h => absurd h List.not_mem_nil)⟩⟩⟩⟩⟩⟩⟩⟩⟩⟩⟩⟩⟩⟩⟩⟩⟩⟩⟩⟩⟩⟩⟩⟩
set_option maxRecDepth 20000 in
theorem gm_L_holds_r7 : ∀ w ∈ wsL_holds_r7, w ∈ wsL_law := List.forall_mem_cons.mpr ⟨List.mem_of_getElem? (i := 193) rfl, List.forall_mem_cons.mpr ⟨List.mem_of_getElem? (i := 194) rfl, List.forall_mem_cons.mpr ⟨List.mem_of_getElem? (i := 195) rfl, List.forall_mem_cons.mpr ⟨List.mem_of_getElem? (i := 196) rfl, List.forall_mem_cons.mpr ⟨List.mem_of_getElem? (i := 197) rfl, List.forall_mem_cons.mpr ⟨List.mem_of_getElem? (i := 198) rfl, List.forall_mem_cons.mpr ⟨List.mem_of_getElem? (i := 199) rfl, List.forall_mem_cons.mpr ⟨List.mem_of_getElem? (i := 200) rfl, List.forall_mem_cons.mpr ⟨List.mem_of_getElem? (i := 201) rfl, List.forall_mem_cons.mpr ⟨List.mem_of_getElem? (i := 202) rfl, List.forall_mem_cons.mpr ⟨List.mem_of_getElem? (i := 203) rfl, List.forall_mem_cons.mpr ⟨List.mem_of_getElem? (i := 204) rfl, List.forall_mem_cons.mpr ⟨List.mem_of_getElem? (i := 205) rfl, List.forall_mem_cons.mpr ⟨List.mem_of_getElem? (i := 206) rfl, List.forall_mem_cons.mpr ⟨List.mem_of_getElem? (i := 207) rfl, List.forall_mem_cons.mpr ⟨List.mem_of_getElem? (i := 208) rfl, List.forall_mem_cons.mpr ⟨List.mem_of_getElem? (i := 209) rfl, List.forall_mem_cons.mpr ⟨List.mem_of_getElem? (i := 210) rfl, List.forall_mem_cons.mpr ⟨List.mem_of_getElem? (i := 211) rfl, List.forall_mem_cons.mpr ⟨List.mem_of_getElem? (i := 212) rfl, List.forall_mem_cons.mpr ⟨List.mem_of_getElem? (i := 213) rfl, List.forall_mem_cons.mpr ⟨List.mem_of_getElem? (i := 214) rfl, List.forall_mem_cons.mpr ⟨List.mem_of_getElem? (i := 62) rfl, List.forall_mem_cons.mpr ⟨List.mem_of_getElem? (i := 215) rfl, (fun w h => absurd h List.not_mem_nil)⟩⟩⟩⟩⟩⟩⟩⟩⟩⟩⟩⟩⟩⟩⟩⟩⟩⟩⟩⟩⟩⟩⟩⟩
set_option maxRecDepth 20000 in
theorem gm_L_holds_r8 : ∀ w ∈ wsL_holds_r8, w ∈ wsL_law := List.forall_mem_cons.mpr ⟨List.mem_of_getElem? (i := 216) rfl, List.forall_mem_cons.mpr ⟨List.mem_of_getElem? (i := 217) rfl, List.forall_mem_cons.mpr ⟨List.mem_of_getElem? (i := 218) rfl, List.forall_mem_cons.mpr ⟨List.mem_of_getElem? (i := 219) rfl, List.forall_mem_cons.mpr ⟨List.mem_of_getElem? (i := 220) rfl, List.forall_mem_cons.mpr ⟨List.mem_of_getElem? (i := 221) rfl, List.forall_mem_cons.mpr ⟨List.mem_of_getElem? (i := 222) rfl, List.forall_mem_cons.mpr ⟨List.mem_of_getElem? (i := 223) rfl, List.forall_mem_cons.mpr ⟨List.mem_of_getElem? (i := 3) rfl, List.forall_mem_cons.mpr ⟨List.mem_of_getElem? (i := 224) rfl, List.forall_mem_cons.mpr ⟨List.mem_of_getElem? (i := 225) rfl, List.forall_mem_cons.mpr ⟨List.mem_of_getElem? (i := 226) rfl, List.forall_mem_cons.mpr ⟨List.mem_of_getElem? (i := 227) rfl, List.forall_mem_cons.mpr ⟨List.mem_of_getElem? (i := 228) rfl, List.forall_mem_cons.mpr ⟨List.mem_of_getElem? (i := 229) rfl, List.forall_mem_cons.mpr ⟨List.mem_of_getElem? (i := 230) rfl, List.forall_mem_cons.mpr ⟨List.mem_of_getElem? (i := 231) rfl, List.forall_mem_cons.mpr ⟨List.mem_of_getElem? (i := 232) rfl, List.forall_mem_cons.mpr ⟨List.mem_of_getElem? (i := 233) rfl, List.forall_mem_cons.mpr ⟨List.mem_of_getElem? (i := 234) rfl, List.forall_mem_cons.mpr ⟨List.mem_of_getElem? (i := 235) rfl, List.forall_mem_cons.mpr ⟨List.mem_of_getElem? (i := 236) rfl, List.forall_mem_cons.mpr ⟨List.mem_of_getElem? (i := 237) rfl, List.forall_mem_cons.mpr ⟨List.mem_of_getElem? (i := 238) rfl, (fun w h => absurd h List.not_mem_nil)⟩⟩⟩⟩⟩⟩⟩⟩⟩⟩⟩⟩⟩⟩⟩⟩⟩⟩⟩⟩⟩⟩⟩⟩
set_option maxRecDepth 20000 in
theorem gm_L_holds_r9 : ∀ w ∈ wsL_holds_r9, w ∈ wsL_law := List.forall_mem_cons.mpr ⟨List.mem_of_getElem? (i := 239) rfl, List.forall_mem_cons.mpr ⟨List.mem_of_getElem? (i := 240) rfl, List.forall_mem_cons.mpr ⟨List.mem_of_getElem? (i := 241) rfl, List.forall_mem_cons.mpr ⟨List.mem_of_getElem? (i := 242) rfl, List.forall_mem_cons.mpr ⟨List.mem_of_getElem? (i := 243) rfl, List.forall_mem_cons.mpr ⟨List.mem_of_getElem? (i := 244) rfl, List.forall_mem_cons.mpr ⟨List.mem_of_getElem? (i := 245) rfl, List.forall_mem_cons.mpr ⟨List.mem_of_getElem? (i := 52) rfl, List.forall_mem_cons.mpr ⟨List.mem_of_getElem? (i := 246) rfl, List.forall_mem_cons.mpr ⟨List.mem_of_getElem? (i := 247) rfl, List.forall_mem_cons.mpr ⟨List.mem_of_getElem? (i := 248) rfl, List.forall_mem_cons.mpr ⟨List.mem_of_getElem? (i := 249) rfl, List.forall_mem_cons.mpr ⟨List.mem_of_getElem? (i := 250) rfl, List.forall_mem_cons.mpr ⟨List.mem_of_getElem? (i := 251) rfl, List.forall_mem_cons.mpr ⟨List.mem_of_getElem? (i := 252) rfl, List.forall_mem_cons.mpr ⟨List.mem_of_getElem? (i := 253) rfl, (fun w h => absurd h List.not_mem_nil)⟩⟩⟩⟩⟩⟩⟩⟩⟩⟩⟩⟩⟩⟩⟩⟩
set_option maxRecDepth 20000 in
theorem gm_L_holds : ∀ w ∈ wsL_holds, w ∈ wsL_law := List.forall_mem_cons.mpr ⟨List.mem_of_getElem? (i := 63) rfl, (List.forall_mem_append.mpr ⟨(List.forall_mem_append.mpr ⟨(List.forall_mem_append.mpr ⟨(List.forall_mem_append.mpr ⟨(List.forall_mem_append.mpr ⟨(List.forall_mem_append.mpr ⟨gm_L_holds_r1, (List.forall_mem_append.mpr ⟨gm_L_holds_r2, (List.forall_mem_append.mpr ⟨gm_L_holds_r3, (List.forall_mem_append.mpr ⟨gm_L_holds_r4, (List.forall_mem_append.mpr ⟨gm_L_holds_r5, (List.forall_mem_append.mpr ⟨gm_L_holds_r6, (List.forall_mem_append.mpr ⟨gm_L_holds_r7, (List.forall_mem_append.mpr ⟨gm_L_holds_r8, gm_L_holds_r9⟩)⟩)⟩)⟩)⟩)⟩)⟩)⟩), inlX4⟩), inlX3⟩), inlX2⟩), inlX0⟩), inlX1⟩)⟩
set_option maxRecDepth 20000 in
theorem ggL_law_L_holds : GoodIn wsL_law wsL_holds := goodIn_sub gm_L_holds (by decide +kernel)
set_option maxRecDepth 20000 in
theorem gm_L_change_r1 : ∀ w ∈ wsL_change_r1, w ∈ wsL_law := List.forall_mem_cons.mpr ⟨List.mem_of_getElem? (i := 64) rfl, List.forall_mem_cons.mpr ⟨List.mem_of_getElem? (i := 65) rfl, List.forall_mem_cons.mpr ⟨List.mem_of_getElem? (i := 66) rfl, List.forall_mem_cons.mpr ⟨List.mem_of_getElem? (i := 2) rfl, List.forall_mem_cons.mpr ⟨List.mem_of_getElem? (i := 67) rfl, List.forall_mem_cons.mpr ⟨List.mem_of_getElem? (i := 13) rfl, List.forall_mem_cons.mpr ⟨List.mem_of_getElem? (i := 68) rfl, List.forall_mem_cons.mpr ⟨List.mem_of_getElem? (i := 69) rfl, List.forall_mem_cons.mpr ⟨List.mem_of_getElem? (i := 70) rfl, List.forall_mem_cons.mpr ⟨List.mem_of_getElem? (i := 71) rfl, List.forall_mem_cons.mpr ⟨List.mem_of_getElem? (i := 72) rfl, List.forall_mem_cons.mpr ⟨List.mem_of_getElem? (i := 17) rfl, List.forall_mem_cons.mpr ⟨List.mem_of_getElem? (i := 73) rfl, List.forall_mem_cons.mpr ⟨List.mem_of_getElem? (i := 20) rfl, List.forall_mem_cons.mpr ⟨List.mem_of_getElem? (i := 74) rfl, List.forall_mem_cons.mpr ⟨List.mem_of_getElem? (i := 75) rfl, List.forall_mem_cons.mpr ⟨List.mem_of_getElem? (i := 76) rfl, List.forall_mem_cons.mpr ⟨List.mem_of_getElem? (i := 23) rfl, List.forall_mem_cons.mpr ⟨List.mem_of_getElem? (i := 77) rfl, List.forall_mem_cons.mpr ⟨List.mem_of_getElem? (i := 43) rfl, List.forall_mem_cons.mpr ⟨List.mem_of_getElem? (i := 38) rfl, List.forall_mem_cons.mpr ⟨List.mem_of_getElem? (i := 78) rfl, List.forall_mem_cons.mpr ⟨List.mem_of_getElem? (i := 79) rfl, List.forall_mem_cons.mpr ⟨List.mem_of_getElem? (i := 80) rfl, (fun w h => absurd h List.not_mem_nil)⟩⟩⟩⟩⟩⟩⟩⟩⟩⟩⟩⟩⟩⟩⟩⟩⟩⟩⟩⟩⟩⟩⟩⟩
set_option maxRecDepth 20000 in
theorem gm_L_change_r2 : ∀ w ∈ wsL_change_r2, w ∈ wsL_law := List.forall_mem_cons.mpr ⟨List.mem_of_getElem? (i := 81) rfl, List.forall_mem_cons.mpr ⟨List.mem_of_getElem? (i := 82) rfl, List.forall_mem_cons.mpr ⟨List.mem_of_getElem? (i := 83) rfl, List.forall_mem_cons.mpr ⟨List.mem_of_getElem? (i := 84) rfl, List.forall_mem_cons.mpr ⟨List.mem_of_getElem? (i := 85) rfl, List.forall_mem_cons.mpr ⟨List.mem_of_getElem? (i := 86) rfl, List.forall_mem_cons.mpr ⟨List.mem_of_getElem? (i := 87) rfl, List.forall_mem_cons.mpr ⟨List.mem_of_getElem? (i := 88) rfl, List.forall_mem_cons.mpr ⟨List.mem_of_getElem? (i := 89) rfl, List.forall_mem_cons.mpr ⟨List.mem_of_getElem? (i := 42) rfl, List.forall_mem_cons.mpr ⟨List.mem_of_getElem? (i := 90) rfl, List.forall_mem_cons.mpr ⟨List.mem_of_getElem? (i := 91) rfl, List.forall_mem_cons.mpr ⟨List.mem_of_getElem? (i := 92) rfl, List.forall_mem_cons.mpr ⟨List.mem_of_getElem? (i := 93) rfl, List.forall_mem_cons.mpr ⟨List.mem_of_getElem? (i := 94) rfl, List.forall_mem_cons.mpr ⟨List.mem_of_getElem? (i := 95) rfl, List.forall_mem_cons.mpr ⟨List.mem_of_getElem? (i := 96) rfl, List.forall_mem_cons.mpr ⟨List.mem_of_getElem? (i := 97) rfl, List.forall_mem_cons.mpr ⟨List.mem_of_getElem? (i := 98) rfl, List.forall_mem_cons.mpr ⟨List.mem_of_getElem? (i := 99) rfl, List.forall_mem_cons.mpr ⟨List.mem_of_getElem? (i := 100) rfl, List.forall_mem_cons.mpr ⟨List.mem_of_getElem? (i := 41) rfl, List.forall_mem_cons.mpr ⟨List.mem_of_getElem? (i := 101) rfl, List.forall_mem_cons.mpr ⟨List.mem_of_getElem? (i := 102) rfl, (fun w h => absurd h List.not_mem_nil)⟩⟩⟩⟩⟩⟩⟩⟩⟩⟩⟩⟩⟩⟩⟩⟩⟩⟩⟩⟩⟩⟩⟩⟩
set_option maxRecDepth 20000 in
theorem gm_L_change_r3 : ∀ w ∈ wsL_change_r3, w ∈ wsL_law := List.forall_mem_cons.mpr ⟨List.mem_of_getElem? (i := 103) rfl, List.forall_mem_cons.mpr ⟨List.mem_of_getElem? (i := 104) rfl, List.forall_mem_cons.mpr ⟨List.mem_of_getElem? (i := 105) rfl, List.forall_mem_cons.mpr ⟨List.mem_of_getElem? (i := 106) rfl, List.forall_mem_cons.mpr ⟨List.mem_of_getElem? (i := 107) rfl, List.forall_mem_cons.mpr ⟨List.mem_of_getElem? (i := 108) rfl, List.forall_mem_cons.mpr ⟨List.mem_of_getElem? (i := 37) rfl, List.forall_mem_cons.mpr ⟨List.mem_of_getElem? (i := 109) rfl, List.forall_mem_cons.mpr ⟨List.mem_of_getElem? (i := 110) rfl, List.forall_mem_cons.mpr ⟨List.mem_of_getElem? (i := 111) rfl, List.forall_mem_cons.mpr ⟨List.mem_of_getElem? (i := 112) rfl, List.forall_mem_cons.mpr ⟨List.mem_of_getElem? (i := 113) rfl, List.forall_mem_cons.mpr ⟨List.mem_of_getElem? (i := 114) rfl, List.forall_mem_cons.mpr ⟨List.mem_of_getElem? (i := 115) rfl, List.forall_mem_cons.mpr ⟨List.mem_of_getElem? (i := 116) rfl, List.forall_mem_cons.mpr ⟨List.mem_of_getElem? (i := 24) rfl, List.forall_mem_cons.mpr ⟨List.mem_of_getElem? (i := 117) rfl, List.forall_mem_cons.mpr ⟨List.mem_of_getElem? (i := 118) rfl, List.forall_mem_cons.mpr ⟨List.mem_of_getElem? (i := 119) rfl, List.forall_mem_cons.mpr ⟨List.mem_of_getElem? (i := 120) rfl, List.forall_mem_cons.mpr ⟨List.mem_of_getElem? (i := 39) rfl, List.forall_mem_cons.mpr ⟨List.mem_of_getElem? (i := 40) rfl, List.forall_mem_cons.mpr ⟨List.mem_of_getElem? (i := 121) rfl, List.forall_mem_cons.mpr ⟨List.mem_of_getElem? (i := 122) rfl, (fun w h => absurd h List.not_mem_nil)⟩⟩⟩⟩⟩⟩⟩⟩⟩⟩⟩⟩⟩⟩⟩⟩⟩⟩⟩⟩⟩⟩⟩⟩
set_option maxRecDepth 20000 in
theorem gm_L_change_r4 : ∀ w ∈ wsL_change_r4, w ∈ wsL_law := List.forall_mem_cons.mpr ⟨List.mem_of_getElem? (i := 123) rfl, List.forall_mem_cons.mpr ⟨List.mem_of_getElem? (i := 124) rfl, List.forall_mem_cons.mpr ⟨List.mem_of_getElem? (i := 125) rfl, List.forall_mem_cons.mpr ⟨List.mem_of_getElem? (i := 126) rfl, List.forall_mem_cons.mpr ⟨List.mem_of_getElem? (i := 127) rfl, List.forall_mem_cons.mpr ⟨List.mem_of_getElem? (i := 128) rfl, List.forall_mem_cons.mpr ⟨List.mem_of_getElem? (i := 129) rfl, List.forall_mem_cons.mpr ⟨List.mem_of_getElem? (i := 130) rfl, List.forall_mem_cons.mpr ⟨List.mem_of_getElem? (i := 131) rfl, List.forall_mem_cons.mpr ⟨List.mem_of_getElem? (i := 132) rfl, List.forall_mem_cons.mpr ⟨List.mem_of_getElem? (i := 133) rfl, List.forall_mem_cons.mpr ⟨List.mem_of_getElem? (i := 134) rfl, List.forall_mem_cons.mpr ⟨List.mem_of_getElem? (i := 135) rfl, List.forall_mem_cons.mpr ⟨List.mem_of_getElem? (i := 136) rfl, List.forall_mem_cons.mpr ⟨List.mem_of_getElem? (i := 137) rfl, List.forall_mem_cons.mpr ⟨List.mem_of_getElem? (i := 138) rfl, List.forall_mem_cons.mpr ⟨List.mem_of_getElem? (i := 139) rfl, List.forall_mem_cons.mpr ⟨List.mem_of_getElem? (i := 140) rfl, List.forall_mem_cons.mpr ⟨List.mem_of_getElem? (i := 141) rfl, List.forall_mem_cons.mpr ⟨List.mem_of_getElem? (i := 142) rfl, List.forall_mem_cons.mpr ⟨List.mem_of_getElem? (i := 143) rfl, List.forall_mem_cons.mpr ⟨List.mem_of_getElem? (i := 144) rfl, List.forall_mem_cons.mpr ⟨List.mem_of_getElem? (i := 145) rfl, List.forall_mem_cons.mpr ⟨List.mem_of_getElem? (i := 146) rfl, (fun w h => absurd h List.not_mem_nil)⟩⟩⟩⟩⟩⟩⟩⟩⟩⟩⟩⟩⟩⟩⟩⟩⟩⟩⟩⟩⟩⟩⟩⟩
set_option maxRecDepth 20000 in
theorem gm_L_change_r5 : ∀ w ∈ wsL_change_r5, w ∈ wsL_law := List.forall_mem_cons.mpr ⟨List.mem_of_getElem? (i := 147) rfl, List.forall_mem_cons.mpr ⟨List.mem_of_getElem? (i := 148) rfl, List.forall_mem_cons.mpr ⟨List.mem_of_getElem? (i := 149) rfl, List.forall_mem_cons.mpr ⟨List.mem_of_getElem? (i := 150) rfl, List.forall_mem_cons.mpr ⟨List.mem_of_getElem? (i := 151) rfl, List.forall_mem_cons.mpr ⟨List.mem_of_getElem? (i := 152) rfl, List.forall_mem_cons.mpr ⟨List.mem_of_getElem? (i := 153) rfl, List.forall_mem_cons.mpr ⟨List.mem_of_getElem? (i := 154) rfl, List.forall_mem_cons.mpr ⟨List.mem_of_getElem? (i := 155) rfl, List.forall_mem_cons.mpr ⟨List.mem_of_getElem? (i := 156) rfl, List.forall_mem_cons.mpr ⟨List.mem_of_getElem? (i := 157) rfl, List.forall_mem_cons.mpr ⟨List.mem_of_getElem? (i := 158) rfl, List.forall_mem_cons.mpr ⟨List.mem_of_getElem? (i := 32) rfl, List.forall_mem_cons.mpr ⟨List.mem_of_getElem? (i := 159) rfl, List.forall_mem_cons.mpr ⟨List.mem_of_getElem? (i := 51) rfl, List.forall_mem_cons.mpr ⟨List.mem_of_getElem? (i := 160) rfl, List.forall_mem_cons.mpr ⟨List.mem_of_getElem? (i := 161) rfl, List.forall_mem_cons.mpr ⟨List.mem_of_getElem? (i := 213) rfl, List.forall_mem_cons.mpr ⟨List.mem_of_getElem? (i := 214) rfl, List.forall_mem_cons.mpr ⟨List.mem_of_getElem? (i := 62) rfl, List.forall_mem_cons.mpr ⟨List.mem_of_getElem? (i := 215) rfl, List.forall_mem_cons.mpr ⟨List.mem_of_getElem? (i := 216) rfl, List.forall_mem_cons.mpr ⟨List.mem_of_getElem? (i := 274) rfl, List.forall_mem_cons.mpr ⟨List.mem_of_getElem? (i := 275) rfl, (fun w h => absurd h List.not_mem_nil)⟩⟩⟩⟩⟩⟩⟩⟩⟩⟩⟩⟩⟩⟩⟩⟩⟩⟩⟩⟩⟩⟩⟩⟩
set_option maxRecDepth 20000 in
theorem gm_L_change_r6 : ∀ w ∈ wsL_change_r6, w ∈ wsL_law := List.forall_mem_cons.mpr ⟨List.mem_of_getElem? (i := 276) rfl, List.forall_mem_cons.mpr ⟨List.mem_of_getElem? (i := 277) rfl, List.forall_mem_cons.mpr ⟨List.mem_of_getElem? (i := 278) rfl, List.forall_mem_cons.mpr ⟨List.mem_of_getElem? (i := 279) rfl, List.forall_mem_cons.mpr ⟨List.mem_of_getElem? (i := 280) rfl, List.forall_mem_cons.mpr ⟨List.mem_of_getElem? (i := 182) rfl, List.forall_mem_cons.mpr ⟨List.mem_of_getElem? (i := 281) rfl, List.forall_mem_cons.mpr ⟨List.mem_of_getElem? (i := 282) rfl, List.forall_mem_cons.mpr ⟨List.mem_of_getElem? (i := 283) rfl, List.forall_mem_cons.mpr ⟨List.mem_of_getElem? (i := 284) rfl, List.forall_mem_cons.mpr ⟨List.mem_of_getElem? (i := 285) rfl, List.forall_mem_cons.mpr ⟨List.mem_of_getElem? (i := 286) rfl, List.forall_mem_cons.mpr ⟨List.mem_of_getElem? (i := 287) rfl, List.forall_mem_cons.mpr ⟨List.mem_of_getElem? (i := 19) rfl, List.forall_mem_cons.mpr ⟨List.mem_of_getElem? (i := 288) rfl, List.forall_mem_cons.mpr ⟨List.mem_of_getElem? (i := 289) rfl, List.forall_mem_cons.mpr ⟨List.mem_of_getElem? (i := 290) rfl, List.forall_mem_cons.mpr ⟨List.mem_of_getElem? (i := 291) rfl, List.forall_mem_cons.mpr ⟨List.mem_of_getElem? (i := 292) rfl, List.forall_mem_cons.mpr ⟨List.mem_of_getElem? (i := 293) rfl, List.forall_mem_cons.mpr ⟨List.mem_of_getElem? (i := 294) rfl, List.forall_mem_cons.mpr ⟨List.mem_of_getElem? (i := 295) rfl, List.forall_mem_cons.mpr ⟨List.mem_of_getElem? (i := 10) rfl, List.forall_mem_cons.mpr ⟨List.mem_of_getElem? (i := 11) rfl, (fun w h => absurd h List.not_mem_nil)⟩⟩⟩⟩⟩⟩⟩⟩⟩⟩⟩⟩⟩⟩⟩⟩⟩⟩⟩⟩⟩⟩⟩⟩
set_option maxRecDepth 20000 in
theorem gm_L_change_r7 : ∀ w ∈ wsL_change_r7, w ∈ wsL_law := List.forall_mem_cons.mpr ⟨List.mem_of_getElem? (i := 12) rfl, List.forall_mem_cons.mpr ⟨List.mem_of_getElem? (i := 25) rfl, List.forall_mem_cons.mpr ⟨List.mem_of_getElem? (i := 26) rfl, List.forall_mem_cons.mpr ⟨List.mem_of_getElem? (i := 27) rfl, List.forall_mem_cons.mpr ⟨List.mem_of_getElem? (i := 8) rfl, List.forall_mem_cons.mpr ⟨List.mem_of_getElem? (i := 9) rfl, List.forall_mem_cons.mpr ⟨List.mem_of_getElem? (i := 28) rfl, List.forall_mem_cons.mpr ⟨List.mem_of_getElem? (i := 22) rfl, List.forall_mem_cons.mpr ⟨List.mem_of_getElem? (i := 29) rfl, List.forall_mem_cons.mpr ⟨List.mem_of_getElem? (i := 30) rfl, List.forall_mem_cons.mpr ⟨List.mem_of_getElem? (i := 31) rfl, List.forall_mem_cons.mpr ⟨List.mem_of_getElem? (i := 33) rfl, List.forall_mem_cons.mpr ⟨List.mem_of_getElem? (i := 34) rfl, List.forall_mem_cons.mpr ⟨List.mem_of_getElem? (i := 35) rfl, List.forall_mem_cons.mpr ⟨List.mem_of_getElem? (i := 36) rfl, List.forall_mem_cons.mpr ⟨List.mem_of_getElem? (i := 3) rfl, List.forall_mem_cons.mpr ⟨List.mem_of_getElem? (i := 44) rfl, List.forall_mem_cons.mpr ⟨List.mem_of_getElem? (i := 45) rfl, List.forall_mem_cons.mpr ⟨List.mem_of_getElem? (i := 46) rfl, List.forall_mem_cons.mpr ⟨List.mem_of_getElem? (i := 47) rfl, List.forall_mem_cons.mpr ⟨List.mem_of_getElem? (i := 48) rfl, List.forall_mem_cons.mpr ⟨List.mem_of_getElem? (i := 49) rfl, List.forall_mem_cons.mpr ⟨List.mem_of_getElem? (i := 50) rfl, List.forall_mem_cons.mpr ⟨List.mem_of_getElem? (i := 52) rfl, (fun w h => absurd h List.not_mem_nil)⟩⟩⟩⟩⟩⟩⟩⟩⟩⟩⟩⟩⟩⟩⟩⟩⟩⟩⟩⟩⟩⟩⟩⟩
set_option maxRecDepth 20000 in
theorem gm_L_change_r8 : ∀ w ∈ wsL_change_r8, w ∈ wsL_law := List.forall_mem_cons.mpr ⟨List.mem_of_getElem? (i := 53) rfl, List.forall_mem_cons.mpr ⟨List.mem_of_getElem? (i := 258) rfl, List.forall_mem_cons.mpr ⟨List.mem_of_getElem? (i := 259) rfl, List.forall_mem_cons.mpr ⟨List.mem_of_getElem? (i := 260) rfl, List.forall_mem_cons.mpr ⟨List.mem_of_getElem? (i := 261) rfl, List.forall_mem_cons.mpr ⟨List.mem_of_getElem? (i := 262) rfl, List.forall_mem_cons.mpr ⟨List.mem_of_getElem? (i := 263) rfl, List.forall_mem_cons.mpr ⟨List.mem_of_getElem? (i := 264) rfl, List.forall_mem_cons.mpr ⟨List.mem_of_getElem? (i := 265) rfl, List.forall_mem_cons.mpr ⟨List.mem_of_getElem? (i := 266) rfl, List.forall_mem_cons.mpr ⟨List.mem_of_getElem? (i := 296) rfl, List.forall_mem_cons.mpr ⟨List.mem_of_getElem? (i := 297) rfl, List.forall_mem_cons.mpr ⟨List.mem_of_getElem? (i := 298) rfl, List.forall_mem_cons.mpr ⟨List.mem_of_getElem? (i := 299) rfl, List.forall_mem_cons.mpr ⟨List.mem_of_getElem? (i := 190) rfl, List.forall_mem_cons.mpr ⟨List.mem_of_getElem? (i := 191) rfl, List.forall_mem_cons.mpr ⟨List.mem_of_getElem? (i := 162) rfl, List.forall_mem_cons.mpr ⟨List.mem_of_getElem? (i := 163) rfl, List.forall_mem_cons.mpr ⟨List.mem_of_getElem? (i := 164) rfl, List.forall_mem_cons.mpr ⟨List.mem_of_getElem? (i := 165) rfl, List.forall_mem_cons.mpr ⟨List.mem_of_getElem? (i := 166) rfl, List.forall_mem_cons.mpr ⟨List.mem_of_getElem? (i := 167) rfl, List.forall_mem_cons.mpr ⟨List.mem_of_getElem? (i := 168) rfl, List.forall_mem_cons.mpr ⟨List.mem_of_getElem? (i := 169) rfl, (fun w h => absurd h List.not_mem_nil)⟩⟩⟩⟩⟩⟩⟩⟩⟩⟩⟩⟩⟩⟩⟩⟩⟩⟩⟩⟩⟩⟩⟩⟩
set_option maxRecDepth 20000 in
theorem gm_L_change_r9 : ∀ w ∈ wsL_change_r9, w ∈ wsL_law := List.forall_mem_cons.mpr ⟨List.mem_of_getElem? (i := 170) rfl, List.forall_mem_cons.mpr ⟨List.mem_of_getElem? (i := 171) rfl, List.forall_mem_cons.mpr ⟨List.mem_of_getElem? (i := 172) rfl, List.forall_mem_cons.mpr ⟨List.mem_of_getElem? (i := 173) rfl, List.forall_mem_cons.mpr ⟨List.mem_of_getElem? (i := 174) rfl, List.forall_mem_cons.mpr ⟨List.mem_of_getElem? (i := 300) rfl, List.forall_mem_cons.mpr ⟨List.mem_of_getElem? (i := 301) rfl, List.forall_mem_cons.mpr ⟨List.mem_of_getElem? (i := 302) rfl, List.forall_mem_cons.mpr ⟨List.mem_of_getElem? (i := 303) rfl, List.forall_mem_cons.mpr ⟨List.mem_of_getElem? (i := 304) rfl, List.forall_mem_cons.mpr ⟨List.mem_of_getElem? (i := 305) rfl, List.forall_mem_cons.mpr ⟨List.mem_of_getElem? (i := 306) rfl, List.forall_mem_cons.mpr ⟨List.mem_of_getElem? (i := 307) rfl, List.forall_mem_cons.mpr ⟨List.mem_of_getElem? (i := 308) rfl, List.forall_mem_cons.mpr ⟨List.mem_of_getElem? (i := 309) rfl, List.forall_mem_cons.mpr ⟨List.mem_of_getElem? (i := 310) rfl, List.forall_mem_cons.mpr ⟨List.mem_of_getElem? (i := 311) rfl, List.forall_mem_cons.mpr ⟨List.mem_of_getElem? (i := 312) rfl, List.forall_mem_cons.mpr ⟨List.mem_of_getElem? (i := 313) rfl, List.forall_mem_cons.mpr ⟨List.mem_of_getElem? (i := 314) rfl, List.forall_mem_cons.mpr ⟨List.mem_of_getElem? (i := 315) rfl, List.forall_mem_cons.mpr ⟨List.mem_of_getElem? (i := 316) rfl, List.forall_mem_cons.mpr ⟨List.mem_of_getElem? (i := 317) rfl, List.forall_mem_cons.mpr ⟨List.mem_of_getElem? (i := 318) rfl, (fun w h => absurd h List.not_mem_nil)⟩⟩⟩⟩⟩⟩⟩⟩⟩⟩⟩⟩⟩⟩⟩⟩⟩⟩⟩⟩⟩⟩⟩⟩
set_option maxRecDepth 20000 in
theorem gm_L_change_r10 : ∀ w ∈ wsL_change_r10, w ∈ wsL_law := List.forall_mem_cons.mpr ⟨List.mem_of_getElem? (i := 319) rfl, List.forall_mem_cons.mpr ⟨List.mem_of_getElem? (i := 320) rfl, List.forall_mem_cons.mpr ⟨List.mem_of_getElem? (i := 321) rfl, List.forall_mem_cons.mpr ⟨List.mem_of_getElem? (i := 322) rfl, List.forall_mem_cons.mpr ⟨List.mem_of_getElem? (i := 323) rfl, List.forall_mem_cons.mpr ⟨List.mem_of_getElem? (i := 179) rfl, List.forall_mem_cons.mpr ⟨List.mem_of_getElem? (i := 180) rfl, List.forall_mem_cons.mpr ⟨List.mem_of_getElem? (i := 181) rfl, List.forall_mem_cons.mpr ⟨List.mem_of_getElem? (i := 186) rfl, List.forall_mem_cons.mpr ⟨List.mem_of_getElem? (i := 187) rfl, List.forall_mem_cons.mpr ⟨List.mem_of_getElem? (i := 188) rfl, List.forall_mem_cons.mpr ⟨List.mem_of_getElem? (i := 324) rfl, List.forall_mem_cons.mpr ⟨List.mem_of_getElem? (i := 325) rfl, List.forall_mem_cons.mpr ⟨List.mem_of_getElem? (i := 326) rfl, List.forall_mem_cons.mpr ⟨List.mem_of_getElem? (i := 327) rfl, List.forall_mem_cons.mpr ⟨List.mem_of_getElem? (i := 234) rfl, List.forall_mem_cons.mpr ⟨List.mem_of_getElem? (i := 235) rfl, List.forall_mem_cons.mpr ⟨List.mem_of_getElem? (i := 236) rfl, List.forall_mem_cons.mpr ⟨List.mem_of_getElem? (i := 237) rfl, List.forall_mem_cons.mpr ⟨List.mem_of_getElem? (i := 238) rfl, List.forall_mem_cons.mpr ⟨List.mem_of_getElem? (i := 239) rfl, List.forall_mem_cons.mpr ⟨List.mem_of_getElem? (i := 240) rfl, List.forall_mem_cons.mpr ⟨List.mem_of_getElem? (i := 241) rfl, List.forall_mem_cons.mpr ⟨List.mem_of_getElem? (i := 242) rfl, (fun w h => absurd h List.not_mem_nil)⟩⟩⟩⟩⟩⟩⟩⟩⟩⟩⟩⟩⟩⟩⟩⟩⟩⟩⟩⟩⟩⟩⟩⟩
set_option maxRecDepth 20000 in
theorem gm_L_change_r11 : ∀ w ∈ wsL_change_r11, w ∈ wsL_law := List.forall_mem_cons.mpr ⟨List.mem_of_getElem? (i := 243) rfl, List.forall_mem_cons.mpr ⟨List.mem_of_getElem? (i := 244) rfl, List.forall_mem_cons.mpr ⟨List.mem_of_getElem? (i := 245) rfl, List.forall_mem_cons.mpr ⟨List.mem_of_getElem? (i := 246) rfl, List.forall_mem_cons.mpr ⟨List.mem_of_getElem? (i := 247) rfl, List.forall_mem_cons.mpr ⟨List.mem_of_getElem? (i := 248) rfl, List.forall_mem_cons.mpr ⟨List.mem_of_getElem? (i := 249) rfl, List.forall_mem_cons.mpr ⟨List.mem_of_getElem? (i := 250) rfl, List.forall_mem_cons.mpr ⟨List.mem_of_getElem? (i := 251) rfl, List.forall_mem_cons.mpr ⟨List.mem_of_getElem? (i := 252) rfl, List.forall_mem_cons.mpr ⟨List.mem_of_getElem? (i := 253) rfl, List.forall_mem_cons.mpr ⟨List.mem_of_getElem? (i := 328) rfl, List.forall_mem_cons.mpr ⟨List.mem_of_getElem? (i := 329) rfl, List.forall_mem_cons.mpr ⟨List.mem_of_getElem? (i := 330) rfl, List.forall_mem_cons.mpr ⟨List.mem_of_getElem? (i := 331) rfl, List.forall_mem_cons.mpr ⟨List.mem_of_getElem? (i := 332) rfl, List.forall_mem_cons.mpr ⟨List.mem_of_getElem? (i := 333) rfl, List.forall_mem_cons.mpr ⟨List.mem_of_getElem? (i := 334) rfl, List.forall_mem_cons.mpr ⟨List.mem_of_getElem? (i := 335) rfl, List.forall_mem_cons.mpr ⟨List.mem_of_getElem? (i := 336) rfl, List.forall_mem_cons.mpr ⟨List.mem_of_getElem? (i := 337) rfl, List.forall_mem_cons.mpr ⟨List.mem_of_getElem? (i := 338) rfl, List.forall_mem_cons.mpr ⟨List.mem_of_getElem? (i := 339) rfl, List.forall_mem_cons.mpr ⟨List.mem_of_getElem? (i := 340) rfl, (fun w h => absurd h List.not_mem_nil)⟩⟩⟩⟩⟩⟩⟩⟩⟩⟩⟩⟩⟩⟩⟩⟩⟩⟩⟩⟩⟩⟩⟩⟩
set_option maxRecDepth 20000 in
theorem gm_L_change_r12 : ∀ w ∈ wsL_change_r12, w ∈ wsL_law := List.forall_mem_cons.mpr ⟨List.mem_of_getElem? (i := 341) rfl, List.forall_mem_cons.mpr ⟨List.mem_of_getElem? (i := 342) rfl, List.forall_mem_cons.mpr ⟨List.mem_of_getElem? (i := 343) rfl, List.forall_mem_cons.mpr ⟨List.mem_of_getElem? (i := 344) rfl, List.forall_mem_cons.mpr ⟨List.mem_of_getElem? (i := 345) rfl, List.forall_mem_cons.mpr ⟨List.mem_of_getElem? (i := 346) rfl, List.forall_mem_cons.mpr ⟨List.mem_of_getElem? (i := 347) rfl, List.forall_mem_cons.mpr ⟨List.mem_of_getElem? (i := 183) rfl, List.forall_mem_cons.mpr ⟨List.mem_of_getElem? (i := 184) rfl, List.forall_mem_cons.mpr ⟨List.mem_of_getElem? (i := 185) rfl, List.forall_mem_cons.mpr ⟨List.mem_of_getElem? (i := 189) rfl, List.forall_mem_cons.mpr ⟨List.mem_of_getElem? (i := 201) rfl, List.forall_mem_cons.mpr ⟨List.mem_of_getElem? (i := 202) rfl, List.forall_mem_cons.mpr ⟨List.mem_of_getElem? (i := 203) rfl, List.forall_mem_cons.mpr ⟨List.mem_of_getElem? (i := 204) rfl, List.forall_mem_cons.mpr ⟨List.mem_of_getElem? (i := 348) rfl, List.forall_mem_cons.mpr ⟨List.mem_of_getElem? (i := 349) rfl, List.forall_mem_cons.mpr ⟨List.mem_of_getElem? (i := 350) rfl, List.forall_mem_cons.mpr ⟨List.mem_of_getElem? (i := 351) rfl, List.forall_mem_cons.mpr ⟨List.mem_of_getElem? (i := 352) rfl, List.forall_mem_cons.mpr ⟨List.mem_of_getElem? (i := 353) rfl, List.forall_mem_cons.mpr ⟨List.mem_of_getElem? (i := 354) rfl, List.forall_mem_cons.mpr ⟨List.mem_of_getElem? (i := 355) rfl, List.forall_mem_cons.mpr ⟨List.mem_of_getElem? (i := 217) rfl, (fun w h => absurd h List.not_mem_nil)⟩⟩⟩⟩⟩⟩⟩⟩⟩⟩⟩⟩⟩⟩⟩⟩⟩⟩⟩⟩⟩⟩⟩⟩
set_option maxRecDepth 20000 in
theorem gm_L_change_r13 : ∀ w ∈ wsL_change_r13, w ∈ wsL_law := List.forall_mem_cons.mpr ⟨List.mem_of_getElem? (i := 218) rfl, List.forall_mem_cons.mpr ⟨List.mem_of_getElem? (i := 219) rfl, List.forall_mem_cons.mpr ⟨List.mem_of_getElem? (i := 220) rfl, (fun w h => absurd h List.not_mem_nil)⟩⟩⟩
set_option maxRecDepth 20000 in
theorem gm_L_change : ∀ w ∈ wsL_change, w ∈ wsL_law := List.forall_mem_cons.mpr ⟨List.mem_of_getElem? (i := 273) rfl, (List.forall_mem_append.mpr ⟨(List.forall_mem_append.mpr ⟨(List.forall_mem_append.mpr ⟨(List.forall_mem_append.mpr ⟨(List.forall_mem_append.mpr ⟨(List.forall_mem_append.mpr ⟨gm_L_change_r1, (List.forall_mem_append.mpr ⟨gm_L_change_r2, (List.forall_mem_append.mpr ⟨gm_L_change_r3, (List.forall_mem_append.mpr ⟨gm_L_change_r4, (List.forall_mem_append.mpr ⟨gm_L_change_r5, (List.forall_mem_append.mpr ⟨gm_L_change_r6, (List.forall_mem_append.mpr ⟨gm_L_change_r7, (List.forall_mem_append.mpr ⟨gm_L_change_r8, (List.forall_mem_append.mpr ⟨gm_L_change_r9, (List.forall_mem_append.mpr ⟨gm_L_change_r10, (List.forall_mem_append.mpr ⟨gm_L_change_r11, (List.forall_mem_append.mpr ⟨gm_L_change_r12, gm_L_change_r13⟩)⟩)⟩)⟩)⟩)⟩)⟩)⟩)⟩)⟩)⟩)⟩), inlX4⟩), inlX3⟩), inlX2⟩), inlX0⟩), inlX1⟩)⟩
set_option maxRecDepth 20000 in
theorem ggL_law_L_change : GoodIn wsL_law wsL_change := goodIn_sub gm_L_change (by decide +kernel)
set_option maxRecDepth 20000 in
theorem gm_L_tries_r1 : ∀ w ∈ wsL_tries_r1, w ∈ wsL_law := List.forall_mem_cons.mpr ⟨List.mem_of_getElem? (i := 64) rfl, List.forall_mem_cons.mpr ⟨List.mem_of_getElem? (i := 65) rfl, List.forall_mem_cons.mpr ⟨List.mem_of_getElem? (i := 66) rfl, List.forall_mem_cons.mpr ⟨List.mem_of_getElem? (i := 2) rfl, List.forall_mem_cons.mpr ⟨List.mem_of_getElem? (i := 67) rfl, List.forall_mem_cons.mpr ⟨List.mem_of_getElem? (i := 13) rfl, List.forall_mem_cons.mpr ⟨List.mem_of_getElem? (i := 68) rfl, List.forall_mem_cons.mpr ⟨List.mem_of_getElem? (i := 69) rfl, List.forall_mem_cons.mpr ⟨List.mem_of_getElem? (i := 70) rfl, List.forall_mem_cons.mpr ⟨List.mem_of_getElem? (i := 71) rfl, List.forall_mem_cons.mpr ⟨List.mem_of_getElem? (i := 72) rfl, List.forall_mem_cons.mpr ⟨List.mem_of_getElem? (i := 17) rfl, List.forall_mem_cons.mpr ⟨List.mem_of_getElem? (i := 73) rfl, List.forall_mem_cons.mpr ⟨List.mem_of_getElem? (i := 20) rfl, List.forall_mem_cons.mpr ⟨List.mem_of_getElem? (i := 74) rfl, List.forall_mem_cons.mpr ⟨List.mem_of_getElem? (i := 75) rfl, List.forall_mem_cons.mpr ⟨List.mem_of_getElem? (i := 76) rfl, List.forall_mem_cons.mpr ⟨List.mem_of_getElem? (i := 23) rfl, List.forall_mem_cons.mpr ⟨List.mem_of_getElem? (i := 77) rfl, List.forall_mem_cons.mpr ⟨List.mem_of_getElem? (i := 43) rfl, List.forall_mem_cons.mpr ⟨List.mem_of_getElem? (i := 38) rfl, List.forall_mem_cons.mpr ⟨List.mem_of_getElem? (i := 78) rfl, List.forall_mem_cons.mpr ⟨List.mem_of_getElem? (i := 79) rfl, List.forall_mem_cons.mpr ⟨List.mem_of_getElem? (i := 80) rfl, (fun w h => absurd h List.not_mem_nil)⟩⟩⟩⟩⟩⟩⟩⟩⟩⟩⟩⟩⟩⟩⟩⟩⟩⟩⟩⟩⟩⟩⟩⟩
set_option maxRecDepth 20000 in
theorem gm_L_tries_r2 : ∀ w ∈ wsL_tries_r2, w ∈ wsL_law := List.forall_mem_cons.mpr ⟨List.mem_of_getElem? (i := 81) rfl, List.forall_mem_cons.mpr ⟨List.mem_of_getElem? (i := 82) rfl, List.forall_mem_cons.mpr ⟨List.mem_of_getElem? (i := 83) rfl, List.forall_mem_cons.mpr ⟨List.mem_of_getElem? (i := 84) rfl, List.forall_mem_cons.mpr ⟨List.mem_of_getElem? (i := 85) rfl, List.forall_mem_cons.mpr ⟨List.mem_of_getElem? (i := 86) rfl, List.forall_mem_cons.mpr ⟨List.mem_of_getElem? (i := 87) rfl, List.forall_mem_cons.mpr ⟨List.mem_of_getElem? (i := 88) rfl, List.forall_mem_cons.mpr ⟨List.mem_of_getElem? (i := 89) rfl, List.forall_mem_cons.mpr ⟨List.mem_of_getElem? (i := 42) rfl, List.forall_mem_cons.mpr ⟨List.mem_of_getElem? (i := 90) rfl, List.forall_mem_cons.mpr ⟨List.mem_of_getElem? (i := 91) rfl, List.forall_mem_cons.mpr ⟨List.mem_of_getElem? (i := 92) rfl, List.forall_mem_cons.mpr ⟨List.mem_of_getElem? (i := 93) rfl, List.forall_mem_cons.mpr ⟨List.mem_of_getElem? (i := 94) rfl, List.forall_mem_cons.mpr ⟨List.mem_of_getElem? (i := 95) rfl, List.forall_mem_cons.mpr ⟨List.mem_of_getElem? (i := 96) rfl, List.forall_mem_cons.mpr ⟨List.mem_of_getElem? (i := 97) rfl, List.forall_mem_cons.mpr ⟨List.mem_of_getElem? (i := 98) rfl, List.forall_mem_cons.mpr ⟨List.mem_of_getElem? (i := 99) rfl, List.forall_mem_cons.mpr ⟨List.mem_of_getElem? (i := 100) rfl, List.forall_mem_cons.mpr ⟨List.mem_of_getElem? (i := 41) rfl, List.forall_mem_cons.mpr ⟨List.mem_of_getElem? (i := 101) rfl, List.forall_mem_cons.mpr ⟨List.mem_of_getElem? (i := 102) rfl, (fun w h => absurd h List.not_mem_nil)⟩⟩⟩⟩⟩⟩⟩⟩⟩⟩⟩⟩⟩⟩⟩⟩⟩⟩⟩⟩⟩⟩⟩⟩
set_option maxRecDepth 20000 in
theorem gm_L_tries_r3 : ∀ w ∈ wsL_tries_r3, w ∈ wsL_law := List.forall_mem_cons.mpr ⟨List.mem_of_getElem? (i := 103) rfl, List.forall_mem_cons.mpr ⟨List.mem_of_getElem? (i := 104) rfl, List.forall_mem_cons.mpr ⟨List.mem_of_getElem? (i := 105) rfl, List.forall_mem_cons.mpr ⟨List.mem_of_getElem? (i := 106) rfl, List.forall_mem_cons.mpr ⟨List.mem_of_getElem? (i := 107) rfl, List.forall_mem_cons.mpr ⟨List.mem_of_getElem? (i := 108) rfl, List.forall_mem_cons.mpr ⟨List.mem_of_getElem? (i := 37) rfl, List.forall_mem_cons.mpr ⟨List.mem_of_getElem? (i := 109) rfl, List.forall_mem_cons.mpr ⟨List.mem_of_getElem? (i := 110) rfl, List.forall_mem_cons.mpr ⟨List.mem_of_getElem? (i := 111) rfl, List.forall_mem_cons.mpr ⟨List.mem_of_getElem? (i := 112) rfl, List.forall_mem_cons.mpr ⟨List.mem_of_getElem? (i := 113) rfl, List.forall_mem_cons.mpr ⟨List.mem_of_getElem? (i := 114) rfl, List.forall_mem_cons.mpr ⟨List.mem_of_getElem? (i := 115) rfl, List.forall_mem_cons.mpr ⟨List.mem_of_getElem? (i := 116) rfl, List.forall_mem_cons.mpr ⟨List.mem_of_getElem? (i := 24) rfl, List.forall_mem_cons.mpr ⟨List.mem_of_getElem? (i := 117) rfl, List.forall_mem_cons.mpr ⟨List.mem_of_getElem? (i := 118) rfl, List.forall_mem_cons.mpr ⟨List.mem_of_getElem? (i := 119) rfl, List.forall_mem_cons.mpr ⟨List.mem_of_getElem? (i := 120) rfl, List.forall_mem_cons.mpr ⟨List.mem_of_getElem? (i := 39) rfl, List.forall_mem_cons.mpr ⟨List.mem_of_getElem? (i := 40) rfl, List.forall_mem_cons.mpr ⟨List.mem_of_getElem? (i := 121) rfl, List.forall_mem_cons.mpr ⟨List.mem_of_getElem? (i := 122) rfl, (fun w h => absurd h List.not_mem_nil)⟩⟩⟩⟩⟩⟩⟩⟩⟩⟩⟩⟩⟩⟩⟩⟩⟩⟩⟩⟩⟩⟩⟩⟩
set_option maxRecDepth 20000 in
theorem gm_L_tries_r4 : ∀ w ∈ wsL_tries_r4, w ∈ wsL_law := List.forall_mem_cons.mpr ⟨List.mem_of_getElem? (i := 123) rfl, List.forall_mem_cons.mpr ⟨List.mem_of_getElem? (i := 124) rfl, List.forall_mem_cons.mpr ⟨List.mem_of_getElem? (i := 125) rfl, List.forall_mem_cons.mpr ⟨List.mem_of_getElem? (i := 126) rfl, List.forall_mem_cons.mpr ⟨List.mem_of_getElem? (i := 127) rfl, List.forall_mem_cons.mpr ⟨List.mem_of_getElem? (i := 128) rfl, List.forall_mem_cons.mpr ⟨List.mem_of_getElem? (i := 129) rfl, List.forall_mem_cons.mpr ⟨List.mem_of_getElem? (i := 130) rfl, List.forall_mem_cons.mpr ⟨List.mem_of_getElem? (i := 131) rfl, List.forall_mem_cons.mpr ⟨List.mem_of_getElem? (i := 132) rfl, List.forall_mem_cons.mpr ⟨List.mem_of_getElem? (i := 133) rfl, List.forall_mem_cons.mpr ⟨List.mem_of_getElem? (i := 134) rfl, List.forall_mem_cons.mpr ⟨List.mem_of_getElem? (i := 135) rfl, List.forall_mem_cons.mpr ⟨List.mem_of_getElem? (i := 136) rfl, List.forall_mem_cons.mpr ⟨List.mem_of_getElem? (i := 137) rfl, List.forall_mem_cons.mpr ⟨List.mem_of_getElem? (i := 138) rfl, List.forall_mem_cons.mpr ⟨List.mem_of_getElem? (i := 139) rfl, List.forall_mem_cons.mpr ⟨List.mem_of_getElem? (i := 140) rfl, List.forall_mem_cons.mpr ⟨List.mem_of_getElem? (i := 141) rfl, List.forall_mem_cons.mpr ⟨List.mem_of_getElem? (i := 142) rfl, List.forall_mem_cons.mpr ⟨List.mem_of_getElem? (i := 143) rfl, List.forall_mem_cons.mpr ⟨List.mem_of_getElem? (i := 144) rfl, List.forall_mem_cons.mpr ⟨List.mem_of_getElem? (i := 145) rfl, List.forall_mem_cons.mpr ⟨List.mem_of_getElem? (i := 146) rfl, (fun w h => absurd h List.not_mem_nil)⟩⟩⟩⟩⟩⟩⟩⟩⟩⟩⟩⟩⟩⟩⟩⟩⟩⟩⟩⟩⟩⟩⟩⟩
set_option maxRecDepth 20000 in
theorem gm_L_tries_r5 : ∀ w ∈ wsL_tries_r5, w ∈ wsL_law := List.forall_mem_cons.mpr ⟨List.mem_of_getElem? (i := 147) rfl, List.forall_mem_cons.mpr ⟨List.mem_of_getElem? (i := 148) rfl, List.forall_mem_cons.mpr ⟨List.mem_of_getElem? (i := 149) rfl, List.forall_mem_cons.mpr ⟨List.mem_of_getElem? (i := 150) rfl, List.forall_mem_cons.mpr ⟨List.mem_of_getElem? (i := 151) rfl, List.forall_mem_cons.mpr ⟨List.mem_of_getElem? (i := 152) rfl, List.forall_mem_cons.mpr ⟨List.mem_of_getElem? (i := 153) rfl, List.forall_mem_cons.mpr ⟨List.mem_of_getElem? (i := 154) rfl, List.forall_mem_cons.mpr ⟨List.mem_of_getElem? (i := 155) rfl, List.forall_mem_cons.mpr ⟨List.mem_of_getElem? (i := 156) rfl, List.forall_mem_cons.mpr ⟨List.mem_of_getElem? (i := 157) rfl, List.forall_mem_cons.mpr ⟨List.mem_of_getElem? (i := 158) rfl, List.forall_mem_cons.mpr ⟨List.mem_of_getElem? (i := 32) rfl, List.forall_mem_cons.mpr ⟨List.mem_of_getElem? (i := 159) rfl, List.forall_mem_cons.mpr ⟨List.mem_of_getElem? (i := 51) rfl, List.forall_mem_cons.mpr ⟨List.mem_of_getElem? (i := 160) rfl, List.forall_mem_cons.mpr ⟨List.mem_of_getElem? (i := 161) rfl, List.forall_mem_cons.mpr ⟨List.mem_of_getElem? (i := 213) rfl, List.forall_mem_cons.mpr ⟨List.mem_of_getElem? (i := 214) rfl, List.forall_mem_cons.mpr ⟨List.mem_of_getElem? (i := 62) rfl, List.forall_mem_cons.mpr ⟨List.mem_of_getElem? (i := 215) rfl, List.forall_mem_cons.mpr ⟨List.mem_of_getElem? (i := 216) rfl, List.forall_mem_cons.mpr ⟨List.mem_of_getElem? (i := 230) rfl, List.forall_mem_cons.mpr ⟨List.mem_of_getElem? (i := 231) rfl, (fun w h => absurd h List.not_mem_nil)⟩⟩⟩⟩⟩⟩⟩⟩⟩⟩⟩⟩⟩⟩⟩⟩⟩⟩⟩⟩⟩⟩⟩⟩
set_option maxRecDepth 20000 in
theorem gm_L_tries_r6 : ∀ w ∈ wsL_tries_r6, w ∈ wsL_law := List.forall_mem_cons.mpr ⟨List.mem_of_getElem? (i := 232) rfl, List.forall_mem_cons.mpr ⟨List.mem_of_getElem? (i := 233) rfl, List.forall_mem_cons.mpr ⟨List.mem_of_getElem? (i := 172) rfl, List.forall_mem_cons.mpr ⟨List.mem_of_getElem? (i := 162) rfl, List.forall_mem_cons.mpr ⟨List.mem_of_getElem? (i := 163) rfl, List.forall_mem_cons.mpr ⟨List.mem_of_getElem? (i := 164) rfl, List.forall_mem_cons.mpr ⟨List.mem_of_getElem? (i := 165) rfl, List.forall_mem_cons.mpr ⟨List.mem_of_getElem? (i := 166) rfl, List.forall_mem_cons.mpr ⟨List.mem_of_getElem? (i := 167) rfl, List.forall_mem_cons.mpr ⟨List.mem_of_getElem? (i := 168) rfl, List.forall_mem_cons.mpr ⟨List.mem_of_getElem? (i := 169) rfl, List.forall_mem_cons.mpr ⟨List.mem_of_getElem? (i := 170) rfl, List.forall_mem_cons.mpr ⟨List.mem_of_getElem? (i := 171) rfl, List.forall_mem_cons.mpr ⟨List.mem_of_getElem? (i := 173) rfl, List.forall_mem_cons.mpr ⟨List.mem_of_getElem? (i := 174) rfl, List.forall_mem_cons.mpr ⟨List.mem_of_getElem? (i := 300) rfl, List.forall_mem_cons.mpr ⟨List.mem_of_getElem? (i := 301) rfl, List.forall_mem_cons.mpr ⟨List.mem_of_getElem? (i := 302) rfl, List.forall_mem_cons.mpr ⟨List.mem_of_getElem? (i := 303) rfl, List.forall_mem_cons.mpr ⟨List.mem_of_getElem? (i := 284) rfl, List.forall_mem_cons.mpr ⟨List.mem_of_getElem? (i := 285) rfl, List.forall_mem_cons.mpr ⟨List.mem_of_getElem? (i := 286) rfl, List.forall_mem_cons.mpr ⟨List.mem_of_getElem? (i := 287) rfl, List.forall_mem_cons.mpr ⟨List.mem_of_getElem? (i := 19) rfl, (fun w h => absurd h List.not_mem_nil)⟩⟩⟩⟩⟩⟩⟩⟩⟩⟩⟩⟩⟩⟩⟩⟩⟩⟩⟩⟩⟩⟩⟩⟩
set_option maxRecDepth 20000 in
theorem gm_L_tries_r7 : ∀ w ∈ wsL_tries_r7, w ∈ wsL_law := List.forall_mem_cons.mpr ⟨List.mem_of_getElem? (i := 288) rfl, List.forall_mem_cons.mpr ⟨List.mem_of_getElem? (i := 289) rfl, List.forall_mem_cons.mpr ⟨List.mem_of_getElem? (i := 290) rfl, List.forall_mem_cons.mpr ⟨List.mem_of_getElem? (i := 291) rfl, List.forall_mem_cons.mpr ⟨List.mem_of_getElem? (i := 292) rfl, List.forall_mem_cons.mpr ⟨List.mem_of_getElem? (i := 293) rfl, List.forall_mem_cons.mpr ⟨List.mem_of_getElem? (i := 294) rfl, List.forall_mem_cons.mpr ⟨List.mem_of_getElem? (i := 295) rfl, List.forall_mem_cons.mpr ⟨List.mem_of_getElem? (i := 10) rfl, List.forall_mem_cons.mpr ⟨List.mem_of_getElem? (i := 11) rfl, List.forall_mem_cons.mpr ⟨List.mem_of_getElem? (i := 12) rfl, List.forall_mem_cons.mpr ⟨List.mem_of_getElem? (i := 25) rfl, List.forall_mem_cons.mpr ⟨List.mem_of_getElem? (i := 26) rfl, List.forall_mem_cons.mpr ⟨List.mem_of_getElem? (i := 27) rfl, List.forall_mem_cons.mpr ⟨List.mem_of_getElem? (i := 8) rfl, List.forall_mem_cons.mpr ⟨List.mem_of_getElem? (i := 9) rfl, List.forall_mem_cons.mpr ⟨List.mem_of_getElem? (i := 28) rfl, List.forall_mem_cons.mpr ⟨List.mem_of_getElem? (i := 22) rfl, List.forall_mem_cons.mpr ⟨List.mem_of_getElem? (i := 29) rfl, List.forall_mem_cons.mpr ⟨List.mem_of_getElem? (i := 30) rfl, List.forall_mem_cons.mpr ⟨List.mem_of_getElem? (i := 31) rfl, List.forall_mem_cons.mpr ⟨List.mem_of_getElem? (i := 33) rfl, List.forall_mem_cons.mpr ⟨List.mem_of_getElem? (i := 34) rfl, List.forall_mem_cons.mpr ⟨List.mem_of_getElem? (i := 35) rfl, (fun w h => absurd h List.not_mem_nil)⟩⟩⟩⟩⟩⟩⟩⟩⟩⟩⟩⟩⟩⟩⟩⟩⟩⟩⟩⟩⟩⟩⟩⟩
set_option maxRecDepth 20000 in
theorem gm_L_tries_r8 : ∀ w ∈ wsL_tries_r8, w ∈ wsL_law := List.forall_mem_cons.mpr ⟨List.mem_of_getElem? (i := 36) rfl, List.forall_mem_cons.mpr ⟨List.mem_of_getElem? (i := 3) rfl, List.forall_mem_cons.mpr ⟨List.mem_of_getElem? (i := 44) rfl, List.forall_mem_cons.mpr ⟨List.mem_of_getElem? (i := 45) rfl, List.forall_mem_cons.mpr ⟨List.mem_of_getElem? (i := 46) rfl, List.forall_mem_cons.mpr ⟨List.mem_of_getElem? (i := 47) rfl, List.forall_mem_cons.mpr ⟨List.mem_of_getElem? (i := 48) rfl, List.forall_mem_cons.mpr ⟨List.mem_of_getElem? (i := 49) rfl, List.forall_mem_cons.mpr ⟨List.mem_of_getElem? (i := 50) rfl, List.forall_mem_cons.mpr ⟨List.mem_of_getElem? (i := 52) rfl, List.forall_mem_cons.mpr ⟨List.mem_of_getElem? (i := 53) rfl, List.forall_mem_cons.mpr ⟨List.mem_of_getElem? (i := 258) rfl, List.forall_mem_cons.mpr ⟨List.mem_of_getElem? (i := 259) rfl, List.forall_mem_cons.mpr ⟨List.mem_of_getElem? (i := 260) rfl, List.forall_mem_cons.mpr ⟨List.mem_of_getElem? (i := 261) rfl, List.forall_mem_cons.mpr ⟨List.mem_of_getElem? (i := 262) rfl, List.forall_mem_cons.mpr ⟨List.mem_of_getElem? (i := 263) rfl, List.forall_mem_cons.mpr ⟨List.mem_of_getElem? (i := 264) rfl, List.forall_mem_cons.mpr ⟨List.mem_of_getElem? (i := 265) rfl, List.forall_mem_cons.mpr ⟨List.mem_of_getElem? (i := 266) rfl, List.forall_mem_cons.mpr ⟨List.mem_of_getElem? (i := 254) rfl, List.forall_mem_cons.mpr ⟨List.mem_of_getElem? (i := 255) rfl, List.forall_mem_cons.mpr ⟨List.mem_of_getElem? (i := 256) rfl, List.forall_mem_cons.mpr ⟨List.mem_of_getElem? (i := 257) rfl, (fun w h => absurd h List.not_mem_nil)⟩⟩⟩⟩⟩⟩⟩⟩⟩⟩⟩⟩⟩⟩⟩⟩⟩⟩⟩⟩⟩⟩⟩⟩
set_option maxRecDepth 20000 in
theorem gm_L_tries_r9 : ∀ w ∈ wsL_tries_r9, w ∈ wsL_law := List.forall_mem_cons.mpr ⟨List.mem_of_getElem? (i := 182) rfl, List.forall_mem_cons.mpr ⟨List.mem_of_getElem? (i := 359) rfl, List.forall_mem_cons.mpr ⟨List.mem_of_getElem? (i := 360) rfl, List.forall_mem_cons.mpr ⟨List.mem_of_getElem? (i := 361) rfl, List.forall_mem_cons.mpr ⟨List.mem_of_getElem? (i := 362) rfl, List.forall_mem_cons.mpr ⟨List.mem_of_getElem? (i := 363) rfl, List.forall_mem_cons.mpr ⟨List.mem_of_getElem? (i := 364) rfl, List.forall_mem_cons.mpr ⟨List.mem_of_getElem? (i := 365) rfl, List.forall_mem_cons.mpr ⟨List.mem_of_getElem? (i := 366) rfl, List.forall_mem_cons.mpr ⟨List.mem_of_getElem? (i := 281) rfl, List.forall_mem_cons.mpr ⟨List.mem_of_getElem? (i := 282) rfl, List.forall_mem_cons.mpr ⟨List.mem_of_getElem? (i := 283) rfl, List.forall_mem_cons.mpr ⟨List.mem_of_getElem? (i := 367) rfl, List.forall_mem_cons.mpr ⟨List.mem_of_getElem? (i := 368) rfl, List.forall_mem_cons.mpr ⟨List.mem_of_getElem? (i := 369) rfl, List.forall_mem_cons.mpr ⟨List.mem_of_getElem? (i := 370) rfl, List.forall_mem_cons.mpr ⟨List.mem_of_getElem? (i := 296) rfl, List.forall_mem_cons.mpr ⟨List.mem_of_getElem? (i := 297) rfl, List.forall_mem_cons.mpr ⟨List.mem_of_getElem? (i := 298) rfl, List.forall_mem_cons.mpr ⟨List.mem_of_getElem? (i := 299) rfl, List.forall_mem_cons.mpr ⟨List.mem_of_getElem? (i := 190) rfl, List.forall_mem_cons.mpr ⟨List.mem_of_getElem? (i := 191) rfl, List.forall_mem_cons.mpr ⟨List.mem_of_getElem? (i := 274) rfl, List.forall_mem_cons.mpr ⟨List.mem_of_getElem? (i := 275) rfl, (fun w h => absurd h List.not_mem_nil)⟩⟩⟩⟩⟩⟩⟩⟩⟩⟩⟩⟩⟩⟩⟩⟩⟩⟩⟩⟩⟩⟩⟩⟩
set_option maxRecDepth 20000 in
theorem gm_L_tries_r10 : ∀ w ∈ wsL_tries_r10, w ∈ wsL_law := List.forall_mem_cons.mpr ⟨List.mem_of_getElem? (i := 276) rfl, List.forall_mem_cons.mpr ⟨List.mem_of_getElem? (i := 277) rfl, List.forall_mem_cons.mpr ⟨List.mem_of_getElem? (i := 278) rfl, List.forall_mem_cons.mpr ⟨List.mem_of_getElem? (i := 279) rfl, List.forall_mem_cons.mpr ⟨List.mem_of_getElem? (i := 280) rfl, (fun w h => absurd h List.not_mem_nil)⟩⟩⟩⟩⟩
set_option maxRecDepth 20000 in
theorem gm_L_tries : ∀ w ∈ wsL_tries, w ∈ wsL_law := List.forall_mem_cons.mpr ⟨List.mem_of_getElem? (i := 358) rfl, (List.forall_mem_append.mpr ⟨(List.forall_mem_append.mpr ⟨(List.forall_mem_append.mpr ⟨(List.forall_mem_append.mpr ⟨(List.forall_mem_append.mpr ⟨(List.forall_mem_append.mpr ⟨gm_L_tries_r1, (List.forall_mem_append.mpr ⟨gm_L_tries_r2, (List.forall_mem_append.mpr ⟨gm_L_tries_r3, (List.forall_mem_append.mpr ⟨gm_L_tries_r4, (List.forall_mem_append.mpr ⟨gm_L_tries_r5, (List.forall_mem_append.mpr ⟨gm_L_tries_r6, (List.forall_mem_append.mpr ⟨gm_L_tries_r7, (List.forall_mem_append.mpr ⟨gm_L_tries_r8, (List.forall_mem_append.mpr ⟨gm_L_tries_r9, gm_L_tries_r10⟩)⟩)⟩)⟩)⟩)⟩)⟩)⟩)⟩), inlX4⟩), inlX3⟩), inlX2⟩), inlX0⟩), inlX1⟩)⟩
set_option maxRecDepth 20000 in
theorem ggL_law_L_tries : GoodIn wsL_law wsL_tries := goodIn_sub gm_L_tries (by decide +kernel)
set_option maxRecDepth 20000 in
theorem gL_law_L_holds : GoodIn wsL_law (va_wsS RL 95 yL_holds wsL_holds) := goodIn_app (goodIn_of _ (by decide +kernel)) ggL_law_L_holds
set_option maxRecDepth 20000 in
theorem gL_law_L_change : GoodIn wsL_law (va_wsS RL 103 yL_change wsL_change) := goodIn_app (goodIn_of _ (by decide +kernel)) ggL_law_L_change
set_option maxRecDepth 20000 in
theorem gL_law_L_tries : GoodIn wsL_law (va_wsS RL 107 yL_tries wsL_tries) := goodIn_app (goodIn_of _ (by decide +kernel)) ggL_law_L_tries
end
section
set_option maxRecDepth 20000 in
theorem lin_wsL_law_r1 : ∀ w ∈ wsL_law_r1, w ∈ lw_tbl := by decide +kernel
set_option maxRecDepth 20000 in
theorem lin_wsL_law_r2 : ∀ w ∈ wsL_law_r2, w ∈ lw_tbl := by decide +kernel
set_option maxRecDepth 20000 in
theorem lin_wsL_law_r3 : ∀ w ∈ wsL_law_r3, w ∈ lw_tbl := List.forall_mem_cons.mpr ⟨by decide +kernel, List.forall_mem_cons.mpr ⟨by decide +kernel, List.forall_mem_cons.mpr ⟨by decide +kernel, List.forall_mem_cons.mpr ⟨by decide +kernel, List.forall_mem_cons.mpr ⟨by decide +kernel, List.forall_mem_cons.mpr ⟨by decide +kernel, List.forall_mem_cons.mpr ⟨by decide +kernel, List.forall_mem_cons.mpr ⟨by decide +kernel, List.forall_mem_cons.mpr ⟨by decide +kernel, List.forall_mem_cons.mpr ⟨by decide +kernel, List.forall_mem_cons.mpr ⟨by decide +kernel, List.forall_mem_cons.mpr ⟨by decide +kernel, List.forall_mem_cons.mpr ⟨by decide +kernel, List.forall_mem_cons.mpr ⟨by decide +kernel, List.forall_mem_cons.mpr ⟨by decide +kernel, List.forall_mem_cons.mpr ⟨List.mem_append_right _ (List.mem_append_right _ (List.mem_of_getElem? (i := 146) rfl)), List.forall_mem_cons.mpr ⟨by decide +kernel, List.forall_mem_cons.mpr ⟨by decide +kernel, List.forall_mem_cons.mpr ⟨by decide +kernel, List.forall_mem_cons.mpr ⟨by decide +kernel, List.forall_mem_cons.mpr ⟨by decide +kernel, List.forall_mem_cons.mpr ⟨by decide +kernel, List.forall_mem_cons.mpr ⟨by decide +kernel, List.forall_mem_cons.mpr ⟨by decide +kernel, (fun w h => absurd h List.not_mem_nil)⟩⟩⟩⟩⟩⟩⟩⟩⟩⟩⟩⟩⟩⟩⟩⟩⟩⟩⟩⟩⟩⟩⟩⟩
set_option maxRecDepth 20000 in
theorem lin_wsL_law_r4 : ∀ w ∈ wsL_law_r4, w ∈ lw_tbl := by decide +kernel
set_option maxRecDepth 20000 in
theorem lin_wsL_law_r5 : ∀ w ∈ wsL_law_r5, w ∈ lw_tbl := by decide +kernel
set_option maxRecDepth 20000 in
theorem lin_wsL_law_r6 : ∀ w ∈ wsL_law_r6, w ∈ lw_tbl := by decide +kernel
set_option maxRecDepth 20000 in
theorem lin_wsL_law_r7 : ∀ w ∈ wsL_law_r7, w ∈ lw_tbl := by decide +kernel
set_option maxRecDepth 20000 in
theorem lin_wsL_law_r8 : ∀ w ∈ wsL_law_r8, w ∈ lw_tbl := by decide +kernel
set_option maxRecDepth 20000 in
theorem lin_wsL_law_r9 : ∀ w ∈ wsL_law_r9, w ∈ lw_tbl := by decide +kernel
set_option maxRecDepth 20000 in
theorem lin_wsL_law_r10 : ∀ w ∈ wsL_law_r10, w ∈ lw_tbl := by decide +kernel
set_option maxRecDepth 20000 in
theorem lin_wsL_law_r11 : ∀ w ∈ wsL_law_r11, w ∈ lw_tbl := by decide +kernel
set_option maxRecDepth 20000 in
theorem lin_wsL_law_r12 : ∀ w ∈ wsL_law_r12, w ∈ lw_tbl := List.forall_mem_cons.mpr ⟨by decide +kernel, List.forall_mem_cons.mpr ⟨by decide +kernel, List.forall_mem_cons.mpr ⟨by decide +kernel, List.forall_mem_cons.mpr ⟨by decide +kernel, List.forall_mem_cons.mpr ⟨by decide +kernel, List.forall_mem_cons.mpr ⟨by decide +kernel, List.forall_mem_cons.mpr ⟨by decide +kernel, List.forall_mem_cons.mpr ⟨by decide +kernel, List.forall_mem_cons.mpr ⟨by decide +kernel, List.forall_mem_cons.mpr ⟨List.mem_append_right _ (List.mem_append_left _ (List.mem_of_getElem? (i := 178) rfl)), List.forall_mem_cons.mpr ⟨by decide +kernel, List.forall_mem_cons.mpr ⟨by decide +kernel, List.forall_mem_cons.mpr ⟨by decide +kernel, List.forall_mem_cons.mpr ⟨by decide +kernel, List.forall_mem_cons.mpr ⟨by decide +kernel, List.forall_mem_cons.mpr ⟨by decide +kernel, List.forall_mem_cons.mpr ⟨by decide +kernel, List.forall_mem_cons.mpr ⟨by decide +kernel, List.forall_mem_cons.mpr ⟨by decide +kernel, List.forall_mem_cons.mpr ⟨by decide +kernel, List.forall_mem_cons.mpr ⟨by decide +kernel, List.forall_mem_cons.mpr ⟨by decide +kernel, List.forall_mem_cons.mpr ⟨by decide +kernel, List.forall_mem_cons.mpr ⟨by decide +kernel, (fun w h => absurd h List.not_mem_nil)⟩⟩⟩⟩⟩⟩⟩⟩⟩⟩⟩⟩⟩⟩⟩⟩⟩⟩⟩⟩⟩⟩⟩⟩
set_option maxRecDepth 20000 in
theorem lin_wsL_law_r13 : ∀ w ∈ wsL_law_r13, w ∈ lw_tbl := by decide +kernel
set_option maxRecDepth 20000 in
theorem lin_wsL_law_r14 : ∀ w ∈ wsL_law_r14, w ∈ lw_tbl := by decide +kernel
set_option maxRecDepth 20000 in
theorem lin_wsL_law_r15 : ∀ w ∈ wsL_law_r15, w ∈ lw_tbl := by decide +kernel
set_option maxRecDepth 20000 in
theorem lin_wsL_law_r16 : ∀ w ∈ wsL_law_r16, w ∈ lw_tbl := by decide +kernel
set_option maxRecDepth 20000 in
theorem lin_wsX40 : ∀ w ∈ wsX40, w ∈ lw_tbl := by decide +kernel
set_option maxRecDepth 20000 in
theorem lin_wsX30 : ∀ w ∈ wsX30, w ∈ lw_tbl := by decide +kernel
set_option maxRecDepth 20000 in
theorem lin_wsX10 : ∀ w ∈ wsX10, w ∈ lw_tbl := by decide +kernel
set_option maxRecDepth 20000 in
theorem lin_wsX20 : ∀ w ∈ wsX20, w ∈ lw_tbl := by decide +kernel
set_option maxRecDepth 20000 in
theorem lin_wsX00 : ∀ w ∈ wsX00, w ∈ lw_tbl := by decide +kernel
theorem wsL_law_in : ∀ w ∈ wsL_law, w ∈ lw_tbl := (List.forall_mem_append.mpr ⟨(List.forall_mem_append.mpr ⟨(List.forall_mem_append.mpr ⟨(List.forall_mem_append.mpr ⟨(List.forall_mem_append.mpr ⟨(List.forall_mem_append.mpr ⟨(List.forall_mem_append.mpr ⟨lin_wsL_law_r1, (List.forall_mem_append.mpr ⟨lin_wsL_law_r2, (List.forall_mem_append.mpr ⟨lin_wsL_law_r3, (List.forall_mem_append.mpr ⟨lin_wsL_law_r4, (List.forall_mem_append.mpr ⟨lin_wsL_law_r5, (List.forall_mem_append.mpr ⟨lin_wsL_law_r6, (List.forall_mem_append.mpr ⟨lin_wsL_law_r7, (List.forall_mem_append.mpr ⟨lin_wsL_law_r8, (List.forall_mem_append.mpr ⟨lin_wsL_law_r9, (List.forall_mem_append.mpr ⟨lin_wsL_law_r10, (List.forall_mem_append.mpr ⟨lin_wsL_law_r11, (List.forall_mem_append.mpr ⟨lin_wsL_law_r12, (List.forall_mem_append.mpr ⟨lin_wsL_law_r13, (List.forall_mem_append.mpr ⟨lin_wsL_law_r14, (List.forall_mem_append.mpr ⟨lin_wsL_law_r15, lin_wsL_law_r16⟩)⟩)⟩)⟩)⟩)⟩)⟩)⟩)⟩)⟩)⟩)⟩)⟩)⟩)⟩), lin_wsX40⟩), lin_wsX30⟩), lin_wsX10⟩), lin_wsX20⟩), lin_wsX00⟩), (fun w h => absurd h List.not_mem_nil)⟩)
end
