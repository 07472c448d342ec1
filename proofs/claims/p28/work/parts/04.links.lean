/-! The field words of each method among its words. -/
theorem kX0_append_27 : Cond.fieldLink RX0 27 "LayeredCharters$Guild" "size" "I" ∈ wsX0_append := List.mem_of_getElem? (i := 1) rfl
theorem kX0_append_9 : Cond.fieldLink RX0 9 "LayeredCharters$Guild" "crafts" "[I" ∈ wsX0_append := List.mem_of_getElem? (i := 2) rfl
theorem kX0_append_15 : Cond.fieldLink RX0 15 "LayeredCharters$Guild" "ranks" "[I" ∈ wsX0_append := List.mem_of_getElem? (i := 3) rfl
theorem kX0_append_18 : Cond.fieldLink RX0 18 "LayeredCharters$Guild" "done" "[I" ∈ wsX0_append := List.mem_of_getElem? (i := 4) rfl
theorem kX0_append_21 : Cond.fieldLink RX0 21 "LayeredCharters$Guild" "refused" "[I" ∈ wsX0_append := List.mem_of_getElem? (i := 5) rfl
set_option maxRecDepth 20000 in
theorem iX0_append_X0 : ∀ w ∈ wsX00, w ∈ wsX0_append := by decide +kernel
theorem kX0_copyFrom_9 : Cond.fieldLink RX0 9 "LayeredCharters$Guild" "crafts" "[I" ∈ wsX0_copyFrom := List.mem_of_getElem? (i := 1) rfl
theorem kX0_copyFrom_15 : Cond.fieldLink RX0 15 "LayeredCharters$Guild" "ranks" "[I" ∈ wsX0_copyFrom := List.mem_of_getElem? (i := 2) rfl
theorem kX0_copyFrom_18 : Cond.fieldLink RX0 18 "LayeredCharters$Guild" "done" "[I" ∈ wsX0_copyFrom := List.mem_of_getElem? (i := 3) rfl
theorem kX0_copyFrom_21 : Cond.fieldLink RX0 21 "LayeredCharters$Guild" "refused" "[I" ∈ wsX0_copyFrom := List.mem_of_getElem? (i := 4) rfl
theorem kX0_copyFrom_24 : Cond.fieldLink RX0 24 "LayeredCharters$Guild" "refusals" "[I" ∈ wsX0_copyFrom := List.mem_of_getElem? (i := 5) rfl
theorem kX0_copyFrom_27 : Cond.fieldLink RX0 27 "LayeredCharters$Guild" "size" "I" ∈ wsX0_copyFrom := List.mem_of_getElem? (i := 6) rfl
theorem kX0_copyFrom_31 : Cond.fieldLink RX0 31 "LayeredCharters$Guild" "doneInAll" "I" ∈ wsX0_copyFrom := List.mem_of_getElem? (i := 7) rfl
set_option maxRecDepth 20000 in
theorem iX0_copyFrom_X0 : ∀ w ∈ wsX00, w ∈ wsX0_copyFrom := by decide +kernel
theorem kX0_has_27 : Cond.fieldLink RX0 27 "LayeredCharters$Guild" "size" "I" ∈ wsX0_has := List.mem_of_getElem? (i := 1) rfl
set_option maxRecDepth 20000 in
theorem iX0_has_X0 : ∀ w ∈ wsX00, w ∈ wsX0_has := by decide +kernel
theorem kX0_init_9 : Cond.fieldLink RX0 9 "LayeredCharters$Guild" "crafts" "[I" ∈ wsX0_init := List.mem_of_getElem? (i := 5) rfl
theorem kX0_init_15 : Cond.fieldLink RX0 15 "LayeredCharters$Guild" "ranks" "[I" ∈ wsX0_init := List.mem_of_getElem? (i := 6) rfl
theorem kX0_init_18 : Cond.fieldLink RX0 18 "LayeredCharters$Guild" "done" "[I" ∈ wsX0_init := List.mem_of_getElem? (i := 7) rfl
theorem kX0_init_21 : Cond.fieldLink RX0 21 "LayeredCharters$Guild" "refused" "[I" ∈ wsX0_init := List.mem_of_getElem? (i := 8) rfl
theorem kX0_init_24 : Cond.fieldLink RX0 24 "LayeredCharters$Guild" "refusals" "[I" ∈ wsX0_init := List.mem_of_getElem? (i := 9) rfl
theorem kX0_init_27 : Cond.fieldLink RX0 27 "LayeredCharters$Guild" "size" "I" ∈ wsX0_init := List.mem_of_getElem? (i := 10) rfl
theorem kX0_init_31 : Cond.fieldLink RX0 31 "LayeredCharters$Guild" "doneInAll" "I" ∈ wsX0_init := List.mem_of_getElem? (i := 11) rfl
set_option maxRecDepth 20000 in
theorem iX0_init_X0 : ∀ w ∈ wsX00, w ∈ wsX0_init := by decide +kernel
theorem kX0_noteDone_18 : Cond.fieldLink RX0 18 "LayeredCharters$Guild" "done" "[I" ∈ wsX0_noteDone := List.mem_of_getElem? (i := 1) rfl
theorem kX0_noteDone_31 : Cond.fieldLink RX0 31 "LayeredCharters$Guild" "doneInAll" "I" ∈ wsX0_noteDone := List.mem_of_getElem? (i := 2) rfl
theorem kX0_noteDone_27 : Cond.fieldLink RX0 27 "LayeredCharters$Guild" "size" "I" ∈ wsX0_noteDone := List.mem_of_getElem? (i := 8) rfl
set_option maxRecDepth 20000 in
theorem iX0_noteDone_X0 : ∀ w ∈ wsX00, w ∈ wsX0_noteDone := by decide +kernel
theorem kX0_noteRefusal_21 : Cond.fieldLink RX0 21 "LayeredCharters$Guild" "refused" "[I" ∈ wsX0_noteRefusal := List.mem_of_getElem? (i := 1) rfl
theorem kX0_noteRefusal_24 : Cond.fieldLink RX0 24 "LayeredCharters$Guild" "refusals" "[I" ∈ wsX0_noteRefusal := List.mem_of_getElem? (i := 2) rfl
theorem kX0_noteRefusal_27 : Cond.fieldLink RX0 27 "LayeredCharters$Guild" "size" "I" ∈ wsX0_noteRefusal := List.mem_of_getElem? (i := 8) rfl
set_option maxRecDepth 20000 in
theorem iX0_noteRefusal_X0 : ∀ w ∈ wsX00, w ∈ wsX0_noteRefusal := by decide +kernel
theorem kX0_refusalsOf_24 : Cond.fieldLink RX0 24 "LayeredCharters$Guild" "refusals" "[I" ∈ wsX0_refusalsOf := List.mem_of_getElem? (i := 1) rfl
set_option maxRecDepth 20000 in
theorem iX0_refusalsOf_X0 : ∀ w ∈ wsX00, w ∈ wsX0_refusalsOf := by decide +kernel
theorem kX0_remove_9 : Cond.fieldLink RX0 9 "LayeredCharters$Guild" "crafts" "[I" ∈ wsX0_remove := List.mem_of_getElem? (i := 1) rfl
theorem kX0_remove_15 : Cond.fieldLink RX0 15 "LayeredCharters$Guild" "ranks" "[I" ∈ wsX0_remove := List.mem_of_getElem? (i := 2) rfl
theorem kX0_remove_18 : Cond.fieldLink RX0 18 "LayeredCharters$Guild" "done" "[I" ∈ wsX0_remove := List.mem_of_getElem? (i := 3) rfl
theorem kX0_remove_21 : Cond.fieldLink RX0 21 "LayeredCharters$Guild" "refused" "[I" ∈ wsX0_remove := List.mem_of_getElem? (i := 4) rfl
theorem kX0_remove_27 : Cond.fieldLink RX0 27 "LayeredCharters$Guild" "size" "I" ∈ wsX0_remove := List.mem_of_getElem? (i := 5) rfl
set_option maxRecDepth 20000 in
theorem iX0_remove_X0 : ∀ w ∈ wsX00, w ∈ wsX0_remove := by decide +kernel
theorem kX1_init_9 : Cond.fieldLink RX1 9 "LayeredCharters$Pad" "signs" "[C" ∈ wsX1_init := List.mem_of_getElem? (i := 5) rfl
theorem kX1_init_15 : Cond.fieldLink RX1 15 "LayeredCharters$Pad" "length" "I" ∈ wsX1_init := List.mem_of_getElem? (i := 6) rfl
set_option maxRecDepth 20000 in
theorem iX1_init_X1 : ∀ w ∈ wsX10, w ∈ wsX1_init := by decide +kernel
theorem kX2_allowedPairs_30 : Cond.fieldLink RX2 30 "LayeredCharters$Rules" "size" "I" ∈ wsX2_allowedPairs := List.mem_of_getElem? (i := 6) rfl
theorem kX2_allowedPairs_15 : Cond.fieldLink RX2 15 "LayeredCharters$Rules" "kinds" "[I" ∈ wsX2_allowedPairs := List.mem_of_getElem? (i := 7) rfl
theorem kX2_allowedPairs_27 : Cond.fieldLink RX2 27 "LayeredCharters$Rules" "pairs" "[I" ∈ wsX2_allowedPairs := List.mem_of_getElem? (i := 8) rfl
theorem kX2_allowedPairs_24 : Cond.fieldLink RX2 24 "LayeredCharters$Rules" "seals" "[I" ∈ wsX2_allowedPairs := List.mem_of_getElem? (i := 13) rfl
theorem kX2_allowedPairs_11 : Cond.fieldLink RX2 11 "LayeredCharters$Rules" "layers" "[I" ∈ wsX2_allowedPairs := List.mem_of_getElem? (i := 22) rfl
set_option maxRecDepth 20000 in
theorem iX2_allowedPairs_X2 : ∀ w ∈ wsX20, w ∈ wsX2_allowedPairs := by decide +kernel
theorem kX2_allowsByLayers_30 : Cond.fieldLink RX2 30 "LayeredCharters$Rules" "size" "I" ∈ wsX2_allowsByLayers := List.mem_of_getElem? (i := 10) rfl
theorem kX2_allowsByLayers_15 : Cond.fieldLink RX2 15 "LayeredCharters$Rules" "kinds" "[I" ∈ wsX2_allowsByLayers := List.mem_of_getElem? (i := 11) rfl
theorem kX2_allowsByLayers_27 : Cond.fieldLink RX2 27 "LayeredCharters$Rules" "pairs" "[I" ∈ wsX2_allowsByLayers := List.mem_of_getElem? (i := 12) rfl
theorem kX2_allowsByLayers_11 : Cond.fieldLink RX2 11 "LayeredCharters$Rules" "layers" "[I" ∈ wsX2_allowsByLayers := List.mem_of_getElem? (i := 17) rfl
theorem kX2_allowsByLayers_24 : Cond.fieldLink RX2 24 "LayeredCharters$Rules" "seals" "[I" ∈ wsX2_allowsByLayers := List.mem_of_getElem? (i := 18) rfl
set_option maxRecDepth 20000 in
theorem iX2_allowsByLayers_X2 : ∀ w ∈ wsX20, w ∈ wsX2_allowsByLayers := by decide +kernel
theorem kX2_append_30 : Cond.fieldLink RX2 30 "LayeredCharters$Rules" "size" "I" ∈ wsX2_append := List.mem_of_getElem? (i := 1) rfl
theorem kX2_append_11 : Cond.fieldLink RX2 11 "LayeredCharters$Rules" "layers" "[I" ∈ wsX2_append := List.mem_of_getElem? (i := 2) rfl
theorem kX2_append_15 : Cond.fieldLink RX2 15 "LayeredCharters$Rules" "kinds" "[I" ∈ wsX2_append := List.mem_of_getElem? (i := 3) rfl
theorem kX2_append_18 : Cond.fieldLink RX2 18 "LayeredCharters$Rules" "crafts" "[I" ∈ wsX2_append := List.mem_of_getElem? (i := 4) rfl
theorem kX2_append_21 : Cond.fieldLink RX2 21 "LayeredCharters$Rules" "deeds" "[I" ∈ wsX2_append := List.mem_of_getElem? (i := 5) rfl
theorem kX2_append_24 : Cond.fieldLink RX2 24 "LayeredCharters$Rules" "seals" "[I" ∈ wsX2_append := List.mem_of_getElem? (i := 6) rfl
theorem kX2_append_27 : Cond.fieldLink RX2 27 "LayeredCharters$Rules" "pairs" "[I" ∈ wsX2_append := List.mem_of_getElem? (i := 7) rfl
set_option maxRecDepth 20000 in
theorem iX2_append_X2 : ∀ w ∈ wsX20, w ∈ wsX2_append := by decide +kernel
theorem kX2_areAtOdds_15 : Cond.fieldLink RX2 15 "LayeredCharters$Rules" "kinds" "[I" ∈ wsX2_areAtOdds := List.mem_of_getElem? (i := 1) rfl
theorem kX2_areAtOdds_27 : Cond.fieldLink RX2 27 "LayeredCharters$Rules" "pairs" "[I" ∈ wsX2_areAtOdds := List.mem_of_getElem? (i := 2) rfl
set_option maxRecDepth 20000 in
theorem iX2_areAtOdds_X2 : ∀ w ∈ wsX20, w ∈ wsX2_areAtOdds := by decide +kernel
theorem kX2_copyFrom_11 : Cond.fieldLink RX2 11 "LayeredCharters$Rules" "layers" "[I" ∈ wsX2_copyFrom := List.mem_of_getElem? (i := 1) rfl
theorem kX2_copyFrom_15 : Cond.fieldLink RX2 15 "LayeredCharters$Rules" "kinds" "[I" ∈ wsX2_copyFrom := List.mem_of_getElem? (i := 2) rfl
theorem kX2_copyFrom_18 : Cond.fieldLink RX2 18 "LayeredCharters$Rules" "crafts" "[I" ∈ wsX2_copyFrom := List.mem_of_getElem? (i := 3) rfl
theorem kX2_copyFrom_21 : Cond.fieldLink RX2 21 "LayeredCharters$Rules" "deeds" "[I" ∈ wsX2_copyFrom := List.mem_of_getElem? (i := 4) rfl
theorem kX2_copyFrom_24 : Cond.fieldLink RX2 24 "LayeredCharters$Rules" "seals" "[I" ∈ wsX2_copyFrom := List.mem_of_getElem? (i := 5) rfl
theorem kX2_copyFrom_27 : Cond.fieldLink RX2 27 "LayeredCharters$Rules" "pairs" "[I" ∈ wsX2_copyFrom := List.mem_of_getElem? (i := 6) rfl
theorem kX2_copyFrom_30 : Cond.fieldLink RX2 30 "LayeredCharters$Rules" "size" "I" ∈ wsX2_copyFrom := List.mem_of_getElem? (i := 7) rfl
set_option maxRecDepth 20000 in
theorem iX2_copyFrom_X2 : ∀ w ∈ wsX20, w ∈ wsX2_copyFrom := by decide +kernel
theorem kX2_has_30 : Cond.fieldLink RX2 30 "LayeredCharters$Rules" "size" "I" ∈ wsX2_has := List.mem_of_getElem? (i := 1) rfl
set_option maxRecDepth 20000 in
theorem iX2_has_X2 : ∀ w ∈ wsX20, w ∈ wsX2_has := by decide +kernel
theorem kX2_heldPairs_27 : Cond.fieldLink RX2 27 "LayeredCharters$Rules" "pairs" "[I" ∈ wsX2_heldPairs := List.mem_of_getElem? (i := 1) rfl
theorem kX2_heldPairs_30 : Cond.fieldLink RX2 30 "LayeredCharters$Rules" "size" "I" ∈ wsX2_heldPairs := List.mem_of_getElem? (i := 2) rfl
theorem kX2_heldPairs_15 : Cond.fieldLink RX2 15 "LayeredCharters$Rules" "kinds" "[I" ∈ wsX2_heldPairs := List.mem_of_getElem? (i := 8) rfl
theorem kX2_heldPairs_11 : Cond.fieldLink RX2 11 "LayeredCharters$Rules" "layers" "[I" ∈ wsX2_heldPairs := List.mem_of_getElem? (i := 9) rfl
theorem kX2_heldPairs_24 : Cond.fieldLink RX2 24 "LayeredCharters$Rules" "seals" "[I" ∈ wsX2_heldPairs := List.mem_of_getElem? (i := 10) rfl
set_option maxRecDepth 20000 in
theorem iX2_heldPairs_X2 : ∀ w ∈ wsX20, w ∈ wsX2_heldPairs := by decide +kernel
theorem kX2_heldPairsOfSeal_30 : Cond.fieldLink RX2 30 "LayeredCharters$Rules" "size" "I" ∈ wsX2_heldPairsOfSeal := List.mem_of_getElem? (i := 1) rfl
theorem kX2_heldPairsOfSeal_15 : Cond.fieldLink RX2 15 "LayeredCharters$Rules" "kinds" "[I" ∈ wsX2_heldPairsOfSeal := List.mem_of_getElem? (i := 2) rfl
theorem kX2_heldPairsOfSeal_24 : Cond.fieldLink RX2 24 "LayeredCharters$Rules" "seals" "[I" ∈ wsX2_heldPairsOfSeal := List.mem_of_getElem? (i := 3) rfl
theorem kX2_heldPairsOfSeal_27 : Cond.fieldLink RX2 27 "LayeredCharters$Rules" "pairs" "[I" ∈ wsX2_heldPairsOfSeal := List.mem_of_getElem? (i := 9) rfl
theorem kX2_heldPairsOfSeal_11 : Cond.fieldLink RX2 11 "LayeredCharters$Rules" "layers" "[I" ∈ wsX2_heldPairsOfSeal := List.mem_of_getElem? (i := 14) rfl
set_option maxRecDepth 20000 in
theorem iX2_heldPairsOfSeal_X2 : ∀ w ∈ wsX20, w ∈ wsX2_heldPairsOfSeal := by decide +kernel
theorem kX2_init_11 : Cond.fieldLink RX2 11 "LayeredCharters$Rules" "layers" "[I" ∈ wsX2_init := List.mem_of_getElem? (i := 5) rfl
theorem kX2_init_15 : Cond.fieldLink RX2 15 "LayeredCharters$Rules" "kinds" "[I" ∈ wsX2_init := List.mem_of_getElem? (i := 6) rfl
theorem kX2_init_18 : Cond.fieldLink RX2 18 "LayeredCharters$Rules" "crafts" "[I" ∈ wsX2_init := List.mem_of_getElem? (i := 7) rfl
theorem kX2_init_21 : Cond.fieldLink RX2 21 "LayeredCharters$Rules" "deeds" "[I" ∈ wsX2_init := List.mem_of_getElem? (i := 8) rfl
theorem kX2_init_24 : Cond.fieldLink RX2 24 "LayeredCharters$Rules" "seals" "[I" ∈ wsX2_init := List.mem_of_getElem? (i := 9) rfl
theorem kX2_init_27 : Cond.fieldLink RX2 27 "LayeredCharters$Rules" "pairs" "[I" ∈ wsX2_init := List.mem_of_getElem? (i := 10) rfl
theorem kX2_init_30 : Cond.fieldLink RX2 30 "LayeredCharters$Rules" "size" "I" ∈ wsX2_init := List.mem_of_getElem? (i := 11) rfl
set_option maxRecDepth 20000 in
theorem iX2_init_X2 : ∀ w ∈ wsX20, w ∈ wsX2_init := by decide +kernel
theorem kX2_leastRankFor_30 : Cond.fieldLink RX2 30 "LayeredCharters$Rules" "size" "I" ∈ wsX2_leastRankFor := List.mem_of_getElem? (i := 6) rfl
theorem kX2_leastRankFor_15 : Cond.fieldLink RX2 15 "LayeredCharters$Rules" "kinds" "[I" ∈ wsX2_leastRankFor := List.mem_of_getElem? (i := 7) rfl
theorem kX2_leastRankFor_27 : Cond.fieldLink RX2 27 "LayeredCharters$Rules" "pairs" "[I" ∈ wsX2_leastRankFor := List.mem_of_getElem? (i := 8) rfl
theorem kX2_leastRankFor_24 : Cond.fieldLink RX2 24 "LayeredCharters$Rules" "seals" "[I" ∈ wsX2_leastRankFor := List.mem_of_getElem? (i := 13) rfl
theorem kX2_leastRankFor_11 : Cond.fieldLink RX2 11 "LayeredCharters$Rules" "layers" "[I" ∈ wsX2_leastRankFor := List.mem_of_getElem? (i := 22) rfl
set_option maxRecDepth 20000 in
theorem iX2_leastRankFor_X2 : ∀ w ∈ wsX20, w ∈ wsX2_leastRankFor := by decide +kernel
theorem kX2_lifts_15 : Cond.fieldLink RX2 15 "LayeredCharters$Rules" "kinds" "[I" ∈ wsX2_lifts := List.mem_of_getElem? (i := 1) rfl
theorem kX2_lifts_11 : Cond.fieldLink RX2 11 "LayeredCharters$Rules" "layers" "[I" ∈ wsX2_lifts := List.mem_of_getElem? (i := 2) rfl
theorem kX2_lifts_24 : Cond.fieldLink RX2 24 "LayeredCharters$Rules" "seals" "[I" ∈ wsX2_lifts := List.mem_of_getElem? (i := 3) rfl
set_option maxRecDepth 20000 in
theorem iX2_lifts_X2 : ∀ w ∈ wsX20, w ∈ wsX2_lifts := by decide +kernel
theorem kX2_oddPairs_30 : Cond.fieldLink RX2 30 "LayeredCharters$Rules" "size" "I" ∈ wsX2_oddPairs := List.mem_of_getElem? (i := 1) rfl
theorem kX2_oddPairs_15 : Cond.fieldLink RX2 15 "LayeredCharters$Rules" "kinds" "[I" ∈ wsX2_oddPairs := List.mem_of_getElem? (i := 2) rfl
theorem kX2_oddPairs_27 : Cond.fieldLink RX2 27 "LayeredCharters$Rules" "pairs" "[I" ∈ wsX2_oddPairs := List.mem_of_getElem? (i := 12) rfl
set_option maxRecDepth 20000 in
theorem iX2_oddPairs_X2 : ∀ w ∈ wsX20, w ∈ wsX2_oddPairs := by decide +kernel
theorem kX2_oddsOf_30 : Cond.fieldLink RX2 30 "LayeredCharters$Rules" "size" "I" ∈ wsX2_oddsOf := List.mem_of_getElem? (i := 1) rfl
theorem kX2_oddsOf_15 : Cond.fieldLink RX2 15 "LayeredCharters$Rules" "kinds" "[I" ∈ wsX2_oddsOf := List.mem_of_getElem? (i := 7) rfl
theorem kX2_oddsOf_27 : Cond.fieldLink RX2 27 "LayeredCharters$Rules" "pairs" "[I" ∈ wsX2_oddsOf := List.mem_of_getElem? (i := 8) rfl
set_option maxRecDepth 20000 in
theorem iX2_oddsOf_X2 : ∀ w ∈ wsX20, w ∈ wsX2_oddsOf := by decide +kernel
theorem kX2_permittedPairs_30 : Cond.fieldLink RX2 30 "LayeredCharters$Rules" "size" "I" ∈ wsX2_permittedPairs := List.mem_of_getElem? (i := 1) rfl
theorem kX2_permittedPairs_15 : Cond.fieldLink RX2 15 "LayeredCharters$Rules" "kinds" "[I" ∈ wsX2_permittedPairs := List.mem_of_getElem? (i := 2) rfl
theorem kX2_permittedPairs_27 : Cond.fieldLink RX2 27 "LayeredCharters$Rules" "pairs" "[I" ∈ wsX2_permittedPairs := List.mem_of_getElem? (i := 3) rfl
set_option maxRecDepth 20000 in
theorem iX2_permittedPairs_X2 : ∀ w ∈ wsX20, w ∈ wsX2_permittedPairs := by decide +kernel
theorem kX2_reason_30 : Cond.fieldLink RX2 30 "LayeredCharters$Rules" "size" "I" ∈ wsX2_reason := List.mem_of_getElem? (i := 1) rfl
theorem kX2_reason_15 : Cond.fieldLink RX2 15 "LayeredCharters$Rules" "kinds" "[I" ∈ wsX2_reason := List.mem_of_getElem? (i := 2) rfl
theorem kX2_reason_24 : Cond.fieldLink RX2 24 "LayeredCharters$Rules" "seals" "[I" ∈ wsX2_reason := List.mem_of_getElem? (i := 3) rfl
theorem kX2_reason_11 : Cond.fieldLink RX2 11 "LayeredCharters$Rules" "layers" "[I" ∈ wsX2_reason := List.mem_of_getElem? (i := 4) rfl
theorem kX2_reason_27 : Cond.fieldLink RX2 27 "LayeredCharters$Rules" "pairs" "[I" ∈ wsX2_reason := List.mem_of_getElem? (i := 10) rfl
set_option maxRecDepth 20000 in
theorem iX2_reason_X2 : ∀ w ∈ wsX20, w ∈ wsX2_reason := by decide +kernel
theorem kX2_remove_11 : Cond.fieldLink RX2 11 "LayeredCharters$Rules" "layers" "[I" ∈ wsX2_remove := List.mem_of_getElem? (i := 1) rfl
theorem kX2_remove_15 : Cond.fieldLink RX2 15 "LayeredCharters$Rules" "kinds" "[I" ∈ wsX2_remove := List.mem_of_getElem? (i := 2) rfl
theorem kX2_remove_18 : Cond.fieldLink RX2 18 "LayeredCharters$Rules" "crafts" "[I" ∈ wsX2_remove := List.mem_of_getElem? (i := 3) rfl
theorem kX2_remove_21 : Cond.fieldLink RX2 21 "LayeredCharters$Rules" "deeds" "[I" ∈ wsX2_remove := List.mem_of_getElem? (i := 4) rfl
theorem kX2_remove_24 : Cond.fieldLink RX2 24 "LayeredCharters$Rules" "seals" "[I" ∈ wsX2_remove := List.mem_of_getElem? (i := 5) rfl
theorem kX2_remove_27 : Cond.fieldLink RX2 27 "LayeredCharters$Rules" "pairs" "[I" ∈ wsX2_remove := List.mem_of_getElem? (i := 6) rfl
theorem kX2_remove_30 : Cond.fieldLink RX2 30 "LayeredCharters$Rules" "size" "I" ∈ wsX2_remove := List.mem_of_getElem? (i := 7) rfl
set_option maxRecDepth 20000 in
theorem iX2_remove_X2 : ∀ w ∈ wsX20, w ∈ wsX2_remove := by decide +kernel
theorem kX2_sizeOfKind_30 : Cond.fieldLink RX2 30 "LayeredCharters$Rules" "size" "I" ∈ wsX2_sizeOfKind := List.mem_of_getElem? (i := 1) rfl
theorem kX2_sizeOfKind_15 : Cond.fieldLink RX2 15 "LayeredCharters$Rules" "kinds" "[I" ∈ wsX2_sizeOfKind := List.mem_of_getElem? (i := 2) rfl
set_option maxRecDepth 20000 in
theorem iX2_sizeOfKind_X2 : ∀ w ∈ wsX20, w ∈ wsX2_sizeOfKind := by decide +kernel
theorem kX2_strongest_30 : Cond.fieldLink RX2 30 "LayeredCharters$Rules" "size" "I" ∈ wsX2_strongest := List.mem_of_getElem? (i := 1) rfl
theorem kX2_strongest_15 : Cond.fieldLink RX2 15 "LayeredCharters$Rules" "kinds" "[I" ∈ wsX2_strongest := List.mem_of_getElem? (i := 2) rfl
theorem kX2_strongest_11 : Cond.fieldLink RX2 11 "LayeredCharters$Rules" "layers" "[I" ∈ wsX2_strongest := List.mem_of_getElem? (i := 3) rfl
theorem kX2_strongest_27 : Cond.fieldLink RX2 27 "LayeredCharters$Rules" "pairs" "[I" ∈ wsX2_strongest := List.mem_of_getElem? (i := 4) rfl
theorem kX2_strongest_24 : Cond.fieldLink RX2 24 "LayeredCharters$Rules" "seals" "[I" ∈ wsX2_strongest := List.mem_of_getElem? (i := 5) rfl
set_option maxRecDepth 20000 in
theorem iX2_strongest_X2 : ∀ w ∈ wsX20, w ∈ wsX2_strongest := by decide +kernel
theorem kX2_triples_30 : Cond.fieldLink RX2 30 "LayeredCharters$Rules" "size" "I" ∈ wsX2_triples := List.mem_of_getElem? (i := 6) rfl
theorem kX2_triples_15 : Cond.fieldLink RX2 15 "LayeredCharters$Rules" "kinds" "[I" ∈ wsX2_triples := List.mem_of_getElem? (i := 7) rfl
theorem kX2_triples_27 : Cond.fieldLink RX2 27 "LayeredCharters$Rules" "pairs" "[I" ∈ wsX2_triples := List.mem_of_getElem? (i := 8) rfl
theorem kX2_triples_24 : Cond.fieldLink RX2 24 "LayeredCharters$Rules" "seals" "[I" ∈ wsX2_triples := List.mem_of_getElem? (i := 20) rfl
theorem kX2_triples_11 : Cond.fieldLink RX2 11 "LayeredCharters$Rules" "layers" "[I" ∈ wsX2_triples := List.mem_of_getElem? (i := 29) rfl
set_option maxRecDepth 20000 in
theorem iX2_triples_X2 : ∀ w ∈ wsX20, w ∈ wsX2_triples := by decide +kernel
theorem kX3_copyFrom_10 : Cond.fieldLink RX3 10 "LayeredCharters$State" "rules" "LLayeredCharters$Rules;" ∈ wsX3_copyFrom := List.mem_of_getElem? (i := 1) rfl
theorem kX3_copyFrom_19 : Cond.fieldLink RX3 19 "LayeredCharters$State" "guild" "LLayeredCharters$Guild;" ∈ wsX3_copyFrom := List.mem_of_getElem? (i := 2) rfl
set_option maxRecDepth 20000 in
theorem iX3_copyFrom_X3 : ∀ w ∈ wsX30, w ∈ wsX3_copyFrom := by decide +kernel
set_option maxRecDepth 20000 in
theorem iX3_copyFrom_X2 : ∀ w ∈ wsX20, w ∈ wsX3_copyFrom := by decide +kernel
set_option maxRecDepth 20000 in
theorem iX3_copyFrom_X0 : ∀ w ∈ wsX00, w ∈ wsX3_copyFrom := by decide +kernel
theorem kX3_init_10 : Cond.fieldLink RX3 10 "LayeredCharters$State" "rules" "LLayeredCharters$Rules;" ∈ wsX3_init := List.mem_of_getElem? (i := 7) rfl
theorem kX3_init_19 : Cond.fieldLink RX3 19 "LayeredCharters$State" "guild" "LLayeredCharters$Guild;" ∈ wsX3_init := List.mem_of_getElem? (i := 11) rfl
set_option maxRecDepth 20000 in
theorem iX3_init_X2 : ∀ w ∈ wsX20, w ∈ wsX3_init := by decide +kernel
set_option maxRecDepth 20000 in
theorem iX3_init_X3 : ∀ w ∈ wsX30, w ∈ wsX3_init := by decide +kernel
set_option maxRecDepth 20000 in
theorem iX3_init_X0 : ∀ w ∈ wsX00, w ∈ wsX3_init := by decide +kernel
theorem kX4_act_12 : Cond.fieldLink RX4 12 "LayeredCharters" "now" "LLayeredCharters$State;" ∈ wsX4_act := List.mem_of_getElem? (i := 1) rfl
theorem kX4_act_105 : Cond.fieldLink RX4 105 "LayeredCharters$State" "guild" "LLayeredCharters$Guild;" ∈ wsX4_act := List.mem_of_getElem? (i := 2) rfl
theorem kX4_act_52 : Cond.fieldLink RX4 52 "LayeredCharters$State" "rules" "LLayeredCharters$Rules;" ∈ wsX4_act := List.mem_of_getElem? (i := 3) rfl
theorem kX4_act_126 : Cond.fieldLink RX4 126 "LayeredCharters$Guild" "crafts" "[I" ∈ wsX4_act := List.mem_of_getElem? (i := 4) rfl
theorem kX4_act_120 : Cond.fieldLink RX4 120 "LayeredCharters$Guild" "ranks" "[I" ∈ wsX4_act := List.mem_of_getElem? (i := 5) rfl
theorem kX4_act_79 : Cond.fieldLink RX4 79 "LayeredCharters$Rules" "layers" "[I" ∈ wsX4_act := List.mem_of_getElem? (i := 6) rfl
theorem kX4_act_30 : Cond.fieldLink RX4 30 "LayeredCharters" "remembered" "I" ∈ wsX4_act := List.mem_of_getElem? (i := 24) rfl
theorem kX4_act_27 : Cond.fieldLink RX4 27 "LayeredCharters" "history" "[LLayeredCharters$State;" ∈ wsX4_act := List.mem_of_getElem? (i := 25) rfl
set_option maxRecDepth 20000 in
theorem iX4_act_X4 : ∀ w ∈ wsX40, w ∈ wsX4_act := by decide +kernel
set_option maxRecDepth 20000 in
theorem iX4_act_X3 : ∀ w ∈ wsX30, w ∈ wsX4_act := by decide +kernel
set_option maxRecDepth 20000 in
theorem iX4_act_X0 : ∀ w ∈ wsX00, w ∈ wsX4_act := by decide +kernel
set_option maxRecDepth 20000 in
theorem iX4_act_X2 : ∀ w ∈ wsX20, w ∈ wsX4_act := by decide +kernel
theorem kX4_add_12 : Cond.fieldLink RX4 12 "LayeredCharters" "now" "LLayeredCharters$State;" ∈ wsX4_add := List.mem_of_getElem? (i := 1) rfl
theorem kX4_add_52 : Cond.fieldLink RX4 52 "LayeredCharters$State" "rules" "LLayeredCharters$Rules;" ∈ wsX4_add := List.mem_of_getElem? (i := 2) rfl
theorem kX4_add_55 : Cond.fieldLink RX4 55 "LayeredCharters$Rules" "size" "I" ∈ wsX4_add := List.mem_of_getElem? (i := 3) rfl
theorem kX4_add_30 : Cond.fieldLink RX4 30 "LayeredCharters" "remembered" "I" ∈ wsX4_add := List.mem_of_getElem? (i := 18) rfl
theorem kX4_add_27 : Cond.fieldLink RX4 27 "LayeredCharters" "history" "[LLayeredCharters$State;" ∈ wsX4_add := List.mem_of_getElem? (i := 19) rfl
set_option maxRecDepth 20000 in
theorem iX4_add_X4 : ∀ w ∈ wsX40, w ∈ wsX4_add := by decide +kernel
set_option maxRecDepth 20000 in
theorem iX4_add_X3 : ∀ w ∈ wsX30, w ∈ wsX4_add := by decide +kernel
set_option maxRecDepth 20000 in
theorem iX4_add_X2 : ∀ w ∈ wsX20, w ∈ wsX4_add := by decide +kernel
set_option maxRecDepth 20000 in
theorem iX4_add_X0 : ∀ w ∈ wsX00, w ∈ wsX4_add := by decide +kernel
theorem kX4_allowed_12 : Cond.fieldLink RX4 12 "LayeredCharters" "now" "LLayeredCharters$State;" ∈ wsX4_allowed := List.mem_of_getElem? (i := 1) rfl
theorem kX4_allowed_52 : Cond.fieldLink RX4 52 "LayeredCharters$State" "rules" "LLayeredCharters$Rules;" ∈ wsX4_allowed := List.mem_of_getElem? (i := 2) rfl
set_option maxRecDepth 20000 in
theorem iX4_allowed_X4 : ∀ w ∈ wsX40, w ∈ wsX4_allowed := by decide +kernel
set_option maxRecDepth 20000 in
theorem iX4_allowed_X3 : ∀ w ∈ wsX30, w ∈ wsX4_allowed := by decide +kernel
set_option maxRecDepth 20000 in
theorem iX4_allowed_X2 : ∀ w ∈ wsX20, w ∈ wsX4_allowed := by decide +kernel
theorem kX4_bestWaiver_37 : Cond.fieldLink RX4 37 "LayeredCharters" "trial" "LLayeredCharters$Rules;" ∈ wsX4_bestWaiver := List.mem_of_getElem? (i := 12) rfl
theorem kX4_bestWaiver_12 : Cond.fieldLink RX4 12 "LayeredCharters" "now" "LLayeredCharters$State;" ∈ wsX4_bestWaiver := List.mem_of_getElem? (i := 13) rfl
theorem kX4_bestWaiver_52 : Cond.fieldLink RX4 52 "LayeredCharters$State" "rules" "LLayeredCharters$Rules;" ∈ wsX4_bestWaiver := List.mem_of_getElem? (i := 14) rfl
set_option maxRecDepth 20000 in
theorem iX4_bestWaiver_X4 : ∀ w ∈ wsX40, w ∈ wsX4_bestWaiver := by decide +kernel
set_option maxRecDepth 20000 in
theorem iX4_bestWaiver_X3 : ∀ w ∈ wsX30, w ∈ wsX4_bestWaiver := by decide +kernel
set_option maxRecDepth 20000 in
theorem iX4_bestWaiver_X2 : ∀ w ∈ wsX20, w ∈ wsX4_bestWaiver := by decide +kernel
theorem kX4_copyInto_12 : Cond.fieldLink RX4 12 "LayeredCharters" "now" "LLayeredCharters$State;" ∈ wsX4_copyInto := List.mem_of_getElem? (i := 4) rfl
set_option maxRecDepth 20000 in
theorem iX4_copyInto_X3 : ∀ w ∈ wsX30, w ∈ wsX4_copyInto := by decide +kernel
set_option maxRecDepth 20000 in
theorem iX4_copyInto_X4 : ∀ w ∈ wsX40, w ∈ wsX4_copyInto := by decide +kernel
set_option maxRecDepth 20000 in
theorem iX4_copyInto_X2 : ∀ w ∈ wsX20, w ∈ wsX4_copyInto := by decide +kernel
set_option maxRecDepth 20000 in
theorem iX4_copyInto_X0 : ∀ w ∈ wsX00, w ∈ wsX4_copyInto := by decide +kernel
theorem kX4_count_12 : Cond.fieldLink RX4 12 "LayeredCharters" "now" "LLayeredCharters$State;" ∈ wsX4_count := List.mem_of_getElem? (i := 1) rfl
theorem kX4_count_52 : Cond.fieldLink RX4 52 "LayeredCharters$State" "rules" "LLayeredCharters$Rules;" ∈ wsX4_count := List.mem_of_getElem? (i := 2) rfl
theorem kX4_count_55 : Cond.fieldLink RX4 55 "LayeredCharters$Rules" "size" "I" ∈ wsX4_count := List.mem_of_getElem? (i := 3) rfl
theorem kX4_count_105 : Cond.fieldLink RX4 105 "LayeredCharters$State" "guild" "LLayeredCharters$Guild;" ∈ wsX4_count := List.mem_of_getElem? (i := 4) rfl
theorem kX4_count_109 : Cond.fieldLink RX4 109 "LayeredCharters$Guild" "size" "I" ∈ wsX4_count := List.mem_of_getElem? (i := 5) rfl
theorem kX4_count_183 : Cond.fieldLink RX4 183 "LayeredCharters$Guild" "doneInAll" "I" ∈ wsX4_count := List.mem_of_getElem? (i := 6) rfl
theorem kX4_count_19 : Cond.fieldLink RX4 19 "LayeredCharters" "pad" "LLayeredCharters$Pad;" ∈ wsX4_count := List.mem_of_getElem? (i := 7) rfl
theorem kX4_count_189 : Cond.fieldLink RX4 189 "LayeredCharters$Pad" "length" "I" ∈ wsX4_count := List.mem_of_getElem? (i := 8) rfl
theorem kX4_count_30 : Cond.fieldLink RX4 30 "LayeredCharters" "remembered" "I" ∈ wsX4_count := List.mem_of_getElem? (i := 9) rfl
theorem kX4_count_37 : Cond.fieldLink RX4 37 "LayeredCharters" "trial" "LLayeredCharters$Rules;" ∈ wsX4_count := List.mem_of_getElem? (i := 60) rfl
set_option maxRecDepth 20000 in
theorem iX4_count_X4 : ∀ w ∈ wsX40, w ∈ wsX4_count := by decide +kernel
set_option maxRecDepth 20000 in
theorem iX4_count_X3 : ∀ w ∈ wsX30, w ∈ wsX4_count := by decide +kernel
set_option maxRecDepth 20000 in
theorem iX4_count_X2 : ∀ w ∈ wsX20, w ∈ wsX4_count := by decide +kernel
set_option maxRecDepth 20000 in
theorem iX4_count_X0 : ∀ w ∈ wsX00, w ∈ wsX4_count := by decide +kernel
set_option maxRecDepth 20000 in
theorem iX4_count_X1 : ∀ w ∈ wsX10, w ∈ wsX4_count := by decide +kernel
theorem kX4_deedsAllowed_12 : Cond.fieldLink RX4 12 "LayeredCharters" "now" "LLayeredCharters$State;" ∈ wsX4_deedsAllowed := List.mem_of_getElem? (i := 1) rfl
theorem kX4_deedsAllowed_52 : Cond.fieldLink RX4 52 "LayeredCharters$State" "rules" "LLayeredCharters$Rules;" ∈ wsX4_deedsAllowed := List.mem_of_getElem? (i := 2) rfl
set_option maxRecDepth 20000 in
theorem iX4_deedsAllowed_X4 : ∀ w ∈ wsX40, w ∈ wsX4_deedsAllowed := by decide +kernel
set_option maxRecDepth 20000 in
theorem iX4_deedsAllowed_X3 : ∀ w ∈ wsX30, w ∈ wsX4_deedsAllowed := by decide +kernel
set_option maxRecDepth 20000 in
theorem iX4_deedsAllowed_X2 : ∀ w ∈ wsX20, w ∈ wsX4_deedsAllowed := by decide +kernel
theorem kX4_dropOldest_27 : Cond.fieldLink RX4 27 "LayeredCharters" "history" "[LLayeredCharters$State;" ∈ wsX4_dropOldest := List.mem_of_getElem? (i := 1) rfl
theorem kX4_dropOldest_30 : Cond.fieldLink RX4 30 "LayeredCharters" "remembered" "I" ∈ wsX4_dropOldest := List.mem_of_getElem? (i := 2) rfl
set_option maxRecDepth 20000 in
theorem iX4_dropOldest_X4 : ∀ w ∈ wsX40, w ∈ wsX4_dropOldest := by decide +kernel
theorem kX4_firstIdle_12 : Cond.fieldLink RX4 12 "LayeredCharters" "now" "LLayeredCharters$State;" ∈ wsX4_firstIdle := List.mem_of_getElem? (i := 1) rfl
theorem kX4_firstIdle_52 : Cond.fieldLink RX4 52 "LayeredCharters$State" "rules" "LLayeredCharters$Rules;" ∈ wsX4_firstIdle := List.mem_of_getElem? (i := 2) rfl
theorem kX4_firstIdle_55 : Cond.fieldLink RX4 55 "LayeredCharters$Rules" "size" "I" ∈ wsX4_firstIdle := List.mem_of_getElem? (i := 3) rfl
theorem kX4_firstIdle_37 : Cond.fieldLink RX4 37 "LayeredCharters" "trial" "LLayeredCharters$Rules;" ∈ wsX4_firstIdle := List.mem_of_getElem? (i := 46) rfl
set_option maxRecDepth 20000 in
theorem iX4_firstIdle_X4 : ∀ w ∈ wsX40, w ∈ wsX4_firstIdle := by decide +kernel
set_option maxRecDepth 20000 in
theorem iX4_firstIdle_X3 : ∀ w ∈ wsX30, w ∈ wsX4_firstIdle := by decide +kernel
set_option maxRecDepth 20000 in
theorem iX4_firstIdle_X2 : ∀ w ∈ wsX20, w ∈ wsX4_firstIdle := by decide +kernel
theorem kX4_idleRules_12 : Cond.fieldLink RX4 12 "LayeredCharters" "now" "LLayeredCharters$State;" ∈ wsX4_idleRules := List.mem_of_getElem? (i := 1) rfl
theorem kX4_idleRules_52 : Cond.fieldLink RX4 52 "LayeredCharters$State" "rules" "LLayeredCharters$Rules;" ∈ wsX4_idleRules := List.mem_of_getElem? (i := 2) rfl
theorem kX4_idleRules_55 : Cond.fieldLink RX4 55 "LayeredCharters$Rules" "size" "I" ∈ wsX4_idleRules := List.mem_of_getElem? (i := 3) rfl
theorem kX4_idleRules_37 : Cond.fieldLink RX4 37 "LayeredCharters" "trial" "LLayeredCharters$Rules;" ∈ wsX4_idleRules := List.mem_of_getElem? (i := 46) rfl
set_option maxRecDepth 20000 in
theorem iX4_idleRules_X4 : ∀ w ∈ wsX40, w ∈ wsX4_idleRules := by decide +kernel
set_option maxRecDepth 20000 in
theorem iX4_idleRules_X3 : ∀ w ∈ wsX30, w ∈ wsX4_idleRules := by decide +kernel
set_option maxRecDepth 20000 in
theorem iX4_idleRules_X2 : ∀ w ∈ wsX20, w ∈ wsX4_idleRules := by decide +kernel
theorem kX4_ifStruck_12 : Cond.fieldLink RX4 12 "LayeredCharters" "now" "LLayeredCharters$State;" ∈ wsX4_ifStruck := List.mem_of_getElem? (i := 1) rfl
theorem kX4_ifStruck_52 : Cond.fieldLink RX4 52 "LayeredCharters$State" "rules" "LLayeredCharters$Rules;" ∈ wsX4_ifStruck := List.mem_of_getElem? (i := 2) rfl
theorem kX4_ifStruck_37 : Cond.fieldLink RX4 37 "LayeredCharters" "trial" "LLayeredCharters$Rules;" ∈ wsX4_ifStruck := List.mem_of_getElem? (i := 14) rfl
set_option maxRecDepth 20000 in
theorem iX4_ifStruck_X4 : ∀ w ∈ wsX40, w ∈ wsX4_ifStruck := by decide +kernel
set_option maxRecDepth 20000 in
theorem iX4_ifStruck_X3 : ∀ w ∈ wsX30, w ∈ wsX4_ifStruck := by decide +kernel
set_option maxRecDepth 20000 in
theorem iX4_ifStruck_X2 : ∀ w ∈ wsX20, w ∈ wsX4_ifStruck := by decide +kernel
theorem kX4_init_12 : Cond.fieldLink RX4 12 "LayeredCharters" "now" "LLayeredCharters$State;" ∈ wsX4_init := List.mem_of_getElem? (i := 7) rfl
theorem kX4_init_19 : Cond.fieldLink RX4 19 "LayeredCharters" "pad" "LLayeredCharters$Pad;" ∈ wsX4_init := List.mem_of_getElem? (i := 11) rfl
theorem kX4_init_23 : Cond.fieldLink RX4 23 "LayeredCharters" "slots" "[LLayeredCharters$State;" ∈ wsX4_init := List.mem_of_getElem? (i := 12) rfl
theorem kX4_init_27 : Cond.fieldLink RX4 27 "LayeredCharters" "history" "[LLayeredCharters$State;" ∈ wsX4_init := List.mem_of_getElem? (i := 13) rfl
theorem kX4_init_30 : Cond.fieldLink RX4 30 "LayeredCharters" "remembered" "I" ∈ wsX4_init := List.mem_of_getElem? (i := 14) rfl
theorem kX4_init_37 : Cond.fieldLink RX4 37 "LayeredCharters" "trial" "LLayeredCharters$Rules;" ∈ wsX4_init := List.mem_of_getElem? (i := 18) rfl
set_option maxRecDepth 20000 in
theorem iX4_init_X3 : ∀ w ∈ wsX30, w ∈ wsX4_init := by decide +kernel
set_option maxRecDepth 20000 in
theorem iX4_init_X4 : ∀ w ∈ wsX40, w ∈ wsX4_init := by decide +kernel
set_option maxRecDepth 20000 in
theorem iX4_init_X1 : ∀ w ∈ wsX10, w ∈ wsX4_init := by decide +kernel
set_option maxRecDepth 20000 in
theorem iX4_init_X2 : ∀ w ∈ wsX20, w ∈ wsX4_init := by decide +kernel
set_option maxRecDepth 20000 in
theorem iX4_init_X0 : ∀ w ∈ wsX00, w ∈ wsX4_init := by decide +kernel
theorem kX4_isIdle_37 : Cond.fieldLink RX4 37 "LayeredCharters" "trial" "LLayeredCharters$Rules;" ∈ wsX4_isIdle := List.mem_of_getElem? (i := 6) rfl
theorem kX4_isIdle_12 : Cond.fieldLink RX4 12 "LayeredCharters" "now" "LLayeredCharters$State;" ∈ wsX4_isIdle := List.mem_of_getElem? (i := 7) rfl
theorem kX4_isIdle_52 : Cond.fieldLink RX4 52 "LayeredCharters$State" "rules" "LLayeredCharters$Rules;" ∈ wsX4_isIdle := List.mem_of_getElem? (i := 8) rfl
set_option maxRecDepth 20000 in
theorem iX4_isIdle_X4 : ∀ w ∈ wsX40, w ∈ wsX4_isIdle := by decide +kernel
set_option maxRecDepth 20000 in
theorem iX4_isIdle_X3 : ∀ w ∈ wsX30, w ∈ wsX4_isIdle := by decide +kernel
set_option maxRecDepth 20000 in
theorem iX4_isIdle_X2 : ∀ w ∈ wsX20, w ∈ wsX4_isIdle := by decide +kernel
theorem kX4_join_12 : Cond.fieldLink RX4 12 "LayeredCharters" "now" "LLayeredCharters$State;" ∈ wsX4_join := List.mem_of_getElem? (i := 1) rfl
theorem kX4_join_105 : Cond.fieldLink RX4 105 "LayeredCharters$State" "guild" "LLayeredCharters$Guild;" ∈ wsX4_join := List.mem_of_getElem? (i := 2) rfl
theorem kX4_join_109 : Cond.fieldLink RX4 109 "LayeredCharters$Guild" "size" "I" ∈ wsX4_join := List.mem_of_getElem? (i := 3) rfl
theorem kX4_join_30 : Cond.fieldLink RX4 30 "LayeredCharters" "remembered" "I" ∈ wsX4_join := List.mem_of_getElem? (i := 18) rfl
theorem kX4_join_27 : Cond.fieldLink RX4 27 "LayeredCharters" "history" "[LLayeredCharters$State;" ∈ wsX4_join := List.mem_of_getElem? (i := 19) rfl
set_option maxRecDepth 20000 in
theorem iX4_join_X4 : ∀ w ∈ wsX40, w ∈ wsX4_join := by decide +kernel
set_option maxRecDepth 20000 in
theorem iX4_join_X3 : ∀ w ∈ wsX30, w ∈ wsX4_join := by decide +kernel
set_option maxRecDepth 20000 in
theorem iX4_join_X0 : ∀ w ∈ wsX00, w ∈ wsX4_join := by decide +kernel
set_option maxRecDepth 20000 in
theorem iX4_join_X2 : ∀ w ∈ wsX20, w ∈ wsX4_join := by decide +kernel
theorem kX4_leastRank_12 : Cond.fieldLink RX4 12 "LayeredCharters" "now" "LLayeredCharters$State;" ∈ wsX4_leastRank := List.mem_of_getElem? (i := 1) rfl
theorem kX4_leastRank_52 : Cond.fieldLink RX4 52 "LayeredCharters$State" "rules" "LLayeredCharters$Rules;" ∈ wsX4_leastRank := List.mem_of_getElem? (i := 2) rfl
set_option maxRecDepth 20000 in
theorem iX4_leastRank_X4 : ∀ w ∈ wsX40, w ∈ wsX4_leastRank := by decide +kernel
set_option maxRecDepth 20000 in
theorem iX4_leastRank_X3 : ∀ w ∈ wsX30, w ∈ wsX4_leastRank := by decide +kernel
set_option maxRecDepth 20000 in
theorem iX4_leastRank_X2 : ∀ w ∈ wsX20, w ∈ wsX4_leastRank := by decide +kernel
theorem kX4_leave_12 : Cond.fieldLink RX4 12 "LayeredCharters" "now" "LLayeredCharters$State;" ∈ wsX4_leave := List.mem_of_getElem? (i := 1) rfl
theorem kX4_leave_105 : Cond.fieldLink RX4 105 "LayeredCharters$State" "guild" "LLayeredCharters$Guild;" ∈ wsX4_leave := List.mem_of_getElem? (i := 2) rfl
theorem kX4_leave_116 : Cond.fieldLink RX4 116 "LayeredCharters$Guild" "done" "[I" ∈ wsX4_leave := List.mem_of_getElem? (i := 3) rfl
theorem kX4_leave_30 : Cond.fieldLink RX4 30 "LayeredCharters" "remembered" "I" ∈ wsX4_leave := List.mem_of_getElem? (i := 15) rfl
theorem kX4_leave_27 : Cond.fieldLink RX4 27 "LayeredCharters" "history" "[LLayeredCharters$State;" ∈ wsX4_leave := List.mem_of_getElem? (i := 16) rfl
set_option maxRecDepth 20000 in
theorem iX4_leave_X4 : ∀ w ∈ wsX40, w ∈ wsX4_leave := by decide +kernel
set_option maxRecDepth 20000 in
theorem iX4_leave_X3 : ∀ w ∈ wsX30, w ∈ wsX4_leave := by decide +kernel
set_option maxRecDepth 20000 in
theorem iX4_leave_X0 : ∀ w ∈ wsX00, w ∈ wsX4_leave := by decide +kernel
set_option maxRecDepth 20000 in
theorem iX4_leave_X2 : ∀ w ∈ wsX20, w ∈ wsX4_leave := by decide +kernel
theorem kX4_member_12 : Cond.fieldLink RX4 12 "LayeredCharters" "now" "LLayeredCharters$State;" ∈ wsX4_member := List.mem_of_getElem? (i := 1) rfl
theorem kX4_member_105 : Cond.fieldLink RX4 105 "LayeredCharters$State" "guild" "LLayeredCharters$Guild;" ∈ wsX4_member := List.mem_of_getElem? (i := 2) rfl
theorem kX4_member_126 : Cond.fieldLink RX4 126 "LayeredCharters$Guild" "crafts" "[I" ∈ wsX4_member := List.mem_of_getElem? (i := 3) rfl
theorem kX4_member_120 : Cond.fieldLink RX4 120 "LayeredCharters$Guild" "ranks" "[I" ∈ wsX4_member := List.mem_of_getElem? (i := 4) rfl
theorem kX4_member_116 : Cond.fieldLink RX4 116 "LayeredCharters$Guild" "done" "[I" ∈ wsX4_member := List.mem_of_getElem? (i := 5) rfl
theorem kX4_member_168 : Cond.fieldLink RX4 168 "LayeredCharters$Guild" "refused" "[I" ∈ wsX4_member := List.mem_of_getElem? (i := 6) rfl
theorem kX4_member_52 : Cond.fieldLink RX4 52 "LayeredCharters$State" "rules" "LLayeredCharters$Rules;" ∈ wsX4_member := List.mem_of_getElem? (i := 18) rfl
set_option maxRecDepth 20000 in
theorem iX4_member_X4 : ∀ w ∈ wsX40, w ∈ wsX4_member := by decide +kernel
set_option maxRecDepth 20000 in
theorem iX4_member_X3 : ∀ w ∈ wsX30, w ∈ wsX4_member := by decide +kernel
set_option maxRecDepth 20000 in
theorem iX4_member_X0 : ∀ w ∈ wsX00, w ∈ wsX4_member := by decide +kernel
set_option maxRecDepth 20000 in
theorem iX4_member_X2 : ∀ w ∈ wsX20, w ∈ wsX4_member := by decide +kernel
theorem kX4_move_12 : Cond.fieldLink RX4 12 "LayeredCharters" "now" "LLayeredCharters$State;" ∈ wsX4_move := List.mem_of_getElem? (i := 1) rfl
theorem kX4_move_52 : Cond.fieldLink RX4 52 "LayeredCharters$State" "rules" "LLayeredCharters$Rules;" ∈ wsX4_move := List.mem_of_getElem? (i := 2) rfl
theorem kX4_move_76 : Cond.fieldLink RX4 76 "LayeredCharters$Rules" "kinds" "[I" ∈ wsX4_move := List.mem_of_getElem? (i := 3) rfl
theorem kX4_move_79 : Cond.fieldLink RX4 79 "LayeredCharters$Rules" "layers" "[I" ∈ wsX4_move := List.mem_of_getElem? (i := 4) rfl
theorem kX4_move_30 : Cond.fieldLink RX4 30 "LayeredCharters" "remembered" "I" ∈ wsX4_move := List.mem_of_getElem? (i := 22) rfl
theorem kX4_move_27 : Cond.fieldLink RX4 27 "LayeredCharters" "history" "[LLayeredCharters$State;" ∈ wsX4_move := List.mem_of_getElem? (i := 23) rfl
set_option maxRecDepth 20000 in
theorem iX4_move_X4 : ∀ w ∈ wsX40, w ∈ wsX4_move := by decide +kernel
set_option maxRecDepth 20000 in
theorem iX4_move_X3 : ∀ w ∈ wsX30, w ∈ wsX4_move := by decide +kernel
set_option maxRecDepth 20000 in
theorem iX4_move_X2 : ∀ w ∈ wsX20, w ∈ wsX4_move := by decide +kernel
set_option maxRecDepth 20000 in
theorem iX4_move_X0 : ∀ w ∈ wsX00, w ∈ wsX4_move := by decide +kernel
theorem kX4_rank_12 : Cond.fieldLink RX4 12 "LayeredCharters" "now" "LLayeredCharters$State;" ∈ wsX4_rank := List.mem_of_getElem? (i := 1) rfl
theorem kX4_rank_105 : Cond.fieldLink RX4 105 "LayeredCharters$State" "guild" "LLayeredCharters$Guild;" ∈ wsX4_rank := List.mem_of_getElem? (i := 2) rfl
theorem kX4_rank_120 : Cond.fieldLink RX4 120 "LayeredCharters$Guild" "ranks" "[I" ∈ wsX4_rank := List.mem_of_getElem? (i := 3) rfl
theorem kX4_rank_30 : Cond.fieldLink RX4 30 "LayeredCharters" "remembered" "I" ∈ wsX4_rank := List.mem_of_getElem? (i := 21) rfl
theorem kX4_rank_27 : Cond.fieldLink RX4 27 "LayeredCharters" "history" "[LLayeredCharters$State;" ∈ wsX4_rank := List.mem_of_getElem? (i := 22) rfl
set_option maxRecDepth 20000 in
theorem iX4_rank_X4 : ∀ w ∈ wsX40, w ∈ wsX4_rank := by decide +kernel
set_option maxRecDepth 20000 in
theorem iX4_rank_X3 : ∀ w ∈ wsX30, w ∈ wsX4_rank := by decide +kernel
set_option maxRecDepth 20000 in
theorem iX4_rank_X0 : ∀ w ∈ wsX00, w ∈ wsX4_rank := by decide +kernel
set_option maxRecDepth 20000 in
theorem iX4_rank_X2 : ∀ w ∈ wsX20, w ∈ wsX4_rank := by decide +kernel
theorem kX4_remember_30 : Cond.fieldLink RX4 30 "LayeredCharters" "remembered" "I" ∈ wsX4_remember := List.mem_of_getElem? (i := 1) rfl
theorem kX4_remember_27 : Cond.fieldLink RX4 27 "LayeredCharters" "history" "[LLayeredCharters$State;" ∈ wsX4_remember := List.mem_of_getElem? (i := 2) rfl
theorem kX4_remember_12 : Cond.fieldLink RX4 12 "LayeredCharters" "now" "LLayeredCharters$State;" ∈ wsX4_remember := List.mem_of_getElem? (i := 15) rfl
set_option maxRecDepth 20000 in
theorem iX4_remember_X4 : ∀ w ∈ wsX40, w ∈ wsX4_remember := by decide +kernel
set_option maxRecDepth 20000 in
theorem iX4_remember_X3 : ∀ w ∈ wsX30, w ∈ wsX4_remember := by decide +kernel
set_option maxRecDepth 20000 in
theorem iX4_remember_X2 : ∀ w ∈ wsX20, w ∈ wsX4_remember := by decide +kernel
set_option maxRecDepth 20000 in
theorem iX4_remember_X0 : ∀ w ∈ wsX00, w ∈ wsX4_remember := by decide +kernel
theorem kX4_rule_12 : Cond.fieldLink RX4 12 "LayeredCharters" "now" "LLayeredCharters$State;" ∈ wsX4_rule := List.mem_of_getElem? (i := 1) rfl
theorem kX4_rule_52 : Cond.fieldLink RX4 52 "LayeredCharters$State" "rules" "LLayeredCharters$Rules;" ∈ wsX4_rule := List.mem_of_getElem? (i := 2) rfl
theorem kX4_rule_79 : Cond.fieldLink RX4 79 "LayeredCharters$Rules" "layers" "[I" ∈ wsX4_rule := List.mem_of_getElem? (i := 3) rfl
theorem kX4_rule_76 : Cond.fieldLink RX4 76 "LayeredCharters$Rules" "kinds" "[I" ∈ wsX4_rule := List.mem_of_getElem? (i := 4) rfl
theorem kX4_rule_142 : Cond.fieldLink RX4 142 "LayeredCharters$Rules" "crafts" "[I" ∈ wsX4_rule := List.mem_of_getElem? (i := 5) rfl
theorem kX4_rule_143 : Cond.fieldLink RX4 143 "LayeredCharters$Rules" "deeds" "[I" ∈ wsX4_rule := List.mem_of_getElem? (i := 6) rfl
theorem kX4_rule_72 : Cond.fieldLink RX4 72 "LayeredCharters$Rules" "seals" "[I" ∈ wsX4_rule := List.mem_of_getElem? (i := 7) rfl
theorem kX4_rule_157 : Cond.fieldLink RX4 157 "LayeredCharters$Rules" "pairs" "[I" ∈ wsX4_rule := List.mem_of_getElem? (i := 8) rfl
theorem kX4_rule_37 : Cond.fieldLink RX4 37 "LayeredCharters" "trial" "LLayeredCharters$Rules;" ∈ wsX4_rule := List.mem_of_getElem? (i := 55) rfl
set_option maxRecDepth 20000 in
theorem iX4_rule_X4 : ∀ w ∈ wsX40, w ∈ wsX4_rule := by decide +kernel
set_option maxRecDepth 20000 in
theorem iX4_rule_X3 : ∀ w ∈ wsX30, w ∈ wsX4_rule := by decide +kernel
set_option maxRecDepth 20000 in
theorem iX4_rule_X2 : ∀ w ∈ wsX20, w ∈ wsX4_rule := by decide +kernel
theorem kX4_seal_12 : Cond.fieldLink RX4 12 "LayeredCharters" "now" "LLayeredCharters$State;" ∈ wsX4_seal := List.mem_of_getElem? (i := 1) rfl
theorem kX4_seal_52 : Cond.fieldLink RX4 52 "LayeredCharters$State" "rules" "LLayeredCharters$Rules;" ∈ wsX4_seal := List.mem_of_getElem? (i := 2) rfl
theorem kX4_seal_72 : Cond.fieldLink RX4 72 "LayeredCharters$Rules" "seals" "[I" ∈ wsX4_seal := List.mem_of_getElem? (i := 3) rfl
theorem kX4_seal_30 : Cond.fieldLink RX4 30 "LayeredCharters" "remembered" "I" ∈ wsX4_seal := List.mem_of_getElem? (i := 21) rfl
theorem kX4_seal_27 : Cond.fieldLink RX4 27 "LayeredCharters" "history" "[LLayeredCharters$State;" ∈ wsX4_seal := List.mem_of_getElem? (i := 22) rfl
set_option maxRecDepth 20000 in
theorem iX4_seal_X4 : ∀ w ∈ wsX40, w ∈ wsX4_seal := by decide +kernel
set_option maxRecDepth 20000 in
theorem iX4_seal_X3 : ∀ w ∈ wsX30, w ∈ wsX4_seal := by decide +kernel
set_option maxRecDepth 20000 in
theorem iX4_seal_X2 : ∀ w ∈ wsX20, w ∈ wsX4_seal := by decide +kernel
set_option maxRecDepth 20000 in
theorem iX4_seal_X0 : ∀ w ∈ wsX00, w ∈ wsX4_seal := by decide +kernel
theorem kX4_strike_12 : Cond.fieldLink RX4 12 "LayeredCharters" "now" "LLayeredCharters$State;" ∈ wsX4_strike := List.mem_of_getElem? (i := 1) rfl
theorem kX4_strike_52 : Cond.fieldLink RX4 52 "LayeredCharters$State" "rules" "LLayeredCharters$Rules;" ∈ wsX4_strike := List.mem_of_getElem? (i := 2) rfl
theorem kX4_strike_55 : Cond.fieldLink RX4 55 "LayeredCharters$Rules" "size" "I" ∈ wsX4_strike := List.mem_of_getElem? (i := 3) rfl
theorem kX4_strike_30 : Cond.fieldLink RX4 30 "LayeredCharters" "remembered" "I" ∈ wsX4_strike := List.mem_of_getElem? (i := 15) rfl
theorem kX4_strike_27 : Cond.fieldLink RX4 27 "LayeredCharters" "history" "[LLayeredCharters$State;" ∈ wsX4_strike := List.mem_of_getElem? (i := 16) rfl
set_option maxRecDepth 20000 in
theorem iX4_strike_X4 : ∀ w ∈ wsX40, w ∈ wsX4_strike := by decide +kernel
set_option maxRecDepth 20000 in
theorem iX4_strike_X3 : ∀ w ∈ wsX30, w ∈ wsX4_strike := by decide +kernel
set_option maxRecDepth 20000 in
theorem iX4_strike_X2 : ∀ w ∈ wsX20, w ∈ wsX4_strike := by decide +kernel
set_option maxRecDepth 20000 in
theorem iX4_strike_X0 : ∀ w ∈ wsX00, w ∈ wsX4_strike := by decide +kernel
theorem kX4_tidy_12 : Cond.fieldLink RX4 12 "LayeredCharters" "now" "LLayeredCharters$State;" ∈ wsX4_tidy := List.mem_of_getElem? (i := 1) rfl
theorem kX4_tidy_52 : Cond.fieldLink RX4 52 "LayeredCharters$State" "rules" "LLayeredCharters$Rules;" ∈ wsX4_tidy := List.mem_of_getElem? (i := 2) rfl
theorem kX4_tidy_30 : Cond.fieldLink RX4 30 "LayeredCharters" "remembered" "I" ∈ wsX4_tidy := List.mem_of_getElem? (i := 8) rfl
theorem kX4_tidy_27 : Cond.fieldLink RX4 27 "LayeredCharters" "history" "[LLayeredCharters$State;" ∈ wsX4_tidy := List.mem_of_getElem? (i := 9) rfl
theorem kX4_tidy_55 : Cond.fieldLink RX4 55 "LayeredCharters$Rules" "size" "I" ∈ wsX4_tidy := List.mem_of_getElem? (i := 81) rfl
theorem kX4_tidy_37 : Cond.fieldLink RX4 37 "LayeredCharters" "trial" "LLayeredCharters$Rules;" ∈ wsX4_tidy := List.mem_of_getElem? (i := 117) rfl
set_option maxRecDepth 20000 in
theorem iX4_tidy_X4 : ∀ w ∈ wsX40, w ∈ wsX4_tidy := by decide +kernel
set_option maxRecDepth 20000 in
theorem iX4_tidy_X3 : ∀ w ∈ wsX30, w ∈ wsX4_tidy := by decide +kernel
set_option maxRecDepth 20000 in
theorem iX4_tidy_X2 : ∀ w ∈ wsX20, w ∈ wsX4_tidy := by decide +kernel
set_option maxRecDepth 20000 in
theorem iX4_tidy_X0 : ∀ w ∈ wsX00, w ∈ wsX4_tidy := by decide +kernel
theorem kX4_triplesWithWaiver_37 : Cond.fieldLink RX4 37 "LayeredCharters" "trial" "LLayeredCharters$Rules;" ∈ wsX4_triplesWithWaiver := List.mem_of_getElem? (i := 1) rfl
theorem kX4_triplesWithWaiver_12 : Cond.fieldLink RX4 12 "LayeredCharters" "now" "LLayeredCharters$State;" ∈ wsX4_triplesWithWaiver := List.mem_of_getElem? (i := 2) rfl
theorem kX4_triplesWithWaiver_52 : Cond.fieldLink RX4 52 "LayeredCharters$State" "rules" "LLayeredCharters$Rules;" ∈ wsX4_triplesWithWaiver := List.mem_of_getElem? (i := 3) rfl
set_option maxRecDepth 20000 in
theorem iX4_triplesWithWaiver_X4 : ∀ w ∈ wsX40, w ∈ wsX4_triplesWithWaiver := by decide +kernel
set_option maxRecDepth 20000 in
theorem iX4_triplesWithWaiver_X3 : ∀ w ∈ wsX30, w ∈ wsX4_triplesWithWaiver := by decide +kernel
set_option maxRecDepth 20000 in
theorem iX4_triplesWithWaiver_X2 : ∀ w ∈ wsX20, w ∈ wsX4_triplesWithWaiver := by decide +kernel
theorem kX4_triplesWithout_37 : Cond.fieldLink RX4 37 "LayeredCharters" "trial" "LLayeredCharters$Rules;" ∈ wsX4_triplesWithout := List.mem_of_getElem? (i := 1) rfl
theorem kX4_triplesWithout_12 : Cond.fieldLink RX4 12 "LayeredCharters" "now" "LLayeredCharters$State;" ∈ wsX4_triplesWithout := List.mem_of_getElem? (i := 2) rfl
theorem kX4_triplesWithout_52 : Cond.fieldLink RX4 52 "LayeredCharters$State" "rules" "LLayeredCharters$Rules;" ∈ wsX4_triplesWithout := List.mem_of_getElem? (i := 3) rfl
set_option maxRecDepth 20000 in
theorem iX4_triplesWithout_X4 : ∀ w ∈ wsX40, w ∈ wsX4_triplesWithout := by decide +kernel
set_option maxRecDepth 20000 in
theorem iX4_triplesWithout_X3 : ∀ w ∈ wsX30, w ∈ wsX4_triplesWithout := by decide +kernel
set_option maxRecDepth 20000 in
theorem iX4_triplesWithout_X2 : ∀ w ∈ wsX20, w ∈ wsX4_triplesWithout := by decide +kernel
theorem kX4_undo_30 : Cond.fieldLink RX4 30 "LayeredCharters" "remembered" "I" ∈ wsX4_undo := List.mem_of_getElem? (i := 1) rfl
theorem kX4_undo_27 : Cond.fieldLink RX4 27 "LayeredCharters" "history" "[LLayeredCharters$State;" ∈ wsX4_undo := List.mem_of_getElem? (i := 2) rfl
theorem kX4_undo_12 : Cond.fieldLink RX4 12 "LayeredCharters" "now" "LLayeredCharters$State;" ∈ wsX4_undo := List.mem_of_getElem? (i := 3) rfl
set_option maxRecDepth 20000 in
theorem iX4_undo_X4 : ∀ w ∈ wsX40, w ∈ wsX4_undo := by decide +kernel
set_option maxRecDepth 20000 in
theorem iX4_undo_X3 : ∀ w ∈ wsX30, w ∈ wsX4_undo := by decide +kernel
set_option maxRecDepth 20000 in
theorem iX4_undo_X2 : ∀ w ∈ wsX20, w ∈ wsX4_undo := by decide +kernel
set_option maxRecDepth 20000 in
theorem iX4_undo_X0 : ∀ w ∈ wsX00, w ∈ wsX4_undo := by decide +kernel
theorem kX4_why_12 : Cond.fieldLink RX4 12 "LayeredCharters" "now" "LLayeredCharters$State;" ∈ wsX4_why := List.mem_of_getElem? (i := 1) rfl
theorem kX4_why_52 : Cond.fieldLink RX4 52 "LayeredCharters$State" "rules" "LLayeredCharters$Rules;" ∈ wsX4_why := List.mem_of_getElem? (i := 2) rfl
set_option maxRecDepth 20000 in
theorem iX4_why_X4 : ∀ w ∈ wsX40, w ∈ wsX4_why := by decide +kernel
set_option maxRecDepth 20000 in
theorem iX4_why_X3 : ∀ w ∈ wsX30, w ∈ wsX4_why := by decide +kernel
set_option maxRecDepth 20000 in
theorem iX4_why_X2 : ∀ w ∈ wsX20, w ∈ wsX4_why := by decide +kernel
theorem kX4_worstBan_12 : Cond.fieldLink RX4 12 "LayeredCharters" "now" "LLayeredCharters$State;" ∈ wsX4_worstBan := List.mem_of_getElem? (i := 1) rfl
theorem kX4_worstBan_52 : Cond.fieldLink RX4 52 "LayeredCharters$State" "rules" "LLayeredCharters$Rules;" ∈ wsX4_worstBan := List.mem_of_getElem? (i := 2) rfl
theorem kX4_worstBan_55 : Cond.fieldLink RX4 55 "LayeredCharters$Rules" "size" "I" ∈ wsX4_worstBan := List.mem_of_getElem? (i := 3) rfl
theorem kX4_worstBan_76 : Cond.fieldLink RX4 76 "LayeredCharters$Rules" "kinds" "[I" ∈ wsX4_worstBan := List.mem_of_getElem? (i := 4) rfl
theorem kX4_worstBan_37 : Cond.fieldLink RX4 37 "LayeredCharters" "trial" "LLayeredCharters$Rules;" ∈ wsX4_worstBan := List.mem_of_getElem? (i := 10) rfl
set_option maxRecDepth 20000 in
theorem iX4_worstBan_X4 : ∀ w ∈ wsX40, w ∈ wsX4_worstBan := by decide +kernel
set_option maxRecDepth 20000 in
theorem iX4_worstBan_X3 : ∀ w ∈ wsX30, w ∈ wsX4_worstBan := by decide +kernel
set_option maxRecDepth 20000 in
theorem iX4_worstBan_X2 : ∀ w ∈ wsX20, w ∈ wsX4_worstBan := by decide +kernel
