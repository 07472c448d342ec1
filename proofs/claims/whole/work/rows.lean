section
-- ===== PART A: goes FIRST, ahead of the names: the tables' words, and 'selects' of the private methods out of them =====
/-- a private method of a class that the tables say can be made, by its rows of tables_1 -/
def lw_okq (q : MethodName × Nat) : Prop := (q.1.cls ≠ "java/lang/invoke/MethodHandle" ∧ q.1.cls ≠ "java/lang/invoke/VarHandle") ∧ Cond.instantiable q.1.cls q.2 ∈ tables_1 ∧ Cond.privateMethod q.1 ∈ tables_1 ∧ Cond.instanceMethod q.1 ∈ tables_1
theorem lw_p0 : lw_okq (⟨"LayeredCharters", "remember", "()V"⟩, 6) := ⟨⟨by decide +kernel, by decide +kernel⟩, List.mem_of_getElem? (i := 11) (by decide +kernel), List.mem_of_getElem? (i := 154) (by decide +kernel), List.mem_of_getElem? (i := 155) (by decide +kernel)⟩
theorem lw_p1 : lw_okq (⟨"LayeredCharters", "dropOldest", "()V"⟩, 6) := ⟨⟨by decide +kernel, by decide +kernel⟩, List.mem_of_getElem? (i := 11) (by decide +kernel), List.mem_of_getElem? (i := 158) (by decide +kernel), List.mem_of_getElem? (i := 159) (by decide +kernel)⟩
theorem lw_p2 : lw_okq (⟨"LayeredCharters", "copyInto", "(LLayeredCharters$State;)LLayeredCharters$State;"⟩, 6) := ⟨⟨by decide +kernel, by decide +kernel⟩, List.mem_of_getElem? (i := 11) (by decide +kernel), List.mem_of_getElem? (i := 162) (by decide +kernel), List.mem_of_getElem? (i := 163) (by decide +kernel)⟩
theorem lw_p3 : lw_okq (⟨"LayeredCharters$Pad", "canStand", "(II)Z"⟩, 2) := ⟨⟨by decide +kernel, by decide +kernel⟩, List.mem_of_getElem? (i := 104) (by decide +kernel), List.mem_of_getElem? (i := 230) (by decide +kernel), List.mem_of_getElem? (i := 231) (by decide +kernel)⟩
theorem lw_p4 : lw_okq (⟨"LayeredCharters$Pad", "signAt", "(I)C"⟩, 2) := ⟨⟨by decide +kernel, by decide +kernel⟩, List.mem_of_getElem? (i := 104) (by decide +kernel), List.mem_of_getElem? (i := 234) (by decide +kernel), List.mem_of_getElem? (i := 235) (by decide +kernel)⟩
theorem lw_p5 : lw_okq (⟨"LayeredCharters$Pad", "placeAfter", "(II)I"⟩, 2) := ⟨⟨by decide +kernel, by decide +kernel⟩, List.mem_of_getElem? (i := 104) (by decide +kernel), List.mem_of_getElem? (i := 239) (by decide +kernel), List.mem_of_getElem? (i := 240) (by decide +kernel)⟩
theorem lw_p6 : lw_okq (⟨"LayeredCharters", "firstIdle", "()I"⟩, 6) := ⟨⟨by decide +kernel, by decide +kernel⟩, List.mem_of_getElem? (i := 11) (by decide +kernel), List.mem_of_getElem? (i := 266) (by decide +kernel), List.mem_of_getElem? (i := 267) (by decide +kernel)⟩
theorem lw_p7 : lw_okq (⟨"LayeredCharters$Rules", "permittedPairs", "()I"⟩, 7) := ⟨⟨by decide +kernel, by decide +kernel⟩, List.mem_of_getElem? (i := 25) (by decide +kernel), List.mem_of_getElem? (i := 274) (by decide +kernel), List.mem_of_getElem? (i := 275) (by decide +kernel)⟩
theorem lw_p8 : lw_okq (⟨"LayeredCharters$Rules", "heldPairsOfSeal", "(I)I"⟩, 7) := ⟨⟨by decide +kernel, by decide +kernel⟩, List.mem_of_getElem? (i := 25) (by decide +kernel), List.mem_of_getElem? (i := 284) (by decide +kernel), List.mem_of_getElem? (i := 285) (by decide +kernel)⟩
theorem lw_p9 : lw_okq (⟨"LayeredCharters$Rules", "heldPairs", "(I)I"⟩, 7) := ⟨⟨by decide +kernel, by decide +kernel⟩, List.mem_of_getElem? (i := 25) (by decide +kernel), List.mem_of_getElem? (i := 288) (by decide +kernel), List.mem_of_getElem? (i := 289) (by decide +kernel)⟩
theorem lw_p10 : lw_okq (⟨"LayeredCharters$Rules", "lifts", "(II)Z"⟩, 7) := ⟨⟨by decide +kernel, by decide +kernel⟩, List.mem_of_getElem? (i := 25) (by decide +kernel), List.mem_of_getElem? (i := 292) (by decide +kernel), List.mem_of_getElem? (i := 293) (by decide +kernel)⟩
theorem lw_p11 : lw_okq (⟨"LayeredCharters", "isIdle", "(II)Z"⟩, 6) := ⟨⟨by decide +kernel, by decide +kernel⟩, List.mem_of_getElem? (i := 11) (by decide +kernel), List.mem_of_getElem? (i := 296) (by decide +kernel), List.mem_of_getElem? (i := 297) (by decide +kernel)⟩
theorem lw_p12 : lw_okq (⟨"LayeredCharters", "triplesWithout", "(I)I"⟩, 6) := ⟨⟨by decide +kernel, by decide +kernel⟩, List.mem_of_getElem? (i := 11) (by decide +kernel), List.mem_of_getElem? (i := 300) (by decide +kernel), List.mem_of_getElem? (i := 301) (by decide +kernel)⟩
theorem lw_p13 : lw_okq (⟨"LayeredCharters$Rules", "areAtOdds", "(II)Z"⟩, 7) := ⟨⟨by decide +kernel, by decide +kernel⟩, List.mem_of_getElem? (i := 25) (by decide +kernel), List.mem_of_getElem? (i := 366) (by decide +kernel), List.mem_of_getElem? (i := 367) (by decide +kernel)⟩
theorem lw_p14 : lw_okq (⟨"LayeredCharters", "deedsAllowed", "(II)I"⟩, 6) := ⟨⟨by decide +kernel, by decide +kernel⟩, List.mem_of_getElem? (i := 11) (by decide +kernel), List.mem_of_getElem? (i := 375) (by decide +kernel), List.mem_of_getElem? (i := 376) (by decide +kernel)⟩
theorem lw_p15 : lw_okq (⟨"LayeredCharters$Rules", "strongest", "(III)I"⟩, 7) := ⟨⟨by decide +kernel, by decide +kernel⟩, List.mem_of_getElem? (i := 25) (by decide +kernel), List.mem_of_getElem? (i := 391) (by decide +kernel), List.mem_of_getElem? (i := 392) (by decide +kernel)⟩
def lw_privs_1 : List (MethodName × Nat) := [(⟨"LayeredCharters", "remember", "()V"⟩, 6), (⟨"LayeredCharters", "dropOldest", "()V"⟩, 6), (⟨"LayeredCharters", "copyInto", "(LLayeredCharters$State;)LLayeredCharters$State;"⟩, 6), (⟨"LayeredCharters$Pad", "canStand", "(II)Z"⟩, 2), (⟨"LayeredCharters$Pad", "signAt", "(I)C"⟩, 2), (⟨"LayeredCharters$Pad", "placeAfter", "(II)I"⟩, 2), (⟨"LayeredCharters", "firstIdle", "()I"⟩, 6), (⟨"LayeredCharters$Rules", "permittedPairs", "()I"⟩, 7), (⟨"LayeredCharters$Rules", "heldPairsOfSeal", "(I)I"⟩, 7), (⟨"LayeredCharters$Rules", "heldPairs", "(I)I"⟩, 7), (⟨"LayeredCharters$Rules", "lifts", "(II)Z"⟩, 7), (⟨"LayeredCharters", "isIdle", "(II)Z"⟩, 6), (⟨"LayeredCharters", "triplesWithout", "(I)I"⟩, 6), (⟨"LayeredCharters$Rules", "areAtOdds", "(II)Z"⟩, 7), (⟨"LayeredCharters", "deedsAllowed", "(II)I"⟩, 6), (⟨"LayeredCharters$Rules", "strongest", "(III)I"⟩, 7)]
theorem lw_r1 : ∀ q ∈ lw_privs_1, lw_okq q := List.forall_mem_cons.mpr ⟨lw_p0, List.forall_mem_cons.mpr ⟨lw_p1, List.forall_mem_cons.mpr ⟨lw_p2, List.forall_mem_cons.mpr ⟨lw_p3, List.forall_mem_cons.mpr ⟨lw_p4, List.forall_mem_cons.mpr ⟨lw_p5, List.forall_mem_cons.mpr ⟨lw_p6, List.forall_mem_cons.mpr ⟨lw_p7, List.forall_mem_cons.mpr ⟨lw_p8, List.forall_mem_cons.mpr ⟨lw_p9, List.forall_mem_cons.mpr ⟨lw_p10, List.forall_mem_cons.mpr ⟨lw_p11, List.forall_mem_cons.mpr ⟨lw_p12, List.forall_mem_cons.mpr ⟨lw_p13, List.forall_mem_cons.mpr ⟨lw_p14, List.forall_mem_cons.mpr ⟨lw_p15, fun _ h => absurd h List.not_mem_nil⟩⟩⟩⟩⟩⟩⟩⟩⟩⟩⟩⟩⟩⟩⟩⟩
theorem lw_p16 : lw_okq (⟨"LayeredCharters", "idleRules", "()I"⟩, 6) := ⟨⟨by decide +kernel, by decide +kernel⟩, List.mem_of_getElem? (i := 11) (by decide +kernel), List.mem_of_getElem? (i := 408) (by decide +kernel), List.mem_of_getElem? (i := 409) (by decide +kernel)⟩
theorem lw_p17 : lw_okq (⟨"LayeredCharters", "triplesWithWaiver", "(II)I"⟩, 6) := ⟨⟨by decide +kernel, by decide +kernel⟩, List.mem_of_getElem? (i := 11) (by decide +kernel), List.mem_of_getElem? (i := 441) (by decide +kernel), List.mem_of_getElem? (i := 442) (by decide +kernel)⟩
theorem lw_p18 : lw_okq (⟨"LayeredChartersModel", "record", "()V"⟩, 9) := ⟨⟨by decide +kernel, by decide +kernel⟩, List.mem_of_getElem? (i := 477) (by decide +kernel), List.mem_of_getElem? (i := 519) (by decide +kernel), List.mem_of_getElem? (i := 520) (by decide +kernel)⟩
theorem lw_p19 : lw_okq (⟨"LayeredChartersModel", "adds", "(IIIII)I"⟩, 9) := ⟨⟨by decide +kernel, by decide +kernel⟩, List.mem_of_getElem? (i := 477) (by decide +kernel), List.mem_of_getElem? (i := 523) (by decide +kernel), List.mem_of_getElem? (i := 524) (by decide +kernel)⟩
theorem lw_p20 : lw_okq (⟨"LayeredChartersModel", "isRule", "(I)Z"⟩, 9) := ⟨⟨by decide +kernel, by decide +kernel⟩, List.mem_of_getElem? (i := 477) (by decide +kernel), List.mem_of_getElem? (i := 534) (by decide +kernel), List.mem_of_getElem? (i := 535) (by decide +kernel)⟩
theorem lw_p21 : lw_okq (⟨"LayeredChartersModel", "strikes", "(I)V"⟩, 9) := ⟨⟨by decide +kernel, by decide +kernel⟩, List.mem_of_getElem? (i := 477) (by decide +kernel), List.mem_of_getElem? (i := 538) (by decide +kernel), List.mem_of_getElem? (i := 539) (by decide +kernel)⟩
theorem lw_p22 : lw_okq (⟨"LayeredChartersModel", "lays", "(II)I"⟩, 9) := ⟨⟨by decide +kernel, by decide +kernel⟩, List.mem_of_getElem? (i := 477) (by decide +kernel), List.mem_of_getElem? (i := 546) (by decide +kernel), List.mem_of_getElem? (i := 547) (by decide +kernel)⟩
theorem lw_p23 : lw_okq (⟨"LayeredChartersModel", "of", "(II)I"⟩, 9) := ⟨⟨by decide +kernel, by decide +kernel⟩, List.mem_of_getElem? (i := 477) (by decide +kernel), List.mem_of_getElem? (i := 554) (by decide +kernel), List.mem_of_getElem? (i := 555) (by decide +kernel)⟩
theorem lw_p24 : lw_okq (⟨"LayeredChartersModel", "firstIdle", "()I"⟩, 9) := ⟨⟨by decide +kernel, by decide +kernel⟩, List.mem_of_getElem? (i := 477) (by decide +kernel), List.mem_of_getElem? (i := 562) (by decide +kernel), List.mem_of_getElem? (i := 563) (by decide +kernel)⟩
theorem lw_p25 : lw_okq (⟨"LayeredChartersModel", "isIdle", "(I)Z"⟩, 9) := ⟨⟨by decide +kernel, by decide +kernel⟩, List.mem_of_getElem? (i := 477) (by decide +kernel), List.mem_of_getElem? (i := 566) (by decide +kernel), List.mem_of_getElem? (i := 567) (by decide +kernel)⟩
theorem lw_p26 : lw_okq (⟨"LayeredChartersModel", "leastNow", "(II)I"⟩, 9) := ⟨⟨by decide +kernel, by decide +kernel⟩, List.mem_of_getElem? (i := 477) (by decide +kernel), List.mem_of_getElem? (i := 570) (by decide +kernel), List.mem_of_getElem? (i := 571) (by decide +kernel)⟩
theorem lw_p27 : lw_okq (⟨"LayeredChartersModel", "least", "(IIIII)I"⟩, 9) := ⟨⟨by decide +kernel, by decide +kernel⟩, List.mem_of_getElem? (i := 477) (by decide +kernel), List.mem_of_getElem? (i := 574) (by decide +kernel), List.mem_of_getElem? (i := 575) (by decide +kernel)⟩
theorem lw_p28 : lw_okq (⟨"LayeredChartersModel", "isPermitted", "(III)Z"⟩, 9) := ⟨⟨by decide +kernel, by decide +kernel⟩, List.mem_of_getElem? (i := 477) (by decide +kernel), List.mem_of_getElem? (i := 578) (by decide +kernel), List.mem_of_getElem? (i := 579) (by decide +kernel)⟩
theorem lw_p29 : lw_okq (⟨"LayeredChartersModel", "fits", "(III)Z"⟩, 9) := ⟨⟨by decide +kernel, by decide +kernel⟩, List.mem_of_getElem? (i := 477) (by decide +kernel), List.mem_of_getElem? (i := 582) (by decide +kernel), List.mem_of_getElem? (i := 583) (by decide +kernel)⟩
theorem lw_p30 : lw_okq (⟨"LayeredChartersModel", "layStrong", "(IIIII)V"⟩, 9) := ⟨⟨by decide +kernel, by decide +kernel⟩, List.mem_of_getElem? (i := 477) (by decide +kernel), List.mem_of_getElem? (i := 586) (by decide +kernel), List.mem_of_getElem? (i := 587) (by decide +kernel)⟩
theorem lw_p31 : lw_okq (⟨"LayeredChartersModel", "isMember", "(I)Z"⟩, 9) := ⟨⟨by decide +kernel, by decide +kernel⟩, List.mem_of_getElem? (i := 477) (by decide +kernel), List.mem_of_getElem? (i := 601) (by decide +kernel), List.mem_of_getElem? (i := 602) (by decide +kernel)⟩
def lw_privs_2 : List (MethodName × Nat) := [(⟨"LayeredCharters", "idleRules", "()I"⟩, 6), (⟨"LayeredCharters", "triplesWithWaiver", "(II)I"⟩, 6), (⟨"LayeredChartersModel", "record", "()V"⟩, 9), (⟨"LayeredChartersModel", "adds", "(IIIII)I"⟩, 9), (⟨"LayeredChartersModel", "isRule", "(I)Z"⟩, 9), (⟨"LayeredChartersModel", "strikes", "(I)V"⟩, 9), (⟨"LayeredChartersModel", "lays", "(II)I"⟩, 9), (⟨"LayeredChartersModel", "of", "(II)I"⟩, 9), (⟨"LayeredChartersModel", "firstIdle", "()I"⟩, 9), (⟨"LayeredChartersModel", "isIdle", "(I)Z"⟩, 9), (⟨"LayeredChartersModel", "leastNow", "(II)I"⟩, 9), (⟨"LayeredChartersModel", "least", "(IIIII)I"⟩, 9), (⟨"LayeredChartersModel", "isPermitted", "(III)Z"⟩, 9), (⟨"LayeredChartersModel", "fits", "(III)Z"⟩, 9), (⟨"LayeredChartersModel", "layStrong", "(IIIII)V"⟩, 9), (⟨"LayeredChartersModel", "isMember", "(I)Z"⟩, 9)]
theorem lw_r2 : ∀ q ∈ lw_privs_2, lw_okq q := List.forall_mem_cons.mpr ⟨lw_p16, List.forall_mem_cons.mpr ⟨lw_p17, List.forall_mem_cons.mpr ⟨lw_p18, List.forall_mem_cons.mpr ⟨lw_p19, List.forall_mem_cons.mpr ⟨lw_p20, List.forall_mem_cons.mpr ⟨lw_p21, List.forall_mem_cons.mpr ⟨lw_p22, List.forall_mem_cons.mpr ⟨lw_p23, List.forall_mem_cons.mpr ⟨lw_p24, List.forall_mem_cons.mpr ⟨lw_p25, List.forall_mem_cons.mpr ⟨lw_p26, List.forall_mem_cons.mpr ⟨lw_p27, List.forall_mem_cons.mpr ⟨lw_p28, List.forall_mem_cons.mpr ⟨lw_p29, List.forall_mem_cons.mpr ⟨lw_p30, List.forall_mem_cons.mpr ⟨lw_p31, fun _ h => absurd h List.not_mem_nil⟩⟩⟩⟩⟩⟩⟩⟩⟩⟩⟩⟩⟩⟩⟩⟩
theorem lw_p32 : lw_okq (⟨"LayeredChartersModel", "reason", "(III)I"⟩, 9) := ⟨⟨by decide +kernel, by decide +kernel⟩, List.mem_of_getElem? (i := 477) (by decide +kernel), List.mem_of_getElem? (i := 613) (by decide +kernel), List.mem_of_getElem? (i := 614) (by decide +kernel)⟩
theorem lw_p33 : lw_okq (⟨"LayeredChartersModel", "oddsOf", "(I)I"⟩, 9) := ⟨⟨by decide +kernel, by decide +kernel⟩, List.mem_of_getElem? (i := 477) (by decide +kernel), List.mem_of_getElem? (i := 621) (by decide +kernel), List.mem_of_getElem? (i := 622) (by decide +kernel)⟩
theorem lw_p34 : lw_okq (⟨"LayeredChartersModel", "areAtOdds", "(II)Z"⟩, 9) := ⟨⟨by decide +kernel, by decide +kernel⟩, List.mem_of_getElem? (i := 477) (by decide +kernel), List.mem_of_getElem? (i := 625) (by decide +kernel), List.mem_of_getElem? (i := 626) (by decide +kernel)⟩
theorem lw_p35 : lw_okq (⟨"LayeredChartersModel", "mayDo", "(I)I"⟩, 9) := ⟨⟨by decide +kernel, by decide +kernel⟩, List.mem_of_getElem? (i := 477) (by decide +kernel), List.mem_of_getElem? (i := 633) (by decide +kernel), List.mem_of_getElem? (i := 634) (by decide +kernel)⟩
theorem lw_p36 : lw_okq (⟨"LayeredChartersModel", "sumOf", "(I)I"⟩, 9) := ⟨⟨by decide +kernel, by decide +kernel⟩, List.mem_of_getElem? (i := 477) (by decide +kernel), List.mem_of_getElem? (i := 652) (by decide +kernel), List.mem_of_getElem? (i := 653) (by decide +kernel)⟩
theorem lw_p37 : lw_okq (⟨"LayeredChartersModel", "triplesNow", "()I"⟩, 9) := ⟨⟨by decide +kernel, by decide +kernel⟩, List.mem_of_getElem? (i := 477) (by decide +kernel), List.mem_of_getElem? (i := 656) (by decide +kernel), List.mem_of_getElem? (i := 657) (by decide +kernel)⟩
theorem lw_p38 : lw_okq (⟨"LayeredChartersModel", "triples", "(III)I"⟩, 9) := ⟨⟨by decide +kernel, by decide +kernel⟩, List.mem_of_getElem? (i := 477) (by decide +kernel), List.mem_of_getElem? (i := 660) (by decide +kernel), List.mem_of_getElem? (i := 661) (by decide +kernel)⟩
theorem lw_p39 : lw_okq (⟨"LayeredChartersModel", "wrong", "()I"⟩, 9) := ⟨⟨by decide +kernel, by decide +kernel⟩, List.mem_of_getElem? (i := 477) (by decide +kernel), List.mem_of_getElem? (i := 693) (by decide +kernel), List.mem_of_getElem? (i := 694) (by decide +kernel)⟩
theorem lw_p40 : lw_okq (⟨"LayeredChartersModel", "right", "(I)I"⟩, 9) := ⟨⟨by decide +kernel, by decide +kernel⟩, List.mem_of_getElem? (i := 477) (by decide +kernel), List.mem_of_getElem? (i := 697) (by decide +kernel), List.mem_of_getElem? (i := 698) (by decide +kernel)⟩
theorem lw_p41 : lw_okq (⟨"LayeredChartersModel", "next", "(I)I"⟩, 9) := ⟨⟨by decide +kernel, by decide +kernel⟩, List.mem_of_getElem? (i := 477) (by decide +kernel), List.mem_of_getElem? (i := 701) (by decide +kernel), List.mem_of_getElem? (i := 702) (by decide +kernel)⟩
theorem lw_p42 : lw_okq (⟨"LayeredChartersModel", "whole", "(I)I"⟩, 9) := ⟨⟨by decide +kernel, by decide +kernel⟩, List.mem_of_getElem? (i := 477) (by decide +kernel), List.mem_of_getElem? (i := 708) (by decide +kernel), List.mem_of_getElem? (i := 709) (by decide +kernel)⟩
def lw_privs_3 : List (MethodName × Nat) := [(⟨"LayeredChartersModel", "reason", "(III)I"⟩, 9), (⟨"LayeredChartersModel", "oddsOf", "(I)I"⟩, 9), (⟨"LayeredChartersModel", "areAtOdds", "(II)Z"⟩, 9), (⟨"LayeredChartersModel", "mayDo", "(I)I"⟩, 9), (⟨"LayeredChartersModel", "sumOf", "(I)I"⟩, 9), (⟨"LayeredChartersModel", "triplesNow", "()I"⟩, 9), (⟨"LayeredChartersModel", "triples", "(III)I"⟩, 9), (⟨"LayeredChartersModel", "wrong", "()I"⟩, 9), (⟨"LayeredChartersModel", "right", "(I)I"⟩, 9), (⟨"LayeredChartersModel", "next", "(I)I"⟩, 9), (⟨"LayeredChartersModel", "whole", "(I)I"⟩, 9)]
theorem lw_r3 : ∀ q ∈ lw_privs_3, lw_okq q := List.forall_mem_cons.mpr ⟨lw_p32, List.forall_mem_cons.mpr ⟨lw_p33, List.forall_mem_cons.mpr ⟨lw_p34, List.forall_mem_cons.mpr ⟨lw_p35, List.forall_mem_cons.mpr ⟨lw_p36, List.forall_mem_cons.mpr ⟨lw_p37, List.forall_mem_cons.mpr ⟨lw_p38, List.forall_mem_cons.mpr ⟨lw_p39, List.forall_mem_cons.mpr ⟨lw_p40, List.forall_mem_cons.mpr ⟨lw_p41, List.forall_mem_cons.mpr ⟨lw_p42, fun _ h => absurd h List.not_mem_nil⟩⟩⟩⟩⟩⟩⟩⟩⟩⟩⟩
def lw_privs : List (MethodName × Nat) := lw_privs_1 ++ (lw_privs_2 ++ (lw_privs_3))
def lw_tbl : List Cond := k2_sels lw_privs ++ tables_1
theorem lw_privs_ok : ∀ q ∈ lw_privs, lw_okq q := by
  show ∀ q ∈ lw_privs_1 ++ (lw_privs_2 ++ (lw_privs_3)), lw_okq q
  exact List.forall_mem_append.mpr ⟨lw_r1, List.forall_mem_append.mpr ⟨lw_r2, lw_r3⟩⟩
-- ===== end of PART A; then your names; then what follows =====
end
section
/-! ===== BEGIN words of one list among another's, by their places ===== -/
theorem goodIn_r {big : List Cond} (ws : List Cond) (ps : List Nat) (hp : ws = ps.filterMap (fun i => big[i]?)) (h : ws.all goodWord = true) : GoodIn big ws := by
  intro w hw
  have h1 := List.all_eq_true.mp h w hw
  rw [hp] at hw
  obtain ⟨i, -, hi⟩ := List.mem_filterMap.mp hw
  have hm : w ∈ big := by first | exact List.mem_of_getElem? hi | exact List.getElem?_mem hi
  exact ⟨hm, good_of_word h1⟩
theorem goodIn_app {big a b : List Cond} (ha : GoodIn big a) (hb : GoodIn big b) : GoodIn big (a ++ b) := fun w h => (List.mem_append.mp h).elim (ha w) (hb w)
theorem goodIn_ca {big a b : List Cond} {c : Cond} (ha : GoodIn big (c :: a)) (hb : GoodIn big b) : GoodIn big (c :: (a ++ b)) := fun w h => (List.mem_cons.mp h).elim (fun e => ha w (List.mem_cons.mpr (Or.inl e))) (fun h => (List.mem_append.mp h).elim (fun h => ha w (List.mem_cons.mpr (Or.inr h))) (hb w))
theorem goodIn_sub {big ws : List Cond} (hm : ∀ w ∈ ws, w ∈ big) (h : ws.all goodWord = true) : GoodIn big ws := fun w hw => ⟨hm w hw, good_of_word (List.all_eq_true.mp h w hw)⟩
/-! ===== END ===== -/

/-! ===== BEGIN printed: names, fields, word lists, decode rows ===== -/
def RX0 : String := "LayeredCharters$Guild"
def TX0 : u_T := fun k => match k with
  | 0 => ("LayeredCharters$Guild", "crafts", "[I", true)
  | 1 => ("LayeredCharters$Guild", "ranks", "[I", true)
  | 2 => ("LayeredCharters$Guild", "done", "[I", true)
  | 3 => ("LayeredCharters$Guild", "refused", "[I", true)
  | 4 => ("LayeredCharters$Guild", "refusals", "[I", true)
  | 5 => ("LayeredCharters$Guild", "size", "I", false)
  | _ => ("LayeredCharters$Guild", "doneInAll", "I", false)
def tyX0 : Nat → FieldType := fun k => match k with
  | 0 => .array .int
  | 1 => .array .int
  | 2 => .array .int
  | 3 => .array .int
  | 4 => .array .int
  | 5 => .int
  | _ => .int
abbrev wsX00 : List Cond := u_ws RX0 TX0 7
theorem nmX0 : ∀ a, a < 7 → ∀ b, b < 7 → a ≠ b → (TX0 a).2.1 ≠ (TX0 b).2.1 := by decide +kernel
theorem tyX0_ok : ∀ k, k < 7 → parseFieldDescriptor (TX0 k).2.2.1 = some (tyX0 k) := by decide +kernel
abbrev cX0_init : ByteArray := prog_2_method_1_code
def yX0_init : MethodName := ⟨RX0, "<init>", "()V"⟩
abbrev cX0_copyFrom : ByteArray := prog_2_method_2_code
def yX0_copyFrom : MethodName := ⟨RX0, "copyFrom", "(LLayeredCharters$Guild;)V"⟩
abbrev cX0_has : ByteArray := prog_2_method_3_code
def yX0_has : MethodName := ⟨RX0, "has", "(I)Z"⟩
abbrev cX0_append : ByteArray := prog_2_method_4_code
def yX0_append : MethodName := ⟨RX0, "append", "(II)V"⟩
abbrev cX0_remove : ByteArray := prog_2_method_5_code
def yX0_remove : MethodName := ⟨RX0, "remove", "(I)V"⟩
abbrev cX0_noteDone : ByteArray := prog_2_method_6_code
def yX0_noteDone : MethodName := ⟨RX0, "noteDone", "(I)V"⟩
abbrev cX0_noteRefusal : ByteArray := prog_2_method_7_code
def yX0_noteRefusal : MethodName := ⟨RX0, "noteRefusal", "(II)V"⟩
abbrev cX0_refusalsOf : ByteArray := prog_2_method_8_code
def yX0_refusalsOf : MethodName := ⟨RX0, "refusalsOf", "(I)I"⟩
def RX1 : String := "LayeredCharters$Pad"
def TX1 : u_T := fun k => match k with
  | 0 => ("LayeredCharters$Pad", "signs", "[C", true)
  | _ => ("LayeredCharters$Pad", "length", "I", false)
def tyX1 : Nat → FieldType := fun k => match k with
  | 0 => .array .char
  | _ => .int
abbrev wsX10 : List Cond := u_ws RX1 TX1 2
theorem nmX1 : ∀ a, a < 2 → ∀ b, b < 2 → a ≠ b → (TX1 a).2.1 ≠ (TX1 b).2.1 := by decide +kernel
theorem tyX1_ok : ∀ k, k < 2 → parseFieldDescriptor (TX1 k).2.2.1 = some (tyX1 k) := by decide +kernel
abbrev cX1_init : ByteArray := prog_3_method_1_code
def yX1_init : MethodName := ⟨RX1, "<init>", "()V"⟩
abbrev cX1_signsIn : ByteArray := prog_3_method_2_code
def yX1_signsIn : MethodName := ⟨RX1, "signsIn", "(J)I"⟩
abbrev cX1_append : ByteArray := prog_3_method_3_code
def yX1_append : MethodName := ⟨RX1, "append", "(JI)V"⟩
abbrev cX1_clear : ByteArray := prog_3_method_4_code
def yX1_clear : MethodName := ⟨RX1, "clear", "()V"⟩
abbrev cX1_firstFault : ByteArray := prog_3_method_5_code
def yX1_firstFault : MethodName := ⟨RX1, "firstFault", "()I"⟩
abbrev cX1_canStand : ByteArray := prog_3_method_6_code
def yX1_canStand : MethodName := ⟨RX1, "canStand", "(II)Z"⟩
abbrev cX1_placeAfter : ByteArray := prog_3_method_7_code
def yX1_placeAfter : MethodName := ⟨RX1, "placeAfter", "(II)I"⟩
abbrev cX1_signAt : ByteArray := prog_3_method_8_code
def yX1_signAt : MethodName := ⟨RX1, "signAt", "(I)C"⟩
abbrev cX1_rulesInText : ByteArray := prog_3_method_9_code
def yX1_rulesInText : MethodName := ⟨RX1, "rulesInText", "()I"⟩
abbrev cX1_appendTo : ByteArray := prog_3_method_10_code
def yX1_appendTo : MethodName := ⟨RX1, "appendTo", "(LLayeredCharters$Rules;)V"⟩
abbrev cX1_kindOf : ByteArray := prog_3_method_11_code
def yX1_kindOf : MethodName := ⟨RX1, "kindOf", "(C)I"⟩
abbrev cX1_numberOf : ByteArray := prog_3_method_12_code
def yX1_numberOf : MethodName := ⟨RX1, "numberOf", "(CI)I"⟩
def RX2 : String := "LayeredCharters$Rules"
def TX2 : u_T := fun k => match k with
  | 0 => ("LayeredCharters$Rules", "layers", "[I", true)
  | 1 => ("LayeredCharters$Rules", "kinds", "[I", true)
  | 2 => ("LayeredCharters$Rules", "crafts", "[I", true)
  | 3 => ("LayeredCharters$Rules", "deeds", "[I", true)
  | 4 => ("LayeredCharters$Rules", "seals", "[I", true)
  | 5 => ("LayeredCharters$Rules", "pairs", "[I", true)
  | _ => ("LayeredCharters$Rules", "size", "I", false)
def tyX2 : Nat → FieldType := fun k => match k with
  | 0 => .array .int
  | 1 => .array .int
  | 2 => .array .int
  | 3 => .array .int
  | 4 => .array .int
  | 5 => .array .int
  | _ => .int
abbrev wsX20 : List Cond := u_ws RX2 TX2 7
theorem nmX2 : ∀ a, a < 7 → ∀ b, b < 7 → a ≠ b → (TX2 a).2.1 ≠ (TX2 b).2.1 := by decide +kernel
theorem tyX2_ok : ∀ k, k < 7 → parseFieldDescriptor (TX2 k).2.2.1 = some (tyX2 k) := by decide +kernel
abbrev cX2_init : ByteArray := prog_4_method_1_code
def yX2_init : MethodName := ⟨RX2, "<init>", "()V"⟩
abbrev cX2_copyFrom : ByteArray := prog_4_method_2_code
def yX2_copyFrom : MethodName := ⟨RX2, "copyFrom", "(LLayeredCharters$Rules;)V"⟩
abbrev cX2_has : ByteArray := prog_4_method_3_code
def yX2_has : MethodName := ⟨RX2, "has", "(I)Z"⟩
abbrev cX2_append : ByteArray := prog_4_method_4_code
def yX2_append : MethodName := ⟨RX2, "append", "(IIIII)V"⟩
abbrev cX2_remove : ByteArray := prog_4_method_5_code
def yX2_remove : MethodName := ⟨RX2, "remove", "(I)V"⟩
abbrev cX2_sizeOfKind : ByteArray := prog_4_method_6_code
def yX2_sizeOfKind : MethodName := ⟨RX2, "sizeOfKind", "(I)I"⟩
abbrev cX2_oddsOf : ByteArray := prog_4_method_7_code
def yX2_oddsOf : MethodName := ⟨RX2, "oddsOf", "(I)I"⟩
abbrev cX2_oddPairs : ByteArray := prog_4_method_8_code
def yX2_oddPairs : MethodName := ⟨RX2, "oddPairs", "()I"⟩
abbrev cX2_areAtOdds : ByteArray := prog_4_method_9_code
def yX2_areAtOdds : MethodName := ⟨RX2, "areAtOdds", "(II)Z"⟩
abbrev cX2_reason : ByteArray := prog_4_method_10_code
def yX2_reason : MethodName := ⟨RX2, "reason", "(II)I"⟩
abbrev cX2_allowsByLayers : ByteArray := prog_4_method_11_code
def yX2_allowsByLayers : MethodName := ⟨RX2, "allowsByLayers", "(II)Z"⟩
abbrev cX2_strongest : ByteArray := prog_4_method_12_code
def yX2_strongest : MethodName := ⟨RX2, "strongest", "(III)I"⟩
abbrev cX2_allowedPairs : ByteArray := prog_4_method_13_code
def yX2_allowedPairs : MethodName := ⟨RX2, "allowedPairs", "(I)I"⟩
abbrev cX2_triples : ByteArray := prog_4_method_14_code
def yX2_triples : MethodName := ⟨RX2, "triples", "()I"⟩
abbrev cX2_leastRankFor : ByteArray := prog_4_method_15_code
def yX2_leastRankFor : MethodName := ⟨RX2, "leastRankFor", "(I)I"⟩
abbrev cX2_permittedPairs : ByteArray := prog_4_method_16_code
def yX2_permittedPairs : MethodName := ⟨RX2, "permittedPairs", "()I"⟩
abbrev cX2_heldPairsOfSeal : ByteArray := prog_4_method_17_code
def yX2_heldPairsOfSeal : MethodName := ⟨RX2, "heldPairsOfSeal", "(I)I"⟩
abbrev cX2_heldPairs : ByteArray := prog_4_method_18_code
def yX2_heldPairs : MethodName := ⟨RX2, "heldPairs", "(I)I"⟩
abbrev cX2_lifts : ByteArray := prog_4_method_19_code
def yX2_lifts : MethodName := ⟨RX2, "lifts", "(II)Z"⟩
def RX3 : String := "LayeredCharters$State"
def TX3 : u_T := fun k => match k with
  | 0 => ("LayeredCharters$State", "rules", "LLayeredCharters$Rules;", true)
  | _ => ("LayeredCharters$State", "guild", "LLayeredCharters$Guild;", true)
def tyX3 : Nat → FieldType := fun k => match k with
  | 0 => .object "LayeredCharters$Rules"
  | _ => .object "LayeredCharters$Guild"
abbrev wsX30 : List Cond := u_ws RX3 TX3 2
theorem nmX3 : ∀ a, a < 2 → ∀ b, b < 2 → a ≠ b → (TX3 a).2.1 ≠ (TX3 b).2.1 := by decide +kernel
theorem tyX3_ok : ∀ k, k < 2 → parseFieldDescriptor (TX3 k).2.2.1 = some (tyX3 k) := by decide +kernel
abbrev cX3_init : ByteArray := prog_5_method_1_code
def yX3_init : MethodName := ⟨RX3, "<init>", "()V"⟩
abbrev cX3_copyFrom : ByteArray := prog_5_method_2_code
def yX3_copyFrom : MethodName := ⟨RX3, "copyFrom", "(LLayeredCharters$State;)V"⟩
def RX4 : String := "LayeredCharters"
def TX4 : u_T := fun k => match k with
  | 0 => ("LayeredCharters", "now", "LLayeredCharters$State;", true)
  | 1 => ("LayeredCharters", "pad", "LLayeredCharters$Pad;", true)
  | 2 => ("LayeredCharters", "slots", "[LLayeredCharters$State;", true)
  | 3 => ("LayeredCharters", "history", "[LLayeredCharters$State;", true)
  | 4 => ("LayeredCharters", "remembered", "I", false)
  | _ => ("LayeredCharters", "trial", "LLayeredCharters$Rules;", true)
def tyX4 : Nat → FieldType := fun k => match k with
  | 0 => .object "LayeredCharters$State"
  | 1 => .object "LayeredCharters$Pad"
  | 2 => .array (.object "LayeredCharters$State")
  | 3 => .array (.object "LayeredCharters$State")
  | 4 => .int
  | _ => .object "LayeredCharters$Rules"
abbrev wsX40 : List Cond := u_ws RX4 TX4 6
theorem nmX4 : ∀ a, a < 6 → ∀ b, b < 6 → a ≠ b → (TX4 a).2.1 ≠ (TX4 b).2.1 := by decide +kernel
theorem tyX4_ok : ∀ k, k < 6 → parseFieldDescriptor (TX4 k).2.2.1 = some (tyX4 k) := by decide +kernel
abbrev cX4_init : ByteArray := prog_1_method_1_code
def yX4_init : MethodName := ⟨RX4, "<init>", "()V"⟩
abbrev cX4_add : ByteArray := prog_1_method_2_code
def yX4_add : MethodName := ⟨RX4, "add", "(IIIII)I"⟩
abbrev cX4_strike : ByteArray := prog_1_method_3_code
def yX4_strike : MethodName := ⟨RX4, "strike", "(I)I"⟩
abbrev cX4_seal : ByteArray := prog_1_method_4_code
def yX4_seal : MethodName := ⟨RX4, "seal", "(II)I"⟩
abbrev cX4_move : ByteArray := prog_1_method_5_code
def yX4_move : MethodName := ⟨RX4, "move", "(II)I"⟩
abbrev cX4_read : ByteArray := prog_1_method_6_code
def yX4_read : MethodName := ⟨RX4, "read", "()I"⟩
abbrev cX4_tidy : ByteArray := prog_1_method_7_code
def yX4_tidy : MethodName := ⟨RX4, "tidy", "()I"⟩
abbrev cX4_join : ByteArray := prog_1_method_8_code
def yX4_join : MethodName := ⟨RX4, "join", "(II)I"⟩
abbrev cX4_leave : ByteArray := prog_1_method_9_code
def yX4_leave : MethodName := ⟨RX4, "leave", "(I)I"⟩
abbrev cX4_rank : ByteArray := prog_1_method_10_code
def yX4_rank : MethodName := ⟨RX4, "rank", "(II)I"⟩
abbrev cX4_act : ByteArray := prog_1_method_11_code
def yX4_act : MethodName := ⟨RX4, "act", "(II)I"⟩
abbrev cX4_rule : ByteArray := prog_1_method_12_code
def yX4_rule : MethodName := ⟨RX4, "rule", "(II)I"⟩
abbrev cX4_member : ByteArray := prog_1_method_13_code
def yX4_member : MethodName := ⟨RX4, "member", "(II)I"⟩
abbrev cX4_allowed : ByteArray := prog_1_method_14_code
def yX4_allowed : MethodName := ⟨RX4, "allowed", "(IIII)I"⟩
abbrev cX4_why : ByteArray := prog_1_method_15_code
def yX4_why : MethodName := ⟨RX4, "why", "(III)I"⟩
abbrev cX4_count : ByteArray := prog_1_method_16_code
def yX4_count : MethodName := ⟨RX4, "count", "(I)I"⟩
abbrev cX4_leastRank : ByteArray := prog_1_method_17_code
def yX4_leastRank : MethodName := ⟨RX4, "leastRank", "(II)I"⟩
abbrev cX4_ifStruck : ByteArray := prog_1_method_18_code
def yX4_ifStruck : MethodName := ⟨RX4, "ifStruck", "(I)I"⟩
abbrev cX4_worstBan : ByteArray := prog_1_method_19_code
def yX4_worstBan : MethodName := ⟨RX4, "worstBan", "()I"⟩
abbrev cX4_bestWaiver : ByteArray := prog_1_method_20_code
def yX4_bestWaiver : MethodName := ⟨RX4, "bestWaiver", "(I)I"⟩
abbrev cX4_put : ByteArray := prog_1_method_21_code
def yX4_put : MethodName := ⟨RX4, "put", "(J)I"⟩
abbrev cX4_wipe : ByteArray := prog_1_method_22_code
def yX4_wipe : MethodName := ⟨RX4, "wipe", "()I"⟩
abbrev cX4_fault : ByteArray := prog_1_method_23_code
def yX4_fault : MethodName := ⟨RX4, "fault", "()I"⟩
abbrev cX4_undo : ByteArray := prog_1_method_24_code
def yX4_undo : MethodName := ⟨RX4, "undo", "()I"⟩
abbrev cX4_save : ByteArray := prog_1_method_25_code
def yX4_save : MethodName := ⟨RX4, "save", "(I)I"⟩
abbrev cX4_restore : ByteArray := prog_1_method_26_code
def yX4_restore : MethodName := ⟨RX4, "restore", "(I)I"⟩
abbrev cX4_remember : ByteArray := prog_1_method_27_code
def yX4_remember : MethodName := ⟨RX4, "remember", "()V"⟩
abbrev cX4_dropOldest : ByteArray := prog_1_method_28_code
def yX4_dropOldest : MethodName := ⟨RX4, "dropOldest", "()V"⟩
abbrev cX4_copyInto : ByteArray := prog_1_method_29_code
def yX4_copyInto : MethodName := ⟨RX4, "copyInto", "(LLayeredCharters$State;)LLayeredCharters$State;"⟩
abbrev cX4_triplesWithout : ByteArray := prog_1_method_30_code
def yX4_triplesWithout : MethodName := ⟨RX4, "triplesWithout", "(I)I"⟩
abbrev cX4_triplesWithWaiver : ByteArray := prog_1_method_31_code
def yX4_triplesWithWaiver : MethodName := ⟨RX4, "triplesWithWaiver", "(II)I"⟩
abbrev cX4_isIdle : ByteArray := prog_1_method_32_code
def yX4_isIdle : MethodName := ⟨RX4, "isIdle", "(II)Z"⟩
abbrev cX4_firstIdle : ByteArray := prog_1_method_33_code
def yX4_firstIdle : MethodName := ⟨RX4, "firstIdle", "()I"⟩
abbrev cX4_idleRules : ByteArray := prog_1_method_34_code
def yX4_idleRules : MethodName := ⟨RX4, "idleRules", "()I"⟩
abbrev cX4_deedsAllowed : ByteArray := prog_1_method_35_code
def yX4_deedsAllowed : MethodName := ⟨RX4, "deedsAllowed", "(II)I"⟩
abbrev cX4_isBetween : ByteArray := prog_1_method_36_code
def yX4_isBetween : MethodName := ⟨RX4, "isBetween", "(III)Z"⟩
abbrev cX4_isLayer : ByteArray := prog_1_method_37_code
def yX4_isLayer : MethodName := ⟨RX4, "isLayer", "(I)Z"⟩
abbrev cX4_isCraft : ByteArray := prog_1_method_38_code
def yX4_isCraft : MethodName := ⟨RX4, "isCraft", "(I)Z"⟩
abbrev cX4_isDeed : ByteArray := prog_1_method_39_code
def yX4_isDeed : MethodName := ⟨RX4, "isDeed", "(I)Z"⟩
abbrev cX4_isSeal : ByteArray := prog_1_method_40_code
def yX4_isSeal : MethodName := ⟨RX4, "isSeal", "(I)Z"⟩
abbrev cX4_isRank : ByteArray := prog_1_method_41_code
def yX4_isRank : MethodName := ⟨RX4, "isRank", "(I)Z"⟩
abbrev cX4_pairsOf : ByteArray := prog_1_method_42_code
def yX4_pairsOf : MethodName := ⟨RX4, "pairsOf", "(II)I"⟩
abbrev cX4_closeGap : ByteArray := prog_1_method_43_code
def yX4_closeGap : MethodName := ⟨RX4, "closeGap", "([II)V"⟩
abbrev cX4_copyRow : ByteArray := prog_1_method_44_code
def yX4_copyRow : MethodName := ⟨RX4, "copyRow", "([I[I)V"⟩
def RX5 : String := "LayeredChartersModel"
def TX5 : u_T := fun k => match k with
  | 0 => ("LayeredChartersModel", "s", "[I", true)
  | 1 => ("LayeredChartersModel", "history", "[I", true)
  | 2 => ("LayeredChartersModel", "kept", "I", false)
  | 3 => ("LayeredChartersModel", "slots", "[I", true)
  | 4 => ("LayeredChartersModel", "isSaved", "[Z", true)
  | 5 => ("LayeredChartersModel", "pad", "[I", true)
  | 6 => ("LayeredChartersModel", "length", "I", false)
  | 7 => ("LayeredChartersModel", "strong", "[I", true)
  | _ => ("LayeredChartersModel", "told", "I", false)
def tyX5 : Nat → FieldType := fun k => match k with
  | 0 => .array .int
  | 1 => .array .int
  | 2 => .int
  | 3 => .array .int
  | 4 => .array .boolean
  | 5 => .array .int
  | 6 => .int
  | 7 => .array .int
  | _ => .int
abbrev wsX50 : List Cond := u_ws RX5 TX5 9
theorem nmX5 : ∀ a, a < 9 → ∀ b, b < 9 → a ≠ b → (TX5 a).2.1 ≠ (TX5 b).2.1 := by decide +kernel
theorem tyX5_ok : ∀ k, k < 9 → parseFieldDescriptor (TX5 k).2.2.1 = some (tyX5 k) := by decide +kernel
abbrev cX5_init : ByteArray := prog_7_method_1_code
def yX5_init : MethodName := ⟨RX5, "<init>", "()V"⟩
abbrev cX5_in : ByteArray := prog_7_method_3_code
def yX5_in : MethodName := ⟨RX5, "in", "(III)Z"⟩
abbrev cX5_isRule : ByteArray := prog_7_method_4_code
def yX5_isRule : MethodName := ⟨RX5, "isRule", "(I)Z"⟩
abbrev cX5_isMember : ByteArray := prog_7_method_5_code
def yX5_isMember : MethodName := ⟨RX5, "isMember", "(I)Z"⟩
abbrev cX5_isAsked : ByteArray := prog_7_method_6_code
def yX5_isAsked : MethodName := ⟨RX5, "isAsked", "(II)Z"⟩
abbrev cX5_at : ByteArray := prog_7_method_7_code
def yX5_at : MethodName := ⟨RX5, "at", "(II)I"⟩
abbrev cX5_of : ByteArray := prog_7_method_8_code
def yX5_of : MethodName := ⟨RX5, "of", "(II)I"⟩
abbrev cX5_ofGuild : ByteArray := prog_7_method_9_code
def yX5_ofGuild : MethodName := ⟨RX5, "ofGuild", "(II)I"⟩
abbrev cX5_record : ByteArray := prog_7_method_10_code
def yX5_record : MethodName := ⟨RX5, "record", "()V"⟩
abbrev cX5_fits : ByteArray := prog_7_method_11_code
def yX5_fits : MethodName := ⟨RX5, "fits", "(III)Z"⟩
abbrev cX5_layStrong : ByteArray := prog_7_method_12_code
def yX5_layStrong : MethodName := ⟨RX5, "layStrong", "(IIIII)V"⟩
abbrev cX5_isPermitted : ByteArray := prog_7_method_13_code
def yX5_isPermitted : MethodName := ⟨RX5, "isPermitted", "(III)Z"⟩
abbrev cX5_least : ByteArray := prog_7_method_14_code
def yX5_least : MethodName := ⟨RX5, "least", "(IIIII)I"⟩
abbrev cX5_leastNow : ByteArray := prog_7_method_15_code
def yX5_leastNow : MethodName := ⟨RX5, "leastNow", "(II)I"⟩
abbrev cX5_reason : ByteArray := prog_7_method_16_code
def yX5_reason : MethodName := ⟨RX5, "reason", "(III)I"⟩
abbrev cX5_triples : ByteArray := prog_7_method_17_code
def yX5_triples : MethodName := ⟨RX5, "triples", "(III)I"⟩
abbrev cX5_triplesNow : ByteArray := prog_7_method_18_code
def yX5_triplesNow : MethodName := ⟨RX5, "triplesNow", "()I"⟩
abbrev cX5_isIdle : ByteArray := prog_7_method_19_code
def yX5_isIdle : MethodName := ⟨RX5, "isIdle", "(I)Z"⟩
abbrev cX5_areAtOdds : ByteArray := prog_7_method_20_code
def yX5_areAtOdds : MethodName := ⟨RX5, "areAtOdds", "(II)Z"⟩
abbrev cX5_adds : ByteArray := prog_7_method_21_code
def yX5_adds : MethodName := ⟨RX5, "adds", "(IIIII)I"⟩
abbrev cX5_strikes : ByteArray := prog_7_method_22_code
def yX5_strikes : MethodName := ⟨RX5, "strikes", "(I)V"⟩
abbrev cX5_add : ByteArray := prog_7_method_23_code
def yX5_add : MethodName := ⟨RX5, "add", "(IIIII)I"⟩
abbrev cX5_strike : ByteArray := prog_7_method_24_code
def yX5_strike : MethodName := ⟨RX5, "strike", "(I)I"⟩
abbrev cX5_lays : ByteArray := prog_7_method_25_code
def yX5_lays : MethodName := ⟨RX5, "lays", "(II)I"⟩
abbrev cX5_seal : ByteArray := prog_7_method_26_code
def yX5_seal : MethodName := ⟨RX5, "seal", "(II)I"⟩
abbrev cX5_move : ByteArray := prog_7_method_27_code
def yX5_move : MethodName := ⟨RX5, "move", "(II)I"⟩
abbrev cX5_firstIdle : ByteArray := prog_7_method_28_code
def yX5_firstIdle : MethodName := ⟨RX5, "firstIdle", "()I"⟩
abbrev cX5_tidy : ByteArray := prog_7_method_29_code
def yX5_tidy : MethodName := ⟨RX5, "tidy", "()I"⟩
abbrev cX5_join : ByteArray := prog_7_method_30_code
def yX5_join : MethodName := ⟨RX5, "join", "(II)I"⟩
abbrev cX5_leave : ByteArray := prog_7_method_31_code
def yX5_leave : MethodName := ⟨RX5, "leave", "(I)I"⟩
abbrev cX5_rank : ByteArray := prog_7_method_32_code
def yX5_rank : MethodName := ⟨RX5, "rank", "(II)I"⟩
abbrev cX5_act : ByteArray := prog_7_method_33_code
def yX5_act : MethodName := ⟨RX5, "act", "(II)I"⟩
abbrev cX5_oddsOf : ByteArray := prog_7_method_34_code
def yX5_oddsOf : MethodName := ⟨RX5, "oddsOf", "(I)I"⟩
abbrev cX5_rule : ByteArray := prog_7_method_35_code
def yX5_rule : MethodName := ⟨RX5, "rule", "(II)I"⟩
abbrev cX5_mayDo : ByteArray := prog_7_method_36_code
def yX5_mayDo : MethodName := ⟨RX5, "mayDo", "(I)I"⟩
abbrev cX5_member : ByteArray := prog_7_method_37_code
def yX5_member : MethodName := ⟨RX5, "member", "(II)I"⟩
abbrev cX5_allowed : ByteArray := prog_7_method_38_code
def yX5_allowed : MethodName := ⟨RX5, "allowed", "(IIII)I"⟩
abbrev cX5_why : ByteArray := prog_7_method_39_code
def yX5_why : MethodName := ⟨RX5, "why", "(III)I"⟩
abbrev cX5_sumOf : ByteArray := prog_7_method_40_code
def yX5_sumOf : MethodName := ⟨RX5, "sumOf", "(I)I"⟩
abbrev cX5_count : ByteArray := prog_7_method_41_code
def yX5_count : MethodName := ⟨RX5, "count", "(I)I"⟩
abbrev cX5_leastRank : ByteArray := prog_7_method_42_code
def yX5_leastRank : MethodName := ⟨RX5, "leastRank", "(II)I"⟩
abbrev cX5_ifStruck : ByteArray := prog_7_method_43_code
def yX5_ifStruck : MethodName := ⟨RX5, "ifStruck", "(I)I"⟩
abbrev cX5_worstBan : ByteArray := prog_7_method_44_code
def yX5_worstBan : MethodName := ⟨RX5, "worstBan", "()I"⟩
abbrev cX5_bestWaiver : ByteArray := prog_7_method_45_code
def yX5_bestWaiver : MethodName := ⟨RX5, "bestWaiver", "(I)I"⟩
abbrev cX5_put : ByteArray := prog_7_method_46_code
def yX5_put : MethodName := ⟨RX5, "put", "(J)I"⟩
abbrev cX5_wipe : ByteArray := prog_7_method_47_code
def yX5_wipe : MethodName := ⟨RX5, "wipe", "()I"⟩
abbrev cX5_next : ByteArray := prog_7_method_48_code
def yX5_next : MethodName := ⟨RX5, "next", "(I)I"⟩
abbrev cX5_kindFor : ByteArray := prog_7_method_49_code
def yX5_kindFor : MethodName := ⟨RX5, "kindFor", "(I)I"⟩
abbrev cX5_right : ByteArray := prog_7_method_50_code
def yX5_right : MethodName := ⟨RX5, "right", "(I)I"⟩
abbrev cX5_whole : ByteArray := prog_7_method_51_code
def yX5_whole : MethodName := ⟨RX5, "whole", "(I)I"⟩
abbrev cX5_wrong : ByteArray := prog_7_method_52_code
def yX5_wrong : MethodName := ⟨RX5, "wrong", "()I"⟩
abbrev cX5_fault : ByteArray := prog_7_method_53_code
def yX5_fault : MethodName := ⟨RX5, "fault", "()I"⟩
abbrev cX5_read : ByteArray := prog_7_method_54_code
def yX5_read : MethodName := ⟨RX5, "read", "()I"⟩
abbrev cX5_undo : ByteArray := prog_7_method_55_code
def yX5_undo : MethodName := ⟨RX5, "undo", "()I"⟩
abbrev cX5_save : ByteArray := prog_7_method_56_code
def yX5_save : MethodName := ⟨RX5, "save", "(I)I"⟩
abbrev cX5_restore : ByteArray := prog_7_method_57_code
def yX5_restore : MethodName := ⟨RX5, "restore", "(I)I"⟩
def RJ6 : String := "java/lang/Integer"
def TJ6 : u_T := fun k => match k with
  | _ => ("", "", "", false)
def tyJ6 : Nat → FieldType := fun k => match k with
  | _ => .int
abbrev wsJ60 : List Cond := u_ws RJ6 TJ6 0
theorem nmJ6 : ∀ a, a < 0 → ∀ b, b < 0 → a ≠ b → (TJ6 a).2.1 ≠ (TJ6 b).2.1 := by decide +kernel
theorem tyJ6_ok : ∀ k, k < 0 → parseFieldDescriptor (TJ6 k).2.2.1 = some (tyJ6 k) := by decide +kernel
abbrev cJ6_bitCount_0f7a4 : ByteArray := prog_8_method_49_code
def yJ6_bitCount_0f7a4 : MethodName := ⟨RJ6, "bitCount", "(I)I"⟩
def RJ9 : String := "java/lang/Math"
def TJ9 : u_T := fun k => match k with
  | _ => ("", "", "", false)
def tyJ9 : Nat → FieldType := fun k => match k with
  | _ => .int
abbrev wsJ90 : List Cond := u_ws RJ9 TJ9 0
theorem nmJ9 : ∀ a, a < 0 → ∀ b, b < 0 → a ≠ b → (TJ9 a).2.1 ≠ (TJ9 b).2.1 := by decide +kernel
theorem tyJ9_ok : ∀ k, k < 0 → parseFieldDescriptor (TJ9 k).2.2.1 = some (tyJ9 k) := by decide +kernel
abbrev cJ9_max_7cf53 : ByteArray := prog_9_method_65_code
def yJ9_max_7cf53 : MethodName := ⟨RJ9, "max", "(II)I"⟩
abbrev cJ9_min_7cf53 : ByteArray := prog_9_method_69_code
def yJ9_min_7cf53 : MethodName := ⟨RJ9, "min", "(II)I"⟩
def RJ10 : String := "java/lang/System"
def TJ10 : u_T := fun k => match k with
  | _ => ("", "", "", false)
def tyJ10 : Nat → FieldType := fun k => match k with
  | _ => .int
abbrev wsJ100 : List Cond := u_ws RJ10 TJ10 0
theorem nmJ10 : ∀ a, a < 0 → ∀ b, b < 0 → a ≠ b → (TJ10 a).2.1 ≠ (TJ10 b).2.1 := by decide +kernel
theorem tyJ10_ok : ∀ k, k < 0 → parseFieldDescriptor (TJ10 k).2.2.1 = some (tyJ10 k) := by decide +kernel
def wsX0_init : List Cond := .code yX0_init cX0_init 1 none :: ([.methodLink RX0 3 objectInit, .instanceMethod objectInit, .code objectInit ⟨#[0xb1]⟩ 1 none, .arrayClass .int, .fieldLink RX0 9 "LayeredCharters$Guild" "crafts" "[I", .fieldLink RX0 15 "LayeredCharters$Guild" "ranks" "[I", .fieldLink RX0 18 "LayeredCharters$Guild" "done" "[I", .fieldLink RX0 21 "LayeredCharters$Guild" "refused" "[I", .fieldLink RX0 24 "LayeredCharters$Guild" "refusals" "[I", .fieldLink RX0 27 "LayeredCharters$Guild" "size" "I", .fieldLink RX0 31 "LayeredCharters$Guild" "doneInAll" "I"] ++ wsX00)
def wsX4_copyRow : List Cond := .code yX4_copyRow cX4_copyRow 2 none :: ([.methodLink RX4 229 Lib.Math.min.name, .static Lib.Math.min.name, .initialized "java/lang/Math", .code Lib.Math.min.name Lib.Math.min.code 2 (some .int), .methodLink RX4 232 arraycopyName, .native arraycopyName, .static arraycopyName, .initialized "java/lang/System"])
def wsX0_copyFrom : List Cond := .code yX0_copyFrom cX0_copyFrom 2 none :: ([.fieldLink RX0 9 "LayeredCharters$Guild" "crafts" "[I", .fieldLink RX0 15 "LayeredCharters$Guild" "ranks" "[I", .fieldLink RX0 18 "LayeredCharters$Guild" "done" "[I", .fieldLink RX0 21 "LayeredCharters$Guild" "refused" "[I", .fieldLink RX0 24 "LayeredCharters$Guild" "refusals" "[I", .fieldLink RX0 27 "LayeredCharters$Guild" "size" "I", .fieldLink RX0 31 "LayeredCharters$Guild" "doneInAll" "I", .static yX4_copyRow, .initialized RX4, .code yX4_copyRow cX4_copyRow 2 none, .methodLink RX4 229 Lib.Math.min.name, .static Lib.Math.min.name, .initialized "java/lang/Math", .code Lib.Math.min.name Lib.Math.min.code 2 (some .int), .methodLink RX4 232 arraycopyName, .native arraycopyName, .static arraycopyName, .initialized "java/lang/System"] ++ wsX00)
def wsX0_has : List Cond := .code yX0_has cX0_has 2 (some .boolean) :: ([.fieldLink RX0 27 "LayeredCharters$Guild" "size" "I"] ++ wsX00)
def wsX0_append : List Cond := .code yX0_append cX0_append 3 none :: ([.fieldLink RX0 27 "LayeredCharters$Guild" "size" "I", .fieldLink RX0 9 "LayeredCharters$Guild" "crafts" "[I", .fieldLink RX0 15 "LayeredCharters$Guild" "ranks" "[I", .fieldLink RX0 18 "LayeredCharters$Guild" "done" "[I", .fieldLink RX0 21 "LayeredCharters$Guild" "refused" "[I"] ++ wsX00)
def wsX4_closeGap : List Cond := .code yX4_closeGap cX4_closeGap 3 none :: ([.methodLink RX4 224 Lib.Math.max.name, .static Lib.Math.max.name, .initialized "java/lang/Math", .code Lib.Math.max.name Lib.Math.max.code 2 (some .int)])
def wsX0_remove : List Cond := .code yX0_remove cX0_remove 2 none :: ([.fieldLink RX0 9 "LayeredCharters$Guild" "crafts" "[I", .fieldLink RX0 15 "LayeredCharters$Guild" "ranks" "[I", .fieldLink RX0 18 "LayeredCharters$Guild" "done" "[I", .fieldLink RX0 21 "LayeredCharters$Guild" "refused" "[I", .fieldLink RX0 27 "LayeredCharters$Guild" "size" "I", .methodLink RX0 38 yX0_has, .instanceMethod yX0_has, .selects RX0 yX0_has yX0_has, .initialized RX0, .code yX0_has cX0_has 2 (some .boolean), .static yX4_closeGap, .initialized RX4, .code yX4_closeGap cX4_closeGap 3 none, .methodLink RX4 224 Lib.Math.max.name, .static Lib.Math.max.name, .initialized "java/lang/Math", .code Lib.Math.max.name Lib.Math.max.code 2 (some .int)] ++ wsX00)
def wsX0_noteDone : List Cond := .code yX0_noteDone cX0_noteDone 2 none :: ([.fieldLink RX0 18 "LayeredCharters$Guild" "done" "[I", .fieldLink RX0 31 "LayeredCharters$Guild" "doneInAll" "I", .methodLink RX0 38 yX0_has, .instanceMethod yX0_has, .selects RX0 yX0_has yX0_has, .initialized RX0, .code yX0_has cX0_has 2 (some .boolean), .fieldLink RX0 27 "LayeredCharters$Guild" "size" "I"] ++ wsX00)
def wsX4_isBetween : List Cond := .code yX4_isBetween cX4_isBetween 3 (some .boolean) :: ([])
def wsX0_noteRefusal : List Cond := .code yX0_noteRefusal cX0_noteRefusal 3 none :: ([.fieldLink RX0 21 "LayeredCharters$Guild" "refused" "[I", .fieldLink RX0 24 "LayeredCharters$Guild" "refusals" "[I", .methodLink RX0 38 yX0_has, .instanceMethod yX0_has, .selects RX0 yX0_has yX0_has, .initialized RX0, .code yX0_has cX0_has 2 (some .boolean), .fieldLink RX0 27 "LayeredCharters$Guild" "size" "I", .static yX4_isBetween, .initialized RX4, .code yX4_isBetween cX4_isBetween 3 (some .boolean)] ++ wsX00)
def wsX0_refusalsOf : List Cond := .code yX0_refusalsOf cX0_refusalsOf 2 (some .int) :: ([.fieldLink RX0 24 "LayeredCharters$Guild" "refusals" "[I", .static yX4_isBetween, .initialized RX4, .code yX4_isBetween cX4_isBetween 3 (some .boolean)] ++ wsX00)
def wsX1_init : List Cond := .code yX1_init cX1_init 1 none :: ([.methodLink RX1 3 objectInit, .instanceMethod objectInit, .code objectInit ⟨#[0xb1]⟩ 1 none, .arrayClass .char, .fieldLink RX1 9 "LayeredCharters$Pad" "signs" "[C", .fieldLink RX1 15 "LayeredCharters$Pad" "length" "I"] ++ wsX10)
def wsX1_signsIn : List Cond := .code yX1_signsIn cX1_signsIn 5 (some .int) :: ([.constantLong RX1 19 (255), .static yX4_isBetween, .initialized RX4, .code yX4_isBetween cX4_isBetween 3 (some .boolean)])
def wsX1_append : List Cond := .code yX1_append cX1_append 5 none :: ([.fieldLink RX1 15 "LayeredCharters$Pad" "length" "I", .fieldLink RX1 9 "LayeredCharters$Pad" "signs" "[C", .constantLong RX1 19 (255)] ++ wsX10)
def wsX1_clear : List Cond := .code yX1_clear cX1_clear 1 none :: ([.fieldLink RX1 15 "LayeredCharters$Pad" "length" "I"] ++ wsX10)
def wsX1_signAt : List Cond := .code yX1_signAt cX1_signAt 2 (some .char) :: ([.fieldLink RX1 15 "LayeredCharters$Pad" "length" "I", .fieldLink RX1 9 "LayeredCharters$Pad" "signs" "[C"] ++ wsX10)
def wsX1_canStand : List Cond := .code yX1_canStand cX1_canStand 4 (some .boolean) :: ([.methodLink RX1 33 yX1_signAt, .instanceMethod yX1_signAt, .selects RX1 yX1_signAt yX1_signAt, .initialized RX1, .code yX1_signAt cX1_signAt 2 (some .char), .fieldLink RX1 15 "LayeredCharters$Pad" "length" "I", .fieldLink RX1 9 "LayeredCharters$Pad" "signs" "[C", .static yX4_isBetween, .initialized RX4, .code yX4_isBetween cX4_isBetween 3 (some .boolean)] ++ wsX10)
def wsX1_placeAfter : List Cond := .code yX1_placeAfter cX1_placeAfter 4 (some .int) :: ([.methodLink RX1 33 yX1_signAt, .instanceMethod yX1_signAt, .selects RX1 yX1_signAt yX1_signAt, .initialized RX1, .code yX1_signAt cX1_signAt 2 (some .char), .fieldLink RX1 15 "LayeredCharters$Pad" "length" "I", .fieldLink RX1 9 "LayeredCharters$Pad" "signs" "[C"] ++ wsX10)
def wsX1_firstFault : List Cond := .code yX1_firstFault cX1_firstFault 3 (some .int) :: ([.fieldLink RX1 15 "LayeredCharters$Pad" "length" "I", .methodLink RX1 25 yX1_canStand, .instanceMethod yX1_canStand, .selects RX1 yX1_canStand yX1_canStand, .initialized RX1, .code yX1_canStand cX1_canStand 4 (some .boolean), .methodLink RX1 33 yX1_signAt, .instanceMethod yX1_signAt, .selects RX1 yX1_signAt yX1_signAt, .code yX1_signAt cX1_signAt 2 (some .char), .fieldLink RX1 9 "LayeredCharters$Pad" "signs" "[C", .static yX4_isBetween, .initialized RX4, .code yX4_isBetween cX4_isBetween 3 (some .boolean), .methodLink RX1 29 yX1_placeAfter, .instanceMethod yX1_placeAfter, .selects RX1 yX1_placeAfter yX1_placeAfter, .code yX1_placeAfter cX1_placeAfter 4 (some .int)] ++ wsX10)
def wsX1_rulesInText : List Cond := .code yX1_rulesInText cX1_rulesInText 3 (some .int) :: ([.fieldLink RX1 15 "LayeredCharters$Pad" "length" "I", .fieldLink RX1 9 "LayeredCharters$Pad" "signs" "[C"] ++ wsX10)
def wsX1_kindOf : List Cond := .code yX1_kindOf cX1_kindOf 1 (some .int) :: ([])
def wsX1_numberOf : List Cond := .code yX1_numberOf cX1_numberOf 2 (some .int) :: ([])
def wsX4_pairsOf : List Cond := .code yX4_pairsOf cX4_pairsOf 5 (some .int) :: ([])
def wsX2_append : List Cond := .code yX2_append cX2_append 6 none :: ([.fieldLink RX2 30 "LayeredCharters$Rules" "size" "I", .fieldLink RX2 11 "LayeredCharters$Rules" "layers" "[I", .fieldLink RX2 15 "LayeredCharters$Rules" "kinds" "[I", .fieldLink RX2 18 "LayeredCharters$Rules" "crafts" "[I", .fieldLink RX2 21 "LayeredCharters$Rules" "deeds" "[I", .fieldLink RX2 24 "LayeredCharters$Rules" "seals" "[I", .fieldLink RX2 27 "LayeredCharters$Rules" "pairs" "[I", .static yX4_pairsOf, .initialized RX4, .code yX4_pairsOf cX4_pairsOf 5 (some .int)] ++ wsX20)
def wsX1_appendTo_r1 : List Cond := [Cond.fieldLink RX1 15 "LayeredCharters$Pad" "length" "I", Cond.methodLink RX1 33 yX1_signAt, Cond.instanceMethod yX1_signAt, Cond.selects RX1 yX1_signAt yX1_signAt, Cond.initialized RX1, Cond.code yX1_signAt cX1_signAt 2 (some .char), Cond.fieldLink RX1 9 "LayeredCharters$Pad" "signs" "[C", Cond.methodLink RX1 37 yX1_kindOf, Cond.static yX1_kindOf, Cond.code yX1_kindOf cX1_kindOf 1 (some .int), Cond.methodLink RX1 41 yX1_numberOf, Cond.static yX1_numberOf, Cond.code yX1_numberOf cX1_numberOf 2 (some .int), Cond.methodLink RX1 45 yX2_append, Cond.instanceMethod yX2_append, Cond.selects RX2 yX2_append yX2_append, Cond.initialized RX2, Cond.code yX2_append cX2_append 6 none, Cond.fieldLink RX2 30 "LayeredCharters$Rules" "size" "I", Cond.fieldLink RX2 11 "LayeredCharters$Rules" "layers" "[I", Cond.fieldLink RX2 15 "LayeredCharters$Rules" "kinds" "[I", Cond.fieldLink RX2 18 "LayeredCharters$Rules" "crafts" "[I", Cond.fieldLink RX2 21 "LayeredCharters$Rules" "deeds" "[I", Cond.fieldLink RX2 24 "LayeredCharters$Rules" "seals" "[I"]
def wsX1_appendTo_r2 : List Cond := [Cond.fieldLink RX2 27 "LayeredCharters$Rules" "pairs" "[I", Cond.static yX4_pairsOf, Cond.initialized RX4, Cond.code yX4_pairsOf cX4_pairsOf 5 (some .int)]
def wsX1_appendTo : List Cond := .code yX1_appendTo cX1_appendTo 7 none :: ((wsX1_appendTo_r1 ++ wsX1_appendTo_r2) ++ wsX10 ++ wsX20)
def wsX2_init : List Cond := .code yX2_init cX2_init 1 none :: ([.methodLink RX2 3 objectInit, .instanceMethod objectInit, .code objectInit ⟨#[0xb1]⟩ 1 none, .arrayClass .int, .fieldLink RX2 11 "LayeredCharters$Rules" "layers" "[I", .fieldLink RX2 15 "LayeredCharters$Rules" "kinds" "[I", .fieldLink RX2 18 "LayeredCharters$Rules" "crafts" "[I", .fieldLink RX2 21 "LayeredCharters$Rules" "deeds" "[I", .fieldLink RX2 24 "LayeredCharters$Rules" "seals" "[I", .fieldLink RX2 27 "LayeredCharters$Rules" "pairs" "[I", .fieldLink RX2 30 "LayeredCharters$Rules" "size" "I"] ++ wsX20)
def wsX2_copyFrom : List Cond := .code yX2_copyFrom cX2_copyFrom 2 none :: ([.fieldLink RX2 11 "LayeredCharters$Rules" "layers" "[I", .fieldLink RX2 15 "LayeredCharters$Rules" "kinds" "[I", .fieldLink RX2 18 "LayeredCharters$Rules" "crafts" "[I", .fieldLink RX2 21 "LayeredCharters$Rules" "deeds" "[I", .fieldLink RX2 24 "LayeredCharters$Rules" "seals" "[I", .fieldLink RX2 27 "LayeredCharters$Rules" "pairs" "[I", .fieldLink RX2 30 "LayeredCharters$Rules" "size" "I", .static yX4_copyRow, .initialized RX4, .code yX4_copyRow cX4_copyRow 2 none, .methodLink RX4 229 Lib.Math.min.name, .static Lib.Math.min.name, .initialized "java/lang/Math", .code Lib.Math.min.name Lib.Math.min.code 2 (some .int), .methodLink RX4 232 arraycopyName, .native arraycopyName, .static arraycopyName, .initialized "java/lang/System"] ++ wsX20)
def wsX2_has : List Cond := .code yX2_has cX2_has 2 (some .boolean) :: ([.fieldLink RX2 30 "LayeredCharters$Rules" "size" "I"] ++ wsX20)
def wsX2_remove : List Cond := .code yX2_remove cX2_remove 2 none :: ([.fieldLink RX2 11 "LayeredCharters$Rules" "layers" "[I", .fieldLink RX2 15 "LayeredCharters$Rules" "kinds" "[I", .fieldLink RX2 18 "LayeredCharters$Rules" "crafts" "[I", .fieldLink RX2 21 "LayeredCharters$Rules" "deeds" "[I", .fieldLink RX2 24 "LayeredCharters$Rules" "seals" "[I", .fieldLink RX2 27 "LayeredCharters$Rules" "pairs" "[I", .fieldLink RX2 30 "LayeredCharters$Rules" "size" "I", .methodLink RX2 42 yX2_has, .instanceMethod yX2_has, .selects RX2 yX2_has yX2_has, .initialized RX2, .code yX2_has cX2_has 2 (some .boolean), .static yX4_closeGap, .initialized RX4, .code yX4_closeGap cX4_closeGap 3 none, .methodLink RX4 224 Lib.Math.max.name, .static Lib.Math.max.name, .initialized "java/lang/Math", .code Lib.Math.max.name Lib.Math.max.code 2 (some .int)] ++ wsX20)
def wsX2_sizeOfKind : List Cond := .code yX2_sizeOfKind cX2_sizeOfKind 4 (some .int) :: ([.fieldLink RX2 30 "LayeredCharters$Rules" "size" "I", .fieldLink RX2 15 "LayeredCharters$Rules" "kinds" "[I"] ++ wsX20)
def wsX2_areAtOdds : List Cond := .code yX2_areAtOdds cX2_areAtOdds 3 (some .boolean) :: ([.fieldLink RX2 15 "LayeredCharters$Rules" "kinds" "[I", .fieldLink RX2 27 "LayeredCharters$Rules" "pairs" "[I"] ++ wsX20)
def wsX2_oddsOf : List Cond := .code yX2_oddsOf cX2_oddsOf 4 (some .int) :: ([.fieldLink RX2 30 "LayeredCharters$Rules" "size" "I", .methodLink RX2 50 yX2_areAtOdds, .instanceMethod yX2_areAtOdds, .selects RX2 yX2_areAtOdds yX2_areAtOdds, .initialized RX2, .code yX2_areAtOdds cX2_areAtOdds 3 (some .boolean), .fieldLink RX2 15 "LayeredCharters$Rules" "kinds" "[I", .fieldLink RX2 27 "LayeredCharters$Rules" "pairs" "[I"] ++ wsX20)
def wsX2_oddPairs : List Cond := .code yX2_oddPairs cX2_oddPairs 3 (some .int) :: ([.fieldLink RX2 30 "LayeredCharters$Rules" "size" "I", .fieldLink RX2 15 "LayeredCharters$Rules" "kinds" "[I", .methodLink RX2 54 yX2_oddsOf, .instanceMethod yX2_oddsOf, .selects RX2 yX2_oddsOf yX2_oddsOf, .initialized RX2, .code yX2_oddsOf cX2_oddsOf 4 (some .int), .methodLink RX2 50 yX2_areAtOdds, .instanceMethod yX2_areAtOdds, .selects RX2 yX2_areAtOdds yX2_areAtOdds, .code yX2_areAtOdds cX2_areAtOdds 3 (some .boolean), .fieldLink RX2 27 "LayeredCharters$Rules" "pairs" "[I"] ++ wsX20)
def wsX2_permittedPairs : List Cond := .code yX2_permittedPairs cX2_permittedPairs 3 (some .int) :: ([.fieldLink RX2 30 "LayeredCharters$Rules" "size" "I", .fieldLink RX2 15 "LayeredCharters$Rules" "kinds" "[I", .fieldLink RX2 27 "LayeredCharters$Rules" "pairs" "[I"] ++ wsX20)
def wsX2_lifts : List Cond := .code yX2_lifts cX2_lifts 3 (some .boolean) :: ([.fieldLink RX2 15 "LayeredCharters$Rules" "kinds" "[I", .fieldLink RX2 11 "LayeredCharters$Rules" "layers" "[I", .fieldLink RX2 24 "LayeredCharters$Rules" "seals" "[I"] ++ wsX20)
def wsX2_heldPairs : List Cond := .code yX2_heldPairs cX2_heldPairs 4 (some .int) :: ([.fieldLink RX2 27 "LayeredCharters$Rules" "pairs" "[I", .fieldLink RX2 30 "LayeredCharters$Rules" "size" "I", .methodLink RX2 82 yX2_lifts, .instanceMethod yX2_lifts, .selects RX2 yX2_lifts yX2_lifts, .initialized RX2, .code yX2_lifts cX2_lifts 3 (some .boolean), .fieldLink RX2 15 "LayeredCharters$Rules" "kinds" "[I", .fieldLink RX2 11 "LayeredCharters$Rules" "layers" "[I", .fieldLink RX2 24 "LayeredCharters$Rules" "seals" "[I"] ++ wsX20)
def wsX2_reason : List Cond := .code yX2_reason cX2_reason 6 (some .int) :: ([.fieldLink RX2 30 "LayeredCharters$Rules" "size" "I", .fieldLink RX2 15 "LayeredCharters$Rules" "kinds" "[I", .fieldLink RX2 24 "LayeredCharters$Rules" "seals" "[I", .fieldLink RX2 11 "LayeredCharters$Rules" "layers" "[I", .methodLink RX2 58 yX2_permittedPairs, .instanceMethod yX2_permittedPairs, .selects RX2 yX2_permittedPairs yX2_permittedPairs, .initialized RX2, .code yX2_permittedPairs cX2_permittedPairs 3 (some .int), .fieldLink RX2 27 "LayeredCharters$Rules" "pairs" "[I", .methodLink RX2 62 yX2_heldPairs, .instanceMethod yX2_heldPairs, .selects RX2 yX2_heldPairs yX2_heldPairs, .code yX2_heldPairs cX2_heldPairs 4 (some .int), .methodLink RX2 82 yX2_lifts, .instanceMethod yX2_lifts, .selects RX2 yX2_lifts yX2_lifts, .code yX2_lifts cX2_lifts 3 (some .boolean)] ++ wsX20)
def wsX2_strongest : List Cond := .code yX2_strongest cX2_strongest 6 (some .int) :: ([.fieldLink RX2 30 "LayeredCharters$Rules" "size" "I", .fieldLink RX2 15 "LayeredCharters$Rules" "kinds" "[I", .fieldLink RX2 11 "LayeredCharters$Rules" "layers" "[I", .fieldLink RX2 27 "LayeredCharters$Rules" "pairs" "[I", .fieldLink RX2 24 "LayeredCharters$Rules" "seals" "[I", .methodLink RX2 69 Lib.Math.max.name, .static Lib.Math.max.name, .initialized "java/lang/Math", .code Lib.Math.max.name Lib.Math.max.code 2 (some .int)] ++ wsX20)
def wsX2_allowsByLayers : List Cond := .code yX2_allowsByLayers cX2_allowsByLayers 5 (some .boolean) :: ([.methodLink RX2 69 Lib.Math.max.name, .static Lib.Math.max.name, .initialized "java/lang/Math", .code Lib.Math.max.name Lib.Math.max.code 2 (some .int), .methodLink RX2 58 yX2_permittedPairs, .instanceMethod yX2_permittedPairs, .selects RX2 yX2_permittedPairs yX2_permittedPairs, .initialized RX2, .code yX2_permittedPairs cX2_permittedPairs 3 (some .int), .fieldLink RX2 30 "LayeredCharters$Rules" "size" "I", .fieldLink RX2 15 "LayeredCharters$Rules" "kinds" "[I", .fieldLink RX2 27 "LayeredCharters$Rules" "pairs" "[I", .methodLink RX2 65 yX2_strongest, .instanceMethod yX2_strongest, .selects RX2 yX2_strongest yX2_strongest, .code yX2_strongest cX2_strongest 6 (some .int), .fieldLink RX2 11 "LayeredCharters$Rules" "layers" "[I", .fieldLink RX2 24 "LayeredCharters$Rules" "seals" "[I"] ++ wsX20)
def wsX2_heldPairsOfSeal : List Cond := .code yX2_heldPairsOfSeal cX2_heldPairsOfSeal 4 (some .int) :: ([.fieldLink RX2 30 "LayeredCharters$Rules" "size" "I", .fieldLink RX2 15 "LayeredCharters$Rules" "kinds" "[I", .fieldLink RX2 24 "LayeredCharters$Rules" "seals" "[I", .methodLink RX2 62 yX2_heldPairs, .instanceMethod yX2_heldPairs, .selects RX2 yX2_heldPairs yX2_heldPairs, .initialized RX2, .code yX2_heldPairs cX2_heldPairs 4 (some .int), .fieldLink RX2 27 "LayeredCharters$Rules" "pairs" "[I", .methodLink RX2 82 yX2_lifts, .instanceMethod yX2_lifts, .selects RX2 yX2_lifts yX2_lifts, .code yX2_lifts cX2_lifts 3 (some .boolean), .fieldLink RX2 11 "LayeredCharters$Rules" "layers" "[I"] ++ wsX20)
def wsX2_allowedPairs : List Cond := .code yX2_allowedPairs cX2_allowedPairs 4 (some .int) :: ([.methodLink RX2 58 yX2_permittedPairs, .instanceMethod yX2_permittedPairs, .selects RX2 yX2_permittedPairs yX2_permittedPairs, .initialized RX2, .code yX2_permittedPairs cX2_permittedPairs 3 (some .int), .fieldLink RX2 30 "LayeredCharters$Rules" "size" "I", .fieldLink RX2 15 "LayeredCharters$Rules" "kinds" "[I", .fieldLink RX2 27 "LayeredCharters$Rules" "pairs" "[I", .methodLink RX2 74 yX2_heldPairsOfSeal, .instanceMethod yX2_heldPairsOfSeal, .selects RX2 yX2_heldPairsOfSeal yX2_heldPairsOfSeal, .code yX2_heldPairsOfSeal cX2_heldPairsOfSeal 4 (some .int), .fieldLink RX2 24 "LayeredCharters$Rules" "seals" "[I", .methodLink RX2 62 yX2_heldPairs, .instanceMethod yX2_heldPairs, .selects RX2 yX2_heldPairs yX2_heldPairs, .code yX2_heldPairs cX2_heldPairs 4 (some .int), .methodLink RX2 82 yX2_lifts, .instanceMethod yX2_lifts, .selects RX2 yX2_lifts yX2_lifts, .code yX2_lifts cX2_lifts 3 (some .boolean), .fieldLink RX2 11 "LayeredCharters$Rules" "layers" "[I"] ++ wsX20)
def wsJ6_bitCount_0f7a4 : List Cond := .code yJ6_bitCount_0f7a4 cJ6_bitCount_0f7a4 1 (some .int) :: ([.constant RJ6 265 (1431655765), .constant RJ6 266 (858993459), .constant RJ6 267 (252645135)])
def wsX2_triples_r1 : List Cond := [Cond.methodLink RX2 58 yX2_permittedPairs, Cond.instanceMethod yX2_permittedPairs, Cond.selects RX2 yX2_permittedPairs yX2_permittedPairs, Cond.initialized RX2, Cond.code yX2_permittedPairs cX2_permittedPairs 3 (some .int), Cond.fieldLink RX2 30 "LayeredCharters$Rules" "size" "I", Cond.fieldLink RX2 15 "LayeredCharters$Rules" "kinds" "[I", Cond.fieldLink RX2 27 "LayeredCharters$Rules" "pairs" "[I", Cond.methodLink RX2 77 yJ6_bitCount_0f7a4, Cond.static yJ6_bitCount_0f7a4, Cond.initialized RJ6, Cond.code yJ6_bitCount_0f7a4 cJ6_bitCount_0f7a4 1 (some .int), Cond.constant RJ6 265 (1431655765), Cond.constant RJ6 266 (858993459), Cond.constant RJ6 267 (252645135), Cond.methodLink RX2 74 yX2_heldPairsOfSeal, Cond.instanceMethod yX2_heldPairsOfSeal, Cond.selects RX2 yX2_heldPairsOfSeal yX2_heldPairsOfSeal, Cond.code yX2_heldPairsOfSeal cX2_heldPairsOfSeal 4 (some .int), Cond.fieldLink RX2 24 "LayeredCharters$Rules" "seals" "[I", Cond.methodLink RX2 62 yX2_heldPairs, Cond.instanceMethod yX2_heldPairs, Cond.selects RX2 yX2_heldPairs yX2_heldPairs, Cond.code yX2_heldPairs cX2_heldPairs 4 (some .int)]
def wsX2_triples_r2 : List Cond := [Cond.methodLink RX2 82 yX2_lifts, Cond.instanceMethod yX2_lifts, Cond.selects RX2 yX2_lifts yX2_lifts, Cond.code yX2_lifts cX2_lifts 3 (some .boolean), Cond.fieldLink RX2 11 "LayeredCharters$Rules" "layers" "[I"]
def wsX2_triples : List Cond := .code yX2_triples cX2_triples 4 (some .int) :: ((wsX2_triples_r1 ++ wsX2_triples_r2) ++ wsX20)
def wsX2_leastRankFor : List Cond := .code yX2_leastRankFor cX2_leastRankFor 3 (some .int) :: ([.methodLink RX2 58 yX2_permittedPairs, .instanceMethod yX2_permittedPairs, .selects RX2 yX2_permittedPairs yX2_permittedPairs, .initialized RX2, .code yX2_permittedPairs cX2_permittedPairs 3 (some .int), .fieldLink RX2 30 "LayeredCharters$Rules" "size" "I", .fieldLink RX2 15 "LayeredCharters$Rules" "kinds" "[I", .fieldLink RX2 27 "LayeredCharters$Rules" "pairs" "[I", .methodLink RX2 74 yX2_heldPairsOfSeal, .instanceMethod yX2_heldPairsOfSeal, .selects RX2 yX2_heldPairsOfSeal yX2_heldPairsOfSeal, .code yX2_heldPairsOfSeal cX2_heldPairsOfSeal 4 (some .int), .fieldLink RX2 24 "LayeredCharters$Rules" "seals" "[I", .methodLink RX2 62 yX2_heldPairs, .instanceMethod yX2_heldPairs, .selects RX2 yX2_heldPairs yX2_heldPairs, .code yX2_heldPairs cX2_heldPairs 4 (some .int), .methodLink RX2 82 yX2_lifts, .instanceMethod yX2_lifts, .selects RX2 yX2_lifts yX2_lifts, .code yX2_lifts cX2_lifts 3 (some .boolean), .fieldLink RX2 11 "LayeredCharters$Rules" "layers" "[I"] ++ wsX20)
def wsX3_init_r1 : List Cond := [Cond.methodLink RX3 1 objectInit, Cond.instanceMethod objectInit, Cond.code objectInit ⟨#[0xb1]⟩ 1 none, Cond.classLink RX3 7 RX2, Cond.instantiable RX2 7, Cond.initialized RX2, Cond.fieldLink RX3 10 "LayeredCharters$State" "rules" "LLayeredCharters$Rules;", Cond.classLink RX3 16 RX0, Cond.instantiable RX0 7, Cond.initialized RX0, Cond.fieldLink RX3 19 "LayeredCharters$State" "guild" "LLayeredCharters$Guild;", Cond.instanceMethod yX2_init, Cond.code yX2_init cX2_init 1 none, Cond.methodLink RX2 3 objectInit, Cond.arrayClass .int, Cond.fieldLink RX2 11 "LayeredCharters$Rules" "layers" "[I", Cond.fieldLink RX2 15 "LayeredCharters$Rules" "kinds" "[I", Cond.fieldLink RX2 18 "LayeredCharters$Rules" "crafts" "[I", Cond.fieldLink RX2 21 "LayeredCharters$Rules" "deeds" "[I", Cond.fieldLink RX2 24 "LayeredCharters$Rules" "seals" "[I", Cond.fieldLink RX2 27 "LayeredCharters$Rules" "pairs" "[I", Cond.fieldLink RX2 30 "LayeredCharters$Rules" "size" "I", Cond.instanceMethod yX0_init, Cond.code yX0_init cX0_init 1 none]
def wsX3_init_r2 : List Cond := [Cond.methodLink RX0 3 objectInit, Cond.fieldLink RX0 9 "LayeredCharters$Guild" "crafts" "[I", Cond.fieldLink RX0 15 "LayeredCharters$Guild" "ranks" "[I", Cond.fieldLink RX0 18 "LayeredCharters$Guild" "done" "[I", Cond.fieldLink RX0 21 "LayeredCharters$Guild" "refused" "[I", Cond.fieldLink RX0 24 "LayeredCharters$Guild" "refusals" "[I", Cond.fieldLink RX0 27 "LayeredCharters$Guild" "size" "I", Cond.fieldLink RX0 31 "LayeredCharters$Guild" "doneInAll" "I"]
def wsX3_init : List Cond := .code yX3_init cX3_init 1 none :: ((wsX3_init_r1 ++ wsX3_init_r2) ++ wsX20 ++ wsX30 ++ wsX00)
def wsX3_copyFrom_r1 : List Cond := [Cond.fieldLink RX3 10 "LayeredCharters$State" "rules" "LLayeredCharters$Rules;", Cond.fieldLink RX3 19 "LayeredCharters$State" "guild" "LLayeredCharters$Guild;", Cond.methodLink RX3 23 yX2_copyFrom, Cond.instanceMethod yX2_copyFrom, Cond.selects RX2 yX2_copyFrom yX2_copyFrom, Cond.initialized RX2, Cond.code yX2_copyFrom cX2_copyFrom 2 none, Cond.fieldLink RX2 11 "LayeredCharters$Rules" "layers" "[I", Cond.fieldLink RX2 15 "LayeredCharters$Rules" "kinds" "[I", Cond.fieldLink RX2 18 "LayeredCharters$Rules" "crafts" "[I", Cond.fieldLink RX2 21 "LayeredCharters$Rules" "deeds" "[I", Cond.fieldLink RX2 24 "LayeredCharters$Rules" "seals" "[I", Cond.fieldLink RX2 27 "LayeredCharters$Rules" "pairs" "[I", Cond.fieldLink RX2 30 "LayeredCharters$Rules" "size" "I", Cond.static yX4_copyRow, Cond.initialized RX4, Cond.code yX4_copyRow cX4_copyRow 2 none, Cond.methodLink RX4 229 Lib.Math.min.name, Cond.static Lib.Math.min.name, Cond.initialized "java/lang/Math", Cond.code Lib.Math.min.name Lib.Math.min.code 2 (some .int), Cond.methodLink RX4 232 arraycopyName, Cond.native arraycopyName, Cond.static arraycopyName]
def wsX3_copyFrom_r2 : List Cond := [Cond.initialized "java/lang/System", Cond.methodLink RX3 27 yX0_copyFrom, Cond.instanceMethod yX0_copyFrom, Cond.selects RX0 yX0_copyFrom yX0_copyFrom, Cond.initialized RX0, Cond.code yX0_copyFrom cX0_copyFrom 2 none, Cond.fieldLink RX0 9 "LayeredCharters$Guild" "crafts" "[I", Cond.fieldLink RX0 15 "LayeredCharters$Guild" "ranks" "[I", Cond.fieldLink RX0 18 "LayeredCharters$Guild" "done" "[I", Cond.fieldLink RX0 21 "LayeredCharters$Guild" "refused" "[I", Cond.fieldLink RX0 24 "LayeredCharters$Guild" "refusals" "[I", Cond.fieldLink RX0 27 "LayeredCharters$Guild" "size" "I", Cond.fieldLink RX0 31 "LayeredCharters$Guild" "doneInAll" "I"]
def wsX3_copyFrom : List Cond := .code yX3_copyFrom cX3_copyFrom 2 none :: ((wsX3_copyFrom_r1 ++ wsX3_copyFrom_r2) ++ wsX30 ++ wsX20 ++ wsX00)
def wsX4_init_r1 : List Cond := [Cond.methodLink RX4 3 objectInit, Cond.instanceMethod objectInit, Cond.code objectInit ⟨#[0xb1]⟩ 1 none, Cond.classLink RX4 9 RX3, Cond.instantiable RX3 2, Cond.initialized RX3, Cond.fieldLink RX4 12 "LayeredCharters" "now" "LLayeredCharters$State;", Cond.classLink RX4 16 RX1, Cond.instantiable RX1 2, Cond.initialized RX1, Cond.fieldLink RX4 19 "LayeredCharters" "pad" "LLayeredCharters$Pad;", Cond.fieldLink RX4 23 "LayeredCharters" "slots" "[LLayeredCharters$State;", Cond.fieldLink RX4 27 "LayeredCharters" "history" "[LLayeredCharters$State;", Cond.fieldLink RX4 30 "LayeredCharters" "remembered" "I", Cond.classLink RX4 34 RX2, Cond.instantiable RX2 7, Cond.initialized RX2, Cond.fieldLink RX4 37 "LayeredCharters" "trial" "LLayeredCharters$Rules;", Cond.instanceMethod yX3_init, Cond.code yX3_init cX3_init 1 none, Cond.methodLink RX3 1 objectInit, Cond.classLink RX3 7 RX2, Cond.fieldLink RX3 10 "LayeredCharters$State" "rules" "LLayeredCharters$Rules;", Cond.classLink RX3 16 RX0]
def wsX4_init_r2 : List Cond := [Cond.instantiable RX0 7, Cond.initialized RX0, Cond.fieldLink RX3 19 "LayeredCharters$State" "guild" "LLayeredCharters$Guild;", Cond.instanceMethod yX2_init, Cond.code yX2_init cX2_init 1 none, Cond.methodLink RX2 3 objectInit, Cond.arrayClass .int, Cond.fieldLink RX2 11 "LayeredCharters$Rules" "layers" "[I", Cond.fieldLink RX2 15 "LayeredCharters$Rules" "kinds" "[I", Cond.fieldLink RX2 18 "LayeredCharters$Rules" "crafts" "[I", Cond.fieldLink RX2 21 "LayeredCharters$Rules" "deeds" "[I", Cond.fieldLink RX2 24 "LayeredCharters$Rules" "seals" "[I", Cond.fieldLink RX2 27 "LayeredCharters$Rules" "pairs" "[I", Cond.fieldLink RX2 30 "LayeredCharters$Rules" "size" "I", Cond.instanceMethod yX0_init, Cond.code yX0_init cX0_init 1 none, Cond.methodLink RX0 3 objectInit, Cond.fieldLink RX0 9 "LayeredCharters$Guild" "crafts" "[I", Cond.fieldLink RX0 15 "LayeredCharters$Guild" "ranks" "[I", Cond.fieldLink RX0 18 "LayeredCharters$Guild" "done" "[I", Cond.fieldLink RX0 21 "LayeredCharters$Guild" "refused" "[I", Cond.fieldLink RX0 24 "LayeredCharters$Guild" "refusals" "[I", Cond.fieldLink RX0 27 "LayeredCharters$Guild" "size" "I", Cond.fieldLink RX0 31 "LayeredCharters$Guild" "doneInAll" "I"]
def wsX4_init_r3 : List Cond := [Cond.instanceMethod yX1_init, Cond.code yX1_init cX1_init 1 none, Cond.methodLink RX1 3 objectInit, Cond.arrayClass .char, Cond.fieldLink RX1 9 "LayeredCharters$Pad" "signs" "[C", Cond.fieldLink RX1 15 "LayeredCharters$Pad" "length" "I"]
def wsX4_init : List Cond := .code yX4_init cX4_init 1 none :: ((wsX4_init_r1 ++ (wsX4_init_r2 ++ wsX4_init_r3)) ++ wsX30 ++ wsX40 ++ wsX10 ++ wsX20 ++ wsX00)
def wsX4_isLayer : List Cond := .code yX4_isLayer cX4_isLayer 1 (some .boolean) :: ([.methodLink RX4 45 yX4_isBetween, .static yX4_isBetween, .initialized RX4, .code yX4_isBetween cX4_isBetween 3 (some .boolean)])
def wsX4_isSeal : List Cond := .code yX4_isSeal cX4_isSeal 1 (some .boolean) :: ([.methodLink RX4 45 yX4_isBetween, .static yX4_isBetween, .initialized RX4, .code yX4_isBetween cX4_isBetween 3 (some .boolean)])
def wsX4_dropOldest : List Cond := .code yX4_dropOldest cX4_dropOldest 3 none :: ([.fieldLink RX4 27 "LayeredCharters" "history" "[LLayeredCharters$State;", .fieldLink RX4 30 "LayeredCharters" "remembered" "I"] ++ wsX40)
def wsX4_copyInto_r1 : List Cond := [Cond.classLink RX4 9 RX3, Cond.instantiable RX3 2, Cond.initialized RX3, Cond.fieldLink RX4 12 "LayeredCharters" "now" "LLayeredCharters$State;", Cond.instanceMethod yX3_init, Cond.code yX3_init cX3_init 1 none, Cond.methodLink RX3 1 objectInit, Cond.instanceMethod objectInit, Cond.code objectInit ⟨#[0xb1]⟩ 1 none, Cond.classLink RX3 7 RX2, Cond.instantiable RX2 7, Cond.initialized RX2, Cond.fieldLink RX3 10 "LayeredCharters$State" "rules" "LLayeredCharters$Rules;", Cond.classLink RX3 16 RX0, Cond.instantiable RX0 7, Cond.initialized RX0, Cond.fieldLink RX3 19 "LayeredCharters$State" "guild" "LLayeredCharters$Guild;", Cond.instanceMethod yX2_init, Cond.code yX2_init cX2_init 1 none, Cond.methodLink RX2 3 objectInit, Cond.arrayClass .int, Cond.fieldLink RX2 11 "LayeredCharters$Rules" "layers" "[I", Cond.fieldLink RX2 15 "LayeredCharters$Rules" "kinds" "[I", Cond.fieldLink RX2 18 "LayeredCharters$Rules" "crafts" "[I"]
def wsX4_copyInto_r2 : List Cond := [Cond.fieldLink RX2 21 "LayeredCharters$Rules" "deeds" "[I", Cond.fieldLink RX2 24 "LayeredCharters$Rules" "seals" "[I", Cond.fieldLink RX2 27 "LayeredCharters$Rules" "pairs" "[I", Cond.fieldLink RX2 30 "LayeredCharters$Rules" "size" "I", Cond.instanceMethod yX0_init, Cond.code yX0_init cX0_init 1 none, Cond.methodLink RX0 3 objectInit, Cond.fieldLink RX0 9 "LayeredCharters$Guild" "crafts" "[I", Cond.fieldLink RX0 15 "LayeredCharters$Guild" "ranks" "[I", Cond.fieldLink RX0 18 "LayeredCharters$Guild" "done" "[I", Cond.fieldLink RX0 21 "LayeredCharters$Guild" "refused" "[I", Cond.fieldLink RX0 24 "LayeredCharters$Guild" "refusals" "[I", Cond.fieldLink RX0 27 "LayeredCharters$Guild" "size" "I", Cond.fieldLink RX0 31 "LayeredCharters$Guild" "doneInAll" "I", Cond.methodLink RX4 208 yX3_copyFrom, Cond.instanceMethod yX3_copyFrom, Cond.selects RX3 yX3_copyFrom yX3_copyFrom, Cond.code yX3_copyFrom cX3_copyFrom 2 none, Cond.methodLink RX3 23 yX2_copyFrom, Cond.instanceMethod yX2_copyFrom, Cond.selects RX2 yX2_copyFrom yX2_copyFrom, Cond.code yX2_copyFrom cX2_copyFrom 2 none, Cond.static yX4_copyRow, Cond.initialized RX4]
def wsX4_copyInto_r3 : List Cond := [Cond.code yX4_copyRow cX4_copyRow 2 none, Cond.methodLink RX4 229 Lib.Math.min.name, Cond.static Lib.Math.min.name, Cond.initialized "java/lang/Math", Cond.code Lib.Math.min.name Lib.Math.min.code 2 (some .int), Cond.methodLink RX4 232 arraycopyName, Cond.native arraycopyName, Cond.static arraycopyName, Cond.initialized "java/lang/System", Cond.methodLink RX3 27 yX0_copyFrom, Cond.instanceMethod yX0_copyFrom, Cond.selects RX0 yX0_copyFrom yX0_copyFrom, Cond.code yX0_copyFrom cX0_copyFrom 2 none]
def wsX4_copyInto : List Cond := .code yX4_copyInto cX4_copyInto 3 (some (.object "LayeredCharters$State")) :: ((wsX4_copyInto_r1 ++ (wsX4_copyInto_r2 ++ wsX4_copyInto_r3)) ++ wsX30 ++ wsX40 ++ wsX20 ++ wsX00)
def wsX4_remember_r1 : List Cond := [Cond.fieldLink RX4 30 "LayeredCharters" "remembered" "I", Cond.fieldLink RX4 27 "LayeredCharters" "history" "[LLayeredCharters$State;", Cond.methodLink RX4 216 yX4_dropOldest, Cond.instanceMethod yX4_dropOldest, Cond.selects RX4 yX4_dropOldest yX4_dropOldest, Cond.initialized RX4, Cond.code yX4_dropOldest cX4_dropOldest 3 none, Cond.methodLink RX4 212 yX4_copyInto, Cond.instanceMethod yX4_copyInto, Cond.selects RX4 yX4_copyInto yX4_copyInto, Cond.code yX4_copyInto cX4_copyInto 3 (some (.object "LayeredCharters$State")), Cond.classLink RX4 9 RX3, Cond.instantiable RX3 2, Cond.initialized RX3, Cond.fieldLink RX4 12 "LayeredCharters" "now" "LLayeredCharters$State;", Cond.instanceMethod yX3_init, Cond.code yX3_init cX3_init 1 none, Cond.methodLink RX3 1 objectInit, Cond.instanceMethod objectInit, Cond.code objectInit ⟨#[0xb1]⟩ 1 none, Cond.classLink RX3 7 RX2, Cond.instantiable RX2 7, Cond.initialized RX2, Cond.fieldLink RX3 10 "LayeredCharters$State" "rules" "LLayeredCharters$Rules;"]
def wsX4_remember_r2 : List Cond := [Cond.classLink RX3 16 RX0, Cond.instantiable RX0 7, Cond.initialized RX0, Cond.fieldLink RX3 19 "LayeredCharters$State" "guild" "LLayeredCharters$Guild;", Cond.instanceMethod yX2_init, Cond.code yX2_init cX2_init 1 none, Cond.methodLink RX2 3 objectInit, Cond.arrayClass .int, Cond.fieldLink RX2 11 "LayeredCharters$Rules" "layers" "[I", Cond.fieldLink RX2 15 "LayeredCharters$Rules" "kinds" "[I", Cond.fieldLink RX2 18 "LayeredCharters$Rules" "crafts" "[I", Cond.fieldLink RX2 21 "LayeredCharters$Rules" "deeds" "[I", Cond.fieldLink RX2 24 "LayeredCharters$Rules" "seals" "[I", Cond.fieldLink RX2 27 "LayeredCharters$Rules" "pairs" "[I", Cond.fieldLink RX2 30 "LayeredCharters$Rules" "size" "I", Cond.instanceMethod yX0_init, Cond.code yX0_init cX0_init 1 none, Cond.methodLink RX0 3 objectInit, Cond.fieldLink RX0 9 "LayeredCharters$Guild" "crafts" "[I", Cond.fieldLink RX0 15 "LayeredCharters$Guild" "ranks" "[I", Cond.fieldLink RX0 18 "LayeredCharters$Guild" "done" "[I", Cond.fieldLink RX0 21 "LayeredCharters$Guild" "refused" "[I", Cond.fieldLink RX0 24 "LayeredCharters$Guild" "refusals" "[I", Cond.fieldLink RX0 27 "LayeredCharters$Guild" "size" "I"]
def wsX4_remember_r3 : List Cond := [Cond.fieldLink RX0 31 "LayeredCharters$Guild" "doneInAll" "I", Cond.methodLink RX4 208 yX3_copyFrom, Cond.instanceMethod yX3_copyFrom, Cond.selects RX3 yX3_copyFrom yX3_copyFrom, Cond.code yX3_copyFrom cX3_copyFrom 2 none, Cond.methodLink RX3 23 yX2_copyFrom, Cond.instanceMethod yX2_copyFrom, Cond.selects RX2 yX2_copyFrom yX2_copyFrom, Cond.code yX2_copyFrom cX2_copyFrom 2 none, Cond.static yX4_copyRow, Cond.code yX4_copyRow cX4_copyRow 2 none, Cond.methodLink RX4 229 Lib.Math.min.name, Cond.static Lib.Math.min.name, Cond.initialized "java/lang/Math", Cond.code Lib.Math.min.name Lib.Math.min.code 2 (some .int), Cond.methodLink RX4 232 arraycopyName, Cond.native arraycopyName, Cond.static arraycopyName, Cond.initialized "java/lang/System", Cond.methodLink RX3 27 yX0_copyFrom, Cond.instanceMethod yX0_copyFrom, Cond.selects RX0 yX0_copyFrom yX0_copyFrom, Cond.code yX0_copyFrom cX0_copyFrom 2 none]
def wsX4_remember : List Cond := .code yX4_remember cX4_remember 1 none :: ((wsX4_remember_r1 ++ (wsX4_remember_r2 ++ wsX4_remember_r3)) ++ wsX40 ++ wsX30 ++ wsX20 ++ wsX00)
def wsX4_add_r1 : List Cond := [Cond.fieldLink RX4 12 "LayeredCharters" "now" "LLayeredCharters$State;", Cond.fieldLink RX4 52 "LayeredCharters$State" "rules" "LLayeredCharters$Rules;", Cond.fieldLink RX4 55 "LayeredCharters$Rules" "size" "I", Cond.methodLink RX4 41 yX4_isLayer, Cond.static yX4_isLayer, Cond.initialized RX4, Cond.code yX4_isLayer cX4_isLayer 1 (some .boolean), Cond.methodLink RX4 45 yX4_isBetween, Cond.static yX4_isBetween, Cond.code yX4_isBetween cX4_isBetween 3 (some .boolean), Cond.methodLink RX4 49 yX4_isSeal, Cond.static yX4_isSeal, Cond.code yX4_isSeal cX4_isSeal 1 (some .boolean), Cond.methodLink RX4 58 yX4_remember, Cond.instanceMethod yX4_remember, Cond.selects RX4 yX4_remember yX4_remember, Cond.code yX4_remember cX4_remember 1 none, Cond.fieldLink RX4 30 "LayeredCharters" "remembered" "I", Cond.fieldLink RX4 27 "LayeredCharters" "history" "[LLayeredCharters$State;", Cond.methodLink RX4 216 yX4_dropOldest, Cond.instanceMethod yX4_dropOldest, Cond.selects RX4 yX4_dropOldest yX4_dropOldest, Cond.code yX4_dropOldest cX4_dropOldest 3 none, Cond.methodLink RX4 212 yX4_copyInto]
def wsX4_add_r2 : List Cond := [Cond.instanceMethod yX4_copyInto, Cond.selects RX4 yX4_copyInto yX4_copyInto, Cond.code yX4_copyInto cX4_copyInto 3 (some (.object "LayeredCharters$State")), Cond.classLink RX4 9 RX3, Cond.instantiable RX3 2, Cond.initialized RX3, Cond.instanceMethod yX3_init, Cond.code yX3_init cX3_init 1 none, Cond.methodLink RX3 1 objectInit, Cond.instanceMethod objectInit, Cond.code objectInit ⟨#[0xb1]⟩ 1 none, Cond.classLink RX3 7 RX2, Cond.instantiable RX2 7, Cond.initialized RX2, Cond.fieldLink RX3 10 "LayeredCharters$State" "rules" "LLayeredCharters$Rules;", Cond.classLink RX3 16 RX0, Cond.instantiable RX0 7, Cond.initialized RX0, Cond.fieldLink RX3 19 "LayeredCharters$State" "guild" "LLayeredCharters$Guild;", Cond.instanceMethod yX2_init, Cond.code yX2_init cX2_init 1 none, Cond.methodLink RX2 3 objectInit, Cond.arrayClass .int, Cond.fieldLink RX2 11 "LayeredCharters$Rules" "layers" "[I"]
def wsX4_add_r3 : List Cond := [Cond.fieldLink RX2 15 "LayeredCharters$Rules" "kinds" "[I", Cond.fieldLink RX2 18 "LayeredCharters$Rules" "crafts" "[I", Cond.fieldLink RX2 21 "LayeredCharters$Rules" "deeds" "[I", Cond.fieldLink RX2 24 "LayeredCharters$Rules" "seals" "[I", Cond.fieldLink RX2 27 "LayeredCharters$Rules" "pairs" "[I", Cond.fieldLink RX2 30 "LayeredCharters$Rules" "size" "I", Cond.instanceMethod yX0_init, Cond.code yX0_init cX0_init 1 none, Cond.methodLink RX0 3 objectInit, Cond.fieldLink RX0 9 "LayeredCharters$Guild" "crafts" "[I", Cond.fieldLink RX0 15 "LayeredCharters$Guild" "ranks" "[I", Cond.fieldLink RX0 18 "LayeredCharters$Guild" "done" "[I", Cond.fieldLink RX0 21 "LayeredCharters$Guild" "refused" "[I", Cond.fieldLink RX0 24 "LayeredCharters$Guild" "refusals" "[I", Cond.fieldLink RX0 27 "LayeredCharters$Guild" "size" "I", Cond.fieldLink RX0 31 "LayeredCharters$Guild" "doneInAll" "I", Cond.methodLink RX4 208 yX3_copyFrom, Cond.instanceMethod yX3_copyFrom, Cond.selects RX3 yX3_copyFrom yX3_copyFrom, Cond.code yX3_copyFrom cX3_copyFrom 2 none, Cond.methodLink RX3 23 yX2_copyFrom, Cond.instanceMethod yX2_copyFrom, Cond.selects RX2 yX2_copyFrom yX2_copyFrom, Cond.code yX2_copyFrom cX2_copyFrom 2 none]
def wsX4_add_r4 : List Cond := [Cond.static yX4_copyRow, Cond.code yX4_copyRow cX4_copyRow 2 none, Cond.methodLink RX4 229 Lib.Math.min.name, Cond.static Lib.Math.min.name, Cond.initialized "java/lang/Math", Cond.code Lib.Math.min.name Lib.Math.min.code 2 (some .int), Cond.methodLink RX4 232 arraycopyName, Cond.native arraycopyName, Cond.static arraycopyName, Cond.initialized "java/lang/System", Cond.methodLink RX3 27 yX0_copyFrom, Cond.instanceMethod yX0_copyFrom, Cond.selects RX0 yX0_copyFrom yX0_copyFrom, Cond.code yX0_copyFrom cX0_copyFrom 2 none, Cond.methodLink RX4 61 yX2_append, Cond.instanceMethod yX2_append, Cond.selects RX2 yX2_append yX2_append, Cond.code yX2_append cX2_append 6 none, Cond.static yX4_pairsOf, Cond.code yX4_pairsOf cX4_pairsOf 5 (some .int)]
def wsX4_add : List Cond := .code yX4_add cX4_add 6 (some .int) :: ((wsX4_add_r1 ++ (wsX4_add_r2 ++ (wsX4_add_r3 ++ wsX4_add_r4))) ++ wsX40 ++ wsX30 ++ wsX20 ++ wsX00)
def wsX4_strike_r1 : List Cond := [Cond.fieldLink RX4 12 "LayeredCharters" "now" "LLayeredCharters$State;", Cond.fieldLink RX4 52 "LayeredCharters$State" "rules" "LLayeredCharters$Rules;", Cond.fieldLink RX4 55 "LayeredCharters$Rules" "size" "I", Cond.methodLink RX4 65 yX2_has, Cond.instanceMethod yX2_has, Cond.selects RX2 yX2_has yX2_has, Cond.initialized RX2, Cond.code yX2_has cX2_has 2 (some .boolean), Cond.fieldLink RX2 30 "LayeredCharters$Rules" "size" "I", Cond.methodLink RX4 58 yX4_remember, Cond.instanceMethod yX4_remember, Cond.selects RX4 yX4_remember yX4_remember, Cond.initialized RX4, Cond.code yX4_remember cX4_remember 1 none, Cond.fieldLink RX4 30 "LayeredCharters" "remembered" "I", Cond.fieldLink RX4 27 "LayeredCharters" "history" "[LLayeredCharters$State;", Cond.methodLink RX4 216 yX4_dropOldest, Cond.instanceMethod yX4_dropOldest, Cond.selects RX4 yX4_dropOldest yX4_dropOldest, Cond.code yX4_dropOldest cX4_dropOldest 3 none, Cond.methodLink RX4 212 yX4_copyInto, Cond.instanceMethod yX4_copyInto, Cond.selects RX4 yX4_copyInto yX4_copyInto, Cond.code yX4_copyInto cX4_copyInto 3 (some (.object "LayeredCharters$State"))]
def wsX4_strike_r2 : List Cond := [Cond.classLink RX4 9 RX3, Cond.instantiable RX3 2, Cond.initialized RX3, Cond.instanceMethod yX3_init, Cond.code yX3_init cX3_init 1 none, Cond.methodLink RX3 1 objectInit, Cond.instanceMethod objectInit, Cond.code objectInit ⟨#[0xb1]⟩ 1 none, Cond.classLink RX3 7 RX2, Cond.instantiable RX2 7, Cond.fieldLink RX3 10 "LayeredCharters$State" "rules" "LLayeredCharters$Rules;", Cond.classLink RX3 16 RX0, Cond.instantiable RX0 7, Cond.initialized RX0, Cond.fieldLink RX3 19 "LayeredCharters$State" "guild" "LLayeredCharters$Guild;", Cond.instanceMethod yX2_init, Cond.code yX2_init cX2_init 1 none, Cond.methodLink RX2 3 objectInit, Cond.arrayClass .int, Cond.fieldLink RX2 11 "LayeredCharters$Rules" "layers" "[I", Cond.fieldLink RX2 15 "LayeredCharters$Rules" "kinds" "[I", Cond.fieldLink RX2 18 "LayeredCharters$Rules" "crafts" "[I", Cond.fieldLink RX2 21 "LayeredCharters$Rules" "deeds" "[I", Cond.fieldLink RX2 24 "LayeredCharters$Rules" "seals" "[I"]
def wsX4_strike_r3 : List Cond := [Cond.fieldLink RX2 27 "LayeredCharters$Rules" "pairs" "[I", Cond.instanceMethod yX0_init, Cond.code yX0_init cX0_init 1 none, Cond.methodLink RX0 3 objectInit, Cond.fieldLink RX0 9 "LayeredCharters$Guild" "crafts" "[I", Cond.fieldLink RX0 15 "LayeredCharters$Guild" "ranks" "[I", Cond.fieldLink RX0 18 "LayeredCharters$Guild" "done" "[I", Cond.fieldLink RX0 21 "LayeredCharters$Guild" "refused" "[I", Cond.fieldLink RX0 24 "LayeredCharters$Guild" "refusals" "[I", Cond.fieldLink RX0 27 "LayeredCharters$Guild" "size" "I", Cond.fieldLink RX0 31 "LayeredCharters$Guild" "doneInAll" "I", Cond.methodLink RX4 208 yX3_copyFrom, Cond.instanceMethod yX3_copyFrom, Cond.selects RX3 yX3_copyFrom yX3_copyFrom, Cond.code yX3_copyFrom cX3_copyFrom 2 none, Cond.methodLink RX3 23 yX2_copyFrom, Cond.instanceMethod yX2_copyFrom, Cond.selects RX2 yX2_copyFrom yX2_copyFrom, Cond.code yX2_copyFrom cX2_copyFrom 2 none, Cond.static yX4_copyRow, Cond.code yX4_copyRow cX4_copyRow 2 none, Cond.methodLink RX4 229 Lib.Math.min.name, Cond.static Lib.Math.min.name, Cond.initialized "java/lang/Math"]
def wsX4_strike_r4 : List Cond := [Cond.code Lib.Math.min.name Lib.Math.min.code 2 (some .int), Cond.methodLink RX4 232 arraycopyName, Cond.native arraycopyName, Cond.static arraycopyName, Cond.initialized "java/lang/System", Cond.methodLink RX3 27 yX0_copyFrom, Cond.instanceMethod yX0_copyFrom, Cond.selects RX0 yX0_copyFrom yX0_copyFrom, Cond.code yX0_copyFrom cX0_copyFrom 2 none, Cond.methodLink RX4 68 yX2_remove, Cond.instanceMethod yX2_remove, Cond.selects RX2 yX2_remove yX2_remove, Cond.code yX2_remove cX2_remove 2 none, Cond.methodLink RX2 42 yX2_has, Cond.static yX4_closeGap, Cond.code yX4_closeGap cX4_closeGap 3 none, Cond.methodLink RX4 224 Lib.Math.max.name, Cond.static Lib.Math.max.name, Cond.code Lib.Math.max.name Lib.Math.max.code 2 (some .int)]
def wsX4_strike : List Cond := .code yX4_strike cX4_strike 2 (some .int) :: ((wsX4_strike_r1 ++ (wsX4_strike_r2 ++ (wsX4_strike_r3 ++ wsX4_strike_r4))) ++ wsX40 ++ wsX30 ++ wsX20 ++ wsX00)
def wsX4_seal_r1 : List Cond := [Cond.fieldLink RX4 12 "LayeredCharters" "now" "LLayeredCharters$State;", Cond.fieldLink RX4 52 "LayeredCharters$State" "rules" "LLayeredCharters$Rules;", Cond.fieldLink RX4 72 "LayeredCharters$Rules" "seals" "[I", Cond.methodLink RX4 65 yX2_has, Cond.instanceMethod yX2_has, Cond.selects RX2 yX2_has yX2_has, Cond.initialized RX2, Cond.code yX2_has cX2_has 2 (some .boolean), Cond.fieldLink RX2 30 "LayeredCharters$Rules" "size" "I", Cond.methodLink RX4 49 yX4_isSeal, Cond.static yX4_isSeal, Cond.initialized RX4, Cond.code yX4_isSeal cX4_isSeal 1 (some .boolean), Cond.methodLink RX4 45 yX4_isBetween, Cond.static yX4_isBetween, Cond.code yX4_isBetween cX4_isBetween 3 (some .boolean), Cond.methodLink RX4 58 yX4_remember, Cond.instanceMethod yX4_remember, Cond.selects RX4 yX4_remember yX4_remember, Cond.code yX4_remember cX4_remember 1 none, Cond.fieldLink RX4 30 "LayeredCharters" "remembered" "I", Cond.fieldLink RX4 27 "LayeredCharters" "history" "[LLayeredCharters$State;", Cond.methodLink RX4 216 yX4_dropOldest, Cond.instanceMethod yX4_dropOldest]
def wsX4_seal_r2 : List Cond := [Cond.selects RX4 yX4_dropOldest yX4_dropOldest, Cond.code yX4_dropOldest cX4_dropOldest 3 none, Cond.methodLink RX4 212 yX4_copyInto, Cond.instanceMethod yX4_copyInto, Cond.selects RX4 yX4_copyInto yX4_copyInto, Cond.code yX4_copyInto cX4_copyInto 3 (some (.object "LayeredCharters$State")), Cond.classLink RX4 9 RX3, Cond.instantiable RX3 2, Cond.initialized RX3, Cond.instanceMethod yX3_init, Cond.code yX3_init cX3_init 1 none, Cond.methodLink RX3 1 objectInit, Cond.instanceMethod objectInit, Cond.code objectInit ⟨#[0xb1]⟩ 1 none, Cond.classLink RX3 7 RX2, Cond.instantiable RX2 7, Cond.fieldLink RX3 10 "LayeredCharters$State" "rules" "LLayeredCharters$Rules;", Cond.classLink RX3 16 RX0, Cond.instantiable RX0 7, Cond.initialized RX0, Cond.fieldLink RX3 19 "LayeredCharters$State" "guild" "LLayeredCharters$Guild;", Cond.instanceMethod yX2_init, Cond.code yX2_init cX2_init 1 none, Cond.methodLink RX2 3 objectInit]
def wsX4_seal_r3 : List Cond := [Cond.arrayClass .int, Cond.fieldLink RX2 11 "LayeredCharters$Rules" "layers" "[I", Cond.fieldLink RX2 15 "LayeredCharters$Rules" "kinds" "[I", Cond.fieldLink RX2 18 "LayeredCharters$Rules" "crafts" "[I", Cond.fieldLink RX2 21 "LayeredCharters$Rules" "deeds" "[I", Cond.fieldLink RX2 24 "LayeredCharters$Rules" "seals" "[I", Cond.fieldLink RX2 27 "LayeredCharters$Rules" "pairs" "[I", Cond.instanceMethod yX0_init, Cond.code yX0_init cX0_init 1 none, Cond.methodLink RX0 3 objectInit, Cond.fieldLink RX0 9 "LayeredCharters$Guild" "crafts" "[I", Cond.fieldLink RX0 15 "LayeredCharters$Guild" "ranks" "[I", Cond.fieldLink RX0 18 "LayeredCharters$Guild" "done" "[I", Cond.fieldLink RX0 21 "LayeredCharters$Guild" "refused" "[I", Cond.fieldLink RX0 24 "LayeredCharters$Guild" "refusals" "[I", Cond.fieldLink RX0 27 "LayeredCharters$Guild" "size" "I", Cond.fieldLink RX0 31 "LayeredCharters$Guild" "doneInAll" "I", Cond.methodLink RX4 208 yX3_copyFrom, Cond.instanceMethod yX3_copyFrom, Cond.selects RX3 yX3_copyFrom yX3_copyFrom, Cond.code yX3_copyFrom cX3_copyFrom 2 none, Cond.methodLink RX3 23 yX2_copyFrom, Cond.instanceMethod yX2_copyFrom, Cond.selects RX2 yX2_copyFrom yX2_copyFrom]
def wsX4_seal_r4 : List Cond := [Cond.code yX2_copyFrom cX2_copyFrom 2 none, Cond.static yX4_copyRow, Cond.code yX4_copyRow cX4_copyRow 2 none, Cond.methodLink RX4 229 Lib.Math.min.name, Cond.static Lib.Math.min.name, Cond.initialized "java/lang/Math", Cond.code Lib.Math.min.name Lib.Math.min.code 2 (some .int), Cond.methodLink RX4 232 arraycopyName, Cond.native arraycopyName, Cond.static arraycopyName, Cond.initialized "java/lang/System", Cond.methodLink RX3 27 yX0_copyFrom, Cond.instanceMethod yX0_copyFrom, Cond.selects RX0 yX0_copyFrom yX0_copyFrom, Cond.code yX0_copyFrom cX0_copyFrom 2 none]
def wsX4_seal : List Cond := .code yX4_seal cX4_seal 4 (some .int) :: ((wsX4_seal_r1 ++ (wsX4_seal_r2 ++ (wsX4_seal_r3 ++ wsX4_seal_r4))) ++ wsX40 ++ wsX30 ++ wsX20 ++ wsX00)
def wsX4_move_r1 : List Cond := [Cond.fieldLink RX4 12 "LayeredCharters" "now" "LLayeredCharters$State;", Cond.fieldLink RX4 52 "LayeredCharters$State" "rules" "LLayeredCharters$Rules;", Cond.fieldLink RX4 76 "LayeredCharters$Rules" "kinds" "[I", Cond.fieldLink RX4 79 "LayeredCharters$Rules" "layers" "[I", Cond.methodLink RX4 65 yX2_has, Cond.instanceMethod yX2_has, Cond.selects RX2 yX2_has yX2_has, Cond.initialized RX2, Cond.code yX2_has cX2_has 2 (some .boolean), Cond.fieldLink RX2 30 "LayeredCharters$Rules" "size" "I", Cond.methodLink RX4 41 yX4_isLayer, Cond.static yX4_isLayer, Cond.initialized RX4, Cond.code yX4_isLayer cX4_isLayer 1 (some .boolean), Cond.methodLink RX4 45 yX4_isBetween, Cond.static yX4_isBetween, Cond.code yX4_isBetween cX4_isBetween 3 (some .boolean), Cond.methodLink RX4 58 yX4_remember, Cond.instanceMethod yX4_remember, Cond.selects RX4 yX4_remember yX4_remember, Cond.code yX4_remember cX4_remember 1 none, Cond.fieldLink RX4 30 "LayeredCharters" "remembered" "I", Cond.fieldLink RX4 27 "LayeredCharters" "history" "[LLayeredCharters$State;", Cond.methodLink RX4 216 yX4_dropOldest]
def wsX4_move_r2 : List Cond := [Cond.instanceMethod yX4_dropOldest, Cond.selects RX4 yX4_dropOldest yX4_dropOldest, Cond.code yX4_dropOldest cX4_dropOldest 3 none, Cond.methodLink RX4 212 yX4_copyInto, Cond.instanceMethod yX4_copyInto, Cond.selects RX4 yX4_copyInto yX4_copyInto, Cond.code yX4_copyInto cX4_copyInto 3 (some (.object "LayeredCharters$State")), Cond.classLink RX4 9 RX3, Cond.instantiable RX3 2, Cond.initialized RX3, Cond.instanceMethod yX3_init, Cond.code yX3_init cX3_init 1 none, Cond.methodLink RX3 1 objectInit, Cond.instanceMethod objectInit, Cond.code objectInit ⟨#[0xb1]⟩ 1 none, Cond.classLink RX3 7 RX2, Cond.instantiable RX2 7, Cond.fieldLink RX3 10 "LayeredCharters$State" "rules" "LLayeredCharters$Rules;", Cond.classLink RX3 16 RX0, Cond.instantiable RX0 7, Cond.initialized RX0, Cond.fieldLink RX3 19 "LayeredCharters$State" "guild" "LLayeredCharters$Guild;", Cond.instanceMethod yX2_init, Cond.code yX2_init cX2_init 1 none]
def wsX4_move_r3 : List Cond := [Cond.methodLink RX2 3 objectInit, Cond.arrayClass .int, Cond.fieldLink RX2 11 "LayeredCharters$Rules" "layers" "[I", Cond.fieldLink RX2 15 "LayeredCharters$Rules" "kinds" "[I", Cond.fieldLink RX2 18 "LayeredCharters$Rules" "crafts" "[I", Cond.fieldLink RX2 21 "LayeredCharters$Rules" "deeds" "[I", Cond.fieldLink RX2 24 "LayeredCharters$Rules" "seals" "[I", Cond.fieldLink RX2 27 "LayeredCharters$Rules" "pairs" "[I", Cond.instanceMethod yX0_init, Cond.code yX0_init cX0_init 1 none, Cond.methodLink RX0 3 objectInit, Cond.fieldLink RX0 9 "LayeredCharters$Guild" "crafts" "[I", Cond.fieldLink RX0 15 "LayeredCharters$Guild" "ranks" "[I", Cond.fieldLink RX0 18 "LayeredCharters$Guild" "done" "[I", Cond.fieldLink RX0 21 "LayeredCharters$Guild" "refused" "[I", Cond.fieldLink RX0 24 "LayeredCharters$Guild" "refusals" "[I", Cond.fieldLink RX0 27 "LayeredCharters$Guild" "size" "I", Cond.fieldLink RX0 31 "LayeredCharters$Guild" "doneInAll" "I", Cond.methodLink RX4 208 yX3_copyFrom, Cond.instanceMethod yX3_copyFrom, Cond.selects RX3 yX3_copyFrom yX3_copyFrom, Cond.code yX3_copyFrom cX3_copyFrom 2 none, Cond.methodLink RX3 23 yX2_copyFrom, Cond.instanceMethod yX2_copyFrom]
def wsX4_move_r4 : List Cond := [Cond.selects RX2 yX2_copyFrom yX2_copyFrom, Cond.code yX2_copyFrom cX2_copyFrom 2 none, Cond.static yX4_copyRow, Cond.code yX4_copyRow cX4_copyRow 2 none, Cond.methodLink RX4 229 Lib.Math.min.name, Cond.static Lib.Math.min.name, Cond.initialized "java/lang/Math", Cond.code Lib.Math.min.name Lib.Math.min.code 2 (some .int), Cond.methodLink RX4 232 arraycopyName, Cond.native arraycopyName, Cond.static arraycopyName, Cond.initialized "java/lang/System", Cond.methodLink RX3 27 yX0_copyFrom, Cond.instanceMethod yX0_copyFrom, Cond.selects RX0 yX0_copyFrom yX0_copyFrom, Cond.code yX0_copyFrom cX0_copyFrom 2 none]
def wsX4_move : List Cond := .code yX4_move cX4_move 4 (some .int) :: ((wsX4_move_r1 ++ (wsX4_move_r2 ++ (wsX4_move_r3 ++ wsX4_move_r4))) ++ wsX40 ++ wsX30 ++ wsX20 ++ wsX00)
def wsX4_read_r1 : List Cond := [Cond.fieldLink RX4 19 "LayeredCharters" "pad" "LLayeredCharters$Pad;", Cond.fieldLink RX4 12 "LayeredCharters" "now" "LLayeredCharters$State;", Cond.fieldLink RX4 52 "LayeredCharters$State" "rules" "LLayeredCharters$Rules;", Cond.fieldLink RX4 55 "LayeredCharters$Rules" "size" "I", Cond.methodLink RX4 82 yX1_firstFault, Cond.instanceMethod yX1_firstFault, Cond.selects RX1 yX1_firstFault yX1_firstFault, Cond.initialized RX1, Cond.code yX1_firstFault cX1_firstFault 3 (some .int), Cond.fieldLink RX1 15 "LayeredCharters$Pad" "length" "I", Cond.methodLink RX1 25 yX1_canStand, Cond.instanceMethod yX1_canStand, Cond.selects RX1 yX1_canStand yX1_canStand, Cond.code yX1_canStand cX1_canStand 4 (some .boolean), Cond.methodLink RX1 33 yX1_signAt, Cond.instanceMethod yX1_signAt, Cond.selects RX1 yX1_signAt yX1_signAt, Cond.code yX1_signAt cX1_signAt 2 (some .char), Cond.fieldLink RX1 9 "LayeredCharters$Pad" "signs" "[C", Cond.static yX4_isBetween, Cond.initialized RX4, Cond.code yX4_isBetween cX4_isBetween 3 (some .boolean), Cond.methodLink RX1 29 yX1_placeAfter, Cond.instanceMethod yX1_placeAfter]
def wsX4_read_r2 : List Cond := [Cond.selects RX1 yX1_placeAfter yX1_placeAfter, Cond.code yX1_placeAfter cX1_placeAfter 4 (some .int), Cond.methodLink RX4 86 yX1_rulesInText, Cond.instanceMethod yX1_rulesInText, Cond.selects RX1 yX1_rulesInText yX1_rulesInText, Cond.code yX1_rulesInText cX1_rulesInText 3 (some .int), Cond.methodLink RX4 58 yX4_remember, Cond.instanceMethod yX4_remember, Cond.selects RX4 yX4_remember yX4_remember, Cond.code yX4_remember cX4_remember 1 none, Cond.fieldLink RX4 30 "LayeredCharters" "remembered" "I", Cond.fieldLink RX4 27 "LayeredCharters" "history" "[LLayeredCharters$State;", Cond.methodLink RX4 216 yX4_dropOldest, Cond.instanceMethod yX4_dropOldest, Cond.selects RX4 yX4_dropOldest yX4_dropOldest, Cond.code yX4_dropOldest cX4_dropOldest 3 none, Cond.methodLink RX4 212 yX4_copyInto, Cond.instanceMethod yX4_copyInto, Cond.selects RX4 yX4_copyInto yX4_copyInto, Cond.code yX4_copyInto cX4_copyInto 3 (some (.object "LayeredCharters$State")), Cond.classLink RX4 9 RX3, Cond.instantiable RX3 2, Cond.initialized RX3, Cond.instanceMethod yX3_init]
def wsX4_read_r3 : List Cond := [Cond.code yX3_init cX3_init 1 none, Cond.methodLink RX3 1 objectInit, Cond.instanceMethod objectInit, Cond.code objectInit ⟨#[0xb1]⟩ 1 none, Cond.classLink RX3 7 RX2, Cond.instantiable RX2 7, Cond.initialized RX2, Cond.fieldLink RX3 10 "LayeredCharters$State" "rules" "LLayeredCharters$Rules;", Cond.classLink RX3 16 RX0, Cond.instantiable RX0 7, Cond.initialized RX0, Cond.fieldLink RX3 19 "LayeredCharters$State" "guild" "LLayeredCharters$Guild;", Cond.instanceMethod yX2_init, Cond.code yX2_init cX2_init 1 none, Cond.methodLink RX2 3 objectInit, Cond.arrayClass .int, Cond.fieldLink RX2 11 "LayeredCharters$Rules" "layers" "[I", Cond.fieldLink RX2 15 "LayeredCharters$Rules" "kinds" "[I", Cond.fieldLink RX2 18 "LayeredCharters$Rules" "crafts" "[I", Cond.fieldLink RX2 21 "LayeredCharters$Rules" "deeds" "[I", Cond.fieldLink RX2 24 "LayeredCharters$Rules" "seals" "[I", Cond.fieldLink RX2 27 "LayeredCharters$Rules" "pairs" "[I", Cond.fieldLink RX2 30 "LayeredCharters$Rules" "size" "I", Cond.instanceMethod yX0_init]
def wsX4_read_r4 : List Cond := [Cond.code yX0_init cX0_init 1 none, Cond.methodLink RX0 3 objectInit, Cond.fieldLink RX0 9 "LayeredCharters$Guild" "crafts" "[I", Cond.fieldLink RX0 15 "LayeredCharters$Guild" "ranks" "[I", Cond.fieldLink RX0 18 "LayeredCharters$Guild" "done" "[I", Cond.fieldLink RX0 21 "LayeredCharters$Guild" "refused" "[I", Cond.fieldLink RX0 24 "LayeredCharters$Guild" "refusals" "[I", Cond.fieldLink RX0 27 "LayeredCharters$Guild" "size" "I", Cond.fieldLink RX0 31 "LayeredCharters$Guild" "doneInAll" "I", Cond.methodLink RX4 208 yX3_copyFrom, Cond.instanceMethod yX3_copyFrom, Cond.selects RX3 yX3_copyFrom yX3_copyFrom, Cond.code yX3_copyFrom cX3_copyFrom 2 none, Cond.methodLink RX3 23 yX2_copyFrom, Cond.instanceMethod yX2_copyFrom, Cond.selects RX2 yX2_copyFrom yX2_copyFrom, Cond.code yX2_copyFrom cX2_copyFrom 2 none, Cond.static yX4_copyRow, Cond.code yX4_copyRow cX4_copyRow 2 none, Cond.methodLink RX4 229 Lib.Math.min.name, Cond.static Lib.Math.min.name, Cond.initialized "java/lang/Math", Cond.code Lib.Math.min.name Lib.Math.min.code 2 (some .int), Cond.methodLink RX4 232 arraycopyName]
def wsX4_read_r5 : List Cond := [Cond.native arraycopyName, Cond.static arraycopyName, Cond.initialized "java/lang/System", Cond.methodLink RX3 27 yX0_copyFrom, Cond.instanceMethod yX0_copyFrom, Cond.selects RX0 yX0_copyFrom yX0_copyFrom, Cond.code yX0_copyFrom cX0_copyFrom 2 none, Cond.methodLink RX4 89 yX1_appendTo, Cond.instanceMethod yX1_appendTo, Cond.selects RX1 yX1_appendTo yX1_appendTo, Cond.code yX1_appendTo cX1_appendTo 7 none, Cond.methodLink RX1 37 yX1_kindOf, Cond.static yX1_kindOf, Cond.code yX1_kindOf cX1_kindOf 1 (some .int), Cond.methodLink RX1 41 yX1_numberOf, Cond.static yX1_numberOf, Cond.code yX1_numberOf cX1_numberOf 2 (some .int), Cond.methodLink RX1 45 yX2_append, Cond.instanceMethod yX2_append, Cond.selects RX2 yX2_append yX2_append, Cond.code yX2_append cX2_append 6 none, Cond.static yX4_pairsOf, Cond.code yX4_pairsOf cX4_pairsOf 5 (some .int), Cond.methodLink RX4 93 yX1_clear]
def wsX4_read_r6 : List Cond := [Cond.instanceMethod yX1_clear, Cond.selects RX1 yX1_clear yX1_clear, Cond.code yX1_clear cX1_clear 1 none]
def wsX4_read : List Cond := .code yX4_read cX4_read 1 (some .int) :: ((wsX4_read_r1 ++ (wsX4_read_r2 ++ (wsX4_read_r3 ++ (wsX4_read_r4 ++ (wsX4_read_r5 ++ wsX4_read_r6))))) ++ wsX40 ++ wsX30 ++ wsX20 ++ wsX10 ++ wsX00)
def wsX4_triplesWithout_r1 : List Cond := [Cond.fieldLink RX4 37 "LayeredCharters" "trial" "LLayeredCharters$Rules;", Cond.fieldLink RX4 12 "LayeredCharters" "now" "LLayeredCharters$State;", Cond.fieldLink RX4 52 "LayeredCharters$State" "rules" "LLayeredCharters$Rules;", Cond.methodLink RX4 219 yX2_copyFrom, Cond.instanceMethod yX2_copyFrom, Cond.selects RX2 yX2_copyFrom yX2_copyFrom, Cond.initialized RX2, Cond.code yX2_copyFrom cX2_copyFrom 2 none, Cond.fieldLink RX2 11 "LayeredCharters$Rules" "layers" "[I", Cond.fieldLink RX2 15 "LayeredCharters$Rules" "kinds" "[I", Cond.fieldLink RX2 18 "LayeredCharters$Rules" "crafts" "[I", Cond.fieldLink RX2 21 "LayeredCharters$Rules" "deeds" "[I", Cond.fieldLink RX2 24 "LayeredCharters$Rules" "seals" "[I", Cond.fieldLink RX2 27 "LayeredCharters$Rules" "pairs" "[I", Cond.fieldLink RX2 30 "LayeredCharters$Rules" "size" "I", Cond.static yX4_copyRow, Cond.initialized RX4, Cond.code yX4_copyRow cX4_copyRow 2 none, Cond.methodLink RX4 229 Lib.Math.min.name, Cond.static Lib.Math.min.name, Cond.initialized "java/lang/Math", Cond.code Lib.Math.min.name Lib.Math.min.code 2 (some .int), Cond.methodLink RX4 232 arraycopyName, Cond.native arraycopyName]
def wsX4_triplesWithout_r2 : List Cond := [Cond.static arraycopyName, Cond.initialized "java/lang/System", Cond.methodLink RX4 68 yX2_remove, Cond.instanceMethod yX2_remove, Cond.selects RX2 yX2_remove yX2_remove, Cond.code yX2_remove cX2_remove 2 none, Cond.methodLink RX2 42 yX2_has, Cond.instanceMethod yX2_has, Cond.selects RX2 yX2_has yX2_has, Cond.code yX2_has cX2_has 2 (some .boolean), Cond.static yX4_closeGap, Cond.code yX4_closeGap cX4_closeGap 3 none, Cond.methodLink RX4 224 Lib.Math.max.name, Cond.static Lib.Math.max.name, Cond.code Lib.Math.max.name Lib.Math.max.code 2 (some .int), Cond.methodLink RX4 146 yX2_triples, Cond.instanceMethod yX2_triples, Cond.selects RX2 yX2_triples yX2_triples, Cond.code yX2_triples cX2_triples 4 (some .int), Cond.methodLink RX2 58 yX2_permittedPairs, Cond.instanceMethod yX2_permittedPairs, Cond.selects RX2 yX2_permittedPairs yX2_permittedPairs, Cond.code yX2_permittedPairs cX2_permittedPairs 3 (some .int), Cond.methodLink RX2 77 yJ6_bitCount_0f7a4]
def wsX4_triplesWithout_r3 : List Cond := [Cond.static yJ6_bitCount_0f7a4, Cond.initialized RJ6, Cond.code yJ6_bitCount_0f7a4 cJ6_bitCount_0f7a4 1 (some .int), Cond.constant RJ6 265 (1431655765), Cond.constant RJ6 266 (858993459), Cond.constant RJ6 267 (252645135), Cond.methodLink RX2 74 yX2_heldPairsOfSeal, Cond.instanceMethod yX2_heldPairsOfSeal, Cond.selects RX2 yX2_heldPairsOfSeal yX2_heldPairsOfSeal, Cond.code yX2_heldPairsOfSeal cX2_heldPairsOfSeal 4 (some .int), Cond.methodLink RX2 62 yX2_heldPairs, Cond.instanceMethod yX2_heldPairs, Cond.selects RX2 yX2_heldPairs yX2_heldPairs, Cond.code yX2_heldPairs cX2_heldPairs 4 (some .int), Cond.methodLink RX2 82 yX2_lifts, Cond.instanceMethod yX2_lifts, Cond.selects RX2 yX2_lifts yX2_lifts, Cond.code yX2_lifts cX2_lifts 3 (some .boolean)]
def wsX4_triplesWithout : List Cond := .code yX4_triplesWithout cX4_triplesWithout 2 (some .int) :: ((wsX4_triplesWithout_r1 ++ (wsX4_triplesWithout_r2 ++ wsX4_triplesWithout_r3)) ++ wsX40 ++ wsX30 ++ wsX20)
def wsX4_isIdle_r1 : List Cond := [Cond.methodLink RX4 195 yX4_triplesWithout, Cond.instanceMethod yX4_triplesWithout, Cond.selects RX4 yX4_triplesWithout yX4_triplesWithout, Cond.initialized RX4, Cond.code yX4_triplesWithout cX4_triplesWithout 2 (some .int), Cond.fieldLink RX4 37 "LayeredCharters" "trial" "LLayeredCharters$Rules;", Cond.fieldLink RX4 12 "LayeredCharters" "now" "LLayeredCharters$State;", Cond.fieldLink RX4 52 "LayeredCharters$State" "rules" "LLayeredCharters$Rules;", Cond.methodLink RX4 219 yX2_copyFrom, Cond.instanceMethod yX2_copyFrom, Cond.selects RX2 yX2_copyFrom yX2_copyFrom, Cond.initialized RX2, Cond.code yX2_copyFrom cX2_copyFrom 2 none, Cond.fieldLink RX2 11 "LayeredCharters$Rules" "layers" "[I", Cond.fieldLink RX2 15 "LayeredCharters$Rules" "kinds" "[I", Cond.fieldLink RX2 18 "LayeredCharters$Rules" "crafts" "[I", Cond.fieldLink RX2 21 "LayeredCharters$Rules" "deeds" "[I", Cond.fieldLink RX2 24 "LayeredCharters$Rules" "seals" "[I", Cond.fieldLink RX2 27 "LayeredCharters$Rules" "pairs" "[I", Cond.fieldLink RX2 30 "LayeredCharters$Rules" "size" "I", Cond.static yX4_copyRow, Cond.code yX4_copyRow cX4_copyRow 2 none, Cond.methodLink RX4 229 Lib.Math.min.name, Cond.static Lib.Math.min.name]
def wsX4_isIdle_r2 : List Cond := [Cond.initialized "java/lang/Math", Cond.code Lib.Math.min.name Lib.Math.min.code 2 (some .int), Cond.methodLink RX4 232 arraycopyName, Cond.native arraycopyName, Cond.static arraycopyName, Cond.initialized "java/lang/System", Cond.methodLink RX4 68 yX2_remove, Cond.instanceMethod yX2_remove, Cond.selects RX2 yX2_remove yX2_remove, Cond.code yX2_remove cX2_remove 2 none, Cond.methodLink RX2 42 yX2_has, Cond.instanceMethod yX2_has, Cond.selects RX2 yX2_has yX2_has, Cond.code yX2_has cX2_has 2 (some .boolean), Cond.static yX4_closeGap, Cond.code yX4_closeGap cX4_closeGap 3 none, Cond.methodLink RX4 224 Lib.Math.max.name, Cond.static Lib.Math.max.name, Cond.code Lib.Math.max.name Lib.Math.max.code 2 (some .int), Cond.methodLink RX4 146 yX2_triples, Cond.instanceMethod yX2_triples, Cond.selects RX2 yX2_triples yX2_triples, Cond.code yX2_triples cX2_triples 4 (some .int), Cond.methodLink RX2 58 yX2_permittedPairs]
def wsX4_isIdle_r3 : List Cond := [Cond.instanceMethod yX2_permittedPairs, Cond.selects RX2 yX2_permittedPairs yX2_permittedPairs, Cond.code yX2_permittedPairs cX2_permittedPairs 3 (some .int), Cond.methodLink RX2 77 yJ6_bitCount_0f7a4, Cond.static yJ6_bitCount_0f7a4, Cond.initialized RJ6, Cond.code yJ6_bitCount_0f7a4 cJ6_bitCount_0f7a4 1 (some .int), Cond.constant RJ6 265 (1431655765), Cond.constant RJ6 266 (858993459), Cond.constant RJ6 267 (252645135), Cond.methodLink RX2 74 yX2_heldPairsOfSeal, Cond.instanceMethod yX2_heldPairsOfSeal, Cond.selects RX2 yX2_heldPairsOfSeal yX2_heldPairsOfSeal, Cond.code yX2_heldPairsOfSeal cX2_heldPairsOfSeal 4 (some .int), Cond.methodLink RX2 62 yX2_heldPairs, Cond.instanceMethod yX2_heldPairs, Cond.selects RX2 yX2_heldPairs yX2_heldPairs, Cond.code yX2_heldPairs cX2_heldPairs 4 (some .int), Cond.methodLink RX2 82 yX2_lifts, Cond.instanceMethod yX2_lifts, Cond.selects RX2 yX2_lifts yX2_lifts, Cond.code yX2_lifts cX2_lifts 3 (some .boolean)]
def wsX4_isIdle : List Cond := .code yX4_isIdle cX4_isIdle 3 (some .boolean) :: ((wsX4_isIdle_r1 ++ (wsX4_isIdle_r2 ++ wsX4_isIdle_r3)) ++ wsX40 ++ wsX30 ++ wsX20)
def wsX4_firstIdle_r1 : List Cond := [Cond.fieldLink RX4 12 "LayeredCharters" "now" "LLayeredCharters$State;", Cond.fieldLink RX4 52 "LayeredCharters$State" "rules" "LLayeredCharters$Rules;", Cond.fieldLink RX4 55 "LayeredCharters$Rules" "size" "I", Cond.methodLink RX4 146 yX2_triples, Cond.instanceMethod yX2_triples, Cond.selects RX2 yX2_triples yX2_triples, Cond.initialized RX2, Cond.code yX2_triples cX2_triples 4 (some .int), Cond.methodLink RX2 58 yX2_permittedPairs, Cond.instanceMethod yX2_permittedPairs, Cond.selects RX2 yX2_permittedPairs yX2_permittedPairs, Cond.code yX2_permittedPairs cX2_permittedPairs 3 (some .int), Cond.fieldLink RX2 30 "LayeredCharters$Rules" "size" "I", Cond.fieldLink RX2 15 "LayeredCharters$Rules" "kinds" "[I", Cond.fieldLink RX2 27 "LayeredCharters$Rules" "pairs" "[I", Cond.methodLink RX2 77 yJ6_bitCount_0f7a4, Cond.static yJ6_bitCount_0f7a4, Cond.initialized RJ6, Cond.code yJ6_bitCount_0f7a4 cJ6_bitCount_0f7a4 1 (some .int), Cond.constant RJ6 265 (1431655765), Cond.constant RJ6 266 (858993459), Cond.constant RJ6 267 (252645135), Cond.methodLink RX2 74 yX2_heldPairsOfSeal, Cond.instanceMethod yX2_heldPairsOfSeal]
def wsX4_firstIdle_r2 : List Cond := [Cond.selects RX2 yX2_heldPairsOfSeal yX2_heldPairsOfSeal, Cond.code yX2_heldPairsOfSeal cX2_heldPairsOfSeal 4 (some .int), Cond.fieldLink RX2 24 "LayeredCharters$Rules" "seals" "[I", Cond.methodLink RX2 62 yX2_heldPairs, Cond.instanceMethod yX2_heldPairs, Cond.selects RX2 yX2_heldPairs yX2_heldPairs, Cond.code yX2_heldPairs cX2_heldPairs 4 (some .int), Cond.methodLink RX2 82 yX2_lifts, Cond.instanceMethod yX2_lifts, Cond.selects RX2 yX2_lifts yX2_lifts, Cond.code yX2_lifts cX2_lifts 3 (some .boolean), Cond.fieldLink RX2 11 "LayeredCharters$Rules" "layers" "[I", Cond.methodLink RX4 149 yX4_isIdle, Cond.instanceMethod yX4_isIdle, Cond.selects RX4 yX4_isIdle yX4_isIdle, Cond.initialized RX4, Cond.code yX4_isIdle cX4_isIdle 3 (some .boolean), Cond.methodLink RX4 195 yX4_triplesWithout, Cond.instanceMethod yX4_triplesWithout, Cond.selects RX4 yX4_triplesWithout yX4_triplesWithout, Cond.code yX4_triplesWithout cX4_triplesWithout 2 (some .int), Cond.fieldLink RX4 37 "LayeredCharters" "trial" "LLayeredCharters$Rules;", Cond.methodLink RX4 219 yX2_copyFrom, Cond.instanceMethod yX2_copyFrom]
def wsX4_firstIdle_r3 : List Cond := [Cond.selects RX2 yX2_copyFrom yX2_copyFrom, Cond.code yX2_copyFrom cX2_copyFrom 2 none, Cond.fieldLink RX2 18 "LayeredCharters$Rules" "crafts" "[I", Cond.fieldLink RX2 21 "LayeredCharters$Rules" "deeds" "[I", Cond.static yX4_copyRow, Cond.code yX4_copyRow cX4_copyRow 2 none, Cond.methodLink RX4 229 Lib.Math.min.name, Cond.static Lib.Math.min.name, Cond.initialized "java/lang/Math", Cond.code Lib.Math.min.name Lib.Math.min.code 2 (some .int), Cond.methodLink RX4 232 arraycopyName, Cond.native arraycopyName, Cond.static arraycopyName, Cond.initialized "java/lang/System", Cond.methodLink RX4 68 yX2_remove, Cond.instanceMethod yX2_remove, Cond.selects RX2 yX2_remove yX2_remove, Cond.code yX2_remove cX2_remove 2 none, Cond.methodLink RX2 42 yX2_has, Cond.instanceMethod yX2_has, Cond.selects RX2 yX2_has yX2_has, Cond.code yX2_has cX2_has 2 (some .boolean), Cond.static yX4_closeGap, Cond.code yX4_closeGap cX4_closeGap 3 none]
def wsX4_firstIdle_r4 : List Cond := [Cond.methodLink RX4 224 Lib.Math.max.name, Cond.static Lib.Math.max.name, Cond.code Lib.Math.max.name Lib.Math.max.code 2 (some .int)]
def wsX4_firstIdle : List Cond := .code yX4_firstIdle cX4_firstIdle 3 (some .int) :: ((wsX4_firstIdle_r1 ++ (wsX4_firstIdle_r2 ++ (wsX4_firstIdle_r3 ++ wsX4_firstIdle_r4))) ++ wsX40 ++ wsX30 ++ wsX20)
def wsX4_tidy_r1 : List Cond := [Cond.fieldLink RX4 12 "LayeredCharters" "now" "LLayeredCharters$State;", Cond.fieldLink RX4 52 "LayeredCharters$State" "rules" "LLayeredCharters$Rules;", Cond.methodLink RX4 58 yX4_remember, Cond.instanceMethod yX4_remember, Cond.selects RX4 yX4_remember yX4_remember, Cond.initialized RX4, Cond.code yX4_remember cX4_remember 1 none, Cond.fieldLink RX4 30 "LayeredCharters" "remembered" "I", Cond.fieldLink RX4 27 "LayeredCharters" "history" "[LLayeredCharters$State;", Cond.methodLink RX4 216 yX4_dropOldest, Cond.instanceMethod yX4_dropOldest, Cond.selects RX4 yX4_dropOldest yX4_dropOldest, Cond.code yX4_dropOldest cX4_dropOldest 3 none, Cond.methodLink RX4 212 yX4_copyInto, Cond.instanceMethod yX4_copyInto, Cond.selects RX4 yX4_copyInto yX4_copyInto, Cond.code yX4_copyInto cX4_copyInto 3 (some (.object "LayeredCharters$State")), Cond.classLink RX4 9 RX3, Cond.instantiable RX3 2, Cond.initialized RX3, Cond.instanceMethod yX3_init, Cond.code yX3_init cX3_init 1 none, Cond.methodLink RX3 1 objectInit, Cond.instanceMethod objectInit]
def wsX4_tidy_r2 : List Cond := [Cond.code objectInit ⟨#[0xb1]⟩ 1 none, Cond.classLink RX3 7 RX2, Cond.instantiable RX2 7, Cond.initialized RX2, Cond.fieldLink RX3 10 "LayeredCharters$State" "rules" "LLayeredCharters$Rules;", Cond.classLink RX3 16 RX0, Cond.instantiable RX0 7, Cond.initialized RX0, Cond.fieldLink RX3 19 "LayeredCharters$State" "guild" "LLayeredCharters$Guild;", Cond.instanceMethod yX2_init, Cond.code yX2_init cX2_init 1 none, Cond.methodLink RX2 3 objectInit, Cond.arrayClass .int, Cond.fieldLink RX2 11 "LayeredCharters$Rules" "layers" "[I", Cond.fieldLink RX2 15 "LayeredCharters$Rules" "kinds" "[I", Cond.fieldLink RX2 18 "LayeredCharters$Rules" "crafts" "[I", Cond.fieldLink RX2 21 "LayeredCharters$Rules" "deeds" "[I", Cond.fieldLink RX2 24 "LayeredCharters$Rules" "seals" "[I", Cond.fieldLink RX2 27 "LayeredCharters$Rules" "pairs" "[I", Cond.fieldLink RX2 30 "LayeredCharters$Rules" "size" "I", Cond.instanceMethod yX0_init, Cond.code yX0_init cX0_init 1 none, Cond.methodLink RX0 3 objectInit, Cond.fieldLink RX0 9 "LayeredCharters$Guild" "crafts" "[I"]
def wsX4_tidy_r3 : List Cond := [Cond.fieldLink RX0 15 "LayeredCharters$Guild" "ranks" "[I", Cond.fieldLink RX0 18 "LayeredCharters$Guild" "done" "[I", Cond.fieldLink RX0 21 "LayeredCharters$Guild" "refused" "[I", Cond.fieldLink RX0 24 "LayeredCharters$Guild" "refusals" "[I", Cond.fieldLink RX0 27 "LayeredCharters$Guild" "size" "I", Cond.fieldLink RX0 31 "LayeredCharters$Guild" "doneInAll" "I", Cond.methodLink RX4 208 yX3_copyFrom, Cond.instanceMethod yX3_copyFrom, Cond.selects RX3 yX3_copyFrom yX3_copyFrom, Cond.code yX3_copyFrom cX3_copyFrom 2 none, Cond.methodLink RX3 23 yX2_copyFrom, Cond.instanceMethod yX2_copyFrom, Cond.selects RX2 yX2_copyFrom yX2_copyFrom, Cond.code yX2_copyFrom cX2_copyFrom 2 none, Cond.static yX4_copyRow, Cond.code yX4_copyRow cX4_copyRow 2 none, Cond.methodLink RX4 229 Lib.Math.min.name, Cond.static Lib.Math.min.name, Cond.initialized "java/lang/Math", Cond.code Lib.Math.min.name Lib.Math.min.code 2 (some .int), Cond.methodLink RX4 232 arraycopyName, Cond.native arraycopyName, Cond.static arraycopyName, Cond.initialized "java/lang/System"]
def wsX4_tidy_r4 : List Cond := [Cond.methodLink RX3 27 yX0_copyFrom, Cond.instanceMethod yX0_copyFrom, Cond.selects RX0 yX0_copyFrom yX0_copyFrom, Cond.code yX0_copyFrom cX0_copyFrom 2 none, Cond.methodLink RX4 96 yX4_firstIdle, Cond.instanceMethod yX4_firstIdle, Cond.selects RX4 yX4_firstIdle yX4_firstIdle, Cond.code yX4_firstIdle cX4_firstIdle 3 (some .int), Cond.fieldLink RX4 55 "LayeredCharters$Rules" "size" "I", Cond.methodLink RX4 146 yX2_triples, Cond.instanceMethod yX2_triples, Cond.selects RX2 yX2_triples yX2_triples, Cond.code yX2_triples cX2_triples 4 (some .int), Cond.methodLink RX2 58 yX2_permittedPairs, Cond.instanceMethod yX2_permittedPairs, Cond.selects RX2 yX2_permittedPairs yX2_permittedPairs, Cond.code yX2_permittedPairs cX2_permittedPairs 3 (some .int), Cond.methodLink RX2 77 yJ6_bitCount_0f7a4, Cond.static yJ6_bitCount_0f7a4, Cond.initialized RJ6, Cond.code yJ6_bitCount_0f7a4 cJ6_bitCount_0f7a4 1 (some .int), Cond.constant RJ6 265 (1431655765), Cond.constant RJ6 266 (858993459), Cond.constant RJ6 267 (252645135)]
def wsX4_tidy_r5 : List Cond := [Cond.methodLink RX2 74 yX2_heldPairsOfSeal, Cond.instanceMethod yX2_heldPairsOfSeal, Cond.selects RX2 yX2_heldPairsOfSeal yX2_heldPairsOfSeal, Cond.code yX2_heldPairsOfSeal cX2_heldPairsOfSeal 4 (some .int), Cond.methodLink RX2 62 yX2_heldPairs, Cond.instanceMethod yX2_heldPairs, Cond.selects RX2 yX2_heldPairs yX2_heldPairs, Cond.code yX2_heldPairs cX2_heldPairs 4 (some .int), Cond.methodLink RX2 82 yX2_lifts, Cond.instanceMethod yX2_lifts, Cond.selects RX2 yX2_lifts yX2_lifts, Cond.code yX2_lifts cX2_lifts 3 (some .boolean), Cond.methodLink RX4 149 yX4_isIdle, Cond.instanceMethod yX4_isIdle, Cond.selects RX4 yX4_isIdle yX4_isIdle, Cond.code yX4_isIdle cX4_isIdle 3 (some .boolean), Cond.methodLink RX4 195 yX4_triplesWithout, Cond.instanceMethod yX4_triplesWithout, Cond.selects RX4 yX4_triplesWithout yX4_triplesWithout, Cond.code yX4_triplesWithout cX4_triplesWithout 2 (some .int), Cond.fieldLink RX4 37 "LayeredCharters" "trial" "LLayeredCharters$Rules;", Cond.methodLink RX4 219 yX2_copyFrom, Cond.methodLink RX4 68 yX2_remove, Cond.instanceMethod yX2_remove]
def wsX4_tidy_r6 : List Cond := [Cond.selects RX2 yX2_remove yX2_remove, Cond.code yX2_remove cX2_remove 2 none, Cond.methodLink RX2 42 yX2_has, Cond.instanceMethod yX2_has, Cond.selects RX2 yX2_has yX2_has, Cond.code yX2_has cX2_has 2 (some .boolean), Cond.static yX4_closeGap, Cond.code yX4_closeGap cX4_closeGap 3 none, Cond.methodLink RX4 224 Lib.Math.max.name, Cond.static Lib.Math.max.name, Cond.code Lib.Math.max.name Lib.Math.max.code 2 (some .int)]
def wsX4_tidy : List Cond := .code yX4_tidy cX4_tidy 3 (some .int) :: ((wsX4_tidy_r1 ++ (wsX4_tidy_r2 ++ (wsX4_tidy_r3 ++ (wsX4_tidy_r4 ++ (wsX4_tidy_r5 ++ wsX4_tidy_r6))))) ++ wsX40 ++ wsX30 ++ wsX20 ++ wsX00)
def wsX4_isCraft : List Cond := .code yX4_isCraft cX4_isCraft 1 (some .boolean) :: ([.methodLink RX4 45 yX4_isBetween, .static yX4_isBetween, .initialized RX4, .code yX4_isBetween cX4_isBetween 3 (some .boolean)])
def wsX4_isRank : List Cond := .code yX4_isRank cX4_isRank 1 (some .boolean) :: ([.methodLink RX4 45 yX4_isBetween, .static yX4_isBetween, .initialized RX4, .code yX4_isBetween cX4_isBetween 3 (some .boolean)])
def wsX4_join_r1 : List Cond := [Cond.fieldLink RX4 12 "LayeredCharters" "now" "LLayeredCharters$State;", Cond.fieldLink RX4 105 "LayeredCharters$State" "guild" "LLayeredCharters$Guild;", Cond.fieldLink RX4 109 "LayeredCharters$Guild" "size" "I", Cond.methodLink RX4 99 yX4_isCraft, Cond.static yX4_isCraft, Cond.initialized RX4, Cond.code yX4_isCraft cX4_isCraft 1 (some .boolean), Cond.methodLink RX4 45 yX4_isBetween, Cond.static yX4_isBetween, Cond.code yX4_isBetween cX4_isBetween 3 (some .boolean), Cond.methodLink RX4 102 yX4_isRank, Cond.static yX4_isRank, Cond.code yX4_isRank cX4_isRank 1 (some .boolean), Cond.methodLink RX4 58 yX4_remember, Cond.instanceMethod yX4_remember, Cond.selects RX4 yX4_remember yX4_remember, Cond.code yX4_remember cX4_remember 1 none, Cond.fieldLink RX4 30 "LayeredCharters" "remembered" "I", Cond.fieldLink RX4 27 "LayeredCharters" "history" "[LLayeredCharters$State;", Cond.methodLink RX4 216 yX4_dropOldest, Cond.instanceMethod yX4_dropOldest, Cond.selects RX4 yX4_dropOldest yX4_dropOldest, Cond.code yX4_dropOldest cX4_dropOldest 3 none, Cond.methodLink RX4 212 yX4_copyInto]
def wsX4_join_r2 : List Cond := [Cond.instanceMethod yX4_copyInto, Cond.selects RX4 yX4_copyInto yX4_copyInto, Cond.code yX4_copyInto cX4_copyInto 3 (some (.object "LayeredCharters$State")), Cond.classLink RX4 9 RX3, Cond.instantiable RX3 2, Cond.initialized RX3, Cond.instanceMethod yX3_init, Cond.code yX3_init cX3_init 1 none, Cond.methodLink RX3 1 objectInit, Cond.instanceMethod objectInit, Cond.code objectInit ⟨#[0xb1]⟩ 1 none, Cond.classLink RX3 7 RX2, Cond.instantiable RX2 7, Cond.initialized RX2, Cond.fieldLink RX3 10 "LayeredCharters$State" "rules" "LLayeredCharters$Rules;", Cond.classLink RX3 16 RX0, Cond.instantiable RX0 7, Cond.initialized RX0, Cond.fieldLink RX3 19 "LayeredCharters$State" "guild" "LLayeredCharters$Guild;", Cond.instanceMethod yX2_init, Cond.code yX2_init cX2_init 1 none, Cond.methodLink RX2 3 objectInit, Cond.arrayClass .int, Cond.fieldLink RX2 11 "LayeredCharters$Rules" "layers" "[I"]
def wsX4_join_r3 : List Cond := [Cond.fieldLink RX2 15 "LayeredCharters$Rules" "kinds" "[I", Cond.fieldLink RX2 18 "LayeredCharters$Rules" "crafts" "[I", Cond.fieldLink RX2 21 "LayeredCharters$Rules" "deeds" "[I", Cond.fieldLink RX2 24 "LayeredCharters$Rules" "seals" "[I", Cond.fieldLink RX2 27 "LayeredCharters$Rules" "pairs" "[I", Cond.fieldLink RX2 30 "LayeredCharters$Rules" "size" "I", Cond.instanceMethod yX0_init, Cond.code yX0_init cX0_init 1 none, Cond.methodLink RX0 3 objectInit, Cond.fieldLink RX0 9 "LayeredCharters$Guild" "crafts" "[I", Cond.fieldLink RX0 15 "LayeredCharters$Guild" "ranks" "[I", Cond.fieldLink RX0 18 "LayeredCharters$Guild" "done" "[I", Cond.fieldLink RX0 21 "LayeredCharters$Guild" "refused" "[I", Cond.fieldLink RX0 24 "LayeredCharters$Guild" "refusals" "[I", Cond.fieldLink RX0 27 "LayeredCharters$Guild" "size" "I", Cond.fieldLink RX0 31 "LayeredCharters$Guild" "doneInAll" "I", Cond.methodLink RX4 208 yX3_copyFrom, Cond.instanceMethod yX3_copyFrom, Cond.selects RX3 yX3_copyFrom yX3_copyFrom, Cond.code yX3_copyFrom cX3_copyFrom 2 none, Cond.methodLink RX3 23 yX2_copyFrom, Cond.instanceMethod yX2_copyFrom, Cond.selects RX2 yX2_copyFrom yX2_copyFrom, Cond.code yX2_copyFrom cX2_copyFrom 2 none]
def wsX4_join_r4 : List Cond := [Cond.static yX4_copyRow, Cond.code yX4_copyRow cX4_copyRow 2 none, Cond.methodLink RX4 229 Lib.Math.min.name, Cond.static Lib.Math.min.name, Cond.initialized "java/lang/Math", Cond.code Lib.Math.min.name Lib.Math.min.code 2 (some .int), Cond.methodLink RX4 232 arraycopyName, Cond.native arraycopyName, Cond.static arraycopyName, Cond.initialized "java/lang/System", Cond.methodLink RX3 27 yX0_copyFrom, Cond.instanceMethod yX0_copyFrom, Cond.selects RX0 yX0_copyFrom yX0_copyFrom, Cond.code yX0_copyFrom cX0_copyFrom 2 none, Cond.methodLink RX4 112 yX0_append, Cond.instanceMethod yX0_append, Cond.selects RX0 yX0_append yX0_append, Cond.code yX0_append cX0_append 3 none]
def wsX4_join : List Cond := .code yX4_join cX4_join 3 (some .int) :: ((wsX4_join_r1 ++ (wsX4_join_r2 ++ (wsX4_join_r3 ++ wsX4_join_r4))) ++ wsX40 ++ wsX30 ++ wsX00 ++ wsX20)
def wsX4_leave_r1 : List Cond := [Cond.fieldLink RX4 12 "LayeredCharters" "now" "LLayeredCharters$State;", Cond.fieldLink RX4 105 "LayeredCharters$State" "guild" "LLayeredCharters$Guild;", Cond.fieldLink RX4 116 "LayeredCharters$Guild" "done" "[I", Cond.methodLink RX4 115 yX0_has, Cond.instanceMethod yX0_has, Cond.selects RX0 yX0_has yX0_has, Cond.initialized RX0, Cond.code yX0_has cX0_has 2 (some .boolean), Cond.fieldLink RX0 27 "LayeredCharters$Guild" "size" "I", Cond.methodLink RX4 58 yX4_remember, Cond.instanceMethod yX4_remember, Cond.selects RX4 yX4_remember yX4_remember, Cond.initialized RX4, Cond.code yX4_remember cX4_remember 1 none, Cond.fieldLink RX4 30 "LayeredCharters" "remembered" "I", Cond.fieldLink RX4 27 "LayeredCharters" "history" "[LLayeredCharters$State;", Cond.methodLink RX4 216 yX4_dropOldest, Cond.instanceMethod yX4_dropOldest, Cond.selects RX4 yX4_dropOldest yX4_dropOldest, Cond.code yX4_dropOldest cX4_dropOldest 3 none, Cond.methodLink RX4 212 yX4_copyInto, Cond.instanceMethod yX4_copyInto, Cond.selects RX4 yX4_copyInto yX4_copyInto, Cond.code yX4_copyInto cX4_copyInto 3 (some (.object "LayeredCharters$State"))]
def wsX4_leave_r2 : List Cond := [Cond.classLink RX4 9 RX3, Cond.instantiable RX3 2, Cond.initialized RX3, Cond.instanceMethod yX3_init, Cond.code yX3_init cX3_init 1 none, Cond.methodLink RX3 1 objectInit, Cond.instanceMethod objectInit, Cond.code objectInit ⟨#[0xb1]⟩ 1 none, Cond.classLink RX3 7 RX2, Cond.instantiable RX2 7, Cond.initialized RX2, Cond.fieldLink RX3 10 "LayeredCharters$State" "rules" "LLayeredCharters$Rules;", Cond.classLink RX3 16 RX0, Cond.instantiable RX0 7, Cond.fieldLink RX3 19 "LayeredCharters$State" "guild" "LLayeredCharters$Guild;", Cond.instanceMethod yX2_init, Cond.code yX2_init cX2_init 1 none, Cond.methodLink RX2 3 objectInit, Cond.arrayClass .int, Cond.fieldLink RX2 11 "LayeredCharters$Rules" "layers" "[I", Cond.fieldLink RX2 15 "LayeredCharters$Rules" "kinds" "[I", Cond.fieldLink RX2 18 "LayeredCharters$Rules" "crafts" "[I", Cond.fieldLink RX2 21 "LayeredCharters$Rules" "deeds" "[I", Cond.fieldLink RX2 24 "LayeredCharters$Rules" "seals" "[I"]
def wsX4_leave_r3 : List Cond := [Cond.fieldLink RX2 27 "LayeredCharters$Rules" "pairs" "[I", Cond.fieldLink RX2 30 "LayeredCharters$Rules" "size" "I", Cond.instanceMethod yX0_init, Cond.code yX0_init cX0_init 1 none, Cond.methodLink RX0 3 objectInit, Cond.fieldLink RX0 9 "LayeredCharters$Guild" "crafts" "[I", Cond.fieldLink RX0 15 "LayeredCharters$Guild" "ranks" "[I", Cond.fieldLink RX0 18 "LayeredCharters$Guild" "done" "[I", Cond.fieldLink RX0 21 "LayeredCharters$Guild" "refused" "[I", Cond.fieldLink RX0 24 "LayeredCharters$Guild" "refusals" "[I", Cond.fieldLink RX0 31 "LayeredCharters$Guild" "doneInAll" "I", Cond.methodLink RX4 208 yX3_copyFrom, Cond.instanceMethod yX3_copyFrom, Cond.selects RX3 yX3_copyFrom yX3_copyFrom, Cond.code yX3_copyFrom cX3_copyFrom 2 none, Cond.methodLink RX3 23 yX2_copyFrom, Cond.instanceMethod yX2_copyFrom, Cond.selects RX2 yX2_copyFrom yX2_copyFrom, Cond.code yX2_copyFrom cX2_copyFrom 2 none, Cond.static yX4_copyRow, Cond.code yX4_copyRow cX4_copyRow 2 none, Cond.methodLink RX4 229 Lib.Math.min.name, Cond.static Lib.Math.min.name, Cond.initialized "java/lang/Math"]
def wsX4_leave_r4 : List Cond := [Cond.code Lib.Math.min.name Lib.Math.min.code 2 (some .int), Cond.methodLink RX4 232 arraycopyName, Cond.native arraycopyName, Cond.static arraycopyName, Cond.initialized "java/lang/System", Cond.methodLink RX3 27 yX0_copyFrom, Cond.instanceMethod yX0_copyFrom, Cond.selects RX0 yX0_copyFrom yX0_copyFrom, Cond.code yX0_copyFrom cX0_copyFrom 2 none, Cond.methodLink RX4 119 yX0_remove, Cond.instanceMethod yX0_remove, Cond.selects RX0 yX0_remove yX0_remove, Cond.code yX0_remove cX0_remove 2 none, Cond.methodLink RX0 38 yX0_has, Cond.static yX4_closeGap, Cond.code yX4_closeGap cX4_closeGap 3 none, Cond.methodLink RX4 224 Lib.Math.max.name, Cond.static Lib.Math.max.name, Cond.code Lib.Math.max.name Lib.Math.max.code 2 (some .int)]
def wsX4_leave : List Cond := .code yX4_leave cX4_leave 3 (some .int) :: ((wsX4_leave_r1 ++ (wsX4_leave_r2 ++ (wsX4_leave_r3 ++ wsX4_leave_r4))) ++ wsX40 ++ wsX30 ++ wsX00 ++ wsX20)
def wsX4_rank_r1 : List Cond := [Cond.fieldLink RX4 12 "LayeredCharters" "now" "LLayeredCharters$State;", Cond.fieldLink RX4 105 "LayeredCharters$State" "guild" "LLayeredCharters$Guild;", Cond.fieldLink RX4 120 "LayeredCharters$Guild" "ranks" "[I", Cond.methodLink RX4 115 yX0_has, Cond.instanceMethod yX0_has, Cond.selects RX0 yX0_has yX0_has, Cond.initialized RX0, Cond.code yX0_has cX0_has 2 (some .boolean), Cond.fieldLink RX0 27 "LayeredCharters$Guild" "size" "I", Cond.methodLink RX4 102 yX4_isRank, Cond.static yX4_isRank, Cond.initialized RX4, Cond.code yX4_isRank cX4_isRank 1 (some .boolean), Cond.methodLink RX4 45 yX4_isBetween, Cond.static yX4_isBetween, Cond.code yX4_isBetween cX4_isBetween 3 (some .boolean), Cond.methodLink RX4 58 yX4_remember, Cond.instanceMethod yX4_remember, Cond.selects RX4 yX4_remember yX4_remember, Cond.code yX4_remember cX4_remember 1 none, Cond.fieldLink RX4 30 "LayeredCharters" "remembered" "I", Cond.fieldLink RX4 27 "LayeredCharters" "history" "[LLayeredCharters$State;", Cond.methodLink RX4 216 yX4_dropOldest, Cond.instanceMethod yX4_dropOldest]
def wsX4_rank_r2 : List Cond := [Cond.selects RX4 yX4_dropOldest yX4_dropOldest, Cond.code yX4_dropOldest cX4_dropOldest 3 none, Cond.methodLink RX4 212 yX4_copyInto, Cond.instanceMethod yX4_copyInto, Cond.selects RX4 yX4_copyInto yX4_copyInto, Cond.code yX4_copyInto cX4_copyInto 3 (some (.object "LayeredCharters$State")), Cond.classLink RX4 9 RX3, Cond.instantiable RX3 2, Cond.initialized RX3, Cond.instanceMethod yX3_init, Cond.code yX3_init cX3_init 1 none, Cond.methodLink RX3 1 objectInit, Cond.instanceMethod objectInit, Cond.code objectInit ⟨#[0xb1]⟩ 1 none, Cond.classLink RX3 7 RX2, Cond.instantiable RX2 7, Cond.initialized RX2, Cond.fieldLink RX3 10 "LayeredCharters$State" "rules" "LLayeredCharters$Rules;", Cond.classLink RX3 16 RX0, Cond.instantiable RX0 7, Cond.fieldLink RX3 19 "LayeredCharters$State" "guild" "LLayeredCharters$Guild;", Cond.instanceMethod yX2_init, Cond.code yX2_init cX2_init 1 none, Cond.methodLink RX2 3 objectInit]
def wsX4_rank_r3 : List Cond := [Cond.arrayClass .int, Cond.fieldLink RX2 11 "LayeredCharters$Rules" "layers" "[I", Cond.fieldLink RX2 15 "LayeredCharters$Rules" "kinds" "[I", Cond.fieldLink RX2 18 "LayeredCharters$Rules" "crafts" "[I", Cond.fieldLink RX2 21 "LayeredCharters$Rules" "deeds" "[I", Cond.fieldLink RX2 24 "LayeredCharters$Rules" "seals" "[I", Cond.fieldLink RX2 27 "LayeredCharters$Rules" "pairs" "[I", Cond.fieldLink RX2 30 "LayeredCharters$Rules" "size" "I", Cond.instanceMethod yX0_init, Cond.code yX0_init cX0_init 1 none, Cond.methodLink RX0 3 objectInit, Cond.fieldLink RX0 9 "LayeredCharters$Guild" "crafts" "[I", Cond.fieldLink RX0 15 "LayeredCharters$Guild" "ranks" "[I", Cond.fieldLink RX0 18 "LayeredCharters$Guild" "done" "[I", Cond.fieldLink RX0 21 "LayeredCharters$Guild" "refused" "[I", Cond.fieldLink RX0 24 "LayeredCharters$Guild" "refusals" "[I", Cond.fieldLink RX0 31 "LayeredCharters$Guild" "doneInAll" "I", Cond.methodLink RX4 208 yX3_copyFrom, Cond.instanceMethod yX3_copyFrom, Cond.selects RX3 yX3_copyFrom yX3_copyFrom, Cond.code yX3_copyFrom cX3_copyFrom 2 none, Cond.methodLink RX3 23 yX2_copyFrom, Cond.instanceMethod yX2_copyFrom, Cond.selects RX2 yX2_copyFrom yX2_copyFrom]
def wsX4_rank_r4 : List Cond := [Cond.code yX2_copyFrom cX2_copyFrom 2 none, Cond.static yX4_copyRow, Cond.code yX4_copyRow cX4_copyRow 2 none, Cond.methodLink RX4 229 Lib.Math.min.name, Cond.static Lib.Math.min.name, Cond.initialized "java/lang/Math", Cond.code Lib.Math.min.name Lib.Math.min.code 2 (some .int), Cond.methodLink RX4 232 arraycopyName, Cond.native arraycopyName, Cond.static arraycopyName, Cond.initialized "java/lang/System", Cond.methodLink RX3 27 yX0_copyFrom, Cond.instanceMethod yX0_copyFrom, Cond.selects RX0 yX0_copyFrom yX0_copyFrom, Cond.code yX0_copyFrom cX0_copyFrom 2 none]
def wsX4_rank : List Cond := .code yX4_rank cX4_rank 4 (some .int) :: ((wsX4_rank_r1 ++ (wsX4_rank_r2 ++ (wsX4_rank_r3 ++ wsX4_rank_r4))) ++ wsX40 ++ wsX30 ++ wsX00 ++ wsX20)
def wsX4_isDeed : List Cond := .code yX4_isDeed cX4_isDeed 1 (some .boolean) :: ([.methodLink RX4 45 yX4_isBetween, .static yX4_isBetween, .initialized RX4, .code yX4_isBetween cX4_isBetween 3 (some .boolean)])
def wsX4_act_r1 : List Cond := [Cond.fieldLink RX4 12 "LayeredCharters" "now" "LLayeredCharters$State;", Cond.fieldLink RX4 105 "LayeredCharters$State" "guild" "LLayeredCharters$Guild;", Cond.fieldLink RX4 52 "LayeredCharters$State" "rules" "LLayeredCharters$Rules;", Cond.fieldLink RX4 126 "LayeredCharters$Guild" "crafts" "[I", Cond.fieldLink RX4 120 "LayeredCharters$Guild" "ranks" "[I", Cond.fieldLink RX4 79 "LayeredCharters$Rules" "layers" "[I", Cond.methodLink RX4 115 yX0_has, Cond.instanceMethod yX0_has, Cond.selects RX0 yX0_has yX0_has, Cond.initialized RX0, Cond.code yX0_has cX0_has 2 (some .boolean), Cond.fieldLink RX0 27 "LayeredCharters$Guild" "size" "I", Cond.methodLink RX4 123 yX4_isDeed, Cond.static yX4_isDeed, Cond.initialized RX4, Cond.code yX4_isDeed cX4_isDeed 1 (some .boolean), Cond.methodLink RX4 45 yX4_isBetween, Cond.static yX4_isBetween, Cond.code yX4_isBetween cX4_isBetween 3 (some .boolean), Cond.methodLink RX4 58 yX4_remember, Cond.instanceMethod yX4_remember, Cond.selects RX4 yX4_remember yX4_remember, Cond.code yX4_remember cX4_remember 1 none, Cond.fieldLink RX4 30 "LayeredCharters" "remembered" "I"]
def wsX4_act_r2 : List Cond := [Cond.fieldLink RX4 27 "LayeredCharters" "history" "[LLayeredCharters$State;", Cond.methodLink RX4 216 yX4_dropOldest, Cond.instanceMethod yX4_dropOldest, Cond.selects RX4 yX4_dropOldest yX4_dropOldest, Cond.code yX4_dropOldest cX4_dropOldest 3 none, Cond.methodLink RX4 212 yX4_copyInto, Cond.instanceMethod yX4_copyInto, Cond.selects RX4 yX4_copyInto yX4_copyInto, Cond.code yX4_copyInto cX4_copyInto 3 (some (.object "LayeredCharters$State")), Cond.classLink RX4 9 RX3, Cond.instantiable RX3 2, Cond.initialized RX3, Cond.instanceMethod yX3_init, Cond.code yX3_init cX3_init 1 none, Cond.methodLink RX3 1 objectInit, Cond.instanceMethod objectInit, Cond.code objectInit ⟨#[0xb1]⟩ 1 none, Cond.classLink RX3 7 RX2, Cond.instantiable RX2 7, Cond.initialized RX2, Cond.fieldLink RX3 10 "LayeredCharters$State" "rules" "LLayeredCharters$Rules;", Cond.classLink RX3 16 RX0, Cond.instantiable RX0 7, Cond.fieldLink RX3 19 "LayeredCharters$State" "guild" "LLayeredCharters$Guild;"]
def wsX4_act_r3 : List Cond := [Cond.instanceMethod yX2_init, Cond.code yX2_init cX2_init 1 none, Cond.methodLink RX2 3 objectInit, Cond.arrayClass .int, Cond.fieldLink RX2 11 "LayeredCharters$Rules" "layers" "[I", Cond.fieldLink RX2 15 "LayeredCharters$Rules" "kinds" "[I", Cond.fieldLink RX2 18 "LayeredCharters$Rules" "crafts" "[I", Cond.fieldLink RX2 21 "LayeredCharters$Rules" "deeds" "[I", Cond.fieldLink RX2 24 "LayeredCharters$Rules" "seals" "[I", Cond.fieldLink RX2 27 "LayeredCharters$Rules" "pairs" "[I", Cond.fieldLink RX2 30 "LayeredCharters$Rules" "size" "I", Cond.instanceMethod yX0_init, Cond.code yX0_init cX0_init 1 none, Cond.methodLink RX0 3 objectInit, Cond.fieldLink RX0 9 "LayeredCharters$Guild" "crafts" "[I", Cond.fieldLink RX0 15 "LayeredCharters$Guild" "ranks" "[I", Cond.fieldLink RX0 18 "LayeredCharters$Guild" "done" "[I", Cond.fieldLink RX0 21 "LayeredCharters$Guild" "refused" "[I", Cond.fieldLink RX0 24 "LayeredCharters$Guild" "refusals" "[I", Cond.fieldLink RX0 31 "LayeredCharters$Guild" "doneInAll" "I", Cond.methodLink RX4 208 yX3_copyFrom, Cond.instanceMethod yX3_copyFrom, Cond.selects RX3 yX3_copyFrom yX3_copyFrom, Cond.code yX3_copyFrom cX3_copyFrom 2 none]
def wsX4_act_r4 : List Cond := [Cond.methodLink RX3 23 yX2_copyFrom, Cond.instanceMethod yX2_copyFrom, Cond.selects RX2 yX2_copyFrom yX2_copyFrom, Cond.code yX2_copyFrom cX2_copyFrom 2 none, Cond.static yX4_copyRow, Cond.code yX4_copyRow cX4_copyRow 2 none, Cond.methodLink RX4 229 Lib.Math.min.name, Cond.static Lib.Math.min.name, Cond.initialized "java/lang/Math", Cond.code Lib.Math.min.name Lib.Math.min.code 2 (some .int), Cond.methodLink RX4 232 arraycopyName, Cond.native arraycopyName, Cond.static arraycopyName, Cond.initialized "java/lang/System", Cond.methodLink RX3 27 yX0_copyFrom, Cond.instanceMethod yX0_copyFrom, Cond.selects RX0 yX0_copyFrom yX0_copyFrom, Cond.code yX0_copyFrom cX0_copyFrom 2 none, Cond.methodLink RX4 129 yX4_pairsOf, Cond.static yX4_pairsOf, Cond.code yX4_pairsOf cX4_pairsOf 5 (some .int), Cond.methodLink RX4 133 yX2_reason, Cond.instanceMethod yX2_reason, Cond.selects RX2 yX2_reason yX2_reason]
def wsX4_act_r5 : List Cond := [Cond.code yX2_reason cX2_reason 6 (some .int), Cond.methodLink RX2 58 yX2_permittedPairs, Cond.instanceMethod yX2_permittedPairs, Cond.selects RX2 yX2_permittedPairs yX2_permittedPairs, Cond.code yX2_permittedPairs cX2_permittedPairs 3 (some .int), Cond.methodLink RX2 62 yX2_heldPairs, Cond.instanceMethod yX2_heldPairs, Cond.selects RX2 yX2_heldPairs yX2_heldPairs, Cond.code yX2_heldPairs cX2_heldPairs 4 (some .int), Cond.methodLink RX2 82 yX2_lifts, Cond.instanceMethod yX2_lifts, Cond.selects RX2 yX2_lifts yX2_lifts, Cond.code yX2_lifts cX2_lifts 3 (some .boolean), Cond.methodLink RX4 136 yX0_noteDone, Cond.instanceMethod yX0_noteDone, Cond.selects RX0 yX0_noteDone yX0_noteDone, Cond.code yX0_noteDone cX0_noteDone 2 none, Cond.methodLink RX0 38 yX0_has, Cond.methodLink RX4 65 yX2_has, Cond.instanceMethod yX2_has, Cond.selects RX2 yX2_has yX2_has, Cond.code yX2_has cX2_has 2 (some .boolean), Cond.methodLink RX4 139 yX0_noteRefusal, Cond.instanceMethod yX0_noteRefusal]
def wsX4_act_r6 : List Cond := [Cond.selects RX0 yX0_noteRefusal yX0_noteRefusal, Cond.code yX0_noteRefusal cX0_noteRefusal 3 none]
def wsX4_act : List Cond := .code yX4_act cX4_act 4 (some .int) :: ((wsX4_act_r1 ++ (wsX4_act_r2 ++ (wsX4_act_r3 ++ (wsX4_act_r4 ++ (wsX4_act_r5 ++ wsX4_act_r6))))) ++ wsX40 ++ wsX30 ++ wsX00 ++ wsX20)
def wsX4_rule_r1 : List Cond := [Cond.fieldLink RX4 12 "LayeredCharters" "now" "LLayeredCharters$State;", Cond.fieldLink RX4 52 "LayeredCharters$State" "rules" "LLayeredCharters$Rules;", Cond.fieldLink RX4 79 "LayeredCharters$Rules" "layers" "[I", Cond.fieldLink RX4 76 "LayeredCharters$Rules" "kinds" "[I", Cond.fieldLink RX4 142 "LayeredCharters$Rules" "crafts" "[I", Cond.fieldLink RX4 143 "LayeredCharters$Rules" "deeds" "[I", Cond.fieldLink RX4 72 "LayeredCharters$Rules" "seals" "[I", Cond.fieldLink RX4 157 "LayeredCharters$Rules" "pairs" "[I", Cond.methodLink RX4 65 yX2_has, Cond.instanceMethod yX2_has, Cond.selects RX2 yX2_has yX2_has, Cond.initialized RX2, Cond.code yX2_has cX2_has 2 (some .boolean), Cond.fieldLink RX2 30 "LayeredCharters$Rules" "size" "I", Cond.methodLink RX4 146 yX2_triples, Cond.instanceMethod yX2_triples, Cond.selects RX2 yX2_triples yX2_triples, Cond.code yX2_triples cX2_triples 4 (some .int), Cond.methodLink RX2 58 yX2_permittedPairs, Cond.instanceMethod yX2_permittedPairs, Cond.selects RX2 yX2_permittedPairs yX2_permittedPairs, Cond.code yX2_permittedPairs cX2_permittedPairs 3 (some .int), Cond.fieldLink RX2 15 "LayeredCharters$Rules" "kinds" "[I", Cond.fieldLink RX2 27 "LayeredCharters$Rules" "pairs" "[I"]
def wsX4_rule_r2 : List Cond := [Cond.methodLink RX2 77 yJ6_bitCount_0f7a4, Cond.static yJ6_bitCount_0f7a4, Cond.initialized RJ6, Cond.code yJ6_bitCount_0f7a4 cJ6_bitCount_0f7a4 1 (some .int), Cond.constant RJ6 265 (1431655765), Cond.constant RJ6 266 (858993459), Cond.constant RJ6 267 (252645135), Cond.methodLink RX2 74 yX2_heldPairsOfSeal, Cond.instanceMethod yX2_heldPairsOfSeal, Cond.selects RX2 yX2_heldPairsOfSeal yX2_heldPairsOfSeal, Cond.code yX2_heldPairsOfSeal cX2_heldPairsOfSeal 4 (some .int), Cond.fieldLink RX2 24 "LayeredCharters$Rules" "seals" "[I", Cond.methodLink RX2 62 yX2_heldPairs, Cond.instanceMethod yX2_heldPairs, Cond.selects RX2 yX2_heldPairs yX2_heldPairs, Cond.code yX2_heldPairs cX2_heldPairs 4 (some .int), Cond.methodLink RX2 82 yX2_lifts, Cond.instanceMethod yX2_lifts, Cond.selects RX2 yX2_lifts yX2_lifts, Cond.code yX2_lifts cX2_lifts 3 (some .boolean), Cond.fieldLink RX2 11 "LayeredCharters$Rules" "layers" "[I", Cond.methodLink RX4 149 yX4_isIdle, Cond.instanceMethod yX4_isIdle, Cond.selects RX4 yX4_isIdle yX4_isIdle]
def wsX4_rule_r3 : List Cond := [Cond.initialized RX4, Cond.code yX4_isIdle cX4_isIdle 3 (some .boolean), Cond.methodLink RX4 195 yX4_triplesWithout, Cond.instanceMethod yX4_triplesWithout, Cond.selects RX4 yX4_triplesWithout yX4_triplesWithout, Cond.code yX4_triplesWithout cX4_triplesWithout 2 (some .int), Cond.fieldLink RX4 37 "LayeredCharters" "trial" "LLayeredCharters$Rules;", Cond.methodLink RX4 219 yX2_copyFrom, Cond.instanceMethod yX2_copyFrom, Cond.selects RX2 yX2_copyFrom yX2_copyFrom, Cond.code yX2_copyFrom cX2_copyFrom 2 none, Cond.fieldLink RX2 18 "LayeredCharters$Rules" "crafts" "[I", Cond.fieldLink RX2 21 "LayeredCharters$Rules" "deeds" "[I", Cond.static yX4_copyRow, Cond.code yX4_copyRow cX4_copyRow 2 none, Cond.methodLink RX4 229 Lib.Math.min.name, Cond.static Lib.Math.min.name, Cond.initialized "java/lang/Math", Cond.code Lib.Math.min.name Lib.Math.min.code 2 (some .int), Cond.methodLink RX4 232 arraycopyName, Cond.native arraycopyName, Cond.static arraycopyName, Cond.initialized "java/lang/System", Cond.methodLink RX4 68 yX2_remove]
def wsX4_rule_r4 : List Cond := [Cond.instanceMethod yX2_remove, Cond.selects RX2 yX2_remove yX2_remove, Cond.code yX2_remove cX2_remove 2 none, Cond.methodLink RX2 42 yX2_has, Cond.static yX4_closeGap, Cond.code yX4_closeGap cX4_closeGap 3 none, Cond.methodLink RX4 224 Lib.Math.max.name, Cond.static Lib.Math.max.name, Cond.code Lib.Math.max.name Lib.Math.max.code 2 (some .int), Cond.methodLink RX4 153 yX2_oddsOf, Cond.instanceMethod yX2_oddsOf, Cond.selects RX2 yX2_oddsOf yX2_oddsOf, Cond.code yX2_oddsOf cX2_oddsOf 4 (some .int), Cond.methodLink RX2 50 yX2_areAtOdds, Cond.instanceMethod yX2_areAtOdds, Cond.selects RX2 yX2_areAtOdds yX2_areAtOdds, Cond.code yX2_areAtOdds cX2_areAtOdds 3 (some .boolean), Cond.methodLink RX4 160 yJ6_bitCount_0f7a4]
def wsX4_rule : List Cond := .code yX4_rule cX4_rule 3 (some .int) :: ((wsX4_rule_r1 ++ (wsX4_rule_r2 ++ (wsX4_rule_r3 ++ wsX4_rule_r4))) ++ wsX40 ++ wsX30 ++ wsX20)
def wsX4_deedsAllowed_r1 : List Cond := [Cond.fieldLink RX4 12 "LayeredCharters" "now" "LLayeredCharters$State;", Cond.fieldLink RX4 52 "LayeredCharters$State" "rules" "LLayeredCharters$Rules;", Cond.methodLink RX4 221 yX2_allowedPairs, Cond.instanceMethod yX2_allowedPairs, Cond.selects RX2 yX2_allowedPairs yX2_allowedPairs, Cond.initialized RX2, Cond.code yX2_allowedPairs cX2_allowedPairs 4 (some .int), Cond.methodLink RX2 58 yX2_permittedPairs, Cond.instanceMethod yX2_permittedPairs, Cond.selects RX2 yX2_permittedPairs yX2_permittedPairs, Cond.code yX2_permittedPairs cX2_permittedPairs 3 (some .int), Cond.fieldLink RX2 30 "LayeredCharters$Rules" "size" "I", Cond.fieldLink RX2 15 "LayeredCharters$Rules" "kinds" "[I", Cond.fieldLink RX2 27 "LayeredCharters$Rules" "pairs" "[I", Cond.methodLink RX2 74 yX2_heldPairsOfSeal, Cond.instanceMethod yX2_heldPairsOfSeal, Cond.selects RX2 yX2_heldPairsOfSeal yX2_heldPairsOfSeal, Cond.code yX2_heldPairsOfSeal cX2_heldPairsOfSeal 4 (some .int), Cond.fieldLink RX2 24 "LayeredCharters$Rules" "seals" "[I", Cond.methodLink RX2 62 yX2_heldPairs, Cond.instanceMethod yX2_heldPairs, Cond.selects RX2 yX2_heldPairs yX2_heldPairs, Cond.code yX2_heldPairs cX2_heldPairs 4 (some .int), Cond.methodLink RX2 82 yX2_lifts]
def wsX4_deedsAllowed_r2 : List Cond := [Cond.instanceMethod yX2_lifts, Cond.selects RX2 yX2_lifts yX2_lifts, Cond.code yX2_lifts cX2_lifts 3 (some .boolean), Cond.fieldLink RX2 11 "LayeredCharters$Rules" "layers" "[I"]
def wsX4_deedsAllowed : List Cond := .code yX4_deedsAllowed cX4_deedsAllowed 3 (some .int) :: ((wsX4_deedsAllowed_r1 ++ wsX4_deedsAllowed_r2) ++ wsX40 ++ wsX30 ++ wsX20)
def wsX4_member_r1 : List Cond := [Cond.fieldLink RX4 12 "LayeredCharters" "now" "LLayeredCharters$State;", Cond.fieldLink RX4 105 "LayeredCharters$State" "guild" "LLayeredCharters$Guild;", Cond.fieldLink RX4 126 "LayeredCharters$Guild" "crafts" "[I", Cond.fieldLink RX4 120 "LayeredCharters$Guild" "ranks" "[I", Cond.fieldLink RX4 116 "LayeredCharters$Guild" "done" "[I", Cond.fieldLink RX4 168 "LayeredCharters$Guild" "refused" "[I", Cond.methodLink RX4 115 yX0_has, Cond.instanceMethod yX0_has, Cond.selects RX0 yX0_has yX0_has, Cond.initialized RX0, Cond.code yX0_has cX0_has 2 (some .boolean), Cond.fieldLink RX0 27 "LayeredCharters$Guild" "size" "I", Cond.methodLink RX4 165 yX4_deedsAllowed, Cond.instanceMethod yX4_deedsAllowed, Cond.selects RX4 yX4_deedsAllowed yX4_deedsAllowed, Cond.initialized RX4, Cond.code yX4_deedsAllowed cX4_deedsAllowed 3 (some .int), Cond.fieldLink RX4 52 "LayeredCharters$State" "rules" "LLayeredCharters$Rules;", Cond.methodLink RX4 221 yX2_allowedPairs, Cond.instanceMethod yX2_allowedPairs, Cond.selects RX2 yX2_allowedPairs yX2_allowedPairs, Cond.initialized RX2, Cond.code yX2_allowedPairs cX2_allowedPairs 4 (some .int), Cond.methodLink RX2 58 yX2_permittedPairs]
def wsX4_member_r2 : List Cond := [Cond.instanceMethod yX2_permittedPairs, Cond.selects RX2 yX2_permittedPairs yX2_permittedPairs, Cond.code yX2_permittedPairs cX2_permittedPairs 3 (some .int), Cond.fieldLink RX2 30 "LayeredCharters$Rules" "size" "I", Cond.fieldLink RX2 15 "LayeredCharters$Rules" "kinds" "[I", Cond.fieldLink RX2 27 "LayeredCharters$Rules" "pairs" "[I", Cond.methodLink RX2 74 yX2_heldPairsOfSeal, Cond.instanceMethod yX2_heldPairsOfSeal, Cond.selects RX2 yX2_heldPairsOfSeal yX2_heldPairsOfSeal, Cond.code yX2_heldPairsOfSeal cX2_heldPairsOfSeal 4 (some .int), Cond.fieldLink RX2 24 "LayeredCharters$Rules" "seals" "[I", Cond.methodLink RX2 62 yX2_heldPairs, Cond.instanceMethod yX2_heldPairs, Cond.selects RX2 yX2_heldPairs yX2_heldPairs, Cond.code yX2_heldPairs cX2_heldPairs 4 (some .int), Cond.methodLink RX2 82 yX2_lifts, Cond.instanceMethod yX2_lifts, Cond.selects RX2 yX2_lifts yX2_lifts, Cond.code yX2_lifts cX2_lifts 3 (some .boolean), Cond.fieldLink RX2 11 "LayeredCharters$Rules" "layers" "[I"]
def wsX4_member : List Cond := .code yX4_member cX4_member 3 (some .int) :: ((wsX4_member_r1 ++ wsX4_member_r2) ++ wsX40 ++ wsX30 ++ wsX00 ++ wsX20)
def wsX4_allowed_r1 : List Cond := [Cond.fieldLink RX4 12 "LayeredCharters" "now" "LLayeredCharters$State;", Cond.fieldLink RX4 52 "LayeredCharters$State" "rules" "LLayeredCharters$Rules;", Cond.methodLink RX4 99 yX4_isCraft, Cond.static yX4_isCraft, Cond.initialized RX4, Cond.code yX4_isCraft cX4_isCraft 1 (some .boolean), Cond.methodLink RX4 45 yX4_isBetween, Cond.static yX4_isBetween, Cond.code yX4_isBetween cX4_isBetween 3 (some .boolean), Cond.methodLink RX4 123 yX4_isDeed, Cond.static yX4_isDeed, Cond.code yX4_isDeed cX4_isDeed 1 (some .boolean), Cond.methodLink RX4 102 yX4_isRank, Cond.static yX4_isRank, Cond.code yX4_isRank cX4_isRank 1 (some .boolean), Cond.methodLink RX4 129 yX4_pairsOf, Cond.static yX4_pairsOf, Cond.code yX4_pairsOf cX4_pairsOf 5 (some .int), Cond.methodLink RX4 171 yX2_allowsByLayers, Cond.instanceMethod yX2_allowsByLayers, Cond.selects RX2 yX2_allowsByLayers yX2_allowsByLayers, Cond.initialized RX2, Cond.code yX2_allowsByLayers cX2_allowsByLayers 5 (some .boolean), Cond.methodLink RX2 69 Lib.Math.max.name]
def wsX4_allowed_r2 : List Cond := [Cond.static Lib.Math.max.name, Cond.initialized "java/lang/Math", Cond.code Lib.Math.max.name Lib.Math.max.code 2 (some .int), Cond.methodLink RX2 58 yX2_permittedPairs, Cond.instanceMethod yX2_permittedPairs, Cond.selects RX2 yX2_permittedPairs yX2_permittedPairs, Cond.code yX2_permittedPairs cX2_permittedPairs 3 (some .int), Cond.fieldLink RX2 30 "LayeredCharters$Rules" "size" "I", Cond.fieldLink RX2 15 "LayeredCharters$Rules" "kinds" "[I", Cond.fieldLink RX2 27 "LayeredCharters$Rules" "pairs" "[I", Cond.methodLink RX2 65 yX2_strongest, Cond.instanceMethod yX2_strongest, Cond.selects RX2 yX2_strongest yX2_strongest, Cond.code yX2_strongest cX2_strongest 6 (some .int), Cond.fieldLink RX2 11 "LayeredCharters$Rules" "layers" "[I", Cond.fieldLink RX2 24 "LayeredCharters$Rules" "seals" "[I", Cond.methodLink RX4 133 yX2_reason, Cond.instanceMethod yX2_reason, Cond.selects RX2 yX2_reason yX2_reason, Cond.code yX2_reason cX2_reason 6 (some .int), Cond.methodLink RX2 62 yX2_heldPairs, Cond.instanceMethod yX2_heldPairs, Cond.selects RX2 yX2_heldPairs yX2_heldPairs, Cond.code yX2_heldPairs cX2_heldPairs 4 (some .int)]
def wsX4_allowed_r3 : List Cond := [Cond.methodLink RX2 82 yX2_lifts, Cond.instanceMethod yX2_lifts, Cond.selects RX2 yX2_lifts yX2_lifts, Cond.code yX2_lifts cX2_lifts 3 (some .boolean)]
def wsX4_allowed : List Cond := .code yX4_allowed cX4_allowed 7 (some .int) :: ((wsX4_allowed_r1 ++ (wsX4_allowed_r2 ++ wsX4_allowed_r3)) ++ wsX40 ++ wsX30 ++ wsX20)
def wsX4_why_r1 : List Cond := [Cond.fieldLink RX4 12 "LayeredCharters" "now" "LLayeredCharters$State;", Cond.fieldLink RX4 52 "LayeredCharters$State" "rules" "LLayeredCharters$Rules;", Cond.methodLink RX4 99 yX4_isCraft, Cond.static yX4_isCraft, Cond.initialized RX4, Cond.code yX4_isCraft cX4_isCraft 1 (some .boolean), Cond.methodLink RX4 45 yX4_isBetween, Cond.static yX4_isBetween, Cond.code yX4_isBetween cX4_isBetween 3 (some .boolean), Cond.methodLink RX4 123 yX4_isDeed, Cond.static yX4_isDeed, Cond.code yX4_isDeed cX4_isDeed 1 (some .boolean), Cond.methodLink RX4 102 yX4_isRank, Cond.static yX4_isRank, Cond.code yX4_isRank cX4_isRank 1 (some .boolean), Cond.methodLink RX4 129 yX4_pairsOf, Cond.static yX4_pairsOf, Cond.code yX4_pairsOf cX4_pairsOf 5 (some .int), Cond.methodLink RX4 133 yX2_reason, Cond.instanceMethod yX2_reason, Cond.selects RX2 yX2_reason yX2_reason, Cond.initialized RX2, Cond.code yX2_reason cX2_reason 6 (some .int), Cond.fieldLink RX2 30 "LayeredCharters$Rules" "size" "I"]
def wsX4_why_r2 : List Cond := [Cond.fieldLink RX2 15 "LayeredCharters$Rules" "kinds" "[I", Cond.fieldLink RX2 24 "LayeredCharters$Rules" "seals" "[I", Cond.fieldLink RX2 11 "LayeredCharters$Rules" "layers" "[I", Cond.methodLink RX2 58 yX2_permittedPairs, Cond.instanceMethod yX2_permittedPairs, Cond.selects RX2 yX2_permittedPairs yX2_permittedPairs, Cond.code yX2_permittedPairs cX2_permittedPairs 3 (some .int), Cond.fieldLink RX2 27 "LayeredCharters$Rules" "pairs" "[I", Cond.methodLink RX2 62 yX2_heldPairs, Cond.instanceMethod yX2_heldPairs, Cond.selects RX2 yX2_heldPairs yX2_heldPairs, Cond.code yX2_heldPairs cX2_heldPairs 4 (some .int), Cond.methodLink RX2 82 yX2_lifts, Cond.instanceMethod yX2_lifts, Cond.selects RX2 yX2_lifts yX2_lifts, Cond.code yX2_lifts cX2_lifts 3 (some .boolean)]
def wsX4_why : List Cond := .code yX4_why cX4_why 4 (some .int) :: ((wsX4_why_r1 ++ wsX4_why_r2) ++ wsX40 ++ wsX30 ++ wsX20)
def wsX4_idleRules_r1 : List Cond := [Cond.fieldLink RX4 12 "LayeredCharters" "now" "LLayeredCharters$State;", Cond.fieldLink RX4 52 "LayeredCharters$State" "rules" "LLayeredCharters$Rules;", Cond.fieldLink RX4 55 "LayeredCharters$Rules" "size" "I", Cond.methodLink RX4 146 yX2_triples, Cond.instanceMethod yX2_triples, Cond.selects RX2 yX2_triples yX2_triples, Cond.initialized RX2, Cond.code yX2_triples cX2_triples 4 (some .int), Cond.methodLink RX2 58 yX2_permittedPairs, Cond.instanceMethod yX2_permittedPairs, Cond.selects RX2 yX2_permittedPairs yX2_permittedPairs, Cond.code yX2_permittedPairs cX2_permittedPairs 3 (some .int), Cond.fieldLink RX2 30 "LayeredCharters$Rules" "size" "I", Cond.fieldLink RX2 15 "LayeredCharters$Rules" "kinds" "[I", Cond.fieldLink RX2 27 "LayeredCharters$Rules" "pairs" "[I", Cond.methodLink RX2 77 yJ6_bitCount_0f7a4, Cond.static yJ6_bitCount_0f7a4, Cond.initialized RJ6, Cond.code yJ6_bitCount_0f7a4 cJ6_bitCount_0f7a4 1 (some .int), Cond.constant RJ6 265 (1431655765), Cond.constant RJ6 266 (858993459), Cond.constant RJ6 267 (252645135), Cond.methodLink RX2 74 yX2_heldPairsOfSeal, Cond.instanceMethod yX2_heldPairsOfSeal]
def wsX4_idleRules_r2 : List Cond := [Cond.selects RX2 yX2_heldPairsOfSeal yX2_heldPairsOfSeal, Cond.code yX2_heldPairsOfSeal cX2_heldPairsOfSeal 4 (some .int), Cond.fieldLink RX2 24 "LayeredCharters$Rules" "seals" "[I", Cond.methodLink RX2 62 yX2_heldPairs, Cond.instanceMethod yX2_heldPairs, Cond.selects RX2 yX2_heldPairs yX2_heldPairs, Cond.code yX2_heldPairs cX2_heldPairs 4 (some .int), Cond.methodLink RX2 82 yX2_lifts, Cond.instanceMethod yX2_lifts, Cond.selects RX2 yX2_lifts yX2_lifts, Cond.code yX2_lifts cX2_lifts 3 (some .boolean), Cond.fieldLink RX2 11 "LayeredCharters$Rules" "layers" "[I", Cond.methodLink RX4 149 yX4_isIdle, Cond.instanceMethod yX4_isIdle, Cond.selects RX4 yX4_isIdle yX4_isIdle, Cond.initialized RX4, Cond.code yX4_isIdle cX4_isIdle 3 (some .boolean), Cond.methodLink RX4 195 yX4_triplesWithout, Cond.instanceMethod yX4_triplesWithout, Cond.selects RX4 yX4_triplesWithout yX4_triplesWithout, Cond.code yX4_triplesWithout cX4_triplesWithout 2 (some .int), Cond.fieldLink RX4 37 "LayeredCharters" "trial" "LLayeredCharters$Rules;", Cond.methodLink RX4 219 yX2_copyFrom, Cond.instanceMethod yX2_copyFrom]
def wsX4_idleRules_r3 : List Cond := [Cond.selects RX2 yX2_copyFrom yX2_copyFrom, Cond.code yX2_copyFrom cX2_copyFrom 2 none, Cond.fieldLink RX2 18 "LayeredCharters$Rules" "crafts" "[I", Cond.fieldLink RX2 21 "LayeredCharters$Rules" "deeds" "[I", Cond.static yX4_copyRow, Cond.code yX4_copyRow cX4_copyRow 2 none, Cond.methodLink RX4 229 Lib.Math.min.name, Cond.static Lib.Math.min.name, Cond.initialized "java/lang/Math", Cond.code Lib.Math.min.name Lib.Math.min.code 2 (some .int), Cond.methodLink RX4 232 arraycopyName, Cond.native arraycopyName, Cond.static arraycopyName, Cond.initialized "java/lang/System", Cond.methodLink RX4 68 yX2_remove, Cond.instanceMethod yX2_remove, Cond.selects RX2 yX2_remove yX2_remove, Cond.code yX2_remove cX2_remove 2 none, Cond.methodLink RX2 42 yX2_has, Cond.instanceMethod yX2_has, Cond.selects RX2 yX2_has yX2_has, Cond.code yX2_has cX2_has 2 (some .boolean), Cond.static yX4_closeGap, Cond.code yX4_closeGap cX4_closeGap 3 none]
def wsX4_idleRules_r4 : List Cond := [Cond.methodLink RX4 224 Lib.Math.max.name, Cond.static Lib.Math.max.name, Cond.code Lib.Math.max.name Lib.Math.max.code 2 (some .int)]
def wsX4_idleRules : List Cond := .code yX4_idleRules cX4_idleRules 4 (some .int) :: ((wsX4_idleRules_r1 ++ (wsX4_idleRules_r2 ++ (wsX4_idleRules_r3 ++ wsX4_idleRules_r4))) ++ wsX40 ++ wsX30 ++ wsX20)
def wsX4_count_r1 : List Cond := [Cond.fieldLink RX4 12 "LayeredCharters" "now" "LLayeredCharters$State;", Cond.fieldLink RX4 52 "LayeredCharters$State" "rules" "LLayeredCharters$Rules;", Cond.fieldLink RX4 55 "LayeredCharters$Rules" "size" "I", Cond.fieldLink RX4 105 "LayeredCharters$State" "guild" "LLayeredCharters$Guild;", Cond.fieldLink RX4 109 "LayeredCharters$Guild" "size" "I", Cond.fieldLink RX4 183 "LayeredCharters$Guild" "doneInAll" "I", Cond.fieldLink RX4 19 "LayeredCharters" "pad" "LLayeredCharters$Pad;", Cond.fieldLink RX4 189 "LayeredCharters$Pad" "length" "I", Cond.fieldLink RX4 30 "LayeredCharters" "remembered" "I", Cond.methodLink RX4 174 yX2_sizeOfKind, Cond.instanceMethod yX2_sizeOfKind, Cond.selects RX2 yX2_sizeOfKind yX2_sizeOfKind, Cond.initialized RX2, Cond.code yX2_sizeOfKind cX2_sizeOfKind 4 (some .int), Cond.fieldLink RX2 30 "LayeredCharters$Rules" "size" "I", Cond.fieldLink RX2 15 "LayeredCharters$Rules" "kinds" "[I", Cond.methodLink RX4 177 yX4_idleRules, Cond.instanceMethod yX4_idleRules, Cond.selects RX4 yX4_idleRules yX4_idleRules, Cond.initialized RX4, Cond.code yX4_idleRules cX4_idleRules 4 (some .int), Cond.methodLink RX4 146 yX2_triples, Cond.instanceMethod yX2_triples, Cond.selects RX2 yX2_triples yX2_triples]
def wsX4_count_r2 : List Cond := [Cond.code yX2_triples cX2_triples 4 (some .int), Cond.methodLink RX2 58 yX2_permittedPairs, Cond.instanceMethod yX2_permittedPairs, Cond.selects RX2 yX2_permittedPairs yX2_permittedPairs, Cond.code yX2_permittedPairs cX2_permittedPairs 3 (some .int), Cond.fieldLink RX2 27 "LayeredCharters$Rules" "pairs" "[I", Cond.methodLink RX2 77 yJ6_bitCount_0f7a4, Cond.static yJ6_bitCount_0f7a4, Cond.initialized RJ6, Cond.code yJ6_bitCount_0f7a4 cJ6_bitCount_0f7a4 1 (some .int), Cond.constant RJ6 265 (1431655765), Cond.constant RJ6 266 (858993459), Cond.constant RJ6 267 (252645135), Cond.methodLink RX2 74 yX2_heldPairsOfSeal, Cond.instanceMethod yX2_heldPairsOfSeal, Cond.selects RX2 yX2_heldPairsOfSeal yX2_heldPairsOfSeal, Cond.code yX2_heldPairsOfSeal cX2_heldPairsOfSeal 4 (some .int), Cond.fieldLink RX2 24 "LayeredCharters$Rules" "seals" "[I", Cond.methodLink RX2 62 yX2_heldPairs, Cond.instanceMethod yX2_heldPairs, Cond.selects RX2 yX2_heldPairs yX2_heldPairs, Cond.code yX2_heldPairs cX2_heldPairs 4 (some .int), Cond.methodLink RX2 82 yX2_lifts, Cond.instanceMethod yX2_lifts]
def wsX4_count_r3 : List Cond := [Cond.selects RX2 yX2_lifts yX2_lifts, Cond.code yX2_lifts cX2_lifts 3 (some .boolean), Cond.fieldLink RX2 11 "LayeredCharters$Rules" "layers" "[I", Cond.methodLink RX4 149 yX4_isIdle, Cond.instanceMethod yX4_isIdle, Cond.selects RX4 yX4_isIdle yX4_isIdle, Cond.code yX4_isIdle cX4_isIdle 3 (some .boolean), Cond.methodLink RX4 195 yX4_triplesWithout, Cond.instanceMethod yX4_triplesWithout, Cond.selects RX4 yX4_triplesWithout yX4_triplesWithout, Cond.code yX4_triplesWithout cX4_triplesWithout 2 (some .int), Cond.fieldLink RX4 37 "LayeredCharters" "trial" "LLayeredCharters$Rules;", Cond.methodLink RX4 219 yX2_copyFrom, Cond.instanceMethod yX2_copyFrom, Cond.selects RX2 yX2_copyFrom yX2_copyFrom, Cond.code yX2_copyFrom cX2_copyFrom 2 none, Cond.fieldLink RX2 18 "LayeredCharters$Rules" "crafts" "[I", Cond.fieldLink RX2 21 "LayeredCharters$Rules" "deeds" "[I", Cond.static yX4_copyRow, Cond.code yX4_copyRow cX4_copyRow 2 none, Cond.methodLink RX4 229 Lib.Math.min.name, Cond.static Lib.Math.min.name, Cond.initialized "java/lang/Math", Cond.code Lib.Math.min.name Lib.Math.min.code 2 (some .int)]
def wsX4_count_r4 : List Cond := [Cond.methodLink RX4 232 arraycopyName, Cond.native arraycopyName, Cond.static arraycopyName, Cond.initialized "java/lang/System", Cond.methodLink RX4 68 yX2_remove, Cond.instanceMethod yX2_remove, Cond.selects RX2 yX2_remove yX2_remove, Cond.code yX2_remove cX2_remove 2 none, Cond.methodLink RX2 42 yX2_has, Cond.instanceMethod yX2_has, Cond.selects RX2 yX2_has yX2_has, Cond.code yX2_has cX2_has 2 (some .boolean), Cond.static yX4_closeGap, Cond.code yX4_closeGap cX4_closeGap 3 none, Cond.methodLink RX4 224 Lib.Math.max.name, Cond.static Lib.Math.max.name, Cond.code Lib.Math.max.name Lib.Math.max.code 2 (some .int), Cond.methodLink RX4 180 yX2_oddPairs, Cond.instanceMethod yX2_oddPairs, Cond.selects RX2 yX2_oddPairs yX2_oddPairs, Cond.code yX2_oddPairs cX2_oddPairs 3 (some .int), Cond.methodLink RX2 54 yX2_oddsOf, Cond.instanceMethod yX2_oddsOf, Cond.selects RX2 yX2_oddsOf yX2_oddsOf]
def wsX4_count_r5 : List Cond := [Cond.code yX2_oddsOf cX2_oddsOf 4 (some .int), Cond.methodLink RX2 50 yX2_areAtOdds, Cond.instanceMethod yX2_areAtOdds, Cond.selects RX2 yX2_areAtOdds yX2_areAtOdds, Cond.code yX2_areAtOdds cX2_areAtOdds 3 (some .boolean), Cond.methodLink RX4 186 yX0_refusalsOf, Cond.instanceMethod yX0_refusalsOf, Cond.selects RX0 yX0_refusalsOf yX0_refusalsOf, Cond.initialized RX0, Cond.code yX0_refusalsOf cX0_refusalsOf 2 (some .int), Cond.fieldLink RX0 24 "LayeredCharters$Guild" "refusals" "[I", Cond.static yX4_isBetween, Cond.code yX4_isBetween cX4_isBetween 3 (some .boolean)]
def wsX4_count : List Cond := .code yX4_count cX4_count 2 (some .int) :: ((wsX4_count_r1 ++ (wsX4_count_r2 ++ (wsX4_count_r3 ++ (wsX4_count_r4 ++ wsX4_count_r5)))) ++ wsX40 ++ wsX30 ++ wsX20 ++ wsX00 ++ wsX10)
def wsX4_leastRank_r1 : List Cond := [Cond.fieldLink RX4 12 "LayeredCharters" "now" "LLayeredCharters$State;", Cond.fieldLink RX4 52 "LayeredCharters$State" "rules" "LLayeredCharters$Rules;", Cond.methodLink RX4 99 yX4_isCraft, Cond.static yX4_isCraft, Cond.initialized RX4, Cond.code yX4_isCraft cX4_isCraft 1 (some .boolean), Cond.methodLink RX4 45 yX4_isBetween, Cond.static yX4_isBetween, Cond.code yX4_isBetween cX4_isBetween 3 (some .boolean), Cond.methodLink RX4 123 yX4_isDeed, Cond.static yX4_isDeed, Cond.code yX4_isDeed cX4_isDeed 1 (some .boolean), Cond.methodLink RX4 129 yX4_pairsOf, Cond.static yX4_pairsOf, Cond.code yX4_pairsOf cX4_pairsOf 5 (some .int), Cond.methodLink RX4 192 yX2_leastRankFor, Cond.instanceMethod yX2_leastRankFor, Cond.selects RX2 yX2_leastRankFor yX2_leastRankFor, Cond.initialized RX2, Cond.code yX2_leastRankFor cX2_leastRankFor 3 (some .int), Cond.methodLink RX2 58 yX2_permittedPairs, Cond.instanceMethod yX2_permittedPairs, Cond.selects RX2 yX2_permittedPairs yX2_permittedPairs, Cond.code yX2_permittedPairs cX2_permittedPairs 3 (some .int)]
def wsX4_leastRank_r2 : List Cond := [Cond.fieldLink RX2 30 "LayeredCharters$Rules" "size" "I", Cond.fieldLink RX2 15 "LayeredCharters$Rules" "kinds" "[I", Cond.fieldLink RX2 27 "LayeredCharters$Rules" "pairs" "[I", Cond.methodLink RX2 74 yX2_heldPairsOfSeal, Cond.instanceMethod yX2_heldPairsOfSeal, Cond.selects RX2 yX2_heldPairsOfSeal yX2_heldPairsOfSeal, Cond.code yX2_heldPairsOfSeal cX2_heldPairsOfSeal 4 (some .int), Cond.fieldLink RX2 24 "LayeredCharters$Rules" "seals" "[I", Cond.methodLink RX2 62 yX2_heldPairs, Cond.instanceMethod yX2_heldPairs, Cond.selects RX2 yX2_heldPairs yX2_heldPairs, Cond.code yX2_heldPairs cX2_heldPairs 4 (some .int), Cond.methodLink RX2 82 yX2_lifts, Cond.instanceMethod yX2_lifts, Cond.selects RX2 yX2_lifts yX2_lifts, Cond.code yX2_lifts cX2_lifts 3 (some .boolean), Cond.fieldLink RX2 11 "LayeredCharters$Rules" "layers" "[I"]
def wsX4_leastRank : List Cond := .code yX4_leastRank cX4_leastRank 3 (some .int) :: ((wsX4_leastRank_r1 ++ wsX4_leastRank_r2) ++ wsX40 ++ wsX30 ++ wsX20)
def wsX4_ifStruck_r1 : List Cond := [Cond.fieldLink RX4 12 "LayeredCharters" "now" "LLayeredCharters$State;", Cond.fieldLink RX4 52 "LayeredCharters$State" "rules" "LLayeredCharters$Rules;", Cond.methodLink RX4 65 yX2_has, Cond.instanceMethod yX2_has, Cond.selects RX2 yX2_has yX2_has, Cond.initialized RX2, Cond.code yX2_has cX2_has 2 (some .boolean), Cond.fieldLink RX2 30 "LayeredCharters$Rules" "size" "I", Cond.methodLink RX4 195 yX4_triplesWithout, Cond.instanceMethod yX4_triplesWithout, Cond.selects RX4 yX4_triplesWithout yX4_triplesWithout, Cond.initialized RX4, Cond.code yX4_triplesWithout cX4_triplesWithout 2 (some .int), Cond.fieldLink RX4 37 "LayeredCharters" "trial" "LLayeredCharters$Rules;", Cond.methodLink RX4 219 yX2_copyFrom, Cond.instanceMethod yX2_copyFrom, Cond.selects RX2 yX2_copyFrom yX2_copyFrom, Cond.code yX2_copyFrom cX2_copyFrom 2 none, Cond.fieldLink RX2 11 "LayeredCharters$Rules" "layers" "[I", Cond.fieldLink RX2 15 "LayeredCharters$Rules" "kinds" "[I", Cond.fieldLink RX2 18 "LayeredCharters$Rules" "crafts" "[I", Cond.fieldLink RX2 21 "LayeredCharters$Rules" "deeds" "[I", Cond.fieldLink RX2 24 "LayeredCharters$Rules" "seals" "[I", Cond.fieldLink RX2 27 "LayeredCharters$Rules" "pairs" "[I"]
def wsX4_ifStruck_r2 : List Cond := [Cond.static yX4_copyRow, Cond.code yX4_copyRow cX4_copyRow 2 none, Cond.methodLink RX4 229 Lib.Math.min.name, Cond.static Lib.Math.min.name, Cond.initialized "java/lang/Math", Cond.code Lib.Math.min.name Lib.Math.min.code 2 (some .int), Cond.methodLink RX4 232 arraycopyName, Cond.native arraycopyName, Cond.static arraycopyName, Cond.initialized "java/lang/System", Cond.methodLink RX4 68 yX2_remove, Cond.instanceMethod yX2_remove, Cond.selects RX2 yX2_remove yX2_remove, Cond.code yX2_remove cX2_remove 2 none, Cond.methodLink RX2 42 yX2_has, Cond.static yX4_closeGap, Cond.code yX4_closeGap cX4_closeGap 3 none, Cond.methodLink RX4 224 Lib.Math.max.name, Cond.static Lib.Math.max.name, Cond.code Lib.Math.max.name Lib.Math.max.code 2 (some .int), Cond.methodLink RX4 146 yX2_triples, Cond.instanceMethod yX2_triples, Cond.selects RX2 yX2_triples yX2_triples, Cond.code yX2_triples cX2_triples 4 (some .int)]
def wsX4_ifStruck_r3 : List Cond := [Cond.methodLink RX2 58 yX2_permittedPairs, Cond.instanceMethod yX2_permittedPairs, Cond.selects RX2 yX2_permittedPairs yX2_permittedPairs, Cond.code yX2_permittedPairs cX2_permittedPairs 3 (some .int), Cond.methodLink RX2 77 yJ6_bitCount_0f7a4, Cond.static yJ6_bitCount_0f7a4, Cond.initialized RJ6, Cond.code yJ6_bitCount_0f7a4 cJ6_bitCount_0f7a4 1 (some .int), Cond.constant RJ6 265 (1431655765), Cond.constant RJ6 266 (858993459), Cond.constant RJ6 267 (252645135), Cond.methodLink RX2 74 yX2_heldPairsOfSeal, Cond.instanceMethod yX2_heldPairsOfSeal, Cond.selects RX2 yX2_heldPairsOfSeal yX2_heldPairsOfSeal, Cond.code yX2_heldPairsOfSeal cX2_heldPairsOfSeal 4 (some .int), Cond.methodLink RX2 62 yX2_heldPairs, Cond.instanceMethod yX2_heldPairs, Cond.selects RX2 yX2_heldPairs yX2_heldPairs, Cond.code yX2_heldPairs cX2_heldPairs 4 (some .int), Cond.methodLink RX2 82 yX2_lifts, Cond.instanceMethod yX2_lifts, Cond.selects RX2 yX2_lifts yX2_lifts, Cond.code yX2_lifts cX2_lifts 3 (some .boolean)]
def wsX4_ifStruck : List Cond := .code yX4_ifStruck cX4_ifStruck 2 (some .int) :: ((wsX4_ifStruck_r1 ++ (wsX4_ifStruck_r2 ++ wsX4_ifStruck_r3)) ++ wsX40 ++ wsX30 ++ wsX20)
def wsX4_worstBan_r1 : List Cond := [Cond.fieldLink RX4 12 "LayeredCharters" "now" "LLayeredCharters$State;", Cond.fieldLink RX4 52 "LayeredCharters$State" "rules" "LLayeredCharters$Rules;", Cond.fieldLink RX4 55 "LayeredCharters$Rules" "size" "I", Cond.fieldLink RX4 76 "LayeredCharters$Rules" "kinds" "[I", Cond.methodLink RX4 195 yX4_triplesWithout, Cond.instanceMethod yX4_triplesWithout, Cond.selects RX4 yX4_triplesWithout yX4_triplesWithout, Cond.initialized RX4, Cond.code yX4_triplesWithout cX4_triplesWithout 2 (some .int), Cond.fieldLink RX4 37 "LayeredCharters" "trial" "LLayeredCharters$Rules;", Cond.methodLink RX4 219 yX2_copyFrom, Cond.instanceMethod yX2_copyFrom, Cond.selects RX2 yX2_copyFrom yX2_copyFrom, Cond.initialized RX2, Cond.code yX2_copyFrom cX2_copyFrom 2 none, Cond.fieldLink RX2 11 "LayeredCharters$Rules" "layers" "[I", Cond.fieldLink RX2 15 "LayeredCharters$Rules" "kinds" "[I", Cond.fieldLink RX2 18 "LayeredCharters$Rules" "crafts" "[I", Cond.fieldLink RX2 21 "LayeredCharters$Rules" "deeds" "[I", Cond.fieldLink RX2 24 "LayeredCharters$Rules" "seals" "[I", Cond.fieldLink RX2 27 "LayeredCharters$Rules" "pairs" "[I", Cond.fieldLink RX2 30 "LayeredCharters$Rules" "size" "I", Cond.static yX4_copyRow, Cond.code yX4_copyRow cX4_copyRow 2 none]
def wsX4_worstBan_r2 : List Cond := [Cond.methodLink RX4 229 Lib.Math.min.name, Cond.static Lib.Math.min.name, Cond.initialized "java/lang/Math", Cond.code Lib.Math.min.name Lib.Math.min.code 2 (some .int), Cond.methodLink RX4 232 arraycopyName, Cond.native arraycopyName, Cond.static arraycopyName, Cond.initialized "java/lang/System", Cond.methodLink RX4 68 yX2_remove, Cond.instanceMethod yX2_remove, Cond.selects RX2 yX2_remove yX2_remove, Cond.code yX2_remove cX2_remove 2 none, Cond.methodLink RX2 42 yX2_has, Cond.instanceMethod yX2_has, Cond.selects RX2 yX2_has yX2_has, Cond.code yX2_has cX2_has 2 (some .boolean), Cond.static yX4_closeGap, Cond.code yX4_closeGap cX4_closeGap 3 none, Cond.methodLink RX4 224 Lib.Math.max.name, Cond.static Lib.Math.max.name, Cond.code Lib.Math.max.name Lib.Math.max.code 2 (some .int), Cond.methodLink RX4 146 yX2_triples, Cond.instanceMethod yX2_triples, Cond.selects RX2 yX2_triples yX2_triples]
def wsX4_worstBan_r3 : List Cond := [Cond.code yX2_triples cX2_triples 4 (some .int), Cond.methodLink RX2 58 yX2_permittedPairs, Cond.instanceMethod yX2_permittedPairs, Cond.selects RX2 yX2_permittedPairs yX2_permittedPairs, Cond.code yX2_permittedPairs cX2_permittedPairs 3 (some .int), Cond.methodLink RX2 77 yJ6_bitCount_0f7a4, Cond.static yJ6_bitCount_0f7a4, Cond.initialized RJ6, Cond.code yJ6_bitCount_0f7a4 cJ6_bitCount_0f7a4 1 (some .int), Cond.constant RJ6 265 (1431655765), Cond.constant RJ6 266 (858993459), Cond.constant RJ6 267 (252645135), Cond.methodLink RX2 74 yX2_heldPairsOfSeal, Cond.instanceMethod yX2_heldPairsOfSeal, Cond.selects RX2 yX2_heldPairsOfSeal yX2_heldPairsOfSeal, Cond.code yX2_heldPairsOfSeal cX2_heldPairsOfSeal 4 (some .int), Cond.methodLink RX2 62 yX2_heldPairs, Cond.instanceMethod yX2_heldPairs, Cond.selects RX2 yX2_heldPairs yX2_heldPairs, Cond.code yX2_heldPairs cX2_heldPairs 4 (some .int), Cond.methodLink RX2 82 yX2_lifts, Cond.instanceMethod yX2_lifts, Cond.selects RX2 yX2_lifts yX2_lifts, Cond.code yX2_lifts cX2_lifts 3 (some .boolean)]
def wsX4_worstBan : List Cond := .code yX4_worstBan cX4_worstBan 5 (some .int) :: ((wsX4_worstBan_r1 ++ (wsX4_worstBan_r2 ++ wsX4_worstBan_r3)) ++ wsX40 ++ wsX30 ++ wsX20)
def wsX4_triplesWithWaiver_r1 : List Cond := [Cond.fieldLink RX4 37 "LayeredCharters" "trial" "LLayeredCharters$Rules;", Cond.fieldLink RX4 12 "LayeredCharters" "now" "LLayeredCharters$State;", Cond.fieldLink RX4 52 "LayeredCharters$State" "rules" "LLayeredCharters$Rules;", Cond.methodLink RX4 219 yX2_copyFrom, Cond.instanceMethod yX2_copyFrom, Cond.selects RX2 yX2_copyFrom yX2_copyFrom, Cond.initialized RX2, Cond.code yX2_copyFrom cX2_copyFrom 2 none, Cond.fieldLink RX2 11 "LayeredCharters$Rules" "layers" "[I", Cond.fieldLink RX2 15 "LayeredCharters$Rules" "kinds" "[I", Cond.fieldLink RX2 18 "LayeredCharters$Rules" "crafts" "[I", Cond.fieldLink RX2 21 "LayeredCharters$Rules" "deeds" "[I", Cond.fieldLink RX2 24 "LayeredCharters$Rules" "seals" "[I", Cond.fieldLink RX2 27 "LayeredCharters$Rules" "pairs" "[I", Cond.fieldLink RX2 30 "LayeredCharters$Rules" "size" "I", Cond.static yX4_copyRow, Cond.initialized RX4, Cond.code yX4_copyRow cX4_copyRow 2 none, Cond.methodLink RX4 229 Lib.Math.min.name, Cond.static Lib.Math.min.name, Cond.initialized "java/lang/Math", Cond.code Lib.Math.min.name Lib.Math.min.code 2 (some .int), Cond.methodLink RX4 232 arraycopyName, Cond.native arraycopyName]
def wsX4_triplesWithWaiver_r2 : List Cond := [Cond.static arraycopyName, Cond.initialized "java/lang/System", Cond.methodLink RX4 61 yX2_append, Cond.instanceMethod yX2_append, Cond.selects RX2 yX2_append yX2_append, Cond.code yX2_append cX2_append 6 none, Cond.static yX4_pairsOf, Cond.code yX4_pairsOf cX4_pairsOf 5 (some .int), Cond.methodLink RX4 146 yX2_triples, Cond.instanceMethod yX2_triples, Cond.selects RX2 yX2_triples yX2_triples, Cond.code yX2_triples cX2_triples 4 (some .int), Cond.methodLink RX2 58 yX2_permittedPairs, Cond.instanceMethod yX2_permittedPairs, Cond.selects RX2 yX2_permittedPairs yX2_permittedPairs, Cond.code yX2_permittedPairs cX2_permittedPairs 3 (some .int), Cond.methodLink RX2 77 yJ6_bitCount_0f7a4, Cond.static yJ6_bitCount_0f7a4, Cond.initialized RJ6, Cond.code yJ6_bitCount_0f7a4 cJ6_bitCount_0f7a4 1 (some .int), Cond.constant RJ6 265 (1431655765), Cond.constant RJ6 266 (858993459), Cond.constant RJ6 267 (252645135), Cond.methodLink RX2 74 yX2_heldPairsOfSeal]
def wsX4_triplesWithWaiver_r3 : List Cond := [Cond.instanceMethod yX2_heldPairsOfSeal, Cond.selects RX2 yX2_heldPairsOfSeal yX2_heldPairsOfSeal, Cond.code yX2_heldPairsOfSeal cX2_heldPairsOfSeal 4 (some .int), Cond.methodLink RX2 62 yX2_heldPairs, Cond.instanceMethod yX2_heldPairs, Cond.selects RX2 yX2_heldPairs yX2_heldPairs, Cond.code yX2_heldPairs cX2_heldPairs 4 (some .int), Cond.methodLink RX2 82 yX2_lifts, Cond.instanceMethod yX2_lifts, Cond.selects RX2 yX2_lifts yX2_lifts, Cond.code yX2_lifts cX2_lifts 3 (some .boolean)]
def wsX4_triplesWithWaiver : List Cond := .code yX4_triplesWithWaiver cX4_triplesWithWaiver 3 (some .int) :: ((wsX4_triplesWithWaiver_r1 ++ (wsX4_triplesWithWaiver_r2 ++ wsX4_triplesWithWaiver_r3)) ++ wsX40 ++ wsX30 ++ wsX20)
def wsX4_bestWaiver_r1 : List Cond := [Cond.methodLink RX4 49 yX4_isSeal, Cond.static yX4_isSeal, Cond.initialized RX4, Cond.code yX4_isSeal cX4_isSeal 1 (some .boolean), Cond.methodLink RX4 45 yX4_isBetween, Cond.static yX4_isBetween, Cond.code yX4_isBetween cX4_isBetween 3 (some .boolean), Cond.methodLink RX4 198 yX4_triplesWithWaiver, Cond.instanceMethod yX4_triplesWithWaiver, Cond.selects RX4 yX4_triplesWithWaiver yX4_triplesWithWaiver, Cond.code yX4_triplesWithWaiver cX4_triplesWithWaiver 3 (some .int), Cond.fieldLink RX4 37 "LayeredCharters" "trial" "LLayeredCharters$Rules;", Cond.fieldLink RX4 12 "LayeredCharters" "now" "LLayeredCharters$State;", Cond.fieldLink RX4 52 "LayeredCharters$State" "rules" "LLayeredCharters$Rules;", Cond.methodLink RX4 219 yX2_copyFrom, Cond.instanceMethod yX2_copyFrom, Cond.selects RX2 yX2_copyFrom yX2_copyFrom, Cond.initialized RX2, Cond.code yX2_copyFrom cX2_copyFrom 2 none, Cond.fieldLink RX2 11 "LayeredCharters$Rules" "layers" "[I", Cond.fieldLink RX2 15 "LayeredCharters$Rules" "kinds" "[I", Cond.fieldLink RX2 18 "LayeredCharters$Rules" "crafts" "[I", Cond.fieldLink RX2 21 "LayeredCharters$Rules" "deeds" "[I", Cond.fieldLink RX2 24 "LayeredCharters$Rules" "seals" "[I"]
def wsX4_bestWaiver_r2 : List Cond := [Cond.fieldLink RX2 27 "LayeredCharters$Rules" "pairs" "[I", Cond.fieldLink RX2 30 "LayeredCharters$Rules" "size" "I", Cond.static yX4_copyRow, Cond.code yX4_copyRow cX4_copyRow 2 none, Cond.methodLink RX4 229 Lib.Math.min.name, Cond.static Lib.Math.min.name, Cond.initialized "java/lang/Math", Cond.code Lib.Math.min.name Lib.Math.min.code 2 (some .int), Cond.methodLink RX4 232 arraycopyName, Cond.native arraycopyName, Cond.static arraycopyName, Cond.initialized "java/lang/System", Cond.methodLink RX4 61 yX2_append, Cond.instanceMethod yX2_append, Cond.selects RX2 yX2_append yX2_append, Cond.code yX2_append cX2_append 6 none, Cond.static yX4_pairsOf, Cond.code yX4_pairsOf cX4_pairsOf 5 (some .int), Cond.methodLink RX4 146 yX2_triples, Cond.instanceMethod yX2_triples, Cond.selects RX2 yX2_triples yX2_triples, Cond.code yX2_triples cX2_triples 4 (some .int), Cond.methodLink RX2 58 yX2_permittedPairs, Cond.instanceMethod yX2_permittedPairs]
def wsX4_bestWaiver_r3 : List Cond := [Cond.selects RX2 yX2_permittedPairs yX2_permittedPairs, Cond.code yX2_permittedPairs cX2_permittedPairs 3 (some .int), Cond.methodLink RX2 77 yJ6_bitCount_0f7a4, Cond.static yJ6_bitCount_0f7a4, Cond.initialized RJ6, Cond.code yJ6_bitCount_0f7a4 cJ6_bitCount_0f7a4 1 (some .int), Cond.constant RJ6 265 (1431655765), Cond.constant RJ6 266 (858993459), Cond.constant RJ6 267 (252645135), Cond.methodLink RX2 74 yX2_heldPairsOfSeal, Cond.instanceMethod yX2_heldPairsOfSeal, Cond.selects RX2 yX2_heldPairsOfSeal yX2_heldPairsOfSeal, Cond.code yX2_heldPairsOfSeal cX2_heldPairsOfSeal 4 (some .int), Cond.methodLink RX2 62 yX2_heldPairs, Cond.instanceMethod yX2_heldPairs, Cond.selects RX2 yX2_heldPairs yX2_heldPairs, Cond.code yX2_heldPairs cX2_heldPairs 4 (some .int), Cond.methodLink RX2 82 yX2_lifts, Cond.instanceMethod yX2_lifts, Cond.selects RX2 yX2_lifts yX2_lifts, Cond.code yX2_lifts cX2_lifts 3 (some .boolean)]
def wsX4_bestWaiver : List Cond := .code yX4_bestWaiver cX4_bestWaiver 6 (some .int) :: ((wsX4_bestWaiver_r1 ++ (wsX4_bestWaiver_r2 ++ wsX4_bestWaiver_r3)) ++ wsX40 ++ wsX30 ++ wsX20)
def wsX4_put : List Cond := .code yX4_put cX4_put 4 (some .int) :: ([.fieldLink RX4 19 "LayeredCharters" "pad" "LLayeredCharters$Pad;", .fieldLink RX4 189 "LayeredCharters$Pad" "length" "I", .methodLink RX4 201 yX1_signsIn, .static yX1_signsIn, .initialized RX1, .code yX1_signsIn cX1_signsIn 5 (some .int), .constantLong RX1 19 (255), .static yX4_isBetween, .initialized RX4, .code yX4_isBetween cX4_isBetween 3 (some .boolean), .methodLink RX4 205 yX1_append, .instanceMethod yX1_append, .selects RX1 yX1_append yX1_append, .code yX1_append cX1_append 5 none, .fieldLink RX1 15 "LayeredCharters$Pad" "length" "I", .fieldLink RX1 9 "LayeredCharters$Pad" "signs" "[C"] ++ wsX40 ++ wsX10)
def wsX4_wipe : List Cond := .code yX4_wipe cX4_wipe 2 (some .int) :: ([.fieldLink RX4 19 "LayeredCharters" "pad" "LLayeredCharters$Pad;", .fieldLink RX4 189 "LayeredCharters$Pad" "length" "I", .methodLink RX4 93 yX1_clear, .instanceMethod yX1_clear, .selects RX1 yX1_clear yX1_clear, .initialized RX1, .code yX1_clear cX1_clear 1 none, .fieldLink RX1 15 "LayeredCharters$Pad" "length" "I"] ++ wsX40 ++ wsX10)
def wsX4_fault : List Cond := .code yX4_fault cX4_fault 1 (some .int) :: ([.fieldLink RX4 19 "LayeredCharters" "pad" "LLayeredCharters$Pad;", .methodLink RX4 82 yX1_firstFault, .instanceMethod yX1_firstFault, .selects RX1 yX1_firstFault yX1_firstFault, .initialized RX1, .code yX1_firstFault cX1_firstFault 3 (some .int), .fieldLink RX1 15 "LayeredCharters$Pad" "length" "I", .methodLink RX1 25 yX1_canStand, .instanceMethod yX1_canStand, .selects RX1 yX1_canStand yX1_canStand, .code yX1_canStand cX1_canStand 4 (some .boolean), .methodLink RX1 33 yX1_signAt, .instanceMethod yX1_signAt, .selects RX1 yX1_signAt yX1_signAt, .code yX1_signAt cX1_signAt 2 (some .char), .fieldLink RX1 9 "LayeredCharters$Pad" "signs" "[C", .static yX4_isBetween, .initialized RX4, .code yX4_isBetween cX4_isBetween 3 (some .boolean), .methodLink RX1 29 yX1_placeAfter, .instanceMethod yX1_placeAfter, .selects RX1 yX1_placeAfter yX1_placeAfter, .code yX1_placeAfter cX1_placeAfter 4 (some .int)] ++ wsX40 ++ wsX10)
def wsX4_undo_r1 : List Cond := [Cond.fieldLink RX4 30 "LayeredCharters" "remembered" "I", Cond.fieldLink RX4 27 "LayeredCharters" "history" "[LLayeredCharters$State;", Cond.fieldLink RX4 12 "LayeredCharters" "now" "LLayeredCharters$State;", Cond.methodLink RX4 45 yX4_isBetween, Cond.static yX4_isBetween, Cond.initialized RX4, Cond.code yX4_isBetween cX4_isBetween 3 (some .boolean), Cond.methodLink RX4 208 yX3_copyFrom, Cond.instanceMethod yX3_copyFrom, Cond.selects RX3 yX3_copyFrom yX3_copyFrom, Cond.initialized RX3, Cond.code yX3_copyFrom cX3_copyFrom 2 none, Cond.fieldLink RX3 10 "LayeredCharters$State" "rules" "LLayeredCharters$Rules;", Cond.fieldLink RX3 19 "LayeredCharters$State" "guild" "LLayeredCharters$Guild;", Cond.methodLink RX3 23 yX2_copyFrom, Cond.instanceMethod yX2_copyFrom, Cond.selects RX2 yX2_copyFrom yX2_copyFrom, Cond.initialized RX2, Cond.code yX2_copyFrom cX2_copyFrom 2 none, Cond.fieldLink RX2 11 "LayeredCharters$Rules" "layers" "[I", Cond.fieldLink RX2 15 "LayeredCharters$Rules" "kinds" "[I", Cond.fieldLink RX2 18 "LayeredCharters$Rules" "crafts" "[I", Cond.fieldLink RX2 21 "LayeredCharters$Rules" "deeds" "[I", Cond.fieldLink RX2 24 "LayeredCharters$Rules" "seals" "[I"]
def wsX4_undo_r2 : List Cond := [Cond.fieldLink RX2 27 "LayeredCharters$Rules" "pairs" "[I", Cond.fieldLink RX2 30 "LayeredCharters$Rules" "size" "I", Cond.static yX4_copyRow, Cond.code yX4_copyRow cX4_copyRow 2 none, Cond.methodLink RX4 229 Lib.Math.min.name, Cond.static Lib.Math.min.name, Cond.initialized "java/lang/Math", Cond.code Lib.Math.min.name Lib.Math.min.code 2 (some .int), Cond.methodLink RX4 232 arraycopyName, Cond.native arraycopyName, Cond.static arraycopyName, Cond.initialized "java/lang/System", Cond.methodLink RX3 27 yX0_copyFrom, Cond.instanceMethod yX0_copyFrom, Cond.selects RX0 yX0_copyFrom yX0_copyFrom, Cond.initialized RX0, Cond.code yX0_copyFrom cX0_copyFrom 2 none, Cond.fieldLink RX0 9 "LayeredCharters$Guild" "crafts" "[I", Cond.fieldLink RX0 15 "LayeredCharters$Guild" "ranks" "[I", Cond.fieldLink RX0 18 "LayeredCharters$Guild" "done" "[I", Cond.fieldLink RX0 21 "LayeredCharters$Guild" "refused" "[I", Cond.fieldLink RX0 24 "LayeredCharters$Guild" "refusals" "[I", Cond.fieldLink RX0 27 "LayeredCharters$Guild" "size" "I", Cond.fieldLink RX0 31 "LayeredCharters$Guild" "doneInAll" "I"]
def wsX4_undo : List Cond := .code yX4_undo cX4_undo 2 (some .int) :: ((wsX4_undo_r1 ++ wsX4_undo_r2) ++ wsX40 ++ wsX30 ++ wsX20 ++ wsX00)
def wsX4_save_r1 : List Cond := [Cond.fieldLink RX4 23 "LayeredCharters" "slots" "[LLayeredCharters$State;", Cond.fieldLink RX4 12 "LayeredCharters" "now" "LLayeredCharters$State;", Cond.fieldLink RX4 52 "LayeredCharters$State" "rules" "LLayeredCharters$Rules;", Cond.fieldLink RX4 55 "LayeredCharters$Rules" "size" "I", Cond.methodLink RX4 45 yX4_isBetween, Cond.static yX4_isBetween, Cond.initialized RX4, Cond.code yX4_isBetween cX4_isBetween 3 (some .boolean), Cond.methodLink RX4 212 yX4_copyInto, Cond.instanceMethod yX4_copyInto, Cond.selects RX4 yX4_copyInto yX4_copyInto, Cond.code yX4_copyInto cX4_copyInto 3 (some (.object "LayeredCharters$State")), Cond.classLink RX4 9 RX3, Cond.instantiable RX3 2, Cond.initialized RX3, Cond.instanceMethod yX3_init, Cond.code yX3_init cX3_init 1 none, Cond.methodLink RX3 1 objectInit, Cond.instanceMethod objectInit, Cond.code objectInit ⟨#[0xb1]⟩ 1 none, Cond.classLink RX3 7 RX2, Cond.instantiable RX2 7, Cond.initialized RX2, Cond.fieldLink RX3 10 "LayeredCharters$State" "rules" "LLayeredCharters$Rules;"]
def wsX4_save_r2 : List Cond := [Cond.classLink RX3 16 RX0, Cond.instantiable RX0 7, Cond.initialized RX0, Cond.fieldLink RX3 19 "LayeredCharters$State" "guild" "LLayeredCharters$Guild;", Cond.instanceMethod yX2_init, Cond.code yX2_init cX2_init 1 none, Cond.methodLink RX2 3 objectInit, Cond.arrayClass .int, Cond.fieldLink RX2 11 "LayeredCharters$Rules" "layers" "[I", Cond.fieldLink RX2 15 "LayeredCharters$Rules" "kinds" "[I", Cond.fieldLink RX2 18 "LayeredCharters$Rules" "crafts" "[I", Cond.fieldLink RX2 21 "LayeredCharters$Rules" "deeds" "[I", Cond.fieldLink RX2 24 "LayeredCharters$Rules" "seals" "[I", Cond.fieldLink RX2 27 "LayeredCharters$Rules" "pairs" "[I", Cond.fieldLink RX2 30 "LayeredCharters$Rules" "size" "I", Cond.instanceMethod yX0_init, Cond.code yX0_init cX0_init 1 none, Cond.methodLink RX0 3 objectInit, Cond.fieldLink RX0 9 "LayeredCharters$Guild" "crafts" "[I", Cond.fieldLink RX0 15 "LayeredCharters$Guild" "ranks" "[I", Cond.fieldLink RX0 18 "LayeredCharters$Guild" "done" "[I", Cond.fieldLink RX0 21 "LayeredCharters$Guild" "refused" "[I", Cond.fieldLink RX0 24 "LayeredCharters$Guild" "refusals" "[I", Cond.fieldLink RX0 27 "LayeredCharters$Guild" "size" "I"]
def wsX4_save_r3 : List Cond := [Cond.fieldLink RX0 31 "LayeredCharters$Guild" "doneInAll" "I", Cond.methodLink RX4 208 yX3_copyFrom, Cond.instanceMethod yX3_copyFrom, Cond.selects RX3 yX3_copyFrom yX3_copyFrom, Cond.code yX3_copyFrom cX3_copyFrom 2 none, Cond.methodLink RX3 23 yX2_copyFrom, Cond.instanceMethod yX2_copyFrom, Cond.selects RX2 yX2_copyFrom yX2_copyFrom, Cond.code yX2_copyFrom cX2_copyFrom 2 none, Cond.static yX4_copyRow, Cond.code yX4_copyRow cX4_copyRow 2 none, Cond.methodLink RX4 229 Lib.Math.min.name, Cond.static Lib.Math.min.name, Cond.initialized "java/lang/Math", Cond.code Lib.Math.min.name Lib.Math.min.code 2 (some .int), Cond.methodLink RX4 232 arraycopyName, Cond.native arraycopyName, Cond.static arraycopyName, Cond.initialized "java/lang/System", Cond.methodLink RX3 27 yX0_copyFrom, Cond.instanceMethod yX0_copyFrom, Cond.selects RX0 yX0_copyFrom yX0_copyFrom, Cond.code yX0_copyFrom cX0_copyFrom 2 none]
def wsX4_save : List Cond := .code yX4_save cX4_save 2 (some .int) :: ((wsX4_save_r1 ++ (wsX4_save_r2 ++ wsX4_save_r3)) ++ wsX40 ++ wsX30 ++ wsX20 ++ wsX00)
def wsX4_restore_r1 : List Cond := [Cond.fieldLink RX4 23 "LayeredCharters" "slots" "[LLayeredCharters$State;", Cond.fieldLink RX4 12 "LayeredCharters" "now" "LLayeredCharters$State;", Cond.fieldLink RX4 52 "LayeredCharters$State" "rules" "LLayeredCharters$Rules;", Cond.fieldLink RX4 55 "LayeredCharters$Rules" "size" "I", Cond.methodLink RX4 45 yX4_isBetween, Cond.static yX4_isBetween, Cond.initialized RX4, Cond.code yX4_isBetween cX4_isBetween 3 (some .boolean), Cond.methodLink RX4 58 yX4_remember, Cond.instanceMethod yX4_remember, Cond.selects RX4 yX4_remember yX4_remember, Cond.code yX4_remember cX4_remember 1 none, Cond.fieldLink RX4 30 "LayeredCharters" "remembered" "I", Cond.fieldLink RX4 27 "LayeredCharters" "history" "[LLayeredCharters$State;", Cond.methodLink RX4 216 yX4_dropOldest, Cond.instanceMethod yX4_dropOldest, Cond.selects RX4 yX4_dropOldest yX4_dropOldest, Cond.code yX4_dropOldest cX4_dropOldest 3 none, Cond.methodLink RX4 212 yX4_copyInto, Cond.instanceMethod yX4_copyInto, Cond.selects RX4 yX4_copyInto yX4_copyInto, Cond.code yX4_copyInto cX4_copyInto 3 (some (.object "LayeredCharters$State")), Cond.classLink RX4 9 RX3, Cond.instantiable RX3 2]
def wsX4_restore_r2 : List Cond := [Cond.initialized RX3, Cond.instanceMethod yX3_init, Cond.code yX3_init cX3_init 1 none, Cond.methodLink RX3 1 objectInit, Cond.instanceMethod objectInit, Cond.code objectInit ⟨#[0xb1]⟩ 1 none, Cond.classLink RX3 7 RX2, Cond.instantiable RX2 7, Cond.initialized RX2, Cond.fieldLink RX3 10 "LayeredCharters$State" "rules" "LLayeredCharters$Rules;", Cond.classLink RX3 16 RX0, Cond.instantiable RX0 7, Cond.initialized RX0, Cond.fieldLink RX3 19 "LayeredCharters$State" "guild" "LLayeredCharters$Guild;", Cond.instanceMethod yX2_init, Cond.code yX2_init cX2_init 1 none, Cond.methodLink RX2 3 objectInit, Cond.arrayClass .int, Cond.fieldLink RX2 11 "LayeredCharters$Rules" "layers" "[I", Cond.fieldLink RX2 15 "LayeredCharters$Rules" "kinds" "[I", Cond.fieldLink RX2 18 "LayeredCharters$Rules" "crafts" "[I", Cond.fieldLink RX2 21 "LayeredCharters$Rules" "deeds" "[I", Cond.fieldLink RX2 24 "LayeredCharters$Rules" "seals" "[I", Cond.fieldLink RX2 27 "LayeredCharters$Rules" "pairs" "[I"]
def wsX4_restore_r3 : List Cond := [Cond.fieldLink RX2 30 "LayeredCharters$Rules" "size" "I", Cond.instanceMethod yX0_init, Cond.code yX0_init cX0_init 1 none, Cond.methodLink RX0 3 objectInit, Cond.fieldLink RX0 9 "LayeredCharters$Guild" "crafts" "[I", Cond.fieldLink RX0 15 "LayeredCharters$Guild" "ranks" "[I", Cond.fieldLink RX0 18 "LayeredCharters$Guild" "done" "[I", Cond.fieldLink RX0 21 "LayeredCharters$Guild" "refused" "[I", Cond.fieldLink RX0 24 "LayeredCharters$Guild" "refusals" "[I", Cond.fieldLink RX0 27 "LayeredCharters$Guild" "size" "I", Cond.fieldLink RX0 31 "LayeredCharters$Guild" "doneInAll" "I", Cond.methodLink RX4 208 yX3_copyFrom, Cond.instanceMethod yX3_copyFrom, Cond.selects RX3 yX3_copyFrom yX3_copyFrom, Cond.code yX3_copyFrom cX3_copyFrom 2 none, Cond.methodLink RX3 23 yX2_copyFrom, Cond.instanceMethod yX2_copyFrom, Cond.selects RX2 yX2_copyFrom yX2_copyFrom, Cond.code yX2_copyFrom cX2_copyFrom 2 none, Cond.static yX4_copyRow, Cond.code yX4_copyRow cX4_copyRow 2 none, Cond.methodLink RX4 229 Lib.Math.min.name, Cond.static Lib.Math.min.name, Cond.initialized "java/lang/Math"]
def wsX4_restore_r4 : List Cond := [Cond.code Lib.Math.min.name Lib.Math.min.code 2 (some .int), Cond.methodLink RX4 232 arraycopyName, Cond.native arraycopyName, Cond.static arraycopyName, Cond.initialized "java/lang/System", Cond.methodLink RX3 27 yX0_copyFrom, Cond.instanceMethod yX0_copyFrom, Cond.selects RX0 yX0_copyFrom yX0_copyFrom, Cond.code yX0_copyFrom cX0_copyFrom 2 none]
def wsX4_restore : List Cond := .code yX4_restore cX4_restore 3 (some .int) :: ((wsX4_restore_r1 ++ (wsX4_restore_r2 ++ (wsX4_restore_r3 ++ wsX4_restore_r4))) ++ wsX40 ++ wsX30 ++ wsX20 ++ wsX00)
def wsX5_init : List Cond := .code yX5_init cX5_init 1 none :: ([.methodLink RX5 1 objectInit, .instanceMethod objectInit, .code objectInit ⟨#[0xb1]⟩ 1 none, .arrayClass .int, .fieldLink RX5 7 "LayeredChartersModel" "s" "[I", .fieldLink RX5 13 "LayeredChartersModel" "history" "[I", .fieldLink RX5 16 "LayeredChartersModel" "slots" "[I", .arrayClass .boolean, .fieldLink RX5 19 "LayeredChartersModel" "isSaved" "[Z", .fieldLink RX5 23 "LayeredChartersModel" "pad" "[I", .fieldLink RX5 26 "LayeredChartersModel" "strong" "[I"] ++ wsX50)
def wsX5_in : List Cond := .code yX5_in cX5_in 3 (some .boolean) :: ([])
def wsX5_isRule : List Cond := .code yX5_isRule cX5_isRule 2 (some .boolean) :: ([.fieldLink RX5 7 "LayeredChartersModel" "s" "[I", .methodLink RX5 29 yX5_in, .static yX5_in, .initialized RX5, .code yX5_in cX5_in 3 (some .boolean)] ++ wsX50)
def wsX5_isMember : List Cond := .code yX5_isMember cX5_isMember 2 (some .boolean) :: ([.fieldLink RX5 7 "LayeredChartersModel" "s" "[I", .methodLink RX5 29 yX5_in, .static yX5_in, .initialized RX5, .code yX5_in cX5_in 3 (some .boolean)] ++ wsX50)
def wsX5_isAsked : List Cond := .code yX5_isAsked cX5_isAsked 2 (some .boolean) :: ([.methodLink RX5 29 yX5_in, .static yX5_in, .initialized RX5, .code yX5_in cX5_in 3 (some .boolean)])
def wsX5_at : List Cond := .code yX5_at cX5_at 2 (some .int) :: ([])
def wsX5_of : List Cond := .code yX5_of cX5_of 3 (some .int) :: ([.fieldLink RX5 7 "LayeredChartersModel" "s" "[I", .methodLink RX5 33 yX5_at, .static yX5_at, .initialized RX5, .code yX5_at cX5_at 2 (some .int)] ++ wsX50)
def wsX5_ofGuild : List Cond := .code yX5_ofGuild cX5_ofGuild 2 (some .int) :: ([])
def wsX5_record : List Cond := .code yX5_record cX5_record 2 none :: ([.fieldLink RX5 37 "LayeredChartersModel" "kept" "I", .fieldLink RX5 13 "LayeredChartersModel" "history" "[I", .fieldLink RX5 7 "LayeredChartersModel" "s" "[I"] ++ wsX50)
def wsX5_fits : List Cond := .code yX5_fits cX5_fits 4 (some .boolean) :: ([.methodLink RX5 41 yX5_of, .instanceMethod yX5_of, .selects RX5 yX5_of yX5_of, .initialized RX5, .code yX5_of cX5_of 3 (some .int), .fieldLink RX5 7 "LayeredChartersModel" "s" "[I", .methodLink RX5 33 yX5_at, .static yX5_at, .code yX5_at cX5_at 2 (some .int)] ++ wsX50)
def wsX5_layStrong : List Cond := .code yX5_layStrong cX5_layStrong 8 none :: ([.fieldLink RX5 26 "LayeredChartersModel" "strong" "[I", .fieldLink RX5 7 "LayeredChartersModel" "s" "[I", .methodLink RX5 41 yX5_of, .instanceMethod yX5_of, .selects RX5 yX5_of yX5_of, .initialized RX5, .code yX5_of cX5_of 3 (some .int), .methodLink RX5 33 yX5_at, .static yX5_at, .code yX5_at cX5_at 2 (some .int), .methodLink RX5 44 yX5_fits, .instanceMethod yX5_fits, .selects RX5 yX5_fits yX5_fits, .code yX5_fits cX5_fits 4 (some .boolean)] ++ wsX50)
def wsX5_isPermitted : List Cond := .code yX5_isPermitted cX5_isPermitted 6 (some .boolean) :: ([.fieldLink RX5 7 "LayeredChartersModel" "s" "[I", .methodLink RX5 41 yX5_of, .instanceMethod yX5_of, .selects RX5 yX5_of yX5_of, .initialized RX5, .code yX5_of cX5_of 3 (some .int), .methodLink RX5 33 yX5_at, .static yX5_at, .code yX5_at cX5_at 2 (some .int), .methodLink RX5 44 yX5_fits, .instanceMethod yX5_fits, .selects RX5 yX5_fits yX5_fits, .code yX5_fits cX5_fits 4 (some .boolean)] ++ wsX50)
def wsX5_least : List Cond := .code yX5_least cX5_least 9 (some .int) :: ([.fieldLink RX5 7 "LayeredChartersModel" "s" "[I", .fieldLink RX5 26 "LayeredChartersModel" "strong" "[I", .methodLink RX5 47 yX5_isPermitted, .instanceMethod yX5_isPermitted, .selects RX5 yX5_isPermitted yX5_isPermitted, .initialized RX5, .code yX5_isPermitted cX5_isPermitted 6 (some .boolean), .methodLink RX5 41 yX5_of, .instanceMethod yX5_of, .selects RX5 yX5_of yX5_of, .code yX5_of cX5_of 3 (some .int), .methodLink RX5 33 yX5_at, .static yX5_at, .code yX5_at cX5_at 2 (some .int), .methodLink RX5 44 yX5_fits, .instanceMethod yX5_fits, .selects RX5 yX5_fits yX5_fits, .code yX5_fits cX5_fits 4 (some .boolean), .methodLink RX5 50 yX5_layStrong, .instanceMethod yX5_layStrong, .selects RX5 yX5_layStrong yX5_layStrong, .code yX5_layStrong cX5_layStrong 8 none] ++ wsX50)
def wsX5_leastNow_r1 : List Cond := [Cond.methodLink RX5 54 yX5_least, Cond.instanceMethod yX5_least, Cond.selects RX5 yX5_least yX5_least, Cond.initialized RX5, Cond.code yX5_least cX5_least 9 (some .int), Cond.fieldLink RX5 7 "LayeredChartersModel" "s" "[I", Cond.fieldLink RX5 26 "LayeredChartersModel" "strong" "[I", Cond.methodLink RX5 47 yX5_isPermitted, Cond.instanceMethod yX5_isPermitted, Cond.selects RX5 yX5_isPermitted yX5_isPermitted, Cond.code yX5_isPermitted cX5_isPermitted 6 (some .boolean), Cond.methodLink RX5 41 yX5_of, Cond.instanceMethod yX5_of, Cond.selects RX5 yX5_of yX5_of, Cond.code yX5_of cX5_of 3 (some .int), Cond.methodLink RX5 33 yX5_at, Cond.static yX5_at, Cond.code yX5_at cX5_at 2 (some .int), Cond.methodLink RX5 44 yX5_fits, Cond.instanceMethod yX5_fits, Cond.selects RX5 yX5_fits yX5_fits, Cond.code yX5_fits cX5_fits 4 (some .boolean), Cond.methodLink RX5 50 yX5_layStrong, Cond.instanceMethod yX5_layStrong]
def wsX5_leastNow_r2 : List Cond := [Cond.selects RX5 yX5_layStrong yX5_layStrong, Cond.code yX5_layStrong cX5_layStrong 8 none]
def wsX5_leastNow : List Cond := .code yX5_leastNow cX5_leastNow 3 (some .int) :: ((wsX5_leastNow_r1 ++ wsX5_leastNow_r2) ++ wsX50)
def wsX5_reason_r1 : List Cond := [Cond.fieldLink RX5 7 "LayeredChartersModel" "s" "[I", Cond.fieldLink RX5 26 "LayeredChartersModel" "strong" "[I", Cond.methodLink RX5 58 yX5_leastNow, Cond.instanceMethod yX5_leastNow, Cond.selects RX5 yX5_leastNow yX5_leastNow, Cond.initialized RX5, Cond.code yX5_leastNow cX5_leastNow 3 (some .int), Cond.methodLink RX5 54 yX5_least, Cond.instanceMethod yX5_least, Cond.selects RX5 yX5_least yX5_least, Cond.code yX5_least cX5_least 9 (some .int), Cond.methodLink RX5 47 yX5_isPermitted, Cond.instanceMethod yX5_isPermitted, Cond.selects RX5 yX5_isPermitted yX5_isPermitted, Cond.code yX5_isPermitted cX5_isPermitted 6 (some .boolean), Cond.methodLink RX5 41 yX5_of, Cond.instanceMethod yX5_of, Cond.selects RX5 yX5_of yX5_of, Cond.code yX5_of cX5_of 3 (some .int), Cond.methodLink RX5 33 yX5_at, Cond.static yX5_at, Cond.code yX5_at cX5_at 2 (some .int), Cond.methodLink RX5 44 yX5_fits, Cond.instanceMethod yX5_fits]
def wsX5_reason_r2 : List Cond := [Cond.selects RX5 yX5_fits yX5_fits, Cond.code yX5_fits cX5_fits 4 (some .boolean), Cond.methodLink RX5 50 yX5_layStrong, Cond.instanceMethod yX5_layStrong, Cond.selects RX5 yX5_layStrong yX5_layStrong, Cond.code yX5_layStrong cX5_layStrong 8 none]
def wsX5_reason : List Cond := .code yX5_reason cX5_reason 8 (some .int) :: ((wsX5_reason_r1 ++ wsX5_reason_r2) ++ wsX50)
def wsX5_triples_r1 : List Cond := [Cond.methodLink RX5 54 yX5_least, Cond.instanceMethod yX5_least, Cond.selects RX5 yX5_least yX5_least, Cond.initialized RX5, Cond.code yX5_least cX5_least 9 (some .int), Cond.fieldLink RX5 7 "LayeredChartersModel" "s" "[I", Cond.fieldLink RX5 26 "LayeredChartersModel" "strong" "[I", Cond.methodLink RX5 47 yX5_isPermitted, Cond.instanceMethod yX5_isPermitted, Cond.selects RX5 yX5_isPermitted yX5_isPermitted, Cond.code yX5_isPermitted cX5_isPermitted 6 (some .boolean), Cond.methodLink RX5 41 yX5_of, Cond.instanceMethod yX5_of, Cond.selects RX5 yX5_of yX5_of, Cond.code yX5_of cX5_of 3 (some .int), Cond.methodLink RX5 33 yX5_at, Cond.static yX5_at, Cond.code yX5_at cX5_at 2 (some .int), Cond.methodLink RX5 44 yX5_fits, Cond.instanceMethod yX5_fits, Cond.selects RX5 yX5_fits yX5_fits, Cond.code yX5_fits cX5_fits 4 (some .boolean), Cond.methodLink RX5 50 yX5_layStrong, Cond.instanceMethod yX5_layStrong]
def wsX5_triples_r2 : List Cond := [Cond.selects RX5 yX5_layStrong yX5_layStrong, Cond.code yX5_layStrong cX5_layStrong 8 none]
def wsX5_triples : List Cond := .code yX5_triples cX5_triples 6 (some .int) :: ((wsX5_triples_r1 ++ wsX5_triples_r2) ++ wsX50)
def wsX5_triplesNow_r1 : List Cond := [Cond.methodLink RX5 61 yX5_triples, Cond.instanceMethod yX5_triples, Cond.selects RX5 yX5_triples yX5_triples, Cond.initialized RX5, Cond.code yX5_triples cX5_triples 6 (some .int), Cond.methodLink RX5 54 yX5_least, Cond.instanceMethod yX5_least, Cond.selects RX5 yX5_least yX5_least, Cond.code yX5_least cX5_least 9 (some .int), Cond.fieldLink RX5 7 "LayeredChartersModel" "s" "[I", Cond.fieldLink RX5 26 "LayeredChartersModel" "strong" "[I", Cond.methodLink RX5 47 yX5_isPermitted, Cond.instanceMethod yX5_isPermitted, Cond.selects RX5 yX5_isPermitted yX5_isPermitted, Cond.code yX5_isPermitted cX5_isPermitted 6 (some .boolean), Cond.methodLink RX5 41 yX5_of, Cond.instanceMethod yX5_of, Cond.selects RX5 yX5_of yX5_of, Cond.code yX5_of cX5_of 3 (some .int), Cond.methodLink RX5 33 yX5_at, Cond.static yX5_at, Cond.code yX5_at cX5_at 2 (some .int), Cond.methodLink RX5 44 yX5_fits, Cond.instanceMethod yX5_fits]
def wsX5_triplesNow_r2 : List Cond := [Cond.selects RX5 yX5_fits yX5_fits, Cond.code yX5_fits cX5_fits 4 (some .boolean), Cond.methodLink RX5 50 yX5_layStrong, Cond.instanceMethod yX5_layStrong, Cond.selects RX5 yX5_layStrong yX5_layStrong, Cond.code yX5_layStrong cX5_layStrong 8 none]
def wsX5_triplesNow : List Cond := .code yX5_triplesNow cX5_triplesNow 1 (some .int) :: ((wsX5_triplesNow_r1 ++ wsX5_triplesNow_r2) ++ wsX50)
def wsX5_isIdle_r1 : List Cond := [Cond.methodLink RX5 58 yX5_leastNow, Cond.instanceMethod yX5_leastNow, Cond.selects RX5 yX5_leastNow yX5_leastNow, Cond.initialized RX5, Cond.code yX5_leastNow cX5_leastNow 3 (some .int), Cond.methodLink RX5 54 yX5_least, Cond.instanceMethod yX5_least, Cond.selects RX5 yX5_least yX5_least, Cond.code yX5_least cX5_least 9 (some .int), Cond.fieldLink RX5 7 "LayeredChartersModel" "s" "[I", Cond.fieldLink RX5 26 "LayeredChartersModel" "strong" "[I", Cond.methodLink RX5 47 yX5_isPermitted, Cond.instanceMethod yX5_isPermitted, Cond.selects RX5 yX5_isPermitted yX5_isPermitted, Cond.code yX5_isPermitted cX5_isPermitted 6 (some .boolean), Cond.methodLink RX5 41 yX5_of, Cond.instanceMethod yX5_of, Cond.selects RX5 yX5_of yX5_of, Cond.code yX5_of cX5_of 3 (some .int), Cond.methodLink RX5 33 yX5_at, Cond.static yX5_at, Cond.code yX5_at cX5_at 2 (some .int), Cond.methodLink RX5 44 yX5_fits, Cond.instanceMethod yX5_fits]
def wsX5_isIdle_r2 : List Cond := [Cond.selects RX5 yX5_fits yX5_fits, Cond.code yX5_fits cX5_fits 4 (some .boolean), Cond.methodLink RX5 50 yX5_layStrong, Cond.instanceMethod yX5_layStrong, Cond.selects RX5 yX5_layStrong yX5_layStrong, Cond.code yX5_layStrong cX5_layStrong 8 none]
def wsX5_isIdle : List Cond := .code yX5_isIdle cX5_isIdle 4 (some .boolean) :: ((wsX5_isIdle_r1 ++ wsX5_isIdle_r2) ++ wsX50)
def wsX5_areAtOdds : List Cond := .code yX5_areAtOdds cX5_areAtOdds 5 (some .boolean) :: ([.methodLink RX5 41 yX5_of, .instanceMethod yX5_of, .selects RX5 yX5_of yX5_of, .initialized RX5, .code yX5_of cX5_of 3 (some .int), .fieldLink RX5 7 "LayeredChartersModel" "s" "[I", .methodLink RX5 33 yX5_at, .static yX5_at, .code yX5_at cX5_at 2 (some .int)] ++ wsX50)
def wsX5_adds : List Cond := .code yX5_adds cX5_adds 7 (some .int) :: ([.fieldLink RX5 7 "LayeredChartersModel" "s" "[I", .methodLink RX5 33 yX5_at, .static yX5_at, .initialized RX5, .code yX5_at cX5_at 2 (some .int)] ++ wsX50)
def wsX5_strikes : List Cond := .code yX5_strikes cX5_strikes 3 none :: ([.fieldLink RX5 7 "LayeredChartersModel" "s" "[I", .methodLink RX5 33 yX5_at, .static yX5_at, .initialized RX5, .code yX5_at cX5_at 2 (some .int)] ++ wsX50)
def wsX5_add : List Cond := .code yX5_add cX5_add 6 (some .int) :: ([.fieldLink RX5 7 "LayeredChartersModel" "s" "[I", .methodLink RX5 29 yX5_in, .static yX5_in, .initialized RX5, .code yX5_in cX5_in 3 (some .boolean), .methodLink RX5 65 yX5_record, .instanceMethod yX5_record, .selects RX5 yX5_record yX5_record, .code yX5_record cX5_record 2 none, .fieldLink RX5 37 "LayeredChartersModel" "kept" "I", .fieldLink RX5 13 "LayeredChartersModel" "history" "[I", .methodLink RX5 68 yX5_adds, .instanceMethod yX5_adds, .selects RX5 yX5_adds yX5_adds, .code yX5_adds cX5_adds 7 (some .int), .methodLink RX5 33 yX5_at, .static yX5_at, .code yX5_at cX5_at 2 (some .int)] ++ wsX50)
def wsX5_strike : List Cond := .code yX5_strike cX5_strike 2 (some .int) :: ([.fieldLink RX5 7 "LayeredChartersModel" "s" "[I", .methodLink RX5 71 yX5_isRule, .instanceMethod yX5_isRule, .selects RX5 yX5_isRule yX5_isRule, .initialized RX5, .code yX5_isRule cX5_isRule 2 (some .boolean), .methodLink RX5 29 yX5_in, .static yX5_in, .code yX5_in cX5_in 3 (some .boolean), .methodLink RX5 65 yX5_record, .instanceMethod yX5_record, .selects RX5 yX5_record yX5_record, .code yX5_record cX5_record 2 none, .fieldLink RX5 37 "LayeredChartersModel" "kept" "I", .fieldLink RX5 13 "LayeredChartersModel" "history" "[I", .methodLink RX5 75 yX5_strikes, .instanceMethod yX5_strikes, .selects RX5 yX5_strikes yX5_strikes, .code yX5_strikes cX5_strikes 3 none, .methodLink RX5 33 yX5_at, .static yX5_at, .code yX5_at cX5_at 2 (some .int)] ++ wsX50)
def wsX5_lays : List Cond := .code yX5_lays cX5_lays 4 (some .int) :: ([.fieldLink RX5 7 "LayeredChartersModel" "s" "[I", .methodLink RX5 65 yX5_record, .instanceMethod yX5_record, .selects RX5 yX5_record yX5_record, .initialized RX5, .code yX5_record cX5_record 2 none, .fieldLink RX5 37 "LayeredChartersModel" "kept" "I", .fieldLink RX5 13 "LayeredChartersModel" "history" "[I"] ++ wsX50)
def wsX5_seal : List Cond := .code yX5_seal cX5_seal 3 (some .int) :: ([.methodLink RX5 71 yX5_isRule, .instanceMethod yX5_isRule, .selects RX5 yX5_isRule yX5_isRule, .initialized RX5, .code yX5_isRule cX5_isRule 2 (some .boolean), .fieldLink RX5 7 "LayeredChartersModel" "s" "[I", .methodLink RX5 29 yX5_in, .static yX5_in, .code yX5_in cX5_in 3 (some .boolean), .methodLink RX5 33 yX5_at, .static yX5_at, .code yX5_at cX5_at 2 (some .int), .methodLink RX5 79 yX5_lays, .instanceMethod yX5_lays, .selects RX5 yX5_lays yX5_lays, .code yX5_lays cX5_lays 4 (some .int), .methodLink RX5 65 yX5_record, .instanceMethod yX5_record, .selects RX5 yX5_record yX5_record, .code yX5_record cX5_record 2 none, .fieldLink RX5 37 "LayeredChartersModel" "kept" "I", .fieldLink RX5 13 "LayeredChartersModel" "history" "[I"] ++ wsX50)
def wsX5_move_r1 : List Cond := [Cond.methodLink RX5 71 yX5_isRule, Cond.instanceMethod yX5_isRule, Cond.selects RX5 yX5_isRule yX5_isRule, Cond.initialized RX5, Cond.code yX5_isRule cX5_isRule 2 (some .boolean), Cond.fieldLink RX5 7 "LayeredChartersModel" "s" "[I", Cond.methodLink RX5 29 yX5_in, Cond.static yX5_in, Cond.code yX5_in cX5_in 3 (some .boolean), Cond.methodLink RX5 41 yX5_of, Cond.instanceMethod yX5_of, Cond.selects RX5 yX5_of yX5_of, Cond.code yX5_of cX5_of 3 (some .int), Cond.methodLink RX5 33 yX5_at, Cond.static yX5_at, Cond.code yX5_at cX5_at 2 (some .int), Cond.methodLink RX5 79 yX5_lays, Cond.instanceMethod yX5_lays, Cond.selects RX5 yX5_lays yX5_lays, Cond.code yX5_lays cX5_lays 4 (some .int), Cond.methodLink RX5 65 yX5_record, Cond.instanceMethod yX5_record, Cond.selects RX5 yX5_record yX5_record, Cond.code yX5_record cX5_record 2 none]
def wsX5_move_r2 : List Cond := [Cond.fieldLink RX5 37 "LayeredChartersModel" "kept" "I", Cond.fieldLink RX5 13 "LayeredChartersModel" "history" "[I"]
def wsX5_move : List Cond := .code yX5_move cX5_move 3 (some .int) :: ((wsX5_move_r1 ++ wsX5_move_r2) ++ wsX50)
def wsX5_firstIdle_r1 : List Cond := [Cond.fieldLink RX5 7 "LayeredChartersModel" "s" "[I", Cond.methodLink RX5 82 yX5_isIdle, Cond.instanceMethod yX5_isIdle, Cond.selects RX5 yX5_isIdle yX5_isIdle, Cond.initialized RX5, Cond.code yX5_isIdle cX5_isIdle 4 (some .boolean), Cond.methodLink RX5 58 yX5_leastNow, Cond.instanceMethod yX5_leastNow, Cond.selects RX5 yX5_leastNow yX5_leastNow, Cond.code yX5_leastNow cX5_leastNow 3 (some .int), Cond.methodLink RX5 54 yX5_least, Cond.instanceMethod yX5_least, Cond.selects RX5 yX5_least yX5_least, Cond.code yX5_least cX5_least 9 (some .int), Cond.fieldLink RX5 26 "LayeredChartersModel" "strong" "[I", Cond.methodLink RX5 47 yX5_isPermitted, Cond.instanceMethod yX5_isPermitted, Cond.selects RX5 yX5_isPermitted yX5_isPermitted, Cond.code yX5_isPermitted cX5_isPermitted 6 (some .boolean), Cond.methodLink RX5 41 yX5_of, Cond.instanceMethod yX5_of, Cond.selects RX5 yX5_of yX5_of, Cond.code yX5_of cX5_of 3 (some .int), Cond.methodLink RX5 33 yX5_at]
def wsX5_firstIdle_r2 : List Cond := [Cond.static yX5_at, Cond.code yX5_at cX5_at 2 (some .int), Cond.methodLink RX5 44 yX5_fits, Cond.instanceMethod yX5_fits, Cond.selects RX5 yX5_fits yX5_fits, Cond.code yX5_fits cX5_fits 4 (some .boolean), Cond.methodLink RX5 50 yX5_layStrong, Cond.instanceMethod yX5_layStrong, Cond.selects RX5 yX5_layStrong yX5_layStrong, Cond.code yX5_layStrong cX5_layStrong 8 none]
def wsX5_firstIdle : List Cond := .code yX5_firstIdle cX5_firstIdle 2 (some .int) :: ((wsX5_firstIdle_r1 ++ wsX5_firstIdle_r2) ++ wsX50)
def wsX5_tidy_r1 : List Cond := [Cond.methodLink RX5 65 yX5_record, Cond.instanceMethod yX5_record, Cond.selects RX5 yX5_record yX5_record, Cond.initialized RX5, Cond.code yX5_record cX5_record 2 none, Cond.fieldLink RX5 37 "LayeredChartersModel" "kept" "I", Cond.fieldLink RX5 13 "LayeredChartersModel" "history" "[I", Cond.fieldLink RX5 7 "LayeredChartersModel" "s" "[I", Cond.methodLink RX5 85 yX5_firstIdle, Cond.instanceMethod yX5_firstIdle, Cond.selects RX5 yX5_firstIdle yX5_firstIdle, Cond.code yX5_firstIdle cX5_firstIdle 2 (some .int), Cond.methodLink RX5 82 yX5_isIdle, Cond.instanceMethod yX5_isIdle, Cond.selects RX5 yX5_isIdle yX5_isIdle, Cond.code yX5_isIdle cX5_isIdle 4 (some .boolean), Cond.methodLink RX5 58 yX5_leastNow, Cond.instanceMethod yX5_leastNow, Cond.selects RX5 yX5_leastNow yX5_leastNow, Cond.code yX5_leastNow cX5_leastNow 3 (some .int), Cond.methodLink RX5 54 yX5_least, Cond.instanceMethod yX5_least, Cond.selects RX5 yX5_least yX5_least, Cond.code yX5_least cX5_least 9 (some .int)]
def wsX5_tidy_r2 : List Cond := [Cond.fieldLink RX5 26 "LayeredChartersModel" "strong" "[I", Cond.methodLink RX5 47 yX5_isPermitted, Cond.instanceMethod yX5_isPermitted, Cond.selects RX5 yX5_isPermitted yX5_isPermitted, Cond.code yX5_isPermitted cX5_isPermitted 6 (some .boolean), Cond.methodLink RX5 41 yX5_of, Cond.instanceMethod yX5_of, Cond.selects RX5 yX5_of yX5_of, Cond.code yX5_of cX5_of 3 (some .int), Cond.methodLink RX5 33 yX5_at, Cond.static yX5_at, Cond.code yX5_at cX5_at 2 (some .int), Cond.methodLink RX5 44 yX5_fits, Cond.instanceMethod yX5_fits, Cond.selects RX5 yX5_fits yX5_fits, Cond.code yX5_fits cX5_fits 4 (some .boolean), Cond.methodLink RX5 50 yX5_layStrong, Cond.instanceMethod yX5_layStrong, Cond.selects RX5 yX5_layStrong yX5_layStrong, Cond.code yX5_layStrong cX5_layStrong 8 none, Cond.methodLink RX5 75 yX5_strikes, Cond.instanceMethod yX5_strikes, Cond.selects RX5 yX5_strikes yX5_strikes, Cond.code yX5_strikes cX5_strikes 3 none]
def wsX5_tidy : List Cond := .code yX5_tidy cX5_tidy 3 (some .int) :: ((wsX5_tidy_r1 ++ wsX5_tidy_r2) ++ wsX50)
def wsX5_join : List Cond := .code yX5_join cX5_join 4 (some .int) :: ([.fieldLink RX5 7 "LayeredChartersModel" "s" "[I", .methodLink RX5 29 yX5_in, .static yX5_in, .initialized RX5, .code yX5_in cX5_in 3 (some .boolean), .methodLink RX5 65 yX5_record, .instanceMethod yX5_record, .selects RX5 yX5_record yX5_record, .code yX5_record cX5_record 2 none, .fieldLink RX5 37 "LayeredChartersModel" "kept" "I", .fieldLink RX5 13 "LayeredChartersModel" "history" "[I", .methodLink RX5 89 yX5_ofGuild, .static yX5_ofGuild, .code yX5_ofGuild cX5_ofGuild 2 (some .int)] ++ wsX50)
def wsX5_leave : List Cond := .code yX5_leave cX5_leave 4 (some .int) :: ([.fieldLink RX5 7 "LayeredChartersModel" "s" "[I", .methodLink RX5 92 yX5_isMember, .instanceMethod yX5_isMember, .selects RX5 yX5_isMember yX5_isMember, .initialized RX5, .code yX5_isMember cX5_isMember 2 (some .boolean), .methodLink RX5 29 yX5_in, .static yX5_in, .code yX5_in cX5_in 3 (some .boolean), .methodLink RX5 65 yX5_record, .instanceMethod yX5_record, .selects RX5 yX5_record yX5_record, .code yX5_record cX5_record 2 none, .fieldLink RX5 37 "LayeredChartersModel" "kept" "I", .fieldLink RX5 13 "LayeredChartersModel" "history" "[I", .methodLink RX5 89 yX5_ofGuild, .static yX5_ofGuild, .code yX5_ofGuild cX5_ofGuild 2 (some .int)] ++ wsX50)
def wsX5_rank : List Cond := .code yX5_rank cX5_rank 3 (some .int) :: ([.methodLink RX5 92 yX5_isMember, .instanceMethod yX5_isMember, .selects RX5 yX5_isMember yX5_isMember, .initialized RX5, .code yX5_isMember cX5_isMember 2 (some .boolean), .fieldLink RX5 7 "LayeredChartersModel" "s" "[I", .methodLink RX5 29 yX5_in, .static yX5_in, .code yX5_in cX5_in 3 (some .boolean), .methodLink RX5 89 yX5_ofGuild, .static yX5_ofGuild, .code yX5_ofGuild cX5_ofGuild 2 (some .int), .methodLink RX5 79 yX5_lays, .instanceMethod yX5_lays, .selects RX5 yX5_lays yX5_lays, .code yX5_lays cX5_lays 4 (some .int), .methodLink RX5 65 yX5_record, .instanceMethod yX5_record, .selects RX5 yX5_record yX5_record, .code yX5_record cX5_record 2 none, .fieldLink RX5 37 "LayeredChartersModel" "kept" "I", .fieldLink RX5 13 "LayeredChartersModel" "history" "[I"] ++ wsX50)
def wsX5_act_r1 : List Cond := [Cond.fieldLink RX5 7 "LayeredChartersModel" "s" "[I", Cond.methodLink RX5 92 yX5_isMember, Cond.instanceMethod yX5_isMember, Cond.selects RX5 yX5_isMember yX5_isMember, Cond.initialized RX5, Cond.code yX5_isMember cX5_isMember 2 (some .boolean), Cond.methodLink RX5 29 yX5_in, Cond.static yX5_in, Cond.code yX5_in cX5_in 3 (some .boolean), Cond.methodLink RX5 65 yX5_record, Cond.instanceMethod yX5_record, Cond.selects RX5 yX5_record yX5_record, Cond.code yX5_record cX5_record 2 none, Cond.fieldLink RX5 37 "LayeredChartersModel" "kept" "I", Cond.fieldLink RX5 13 "LayeredChartersModel" "history" "[I", Cond.methodLink RX5 89 yX5_ofGuild, Cond.static yX5_ofGuild, Cond.code yX5_ofGuild cX5_ofGuild 2 (some .int), Cond.methodLink RX5 95 yX5_reason, Cond.instanceMethod yX5_reason, Cond.selects RX5 yX5_reason yX5_reason, Cond.code yX5_reason cX5_reason 8 (some .int), Cond.fieldLink RX5 26 "LayeredChartersModel" "strong" "[I", Cond.methodLink RX5 58 yX5_leastNow]
def wsX5_act_r2 : List Cond := [Cond.instanceMethod yX5_leastNow, Cond.selects RX5 yX5_leastNow yX5_leastNow, Cond.code yX5_leastNow cX5_leastNow 3 (some .int), Cond.methodLink RX5 54 yX5_least, Cond.instanceMethod yX5_least, Cond.selects RX5 yX5_least yX5_least, Cond.code yX5_least cX5_least 9 (some .int), Cond.methodLink RX5 47 yX5_isPermitted, Cond.instanceMethod yX5_isPermitted, Cond.selects RX5 yX5_isPermitted yX5_isPermitted, Cond.code yX5_isPermitted cX5_isPermitted 6 (some .boolean), Cond.methodLink RX5 41 yX5_of, Cond.instanceMethod yX5_of, Cond.selects RX5 yX5_of yX5_of, Cond.code yX5_of cX5_of 3 (some .int), Cond.methodLink RX5 33 yX5_at, Cond.static yX5_at, Cond.code yX5_at cX5_at 2 (some .int), Cond.methodLink RX5 44 yX5_fits, Cond.instanceMethod yX5_fits, Cond.selects RX5 yX5_fits yX5_fits, Cond.code yX5_fits cX5_fits 4 (some .boolean), Cond.methodLink RX5 50 yX5_layStrong, Cond.instanceMethod yX5_layStrong]
def wsX5_act_r3 : List Cond := [Cond.selects RX5 yX5_layStrong yX5_layStrong, Cond.code yX5_layStrong cX5_layStrong 8 none]
def wsX5_act : List Cond := .code yX5_act cX5_act 5 (some .int) :: ((wsX5_act_r1 ++ (wsX5_act_r2 ++ wsX5_act_r3)) ++ wsX50)
def wsX5_oddsOf : List Cond := .code yX5_oddsOf cX5_oddsOf 4 (some .int) :: ([.fieldLink RX5 7 "LayeredChartersModel" "s" "[I", .methodLink RX5 98 yX5_areAtOdds, .instanceMethod yX5_areAtOdds, .selects RX5 yX5_areAtOdds yX5_areAtOdds, .initialized RX5, .code yX5_areAtOdds cX5_areAtOdds 5 (some .boolean), .methodLink RX5 41 yX5_of, .instanceMethod yX5_of, .selects RX5 yX5_of yX5_of, .code yX5_of cX5_of 3 (some .int), .methodLink RX5 33 yX5_at, .static yX5_at, .code yX5_at cX5_at 2 (some .int)] ++ wsX50)
def wsX5_rule_r1 : List Cond := [Cond.methodLink RX5 71 yX5_isRule, Cond.instanceMethod yX5_isRule, Cond.selects RX5 yX5_isRule yX5_isRule, Cond.initialized RX5, Cond.code yX5_isRule cX5_isRule 2 (some .boolean), Cond.fieldLink RX5 7 "LayeredChartersModel" "s" "[I", Cond.methodLink RX5 29 yX5_in, Cond.static yX5_in, Cond.code yX5_in cX5_in 3 (some .boolean), Cond.methodLink RX5 82 yX5_isIdle, Cond.instanceMethod yX5_isIdle, Cond.selects RX5 yX5_isIdle yX5_isIdle, Cond.code yX5_isIdle cX5_isIdle 4 (some .boolean), Cond.methodLink RX5 58 yX5_leastNow, Cond.instanceMethod yX5_leastNow, Cond.selects RX5 yX5_leastNow yX5_leastNow, Cond.code yX5_leastNow cX5_leastNow 3 (some .int), Cond.methodLink RX5 54 yX5_least, Cond.instanceMethod yX5_least, Cond.selects RX5 yX5_least yX5_least, Cond.code yX5_least cX5_least 9 (some .int), Cond.fieldLink RX5 26 "LayeredChartersModel" "strong" "[I", Cond.methodLink RX5 47 yX5_isPermitted, Cond.instanceMethod yX5_isPermitted]
def wsX5_rule_r2 : List Cond := [Cond.selects RX5 yX5_isPermitted yX5_isPermitted, Cond.code yX5_isPermitted cX5_isPermitted 6 (some .boolean), Cond.methodLink RX5 41 yX5_of, Cond.instanceMethod yX5_of, Cond.selects RX5 yX5_of yX5_of, Cond.code yX5_of cX5_of 3 (some .int), Cond.methodLink RX5 33 yX5_at, Cond.static yX5_at, Cond.code yX5_at cX5_at 2 (some .int), Cond.methodLink RX5 44 yX5_fits, Cond.instanceMethod yX5_fits, Cond.selects RX5 yX5_fits yX5_fits, Cond.code yX5_fits cX5_fits 4 (some .boolean), Cond.methodLink RX5 50 yX5_layStrong, Cond.instanceMethod yX5_layStrong, Cond.selects RX5 yX5_layStrong yX5_layStrong, Cond.code yX5_layStrong cX5_layStrong 8 none, Cond.methodLink RX5 102 yX5_oddsOf, Cond.instanceMethod yX5_oddsOf, Cond.selects RX5 yX5_oddsOf yX5_oddsOf, Cond.code yX5_oddsOf cX5_oddsOf 4 (some .int), Cond.methodLink RX5 98 yX5_areAtOdds, Cond.instanceMethod yX5_areAtOdds, Cond.selects RX5 yX5_areAtOdds yX5_areAtOdds]
def wsX5_rule_r3 : List Cond := [Cond.code yX5_areAtOdds cX5_areAtOdds 5 (some .boolean)]
def wsX5_rule : List Cond := .code yX5_rule cX5_rule 3 (some .int) :: ((wsX5_rule_r1 ++ (wsX5_rule_r2 ++ wsX5_rule_r3)) ++ wsX50)
def wsX5_mayDo_r1 : List Cond := [Cond.fieldLink RX5 7 "LayeredChartersModel" "s" "[I", Cond.methodLink RX5 89 yX5_ofGuild, Cond.static yX5_ofGuild, Cond.initialized RX5, Cond.code yX5_ofGuild cX5_ofGuild 2 (some .int), Cond.methodLink RX5 58 yX5_leastNow, Cond.instanceMethod yX5_leastNow, Cond.selects RX5 yX5_leastNow yX5_leastNow, Cond.code yX5_leastNow cX5_leastNow 3 (some .int), Cond.methodLink RX5 54 yX5_least, Cond.instanceMethod yX5_least, Cond.selects RX5 yX5_least yX5_least, Cond.code yX5_least cX5_least 9 (some .int), Cond.fieldLink RX5 26 "LayeredChartersModel" "strong" "[I", Cond.methodLink RX5 47 yX5_isPermitted, Cond.instanceMethod yX5_isPermitted, Cond.selects RX5 yX5_isPermitted yX5_isPermitted, Cond.code yX5_isPermitted cX5_isPermitted 6 (some .boolean), Cond.methodLink RX5 41 yX5_of, Cond.instanceMethod yX5_of, Cond.selects RX5 yX5_of yX5_of, Cond.code yX5_of cX5_of 3 (some .int), Cond.methodLink RX5 33 yX5_at, Cond.static yX5_at]
def wsX5_mayDo_r2 : List Cond := [Cond.code yX5_at cX5_at 2 (some .int), Cond.methodLink RX5 44 yX5_fits, Cond.instanceMethod yX5_fits, Cond.selects RX5 yX5_fits yX5_fits, Cond.code yX5_fits cX5_fits 4 (some .boolean), Cond.methodLink RX5 50 yX5_layStrong, Cond.instanceMethod yX5_layStrong, Cond.selects RX5 yX5_layStrong yX5_layStrong, Cond.code yX5_layStrong cX5_layStrong 8 none]
def wsX5_mayDo : List Cond := .code yX5_mayDo cX5_mayDo 4 (some .int) :: ((wsX5_mayDo_r1 ++ wsX5_mayDo_r2) ++ wsX50)
def wsX5_member_r1 : List Cond := [Cond.fieldLink RX5 7 "LayeredChartersModel" "s" "[I", Cond.methodLink RX5 92 yX5_isMember, Cond.instanceMethod yX5_isMember, Cond.selects RX5 yX5_isMember yX5_isMember, Cond.initialized RX5, Cond.code yX5_isMember cX5_isMember 2 (some .boolean), Cond.methodLink RX5 29 yX5_in, Cond.static yX5_in, Cond.code yX5_in cX5_in 3 (some .boolean), Cond.methodLink RX5 89 yX5_ofGuild, Cond.static yX5_ofGuild, Cond.code yX5_ofGuild cX5_ofGuild 2 (some .int), Cond.methodLink RX5 106 yX5_mayDo, Cond.instanceMethod yX5_mayDo, Cond.selects RX5 yX5_mayDo yX5_mayDo, Cond.code yX5_mayDo cX5_mayDo 4 (some .int), Cond.methodLink RX5 58 yX5_leastNow, Cond.instanceMethod yX5_leastNow, Cond.selects RX5 yX5_leastNow yX5_leastNow, Cond.code yX5_leastNow cX5_leastNow 3 (some .int), Cond.methodLink RX5 54 yX5_least, Cond.instanceMethod yX5_least, Cond.selects RX5 yX5_least yX5_least, Cond.code yX5_least cX5_least 9 (some .int)]
def wsX5_member_r2 : List Cond := [Cond.fieldLink RX5 26 "LayeredChartersModel" "strong" "[I", Cond.methodLink RX5 47 yX5_isPermitted, Cond.instanceMethod yX5_isPermitted, Cond.selects RX5 yX5_isPermitted yX5_isPermitted, Cond.code yX5_isPermitted cX5_isPermitted 6 (some .boolean), Cond.methodLink RX5 41 yX5_of, Cond.instanceMethod yX5_of, Cond.selects RX5 yX5_of yX5_of, Cond.code yX5_of cX5_of 3 (some .int), Cond.methodLink RX5 33 yX5_at, Cond.static yX5_at, Cond.code yX5_at cX5_at 2 (some .int), Cond.methodLink RX5 44 yX5_fits, Cond.instanceMethod yX5_fits, Cond.selects RX5 yX5_fits yX5_fits, Cond.code yX5_fits cX5_fits 4 (some .boolean), Cond.methodLink RX5 50 yX5_layStrong, Cond.instanceMethod yX5_layStrong, Cond.selects RX5 yX5_layStrong yX5_layStrong, Cond.code yX5_layStrong cX5_layStrong 8 none]
def wsX5_member : List Cond := .code yX5_member cX5_member 3 (some .int) :: ((wsX5_member_r1 ++ wsX5_member_r2) ++ wsX50)
def wsX5_allowed_r1 : List Cond := [Cond.methodLink RX5 109 yX5_isAsked, Cond.static yX5_isAsked, Cond.initialized RX5, Cond.code yX5_isAsked cX5_isAsked 2 (some .boolean), Cond.methodLink RX5 29 yX5_in, Cond.static yX5_in, Cond.code yX5_in cX5_in 3 (some .boolean), Cond.methodLink RX5 58 yX5_leastNow, Cond.instanceMethod yX5_leastNow, Cond.selects RX5 yX5_leastNow yX5_leastNow, Cond.code yX5_leastNow cX5_leastNow 3 (some .int), Cond.methodLink RX5 54 yX5_least, Cond.instanceMethod yX5_least, Cond.selects RX5 yX5_least yX5_least, Cond.code yX5_least cX5_least 9 (some .int), Cond.fieldLink RX5 7 "LayeredChartersModel" "s" "[I", Cond.fieldLink RX5 26 "LayeredChartersModel" "strong" "[I", Cond.methodLink RX5 47 yX5_isPermitted, Cond.instanceMethod yX5_isPermitted, Cond.selects RX5 yX5_isPermitted yX5_isPermitted, Cond.code yX5_isPermitted cX5_isPermitted 6 (some .boolean), Cond.methodLink RX5 41 yX5_of, Cond.instanceMethod yX5_of, Cond.selects RX5 yX5_of yX5_of]
def wsX5_allowed_r2 : List Cond := [Cond.code yX5_of cX5_of 3 (some .int), Cond.methodLink RX5 33 yX5_at, Cond.static yX5_at, Cond.code yX5_at cX5_at 2 (some .int), Cond.methodLink RX5 44 yX5_fits, Cond.instanceMethod yX5_fits, Cond.selects RX5 yX5_fits yX5_fits, Cond.code yX5_fits cX5_fits 4 (some .boolean), Cond.methodLink RX5 50 yX5_layStrong, Cond.instanceMethod yX5_layStrong, Cond.selects RX5 yX5_layStrong yX5_layStrong, Cond.code yX5_layStrong cX5_layStrong 8 none]
def wsX5_allowed : List Cond := .code yX5_allowed cX5_allowed 5 (some .int) :: ((wsX5_allowed_r1 ++ wsX5_allowed_r2) ++ wsX50)
def wsX5_why_r1 : List Cond := [Cond.methodLink RX5 109 yX5_isAsked, Cond.static yX5_isAsked, Cond.initialized RX5, Cond.code yX5_isAsked cX5_isAsked 2 (some .boolean), Cond.methodLink RX5 29 yX5_in, Cond.static yX5_in, Cond.code yX5_in cX5_in 3 (some .boolean), Cond.methodLink RX5 95 yX5_reason, Cond.instanceMethod yX5_reason, Cond.selects RX5 yX5_reason yX5_reason, Cond.code yX5_reason cX5_reason 8 (some .int), Cond.fieldLink RX5 7 "LayeredChartersModel" "s" "[I", Cond.fieldLink RX5 26 "LayeredChartersModel" "strong" "[I", Cond.methodLink RX5 58 yX5_leastNow, Cond.instanceMethod yX5_leastNow, Cond.selects RX5 yX5_leastNow yX5_leastNow, Cond.code yX5_leastNow cX5_leastNow 3 (some .int), Cond.methodLink RX5 54 yX5_least, Cond.instanceMethod yX5_least, Cond.selects RX5 yX5_least yX5_least, Cond.code yX5_least cX5_least 9 (some .int), Cond.methodLink RX5 47 yX5_isPermitted, Cond.instanceMethod yX5_isPermitted, Cond.selects RX5 yX5_isPermitted yX5_isPermitted]
def wsX5_why_r2 : List Cond := [Cond.code yX5_isPermitted cX5_isPermitted 6 (some .boolean), Cond.methodLink RX5 41 yX5_of, Cond.instanceMethod yX5_of, Cond.selects RX5 yX5_of yX5_of, Cond.code yX5_of cX5_of 3 (some .int), Cond.methodLink RX5 33 yX5_at, Cond.static yX5_at, Cond.code yX5_at cX5_at 2 (some .int), Cond.methodLink RX5 44 yX5_fits, Cond.instanceMethod yX5_fits, Cond.selects RX5 yX5_fits yX5_fits, Cond.code yX5_fits cX5_fits 4 (some .boolean), Cond.methodLink RX5 50 yX5_layStrong, Cond.instanceMethod yX5_layStrong, Cond.selects RX5 yX5_layStrong yX5_layStrong, Cond.code yX5_layStrong cX5_layStrong 8 none]
def wsX5_why : List Cond := .code yX5_why cX5_why 4 (some .int) :: ((wsX5_why_r1 ++ wsX5_why_r2) ++ wsX50)
def wsX5_sumOf_r1 : List Cond := [Cond.fieldLink RX5 7 "LayeredChartersModel" "s" "[I", Cond.methodLink RX5 102 yX5_oddsOf, Cond.instanceMethod yX5_oddsOf, Cond.selects RX5 yX5_oddsOf yX5_oddsOf, Cond.initialized RX5, Cond.code yX5_oddsOf cX5_oddsOf 4 (some .int), Cond.methodLink RX5 98 yX5_areAtOdds, Cond.instanceMethod yX5_areAtOdds, Cond.selects RX5 yX5_areAtOdds yX5_areAtOdds, Cond.code yX5_areAtOdds cX5_areAtOdds 5 (some .boolean), Cond.methodLink RX5 41 yX5_of, Cond.instanceMethod yX5_of, Cond.selects RX5 yX5_of yX5_of, Cond.code yX5_of cX5_of 3 (some .int), Cond.methodLink RX5 33 yX5_at, Cond.static yX5_at, Cond.code yX5_at cX5_at 2 (some .int), Cond.methodLink RX5 82 yX5_isIdle, Cond.instanceMethod yX5_isIdle, Cond.selects RX5 yX5_isIdle yX5_isIdle, Cond.code yX5_isIdle cX5_isIdle 4 (some .boolean), Cond.methodLink RX5 58 yX5_leastNow, Cond.instanceMethod yX5_leastNow, Cond.selects RX5 yX5_leastNow yX5_leastNow]
def wsX5_sumOf_r2 : List Cond := [Cond.code yX5_leastNow cX5_leastNow 3 (some .int), Cond.methodLink RX5 54 yX5_least, Cond.instanceMethod yX5_least, Cond.selects RX5 yX5_least yX5_least, Cond.code yX5_least cX5_least 9 (some .int), Cond.fieldLink RX5 26 "LayeredChartersModel" "strong" "[I", Cond.methodLink RX5 47 yX5_isPermitted, Cond.instanceMethod yX5_isPermitted, Cond.selects RX5 yX5_isPermitted yX5_isPermitted, Cond.code yX5_isPermitted cX5_isPermitted 6 (some .boolean), Cond.methodLink RX5 44 yX5_fits, Cond.instanceMethod yX5_fits, Cond.selects RX5 yX5_fits yX5_fits, Cond.code yX5_fits cX5_fits 4 (some .boolean), Cond.methodLink RX5 50 yX5_layStrong, Cond.instanceMethod yX5_layStrong, Cond.selects RX5 yX5_layStrong yX5_layStrong, Cond.code yX5_layStrong cX5_layStrong 8 none]
def wsX5_sumOf : List Cond := .code yX5_sumOf cX5_sumOf 4 (some .int) :: ((wsX5_sumOf_r1 ++ wsX5_sumOf_r2) ++ wsX50)
def wsX5_count_r1 : List Cond := [Cond.fieldLink RX5 7 "LayeredChartersModel" "s" "[I", Cond.fieldLink RX5 118 "LayeredChartersModel" "length" "I", Cond.fieldLink RX5 37 "LayeredChartersModel" "kept" "I", Cond.methodLink RX5 112 yX5_sumOf, Cond.instanceMethod yX5_sumOf, Cond.selects RX5 yX5_sumOf yX5_sumOf, Cond.initialized RX5, Cond.code yX5_sumOf cX5_sumOf 4 (some .int), Cond.methodLink RX5 102 yX5_oddsOf, Cond.instanceMethod yX5_oddsOf, Cond.selects RX5 yX5_oddsOf yX5_oddsOf, Cond.code yX5_oddsOf cX5_oddsOf 4 (some .int), Cond.methodLink RX5 98 yX5_areAtOdds, Cond.instanceMethod yX5_areAtOdds, Cond.selects RX5 yX5_areAtOdds yX5_areAtOdds, Cond.code yX5_areAtOdds cX5_areAtOdds 5 (some .boolean), Cond.methodLink RX5 41 yX5_of, Cond.instanceMethod yX5_of, Cond.selects RX5 yX5_of yX5_of, Cond.code yX5_of cX5_of 3 (some .int), Cond.methodLink RX5 33 yX5_at, Cond.static yX5_at, Cond.code yX5_at cX5_at 2 (some .int), Cond.methodLink RX5 82 yX5_isIdle]
def wsX5_count_r2 : List Cond := [Cond.instanceMethod yX5_isIdle, Cond.selects RX5 yX5_isIdle yX5_isIdle, Cond.code yX5_isIdle cX5_isIdle 4 (some .boolean), Cond.methodLink RX5 58 yX5_leastNow, Cond.instanceMethod yX5_leastNow, Cond.selects RX5 yX5_leastNow yX5_leastNow, Cond.code yX5_leastNow cX5_leastNow 3 (some .int), Cond.methodLink RX5 54 yX5_least, Cond.instanceMethod yX5_least, Cond.selects RX5 yX5_least yX5_least, Cond.code yX5_least cX5_least 9 (some .int), Cond.fieldLink RX5 26 "LayeredChartersModel" "strong" "[I", Cond.methodLink RX5 47 yX5_isPermitted, Cond.instanceMethod yX5_isPermitted, Cond.selects RX5 yX5_isPermitted yX5_isPermitted, Cond.code yX5_isPermitted cX5_isPermitted 6 (some .boolean), Cond.methodLink RX5 44 yX5_fits, Cond.instanceMethod yX5_fits, Cond.selects RX5 yX5_fits yX5_fits, Cond.code yX5_fits cX5_fits 4 (some .boolean), Cond.methodLink RX5 50 yX5_layStrong, Cond.instanceMethod yX5_layStrong, Cond.selects RX5 yX5_layStrong yX5_layStrong, Cond.code yX5_layStrong cX5_layStrong 8 none]
def wsX5_count_r3 : List Cond := [Cond.methodLink RX5 115 yX5_triplesNow, Cond.instanceMethod yX5_triplesNow, Cond.selects RX5 yX5_triplesNow yX5_triplesNow, Cond.code yX5_triplesNow cX5_triplesNow 1 (some .int), Cond.methodLink RX5 61 yX5_triples, Cond.instanceMethod yX5_triples, Cond.selects RX5 yX5_triples yX5_triples, Cond.code yX5_triples cX5_triples 6 (some .int)]
def wsX5_count : List Cond := .code yX5_count cX5_count 2 (some .int) :: ((wsX5_count_r1 ++ (wsX5_count_r2 ++ wsX5_count_r3)) ++ wsX50)
def wsX5_leastRank_r1 : List Cond := [Cond.methodLink RX5 109 yX5_isAsked, Cond.static yX5_isAsked, Cond.initialized RX5, Cond.code yX5_isAsked cX5_isAsked 2 (some .boolean), Cond.methodLink RX5 29 yX5_in, Cond.static yX5_in, Cond.code yX5_in cX5_in 3 (some .boolean), Cond.methodLink RX5 58 yX5_leastNow, Cond.instanceMethod yX5_leastNow, Cond.selects RX5 yX5_leastNow yX5_leastNow, Cond.code yX5_leastNow cX5_leastNow 3 (some .int), Cond.methodLink RX5 54 yX5_least, Cond.instanceMethod yX5_least, Cond.selects RX5 yX5_least yX5_least, Cond.code yX5_least cX5_least 9 (some .int), Cond.fieldLink RX5 7 "LayeredChartersModel" "s" "[I", Cond.fieldLink RX5 26 "LayeredChartersModel" "strong" "[I", Cond.methodLink RX5 47 yX5_isPermitted, Cond.instanceMethod yX5_isPermitted, Cond.selects RX5 yX5_isPermitted yX5_isPermitted, Cond.code yX5_isPermitted cX5_isPermitted 6 (some .boolean), Cond.methodLink RX5 41 yX5_of, Cond.instanceMethod yX5_of, Cond.selects RX5 yX5_of yX5_of]
def wsX5_leastRank_r2 : List Cond := [Cond.code yX5_of cX5_of 3 (some .int), Cond.methodLink RX5 33 yX5_at, Cond.static yX5_at, Cond.code yX5_at cX5_at 2 (some .int), Cond.methodLink RX5 44 yX5_fits, Cond.instanceMethod yX5_fits, Cond.selects RX5 yX5_fits yX5_fits, Cond.code yX5_fits cX5_fits 4 (some .boolean), Cond.methodLink RX5 50 yX5_layStrong, Cond.instanceMethod yX5_layStrong, Cond.selects RX5 yX5_layStrong yX5_layStrong, Cond.code yX5_layStrong cX5_layStrong 8 none]
def wsX5_leastRank : List Cond := .code yX5_leastRank cX5_leastRank 4 (some .int) :: ((wsX5_leastRank_r1 ++ wsX5_leastRank_r2) ++ wsX50)
def wsX5_ifStruck_r1 : List Cond := [Cond.methodLink RX5 71 yX5_isRule, Cond.instanceMethod yX5_isRule, Cond.selects RX5 yX5_isRule yX5_isRule, Cond.initialized RX5, Cond.code yX5_isRule cX5_isRule 2 (some .boolean), Cond.fieldLink RX5 7 "LayeredChartersModel" "s" "[I", Cond.methodLink RX5 29 yX5_in, Cond.static yX5_in, Cond.code yX5_in cX5_in 3 (some .boolean), Cond.methodLink RX5 61 yX5_triples, Cond.instanceMethod yX5_triples, Cond.selects RX5 yX5_triples yX5_triples, Cond.code yX5_triples cX5_triples 6 (some .int), Cond.methodLink RX5 54 yX5_least, Cond.instanceMethod yX5_least, Cond.selects RX5 yX5_least yX5_least, Cond.code yX5_least cX5_least 9 (some .int), Cond.fieldLink RX5 26 "LayeredChartersModel" "strong" "[I", Cond.methodLink RX5 47 yX5_isPermitted, Cond.instanceMethod yX5_isPermitted, Cond.selects RX5 yX5_isPermitted yX5_isPermitted, Cond.code yX5_isPermitted cX5_isPermitted 6 (some .boolean), Cond.methodLink RX5 41 yX5_of, Cond.instanceMethod yX5_of]
def wsX5_ifStruck_r2 : List Cond := [Cond.selects RX5 yX5_of yX5_of, Cond.code yX5_of cX5_of 3 (some .int), Cond.methodLink RX5 33 yX5_at, Cond.static yX5_at, Cond.code yX5_at cX5_at 2 (some .int), Cond.methodLink RX5 44 yX5_fits, Cond.instanceMethod yX5_fits, Cond.selects RX5 yX5_fits yX5_fits, Cond.code yX5_fits cX5_fits 4 (some .boolean), Cond.methodLink RX5 50 yX5_layStrong, Cond.instanceMethod yX5_layStrong, Cond.selects RX5 yX5_layStrong yX5_layStrong, Cond.code yX5_layStrong cX5_layStrong 8 none, Cond.methodLink RX5 115 yX5_triplesNow, Cond.instanceMethod yX5_triplesNow, Cond.selects RX5 yX5_triplesNow yX5_triplesNow, Cond.code yX5_triplesNow cX5_triplesNow 1 (some .int)]
def wsX5_ifStruck : List Cond := .code yX5_ifStruck cX5_ifStruck 2 (some .int) :: ((wsX5_ifStruck_r1 ++ wsX5_ifStruck_r2) ++ wsX50)
def wsX5_worstBan_r1 : List Cond := [Cond.fieldLink RX5 7 "LayeredChartersModel" "s" "[I", Cond.methodLink RX5 41 yX5_of, Cond.instanceMethod yX5_of, Cond.selects RX5 yX5_of yX5_of, Cond.initialized RX5, Cond.code yX5_of cX5_of 3 (some .int), Cond.methodLink RX5 33 yX5_at, Cond.static yX5_at, Cond.code yX5_at cX5_at 2 (some .int), Cond.methodLink RX5 61 yX5_triples, Cond.instanceMethod yX5_triples, Cond.selects RX5 yX5_triples yX5_triples, Cond.code yX5_triples cX5_triples 6 (some .int), Cond.methodLink RX5 54 yX5_least, Cond.instanceMethod yX5_least, Cond.selects RX5 yX5_least yX5_least, Cond.code yX5_least cX5_least 9 (some .int), Cond.fieldLink RX5 26 "LayeredChartersModel" "strong" "[I", Cond.methodLink RX5 47 yX5_isPermitted, Cond.instanceMethod yX5_isPermitted, Cond.selects RX5 yX5_isPermitted yX5_isPermitted, Cond.code yX5_isPermitted cX5_isPermitted 6 (some .boolean), Cond.methodLink RX5 44 yX5_fits, Cond.instanceMethod yX5_fits]
def wsX5_worstBan_r2 : List Cond := [Cond.selects RX5 yX5_fits yX5_fits, Cond.code yX5_fits cX5_fits 4 (some .boolean), Cond.methodLink RX5 50 yX5_layStrong, Cond.instanceMethod yX5_layStrong, Cond.selects RX5 yX5_layStrong yX5_layStrong, Cond.code yX5_layStrong cX5_layStrong 8 none]
def wsX5_worstBan : List Cond := .code yX5_worstBan cX5_worstBan 6 (some .int) :: ((wsX5_worstBan_r1 ++ wsX5_worstBan_r2) ++ wsX50)
def wsX5_bestWaiver_r1 : List Cond := [Cond.methodLink RX5 29 yX5_in, Cond.static yX5_in, Cond.initialized RX5, Cond.code yX5_in cX5_in 3 (some .boolean), Cond.methodLink RX5 61 yX5_triples, Cond.instanceMethod yX5_triples, Cond.selects RX5 yX5_triples yX5_triples, Cond.code yX5_triples cX5_triples 6 (some .int), Cond.methodLink RX5 54 yX5_least, Cond.instanceMethod yX5_least, Cond.selects RX5 yX5_least yX5_least, Cond.code yX5_least cX5_least 9 (some .int), Cond.fieldLink RX5 7 "LayeredChartersModel" "s" "[I", Cond.fieldLink RX5 26 "LayeredChartersModel" "strong" "[I", Cond.methodLink RX5 47 yX5_isPermitted, Cond.instanceMethod yX5_isPermitted, Cond.selects RX5 yX5_isPermitted yX5_isPermitted, Cond.code yX5_isPermitted cX5_isPermitted 6 (some .boolean), Cond.methodLink RX5 41 yX5_of, Cond.instanceMethod yX5_of, Cond.selects RX5 yX5_of yX5_of, Cond.code yX5_of cX5_of 3 (some .int), Cond.methodLink RX5 33 yX5_at, Cond.static yX5_at]
def wsX5_bestWaiver_r2 : List Cond := [Cond.code yX5_at cX5_at 2 (some .int), Cond.methodLink RX5 44 yX5_fits, Cond.instanceMethod yX5_fits, Cond.selects RX5 yX5_fits yX5_fits, Cond.code yX5_fits cX5_fits 4 (some .boolean), Cond.methodLink RX5 50 yX5_layStrong, Cond.instanceMethod yX5_layStrong, Cond.selects RX5 yX5_layStrong yX5_layStrong, Cond.code yX5_layStrong cX5_layStrong 8 none]
def wsX5_bestWaiver : List Cond := .code yX5_bestWaiver cX5_bestWaiver 6 (some .int) :: ((wsX5_bestWaiver_r1 ++ wsX5_bestWaiver_r2) ++ wsX50)
def wsX5_put : List Cond := .code yX5_put cX5_put 8 (some .int) :: ([.constantLong RX5 121 (255), .fieldLink RX5 118 "LayeredChartersModel" "length" "I", .fieldLink RX5 23 "LayeredChartersModel" "pad" "[I", .methodLink RX5 29 yX5_in, .static yX5_in, .initialized RX5, .code yX5_in cX5_in 3 (some .boolean)] ++ wsX50)
def wsX5_wipe : List Cond := .code yX5_wipe cX5_wipe 2 (some .int) :: ([.fieldLink RX5 118 "LayeredChartersModel" "length" "I"] ++ wsX50)
def wsX5_next : List Cond := .code yX5_next cX5_next 2 (some .int) :: ([.fieldLink RX5 118 "LayeredChartersModel" "length" "I", .fieldLink RX5 23 "LayeredChartersModel" "pad" "[I"] ++ wsX50)
def wsX5_kindFor : List Cond := .code yX5_kindFor cX5_kindFor 1 (some .int) :: ([])
def wsX5_right : List Cond := .code yX5_right cX5_right 3 (some .int) :: ([.methodLink RX5 123 yX5_next, .instanceMethod yX5_next, .selects RX5 yX5_next yX5_next, .initialized RX5, .code yX5_next cX5_next 2 (some .int), .fieldLink RX5 118 "LayeredChartersModel" "length" "I", .fieldLink RX5 23 "LayeredChartersModel" "pad" "[I", .methodLink RX5 126 yX5_kindFor, .static yX5_kindFor, .code yX5_kindFor cX5_kindFor 1 (some .int), .methodLink RX5 29 yX5_in, .static yX5_in, .code yX5_in cX5_in 3 (some .boolean)] ++ wsX50)
def wsX5_whole : List Cond := .code yX5_whole cX5_whole 2 (some .int) :: ([.methodLink RX5 123 yX5_next, .instanceMethod yX5_next, .selects RX5 yX5_next yX5_next, .initialized RX5, .code yX5_next cX5_next 2 (some .int), .fieldLink RX5 118 "LayeredChartersModel" "length" "I", .fieldLink RX5 23 "LayeredChartersModel" "pad" "[I"] ++ wsX50)
def wsX5_wrong : List Cond := .code yX5_wrong cX5_wrong 4 (some .int) :: ([.fieldLink RX5 129 "LayeredChartersModel" "told" "I", .fieldLink RX5 118 "LayeredChartersModel" "length" "I", .fieldLink RX5 23 "LayeredChartersModel" "pad" "[I", .methodLink RX5 132 yX5_right, .instanceMethod yX5_right, .selects RX5 yX5_right yX5_right, .initialized RX5, .code yX5_right cX5_right 3 (some .int), .methodLink RX5 123 yX5_next, .instanceMethod yX5_next, .selects RX5 yX5_next yX5_next, .code yX5_next cX5_next 2 (some .int), .methodLink RX5 126 yX5_kindFor, .static yX5_kindFor, .code yX5_kindFor cX5_kindFor 1 (some .int), .methodLink RX5 29 yX5_in, .static yX5_in, .code yX5_in cX5_in 3 (some .boolean), .methodLink RX5 135 yX5_whole, .instanceMethod yX5_whole, .selects RX5 yX5_whole yX5_whole, .code yX5_whole cX5_whole 2 (some .int)] ++ wsX50)
def wsX5_fault_r1 : List Cond := [Cond.methodLink RX5 138 yX5_wrong, Cond.instanceMethod yX5_wrong, Cond.selects RX5 yX5_wrong yX5_wrong, Cond.initialized RX5, Cond.code yX5_wrong cX5_wrong 4 (some .int), Cond.fieldLink RX5 129 "LayeredChartersModel" "told" "I", Cond.fieldLink RX5 118 "LayeredChartersModel" "length" "I", Cond.fieldLink RX5 23 "LayeredChartersModel" "pad" "[I", Cond.methodLink RX5 132 yX5_right, Cond.instanceMethod yX5_right, Cond.selects RX5 yX5_right yX5_right, Cond.code yX5_right cX5_right 3 (some .int), Cond.methodLink RX5 123 yX5_next, Cond.instanceMethod yX5_next, Cond.selects RX5 yX5_next yX5_next, Cond.code yX5_next cX5_next 2 (some .int), Cond.methodLink RX5 126 yX5_kindFor, Cond.static yX5_kindFor, Cond.code yX5_kindFor cX5_kindFor 1 (some .int), Cond.methodLink RX5 29 yX5_in, Cond.static yX5_in, Cond.code yX5_in cX5_in 3 (some .boolean), Cond.methodLink RX5 135 yX5_whole, Cond.instanceMethod yX5_whole]
def wsX5_fault_r2 : List Cond := [Cond.selects RX5 yX5_whole yX5_whole, Cond.code yX5_whole cX5_whole 2 (some .int)]
def wsX5_fault : List Cond := .code yX5_fault cX5_fault 1 (some .int) :: ((wsX5_fault_r1 ++ wsX5_fault_r2) ++ wsX50)
def wsX5_read_r1 : List Cond := [Cond.fieldLink RX5 7 "LayeredChartersModel" "s" "[I", Cond.fieldLink RX5 129 "LayeredChartersModel" "told" "I", Cond.fieldLink RX5 118 "LayeredChartersModel" "length" "I", Cond.methodLink RX5 138 yX5_wrong, Cond.instanceMethod yX5_wrong, Cond.selects RX5 yX5_wrong yX5_wrong, Cond.initialized RX5, Cond.code yX5_wrong cX5_wrong 4 (some .int), Cond.fieldLink RX5 23 "LayeredChartersModel" "pad" "[I", Cond.methodLink RX5 132 yX5_right, Cond.instanceMethod yX5_right, Cond.selects RX5 yX5_right yX5_right, Cond.code yX5_right cX5_right 3 (some .int), Cond.methodLink RX5 123 yX5_next, Cond.instanceMethod yX5_next, Cond.selects RX5 yX5_next yX5_next, Cond.code yX5_next cX5_next 2 (some .int), Cond.methodLink RX5 126 yX5_kindFor, Cond.static yX5_kindFor, Cond.code yX5_kindFor cX5_kindFor 1 (some .int), Cond.methodLink RX5 29 yX5_in, Cond.static yX5_in, Cond.code yX5_in cX5_in 3 (some .boolean), Cond.methodLink RX5 135 yX5_whole]
def wsX5_read_r2 : List Cond := [Cond.instanceMethod yX5_whole, Cond.selects RX5 yX5_whole yX5_whole, Cond.code yX5_whole cX5_whole 2 (some .int), Cond.methodLink RX5 65 yX5_record, Cond.instanceMethod yX5_record, Cond.selects RX5 yX5_record yX5_record, Cond.code yX5_record cX5_record 2 none, Cond.fieldLink RX5 37 "LayeredChartersModel" "kept" "I", Cond.fieldLink RX5 13 "LayeredChartersModel" "history" "[I", Cond.methodLink RX5 68 yX5_adds, Cond.instanceMethod yX5_adds, Cond.selects RX5 yX5_adds yX5_adds, Cond.code yX5_adds cX5_adds 7 (some .int), Cond.methodLink RX5 33 yX5_at, Cond.static yX5_at, Cond.code yX5_at cX5_at 2 (some .int)]
def wsX5_read : List Cond := .code yX5_read cX5_read 6 (some .int) :: ((wsX5_read_r1 ++ wsX5_read_r2) ++ wsX50)
def wsX5_undo : List Cond := .code yX5_undo cX5_undo 2 (some .int) :: ([.fieldLink RX5 37 "LayeredChartersModel" "kept" "I", .fieldLink RX5 7 "LayeredChartersModel" "s" "[I", .fieldLink RX5 13 "LayeredChartersModel" "history" "[I"] ++ wsX50)
def wsX5_save : List Cond := .code yX5_save cX5_save 3 (some .int) :: ([.fieldLink RX5 16 "LayeredChartersModel" "slots" "[I", .fieldLink RX5 7 "LayeredChartersModel" "s" "[I", .fieldLink RX5 19 "LayeredChartersModel" "isSaved" "[Z", .methodLink RX5 29 yX5_in, .static yX5_in, .initialized RX5, .code yX5_in cX5_in 3 (some .boolean)] ++ wsX50)
def wsX5_restore : List Cond := .code yX5_restore cX5_restore 3 (some .int) :: ([.fieldLink RX5 19 "LayeredChartersModel" "isSaved" "[Z", .fieldLink RX5 7 "LayeredChartersModel" "s" "[I", .fieldLink RX5 16 "LayeredChartersModel" "slots" "[I", .methodLink RX5 29 yX5_in, .static yX5_in, .initialized RX5, .code yX5_in cX5_in 3 (some .boolean), .methodLink RX5 65 yX5_record, .instanceMethod yX5_record, .selects RX5 yX5_record yX5_record, .code yX5_record cX5_record 2 none, .fieldLink RX5 37 "LayeredChartersModel" "kept" "I", .fieldLink RX5 13 "LayeredChartersModel" "history" "[I"] ++ wsX50)
def wsJ9_max_7cf53 : List Cond := .code yJ9_max_7cf53 cJ9_max_7cf53 2 (some .int) :: ([])
def wsJ9_min_7cf53 : List Cond := .code yJ9_min_7cf53 cJ9_min_7cf53 2 (some .int) :: ([])
theorem dX0_init_0 : decode cX0_init 0 = .ok (.aload_n 0, 1) := by decide +kernel
theorem dX0_init_1 : decode cX0_init 1 = .ok (.invokespecial 3, 3) := by decide +kernel
theorem dX0_init_4 : decode cX0_init 4 = .ok (.aload_n 0, 1) := by decide +kernel
theorem dX0_init_5 : decode cX0_init 5 = .ok (.bipush 10, 2) := by decide +kernel
theorem dX0_init_7 : decode cX0_init 7 = .ok (.newarray .int, 2) := by decide +kernel
theorem dX0_init_9 : decode cX0_init 9 = .ok (.putfield 9, 3) := by decide +kernel
theorem dX0_init_12 : decode cX0_init 12 = .ok (.aload_n 0, 1) := by decide +kernel
theorem dX0_init_13 : decode cX0_init 13 = .ok (.bipush 10, 2) := by decide +kernel
theorem dX0_init_15 : decode cX0_init 15 = .ok (.newarray .int, 2) := by decide +kernel
theorem dX0_init_17 : decode cX0_init 17 = .ok (.putfield 15, 3) := by decide +kernel
theorem dX0_init_20 : decode cX0_init 20 = .ok (.aload_n 0, 1) := by decide +kernel
theorem dX0_init_21 : decode cX0_init 21 = .ok (.bipush 10, 2) := by decide +kernel
theorem dX0_init_23 : decode cX0_init 23 = .ok (.newarray .int, 2) := by decide +kernel
theorem dX0_init_25 : decode cX0_init 25 = .ok (.putfield 18, 3) := by decide +kernel
theorem dX0_init_28 : decode cX0_init 28 = .ok (.aload_n 0, 1) := by decide +kernel
theorem dX0_init_29 : decode cX0_init 29 = .ok (.bipush 10, 2) := by decide +kernel
theorem dX0_init_31 : decode cX0_init 31 = .ok (.newarray .int, 2) := by decide +kernel
theorem dX0_init_33 : decode cX0_init 33 = .ok (.putfield 21, 3) := by decide +kernel
theorem dX0_init_36 : decode cX0_init 36 = .ok (.aload_n 0, 1) := by decide +kernel
theorem dX0_init_37 : decode cX0_init 37 = .ok (.bipush 6, 2) := by decide +kernel
theorem dX0_init_39 : decode cX0_init 39 = .ok (.newarray .int, 2) := by decide +kernel
theorem dX0_init_41 : decode cX0_init 41 = .ok (.putfield 24, 3) := by decide +kernel
theorem dX0_init_44 : decode cX0_init 44 = .ok (.aload_n 0, 1) := by decide +kernel
theorem dX0_init_45 : decode cX0_init 45 = .ok (.iconst 0, 1) := by decide +kernel
theorem dX0_init_46 : decode cX0_init 46 = .ok (.putfield 27, 3) := by decide +kernel
theorem dX0_init_49 : decode cX0_init 49 = .ok (.aload_n 0, 1) := by decide +kernel
theorem dX0_init_50 : decode cX0_init 50 = .ok (.iconst 0, 1) := by decide +kernel
theorem dX0_init_51 : decode cX0_init 51 = .ok (.putfield 31, 3) := by decide +kernel
theorem dX0_init_54 : decode cX0_init 54 = .ok (.return_, 1) := by decide +kernel
set_option maxRecDepth 20000 in
theorem ggX0_copyFrom_X4_copyRow : GoodIn wsX0_copyFrom wsX4_copyRow := goodIn_r _ [10, 11, 12, 13, 14, 15, 16, 17, 18] (by decide +kernel) (by decide +kernel)
set_option maxRecDepth 20000 in
theorem gX0_copyFrom_X4_copyRow_n34 : GoodIn wsX0_copyFrom (wsX4_copyRow) := ggX0_copyFrom_X4_copyRow
theorem dX0_copyFrom_0 : decode cX0_copyFrom 0 = .ok (.aload_n 1, 1) := by decide +kernel
theorem dX0_copyFrom_1 : decode cX0_copyFrom 1 = .ok (.getfield 9, 3) := by decide +kernel
theorem dX0_copyFrom_4 : decode cX0_copyFrom 4 = .ok (.aload_n 0, 1) := by decide +kernel
theorem dX0_copyFrom_5 : decode cX0_copyFrom 5 = .ok (.getfield 9, 3) := by decide +kernel
theorem dX0_copyFrom_8 : decode cX0_copyFrom 8 = .ok (.invokestatic 34, 3) := by decide +kernel
theorem dX0_copyFrom_11 : decode cX0_copyFrom 11 = .ok (.aload_n 1, 1) := by decide +kernel
theorem dX0_copyFrom_12 : decode cX0_copyFrom 12 = .ok (.getfield 15, 3) := by decide +kernel
theorem dX0_copyFrom_15 : decode cX0_copyFrom 15 = .ok (.aload_n 0, 1) := by decide +kernel
theorem dX0_copyFrom_16 : decode cX0_copyFrom 16 = .ok (.getfield 15, 3) := by decide +kernel
theorem dX0_copyFrom_19 : decode cX0_copyFrom 19 = .ok (.invokestatic 34, 3) := by decide +kernel
theorem dX0_copyFrom_22 : decode cX0_copyFrom 22 = .ok (.aload_n 1, 1) := by decide +kernel
theorem dX0_copyFrom_23 : decode cX0_copyFrom 23 = .ok (.getfield 18, 3) := by decide +kernel
theorem dX0_copyFrom_26 : decode cX0_copyFrom 26 = .ok (.aload_n 0, 1) := by decide +kernel
theorem dX0_copyFrom_27 : decode cX0_copyFrom 27 = .ok (.getfield 18, 3) := by decide +kernel
theorem dX0_copyFrom_30 : decode cX0_copyFrom 30 = .ok (.invokestatic 34, 3) := by decide +kernel
theorem dX0_copyFrom_33 : decode cX0_copyFrom 33 = .ok (.aload_n 1, 1) := by decide +kernel
theorem dX0_copyFrom_34 : decode cX0_copyFrom 34 = .ok (.getfield 21, 3) := by decide +kernel
theorem dX0_copyFrom_37 : decode cX0_copyFrom 37 = .ok (.aload_n 0, 1) := by decide +kernel
theorem dX0_copyFrom_38 : decode cX0_copyFrom 38 = .ok (.getfield 21, 3) := by decide +kernel
theorem dX0_copyFrom_41 : decode cX0_copyFrom 41 = .ok (.invokestatic 34, 3) := by decide +kernel
theorem dX0_copyFrom_44 : decode cX0_copyFrom 44 = .ok (.aload_n 1, 1) := by decide +kernel
theorem dX0_copyFrom_45 : decode cX0_copyFrom 45 = .ok (.getfield 24, 3) := by decide +kernel
theorem dX0_copyFrom_48 : decode cX0_copyFrom 48 = .ok (.aload_n 0, 1) := by decide +kernel
theorem dX0_copyFrom_49 : decode cX0_copyFrom 49 = .ok (.getfield 24, 3) := by decide +kernel
theorem dX0_copyFrom_52 : decode cX0_copyFrom 52 = .ok (.invokestatic 34, 3) := by decide +kernel
theorem dX0_copyFrom_55 : decode cX0_copyFrom 55 = .ok (.aload_n 0, 1) := by decide +kernel
theorem dX0_copyFrom_56 : decode cX0_copyFrom 56 = .ok (.aload_n 1, 1) := by decide +kernel
theorem dX0_copyFrom_57 : decode cX0_copyFrom 57 = .ok (.getfield 27, 3) := by decide +kernel
theorem dX0_copyFrom_60 : decode cX0_copyFrom 60 = .ok (.putfield 27, 3) := by decide +kernel
theorem dX0_copyFrom_63 : decode cX0_copyFrom 63 = .ok (.aload_n 0, 1) := by decide +kernel
theorem dX0_copyFrom_64 : decode cX0_copyFrom 64 = .ok (.aload_n 1, 1) := by decide +kernel
theorem dX0_copyFrom_65 : decode cX0_copyFrom 65 = .ok (.getfield 31, 3) := by decide +kernel
theorem dX0_copyFrom_68 : decode cX0_copyFrom 68 = .ok (.putfield 31, 3) := by decide +kernel
theorem dX0_copyFrom_71 : decode cX0_copyFrom 71 = .ok (.return_, 1) := by decide +kernel
theorem dX0_has_0 : decode cX0_has 0 = .ok (.iload_n 1, 1) := by decide +kernel
theorem dX0_has_1 : decode cX0_has 1 = .ok (.ifCond .lt 15, 3) := by decide +kernel
theorem dX0_has_4 : decode cX0_has 4 = .ok (.iload_n 1, 1) := by decide +kernel
theorem dX0_has_5 : decode cX0_has 5 = .ok (.aload_n 0, 1) := by decide +kernel
theorem dX0_has_6 : decode cX0_has 6 = .ok (.getfield 27, 3) := by decide +kernel
theorem dX0_has_9 : decode cX0_has 9 = .ok (.if_icmp .ge 7, 3) := by decide +kernel
theorem dX0_has_12 : decode cX0_has 12 = .ok (.iconst 1, 1) := by decide +kernel
theorem dX0_has_13 : decode cX0_has 13 = .ok (.goto 4, 3) := by decide +kernel
theorem dX0_has_16 : decode cX0_has 16 = .ok (.iconst 0, 1) := by decide +kernel
theorem dX0_has_17 : decode cX0_has 17 = .ok (.ireturn, 1) := by decide +kernel
theorem dX0_append_0 : decode cX0_append 0 = .ok (.aload_n 0, 1) := by decide +kernel
theorem dX0_append_1 : decode cX0_append 1 = .ok (.getfield 27, 3) := by decide +kernel
theorem dX0_append_4 : decode cX0_append 4 = .ok (.bipush 10, 2) := by decide +kernel
theorem dX0_append_6 : decode cX0_append 6 = .ok (.if_icmp .lt 4, 3) := by decide +kernel
theorem dX0_append_9 : decode cX0_append 9 = .ok (.return_, 1) := by decide +kernel
theorem dX0_append_10 : decode cX0_append 10 = .ok (.aload_n 0, 1) := by decide +kernel
theorem dX0_append_11 : decode cX0_append 11 = .ok (.getfield 9, 3) := by decide +kernel
theorem dX0_append_14 : decode cX0_append 14 = .ok (.aload_n 0, 1) := by decide +kernel
theorem dX0_append_15 : decode cX0_append 15 = .ok (.getfield 27, 3) := by decide +kernel
theorem dX0_append_18 : decode cX0_append 18 = .ok (.iload_n 1, 1) := by decide +kernel
theorem dX0_append_19 : decode cX0_append 19 = .ok (.iastore, 1) := by decide +kernel
theorem dX0_append_20 : decode cX0_append 20 = .ok (.aload_n 0, 1) := by decide +kernel
theorem dX0_append_21 : decode cX0_append 21 = .ok (.getfield 15, 3) := by decide +kernel
theorem dX0_append_24 : decode cX0_append 24 = .ok (.aload_n 0, 1) := by decide +kernel
theorem dX0_append_25 : decode cX0_append 25 = .ok (.getfield 27, 3) := by decide +kernel
theorem dX0_append_28 : decode cX0_append 28 = .ok (.iload_n 2, 1) := by decide +kernel
theorem dX0_append_29 : decode cX0_append 29 = .ok (.iastore, 1) := by decide +kernel
theorem dX0_append_30 : decode cX0_append 30 = .ok (.aload_n 0, 1) := by decide +kernel
theorem dX0_append_31 : decode cX0_append 31 = .ok (.getfield 18, 3) := by decide +kernel
theorem dX0_append_34 : decode cX0_append 34 = .ok (.aload_n 0, 1) := by decide +kernel
theorem dX0_append_35 : decode cX0_append 35 = .ok (.getfield 27, 3) := by decide +kernel
theorem dX0_append_38 : decode cX0_append 38 = .ok (.iconst 0, 1) := by decide +kernel
theorem dX0_append_39 : decode cX0_append 39 = .ok (.iastore, 1) := by decide +kernel
theorem dX0_append_40 : decode cX0_append 40 = .ok (.aload_n 0, 1) := by decide +kernel
theorem dX0_append_41 : decode cX0_append 41 = .ok (.getfield 21, 3) := by decide +kernel
theorem dX0_append_44 : decode cX0_append 44 = .ok (.aload_n 0, 1) := by decide +kernel
theorem dX0_append_45 : decode cX0_append 45 = .ok (.getfield 27, 3) := by decide +kernel
theorem dX0_append_48 : decode cX0_append 48 = .ok (.iconst 0, 1) := by decide +kernel
theorem dX0_append_49 : decode cX0_append 49 = .ok (.iastore, 1) := by decide +kernel
theorem dX0_append_50 : decode cX0_append 50 = .ok (.aload_n 0, 1) := by decide +kernel
theorem dX0_append_51 : decode cX0_append 51 = .ok (.dup, 1) := by decide +kernel
theorem dX0_append_52 : decode cX0_append 52 = .ok (.getfield 27, 3) := by decide +kernel
theorem dX0_append_55 : decode cX0_append 55 = .ok (.iconst 1, 1) := by decide +kernel
theorem dX0_append_56 : decode cX0_append 56 = .ok (.iadd, 1) := by decide +kernel
theorem dX0_append_57 : decode cX0_append 57 = .ok (.putfield 27, 3) := by decide +kernel
theorem dX0_append_60 : decode cX0_append 60 = .ok (.return_, 1) := by decide +kernel
set_option maxRecDepth 20000 in
theorem ggX0_remove_X0_has : GoodIn wsX0_remove wsX0_has := goodIn_r _ [10, 5, 18, 19, 20, 21, 22, 23, 24] (by decide +kernel) (by decide +kernel)
set_option maxRecDepth 20000 in
theorem gX0_remove_X0_has : GoodIn wsX0_remove (wsV RX0 38 RX0 yX0_has wsX0_has) := goodIn_app (goodIn_of _ (by decide +kernel)) ggX0_remove_X0_has
set_option maxRecDepth 20000 in
theorem ggX0_remove_X4_closeGap : GoodIn wsX0_remove wsX4_closeGap := goodIn_r _ [13, 14, 15, 16, 17] (by decide +kernel) (by decide +kernel)
set_option maxRecDepth 20000 in
theorem gX0_remove_X4_closeGap_n42 : GoodIn wsX0_remove (wsX4_closeGap) := ggX0_remove_X4_closeGap
theorem dX0_remove_0 : decode cX0_remove 0 = .ok (.aload_n 0, 1) := by decide +kernel
theorem dX0_remove_1 : decode cX0_remove 1 = .ok (.iload_n 1, 1) := by decide +kernel
theorem dX0_remove_2 : decode cX0_remove 2 = .ok (.invokevirtual 38, 3) := by decide +kernel
theorem dX0_remove_5 : decode cX0_remove 5 = .ok (.ifCond .ne 4, 3) := by decide +kernel
theorem dX0_remove_8 : decode cX0_remove 8 = .ok (.return_, 1) := by decide +kernel
theorem dX0_remove_9 : decode cX0_remove 9 = .ok (.aload_n 0, 1) := by decide +kernel
theorem dX0_remove_10 : decode cX0_remove 10 = .ok (.getfield 9, 3) := by decide +kernel
theorem dX0_remove_13 : decode cX0_remove 13 = .ok (.iload_n 1, 1) := by decide +kernel
theorem dX0_remove_14 : decode cX0_remove 14 = .ok (.invokestatic 42, 3) := by decide +kernel
theorem dX0_remove_17 : decode cX0_remove 17 = .ok (.aload_n 0, 1) := by decide +kernel
theorem dX0_remove_18 : decode cX0_remove 18 = .ok (.getfield 15, 3) := by decide +kernel
theorem dX0_remove_21 : decode cX0_remove 21 = .ok (.iload_n 1, 1) := by decide +kernel
theorem dX0_remove_22 : decode cX0_remove 22 = .ok (.invokestatic 42, 3) := by decide +kernel
theorem dX0_remove_25 : decode cX0_remove 25 = .ok (.aload_n 0, 1) := by decide +kernel
theorem dX0_remove_26 : decode cX0_remove 26 = .ok (.getfield 18, 3) := by decide +kernel
theorem dX0_remove_29 : decode cX0_remove 29 = .ok (.iload_n 1, 1) := by decide +kernel
theorem dX0_remove_30 : decode cX0_remove 30 = .ok (.invokestatic 42, 3) := by decide +kernel
theorem dX0_remove_33 : decode cX0_remove 33 = .ok (.aload_n 0, 1) := by decide +kernel
theorem dX0_remove_34 : decode cX0_remove 34 = .ok (.getfield 21, 3) := by decide +kernel
theorem dX0_remove_37 : decode cX0_remove 37 = .ok (.iload_n 1, 1) := by decide +kernel
theorem dX0_remove_38 : decode cX0_remove 38 = .ok (.invokestatic 42, 3) := by decide +kernel
theorem dX0_remove_41 : decode cX0_remove 41 = .ok (.aload_n 0, 1) := by decide +kernel
theorem dX0_remove_42 : decode cX0_remove 42 = .ok (.dup, 1) := by decide +kernel
theorem dX0_remove_43 : decode cX0_remove 43 = .ok (.getfield 27, 3) := by decide +kernel
theorem dX0_remove_46 : decode cX0_remove 46 = .ok (.iconst 1, 1) := by decide +kernel
theorem dX0_remove_47 : decode cX0_remove 47 = .ok (.isub, 1) := by decide +kernel
theorem dX0_remove_48 : decode cX0_remove 48 = .ok (.putfield 27, 3) := by decide +kernel
theorem dX0_remove_51 : decode cX0_remove 51 = .ok (.return_, 1) := by decide +kernel
set_option maxRecDepth 20000 in
theorem ggX0_noteDone_X0_has : GoodIn wsX0_noteDone wsX0_has := goodIn_r _ [7, 8, 9, 10, 11, 12, 13, 14, 15] (by decide +kernel) (by decide +kernel)
set_option maxRecDepth 20000 in
theorem gX0_noteDone_X0_has : GoodIn wsX0_noteDone (wsV RX0 38 RX0 yX0_has wsX0_has) := goodIn_app (goodIn_of _ (by decide +kernel)) ggX0_noteDone_X0_has
theorem dX0_noteDone_0 : decode cX0_noteDone 0 = .ok (.aload_n 0, 1) := by decide +kernel
theorem dX0_noteDone_1 : decode cX0_noteDone 1 = .ok (.iload_n 1, 1) := by decide +kernel
theorem dX0_noteDone_2 : decode cX0_noteDone 2 = .ok (.invokevirtual 38, 3) := by decide +kernel
theorem dX0_noteDone_5 : decode cX0_noteDone 5 = .ok (.ifCond .ne 4, 3) := by decide +kernel
theorem dX0_noteDone_8 : decode cX0_noteDone 8 = .ok (.return_, 1) := by decide +kernel
theorem dX0_noteDone_9 : decode cX0_noteDone 9 = .ok (.aload_n 0, 1) := by decide +kernel
theorem dX0_noteDone_10 : decode cX0_noteDone 10 = .ok (.getfield 18, 3) := by decide +kernel
theorem dX0_noteDone_13 : decode cX0_noteDone 13 = .ok (.iload_n 1, 1) := by decide +kernel
theorem dX0_noteDone_14 : decode cX0_noteDone 14 = .ok (.dup2, 1) := by decide +kernel
theorem dX0_noteDone_15 : decode cX0_noteDone 15 = .ok (.iaload, 1) := by decide +kernel
theorem dX0_noteDone_16 : decode cX0_noteDone 16 = .ok (.iconst 1, 1) := by decide +kernel
theorem dX0_noteDone_17 : decode cX0_noteDone 17 = .ok (.iadd, 1) := by decide +kernel
theorem dX0_noteDone_18 : decode cX0_noteDone 18 = .ok (.iastore, 1) := by decide +kernel
theorem dX0_noteDone_19 : decode cX0_noteDone 19 = .ok (.aload_n 0, 1) := by decide +kernel
theorem dX0_noteDone_20 : decode cX0_noteDone 20 = .ok (.dup, 1) := by decide +kernel
theorem dX0_noteDone_21 : decode cX0_noteDone 21 = .ok (.getfield 31, 3) := by decide +kernel
theorem dX0_noteDone_24 : decode cX0_noteDone 24 = .ok (.iconst 1, 1) := by decide +kernel
theorem dX0_noteDone_25 : decode cX0_noteDone 25 = .ok (.iadd, 1) := by decide +kernel
theorem dX0_noteDone_26 : decode cX0_noteDone 26 = .ok (.putfield 31, 3) := by decide +kernel
theorem dX0_noteDone_29 : decode cX0_noteDone 29 = .ok (.return_, 1) := by decide +kernel
set_option maxRecDepth 20000 in
theorem ggX0_noteRefusal_X0_has : GoodIn wsX0_noteRefusal wsX0_has := goodIn_r _ [7, 8, 12, 13, 14, 15, 16, 17, 18] (by decide +kernel) (by decide +kernel)
set_option maxRecDepth 20000 in
theorem gX0_noteRefusal_X0_has : GoodIn wsX0_noteRefusal (wsV RX0 38 RX0 yX0_has wsX0_has) := goodIn_app (goodIn_of _ (by decide +kernel)) ggX0_noteRefusal_X0_has
set_option maxRecDepth 20000 in
theorem ggX0_noteRefusal_X4_isBetween : GoodIn wsX0_noteRefusal wsX4_isBetween := goodIn_r _ [11] (by decide +kernel) (by decide +kernel)
set_option maxRecDepth 20000 in
theorem gX0_noteRefusal_X4_isBetween_n46 : GoodIn wsX0_noteRefusal (wsX4_isBetween) := ggX0_noteRefusal_X4_isBetween
theorem dX0_noteRefusal_0 : decode cX0_noteRefusal 0 = .ok (.aload_n 0, 1) := by decide +kernel
theorem dX0_noteRefusal_1 : decode cX0_noteRefusal 1 = .ok (.iload_n 1, 1) := by decide +kernel
theorem dX0_noteRefusal_2 : decode cX0_noteRefusal 2 = .ok (.invokevirtual 38, 3) := by decide +kernel
theorem dX0_noteRefusal_5 : decode cX0_noteRefusal 5 = .ok (.ifCond .eq 12, 3) := by decide +kernel
theorem dX0_noteRefusal_8 : decode cX0_noteRefusal 8 = .ok (.iload_n 2, 1) := by decide +kernel
theorem dX0_noteRefusal_9 : decode cX0_noteRefusal 9 = .ok (.iconst 0, 1) := by decide +kernel
theorem dX0_noteRefusal_10 : decode cX0_noteRefusal 10 = .ok (.iconst 5, 1) := by decide +kernel
theorem dX0_noteRefusal_11 : decode cX0_noteRefusal 11 = .ok (.invokestatic 46, 3) := by decide +kernel
theorem dX0_noteRefusal_14 : decode cX0_noteRefusal 14 = .ok (.ifCond .ne 4, 3) := by decide +kernel
theorem dX0_noteRefusal_17 : decode cX0_noteRefusal 17 = .ok (.return_, 1) := by decide +kernel
theorem dX0_noteRefusal_18 : decode cX0_noteRefusal 18 = .ok (.aload_n 0, 1) := by decide +kernel
theorem dX0_noteRefusal_19 : decode cX0_noteRefusal 19 = .ok (.getfield 21, 3) := by decide +kernel
theorem dX0_noteRefusal_22 : decode cX0_noteRefusal 22 = .ok (.iload_n 1, 1) := by decide +kernel
theorem dX0_noteRefusal_23 : decode cX0_noteRefusal 23 = .ok (.dup2, 1) := by decide +kernel
theorem dX0_noteRefusal_24 : decode cX0_noteRefusal 24 = .ok (.iaload, 1) := by decide +kernel
theorem dX0_noteRefusal_25 : decode cX0_noteRefusal 25 = .ok (.iconst 1, 1) := by decide +kernel
theorem dX0_noteRefusal_26 : decode cX0_noteRefusal 26 = .ok (.iadd, 1) := by decide +kernel
theorem dX0_noteRefusal_27 : decode cX0_noteRefusal 27 = .ok (.iastore, 1) := by decide +kernel
theorem dX0_noteRefusal_28 : decode cX0_noteRefusal 28 = .ok (.aload_n 0, 1) := by decide +kernel
theorem dX0_noteRefusal_29 : decode cX0_noteRefusal 29 = .ok (.getfield 24, 3) := by decide +kernel
theorem dX0_noteRefusal_32 : decode cX0_noteRefusal 32 = .ok (.iload_n 2, 1) := by decide +kernel
theorem dX0_noteRefusal_33 : decode cX0_noteRefusal 33 = .ok (.dup2, 1) := by decide +kernel
theorem dX0_noteRefusal_34 : decode cX0_noteRefusal 34 = .ok (.iaload, 1) := by decide +kernel
theorem dX0_noteRefusal_35 : decode cX0_noteRefusal 35 = .ok (.iconst 1, 1) := by decide +kernel
theorem dX0_noteRefusal_36 : decode cX0_noteRefusal 36 = .ok (.iadd, 1) := by decide +kernel
theorem dX0_noteRefusal_37 : decode cX0_noteRefusal 37 = .ok (.iastore, 1) := by decide +kernel
theorem dX0_noteRefusal_38 : decode cX0_noteRefusal 38 = .ok (.return_, 1) := by decide +kernel
set_option maxRecDepth 20000 in
theorem ggX0_refusalsOf_X4_isBetween : GoodIn wsX0_refusalsOf wsX4_isBetween := goodIn_r _ [4] (by decide +kernel) (by decide +kernel)
set_option maxRecDepth 20000 in
theorem gX0_refusalsOf_X4_isBetween_n46 : GoodIn wsX0_refusalsOf (wsX4_isBetween) := ggX0_refusalsOf_X4_isBetween
theorem dX0_refusalsOf_0 : decode cX0_refusalsOf 0 = .ok (.iload_n 1, 1) := by decide +kernel
theorem dX0_refusalsOf_1 : decode cX0_refusalsOf 1 = .ok (.iconst 0, 1) := by decide +kernel
theorem dX0_refusalsOf_2 : decode cX0_refusalsOf 2 = .ok (.iconst 5, 1) := by decide +kernel
theorem dX0_refusalsOf_3 : decode cX0_refusalsOf 3 = .ok (.invokestatic 46, 3) := by decide +kernel
theorem dX0_refusalsOf_6 : decode cX0_refusalsOf 6 = .ok (.ifCond .eq 12, 3) := by decide +kernel
theorem dX0_refusalsOf_9 : decode cX0_refusalsOf 9 = .ok (.aload_n 0, 1) := by decide +kernel
theorem dX0_refusalsOf_10 : decode cX0_refusalsOf 10 = .ok (.getfield 24, 3) := by decide +kernel
theorem dX0_refusalsOf_13 : decode cX0_refusalsOf 13 = .ok (.iload_n 1, 1) := by decide +kernel
theorem dX0_refusalsOf_14 : decode cX0_refusalsOf 14 = .ok (.iaload, 1) := by decide +kernel
theorem dX0_refusalsOf_15 : decode cX0_refusalsOf 15 = .ok (.goto 4, 3) := by decide +kernel
theorem dX0_refusalsOf_18 : decode cX0_refusalsOf 18 = .ok (.iconst 0, 1) := by decide +kernel
theorem dX0_refusalsOf_19 : decode cX0_refusalsOf 19 = .ok (.ireturn, 1) := by decide +kernel
theorem dX1_init_0 : decode cX1_init 0 = .ok (.aload_n 0, 1) := by decide +kernel
theorem dX1_init_1 : decode cX1_init 1 = .ok (.invokespecial 3, 3) := by decide +kernel
theorem dX1_init_4 : decode cX1_init 4 = .ok (.aload_n 0, 1) := by decide +kernel
theorem dX1_init_5 : decode cX1_init 5 = .ok (.bipush 60, 2) := by decide +kernel
theorem dX1_init_7 : decode cX1_init 7 = .ok (.newarray .char, 2) := by decide +kernel
theorem dX1_init_9 : decode cX1_init 9 = .ok (.putfield 9, 3) := by decide +kernel
theorem dX1_init_12 : decode cX1_init 12 = .ok (.aload_n 0, 1) := by decide +kernel
theorem dX1_init_13 : decode cX1_init 13 = .ok (.iconst 0, 1) := by decide +kernel
theorem dX1_init_14 : decode cX1_init 14 = .ok (.putfield 15, 3) := by decide +kernel
theorem dX1_init_17 : decode cX1_init 17 = .ok (.return_, 1) := by decide +kernel
set_option maxRecDepth 20000 in
theorem ggX1_signsIn_X4_isBetween : GoodIn wsX1_signsIn wsX4_isBetween := goodIn_r _ [4] (by decide +kernel) (by decide +kernel)
set_option maxRecDepth 20000 in
theorem gX1_signsIn_X4_isBetween_n21 : GoodIn wsX1_signsIn (wsX4_isBetween) := ggX1_signsIn_X4_isBetween
theorem dX1_signsIn_0 : decode cX1_signsIn 0 = .ok (.lload_n 0, 1) := by decide +kernel
theorem dX1_signsIn_1 : decode cX1_signsIn 1 = .ok (.lstore_n 2, 1) := by decide +kernel
theorem dX1_signsIn_2 : decode cX1_signsIn 2 = .ok (.iconst 0, 1) := by decide +kernel
theorem dX1_signsIn_3 : decode cX1_signsIn 3 = .ok (.istore 4, 2) := by decide +kernel
theorem dX1_signsIn_5 : decode cX1_signsIn 5 = .ok (.iload 4, 2) := by decide +kernel
theorem dX1_signsIn_7 : decode cX1_signsIn 7 = .ok (.bipush 8, 2) := by decide +kernel
theorem dX1_signsIn_9 : decode cX1_signsIn 9 = .ok (.if_icmp .ge 41, 3) := by decide +kernel
theorem dX1_signsIn_12 : decode cX1_signsIn 12 = .ok (.lload_n 2, 1) := by decide +kernel
theorem dX1_signsIn_13 : decode cX1_signsIn 13 = .ok (.lconst 0, 1) := by decide +kernel
theorem dX1_signsIn_14 : decode cX1_signsIn 14 = .ok (.lcmp, 1) := by decide +kernel
theorem dX1_signsIn_15 : decode cX1_signsIn 15 = .ok (.ifCond .ne 6, 3) := by decide +kernel
theorem dX1_signsIn_18 : decode cX1_signsIn 18 = .ok (.iload 4, 2) := by decide +kernel
theorem dX1_signsIn_20 : decode cX1_signsIn 20 = .ok (.ireturn, 1) := by decide +kernel
theorem dX1_signsIn_21 : decode cX1_signsIn 21 = .ok (.lload_n 2, 1) := by decide +kernel
theorem dX1_signsIn_22 : decode cX1_signsIn 22 = .ok (.ldc2_w 19, 3) := by decide +kernel
theorem dX1_signsIn_25 : decode cX1_signsIn 25 = .ok (.land, 1) := by decide +kernel
theorem dX1_signsIn_26 : decode cX1_signsIn 26 = .ok (.l2i, 1) := by decide +kernel
theorem dX1_signsIn_27 : decode cX1_signsIn 27 = .ok (.bipush 33, 2) := by decide +kernel
theorem dX1_signsIn_29 : decode cX1_signsIn 29 = .ok (.bipush 126, 2) := by decide +kernel
theorem dX1_signsIn_31 : decode cX1_signsIn 31 = .ok (.invokestatic 21, 3) := by decide +kernel
theorem dX1_signsIn_34 : decode cX1_signsIn 34 = .ok (.ifCond .ne 5, 3) := by decide +kernel
theorem dX1_signsIn_37 : decode cX1_signsIn 37 = .ok (.iconst 0, 1) := by decide +kernel
theorem dX1_signsIn_38 : decode cX1_signsIn 38 = .ok (.ireturn, 1) := by decide +kernel
theorem dX1_signsIn_39 : decode cX1_signsIn 39 = .ok (.lload_n 2, 1) := by decide +kernel
theorem dX1_signsIn_40 : decode cX1_signsIn 40 = .ok (.bipush 8, 2) := by decide +kernel
theorem dX1_signsIn_42 : decode cX1_signsIn 42 = .ok (.lushr, 1) := by decide +kernel
theorem dX1_signsIn_43 : decode cX1_signsIn 43 = .ok (.lstore_n 2, 1) := by decide +kernel
theorem dX1_signsIn_44 : decode cX1_signsIn 44 = .ok (.iinc 4 1, 3) := by decide +kernel
theorem dX1_signsIn_47 : decode cX1_signsIn 47 = .ok (.goto (-42), 3) := by decide +kernel
theorem dX1_signsIn_50 : decode cX1_signsIn 50 = .ok (.bipush 8, 2) := by decide +kernel
theorem dX1_signsIn_52 : decode cX1_signsIn 52 = .ok (.ireturn, 1) := by decide +kernel
theorem dX1_append_0 : decode cX1_append 0 = .ok (.iload_n 3, 1) := by decide +kernel
theorem dX1_append_1 : decode cX1_append 1 = .ok (.iconst 1, 1) := by decide +kernel
theorem dX1_append_2 : decode cX1_append 2 = .ok (.isub, 1) := by decide +kernel
theorem dX1_append_3 : decode cX1_append 3 = .ok (.istore 4, 2) := by decide +kernel
theorem dX1_append_5 : decode cX1_append 5 = .ok (.iload 4, 2) := by decide +kernel
theorem dX1_append_7 : decode cX1_append 7 = .ok (.ifCond .lt 50, 3) := by decide +kernel
theorem dX1_append_10 : decode cX1_append 10 = .ok (.aload_n 0, 1) := by decide +kernel
theorem dX1_append_11 : decode cX1_append 11 = .ok (.getfield 15, 3) := by decide +kernel
theorem dX1_append_14 : decode cX1_append 14 = .ok (.bipush 60, 2) := by decide +kernel
theorem dX1_append_16 : decode cX1_append 16 = .ok (.if_icmp .ge 41, 3) := by decide +kernel
theorem dX1_append_19 : decode cX1_append 19 = .ok (.aload_n 0, 1) := by decide +kernel
theorem dX1_append_20 : decode cX1_append 20 = .ok (.getfield 9, 3) := by decide +kernel
theorem dX1_append_23 : decode cX1_append 23 = .ok (.aload_n 0, 1) := by decide +kernel
theorem dX1_append_24 : decode cX1_append 24 = .ok (.getfield 15, 3) := by decide +kernel
theorem dX1_append_27 : decode cX1_append 27 = .ok (.lload_n 1, 1) := by decide +kernel
theorem dX1_append_28 : decode cX1_append 28 = .ok (.iload 4, 2) := by decide +kernel
theorem dX1_append_30 : decode cX1_append 30 = .ok (.bipush 8, 2) := by decide +kernel
theorem dX1_append_32 : decode cX1_append 32 = .ok (.imul, 1) := by decide +kernel
theorem dX1_append_33 : decode cX1_append 33 = .ok (.lushr, 1) := by decide +kernel
theorem dX1_append_34 : decode cX1_append 34 = .ok (.ldc2_w 19, 3) := by decide +kernel
theorem dX1_append_37 : decode cX1_append 37 = .ok (.land, 1) := by decide +kernel
theorem dX1_append_38 : decode cX1_append 38 = .ok (.l2i, 1) := by decide +kernel
theorem dX1_append_39 : decode cX1_append 39 = .ok (.i2c, 1) := by decide +kernel
theorem dX1_append_40 : decode cX1_append 40 = .ok (.castore, 1) := by decide +kernel
theorem dX1_append_41 : decode cX1_append 41 = .ok (.aload_n 0, 1) := by decide +kernel
theorem dX1_append_42 : decode cX1_append 42 = .ok (.dup, 1) := by decide +kernel
theorem dX1_append_43 : decode cX1_append 43 = .ok (.getfield 15, 3) := by decide +kernel
theorem dX1_append_46 : decode cX1_append 46 = .ok (.iconst 1, 1) := by decide +kernel
theorem dX1_append_47 : decode cX1_append 47 = .ok (.iadd, 1) := by decide +kernel
theorem dX1_append_48 : decode cX1_append 48 = .ok (.putfield 15, 3) := by decide +kernel
theorem dX1_append_51 : decode cX1_append 51 = .ok (.iinc 4 (-1), 3) := by decide +kernel
theorem dX1_append_54 : decode cX1_append 54 = .ok (.goto (-49), 3) := by decide +kernel
theorem dX1_append_57 : decode cX1_append 57 = .ok (.return_, 1) := by decide +kernel
theorem dX1_clear_0 : decode cX1_clear 0 = .ok (.aload_n 0, 1) := by decide +kernel
theorem dX1_clear_1 : decode cX1_clear 1 = .ok (.iconst 0, 1) := by decide +kernel
theorem dX1_clear_2 : decode cX1_clear 2 = .ok (.putfield 15, 3) := by decide +kernel
theorem dX1_clear_5 : decode cX1_clear 5 = .ok (.return_, 1) := by decide +kernel
set_option maxRecDepth 20000 in
theorem ggX1_firstFault_X1_canStand : GoodIn wsX1_firstFault wsX1_canStand := goodIn_r _ [6, 7, 8, 9, 5, 10, 1, 11, 12, 13, 14, 19, 20] (by decide +kernel) (by decide +kernel)
set_option maxRecDepth 20000 in
theorem gX1_firstFault_X1_canStand : GoodIn wsX1_firstFault (wsV RX1 25 RX1 yX1_canStand wsX1_canStand) := goodIn_app (goodIn_of _ (by decide +kernel)) ggX1_firstFault_X1_canStand
set_option maxRecDepth 20000 in
theorem ggX1_firstFault_X1_placeAfter : GoodIn wsX1_firstFault wsX1_placeAfter := goodIn_r _ [18, 7, 8, 9, 5, 10, 1, 11, 19, 20] (by decide +kernel) (by decide +kernel)
set_option maxRecDepth 20000 in
theorem gX1_firstFault_X1_placeAfter : GoodIn wsX1_firstFault (wsV RX1 29 RX1 yX1_placeAfter wsX1_placeAfter) := goodIn_app (goodIn_of _ (by decide +kernel)) ggX1_firstFault_X1_placeAfter
theorem dX1_firstFault_0 : decode cX1_firstFault 0 = .ok (.iconst 0, 1) := by decide +kernel
theorem dX1_firstFault_1 : decode cX1_firstFault 1 = .ok (.istore_n 1, 1) := by decide +kernel
theorem dX1_firstFault_2 : decode cX1_firstFault 2 = .ok (.iconst 0, 1) := by decide +kernel
theorem dX1_firstFault_3 : decode cX1_firstFault 3 = .ok (.istore_n 2, 1) := by decide +kernel
theorem dX1_firstFault_4 : decode cX1_firstFault 4 = .ok (.iload_n 2, 1) := by decide +kernel
theorem dX1_firstFault_5 : decode cX1_firstFault 5 = .ok (.aload_n 0, 1) := by decide +kernel
theorem dX1_firstFault_6 : decode cX1_firstFault 6 = .ok (.getfield 15, 3) := by decide +kernel
theorem dX1_firstFault_9 : decode cX1_firstFault 9 = .ok (.if_icmp .ge 27, 3) := by decide +kernel
theorem dX1_firstFault_12 : decode cX1_firstFault 12 = .ok (.aload_n 0, 1) := by decide +kernel
theorem dX1_firstFault_13 : decode cX1_firstFault 13 = .ok (.iload_n 1, 1) := by decide +kernel
theorem dX1_firstFault_14 : decode cX1_firstFault 14 = .ok (.iload_n 2, 1) := by decide +kernel
theorem dX1_firstFault_15 : decode cX1_firstFault 15 = .ok (.invokevirtual 25, 3) := by decide +kernel
theorem dX1_firstFault_18 : decode cX1_firstFault 18 = .ok (.ifCond .ne 5, 3) := by decide +kernel
theorem dX1_firstFault_21 : decode cX1_firstFault 21 = .ok (.iload_n 2, 1) := by decide +kernel
theorem dX1_firstFault_22 : decode cX1_firstFault 22 = .ok (.ireturn, 1) := by decide +kernel
theorem dX1_firstFault_23 : decode cX1_firstFault 23 = .ok (.aload_n 0, 1) := by decide +kernel
theorem dX1_firstFault_24 : decode cX1_firstFault 24 = .ok (.iload_n 1, 1) := by decide +kernel
theorem dX1_firstFault_25 : decode cX1_firstFault 25 = .ok (.iload_n 2, 1) := by decide +kernel
theorem dX1_firstFault_26 : decode cX1_firstFault 26 = .ok (.invokevirtual 29, 3) := by decide +kernel
theorem dX1_firstFault_29 : decode cX1_firstFault 29 = .ok (.istore_n 1, 1) := by decide +kernel
theorem dX1_firstFault_30 : decode cX1_firstFault 30 = .ok (.iinc 2 1, 3) := by decide +kernel
theorem dX1_firstFault_33 : decode cX1_firstFault 33 = .ok (.goto (-29), 3) := by decide +kernel
theorem dX1_firstFault_36 : decode cX1_firstFault 36 = .ok (.iload_n 1, 1) := by decide +kernel
theorem dX1_firstFault_37 : decode cX1_firstFault 37 = .ok (.iconst 5, 1) := by decide +kernel
theorem dX1_firstFault_38 : decode cX1_firstFault 38 = .ok (.if_icmp .ne 8, 3) := by decide +kernel
theorem dX1_firstFault_41 : decode cX1_firstFault 41 = .ok (.bipush (-6), 2) := by decide +kernel
theorem dX1_firstFault_43 : decode cX1_firstFault 43 = .ok (.goto 7, 3) := by decide +kernel
theorem dX1_firstFault_46 : decode cX1_firstFault 46 = .ok (.aload_n 0, 1) := by decide +kernel
theorem dX1_firstFault_47 : decode cX1_firstFault 47 = .ok (.getfield 15, 3) := by decide +kernel
theorem dX1_firstFault_50 : decode cX1_firstFault 50 = .ok (.ireturn, 1) := by decide +kernel
set_option maxRecDepth 20000 in
theorem ggX1_canStand_X1_signAt : GoodIn wsX1_canStand wsX1_signAt := goodIn_r _ [5, 6, 7, 11, 12] (by decide +kernel) (by decide +kernel)
set_option maxRecDepth 20000 in
theorem gX1_canStand_X1_signAt : GoodIn wsX1_canStand (wsV RX1 33 RX1 yX1_signAt wsX1_signAt) := goodIn_app (goodIn_of _ (by decide +kernel)) ggX1_canStand_X1_signAt
set_option maxRecDepth 20000 in
theorem ggX1_canStand_X4_isBetween : GoodIn wsX1_canStand wsX4_isBetween := goodIn_r _ [10] (by decide +kernel) (by decide +kernel)
set_option maxRecDepth 20000 in
theorem gX1_canStand_X4_isBetween_n21 : GoodIn wsX1_canStand (wsX4_isBetween) := ggX1_canStand_X4_isBetween
theorem dX1_canStand_0 : decode cX1_canStand 0 = .ok (.aload_n 0, 1) := by decide +kernel
theorem dX1_canStand_1 : decode cX1_canStand 1 = .ok (.iload_n 2, 1) := by decide +kernel
theorem dX1_canStand_2 : decode cX1_canStand 2 = .ok (.invokevirtual 33, 3) := by decide +kernel
theorem dX1_canStand_5 : decode cX1_canStand 5 = .ok (.istore_n 3, 1) := by decide +kernel
theorem dX1_canStand_6 : decode cX1_canStand 6 = .ok (.iload_n 1, 1) := by decide +kernel
theorem dX1_canStand_7 : decode cX1_canStand 7 = .ok (.tableswitch 133 0 4 #[33, 42, 78, 101, 124], 33) := by decide +kernel
theorem dX1_canStand_40 : decode cX1_canStand 40 = .ok (.iload_n 3, 1) := by decide +kernel
theorem dX1_canStand_41 : decode cX1_canStand 41 = .ok (.bipush 48, 2) := by decide +kernel
theorem dX1_canStand_43 : decode cX1_canStand 43 = .ok (.bipush 52, 2) := by decide +kernel
theorem dX1_canStand_45 : decode cX1_canStand 45 = .ok (.invokestatic 21, 3) := by decide +kernel
theorem dX1_canStand_48 : decode cX1_canStand 48 = .ok (.ireturn, 1) := by decide +kernel
theorem dX1_canStand_49 : decode cX1_canStand 49 = .ok (.iload_n 3, 1) := by decide +kernel
theorem dX1_canStand_50 : decode cX1_canStand 50 = .ok (.bipush 98, 2) := by decide +kernel
theorem dX1_canStand_52 : decode cX1_canStand 52 = .ok (.if_icmp .eq 27, 3) := by decide +kernel
theorem dX1_canStand_55 : decode cX1_canStand 55 = .ok (.iload_n 3, 1) := by decide +kernel
theorem dX1_canStand_56 : decode cX1_canStand 56 = .ok (.bipush 119, 2) := by decide +kernel
theorem dX1_canStand_58 : decode cX1_canStand 58 = .ok (.if_icmp .eq 21, 3) := by decide +kernel
theorem dX1_canStand_61 : decode cX1_canStand 61 = .ok (.iload_n 3, 1) := by decide +kernel
theorem dX1_canStand_62 : decode cX1_canStand 62 = .ok (.bipush 112, 2) := by decide +kernel
theorem dX1_canStand_64 : decode cX1_canStand 64 = .ok (.if_icmp .ne 19, 3) := by decide +kernel
theorem dX1_canStand_67 : decode cX1_canStand 67 = .ok (.aload_n 0, 1) := by decide +kernel
theorem dX1_canStand_68 : decode cX1_canStand 68 = .ok (.iload_n 2, 1) := by decide +kernel
theorem dX1_canStand_69 : decode cX1_canStand 69 = .ok (.iconst 1, 1) := by decide +kernel
theorem dX1_canStand_70 : decode cX1_canStand 70 = .ok (.isub, 1) := by decide +kernel
theorem dX1_canStand_71 : decode cX1_canStand 71 = .ok (.invokevirtual 33, 3) := by decide +kernel
theorem dX1_canStand_74 : decode cX1_canStand 74 = .ok (.bipush 48, 2) := by decide +kernel
theorem dX1_canStand_76 : decode cX1_canStand 76 = .ok (.if_icmp .ne 7, 3) := by decide +kernel
theorem dX1_canStand_79 : decode cX1_canStand 79 = .ok (.iconst 1, 1) := by decide +kernel
theorem dX1_canStand_80 : decode cX1_canStand 80 = .ok (.goto 4, 3) := by decide +kernel
theorem dX1_canStand_83 : decode cX1_canStand 83 = .ok (.iconst 0, 1) := by decide +kernel
theorem dX1_canStand_84 : decode cX1_canStand 84 = .ok (.ireturn, 1) := by decide +kernel
theorem dX1_canStand_85 : decode cX1_canStand 85 = .ok (.iload_n 3, 1) := by decide +kernel
theorem dX1_canStand_86 : decode cX1_canStand 86 = .ok (.bipush 42, 2) := by decide +kernel
theorem dX1_canStand_88 : decode cX1_canStand 88 = .ok (.if_icmp .eq 14, 3) := by decide +kernel
theorem dX1_canStand_91 : decode cX1_canStand 91 = .ok (.iload_n 3, 1) := by decide +kernel
theorem dX1_canStand_92 : decode cX1_canStand 92 = .ok (.bipush 48, 2) := by decide +kernel
theorem dX1_canStand_94 : decode cX1_canStand 94 = .ok (.bipush 52, 2) := by decide +kernel
theorem dX1_canStand_96 : decode cX1_canStand 96 = .ok (.invokestatic 21, 3) := by decide +kernel
theorem dX1_canStand_99 : decode cX1_canStand 99 = .ok (.ifCond .eq 7, 3) := by decide +kernel
theorem dX1_canStand_102 : decode cX1_canStand 102 = .ok (.iconst 1, 1) := by decide +kernel
theorem dX1_canStand_103 : decode cX1_canStand 103 = .ok (.goto 4, 3) := by decide +kernel
theorem dX1_canStand_106 : decode cX1_canStand 106 = .ok (.iconst 0, 1) := by decide +kernel
theorem dX1_canStand_107 : decode cX1_canStand 107 = .ok (.ireturn, 1) := by decide +kernel
theorem dX1_canStand_108 : decode cX1_canStand 108 = .ok (.iload_n 3, 1) := by decide +kernel
theorem dX1_canStand_109 : decode cX1_canStand 109 = .ok (.bipush 42, 2) := by decide +kernel
theorem dX1_canStand_111 : decode cX1_canStand 111 = .ok (.if_icmp .eq 14, 3) := by decide +kernel
theorem dX1_canStand_114 : decode cX1_canStand 114 = .ok (.iload_n 3, 1) := by decide +kernel
theorem dX1_canStand_115 : decode cX1_canStand 115 = .ok (.bipush 48, 2) := by decide +kernel
theorem dX1_canStand_117 : decode cX1_canStand 117 = .ok (.bipush 53, 2) := by decide +kernel
theorem dX1_canStand_119 : decode cX1_canStand 119 = .ok (.invokestatic 21, 3) := by decide +kernel
theorem dX1_canStand_122 : decode cX1_canStand 122 = .ok (.ifCond .eq 7, 3) := by decide +kernel
theorem dX1_canStand_125 : decode cX1_canStand 125 = .ok (.iconst 1, 1) := by decide +kernel
theorem dX1_canStand_126 : decode cX1_canStand 126 = .ok (.goto 4, 3) := by decide +kernel
theorem dX1_canStand_129 : decode cX1_canStand 129 = .ok (.iconst 0, 1) := by decide +kernel
theorem dX1_canStand_130 : decode cX1_canStand 130 = .ok (.ireturn, 1) := by decide +kernel
theorem dX1_canStand_131 : decode cX1_canStand 131 = .ok (.iload_n 3, 1) := by decide +kernel
theorem dX1_canStand_132 : decode cX1_canStand 132 = .ok (.bipush 49, 2) := by decide +kernel
theorem dX1_canStand_134 : decode cX1_canStand 134 = .ok (.bipush 57, 2) := by decide +kernel
theorem dX1_canStand_136 : decode cX1_canStand 136 = .ok (.invokestatic 21, 3) := by decide +kernel
theorem dX1_canStand_139 : decode cX1_canStand 139 = .ok (.ireturn, 1) := by decide +kernel
theorem dX1_canStand_140 : decode cX1_canStand 140 = .ok (.iload_n 3, 1) := by decide +kernel
theorem dX1_canStand_141 : decode cX1_canStand 141 = .ok (.bipush 59, 2) := by decide +kernel
theorem dX1_canStand_143 : decode cX1_canStand 143 = .ok (.if_icmp .ne 7, 3) := by decide +kernel
theorem dX1_canStand_146 : decode cX1_canStand 146 = .ok (.iconst 1, 1) := by decide +kernel
theorem dX1_canStand_147 : decode cX1_canStand 147 = .ok (.goto 4, 3) := by decide +kernel
theorem dX1_canStand_150 : decode cX1_canStand 150 = .ok (.iconst 0, 1) := by decide +kernel
theorem dX1_canStand_151 : decode cX1_canStand 151 = .ok (.ireturn, 1) := by decide +kernel
set_option maxRecDepth 20000 in
theorem ggX1_placeAfter_X1_signAt : GoodIn wsX1_placeAfter wsX1_signAt := goodIn_r _ [5, 6, 7, 8, 9] (by decide +kernel) (by decide +kernel)
set_option maxRecDepth 20000 in
theorem gX1_placeAfter_X1_signAt : GoodIn wsX1_placeAfter (wsV RX1 33 RX1 yX1_signAt wsX1_signAt) := goodIn_app (goodIn_of _ (by decide +kernel)) ggX1_placeAfter_X1_signAt
theorem dX1_placeAfter_0 : decode cX1_placeAfter 0 = .ok (.iload_n 1, 1) := by decide +kernel
theorem dX1_placeAfter_1 : decode cX1_placeAfter 1 = .ok (.iconst 5, 1) := by decide +kernel
theorem dX1_placeAfter_2 : decode cX1_placeAfter 2 = .ok (.if_icmp .ne 5, 3) := by decide +kernel
theorem dX1_placeAfter_5 : decode cX1_placeAfter 5 = .ok (.iconst 0, 1) := by decide +kernel
theorem dX1_placeAfter_6 : decode cX1_placeAfter 6 = .ok (.ireturn, 1) := by decide +kernel
theorem dX1_placeAfter_7 : decode cX1_placeAfter 7 = .ok (.iload_n 1, 1) := by decide +kernel
theorem dX1_placeAfter_8 : decode cX1_placeAfter 8 = .ok (.iconst 3, 1) := by decide +kernel
theorem dX1_placeAfter_9 : decode cX1_placeAfter 9 = .ok (.if_icmp .ne 19, 3) := by decide +kernel
theorem dX1_placeAfter_12 : decode cX1_placeAfter 12 = .ok (.aload_n 0, 1) := by decide +kernel
theorem dX1_placeAfter_13 : decode cX1_placeAfter 13 = .ok (.iload_n 2, 1) := by decide +kernel
theorem dX1_placeAfter_14 : decode cX1_placeAfter 14 = .ok (.iconst 2, 1) := by decide +kernel
theorem dX1_placeAfter_15 : decode cX1_placeAfter 15 = .ok (.isub, 1) := by decide +kernel
theorem dX1_placeAfter_16 : decode cX1_placeAfter 16 = .ok (.invokevirtual 33, 3) := by decide +kernel
theorem dX1_placeAfter_19 : decode cX1_placeAfter 19 = .ok (.bipush 112, 2) := by decide +kernel
theorem dX1_placeAfter_21 : decode cX1_placeAfter 21 = .ok (.if_icmp .ne 7, 3) := by decide +kernel
theorem dX1_placeAfter_24 : decode cX1_placeAfter 24 = .ok (.iconst 1, 1) := by decide +kernel
theorem dX1_placeAfter_25 : decode cX1_placeAfter 25 = .ok (.goto 4, 3) := by decide +kernel
theorem dX1_placeAfter_28 : decode cX1_placeAfter 28 = .ok (.iconst 0, 1) := by decide +kernel
theorem dX1_placeAfter_29 : decode cX1_placeAfter 29 = .ok (.istore_n 3, 1) := by decide +kernel
theorem dX1_placeAfter_30 : decode cX1_placeAfter 30 = .ok (.iload_n 3, 1) := by decide +kernel
theorem dX1_placeAfter_31 : decode cX1_placeAfter 31 = .ok (.ifCond .eq 7, 3) := by decide +kernel
theorem dX1_placeAfter_34 : decode cX1_placeAfter 34 = .ok (.iconst 5, 1) := by decide +kernel
theorem dX1_placeAfter_35 : decode cX1_placeAfter 35 = .ok (.goto 6, 3) := by decide +kernel
theorem dX1_placeAfter_38 : decode cX1_placeAfter 38 = .ok (.iload_n 1, 1) := by decide +kernel
theorem dX1_placeAfter_39 : decode cX1_placeAfter 39 = .ok (.iconst 1, 1) := by decide +kernel
theorem dX1_placeAfter_40 : decode cX1_placeAfter 40 = .ok (.iadd, 1) := by decide +kernel
theorem dX1_placeAfter_41 : decode cX1_placeAfter 41 = .ok (.ireturn, 1) := by decide +kernel
theorem dX1_signAt_0 : decode cX1_signAt 0 = .ok (.iload_n 1, 1) := by decide +kernel
theorem dX1_signAt_1 : decode cX1_signAt 1 = .ok (.ifCond .lt 20, 3) := by decide +kernel
theorem dX1_signAt_4 : decode cX1_signAt 4 = .ok (.iload_n 1, 1) := by decide +kernel
theorem dX1_signAt_5 : decode cX1_signAt 5 = .ok (.aload_n 0, 1) := by decide +kernel
theorem dX1_signAt_6 : decode cX1_signAt 6 = .ok (.getfield 15, 3) := by decide +kernel
theorem dX1_signAt_9 : decode cX1_signAt 9 = .ok (.if_icmp .ge 12, 3) := by decide +kernel
theorem dX1_signAt_12 : decode cX1_signAt 12 = .ok (.aload_n 0, 1) := by decide +kernel
theorem dX1_signAt_13 : decode cX1_signAt 13 = .ok (.getfield 9, 3) := by decide +kernel
theorem dX1_signAt_16 : decode cX1_signAt 16 = .ok (.iload_n 1, 1) := by decide +kernel
theorem dX1_signAt_17 : decode cX1_signAt 17 = .ok (.caload, 1) := by decide +kernel
theorem dX1_signAt_18 : decode cX1_signAt 18 = .ok (.goto 4, 3) := by decide +kernel
theorem dX1_signAt_21 : decode cX1_signAt 21 = .ok (.iconst 0, 1) := by decide +kernel
theorem dX1_signAt_22 : decode cX1_signAt 22 = .ok (.ireturn, 1) := by decide +kernel
theorem dX1_rulesInText_0 : decode cX1_rulesInText 0 = .ok (.iconst 1, 1) := by decide +kernel
theorem dX1_rulesInText_1 : decode cX1_rulesInText 1 = .ok (.istore_n 1, 1) := by decide +kernel
theorem dX1_rulesInText_2 : decode cX1_rulesInText 2 = .ok (.iconst 0, 1) := by decide +kernel
theorem dX1_rulesInText_3 : decode cX1_rulesInText 3 = .ok (.istore_n 2, 1) := by decide +kernel
theorem dX1_rulesInText_4 : decode cX1_rulesInText 4 = .ok (.iload_n 2, 1) := by decide +kernel
theorem dX1_rulesInText_5 : decode cX1_rulesInText 5 = .ok (.aload_n 0, 1) := by decide +kernel
theorem dX1_rulesInText_6 : decode cX1_rulesInText 6 = .ok (.getfield 15, 3) := by decide +kernel
theorem dX1_rulesInText_9 : decode cX1_rulesInText 9 = .ok (.if_icmp .ge 23, 3) := by decide +kernel
theorem dX1_rulesInText_12 : decode cX1_rulesInText 12 = .ok (.aload_n 0, 1) := by decide +kernel
theorem dX1_rulesInText_13 : decode cX1_rulesInText 13 = .ok (.getfield 9, 3) := by decide +kernel
theorem dX1_rulesInText_16 : decode cX1_rulesInText 16 = .ok (.iload_n 2, 1) := by decide +kernel
theorem dX1_rulesInText_17 : decode cX1_rulesInText 17 = .ok (.caload, 1) := by decide +kernel
theorem dX1_rulesInText_18 : decode cX1_rulesInText 18 = .ok (.bipush 59, 2) := by decide +kernel
theorem dX1_rulesInText_20 : decode cX1_rulesInText 20 = .ok (.if_icmp .ne 6, 3) := by decide +kernel
theorem dX1_rulesInText_23 : decode cX1_rulesInText 23 = .ok (.iinc 1 1, 3) := by decide +kernel
theorem dX1_rulesInText_26 : decode cX1_rulesInText 26 = .ok (.iinc 2 1, 3) := by decide +kernel
theorem dX1_rulesInText_29 : decode cX1_rulesInText 29 = .ok (.goto (-25), 3) := by decide +kernel
theorem dX1_rulesInText_32 : decode cX1_rulesInText 32 = .ok (.iload_n 1, 1) := by decide +kernel
theorem dX1_rulesInText_33 : decode cX1_rulesInText 33 = .ok (.ireturn, 1) := by decide +kernel
set_option maxRecDepth 20000 in
theorem ggX1_appendTo_X1_signAt : GoodIn wsX1_appendTo wsX1_signAt := goodIn_r _ [6, 1, 7, 29, 30] (by decide +kernel) (by decide +kernel)
set_option maxRecDepth 20000 in
theorem gX1_appendTo_X1_signAt : GoodIn wsX1_appendTo (wsV RX1 33 RX1 yX1_signAt wsX1_signAt) := goodIn_app (goodIn_of _ (by decide +kernel)) ggX1_appendTo_X1_signAt
set_option maxRecDepth 20000 in
theorem ggX1_appendTo_X1_kindOf : GoodIn wsX1_appendTo wsX1_kindOf := goodIn_r _ [10] (by decide +kernel) (by decide +kernel)
set_option maxRecDepth 20000 in
theorem gX1_appendTo_X1_kindOf : GoodIn wsX1_appendTo (va_wsS RX1 37 yX1_kindOf wsX1_kindOf) := goodIn_app (goodIn_of _ (by decide +kernel)) ggX1_appendTo_X1_kindOf
set_option maxRecDepth 20000 in
theorem ggX1_appendTo_X1_numberOf : GoodIn wsX1_appendTo wsX1_numberOf := goodIn_r _ [13] (by decide +kernel) (by decide +kernel)
set_option maxRecDepth 20000 in
theorem gX1_appendTo_X1_numberOf : GoodIn wsX1_appendTo (va_wsS RX1 41 yX1_numberOf wsX1_numberOf) := goodIn_app (goodIn_of _ (by decide +kernel)) ggX1_appendTo_X1_numberOf
set_option maxRecDepth 20000 in
theorem ggX1_appendTo_X2_append : GoodIn wsX1_appendTo wsX2_append := goodIn_r _ [18, 19, 20, 21, 22, 23, 24, 25, 26, 27, 28, 31, 32, 33, 34, 35, 36, 37] (by decide +kernel) (by decide +kernel)
set_option maxRecDepth 20000 in
theorem gX1_appendTo_X2_append : GoodIn wsX1_appendTo (wsV RX1 45 RX2 yX2_append wsX2_append) := goodIn_app (goodIn_of _ (by decide +kernel)) ggX1_appendTo_X2_append
theorem dX1_appendTo_0 : decode cX1_appendTo 0 = .ok (.iconst 0, 1) := by decide +kernel
theorem dX1_appendTo_1 : decode cX1_appendTo 1 = .ok (.istore_n 2, 1) := by decide +kernel
theorem dX1_appendTo_2 : decode cX1_appendTo 2 = .ok (.iload_n 2, 1) := by decide +kernel
theorem dX1_appendTo_3 : decode cX1_appendTo 3 = .ok (.aload_n 0, 1) := by decide +kernel
theorem dX1_appendTo_4 : decode cX1_appendTo 4 = .ok (.getfield 15, 3) := by decide +kernel
theorem dX1_appendTo_7 : decode cX1_appendTo 7 = .ok (.if_icmp .ge 96, 3) := by decide +kernel
theorem dX1_appendTo_10 : decode cX1_appendTo 10 = .ok (.aload_n 0, 1) := by decide +kernel
theorem dX1_appendTo_11 : decode cX1_appendTo 11 = .ok (.iload_n 2, 1) := by decide +kernel
theorem dX1_appendTo_12 : decode cX1_appendTo 12 = .ok (.iconst 1, 1) := by decide +kernel
theorem dX1_appendTo_13 : decode cX1_appendTo 13 = .ok (.iadd, 1) := by decide +kernel
theorem dX1_appendTo_14 : decode cX1_appendTo 14 = .ok (.invokevirtual 33, 3) := by decide +kernel
theorem dX1_appendTo_17 : decode cX1_appendTo 17 = .ok (.invokestatic 37, 3) := by decide +kernel
theorem dX1_appendTo_20 : decode cX1_appendTo 20 = .ok (.istore_n 3, 1) := by decide +kernel
theorem dX1_appendTo_21 : decode cX1_appendTo 21 = .ok (.aload_n 0, 1) := by decide +kernel
theorem dX1_appendTo_22 : decode cX1_appendTo 22 = .ok (.iload_n 2, 1) := by decide +kernel
theorem dX1_appendTo_23 : decode cX1_appendTo 23 = .ok (.iconst 2, 1) := by decide +kernel
theorem dX1_appendTo_24 : decode cX1_appendTo 24 = .ok (.iadd, 1) := by decide +kernel
theorem dX1_appendTo_25 : decode cX1_appendTo 25 = .ok (.invokevirtual 33, 3) := by decide +kernel
theorem dX1_appendTo_28 : decode cX1_appendTo 28 = .ok (.iconst 5, 1) := by decide +kernel
theorem dX1_appendTo_29 : decode cX1_appendTo 29 = .ok (.invokestatic 41, 3) := by decide +kernel
theorem dX1_appendTo_32 : decode cX1_appendTo 32 = .ok (.istore 4, 2) := by decide +kernel
theorem dX1_appendTo_34 : decode cX1_appendTo 34 = .ok (.aload_n 0, 1) := by decide +kernel
theorem dX1_appendTo_35 : decode cX1_appendTo 35 = .ok (.iload_n 2, 1) := by decide +kernel
theorem dX1_appendTo_36 : decode cX1_appendTo 36 = .ok (.iconst 3, 1) := by decide +kernel
theorem dX1_appendTo_37 : decode cX1_appendTo 37 = .ok (.iadd, 1) := by decide +kernel
theorem dX1_appendTo_38 : decode cX1_appendTo 38 = .ok (.invokevirtual 33, 3) := by decide +kernel
theorem dX1_appendTo_41 : decode cX1_appendTo 41 = .ok (.bipush 6, 2) := by decide +kernel
theorem dX1_appendTo_43 : decode cX1_appendTo 43 = .ok (.invokestatic 41, 3) := by decide +kernel
theorem dX1_appendTo_46 : decode cX1_appendTo 46 = .ok (.istore 5, 2) := by decide +kernel
theorem dX1_appendTo_48 : decode cX1_appendTo 48 = .ok (.iload_n 3, 1) := by decide +kernel
theorem dX1_appendTo_49 : decode cX1_appendTo 49 = .ok (.ifCond .ne 7, 3) := by decide +kernel
theorem dX1_appendTo_52 : decode cX1_appendTo 52 = .ok (.iconst 1, 1) := by decide +kernel
theorem dX1_appendTo_53 : decode cX1_appendTo 53 = .ok (.goto 13, 3) := by decide +kernel
theorem dX1_appendTo_56 : decode cX1_appendTo 56 = .ok (.aload_n 0, 1) := by decide +kernel
theorem dX1_appendTo_57 : decode cX1_appendTo 57 = .ok (.iload_n 2, 1) := by decide +kernel
theorem dX1_appendTo_58 : decode cX1_appendTo 58 = .ok (.iconst 4, 1) := by decide +kernel
theorem dX1_appendTo_59 : decode cX1_appendTo 59 = .ok (.iadd, 1) := by decide +kernel
theorem dX1_appendTo_60 : decode cX1_appendTo 60 = .ok (.invokevirtual 33, 3) := by decide +kernel
theorem dX1_appendTo_63 : decode cX1_appendTo 63 = .ok (.bipush 48, 2) := by decide +kernel
theorem dX1_appendTo_65 : decode cX1_appendTo 65 = .ok (.isub, 1) := by decide +kernel
theorem dX1_appendTo_66 : decode cX1_appendTo 66 = .ok (.istore 6, 2) := by decide +kernel
theorem dX1_appendTo_68 : decode cX1_appendTo 68 = .ok (.aload_n 1, 1) := by decide +kernel
theorem dX1_appendTo_69 : decode cX1_appendTo 69 = .ok (.aload_n 0, 1) := by decide +kernel
theorem dX1_appendTo_70 : decode cX1_appendTo 70 = .ok (.iload_n 2, 1) := by decide +kernel
theorem dX1_appendTo_71 : decode cX1_appendTo 71 = .ok (.invokevirtual 33, 3) := by decide +kernel
theorem dX1_appendTo_74 : decode cX1_appendTo 74 = .ok (.bipush 48, 2) := by decide +kernel
theorem dX1_appendTo_76 : decode cX1_appendTo 76 = .ok (.isub, 1) := by decide +kernel
theorem dX1_appendTo_77 : decode cX1_appendTo 77 = .ok (.iload_n 3, 1) := by decide +kernel
theorem dX1_appendTo_78 : decode cX1_appendTo 78 = .ok (.iload 4, 2) := by decide +kernel
theorem dX1_appendTo_80 : decode cX1_appendTo 80 = .ok (.iload 5, 2) := by decide +kernel
theorem dX1_appendTo_82 : decode cX1_appendTo 82 = .ok (.iload 6, 2) := by decide +kernel
theorem dX1_appendTo_84 : decode cX1_appendTo 84 = .ok (.invokevirtual 45, 3) := by decide +kernel
theorem dX1_appendTo_87 : decode cX1_appendTo 87 = .ok (.iload_n 2, 1) := by decide +kernel
theorem dX1_appendTo_88 : decode cX1_appendTo 88 = .ok (.iload_n 3, 1) := by decide +kernel
theorem dX1_appendTo_89 : decode cX1_appendTo 89 = .ok (.ifCond .ne 7, 3) := by decide +kernel
theorem dX1_appendTo_92 : decode cX1_appendTo 92 = .ok (.iconst 5, 1) := by decide +kernel
theorem dX1_appendTo_93 : decode cX1_appendTo 93 = .ok (.goto 5, 3) := by decide +kernel
theorem dX1_appendTo_96 : decode cX1_appendTo 96 = .ok (.bipush 6, 2) := by decide +kernel
theorem dX1_appendTo_98 : decode cX1_appendTo 98 = .ok (.iadd, 1) := by decide +kernel
theorem dX1_appendTo_99 : decode cX1_appendTo 99 = .ok (.istore_n 2, 1) := by decide +kernel
theorem dX1_appendTo_100 : decode cX1_appendTo 100 = .ok (.goto (-98), 3) := by decide +kernel
theorem dX1_appendTo_103 : decode cX1_appendTo 103 = .ok (.return_, 1) := by decide +kernel
theorem dX1_kindOf_0 : decode cX1_kindOf 0 = .ok (.iload_n 0, 1) := by decide +kernel
theorem dX1_kindOf_1 : decode cX1_kindOf 1 = .ok (.bipush 112, 2) := by decide +kernel
theorem dX1_kindOf_3 : decode cX1_kindOf 3 = .ok (.if_icmp .ne 7, 3) := by decide +kernel
theorem dX1_kindOf_6 : decode cX1_kindOf 6 = .ok (.iconst 0, 1) := by decide +kernel
theorem dX1_kindOf_7 : decode cX1_kindOf 7 = .ok (.goto 14, 3) := by decide +kernel
theorem dX1_kindOf_10 : decode cX1_kindOf 10 = .ok (.iload_n 0, 1) := by decide +kernel
theorem dX1_kindOf_11 : decode cX1_kindOf 11 = .ok (.bipush 98, 2) := by decide +kernel
theorem dX1_kindOf_13 : decode cX1_kindOf 13 = .ok (.if_icmp .ne 7, 3) := by decide +kernel
theorem dX1_kindOf_16 : decode cX1_kindOf 16 = .ok (.iconst 1, 1) := by decide +kernel
theorem dX1_kindOf_17 : decode cX1_kindOf 17 = .ok (.goto 4, 3) := by decide +kernel
theorem dX1_kindOf_20 : decode cX1_kindOf 20 = .ok (.iconst 2, 1) := by decide +kernel
theorem dX1_kindOf_21 : decode cX1_kindOf 21 = .ok (.ireturn, 1) := by decide +kernel
theorem dX1_numberOf_0 : decode cX1_numberOf 0 = .ok (.iload_n 0, 1) := by decide +kernel
theorem dX1_numberOf_1 : decode cX1_numberOf 1 = .ok (.bipush 42, 2) := by decide +kernel
theorem dX1_numberOf_3 : decode cX1_numberOf 3 = .ok (.if_icmp .ne 7, 3) := by decide +kernel
theorem dX1_numberOf_6 : decode cX1_numberOf 6 = .ok (.iload_n 1, 1) := by decide +kernel
theorem dX1_numberOf_7 : decode cX1_numberOf 7 = .ok (.goto 7, 3) := by decide +kernel
theorem dX1_numberOf_10 : decode cX1_numberOf 10 = .ok (.iload_n 0, 1) := by decide +kernel
theorem dX1_numberOf_11 : decode cX1_numberOf 11 = .ok (.bipush 48, 2) := by decide +kernel
theorem dX1_numberOf_13 : decode cX1_numberOf 13 = .ok (.isub, 1) := by decide +kernel
theorem dX1_numberOf_14 : decode cX1_numberOf 14 = .ok (.ireturn, 1) := by decide +kernel
theorem dX2_init_0 : decode cX2_init 0 = .ok (.aload_n 0, 1) := by decide +kernel
theorem dX2_init_1 : decode cX2_init 1 = .ok (.invokespecial 3, 3) := by decide +kernel
theorem dX2_init_4 : decode cX2_init 4 = .ok (.aload_n 0, 1) := by decide +kernel
theorem dX2_init_5 : decode cX2_init 5 = .ok (.bipush 25, 2) := by decide +kernel
theorem dX2_init_7 : decode cX2_init 7 = .ok (.newarray .int, 2) := by decide +kernel
theorem dX2_init_9 : decode cX2_init 9 = .ok (.putfield 11, 3) := by decide +kernel
theorem dX2_init_12 : decode cX2_init 12 = .ok (.aload_n 0, 1) := by decide +kernel
theorem dX2_init_13 : decode cX2_init 13 = .ok (.bipush 25, 2) := by decide +kernel
theorem dX2_init_15 : decode cX2_init 15 = .ok (.newarray .int, 2) := by decide +kernel
theorem dX2_init_17 : decode cX2_init 17 = .ok (.putfield 15, 3) := by decide +kernel
theorem dX2_init_20 : decode cX2_init 20 = .ok (.aload_n 0, 1) := by decide +kernel
theorem dX2_init_21 : decode cX2_init 21 = .ok (.bipush 25, 2) := by decide +kernel
theorem dX2_init_23 : decode cX2_init 23 = .ok (.newarray .int, 2) := by decide +kernel
theorem dX2_init_25 : decode cX2_init 25 = .ok (.putfield 18, 3) := by decide +kernel
theorem dX2_init_28 : decode cX2_init 28 = .ok (.aload_n 0, 1) := by decide +kernel
theorem dX2_init_29 : decode cX2_init 29 = .ok (.bipush 25, 2) := by decide +kernel
theorem dX2_init_31 : decode cX2_init 31 = .ok (.newarray .int, 2) := by decide +kernel
theorem dX2_init_33 : decode cX2_init 33 = .ok (.putfield 21, 3) := by decide +kernel
theorem dX2_init_36 : decode cX2_init 36 = .ok (.aload_n 0, 1) := by decide +kernel
theorem dX2_init_37 : decode cX2_init 37 = .ok (.bipush 25, 2) := by decide +kernel
theorem dX2_init_39 : decode cX2_init 39 = .ok (.newarray .int, 2) := by decide +kernel
theorem dX2_init_41 : decode cX2_init 41 = .ok (.putfield 24, 3) := by decide +kernel
theorem dX2_init_44 : decode cX2_init 44 = .ok (.aload_n 0, 1) := by decide +kernel
theorem dX2_init_45 : decode cX2_init 45 = .ok (.bipush 25, 2) := by decide +kernel
theorem dX2_init_47 : decode cX2_init 47 = .ok (.newarray .int, 2) := by decide +kernel
theorem dX2_init_49 : decode cX2_init 49 = .ok (.putfield 27, 3) := by decide +kernel
theorem dX2_init_52 : decode cX2_init 52 = .ok (.aload_n 0, 1) := by decide +kernel
theorem dX2_init_53 : decode cX2_init 53 = .ok (.iconst 0, 1) := by decide +kernel
theorem dX2_init_54 : decode cX2_init 54 = .ok (.putfield 30, 3) := by decide +kernel
theorem dX2_init_57 : decode cX2_init 57 = .ok (.return_, 1) := by decide +kernel
set_option maxRecDepth 20000 in
theorem ggX2_copyFrom_X4_copyRow : GoodIn wsX2_copyFrom wsX4_copyRow := goodIn_r _ [10, 11, 12, 13, 14, 15, 16, 17, 18] (by decide +kernel) (by decide +kernel)
set_option maxRecDepth 20000 in
theorem gX2_copyFrom_X4_copyRow_n34 : GoodIn wsX2_copyFrom (wsX4_copyRow) := ggX2_copyFrom_X4_copyRow
theorem dX2_copyFrom_0 : decode cX2_copyFrom 0 = .ok (.aload_n 1, 1) := by decide +kernel
theorem dX2_copyFrom_1 : decode cX2_copyFrom 1 = .ok (.getfield 11, 3) := by decide +kernel
theorem dX2_copyFrom_4 : decode cX2_copyFrom 4 = .ok (.aload_n 0, 1) := by decide +kernel
theorem dX2_copyFrom_5 : decode cX2_copyFrom 5 = .ok (.getfield 11, 3) := by decide +kernel
theorem dX2_copyFrom_8 : decode cX2_copyFrom 8 = .ok (.invokestatic 34, 3) := by decide +kernel
theorem dX2_copyFrom_11 : decode cX2_copyFrom 11 = .ok (.aload_n 1, 1) := by decide +kernel
theorem dX2_copyFrom_12 : decode cX2_copyFrom 12 = .ok (.getfield 15, 3) := by decide +kernel
theorem dX2_copyFrom_15 : decode cX2_copyFrom 15 = .ok (.aload_n 0, 1) := by decide +kernel
theorem dX2_copyFrom_16 : decode cX2_copyFrom 16 = .ok (.getfield 15, 3) := by decide +kernel
theorem dX2_copyFrom_19 : decode cX2_copyFrom 19 = .ok (.invokestatic 34, 3) := by decide +kernel
theorem dX2_copyFrom_22 : decode cX2_copyFrom 22 = .ok (.aload_n 1, 1) := by decide +kernel
theorem dX2_copyFrom_23 : decode cX2_copyFrom 23 = .ok (.getfield 18, 3) := by decide +kernel
theorem dX2_copyFrom_26 : decode cX2_copyFrom 26 = .ok (.aload_n 0, 1) := by decide +kernel
theorem dX2_copyFrom_27 : decode cX2_copyFrom 27 = .ok (.getfield 18, 3) := by decide +kernel
theorem dX2_copyFrom_30 : decode cX2_copyFrom 30 = .ok (.invokestatic 34, 3) := by decide +kernel
theorem dX2_copyFrom_33 : decode cX2_copyFrom 33 = .ok (.aload_n 1, 1) := by decide +kernel
theorem dX2_copyFrom_34 : decode cX2_copyFrom 34 = .ok (.getfield 21, 3) := by decide +kernel
theorem dX2_copyFrom_37 : decode cX2_copyFrom 37 = .ok (.aload_n 0, 1) := by decide +kernel
theorem dX2_copyFrom_38 : decode cX2_copyFrom 38 = .ok (.getfield 21, 3) := by decide +kernel
theorem dX2_copyFrom_41 : decode cX2_copyFrom 41 = .ok (.invokestatic 34, 3) := by decide +kernel
theorem dX2_copyFrom_44 : decode cX2_copyFrom 44 = .ok (.aload_n 1, 1) := by decide +kernel
theorem dX2_copyFrom_45 : decode cX2_copyFrom 45 = .ok (.getfield 24, 3) := by decide +kernel
theorem dX2_copyFrom_48 : decode cX2_copyFrom 48 = .ok (.aload_n 0, 1) := by decide +kernel
theorem dX2_copyFrom_49 : decode cX2_copyFrom 49 = .ok (.getfield 24, 3) := by decide +kernel
theorem dX2_copyFrom_52 : decode cX2_copyFrom 52 = .ok (.invokestatic 34, 3) := by decide +kernel
theorem dX2_copyFrom_55 : decode cX2_copyFrom 55 = .ok (.aload_n 1, 1) := by decide +kernel
theorem dX2_copyFrom_56 : decode cX2_copyFrom 56 = .ok (.getfield 27, 3) := by decide +kernel
theorem dX2_copyFrom_59 : decode cX2_copyFrom 59 = .ok (.aload_n 0, 1) := by decide +kernel
theorem dX2_copyFrom_60 : decode cX2_copyFrom 60 = .ok (.getfield 27, 3) := by decide +kernel
theorem dX2_copyFrom_63 : decode cX2_copyFrom 63 = .ok (.invokestatic 34, 3) := by decide +kernel
theorem dX2_copyFrom_66 : decode cX2_copyFrom 66 = .ok (.aload_n 0, 1) := by decide +kernel
theorem dX2_copyFrom_67 : decode cX2_copyFrom 67 = .ok (.aload_n 1, 1) := by decide +kernel
theorem dX2_copyFrom_68 : decode cX2_copyFrom 68 = .ok (.getfield 30, 3) := by decide +kernel
theorem dX2_copyFrom_71 : decode cX2_copyFrom 71 = .ok (.putfield 30, 3) := by decide +kernel
theorem dX2_copyFrom_74 : decode cX2_copyFrom 74 = .ok (.return_, 1) := by decide +kernel
theorem dX2_has_0 : decode cX2_has 0 = .ok (.iload_n 1, 1) := by decide +kernel
theorem dX2_has_1 : decode cX2_has 1 = .ok (.ifCond .lt 15, 3) := by decide +kernel
theorem dX2_has_4 : decode cX2_has 4 = .ok (.iload_n 1, 1) := by decide +kernel
theorem dX2_has_5 : decode cX2_has 5 = .ok (.aload_n 0, 1) := by decide +kernel
theorem dX2_has_6 : decode cX2_has 6 = .ok (.getfield 30, 3) := by decide +kernel
theorem dX2_has_9 : decode cX2_has 9 = .ok (.if_icmp .ge 7, 3) := by decide +kernel
theorem dX2_has_12 : decode cX2_has 12 = .ok (.iconst 1, 1) := by decide +kernel
theorem dX2_has_13 : decode cX2_has 13 = .ok (.goto 4, 3) := by decide +kernel
theorem dX2_has_16 : decode cX2_has 16 = .ok (.iconst 0, 1) := by decide +kernel
theorem dX2_has_17 : decode cX2_has 17 = .ok (.ireturn, 1) := by decide +kernel
set_option maxRecDepth 20000 in
theorem ggX2_append_X4_pairsOf : GoodIn wsX2_append wsX4_pairsOf := goodIn_r _ [10] (by decide +kernel) (by decide +kernel)
set_option maxRecDepth 20000 in
theorem gX2_append_X4_pairsOf_n38 : GoodIn wsX2_append (wsX4_pairsOf) := ggX2_append_X4_pairsOf
theorem dX2_append_0 : decode cX2_append 0 = .ok (.aload_n 0, 1) := by decide +kernel
theorem dX2_append_1 : decode cX2_append 1 = .ok (.getfield 30, 3) := by decide +kernel
theorem dX2_append_4 : decode cX2_append 4 = .ok (.bipush 25, 2) := by decide +kernel
theorem dX2_append_6 : decode cX2_append 6 = .ok (.if_icmp .lt 4, 3) := by decide +kernel
theorem dX2_append_9 : decode cX2_append 9 = .ok (.return_, 1) := by decide +kernel
theorem dX2_append_10 : decode cX2_append 10 = .ok (.aload_n 0, 1) := by decide +kernel
theorem dX2_append_11 : decode cX2_append 11 = .ok (.getfield 11, 3) := by decide +kernel
theorem dX2_append_14 : decode cX2_append 14 = .ok (.aload_n 0, 1) := by decide +kernel
theorem dX2_append_15 : decode cX2_append 15 = .ok (.getfield 30, 3) := by decide +kernel
theorem dX2_append_18 : decode cX2_append 18 = .ok (.iload_n 1, 1) := by decide +kernel
theorem dX2_append_19 : decode cX2_append 19 = .ok (.iastore, 1) := by decide +kernel
theorem dX2_append_20 : decode cX2_append 20 = .ok (.aload_n 0, 1) := by decide +kernel
theorem dX2_append_21 : decode cX2_append 21 = .ok (.getfield 15, 3) := by decide +kernel
theorem dX2_append_24 : decode cX2_append 24 = .ok (.aload_n 0, 1) := by decide +kernel
theorem dX2_append_25 : decode cX2_append 25 = .ok (.getfield 30, 3) := by decide +kernel
theorem dX2_append_28 : decode cX2_append 28 = .ok (.iload_n 2, 1) := by decide +kernel
theorem dX2_append_29 : decode cX2_append 29 = .ok (.iastore, 1) := by decide +kernel
theorem dX2_append_30 : decode cX2_append 30 = .ok (.aload_n 0, 1) := by decide +kernel
theorem dX2_append_31 : decode cX2_append 31 = .ok (.getfield 18, 3) := by decide +kernel
theorem dX2_append_34 : decode cX2_append 34 = .ok (.aload_n 0, 1) := by decide +kernel
theorem dX2_append_35 : decode cX2_append 35 = .ok (.getfield 30, 3) := by decide +kernel
theorem dX2_append_38 : decode cX2_append 38 = .ok (.iload_n 3, 1) := by decide +kernel
theorem dX2_append_39 : decode cX2_append 39 = .ok (.iastore, 1) := by decide +kernel
theorem dX2_append_40 : decode cX2_append 40 = .ok (.aload_n 0, 1) := by decide +kernel
theorem dX2_append_41 : decode cX2_append 41 = .ok (.getfield 21, 3) := by decide +kernel
theorem dX2_append_44 : decode cX2_append 44 = .ok (.aload_n 0, 1) := by decide +kernel
theorem dX2_append_45 : decode cX2_append 45 = .ok (.getfield 30, 3) := by decide +kernel
theorem dX2_append_48 : decode cX2_append 48 = .ok (.iload 4, 2) := by decide +kernel
theorem dX2_append_50 : decode cX2_append 50 = .ok (.iastore, 1) := by decide +kernel
theorem dX2_append_51 : decode cX2_append 51 = .ok (.aload_n 0, 1) := by decide +kernel
theorem dX2_append_52 : decode cX2_append 52 = .ok (.getfield 24, 3) := by decide +kernel
theorem dX2_append_55 : decode cX2_append 55 = .ok (.aload_n 0, 1) := by decide +kernel
theorem dX2_append_56 : decode cX2_append 56 = .ok (.getfield 30, 3) := by decide +kernel
theorem dX2_append_59 : decode cX2_append 59 = .ok (.iload 5, 2) := by decide +kernel
theorem dX2_append_61 : decode cX2_append 61 = .ok (.iastore, 1) := by decide +kernel
theorem dX2_append_62 : decode cX2_append 62 = .ok (.aload_n 0, 1) := by decide +kernel
theorem dX2_append_63 : decode cX2_append 63 = .ok (.getfield 27, 3) := by decide +kernel
theorem dX2_append_66 : decode cX2_append 66 = .ok (.aload_n 0, 1) := by decide +kernel
theorem dX2_append_67 : decode cX2_append 67 = .ok (.getfield 30, 3) := by decide +kernel
theorem dX2_append_70 : decode cX2_append 70 = .ok (.iload_n 3, 1) := by decide +kernel
theorem dX2_append_71 : decode cX2_append 71 = .ok (.iload 4, 2) := by decide +kernel
theorem dX2_append_73 : decode cX2_append 73 = .ok (.invokestatic 38, 3) := by decide +kernel
theorem dX2_append_76 : decode cX2_append 76 = .ok (.iastore, 1) := by decide +kernel
theorem dX2_append_77 : decode cX2_append 77 = .ok (.aload_n 0, 1) := by decide +kernel
theorem dX2_append_78 : decode cX2_append 78 = .ok (.dup, 1) := by decide +kernel
theorem dX2_append_79 : decode cX2_append 79 = .ok (.getfield 30, 3) := by decide +kernel
theorem dX2_append_82 : decode cX2_append 82 = .ok (.iconst 1, 1) := by decide +kernel
theorem dX2_append_83 : decode cX2_append 83 = .ok (.iadd, 1) := by decide +kernel
theorem dX2_append_84 : decode cX2_append 84 = .ok (.putfield 30, 3) := by decide +kernel
theorem dX2_append_87 : decode cX2_append 87 = .ok (.return_, 1) := by decide +kernel
set_option maxRecDepth 20000 in
theorem ggX2_remove_X2_has : GoodIn wsX2_remove wsX2_has := goodIn_r _ [12, 7, 20, 21, 22, 23, 24, 25, 26] (by decide +kernel) (by decide +kernel)
set_option maxRecDepth 20000 in
theorem gX2_remove_X2_has : GoodIn wsX2_remove (wsV RX2 42 RX2 yX2_has wsX2_has) := goodIn_app (goodIn_of _ (by decide +kernel)) ggX2_remove_X2_has
set_option maxRecDepth 20000 in
theorem ggX2_remove_X4_closeGap : GoodIn wsX2_remove wsX4_closeGap := goodIn_r _ [15, 16, 17, 18, 19] (by decide +kernel) (by decide +kernel)
set_option maxRecDepth 20000 in
theorem gX2_remove_X4_closeGap_n46 : GoodIn wsX2_remove (wsX4_closeGap) := ggX2_remove_X4_closeGap
theorem dX2_remove_0 : decode cX2_remove 0 = .ok (.aload_n 0, 1) := by decide +kernel
theorem dX2_remove_1 : decode cX2_remove 1 = .ok (.iload_n 1, 1) := by decide +kernel
theorem dX2_remove_2 : decode cX2_remove 2 = .ok (.invokevirtual 42, 3) := by decide +kernel
theorem dX2_remove_5 : decode cX2_remove 5 = .ok (.ifCond .ne 4, 3) := by decide +kernel
theorem dX2_remove_8 : decode cX2_remove 8 = .ok (.return_, 1) := by decide +kernel
theorem dX2_remove_9 : decode cX2_remove 9 = .ok (.aload_n 0, 1) := by decide +kernel
theorem dX2_remove_10 : decode cX2_remove 10 = .ok (.getfield 11, 3) := by decide +kernel
theorem dX2_remove_13 : decode cX2_remove 13 = .ok (.iload_n 1, 1) := by decide +kernel
theorem dX2_remove_14 : decode cX2_remove 14 = .ok (.invokestatic 46, 3) := by decide +kernel
theorem dX2_remove_17 : decode cX2_remove 17 = .ok (.aload_n 0, 1) := by decide +kernel
theorem dX2_remove_18 : decode cX2_remove 18 = .ok (.getfield 15, 3) := by decide +kernel
theorem dX2_remove_21 : decode cX2_remove 21 = .ok (.iload_n 1, 1) := by decide +kernel
theorem dX2_remove_22 : decode cX2_remove 22 = .ok (.invokestatic 46, 3) := by decide +kernel
theorem dX2_remove_25 : decode cX2_remove 25 = .ok (.aload_n 0, 1) := by decide +kernel
theorem dX2_remove_26 : decode cX2_remove 26 = .ok (.getfield 18, 3) := by decide +kernel
theorem dX2_remove_29 : decode cX2_remove 29 = .ok (.iload_n 1, 1) := by decide +kernel
theorem dX2_remove_30 : decode cX2_remove 30 = .ok (.invokestatic 46, 3) := by decide +kernel
theorem dX2_remove_33 : decode cX2_remove 33 = .ok (.aload_n 0, 1) := by decide +kernel
theorem dX2_remove_34 : decode cX2_remove 34 = .ok (.getfield 21, 3) := by decide +kernel
theorem dX2_remove_37 : decode cX2_remove 37 = .ok (.iload_n 1, 1) := by decide +kernel
theorem dX2_remove_38 : decode cX2_remove 38 = .ok (.invokestatic 46, 3) := by decide +kernel
theorem dX2_remove_41 : decode cX2_remove 41 = .ok (.aload_n 0, 1) := by decide +kernel
theorem dX2_remove_42 : decode cX2_remove 42 = .ok (.getfield 24, 3) := by decide +kernel
theorem dX2_remove_45 : decode cX2_remove 45 = .ok (.iload_n 1, 1) := by decide +kernel
theorem dX2_remove_46 : decode cX2_remove 46 = .ok (.invokestatic 46, 3) := by decide +kernel
theorem dX2_remove_49 : decode cX2_remove 49 = .ok (.aload_n 0, 1) := by decide +kernel
theorem dX2_remove_50 : decode cX2_remove 50 = .ok (.getfield 27, 3) := by decide +kernel
theorem dX2_remove_53 : decode cX2_remove 53 = .ok (.iload_n 1, 1) := by decide +kernel
theorem dX2_remove_54 : decode cX2_remove 54 = .ok (.invokestatic 46, 3) := by decide +kernel
theorem dX2_remove_57 : decode cX2_remove 57 = .ok (.aload_n 0, 1) := by decide +kernel
theorem dX2_remove_58 : decode cX2_remove 58 = .ok (.dup, 1) := by decide +kernel
theorem dX2_remove_59 : decode cX2_remove 59 = .ok (.getfield 30, 3) := by decide +kernel
theorem dX2_remove_62 : decode cX2_remove 62 = .ok (.iconst 1, 1) := by decide +kernel
theorem dX2_remove_63 : decode cX2_remove 63 = .ok (.isub, 1) := by decide +kernel
theorem dX2_remove_64 : decode cX2_remove 64 = .ok (.putfield 30, 3) := by decide +kernel
theorem dX2_remove_67 : decode cX2_remove 67 = .ok (.return_, 1) := by decide +kernel
theorem dX2_sizeOfKind_0 : decode cX2_sizeOfKind 0 = .ok (.iconst 0, 1) := by decide +kernel
theorem dX2_sizeOfKind_1 : decode cX2_sizeOfKind 1 = .ok (.istore_n 2, 1) := by decide +kernel
theorem dX2_sizeOfKind_2 : decode cX2_sizeOfKind 2 = .ok (.iconst 0, 1) := by decide +kernel
theorem dX2_sizeOfKind_3 : decode cX2_sizeOfKind 3 = .ok (.istore_n 3, 1) := by decide +kernel
theorem dX2_sizeOfKind_4 : decode cX2_sizeOfKind 4 = .ok (.iload_n 3, 1) := by decide +kernel
theorem dX2_sizeOfKind_5 : decode cX2_sizeOfKind 5 = .ok (.aload_n 0, 1) := by decide +kernel
theorem dX2_sizeOfKind_6 : decode cX2_sizeOfKind 6 = .ok (.getfield 30, 3) := by decide +kernel
theorem dX2_sizeOfKind_9 : decode cX2_sizeOfKind 9 = .ok (.if_icmp .ge 22, 3) := by decide +kernel
theorem dX2_sizeOfKind_12 : decode cX2_sizeOfKind 12 = .ok (.aload_n 0, 1) := by decide +kernel
theorem dX2_sizeOfKind_13 : decode cX2_sizeOfKind 13 = .ok (.getfield 15, 3) := by decide +kernel
theorem dX2_sizeOfKind_16 : decode cX2_sizeOfKind 16 = .ok (.iload_n 3, 1) := by decide +kernel
theorem dX2_sizeOfKind_17 : decode cX2_sizeOfKind 17 = .ok (.iaload, 1) := by decide +kernel
theorem dX2_sizeOfKind_18 : decode cX2_sizeOfKind 18 = .ok (.iload_n 1, 1) := by decide +kernel
theorem dX2_sizeOfKind_19 : decode cX2_sizeOfKind 19 = .ok (.if_icmp .ne 6, 3) := by decide +kernel
theorem dX2_sizeOfKind_22 : decode cX2_sizeOfKind 22 = .ok (.iinc 2 1, 3) := by decide +kernel
theorem dX2_sizeOfKind_25 : decode cX2_sizeOfKind 25 = .ok (.iinc 3 1, 3) := by decide +kernel
theorem dX2_sizeOfKind_28 : decode cX2_sizeOfKind 28 = .ok (.goto (-24), 3) := by decide +kernel
theorem dX2_sizeOfKind_31 : decode cX2_sizeOfKind 31 = .ok (.iload_n 2, 1) := by decide +kernel
theorem dX2_sizeOfKind_32 : decode cX2_sizeOfKind 32 = .ok (.ireturn, 1) := by decide +kernel
set_option maxRecDepth 20000 in
theorem ggX2_oddsOf_X2_areAtOdds : GoodIn wsX2_oddsOf wsX2_areAtOdds := goodIn_r _ [6, 7, 8, 9, 10, 11, 12, 13, 14, 15] (by decide +kernel) (by decide +kernel)
set_option maxRecDepth 20000 in
theorem gX2_oddsOf_X2_areAtOdds : GoodIn wsX2_oddsOf (wsV RX2 50 RX2 yX2_areAtOdds wsX2_areAtOdds) := goodIn_app (goodIn_of _ (by decide +kernel)) ggX2_oddsOf_X2_areAtOdds
theorem dX2_oddsOf_0 : decode cX2_oddsOf 0 = .ok (.iconst 0, 1) := by decide +kernel
theorem dX2_oddsOf_1 : decode cX2_oddsOf 1 = .ok (.istore_n 2, 1) := by decide +kernel
theorem dX2_oddsOf_2 : decode cX2_oddsOf 2 = .ok (.iconst 0, 1) := by decide +kernel
theorem dX2_oddsOf_3 : decode cX2_oddsOf 3 = .ok (.istore_n 3, 1) := by decide +kernel
theorem dX2_oddsOf_4 : decode cX2_oddsOf 4 = .ok (.iload_n 3, 1) := by decide +kernel
theorem dX2_oddsOf_5 : decode cX2_oddsOf 5 = .ok (.aload_n 0, 1) := by decide +kernel
theorem dX2_oddsOf_6 : decode cX2_oddsOf 6 = .ok (.getfield 30, 3) := by decide +kernel
theorem dX2_oddsOf_9 : decode cX2_oddsOf 9 = .ok (.if_icmp .ge 21, 3) := by decide +kernel
theorem dX2_oddsOf_12 : decode cX2_oddsOf 12 = .ok (.aload_n 0, 1) := by decide +kernel
theorem dX2_oddsOf_13 : decode cX2_oddsOf 13 = .ok (.iload_n 1, 1) := by decide +kernel
theorem dX2_oddsOf_14 : decode cX2_oddsOf 14 = .ok (.iload_n 3, 1) := by decide +kernel
theorem dX2_oddsOf_15 : decode cX2_oddsOf 15 = .ok (.invokevirtual 50, 3) := by decide +kernel
theorem dX2_oddsOf_18 : decode cX2_oddsOf 18 = .ok (.ifCond .eq 6, 3) := by decide +kernel
theorem dX2_oddsOf_21 : decode cX2_oddsOf 21 = .ok (.iinc 2 1, 3) := by decide +kernel
theorem dX2_oddsOf_24 : decode cX2_oddsOf 24 = .ok (.iinc 3 1, 3) := by decide +kernel
theorem dX2_oddsOf_27 : decode cX2_oddsOf 27 = .ok (.goto (-23), 3) := by decide +kernel
theorem dX2_oddsOf_30 : decode cX2_oddsOf 30 = .ok (.iload_n 2, 1) := by decide +kernel
theorem dX2_oddsOf_31 : decode cX2_oddsOf 31 = .ok (.ireturn, 1) := by decide +kernel
set_option maxRecDepth 20000 in
theorem ggX2_oddPairs_X2_oddsOf : GoodIn wsX2_oddPairs wsX2_oddsOf := goodIn_r _ [7, 1, 8, 9, 10, 6, 11, 2, 12, 13, 14, 15, 16, 17, 18, 19] (by decide +kernel) (by decide +kernel)
set_option maxRecDepth 20000 in
theorem gX2_oddPairs_X2_oddsOf : GoodIn wsX2_oddPairs (wsV RX2 54 RX2 yX2_oddsOf wsX2_oddsOf) := goodIn_app (goodIn_of _ (by decide +kernel)) ggX2_oddPairs_X2_oddsOf
theorem dX2_oddPairs_0 : decode cX2_oddPairs 0 = .ok (.iconst 0, 1) := by decide +kernel
theorem dX2_oddPairs_1 : decode cX2_oddPairs 1 = .ok (.istore_n 1, 1) := by decide +kernel
theorem dX2_oddPairs_2 : decode cX2_oddPairs 2 = .ok (.iconst 0, 1) := by decide +kernel
theorem dX2_oddPairs_3 : decode cX2_oddPairs 3 = .ok (.istore_n 2, 1) := by decide +kernel
theorem dX2_oddPairs_4 : decode cX2_oddPairs 4 = .ok (.iload_n 2, 1) := by decide +kernel
theorem dX2_oddPairs_5 : decode cX2_oddPairs 5 = .ok (.aload_n 0, 1) := by decide +kernel
theorem dX2_oddPairs_6 : decode cX2_oddPairs 6 = .ok (.getfield 30, 3) := by decide +kernel
theorem dX2_oddPairs_9 : decode cX2_oddPairs 9 = .ok (.if_icmp .ge 27, 3) := by decide +kernel
theorem dX2_oddPairs_12 : decode cX2_oddPairs 12 = .ok (.aload_n 0, 1) := by decide +kernel
theorem dX2_oddPairs_13 : decode cX2_oddPairs 13 = .ok (.getfield 15, 3) := by decide +kernel
theorem dX2_oddPairs_16 : decode cX2_oddPairs 16 = .ok (.iload_n 2, 1) := by decide +kernel
theorem dX2_oddPairs_17 : decode cX2_oddPairs 17 = .ok (.iaload, 1) := by decide +kernel
theorem dX2_oddPairs_18 : decode cX2_oddPairs 18 = .ok (.iconst 1, 1) := by decide +kernel
theorem dX2_oddPairs_19 : decode cX2_oddPairs 19 = .ok (.if_icmp .ne 11, 3) := by decide +kernel
theorem dX2_oddPairs_22 : decode cX2_oddPairs 22 = .ok (.iload_n 1, 1) := by decide +kernel
theorem dX2_oddPairs_23 : decode cX2_oddPairs 23 = .ok (.aload_n 0, 1) := by decide +kernel
theorem dX2_oddPairs_24 : decode cX2_oddPairs 24 = .ok (.iload_n 2, 1) := by decide +kernel
theorem dX2_oddPairs_25 : decode cX2_oddPairs 25 = .ok (.invokevirtual 54, 3) := by decide +kernel
theorem dX2_oddPairs_28 : decode cX2_oddPairs 28 = .ok (.iadd, 1) := by decide +kernel
theorem dX2_oddPairs_29 : decode cX2_oddPairs 29 = .ok (.istore_n 1, 1) := by decide +kernel
theorem dX2_oddPairs_30 : decode cX2_oddPairs 30 = .ok (.iinc 2 1, 3) := by decide +kernel
theorem dX2_oddPairs_33 : decode cX2_oddPairs 33 = .ok (.goto (-29), 3) := by decide +kernel
theorem dX2_oddPairs_36 : decode cX2_oddPairs 36 = .ok (.iload_n 1, 1) := by decide +kernel
theorem dX2_oddPairs_37 : decode cX2_oddPairs 37 = .ok (.ireturn, 1) := by decide +kernel
theorem dX2_areAtOdds_0 : decode cX2_areAtOdds 0 = .ok (.aload_n 0, 1) := by decide +kernel
theorem dX2_areAtOdds_1 : decode cX2_areAtOdds 1 = .ok (.getfield 15, 3) := by decide +kernel
theorem dX2_areAtOdds_4 : decode cX2_areAtOdds 4 = .ok (.iload_n 1, 1) := by decide +kernel
theorem dX2_areAtOdds_5 : decode cX2_areAtOdds 5 = .ok (.iaload, 1) := by decide +kernel
theorem dX2_areAtOdds_6 : decode cX2_areAtOdds 6 = .ok (.iconst 1, 1) := by decide +kernel
theorem dX2_areAtOdds_7 : decode cX2_areAtOdds 7 = .ok (.if_icmp .ne 7, 3) := by decide +kernel
theorem dX2_areAtOdds_10 : decode cX2_areAtOdds 10 = .ok (.iconst 1, 1) := by decide +kernel
theorem dX2_areAtOdds_11 : decode cX2_areAtOdds 11 = .ok (.goto 4, 3) := by decide +kernel
theorem dX2_areAtOdds_14 : decode cX2_areAtOdds 14 = .ok (.iconst 0, 1) := by decide +kernel
theorem dX2_areAtOdds_15 : decode cX2_areAtOdds 15 = .ok (.aload_n 0, 1) := by decide +kernel
theorem dX2_areAtOdds_16 : decode cX2_areAtOdds 16 = .ok (.getfield 15, 3) := by decide +kernel
theorem dX2_areAtOdds_19 : decode cX2_areAtOdds 19 = .ok (.iload_n 2, 1) := by decide +kernel
theorem dX2_areAtOdds_20 : decode cX2_areAtOdds 20 = .ok (.iaload, 1) := by decide +kernel
theorem dX2_areAtOdds_21 : decode cX2_areAtOdds 21 = .ok (.iconst 1, 1) := by decide +kernel
theorem dX2_areAtOdds_22 : decode cX2_areAtOdds 22 = .ok (.if_icmp .ne 7, 3) := by decide +kernel
theorem dX2_areAtOdds_25 : decode cX2_areAtOdds 25 = .ok (.iconst 1, 1) := by decide +kernel
theorem dX2_areAtOdds_26 : decode cX2_areAtOdds 26 = .ok (.goto 4, 3) := by decide +kernel
theorem dX2_areAtOdds_29 : decode cX2_areAtOdds 29 = .ok (.iconst 0, 1) := by decide +kernel
theorem dX2_areAtOdds_30 : decode cX2_areAtOdds 30 = .ok (.if_icmp .eq 23, 3) := by decide +kernel
theorem dX2_areAtOdds_33 : decode cX2_areAtOdds 33 = .ok (.aload_n 0, 1) := by decide +kernel
theorem dX2_areAtOdds_34 : decode cX2_areAtOdds 34 = .ok (.getfield 27, 3) := by decide +kernel
theorem dX2_areAtOdds_37 : decode cX2_areAtOdds 37 = .ok (.iload_n 1, 1) := by decide +kernel
theorem dX2_areAtOdds_38 : decode cX2_areAtOdds 38 = .ok (.iaload, 1) := by decide +kernel
theorem dX2_areAtOdds_39 : decode cX2_areAtOdds 39 = .ok (.aload_n 0, 1) := by decide +kernel
theorem dX2_areAtOdds_40 : decode cX2_areAtOdds 40 = .ok (.getfield 27, 3) := by decide +kernel
theorem dX2_areAtOdds_43 : decode cX2_areAtOdds 43 = .ok (.iload_n 2, 1) := by decide +kernel
theorem dX2_areAtOdds_44 : decode cX2_areAtOdds 44 = .ok (.iaload, 1) := by decide +kernel
theorem dX2_areAtOdds_45 : decode cX2_areAtOdds 45 = .ok (.iand, 1) := by decide +kernel
theorem dX2_areAtOdds_46 : decode cX2_areAtOdds 46 = .ok (.ifCond .eq 7, 3) := by decide +kernel
theorem dX2_areAtOdds_49 : decode cX2_areAtOdds 49 = .ok (.iconst 1, 1) := by decide +kernel
theorem dX2_areAtOdds_50 : decode cX2_areAtOdds 50 = .ok (.goto 4, 3) := by decide +kernel
theorem dX2_areAtOdds_53 : decode cX2_areAtOdds 53 = .ok (.iconst 0, 1) := by decide +kernel
theorem dX2_areAtOdds_54 : decode cX2_areAtOdds 54 = .ok (.ireturn, 1) := by decide +kernel
set_option maxRecDepth 20000 in
theorem ggX2_reason_X2_permittedPairs : GoodIn wsX2_reason wsX2_permittedPairs := goodIn_r _ [9, 1, 2, 10, 19, 20, 21, 22, 23, 24, 25] (by decide +kernel) (by decide +kernel)
set_option maxRecDepth 20000 in
theorem gX2_reason_X2_permittedPairs : GoodIn wsX2_reason (wsV RX2 58 RX2 yX2_permittedPairs wsX2_permittedPairs) := goodIn_app (goodIn_of _ (by decide +kernel)) ggX2_reason_X2_permittedPairs
set_option maxRecDepth 20000 in
theorem ggX2_reason_X2_heldPairs : GoodIn wsX2_reason wsX2_heldPairs := goodIn_r _ [14, 10, 1, 15, 16, 17, 8, 18, 2, 4, 3, 19, 20, 21, 22, 23, 24, 25] (by decide +kernel) (by decide +kernel)
set_option maxRecDepth 20000 in
theorem gX2_reason_X2_heldPairs : GoodIn wsX2_reason (wsV RX2 62 RX2 yX2_heldPairs wsX2_heldPairs) := goodIn_app (goodIn_of _ (by decide +kernel)) ggX2_reason_X2_heldPairs
theorem dX2_reason_0 : decode cX2_reason 0 = .ok (.aload_n 0, 1) := by decide +kernel
theorem dX2_reason_1 : decode cX2_reason 1 = .ok (.invokevirtual 58, 3) := by decide +kernel
theorem dX2_reason_4 : decode cX2_reason 4 = .ok (.iload_n 1, 1) := by decide +kernel
theorem dX2_reason_5 : decode cX2_reason 5 = .ok (.iand, 1) := by decide +kernel
theorem dX2_reason_6 : decode cX2_reason 6 = .ok (.ifCond .ne 6, 3) := by decide +kernel
theorem dX2_reason_9 : decode cX2_reason 9 = .ok (.bipush 100, 2) := by decide +kernel
theorem dX2_reason_11 : decode cX2_reason 11 = .ok (.ireturn, 1) := by decide +kernel
theorem dX2_reason_12 : decode cX2_reason 12 = .ok (.bipush (-6), 2) := by decide +kernel
theorem dX2_reason_14 : decode cX2_reason 14 = .ok (.istore_n 3, 1) := by decide +kernel
theorem dX2_reason_15 : decode cX2_reason 15 = .ok (.iconst 5, 1) := by decide +kernel
theorem dX2_reason_16 : decode cX2_reason 16 = .ok (.istore 4, 2) := by decide +kernel
theorem dX2_reason_18 : decode cX2_reason 18 = .ok (.iconst 0, 1) := by decide +kernel
theorem dX2_reason_19 : decode cX2_reason 19 = .ok (.istore 5, 2) := by decide +kernel
theorem dX2_reason_21 : decode cX2_reason 21 = .ok (.iload 5, 2) := by decide +kernel
theorem dX2_reason_23 : decode cX2_reason 23 = .ok (.aload_n 0, 1) := by decide +kernel
theorem dX2_reason_24 : decode cX2_reason 24 = .ok (.getfield 30, 3) := by decide +kernel
theorem dX2_reason_27 : decode cX2_reason 27 = .ok (.if_icmp .ge 69, 3) := by decide +kernel
theorem dX2_reason_30 : decode cX2_reason 30 = .ok (.aload_n 0, 1) := by decide +kernel
theorem dX2_reason_31 : decode cX2_reason 31 = .ok (.getfield 15, 3) := by decide +kernel
theorem dX2_reason_34 : decode cX2_reason 34 = .ok (.iload 5, 2) := by decide +kernel
theorem dX2_reason_36 : decode cX2_reason 36 = .ok (.iaload, 1) := by decide +kernel
theorem dX2_reason_37 : decode cX2_reason 37 = .ok (.iconst 1, 1) := by decide +kernel
theorem dX2_reason_38 : decode cX2_reason 38 = .ok (.if_icmp .ne 52, 3) := by decide +kernel
theorem dX2_reason_41 : decode cX2_reason 41 = .ok (.iload_n 2, 1) := by decide +kernel
theorem dX2_reason_42 : decode cX2_reason 42 = .ok (.aload_n 0, 1) := by decide +kernel
theorem dX2_reason_43 : decode cX2_reason 43 = .ok (.getfield 24, 3) := by decide +kernel
theorem dX2_reason_46 : decode cX2_reason 46 = .ok (.iload 5, 2) := by decide +kernel
theorem dX2_reason_48 : decode cX2_reason 48 = .ok (.iaload, 1) := by decide +kernel
theorem dX2_reason_49 : decode cX2_reason 49 = .ok (.if_icmp .ge 41, 3) := by decide +kernel
theorem dX2_reason_52 : decode cX2_reason 52 = .ok (.aload_n 0, 1) := by decide +kernel
theorem dX2_reason_53 : decode cX2_reason 53 = .ok (.getfield 11, 3) := by decide +kernel
theorem dX2_reason_56 : decode cX2_reason 56 = .ok (.iload 5, 2) := by decide +kernel
theorem dX2_reason_58 : decode cX2_reason 58 = .ok (.iaload, 1) := by decide +kernel
theorem dX2_reason_59 : decode cX2_reason 59 = .ok (.iload 4, 2) := by decide +kernel
theorem dX2_reason_61 : decode cX2_reason 61 = .ok (.if_icmp .lt 6, 3) := by decide +kernel
theorem dX2_reason_64 : decode cX2_reason 64 = .ok (.goto 26, 3) := by decide +kernel
theorem dX2_reason_67 : decode cX2_reason 67 = .ok (.aload_n 0, 1) := by decide +kernel
theorem dX2_reason_68 : decode cX2_reason 68 = .ok (.iload 5, 2) := by decide +kernel
theorem dX2_reason_70 : decode cX2_reason 70 = .ok (.invokevirtual 62, 3) := by decide +kernel
theorem dX2_reason_73 : decode cX2_reason 73 = .ok (.iload_n 1, 1) := by decide +kernel
theorem dX2_reason_74 : decode cX2_reason 74 = .ok (.iand, 1) := by decide +kernel
theorem dX2_reason_75 : decode cX2_reason 75 = .ok (.ifCond .eq 15, 3) := by decide +kernel
theorem dX2_reason_78 : decode cX2_reason 78 = .ok (.iload 5, 2) := by decide +kernel
theorem dX2_reason_80 : decode cX2_reason 80 = .ok (.istore_n 3, 1) := by decide +kernel
theorem dX2_reason_81 : decode cX2_reason 81 = .ok (.aload_n 0, 1) := by decide +kernel
theorem dX2_reason_82 : decode cX2_reason 82 = .ok (.getfield 11, 3) := by decide +kernel
theorem dX2_reason_85 : decode cX2_reason 85 = .ok (.iload 5, 2) := by decide +kernel
theorem dX2_reason_87 : decode cX2_reason 87 = .ok (.iaload, 1) := by decide +kernel
theorem dX2_reason_88 : decode cX2_reason 88 = .ok (.istore 4, 2) := by decide +kernel
theorem dX2_reason_90 : decode cX2_reason 90 = .ok (.iinc 5 1, 3) := by decide +kernel
theorem dX2_reason_93 : decode cX2_reason 93 = .ok (.goto (-72), 3) := by decide +kernel
theorem dX2_reason_96 : decode cX2_reason 96 = .ok (.iload_n 3, 1) := by decide +kernel
theorem dX2_reason_97 : decode cX2_reason 97 = .ok (.ireturn, 1) := by decide +kernel
set_option maxRecDepth 20000 in
theorem ggX2_allowsByLayers_X2_permittedPairs : GoodIn wsX2_allowsByLayers wsX2_permittedPairs := goodIn_r _ [9, 10, 11, 12, 19, 20, 21, 22, 23, 24, 25] (by decide +kernel) (by decide +kernel)
set_option maxRecDepth 20000 in
theorem gX2_allowsByLayers_X2_permittedPairs : GoodIn wsX2_allowsByLayers (wsV RX2 58 RX2 yX2_permittedPairs wsX2_permittedPairs) := goodIn_app (goodIn_of _ (by decide +kernel)) ggX2_allowsByLayers_X2_permittedPairs
set_option maxRecDepth 20000 in
theorem ggX2_allowsByLayers_X2_strongest : GoodIn wsX2_allowsByLayers wsX2_strongest := goodIn_r _ [16, 10, 11, 17, 12, 18, 1, 2, 3, 4, 19, 20, 21, 22, 23, 24, 25] (by decide +kernel) (by decide +kernel)
set_option maxRecDepth 20000 in
theorem gX2_allowsByLayers_X2_strongest : GoodIn wsX2_allowsByLayers (wsV RX2 65 RX2 yX2_strongest wsX2_strongest) := goodIn_app (goodIn_of _ (by decide +kernel)) ggX2_allowsByLayers_X2_strongest
theorem dX2_allowsByLayers_0 : decode cX2_allowsByLayers 0 = .ok (.aload_n 0, 1) := by decide +kernel
theorem dX2_allowsByLayers_1 : decode cX2_allowsByLayers 1 = .ok (.invokevirtual 58, 3) := by decide +kernel
theorem dX2_allowsByLayers_4 : decode cX2_allowsByLayers 4 = .ok (.iload_n 1, 1) := by decide +kernel
theorem dX2_allowsByLayers_5 : decode cX2_allowsByLayers 5 = .ok (.iand, 1) := by decide +kernel
theorem dX2_allowsByLayers_6 : decode cX2_allowsByLayers 6 = .ok (.ifCond .ne 5, 3) := by decide +kernel
theorem dX2_allowsByLayers_9 : decode cX2_allowsByLayers 9 = .ok (.iconst 0, 1) := by decide +kernel
theorem dX2_allowsByLayers_10 : decode cX2_allowsByLayers 10 = .ok (.ireturn, 1) := by decide +kernel
theorem dX2_allowsByLayers_11 : decode cX2_allowsByLayers 11 = .ok (.iconst 0, 1) := by decide +kernel
theorem dX2_allowsByLayers_12 : decode cX2_allowsByLayers 12 = .ok (.istore_n 3, 1) := by decide +kernel
theorem dX2_allowsByLayers_13 : decode cX2_allowsByLayers 13 = .ok (.iconst 0, 1) := by decide +kernel
theorem dX2_allowsByLayers_14 : decode cX2_allowsByLayers 14 = .ok (.istore 4, 2) := by decide +kernel
theorem dX2_allowsByLayers_16 : decode cX2_allowsByLayers 16 = .ok (.iload 4, 2) := by decide +kernel
theorem dX2_allowsByLayers_18 : decode cX2_allowsByLayers 18 = .ok (.iconst 5, 1) := by decide +kernel
theorem dX2_allowsByLayers_19 : decode cX2_allowsByLayers 19 = .ok (.if_icmp .ge 40, 3) := by decide +kernel
theorem dX2_allowsByLayers_22 : decode cX2_allowsByLayers 22 = .ok (.iload_n 3, 1) := by decide +kernel
theorem dX2_allowsByLayers_23 : decode cX2_allowsByLayers 23 = .ok (.aload_n 0, 1) := by decide +kernel
theorem dX2_allowsByLayers_24 : decode cX2_allowsByLayers 24 = .ok (.iconst 2, 1) := by decide +kernel
theorem dX2_allowsByLayers_25 : decode cX2_allowsByLayers 25 = .ok (.iload 4, 2) := by decide +kernel
theorem dX2_allowsByLayers_27 : decode cX2_allowsByLayers 27 = .ok (.iload_n 1, 1) := by decide +kernel
theorem dX2_allowsByLayers_28 : decode cX2_allowsByLayers 28 = .ok (.invokevirtual 65, 3) := by decide +kernel
theorem dX2_allowsByLayers_31 : decode cX2_allowsByLayers 31 = .ok (.invokestatic 69, 3) := by decide +kernel
theorem dX2_allowsByLayers_34 : decode cX2_allowsByLayers 34 = .ok (.istore_n 3, 1) := by decide +kernel
theorem dX2_allowsByLayers_35 : decode cX2_allowsByLayers 35 = .ok (.aload_n 0, 1) := by decide +kernel
theorem dX2_allowsByLayers_36 : decode cX2_allowsByLayers 36 = .ok (.iconst 1, 1) := by decide +kernel
theorem dX2_allowsByLayers_37 : decode cX2_allowsByLayers 37 = .ok (.iload 4, 2) := by decide +kernel
theorem dX2_allowsByLayers_39 : decode cX2_allowsByLayers 39 = .ok (.iload_n 1, 1) := by decide +kernel
theorem dX2_allowsByLayers_40 : decode cX2_allowsByLayers 40 = .ok (.invokevirtual 65, 3) := by decide +kernel
theorem dX2_allowsByLayers_43 : decode cX2_allowsByLayers 43 = .ok (.iload_n 3, 1) := by decide +kernel
theorem dX2_allowsByLayers_44 : decode cX2_allowsByLayers 44 = .ok (.iload_n 2, 1) := by decide +kernel
theorem dX2_allowsByLayers_45 : decode cX2_allowsByLayers 45 = .ok (.invokestatic 69, 3) := by decide +kernel
theorem dX2_allowsByLayers_48 : decode cX2_allowsByLayers 48 = .ok (.if_icmp .le 5, 3) := by decide +kernel
theorem dX2_allowsByLayers_51 : decode cX2_allowsByLayers 51 = .ok (.iconst 0, 1) := by decide +kernel
theorem dX2_allowsByLayers_52 : decode cX2_allowsByLayers 52 = .ok (.ireturn, 1) := by decide +kernel
theorem dX2_allowsByLayers_53 : decode cX2_allowsByLayers 53 = .ok (.iinc 4 1, 3) := by decide +kernel
theorem dX2_allowsByLayers_56 : decode cX2_allowsByLayers 56 = .ok (.goto (-40), 3) := by decide +kernel
theorem dX2_allowsByLayers_59 : decode cX2_allowsByLayers 59 = .ok (.iconst 1, 1) := by decide +kernel
theorem dX2_allowsByLayers_60 : decode cX2_allowsByLayers 60 = .ok (.ireturn, 1) := by decide +kernel
theorem dX2_strongest_0 : decode cX2_strongest 0 = .ok (.iconst 0, 1) := by decide +kernel
theorem dX2_strongest_1 : decode cX2_strongest 1 = .ok (.istore 4, 2) := by decide +kernel
theorem dX2_strongest_3 : decode cX2_strongest 3 = .ok (.iconst 0, 1) := by decide +kernel
theorem dX2_strongest_4 : decode cX2_strongest 4 = .ok (.istore 5, 2) := by decide +kernel
theorem dX2_strongest_6 : decode cX2_strongest 6 = .ok (.iload 5, 2) := by decide +kernel
theorem dX2_strongest_8 : decode cX2_strongest 8 = .ok (.aload_n 0, 1) := by decide +kernel
theorem dX2_strongest_9 : decode cX2_strongest 9 = .ok (.getfield 30, 3) := by decide +kernel
theorem dX2_strongest_12 : decode cX2_strongest 12 = .ok (.if_icmp .ge 57, 3) := by decide +kernel
theorem dX2_strongest_15 : decode cX2_strongest 15 = .ok (.aload_n 0, 1) := by decide +kernel
theorem dX2_strongest_16 : decode cX2_strongest 16 = .ok (.getfield 15, 3) := by decide +kernel
theorem dX2_strongest_19 : decode cX2_strongest 19 = .ok (.iload 5, 2) := by decide +kernel
theorem dX2_strongest_21 : decode cX2_strongest 21 = .ok (.iaload, 1) := by decide +kernel
theorem dX2_strongest_22 : decode cX2_strongest 22 = .ok (.iload_n 1, 1) := by decide +kernel
theorem dX2_strongest_23 : decode cX2_strongest 23 = .ok (.if_icmp .ne 40, 3) := by decide +kernel
theorem dX2_strongest_26 : decode cX2_strongest 26 = .ok (.aload_n 0, 1) := by decide +kernel
theorem dX2_strongest_27 : decode cX2_strongest 27 = .ok (.getfield 11, 3) := by decide +kernel
theorem dX2_strongest_30 : decode cX2_strongest 30 = .ok (.iload 5, 2) := by decide +kernel
theorem dX2_strongest_32 : decode cX2_strongest 32 = .ok (.iaload, 1) := by decide +kernel
theorem dX2_strongest_33 : decode cX2_strongest 33 = .ok (.iload_n 2, 1) := by decide +kernel
theorem dX2_strongest_34 : decode cX2_strongest 34 = .ok (.if_icmp .ne 29, 3) := by decide +kernel
theorem dX2_strongest_37 : decode cX2_strongest 37 = .ok (.aload_n 0, 1) := by decide +kernel
theorem dX2_strongest_38 : decode cX2_strongest 38 = .ok (.getfield 27, 3) := by decide +kernel
theorem dX2_strongest_41 : decode cX2_strongest 41 = .ok (.iload 5, 2) := by decide +kernel
theorem dX2_strongest_43 : decode cX2_strongest 43 = .ok (.iaload, 1) := by decide +kernel
theorem dX2_strongest_44 : decode cX2_strongest 44 = .ok (.iload_n 3, 1) := by decide +kernel
theorem dX2_strongest_45 : decode cX2_strongest 45 = .ok (.iand, 1) := by decide +kernel
theorem dX2_strongest_46 : decode cX2_strongest 46 = .ok (.ifCond .eq 17, 3) := by decide +kernel
theorem dX2_strongest_49 : decode cX2_strongest 49 = .ok (.iload 4, 2) := by decide +kernel
theorem dX2_strongest_51 : decode cX2_strongest 51 = .ok (.aload_n 0, 1) := by decide +kernel
theorem dX2_strongest_52 : decode cX2_strongest 52 = .ok (.getfield 24, 3) := by decide +kernel
theorem dX2_strongest_55 : decode cX2_strongest 55 = .ok (.iload 5, 2) := by decide +kernel
theorem dX2_strongest_57 : decode cX2_strongest 57 = .ok (.iaload, 1) := by decide +kernel
theorem dX2_strongest_58 : decode cX2_strongest 58 = .ok (.invokestatic 69, 3) := by decide +kernel
theorem dX2_strongest_61 : decode cX2_strongest 61 = .ok (.istore 4, 2) := by decide +kernel
theorem dX2_strongest_63 : decode cX2_strongest 63 = .ok (.iinc 5 1, 3) := by decide +kernel
theorem dX2_strongest_66 : decode cX2_strongest 66 = .ok (.goto (-60), 3) := by decide +kernel
theorem dX2_strongest_69 : decode cX2_strongest 69 = .ok (.iload 4, 2) := by decide +kernel
theorem dX2_strongest_71 : decode cX2_strongest 71 = .ok (.ireturn, 1) := by decide +kernel
set_option maxRecDepth 20000 in
theorem ggX2_allowedPairs_X2_permittedPairs : GoodIn wsX2_allowedPairs wsX2_permittedPairs := goodIn_r _ [5, 6, 7, 8, 23, 24, 25, 26, 27, 28, 29] (by decide +kernel) (by decide +kernel)
set_option maxRecDepth 20000 in
theorem gX2_allowedPairs_X2_permittedPairs : GoodIn wsX2_allowedPairs (wsV RX2 58 RX2 yX2_permittedPairs wsX2_permittedPairs) := goodIn_app (goodIn_of _ (by decide +kernel)) ggX2_allowedPairs_X2_permittedPairs
set_option maxRecDepth 20000 in
theorem ggX2_allowedPairs_X2_heldPairsOfSeal : GoodIn wsX2_allowedPairs wsX2_heldPairsOfSeal := goodIn_r _ [12, 6, 7, 13, 14, 15, 16, 4, 17, 8, 18, 19, 20, 21, 22, 23, 24, 25, 26, 27, 28, 29] (by decide +kernel) (by decide +kernel)
set_option maxRecDepth 20000 in
theorem gX2_allowedPairs_X2_heldPairsOfSeal : GoodIn wsX2_allowedPairs (wsV RX2 74 RX2 yX2_heldPairsOfSeal wsX2_heldPairsOfSeal) := goodIn_app (goodIn_of _ (by decide +kernel)) ggX2_allowedPairs_X2_heldPairsOfSeal
theorem dX2_allowedPairs_0 : decode cX2_allowedPairs 0 = .ok (.aload_n 0, 1) := by decide +kernel
theorem dX2_allowedPairs_1 : decode cX2_allowedPairs 1 = .ok (.invokevirtual 58, 3) := by decide +kernel
theorem dX2_allowedPairs_4 : decode cX2_allowedPairs 4 = .ok (.istore_n 2, 1) := by decide +kernel
theorem dX2_allowedPairs_5 : decode cX2_allowedPairs 5 = .ok (.bipush 9, 2) := by decide +kernel
theorem dX2_allowedPairs_7 : decode cX2_allowedPairs 7 = .ok (.istore_n 3, 1) := by decide +kernel
theorem dX2_allowedPairs_8 : decode cX2_allowedPairs 8 = .ok (.iload_n 3, 1) := by decide +kernel
theorem dX2_allowedPairs_9 : decode cX2_allowedPairs 9 = .ok (.iload_n 1, 1) := by decide +kernel
theorem dX2_allowedPairs_10 : decode cX2_allowedPairs 10 = .ok (.if_icmp .le 19, 3) := by decide +kernel
theorem dX2_allowedPairs_13 : decode cX2_allowedPairs 13 = .ok (.iload_n 2, 1) := by decide +kernel
theorem dX2_allowedPairs_14 : decode cX2_allowedPairs 14 = .ok (.aload_n 0, 1) := by decide +kernel
theorem dX2_allowedPairs_15 : decode cX2_allowedPairs 15 = .ok (.iload_n 3, 1) := by decide +kernel
theorem dX2_allowedPairs_16 : decode cX2_allowedPairs 16 = .ok (.invokevirtual 74, 3) := by decide +kernel
theorem dX2_allowedPairs_19 : decode cX2_allowedPairs 19 = .ok (.iconst (-1), 1) := by decide +kernel
theorem dX2_allowedPairs_20 : decode cX2_allowedPairs 20 = .ok (.ixor, 1) := by decide +kernel
theorem dX2_allowedPairs_21 : decode cX2_allowedPairs 21 = .ok (.iand, 1) := by decide +kernel
theorem dX2_allowedPairs_22 : decode cX2_allowedPairs 22 = .ok (.istore_n 2, 1) := by decide +kernel
theorem dX2_allowedPairs_23 : decode cX2_allowedPairs 23 = .ok (.iinc 3 (-1), 3) := by decide +kernel
theorem dX2_allowedPairs_26 : decode cX2_allowedPairs 26 = .ok (.goto (-18), 3) := by decide +kernel
theorem dX2_allowedPairs_29 : decode cX2_allowedPairs 29 = .ok (.iload_n 2, 1) := by decide +kernel
theorem dX2_allowedPairs_30 : decode cX2_allowedPairs 30 = .ok (.ireturn, 1) := by decide +kernel
set_option maxRecDepth 20000 in
theorem ggX2_triples_X2_permittedPairs : GoodIn wsX2_triples wsX2_permittedPairs := goodIn_r _ [5, 6, 7, 8, 30, 31, 32, 33, 34, 35, 36] (by decide +kernel) (by decide +kernel)
set_option maxRecDepth 20000 in
theorem gX2_triples_X2_permittedPairs : GoodIn wsX2_triples (wsV RX2 58 RX2 yX2_permittedPairs wsX2_permittedPairs) := goodIn_app (goodIn_of _ (by decide +kernel)) ggX2_triples_X2_permittedPairs
set_option maxRecDepth 20000 in
theorem ggX2_triples_J6_bitCount_0f7a4 : GoodIn wsX2_triples wsJ6_bitCount_0f7a4 := goodIn_r _ [12, 13, 14, 15] (by decide +kernel) (by decide +kernel)
set_option maxRecDepth 20000 in
theorem gX2_triples_J6_bitCount_0f7a4 : GoodIn wsX2_triples (va_wsS RX2 77 yJ6_bitCount_0f7a4 wsJ6_bitCount_0f7a4) := goodIn_app (goodIn_of _ (by decide +kernel)) ggX2_triples_J6_bitCount_0f7a4
set_option maxRecDepth 20000 in
theorem ggX2_triples_X2_heldPairsOfSeal : GoodIn wsX2_triples wsX2_heldPairsOfSeal := goodIn_r _ [19, 6, 7, 20, 21, 22, 23, 4, 24, 8, 25, 26, 27, 28, 29, 30, 31, 32, 33, 34, 35, 36] (by decide +kernel) (by decide +kernel)
set_option maxRecDepth 20000 in
theorem gX2_triples_X2_heldPairsOfSeal : GoodIn wsX2_triples (wsV RX2 74 RX2 yX2_heldPairsOfSeal wsX2_heldPairsOfSeal) := goodIn_app (goodIn_of _ (by decide +kernel)) ggX2_triples_X2_heldPairsOfSeal
theorem dX2_triples_0 : decode cX2_triples 0 = .ok (.aload_n 0, 1) := by decide +kernel
theorem dX2_triples_1 : decode cX2_triples 1 = .ok (.invokevirtual 58, 3) := by decide +kernel
theorem dX2_triples_4 : decode cX2_triples 4 = .ok (.istore_n 1, 1) := by decide +kernel
theorem dX2_triples_5 : decode cX2_triples 5 = .ok (.iload_n 1, 1) := by decide +kernel
theorem dX2_triples_6 : decode cX2_triples 6 = .ok (.invokestatic 77, 3) := by decide +kernel
theorem dX2_triples_9 : decode cX2_triples 9 = .ok (.istore_n 2, 1) := by decide +kernel
theorem dX2_triples_10 : decode cX2_triples 10 = .ok (.bipush 9, 2) := by decide +kernel
theorem dX2_triples_12 : decode cX2_triples 12 = .ok (.istore_n 3, 1) := by decide +kernel
theorem dX2_triples_13 : decode cX2_triples 13 = .ok (.iload_n 3, 1) := by decide +kernel
theorem dX2_triples_14 : decode cX2_triples 14 = .ok (.iconst 1, 1) := by decide +kernel
theorem dX2_triples_15 : decode cX2_triples 15 = .ok (.if_icmp .lt 26, 3) := by decide +kernel
theorem dX2_triples_18 : decode cX2_triples 18 = .ok (.iload_n 1, 1) := by decide +kernel
theorem dX2_triples_19 : decode cX2_triples 19 = .ok (.aload_n 0, 1) := by decide +kernel
theorem dX2_triples_20 : decode cX2_triples 20 = .ok (.iload_n 3, 1) := by decide +kernel
theorem dX2_triples_21 : decode cX2_triples 21 = .ok (.invokevirtual 74, 3) := by decide +kernel
theorem dX2_triples_24 : decode cX2_triples 24 = .ok (.iconst (-1), 1) := by decide +kernel
theorem dX2_triples_25 : decode cX2_triples 25 = .ok (.ixor, 1) := by decide +kernel
theorem dX2_triples_26 : decode cX2_triples 26 = .ok (.iand, 1) := by decide +kernel
theorem dX2_triples_27 : decode cX2_triples 27 = .ok (.istore_n 1, 1) := by decide +kernel
theorem dX2_triples_28 : decode cX2_triples 28 = .ok (.iload_n 2, 1) := by decide +kernel
theorem dX2_triples_29 : decode cX2_triples 29 = .ok (.iload_n 1, 1) := by decide +kernel
theorem dX2_triples_30 : decode cX2_triples 30 = .ok (.invokestatic 77, 3) := by decide +kernel
theorem dX2_triples_33 : decode cX2_triples 33 = .ok (.iadd, 1) := by decide +kernel
theorem dX2_triples_34 : decode cX2_triples 34 = .ok (.istore_n 2, 1) := by decide +kernel
theorem dX2_triples_35 : decode cX2_triples 35 = .ok (.iinc 3 (-1), 3) := by decide +kernel
theorem dX2_triples_38 : decode cX2_triples 38 = .ok (.goto (-25), 3) := by decide +kernel
theorem dX2_triples_41 : decode cX2_triples 41 = .ok (.iload_n 2, 1) := by decide +kernel
theorem dX2_triples_42 : decode cX2_triples 42 = .ok (.ireturn, 1) := by decide +kernel
set_option maxRecDepth 20000 in
theorem ggX2_leastRankFor_X2_permittedPairs : GoodIn wsX2_leastRankFor wsX2_permittedPairs := goodIn_r _ [5, 6, 7, 8, 23, 24, 25, 26, 27, 28, 29] (by decide +kernel) (by decide +kernel)
set_option maxRecDepth 20000 in
theorem gX2_leastRankFor_X2_permittedPairs : GoodIn wsX2_leastRankFor (wsV RX2 58 RX2 yX2_permittedPairs wsX2_permittedPairs) := goodIn_app (goodIn_of _ (by decide +kernel)) ggX2_leastRankFor_X2_permittedPairs
set_option maxRecDepth 20000 in
theorem ggX2_leastRankFor_X2_heldPairsOfSeal : GoodIn wsX2_leastRankFor wsX2_heldPairsOfSeal := goodIn_r _ [12, 6, 7, 13, 14, 15, 16, 4, 17, 8, 18, 19, 20, 21, 22, 23, 24, 25, 26, 27, 28, 29] (by decide +kernel) (by decide +kernel)
set_option maxRecDepth 20000 in
theorem gX2_leastRankFor_X2_heldPairsOfSeal : GoodIn wsX2_leastRankFor (wsV RX2 74 RX2 yX2_heldPairsOfSeal wsX2_heldPairsOfSeal) := goodIn_app (goodIn_of _ (by decide +kernel)) ggX2_leastRankFor_X2_heldPairsOfSeal
theorem dX2_leastRankFor_0 : decode cX2_leastRankFor 0 = .ok (.aload_n 0, 1) := by decide +kernel
theorem dX2_leastRankFor_1 : decode cX2_leastRankFor 1 = .ok (.invokevirtual 58, 3) := by decide +kernel
theorem dX2_leastRankFor_4 : decode cX2_leastRankFor 4 = .ok (.iload_n 1, 1) := by decide +kernel
theorem dX2_leastRankFor_5 : decode cX2_leastRankFor 5 = .ok (.iand, 1) := by decide +kernel
theorem dX2_leastRankFor_6 : decode cX2_leastRankFor 6 = .ok (.ifCond .ne 6, 3) := by decide +kernel
theorem dX2_leastRankFor_9 : decode cX2_leastRankFor 9 = .ok (.bipush (-6), 2) := by decide +kernel
theorem dX2_leastRankFor_11 : decode cX2_leastRankFor 11 = .ok (.ireturn, 1) := by decide +kernel
theorem dX2_leastRankFor_12 : decode cX2_leastRankFor 12 = .ok (.bipush 9, 2) := by decide +kernel
theorem dX2_leastRankFor_14 : decode cX2_leastRankFor 14 = .ok (.istore_n 2, 1) := by decide +kernel
theorem dX2_leastRankFor_15 : decode cX2_leastRankFor 15 = .ok (.iload_n 2, 1) := by decide +kernel
theorem dX2_leastRankFor_16 : decode cX2_leastRankFor 16 = .ok (.iconst 1, 1) := by decide +kernel
theorem dX2_leastRankFor_17 : decode cX2_leastRankFor 17 = .ok (.if_icmp .lt 21, 3) := by decide +kernel
theorem dX2_leastRankFor_20 : decode cX2_leastRankFor 20 = .ok (.aload_n 0, 1) := by decide +kernel
theorem dX2_leastRankFor_21 : decode cX2_leastRankFor 21 = .ok (.iload_n 2, 1) := by decide +kernel
theorem dX2_leastRankFor_22 : decode cX2_leastRankFor 22 = .ok (.invokevirtual 74, 3) := by decide +kernel
theorem dX2_leastRankFor_25 : decode cX2_leastRankFor 25 = .ok (.iload_n 1, 1) := by decide +kernel
theorem dX2_leastRankFor_26 : decode cX2_leastRankFor 26 = .ok (.iand, 1) := by decide +kernel
theorem dX2_leastRankFor_27 : decode cX2_leastRankFor 27 = .ok (.ifCond .eq 5, 3) := by decide +kernel
theorem dX2_leastRankFor_30 : decode cX2_leastRankFor 30 = .ok (.iload_n 2, 1) := by decide +kernel
theorem dX2_leastRankFor_31 : decode cX2_leastRankFor 31 = .ok (.ireturn, 1) := by decide +kernel
theorem dX2_leastRankFor_32 : decode cX2_leastRankFor 32 = .ok (.iinc 2 (-1), 3) := by decide +kernel
theorem dX2_leastRankFor_35 : decode cX2_leastRankFor 35 = .ok (.goto (-20), 3) := by decide +kernel
theorem dX2_leastRankFor_38 : decode cX2_leastRankFor 38 = .ok (.iconst 0, 1) := by decide +kernel
theorem dX2_leastRankFor_39 : decode cX2_leastRankFor 39 = .ok (.ireturn, 1) := by decide +kernel
theorem dX2_permittedPairs_0 : decode cX2_permittedPairs 0 = .ok (.iconst 0, 1) := by decide +kernel
theorem dX2_permittedPairs_1 : decode cX2_permittedPairs 1 = .ok (.istore_n 1, 1) := by decide +kernel
theorem dX2_permittedPairs_2 : decode cX2_permittedPairs 2 = .ok (.iconst 0, 1) := by decide +kernel
theorem dX2_permittedPairs_3 : decode cX2_permittedPairs 3 = .ok (.istore_n 2, 1) := by decide +kernel
theorem dX2_permittedPairs_4 : decode cX2_permittedPairs 4 = .ok (.iload_n 2, 1) := by decide +kernel
theorem dX2_permittedPairs_5 : decode cX2_permittedPairs 5 = .ok (.aload_n 0, 1) := by decide +kernel
theorem dX2_permittedPairs_6 : decode cX2_permittedPairs 6 = .ok (.getfield 30, 3) := by decide +kernel
theorem dX2_permittedPairs_9 : decode cX2_permittedPairs 9 = .ok (.if_icmp .ge 27, 3) := by decide +kernel
theorem dX2_permittedPairs_12 : decode cX2_permittedPairs 12 = .ok (.aload_n 0, 1) := by decide +kernel
theorem dX2_permittedPairs_13 : decode cX2_permittedPairs 13 = .ok (.getfield 15, 3) := by decide +kernel
theorem dX2_permittedPairs_16 : decode cX2_permittedPairs 16 = .ok (.iload_n 2, 1) := by decide +kernel
theorem dX2_permittedPairs_17 : decode cX2_permittedPairs 17 = .ok (.iaload, 1) := by decide +kernel
theorem dX2_permittedPairs_18 : decode cX2_permittedPairs 18 = .ok (.ifCond .ne 12, 3) := by decide +kernel
theorem dX2_permittedPairs_21 : decode cX2_permittedPairs 21 = .ok (.iload_n 1, 1) := by decide +kernel
theorem dX2_permittedPairs_22 : decode cX2_permittedPairs 22 = .ok (.aload_n 0, 1) := by decide +kernel
theorem dX2_permittedPairs_23 : decode cX2_permittedPairs 23 = .ok (.getfield 27, 3) := by decide +kernel
theorem dX2_permittedPairs_26 : decode cX2_permittedPairs 26 = .ok (.iload_n 2, 1) := by decide +kernel
theorem dX2_permittedPairs_27 : decode cX2_permittedPairs 27 = .ok (.iaload, 1) := by decide +kernel
theorem dX2_permittedPairs_28 : decode cX2_permittedPairs 28 = .ok (.ior, 1) := by decide +kernel
theorem dX2_permittedPairs_29 : decode cX2_permittedPairs 29 = .ok (.istore_n 1, 1) := by decide +kernel
theorem dX2_permittedPairs_30 : decode cX2_permittedPairs 30 = .ok (.iinc 2 1, 3) := by decide +kernel
theorem dX2_permittedPairs_33 : decode cX2_permittedPairs 33 = .ok (.goto (-29), 3) := by decide +kernel
theorem dX2_permittedPairs_36 : decode cX2_permittedPairs 36 = .ok (.iload_n 1, 1) := by decide +kernel
theorem dX2_permittedPairs_37 : decode cX2_permittedPairs 37 = .ok (.ireturn, 1) := by decide +kernel
set_option maxRecDepth 20000 in
theorem ggX2_heldPairsOfSeal_X2_heldPairs : GoodIn wsX2_heldPairsOfSeal wsX2_heldPairs := goodIn_r _ [8, 9, 1, 10, 11, 12, 7, 13, 2, 14, 3, 15, 16, 17, 18, 19, 20, 21] (by decide +kernel) (by decide +kernel)
set_option maxRecDepth 20000 in
theorem gX2_heldPairsOfSeal_X2_heldPairs : GoodIn wsX2_heldPairsOfSeal (wsV RX2 62 RX2 yX2_heldPairs wsX2_heldPairs) := goodIn_app (goodIn_of _ (by decide +kernel)) ggX2_heldPairsOfSeal_X2_heldPairs
theorem dX2_heldPairsOfSeal_0 : decode cX2_heldPairsOfSeal 0 = .ok (.iconst 0, 1) := by decide +kernel
theorem dX2_heldPairsOfSeal_1 : decode cX2_heldPairsOfSeal 1 = .ok (.istore_n 2, 1) := by decide +kernel
theorem dX2_heldPairsOfSeal_2 : decode cX2_heldPairsOfSeal 2 = .ok (.iconst 0, 1) := by decide +kernel
theorem dX2_heldPairsOfSeal_3 : decode cX2_heldPairsOfSeal 3 = .ok (.istore_n 3, 1) := by decide +kernel
theorem dX2_heldPairsOfSeal_4 : decode cX2_heldPairsOfSeal 4 = .ok (.iload_n 3, 1) := by decide +kernel
theorem dX2_heldPairsOfSeal_5 : decode cX2_heldPairsOfSeal 5 = .ok (.aload_n 0, 1) := by decide +kernel
theorem dX2_heldPairsOfSeal_6 : decode cX2_heldPairsOfSeal 6 = .ok (.getfield 30, 3) := by decide +kernel
theorem dX2_heldPairsOfSeal_9 : decode cX2_heldPairsOfSeal 9 = .ok (.if_icmp .ge 37, 3) := by decide +kernel
theorem dX2_heldPairsOfSeal_12 : decode cX2_heldPairsOfSeal 12 = .ok (.aload_n 0, 1) := by decide +kernel
theorem dX2_heldPairsOfSeal_13 : decode cX2_heldPairsOfSeal 13 = .ok (.getfield 15, 3) := by decide +kernel
theorem dX2_heldPairsOfSeal_16 : decode cX2_heldPairsOfSeal 16 = .ok (.iload_n 3, 1) := by decide +kernel
theorem dX2_heldPairsOfSeal_17 : decode cX2_heldPairsOfSeal 17 = .ok (.iaload, 1) := by decide +kernel
theorem dX2_heldPairsOfSeal_18 : decode cX2_heldPairsOfSeal 18 = .ok (.iconst 1, 1) := by decide +kernel
theorem dX2_heldPairsOfSeal_19 : decode cX2_heldPairsOfSeal 19 = .ok (.if_icmp .ne 21, 3) := by decide +kernel
theorem dX2_heldPairsOfSeal_22 : decode cX2_heldPairsOfSeal 22 = .ok (.aload_n 0, 1) := by decide +kernel
theorem dX2_heldPairsOfSeal_23 : decode cX2_heldPairsOfSeal 23 = .ok (.getfield 24, 3) := by decide +kernel
theorem dX2_heldPairsOfSeal_26 : decode cX2_heldPairsOfSeal 26 = .ok (.iload_n 3, 1) := by decide +kernel
theorem dX2_heldPairsOfSeal_27 : decode cX2_heldPairsOfSeal 27 = .ok (.iaload, 1) := by decide +kernel
theorem dX2_heldPairsOfSeal_28 : decode cX2_heldPairsOfSeal 28 = .ok (.iload_n 1, 1) := by decide +kernel
theorem dX2_heldPairsOfSeal_29 : decode cX2_heldPairsOfSeal 29 = .ok (.if_icmp .ne 11, 3) := by decide +kernel
theorem dX2_heldPairsOfSeal_32 : decode cX2_heldPairsOfSeal 32 = .ok (.iload_n 2, 1) := by decide +kernel
theorem dX2_heldPairsOfSeal_33 : decode cX2_heldPairsOfSeal 33 = .ok (.aload_n 0, 1) := by decide +kernel
theorem dX2_heldPairsOfSeal_34 : decode cX2_heldPairsOfSeal 34 = .ok (.iload_n 3, 1) := by decide +kernel
theorem dX2_heldPairsOfSeal_35 : decode cX2_heldPairsOfSeal 35 = .ok (.invokevirtual 62, 3) := by decide +kernel
theorem dX2_heldPairsOfSeal_38 : decode cX2_heldPairsOfSeal 38 = .ok (.ior, 1) := by decide +kernel
theorem dX2_heldPairsOfSeal_39 : decode cX2_heldPairsOfSeal 39 = .ok (.istore_n 2, 1) := by decide +kernel
theorem dX2_heldPairsOfSeal_40 : decode cX2_heldPairsOfSeal 40 = .ok (.iinc 3 1, 3) := by decide +kernel
theorem dX2_heldPairsOfSeal_43 : decode cX2_heldPairsOfSeal 43 = .ok (.goto (-39), 3) := by decide +kernel
theorem dX2_heldPairsOfSeal_46 : decode cX2_heldPairsOfSeal 46 = .ok (.iload_n 2, 1) := by decide +kernel
theorem dX2_heldPairsOfSeal_47 : decode cX2_heldPairsOfSeal 47 = .ok (.ireturn, 1) := by decide +kernel
set_option maxRecDepth 20000 in
theorem ggX2_heldPairs_X2_lifts : GoodIn wsX2_heldPairs wsX2_lifts := goodIn_r _ [7, 8, 9, 10, 11, 12, 13, 14, 15, 16, 17] (by decide +kernel) (by decide +kernel)
set_option maxRecDepth 20000 in
theorem gX2_heldPairs_X2_lifts : GoodIn wsX2_heldPairs (wsV RX2 82 RX2 yX2_lifts wsX2_lifts) := goodIn_app (goodIn_of _ (by decide +kernel)) ggX2_heldPairs_X2_lifts
theorem dX2_heldPairs_0 : decode cX2_heldPairs 0 = .ok (.aload_n 0, 1) := by decide +kernel
theorem dX2_heldPairs_1 : decode cX2_heldPairs 1 = .ok (.getfield 27, 3) := by decide +kernel
theorem dX2_heldPairs_4 : decode cX2_heldPairs 4 = .ok (.iload_n 1, 1) := by decide +kernel
theorem dX2_heldPairs_5 : decode cX2_heldPairs 5 = .ok (.iaload, 1) := by decide +kernel
theorem dX2_heldPairs_6 : decode cX2_heldPairs 6 = .ok (.istore_n 2, 1) := by decide +kernel
theorem dX2_heldPairs_7 : decode cX2_heldPairs 7 = .ok (.iconst 0, 1) := by decide +kernel
theorem dX2_heldPairs_8 : decode cX2_heldPairs 8 = .ok (.istore_n 3, 1) := by decide +kernel
theorem dX2_heldPairs_9 : decode cX2_heldPairs 9 = .ok (.iload_n 3, 1) := by decide +kernel
theorem dX2_heldPairs_10 : decode cX2_heldPairs 10 = .ok (.aload_n 0, 1) := by decide +kernel
theorem dX2_heldPairs_11 : decode cX2_heldPairs 11 = .ok (.getfield 30, 3) := by decide +kernel
theorem dX2_heldPairs_14 : decode cX2_heldPairs 14 = .ok (.if_icmp .ge 29, 3) := by decide +kernel
theorem dX2_heldPairs_17 : decode cX2_heldPairs 17 = .ok (.aload_n 0, 1) := by decide +kernel
theorem dX2_heldPairs_18 : decode cX2_heldPairs 18 = .ok (.iload_n 3, 1) := by decide +kernel
theorem dX2_heldPairs_19 : decode cX2_heldPairs 19 = .ok (.iload_n 1, 1) := by decide +kernel
theorem dX2_heldPairs_20 : decode cX2_heldPairs 20 = .ok (.invokevirtual 82, 3) := by decide +kernel
theorem dX2_heldPairs_23 : decode cX2_heldPairs 23 = .ok (.ifCond .eq 14, 3) := by decide +kernel
theorem dX2_heldPairs_26 : decode cX2_heldPairs 26 = .ok (.iload_n 2, 1) := by decide +kernel
theorem dX2_heldPairs_27 : decode cX2_heldPairs 27 = .ok (.aload_n 0, 1) := by decide +kernel
theorem dX2_heldPairs_28 : decode cX2_heldPairs 28 = .ok (.getfield 27, 3) := by decide +kernel
theorem dX2_heldPairs_31 : decode cX2_heldPairs 31 = .ok (.iload_n 3, 1) := by decide +kernel
theorem dX2_heldPairs_32 : decode cX2_heldPairs 32 = .ok (.iaload, 1) := by decide +kernel
theorem dX2_heldPairs_33 : decode cX2_heldPairs 33 = .ok (.iconst (-1), 1) := by decide +kernel
theorem dX2_heldPairs_34 : decode cX2_heldPairs 34 = .ok (.ixor, 1) := by decide +kernel
theorem dX2_heldPairs_35 : decode cX2_heldPairs 35 = .ok (.iand, 1) := by decide +kernel
theorem dX2_heldPairs_36 : decode cX2_heldPairs 36 = .ok (.istore_n 2, 1) := by decide +kernel
theorem dX2_heldPairs_37 : decode cX2_heldPairs 37 = .ok (.iinc 3 1, 3) := by decide +kernel
theorem dX2_heldPairs_40 : decode cX2_heldPairs 40 = .ok (.goto (-31), 3) := by decide +kernel
theorem dX2_heldPairs_43 : decode cX2_heldPairs 43 = .ok (.iload_n 2, 1) := by decide +kernel
theorem dX2_heldPairs_44 : decode cX2_heldPairs 44 = .ok (.ireturn, 1) := by decide +kernel
theorem dX2_lifts_0 : decode cX2_lifts 0 = .ok (.aload_n 0, 1) := by decide +kernel
theorem dX2_lifts_1 : decode cX2_lifts 1 = .ok (.getfield 15, 3) := by decide +kernel
theorem dX2_lifts_4 : decode cX2_lifts 4 = .ok (.iload_n 1, 1) := by decide +kernel
theorem dX2_lifts_5 : decode cX2_lifts 5 = .ok (.iaload, 1) := by decide +kernel
theorem dX2_lifts_6 : decode cX2_lifts 6 = .ok (.iconst 2, 1) := by decide +kernel
theorem dX2_lifts_7 : decode cX2_lifts 7 = .ok (.if_icmp .ne 37, 3) := by decide +kernel
theorem dX2_lifts_10 : decode cX2_lifts 10 = .ok (.aload_n 0, 1) := by decide +kernel
theorem dX2_lifts_11 : decode cX2_lifts 11 = .ok (.getfield 11, 3) := by decide +kernel
theorem dX2_lifts_14 : decode cX2_lifts 14 = .ok (.iload_n 1, 1) := by decide +kernel
theorem dX2_lifts_15 : decode cX2_lifts 15 = .ok (.iaload, 1) := by decide +kernel
theorem dX2_lifts_16 : decode cX2_lifts 16 = .ok (.aload_n 0, 1) := by decide +kernel
theorem dX2_lifts_17 : decode cX2_lifts 17 = .ok (.getfield 11, 3) := by decide +kernel
theorem dX2_lifts_20 : decode cX2_lifts 20 = .ok (.iload_n 2, 1) := by decide +kernel
theorem dX2_lifts_21 : decode cX2_lifts 21 = .ok (.iaload, 1) := by decide +kernel
theorem dX2_lifts_22 : decode cX2_lifts 22 = .ok (.if_icmp .gt 22, 3) := by decide +kernel
theorem dX2_lifts_25 : decode cX2_lifts 25 = .ok (.aload_n 0, 1) := by decide +kernel
theorem dX2_lifts_26 : decode cX2_lifts 26 = .ok (.getfield 24, 3) := by decide +kernel
theorem dX2_lifts_29 : decode cX2_lifts 29 = .ok (.iload_n 1, 1) := by decide +kernel
theorem dX2_lifts_30 : decode cX2_lifts 30 = .ok (.iaload, 1) := by decide +kernel
theorem dX2_lifts_31 : decode cX2_lifts 31 = .ok (.aload_n 0, 1) := by decide +kernel
theorem dX2_lifts_32 : decode cX2_lifts 32 = .ok (.getfield 24, 3) := by decide +kernel
theorem dX2_lifts_35 : decode cX2_lifts 35 = .ok (.iload_n 2, 1) := by decide +kernel
theorem dX2_lifts_36 : decode cX2_lifts 36 = .ok (.iaload, 1) := by decide +kernel
theorem dX2_lifts_37 : decode cX2_lifts 37 = .ok (.if_icmp .lt 7, 3) := by decide +kernel
theorem dX2_lifts_40 : decode cX2_lifts 40 = .ok (.iconst 1, 1) := by decide +kernel
theorem dX2_lifts_41 : decode cX2_lifts 41 = .ok (.goto 4, 3) := by decide +kernel
theorem dX2_lifts_44 : decode cX2_lifts 44 = .ok (.iconst 0, 1) := by decide +kernel
theorem dX2_lifts_45 : decode cX2_lifts 45 = .ok (.ireturn, 1) := by decide +kernel
set_option maxRecDepth 20000 in
theorem ggX3_init_X2_init : GoodIn wsX3_init wsX2_init := goodIn_r _ [13, 14, 2, 3, 15, 16, 17, 18, 19, 20, 21, 22, 33, 34, 35, 36, 37, 38, 39] (by decide +kernel) (by decide +kernel)
set_option maxRecDepth 20000 in
theorem gX3_init_X2_init_n9 : GoodIn wsX3_init (wsX2_init) := ggX3_init_X2_init
set_option maxRecDepth 20000 in
theorem ggX3_init_X0_init : GoodIn wsX3_init wsX0_init := goodIn_r _ [24, 25, 2, 3, 15, 26, 27, 28, 29, 30, 31, 32, 42, 43, 44, 45, 46, 47, 48] (by decide +kernel) (by decide +kernel)
set_option maxRecDepth 20000 in
theorem gX3_init_X0_init_n18 : GoodIn wsX3_init (wsX0_init) := ggX3_init_X0_init
theorem dX3_init_0 : decode cX3_init 0 = .ok (.aload_n 0, 1) := by decide +kernel
theorem dX3_init_1 : decode cX3_init 1 = .ok (.invokespecial 1, 3) := by decide +kernel
theorem dX3_init_4 : decode cX3_init 4 = .ok (.aload_n 0, 1) := by decide +kernel
theorem dX3_init_5 : decode cX3_init 5 = .ok (.new 7, 3) := by decide +kernel
theorem dX3_init_8 : decode cX3_init 8 = .ok (.dup, 1) := by decide +kernel
theorem dX3_init_9 : decode cX3_init 9 = .ok (.invokespecial 9, 3) := by decide +kernel
theorem dX3_init_12 : decode cX3_init 12 = .ok (.putfield 10, 3) := by decide +kernel
theorem dX3_init_15 : decode cX3_init 15 = .ok (.aload_n 0, 1) := by decide +kernel
theorem dX3_init_16 : decode cX3_init 16 = .ok (.new 16, 3) := by decide +kernel
theorem dX3_init_19 : decode cX3_init 19 = .ok (.dup, 1) := by decide +kernel
theorem dX3_init_20 : decode cX3_init 20 = .ok (.invokespecial 18, 3) := by decide +kernel
theorem dX3_init_23 : decode cX3_init 23 = .ok (.putfield 19, 3) := by decide +kernel
theorem dX3_init_26 : decode cX3_init 26 = .ok (.return_, 1) := by decide +kernel
set_option maxRecDepth 20000 in
theorem ggX3_copyFrom_X2_copyFrom : GoodIn wsX3_copyFrom wsX2_copyFrom := goodIn_r _ [7, 8, 9, 10, 11, 12, 13, 14, 15, 16, 17, 18, 19, 20, 21, 22, 23, 24, 25, 40, 41, 42, 43, 44, 45, 46] (by decide +kernel) (by decide +kernel)
set_option maxRecDepth 20000 in
theorem gX3_copyFrom_X2_copyFrom : GoodIn wsX3_copyFrom (wsV RX3 23 RX2 yX2_copyFrom wsX2_copyFrom) := goodIn_app (goodIn_of _ (by decide +kernel)) ggX3_copyFrom_X2_copyFrom
set_option maxRecDepth 20000 in
theorem ggX3_copyFrom_X0_copyFrom : GoodIn wsX3_copyFrom wsX0_copyFrom := goodIn_r _ [30, 31, 32, 33, 34, 35, 36, 37, 15, 16, 17, 18, 19, 20, 21, 22, 23, 24, 25, 47, 48, 49, 50, 51, 52, 53] (by decide +kernel) (by decide +kernel)
set_option maxRecDepth 20000 in
theorem gX3_copyFrom_X0_copyFrom : GoodIn wsX3_copyFrom (wsV RX3 27 RX0 yX0_copyFrom wsX0_copyFrom) := goodIn_app (goodIn_of _ (by decide +kernel)) ggX3_copyFrom_X0_copyFrom
theorem dX3_copyFrom_0 : decode cX3_copyFrom 0 = .ok (.aload_n 0, 1) := by decide +kernel
theorem dX3_copyFrom_1 : decode cX3_copyFrom 1 = .ok (.getfield 10, 3) := by decide +kernel
theorem dX3_copyFrom_4 : decode cX3_copyFrom 4 = .ok (.aload_n 1, 1) := by decide +kernel
theorem dX3_copyFrom_5 : decode cX3_copyFrom 5 = .ok (.getfield 10, 3) := by decide +kernel
theorem dX3_copyFrom_8 : decode cX3_copyFrom 8 = .ok (.invokevirtual 23, 3) := by decide +kernel
theorem dX3_copyFrom_11 : decode cX3_copyFrom 11 = .ok (.aload_n 0, 1) := by decide +kernel
theorem dX3_copyFrom_12 : decode cX3_copyFrom 12 = .ok (.getfield 19, 3) := by decide +kernel
theorem dX3_copyFrom_15 : decode cX3_copyFrom 15 = .ok (.aload_n 1, 1) := by decide +kernel
theorem dX3_copyFrom_16 : decode cX3_copyFrom 16 = .ok (.getfield 19, 3) := by decide +kernel
theorem dX3_copyFrom_19 : decode cX3_copyFrom 19 = .ok (.invokevirtual 27, 3) := by decide +kernel
theorem dX3_copyFrom_22 : decode cX3_copyFrom 22 = .ok (.return_, 1) := by decide +kernel
set_option maxRecDepth 20000 in
theorem ggX4_init_X3_init : GoodIn wsX4_init wsX3_init := goodIn_r _ [20, 21, 2, 3, 22, 16, 17, 23, 24, 25, 26, 27, 28, 29, 30, 31, 32, 33, 34, 35, 36, 37, 38, 39, 40, 41, 42, 43, 44, 45, 46, 47, 48, 65, 66, 67, 68, 69, 70, 71, 55, 56, 72, 73, 74, 75, 76, 77, 78] (by decide +kernel) (by decide +kernel)
set_option maxRecDepth 20000 in
theorem gX4_init_X3_init_n11 : GoodIn wsX4_init (wsX3_init) := ggX4_init_X3_init
set_option maxRecDepth 20000 in
theorem ggX4_init_X1_init : GoodIn wsX4_init wsX1_init := goodIn_r _ [50, 51, 2, 3, 52, 53, 54, 63, 64] (by decide +kernel) (by decide +kernel)
set_option maxRecDepth 20000 in
theorem gX4_init_X1_init_n18 : GoodIn wsX4_init (wsX1_init) := ggX4_init_X1_init
set_option maxRecDepth 20000 in
theorem ggX4_init_X2_init : GoodIn wsX4_init wsX2_init := goodIn_r _ [29, 30, 2, 3, 31, 32, 33, 34, 35, 36, 37, 38, 65, 66, 67, 68, 69, 70, 71] (by decide +kernel) (by decide +kernel)
set_option maxRecDepth 20000 in
theorem gX4_init_X2_init_n36 : GoodIn wsX4_init (wsX2_init) := ggX4_init_X2_init
theorem dX4_init_0 : decode cX4_init 0 = .ok (.aload_n 0, 1) := by decide +kernel
theorem dX4_init_1 : decode cX4_init 1 = .ok (.invokespecial 3, 3) := by decide +kernel
theorem dX4_init_4 : decode cX4_init 4 = .ok (.aload_n 0, 1) := by decide +kernel
theorem dX4_init_5 : decode cX4_init 5 = .ok (.new 9, 3) := by decide +kernel
theorem dX4_init_8 : decode cX4_init 8 = .ok (.dup, 1) := by decide +kernel
theorem dX4_init_9 : decode cX4_init 9 = .ok (.invokespecial 11, 3) := by decide +kernel
theorem dX4_init_12 : decode cX4_init 12 = .ok (.putfield 12, 3) := by decide +kernel
theorem dX4_init_15 : decode cX4_init 15 = .ok (.aload_n 0, 1) := by decide +kernel
theorem dX4_init_16 : decode cX4_init 16 = .ok (.new 16, 3) := by decide +kernel
theorem dX4_init_19 : decode cX4_init 19 = .ok (.dup, 1) := by decide +kernel
theorem dX4_init_20 : decode cX4_init 20 = .ok (.invokespecial 18, 3) := by decide +kernel
theorem dX4_init_23 : decode cX4_init 23 = .ok (.putfield 19, 3) := by decide +kernel
theorem dX4_init_26 : decode cX4_init 26 = .ok (.aload_n 0, 1) := by decide +kernel
theorem dX4_init_27 : decode cX4_init 27 = .ok (.iconst 2, 1) := by decide +kernel
theorem dX4_init_28 : decode cX4_init 28 = .ok (.anewarray 9, 3) := by decide +kernel
theorem dX4_init_31 : decode cX4_init 31 = .ok (.putfield 23, 3) := by decide +kernel
theorem dX4_init_34 : decode cX4_init 34 = .ok (.aload_n 0, 1) := by decide +kernel
theorem dX4_init_35 : decode cX4_init 35 = .ok (.bipush 6, 2) := by decide +kernel
theorem dX4_init_37 : decode cX4_init 37 = .ok (.anewarray 9, 3) := by decide +kernel
theorem dX4_init_40 : decode cX4_init 40 = .ok (.putfield 27, 3) := by decide +kernel
theorem dX4_init_43 : decode cX4_init 43 = .ok (.aload_n 0, 1) := by decide +kernel
theorem dX4_init_44 : decode cX4_init 44 = .ok (.iconst 0, 1) := by decide +kernel
theorem dX4_init_45 : decode cX4_init 45 = .ok (.putfield 30, 3) := by decide +kernel
theorem dX4_init_48 : decode cX4_init 48 = .ok (.aload_n 0, 1) := by decide +kernel
theorem dX4_init_49 : decode cX4_init 49 = .ok (.new 34, 3) := by decide +kernel
theorem dX4_init_52 : decode cX4_init 52 = .ok (.dup, 1) := by decide +kernel
theorem dX4_init_53 : decode cX4_init 53 = .ok (.invokespecial 36, 3) := by decide +kernel
theorem dX4_init_56 : decode cX4_init 56 = .ok (.putfield 37, 3) := by decide +kernel
theorem dX4_init_59 : decode cX4_init 59 = .ok (.return_, 1) := by decide +kernel
set_option maxRecDepth 20000 in
theorem ggX4_add_X4_isLayer : GoodIn wsX4_add wsX4_isLayer := goodIn_r _ [7, 8, 9, 6, 10] (by decide +kernel) (by decide +kernel)
set_option maxRecDepth 20000 in
theorem gX4_add_X4_isLayer : GoodIn wsX4_add (va_wsS RX4 41 yX4_isLayer wsX4_isLayer) := goodIn_app (goodIn_of _ (by decide +kernel)) ggX4_add_X4_isLayer
set_option maxRecDepth 20000 in
theorem ggX4_add_X4_isBetween : GoodIn wsX4_add wsX4_isBetween := goodIn_r _ [10] (by decide +kernel) (by decide +kernel)
set_option maxRecDepth 20000 in
theorem gX4_add_X4_isBetween : GoodIn wsX4_add (va_wsS RX4 45 yX4_isBetween wsX4_isBetween) := goodIn_app (goodIn_of _ (by decide +kernel)) ggX4_add_X4_isBetween
set_option maxRecDepth 20000 in
theorem ggX4_add_X4_isSeal : GoodIn wsX4_add wsX4_isSeal := goodIn_r _ [13, 8, 9, 6, 10] (by decide +kernel) (by decide +kernel)
set_option maxRecDepth 20000 in
theorem gX4_add_X4_isSeal : GoodIn wsX4_add (va_wsS RX4 49 yX4_isSeal wsX4_isSeal) := goodIn_app (goodIn_of _ (by decide +kernel)) ggX4_add_X4_isSeal
set_option maxRecDepth 20000 in
theorem ggX4_add_X4_remember : GoodIn wsX4_add wsX4_remember := goodIn_r _ [17, 18, 19, 20, 21, 22, 6, 23, 24, 25, 26, 27, 28, 29, 30, 1, 31, 32, 33, 34, 35, 36, 37, 38, 39, 40, 41, 42, 43, 44, 45, 46, 47, 48, 49, 50, 51, 52, 53, 54, 55, 56, 57, 58, 59, 60, 61, 62, 63, 64, 65, 66, 67, 68, 69, 70, 71, 72, 73, 74, 75, 76, 77, 78, 79, 80, 81, 82, 83, 84, 85, 86, 93, 94, 95, 96, 97, 98, 99, 100, 101, 102, 103, 104, 105, 106, 107, 108, 109, 110, 111, 112, 113, 114] (by decide +kernel) (by decide +kernel)
set_option maxRecDepth 20000 in
theorem gX4_add_X4_remember : GoodIn wsX4_add (wsV RX4 58 RX4 yX4_remember wsX4_remember) := goodIn_app (goodIn_of _ (by decide +kernel)) ggX4_add_X4_remember
set_option maxRecDepth 20000 in
theorem ggX4_add_X2_append : GoodIn wsX4_add wsX2_append := goodIn_r _ [90, 54, 48, 49, 50, 51, 52, 53, 91, 6, 92, 101, 102, 103, 104, 105, 106, 107] (by decide +kernel) (by decide +kernel)
set_option maxRecDepth 20000 in
theorem gX4_add_X2_append : GoodIn wsX4_add (wsV RX4 61 RX2 yX2_append wsX2_append) := goodIn_app (goodIn_of _ (by decide +kernel)) ggX4_add_X2_append
theorem dX4_add_0 : decode cX4_add 0 = .ok (.iload_n 1, 1) := by decide +kernel
theorem dX4_add_1 : decode cX4_add 1 = .ok (.invokestatic 41, 3) := by decide +kernel
theorem dX4_add_4 : decode cX4_add 4 = .ok (.ifCond .eq 23, 3) := by decide +kernel
theorem dX4_add_7 : decode cX4_add 7 = .ok (.iload_n 3, 1) := by decide +kernel
theorem dX4_add_8 : decode cX4_add 8 = .ok (.iconst 0, 1) := by decide +kernel
theorem dX4_add_9 : decode cX4_add 9 = .ok (.iconst 5, 1) := by decide +kernel
theorem dX4_add_10 : decode cX4_add 10 = .ok (.invokestatic 45, 3) := by decide +kernel
theorem dX4_add_13 : decode cX4_add 13 = .ok (.ifCond .eq 14, 3) := by decide +kernel
theorem dX4_add_16 : decode cX4_add 16 = .ok (.iload 4, 2) := by decide +kernel
theorem dX4_add_18 : decode cX4_add 18 = .ok (.iconst 0, 1) := by decide +kernel
theorem dX4_add_19 : decode cX4_add 19 = .ok (.bipush 6, 2) := by decide +kernel
theorem dX4_add_21 : decode cX4_add 21 = .ok (.invokestatic 45, 3) := by decide +kernel
theorem dX4_add_24 : decode cX4_add 24 = .ok (.ifCond .ne 5, 3) := by decide +kernel
theorem dX4_add_27 : decode cX4_add 27 = .ok (.iconst (-1), 1) := by decide +kernel
theorem dX4_add_28 : decode cX4_add 28 = .ok (.ireturn, 1) := by decide +kernel
theorem dX4_add_29 : decode cX4_add 29 = .ok (.iload_n 2, 1) := by decide +kernel
theorem dX4_add_30 : decode cX4_add 30 = .ok (.iconst 0, 1) := by decide +kernel
theorem dX4_add_31 : decode cX4_add 31 = .ok (.iconst 2, 1) := by decide +kernel
theorem dX4_add_32 : decode cX4_add 32 = .ok (.invokestatic 45, 3) := by decide +kernel
theorem dX4_add_35 : decode cX4_add 35 = .ok (.ifCond .eq 11, 3) := by decide +kernel
theorem dX4_add_38 : decode cX4_add 38 = .ok (.iload 5, 2) := by decide +kernel
theorem dX4_add_40 : decode cX4_add 40 = .ok (.invokestatic 49, 3) := by decide +kernel
theorem dX4_add_43 : decode cX4_add 43 = .ok (.ifCond .ne 6, 3) := by decide +kernel
theorem dX4_add_46 : decode cX4_add 46 = .ok (.bipush (-2), 2) := by decide +kernel
theorem dX4_add_48 : decode cX4_add 48 = .ok (.ireturn, 1) := by decide +kernel
theorem dX4_add_49 : decode cX4_add 49 = .ok (.iload_n 2, 1) := by decide +kernel
theorem dX4_add_50 : decode cX4_add 50 = .ok (.ifCond .ne 10, 3) := by decide +kernel
theorem dX4_add_53 : decode cX4_add 53 = .ok (.iload_n 1, 1) := by decide +kernel
theorem dX4_add_54 : decode cX4_add 54 = .ok (.ifCond .eq 6, 3) := by decide +kernel
theorem dX4_add_57 : decode cX4_add 57 = .ok (.bipush (-5), 2) := by decide +kernel
theorem dX4_add_59 : decode cX4_add 59 = .ok (.ireturn, 1) := by decide +kernel
theorem dX4_add_60 : decode cX4_add 60 = .ok (.aload_n 0, 1) := by decide +kernel
theorem dX4_add_61 : decode cX4_add 61 = .ok (.getfield 12, 3) := by decide +kernel
theorem dX4_add_64 : decode cX4_add 64 = .ok (.getfield 52, 3) := by decide +kernel
theorem dX4_add_67 : decode cX4_add 67 = .ok (.getfield 55, 3) := by decide +kernel
theorem dX4_add_70 : decode cX4_add 70 = .ok (.bipush 24, 2) := by decide +kernel
theorem dX4_add_72 : decode cX4_add 72 = .ok (.if_icmp .lt 6, 3) := by decide +kernel
theorem dX4_add_75 : decode cX4_add 75 = .ok (.bipush (-4), 2) := by decide +kernel
theorem dX4_add_77 : decode cX4_add 77 = .ok (.ireturn, 1) := by decide +kernel
theorem dX4_add_78 : decode cX4_add 78 = .ok (.aload_n 0, 1) := by decide +kernel
theorem dX4_add_79 : decode cX4_add 79 = .ok (.invokevirtual 58, 3) := by decide +kernel
theorem dX4_add_82 : decode cX4_add 82 = .ok (.aload_n 0, 1) := by decide +kernel
theorem dX4_add_83 : decode cX4_add 83 = .ok (.getfield 12, 3) := by decide +kernel
theorem dX4_add_86 : decode cX4_add 86 = .ok (.getfield 52, 3) := by decide +kernel
theorem dX4_add_89 : decode cX4_add 89 = .ok (.iload_n 1, 1) := by decide +kernel
theorem dX4_add_90 : decode cX4_add 90 = .ok (.iload_n 2, 1) := by decide +kernel
theorem dX4_add_91 : decode cX4_add 91 = .ok (.iload_n 3, 1) := by decide +kernel
theorem dX4_add_92 : decode cX4_add 92 = .ok (.iload 4, 2) := by decide +kernel
theorem dX4_add_94 : decode cX4_add 94 = .ok (.iload 5, 2) := by decide +kernel
theorem dX4_add_96 : decode cX4_add 96 = .ok (.invokevirtual 61, 3) := by decide +kernel
theorem dX4_add_99 : decode cX4_add 99 = .ok (.aload_n 0, 1) := by decide +kernel
theorem dX4_add_100 : decode cX4_add 100 = .ok (.getfield 12, 3) := by decide +kernel
theorem dX4_add_103 : decode cX4_add 103 = .ok (.getfield 52, 3) := by decide +kernel
theorem dX4_add_106 : decode cX4_add 106 = .ok (.getfield 55, 3) := by decide +kernel
theorem dX4_add_109 : decode cX4_add 109 = .ok (.iconst 1, 1) := by decide +kernel
theorem dX4_add_110 : decode cX4_add 110 = .ok (.isub, 1) := by decide +kernel
theorem dX4_add_111 : decode cX4_add 111 = .ok (.ireturn, 1) := by decide +kernel
set_option maxRecDepth 20000 in
theorem ggX4_strike_X2_has : GoodIn wsX4_strike wsX2_has := goodIn_r _ [8, 9, 100, 101, 102, 103, 104, 105, 106] (by decide +kernel) (by decide +kernel)
set_option maxRecDepth 20000 in
theorem gX4_strike_X2_has : GoodIn wsX4_strike (wsV RX4 65 RX2 yX2_has wsX2_has) := goodIn_app (goodIn_of _ (by decide +kernel)) ggX4_strike_X2_has
set_option maxRecDepth 20000 in
theorem ggX4_strike_X4_remember : GoodIn wsX4_strike wsX4_remember := goodIn_r _ [14, 15, 16, 17, 18, 19, 13, 20, 21, 22, 23, 24, 25, 26, 27, 1, 28, 29, 30, 31, 32, 33, 34, 7, 35, 36, 37, 38, 39, 40, 41, 42, 43, 44, 45, 46, 47, 48, 49, 9, 50, 51, 52, 53, 54, 55, 56, 57, 58, 59, 60, 61, 62, 63, 64, 65, 66, 67, 68, 69, 70, 71, 72, 73, 74, 75, 76, 77, 78, 79, 80, 81, 92, 93, 94, 95, 96, 97, 98, 99, 100, 101, 102, 103, 104, 105, 106, 107, 108, 109, 110, 111, 112, 113] (by decide +kernel) (by decide +kernel)
set_option maxRecDepth 20000 in
theorem gX4_strike_X4_remember : GoodIn wsX4_strike (wsV RX4 58 RX4 yX4_remember wsX4_remember) := goodIn_app (goodIn_of _ (by decide +kernel)) ggX4_strike_X4_remember
set_option maxRecDepth 20000 in
theorem ggX4_strike_X2_remove : GoodIn wsX4_strike wsX2_remove := goodIn_r _ [85, 44, 45, 46, 47, 48, 49, 9, 86, 5, 6, 7, 8, 87, 13, 88, 89, 90, 72, 91, 100, 101, 102, 103, 104, 105, 106] (by decide +kernel) (by decide +kernel)
set_option maxRecDepth 20000 in
theorem gX4_strike_X2_remove : GoodIn wsX4_strike (wsV RX4 68 RX2 yX2_remove wsX2_remove) := goodIn_app (goodIn_of _ (by decide +kernel)) ggX4_strike_X2_remove
theorem dX4_strike_0 : decode cX4_strike 0 = .ok (.aload_n 0, 1) := by decide +kernel
theorem dX4_strike_1 : decode cX4_strike 1 = .ok (.getfield 12, 3) := by decide +kernel
theorem dX4_strike_4 : decode cX4_strike 4 = .ok (.getfield 52, 3) := by decide +kernel
theorem dX4_strike_7 : decode cX4_strike 7 = .ok (.iload_n 1, 1) := by decide +kernel
theorem dX4_strike_8 : decode cX4_strike 8 = .ok (.invokevirtual 65, 3) := by decide +kernel
theorem dX4_strike_11 : decode cX4_strike 11 = .ok (.ifCond .ne 5, 3) := by decide +kernel
theorem dX4_strike_14 : decode cX4_strike 14 = .ok (.iconst (-1), 1) := by decide +kernel
theorem dX4_strike_15 : decode cX4_strike 15 = .ok (.ireturn, 1) := by decide +kernel
theorem dX4_strike_16 : decode cX4_strike 16 = .ok (.aload_n 0, 1) := by decide +kernel
theorem dX4_strike_17 : decode cX4_strike 17 = .ok (.invokevirtual 58, 3) := by decide +kernel
theorem dX4_strike_20 : decode cX4_strike 20 = .ok (.aload_n 0, 1) := by decide +kernel
theorem dX4_strike_21 : decode cX4_strike 21 = .ok (.getfield 12, 3) := by decide +kernel
theorem dX4_strike_24 : decode cX4_strike 24 = .ok (.getfield 52, 3) := by decide +kernel
theorem dX4_strike_27 : decode cX4_strike 27 = .ok (.iload_n 1, 1) := by decide +kernel
theorem dX4_strike_28 : decode cX4_strike 28 = .ok (.invokevirtual 68, 3) := by decide +kernel
theorem dX4_strike_31 : decode cX4_strike 31 = .ok (.aload_n 0, 1) := by decide +kernel
theorem dX4_strike_32 : decode cX4_strike 32 = .ok (.getfield 12, 3) := by decide +kernel
theorem dX4_strike_35 : decode cX4_strike 35 = .ok (.getfield 52, 3) := by decide +kernel
theorem dX4_strike_38 : decode cX4_strike 38 = .ok (.getfield 55, 3) := by decide +kernel
theorem dX4_strike_41 : decode cX4_strike 41 = .ok (.ireturn, 1) := by decide +kernel
set_option maxRecDepth 20000 in
theorem ggX4_seal_X2_has : GoodIn wsX4_seal wsX2_has := goodIn_r _ [8, 9, 96, 97, 98, 99, 100, 101, 102] (by decide +kernel) (by decide +kernel)
set_option maxRecDepth 20000 in
theorem gX4_seal_X2_has : GoodIn wsX4_seal (wsV RX4 65 RX2 yX2_has wsX2_has) := goodIn_app (goodIn_of _ (by decide +kernel)) ggX4_seal_X2_has
set_option maxRecDepth 20000 in
theorem ggX4_seal_X4_isSeal : GoodIn wsX4_seal wsX4_isSeal := goodIn_r _ [13, 14, 15, 12, 16] (by decide +kernel) (by decide +kernel)
set_option maxRecDepth 20000 in
theorem gX4_seal_X4_isSeal : GoodIn wsX4_seal (va_wsS RX4 49 yX4_isSeal wsX4_isSeal) := goodIn_app (goodIn_of _ (by decide +kernel)) ggX4_seal_X4_isSeal
set_option maxRecDepth 20000 in
theorem ggX4_seal_X4_remember : GoodIn wsX4_seal wsX4_remember := goodIn_r _ [20, 21, 22, 23, 24, 25, 12, 26, 27, 28, 29, 30, 31, 32, 33, 1, 34, 35, 36, 37, 38, 39, 40, 7, 41, 42, 43, 44, 45, 46, 47, 48, 49, 50, 51, 52, 53, 54, 55, 9, 56, 57, 58, 59, 60, 61, 62, 63, 64, 65, 66, 67, 68, 69, 70, 71, 72, 73, 74, 75, 76, 77, 78, 79, 80, 81, 82, 83, 84, 85, 86, 87, 88, 89, 90, 91, 92, 93, 94, 95, 96, 97, 98, 99, 100, 101, 102, 103, 104, 105, 106, 107, 108, 109] (by decide +kernel) (by decide +kernel)
set_option maxRecDepth 20000 in
theorem gX4_seal_X4_remember : GoodIn wsX4_seal (wsV RX4 58 RX4 yX4_remember wsX4_remember) := goodIn_app (goodIn_of _ (by decide +kernel)) ggX4_seal_X4_remember
theorem dX4_seal_0 : decode cX4_seal 0 = .ok (.aload_n 0, 1) := by decide +kernel
theorem dX4_seal_1 : decode cX4_seal 1 = .ok (.getfield 12, 3) := by decide +kernel
theorem dX4_seal_4 : decode cX4_seal 4 = .ok (.getfield 52, 3) := by decide +kernel
theorem dX4_seal_7 : decode cX4_seal 7 = .ok (.iload_n 1, 1) := by decide +kernel
theorem dX4_seal_8 : decode cX4_seal 8 = .ok (.invokevirtual 65, 3) := by decide +kernel
theorem dX4_seal_11 : decode cX4_seal 11 = .ok (.ifCond .ne 5, 3) := by decide +kernel
theorem dX4_seal_14 : decode cX4_seal 14 = .ok (.iconst (-1), 1) := by decide +kernel
theorem dX4_seal_15 : decode cX4_seal 15 = .ok (.ireturn, 1) := by decide +kernel
theorem dX4_seal_16 : decode cX4_seal 16 = .ok (.iload_n 2, 1) := by decide +kernel
theorem dX4_seal_17 : decode cX4_seal 17 = .ok (.invokestatic 49, 3) := by decide +kernel
theorem dX4_seal_20 : decode cX4_seal 20 = .ok (.ifCond .ne 6, 3) := by decide +kernel
theorem dX4_seal_23 : decode cX4_seal 23 = .ok (.bipush (-2), 2) := by decide +kernel
theorem dX4_seal_25 : decode cX4_seal 25 = .ok (.ireturn, 1) := by decide +kernel
theorem dX4_seal_26 : decode cX4_seal 26 = .ok (.aload_n 0, 1) := by decide +kernel
theorem dX4_seal_27 : decode cX4_seal 27 = .ok (.invokevirtual 58, 3) := by decide +kernel
theorem dX4_seal_30 : decode cX4_seal 30 = .ok (.aload_n 0, 1) := by decide +kernel
theorem dX4_seal_31 : decode cX4_seal 31 = .ok (.getfield 12, 3) := by decide +kernel
theorem dX4_seal_34 : decode cX4_seal 34 = .ok (.getfield 52, 3) := by decide +kernel
theorem dX4_seal_37 : decode cX4_seal 37 = .ok (.getfield 72, 3) := by decide +kernel
theorem dX4_seal_40 : decode cX4_seal 40 = .ok (.iload_n 1, 1) := by decide +kernel
theorem dX4_seal_41 : decode cX4_seal 41 = .ok (.iaload, 1) := by decide +kernel
theorem dX4_seal_42 : decode cX4_seal 42 = .ok (.istore_n 3, 1) := by decide +kernel
theorem dX4_seal_43 : decode cX4_seal 43 = .ok (.aload_n 0, 1) := by decide +kernel
theorem dX4_seal_44 : decode cX4_seal 44 = .ok (.getfield 12, 3) := by decide +kernel
theorem dX4_seal_47 : decode cX4_seal 47 = .ok (.getfield 52, 3) := by decide +kernel
theorem dX4_seal_50 : decode cX4_seal 50 = .ok (.getfield 72, 3) := by decide +kernel
theorem dX4_seal_53 : decode cX4_seal 53 = .ok (.iload_n 1, 1) := by decide +kernel
theorem dX4_seal_54 : decode cX4_seal 54 = .ok (.iload_n 2, 1) := by decide +kernel
theorem dX4_seal_55 : decode cX4_seal 55 = .ok (.iastore, 1) := by decide +kernel
theorem dX4_seal_56 : decode cX4_seal 56 = .ok (.iload_n 3, 1) := by decide +kernel
theorem dX4_seal_57 : decode cX4_seal 57 = .ok (.ireturn, 1) := by decide +kernel
set_option maxRecDepth 20000 in
theorem ggX4_move_X2_has : GoodIn wsX4_move wsX2_has := goodIn_r _ [9, 10, 97, 98, 99, 100, 101, 102, 103] (by decide +kernel) (by decide +kernel)
set_option maxRecDepth 20000 in
theorem gX4_move_X2_has : GoodIn wsX4_move (wsV RX4 65 RX2 yX2_has wsX2_has) := goodIn_app (goodIn_of _ (by decide +kernel)) ggX4_move_X2_has
set_option maxRecDepth 20000 in
theorem ggX4_move_X4_isLayer : GoodIn wsX4_move wsX4_isLayer := goodIn_r _ [14, 15, 16, 13, 17] (by decide +kernel) (by decide +kernel)
set_option maxRecDepth 20000 in
theorem gX4_move_X4_isLayer : GoodIn wsX4_move (va_wsS RX4 41 yX4_isLayer wsX4_isLayer) := goodIn_app (goodIn_of _ (by decide +kernel)) ggX4_move_X4_isLayer
set_option maxRecDepth 20000 in
theorem ggX4_move_X4_remember : GoodIn wsX4_move wsX4_remember := goodIn_r _ [21, 22, 23, 24, 25, 26, 13, 27, 28, 29, 30, 31, 32, 33, 34, 1, 35, 36, 37, 38, 39, 40, 41, 8, 42, 43, 44, 45, 46, 47, 48, 49, 50, 51, 52, 53, 54, 55, 56, 10, 57, 58, 59, 60, 61, 62, 63, 64, 65, 66, 67, 68, 69, 70, 71, 72, 73, 74, 75, 76, 77, 78, 79, 80, 81, 82, 83, 84, 85, 86, 87, 88, 89, 90, 91, 92, 93, 94, 95, 96, 97, 98, 99, 100, 101, 102, 103, 104, 105, 106, 107, 108, 109, 110] (by decide +kernel) (by decide +kernel)
set_option maxRecDepth 20000 in
theorem gX4_move_X4_remember : GoodIn wsX4_move (wsV RX4 58 RX4 yX4_remember wsX4_remember) := goodIn_app (goodIn_of _ (by decide +kernel)) ggX4_move_X4_remember
theorem dX4_move_0 : decode cX4_move 0 = .ok (.aload_n 0, 1) := by decide +kernel
theorem dX4_move_1 : decode cX4_move 1 = .ok (.getfield 12, 3) := by decide +kernel
theorem dX4_move_4 : decode cX4_move 4 = .ok (.getfield 52, 3) := by decide +kernel
theorem dX4_move_7 : decode cX4_move 7 = .ok (.iload_n 1, 1) := by decide +kernel
theorem dX4_move_8 : decode cX4_move 8 = .ok (.invokevirtual 65, 3) := by decide +kernel
theorem dX4_move_11 : decode cX4_move 11 = .ok (.ifCond .eq 10, 3) := by decide +kernel
theorem dX4_move_14 : decode cX4_move 14 = .ok (.iload_n 2, 1) := by decide +kernel
theorem dX4_move_15 : decode cX4_move 15 = .ok (.invokestatic 41, 3) := by decide +kernel
theorem dX4_move_18 : decode cX4_move 18 = .ok (.ifCond .ne 5, 3) := by decide +kernel
theorem dX4_move_21 : decode cX4_move 21 = .ok (.iconst (-1), 1) := by decide +kernel
theorem dX4_move_22 : decode cX4_move 22 = .ok (.ireturn, 1) := by decide +kernel
theorem dX4_move_23 : decode cX4_move 23 = .ok (.aload_n 0, 1) := by decide +kernel
theorem dX4_move_24 : decode cX4_move 24 = .ok (.getfield 12, 3) := by decide +kernel
theorem dX4_move_27 : decode cX4_move 27 = .ok (.getfield 52, 3) := by decide +kernel
theorem dX4_move_30 : decode cX4_move 30 = .ok (.getfield 76, 3) := by decide +kernel
theorem dX4_move_33 : decode cX4_move 33 = .ok (.iload_n 1, 1) := by decide +kernel
theorem dX4_move_34 : decode cX4_move 34 = .ok (.iaload, 1) := by decide +kernel
theorem dX4_move_35 : decode cX4_move 35 = .ok (.ifCond .ne 10, 3) := by decide +kernel
theorem dX4_move_38 : decode cX4_move 38 = .ok (.iload_n 2, 1) := by decide +kernel
theorem dX4_move_39 : decode cX4_move 39 = .ok (.ifCond .eq 6, 3) := by decide +kernel
theorem dX4_move_42 : decode cX4_move 42 = .ok (.bipush (-5), 2) := by decide +kernel
theorem dX4_move_44 : decode cX4_move 44 = .ok (.ireturn, 1) := by decide +kernel
theorem dX4_move_45 : decode cX4_move 45 = .ok (.aload_n 0, 1) := by decide +kernel
theorem dX4_move_46 : decode cX4_move 46 = .ok (.invokevirtual 58, 3) := by decide +kernel
theorem dX4_move_49 : decode cX4_move 49 = .ok (.aload_n 0, 1) := by decide +kernel
theorem dX4_move_50 : decode cX4_move 50 = .ok (.getfield 12, 3) := by decide +kernel
theorem dX4_move_53 : decode cX4_move 53 = .ok (.getfield 52, 3) := by decide +kernel
theorem dX4_move_56 : decode cX4_move 56 = .ok (.getfield 79, 3) := by decide +kernel
theorem dX4_move_59 : decode cX4_move 59 = .ok (.iload_n 1, 1) := by decide +kernel
theorem dX4_move_60 : decode cX4_move 60 = .ok (.iaload, 1) := by decide +kernel
theorem dX4_move_61 : decode cX4_move 61 = .ok (.istore_n 3, 1) := by decide +kernel
theorem dX4_move_62 : decode cX4_move 62 = .ok (.aload_n 0, 1) := by decide +kernel
theorem dX4_move_63 : decode cX4_move 63 = .ok (.getfield 12, 3) := by decide +kernel
theorem dX4_move_66 : decode cX4_move 66 = .ok (.getfield 52, 3) := by decide +kernel
theorem dX4_move_69 : decode cX4_move 69 = .ok (.getfield 79, 3) := by decide +kernel
theorem dX4_move_72 : decode cX4_move 72 = .ok (.iload_n 1, 1) := by decide +kernel
theorem dX4_move_73 : decode cX4_move 73 = .ok (.iload_n 2, 1) := by decide +kernel
theorem dX4_move_74 : decode cX4_move 74 = .ok (.iastore, 1) := by decide +kernel
theorem dX4_move_75 : decode cX4_move 75 = .ok (.iload_n 3, 1) := by decide +kernel
theorem dX4_move_76 : decode cX4_move 76 = .ok (.ireturn, 1) := by decide +kernel
set_option maxRecDepth 20000 in
theorem ggX4_read_X1_firstFault : GoodIn wsX4_read wsX1_firstFault := goodIn_r _ [9, 10, 11, 12, 13, 8, 14, 15, 16, 17, 18, 19, 20, 21, 22, 23, 24, 25, 26, 139, 140] (by decide +kernel) (by decide +kernel)
set_option maxRecDepth 20000 in
theorem gX4_read_X1_firstFault : GoodIn wsX4_read (wsV RX4 82 RX1 yX1_firstFault wsX1_firstFault) := goodIn_app (goodIn_of _ (by decide +kernel)) ggX4_read_X1_firstFault
set_option maxRecDepth 20000 in
theorem ggX4_read_X1_rulesInText : GoodIn wsX4_read wsX1_rulesInText := goodIn_r _ [30, 10, 19, 139, 140] (by decide +kernel) (by decide +kernel)
set_option maxRecDepth 20000 in
theorem gX4_read_X1_rulesInText : GoodIn wsX4_read (wsV RX4 86 RX1 yX1_rulesInText wsX1_rulesInText) := goodIn_app (goodIn_of _ (by decide +kernel)) ggX4_read_X1_rulesInText
set_option maxRecDepth 20000 in
theorem ggX4_read_X4_remember : GoodIn wsX4_read wsX4_remember := goodIn_r _ [34, 35, 36, 37, 38, 39, 21, 40, 41, 42, 43, 44, 45, 46, 47, 2, 48, 49, 50, 51, 52, 53, 54, 55, 56, 57, 58, 59, 60, 61, 62, 63, 64, 65, 66, 67, 68, 69, 70, 71, 72, 73, 74, 75, 76, 77, 78, 79, 80, 81, 82, 83, 84, 85, 86, 87, 88, 89, 90, 91, 92, 93, 94, 95, 96, 97, 98, 99, 100, 101, 102, 103, 124, 125, 126, 127, 128, 129, 130, 131, 132, 133, 134, 135, 136, 137, 138, 141, 142, 143, 144, 145, 146, 147] (by decide +kernel) (by decide +kernel)
set_option maxRecDepth 20000 in
theorem gX4_read_X4_remember : GoodIn wsX4_read (wsV RX4 58 RX4 yX4_remember wsX4_remember) := goodIn_app (goodIn_of _ (by decide +kernel)) ggX4_read_X4_remember
set_option maxRecDepth 20000 in
theorem ggX4_read_X1_appendTo : GoodIn wsX4_read wsX1_appendTo := goodIn_r _ [107, 10, 15, 16, 17, 8, 18, 19, 108, 109, 110, 111, 112, 113, 114, 115, 116, 55, 117, 71, 65, 66, 67, 68, 69, 70, 118, 21, 119, 139, 140, 132, 133, 134, 135, 136, 137, 138] (by decide +kernel) (by decide +kernel)
set_option maxRecDepth 20000 in
theorem gX4_read_X1_appendTo : GoodIn wsX4_read (wsV RX4 89 RX1 yX1_appendTo wsX1_appendTo) := goodIn_app (goodIn_of _ (by decide +kernel)) ggX4_read_X1_appendTo
set_option maxRecDepth 20000 in
theorem ggX4_read_X1_clear : GoodIn wsX4_read wsX1_clear := goodIn_r _ [123, 10, 139, 140] (by decide +kernel) (by decide +kernel)
set_option maxRecDepth 20000 in
theorem gX4_read_X1_clear : GoodIn wsX4_read (wsV RX4 93 RX1 yX1_clear wsX1_clear) := goodIn_app (goodIn_of _ (by decide +kernel)) ggX4_read_X1_clear
theorem dX4_read_0 : decode cX4_read 0 = .ok (.aload_n 0, 1) := by decide +kernel
theorem dX4_read_1 : decode cX4_read 1 = .ok (.getfield 19, 3) := by decide +kernel
theorem dX4_read_4 : decode cX4_read 4 = .ok (.invokevirtual 82, 3) := by decide +kernel
theorem dX4_read_7 : decode cX4_read 7 = .ok (.bipush (-6), 2) := by decide +kernel
theorem dX4_read_9 : decode cX4_read 9 = .ok (.if_icmp .eq 6, 3) := by decide +kernel
theorem dX4_read_12 : decode cX4_read 12 = .ok (.bipush (-3), 2) := by decide +kernel
theorem dX4_read_14 : decode cX4_read 14 = .ok (.ireturn, 1) := by decide +kernel
theorem dX4_read_15 : decode cX4_read 15 = .ok (.aload_n 0, 1) := by decide +kernel
theorem dX4_read_16 : decode cX4_read 16 = .ok (.getfield 12, 3) := by decide +kernel
theorem dX4_read_19 : decode cX4_read 19 = .ok (.getfield 52, 3) := by decide +kernel
theorem dX4_read_22 : decode cX4_read 22 = .ok (.getfield 55, 3) := by decide +kernel
theorem dX4_read_25 : decode cX4_read 25 = .ok (.aload_n 0, 1) := by decide +kernel
theorem dX4_read_26 : decode cX4_read 26 = .ok (.getfield 19, 3) := by decide +kernel
theorem dX4_read_29 : decode cX4_read 29 = .ok (.invokevirtual 86, 3) := by decide +kernel
theorem dX4_read_32 : decode cX4_read 32 = .ok (.iadd, 1) := by decide +kernel
theorem dX4_read_33 : decode cX4_read 33 = .ok (.bipush 24, 2) := by decide +kernel
theorem dX4_read_35 : decode cX4_read 35 = .ok (.if_icmp .le 6, 3) := by decide +kernel
theorem dX4_read_38 : decode cX4_read 38 = .ok (.bipush (-4), 2) := by decide +kernel
theorem dX4_read_40 : decode cX4_read 40 = .ok (.ireturn, 1) := by decide +kernel
theorem dX4_read_41 : decode cX4_read 41 = .ok (.aload_n 0, 1) := by decide +kernel
theorem dX4_read_42 : decode cX4_read 42 = .ok (.invokevirtual 58, 3) := by decide +kernel
theorem dX4_read_45 : decode cX4_read 45 = .ok (.aload_n 0, 1) := by decide +kernel
theorem dX4_read_46 : decode cX4_read 46 = .ok (.getfield 19, 3) := by decide +kernel
theorem dX4_read_49 : decode cX4_read 49 = .ok (.aload_n 0, 1) := by decide +kernel
theorem dX4_read_50 : decode cX4_read 50 = .ok (.getfield 12, 3) := by decide +kernel
theorem dX4_read_53 : decode cX4_read 53 = .ok (.getfield 52, 3) := by decide +kernel
theorem dX4_read_56 : decode cX4_read 56 = .ok (.invokevirtual 89, 3) := by decide +kernel
theorem dX4_read_59 : decode cX4_read 59 = .ok (.aload_n 0, 1) := by decide +kernel
theorem dX4_read_60 : decode cX4_read 60 = .ok (.getfield 19, 3) := by decide +kernel
theorem dX4_read_63 : decode cX4_read 63 = .ok (.invokevirtual 93, 3) := by decide +kernel
theorem dX4_read_66 : decode cX4_read 66 = .ok (.aload_n 0, 1) := by decide +kernel
theorem dX4_read_67 : decode cX4_read 67 = .ok (.getfield 12, 3) := by decide +kernel
theorem dX4_read_70 : decode cX4_read 70 = .ok (.getfield 52, 3) := by decide +kernel
theorem dX4_read_73 : decode cX4_read 73 = .ok (.getfield 55, 3) := by decide +kernel
theorem dX4_read_76 : decode cX4_read 76 = .ok (.ireturn, 1) := by decide +kernel
set_option maxRecDepth 20000 in
theorem ggX4_tidy_X4_remember : GoodIn wsX4_tidy wsX4_remember := goodIn_r _ [7, 8, 9, 10, 11, 12, 6, 13, 14, 15, 16, 17, 18, 19, 20, 1, 21, 22, 23, 24, 25, 26, 27, 28, 29, 30, 31, 32, 33, 34, 35, 36, 37, 38, 39, 40, 41, 42, 43, 44, 45, 46, 47, 48, 49, 50, 51, 52, 53, 54, 55, 56, 57, 58, 59, 60, 61, 62, 63, 64, 65, 66, 67, 68, 69, 70, 71, 72, 73, 74, 75, 76, 132, 133, 134, 135, 136, 137, 138, 139, 140, 141, 142, 143, 144, 145, 146, 147, 148, 149, 150, 151, 152, 153] (by decide +kernel) (by decide +kernel)
set_option maxRecDepth 20000 in
theorem gX4_tidy_X4_remember : GoodIn wsX4_tidy (wsV RX4 58 RX4 yX4_remember wsX4_remember) := goodIn_app (goodIn_of _ (by decide +kernel)) ggX4_tidy_X4_remember
set_option maxRecDepth 20000 in
theorem ggX4_tidy_X4_firstIdle : GoodIn wsX4_tidy wsX4_firstIdle := goodIn_r _ [80, 1, 2, 81, 82, 83, 84, 28, 85, 86, 87, 88, 89, 44, 39, 43, 90, 91, 92, 93, 94, 95, 96, 97, 98, 99, 100, 42, 101, 102, 103, 104, 105, 106, 107, 108, 38, 109, 110, 111, 6, 112, 113, 114, 115, 116, 117, 118, 60, 61, 62, 40, 41, 63, 64, 65, 66, 67, 68, 69, 70, 71, 72, 119, 120, 121, 122, 123, 124, 125, 126, 127, 128, 129, 130, 131, 132, 133, 134, 135, 136, 137, 138, 139, 140, 141, 142, 143, 144, 145, 146] (by decide +kernel) (by decide +kernel)
set_option maxRecDepth 20000 in
theorem gX4_tidy_X4_firstIdle : GoodIn wsX4_tidy (wsV RX4 96 RX4 yX4_firstIdle wsX4_firstIdle) := goodIn_app (goodIn_of _ (by decide +kernel)) ggX4_tidy_X4_firstIdle
set_option maxRecDepth 20000 in
theorem ggX4_tidy_X2_remove : GoodIn wsX4_tidy wsX2_remove := goodIn_r _ [122, 38, 39, 40, 41, 42, 43, 44, 123, 124, 125, 28, 126, 127, 6, 128, 129, 130, 67, 131, 140, 141, 142, 143, 144, 145, 146] (by decide +kernel) (by decide +kernel)
set_option maxRecDepth 20000 in
theorem gX4_tidy_X2_remove : GoodIn wsX4_tidy (wsV RX4 68 RX2 yX2_remove wsX2_remove) := goodIn_app (goodIn_of _ (by decide +kernel)) ggX4_tidy_X2_remove
theorem dX4_tidy_0 : decode cX4_tidy 0 = .ok (.aload_n 0, 1) := by decide +kernel
theorem dX4_tidy_1 : decode cX4_tidy 1 = .ok (.invokevirtual 58, 3) := by decide +kernel
theorem dX4_tidy_4 : decode cX4_tidy 4 = .ok (.iconst 0, 1) := by decide +kernel
theorem dX4_tidy_5 : decode cX4_tidy 5 = .ok (.istore_n 1, 1) := by decide +kernel
theorem dX4_tidy_6 : decode cX4_tidy 6 = .ok (.iload_n 1, 1) := by decide +kernel
theorem dX4_tidy_7 : decode cX4_tidy 7 = .ok (.bipush 24, 2) := by decide +kernel
theorem dX4_tidy_9 : decode cX4_tidy 9 = .ok (.if_icmp .ge 33, 3) := by decide +kernel
theorem dX4_tidy_12 : decode cX4_tidy 12 = .ok (.aload_n 0, 1) := by decide +kernel
theorem dX4_tidy_13 : decode cX4_tidy 13 = .ok (.invokevirtual 96, 3) := by decide +kernel
theorem dX4_tidy_16 : decode cX4_tidy 16 = .ok (.istore_n 2, 1) := by decide +kernel
theorem dX4_tidy_17 : decode cX4_tidy 17 = .ok (.iload_n 2, 1) := by decide +kernel
theorem dX4_tidy_18 : decode cX4_tidy 18 = .ok (.bipush (-6), 2) := by decide +kernel
theorem dX4_tidy_20 : decode cX4_tidy 20 = .ok (.if_icmp .ne 5, 3) := by decide +kernel
theorem dX4_tidy_23 : decode cX4_tidy 23 = .ok (.iload_n 1, 1) := by decide +kernel
theorem dX4_tidy_24 : decode cX4_tidy 24 = .ok (.ireturn, 1) := by decide +kernel
theorem dX4_tidy_25 : decode cX4_tidy 25 = .ok (.aload_n 0, 1) := by decide +kernel
theorem dX4_tidy_26 : decode cX4_tidy 26 = .ok (.getfield 12, 3) := by decide +kernel
theorem dX4_tidy_29 : decode cX4_tidy 29 = .ok (.getfield 52, 3) := by decide +kernel
theorem dX4_tidy_32 : decode cX4_tidy 32 = .ok (.iload_n 2, 1) := by decide +kernel
theorem dX4_tidy_33 : decode cX4_tidy 33 = .ok (.invokevirtual 68, 3) := by decide +kernel
theorem dX4_tidy_36 : decode cX4_tidy 36 = .ok (.iinc 1 1, 3) := by decide +kernel
theorem dX4_tidy_39 : decode cX4_tidy 39 = .ok (.goto (-33), 3) := by decide +kernel
theorem dX4_tidy_42 : decode cX4_tidy 42 = .ok (.bipush 24, 2) := by decide +kernel
theorem dX4_tidy_44 : decode cX4_tidy 44 = .ok (.ireturn, 1) := by decide +kernel
set_option maxRecDepth 20000 in
theorem ggX4_join_X4_isCraft : GoodIn wsX4_join wsX4_isCraft := goodIn_r _ [7, 8, 9, 6, 10] (by decide +kernel) (by decide +kernel)
set_option maxRecDepth 20000 in
theorem gX4_join_X4_isCraft : GoodIn wsX4_join (va_wsS RX4 99 yX4_isCraft wsX4_isCraft) := goodIn_app (goodIn_of _ (by decide +kernel)) ggX4_join_X4_isCraft
set_option maxRecDepth 20000 in
theorem ggX4_join_X4_isRank : GoodIn wsX4_join wsX4_isRank := goodIn_r _ [13, 8, 9, 6, 10] (by decide +kernel) (by decide +kernel)
set_option maxRecDepth 20000 in
theorem gX4_join_X4_isRank : GoodIn wsX4_join (va_wsS RX4 102 yX4_isRank wsX4_isRank) := goodIn_app (goodIn_of _ (by decide +kernel)) ggX4_join_X4_isRank
set_option maxRecDepth 20000 in
theorem ggX4_join_X4_remember : GoodIn wsX4_join wsX4_remember := goodIn_r _ [17, 18, 19, 20, 21, 22, 6, 23, 24, 25, 26, 27, 28, 29, 30, 1, 31, 32, 33, 34, 35, 36, 37, 38, 39, 40, 41, 42, 43, 44, 45, 46, 47, 48, 49, 50, 51, 52, 53, 54, 55, 56, 57, 58, 59, 60, 61, 62, 63, 64, 65, 66, 67, 68, 69, 70, 71, 72, 73, 74, 75, 76, 77, 78, 79, 80, 81, 82, 83, 84, 85, 86, 91, 92, 93, 94, 95, 96, 97, 98, 106, 107, 108, 109, 110, 111, 112, 99, 100, 101, 102, 103, 104, 105] (by decide +kernel) (by decide +kernel)
set_option maxRecDepth 20000 in
theorem gX4_join_X4_remember : GoodIn wsX4_join (wsV RX4 58 RX4 yX4_remember wsX4_remember) := goodIn_app (goodIn_of _ (by decide +kernel)) ggX4_join_X4_remember
set_option maxRecDepth 20000 in
theorem ggX4_join_X0_append : GoodIn wsX4_join wsX0_append := goodIn_r _ [90, 63, 58, 59, 60, 61, 99, 100, 101, 102, 103, 104, 105] (by decide +kernel) (by decide +kernel)
set_option maxRecDepth 20000 in
theorem gX4_join_X0_append : GoodIn wsX4_join (wsV RX4 112 RX0 yX0_append wsX0_append) := goodIn_app (goodIn_of _ (by decide +kernel)) ggX4_join_X0_append
theorem dX4_join_0 : decode cX4_join 0 = .ok (.iload_n 1, 1) := by decide +kernel
theorem dX4_join_1 : decode cX4_join 1 = .ok (.invokestatic 99, 3) := by decide +kernel
theorem dX4_join_4 : decode cX4_join 4 = .ok (.ifCond .ne 5, 3) := by decide +kernel
theorem dX4_join_7 : decode cX4_join 7 = .ok (.iconst (-1), 1) := by decide +kernel
theorem dX4_join_8 : decode cX4_join 8 = .ok (.ireturn, 1) := by decide +kernel
theorem dX4_join_9 : decode cX4_join 9 = .ok (.iload_n 2, 1) := by decide +kernel
theorem dX4_join_10 : decode cX4_join 10 = .ok (.invokestatic 102, 3) := by decide +kernel
theorem dX4_join_13 : decode cX4_join 13 = .ok (.ifCond .ne 6, 3) := by decide +kernel
theorem dX4_join_16 : decode cX4_join 16 = .ok (.bipush (-2), 2) := by decide +kernel
theorem dX4_join_18 : decode cX4_join 18 = .ok (.ireturn, 1) := by decide +kernel
theorem dX4_join_19 : decode cX4_join 19 = .ok (.aload_n 0, 1) := by decide +kernel
theorem dX4_join_20 : decode cX4_join 20 = .ok (.getfield 12, 3) := by decide +kernel
theorem dX4_join_23 : decode cX4_join 23 = .ok (.getfield 105, 3) := by decide +kernel
theorem dX4_join_26 : decode cX4_join 26 = .ok (.getfield 109, 3) := by decide +kernel
theorem dX4_join_29 : decode cX4_join 29 = .ok (.bipush 10, 2) := by decide +kernel
theorem dX4_join_31 : decode cX4_join 31 = .ok (.if_icmp .lt 6, 3) := by decide +kernel
theorem dX4_join_34 : decode cX4_join 34 = .ok (.bipush (-4), 2) := by decide +kernel
theorem dX4_join_36 : decode cX4_join 36 = .ok (.ireturn, 1) := by decide +kernel
theorem dX4_join_37 : decode cX4_join 37 = .ok (.aload_n 0, 1) := by decide +kernel
theorem dX4_join_38 : decode cX4_join 38 = .ok (.invokevirtual 58, 3) := by decide +kernel
theorem dX4_join_41 : decode cX4_join 41 = .ok (.aload_n 0, 1) := by decide +kernel
theorem dX4_join_42 : decode cX4_join 42 = .ok (.getfield 12, 3) := by decide +kernel
theorem dX4_join_45 : decode cX4_join 45 = .ok (.getfield 105, 3) := by decide +kernel
theorem dX4_join_48 : decode cX4_join 48 = .ok (.iload_n 1, 1) := by decide +kernel
theorem dX4_join_49 : decode cX4_join 49 = .ok (.iload_n 2, 1) := by decide +kernel
theorem dX4_join_50 : decode cX4_join 50 = .ok (.invokevirtual 112, 3) := by decide +kernel
theorem dX4_join_53 : decode cX4_join 53 = .ok (.aload_n 0, 1) := by decide +kernel
theorem dX4_join_54 : decode cX4_join 54 = .ok (.getfield 12, 3) := by decide +kernel
theorem dX4_join_57 : decode cX4_join 57 = .ok (.getfield 105, 3) := by decide +kernel
theorem dX4_join_60 : decode cX4_join 60 = .ok (.getfield 109, 3) := by decide +kernel
theorem dX4_join_63 : decode cX4_join 63 = .ok (.iconst 1, 1) := by decide +kernel
theorem dX4_join_64 : decode cX4_join 64 = .ok (.isub, 1) := by decide +kernel
theorem dX4_join_65 : decode cX4_join 65 = .ok (.ireturn, 1) := by decide +kernel
set_option maxRecDepth 20000 in
theorem ggX4_leave_X0_has : GoodIn wsX4_leave wsX0_has := goodIn_r _ [8, 9, 100, 101, 102, 103, 104, 105, 106] (by decide +kernel) (by decide +kernel)
set_option maxRecDepth 20000 in
theorem gX4_leave_X0_has : GoodIn wsX4_leave (wsV RX4 115 RX0 yX0_has wsX0_has) := goodIn_app (goodIn_of _ (by decide +kernel)) ggX4_leave_X0_has
set_option maxRecDepth 20000 in
theorem ggX4_leave_X4_remember : GoodIn wsX4_leave wsX4_remember := goodIn_r _ [14, 15, 16, 17, 18, 19, 13, 20, 21, 22, 23, 24, 25, 26, 27, 1, 28, 29, 30, 31, 32, 33, 34, 35, 36, 37, 38, 7, 39, 40, 41, 42, 43, 44, 45, 46, 47, 48, 49, 50, 51, 52, 53, 54, 55, 56, 57, 58, 9, 59, 60, 61, 62, 63, 64, 65, 66, 67, 68, 69, 70, 71, 72, 73, 74, 75, 76, 77, 78, 79, 80, 81, 92, 93, 94, 95, 96, 97, 98, 99, 107, 108, 109, 110, 111, 112, 113, 100, 101, 102, 103, 104, 105, 106] (by decide +kernel) (by decide +kernel)
set_option maxRecDepth 20000 in
theorem gX4_leave_X4_remember : GoodIn wsX4_leave (wsV RX4 58 RX4 yX4_remember wsX4_remember) := goodIn_app (goodIn_of _ (by decide +kernel)) ggX4_leave_X4_remember
set_option maxRecDepth 20000 in
theorem ggX4_leave_X0_remove : GoodIn wsX4_leave wsX0_remove := goodIn_r _ [85, 54, 55, 56, 57, 9, 86, 5, 6, 7, 8, 87, 13, 88, 89, 90, 72, 91, 100, 101, 102, 103, 104, 105, 106] (by decide +kernel) (by decide +kernel)
set_option maxRecDepth 20000 in
theorem gX4_leave_X0_remove : GoodIn wsX4_leave (wsV RX4 119 RX0 yX0_remove wsX0_remove) := goodIn_app (goodIn_of _ (by decide +kernel)) ggX4_leave_X0_remove
theorem dX4_leave_0 : decode cX4_leave 0 = .ok (.aload_n 0, 1) := by decide +kernel
theorem dX4_leave_1 : decode cX4_leave 1 = .ok (.getfield 12, 3) := by decide +kernel
theorem dX4_leave_4 : decode cX4_leave 4 = .ok (.getfield 105, 3) := by decide +kernel
theorem dX4_leave_7 : decode cX4_leave 7 = .ok (.iload_n 1, 1) := by decide +kernel
theorem dX4_leave_8 : decode cX4_leave 8 = .ok (.invokevirtual 115, 3) := by decide +kernel
theorem dX4_leave_11 : decode cX4_leave 11 = .ok (.ifCond .ne 5, 3) := by decide +kernel
theorem dX4_leave_14 : decode cX4_leave 14 = .ok (.iconst (-1), 1) := by decide +kernel
theorem dX4_leave_15 : decode cX4_leave 15 = .ok (.ireturn, 1) := by decide +kernel
theorem dX4_leave_16 : decode cX4_leave 16 = .ok (.aload_n 0, 1) := by decide +kernel
theorem dX4_leave_17 : decode cX4_leave 17 = .ok (.invokevirtual 58, 3) := by decide +kernel
theorem dX4_leave_20 : decode cX4_leave 20 = .ok (.aload_n 0, 1) := by decide +kernel
theorem dX4_leave_21 : decode cX4_leave 21 = .ok (.getfield 12, 3) := by decide +kernel
theorem dX4_leave_24 : decode cX4_leave 24 = .ok (.getfield 105, 3) := by decide +kernel
theorem dX4_leave_27 : decode cX4_leave 27 = .ok (.getfield 116, 3) := by decide +kernel
theorem dX4_leave_30 : decode cX4_leave 30 = .ok (.iload_n 1, 1) := by decide +kernel
theorem dX4_leave_31 : decode cX4_leave 31 = .ok (.iaload, 1) := by decide +kernel
theorem dX4_leave_32 : decode cX4_leave 32 = .ok (.istore_n 2, 1) := by decide +kernel
theorem dX4_leave_33 : decode cX4_leave 33 = .ok (.aload_n 0, 1) := by decide +kernel
theorem dX4_leave_34 : decode cX4_leave 34 = .ok (.getfield 12, 3) := by decide +kernel
theorem dX4_leave_37 : decode cX4_leave 37 = .ok (.getfield 105, 3) := by decide +kernel
theorem dX4_leave_40 : decode cX4_leave 40 = .ok (.iload_n 1, 1) := by decide +kernel
theorem dX4_leave_41 : decode cX4_leave 41 = .ok (.invokevirtual 119, 3) := by decide +kernel
theorem dX4_leave_44 : decode cX4_leave 44 = .ok (.iload_n 2, 1) := by decide +kernel
theorem dX4_leave_45 : decode cX4_leave 45 = .ok (.ireturn, 1) := by decide +kernel
set_option maxRecDepth 20000 in
theorem ggX4_rank_X0_has : GoodIn wsX4_rank wsX0_has := goodIn_r _ [8, 9, 96, 97, 98, 99, 100, 101, 102] (by decide +kernel) (by decide +kernel)
set_option maxRecDepth 20000 in
theorem gX4_rank_X0_has : GoodIn wsX4_rank (wsV RX4 115 RX0 yX0_has wsX0_has) := goodIn_app (goodIn_of _ (by decide +kernel)) ggX4_rank_X0_has
set_option maxRecDepth 20000 in
theorem ggX4_rank_X4_isRank : GoodIn wsX4_rank wsX4_isRank := goodIn_r _ [13, 14, 15, 12, 16] (by decide +kernel) (by decide +kernel)
set_option maxRecDepth 20000 in
theorem gX4_rank_X4_isRank : GoodIn wsX4_rank (va_wsS RX4 102 yX4_isRank wsX4_isRank) := goodIn_app (goodIn_of _ (by decide +kernel)) ggX4_rank_X4_isRank
set_option maxRecDepth 20000 in
theorem ggX4_rank_X4_remember : GoodIn wsX4_rank wsX4_remember := goodIn_r _ [20, 21, 22, 23, 24, 25, 12, 26, 27, 28, 29, 30, 31, 32, 33, 1, 34, 35, 36, 37, 38, 39, 40, 41, 42, 43, 44, 7, 45, 46, 47, 48, 49, 50, 51, 52, 53, 54, 55, 56, 57, 58, 59, 60, 61, 62, 63, 64, 9, 65, 66, 67, 68, 69, 70, 71, 72, 73, 74, 75, 76, 77, 78, 79, 80, 81, 82, 83, 84, 85, 86, 87, 88, 89, 90, 91, 92, 93, 94, 95, 103, 104, 105, 106, 107, 108, 109, 96, 97, 98, 99, 100, 101, 102] (by decide +kernel) (by decide +kernel)
set_option maxRecDepth 20000 in
theorem gX4_rank_X4_remember : GoodIn wsX4_rank (wsV RX4 58 RX4 yX4_remember wsX4_remember) := goodIn_app (goodIn_of _ (by decide +kernel)) ggX4_rank_X4_remember
theorem dX4_rank_0 : decode cX4_rank 0 = .ok (.aload_n 0, 1) := by decide +kernel
theorem dX4_rank_1 : decode cX4_rank 1 = .ok (.getfield 12, 3) := by decide +kernel
theorem dX4_rank_4 : decode cX4_rank 4 = .ok (.getfield 105, 3) := by decide +kernel
theorem dX4_rank_7 : decode cX4_rank 7 = .ok (.iload_n 1, 1) := by decide +kernel
theorem dX4_rank_8 : decode cX4_rank 8 = .ok (.invokevirtual 115, 3) := by decide +kernel
theorem dX4_rank_11 : decode cX4_rank 11 = .ok (.ifCond .ne 5, 3) := by decide +kernel
theorem dX4_rank_14 : decode cX4_rank 14 = .ok (.iconst (-1), 1) := by decide +kernel
theorem dX4_rank_15 : decode cX4_rank 15 = .ok (.ireturn, 1) := by decide +kernel
theorem dX4_rank_16 : decode cX4_rank 16 = .ok (.iload_n 2, 1) := by decide +kernel
theorem dX4_rank_17 : decode cX4_rank 17 = .ok (.invokestatic 102, 3) := by decide +kernel
theorem dX4_rank_20 : decode cX4_rank 20 = .ok (.ifCond .ne 6, 3) := by decide +kernel
theorem dX4_rank_23 : decode cX4_rank 23 = .ok (.bipush (-2), 2) := by decide +kernel
theorem dX4_rank_25 : decode cX4_rank 25 = .ok (.ireturn, 1) := by decide +kernel
theorem dX4_rank_26 : decode cX4_rank 26 = .ok (.aload_n 0, 1) := by decide +kernel
theorem dX4_rank_27 : decode cX4_rank 27 = .ok (.invokevirtual 58, 3) := by decide +kernel
theorem dX4_rank_30 : decode cX4_rank 30 = .ok (.aload_n 0, 1) := by decide +kernel
theorem dX4_rank_31 : decode cX4_rank 31 = .ok (.getfield 12, 3) := by decide +kernel
theorem dX4_rank_34 : decode cX4_rank 34 = .ok (.getfield 105, 3) := by decide +kernel
theorem dX4_rank_37 : decode cX4_rank 37 = .ok (.getfield 120, 3) := by decide +kernel
theorem dX4_rank_40 : decode cX4_rank 40 = .ok (.iload_n 1, 1) := by decide +kernel
theorem dX4_rank_41 : decode cX4_rank 41 = .ok (.iaload, 1) := by decide +kernel
theorem dX4_rank_42 : decode cX4_rank 42 = .ok (.istore_n 3, 1) := by decide +kernel
theorem dX4_rank_43 : decode cX4_rank 43 = .ok (.aload_n 0, 1) := by decide +kernel
theorem dX4_rank_44 : decode cX4_rank 44 = .ok (.getfield 12, 3) := by decide +kernel
theorem dX4_rank_47 : decode cX4_rank 47 = .ok (.getfield 105, 3) := by decide +kernel
theorem dX4_rank_50 : decode cX4_rank 50 = .ok (.getfield 120, 3) := by decide +kernel
theorem dX4_rank_53 : decode cX4_rank 53 = .ok (.iload_n 1, 1) := by decide +kernel
theorem dX4_rank_54 : decode cX4_rank 54 = .ok (.iload_n 2, 1) := by decide +kernel
theorem dX4_rank_55 : decode cX4_rank 55 = .ok (.iastore, 1) := by decide +kernel
theorem dX4_rank_56 : decode cX4_rank 56 = .ok (.iload_n 3, 1) := by decide +kernel
theorem dX4_rank_57 : decode cX4_rank 57 = .ok (.ireturn, 1) := by decide +kernel
set_option maxRecDepth 20000 in
theorem ggX4_act_X0_has : GoodIn wsX4_act wsX0_has := goodIn_r _ [11, 12, 131, 132, 133, 134, 135, 136, 137] (by decide +kernel) (by decide +kernel)
set_option maxRecDepth 20000 in
theorem gX4_act_X0_has : GoodIn wsX4_act (wsV RX4 115 RX0 yX0_has wsX0_has) := goodIn_app (goodIn_of _ (by decide +kernel)) ggX4_act_X0_has
set_option maxRecDepth 20000 in
theorem ggX4_act_X4_isDeed : GoodIn wsX4_act wsX4_isDeed := goodIn_r _ [16, 17, 18, 15, 19] (by decide +kernel) (by decide +kernel)
set_option maxRecDepth 20000 in
theorem gX4_act_X4_isDeed : GoodIn wsX4_act (va_wsS RX4 123 yX4_isDeed wsX4_isDeed) := goodIn_app (goodIn_of _ (by decide +kernel)) ggX4_act_X4_isDeed
set_option maxRecDepth 20000 in
theorem ggX4_act_X4_remember : GoodIn wsX4_act wsX4_remember := goodIn_r _ [23, 24, 25, 26, 27, 28, 15, 29, 30, 31, 32, 33, 34, 35, 36, 1, 37, 38, 39, 40, 41, 42, 43, 44, 45, 46, 47, 10, 48, 49, 50, 51, 52, 53, 54, 55, 56, 57, 58, 59, 60, 61, 62, 63, 64, 65, 66, 67, 12, 68, 69, 70, 71, 72, 73, 74, 75, 76, 77, 78, 79, 80, 81, 82, 83, 84, 85, 86, 87, 88, 89, 90, 123, 124, 125, 126, 127, 128, 129, 130, 138, 139, 140, 141, 142, 143, 144, 131, 132, 133, 134, 135, 136, 137] (by decide +kernel) (by decide +kernel)
set_option maxRecDepth 20000 in
theorem gX4_act_X4_remember : GoodIn wsX4_act (wsV RX4 58 RX4 yX4_remember wsX4_remember) := goodIn_app (goodIn_of _ (by decide +kernel)) ggX4_act_X4_remember
set_option maxRecDepth 20000 in
theorem ggX4_act_X4_pairsOf : GoodIn wsX4_act wsX4_pairsOf := goodIn_r _ [93] (by decide +kernel) (by decide +kernel)
set_option maxRecDepth 20000 in
theorem gX4_act_X4_pairsOf : GoodIn wsX4_act (va_wsS RX4 129 yX4_pairsOf wsX4_pairsOf) := goodIn_app (goodIn_of _ (by decide +kernel)) ggX4_act_X4_pairsOf
set_option maxRecDepth 20000 in
theorem ggX4_act_X2_reason : GoodIn wsX4_act wsX2_reason := goodIn_r _ [97, 59, 54, 57, 53, 98, 99, 100, 44, 101, 58, 102, 103, 104, 105, 106, 107, 108, 109, 138, 139, 140, 141, 142, 143, 144] (by decide +kernel) (by decide +kernel)
set_option maxRecDepth 20000 in
theorem gX4_act_X2_reason : GoodIn wsX4_act (wsV RX4 133 RX2 yX2_reason wsX2_reason) := goodIn_app (goodIn_of _ (by decide +kernel)) ggX4_act_X2_reason
set_option maxRecDepth 20000 in
theorem ggX4_act_X0_noteDone : GoodIn wsX4_act wsX0_noteDone := goodIn_r _ [113, 65, 68, 114, 8, 9, 10, 11, 12, 131, 132, 133, 134, 135, 136, 137] (by decide +kernel) (by decide +kernel)
set_option maxRecDepth 20000 in
theorem gX4_act_X0_noteDone : GoodIn wsX4_act (wsV RX4 136 RX0 yX0_noteDone wsX0_noteDone) := goodIn_app (goodIn_of _ (by decide +kernel)) ggX4_act_X0_noteDone
set_option maxRecDepth 20000 in
theorem ggX4_act_X2_has : GoodIn wsX4_act wsX2_has := goodIn_r _ [118, 59, 138, 139, 140, 141, 142, 143, 144] (by decide +kernel) (by decide +kernel)
set_option maxRecDepth 20000 in
theorem gX4_act_X2_has : GoodIn wsX4_act (wsV RX4 65 RX2 yX2_has wsX2_has) := goodIn_app (goodIn_of _ (by decide +kernel)) ggX4_act_X2_has
set_option maxRecDepth 20000 in
theorem ggX4_act_X0_noteRefusal : GoodIn wsX4_act wsX0_noteRefusal := goodIn_r _ [122, 66, 67, 114, 8, 9, 10, 11, 12, 18, 15, 19, 131, 132, 133, 134, 135, 136, 137] (by decide +kernel) (by decide +kernel)
set_option maxRecDepth 20000 in
theorem gX4_act_X0_noteRefusal : GoodIn wsX4_act (wsV RX4 139 RX0 yX0_noteRefusal wsX0_noteRefusal) := goodIn_app (goodIn_of _ (by decide +kernel)) ggX4_act_X0_noteRefusal
theorem dX4_act_0 : decode cX4_act 0 = .ok (.aload_n 0, 1) := by decide +kernel
theorem dX4_act_1 : decode cX4_act 1 = .ok (.getfield 12, 3) := by decide +kernel
theorem dX4_act_4 : decode cX4_act 4 = .ok (.getfield 105, 3) := by decide +kernel
theorem dX4_act_7 : decode cX4_act 7 = .ok (.iload_n 1, 1) := by decide +kernel
theorem dX4_act_8 : decode cX4_act 8 = .ok (.invokevirtual 115, 3) := by decide +kernel
theorem dX4_act_11 : decode cX4_act 11 = .ok (.ifCond .eq 10, 3) := by decide +kernel
theorem dX4_act_14 : decode cX4_act 14 = .ok (.iload_n 2, 1) := by decide +kernel
theorem dX4_act_15 : decode cX4_act 15 = .ok (.invokestatic 123, 3) := by decide +kernel
theorem dX4_act_18 : decode cX4_act 18 = .ok (.ifCond .ne 5, 3) := by decide +kernel
theorem dX4_act_21 : decode cX4_act 21 = .ok (.iconst (-1), 1) := by decide +kernel
theorem dX4_act_22 : decode cX4_act 22 = .ok (.ireturn, 1) := by decide +kernel
theorem dX4_act_23 : decode cX4_act 23 = .ok (.aload_n 0, 1) := by decide +kernel
theorem dX4_act_24 : decode cX4_act 24 = .ok (.invokevirtual 58, 3) := by decide +kernel
theorem dX4_act_27 : decode cX4_act 27 = .ok (.aload_n 0, 1) := by decide +kernel
theorem dX4_act_28 : decode cX4_act 28 = .ok (.getfield 12, 3) := by decide +kernel
theorem dX4_act_31 : decode cX4_act 31 = .ok (.getfield 52, 3) := by decide +kernel
theorem dX4_act_34 : decode cX4_act 34 = .ok (.aload_n 0, 1) := by decide +kernel
theorem dX4_act_35 : decode cX4_act 35 = .ok (.getfield 12, 3) := by decide +kernel
theorem dX4_act_38 : decode cX4_act 38 = .ok (.getfield 105, 3) := by decide +kernel
theorem dX4_act_41 : decode cX4_act 41 = .ok (.getfield 126, 3) := by decide +kernel
theorem dX4_act_44 : decode cX4_act 44 = .ok (.iload_n 1, 1) := by decide +kernel
theorem dX4_act_45 : decode cX4_act 45 = .ok (.iaload, 1) := by decide +kernel
theorem dX4_act_46 : decode cX4_act 46 = .ok (.iload_n 2, 1) := by decide +kernel
theorem dX4_act_47 : decode cX4_act 47 = .ok (.invokestatic 129, 3) := by decide +kernel
theorem dX4_act_50 : decode cX4_act 50 = .ok (.aload_n 0, 1) := by decide +kernel
theorem dX4_act_51 : decode cX4_act 51 = .ok (.getfield 12, 3) := by decide +kernel
theorem dX4_act_54 : decode cX4_act 54 = .ok (.getfield 105, 3) := by decide +kernel
theorem dX4_act_57 : decode cX4_act 57 = .ok (.getfield 120, 3) := by decide +kernel
theorem dX4_act_60 : decode cX4_act 60 = .ok (.iload_n 1, 1) := by decide +kernel
theorem dX4_act_61 : decode cX4_act 61 = .ok (.iaload, 1) := by decide +kernel
theorem dX4_act_62 : decode cX4_act 62 = .ok (.invokevirtual 133, 3) := by decide +kernel
theorem dX4_act_65 : decode cX4_act 65 = .ok (.istore_n 3, 1) := by decide +kernel
theorem dX4_act_66 : decode cX4_act 66 = .ok (.iload_n 3, 1) := by decide +kernel
theorem dX4_act_67 : decode cX4_act 67 = .ok (.bipush (-6), 2) := by decide +kernel
theorem dX4_act_69 : decode cX4_act 69 = .ok (.if_icmp .ne 17, 3) := by decide +kernel
theorem dX4_act_72 : decode cX4_act 72 = .ok (.aload_n 0, 1) := by decide +kernel
theorem dX4_act_73 : decode cX4_act 73 = .ok (.getfield 12, 3) := by decide +kernel
theorem dX4_act_76 : decode cX4_act 76 = .ok (.getfield 105, 3) := by decide +kernel
theorem dX4_act_79 : decode cX4_act 79 = .ok (.iload_n 1, 1) := by decide +kernel
theorem dX4_act_80 : decode cX4_act 80 = .ok (.invokevirtual 136, 3) := by decide +kernel
theorem dX4_act_83 : decode cX4_act 83 = .ok (.goto 55, 3) := by decide +kernel
theorem dX4_act_86 : decode cX4_act 86 = .ok (.aload_n 0, 1) := by decide +kernel
theorem dX4_act_87 : decode cX4_act 87 = .ok (.getfield 12, 3) := by decide +kernel
theorem dX4_act_90 : decode cX4_act 90 = .ok (.getfield 52, 3) := by decide +kernel
theorem dX4_act_93 : decode cX4_act 93 = .ok (.iload_n 3, 1) := by decide +kernel
theorem dX4_act_94 : decode cX4_act 94 = .ok (.invokevirtual 65, 3) := by decide +kernel
theorem dX4_act_97 : decode cX4_act 97 = .ok (.ifCond .eq 29, 3) := by decide +kernel
theorem dX4_act_100 : decode cX4_act 100 = .ok (.aload_n 0, 1) := by decide +kernel
theorem dX4_act_101 : decode cX4_act 101 = .ok (.getfield 12, 3) := by decide +kernel
theorem dX4_act_104 : decode cX4_act 104 = .ok (.getfield 105, 3) := by decide +kernel
theorem dX4_act_107 : decode cX4_act 107 = .ok (.iload_n 1, 1) := by decide +kernel
theorem dX4_act_108 : decode cX4_act 108 = .ok (.aload_n 0, 1) := by decide +kernel
theorem dX4_act_109 : decode cX4_act 109 = .ok (.getfield 12, 3) := by decide +kernel
theorem dX4_act_112 : decode cX4_act 112 = .ok (.getfield 52, 3) := by decide +kernel
theorem dX4_act_115 : decode cX4_act 115 = .ok (.getfield 79, 3) := by decide +kernel
theorem dX4_act_118 : decode cX4_act 118 = .ok (.iload_n 3, 1) := by decide +kernel
theorem dX4_act_119 : decode cX4_act 119 = .ok (.iaload, 1) := by decide +kernel
theorem dX4_act_120 : decode cX4_act 120 = .ok (.invokevirtual 139, 3) := by decide +kernel
theorem dX4_act_123 : decode cX4_act 123 = .ok (.goto 15, 3) := by decide +kernel
theorem dX4_act_126 : decode cX4_act 126 = .ok (.aload_n 0, 1) := by decide +kernel
theorem dX4_act_127 : decode cX4_act 127 = .ok (.getfield 12, 3) := by decide +kernel
theorem dX4_act_130 : decode cX4_act 130 = .ok (.getfield 105, 3) := by decide +kernel
theorem dX4_act_133 : decode cX4_act 133 = .ok (.iload_n 1, 1) := by decide +kernel
theorem dX4_act_134 : decode cX4_act 134 = .ok (.iconst 5, 1) := by decide +kernel
theorem dX4_act_135 : decode cX4_act 135 = .ok (.invokevirtual 139, 3) := by decide +kernel
theorem dX4_act_138 : decode cX4_act 138 = .ok (.iload_n 3, 1) := by decide +kernel
theorem dX4_act_139 : decode cX4_act 139 = .ok (.ireturn, 1) := by decide +kernel
set_option maxRecDepth 20000 in
theorem ggX4_rule_X2_has : GoodIn wsX4_rule wsX2_has := goodIn_r _ [13, 14, 99, 100, 101, 102, 103, 104, 105] (by decide +kernel) (by decide +kernel)
set_option maxRecDepth 20000 in
theorem gX4_rule_X2_has : GoodIn wsX4_rule (wsV RX4 65 RX2 yX2_has wsX2_has) := goodIn_app (goodIn_of _ (by decide +kernel)) ggX4_rule_X2_has
set_option maxRecDepth 20000 in
theorem ggX4_rule_X2_triples : GoodIn wsX4_rule wsX2_triples := goodIn_r _ [18, 19, 20, 21, 12, 22, 14, 23, 24, 25, 26, 27, 28, 29, 30, 31, 32, 33, 34, 35, 36, 37, 38, 39, 40, 41, 42, 43, 44, 45, 99, 100, 101, 102, 103, 104, 105] (by decide +kernel) (by decide +kernel)
set_option maxRecDepth 20000 in
theorem gX4_rule_X2_triples : GoodIn wsX4_rule (wsV RX4 146 RX2 yX2_triples wsX2_triples) := goodIn_app (goodIn_of _ (by decide +kernel)) ggX4_rule_X2_triples
set_option maxRecDepth 20000 in
theorem ggX4_rule_X4_isIdle : GoodIn wsX4_rule wsX4_isIdle := goodIn_r _ [50, 51, 52, 53, 49, 54, 55, 1, 2, 56, 57, 58, 12, 59, 45, 23, 60, 61, 36, 24, 14, 62, 63, 64, 65, 66, 67, 68, 69, 70, 71, 72, 73, 74, 75, 76, 10, 11, 13, 77, 78, 79, 80, 81, 15, 16, 17, 18, 19, 20, 21, 22, 25, 26, 27, 28, 29, 30, 31, 32, 33, 34, 35, 37, 38, 39, 40, 41, 42, 43, 44, 91, 92, 93, 94, 95, 96, 97, 98, 99, 100, 101, 102, 103, 104, 105] (by decide +kernel) (by decide +kernel)
set_option maxRecDepth 20000 in
theorem gX4_rule_X4_isIdle : GoodIn wsX4_rule (wsV RX4 149 RX4 yX4_isIdle wsX4_isIdle) := goodIn_app (goodIn_of _ (by decide +kernel)) ggX4_rule_X4_isIdle
set_option maxRecDepth 20000 in
theorem ggX4_rule_X2_oddsOf : GoodIn wsX4_rule wsX2_oddsOf := goodIn_r _ [85, 14, 86, 87, 88, 12, 89, 23, 24, 99, 100, 101, 102, 103, 104, 105] (by decide +kernel) (by decide +kernel)
set_option maxRecDepth 20000 in
theorem gX4_rule_X2_oddsOf : GoodIn wsX4_rule (wsV RX4 153 RX2 yX2_oddsOf wsX2_oddsOf) := goodIn_app (goodIn_of _ (by decide +kernel)) ggX4_rule_X2_oddsOf
set_option maxRecDepth 20000 in
theorem ggX4_rule_J6_bitCount_0f7a4 : GoodIn wsX4_rule wsJ6_bitCount_0f7a4 := goodIn_r _ [28, 29, 30, 31] (by decide +kernel) (by decide +kernel)
set_option maxRecDepth 20000 in
theorem gX4_rule_J6_bitCount_0f7a4 : GoodIn wsX4_rule (va_wsS RX4 160 yJ6_bitCount_0f7a4 wsJ6_bitCount_0f7a4) := goodIn_app (goodIn_of _ (by decide +kernel)) ggX4_rule_J6_bitCount_0f7a4
theorem dX4_rule_0 : decode cX4_rule 0 = .ok (.aload_n 0, 1) := by decide +kernel
theorem dX4_rule_1 : decode cX4_rule 1 = .ok (.getfield 12, 3) := by decide +kernel
theorem dX4_rule_4 : decode cX4_rule 4 = .ok (.getfield 52, 3) := by decide +kernel
theorem dX4_rule_7 : decode cX4_rule 7 = .ok (.iload_n 1, 1) := by decide +kernel
theorem dX4_rule_8 : decode cX4_rule 8 = .ok (.invokevirtual 65, 3) := by decide +kernel
theorem dX4_rule_11 : decode cX4_rule 11 = .ok (.ifCond .ne 5, 3) := by decide +kernel
theorem dX4_rule_14 : decode cX4_rule 14 = .ok (.iconst (-1), 1) := by decide +kernel
theorem dX4_rule_15 : decode cX4_rule 15 = .ok (.ireturn, 1) := by decide +kernel
theorem dX4_rule_16 : decode cX4_rule 16 = .ok (.iload_n 2, 1) := by decide +kernel
theorem dX4_rule_17 : decode cX4_rule 17 = .ok (.tableswitch 164 0 7 #[47, 60, 73, 86, 99, 112, 136, 148], 47) := by decide +kernel
theorem dX4_rule_64 : decode cX4_rule 64 = .ok (.aload_n 0, 1) := by decide +kernel
theorem dX4_rule_65 : decode cX4_rule 65 = .ok (.getfield 12, 3) := by decide +kernel
theorem dX4_rule_68 : decode cX4_rule 68 = .ok (.getfield 52, 3) := by decide +kernel
theorem dX4_rule_71 : decode cX4_rule 71 = .ok (.getfield 79, 3) := by decide +kernel
theorem dX4_rule_74 : decode cX4_rule 74 = .ok (.iload_n 1, 1) := by decide +kernel
theorem dX4_rule_75 : decode cX4_rule 75 = .ok (.iaload, 1) := by decide +kernel
theorem dX4_rule_76 : decode cX4_rule 76 = .ok (.ireturn, 1) := by decide +kernel
theorem dX4_rule_77 : decode cX4_rule 77 = .ok (.aload_n 0, 1) := by decide +kernel
theorem dX4_rule_78 : decode cX4_rule 78 = .ok (.getfield 12, 3) := by decide +kernel
theorem dX4_rule_81 : decode cX4_rule 81 = .ok (.getfield 52, 3) := by decide +kernel
theorem dX4_rule_84 : decode cX4_rule 84 = .ok (.getfield 76, 3) := by decide +kernel
theorem dX4_rule_87 : decode cX4_rule 87 = .ok (.iload_n 1, 1) := by decide +kernel
theorem dX4_rule_88 : decode cX4_rule 88 = .ok (.iaload, 1) := by decide +kernel
theorem dX4_rule_89 : decode cX4_rule 89 = .ok (.ireturn, 1) := by decide +kernel
theorem dX4_rule_90 : decode cX4_rule 90 = .ok (.aload_n 0, 1) := by decide +kernel
theorem dX4_rule_91 : decode cX4_rule 91 = .ok (.getfield 12, 3) := by decide +kernel
theorem dX4_rule_94 : decode cX4_rule 94 = .ok (.getfield 52, 3) := by decide +kernel
theorem dX4_rule_97 : decode cX4_rule 97 = .ok (.getfield 142, 3) := by decide +kernel
theorem dX4_rule_100 : decode cX4_rule 100 = .ok (.iload_n 1, 1) := by decide +kernel
theorem dX4_rule_101 : decode cX4_rule 101 = .ok (.iaload, 1) := by decide +kernel
theorem dX4_rule_102 : decode cX4_rule 102 = .ok (.ireturn, 1) := by decide +kernel
theorem dX4_rule_103 : decode cX4_rule 103 = .ok (.aload_n 0, 1) := by decide +kernel
theorem dX4_rule_104 : decode cX4_rule 104 = .ok (.getfield 12, 3) := by decide +kernel
theorem dX4_rule_107 : decode cX4_rule 107 = .ok (.getfield 52, 3) := by decide +kernel
theorem dX4_rule_110 : decode cX4_rule 110 = .ok (.getfield 143, 3) := by decide +kernel
theorem dX4_rule_113 : decode cX4_rule 113 = .ok (.iload_n 1, 1) := by decide +kernel
theorem dX4_rule_114 : decode cX4_rule 114 = .ok (.iaload, 1) := by decide +kernel
theorem dX4_rule_115 : decode cX4_rule 115 = .ok (.ireturn, 1) := by decide +kernel
theorem dX4_rule_116 : decode cX4_rule 116 = .ok (.aload_n 0, 1) := by decide +kernel
theorem dX4_rule_117 : decode cX4_rule 117 = .ok (.getfield 12, 3) := by decide +kernel
theorem dX4_rule_120 : decode cX4_rule 120 = .ok (.getfield 52, 3) := by decide +kernel
theorem dX4_rule_123 : decode cX4_rule 123 = .ok (.getfield 72, 3) := by decide +kernel
theorem dX4_rule_126 : decode cX4_rule 126 = .ok (.iload_n 1, 1) := by decide +kernel
theorem dX4_rule_127 : decode cX4_rule 127 = .ok (.iaload, 1) := by decide +kernel
theorem dX4_rule_128 : decode cX4_rule 128 = .ok (.ireturn, 1) := by decide +kernel
theorem dX4_rule_129 : decode cX4_rule 129 = .ok (.aload_n 0, 1) := by decide +kernel
theorem dX4_rule_130 : decode cX4_rule 130 = .ok (.iload_n 1, 1) := by decide +kernel
theorem dX4_rule_131 : decode cX4_rule 131 = .ok (.aload_n 0, 1) := by decide +kernel
theorem dX4_rule_132 : decode cX4_rule 132 = .ok (.getfield 12, 3) := by decide +kernel
theorem dX4_rule_135 : decode cX4_rule 135 = .ok (.getfield 52, 3) := by decide +kernel
theorem dX4_rule_138 : decode cX4_rule 138 = .ok (.invokevirtual 146, 3) := by decide +kernel
theorem dX4_rule_141 : decode cX4_rule 141 = .ok (.invokevirtual 149, 3) := by decide +kernel
theorem dX4_rule_144 : decode cX4_rule 144 = .ok (.ifCond .eq 7, 3) := by decide +kernel
theorem dX4_rule_147 : decode cX4_rule 147 = .ok (.iconst 1, 1) := by decide +kernel
theorem dX4_rule_148 : decode cX4_rule 148 = .ok (.goto 4, 3) := by decide +kernel
theorem dX4_rule_151 : decode cX4_rule 151 = .ok (.iconst 0, 1) := by decide +kernel
theorem dX4_rule_152 : decode cX4_rule 152 = .ok (.ireturn, 1) := by decide +kernel
theorem dX4_rule_153 : decode cX4_rule 153 = .ok (.aload_n 0, 1) := by decide +kernel
theorem dX4_rule_154 : decode cX4_rule 154 = .ok (.getfield 12, 3) := by decide +kernel
theorem dX4_rule_157 : decode cX4_rule 157 = .ok (.getfield 52, 3) := by decide +kernel
theorem dX4_rule_160 : decode cX4_rule 160 = .ok (.iload_n 1, 1) := by decide +kernel
theorem dX4_rule_161 : decode cX4_rule 161 = .ok (.invokevirtual 153, 3) := by decide +kernel
theorem dX4_rule_164 : decode cX4_rule 164 = .ok (.ireturn, 1) := by decide +kernel
theorem dX4_rule_165 : decode cX4_rule 165 = .ok (.aload_n 0, 1) := by decide +kernel
theorem dX4_rule_166 : decode cX4_rule 166 = .ok (.getfield 12, 3) := by decide +kernel
theorem dX4_rule_169 : decode cX4_rule 169 = .ok (.getfield 52, 3) := by decide +kernel
theorem dX4_rule_172 : decode cX4_rule 172 = .ok (.getfield 157, 3) := by decide +kernel
theorem dX4_rule_175 : decode cX4_rule 175 = .ok (.iload_n 1, 1) := by decide +kernel
theorem dX4_rule_176 : decode cX4_rule 176 = .ok (.iaload, 1) := by decide +kernel
theorem dX4_rule_177 : decode cX4_rule 177 = .ok (.invokestatic 160, 3) := by decide +kernel
theorem dX4_rule_180 : decode cX4_rule 180 = .ok (.ireturn, 1) := by decide +kernel
theorem dX4_rule_181 : decode cX4_rule 181 = .ok (.bipush (-2), 2) := by decide +kernel
theorem dX4_rule_183 : decode cX4_rule 183 = .ok (.ireturn, 1) := by decide +kernel
set_option maxRecDepth 20000 in
theorem ggX4_member_X0_has : GoodIn wsX4_member wsX0_has := goodIn_r _ [11, 12, 53, 54, 55, 56, 57, 58, 59] (by decide +kernel) (by decide +kernel)
set_option maxRecDepth 20000 in
theorem gX4_member_X0_has : GoodIn wsX4_member (wsV RX4 115 RX0 yX0_has wsX0_has) := goodIn_app (goodIn_of _ (by decide +kernel)) ggX4_member_X0_has
set_option maxRecDepth 20000 in
theorem ggX4_member_X4_deedsAllowed : GoodIn wsX4_member wsX4_deedsAllowed := goodIn_r _ [17, 1, 18, 19, 20, 21, 22, 23, 24, 25, 26, 27, 28, 29, 30, 31, 32, 33, 34, 35, 36, 37, 38, 39, 40, 41, 42, 43, 44, 45, 46, 47, 48, 49, 50, 51, 52, 60, 61, 62, 63, 64, 65, 66] (by decide +kernel) (by decide +kernel)
set_option maxRecDepth 20000 in
theorem gX4_member_X4_deedsAllowed : GoodIn wsX4_member (wsV RX4 165 RX4 yX4_deedsAllowed wsX4_deedsAllowed) := goodIn_app (goodIn_of _ (by decide +kernel)) ggX4_member_X4_deedsAllowed
theorem dX4_member_0 : decode cX4_member 0 = .ok (.aload_n 0, 1) := by decide +kernel
theorem dX4_member_1 : decode cX4_member 1 = .ok (.getfield 12, 3) := by decide +kernel
theorem dX4_member_4 : decode cX4_member 4 = .ok (.getfield 105, 3) := by decide +kernel
theorem dX4_member_7 : decode cX4_member 7 = .ok (.iload_n 1, 1) := by decide +kernel
theorem dX4_member_8 : decode cX4_member 8 = .ok (.invokevirtual 115, 3) := by decide +kernel
theorem dX4_member_11 : decode cX4_member 11 = .ok (.ifCond .ne 5, 3) := by decide +kernel
theorem dX4_member_14 : decode cX4_member 14 = .ok (.iconst (-1), 1) := by decide +kernel
theorem dX4_member_15 : decode cX4_member 15 = .ok (.ireturn, 1) := by decide +kernel
theorem dX4_member_16 : decode cX4_member 16 = .ok (.iload_n 2, 1) := by decide +kernel
theorem dX4_member_17 : decode cX4_member 17 = .ok (.tableswitch 116 0 4 #[35, 48, 61, 90, 103], 35) := by decide +kernel
theorem dX4_member_52 : decode cX4_member 52 = .ok (.aload_n 0, 1) := by decide +kernel
theorem dX4_member_53 : decode cX4_member 53 = .ok (.getfield 12, 3) := by decide +kernel
theorem dX4_member_56 : decode cX4_member 56 = .ok (.getfield 105, 3) := by decide +kernel
theorem dX4_member_59 : decode cX4_member 59 = .ok (.getfield 126, 3) := by decide +kernel
theorem dX4_member_62 : decode cX4_member 62 = .ok (.iload_n 1, 1) := by decide +kernel
theorem dX4_member_63 : decode cX4_member 63 = .ok (.iaload, 1) := by decide +kernel
theorem dX4_member_64 : decode cX4_member 64 = .ok (.ireturn, 1) := by decide +kernel
theorem dX4_member_65 : decode cX4_member 65 = .ok (.aload_n 0, 1) := by decide +kernel
theorem dX4_member_66 : decode cX4_member 66 = .ok (.getfield 12, 3) := by decide +kernel
theorem dX4_member_69 : decode cX4_member 69 = .ok (.getfield 105, 3) := by decide +kernel
theorem dX4_member_72 : decode cX4_member 72 = .ok (.getfield 120, 3) := by decide +kernel
theorem dX4_member_75 : decode cX4_member 75 = .ok (.iload_n 1, 1) := by decide +kernel
theorem dX4_member_76 : decode cX4_member 76 = .ok (.iaload, 1) := by decide +kernel
theorem dX4_member_77 : decode cX4_member 77 = .ok (.ireturn, 1) := by decide +kernel
theorem dX4_member_78 : decode cX4_member 78 = .ok (.aload_n 0, 1) := by decide +kernel
theorem dX4_member_79 : decode cX4_member 79 = .ok (.aload_n 0, 1) := by decide +kernel
theorem dX4_member_80 : decode cX4_member 80 = .ok (.getfield 12, 3) := by decide +kernel
theorem dX4_member_83 : decode cX4_member 83 = .ok (.getfield 105, 3) := by decide +kernel
theorem dX4_member_86 : decode cX4_member 86 = .ok (.getfield 126, 3) := by decide +kernel
theorem dX4_member_89 : decode cX4_member 89 = .ok (.iload_n 1, 1) := by decide +kernel
theorem dX4_member_90 : decode cX4_member 90 = .ok (.iaload, 1) := by decide +kernel
theorem dX4_member_91 : decode cX4_member 91 = .ok (.aload_n 0, 1) := by decide +kernel
theorem dX4_member_92 : decode cX4_member 92 = .ok (.getfield 12, 3) := by decide +kernel
theorem dX4_member_95 : decode cX4_member 95 = .ok (.getfield 105, 3) := by decide +kernel
theorem dX4_member_98 : decode cX4_member 98 = .ok (.getfield 120, 3) := by decide +kernel
theorem dX4_member_101 : decode cX4_member 101 = .ok (.iload_n 1, 1) := by decide +kernel
theorem dX4_member_102 : decode cX4_member 102 = .ok (.iaload, 1) := by decide +kernel
theorem dX4_member_103 : decode cX4_member 103 = .ok (.invokevirtual 165, 3) := by decide +kernel
theorem dX4_member_106 : decode cX4_member 106 = .ok (.ireturn, 1) := by decide +kernel
theorem dX4_member_107 : decode cX4_member 107 = .ok (.aload_n 0, 1) := by decide +kernel
theorem dX4_member_108 : decode cX4_member 108 = .ok (.getfield 12, 3) := by decide +kernel
theorem dX4_member_111 : decode cX4_member 111 = .ok (.getfield 105, 3) := by decide +kernel
theorem dX4_member_114 : decode cX4_member 114 = .ok (.getfield 116, 3) := by decide +kernel
theorem dX4_member_117 : decode cX4_member 117 = .ok (.iload_n 1, 1) := by decide +kernel
theorem dX4_member_118 : decode cX4_member 118 = .ok (.iaload, 1) := by decide +kernel
theorem dX4_member_119 : decode cX4_member 119 = .ok (.ireturn, 1) := by decide +kernel
theorem dX4_member_120 : decode cX4_member 120 = .ok (.aload_n 0, 1) := by decide +kernel
theorem dX4_member_121 : decode cX4_member 121 = .ok (.getfield 12, 3) := by decide +kernel
theorem dX4_member_124 : decode cX4_member 124 = .ok (.getfield 105, 3) := by decide +kernel
theorem dX4_member_127 : decode cX4_member 127 = .ok (.getfield 168, 3) := by decide +kernel
theorem dX4_member_130 : decode cX4_member 130 = .ok (.iload_n 1, 1) := by decide +kernel
theorem dX4_member_131 : decode cX4_member 131 = .ok (.iaload, 1) := by decide +kernel
theorem dX4_member_132 : decode cX4_member 132 = .ok (.ireturn, 1) := by decide +kernel
theorem dX4_member_133 : decode cX4_member 133 = .ok (.bipush (-2), 2) := by decide +kernel
theorem dX4_member_135 : decode cX4_member 135 = .ok (.ireturn, 1) := by decide +kernel
set_option maxRecDepth 20000 in
theorem ggX4_allowed_X4_isCraft : GoodIn wsX4_allowed wsX4_isCraft := goodIn_r _ [6, 7, 8, 5, 9] (by decide +kernel) (by decide +kernel)
set_option maxRecDepth 20000 in
theorem gX4_allowed_X4_isCraft : GoodIn wsX4_allowed (va_wsS RX4 99 yX4_isCraft wsX4_isCraft) := goodIn_app (goodIn_of _ (by decide +kernel)) ggX4_allowed_X4_isCraft
set_option maxRecDepth 20000 in
theorem ggX4_allowed_X4_isDeed : GoodIn wsX4_allowed wsX4_isDeed := goodIn_r _ [12, 7, 8, 5, 9] (by decide +kernel) (by decide +kernel)
set_option maxRecDepth 20000 in
theorem gX4_allowed_X4_isDeed : GoodIn wsX4_allowed (va_wsS RX4 123 yX4_isDeed wsX4_isDeed) := goodIn_app (goodIn_of _ (by decide +kernel)) ggX4_allowed_X4_isDeed
set_option maxRecDepth 20000 in
theorem ggX4_allowed_X4_isRank : GoodIn wsX4_allowed wsX4_isRank := goodIn_r _ [15, 7, 8, 5, 9] (by decide +kernel) (by decide +kernel)
set_option maxRecDepth 20000 in
theorem gX4_allowed_X4_isRank : GoodIn wsX4_allowed (va_wsS RX4 102 yX4_isRank wsX4_isRank) := goodIn_app (goodIn_of _ (by decide +kernel)) ggX4_allowed_X4_isRank
set_option maxRecDepth 20000 in
theorem ggX4_allowed_X4_isBetween : GoodIn wsX4_allowed wsX4_isBetween := goodIn_r _ [9] (by decide +kernel) (by decide +kernel)
set_option maxRecDepth 20000 in
theorem gX4_allowed_X4_isBetween : GoodIn wsX4_allowed (va_wsS RX4 45 yX4_isBetween wsX4_isBetween) := goodIn_app (goodIn_of _ (by decide +kernel)) ggX4_allowed_X4_isBetween
set_option maxRecDepth 20000 in
theorem ggX4_allowed_X4_pairsOf : GoodIn wsX4_allowed wsX4_pairsOf := goodIn_r _ [18] (by decide +kernel) (by decide +kernel)
set_option maxRecDepth 20000 in
theorem gX4_allowed_X4_pairsOf : GoodIn wsX4_allowed (va_wsS RX4 129 yX4_pairsOf wsX4_pairsOf) := goodIn_app (goodIn_of _ (by decide +kernel)) ggX4_allowed_X4_pairsOf
set_option maxRecDepth 20000 in
theorem ggX4_allowed_X2_allowsByLayers : GoodIn wsX4_allowed wsX2_allowsByLayers := goodIn_r _ [23, 24, 25, 26, 27, 28, 29, 30, 22, 31, 32, 33, 34, 35, 36, 37, 38, 39, 40, 61, 62, 63, 64, 65, 66, 67] (by decide +kernel) (by decide +kernel)
set_option maxRecDepth 20000 in
theorem gX4_allowed_X2_allowsByLayers : GoodIn wsX4_allowed (wsV RX4 171 RX2 yX2_allowsByLayers wsX2_allowsByLayers) := goodIn_app (goodIn_of _ (by decide +kernel)) ggX4_allowed_X2_allowsByLayers
set_option maxRecDepth 20000 in
theorem ggX4_allowed_X2_reason : GoodIn wsX4_allowed wsX2_reason := goodIn_r _ [44, 32, 33, 40, 39, 28, 29, 30, 22, 31, 34, 45, 46, 47, 48, 49, 50, 51, 52, 61, 62, 63, 64, 65, 66, 67] (by decide +kernel) (by decide +kernel)
set_option maxRecDepth 20000 in
theorem gX4_allowed_X2_reason : GoodIn wsX4_allowed (wsV RX4 133 RX2 yX2_reason wsX2_reason) := goodIn_app (goodIn_of _ (by decide +kernel)) ggX4_allowed_X2_reason
theorem dX4_allowed_0 : decode cX4_allowed 0 = .ok (.iload_n 1, 1) := by decide +kernel
theorem dX4_allowed_1 : decode cX4_allowed 1 = .ok (.invokestatic 99, 3) := by decide +kernel
theorem dX4_allowed_4 : decode cX4_allowed 4 = .ok (.ifCond .eq 10, 3) := by decide +kernel
theorem dX4_allowed_7 : decode cX4_allowed 7 = .ok (.iload_n 2, 1) := by decide +kernel
theorem dX4_allowed_8 : decode cX4_allowed 8 = .ok (.invokestatic 123, 3) := by decide +kernel
theorem dX4_allowed_11 : decode cX4_allowed 11 = .ok (.ifCond .ne 5, 3) := by decide +kernel
theorem dX4_allowed_14 : decode cX4_allowed 14 = .ok (.iconst (-1), 1) := by decide +kernel
theorem dX4_allowed_15 : decode cX4_allowed 15 = .ok (.ireturn, 1) := by decide +kernel
theorem dX4_allowed_16 : decode cX4_allowed 16 = .ok (.iload_n 3, 1) := by decide +kernel
theorem dX4_allowed_17 : decode cX4_allowed 17 = .ok (.invokestatic 102, 3) := by decide +kernel
theorem dX4_allowed_20 : decode cX4_allowed 20 = .ok (.ifCond .eq 13, 3) := by decide +kernel
theorem dX4_allowed_23 : decode cX4_allowed 23 = .ok (.iload 4, 2) := by decide +kernel
theorem dX4_allowed_25 : decode cX4_allowed 25 = .ok (.iconst 0, 1) := by decide +kernel
theorem dX4_allowed_26 : decode cX4_allowed 26 = .ok (.iconst 1, 1) := by decide +kernel
theorem dX4_allowed_27 : decode cX4_allowed 27 = .ok (.invokestatic 45, 3) := by decide +kernel
theorem dX4_allowed_30 : decode cX4_allowed 30 = .ok (.ifCond .ne 6, 3) := by decide +kernel
theorem dX4_allowed_33 : decode cX4_allowed 33 = .ok (.bipush (-2), 2) := by decide +kernel
theorem dX4_allowed_35 : decode cX4_allowed 35 = .ok (.ireturn, 1) := by decide +kernel
theorem dX4_allowed_36 : decode cX4_allowed 36 = .ok (.iload_n 1, 1) := by decide +kernel
theorem dX4_allowed_37 : decode cX4_allowed 37 = .ok (.iload_n 2, 1) := by decide +kernel
theorem dX4_allowed_38 : decode cX4_allowed 38 = .ok (.invokestatic 129, 3) := by decide +kernel
theorem dX4_allowed_41 : decode cX4_allowed 41 = .ok (.istore 5, 2) := by decide +kernel
theorem dX4_allowed_43 : decode cX4_allowed 43 = .ok (.iload 4, 2) := by decide +kernel
theorem dX4_allowed_45 : decode cX4_allowed 45 = .ok (.ifCond .ne 19, 3) := by decide +kernel
theorem dX4_allowed_48 : decode cX4_allowed 48 = .ok (.aload_n 0, 1) := by decide +kernel
theorem dX4_allowed_49 : decode cX4_allowed 49 = .ok (.getfield 12, 3) := by decide +kernel
theorem dX4_allowed_52 : decode cX4_allowed 52 = .ok (.getfield 52, 3) := by decide +kernel
theorem dX4_allowed_55 : decode cX4_allowed 55 = .ok (.iload 5, 2) := by decide +kernel
theorem dX4_allowed_57 : decode cX4_allowed 57 = .ok (.iload_n 3, 1) := by decide +kernel
theorem dX4_allowed_58 : decode cX4_allowed 58 = .ok (.invokevirtual 171, 3) := by decide +kernel
theorem dX4_allowed_61 : decode cX4_allowed 61 = .ok (.goto 26, 3) := by decide +kernel
theorem dX4_allowed_64 : decode cX4_allowed 64 = .ok (.aload_n 0, 1) := by decide +kernel
theorem dX4_allowed_65 : decode cX4_allowed 65 = .ok (.getfield 12, 3) := by decide +kernel
theorem dX4_allowed_68 : decode cX4_allowed 68 = .ok (.getfield 52, 3) := by decide +kernel
theorem dX4_allowed_71 : decode cX4_allowed 71 = .ok (.iload 5, 2) := by decide +kernel
theorem dX4_allowed_73 : decode cX4_allowed 73 = .ok (.iload_n 3, 1) := by decide +kernel
theorem dX4_allowed_74 : decode cX4_allowed 74 = .ok (.invokevirtual 133, 3) := by decide +kernel
theorem dX4_allowed_77 : decode cX4_allowed 77 = .ok (.bipush (-6), 2) := by decide +kernel
theorem dX4_allowed_79 : decode cX4_allowed 79 = .ok (.if_icmp .ne 7, 3) := by decide +kernel
theorem dX4_allowed_82 : decode cX4_allowed 82 = .ok (.iconst 1, 1) := by decide +kernel
theorem dX4_allowed_83 : decode cX4_allowed 83 = .ok (.goto 4, 3) := by decide +kernel
theorem dX4_allowed_86 : decode cX4_allowed 86 = .ok (.iconst 0, 1) := by decide +kernel
theorem dX4_allowed_87 : decode cX4_allowed 87 = .ok (.istore 6, 2) := by decide +kernel
theorem dX4_allowed_89 : decode cX4_allowed 89 = .ok (.iload 6, 2) := by decide +kernel
theorem dX4_allowed_91 : decode cX4_allowed 91 = .ok (.ifCond .eq 7, 3) := by decide +kernel
theorem dX4_allowed_94 : decode cX4_allowed 94 = .ok (.iconst 1, 1) := by decide +kernel
theorem dX4_allowed_95 : decode cX4_allowed 95 = .ok (.goto 4, 3) := by decide +kernel
theorem dX4_allowed_98 : decode cX4_allowed 98 = .ok (.iconst 0, 1) := by decide +kernel
theorem dX4_allowed_99 : decode cX4_allowed 99 = .ok (.ireturn, 1) := by decide +kernel
set_option maxRecDepth 20000 in
theorem ggX4_why_X4_isCraft : GoodIn wsX4_why wsX4_isCraft := goodIn_r _ [6, 7, 8, 5, 9] (by decide +kernel) (by decide +kernel)
set_option maxRecDepth 20000 in
theorem gX4_why_X4_isCraft : GoodIn wsX4_why (va_wsS RX4 99 yX4_isCraft wsX4_isCraft) := goodIn_app (goodIn_of _ (by decide +kernel)) ggX4_why_X4_isCraft
set_option maxRecDepth 20000 in
theorem ggX4_why_X4_isDeed : GoodIn wsX4_why wsX4_isDeed := goodIn_r _ [12, 7, 8, 5, 9] (by decide +kernel) (by decide +kernel)
set_option maxRecDepth 20000 in
theorem gX4_why_X4_isDeed : GoodIn wsX4_why (va_wsS RX4 123 yX4_isDeed wsX4_isDeed) := goodIn_app (goodIn_of _ (by decide +kernel)) ggX4_why_X4_isDeed
set_option maxRecDepth 20000 in
theorem ggX4_why_X4_isRank : GoodIn wsX4_why wsX4_isRank := goodIn_r _ [15, 7, 8, 5, 9] (by decide +kernel) (by decide +kernel)
set_option maxRecDepth 20000 in
theorem gX4_why_X4_isRank : GoodIn wsX4_why (va_wsS RX4 102 yX4_isRank wsX4_isRank) := goodIn_app (goodIn_of _ (by decide +kernel)) ggX4_why_X4_isRank
set_option maxRecDepth 20000 in
theorem ggX4_why_X4_pairsOf : GoodIn wsX4_why wsX4_pairsOf := goodIn_r _ [18] (by decide +kernel) (by decide +kernel)
set_option maxRecDepth 20000 in
theorem gX4_why_X4_pairsOf : GoodIn wsX4_why (va_wsS RX4 129 yX4_pairsOf wsX4_pairsOf) := goodIn_app (goodIn_of _ (by decide +kernel)) ggX4_why_X4_pairsOf
set_option maxRecDepth 20000 in
theorem ggX4_why_X2_reason : GoodIn wsX4_why wsX2_reason := goodIn_r _ [23, 24, 25, 26, 27, 28, 29, 30, 22, 31, 32, 33, 34, 35, 36, 37, 38, 39, 40, 49, 50, 51, 52, 53, 54, 55] (by decide +kernel) (by decide +kernel)
set_option maxRecDepth 20000 in
theorem gX4_why_X2_reason : GoodIn wsX4_why (wsV RX4 133 RX2 yX2_reason wsX2_reason) := goodIn_app (goodIn_of _ (by decide +kernel)) ggX4_why_X2_reason
theorem dX4_why_0 : decode cX4_why 0 = .ok (.iload_n 1, 1) := by decide +kernel
theorem dX4_why_1 : decode cX4_why 1 = .ok (.invokestatic 99, 3) := by decide +kernel
theorem dX4_why_4 : decode cX4_why 4 = .ok (.ifCond .eq 10, 3) := by decide +kernel
theorem dX4_why_7 : decode cX4_why 7 = .ok (.iload_n 2, 1) := by decide +kernel
theorem dX4_why_8 : decode cX4_why 8 = .ok (.invokestatic 123, 3) := by decide +kernel
theorem dX4_why_11 : decode cX4_why 11 = .ok (.ifCond .ne 5, 3) := by decide +kernel
theorem dX4_why_14 : decode cX4_why 14 = .ok (.iconst (-1), 1) := by decide +kernel
theorem dX4_why_15 : decode cX4_why 15 = .ok (.ireturn, 1) := by decide +kernel
theorem dX4_why_16 : decode cX4_why 16 = .ok (.iload_n 3, 1) := by decide +kernel
theorem dX4_why_17 : decode cX4_why 17 = .ok (.invokestatic 102, 3) := by decide +kernel
theorem dX4_why_20 : decode cX4_why 20 = .ok (.ifCond .ne 6, 3) := by decide +kernel
theorem dX4_why_23 : decode cX4_why 23 = .ok (.bipush (-2), 2) := by decide +kernel
theorem dX4_why_25 : decode cX4_why 25 = .ok (.ireturn, 1) := by decide +kernel
theorem dX4_why_26 : decode cX4_why 26 = .ok (.aload_n 0, 1) := by decide +kernel
theorem dX4_why_27 : decode cX4_why 27 = .ok (.getfield 12, 3) := by decide +kernel
theorem dX4_why_30 : decode cX4_why 30 = .ok (.getfield 52, 3) := by decide +kernel
theorem dX4_why_33 : decode cX4_why 33 = .ok (.iload_n 1, 1) := by decide +kernel
theorem dX4_why_34 : decode cX4_why 34 = .ok (.iload_n 2, 1) := by decide +kernel
theorem dX4_why_35 : decode cX4_why 35 = .ok (.invokestatic 129, 3) := by decide +kernel
theorem dX4_why_38 : decode cX4_why 38 = .ok (.iload_n 3, 1) := by decide +kernel
theorem dX4_why_39 : decode cX4_why 39 = .ok (.invokevirtual 133, 3) := by decide +kernel
theorem dX4_why_42 : decode cX4_why 42 = .ok (.ireturn, 1) := by decide +kernel
set_option maxRecDepth 20000 in
theorem ggX4_count_X2_sizeOfKind : GoodIn wsX4_count wsX2_sizeOfKind := goodIn_r _ [14, 15, 16, 118, 119, 120, 121, 122, 123, 124] (by decide +kernel) (by decide +kernel)
set_option maxRecDepth 20000 in
theorem gX4_count_X2_sizeOfKind : GoodIn wsX4_count (wsV RX4 174 RX2 yX2_sizeOfKind wsX2_sizeOfKind) := goodIn_app (goodIn_of _ (by decide +kernel)) ggX4_count_X2_sizeOfKind
set_option maxRecDepth 20000 in
theorem ggX4_count_X4_idleRules : GoodIn wsX4_count wsX4_idleRules := goodIn_r _ [21, 1, 2, 3, 22, 23, 24, 13, 25, 26, 27, 28, 29, 15, 16, 30, 31, 32, 33, 34, 35, 36, 37, 38, 39, 40, 41, 42, 43, 44, 45, 46, 47, 48, 49, 50, 51, 52, 53, 54, 20, 55, 56, 57, 58, 59, 60, 61, 62, 63, 64, 65, 66, 67, 68, 69, 70, 71, 72, 73, 74, 75, 76, 77, 78, 79, 80, 81, 82, 83, 84, 85, 86, 87, 88, 89, 110, 111, 112, 113, 114, 115, 116, 117, 118, 119, 120, 121, 122, 123, 124] (by decide +kernel) (by decide +kernel)
set_option maxRecDepth 20000 in
theorem gX4_count_X4_idleRules : GoodIn wsX4_count (wsV RX4 177 RX4 yX4_idleRules wsX4_idleRules) := goodIn_app (goodIn_of _ (by decide +kernel)) ggX4_count_X4_idleRules
set_option maxRecDepth 20000 in
theorem ggX4_count_X2_oddPairs : GoodIn wsX4_count wsX2_oddPairs := goodIn_r _ [93, 15, 16, 94, 95, 96, 13, 97, 98, 99, 100, 101, 30, 118, 119, 120, 121, 122, 123, 124] (by decide +kernel) (by decide +kernel)
set_option maxRecDepth 20000 in
theorem gX4_count_X2_oddPairs : GoodIn wsX4_count (wsV RX4 180 RX2 yX2_oddPairs wsX2_oddPairs) := goodIn_app (goodIn_of _ (by decide +kernel)) ggX4_count_X2_oddPairs
set_option maxRecDepth 20000 in
theorem ggX4_count_X2_triples : GoodIn wsX4_count wsX2_triples := goodIn_r _ [25, 26, 27, 28, 13, 29, 15, 16, 30, 31, 32, 33, 34, 35, 36, 37, 38, 39, 40, 41, 42, 43, 44, 45, 46, 47, 48, 49, 50, 51, 118, 119, 120, 121, 122, 123, 124] (by decide +kernel) (by decide +kernel)
set_option maxRecDepth 20000 in
theorem gX4_count_X2_triples : GoodIn wsX4_count (wsV RX4 146 RX2 yX2_triples wsX2_triples) := goodIn_app (goodIn_of _ (by decide +kernel)) ggX4_count_X2_triples
set_option maxRecDepth 20000 in
theorem ggX4_count_X0_refusalsOf : GoodIn wsX4_count wsX0_refusalsOf := goodIn_r _ [106, 107, 108, 20, 109, 125, 126, 127, 128, 129, 130, 131] (by decide +kernel) (by decide +kernel)
set_option maxRecDepth 20000 in
theorem gX4_count_X0_refusalsOf : GoodIn wsX4_count (wsV RX4 186 RX0 yX0_refusalsOf wsX0_refusalsOf) := goodIn_app (goodIn_of _ (by decide +kernel)) ggX4_count_X0_refusalsOf
theorem dX4_count_0 : decode cX4_count 0 = .ok (.iload_n 1, 1) := by decide +kernel
theorem dX4_count_1 : decode cX4_count 1 = .ok (.tableswitch 264 0 16 #[83, 94, 106, 118, 130, 135, 146, 157, 168, 179, 191, 203, 215, 227, 239, 251, 259], 83) := by decide +kernel
theorem dX4_count_84 : decode cX4_count 84 = .ok (.aload_n 0, 1) := by decide +kernel
theorem dX4_count_85 : decode cX4_count 85 = .ok (.getfield 12, 3) := by decide +kernel
theorem dX4_count_88 : decode cX4_count 88 = .ok (.getfield 52, 3) := by decide +kernel
theorem dX4_count_91 : decode cX4_count 91 = .ok (.getfield 55, 3) := by decide +kernel
theorem dX4_count_94 : decode cX4_count 94 = .ok (.ireturn, 1) := by decide +kernel
theorem dX4_count_95 : decode cX4_count 95 = .ok (.aload_n 0, 1) := by decide +kernel
theorem dX4_count_96 : decode cX4_count 96 = .ok (.getfield 12, 3) := by decide +kernel
theorem dX4_count_99 : decode cX4_count 99 = .ok (.getfield 52, 3) := by decide +kernel
theorem dX4_count_102 : decode cX4_count 102 = .ok (.iconst 0, 1) := by decide +kernel
theorem dX4_count_103 : decode cX4_count 103 = .ok (.invokevirtual 174, 3) := by decide +kernel
theorem dX4_count_106 : decode cX4_count 106 = .ok (.ireturn, 1) := by decide +kernel
theorem dX4_count_107 : decode cX4_count 107 = .ok (.aload_n 0, 1) := by decide +kernel
theorem dX4_count_108 : decode cX4_count 108 = .ok (.getfield 12, 3) := by decide +kernel
theorem dX4_count_111 : decode cX4_count 111 = .ok (.getfield 52, 3) := by decide +kernel
theorem dX4_count_114 : decode cX4_count 114 = .ok (.iconst 1, 1) := by decide +kernel
theorem dX4_count_115 : decode cX4_count 115 = .ok (.invokevirtual 174, 3) := by decide +kernel
theorem dX4_count_118 : decode cX4_count 118 = .ok (.ireturn, 1) := by decide +kernel
theorem dX4_count_119 : decode cX4_count 119 = .ok (.aload_n 0, 1) := by decide +kernel
theorem dX4_count_120 : decode cX4_count 120 = .ok (.getfield 12, 3) := by decide +kernel
theorem dX4_count_123 : decode cX4_count 123 = .ok (.getfield 52, 3) := by decide +kernel
theorem dX4_count_126 : decode cX4_count 126 = .ok (.iconst 2, 1) := by decide +kernel
theorem dX4_count_127 : decode cX4_count 127 = .ok (.invokevirtual 174, 3) := by decide +kernel
theorem dX4_count_130 : decode cX4_count 130 = .ok (.ireturn, 1) := by decide +kernel
theorem dX4_count_131 : decode cX4_count 131 = .ok (.aload_n 0, 1) := by decide +kernel
theorem dX4_count_132 : decode cX4_count 132 = .ok (.invokevirtual 177, 3) := by decide +kernel
theorem dX4_count_135 : decode cX4_count 135 = .ok (.ireturn, 1) := by decide +kernel
theorem dX4_count_136 : decode cX4_count 136 = .ok (.aload_n 0, 1) := by decide +kernel
theorem dX4_count_137 : decode cX4_count 137 = .ok (.getfield 12, 3) := by decide +kernel
theorem dX4_count_140 : decode cX4_count 140 = .ok (.getfield 52, 3) := by decide +kernel
theorem dX4_count_143 : decode cX4_count 143 = .ok (.invokevirtual 180, 3) := by decide +kernel
theorem dX4_count_146 : decode cX4_count 146 = .ok (.ireturn, 1) := by decide +kernel
theorem dX4_count_147 : decode cX4_count 147 = .ok (.aload_n 0, 1) := by decide +kernel
theorem dX4_count_148 : decode cX4_count 148 = .ok (.getfield 12, 3) := by decide +kernel
theorem dX4_count_151 : decode cX4_count 151 = .ok (.getfield 52, 3) := by decide +kernel
theorem dX4_count_154 : decode cX4_count 154 = .ok (.invokevirtual 146, 3) := by decide +kernel
theorem dX4_count_157 : decode cX4_count 157 = .ok (.ireturn, 1) := by decide +kernel
theorem dX4_count_158 : decode cX4_count 158 = .ok (.aload_n 0, 1) := by decide +kernel
theorem dX4_count_159 : decode cX4_count 159 = .ok (.getfield 12, 3) := by decide +kernel
theorem dX4_count_162 : decode cX4_count 162 = .ok (.getfield 105, 3) := by decide +kernel
theorem dX4_count_165 : decode cX4_count 165 = .ok (.getfield 109, 3) := by decide +kernel
theorem dX4_count_168 : decode cX4_count 168 = .ok (.ireturn, 1) := by decide +kernel
theorem dX4_count_169 : decode cX4_count 169 = .ok (.aload_n 0, 1) := by decide +kernel
theorem dX4_count_170 : decode cX4_count 170 = .ok (.getfield 12, 3) := by decide +kernel
theorem dX4_count_173 : decode cX4_count 173 = .ok (.getfield 105, 3) := by decide +kernel
theorem dX4_count_176 : decode cX4_count 176 = .ok (.getfield 183, 3) := by decide +kernel
theorem dX4_count_179 : decode cX4_count 179 = .ok (.ireturn, 1) := by decide +kernel
theorem dX4_count_180 : decode cX4_count 180 = .ok (.aload_n 0, 1) := by decide +kernel
theorem dX4_count_181 : decode cX4_count 181 = .ok (.getfield 12, 3) := by decide +kernel
theorem dX4_count_184 : decode cX4_count 184 = .ok (.getfield 105, 3) := by decide +kernel
theorem dX4_count_187 : decode cX4_count 187 = .ok (.iconst 0, 1) := by decide +kernel
theorem dX4_count_188 : decode cX4_count 188 = .ok (.invokevirtual 186, 3) := by decide +kernel
theorem dX4_count_191 : decode cX4_count 191 = .ok (.ireturn, 1) := by decide +kernel
theorem dX4_count_192 : decode cX4_count 192 = .ok (.aload_n 0, 1) := by decide +kernel
theorem dX4_count_193 : decode cX4_count 193 = .ok (.getfield 12, 3) := by decide +kernel
theorem dX4_count_196 : decode cX4_count 196 = .ok (.getfield 105, 3) := by decide +kernel
theorem dX4_count_199 : decode cX4_count 199 = .ok (.iconst 1, 1) := by decide +kernel
theorem dX4_count_200 : decode cX4_count 200 = .ok (.invokevirtual 186, 3) := by decide +kernel
theorem dX4_count_203 : decode cX4_count 203 = .ok (.ireturn, 1) := by decide +kernel
theorem dX4_count_204 : decode cX4_count 204 = .ok (.aload_n 0, 1) := by decide +kernel
theorem dX4_count_205 : decode cX4_count 205 = .ok (.getfield 12, 3) := by decide +kernel
theorem dX4_count_208 : decode cX4_count 208 = .ok (.getfield 105, 3) := by decide +kernel
theorem dX4_count_211 : decode cX4_count 211 = .ok (.iconst 2, 1) := by decide +kernel
theorem dX4_count_212 : decode cX4_count 212 = .ok (.invokevirtual 186, 3) := by decide +kernel
theorem dX4_count_215 : decode cX4_count 215 = .ok (.ireturn, 1) := by decide +kernel
theorem dX4_count_216 : decode cX4_count 216 = .ok (.aload_n 0, 1) := by decide +kernel
theorem dX4_count_217 : decode cX4_count 217 = .ok (.getfield 12, 3) := by decide +kernel
theorem dX4_count_220 : decode cX4_count 220 = .ok (.getfield 105, 3) := by decide +kernel
theorem dX4_count_223 : decode cX4_count 223 = .ok (.iconst 3, 1) := by decide +kernel
theorem dX4_count_224 : decode cX4_count 224 = .ok (.invokevirtual 186, 3) := by decide +kernel
theorem dX4_count_227 : decode cX4_count 227 = .ok (.ireturn, 1) := by decide +kernel
theorem dX4_count_228 : decode cX4_count 228 = .ok (.aload_n 0, 1) := by decide +kernel
theorem dX4_count_229 : decode cX4_count 229 = .ok (.getfield 12, 3) := by decide +kernel
theorem dX4_count_232 : decode cX4_count 232 = .ok (.getfield 105, 3) := by decide +kernel
theorem dX4_count_235 : decode cX4_count 235 = .ok (.iconst 4, 1) := by decide +kernel
theorem dX4_count_236 : decode cX4_count 236 = .ok (.invokevirtual 186, 3) := by decide +kernel
theorem dX4_count_239 : decode cX4_count 239 = .ok (.ireturn, 1) := by decide +kernel
theorem dX4_count_240 : decode cX4_count 240 = .ok (.aload_n 0, 1) := by decide +kernel
theorem dX4_count_241 : decode cX4_count 241 = .ok (.getfield 12, 3) := by decide +kernel
theorem dX4_count_244 : decode cX4_count 244 = .ok (.getfield 105, 3) := by decide +kernel
theorem dX4_count_247 : decode cX4_count 247 = .ok (.iconst 5, 1) := by decide +kernel
theorem dX4_count_248 : decode cX4_count 248 = .ok (.invokevirtual 186, 3) := by decide +kernel
theorem dX4_count_251 : decode cX4_count 251 = .ok (.ireturn, 1) := by decide +kernel
theorem dX4_count_252 : decode cX4_count 252 = .ok (.aload_n 0, 1) := by decide +kernel
theorem dX4_count_253 : decode cX4_count 253 = .ok (.getfield 19, 3) := by decide +kernel
theorem dX4_count_256 : decode cX4_count 256 = .ok (.getfield 189, 3) := by decide +kernel
theorem dX4_count_259 : decode cX4_count 259 = .ok (.ireturn, 1) := by decide +kernel
theorem dX4_count_260 : decode cX4_count 260 = .ok (.aload_n 0, 1) := by decide +kernel
theorem dX4_count_261 : decode cX4_count 261 = .ok (.getfield 30, 3) := by decide +kernel
theorem dX4_count_264 : decode cX4_count 264 = .ok (.ireturn, 1) := by decide +kernel
theorem dX4_count_265 : decode cX4_count 265 = .ok (.bipush (-2), 2) := by decide +kernel
theorem dX4_count_267 : decode cX4_count 267 = .ok (.ireturn, 1) := by decide +kernel
set_option maxRecDepth 20000 in
theorem ggX4_leastRank_X4_isCraft : GoodIn wsX4_leastRank wsX4_isCraft := goodIn_r _ [6, 7, 8, 5, 9] (by decide +kernel) (by decide +kernel)
set_option maxRecDepth 20000 in
theorem gX4_leastRank_X4_isCraft : GoodIn wsX4_leastRank (va_wsS RX4 99 yX4_isCraft wsX4_isCraft) := goodIn_app (goodIn_of _ (by decide +kernel)) ggX4_leastRank_X4_isCraft
set_option maxRecDepth 20000 in
theorem ggX4_leastRank_X4_isDeed : GoodIn wsX4_leastRank wsX4_isDeed := goodIn_r _ [12, 7, 8, 5, 9] (by decide +kernel) (by decide +kernel)
set_option maxRecDepth 20000 in
theorem gX4_leastRank_X4_isDeed : GoodIn wsX4_leastRank (va_wsS RX4 123 yX4_isDeed wsX4_isDeed) := goodIn_app (goodIn_of _ (by decide +kernel)) ggX4_leastRank_X4_isDeed
set_option maxRecDepth 20000 in
theorem ggX4_leastRank_X4_pairsOf : GoodIn wsX4_leastRank wsX4_pairsOf := goodIn_r _ [15] (by decide +kernel) (by decide +kernel)
set_option maxRecDepth 20000 in
theorem gX4_leastRank_X4_pairsOf : GoodIn wsX4_leastRank (va_wsS RX4 129 yX4_pairsOf wsX4_pairsOf) := goodIn_app (goodIn_of _ (by decide +kernel)) ggX4_leastRank_X4_pairsOf
set_option maxRecDepth 20000 in
theorem ggX4_leastRank_X2_leastRankFor : GoodIn wsX4_leastRank wsX2_leastRankFor := goodIn_r _ [20, 21, 22, 23, 19, 24, 25, 26, 27, 28, 29, 30, 31, 32, 33, 34, 35, 36, 37, 38, 39, 40, 41, 50, 51, 52, 53, 54, 55, 56] (by decide +kernel) (by decide +kernel)
set_option maxRecDepth 20000 in
theorem gX4_leastRank_X2_leastRankFor : GoodIn wsX4_leastRank (wsV RX4 192 RX2 yX2_leastRankFor wsX2_leastRankFor) := goodIn_app (goodIn_of _ (by decide +kernel)) ggX4_leastRank_X2_leastRankFor
theorem dX4_leastRank_0 : decode cX4_leastRank 0 = .ok (.iload_n 1, 1) := by decide +kernel
theorem dX4_leastRank_1 : decode cX4_leastRank 1 = .ok (.invokestatic 99, 3) := by decide +kernel
theorem dX4_leastRank_4 : decode cX4_leastRank 4 = .ok (.ifCond .eq 10, 3) := by decide +kernel
theorem dX4_leastRank_7 : decode cX4_leastRank 7 = .ok (.iload_n 2, 1) := by decide +kernel
theorem dX4_leastRank_8 : decode cX4_leastRank 8 = .ok (.invokestatic 123, 3) := by decide +kernel
theorem dX4_leastRank_11 : decode cX4_leastRank 11 = .ok (.ifCond .ne 5, 3) := by decide +kernel
theorem dX4_leastRank_14 : decode cX4_leastRank 14 = .ok (.iconst (-1), 1) := by decide +kernel
theorem dX4_leastRank_15 : decode cX4_leastRank 15 = .ok (.ireturn, 1) := by decide +kernel
theorem dX4_leastRank_16 : decode cX4_leastRank 16 = .ok (.aload_n 0, 1) := by decide +kernel
theorem dX4_leastRank_17 : decode cX4_leastRank 17 = .ok (.getfield 12, 3) := by decide +kernel
theorem dX4_leastRank_20 : decode cX4_leastRank 20 = .ok (.getfield 52, 3) := by decide +kernel
theorem dX4_leastRank_23 : decode cX4_leastRank 23 = .ok (.iload_n 1, 1) := by decide +kernel
theorem dX4_leastRank_24 : decode cX4_leastRank 24 = .ok (.iload_n 2, 1) := by decide +kernel
theorem dX4_leastRank_25 : decode cX4_leastRank 25 = .ok (.invokestatic 129, 3) := by decide +kernel
theorem dX4_leastRank_28 : decode cX4_leastRank 28 = .ok (.invokevirtual 192, 3) := by decide +kernel
theorem dX4_leastRank_31 : decode cX4_leastRank 31 = .ok (.ireturn, 1) := by decide +kernel
set_option maxRecDepth 20000 in
theorem ggX4_ifStruck_X2_has : GoodIn wsX4_ifStruck wsX2_has := goodIn_r _ [7, 8, 80, 81, 82, 83, 84, 85, 86] (by decide +kernel) (by decide +kernel)
set_option maxRecDepth 20000 in
theorem gX4_ifStruck_X2_has : GoodIn wsX4_ifStruck (wsV RX4 65 RX2 yX2_has wsX2_has) := goodIn_app (goodIn_of _ (by decide +kernel)) ggX4_ifStruck_X2_has
set_option maxRecDepth 20000 in
theorem ggX4_ifStruck_X4_triplesWithout : GoodIn wsX4_ifStruck wsX4_triplesWithout := goodIn_r _ [13, 14, 1, 2, 15, 16, 17, 6, 18, 19, 20, 21, 22, 23, 24, 8, 25, 12, 26, 27, 28, 29, 30, 31, 32, 33, 34, 35, 36, 37, 38, 39, 4, 5, 7, 40, 41, 42, 43, 44, 45, 46, 47, 48, 49, 50, 51, 52, 53, 54, 55, 56, 57, 58, 59, 60, 61, 62, 63, 64, 65, 66, 67, 68, 69, 70, 71, 72, 73, 74, 75, 76, 77, 78, 79, 80, 81, 82, 83, 84, 85, 86] (by decide +kernel) (by decide +kernel)
set_option maxRecDepth 20000 in
theorem gX4_ifStruck_X4_triplesWithout : GoodIn wsX4_ifStruck (wsV RX4 195 RX4 yX4_triplesWithout wsX4_triplesWithout) := goodIn_app (goodIn_of _ (by decide +kernel)) ggX4_ifStruck_X4_triplesWithout
set_option maxRecDepth 20000 in
theorem ggX4_ifStruck_X2_triples : GoodIn wsX4_ifStruck wsX2_triples := goodIn_r _ [48, 49, 50, 51, 6, 52, 8, 20, 24, 53, 54, 55, 56, 57, 58, 59, 60, 61, 62, 63, 23, 64, 65, 66, 67, 68, 69, 70, 71, 19, 80, 81, 82, 83, 84, 85, 86] (by decide +kernel) (by decide +kernel)
set_option maxRecDepth 20000 in
theorem gX4_ifStruck_X2_triples : GoodIn wsX4_ifStruck (wsV RX4 146 RX2 yX2_triples wsX2_triples) := goodIn_app (goodIn_of _ (by decide +kernel)) ggX4_ifStruck_X2_triples
theorem dX4_ifStruck_0 : decode cX4_ifStruck 0 = .ok (.aload_n 0, 1) := by decide +kernel
theorem dX4_ifStruck_1 : decode cX4_ifStruck 1 = .ok (.getfield 12, 3) := by decide +kernel
theorem dX4_ifStruck_4 : decode cX4_ifStruck 4 = .ok (.getfield 52, 3) := by decide +kernel
theorem dX4_ifStruck_7 : decode cX4_ifStruck 7 = .ok (.iload_n 1, 1) := by decide +kernel
theorem dX4_ifStruck_8 : decode cX4_ifStruck 8 = .ok (.invokevirtual 65, 3) := by decide +kernel
theorem dX4_ifStruck_11 : decode cX4_ifStruck 11 = .ok (.ifCond .ne 5, 3) := by decide +kernel
theorem dX4_ifStruck_14 : decode cX4_ifStruck 14 = .ok (.iconst (-1), 1) := by decide +kernel
theorem dX4_ifStruck_15 : decode cX4_ifStruck 15 = .ok (.ireturn, 1) := by decide +kernel
theorem dX4_ifStruck_16 : decode cX4_ifStruck 16 = .ok (.sipush 1000, 3) := by decide +kernel
theorem dX4_ifStruck_19 : decode cX4_ifStruck 19 = .ok (.aload_n 0, 1) := by decide +kernel
theorem dX4_ifStruck_20 : decode cX4_ifStruck 20 = .ok (.iload_n 1, 1) := by decide +kernel
theorem dX4_ifStruck_21 : decode cX4_ifStruck 21 = .ok (.invokevirtual 195, 3) := by decide +kernel
theorem dX4_ifStruck_24 : decode cX4_ifStruck 24 = .ok (.iadd, 1) := by decide +kernel
theorem dX4_ifStruck_25 : decode cX4_ifStruck 25 = .ok (.aload_n 0, 1) := by decide +kernel
theorem dX4_ifStruck_26 : decode cX4_ifStruck 26 = .ok (.getfield 12, 3) := by decide +kernel
theorem dX4_ifStruck_29 : decode cX4_ifStruck 29 = .ok (.getfield 52, 3) := by decide +kernel
theorem dX4_ifStruck_32 : decode cX4_ifStruck 32 = .ok (.invokevirtual 146, 3) := by decide +kernel
theorem dX4_ifStruck_35 : decode cX4_ifStruck 35 = .ok (.isub, 1) := by decide +kernel
theorem dX4_ifStruck_36 : decode cX4_ifStruck 36 = .ok (.ireturn, 1) := by decide +kernel
set_option maxRecDepth 20000 in
theorem ggX4_worstBan_X4_triplesWithout : GoodIn wsX4_worstBan wsX4_triplesWithout := goodIn_r _ [9, 10, 1, 2, 11, 12, 13, 14, 15, 16, 17, 18, 19, 20, 21, 22, 23, 8, 24, 25, 26, 27, 28, 29, 30, 31, 32, 33, 34, 35, 36, 37, 38, 39, 40, 41, 42, 43, 44, 45, 46, 47, 48, 49, 50, 51, 52, 53, 54, 55, 56, 57, 58, 59, 60, 61, 62, 63, 64, 65, 66, 67, 68, 69, 70, 71, 72, 73, 74, 75, 76, 77, 78, 79, 80, 81, 82, 83, 84, 85, 86, 87] (by decide +kernel) (by decide +kernel)
set_option maxRecDepth 20000 in
theorem gX4_worstBan_X4_triplesWithout : GoodIn wsX4_worstBan (wsV RX4 195 RX4 yX4_triplesWithout wsX4_triplesWithout) := goodIn_app (goodIn_of _ (by decide +kernel)) ggX4_worstBan_X4_triplesWithout
theorem dX4_worstBan_0 : decode cX4_worstBan 0 = .ok (.bipush (-6), 2) := by decide +kernel
theorem dX4_worstBan_2 : decode cX4_worstBan 2 = .ok (.istore_n 1, 1) := by decide +kernel
theorem dX4_worstBan_3 : decode cX4_worstBan 3 = .ok (.iconst (-1), 1) := by decide +kernel
theorem dX4_worstBan_4 : decode cX4_worstBan 4 = .ok (.istore_n 2, 1) := by decide +kernel
theorem dX4_worstBan_5 : decode cX4_worstBan 5 = .ok (.iconst 0, 1) := by decide +kernel
theorem dX4_worstBan_6 : decode cX4_worstBan 6 = .ok (.istore_n 3, 1) := by decide +kernel
theorem dX4_worstBan_7 : decode cX4_worstBan 7 = .ok (.iload_n 3, 1) := by decide +kernel
theorem dX4_worstBan_8 : decode cX4_worstBan 8 = .ok (.aload_n 0, 1) := by decide +kernel
theorem dX4_worstBan_9 : decode cX4_worstBan 9 = .ok (.getfield 12, 3) := by decide +kernel
theorem dX4_worstBan_12 : decode cX4_worstBan 12 = .ok (.getfield 52, 3) := by decide +kernel
theorem dX4_worstBan_15 : decode cX4_worstBan 15 = .ok (.getfield 55, 3) := by decide +kernel
theorem dX4_worstBan_18 : decode cX4_worstBan 18 = .ok (.if_icmp .ge 46, 3) := by decide +kernel
theorem dX4_worstBan_21 : decode cX4_worstBan 21 = .ok (.aload_n 0, 1) := by decide +kernel
theorem dX4_worstBan_22 : decode cX4_worstBan 22 = .ok (.getfield 12, 3) := by decide +kernel
theorem dX4_worstBan_25 : decode cX4_worstBan 25 = .ok (.getfield 52, 3) := by decide +kernel
theorem dX4_worstBan_28 : decode cX4_worstBan 28 = .ok (.getfield 76, 3) := by decide +kernel
theorem dX4_worstBan_31 : decode cX4_worstBan 31 = .ok (.iload_n 3, 1) := by decide +kernel
theorem dX4_worstBan_32 : decode cX4_worstBan 32 = .ok (.iaload, 1) := by decide +kernel
theorem dX4_worstBan_33 : decode cX4_worstBan 33 = .ok (.iconst 1, 1) := by decide +kernel
theorem dX4_worstBan_34 : decode cX4_worstBan 34 = .ok (.if_icmp .eq 6, 3) := by decide +kernel
theorem dX4_worstBan_37 : decode cX4_worstBan 37 = .ok (.goto 21, 3) := by decide +kernel
theorem dX4_worstBan_40 : decode cX4_worstBan 40 = .ok (.aload_n 0, 1) := by decide +kernel
theorem dX4_worstBan_41 : decode cX4_worstBan 41 = .ok (.iload_n 3, 1) := by decide +kernel
theorem dX4_worstBan_42 : decode cX4_worstBan 42 = .ok (.invokevirtual 195, 3) := by decide +kernel
theorem dX4_worstBan_45 : decode cX4_worstBan 45 = .ok (.istore 4, 2) := by decide +kernel
theorem dX4_worstBan_47 : decode cX4_worstBan 47 = .ok (.iload 4, 2) := by decide +kernel
theorem dX4_worstBan_49 : decode cX4_worstBan 49 = .ok (.iload_n 2, 1) := by decide +kernel
theorem dX4_worstBan_50 : decode cX4_worstBan 50 = .ok (.if_icmp .le 8, 3) := by decide +kernel
theorem dX4_worstBan_53 : decode cX4_worstBan 53 = .ok (.iload 4, 2) := by decide +kernel
theorem dX4_worstBan_55 : decode cX4_worstBan 55 = .ok (.istore_n 2, 1) := by decide +kernel
theorem dX4_worstBan_56 : decode cX4_worstBan 56 = .ok (.iload_n 3, 1) := by decide +kernel
theorem dX4_worstBan_57 : decode cX4_worstBan 57 = .ok (.istore_n 1, 1) := by decide +kernel
theorem dX4_worstBan_58 : decode cX4_worstBan 58 = .ok (.iinc 3 1, 3) := by decide +kernel
theorem dX4_worstBan_61 : decode cX4_worstBan 61 = .ok (.goto (-54), 3) := by decide +kernel
theorem dX4_worstBan_64 : decode cX4_worstBan 64 = .ok (.iload_n 1, 1) := by decide +kernel
theorem dX4_worstBan_65 : decode cX4_worstBan 65 = .ok (.ireturn, 1) := by decide +kernel
set_option maxRecDepth 20000 in
theorem ggX4_bestWaiver_X4_isSeal : GoodIn wsX4_bestWaiver wsX4_isSeal := goodIn_r _ [4, 5, 6, 3, 7] (by decide +kernel) (by decide +kernel)
set_option maxRecDepth 20000 in
theorem gX4_bestWaiver_X4_isSeal : GoodIn wsX4_bestWaiver (va_wsS RX4 49 yX4_isSeal wsX4_isSeal) := goodIn_app (goodIn_of _ (by decide +kernel)) ggX4_bestWaiver_X4_isSeal
set_option maxRecDepth 20000 in
theorem ggX4_bestWaiver_X4_triplesWithWaiver : GoodIn wsX4_bestWaiver wsX4_triplesWithWaiver := goodIn_r _ [11, 12, 13, 14, 15, 16, 17, 18, 19, 20, 21, 22, 23, 24, 25, 26, 27, 3, 28, 29, 30, 31, 32, 33, 34, 35, 36, 37, 38, 39, 40, 41, 42, 43, 44, 45, 46, 47, 48, 49, 50, 51, 52, 53, 54, 55, 56, 57, 58, 59, 60, 61, 62, 63, 64, 65, 66, 67, 68, 69, 70, 71, 72, 73, 74, 75, 76, 77, 78, 79, 80, 81, 82, 83, 84] (by decide +kernel) (by decide +kernel)
set_option maxRecDepth 20000 in
theorem gX4_bestWaiver_X4_triplesWithWaiver : GoodIn wsX4_bestWaiver (wsV RX4 198 RX4 yX4_triplesWithWaiver wsX4_triplesWithWaiver) := goodIn_app (goodIn_of _ (by decide +kernel)) ggX4_bestWaiver_X4_triplesWithWaiver
theorem dX4_bestWaiver_0 : decode cX4_bestWaiver 0 = .ok (.iload_n 1, 1) := by decide +kernel
theorem dX4_bestWaiver_1 : decode cX4_bestWaiver 1 = .ok (.invokestatic 49, 3) := by decide +kernel
theorem dX4_bestWaiver_4 : decode cX4_bestWaiver 4 = .ok (.ifCond .ne 6, 3) := by decide +kernel
theorem dX4_bestWaiver_7 : decode cX4_bestWaiver 7 = .ok (.bipush (-2), 2) := by decide +kernel
theorem dX4_bestWaiver_9 : decode cX4_bestWaiver 9 = .ok (.ireturn, 1) := by decide +kernel
theorem dX4_bestWaiver_10 : decode cX4_bestWaiver 10 = .ok (.iconst 0, 1) := by decide +kernel
theorem dX4_bestWaiver_11 : decode cX4_bestWaiver 11 = .ok (.istore_n 2, 1) := by decide +kernel
theorem dX4_bestWaiver_12 : decode cX4_bestWaiver 12 = .ok (.iconst (-1), 1) := by decide +kernel
theorem dX4_bestWaiver_13 : decode cX4_bestWaiver 13 = .ok (.istore_n 3, 1) := by decide +kernel
theorem dX4_bestWaiver_14 : decode cX4_bestWaiver 14 = .ok (.iconst 0, 1) := by decide +kernel
theorem dX4_bestWaiver_15 : decode cX4_bestWaiver 15 = .ok (.istore 4, 2) := by decide +kernel
theorem dX4_bestWaiver_17 : decode cX4_bestWaiver 17 = .ok (.iload 4, 2) := by decide +kernel
theorem dX4_bestWaiver_19 : decode cX4_bestWaiver 19 = .ok (.iconst 5, 1) := by decide +kernel
theorem dX4_bestWaiver_20 : decode cX4_bestWaiver 20 = .ok (.if_icmp .ge 30, 3) := by decide +kernel
theorem dX4_bestWaiver_23 : decode cX4_bestWaiver 23 = .ok (.aload_n 0, 1) := by decide +kernel
theorem dX4_bestWaiver_24 : decode cX4_bestWaiver 24 = .ok (.iload 4, 2) := by decide +kernel
theorem dX4_bestWaiver_26 : decode cX4_bestWaiver 26 = .ok (.iload_n 1, 1) := by decide +kernel
theorem dX4_bestWaiver_27 : decode cX4_bestWaiver 27 = .ok (.invokevirtual 198, 3) := by decide +kernel
theorem dX4_bestWaiver_30 : decode cX4_bestWaiver 30 = .ok (.istore 5, 2) := by decide +kernel
theorem dX4_bestWaiver_32 : decode cX4_bestWaiver 32 = .ok (.iload 5, 2) := by decide +kernel
theorem dX4_bestWaiver_34 : decode cX4_bestWaiver 34 = .ok (.iload_n 3, 1) := by decide +kernel
theorem dX4_bestWaiver_35 : decode cX4_bestWaiver 35 = .ok (.if_icmp .lt 9, 3) := by decide +kernel
theorem dX4_bestWaiver_38 : decode cX4_bestWaiver 38 = .ok (.iload 5, 2) := by decide +kernel
theorem dX4_bestWaiver_40 : decode cX4_bestWaiver 40 = .ok (.istore_n 3, 1) := by decide +kernel
theorem dX4_bestWaiver_41 : decode cX4_bestWaiver 41 = .ok (.iload 4, 2) := by decide +kernel
theorem dX4_bestWaiver_43 : decode cX4_bestWaiver 43 = .ok (.istore_n 2, 1) := by decide +kernel
theorem dX4_bestWaiver_44 : decode cX4_bestWaiver 44 = .ok (.iinc 4 1, 3) := by decide +kernel
theorem dX4_bestWaiver_47 : decode cX4_bestWaiver 47 = .ok (.goto (-30), 3) := by decide +kernel
theorem dX4_bestWaiver_50 : decode cX4_bestWaiver 50 = .ok (.iload_n 2, 1) := by decide +kernel
theorem dX4_bestWaiver_51 : decode cX4_bestWaiver 51 = .ok (.ireturn, 1) := by decide +kernel
set_option maxRecDepth 20000 in
theorem ggX4_put_X1_signsIn : GoodIn wsX4_put wsX1_signsIn := goodIn_r _ [6, 7, 8, 9, 10] (by decide +kernel) (by decide +kernel)
set_option maxRecDepth 20000 in
theorem gX4_put_X1_signsIn : GoodIn wsX4_put (va_wsS RX4 201 yX1_signsIn wsX1_signsIn) := goodIn_app (goodIn_of _ (by decide +kernel)) ggX4_put_X1_signsIn
set_option maxRecDepth 20000 in
theorem ggX4_put_X1_append : GoodIn wsX4_put wsX1_append := goodIn_r _ [14, 15, 16, 7, 23, 24] (by decide +kernel) (by decide +kernel)
set_option maxRecDepth 20000 in
theorem gX4_put_X1_append : GoodIn wsX4_put (wsV RX4 205 RX1 yX1_append wsX1_append) := goodIn_app (goodIn_of _ (by decide +kernel)) ggX4_put_X1_append
theorem dX4_put_0 : decode cX4_put 0 = .ok (.lload_n 1, 1) := by decide +kernel
theorem dX4_put_1 : decode cX4_put 1 = .ok (.invokestatic 201, 3) := by decide +kernel
theorem dX4_put_4 : decode cX4_put 4 = .ok (.istore_n 3, 1) := by decide +kernel
theorem dX4_put_5 : decode cX4_put 5 = .ok (.iload_n 3, 1) := by decide +kernel
theorem dX4_put_6 : decode cX4_put 6 = .ok (.ifCond .ne 6, 3) := by decide +kernel
theorem dX4_put_9 : decode cX4_put 9 = .ok (.bipush (-2), 2) := by decide +kernel
theorem dX4_put_11 : decode cX4_put 11 = .ok (.ireturn, 1) := by decide +kernel
theorem dX4_put_12 : decode cX4_put 12 = .ok (.aload_n 0, 1) := by decide +kernel
theorem dX4_put_13 : decode cX4_put 13 = .ok (.getfield 19, 3) := by decide +kernel
theorem dX4_put_16 : decode cX4_put 16 = .ok (.getfield 189, 3) := by decide +kernel
theorem dX4_put_19 : decode cX4_put 19 = .ok (.iload_n 3, 1) := by decide +kernel
theorem dX4_put_20 : decode cX4_put 20 = .ok (.iadd, 1) := by decide +kernel
theorem dX4_put_21 : decode cX4_put 21 = .ok (.bipush 60, 2) := by decide +kernel
theorem dX4_put_23 : decode cX4_put 23 = .ok (.if_icmp .le 6, 3) := by decide +kernel
theorem dX4_put_26 : decode cX4_put 26 = .ok (.bipush (-4), 2) := by decide +kernel
theorem dX4_put_28 : decode cX4_put 28 = .ok (.ireturn, 1) := by decide +kernel
theorem dX4_put_29 : decode cX4_put 29 = .ok (.aload_n 0, 1) := by decide +kernel
theorem dX4_put_30 : decode cX4_put 30 = .ok (.getfield 19, 3) := by decide +kernel
theorem dX4_put_33 : decode cX4_put 33 = .ok (.lload_n 1, 1) := by decide +kernel
theorem dX4_put_34 : decode cX4_put 34 = .ok (.iload_n 3, 1) := by decide +kernel
theorem dX4_put_35 : decode cX4_put 35 = .ok (.invokevirtual 205, 3) := by decide +kernel
theorem dX4_put_38 : decode cX4_put 38 = .ok (.aload_n 0, 1) := by decide +kernel
theorem dX4_put_39 : decode cX4_put 39 = .ok (.getfield 19, 3) := by decide +kernel
theorem dX4_put_42 : decode cX4_put 42 = .ok (.getfield 189, 3) := by decide +kernel
theorem dX4_put_45 : decode cX4_put 45 = .ok (.ireturn, 1) := by decide +kernel
set_option maxRecDepth 20000 in
theorem ggX4_wipe_X1_clear : GoodIn wsX4_wipe wsX1_clear := goodIn_r _ [7, 8, 15, 16] (by decide +kernel) (by decide +kernel)
set_option maxRecDepth 20000 in
theorem gX4_wipe_X1_clear : GoodIn wsX4_wipe (wsV RX4 93 RX1 yX1_clear wsX1_clear) := goodIn_app (goodIn_of _ (by decide +kernel)) ggX4_wipe_X1_clear
theorem dX4_wipe_0 : decode cX4_wipe 0 = .ok (.aload_n 0, 1) := by decide +kernel
theorem dX4_wipe_1 : decode cX4_wipe 1 = .ok (.getfield 19, 3) := by decide +kernel
theorem dX4_wipe_4 : decode cX4_wipe 4 = .ok (.getfield 189, 3) := by decide +kernel
theorem dX4_wipe_7 : decode cX4_wipe 7 = .ok (.istore_n 1, 1) := by decide +kernel
theorem dX4_wipe_8 : decode cX4_wipe 8 = .ok (.aload_n 0, 1) := by decide +kernel
theorem dX4_wipe_9 : decode cX4_wipe 9 = .ok (.getfield 19, 3) := by decide +kernel
theorem dX4_wipe_12 : decode cX4_wipe 12 = .ok (.invokevirtual 93, 3) := by decide +kernel
theorem dX4_wipe_15 : decode cX4_wipe 15 = .ok (.iload_n 1, 1) := by decide +kernel
theorem dX4_wipe_16 : decode cX4_wipe 16 = .ok (.ireturn, 1) := by decide +kernel
set_option maxRecDepth 20000 in
theorem ggX4_fault_X1_firstFault : GoodIn wsX4_fault wsX1_firstFault := goodIn_r _ [6, 7, 8, 9, 10, 5, 11, 12, 13, 14, 15, 16, 17, 18, 19, 20, 21, 22, 23, 30, 31] (by decide +kernel) (by decide +kernel)
set_option maxRecDepth 20000 in
theorem gX4_fault_X1_firstFault : GoodIn wsX4_fault (wsV RX4 82 RX1 yX1_firstFault wsX1_firstFault) := goodIn_app (goodIn_of _ (by decide +kernel)) ggX4_fault_X1_firstFault
theorem dX4_fault_0 : decode cX4_fault 0 = .ok (.aload_n 0, 1) := by decide +kernel
theorem dX4_fault_1 : decode cX4_fault 1 = .ok (.getfield 19, 3) := by decide +kernel
theorem dX4_fault_4 : decode cX4_fault 4 = .ok (.invokevirtual 82, 3) := by decide +kernel
theorem dX4_fault_7 : decode cX4_fault 7 = .ok (.ireturn, 1) := by decide +kernel
set_option maxRecDepth 20000 in
theorem ggX4_undo_X4_isBetween : GoodIn wsX4_undo wsX4_isBetween := goodIn_r _ [7] (by decide +kernel) (by decide +kernel)
set_option maxRecDepth 20000 in
theorem gX4_undo_X4_isBetween : GoodIn wsX4_undo (va_wsS RX4 45 yX4_isBetween wsX4_isBetween) := goodIn_app (goodIn_of _ (by decide +kernel)) ggX4_undo_X4_isBetween
set_option maxRecDepth 20000 in
theorem ggX4_undo_X3_copyFrom : GoodIn wsX4_undo wsX3_copyFrom := goodIn_r _ [12, 13, 14, 15, 16, 17, 18, 19, 20, 21, 22, 23, 24, 25, 26, 27, 6, 28, 29, 30, 31, 32, 33, 34, 35, 36, 37, 38, 39, 40, 41, 42, 43, 44, 45, 46, 47, 48, 55, 56, 57, 58, 59, 60, 61, 62, 63, 64, 65, 66, 67, 68, 69, 70] (by decide +kernel) (by decide +kernel)
set_option maxRecDepth 20000 in
theorem gX4_undo_X3_copyFrom : GoodIn wsX4_undo (wsV RX4 208 RX3 yX3_copyFrom wsX3_copyFrom) := goodIn_app (goodIn_of _ (by decide +kernel)) ggX4_undo_X3_copyFrom
theorem dX4_undo_0 : decode cX4_undo 0 = .ok (.aload_n 0, 1) := by decide +kernel
theorem dX4_undo_1 : decode cX4_undo 1 = .ok (.getfield 30, 3) := by decide +kernel
theorem dX4_undo_4 : decode cX4_undo 4 = .ok (.iconst 1, 1) := by decide +kernel
theorem dX4_undo_5 : decode cX4_undo 5 = .ok (.bipush 6, 2) := by decide +kernel
theorem dX4_undo_7 : decode cX4_undo 7 = .ok (.invokestatic 45, 3) := by decide +kernel
theorem dX4_undo_10 : decode cX4_undo 10 = .ok (.ifCond .ne 6, 3) := by decide +kernel
theorem dX4_undo_13 : decode cX4_undo 13 = .ok (.bipush (-5), 2) := by decide +kernel
theorem dX4_undo_15 : decode cX4_undo 15 = .ok (.ireturn, 1) := by decide +kernel
theorem dX4_undo_16 : decode cX4_undo 16 = .ok (.aload_n 0, 1) := by decide +kernel
theorem dX4_undo_17 : decode cX4_undo 17 = .ok (.getfield 27, 3) := by decide +kernel
theorem dX4_undo_20 : decode cX4_undo 20 = .ok (.aload_n 0, 1) := by decide +kernel
theorem dX4_undo_21 : decode cX4_undo 21 = .ok (.getfield 30, 3) := by decide +kernel
theorem dX4_undo_24 : decode cX4_undo 24 = .ok (.iconst 1, 1) := by decide +kernel
theorem dX4_undo_25 : decode cX4_undo 25 = .ok (.isub, 1) := by decide +kernel
theorem dX4_undo_26 : decode cX4_undo 26 = .ok (.aaload, 1) := by decide +kernel
theorem dX4_undo_27 : decode cX4_undo 27 = .ok (.astore_n 1, 1) := by decide +kernel
theorem dX4_undo_28 : decode cX4_undo 28 = .ok (.aload_n 1, 1) := by decide +kernel
theorem dX4_undo_29 : decode cX4_undo 29 = .ok (.ifnonnull 6, 3) := by decide +kernel
theorem dX4_undo_32 : decode cX4_undo 32 = .ok (.bipush (-5), 2) := by decide +kernel
theorem dX4_undo_34 : decode cX4_undo 34 = .ok (.ireturn, 1) := by decide +kernel
theorem dX4_undo_35 : decode cX4_undo 35 = .ok (.aload_n 0, 1) := by decide +kernel
theorem dX4_undo_36 : decode cX4_undo 36 = .ok (.getfield 12, 3) := by decide +kernel
theorem dX4_undo_39 : decode cX4_undo 39 = .ok (.aload_n 1, 1) := by decide +kernel
theorem dX4_undo_40 : decode cX4_undo 40 = .ok (.invokevirtual 208, 3) := by decide +kernel
theorem dX4_undo_43 : decode cX4_undo 43 = .ok (.aload_n 0, 1) := by decide +kernel
theorem dX4_undo_44 : decode cX4_undo 44 = .ok (.dup, 1) := by decide +kernel
theorem dX4_undo_45 : decode cX4_undo 45 = .ok (.getfield 30, 3) := by decide +kernel
theorem dX4_undo_48 : decode cX4_undo 48 = .ok (.iconst 1, 1) := by decide +kernel
theorem dX4_undo_49 : decode cX4_undo 49 = .ok (.isub, 1) := by decide +kernel
theorem dX4_undo_50 : decode cX4_undo 50 = .ok (.putfield 30, 3) := by decide +kernel
theorem dX4_undo_53 : decode cX4_undo 53 = .ok (.aload_n 0, 1) := by decide +kernel
theorem dX4_undo_54 : decode cX4_undo 54 = .ok (.getfield 30, 3) := by decide +kernel
theorem dX4_undo_57 : decode cX4_undo 57 = .ok (.ireturn, 1) := by decide +kernel
set_option maxRecDepth 20000 in
theorem ggX4_save_X4_isBetween : GoodIn wsX4_save wsX4_isBetween := goodIn_r _ [8] (by decide +kernel) (by decide +kernel)
set_option maxRecDepth 20000 in
theorem gX4_save_X4_isBetween : GoodIn wsX4_save (va_wsS RX4 45 yX4_isBetween wsX4_isBetween) := goodIn_app (goodIn_of _ (by decide +kernel)) ggX4_save_X4_isBetween
set_option maxRecDepth 20000 in
theorem ggX4_save_X4_copyInto : GoodIn wsX4_save wsX4_copyInto := goodIn_r _ [12, 13, 14, 15, 2, 16, 17, 18, 19, 20, 21, 22, 23, 24, 25, 26, 27, 28, 29, 30, 31, 32, 33, 34, 35, 36, 37, 38, 39, 40, 41, 42, 43, 44, 45, 46, 47, 48, 49, 50, 51, 52, 53, 54, 55, 56, 57, 58, 7, 59, 60, 61, 62, 63, 64, 65, 66, 67, 68, 69, 70, 71, 78, 79, 72, 73, 74, 75, 76, 77, 80, 81, 82, 83, 84, 85, 86, 87, 88, 89, 90, 91, 92, 93] (by decide +kernel) (by decide +kernel)
set_option maxRecDepth 20000 in
theorem gX4_save_X4_copyInto : GoodIn wsX4_save (wsV RX4 212 RX4 yX4_copyInto wsX4_copyInto) := goodIn_app (goodIn_of _ (by decide +kernel)) ggX4_save_X4_copyInto
theorem dX4_save_0 : decode cX4_save 0 = .ok (.iload_n 1, 1) := by decide +kernel
theorem dX4_save_1 : decode cX4_save 1 = .ok (.iconst 0, 1) := by decide +kernel
theorem dX4_save_2 : decode cX4_save 2 = .ok (.iconst 1, 1) := by decide +kernel
theorem dX4_save_3 : decode cX4_save 3 = .ok (.invokestatic 45, 3) := by decide +kernel
theorem dX4_save_6 : decode cX4_save 6 = .ok (.ifCond .ne 6, 3) := by decide +kernel
theorem dX4_save_9 : decode cX4_save 9 = .ok (.bipush (-2), 2) := by decide +kernel
theorem dX4_save_11 : decode cX4_save 11 = .ok (.ireturn, 1) := by decide +kernel
theorem dX4_save_12 : decode cX4_save 12 = .ok (.aload_n 0, 1) := by decide +kernel
theorem dX4_save_13 : decode cX4_save 13 = .ok (.getfield 23, 3) := by decide +kernel
theorem dX4_save_16 : decode cX4_save 16 = .ok (.iload_n 1, 1) := by decide +kernel
theorem dX4_save_17 : decode cX4_save 17 = .ok (.aload_n 0, 1) := by decide +kernel
theorem dX4_save_18 : decode cX4_save 18 = .ok (.aload_n 0, 1) := by decide +kernel
theorem dX4_save_19 : decode cX4_save 19 = .ok (.getfield 23, 3) := by decide +kernel
theorem dX4_save_22 : decode cX4_save 22 = .ok (.iload_n 1, 1) := by decide +kernel
theorem dX4_save_23 : decode cX4_save 23 = .ok (.aaload, 1) := by decide +kernel
theorem dX4_save_24 : decode cX4_save 24 = .ok (.invokevirtual 212, 3) := by decide +kernel
theorem dX4_save_27 : decode cX4_save 27 = .ok (.aastore, 1) := by decide +kernel
theorem dX4_save_28 : decode cX4_save 28 = .ok (.aload_n 0, 1) := by decide +kernel
theorem dX4_save_29 : decode cX4_save 29 = .ok (.getfield 12, 3) := by decide +kernel
theorem dX4_save_32 : decode cX4_save 32 = .ok (.getfield 52, 3) := by decide +kernel
theorem dX4_save_35 : decode cX4_save 35 = .ok (.getfield 55, 3) := by decide +kernel
theorem dX4_save_38 : decode cX4_save 38 = .ok (.ireturn, 1) := by decide +kernel
set_option maxRecDepth 20000 in
theorem ggX4_restore_X4_isBetween : GoodIn wsX4_restore wsX4_isBetween := goodIn_r _ [8] (by decide +kernel) (by decide +kernel)
set_option maxRecDepth 20000 in
theorem gX4_restore_X4_isBetween : GoodIn wsX4_restore (va_wsS RX4 45 yX4_isBetween wsX4_isBetween) := goodIn_app (goodIn_of _ (by decide +kernel)) ggX4_restore_X4_isBetween
set_option maxRecDepth 20000 in
theorem ggX4_restore_X4_remember : GoodIn wsX4_restore wsX4_remember := goodIn_r _ [12, 13, 14, 15, 16, 17, 7, 18, 19, 20, 21, 22, 23, 24, 25, 2, 26, 27, 28, 29, 30, 31, 32, 33, 34, 35, 36, 37, 38, 39, 40, 41, 42, 43, 44, 45, 46, 47, 48, 49, 50, 51, 52, 53, 54, 55, 56, 57, 58, 59, 60, 61, 62, 63, 64, 65, 66, 67, 68, 69, 70, 71, 72, 73, 74, 75, 76, 77, 78, 79, 80, 81, 82, 83, 84, 85, 86, 87, 88, 89, 90, 91, 92, 93, 94, 95, 96, 97, 98, 99, 100, 101, 102, 103] (by decide +kernel) (by decide +kernel)
set_option maxRecDepth 20000 in
theorem gX4_restore_X4_remember : GoodIn wsX4_restore (wsV RX4 58 RX4 yX4_remember wsX4_remember) := goodIn_app (goodIn_of _ (by decide +kernel)) ggX4_restore_X4_remember
set_option maxRecDepth 20000 in
theorem ggX4_restore_X3_copyFrom : GoodIn wsX4_restore wsX3_copyFrom := goodIn_r _ [63, 34, 38, 64, 65, 66, 33, 67, 43, 44, 45, 46, 47, 48, 49, 68, 7, 69, 70, 71, 72, 73, 74, 75, 76, 77, 78, 79, 80, 37, 81, 53, 54, 55, 56, 57, 58, 59, 88, 89, 90, 91, 92, 93, 94, 95, 96, 97, 98, 99, 100, 101, 102, 103] (by decide +kernel) (by decide +kernel)
set_option maxRecDepth 20000 in
theorem gX4_restore_X3_copyFrom : GoodIn wsX4_restore (wsV RX4 208 RX3 yX3_copyFrom wsX3_copyFrom) := goodIn_app (goodIn_of _ (by decide +kernel)) ggX4_restore_X3_copyFrom
theorem dX4_restore_0 : decode cX4_restore 0 = .ok (.iload_n 1, 1) := by decide +kernel
theorem dX4_restore_1 : decode cX4_restore 1 = .ok (.iconst 0, 1) := by decide +kernel
theorem dX4_restore_2 : decode cX4_restore 2 = .ok (.iconst 1, 1) := by decide +kernel
theorem dX4_restore_3 : decode cX4_restore 3 = .ok (.invokestatic 45, 3) := by decide +kernel
theorem dX4_restore_6 : decode cX4_restore 6 = .ok (.ifCond .ne 6, 3) := by decide +kernel
theorem dX4_restore_9 : decode cX4_restore 9 = .ok (.bipush (-2), 2) := by decide +kernel
theorem dX4_restore_11 : decode cX4_restore 11 = .ok (.ireturn, 1) := by decide +kernel
theorem dX4_restore_12 : decode cX4_restore 12 = .ok (.aload_n 0, 1) := by decide +kernel
theorem dX4_restore_13 : decode cX4_restore 13 = .ok (.getfield 23, 3) := by decide +kernel
theorem dX4_restore_16 : decode cX4_restore 16 = .ok (.iload_n 1, 1) := by decide +kernel
theorem dX4_restore_17 : decode cX4_restore 17 = .ok (.aaload, 1) := by decide +kernel
theorem dX4_restore_18 : decode cX4_restore 18 = .ok (.astore_n 2, 1) := by decide +kernel
theorem dX4_restore_19 : decode cX4_restore 19 = .ok (.aload_n 2, 1) := by decide +kernel
theorem dX4_restore_20 : decode cX4_restore 20 = .ok (.ifnonnull 6, 3) := by decide +kernel
theorem dX4_restore_23 : decode cX4_restore 23 = .ok (.bipush (-5), 2) := by decide +kernel
theorem dX4_restore_25 : decode cX4_restore 25 = .ok (.ireturn, 1) := by decide +kernel
theorem dX4_restore_26 : decode cX4_restore 26 = .ok (.aload_n 0, 1) := by decide +kernel
theorem dX4_restore_27 : decode cX4_restore 27 = .ok (.invokevirtual 58, 3) := by decide +kernel
theorem dX4_restore_30 : decode cX4_restore 30 = .ok (.aload_n 0, 1) := by decide +kernel
theorem dX4_restore_31 : decode cX4_restore 31 = .ok (.getfield 12, 3) := by decide +kernel
theorem dX4_restore_34 : decode cX4_restore 34 = .ok (.aload_n 2, 1) := by decide +kernel
theorem dX4_restore_35 : decode cX4_restore 35 = .ok (.invokevirtual 208, 3) := by decide +kernel
theorem dX4_restore_38 : decode cX4_restore 38 = .ok (.aload_n 0, 1) := by decide +kernel
theorem dX4_restore_39 : decode cX4_restore 39 = .ok (.getfield 12, 3) := by decide +kernel
theorem dX4_restore_42 : decode cX4_restore 42 = .ok (.getfield 52, 3) := by decide +kernel
theorem dX4_restore_45 : decode cX4_restore 45 = .ok (.getfield 55, 3) := by decide +kernel
theorem dX4_restore_48 : decode cX4_restore 48 = .ok (.ireturn, 1) := by decide +kernel
set_option maxRecDepth 20000 in
theorem ggX4_remember_X4_dropOldest : GoodIn wsX4_remember wsX4_dropOldest := goodIn_r _ [7, 2, 1, 72, 73, 74, 75, 76, 77] (by decide +kernel) (by decide +kernel)
set_option maxRecDepth 20000 in
theorem gX4_remember_X4_dropOldest : GoodIn wsX4_remember (wsV RX4 216 RX4 yX4_dropOldest wsX4_dropOldest) := goodIn_app (goodIn_of _ (by decide +kernel)) ggX4_remember_X4_dropOldest
set_option maxRecDepth 20000 in
theorem ggX4_remember_X4_copyInto : GoodIn wsX4_remember wsX4_copyInto := goodIn_r _ [11, 12, 13, 14, 15, 16, 17, 18, 19, 20, 21, 22, 23, 24, 25, 26, 27, 28, 29, 30, 31, 32, 33, 34, 35, 36, 37, 38, 39, 40, 41, 42, 43, 44, 45, 46, 47, 48, 49, 50, 51, 52, 53, 54, 55, 56, 57, 58, 6, 59, 60, 61, 62, 63, 64, 65, 66, 67, 68, 69, 70, 71, 78, 79, 72, 73, 74, 75, 76, 77, 80, 81, 82, 83, 84, 85, 86, 87, 88, 89, 90, 91, 92, 93] (by decide +kernel) (by decide +kernel)
set_option maxRecDepth 20000 in
theorem gX4_remember_X4_copyInto : GoodIn wsX4_remember (wsV RX4 212 RX4 yX4_copyInto wsX4_copyInto) := goodIn_app (goodIn_of _ (by decide +kernel)) ggX4_remember_X4_copyInto
theorem dX4_remember_0 : decode cX4_remember 0 = .ok (.aload_n 0, 1) := by decide +kernel
theorem dX4_remember_1 : decode cX4_remember 1 = .ok (.getfield 30, 3) := by decide +kernel
theorem dX4_remember_4 : decode cX4_remember 4 = .ok (.bipush 6, 2) := by decide +kernel
theorem dX4_remember_6 : decode cX4_remember 6 = .ok (.if_icmp .lt 7, 3) := by decide +kernel
theorem dX4_remember_9 : decode cX4_remember 9 = .ok (.aload_n 0, 1) := by decide +kernel
theorem dX4_remember_10 : decode cX4_remember 10 = .ok (.invokevirtual 216, 3) := by decide +kernel
theorem dX4_remember_13 : decode cX4_remember 13 = .ok (.aload_n 0, 1) := by decide +kernel
theorem dX4_remember_14 : decode cX4_remember 14 = .ok (.getfield 27, 3) := by decide +kernel
theorem dX4_remember_17 : decode cX4_remember 17 = .ok (.aload_n 0, 1) := by decide +kernel
theorem dX4_remember_18 : decode cX4_remember 18 = .ok (.getfield 30, 3) := by decide +kernel
theorem dX4_remember_21 : decode cX4_remember 21 = .ok (.aload_n 0, 1) := by decide +kernel
theorem dX4_remember_22 : decode cX4_remember 22 = .ok (.aload_n 0, 1) := by decide +kernel
theorem dX4_remember_23 : decode cX4_remember 23 = .ok (.getfield 27, 3) := by decide +kernel
theorem dX4_remember_26 : decode cX4_remember 26 = .ok (.aload_n 0, 1) := by decide +kernel
theorem dX4_remember_27 : decode cX4_remember 27 = .ok (.getfield 30, 3) := by decide +kernel
theorem dX4_remember_30 : decode cX4_remember 30 = .ok (.aaload, 1) := by decide +kernel
theorem dX4_remember_31 : decode cX4_remember 31 = .ok (.invokevirtual 212, 3) := by decide +kernel
theorem dX4_remember_34 : decode cX4_remember 34 = .ok (.aastore, 1) := by decide +kernel
theorem dX4_remember_35 : decode cX4_remember 35 = .ok (.aload_n 0, 1) := by decide +kernel
theorem dX4_remember_36 : decode cX4_remember 36 = .ok (.dup, 1) := by decide +kernel
theorem dX4_remember_37 : decode cX4_remember 37 = .ok (.getfield 30, 3) := by decide +kernel
theorem dX4_remember_40 : decode cX4_remember 40 = .ok (.iconst 1, 1) := by decide +kernel
theorem dX4_remember_41 : decode cX4_remember 41 = .ok (.iadd, 1) := by decide +kernel
theorem dX4_remember_42 : decode cX4_remember 42 = .ok (.putfield 30, 3) := by decide +kernel
theorem dX4_remember_45 : decode cX4_remember 45 = .ok (.return_, 1) := by decide +kernel
theorem dX4_dropOldest_0 : decode cX4_dropOldest 0 = .ok (.aload_n 0, 1) := by decide +kernel
theorem dX4_dropOldest_1 : decode cX4_dropOldest 1 = .ok (.getfield 27, 3) := by decide +kernel
theorem dX4_dropOldest_4 : decode cX4_dropOldest 4 = .ok (.iconst 0, 1) := by decide +kernel
theorem dX4_dropOldest_5 : decode cX4_dropOldest 5 = .ok (.aaload, 1) := by decide +kernel
theorem dX4_dropOldest_6 : decode cX4_dropOldest 6 = .ok (.astore_n 1, 1) := by decide +kernel
theorem dX4_dropOldest_7 : decode cX4_dropOldest 7 = .ok (.iconst 0, 1) := by decide +kernel
theorem dX4_dropOldest_8 : decode cX4_dropOldest 8 = .ok (.istore_n 2, 1) := by decide +kernel
theorem dX4_dropOldest_9 : decode cX4_dropOldest 9 = .ok (.iload_n 2, 1) := by decide +kernel
theorem dX4_dropOldest_10 : decode cX4_dropOldest 10 = .ok (.iconst 5, 1) := by decide +kernel
theorem dX4_dropOldest_11 : decode cX4_dropOldest 11 = .ok (.if_icmp .ge 23, 3) := by decide +kernel
theorem dX4_dropOldest_14 : decode cX4_dropOldest 14 = .ok (.aload_n 0, 1) := by decide +kernel
theorem dX4_dropOldest_15 : decode cX4_dropOldest 15 = .ok (.getfield 27, 3) := by decide +kernel
theorem dX4_dropOldest_18 : decode cX4_dropOldest 18 = .ok (.iload_n 2, 1) := by decide +kernel
theorem dX4_dropOldest_19 : decode cX4_dropOldest 19 = .ok (.aload_n 0, 1) := by decide +kernel
theorem dX4_dropOldest_20 : decode cX4_dropOldest 20 = .ok (.getfield 27, 3) := by decide +kernel
theorem dX4_dropOldest_23 : decode cX4_dropOldest 23 = .ok (.iload_n 2, 1) := by decide +kernel
theorem dX4_dropOldest_24 : decode cX4_dropOldest 24 = .ok (.iconst 1, 1) := by decide +kernel
theorem dX4_dropOldest_25 : decode cX4_dropOldest 25 = .ok (.iadd, 1) := by decide +kernel
theorem dX4_dropOldest_26 : decode cX4_dropOldest 26 = .ok (.aaload, 1) := by decide +kernel
theorem dX4_dropOldest_27 : decode cX4_dropOldest 27 = .ok (.aastore, 1) := by decide +kernel
theorem dX4_dropOldest_28 : decode cX4_dropOldest 28 = .ok (.iinc 2 1, 3) := by decide +kernel
theorem dX4_dropOldest_31 : decode cX4_dropOldest 31 = .ok (.goto (-22), 3) := by decide +kernel
theorem dX4_dropOldest_34 : decode cX4_dropOldest 34 = .ok (.aload_n 0, 1) := by decide +kernel
theorem dX4_dropOldest_35 : decode cX4_dropOldest 35 = .ok (.getfield 27, 3) := by decide +kernel
theorem dX4_dropOldest_38 : decode cX4_dropOldest 38 = .ok (.iconst 5, 1) := by decide +kernel
theorem dX4_dropOldest_39 : decode cX4_dropOldest 39 = .ok (.aload_n 1, 1) := by decide +kernel
theorem dX4_dropOldest_40 : decode cX4_dropOldest 40 = .ok (.aastore, 1) := by decide +kernel
theorem dX4_dropOldest_41 : decode cX4_dropOldest 41 = .ok (.aload_n 0, 1) := by decide +kernel
theorem dX4_dropOldest_42 : decode cX4_dropOldest 42 = .ok (.iconst 5, 1) := by decide +kernel
theorem dX4_dropOldest_43 : decode cX4_dropOldest 43 = .ok (.putfield 30, 3) := by decide +kernel
theorem dX4_dropOldest_46 : decode cX4_dropOldest 46 = .ok (.return_, 1) := by decide +kernel
set_option maxRecDepth 20000 in
theorem ggX4_copyInto_X3_init : GoodIn wsX4_copyInto wsX3_init := goodIn_r _ [6, 7, 8, 9, 10, 11, 12, 13, 14, 15, 16, 17, 18, 19, 20, 21, 22, 23, 24, 25, 26, 27, 28, 29, 30, 31, 32, 33, 34, 35, 36, 37, 38, 70, 71, 72, 73, 74, 75, 76, 62, 63, 77, 78, 79, 80, 81, 82, 83] (by decide +kernel) (by decide +kernel)
set_option maxRecDepth 20000 in
theorem gX4_copyInto_X3_init_n11 : GoodIn wsX4_copyInto (wsX3_init) := ggX4_copyInto_X3_init
set_option maxRecDepth 20000 in
theorem ggX4_copyInto_X3_copyFrom : GoodIn wsX4_copyInto wsX3_copyFrom := goodIn_r _ [42, 13, 17, 43, 44, 45, 12, 46, 22, 23, 24, 25, 26, 27, 28, 47, 48, 49, 50, 51, 52, 53, 54, 55, 56, 57, 58, 59, 60, 16, 61, 32, 33, 34, 35, 36, 37, 38, 62, 63, 70, 71, 72, 73, 74, 75, 76, 77, 78, 79, 80, 81, 82, 83] (by decide +kernel) (by decide +kernel)
set_option maxRecDepth 20000 in
theorem gX4_copyInto_X3_copyFrom : GoodIn wsX4_copyInto (wsV RX4 208 RX3 yX3_copyFrom wsX3_copyFrom) := goodIn_app (goodIn_of _ (by decide +kernel)) ggX4_copyInto_X3_copyFrom
theorem dX4_copyInto_0 : decode cX4_copyInto 0 = .ok (.aload_n 1, 1) := by decide +kernel
theorem dX4_copyInto_1 : decode cX4_copyInto 1 = .ok (.ifnonnull 13, 3) := by decide +kernel
theorem dX4_copyInto_4 : decode cX4_copyInto 4 = .ok (.new 9, 3) := by decide +kernel
theorem dX4_copyInto_7 : decode cX4_copyInto 7 = .ok (.dup, 1) := by decide +kernel
theorem dX4_copyInto_8 : decode cX4_copyInto 8 = .ok (.invokespecial 11, 3) := by decide +kernel
theorem dX4_copyInto_11 : decode cX4_copyInto 11 = .ok (.goto 4, 3) := by decide +kernel
theorem dX4_copyInto_14 : decode cX4_copyInto 14 = .ok (.aload_n 1, 1) := by decide +kernel
theorem dX4_copyInto_15 : decode cX4_copyInto 15 = .ok (.astore_n 2, 1) := by decide +kernel
theorem dX4_copyInto_16 : decode cX4_copyInto 16 = .ok (.aload_n 2, 1) := by decide +kernel
theorem dX4_copyInto_17 : decode cX4_copyInto 17 = .ok (.aload_n 0, 1) := by decide +kernel
theorem dX4_copyInto_18 : decode cX4_copyInto 18 = .ok (.getfield 12, 3) := by decide +kernel
theorem dX4_copyInto_21 : decode cX4_copyInto 21 = .ok (.invokevirtual 208, 3) := by decide +kernel
theorem dX4_copyInto_24 : decode cX4_copyInto 24 = .ok (.aload_n 2, 1) := by decide +kernel
theorem dX4_copyInto_25 : decode cX4_copyInto 25 = .ok (.areturn, 1) := by decide +kernel
set_option maxRecDepth 20000 in
theorem ggX4_triplesWithout_X2_copyFrom : GoodIn wsX4_triplesWithout wsX2_copyFrom := goodIn_r _ [8, 9, 10, 11, 12, 13, 14, 15, 16, 17, 18, 19, 20, 21, 22, 23, 24, 25, 26, 75, 76, 77, 78, 79, 80, 81] (by decide +kernel) (by decide +kernel)
set_option maxRecDepth 20000 in
theorem gX4_triplesWithout_X2_copyFrom : GoodIn wsX4_triplesWithout (wsV RX4 219 RX2 yX2_copyFrom wsX2_copyFrom) := goodIn_app (goodIn_of _ (by decide +kernel)) ggX4_triplesWithout_X2_copyFrom
set_option maxRecDepth 20000 in
theorem ggX4_triplesWithout_X2_remove : GoodIn wsX4_triplesWithout wsX2_remove := goodIn_r _ [30, 9, 10, 11, 12, 13, 14, 15, 31, 32, 33, 7, 34, 35, 17, 36, 37, 38, 21, 39, 75, 76, 77, 78, 79, 80, 81] (by decide +kernel) (by decide +kernel)
set_option maxRecDepth 20000 in
theorem gX4_triplesWithout_X2_remove : GoodIn wsX4_triplesWithout (wsV RX4 68 RX2 yX2_remove wsX2_remove) := goodIn_app (goodIn_of _ (by decide +kernel)) ggX4_triplesWithout_X2_remove
set_option maxRecDepth 20000 in
theorem ggX4_triplesWithout_X2_triples : GoodIn wsX4_triplesWithout wsX2_triples := goodIn_r _ [43, 44, 45, 46, 7, 47, 15, 10, 14, 48, 49, 50, 51, 52, 53, 54, 55, 56, 57, 58, 13, 59, 60, 61, 62, 63, 64, 65, 66, 9, 75, 76, 77, 78, 79, 80, 81] (by decide +kernel) (by decide +kernel)
set_option maxRecDepth 20000 in
theorem gX4_triplesWithout_X2_triples : GoodIn wsX4_triplesWithout (wsV RX4 146 RX2 yX2_triples wsX2_triples) := goodIn_app (goodIn_of _ (by decide +kernel)) ggX4_triplesWithout_X2_triples
theorem dX4_triplesWithout_0 : decode cX4_triplesWithout 0 = .ok (.aload_n 0, 1) := by decide +kernel
theorem dX4_triplesWithout_1 : decode cX4_triplesWithout 1 = .ok (.getfield 37, 3) := by decide +kernel
theorem dX4_triplesWithout_4 : decode cX4_triplesWithout 4 = .ok (.aload_n 0, 1) := by decide +kernel
theorem dX4_triplesWithout_5 : decode cX4_triplesWithout 5 = .ok (.getfield 12, 3) := by decide +kernel
theorem dX4_triplesWithout_8 : decode cX4_triplesWithout 8 = .ok (.getfield 52, 3) := by decide +kernel
theorem dX4_triplesWithout_11 : decode cX4_triplesWithout 11 = .ok (.invokevirtual 219, 3) := by decide +kernel
theorem dX4_triplesWithout_14 : decode cX4_triplesWithout 14 = .ok (.aload_n 0, 1) := by decide +kernel
theorem dX4_triplesWithout_15 : decode cX4_triplesWithout 15 = .ok (.getfield 37, 3) := by decide +kernel
theorem dX4_triplesWithout_18 : decode cX4_triplesWithout 18 = .ok (.iload_n 1, 1) := by decide +kernel
theorem dX4_triplesWithout_19 : decode cX4_triplesWithout 19 = .ok (.invokevirtual 68, 3) := by decide +kernel
theorem dX4_triplesWithout_22 : decode cX4_triplesWithout 22 = .ok (.aload_n 0, 1) := by decide +kernel
theorem dX4_triplesWithout_23 : decode cX4_triplesWithout 23 = .ok (.getfield 37, 3) := by decide +kernel
theorem dX4_triplesWithout_26 : decode cX4_triplesWithout 26 = .ok (.invokevirtual 146, 3) := by decide +kernel
theorem dX4_triplesWithout_29 : decode cX4_triplesWithout 29 = .ok (.ireturn, 1) := by decide +kernel
set_option maxRecDepth 20000 in
theorem ggX4_triplesWithWaiver_X2_copyFrom : GoodIn wsX4_triplesWithWaiver wsX2_copyFrom := goodIn_r _ [8, 9, 10, 11, 12, 13, 14, 15, 16, 17, 18, 19, 20, 21, 22, 23, 24, 25, 26, 68, 69, 70, 71, 72, 73, 74] (by decide +kernel) (by decide +kernel)
set_option maxRecDepth 20000 in
theorem gX4_triplesWithWaiver_X2_copyFrom : GoodIn wsX4_triplesWithWaiver (wsV RX4 219 RX2 yX2_copyFrom wsX2_copyFrom) := goodIn_app (goodIn_of _ (by decide +kernel)) ggX4_triplesWithWaiver_X2_copyFrom
set_option maxRecDepth 20000 in
theorem ggX4_triplesWithWaiver_X2_append : GoodIn wsX4_triplesWithWaiver wsX2_append := goodIn_r _ [30, 15, 9, 10, 11, 12, 13, 14, 31, 17, 32, 68, 69, 70, 71, 72, 73, 74] (by decide +kernel) (by decide +kernel)
set_option maxRecDepth 20000 in
theorem gX4_triplesWithWaiver_X2_append : GoodIn wsX4_triplesWithWaiver (wsV RX4 61 RX2 yX2_append wsX2_append) := goodIn_app (goodIn_of _ (by decide +kernel)) ggX4_triplesWithWaiver_X2_append
set_option maxRecDepth 20000 in
theorem ggX4_triplesWithWaiver_X2_triples : GoodIn wsX4_triplesWithWaiver wsX2_triples := goodIn_r _ [36, 37, 38, 39, 7, 40, 15, 10, 14, 41, 42, 43, 44, 45, 46, 47, 48, 49, 50, 51, 13, 52, 53, 54, 55, 56, 57, 58, 59, 9, 68, 69, 70, 71, 72, 73, 74] (by decide +kernel) (by decide +kernel)
set_option maxRecDepth 20000 in
theorem gX4_triplesWithWaiver_X2_triples : GoodIn wsX4_triplesWithWaiver (wsV RX4 146 RX2 yX2_triples wsX2_triples) := goodIn_app (goodIn_of _ (by decide +kernel)) ggX4_triplesWithWaiver_X2_triples
theorem dX4_triplesWithWaiver_0 : decode cX4_triplesWithWaiver 0 = .ok (.aload_n 0, 1) := by decide +kernel
theorem dX4_triplesWithWaiver_1 : decode cX4_triplesWithWaiver 1 = .ok (.getfield 37, 3) := by decide +kernel
theorem dX4_triplesWithWaiver_4 : decode cX4_triplesWithWaiver 4 = .ok (.aload_n 0, 1) := by decide +kernel
theorem dX4_triplesWithWaiver_5 : decode cX4_triplesWithWaiver 5 = .ok (.getfield 12, 3) := by decide +kernel
theorem dX4_triplesWithWaiver_8 : decode cX4_triplesWithWaiver 8 = .ok (.getfield 52, 3) := by decide +kernel
theorem dX4_triplesWithWaiver_11 : decode cX4_triplesWithWaiver 11 = .ok (.invokevirtual 219, 3) := by decide +kernel
theorem dX4_triplesWithWaiver_14 : decode cX4_triplesWithWaiver 14 = .ok (.aload_n 0, 1) := by decide +kernel
theorem dX4_triplesWithWaiver_15 : decode cX4_triplesWithWaiver 15 = .ok (.getfield 37, 3) := by decide +kernel
theorem dX4_triplesWithWaiver_18 : decode cX4_triplesWithWaiver 18 = .ok (.iload_n 1, 1) := by decide +kernel
theorem dX4_triplesWithWaiver_19 : decode cX4_triplesWithWaiver 19 = .ok (.iconst 2, 1) := by decide +kernel
theorem dX4_triplesWithWaiver_20 : decode cX4_triplesWithWaiver 20 = .ok (.iconst 5, 1) := by decide +kernel
theorem dX4_triplesWithWaiver_21 : decode cX4_triplesWithWaiver 21 = .ok (.bipush 6, 2) := by decide +kernel
theorem dX4_triplesWithWaiver_23 : decode cX4_triplesWithWaiver 23 = .ok (.iload_n 2, 1) := by decide +kernel
theorem dX4_triplesWithWaiver_24 : decode cX4_triplesWithWaiver 24 = .ok (.invokevirtual 61, 3) := by decide +kernel
theorem dX4_triplesWithWaiver_27 : decode cX4_triplesWithWaiver 27 = .ok (.aload_n 0, 1) := by decide +kernel
theorem dX4_triplesWithWaiver_28 : decode cX4_triplesWithWaiver 28 = .ok (.getfield 37, 3) := by decide +kernel
theorem dX4_triplesWithWaiver_31 : decode cX4_triplesWithWaiver 31 = .ok (.invokevirtual 146, 3) := by decide +kernel
theorem dX4_triplesWithWaiver_34 : decode cX4_triplesWithWaiver 34 = .ok (.ireturn, 1) := by decide +kernel
set_option maxRecDepth 20000 in
theorem ggX4_isIdle_X4_triplesWithout : GoodIn wsX4_isIdle wsX4_triplesWithout := goodIn_r _ [5, 6, 7, 8, 9, 10, 11, 12, 13, 14, 15, 16, 17, 18, 19, 20, 21, 4, 22, 23, 24, 25, 26, 27, 28, 29, 30, 31, 32, 33, 34, 35, 36, 37, 38, 39, 40, 41, 42, 43, 44, 45, 46, 47, 48, 49, 50, 51, 52, 53, 54, 55, 56, 57, 58, 59, 60, 61, 62, 63, 64, 65, 66, 67, 68, 69, 70, 71, 72, 73, 74, 75, 76, 77, 78, 79, 80, 81, 82, 83, 84, 85] (by decide +kernel) (by decide +kernel)
set_option maxRecDepth 20000 in
theorem gX4_isIdle_X4_triplesWithout : GoodIn wsX4_isIdle (wsV RX4 195 RX4 yX4_triplesWithout wsX4_triplesWithout) := goodIn_app (goodIn_of _ (by decide +kernel)) ggX4_isIdle_X4_triplesWithout
theorem dX4_isIdle_0 : decode cX4_isIdle 0 = .ok (.aload_n 0, 1) := by decide +kernel
theorem dX4_isIdle_1 : decode cX4_isIdle 1 = .ok (.iload_n 1, 1) := by decide +kernel
theorem dX4_isIdle_2 : decode cX4_isIdle 2 = .ok (.invokevirtual 195, 3) := by decide +kernel
theorem dX4_isIdle_5 : decode cX4_isIdle 5 = .ok (.iload_n 2, 1) := by decide +kernel
theorem dX4_isIdle_6 : decode cX4_isIdle 6 = .ok (.if_icmp .ne 7, 3) := by decide +kernel
theorem dX4_isIdle_9 : decode cX4_isIdle 9 = .ok (.iconst 1, 1) := by decide +kernel
theorem dX4_isIdle_10 : decode cX4_isIdle 10 = .ok (.goto 4, 3) := by decide +kernel
theorem dX4_isIdle_13 : decode cX4_isIdle 13 = .ok (.iconst 0, 1) := by decide +kernel
theorem dX4_isIdle_14 : decode cX4_isIdle 14 = .ok (.ireturn, 1) := by decide +kernel
set_option maxRecDepth 20000 in
theorem ggX4_firstIdle_X2_triples : GoodIn wsX4_firstIdle wsX2_triples := goodIn_r _ [8, 9, 10, 11, 7, 12, 13, 14, 15, 16, 17, 18, 19, 20, 21, 22, 23, 24, 25, 26, 27, 28, 29, 30, 31, 32, 33, 34, 35, 36, 84, 85, 86, 87, 88, 89, 90] (by decide +kernel) (by decide +kernel)
set_option maxRecDepth 20000 in
theorem gX4_firstIdle_X2_triples : GoodIn wsX4_firstIdle (wsV RX4 146 RX2 yX2_triples wsX2_triples) := goodIn_app (goodIn_of _ (by decide +kernel)) ggX4_firstIdle_X2_triples
set_option maxRecDepth 20000 in
theorem ggX4_firstIdle_X4_isIdle : GoodIn wsX4_firstIdle wsX4_isIdle := goodIn_r _ [41, 42, 43, 44, 40, 45, 46, 1, 2, 47, 48, 49, 7, 50, 36, 14, 51, 52, 27, 15, 13, 53, 54, 55, 56, 57, 58, 59, 60, 61, 62, 63, 64, 65, 66, 67, 68, 69, 70, 71, 72, 73, 74, 75, 4, 5, 6, 8, 9, 10, 11, 12, 16, 17, 18, 19, 20, 21, 22, 23, 24, 25, 26, 28, 29, 30, 31, 32, 33, 34, 35, 76, 77, 78, 79, 80, 81, 82, 83, 84, 85, 86, 87, 88, 89, 90] (by decide +kernel) (by decide +kernel)
set_option maxRecDepth 20000 in
theorem gX4_firstIdle_X4_isIdle : GoodIn wsX4_firstIdle (wsV RX4 149 RX4 yX4_isIdle wsX4_isIdle) := goodIn_app (goodIn_of _ (by decide +kernel)) ggX4_firstIdle_X4_isIdle
theorem dX4_firstIdle_0 : decode cX4_firstIdle 0 = .ok (.aload_n 0, 1) := by decide +kernel
theorem dX4_firstIdle_1 : decode cX4_firstIdle 1 = .ok (.getfield 12, 3) := by decide +kernel
theorem dX4_firstIdle_4 : decode cX4_firstIdle 4 = .ok (.getfield 52, 3) := by decide +kernel
theorem dX4_firstIdle_7 : decode cX4_firstIdle 7 = .ok (.invokevirtual 146, 3) := by decide +kernel
theorem dX4_firstIdle_10 : decode cX4_firstIdle 10 = .ok (.istore_n 1, 1) := by decide +kernel
theorem dX4_firstIdle_11 : decode cX4_firstIdle 11 = .ok (.iconst 0, 1) := by decide +kernel
theorem dX4_firstIdle_12 : decode cX4_firstIdle 12 = .ok (.istore_n 2, 1) := by decide +kernel
theorem dX4_firstIdle_13 : decode cX4_firstIdle 13 = .ok (.iload_n 2, 1) := by decide +kernel
theorem dX4_firstIdle_14 : decode cX4_firstIdle 14 = .ok (.aload_n 0, 1) := by decide +kernel
theorem dX4_firstIdle_15 : decode cX4_firstIdle 15 = .ok (.getfield 12, 3) := by decide +kernel
theorem dX4_firstIdle_18 : decode cX4_firstIdle 18 = .ok (.getfield 52, 3) := by decide +kernel
theorem dX4_firstIdle_21 : decode cX4_firstIdle 21 = .ok (.getfield 55, 3) := by decide +kernel
theorem dX4_firstIdle_24 : decode cX4_firstIdle 24 = .ok (.if_icmp .ge 20, 3) := by decide +kernel
theorem dX4_firstIdle_27 : decode cX4_firstIdle 27 = .ok (.aload_n 0, 1) := by decide +kernel
theorem dX4_firstIdle_28 : decode cX4_firstIdle 28 = .ok (.iload_n 2, 1) := by decide +kernel
theorem dX4_firstIdle_29 : decode cX4_firstIdle 29 = .ok (.iload_n 1, 1) := by decide +kernel
theorem dX4_firstIdle_30 : decode cX4_firstIdle 30 = .ok (.invokevirtual 149, 3) := by decide +kernel
theorem dX4_firstIdle_33 : decode cX4_firstIdle 33 = .ok (.ifCond .eq 5, 3) := by decide +kernel
theorem dX4_firstIdle_36 : decode cX4_firstIdle 36 = .ok (.iload_n 2, 1) := by decide +kernel
theorem dX4_firstIdle_37 : decode cX4_firstIdle 37 = .ok (.ireturn, 1) := by decide +kernel
theorem dX4_firstIdle_38 : decode cX4_firstIdle 38 = .ok (.iinc 2 1, 3) := by decide +kernel
theorem dX4_firstIdle_41 : decode cX4_firstIdle 41 = .ok (.goto (-28), 3) := by decide +kernel
theorem dX4_firstIdle_44 : decode cX4_firstIdle 44 = .ok (.bipush (-6), 2) := by decide +kernel
theorem dX4_firstIdle_46 : decode cX4_firstIdle 46 = .ok (.ireturn, 1) := by decide +kernel
set_option maxRecDepth 20000 in
theorem ggX4_idleRules_X2_triples : GoodIn wsX4_idleRules wsX2_triples := goodIn_r _ [8, 9, 10, 11, 7, 12, 13, 14, 15, 16, 17, 18, 19, 20, 21, 22, 23, 24, 25, 26, 27, 28, 29, 30, 31, 32, 33, 34, 35, 36, 84, 85, 86, 87, 88, 89, 90] (by decide +kernel) (by decide +kernel)
set_option maxRecDepth 20000 in
theorem gX4_idleRules_X2_triples : GoodIn wsX4_idleRules (wsV RX4 146 RX2 yX2_triples wsX2_triples) := goodIn_app (goodIn_of _ (by decide +kernel)) ggX4_idleRules_X2_triples
set_option maxRecDepth 20000 in
theorem ggX4_idleRules_X4_isIdle : GoodIn wsX4_idleRules wsX4_isIdle := goodIn_r _ [41, 42, 43, 44, 40, 45, 46, 1, 2, 47, 48, 49, 7, 50, 36, 14, 51, 52, 27, 15, 13, 53, 54, 55, 56, 57, 58, 59, 60, 61, 62, 63, 64, 65, 66, 67, 68, 69, 70, 71, 72, 73, 74, 75, 4, 5, 6, 8, 9, 10, 11, 12, 16, 17, 18, 19, 20, 21, 22, 23, 24, 25, 26, 28, 29, 30, 31, 32, 33, 34, 35, 76, 77, 78, 79, 80, 81, 82, 83, 84, 85, 86, 87, 88, 89, 90] (by decide +kernel) (by decide +kernel)
set_option maxRecDepth 20000 in
theorem gX4_idleRules_X4_isIdle : GoodIn wsX4_idleRules (wsV RX4 149 RX4 yX4_isIdle wsX4_isIdle) := goodIn_app (goodIn_of _ (by decide +kernel)) ggX4_idleRules_X4_isIdle
theorem dX4_idleRules_0 : decode cX4_idleRules 0 = .ok (.aload_n 0, 1) := by decide +kernel
theorem dX4_idleRules_1 : decode cX4_idleRules 1 = .ok (.getfield 12, 3) := by decide +kernel
theorem dX4_idleRules_4 : decode cX4_idleRules 4 = .ok (.getfield 52, 3) := by decide +kernel
theorem dX4_idleRules_7 : decode cX4_idleRules 7 = .ok (.invokevirtual 146, 3) := by decide +kernel
theorem dX4_idleRules_10 : decode cX4_idleRules 10 = .ok (.istore_n 1, 1) := by decide +kernel
theorem dX4_idleRules_11 : decode cX4_idleRules 11 = .ok (.iconst 0, 1) := by decide +kernel
theorem dX4_idleRules_12 : decode cX4_idleRules 12 = .ok (.istore_n 2, 1) := by decide +kernel
theorem dX4_idleRules_13 : decode cX4_idleRules 13 = .ok (.iconst 0, 1) := by decide +kernel
theorem dX4_idleRules_14 : decode cX4_idleRules 14 = .ok (.istore_n 3, 1) := by decide +kernel
theorem dX4_idleRules_15 : decode cX4_idleRules 15 = .ok (.iload_n 3, 1) := by decide +kernel
theorem dX4_idleRules_16 : decode cX4_idleRules 16 = .ok (.aload_n 0, 1) := by decide +kernel
theorem dX4_idleRules_17 : decode cX4_idleRules 17 = .ok (.getfield 12, 3) := by decide +kernel
theorem dX4_idleRules_20 : decode cX4_idleRules 20 = .ok (.getfield 52, 3) := by decide +kernel
theorem dX4_idleRules_23 : decode cX4_idleRules 23 = .ok (.getfield 55, 3) := by decide +kernel
theorem dX4_idleRules_26 : decode cX4_idleRules 26 = .ok (.if_icmp .ge 21, 3) := by decide +kernel
theorem dX4_idleRules_29 : decode cX4_idleRules 29 = .ok (.aload_n 0, 1) := by decide +kernel
theorem dX4_idleRules_30 : decode cX4_idleRules 30 = .ok (.iload_n 3, 1) := by decide +kernel
theorem dX4_idleRules_31 : decode cX4_idleRules 31 = .ok (.iload_n 1, 1) := by decide +kernel
theorem dX4_idleRules_32 : decode cX4_idleRules 32 = .ok (.invokevirtual 149, 3) := by decide +kernel
theorem dX4_idleRules_35 : decode cX4_idleRules 35 = .ok (.ifCond .eq 6, 3) := by decide +kernel
theorem dX4_idleRules_38 : decode cX4_idleRules 38 = .ok (.iinc 2 1, 3) := by decide +kernel
theorem dX4_idleRules_41 : decode cX4_idleRules 41 = .ok (.iinc 3 1, 3) := by decide +kernel
theorem dX4_idleRules_44 : decode cX4_idleRules 44 = .ok (.goto (-29), 3) := by decide +kernel
theorem dX4_idleRules_47 : decode cX4_idleRules 47 = .ok (.iload_n 2, 1) := by decide +kernel
theorem dX4_idleRules_48 : decode cX4_idleRules 48 = .ok (.ireturn, 1) := by decide +kernel
set_option maxRecDepth 20000 in
theorem ggX4_deedsAllowed_X2_allowedPairs : GoodIn wsX4_deedsAllowed wsX2_allowedPairs := goodIn_r _ [7, 8, 9, 10, 6, 11, 12, 13, 14, 15, 16, 17, 18, 19, 20, 21, 22, 23, 24, 25, 26, 27, 28, 37, 38, 39, 40, 41, 42, 43] (by decide +kernel) (by decide +kernel)
set_option maxRecDepth 20000 in
theorem gX4_deedsAllowed_X2_allowedPairs : GoodIn wsX4_deedsAllowed (wsV RX4 221 RX2 yX2_allowedPairs wsX2_allowedPairs) := goodIn_app (goodIn_of _ (by decide +kernel)) ggX4_deedsAllowed_X2_allowedPairs
theorem dX4_deedsAllowed_0 : decode cX4_deedsAllowed 0 = .ok (.aload_n 0, 1) := by decide +kernel
theorem dX4_deedsAllowed_1 : decode cX4_deedsAllowed 1 = .ok (.getfield 12, 3) := by decide +kernel
theorem dX4_deedsAllowed_4 : decode cX4_deedsAllowed 4 = .ok (.getfield 52, 3) := by decide +kernel
theorem dX4_deedsAllowed_7 : decode cX4_deedsAllowed 7 = .ok (.iload_n 2, 1) := by decide +kernel
theorem dX4_deedsAllowed_8 : decode cX4_deedsAllowed 8 = .ok (.invokevirtual 221, 3) := by decide +kernel
theorem dX4_deedsAllowed_11 : decode cX4_deedsAllowed 11 = .ok (.iload_n 1, 1) := by decide +kernel
theorem dX4_deedsAllowed_12 : decode cX4_deedsAllowed 12 = .ok (.bipush 6, 2) := by decide +kernel
theorem dX4_deedsAllowed_14 : decode cX4_deedsAllowed 14 = .ok (.imul, 1) := by decide +kernel
theorem dX4_deedsAllowed_15 : decode cX4_deedsAllowed 15 = .ok (.ishr, 1) := by decide +kernel
theorem dX4_deedsAllowed_16 : decode cX4_deedsAllowed 16 = .ok (.bipush 63, 2) := by decide +kernel
theorem dX4_deedsAllowed_18 : decode cX4_deedsAllowed 18 = .ok (.iand, 1) := by decide +kernel
theorem dX4_deedsAllowed_19 : decode cX4_deedsAllowed 19 = .ok (.ireturn, 1) := by decide +kernel
theorem dX4_isBetween_0 : decode cX4_isBetween 0 = .ok (.iload_n 0, 1) := by decide +kernel
theorem dX4_isBetween_1 : decode cX4_isBetween 1 = .ok (.iload_n 1, 1) := by decide +kernel
theorem dX4_isBetween_2 : decode cX4_isBetween 2 = .ok (.if_icmp .lt 12, 3) := by decide +kernel
theorem dX4_isBetween_5 : decode cX4_isBetween 5 = .ok (.iload_n 0, 1) := by decide +kernel
theorem dX4_isBetween_6 : decode cX4_isBetween 6 = .ok (.iload_n 2, 1) := by decide +kernel
theorem dX4_isBetween_7 : decode cX4_isBetween 7 = .ok (.if_icmp .gt 7, 3) := by decide +kernel
theorem dX4_isBetween_10 : decode cX4_isBetween 10 = .ok (.iconst 1, 1) := by decide +kernel
theorem dX4_isBetween_11 : decode cX4_isBetween 11 = .ok (.goto 4, 3) := by decide +kernel
theorem dX4_isBetween_14 : decode cX4_isBetween 14 = .ok (.iconst 0, 1) := by decide +kernel
theorem dX4_isBetween_15 : decode cX4_isBetween 15 = .ok (.ireturn, 1) := by decide +kernel
set_option maxRecDepth 20000 in
theorem ggX4_isLayer_X4_isBetween : GoodIn wsX4_isLayer wsX4_isBetween := goodIn_r _ [4] (by decide +kernel) (by decide +kernel)
set_option maxRecDepth 20000 in
theorem gX4_isLayer_X4_isBetween : GoodIn wsX4_isLayer (va_wsS RX4 45 yX4_isBetween wsX4_isBetween) := goodIn_app (goodIn_of _ (by decide +kernel)) ggX4_isLayer_X4_isBetween
theorem dX4_isLayer_0 : decode cX4_isLayer 0 = .ok (.iload_n 0, 1) := by decide +kernel
theorem dX4_isLayer_1 : decode cX4_isLayer 1 = .ok (.iconst 0, 1) := by decide +kernel
theorem dX4_isLayer_2 : decode cX4_isLayer 2 = .ok (.iconst 4, 1) := by decide +kernel
theorem dX4_isLayer_3 : decode cX4_isLayer 3 = .ok (.invokestatic 45, 3) := by decide +kernel
theorem dX4_isLayer_6 : decode cX4_isLayer 6 = .ok (.ireturn, 1) := by decide +kernel
set_option maxRecDepth 20000 in
theorem ggX4_isCraft_X4_isBetween : GoodIn wsX4_isCraft wsX4_isBetween := goodIn_r _ [4] (by decide +kernel) (by decide +kernel)
set_option maxRecDepth 20000 in
theorem gX4_isCraft_X4_isBetween : GoodIn wsX4_isCraft (va_wsS RX4 45 yX4_isBetween wsX4_isBetween) := goodIn_app (goodIn_of _ (by decide +kernel)) ggX4_isCraft_X4_isBetween
theorem dX4_isCraft_0 : decode cX4_isCraft 0 = .ok (.iload_n 0, 1) := by decide +kernel
theorem dX4_isCraft_1 : decode cX4_isCraft 1 = .ok (.iconst 0, 1) := by decide +kernel
theorem dX4_isCraft_2 : decode cX4_isCraft 2 = .ok (.iconst 4, 1) := by decide +kernel
theorem dX4_isCraft_3 : decode cX4_isCraft 3 = .ok (.invokestatic 45, 3) := by decide +kernel
theorem dX4_isCraft_6 : decode cX4_isCraft 6 = .ok (.ireturn, 1) := by decide +kernel
set_option maxRecDepth 20000 in
theorem ggX4_isDeed_X4_isBetween : GoodIn wsX4_isDeed wsX4_isBetween := goodIn_r _ [4] (by decide +kernel) (by decide +kernel)
set_option maxRecDepth 20000 in
theorem gX4_isDeed_X4_isBetween : GoodIn wsX4_isDeed (va_wsS RX4 45 yX4_isBetween wsX4_isBetween) := goodIn_app (goodIn_of _ (by decide +kernel)) ggX4_isDeed_X4_isBetween
theorem dX4_isDeed_0 : decode cX4_isDeed 0 = .ok (.iload_n 0, 1) := by decide +kernel
theorem dX4_isDeed_1 : decode cX4_isDeed 1 = .ok (.iconst 0, 1) := by decide +kernel
theorem dX4_isDeed_2 : decode cX4_isDeed 2 = .ok (.iconst 5, 1) := by decide +kernel
theorem dX4_isDeed_3 : decode cX4_isDeed 3 = .ok (.invokestatic 45, 3) := by decide +kernel
theorem dX4_isDeed_6 : decode cX4_isDeed 6 = .ok (.ireturn, 1) := by decide +kernel
set_option maxRecDepth 20000 in
theorem ggX4_isSeal_X4_isBetween : GoodIn wsX4_isSeal wsX4_isBetween := goodIn_r _ [4] (by decide +kernel) (by decide +kernel)
set_option maxRecDepth 20000 in
theorem gX4_isSeal_X4_isBetween : GoodIn wsX4_isSeal (va_wsS RX4 45 yX4_isBetween wsX4_isBetween) := goodIn_app (goodIn_of _ (by decide +kernel)) ggX4_isSeal_X4_isBetween
theorem dX4_isSeal_0 : decode cX4_isSeal 0 = .ok (.iload_n 0, 1) := by decide +kernel
theorem dX4_isSeal_1 : decode cX4_isSeal 1 = .ok (.iconst 1, 1) := by decide +kernel
theorem dX4_isSeal_2 : decode cX4_isSeal 2 = .ok (.bipush 9, 2) := by decide +kernel
theorem dX4_isSeal_4 : decode cX4_isSeal 4 = .ok (.invokestatic 45, 3) := by decide +kernel
theorem dX4_isSeal_7 : decode cX4_isSeal 7 = .ok (.ireturn, 1) := by decide +kernel
set_option maxRecDepth 20000 in
theorem ggX4_isRank_X4_isBetween : GoodIn wsX4_isRank wsX4_isBetween := goodIn_r _ [4] (by decide +kernel) (by decide +kernel)
set_option maxRecDepth 20000 in
theorem gX4_isRank_X4_isBetween : GoodIn wsX4_isRank (va_wsS RX4 45 yX4_isBetween wsX4_isBetween) := goodIn_app (goodIn_of _ (by decide +kernel)) ggX4_isRank_X4_isBetween
theorem dX4_isRank_0 : decode cX4_isRank 0 = .ok (.iload_n 0, 1) := by decide +kernel
theorem dX4_isRank_1 : decode cX4_isRank 1 = .ok (.iconst 0, 1) := by decide +kernel
theorem dX4_isRank_2 : decode cX4_isRank 2 = .ok (.bipush 9, 2) := by decide +kernel
theorem dX4_isRank_4 : decode cX4_isRank 4 = .ok (.invokestatic 45, 3) := by decide +kernel
theorem dX4_isRank_7 : decode cX4_isRank 7 = .ok (.ireturn, 1) := by decide +kernel
theorem dX4_pairsOf_0 : decode cX4_pairsOf 0 = .ok (.iload_n 1, 1) := by decide +kernel
theorem dX4_pairsOf_1 : decode cX4_pairsOf 1 = .ok (.bipush 6, 2) := by decide +kernel
theorem dX4_pairsOf_3 : decode cX4_pairsOf 3 = .ok (.if_icmp .ne 8, 3) := by decide +kernel
theorem dX4_pairsOf_6 : decode cX4_pairsOf 6 = .ok (.bipush 63, 2) := by decide +kernel
theorem dX4_pairsOf_8 : decode cX4_pairsOf 8 = .ok (.goto 6, 3) := by decide +kernel
theorem dX4_pairsOf_11 : decode cX4_pairsOf 11 = .ok (.iconst 1, 1) := by decide +kernel
theorem dX4_pairsOf_12 : decode cX4_pairsOf 12 = .ok (.iload_n 1, 1) := by decide +kernel
theorem dX4_pairsOf_13 : decode cX4_pairsOf 13 = .ok (.ishl, 1) := by decide +kernel
theorem dX4_pairsOf_14 : decode cX4_pairsOf 14 = .ok (.istore_n 2, 1) := by decide +kernel
theorem dX4_pairsOf_15 : decode cX4_pairsOf 15 = .ok (.iload_n 0, 1) := by decide +kernel
theorem dX4_pairsOf_16 : decode cX4_pairsOf 16 = .ok (.iconst 5, 1) := by decide +kernel
theorem dX4_pairsOf_17 : decode cX4_pairsOf 17 = .ok (.if_icmp .eq 10, 3) := by decide +kernel
theorem dX4_pairsOf_20 : decode cX4_pairsOf 20 = .ok (.iload_n 2, 1) := by decide +kernel
theorem dX4_pairsOf_21 : decode cX4_pairsOf 21 = .ok (.iload_n 0, 1) := by decide +kernel
theorem dX4_pairsOf_22 : decode cX4_pairsOf 22 = .ok (.bipush 6, 2) := by decide +kernel
theorem dX4_pairsOf_24 : decode cX4_pairsOf 24 = .ok (.imul, 1) := by decide +kernel
theorem dX4_pairsOf_25 : decode cX4_pairsOf 25 = .ok (.ishl, 1) := by decide +kernel
theorem dX4_pairsOf_26 : decode cX4_pairsOf 26 = .ok (.ireturn, 1) := by decide +kernel
theorem dX4_pairsOf_27 : decode cX4_pairsOf 27 = .ok (.iconst 0, 1) := by decide +kernel
theorem dX4_pairsOf_28 : decode cX4_pairsOf 28 = .ok (.istore_n 3, 1) := by decide +kernel
theorem dX4_pairsOf_29 : decode cX4_pairsOf 29 = .ok (.iconst 0, 1) := by decide +kernel
theorem dX4_pairsOf_30 : decode cX4_pairsOf 30 = .ok (.istore 4, 2) := by decide +kernel
theorem dX4_pairsOf_32 : decode cX4_pairsOf 32 = .ok (.iload 4, 2) := by decide +kernel
theorem dX4_pairsOf_34 : decode cX4_pairsOf 34 = .ok (.iconst 5, 1) := by decide +kernel
theorem dX4_pairsOf_35 : decode cX4_pairsOf 35 = .ok (.if_icmp .ge 19, 3) := by decide +kernel
theorem dX4_pairsOf_38 : decode cX4_pairsOf 38 = .ok (.iload_n 3, 1) := by decide +kernel
theorem dX4_pairsOf_39 : decode cX4_pairsOf 39 = .ok (.iload_n 2, 1) := by decide +kernel
theorem dX4_pairsOf_40 : decode cX4_pairsOf 40 = .ok (.iload 4, 2) := by decide +kernel
theorem dX4_pairsOf_42 : decode cX4_pairsOf 42 = .ok (.bipush 6, 2) := by decide +kernel
theorem dX4_pairsOf_44 : decode cX4_pairsOf 44 = .ok (.imul, 1) := by decide +kernel
theorem dX4_pairsOf_45 : decode cX4_pairsOf 45 = .ok (.ishl, 1) := by decide +kernel
theorem dX4_pairsOf_46 : decode cX4_pairsOf 46 = .ok (.ior, 1) := by decide +kernel
theorem dX4_pairsOf_47 : decode cX4_pairsOf 47 = .ok (.istore_n 3, 1) := by decide +kernel
theorem dX4_pairsOf_48 : decode cX4_pairsOf 48 = .ok (.iinc 4 1, 3) := by decide +kernel
theorem dX4_pairsOf_51 : decode cX4_pairsOf 51 = .ok (.goto (-19), 3) := by decide +kernel
theorem dX4_pairsOf_54 : decode cX4_pairsOf 54 = .ok (.iload_n 3, 1) := by decide +kernel
theorem dX4_pairsOf_55 : decode cX4_pairsOf 55 = .ok (.ireturn, 1) := by decide +kernel
theorem dX4_closeGap_0 : decode cX4_closeGap 0 = .ok (.iload_n 1, 1) := by decide +kernel
theorem dX4_closeGap_1 : decode cX4_closeGap 1 = .ok (.iconst 0, 1) := by decide +kernel
theorem dX4_closeGap_2 : decode cX4_closeGap 2 = .ok (.invokestatic 224, 3) := by decide +kernel
theorem dX4_closeGap_5 : decode cX4_closeGap 5 = .ok (.istore_n 2, 1) := by decide +kernel
theorem dX4_closeGap_6 : decode cX4_closeGap 6 = .ok (.iload_n 2, 1) := by decide +kernel
theorem dX4_closeGap_7 : decode cX4_closeGap 7 = .ok (.aload_n 0, 1) := by decide +kernel
theorem dX4_closeGap_8 : decode cX4_closeGap 8 = .ok (.arraylength, 1) := by decide +kernel
theorem dX4_closeGap_9 : decode cX4_closeGap 9 = .ok (.iconst 1, 1) := by decide +kernel
theorem dX4_closeGap_10 : decode cX4_closeGap 10 = .ok (.isub, 1) := by decide +kernel
theorem dX4_closeGap_11 : decode cX4_closeGap 11 = .ok (.if_icmp .ge 17, 3) := by decide +kernel
theorem dX4_closeGap_14 : decode cX4_closeGap 14 = .ok (.aload_n 0, 1) := by decide +kernel
theorem dX4_closeGap_15 : decode cX4_closeGap 15 = .ok (.iload_n 2, 1) := by decide +kernel
theorem dX4_closeGap_16 : decode cX4_closeGap 16 = .ok (.aload_n 0, 1) := by decide +kernel
theorem dX4_closeGap_17 : decode cX4_closeGap 17 = .ok (.iload_n 2, 1) := by decide +kernel
theorem dX4_closeGap_18 : decode cX4_closeGap 18 = .ok (.iconst 1, 1) := by decide +kernel
theorem dX4_closeGap_19 : decode cX4_closeGap 19 = .ok (.iadd, 1) := by decide +kernel
theorem dX4_closeGap_20 : decode cX4_closeGap 20 = .ok (.iaload, 1) := by decide +kernel
theorem dX4_closeGap_21 : decode cX4_closeGap 21 = .ok (.iastore, 1) := by decide +kernel
theorem dX4_closeGap_22 : decode cX4_closeGap 22 = .ok (.iinc 2 1, 3) := by decide +kernel
theorem dX4_closeGap_25 : decode cX4_closeGap 25 = .ok (.goto (-19), 3) := by decide +kernel
theorem dX4_closeGap_28 : decode cX4_closeGap 28 = .ok (.return_, 1) := by decide +kernel
theorem dX4_copyRow_0 : decode cX4_copyRow 0 = .ok (.aload_n 0, 1) := by decide +kernel
theorem dX4_copyRow_1 : decode cX4_copyRow 1 = .ok (.iconst 0, 1) := by decide +kernel
theorem dX4_copyRow_2 : decode cX4_copyRow 2 = .ok (.aload_n 1, 1) := by decide +kernel
theorem dX4_copyRow_3 : decode cX4_copyRow 3 = .ok (.iconst 0, 1) := by decide +kernel
theorem dX4_copyRow_4 : decode cX4_copyRow 4 = .ok (.aload_n 0, 1) := by decide +kernel
theorem dX4_copyRow_5 : decode cX4_copyRow 5 = .ok (.arraylength, 1) := by decide +kernel
theorem dX4_copyRow_6 : decode cX4_copyRow 6 = .ok (.aload_n 1, 1) := by decide +kernel
theorem dX4_copyRow_7 : decode cX4_copyRow 7 = .ok (.arraylength, 1) := by decide +kernel
theorem dX4_copyRow_8 : decode cX4_copyRow 8 = .ok (.invokestatic 229, 3) := by decide +kernel
theorem dX4_copyRow_11 : decode cX4_copyRow 11 = .ok (.invokestatic 232, 3) := by decide +kernel
theorem dX4_copyRow_14 : decode cX4_copyRow 14 = .ok (.return_, 1) := by decide +kernel
theorem dX5_init_0 : decode cX5_init 0 = .ok (.aload_n 0, 1) := by decide +kernel
theorem dX5_init_1 : decode cX5_init 1 = .ok (.invokespecial 1, 3) := by decide +kernel
theorem dX5_init_4 : decode cX5_init 4 = .ok (.aload_n 0, 1) := by decide +kernel
theorem dX5_init_5 : decode cX5_init 5 = .ok (.sipush 169, 3) := by decide +kernel
theorem dX5_init_8 : decode cX5_init 8 = .ok (.newarray .int, 2) := by decide +kernel
theorem dX5_init_10 : decode cX5_init 10 = .ok (.putfield 7, 3) := by decide +kernel
theorem dX5_init_13 : decode cX5_init 13 = .ok (.aload_n 0, 1) := by decide +kernel
theorem dX5_init_14 : decode cX5_init 14 = .ok (.sipush 1014, 3) := by decide +kernel
theorem dX5_init_17 : decode cX5_init 17 = .ok (.newarray .int, 2) := by decide +kernel
theorem dX5_init_19 : decode cX5_init 19 = .ok (.putfield 13, 3) := by decide +kernel
theorem dX5_init_22 : decode cX5_init 22 = .ok (.aload_n 0, 1) := by decide +kernel
theorem dX5_init_23 : decode cX5_init 23 = .ok (.sipush 338, 3) := by decide +kernel
theorem dX5_init_26 : decode cX5_init 26 = .ok (.newarray .int, 2) := by decide +kernel
theorem dX5_init_28 : decode cX5_init 28 = .ok (.putfield 16, 3) := by decide +kernel
theorem dX5_init_31 : decode cX5_init 31 = .ok (.aload_n 0, 1) := by decide +kernel
theorem dX5_init_32 : decode cX5_init 32 = .ok (.iconst 2, 1) := by decide +kernel
theorem dX5_init_33 : decode cX5_init 33 = .ok (.newarray .boolean, 2) := by decide +kernel
theorem dX5_init_35 : decode cX5_init 35 = .ok (.putfield 19, 3) := by decide +kernel
theorem dX5_init_38 : decode cX5_init 38 = .ok (.aload_n 0, 1) := by decide +kernel
theorem dX5_init_39 : decode cX5_init 39 = .ok (.bipush 60, 2) := by decide +kernel
theorem dX5_init_41 : decode cX5_init 41 = .ok (.newarray .int, 2) := by decide +kernel
theorem dX5_init_43 : decode cX5_init 43 = .ok (.putfield 23, 3) := by decide +kernel
theorem dX5_init_46 : decode cX5_init 46 = .ok (.aload_n 0, 1) := by decide +kernel
theorem dX5_init_47 : decode cX5_init 47 = .ok (.iconst 5, 1) := by decide +kernel
theorem dX5_init_48 : decode cX5_init 48 = .ok (.newarray .int, 2) := by decide +kernel
theorem dX5_init_50 : decode cX5_init 50 = .ok (.putfield 26, 3) := by decide +kernel
theorem dX5_init_53 : decode cX5_init 53 = .ok (.return_, 1) := by decide +kernel
theorem dX5_in_0 : decode cX5_in 0 = .ok (.iload_n 0, 1) := by decide +kernel
theorem dX5_in_1 : decode cX5_in 1 = .ok (.iload_n 1, 1) := by decide +kernel
theorem dX5_in_2 : decode cX5_in 2 = .ok (.if_icmp .lt 12, 3) := by decide +kernel
theorem dX5_in_5 : decode cX5_in 5 = .ok (.iload_n 0, 1) := by decide +kernel
theorem dX5_in_6 : decode cX5_in 6 = .ok (.iload_n 2, 1) := by decide +kernel
theorem dX5_in_7 : decode cX5_in 7 = .ok (.if_icmp .gt 7, 3) := by decide +kernel
theorem dX5_in_10 : decode cX5_in 10 = .ok (.iconst 1, 1) := by decide +kernel
theorem dX5_in_11 : decode cX5_in 11 = .ok (.goto 4, 3) := by decide +kernel
theorem dX5_in_14 : decode cX5_in 14 = .ok (.iconst 0, 1) := by decide +kernel
theorem dX5_in_15 : decode cX5_in 15 = .ok (.ireturn, 1) := by decide +kernel
set_option maxRecDepth 20000 in
theorem ggX5_isRule_X5_in : GoodIn wsX5_isRule wsX5_in := goodIn_r _ [5] (by decide +kernel) (by decide +kernel)
set_option maxRecDepth 20000 in
theorem gX5_isRule_X5_in : GoodIn wsX5_isRule (va_wsS RX5 29 yX5_in wsX5_in) := goodIn_app (goodIn_of _ (by decide +kernel)) ggX5_isRule_X5_in
theorem dX5_isRule_0 : decode cX5_isRule 0 = .ok (.iload_n 1, 1) := by decide +kernel
theorem dX5_isRule_1 : decode cX5_isRule 1 = .ok (.iconst 0, 1) := by decide +kernel
theorem dX5_isRule_2 : decode cX5_isRule 2 = .ok (.aload_n 0, 1) := by decide +kernel
theorem dX5_isRule_3 : decode cX5_isRule 3 = .ok (.getfield 7, 3) := by decide +kernel
theorem dX5_isRule_6 : decode cX5_isRule 6 = .ok (.iconst 0, 1) := by decide +kernel
theorem dX5_isRule_7 : decode cX5_isRule 7 = .ok (.iaload, 1) := by decide +kernel
theorem dX5_isRule_8 : decode cX5_isRule 8 = .ok (.iconst 1, 1) := by decide +kernel
theorem dX5_isRule_9 : decode cX5_isRule 9 = .ok (.isub, 1) := by decide +kernel
theorem dX5_isRule_10 : decode cX5_isRule 10 = .ok (.invokestatic 29, 3) := by decide +kernel
theorem dX5_isRule_13 : decode cX5_isRule 13 = .ok (.ireturn, 1) := by decide +kernel
set_option maxRecDepth 20000 in
theorem ggX5_isMember_X5_in : GoodIn wsX5_isMember wsX5_in := goodIn_r _ [5] (by decide +kernel) (by decide +kernel)
set_option maxRecDepth 20000 in
theorem gX5_isMember_X5_in : GoodIn wsX5_isMember (va_wsS RX5 29 yX5_in wsX5_in) := goodIn_app (goodIn_of _ (by decide +kernel)) ggX5_isMember_X5_in
theorem dX5_isMember_0 : decode cX5_isMember 0 = .ok (.iload_n 1, 1) := by decide +kernel
theorem dX5_isMember_1 : decode cX5_isMember 1 = .ok (.iconst 0, 1) := by decide +kernel
theorem dX5_isMember_2 : decode cX5_isMember 2 = .ok (.aload_n 0, 1) := by decide +kernel
theorem dX5_isMember_3 : decode cX5_isMember 3 = .ok (.getfield 7, 3) := by decide +kernel
theorem dX5_isMember_6 : decode cX5_isMember 6 = .ok (.iconst 1, 1) := by decide +kernel
theorem dX5_isMember_7 : decode cX5_isMember 7 = .ok (.iaload, 1) := by decide +kernel
theorem dX5_isMember_8 : decode cX5_isMember 8 = .ok (.iconst 1, 1) := by decide +kernel
theorem dX5_isMember_9 : decode cX5_isMember 9 = .ok (.isub, 1) := by decide +kernel
theorem dX5_isMember_10 : decode cX5_isMember 10 = .ok (.invokestatic 29, 3) := by decide +kernel
theorem dX5_isMember_13 : decode cX5_isMember 13 = .ok (.ireturn, 1) := by decide +kernel
set_option maxRecDepth 20000 in
theorem ggX5_isAsked_X5_in : GoodIn wsX5_isAsked wsX5_in := goodIn_r _ [4] (by decide +kernel) (by decide +kernel)
set_option maxRecDepth 20000 in
theorem gX5_isAsked_X5_in : GoodIn wsX5_isAsked (va_wsS RX5 29 yX5_in wsX5_in) := goodIn_app (goodIn_of _ (by decide +kernel)) ggX5_isAsked_X5_in
theorem dX5_isAsked_0 : decode cX5_isAsked 0 = .ok (.iload_n 0, 1) := by decide +kernel
theorem dX5_isAsked_1 : decode cX5_isAsked 1 = .ok (.iconst 0, 1) := by decide +kernel
theorem dX5_isAsked_2 : decode cX5_isAsked 2 = .ok (.iconst 4, 1) := by decide +kernel
theorem dX5_isAsked_3 : decode cX5_isAsked 3 = .ok (.invokestatic 29, 3) := by decide +kernel
theorem dX5_isAsked_6 : decode cX5_isAsked 6 = .ok (.ifCond .eq 16, 3) := by decide +kernel
theorem dX5_isAsked_9 : decode cX5_isAsked 9 = .ok (.iload_n 1, 1) := by decide +kernel
theorem dX5_isAsked_10 : decode cX5_isAsked 10 = .ok (.iconst 0, 1) := by decide +kernel
theorem dX5_isAsked_11 : decode cX5_isAsked 11 = .ok (.iconst 5, 1) := by decide +kernel
theorem dX5_isAsked_12 : decode cX5_isAsked 12 = .ok (.invokestatic 29, 3) := by decide +kernel
theorem dX5_isAsked_15 : decode cX5_isAsked 15 = .ok (.ifCond .eq 7, 3) := by decide +kernel
theorem dX5_isAsked_18 : decode cX5_isAsked 18 = .ok (.iconst 1, 1) := by decide +kernel
theorem dX5_isAsked_19 : decode cX5_isAsked 19 = .ok (.goto 4, 3) := by decide +kernel
theorem dX5_isAsked_22 : decode cX5_isAsked 22 = .ok (.iconst 0, 1) := by decide +kernel
theorem dX5_isAsked_23 : decode cX5_isAsked 23 = .ok (.ireturn, 1) := by decide +kernel
theorem dX5_at_0 : decode cX5_at 0 = .ok (.bipush 9, 2) := by decide +kernel
theorem dX5_at_2 : decode cX5_at 2 = .ok (.iconst 5, 1) := by decide +kernel
theorem dX5_at_3 : decode cX5_at 3 = .ok (.iload_n 0, 1) := by decide +kernel
theorem dX5_at_4 : decode cX5_at 4 = .ok (.imul, 1) := by decide +kernel
theorem dX5_at_5 : decode cX5_at 5 = .ok (.iadd, 1) := by decide +kernel
theorem dX5_at_6 : decode cX5_at 6 = .ok (.iload_n 1, 1) := by decide +kernel
theorem dX5_at_7 : decode cX5_at 7 = .ok (.iadd, 1) := by decide +kernel
theorem dX5_at_8 : decode cX5_at 8 = .ok (.ireturn, 1) := by decide +kernel
set_option maxRecDepth 20000 in
theorem ggX5_of_X5_at : GoodIn wsX5_of wsX5_at := goodIn_r _ [5] (by decide +kernel) (by decide +kernel)
set_option maxRecDepth 20000 in
theorem gX5_of_X5_at : GoodIn wsX5_of (va_wsS RX5 33 yX5_at wsX5_at) := goodIn_app (goodIn_of _ (by decide +kernel)) ggX5_of_X5_at
theorem dX5_of_0 : decode cX5_of 0 = .ok (.aload_n 0, 1) := by decide +kernel
theorem dX5_of_1 : decode cX5_of 1 = .ok (.getfield 7, 3) := by decide +kernel
theorem dX5_of_4 : decode cX5_of 4 = .ok (.iload_n 1, 1) := by decide +kernel
theorem dX5_of_5 : decode cX5_of 5 = .ok (.iload_n 2, 1) := by decide +kernel
theorem dX5_of_6 : decode cX5_of 6 = .ok (.invokestatic 33, 3) := by decide +kernel
theorem dX5_of_9 : decode cX5_of 9 = .ok (.iaload, 1) := by decide +kernel
theorem dX5_of_10 : decode cX5_of 10 = .ok (.ireturn, 1) := by decide +kernel
theorem dX5_ofGuild_0 : decode cX5_ofGuild 0 = .ok (.sipush 129, 3) := by decide +kernel
theorem dX5_ofGuild_3 : decode cX5_ofGuild 3 = .ok (.iconst 4, 1) := by decide +kernel
theorem dX5_ofGuild_4 : decode cX5_ofGuild 4 = .ok (.iload_n 0, 1) := by decide +kernel
theorem dX5_ofGuild_5 : decode cX5_ofGuild 5 = .ok (.imul, 1) := by decide +kernel
theorem dX5_ofGuild_6 : decode cX5_ofGuild 6 = .ok (.iadd, 1) := by decide +kernel
theorem dX5_ofGuild_7 : decode cX5_ofGuild 7 = .ok (.iload_n 1, 1) := by decide +kernel
theorem dX5_ofGuild_8 : decode cX5_ofGuild 8 = .ok (.iadd, 1) := by decide +kernel
theorem dX5_ofGuild_9 : decode cX5_ofGuild 9 = .ok (.ireturn, 1) := by decide +kernel
theorem dX5_record_0 : decode cX5_record 0 = .ok (.aload_n 0, 1) := by decide +kernel
theorem dX5_record_1 : decode cX5_record 1 = .ok (.getfield 37, 3) := by decide +kernel
theorem dX5_record_4 : decode cX5_record 4 = .ok (.bipush 6, 2) := by decide +kernel
theorem dX5_record_6 : decode cX5_record 6 = .ok (.if_icmp .ne 44, 3) := by decide +kernel
theorem dX5_record_9 : decode cX5_record 9 = .ok (.iconst 0, 1) := by decide +kernel
theorem dX5_record_10 : decode cX5_record 10 = .ok (.istore_n 1, 1) := by decide +kernel
theorem dX5_record_11 : decode cX5_record 11 = .ok (.iload_n 1, 1) := by decide +kernel
theorem dX5_record_12 : decode cX5_record 12 = .ok (.sipush 845, 3) := by decide +kernel
theorem dX5_record_15 : decode cX5_record 15 = .ok (.if_icmp .ge 25, 3) := by decide +kernel
theorem dX5_record_18 : decode cX5_record 18 = .ok (.aload_n 0, 1) := by decide +kernel
theorem dX5_record_19 : decode cX5_record 19 = .ok (.getfield 13, 3) := by decide +kernel
theorem dX5_record_22 : decode cX5_record 22 = .ok (.iload_n 1, 1) := by decide +kernel
theorem dX5_record_23 : decode cX5_record 23 = .ok (.aload_n 0, 1) := by decide +kernel
theorem dX5_record_24 : decode cX5_record 24 = .ok (.getfield 13, 3) := by decide +kernel
theorem dX5_record_27 : decode cX5_record 27 = .ok (.iload_n 1, 1) := by decide +kernel
theorem dX5_record_28 : decode cX5_record 28 = .ok (.sipush 169, 3) := by decide +kernel
theorem dX5_record_31 : decode cX5_record 31 = .ok (.iadd, 1) := by decide +kernel
theorem dX5_record_32 : decode cX5_record 32 = .ok (.iaload, 1) := by decide +kernel
theorem dX5_record_33 : decode cX5_record 33 = .ok (.iastore, 1) := by decide +kernel
theorem dX5_record_34 : decode cX5_record 34 = .ok (.iinc 1 1, 3) := by decide +kernel
theorem dX5_record_37 : decode cX5_record 37 = .ok (.goto (-26), 3) := by decide +kernel
theorem dX5_record_40 : decode cX5_record 40 = .ok (.aload_n 0, 1) := by decide +kernel
theorem dX5_record_41 : decode cX5_record 41 = .ok (.dup, 1) := by decide +kernel
theorem dX5_record_42 : decode cX5_record 42 = .ok (.getfield 37, 3) := by decide +kernel
theorem dX5_record_45 : decode cX5_record 45 = .ok (.iconst 1, 1) := by decide +kernel
theorem dX5_record_46 : decode cX5_record 46 = .ok (.isub, 1) := by decide +kernel
theorem dX5_record_47 : decode cX5_record 47 = .ok (.putfield 37, 3) := by decide +kernel
theorem dX5_record_50 : decode cX5_record 50 = .ok (.iconst 0, 1) := by decide +kernel
theorem dX5_record_51 : decode cX5_record 51 = .ok (.istore_n 1, 1) := by decide +kernel
theorem dX5_record_52 : decode cX5_record 52 = .ok (.iload_n 1, 1) := by decide +kernel
theorem dX5_record_53 : decode cX5_record 53 = .ok (.sipush 169, 3) := by decide +kernel
theorem dX5_record_56 : decode cX5_record 56 = .ok (.if_icmp .ge 30, 3) := by decide +kernel
theorem dX5_record_59 : decode cX5_record 59 = .ok (.aload_n 0, 1) := by decide +kernel
theorem dX5_record_60 : decode cX5_record 60 = .ok (.getfield 13, 3) := by decide +kernel
theorem dX5_record_63 : decode cX5_record 63 = .ok (.sipush 169, 3) := by decide +kernel
theorem dX5_record_66 : decode cX5_record 66 = .ok (.aload_n 0, 1) := by decide +kernel
theorem dX5_record_67 : decode cX5_record 67 = .ok (.getfield 37, 3) := by decide +kernel
theorem dX5_record_70 : decode cX5_record 70 = .ok (.imul, 1) := by decide +kernel
theorem dX5_record_71 : decode cX5_record 71 = .ok (.iload_n 1, 1) := by decide +kernel
theorem dX5_record_72 : decode cX5_record 72 = .ok (.iadd, 1) := by decide +kernel
theorem dX5_record_73 : decode cX5_record 73 = .ok (.aload_n 0, 1) := by decide +kernel
theorem dX5_record_74 : decode cX5_record 74 = .ok (.getfield 7, 3) := by decide +kernel
theorem dX5_record_77 : decode cX5_record 77 = .ok (.iload_n 1, 1) := by decide +kernel
theorem dX5_record_78 : decode cX5_record 78 = .ok (.iaload, 1) := by decide +kernel
theorem dX5_record_79 : decode cX5_record 79 = .ok (.iastore, 1) := by decide +kernel
theorem dX5_record_80 : decode cX5_record 80 = .ok (.iinc 1 1, 3) := by decide +kernel
theorem dX5_record_83 : decode cX5_record 83 = .ok (.goto (-31), 3) := by decide +kernel
theorem dX5_record_86 : decode cX5_record 86 = .ok (.aload_n 0, 1) := by decide +kernel
theorem dX5_record_87 : decode cX5_record 87 = .ok (.dup, 1) := by decide +kernel
theorem dX5_record_88 : decode cX5_record 88 = .ok (.getfield 37, 3) := by decide +kernel
theorem dX5_record_91 : decode cX5_record 91 = .ok (.iconst 1, 1) := by decide +kernel
theorem dX5_record_92 : decode cX5_record 92 = .ok (.iadd, 1) := by decide +kernel
theorem dX5_record_93 : decode cX5_record 93 = .ok (.putfield 37, 3) := by decide +kernel
theorem dX5_record_96 : decode cX5_record 96 = .ok (.return_, 1) := by decide +kernel
set_option maxRecDepth 20000 in
theorem ggX5_fits_X5_of : GoodIn wsX5_fits wsX5_of := goodIn_r _ [5, 6, 7, 8, 4, 9, 10, 11, 12, 13, 14, 15, 16, 17, 18] (by decide +kernel) (by decide +kernel)
set_option maxRecDepth 20000 in
theorem gX5_fits_X5_of : GoodIn wsX5_fits (wsV RX5 41 RX5 yX5_of wsX5_of) := goodIn_app (goodIn_of _ (by decide +kernel)) ggX5_fits_X5_of
theorem dX5_fits_0 : decode cX5_fits 0 = .ok (.aload_n 0, 1) := by decide +kernel
theorem dX5_fits_1 : decode cX5_fits 1 = .ok (.iload_n 1, 1) := by decide +kernel
theorem dX5_fits_2 : decode cX5_fits 2 = .ok (.iconst 2, 1) := by decide +kernel
theorem dX5_fits_3 : decode cX5_fits 3 = .ok (.invokevirtual 41, 3) := by decide +kernel
theorem dX5_fits_6 : decode cX5_fits 6 = .ok (.iload_n 2, 1) := by decide +kernel
theorem dX5_fits_7 : decode cX5_fits 7 = .ok (.if_icmp .eq 13, 3) := by decide +kernel
theorem dX5_fits_10 : decode cX5_fits 10 = .ok (.aload_n 0, 1) := by decide +kernel
theorem dX5_fits_11 : decode cX5_fits 11 = .ok (.iload_n 1, 1) := by decide +kernel
theorem dX5_fits_12 : decode cX5_fits 12 = .ok (.iconst 2, 1) := by decide +kernel
theorem dX5_fits_13 : decode cX5_fits 13 = .ok (.invokevirtual 41, 3) := by decide +kernel
theorem dX5_fits_16 : decode cX5_fits 16 = .ok (.iconst 5, 1) := by decide +kernel
theorem dX5_fits_17 : decode cX5_fits 17 = .ok (.if_icmp .ne 28, 3) := by decide +kernel
theorem dX5_fits_20 : decode cX5_fits 20 = .ok (.aload_n 0, 1) := by decide +kernel
theorem dX5_fits_21 : decode cX5_fits 21 = .ok (.iload_n 1, 1) := by decide +kernel
theorem dX5_fits_22 : decode cX5_fits 22 = .ok (.iconst 3, 1) := by decide +kernel
theorem dX5_fits_23 : decode cX5_fits 23 = .ok (.invokevirtual 41, 3) := by decide +kernel
theorem dX5_fits_26 : decode cX5_fits 26 = .ok (.iload_n 3, 1) := by decide +kernel
theorem dX5_fits_27 : decode cX5_fits 27 = .ok (.if_icmp .eq 14, 3) := by decide +kernel
theorem dX5_fits_30 : decode cX5_fits 30 = .ok (.aload_n 0, 1) := by decide +kernel
theorem dX5_fits_31 : decode cX5_fits 31 = .ok (.iload_n 1, 1) := by decide +kernel
theorem dX5_fits_32 : decode cX5_fits 32 = .ok (.iconst 3, 1) := by decide +kernel
theorem dX5_fits_33 : decode cX5_fits 33 = .ok (.invokevirtual 41, 3) := by decide +kernel
theorem dX5_fits_36 : decode cX5_fits 36 = .ok (.bipush 6, 2) := by decide +kernel
theorem dX5_fits_38 : decode cX5_fits 38 = .ok (.if_icmp .ne 7, 3) := by decide +kernel
theorem dX5_fits_41 : decode cX5_fits 41 = .ok (.iconst 1, 1) := by decide +kernel
theorem dX5_fits_42 : decode cX5_fits 42 = .ok (.goto 4, 3) := by decide +kernel
theorem dX5_fits_45 : decode cX5_fits 45 = .ok (.iconst 0, 1) := by decide +kernel
theorem dX5_fits_46 : decode cX5_fits 46 = .ok (.ireturn, 1) := by decide +kernel
set_option maxRecDepth 20000 in
theorem ggX5_layStrong_X5_of : GoodIn wsX5_layStrong wsX5_of := goodIn_r _ [7, 2, 8, 9, 6, 10, 15, 16, 17, 18, 19, 20, 21, 22, 23] (by decide +kernel) (by decide +kernel)
set_option maxRecDepth 20000 in
theorem gX5_layStrong_X5_of : GoodIn wsX5_layStrong (wsV RX5 41 RX5 yX5_of wsX5_of) := goodIn_app (goodIn_of _ (by decide +kernel)) ggX5_layStrong_X5_of
set_option maxRecDepth 20000 in
theorem ggX5_layStrong_X5_fits : GoodIn wsX5_layStrong wsX5_fits := goodIn_r _ [14, 3, 4, 5, 6, 7, 2, 8, 9, 10, 15, 16, 17, 18, 19, 20, 21, 22, 23] (by decide +kernel) (by decide +kernel)
set_option maxRecDepth 20000 in
theorem gX5_layStrong_X5_fits : GoodIn wsX5_layStrong (wsV RX5 44 RX5 yX5_fits wsX5_fits) := goodIn_app (goodIn_of _ (by decide +kernel)) ggX5_layStrong_X5_fits
theorem dX5_layStrong_0 : decode cX5_layStrong 0 = .ok (.iconst 0, 1) := by decide +kernel
theorem dX5_layStrong_1 : decode cX5_layStrong 1 = .ok (.istore 6, 2) := by decide +kernel
theorem dX5_layStrong_3 : decode cX5_layStrong 3 = .ok (.iload 6, 2) := by decide +kernel
theorem dX5_layStrong_5 : decode cX5_layStrong 5 = .ok (.iconst 5, 1) := by decide +kernel
theorem dX5_layStrong_6 : decode cX5_layStrong 6 = .ok (.if_icmp .ge 29, 3) := by decide +kernel
theorem dX5_layStrong_9 : decode cX5_layStrong 9 = .ok (.aload_n 0, 1) := by decide +kernel
theorem dX5_layStrong_10 : decode cX5_layStrong 10 = .ok (.getfield 26, 3) := by decide +kernel
theorem dX5_layStrong_13 : decode cX5_layStrong 13 = .ok (.iload 6, 2) := by decide +kernel
theorem dX5_layStrong_15 : decode cX5_layStrong 15 = .ok (.iload 6, 2) := by decide +kernel
theorem dX5_layStrong_17 : decode cX5_layStrong 17 = .ok (.iload 4, 2) := by decide +kernel
theorem dX5_layStrong_19 : decode cX5_layStrong 19 = .ok (.if_icmp .ne 8, 3) := by decide +kernel
theorem dX5_layStrong_22 : decode cX5_layStrong 22 = .ok (.iload 5, 2) := by decide +kernel
theorem dX5_layStrong_24 : decode cX5_layStrong 24 = .ok (.goto 4, 3) := by decide +kernel
theorem dX5_layStrong_27 : decode cX5_layStrong 27 = .ok (.iconst 0, 1) := by decide +kernel
theorem dX5_layStrong_28 : decode cX5_layStrong 28 = .ok (.iastore, 1) := by decide +kernel
theorem dX5_layStrong_29 : decode cX5_layStrong 29 = .ok (.iinc 6 1, 3) := by decide +kernel
theorem dX5_layStrong_32 : decode cX5_layStrong 32 = .ok (.goto (-29), 3) := by decide +kernel
theorem dX5_layStrong_35 : decode cX5_layStrong 35 = .ok (.iconst 0, 1) := by decide +kernel
theorem dX5_layStrong_36 : decode cX5_layStrong 36 = .ok (.istore 6, 2) := by decide +kernel
theorem dX5_layStrong_38 : decode cX5_layStrong 38 = .ok (.iload 6, 2) := by decide +kernel
theorem dX5_layStrong_40 : decode cX5_layStrong 40 = .ok (.aload_n 0, 1) := by decide +kernel
theorem dX5_layStrong_41 : decode cX5_layStrong 41 = .ok (.getfield 7, 3) := by decide +kernel
theorem dX5_layStrong_44 : decode cX5_layStrong 44 = .ok (.iconst 0, 1) := by decide +kernel
theorem dX5_layStrong_45 : decode cX5_layStrong 45 = .ok (.iaload, 1) := by decide +kernel
theorem dX5_layStrong_46 : decode cX5_layStrong 46 = .ok (.if_icmp .ge 87, 3) := by decide +kernel
theorem dX5_layStrong_49 : decode cX5_layStrong 49 = .ok (.iload 6, 2) := by decide +kernel
theorem dX5_layStrong_51 : decode cX5_layStrong 51 = .ok (.iload_n 3, 1) := by decide +kernel
theorem dX5_layStrong_52 : decode cX5_layStrong 52 = .ok (.if_icmp .eq 75, 3) := by decide +kernel
theorem dX5_layStrong_55 : decode cX5_layStrong 55 = .ok (.aload_n 0, 1) := by decide +kernel
theorem dX5_layStrong_56 : decode cX5_layStrong 56 = .ok (.iload 6, 2) := by decide +kernel
theorem dX5_layStrong_58 : decode cX5_layStrong 58 = .ok (.iconst 1, 1) := by decide +kernel
theorem dX5_layStrong_59 : decode cX5_layStrong 59 = .ok (.invokevirtual 41, 3) := by decide +kernel
theorem dX5_layStrong_62 : decode cX5_layStrong 62 = .ok (.iconst 2, 1) := by decide +kernel
theorem dX5_layStrong_63 : decode cX5_layStrong 63 = .ok (.if_icmp .ne 64, 3) := by decide +kernel
theorem dX5_layStrong_66 : decode cX5_layStrong 66 = .ok (.aload_n 0, 1) := by decide +kernel
theorem dX5_layStrong_67 : decode cX5_layStrong 67 = .ok (.iload 6, 2) := by decide +kernel
theorem dX5_layStrong_69 : decode cX5_layStrong 69 = .ok (.iload_n 1, 1) := by decide +kernel
theorem dX5_layStrong_70 : decode cX5_layStrong 70 = .ok (.iload_n 2, 1) := by decide +kernel
theorem dX5_layStrong_71 : decode cX5_layStrong 71 = .ok (.invokevirtual 44, 3) := by decide +kernel
theorem dX5_layStrong_74 : decode cX5_layStrong 74 = .ok (.ifCond .eq 53, 3) := by decide +kernel
theorem dX5_layStrong_77 : decode cX5_layStrong 77 = .ok (.aload_n 0, 1) := by decide +kernel
theorem dX5_layStrong_78 : decode cX5_layStrong 78 = .ok (.iload 6, 2) := by decide +kernel
theorem dX5_layStrong_80 : decode cX5_layStrong 80 = .ok (.iconst 0, 1) := by decide +kernel
theorem dX5_layStrong_81 : decode cX5_layStrong 81 = .ok (.invokevirtual 41, 3) := by decide +kernel
theorem dX5_layStrong_84 : decode cX5_layStrong 84 = .ok (.istore 7, 2) := by decide +kernel
theorem dX5_layStrong_86 : decode cX5_layStrong 86 = .ok (.aload_n 0, 1) := by decide +kernel
theorem dX5_layStrong_87 : decode cX5_layStrong 87 = .ok (.getfield 26, 3) := by decide +kernel
theorem dX5_layStrong_90 : decode cX5_layStrong 90 = .ok (.iload 7, 2) := by decide +kernel
theorem dX5_layStrong_92 : decode cX5_layStrong 92 = .ok (.aload_n 0, 1) := by decide +kernel
theorem dX5_layStrong_93 : decode cX5_layStrong 93 = .ok (.iload 6, 2) := by decide +kernel
theorem dX5_layStrong_95 : decode cX5_layStrong 95 = .ok (.iconst 4, 1) := by decide +kernel
theorem dX5_layStrong_96 : decode cX5_layStrong 96 = .ok (.invokevirtual 41, 3) := by decide +kernel
theorem dX5_layStrong_99 : decode cX5_layStrong 99 = .ok (.aload_n 0, 1) := by decide +kernel
theorem dX5_layStrong_100 : decode cX5_layStrong 100 = .ok (.getfield 26, 3) := by decide +kernel
theorem dX5_layStrong_103 : decode cX5_layStrong 103 = .ok (.iload 7, 2) := by decide +kernel
theorem dX5_layStrong_105 : decode cX5_layStrong 105 = .ok (.iaload, 1) := by decide +kernel
theorem dX5_layStrong_106 : decode cX5_layStrong 106 = .ok (.if_icmp .le 13, 3) := by decide +kernel
theorem dX5_layStrong_109 : decode cX5_layStrong 109 = .ok (.aload_n 0, 1) := by decide +kernel
theorem dX5_layStrong_110 : decode cX5_layStrong 110 = .ok (.iload 6, 2) := by decide +kernel
theorem dX5_layStrong_112 : decode cX5_layStrong 112 = .ok (.iconst 4, 1) := by decide +kernel
theorem dX5_layStrong_113 : decode cX5_layStrong 113 = .ok (.invokevirtual 41, 3) := by decide +kernel
theorem dX5_layStrong_116 : decode cX5_layStrong 116 = .ok (.goto 10, 3) := by decide +kernel
theorem dX5_layStrong_119 : decode cX5_layStrong 119 = .ok (.aload_n 0, 1) := by decide +kernel
theorem dX5_layStrong_120 : decode cX5_layStrong 120 = .ok (.getfield 26, 3) := by decide +kernel
theorem dX5_layStrong_123 : decode cX5_layStrong 123 = .ok (.iload 7, 2) := by decide +kernel
theorem dX5_layStrong_125 : decode cX5_layStrong 125 = .ok (.iaload, 1) := by decide +kernel
theorem dX5_layStrong_126 : decode cX5_layStrong 126 = .ok (.iastore, 1) := by decide +kernel
theorem dX5_layStrong_127 : decode cX5_layStrong 127 = .ok (.iinc 6 1, 3) := by decide +kernel
theorem dX5_layStrong_130 : decode cX5_layStrong 130 = .ok (.goto (-92), 3) := by decide +kernel
theorem dX5_layStrong_133 : decode cX5_layStrong 133 = .ok (.iconst 1, 1) := by decide +kernel
theorem dX5_layStrong_134 : decode cX5_layStrong 134 = .ok (.istore 6, 2) := by decide +kernel
theorem dX5_layStrong_136 : decode cX5_layStrong 136 = .ok (.iload 6, 2) := by decide +kernel
theorem dX5_layStrong_138 : decode cX5_layStrong 138 = .ok (.iconst 5, 1) := by decide +kernel
theorem dX5_layStrong_139 : decode cX5_layStrong 139 = .ok (.if_icmp .ge 54, 3) := by decide +kernel
theorem dX5_layStrong_142 : decode cX5_layStrong 142 = .ok (.aload_n 0, 1) := by decide +kernel
theorem dX5_layStrong_143 : decode cX5_layStrong 143 = .ok (.getfield 26, 3) := by decide +kernel
theorem dX5_layStrong_146 : decode cX5_layStrong 146 = .ok (.iload 6, 2) := by decide +kernel
theorem dX5_layStrong_148 : decode cX5_layStrong 148 = .ok (.aload_n 0, 1) := by decide +kernel
theorem dX5_layStrong_149 : decode cX5_layStrong 149 = .ok (.getfield 26, 3) := by decide +kernel
theorem dX5_layStrong_152 : decode cX5_layStrong 152 = .ok (.iload 6, 2) := by decide +kernel
theorem dX5_layStrong_154 : decode cX5_layStrong 154 = .ok (.iconst 1, 1) := by decide +kernel
theorem dX5_layStrong_155 : decode cX5_layStrong 155 = .ok (.isub, 1) := by decide +kernel
theorem dX5_layStrong_156 : decode cX5_layStrong 156 = .ok (.iaload, 1) := by decide +kernel
theorem dX5_layStrong_157 : decode cX5_layStrong 157 = .ok (.aload_n 0, 1) := by decide +kernel
theorem dX5_layStrong_158 : decode cX5_layStrong 158 = .ok (.getfield 26, 3) := by decide +kernel
theorem dX5_layStrong_161 : decode cX5_layStrong 161 = .ok (.iload 6, 2) := by decide +kernel
theorem dX5_layStrong_163 : decode cX5_layStrong 163 = .ok (.iaload, 1) := by decide +kernel
theorem dX5_layStrong_164 : decode cX5_layStrong 164 = .ok (.if_icmp .le 15, 3) := by decide +kernel
theorem dX5_layStrong_167 : decode cX5_layStrong 167 = .ok (.aload_n 0, 1) := by decide +kernel
theorem dX5_layStrong_168 : decode cX5_layStrong 168 = .ok (.getfield 26, 3) := by decide +kernel
theorem dX5_layStrong_171 : decode cX5_layStrong 171 = .ok (.iload 6, 2) := by decide +kernel
theorem dX5_layStrong_173 : decode cX5_layStrong 173 = .ok (.iconst 1, 1) := by decide +kernel
theorem dX5_layStrong_174 : decode cX5_layStrong 174 = .ok (.isub, 1) := by decide +kernel
theorem dX5_layStrong_175 : decode cX5_layStrong 175 = .ok (.iaload, 1) := by decide +kernel
theorem dX5_layStrong_176 : decode cX5_layStrong 176 = .ok (.goto 10, 3) := by decide +kernel
theorem dX5_layStrong_179 : decode cX5_layStrong 179 = .ok (.aload_n 0, 1) := by decide +kernel
theorem dX5_layStrong_180 : decode cX5_layStrong 180 = .ok (.getfield 26, 3) := by decide +kernel
theorem dX5_layStrong_183 : decode cX5_layStrong 183 = .ok (.iload 6, 2) := by decide +kernel
theorem dX5_layStrong_185 : decode cX5_layStrong 185 = .ok (.iaload, 1) := by decide +kernel
theorem dX5_layStrong_186 : decode cX5_layStrong 186 = .ok (.iastore, 1) := by decide +kernel
theorem dX5_layStrong_187 : decode cX5_layStrong 187 = .ok (.iinc 6 1, 3) := by decide +kernel
theorem dX5_layStrong_190 : decode cX5_layStrong 190 = .ok (.goto (-54), 3) := by decide +kernel
theorem dX5_layStrong_193 : decode cX5_layStrong 193 = .ok (.return_, 1) := by decide +kernel
set_option maxRecDepth 20000 in
theorem ggX5_isPermitted_X5_of : GoodIn wsX5_isPermitted wsX5_of := goodIn_r _ [6, 1, 7, 8, 5, 9, 14, 15, 16, 17, 18, 19, 20, 21, 22] (by decide +kernel) (by decide +kernel)
set_option maxRecDepth 20000 in
theorem gX5_isPermitted_X5_of : GoodIn wsX5_isPermitted (wsV RX5 41 RX5 yX5_of wsX5_of) := goodIn_app (goodIn_of _ (by decide +kernel)) ggX5_isPermitted_X5_of
set_option maxRecDepth 20000 in
theorem ggX5_isPermitted_X5_fits : GoodIn wsX5_isPermitted wsX5_fits := goodIn_r _ [13, 2, 3, 4, 5, 6, 1, 7, 8, 9, 14, 15, 16, 17, 18, 19, 20, 21, 22] (by decide +kernel) (by decide +kernel)
set_option maxRecDepth 20000 in
theorem gX5_isPermitted_X5_fits : GoodIn wsX5_isPermitted (wsV RX5 44 RX5 yX5_fits wsX5_fits) := goodIn_app (goodIn_of _ (by decide +kernel)) ggX5_isPermitted_X5_fits
theorem dX5_isPermitted_0 : decode cX5_isPermitted 0 = .ok (.iconst 0, 1) := by decide +kernel
theorem dX5_isPermitted_1 : decode cX5_isPermitted 1 = .ok (.istore 4, 2) := by decide +kernel
theorem dX5_isPermitted_3 : decode cX5_isPermitted 3 = .ok (.iconst 0, 1) := by decide +kernel
theorem dX5_isPermitted_4 : decode cX5_isPermitted 4 = .ok (.istore 5, 2) := by decide +kernel
theorem dX5_isPermitted_6 : decode cX5_isPermitted 6 = .ok (.iload 5, 2) := by decide +kernel
theorem dX5_isPermitted_8 : decode cX5_isPermitted 8 = .ok (.aload_n 0, 1) := by decide +kernel
theorem dX5_isPermitted_9 : decode cX5_isPermitted 9 = .ok (.getfield 7, 3) := by decide +kernel
theorem dX5_isPermitted_12 : decode cX5_isPermitted 12 = .ok (.iconst 0, 1) := by decide +kernel
theorem dX5_isPermitted_13 : decode cX5_isPermitted 13 = .ok (.iaload, 1) := by decide +kernel
theorem dX5_isPermitted_14 : decode cX5_isPermitted 14 = .ok (.if_icmp .ge 48, 3) := by decide +kernel
theorem dX5_isPermitted_17 : decode cX5_isPermitted 17 = .ok (.iload 4, 2) := by decide +kernel
theorem dX5_isPermitted_19 : decode cX5_isPermitted 19 = .ok (.ifCond .ne 30, 3) := by decide +kernel
theorem dX5_isPermitted_22 : decode cX5_isPermitted 22 = .ok (.iload 5, 2) := by decide +kernel
theorem dX5_isPermitted_24 : decode cX5_isPermitted 24 = .ok (.iload_n 3, 1) := by decide +kernel
theorem dX5_isPermitted_25 : decode cX5_isPermitted 25 = .ok (.if_icmp .eq 28, 3) := by decide +kernel
theorem dX5_isPermitted_28 : decode cX5_isPermitted 28 = .ok (.aload_n 0, 1) := by decide +kernel
theorem dX5_isPermitted_29 : decode cX5_isPermitted 29 = .ok (.iload 5, 2) := by decide +kernel
theorem dX5_isPermitted_31 : decode cX5_isPermitted 31 = .ok (.iconst 1, 1) := by decide +kernel
theorem dX5_isPermitted_32 : decode cX5_isPermitted 32 = .ok (.invokevirtual 41, 3) := by decide +kernel
theorem dX5_isPermitted_35 : decode cX5_isPermitted 35 = .ok (.ifCond .ne 18, 3) := by decide +kernel
theorem dX5_isPermitted_38 : decode cX5_isPermitted 38 = .ok (.aload_n 0, 1) := by decide +kernel
theorem dX5_isPermitted_39 : decode cX5_isPermitted 39 = .ok (.iload 5, 2) := by decide +kernel
theorem dX5_isPermitted_41 : decode cX5_isPermitted 41 = .ok (.iload_n 1, 1) := by decide +kernel
theorem dX5_isPermitted_42 : decode cX5_isPermitted 42 = .ok (.iload_n 2, 1) := by decide +kernel
theorem dX5_isPermitted_43 : decode cX5_isPermitted 43 = .ok (.invokevirtual 44, 3) := by decide +kernel
theorem dX5_isPermitted_46 : decode cX5_isPermitted 46 = .ok (.ifCond .eq 7, 3) := by decide +kernel
theorem dX5_isPermitted_49 : decode cX5_isPermitted 49 = .ok (.iconst 1, 1) := by decide +kernel
theorem dX5_isPermitted_50 : decode cX5_isPermitted 50 = .ok (.goto 4, 3) := by decide +kernel
theorem dX5_isPermitted_53 : decode cX5_isPermitted 53 = .ok (.iconst 0, 1) := by decide +kernel
theorem dX5_isPermitted_54 : decode cX5_isPermitted 54 = .ok (.istore 4, 2) := by decide +kernel
theorem dX5_isPermitted_56 : decode cX5_isPermitted 56 = .ok (.iinc 5 1, 3) := by decide +kernel
theorem dX5_isPermitted_59 : decode cX5_isPermitted 59 = .ok (.goto (-53), 3) := by decide +kernel
theorem dX5_isPermitted_62 : decode cX5_isPermitted 62 = .ok (.iload 4, 2) := by decide +kernel
theorem dX5_isPermitted_64 : decode cX5_isPermitted 64 = .ok (.ireturn, 1) := by decide +kernel
set_option maxRecDepth 20000 in
theorem ggX5_least_X5_isPermitted : GoodIn wsX5_least wsX5_isPermitted := goodIn_r _ [7, 1, 8, 9, 10, 6, 11, 12, 13, 14, 15, 16, 17, 18, 23, 24, 25, 26, 27, 28, 29, 30, 31] (by decide +kernel) (by decide +kernel)
set_option maxRecDepth 20000 in
theorem gX5_least_X5_isPermitted : GoodIn wsX5_least (wsV RX5 47 RX5 yX5_isPermitted wsX5_isPermitted) := goodIn_app (goodIn_of _ (by decide +kernel)) ggX5_least_X5_isPermitted
set_option maxRecDepth 20000 in
theorem ggX5_least_X5_layStrong : GoodIn wsX5_least wsX5_layStrong := goodIn_r _ [22, 2, 1, 8, 9, 10, 6, 11, 12, 13, 14, 15, 16, 17, 18, 23, 24, 25, 26, 27, 28, 29, 30, 31] (by decide +kernel) (by decide +kernel)
set_option maxRecDepth 20000 in
theorem gX5_least_X5_layStrong : GoodIn wsX5_least (wsV RX5 50 RX5 yX5_layStrong wsX5_layStrong) := goodIn_app (goodIn_of _ (by decide +kernel)) ggX5_least_X5_layStrong
set_option maxRecDepth 20000 in
theorem ggX5_least_X5_of : GoodIn wsX5_least wsX5_of := goodIn_r _ [11, 1, 12, 13, 6, 14, 23, 24, 25, 26, 27, 28, 29, 30, 31] (by decide +kernel) (by decide +kernel)
set_option maxRecDepth 20000 in
theorem gX5_least_X5_of : GoodIn wsX5_least (wsV RX5 41 RX5 yX5_of wsX5_of) := goodIn_app (goodIn_of _ (by decide +kernel)) ggX5_least_X5_of
set_option maxRecDepth 20000 in
theorem ggX5_least_X5_fits : GoodIn wsX5_least wsX5_fits := goodIn_r _ [18, 8, 9, 10, 6, 11, 1, 12, 13, 14, 23, 24, 25, 26, 27, 28, 29, 30, 31] (by decide +kernel) (by decide +kernel)
set_option maxRecDepth 20000 in
theorem gX5_least_X5_fits : GoodIn wsX5_least (wsV RX5 44 RX5 yX5_fits wsX5_fits) := goodIn_app (goodIn_of _ (by decide +kernel)) ggX5_least_X5_fits
theorem dX5_least_0 : decode cX5_least 0 = .ok (.aload_n 0, 1) := by decide +kernel
theorem dX5_least_1 : decode cX5_least 1 = .ok (.iload_n 1, 1) := by decide +kernel
theorem dX5_least_2 : decode cX5_least 2 = .ok (.iload_n 2, 1) := by decide +kernel
theorem dX5_least_3 : decode cX5_least 3 = .ok (.iload_n 3, 1) := by decide +kernel
theorem dX5_least_4 : decode cX5_least 4 = .ok (.invokevirtual 47, 3) := by decide +kernel
theorem dX5_least_7 : decode cX5_least 7 = .ok (.ifCond .ne 6, 3) := by decide +kernel
theorem dX5_least_10 : decode cX5_least 10 = .ok (.bipush 10, 2) := by decide +kernel
theorem dX5_least_12 : decode cX5_least 12 = .ok (.ireturn, 1) := by decide +kernel
theorem dX5_least_13 : decode cX5_least 13 = .ok (.aload_n 0, 1) := by decide +kernel
theorem dX5_least_14 : decode cX5_least 14 = .ok (.iload_n 1, 1) := by decide +kernel
theorem dX5_least_15 : decode cX5_least 15 = .ok (.iload_n 2, 1) := by decide +kernel
theorem dX5_least_16 : decode cX5_least 16 = .ok (.iload_n 3, 1) := by decide +kernel
theorem dX5_least_17 : decode cX5_least 17 = .ok (.iload 4, 2) := by decide +kernel
theorem dX5_least_19 : decode cX5_least 19 = .ok (.iload 5, 2) := by decide +kernel
theorem dX5_least_21 : decode cX5_least 21 = .ok (.invokevirtual 50, 3) := by decide +kernel
theorem dX5_least_24 : decode cX5_least 24 = .ok (.iconst 0, 1) := by decide +kernel
theorem dX5_least_25 : decode cX5_least 25 = .ok (.istore 6, 2) := by decide +kernel
theorem dX5_least_27 : decode cX5_least 27 = .ok (.iconst 0, 1) := by decide +kernel
theorem dX5_least_28 : decode cX5_least 28 = .ok (.istore 7, 2) := by decide +kernel
theorem dX5_least_30 : decode cX5_least 30 = .ok (.iload 7, 2) := by decide +kernel
theorem dX5_least_32 : decode cX5_least 32 = .ok (.aload_n 0, 1) := by decide +kernel
theorem dX5_least_33 : decode cX5_least 33 = .ok (.getfield 7, 3) := by decide +kernel
theorem dX5_least_36 : decode cX5_least 36 = .ok (.iconst 0, 1) := by decide +kernel
theorem dX5_least_37 : decode cX5_least 37 = .ok (.iaload, 1) := by decide +kernel
theorem dX5_least_38 : decode cX5_least 38 = .ok (.if_icmp .ge 97, 3) := by decide +kernel
theorem dX5_least_41 : decode cX5_least 41 = .ok (.iload 7, 2) := by decide +kernel
theorem dX5_least_43 : decode cX5_least 43 = .ok (.iload_n 3, 1) := by decide +kernel
theorem dX5_least_44 : decode cX5_least 44 = .ok (.if_icmp .eq 51, 3) := by decide +kernel
theorem dX5_least_47 : decode cX5_least 47 = .ok (.aload_n 0, 1) := by decide +kernel
theorem dX5_least_48 : decode cX5_least 48 = .ok (.iload 7, 2) := by decide +kernel
theorem dX5_least_50 : decode cX5_least 50 = .ok (.iconst 1, 1) := by decide +kernel
theorem dX5_least_51 : decode cX5_least 51 = .ok (.invokevirtual 41, 3) := by decide +kernel
theorem dX5_least_54 : decode cX5_least 54 = .ok (.iconst 1, 1) := by decide +kernel
theorem dX5_least_55 : decode cX5_least 55 = .ok (.if_icmp .ne 40, 3) := by decide +kernel
theorem dX5_least_58 : decode cX5_least 58 = .ok (.aload_n 0, 1) := by decide +kernel
theorem dX5_least_59 : decode cX5_least 59 = .ok (.iload 7, 2) := by decide +kernel
theorem dX5_least_61 : decode cX5_least 61 = .ok (.iload_n 1, 1) := by decide +kernel
theorem dX5_least_62 : decode cX5_least 62 = .ok (.iload_n 2, 1) := by decide +kernel
theorem dX5_least_63 : decode cX5_least 63 = .ok (.invokevirtual 44, 3) := by decide +kernel
theorem dX5_least_66 : decode cX5_least 66 = .ok (.ifCond .eq 29, 3) := by decide +kernel
theorem dX5_least_69 : decode cX5_least 69 = .ok (.aload_n 0, 1) := by decide +kernel
theorem dX5_least_70 : decode cX5_least 70 = .ok (.getfield 26, 3) := by decide +kernel
theorem dX5_least_73 : decode cX5_least 73 = .ok (.aload_n 0, 1) := by decide +kernel
theorem dX5_least_74 : decode cX5_least 74 = .ok (.iload 7, 2) := by decide +kernel
theorem dX5_least_76 : decode cX5_least 76 = .ok (.iconst 0, 1) := by decide +kernel
theorem dX5_least_77 : decode cX5_least 77 = .ok (.invokevirtual 41, 3) := by decide +kernel
theorem dX5_least_80 : decode cX5_least 80 = .ok (.iaload, 1) := by decide +kernel
theorem dX5_least_81 : decode cX5_least 81 = .ok (.aload_n 0, 1) := by decide +kernel
theorem dX5_least_82 : decode cX5_least 82 = .ok (.iload 7, 2) := by decide +kernel
theorem dX5_least_84 : decode cX5_least 84 = .ok (.iconst 4, 1) := by decide +kernel
theorem dX5_least_85 : decode cX5_least 85 = .ok (.invokevirtual 41, 3) := by decide +kernel
theorem dX5_least_88 : decode cX5_least 88 = .ok (.if_icmp .ge 7, 3) := by decide +kernel
theorem dX5_least_91 : decode cX5_least 91 = .ok (.iconst 1, 1) := by decide +kernel
theorem dX5_least_92 : decode cX5_least 92 = .ok (.goto 4, 3) := by decide +kernel
theorem dX5_least_95 : decode cX5_least 95 = .ok (.iconst 0, 1) := by decide +kernel
theorem dX5_least_96 : decode cX5_least 96 = .ok (.istore 8, 2) := by decide +kernel
theorem dX5_least_98 : decode cX5_least 98 = .ok (.iload 8, 2) := by decide +kernel
theorem dX5_least_100 : decode cX5_least 100 = .ok (.ifCond .eq 25, 3) := by decide +kernel
theorem dX5_least_103 : decode cX5_least 103 = .ok (.aload_n 0, 1) := by decide +kernel
theorem dX5_least_104 : decode cX5_least 104 = .ok (.iload 7, 2) := by decide +kernel
theorem dX5_least_106 : decode cX5_least 106 = .ok (.iconst 4, 1) := by decide +kernel
theorem dX5_least_107 : decode cX5_least 107 = .ok (.invokevirtual 41, 3) := by decide +kernel
theorem dX5_least_110 : decode cX5_least 110 = .ok (.iload 6, 2) := by decide +kernel
theorem dX5_least_112 : decode cX5_least 112 = .ok (.if_icmp .le 13, 3) := by decide +kernel
theorem dX5_least_115 : decode cX5_least 115 = .ok (.aload_n 0, 1) := by decide +kernel
theorem dX5_least_116 : decode cX5_least 116 = .ok (.iload 7, 2) := by decide +kernel
theorem dX5_least_118 : decode cX5_least 118 = .ok (.iconst 4, 1) := by decide +kernel
theorem dX5_least_119 : decode cX5_least 119 = .ok (.invokevirtual 41, 3) := by decide +kernel
theorem dX5_least_122 : decode cX5_least 122 = .ok (.goto 5, 3) := by decide +kernel
theorem dX5_least_125 : decode cX5_least 125 = .ok (.iload 6, 2) := by decide +kernel
theorem dX5_least_127 : decode cX5_least 127 = .ok (.istore 6, 2) := by decide +kernel
theorem dX5_least_129 : decode cX5_least 129 = .ok (.iinc 7 1, 3) := by decide +kernel
theorem dX5_least_132 : decode cX5_least 132 = .ok (.goto (-102), 3) := by decide +kernel
theorem dX5_least_135 : decode cX5_least 135 = .ok (.iload 6, 2) := by decide +kernel
theorem dX5_least_137 : decode cX5_least 137 = .ok (.ireturn, 1) := by decide +kernel
set_option maxRecDepth 20000 in
theorem ggX5_leastNow_X5_least : GoodIn wsX5_leastNow wsX5_least := goodIn_r _ [5, 6, 7, 8, 9, 10, 4, 11, 12, 13, 14, 15, 16, 17, 18, 19, 20, 21, 22, 23, 24, 25, 26, 27, 28, 29, 30, 31, 32, 33, 34, 35] (by decide +kernel) (by decide +kernel)
set_option maxRecDepth 20000 in
theorem gX5_leastNow_X5_least : GoodIn wsX5_leastNow (wsV RX5 54 RX5 yX5_least wsX5_least) := goodIn_app (goodIn_of _ (by decide +kernel)) ggX5_leastNow_X5_least
theorem dX5_leastNow_0 : decode cX5_leastNow 0 = .ok (.aload_n 0, 1) := by decide +kernel
theorem dX5_leastNow_1 : decode cX5_leastNow 1 = .ok (.iload_n 1, 1) := by decide +kernel
theorem dX5_leastNow_2 : decode cX5_leastNow 2 = .ok (.iload_n 2, 1) := by decide +kernel
theorem dX5_leastNow_3 : decode cX5_leastNow 3 = .ok (.bipush (-6), 2) := by decide +kernel
theorem dX5_leastNow_5 : decode cX5_leastNow 5 = .ok (.bipush (-6), 2) := by decide +kernel
theorem dX5_leastNow_7 : decode cX5_leastNow 7 = .ok (.iconst 0, 1) := by decide +kernel
theorem dX5_leastNow_8 : decode cX5_leastNow 8 = .ok (.invokevirtual 54, 3) := by decide +kernel
theorem dX5_leastNow_11 : decode cX5_leastNow 11 = .ok (.ireturn, 1) := by decide +kernel
set_option maxRecDepth 20000 in
theorem ggX5_reason_X5_leastNow : GoodIn wsX5_reason wsX5_leastNow := goodIn_r _ [7, 8, 9, 10, 6, 11, 1, 2, 12, 13, 14, 15, 16, 17, 18, 19, 20, 21, 22, 23, 24, 25, 26, 27, 28, 29, 30, 31, 32, 33, 34, 35, 36, 37, 38, 39] (by decide +kernel) (by decide +kernel)
set_option maxRecDepth 20000 in
theorem gX5_reason_X5_leastNow : GoodIn wsX5_reason (wsV RX5 58 RX5 yX5_leastNow wsX5_leastNow) := goodIn_app (goodIn_of _ (by decide +kernel)) ggX5_reason_X5_leastNow
set_option maxRecDepth 20000 in
theorem ggX5_reason_X5_of : GoodIn wsX5_reason wsX5_of := goodIn_r _ [19, 1, 20, 21, 6, 22, 31, 32, 33, 34, 35, 36, 37, 38, 39] (by decide +kernel) (by decide +kernel)
set_option maxRecDepth 20000 in
theorem gX5_reason_X5_of : GoodIn wsX5_reason (wsV RX5 41 RX5 yX5_of wsX5_of) := goodIn_app (goodIn_of _ (by decide +kernel)) ggX5_reason_X5_of
set_option maxRecDepth 20000 in
theorem ggX5_reason_X5_fits : GoodIn wsX5_reason wsX5_fits := goodIn_r _ [26, 16, 17, 18, 6, 19, 1, 20, 21, 22, 31, 32, 33, 34, 35, 36, 37, 38, 39] (by decide +kernel) (by decide +kernel)
set_option maxRecDepth 20000 in
theorem gX5_reason_X5_fits : GoodIn wsX5_reason (wsV RX5 44 RX5 yX5_fits wsX5_fits) := goodIn_app (goodIn_of _ (by decide +kernel)) ggX5_reason_X5_fits
theorem dX5_reason_0 : decode cX5_reason 0 = .ok (.aload_n 0, 1) := by decide +kernel
theorem dX5_reason_1 : decode cX5_reason 1 = .ok (.iload_n 1, 1) := by decide +kernel
theorem dX5_reason_2 : decode cX5_reason 2 = .ok (.iload_n 2, 1) := by decide +kernel
theorem dX5_reason_3 : decode cX5_reason 3 = .ok (.invokevirtual 58, 3) := by decide +kernel
theorem dX5_reason_6 : decode cX5_reason 6 = .ok (.istore 4, 2) := by decide +kernel
theorem dX5_reason_8 : decode cX5_reason 8 = .ok (.iload 4, 2) := by decide +kernel
theorem dX5_reason_10 : decode cX5_reason 10 = .ok (.bipush 10, 2) := by decide +kernel
theorem dX5_reason_12 : decode cX5_reason 12 = .ok (.if_icmp .ne 6, 3) := by decide +kernel
theorem dX5_reason_15 : decode cX5_reason 15 = .ok (.bipush 100, 2) := by decide +kernel
theorem dX5_reason_17 : decode cX5_reason 17 = .ok (.ireturn, 1) := by decide +kernel
theorem dX5_reason_18 : decode cX5_reason 18 = .ok (.bipush (-6), 2) := by decide +kernel
theorem dX5_reason_20 : decode cX5_reason 20 = .ok (.istore 5, 2) := by decide +kernel
theorem dX5_reason_22 : decode cX5_reason 22 = .ok (.aload_n 0, 1) := by decide +kernel
theorem dX5_reason_23 : decode cX5_reason 23 = .ok (.getfield 7, 3) := by decide +kernel
theorem dX5_reason_26 : decode cX5_reason 26 = .ok (.iconst 0, 1) := by decide +kernel
theorem dX5_reason_27 : decode cX5_reason 27 = .ok (.iaload, 1) := by decide +kernel
theorem dX5_reason_28 : decode cX5_reason 28 = .ok (.iconst 1, 1) := by decide +kernel
theorem dX5_reason_29 : decode cX5_reason 29 = .ok (.isub, 1) := by decide +kernel
theorem dX5_reason_30 : decode cX5_reason 30 = .ok (.istore 6, 2) := by decide +kernel
theorem dX5_reason_32 : decode cX5_reason 32 = .ok (.iload 6, 2) := by decide +kernel
theorem dX5_reason_34 : decode cX5_reason 34 = .ok (.ifCond .lt 115, 3) := by decide +kernel
theorem dX5_reason_37 : decode cX5_reason 37 = .ok (.iload_n 3, 1) := by decide +kernel
theorem dX5_reason_38 : decode cX5_reason 38 = .ok (.iload 4, 2) := by decide +kernel
theorem dX5_reason_40 : decode cX5_reason 40 = .ok (.if_icmp .ge 109, 3) := by decide +kernel
theorem dX5_reason_43 : decode cX5_reason 43 = .ok (.aload_n 0, 1) := by decide +kernel
theorem dX5_reason_44 : decode cX5_reason 44 = .ok (.iload 6, 2) := by decide +kernel
theorem dX5_reason_46 : decode cX5_reason 46 = .ok (.iconst 1, 1) := by decide +kernel
theorem dX5_reason_47 : decode cX5_reason 47 = .ok (.invokevirtual 41, 3) := by decide +kernel
theorem dX5_reason_50 : decode cX5_reason 50 = .ok (.iconst 1, 1) := by decide +kernel
theorem dX5_reason_51 : decode cX5_reason 51 = .ok (.if_icmp .ne 51, 3) := by decide +kernel
theorem dX5_reason_54 : decode cX5_reason 54 = .ok (.aload_n 0, 1) := by decide +kernel
theorem dX5_reason_55 : decode cX5_reason 55 = .ok (.iload 6, 2) := by decide +kernel
theorem dX5_reason_57 : decode cX5_reason 57 = .ok (.iload_n 1, 1) := by decide +kernel
theorem dX5_reason_58 : decode cX5_reason 58 = .ok (.iload_n 2, 1) := by decide +kernel
theorem dX5_reason_59 : decode cX5_reason 59 = .ok (.invokevirtual 44, 3) := by decide +kernel
theorem dX5_reason_62 : decode cX5_reason 62 = .ok (.ifCond .eq 40, 3) := by decide +kernel
theorem dX5_reason_65 : decode cX5_reason 65 = .ok (.aload_n 0, 1) := by decide +kernel
theorem dX5_reason_66 : decode cX5_reason 66 = .ok (.getfield 26, 3) := by decide +kernel
theorem dX5_reason_69 : decode cX5_reason 69 = .ok (.aload_n 0, 1) := by decide +kernel
theorem dX5_reason_70 : decode cX5_reason 70 = .ok (.iload 6, 2) := by decide +kernel
theorem dX5_reason_72 : decode cX5_reason 72 = .ok (.iconst 0, 1) := by decide +kernel
theorem dX5_reason_73 : decode cX5_reason 73 = .ok (.invokevirtual 41, 3) := by decide +kernel
theorem dX5_reason_76 : decode cX5_reason 76 = .ok (.iaload, 1) := by decide +kernel
theorem dX5_reason_77 : decode cX5_reason 77 = .ok (.aload_n 0, 1) := by decide +kernel
theorem dX5_reason_78 : decode cX5_reason 78 = .ok (.iload 6, 2) := by decide +kernel
theorem dX5_reason_80 : decode cX5_reason 80 = .ok (.iconst 4, 1) := by decide +kernel
theorem dX5_reason_81 : decode cX5_reason 81 = .ok (.invokevirtual 41, 3) := by decide +kernel
theorem dX5_reason_84 : decode cX5_reason 84 = .ok (.if_icmp .ge 18, 3) := by decide +kernel
theorem dX5_reason_87 : decode cX5_reason 87 = .ok (.iload_n 3, 1) := by decide +kernel
theorem dX5_reason_88 : decode cX5_reason 88 = .ok (.aload_n 0, 1) := by decide +kernel
theorem dX5_reason_89 : decode cX5_reason 89 = .ok (.iload 6, 2) := by decide +kernel
theorem dX5_reason_91 : decode cX5_reason 91 = .ok (.iconst 4, 1) := by decide +kernel
theorem dX5_reason_92 : decode cX5_reason 92 = .ok (.invokevirtual 41, 3) := by decide +kernel
theorem dX5_reason_95 : decode cX5_reason 95 = .ok (.if_icmp .ge 7, 3) := by decide +kernel
theorem dX5_reason_98 : decode cX5_reason 98 = .ok (.iconst 1, 1) := by decide +kernel
theorem dX5_reason_99 : decode cX5_reason 99 = .ok (.goto 4, 3) := by decide +kernel
theorem dX5_reason_102 : decode cX5_reason 102 = .ok (.iconst 0, 1) := by decide +kernel
theorem dX5_reason_103 : decode cX5_reason 103 = .ok (.istore 7, 2) := by decide +kernel
theorem dX5_reason_105 : decode cX5_reason 105 = .ok (.iload 7, 2) := by decide +kernel
theorem dX5_reason_107 : decode cX5_reason 107 = .ok (.ifCond .eq 32, 3) := by decide +kernel
theorem dX5_reason_110 : decode cX5_reason 110 = .ok (.iload 5, 2) := by decide +kernel
theorem dX5_reason_112 : decode cX5_reason 112 = .ok (.bipush (-6), 2) := by decide +kernel
theorem dX5_reason_114 : decode cX5_reason 114 = .ok (.if_icmp .eq 20, 3) := by decide +kernel
theorem dX5_reason_117 : decode cX5_reason 117 = .ok (.aload_n 0, 1) := by decide +kernel
theorem dX5_reason_118 : decode cX5_reason 118 = .ok (.iload 6, 2) := by decide +kernel
theorem dX5_reason_120 : decode cX5_reason 120 = .ok (.iconst 0, 1) := by decide +kernel
theorem dX5_reason_121 : decode cX5_reason 121 = .ok (.invokevirtual 41, 3) := by decide +kernel
theorem dX5_reason_124 : decode cX5_reason 124 = .ok (.aload_n 0, 1) := by decide +kernel
theorem dX5_reason_125 : decode cX5_reason 125 = .ok (.iload 5, 2) := by decide +kernel
theorem dX5_reason_127 : decode cX5_reason 127 = .ok (.iconst 0, 1) := by decide +kernel
theorem dX5_reason_128 : decode cX5_reason 128 = .ok (.invokevirtual 41, 3) := by decide +kernel
theorem dX5_reason_131 : decode cX5_reason 131 = .ok (.if_icmp .gt 8, 3) := by decide +kernel
theorem dX5_reason_134 : decode cX5_reason 134 = .ok (.iload 6, 2) := by decide +kernel
theorem dX5_reason_136 : decode cX5_reason 136 = .ok (.goto 5, 3) := by decide +kernel
theorem dX5_reason_139 : decode cX5_reason 139 = .ok (.iload 5, 2) := by decide +kernel
theorem dX5_reason_141 : decode cX5_reason 141 = .ok (.istore 5, 2) := by decide +kernel
theorem dX5_reason_143 : decode cX5_reason 143 = .ok (.iinc 6 (-1), 3) := by decide +kernel
theorem dX5_reason_146 : decode cX5_reason 146 = .ok (.goto (-114), 3) := by decide +kernel
theorem dX5_reason_149 : decode cX5_reason 149 = .ok (.iload 5, 2) := by decide +kernel
theorem dX5_reason_151 : decode cX5_reason 151 = .ok (.ireturn, 1) := by decide +kernel
set_option maxRecDepth 20000 in
theorem ggX5_triples_X5_least : GoodIn wsX5_triples wsX5_least := goodIn_r _ [5, 6, 7, 8, 9, 10, 4, 11, 12, 13, 14, 15, 16, 17, 18, 19, 20, 21, 22, 23, 24, 25, 26, 27, 28, 29, 30, 31, 32, 33, 34, 35] (by decide +kernel) (by decide +kernel)
set_option maxRecDepth 20000 in
theorem gX5_triples_X5_least : GoodIn wsX5_triples (wsV RX5 54 RX5 yX5_least wsX5_least) := goodIn_app (goodIn_of _ (by decide +kernel)) ggX5_triples_X5_least
theorem dX5_triples_0 : decode cX5_triples 0 = .ok (.iconst 0, 1) := by decide +kernel
theorem dX5_triples_1 : decode cX5_triples 1 = .ok (.istore 4, 2) := by decide +kernel
theorem dX5_triples_3 : decode cX5_triples 3 = .ok (.iconst 0, 1) := by decide +kernel
theorem dX5_triples_4 : decode cX5_triples 4 = .ok (.istore 5, 2) := by decide +kernel
theorem dX5_triples_6 : decode cX5_triples 6 = .ok (.iload 5, 2) := by decide +kernel
theorem dX5_triples_8 : decode cX5_triples 8 = .ok (.bipush 30, 2) := by decide +kernel
theorem dX5_triples_10 : decode cX5_triples 10 = .ok (.if_icmp .ge 34, 3) := by decide +kernel
theorem dX5_triples_13 : decode cX5_triples 13 = .ok (.iload 4, 2) := by decide +kernel
theorem dX5_triples_15 : decode cX5_triples 15 = .ok (.bipush 10, 2) := by decide +kernel
theorem dX5_triples_17 : decode cX5_triples 17 = .ok (.aload_n 0, 1) := by decide +kernel
theorem dX5_triples_18 : decode cX5_triples 18 = .ok (.iload 5, 2) := by decide +kernel
theorem dX5_triples_20 : decode cX5_triples 20 = .ok (.bipush 6, 2) := by decide +kernel
theorem dX5_triples_22 : decode cX5_triples 22 = .ok (.idiv, 1) := by decide +kernel
theorem dX5_triples_23 : decode cX5_triples 23 = .ok (.iload 5, 2) := by decide +kernel
theorem dX5_triples_25 : decode cX5_triples 25 = .ok (.bipush 6, 2) := by decide +kernel
theorem dX5_triples_27 : decode cX5_triples 27 = .ok (.irem, 1) := by decide +kernel
theorem dX5_triples_28 : decode cX5_triples 28 = .ok (.iload_n 1, 1) := by decide +kernel
theorem dX5_triples_29 : decode cX5_triples 29 = .ok (.iload_n 2, 1) := by decide +kernel
theorem dX5_triples_30 : decode cX5_triples 30 = .ok (.iload_n 3, 1) := by decide +kernel
theorem dX5_triples_31 : decode cX5_triples 31 = .ok (.invokevirtual 54, 3) := by decide +kernel
theorem dX5_triples_34 : decode cX5_triples 34 = .ok (.isub, 1) := by decide +kernel
theorem dX5_triples_35 : decode cX5_triples 35 = .ok (.iadd, 1) := by decide +kernel
theorem dX5_triples_36 : decode cX5_triples 36 = .ok (.istore 4, 2) := by decide +kernel
theorem dX5_triples_38 : decode cX5_triples 38 = .ok (.iinc 5 1, 3) := by decide +kernel
theorem dX5_triples_41 : decode cX5_triples 41 = .ok (.goto (-35), 3) := by decide +kernel
theorem dX5_triples_44 : decode cX5_triples 44 = .ok (.iload 4, 2) := by decide +kernel
theorem dX5_triples_46 : decode cX5_triples 46 = .ok (.ireturn, 1) := by decide +kernel
set_option maxRecDepth 20000 in
theorem ggX5_triplesNow_X5_triples : GoodIn wsX5_triplesNow wsX5_triples := goodIn_r _ [5, 6, 7, 8, 4, 9, 10, 11, 12, 13, 14, 15, 16, 17, 18, 19, 20, 21, 22, 23, 24, 25, 26, 27, 28, 29, 30, 31, 32, 33, 34, 35, 36, 37, 38, 39] (by decide +kernel) (by decide +kernel)
set_option maxRecDepth 20000 in
theorem gX5_triplesNow_X5_triples : GoodIn wsX5_triplesNow (wsV RX5 61 RX5 yX5_triples wsX5_triples) := goodIn_app (goodIn_of _ (by decide +kernel)) ggX5_triplesNow_X5_triples
theorem dX5_triplesNow_0 : decode cX5_triplesNow 0 = .ok (.aload_n 0, 1) := by decide +kernel
theorem dX5_triplesNow_1 : decode cX5_triplesNow 1 = .ok (.bipush (-6), 2) := by decide +kernel
theorem dX5_triplesNow_3 : decode cX5_triplesNow 3 = .ok (.bipush (-6), 2) := by decide +kernel
theorem dX5_triplesNow_5 : decode cX5_triplesNow 5 = .ok (.iconst 0, 1) := by decide +kernel
theorem dX5_triplesNow_6 : decode cX5_triplesNow 6 = .ok (.invokevirtual 61, 3) := by decide +kernel
theorem dX5_triplesNow_9 : decode cX5_triplesNow 9 = .ok (.ireturn, 1) := by decide +kernel
set_option maxRecDepth 20000 in
theorem ggX5_isIdle_X5_leastNow : GoodIn wsX5_isIdle wsX5_leastNow := goodIn_r _ [5, 6, 7, 8, 4, 9, 10, 11, 12, 13, 14, 15, 16, 17, 18, 19, 20, 21, 22, 23, 24, 25, 26, 27, 28, 29, 30, 31, 32, 33, 34, 35, 36, 37, 38, 39] (by decide +kernel) (by decide +kernel)
set_option maxRecDepth 20000 in
theorem gX5_isIdle_X5_leastNow : GoodIn wsX5_isIdle (wsV RX5 58 RX5 yX5_leastNow wsX5_leastNow) := goodIn_app (goodIn_of _ (by decide +kernel)) ggX5_isIdle_X5_leastNow
set_option maxRecDepth 20000 in
theorem ggX5_isIdle_X5_least : GoodIn wsX5_isIdle wsX5_least := goodIn_r _ [9, 10, 11, 12, 13, 14, 4, 15, 16, 17, 18, 19, 20, 21, 22, 23, 24, 25, 26, 27, 28, 29, 30, 31, 32, 33, 34, 35, 36, 37, 38, 39] (by decide +kernel) (by decide +kernel)
set_option maxRecDepth 20000 in
theorem gX5_isIdle_X5_least : GoodIn wsX5_isIdle (wsV RX5 54 RX5 yX5_least wsX5_least) := goodIn_app (goodIn_of _ (by decide +kernel)) ggX5_isIdle_X5_least
theorem dX5_isIdle_0 : decode cX5_isIdle 0 = .ok (.iconst 1, 1) := by decide +kernel
theorem dX5_isIdle_1 : decode cX5_isIdle 1 = .ok (.istore_n 2, 1) := by decide +kernel
theorem dX5_isIdle_2 : decode cX5_isIdle 2 = .ok (.iconst 0, 1) := by decide +kernel
theorem dX5_isIdle_3 : decode cX5_isIdle 3 = .ok (.istore_n 3, 1) := by decide +kernel
theorem dX5_isIdle_4 : decode cX5_isIdle 4 = .ok (.iload_n 3, 1) := by decide +kernel
theorem dX5_isIdle_5 : decode cX5_isIdle 5 = .ok (.bipush 30, 2) := by decide +kernel
theorem dX5_isIdle_7 : decode cX5_isIdle 7 = .ok (.if_icmp .ge 50, 3) := by decide +kernel
theorem dX5_isIdle_10 : decode cX5_isIdle 10 = .ok (.iload_n 2, 1) := by decide +kernel
theorem dX5_isIdle_11 : decode cX5_isIdle 11 = .ok (.ifCond .eq 46, 3) := by decide +kernel
theorem dX5_isIdle_14 : decode cX5_isIdle 14 = .ok (.aload_n 0, 1) := by decide +kernel
theorem dX5_isIdle_15 : decode cX5_isIdle 15 = .ok (.iload_n 3, 1) := by decide +kernel
theorem dX5_isIdle_16 : decode cX5_isIdle 16 = .ok (.bipush 6, 2) := by decide +kernel
theorem dX5_isIdle_18 : decode cX5_isIdle 18 = .ok (.idiv, 1) := by decide +kernel
theorem dX5_isIdle_19 : decode cX5_isIdle 19 = .ok (.iload_n 3, 1) := by decide +kernel
theorem dX5_isIdle_20 : decode cX5_isIdle 20 = .ok (.bipush 6, 2) := by decide +kernel
theorem dX5_isIdle_22 : decode cX5_isIdle 22 = .ok (.irem, 1) := by decide +kernel
theorem dX5_isIdle_23 : decode cX5_isIdle 23 = .ok (.invokevirtual 58, 3) := by decide +kernel
theorem dX5_isIdle_26 : decode cX5_isIdle 26 = .ok (.aload_n 0, 1) := by decide +kernel
theorem dX5_isIdle_27 : decode cX5_isIdle 27 = .ok (.iload_n 3, 1) := by decide +kernel
theorem dX5_isIdle_28 : decode cX5_isIdle 28 = .ok (.bipush 6, 2) := by decide +kernel
theorem dX5_isIdle_30 : decode cX5_isIdle 30 = .ok (.idiv, 1) := by decide +kernel
theorem dX5_isIdle_31 : decode cX5_isIdle 31 = .ok (.iload_n 3, 1) := by decide +kernel
theorem dX5_isIdle_32 : decode cX5_isIdle 32 = .ok (.bipush 6, 2) := by decide +kernel
theorem dX5_isIdle_34 : decode cX5_isIdle 34 = .ok (.irem, 1) := by decide +kernel
theorem dX5_isIdle_35 : decode cX5_isIdle 35 = .ok (.iload_n 1, 1) := by decide +kernel
theorem dX5_isIdle_36 : decode cX5_isIdle 36 = .ok (.bipush (-6), 2) := by decide +kernel
theorem dX5_isIdle_38 : decode cX5_isIdle 38 = .ok (.iconst 0, 1) := by decide +kernel
theorem dX5_isIdle_39 : decode cX5_isIdle 39 = .ok (.invokevirtual 54, 3) := by decide +kernel
theorem dX5_isIdle_42 : decode cX5_isIdle 42 = .ok (.if_icmp .ne 7, 3) := by decide +kernel
theorem dX5_isIdle_45 : decode cX5_isIdle 45 = .ok (.iconst 1, 1) := by decide +kernel
theorem dX5_isIdle_46 : decode cX5_isIdle 46 = .ok (.goto 4, 3) := by decide +kernel
theorem dX5_isIdle_49 : decode cX5_isIdle 49 = .ok (.iconst 0, 1) := by decide +kernel
theorem dX5_isIdle_50 : decode cX5_isIdle 50 = .ok (.istore_n 2, 1) := by decide +kernel
theorem dX5_isIdle_51 : decode cX5_isIdle 51 = .ok (.iinc 3 1, 3) := by decide +kernel
theorem dX5_isIdle_54 : decode cX5_isIdle 54 = .ok (.goto (-50), 3) := by decide +kernel
theorem dX5_isIdle_57 : decode cX5_isIdle 57 = .ok (.iload_n 2, 1) := by decide +kernel
theorem dX5_isIdle_58 : decode cX5_isIdle 58 = .ok (.ireturn, 1) := by decide +kernel
set_option maxRecDepth 20000 in
theorem ggX5_areAtOdds_X5_of : GoodIn wsX5_areAtOdds wsX5_of := goodIn_r _ [5, 6, 7, 8, 4, 9, 10, 11, 12, 13, 14, 15, 16, 17, 18] (by decide +kernel) (by decide +kernel)
set_option maxRecDepth 20000 in
theorem gX5_areAtOdds_X5_of : GoodIn wsX5_areAtOdds (wsV RX5 41 RX5 yX5_of wsX5_of) := goodIn_app (goodIn_of _ (by decide +kernel)) ggX5_areAtOdds_X5_of
theorem dX5_areAtOdds_0 : decode cX5_areAtOdds 0 = .ok (.aload_n 0, 1) := by decide +kernel
theorem dX5_areAtOdds_1 : decode cX5_areAtOdds 1 = .ok (.iload_n 1, 1) := by decide +kernel
theorem dX5_areAtOdds_2 : decode cX5_areAtOdds 2 = .ok (.iconst 2, 1) := by decide +kernel
theorem dX5_areAtOdds_3 : decode cX5_areAtOdds 3 = .ok (.invokevirtual 41, 3) := by decide +kernel
theorem dX5_areAtOdds_6 : decode cX5_areAtOdds 6 = .ok (.aload_n 0, 1) := by decide +kernel
theorem dX5_areAtOdds_7 : decode cX5_areAtOdds 7 = .ok (.iload_n 2, 1) := by decide +kernel
theorem dX5_areAtOdds_8 : decode cX5_areAtOdds 8 = .ok (.iconst 2, 1) := by decide +kernel
theorem dX5_areAtOdds_9 : decode cX5_areAtOdds 9 = .ok (.invokevirtual 41, 3) := by decide +kernel
theorem dX5_areAtOdds_12 : decode cX5_areAtOdds 12 = .ok (.if_icmp .eq 23, 3) := by decide +kernel
theorem dX5_areAtOdds_15 : decode cX5_areAtOdds 15 = .ok (.aload_n 0, 1) := by decide +kernel
theorem dX5_areAtOdds_16 : decode cX5_areAtOdds 16 = .ok (.iload_n 1, 1) := by decide +kernel
theorem dX5_areAtOdds_17 : decode cX5_areAtOdds 17 = .ok (.iconst 2, 1) := by decide +kernel
theorem dX5_areAtOdds_18 : decode cX5_areAtOdds 18 = .ok (.invokevirtual 41, 3) := by decide +kernel
theorem dX5_areAtOdds_21 : decode cX5_areAtOdds 21 = .ok (.iconst 5, 1) := by decide +kernel
theorem dX5_areAtOdds_22 : decode cX5_areAtOdds 22 = .ok (.if_icmp .eq 13, 3) := by decide +kernel
theorem dX5_areAtOdds_25 : decode cX5_areAtOdds 25 = .ok (.aload_n 0, 1) := by decide +kernel
theorem dX5_areAtOdds_26 : decode cX5_areAtOdds 26 = .ok (.iload_n 2, 1) := by decide +kernel
theorem dX5_areAtOdds_27 : decode cX5_areAtOdds 27 = .ok (.iconst 2, 1) := by decide +kernel
theorem dX5_areAtOdds_28 : decode cX5_areAtOdds 28 = .ok (.invokevirtual 41, 3) := by decide +kernel
theorem dX5_areAtOdds_31 : decode cX5_areAtOdds 31 = .ok (.iconst 5, 1) := by decide +kernel
theorem dX5_areAtOdds_32 : decode cX5_areAtOdds 32 = .ok (.if_icmp .ne 7, 3) := by decide +kernel
theorem dX5_areAtOdds_35 : decode cX5_areAtOdds 35 = .ok (.iconst 1, 1) := by decide +kernel
theorem dX5_areAtOdds_36 : decode cX5_areAtOdds 36 = .ok (.goto 4, 3) := by decide +kernel
theorem dX5_areAtOdds_39 : decode cX5_areAtOdds 39 = .ok (.iconst 0, 1) := by decide +kernel
theorem dX5_areAtOdds_40 : decode cX5_areAtOdds 40 = .ok (.istore_n 3, 1) := by decide +kernel
theorem dX5_areAtOdds_41 : decode cX5_areAtOdds 41 = .ok (.aload_n 0, 1) := by decide +kernel
theorem dX5_areAtOdds_42 : decode cX5_areAtOdds 42 = .ok (.iload_n 1, 1) := by decide +kernel
theorem dX5_areAtOdds_43 : decode cX5_areAtOdds 43 = .ok (.iconst 3, 1) := by decide +kernel
theorem dX5_areAtOdds_44 : decode cX5_areAtOdds 44 = .ok (.invokevirtual 41, 3) := by decide +kernel
theorem dX5_areAtOdds_47 : decode cX5_areAtOdds 47 = .ok (.aload_n 0, 1) := by decide +kernel
theorem dX5_areAtOdds_48 : decode cX5_areAtOdds 48 = .ok (.iload_n 2, 1) := by decide +kernel
theorem dX5_areAtOdds_49 : decode cX5_areAtOdds 49 = .ok (.iconst 3, 1) := by decide +kernel
theorem dX5_areAtOdds_50 : decode cX5_areAtOdds 50 = .ok (.invokevirtual 41, 3) := by decide +kernel
theorem dX5_areAtOdds_53 : decode cX5_areAtOdds 53 = .ok (.if_icmp .eq 25, 3) := by decide +kernel
theorem dX5_areAtOdds_56 : decode cX5_areAtOdds 56 = .ok (.aload_n 0, 1) := by decide +kernel
theorem dX5_areAtOdds_57 : decode cX5_areAtOdds 57 = .ok (.iload_n 1, 1) := by decide +kernel
theorem dX5_areAtOdds_58 : decode cX5_areAtOdds 58 = .ok (.iconst 3, 1) := by decide +kernel
theorem dX5_areAtOdds_59 : decode cX5_areAtOdds 59 = .ok (.invokevirtual 41, 3) := by decide +kernel
theorem dX5_areAtOdds_62 : decode cX5_areAtOdds 62 = .ok (.bipush 6, 2) := by decide +kernel
theorem dX5_areAtOdds_64 : decode cX5_areAtOdds 64 = .ok (.if_icmp .eq 14, 3) := by decide +kernel
theorem dX5_areAtOdds_67 : decode cX5_areAtOdds 67 = .ok (.aload_n 0, 1) := by decide +kernel
theorem dX5_areAtOdds_68 : decode cX5_areAtOdds 68 = .ok (.iload_n 2, 1) := by decide +kernel
theorem dX5_areAtOdds_69 : decode cX5_areAtOdds 69 = .ok (.iconst 3, 1) := by decide +kernel
theorem dX5_areAtOdds_70 : decode cX5_areAtOdds 70 = .ok (.invokevirtual 41, 3) := by decide +kernel
theorem dX5_areAtOdds_73 : decode cX5_areAtOdds 73 = .ok (.bipush 6, 2) := by decide +kernel
theorem dX5_areAtOdds_75 : decode cX5_areAtOdds 75 = .ok (.if_icmp .ne 7, 3) := by decide +kernel
theorem dX5_areAtOdds_78 : decode cX5_areAtOdds 78 = .ok (.iconst 1, 1) := by decide +kernel
theorem dX5_areAtOdds_79 : decode cX5_areAtOdds 79 = .ok (.goto 4, 3) := by decide +kernel
theorem dX5_areAtOdds_82 : decode cX5_areAtOdds 82 = .ok (.iconst 0, 1) := by decide +kernel
theorem dX5_areAtOdds_83 : decode cX5_areAtOdds 83 = .ok (.istore 4, 2) := by decide +kernel
theorem dX5_areAtOdds_85 : decode cX5_areAtOdds 85 = .ok (.iload_n 3, 1) := by decide +kernel
theorem dX5_areAtOdds_86 : decode cX5_areAtOdds 86 = .ok (.ifCond .eq 45, 3) := by decide +kernel
theorem dX5_areAtOdds_89 : decode cX5_areAtOdds 89 = .ok (.iload 4, 2) := by decide +kernel
theorem dX5_areAtOdds_91 : decode cX5_areAtOdds 91 = .ok (.ifCond .eq 40, 3) := by decide +kernel
theorem dX5_areAtOdds_94 : decode cX5_areAtOdds 94 = .ok (.aload_n 0, 1) := by decide +kernel
theorem dX5_areAtOdds_95 : decode cX5_areAtOdds 95 = .ok (.iload_n 1, 1) := by decide +kernel
theorem dX5_areAtOdds_96 : decode cX5_areAtOdds 96 = .ok (.iconst 1, 1) := by decide +kernel
theorem dX5_areAtOdds_97 : decode cX5_areAtOdds 97 = .ok (.invokevirtual 41, 3) := by decide +kernel
theorem dX5_areAtOdds_100 : decode cX5_areAtOdds 100 = .ok (.iconst 1, 1) := by decide +kernel
theorem dX5_areAtOdds_101 : decode cX5_areAtOdds 101 = .ok (.if_icmp .ne 7, 3) := by decide +kernel
theorem dX5_areAtOdds_104 : decode cX5_areAtOdds 104 = .ok (.iconst 1, 1) := by decide +kernel
theorem dX5_areAtOdds_105 : decode cX5_areAtOdds 105 = .ok (.goto 4, 3) := by decide +kernel
theorem dX5_areAtOdds_108 : decode cX5_areAtOdds 108 = .ok (.iconst 0, 1) := by decide +kernel
theorem dX5_areAtOdds_109 : decode cX5_areAtOdds 109 = .ok (.aload_n 0, 1) := by decide +kernel
theorem dX5_areAtOdds_110 : decode cX5_areAtOdds 110 = .ok (.iload_n 2, 1) := by decide +kernel
theorem dX5_areAtOdds_111 : decode cX5_areAtOdds 111 = .ok (.iconst 1, 1) := by decide +kernel
theorem dX5_areAtOdds_112 : decode cX5_areAtOdds 112 = .ok (.invokevirtual 41, 3) := by decide +kernel
theorem dX5_areAtOdds_115 : decode cX5_areAtOdds 115 = .ok (.iconst 1, 1) := by decide +kernel
theorem dX5_areAtOdds_116 : decode cX5_areAtOdds 116 = .ok (.if_icmp .ne 7, 3) := by decide +kernel
theorem dX5_areAtOdds_119 : decode cX5_areAtOdds 119 = .ok (.iconst 1, 1) := by decide +kernel
theorem dX5_areAtOdds_120 : decode cX5_areAtOdds 120 = .ok (.goto 4, 3) := by decide +kernel
theorem dX5_areAtOdds_123 : decode cX5_areAtOdds 123 = .ok (.iconst 0, 1) := by decide +kernel
theorem dX5_areAtOdds_124 : decode cX5_areAtOdds 124 = .ok (.if_icmp .eq 7, 3) := by decide +kernel
theorem dX5_areAtOdds_127 : decode cX5_areAtOdds 127 = .ok (.iconst 1, 1) := by decide +kernel
theorem dX5_areAtOdds_128 : decode cX5_areAtOdds 128 = .ok (.goto 4, 3) := by decide +kernel
theorem dX5_areAtOdds_131 : decode cX5_areAtOdds 131 = .ok (.iconst 0, 1) := by decide +kernel
theorem dX5_areAtOdds_132 : decode cX5_areAtOdds 132 = .ok (.ireturn, 1) := by decide +kernel
set_option maxRecDepth 20000 in
theorem ggX5_adds_X5_at : GoodIn wsX5_adds wsX5_at := goodIn_r _ [5] (by decide +kernel) (by decide +kernel)
set_option maxRecDepth 20000 in
theorem gX5_adds_X5_at : GoodIn wsX5_adds (va_wsS RX5 33 yX5_at wsX5_at) := goodIn_app (goodIn_of _ (by decide +kernel)) ggX5_adds_X5_at
theorem dX5_adds_0 : decode cX5_adds 0 = .ok (.aload_n 0, 1) := by decide +kernel
theorem dX5_adds_1 : decode cX5_adds 1 = .ok (.getfield 7, 3) := by decide +kernel
theorem dX5_adds_4 : decode cX5_adds 4 = .ok (.iconst 0, 1) := by decide +kernel
theorem dX5_adds_5 : decode cX5_adds 5 = .ok (.iaload, 1) := by decide +kernel
theorem dX5_adds_6 : decode cX5_adds 6 = .ok (.istore 6, 2) := by decide +kernel
theorem dX5_adds_8 : decode cX5_adds 8 = .ok (.aload_n 0, 1) := by decide +kernel
theorem dX5_adds_9 : decode cX5_adds 9 = .ok (.getfield 7, 3) := by decide +kernel
theorem dX5_adds_12 : decode cX5_adds 12 = .ok (.iconst 0, 1) := by decide +kernel
theorem dX5_adds_13 : decode cX5_adds 13 = .ok (.dup2, 1) := by decide +kernel
theorem dX5_adds_14 : decode cX5_adds 14 = .ok (.iaload, 1) := by decide +kernel
theorem dX5_adds_15 : decode cX5_adds 15 = .ok (.iconst 1, 1) := by decide +kernel
theorem dX5_adds_16 : decode cX5_adds 16 = .ok (.iadd, 1) := by decide +kernel
theorem dX5_adds_17 : decode cX5_adds 17 = .ok (.iastore, 1) := by decide +kernel
theorem dX5_adds_18 : decode cX5_adds 18 = .ok (.aload_n 0, 1) := by decide +kernel
theorem dX5_adds_19 : decode cX5_adds 19 = .ok (.getfield 7, 3) := by decide +kernel
theorem dX5_adds_22 : decode cX5_adds 22 = .ok (.iload 6, 2) := by decide +kernel
theorem dX5_adds_24 : decode cX5_adds 24 = .ok (.iconst 0, 1) := by decide +kernel
theorem dX5_adds_25 : decode cX5_adds 25 = .ok (.invokestatic 33, 3) := by decide +kernel
theorem dX5_adds_28 : decode cX5_adds 28 = .ok (.iload_n 1, 1) := by decide +kernel
theorem dX5_adds_29 : decode cX5_adds 29 = .ok (.iastore, 1) := by decide +kernel
theorem dX5_adds_30 : decode cX5_adds 30 = .ok (.aload_n 0, 1) := by decide +kernel
theorem dX5_adds_31 : decode cX5_adds 31 = .ok (.getfield 7, 3) := by decide +kernel
theorem dX5_adds_34 : decode cX5_adds 34 = .ok (.iload 6, 2) := by decide +kernel
theorem dX5_adds_36 : decode cX5_adds 36 = .ok (.iconst 1, 1) := by decide +kernel
theorem dX5_adds_37 : decode cX5_adds 37 = .ok (.invokestatic 33, 3) := by decide +kernel
theorem dX5_adds_40 : decode cX5_adds 40 = .ok (.iload_n 2, 1) := by decide +kernel
theorem dX5_adds_41 : decode cX5_adds 41 = .ok (.iastore, 1) := by decide +kernel
theorem dX5_adds_42 : decode cX5_adds 42 = .ok (.aload_n 0, 1) := by decide +kernel
theorem dX5_adds_43 : decode cX5_adds 43 = .ok (.getfield 7, 3) := by decide +kernel
theorem dX5_adds_46 : decode cX5_adds 46 = .ok (.iload 6, 2) := by decide +kernel
theorem dX5_adds_48 : decode cX5_adds 48 = .ok (.iconst 2, 1) := by decide +kernel
theorem dX5_adds_49 : decode cX5_adds 49 = .ok (.invokestatic 33, 3) := by decide +kernel
theorem dX5_adds_52 : decode cX5_adds 52 = .ok (.iload_n 3, 1) := by decide +kernel
theorem dX5_adds_53 : decode cX5_adds 53 = .ok (.iastore, 1) := by decide +kernel
theorem dX5_adds_54 : decode cX5_adds 54 = .ok (.aload_n 0, 1) := by decide +kernel
theorem dX5_adds_55 : decode cX5_adds 55 = .ok (.getfield 7, 3) := by decide +kernel
theorem dX5_adds_58 : decode cX5_adds 58 = .ok (.iload 6, 2) := by decide +kernel
theorem dX5_adds_60 : decode cX5_adds 60 = .ok (.iconst 3, 1) := by decide +kernel
theorem dX5_adds_61 : decode cX5_adds 61 = .ok (.invokestatic 33, 3) := by decide +kernel
theorem dX5_adds_64 : decode cX5_adds 64 = .ok (.iload 4, 2) := by decide +kernel
theorem dX5_adds_66 : decode cX5_adds 66 = .ok (.iastore, 1) := by decide +kernel
theorem dX5_adds_67 : decode cX5_adds 67 = .ok (.aload_n 0, 1) := by decide +kernel
theorem dX5_adds_68 : decode cX5_adds 68 = .ok (.getfield 7, 3) := by decide +kernel
theorem dX5_adds_71 : decode cX5_adds 71 = .ok (.iload 6, 2) := by decide +kernel
theorem dX5_adds_73 : decode cX5_adds 73 = .ok (.iconst 4, 1) := by decide +kernel
theorem dX5_adds_74 : decode cX5_adds 74 = .ok (.invokestatic 33, 3) := by decide +kernel
theorem dX5_adds_77 : decode cX5_adds 77 = .ok (.iload 5, 2) := by decide +kernel
theorem dX5_adds_79 : decode cX5_adds 79 = .ok (.iastore, 1) := by decide +kernel
theorem dX5_adds_80 : decode cX5_adds 80 = .ok (.iload 6, 2) := by decide +kernel
theorem dX5_adds_82 : decode cX5_adds 82 = .ok (.ireturn, 1) := by decide +kernel
set_option maxRecDepth 20000 in
theorem ggX5_strikes_X5_at : GoodIn wsX5_strikes wsX5_at := goodIn_r _ [5] (by decide +kernel) (by decide +kernel)
set_option maxRecDepth 20000 in
theorem gX5_strikes_X5_at : GoodIn wsX5_strikes (va_wsS RX5 33 yX5_at wsX5_at) := goodIn_app (goodIn_of _ (by decide +kernel)) ggX5_strikes_X5_at
theorem dX5_strikes_0 : decode cX5_strikes 0 = .ok (.aload_n 0, 1) := by decide +kernel
theorem dX5_strikes_1 : decode cX5_strikes 1 = .ok (.getfield 7, 3) := by decide +kernel
theorem dX5_strikes_4 : decode cX5_strikes 4 = .ok (.iconst 0, 1) := by decide +kernel
theorem dX5_strikes_5 : decode cX5_strikes 5 = .ok (.dup2, 1) := by decide +kernel
theorem dX5_strikes_6 : decode cX5_strikes 6 = .ok (.iaload, 1) := by decide +kernel
theorem dX5_strikes_7 : decode cX5_strikes 7 = .ok (.iconst 1, 1) := by decide +kernel
theorem dX5_strikes_8 : decode cX5_strikes 8 = .ok (.isub, 1) := by decide +kernel
theorem dX5_strikes_9 : decode cX5_strikes 9 = .ok (.iastore, 1) := by decide +kernel
theorem dX5_strikes_10 : decode cX5_strikes 10 = .ok (.iload_n 1, 1) := by decide +kernel
theorem dX5_strikes_11 : decode cX5_strikes 11 = .ok (.iconst 0, 1) := by decide +kernel
theorem dX5_strikes_12 : decode cX5_strikes 12 = .ok (.invokestatic 33, 3) := by decide +kernel
theorem dX5_strikes_15 : decode cX5_strikes 15 = .ok (.istore_n 2, 1) := by decide +kernel
theorem dX5_strikes_16 : decode cX5_strikes 16 = .ok (.iload_n 2, 1) := by decide +kernel
theorem dX5_strikes_17 : decode cX5_strikes 17 = .ok (.aload_n 0, 1) := by decide +kernel
theorem dX5_strikes_18 : decode cX5_strikes 18 = .ok (.getfield 7, 3) := by decide +kernel
theorem dX5_strikes_21 : decode cX5_strikes 21 = .ok (.iconst 0, 1) := by decide +kernel
theorem dX5_strikes_22 : decode cX5_strikes 22 = .ok (.iaload, 1) := by decide +kernel
theorem dX5_strikes_23 : decode cX5_strikes 23 = .ok (.iconst 0, 1) := by decide +kernel
theorem dX5_strikes_24 : decode cX5_strikes 24 = .ok (.invokestatic 33, 3) := by decide +kernel
theorem dX5_strikes_27 : decode cX5_strikes 27 = .ok (.if_icmp .ge 23, 3) := by decide +kernel
theorem dX5_strikes_30 : decode cX5_strikes 30 = .ok (.aload_n 0, 1) := by decide +kernel
theorem dX5_strikes_31 : decode cX5_strikes 31 = .ok (.getfield 7, 3) := by decide +kernel
theorem dX5_strikes_34 : decode cX5_strikes 34 = .ok (.iload_n 2, 1) := by decide +kernel
theorem dX5_strikes_35 : decode cX5_strikes 35 = .ok (.aload_n 0, 1) := by decide +kernel
theorem dX5_strikes_36 : decode cX5_strikes 36 = .ok (.getfield 7, 3) := by decide +kernel
theorem dX5_strikes_39 : decode cX5_strikes 39 = .ok (.iload_n 2, 1) := by decide +kernel
theorem dX5_strikes_40 : decode cX5_strikes 40 = .ok (.iconst 5, 1) := by decide +kernel
theorem dX5_strikes_41 : decode cX5_strikes 41 = .ok (.iadd, 1) := by decide +kernel
theorem dX5_strikes_42 : decode cX5_strikes 42 = .ok (.iaload, 1) := by decide +kernel
theorem dX5_strikes_43 : decode cX5_strikes 43 = .ok (.iastore, 1) := by decide +kernel
theorem dX5_strikes_44 : decode cX5_strikes 44 = .ok (.iinc 2 1, 3) := by decide +kernel
theorem dX5_strikes_47 : decode cX5_strikes 47 = .ok (.goto (-31), 3) := by decide +kernel
theorem dX5_strikes_50 : decode cX5_strikes 50 = .ok (.iconst 0, 1) := by decide +kernel
theorem dX5_strikes_51 : decode cX5_strikes 51 = .ok (.istore_n 2, 1) := by decide +kernel
theorem dX5_strikes_52 : decode cX5_strikes 52 = .ok (.iload_n 2, 1) := by decide +kernel
theorem dX5_strikes_53 : decode cX5_strikes 53 = .ok (.iconst 5, 1) := by decide +kernel
theorem dX5_strikes_54 : decode cX5_strikes 54 = .ok (.if_icmp .ge 25, 3) := by decide +kernel
theorem dX5_strikes_57 : decode cX5_strikes 57 = .ok (.aload_n 0, 1) := by decide +kernel
theorem dX5_strikes_58 : decode cX5_strikes 58 = .ok (.getfield 7, 3) := by decide +kernel
theorem dX5_strikes_61 : decode cX5_strikes 61 = .ok (.aload_n 0, 1) := by decide +kernel
theorem dX5_strikes_62 : decode cX5_strikes 62 = .ok (.getfield 7, 3) := by decide +kernel
theorem dX5_strikes_65 : decode cX5_strikes 65 = .ok (.iconst 0, 1) := by decide +kernel
theorem dX5_strikes_66 : decode cX5_strikes 66 = .ok (.iaload, 1) := by decide +kernel
theorem dX5_strikes_67 : decode cX5_strikes 67 = .ok (.iload_n 2, 1) := by decide +kernel
theorem dX5_strikes_68 : decode cX5_strikes 68 = .ok (.invokestatic 33, 3) := by decide +kernel
theorem dX5_strikes_71 : decode cX5_strikes 71 = .ok (.iconst 0, 1) := by decide +kernel
theorem dX5_strikes_72 : decode cX5_strikes 72 = .ok (.iastore, 1) := by decide +kernel
theorem dX5_strikes_73 : decode cX5_strikes 73 = .ok (.iinc 2 1, 3) := by decide +kernel
theorem dX5_strikes_76 : decode cX5_strikes 76 = .ok (.goto (-24), 3) := by decide +kernel
theorem dX5_strikes_79 : decode cX5_strikes 79 = .ok (.return_, 1) := by decide +kernel
set_option maxRecDepth 20000 in
theorem ggX5_add_X5_in : GoodIn wsX5_add wsX5_in := goodIn_r _ [5] (by decide +kernel) (by decide +kernel)
set_option maxRecDepth 20000 in
theorem gX5_add_X5_in : GoodIn wsX5_add (va_wsS RX5 29 yX5_in wsX5_in) := goodIn_app (goodIn_of _ (by decide +kernel)) ggX5_add_X5_in
set_option maxRecDepth 20000 in
theorem ggX5_add_X5_record : GoodIn wsX5_add wsX5_record := goodIn_r _ [9, 10, 11, 1, 19, 20, 21, 22, 23, 24, 25, 26, 27] (by decide +kernel) (by decide +kernel)
set_option maxRecDepth 20000 in
theorem gX5_add_X5_record : GoodIn wsX5_add (wsV RX5 65 RX5 yX5_record wsX5_record) := goodIn_app (goodIn_of _ (by decide +kernel)) ggX5_add_X5_record
set_option maxRecDepth 20000 in
theorem ggX5_add_X5_adds : GoodIn wsX5_add wsX5_adds := goodIn_r _ [15, 1, 16, 17, 4, 18, 19, 20, 21, 22, 23, 24, 25, 26, 27] (by decide +kernel) (by decide +kernel)
set_option maxRecDepth 20000 in
theorem gX5_add_X5_adds : GoodIn wsX5_add (wsV RX5 68 RX5 yX5_adds wsX5_adds) := goodIn_app (goodIn_of _ (by decide +kernel)) ggX5_add_X5_adds
theorem dX5_add_0 : decode cX5_add 0 = .ok (.iload_n 1, 1) := by decide +kernel
theorem dX5_add_1 : decode cX5_add 1 = .ok (.iconst 0, 1) := by decide +kernel
theorem dX5_add_2 : decode cX5_add 2 = .ok (.iconst 4, 1) := by decide +kernel
theorem dX5_add_3 : decode cX5_add 3 = .ok (.invokestatic 29, 3) := by decide +kernel
theorem dX5_add_6 : decode cX5_add 6 = .ok (.ifCond .eq 23, 3) := by decide +kernel
theorem dX5_add_9 : decode cX5_add 9 = .ok (.iload_n 3, 1) := by decide +kernel
theorem dX5_add_10 : decode cX5_add 10 = .ok (.iconst 0, 1) := by decide +kernel
theorem dX5_add_11 : decode cX5_add 11 = .ok (.iconst 5, 1) := by decide +kernel
theorem dX5_add_12 : decode cX5_add 12 = .ok (.invokestatic 29, 3) := by decide +kernel
theorem dX5_add_15 : decode cX5_add 15 = .ok (.ifCond .eq 14, 3) := by decide +kernel
theorem dX5_add_18 : decode cX5_add 18 = .ok (.iload 4, 2) := by decide +kernel
theorem dX5_add_20 : decode cX5_add 20 = .ok (.iconst 0, 1) := by decide +kernel
theorem dX5_add_21 : decode cX5_add 21 = .ok (.bipush 6, 2) := by decide +kernel
theorem dX5_add_23 : decode cX5_add 23 = .ok (.invokestatic 29, 3) := by decide +kernel
theorem dX5_add_26 : decode cX5_add 26 = .ok (.ifCond .ne 5, 3) := by decide +kernel
theorem dX5_add_29 : decode cX5_add 29 = .ok (.iconst (-1), 1) := by decide +kernel
theorem dX5_add_30 : decode cX5_add 30 = .ok (.ireturn, 1) := by decide +kernel
theorem dX5_add_31 : decode cX5_add 31 = .ok (.iload_n 2, 1) := by decide +kernel
theorem dX5_add_32 : decode cX5_add 32 = .ok (.iconst 0, 1) := by decide +kernel
theorem dX5_add_33 : decode cX5_add 33 = .ok (.iconst 2, 1) := by decide +kernel
theorem dX5_add_34 : decode cX5_add 34 = .ok (.invokestatic 29, 3) := by decide +kernel
theorem dX5_add_37 : decode cX5_add 37 = .ok (.ifCond .eq 14, 3) := by decide +kernel
theorem dX5_add_40 : decode cX5_add 40 = .ok (.iload 5, 2) := by decide +kernel
theorem dX5_add_42 : decode cX5_add 42 = .ok (.iconst 1, 1) := by decide +kernel
theorem dX5_add_43 : decode cX5_add 43 = .ok (.bipush 9, 2) := by decide +kernel
theorem dX5_add_45 : decode cX5_add 45 = .ok (.invokestatic 29, 3) := by decide +kernel
theorem dX5_add_48 : decode cX5_add 48 = .ok (.ifCond .ne 6, 3) := by decide +kernel
theorem dX5_add_51 : decode cX5_add 51 = .ok (.bipush (-2), 2) := by decide +kernel
theorem dX5_add_53 : decode cX5_add 53 = .ok (.ireturn, 1) := by decide +kernel
theorem dX5_add_54 : decode cX5_add 54 = .ok (.iload_n 2, 1) := by decide +kernel
theorem dX5_add_55 : decode cX5_add 55 = .ok (.ifCond .ne 10, 3) := by decide +kernel
theorem dX5_add_58 : decode cX5_add 58 = .ok (.iload_n 1, 1) := by decide +kernel
theorem dX5_add_59 : decode cX5_add 59 = .ok (.ifCond .le 6, 3) := by decide +kernel
theorem dX5_add_62 : decode cX5_add 62 = .ok (.bipush (-5), 2) := by decide +kernel
theorem dX5_add_64 : decode cX5_add 64 = .ok (.ireturn, 1) := by decide +kernel
theorem dX5_add_65 : decode cX5_add 65 = .ok (.aload_n 0, 1) := by decide +kernel
theorem dX5_add_66 : decode cX5_add 66 = .ok (.getfield 7, 3) := by decide +kernel
theorem dX5_add_69 : decode cX5_add 69 = .ok (.iconst 0, 1) := by decide +kernel
theorem dX5_add_70 : decode cX5_add 70 = .ok (.iaload, 1) := by decide +kernel
theorem dX5_add_71 : decode cX5_add 71 = .ok (.bipush 24, 2) := by decide +kernel
theorem dX5_add_73 : decode cX5_add 73 = .ok (.if_icmp .ne 6, 3) := by decide +kernel
theorem dX5_add_76 : decode cX5_add 76 = .ok (.bipush (-4), 2) := by decide +kernel
theorem dX5_add_78 : decode cX5_add 78 = .ok (.ireturn, 1) := by decide +kernel
theorem dX5_add_79 : decode cX5_add 79 = .ok (.aload_n 0, 1) := by decide +kernel
theorem dX5_add_80 : decode cX5_add 80 = .ok (.invokevirtual 65, 3) := by decide +kernel
theorem dX5_add_83 : decode cX5_add 83 = .ok (.aload_n 0, 1) := by decide +kernel
theorem dX5_add_84 : decode cX5_add 84 = .ok (.iload_n 1, 1) := by decide +kernel
theorem dX5_add_85 : decode cX5_add 85 = .ok (.iload_n 2, 1) := by decide +kernel
theorem dX5_add_86 : decode cX5_add 86 = .ok (.iload_n 3, 1) := by decide +kernel
theorem dX5_add_87 : decode cX5_add 87 = .ok (.iload 4, 2) := by decide +kernel
theorem dX5_add_89 : decode cX5_add 89 = .ok (.iload 5, 2) := by decide +kernel
theorem dX5_add_91 : decode cX5_add 91 = .ok (.invokevirtual 68, 3) := by decide +kernel
theorem dX5_add_94 : decode cX5_add 94 = .ok (.ireturn, 1) := by decide +kernel
set_option maxRecDepth 20000 in
theorem ggX5_strike_X5_isRule : GoodIn wsX5_strike wsX5_isRule := goodIn_r _ [6, 1, 7, 8, 5, 9, 23, 24, 25, 26, 27, 28, 29, 30, 31] (by decide +kernel) (by decide +kernel)
set_option maxRecDepth 20000 in
theorem gX5_strike_X5_isRule : GoodIn wsX5_strike (wsV RX5 71 RX5 yX5_isRule wsX5_isRule) := goodIn_app (goodIn_of _ (by decide +kernel)) ggX5_strike_X5_isRule
set_option maxRecDepth 20000 in
theorem ggX5_strike_X5_record : GoodIn wsX5_strike wsX5_record := goodIn_r _ [13, 14, 15, 1, 23, 24, 25, 26, 27, 28, 29, 30, 31] (by decide +kernel) (by decide +kernel)
set_option maxRecDepth 20000 in
theorem gX5_strike_X5_record : GoodIn wsX5_strike (wsV RX5 65 RX5 yX5_record wsX5_record) := goodIn_app (goodIn_of _ (by decide +kernel)) ggX5_strike_X5_record
set_option maxRecDepth 20000 in
theorem ggX5_strike_X5_strikes : GoodIn wsX5_strike wsX5_strikes := goodIn_r _ [19, 1, 20, 21, 5, 22, 23, 24, 25, 26, 27, 28, 29, 30, 31] (by decide +kernel) (by decide +kernel)
set_option maxRecDepth 20000 in
theorem gX5_strike_X5_strikes : GoodIn wsX5_strike (wsV RX5 75 RX5 yX5_strikes wsX5_strikes) := goodIn_app (goodIn_of _ (by decide +kernel)) ggX5_strike_X5_strikes
theorem dX5_strike_0 : decode cX5_strike 0 = .ok (.aload_n 0, 1) := by decide +kernel
theorem dX5_strike_1 : decode cX5_strike 1 = .ok (.iload_n 1, 1) := by decide +kernel
theorem dX5_strike_2 : decode cX5_strike 2 = .ok (.invokevirtual 71, 3) := by decide +kernel
theorem dX5_strike_5 : decode cX5_strike 5 = .ok (.ifCond .ne 5, 3) := by decide +kernel
theorem dX5_strike_8 : decode cX5_strike 8 = .ok (.iconst (-1), 1) := by decide +kernel
theorem dX5_strike_9 : decode cX5_strike 9 = .ok (.ireturn, 1) := by decide +kernel
theorem dX5_strike_10 : decode cX5_strike 10 = .ok (.aload_n 0, 1) := by decide +kernel
theorem dX5_strike_11 : decode cX5_strike 11 = .ok (.invokevirtual 65, 3) := by decide +kernel
theorem dX5_strike_14 : decode cX5_strike 14 = .ok (.aload_n 0, 1) := by decide +kernel
theorem dX5_strike_15 : decode cX5_strike 15 = .ok (.iload_n 1, 1) := by decide +kernel
theorem dX5_strike_16 : decode cX5_strike 16 = .ok (.invokevirtual 75, 3) := by decide +kernel
theorem dX5_strike_19 : decode cX5_strike 19 = .ok (.aload_n 0, 1) := by decide +kernel
theorem dX5_strike_20 : decode cX5_strike 20 = .ok (.getfield 7, 3) := by decide +kernel
theorem dX5_strike_23 : decode cX5_strike 23 = .ok (.iconst 0, 1) := by decide +kernel
theorem dX5_strike_24 : decode cX5_strike 24 = .ok (.iaload, 1) := by decide +kernel
theorem dX5_strike_25 : decode cX5_strike 25 = .ok (.ireturn, 1) := by decide +kernel
set_option maxRecDepth 20000 in
theorem ggX5_lays_X5_record : GoodIn wsX5_lays wsX5_record := goodIn_r _ [6, 7, 8, 1, 9, 10, 11, 12, 13, 14, 15, 16, 17] (by decide +kernel) (by decide +kernel)
set_option maxRecDepth 20000 in
theorem gX5_lays_X5_record : GoodIn wsX5_lays (wsV RX5 65 RX5 yX5_record wsX5_record) := goodIn_app (goodIn_of _ (by decide +kernel)) ggX5_lays_X5_record
theorem dX5_lays_0 : decode cX5_lays 0 = .ok (.aload_n 0, 1) := by decide +kernel
theorem dX5_lays_1 : decode cX5_lays 1 = .ok (.invokevirtual 65, 3) := by decide +kernel
theorem dX5_lays_4 : decode cX5_lays 4 = .ok (.aload_n 0, 1) := by decide +kernel
theorem dX5_lays_5 : decode cX5_lays 5 = .ok (.getfield 7, 3) := by decide +kernel
theorem dX5_lays_8 : decode cX5_lays 8 = .ok (.iload_n 1, 1) := by decide +kernel
theorem dX5_lays_9 : decode cX5_lays 9 = .ok (.iaload, 1) := by decide +kernel
theorem dX5_lays_10 : decode cX5_lays 10 = .ok (.istore_n 3, 1) := by decide +kernel
theorem dX5_lays_11 : decode cX5_lays 11 = .ok (.aload_n 0, 1) := by decide +kernel
theorem dX5_lays_12 : decode cX5_lays 12 = .ok (.getfield 7, 3) := by decide +kernel
theorem dX5_lays_15 : decode cX5_lays 15 = .ok (.iload_n 1, 1) := by decide +kernel
theorem dX5_lays_16 : decode cX5_lays 16 = .ok (.iload_n 2, 1) := by decide +kernel
theorem dX5_lays_17 : decode cX5_lays 17 = .ok (.iastore, 1) := by decide +kernel
theorem dX5_lays_18 : decode cX5_lays 18 = .ok (.iload_n 3, 1) := by decide +kernel
theorem dX5_lays_19 : decode cX5_lays 19 = .ok (.ireturn, 1) := by decide +kernel
set_option maxRecDepth 20000 in
theorem ggX5_seal_X5_isRule : GoodIn wsX5_seal wsX5_isRule := goodIn_r _ [5, 6, 7, 8, 4, 9, 23, 24, 25, 26, 27, 28, 29, 30, 31] (by decide +kernel) (by decide +kernel)
set_option maxRecDepth 20000 in
theorem gX5_seal_X5_isRule : GoodIn wsX5_seal (wsV RX5 71 RX5 yX5_isRule wsX5_isRule) := goodIn_app (goodIn_of _ (by decide +kernel)) ggX5_seal_X5_isRule
set_option maxRecDepth 20000 in
theorem ggX5_seal_X5_in : GoodIn wsX5_seal wsX5_in := goodIn_r _ [9] (by decide +kernel) (by decide +kernel)
set_option maxRecDepth 20000 in
theorem gX5_seal_X5_in : GoodIn wsX5_seal (va_wsS RX5 29 yX5_in wsX5_in) := goodIn_app (goodIn_of _ (by decide +kernel)) ggX5_seal_X5_in
set_option maxRecDepth 20000 in
theorem ggX5_seal_X5_at : GoodIn wsX5_seal wsX5_at := goodIn_r _ [12] (by decide +kernel) (by decide +kernel)
set_option maxRecDepth 20000 in
theorem gX5_seal_X5_at : GoodIn wsX5_seal (va_wsS RX5 33 yX5_at wsX5_at) := goodIn_app (goodIn_of _ (by decide +kernel)) ggX5_seal_X5_at
set_option maxRecDepth 20000 in
theorem ggX5_seal_X5_lays : GoodIn wsX5_seal wsX5_lays := goodIn_r _ [16, 6, 17, 18, 19, 4, 20, 21, 22, 23, 24, 25, 26, 27, 28, 29, 30, 31] (by decide +kernel) (by decide +kernel)
set_option maxRecDepth 20000 in
theorem gX5_seal_X5_lays : GoodIn wsX5_seal (wsV RX5 79 RX5 yX5_lays wsX5_lays) := goodIn_app (goodIn_of _ (by decide +kernel)) ggX5_seal_X5_lays
theorem dX5_seal_0 : decode cX5_seal 0 = .ok (.aload_n 0, 1) := by decide +kernel
theorem dX5_seal_1 : decode cX5_seal 1 = .ok (.iload_n 1, 1) := by decide +kernel
theorem dX5_seal_2 : decode cX5_seal 2 = .ok (.invokevirtual 71, 3) := by decide +kernel
theorem dX5_seal_5 : decode cX5_seal 5 = .ok (.ifCond .ne 5, 3) := by decide +kernel
theorem dX5_seal_8 : decode cX5_seal 8 = .ok (.iconst (-1), 1) := by decide +kernel
theorem dX5_seal_9 : decode cX5_seal 9 = .ok (.ireturn, 1) := by decide +kernel
theorem dX5_seal_10 : decode cX5_seal 10 = .ok (.iload_n 2, 1) := by decide +kernel
theorem dX5_seal_11 : decode cX5_seal 11 = .ok (.iconst 1, 1) := by decide +kernel
theorem dX5_seal_12 : decode cX5_seal 12 = .ok (.bipush 9, 2) := by decide +kernel
theorem dX5_seal_14 : decode cX5_seal 14 = .ok (.invokestatic 29, 3) := by decide +kernel
theorem dX5_seal_17 : decode cX5_seal 17 = .ok (.ifCond .eq 16, 3) := by decide +kernel
theorem dX5_seal_20 : decode cX5_seal 20 = .ok (.aload_n 0, 1) := by decide +kernel
theorem dX5_seal_21 : decode cX5_seal 21 = .ok (.iload_n 1, 1) := by decide +kernel
theorem dX5_seal_22 : decode cX5_seal 22 = .ok (.iconst 4, 1) := by decide +kernel
theorem dX5_seal_23 : decode cX5_seal 23 = .ok (.invokestatic 33, 3) := by decide +kernel
theorem dX5_seal_26 : decode cX5_seal 26 = .ok (.iload_n 2, 1) := by decide +kernel
theorem dX5_seal_27 : decode cX5_seal 27 = .ok (.invokevirtual 79, 3) := by decide +kernel
theorem dX5_seal_30 : decode cX5_seal 30 = .ok (.goto 5, 3) := by decide +kernel
theorem dX5_seal_33 : decode cX5_seal 33 = .ok (.bipush (-2), 2) := by decide +kernel
theorem dX5_seal_35 : decode cX5_seal 35 = .ok (.ireturn, 1) := by decide +kernel
set_option maxRecDepth 20000 in
theorem ggX5_move_X5_isRule : GoodIn wsX5_move wsX5_isRule := goodIn_r _ [5, 6, 7, 8, 4, 9, 27, 28, 29, 30, 31, 32, 33, 34, 35] (by decide +kernel) (by decide +kernel)
set_option maxRecDepth 20000 in
theorem gX5_move_X5_isRule : GoodIn wsX5_move (wsV RX5 71 RX5 yX5_isRule wsX5_isRule) := goodIn_app (goodIn_of _ (by decide +kernel)) ggX5_move_X5_isRule
set_option maxRecDepth 20000 in
theorem ggX5_move_X5_in : GoodIn wsX5_move wsX5_in := goodIn_r _ [9] (by decide +kernel) (by decide +kernel)
set_option maxRecDepth 20000 in
theorem gX5_move_X5_in : GoodIn wsX5_move (va_wsS RX5 29 yX5_in wsX5_in) := goodIn_app (goodIn_of _ (by decide +kernel)) ggX5_move_X5_in
set_option maxRecDepth 20000 in
theorem ggX5_move_X5_of : GoodIn wsX5_move wsX5_of := goodIn_r _ [13, 6, 14, 15, 4, 16, 27, 28, 29, 30, 31, 32, 33, 34, 35] (by decide +kernel) (by decide +kernel)
set_option maxRecDepth 20000 in
theorem gX5_move_X5_of : GoodIn wsX5_move (wsV RX5 41 RX5 yX5_of wsX5_of) := goodIn_app (goodIn_of _ (by decide +kernel)) ggX5_move_X5_of
set_option maxRecDepth 20000 in
theorem ggX5_move_X5_at : GoodIn wsX5_move wsX5_at := goodIn_r _ [16] (by decide +kernel) (by decide +kernel)
set_option maxRecDepth 20000 in
theorem gX5_move_X5_at : GoodIn wsX5_move (va_wsS RX5 33 yX5_at wsX5_at) := goodIn_app (goodIn_of _ (by decide +kernel)) ggX5_move_X5_at
set_option maxRecDepth 20000 in
theorem ggX5_move_X5_lays : GoodIn wsX5_move wsX5_lays := goodIn_r _ [20, 6, 21, 22, 23, 4, 24, 25, 26, 27, 28, 29, 30, 31, 32, 33, 34, 35] (by decide +kernel) (by decide +kernel)
set_option maxRecDepth 20000 in
theorem gX5_move_X5_lays : GoodIn wsX5_move (wsV RX5 79 RX5 yX5_lays wsX5_lays) := goodIn_app (goodIn_of _ (by decide +kernel)) ggX5_move_X5_lays
theorem dX5_move_0 : decode cX5_move 0 = .ok (.aload_n 0, 1) := by decide +kernel
theorem dX5_move_1 : decode cX5_move 1 = .ok (.iload_n 1, 1) := by decide +kernel
theorem dX5_move_2 : decode cX5_move 2 = .ok (.invokevirtual 71, 3) := by decide +kernel
theorem dX5_move_5 : decode cX5_move 5 = .ok (.ifCond .eq 12, 3) := by decide +kernel
theorem dX5_move_8 : decode cX5_move 8 = .ok (.iload_n 2, 1) := by decide +kernel
theorem dX5_move_9 : decode cX5_move 9 = .ok (.iconst 0, 1) := by decide +kernel
theorem dX5_move_10 : decode cX5_move 10 = .ok (.iconst 4, 1) := by decide +kernel
theorem dX5_move_11 : decode cX5_move 11 = .ok (.invokestatic 29, 3) := by decide +kernel
theorem dX5_move_14 : decode cX5_move 14 = .ok (.ifCond .ne 5, 3) := by decide +kernel
theorem dX5_move_17 : decode cX5_move 17 = .ok (.iconst (-1), 1) := by decide +kernel
theorem dX5_move_18 : decode cX5_move 18 = .ok (.ireturn, 1) := by decide +kernel
theorem dX5_move_19 : decode cX5_move 19 = .ok (.aload_n 0, 1) := by decide +kernel
theorem dX5_move_20 : decode cX5_move 20 = .ok (.iload_n 1, 1) := by decide +kernel
theorem dX5_move_21 : decode cX5_move 21 = .ok (.iconst 1, 1) := by decide +kernel
theorem dX5_move_22 : decode cX5_move 22 = .ok (.invokevirtual 41, 3) := by decide +kernel
theorem dX5_move_25 : decode cX5_move 25 = .ok (.ifCond .ne 12, 3) := by decide +kernel
theorem dX5_move_28 : decode cX5_move 28 = .ok (.iload_n 2, 1) := by decide +kernel
theorem dX5_move_29 : decode cX5_move 29 = .ok (.ifCond .le 8, 3) := by decide +kernel
theorem dX5_move_32 : decode cX5_move 32 = .ok (.bipush (-5), 2) := by decide +kernel
theorem dX5_move_34 : decode cX5_move 34 = .ok (.goto 13, 3) := by decide +kernel
theorem dX5_move_37 : decode cX5_move 37 = .ok (.aload_n 0, 1) := by decide +kernel
theorem dX5_move_38 : decode cX5_move 38 = .ok (.iload_n 1, 1) := by decide +kernel
theorem dX5_move_39 : decode cX5_move 39 = .ok (.iconst 0, 1) := by decide +kernel
theorem dX5_move_40 : decode cX5_move 40 = .ok (.invokestatic 33, 3) := by decide +kernel
theorem dX5_move_43 : decode cX5_move 43 = .ok (.iload_n 2, 1) := by decide +kernel
theorem dX5_move_44 : decode cX5_move 44 = .ok (.invokevirtual 79, 3) := by decide +kernel
theorem dX5_move_47 : decode cX5_move 47 = .ok (.ireturn, 1) := by decide +kernel
set_option maxRecDepth 20000 in
theorem ggX5_firstIdle_X5_isIdle : GoodIn wsX5_firstIdle wsX5_isIdle := goodIn_r _ [6, 7, 8, 9, 5, 10, 11, 12, 13, 14, 1, 15, 16, 17, 18, 19, 20, 21, 22, 23, 24, 25, 26, 27, 28, 29, 30, 31, 32, 33, 34, 35, 36, 37, 38, 39, 40, 41, 42, 43] (by decide +kernel) (by decide +kernel)
set_option maxRecDepth 20000 in
theorem gX5_firstIdle_X5_isIdle : GoodIn wsX5_firstIdle (wsV RX5 82 RX5 yX5_isIdle wsX5_isIdle) := goodIn_app (goodIn_of _ (by decide +kernel)) ggX5_firstIdle_X5_isIdle
theorem dX5_firstIdle_0 : decode cX5_firstIdle 0 = .ok (.iconst 0, 1) := by decide +kernel
theorem dX5_firstIdle_1 : decode cX5_firstIdle 1 = .ok (.istore_n 1, 1) := by decide +kernel
theorem dX5_firstIdle_2 : decode cX5_firstIdle 2 = .ok (.iload_n 1, 1) := by decide +kernel
theorem dX5_firstIdle_3 : decode cX5_firstIdle 3 = .ok (.aload_n 0, 1) := by decide +kernel
theorem dX5_firstIdle_4 : decode cX5_firstIdle 4 = .ok (.getfield 7, 3) := by decide +kernel
theorem dX5_firstIdle_7 : decode cX5_firstIdle 7 = .ok (.iconst 0, 1) := by decide +kernel
theorem dX5_firstIdle_8 : decode cX5_firstIdle 8 = .ok (.iaload, 1) := by decide +kernel
theorem dX5_firstIdle_9 : decode cX5_firstIdle 9 = .ok (.if_icmp .ge 19, 3) := by decide +kernel
theorem dX5_firstIdle_12 : decode cX5_firstIdle 12 = .ok (.aload_n 0, 1) := by decide +kernel
theorem dX5_firstIdle_13 : decode cX5_firstIdle 13 = .ok (.iload_n 1, 1) := by decide +kernel
theorem dX5_firstIdle_14 : decode cX5_firstIdle 14 = .ok (.invokevirtual 82, 3) := by decide +kernel
theorem dX5_firstIdle_17 : decode cX5_firstIdle 17 = .ok (.ifCond .eq 5, 3) := by decide +kernel
theorem dX5_firstIdle_20 : decode cX5_firstIdle 20 = .ok (.iload_n 1, 1) := by decide +kernel
theorem dX5_firstIdle_21 : decode cX5_firstIdle 21 = .ok (.ireturn, 1) := by decide +kernel
theorem dX5_firstIdle_22 : decode cX5_firstIdle 22 = .ok (.iinc 1 1, 3) := by decide +kernel
theorem dX5_firstIdle_25 : decode cX5_firstIdle 25 = .ok (.goto (-23), 3) := by decide +kernel
theorem dX5_firstIdle_28 : decode cX5_firstIdle 28 = .ok (.bipush (-6), 2) := by decide +kernel
theorem dX5_firstIdle_30 : decode cX5_firstIdle 30 = .ok (.ireturn, 1) := by decide +kernel
set_option maxRecDepth 20000 in
theorem ggX5_tidy_X5_record : GoodIn wsX5_tidy wsX5_record := goodIn_r _ [5, 6, 7, 8, 49, 50, 51, 52, 53, 54, 55, 56, 57] (by decide +kernel) (by decide +kernel)
set_option maxRecDepth 20000 in
theorem gX5_tidy_X5_record : GoodIn wsX5_tidy (wsV RX5 65 RX5 yX5_record wsX5_record) := goodIn_app (goodIn_of _ (by decide +kernel)) ggX5_tidy_X5_record
set_option maxRecDepth 20000 in
theorem ggX5_tidy_X5_firstIdle : GoodIn wsX5_tidy wsX5_firstIdle := goodIn_r _ [12, 8, 13, 14, 15, 4, 16, 17, 18, 19, 20, 21, 22, 23, 24, 25, 26, 27, 28, 29, 30, 31, 32, 33, 34, 35, 36, 37, 38, 39, 40, 41, 42, 43, 44, 49, 50, 51, 52, 53, 54, 55, 56, 57] (by decide +kernel) (by decide +kernel)
set_option maxRecDepth 20000 in
theorem gX5_tidy_X5_firstIdle : GoodIn wsX5_tidy (wsV RX5 85 RX5 yX5_firstIdle wsX5_firstIdle) := goodIn_app (goodIn_of _ (by decide +kernel)) ggX5_tidy_X5_firstIdle
set_option maxRecDepth 20000 in
theorem ggX5_tidy_X5_strikes : GoodIn wsX5_tidy wsX5_strikes := goodIn_r _ [48, 8, 34, 35, 4, 36, 49, 50, 51, 52, 53, 54, 55, 56, 57] (by decide +kernel) (by decide +kernel)
set_option maxRecDepth 20000 in
theorem gX5_tidy_X5_strikes : GoodIn wsX5_tidy (wsV RX5 75 RX5 yX5_strikes wsX5_strikes) := goodIn_app (goodIn_of _ (by decide +kernel)) ggX5_tidy_X5_strikes
theorem dX5_tidy_0 : decode cX5_tidy 0 = .ok (.aload_n 0, 1) := by decide +kernel
theorem dX5_tidy_1 : decode cX5_tidy 1 = .ok (.invokevirtual 65, 3) := by decide +kernel
theorem dX5_tidy_4 : decode cX5_tidy 4 = .ok (.iconst 0, 1) := by decide +kernel
theorem dX5_tidy_5 : decode cX5_tidy 5 = .ok (.istore_n 1, 1) := by decide +kernel
theorem dX5_tidy_6 : decode cX5_tidy 6 = .ok (.aload_n 0, 1) := by decide +kernel
theorem dX5_tidy_7 : decode cX5_tidy 7 = .ok (.invokevirtual 85, 3) := by decide +kernel
theorem dX5_tidy_10 : decode cX5_tidy 10 = .ok (.istore_n 2, 1) := by decide +kernel
theorem dX5_tidy_11 : decode cX5_tidy 11 = .ok (.iload_n 2, 1) := by decide +kernel
theorem dX5_tidy_12 : decode cX5_tidy 12 = .ok (.bipush (-6), 2) := by decide +kernel
theorem dX5_tidy_14 : decode cX5_tidy 14 = .ok (.if_icmp .eq 19, 3) := by decide +kernel
theorem dX5_tidy_17 : decode cX5_tidy 17 = .ok (.aload_n 0, 1) := by decide +kernel
theorem dX5_tidy_18 : decode cX5_tidy 18 = .ok (.iload_n 2, 1) := by decide +kernel
theorem dX5_tidy_19 : decode cX5_tidy 19 = .ok (.invokevirtual 75, 3) := by decide +kernel
theorem dX5_tidy_22 : decode cX5_tidy 22 = .ok (.iinc 1 1, 3) := by decide +kernel
theorem dX5_tidy_25 : decode cX5_tidy 25 = .ok (.aload_n 0, 1) := by decide +kernel
theorem dX5_tidy_26 : decode cX5_tidy 26 = .ok (.invokevirtual 85, 3) := by decide +kernel
theorem dX5_tidy_29 : decode cX5_tidy 29 = .ok (.istore_n 2, 1) := by decide +kernel
theorem dX5_tidy_30 : decode cX5_tidy 30 = .ok (.goto (-19), 3) := by decide +kernel
theorem dX5_tidy_33 : decode cX5_tidy 33 = .ok (.iload_n 1, 1) := by decide +kernel
theorem dX5_tidy_34 : decode cX5_tidy 34 = .ok (.ireturn, 1) := by decide +kernel
set_option maxRecDepth 20000 in
theorem ggX5_join_X5_in : GoodIn wsX5_join wsX5_in := goodIn_r _ [5] (by decide +kernel) (by decide +kernel)
set_option maxRecDepth 20000 in
theorem gX5_join_X5_in : GoodIn wsX5_join (va_wsS RX5 29 yX5_in wsX5_in) := goodIn_app (goodIn_of _ (by decide +kernel)) ggX5_join_X5_in
set_option maxRecDepth 20000 in
theorem ggX5_join_X5_record : GoodIn wsX5_join wsX5_record := goodIn_r _ [9, 10, 11, 1, 15, 16, 17, 18, 19, 20, 21, 22, 23] (by decide +kernel) (by decide +kernel)
set_option maxRecDepth 20000 in
theorem gX5_join_X5_record : GoodIn wsX5_join (wsV RX5 65 RX5 yX5_record wsX5_record) := goodIn_app (goodIn_of _ (by decide +kernel)) ggX5_join_X5_record
set_option maxRecDepth 20000 in
theorem ggX5_join_X5_ofGuild : GoodIn wsX5_join wsX5_ofGuild := goodIn_r _ [14] (by decide +kernel) (by decide +kernel)
set_option maxRecDepth 20000 in
theorem gX5_join_X5_ofGuild : GoodIn wsX5_join (va_wsS RX5 89 yX5_ofGuild wsX5_ofGuild) := goodIn_app (goodIn_of _ (by decide +kernel)) ggX5_join_X5_ofGuild
theorem dX5_join_0 : decode cX5_join 0 = .ok (.iload_n 1, 1) := by decide +kernel
theorem dX5_join_1 : decode cX5_join 1 = .ok (.iconst 0, 1) := by decide +kernel
theorem dX5_join_2 : decode cX5_join 2 = .ok (.iconst 4, 1) := by decide +kernel
theorem dX5_join_3 : decode cX5_join 3 = .ok (.invokestatic 29, 3) := by decide +kernel
theorem dX5_join_6 : decode cX5_join 6 = .ok (.ifCond .ne 5, 3) := by decide +kernel
theorem dX5_join_9 : decode cX5_join 9 = .ok (.iconst (-1), 1) := by decide +kernel
theorem dX5_join_10 : decode cX5_join 10 = .ok (.ireturn, 1) := by decide +kernel
theorem dX5_join_11 : decode cX5_join 11 = .ok (.iload_n 2, 1) := by decide +kernel
theorem dX5_join_12 : decode cX5_join 12 = .ok (.iconst 0, 1) := by decide +kernel
theorem dX5_join_13 : decode cX5_join 13 = .ok (.bipush 9, 2) := by decide +kernel
theorem dX5_join_15 : decode cX5_join 15 = .ok (.invokestatic 29, 3) := by decide +kernel
theorem dX5_join_18 : decode cX5_join 18 = .ok (.ifCond .ne 6, 3) := by decide +kernel
theorem dX5_join_21 : decode cX5_join 21 = .ok (.bipush (-2), 2) := by decide +kernel
theorem dX5_join_23 : decode cX5_join 23 = .ok (.ireturn, 1) := by decide +kernel
theorem dX5_join_24 : decode cX5_join 24 = .ok (.aload_n 0, 1) := by decide +kernel
theorem dX5_join_25 : decode cX5_join 25 = .ok (.getfield 7, 3) := by decide +kernel
theorem dX5_join_28 : decode cX5_join 28 = .ok (.iconst 1, 1) := by decide +kernel
theorem dX5_join_29 : decode cX5_join 29 = .ok (.iaload, 1) := by decide +kernel
theorem dX5_join_30 : decode cX5_join 30 = .ok (.bipush 10, 2) := by decide +kernel
theorem dX5_join_32 : decode cX5_join 32 = .ok (.if_icmp .ne 6, 3) := by decide +kernel
theorem dX5_join_35 : decode cX5_join 35 = .ok (.bipush (-4), 2) := by decide +kernel
theorem dX5_join_37 : decode cX5_join 37 = .ok (.ireturn, 1) := by decide +kernel
theorem dX5_join_38 : decode cX5_join 38 = .ok (.aload_n 0, 1) := by decide +kernel
theorem dX5_join_39 : decode cX5_join 39 = .ok (.invokevirtual 65, 3) := by decide +kernel
theorem dX5_join_42 : decode cX5_join 42 = .ok (.aload_n 0, 1) := by decide +kernel
theorem dX5_join_43 : decode cX5_join 43 = .ok (.getfield 7, 3) := by decide +kernel
theorem dX5_join_46 : decode cX5_join 46 = .ok (.iconst 1, 1) := by decide +kernel
theorem dX5_join_47 : decode cX5_join 47 = .ok (.iaload, 1) := by decide +kernel
theorem dX5_join_48 : decode cX5_join 48 = .ok (.istore_n 3, 1) := by decide +kernel
theorem dX5_join_49 : decode cX5_join 49 = .ok (.aload_n 0, 1) := by decide +kernel
theorem dX5_join_50 : decode cX5_join 50 = .ok (.getfield 7, 3) := by decide +kernel
theorem dX5_join_53 : decode cX5_join 53 = .ok (.iconst 1, 1) := by decide +kernel
theorem dX5_join_54 : decode cX5_join 54 = .ok (.dup2, 1) := by decide +kernel
theorem dX5_join_55 : decode cX5_join 55 = .ok (.iaload, 1) := by decide +kernel
theorem dX5_join_56 : decode cX5_join 56 = .ok (.iconst 1, 1) := by decide +kernel
theorem dX5_join_57 : decode cX5_join 57 = .ok (.iadd, 1) := by decide +kernel
theorem dX5_join_58 : decode cX5_join 58 = .ok (.iastore, 1) := by decide +kernel
theorem dX5_join_59 : decode cX5_join 59 = .ok (.aload_n 0, 1) := by decide +kernel
theorem dX5_join_60 : decode cX5_join 60 = .ok (.getfield 7, 3) := by decide +kernel
theorem dX5_join_63 : decode cX5_join 63 = .ok (.iload_n 3, 1) := by decide +kernel
theorem dX5_join_64 : decode cX5_join 64 = .ok (.iconst 0, 1) := by decide +kernel
theorem dX5_join_65 : decode cX5_join 65 = .ok (.invokestatic 89, 3) := by decide +kernel
theorem dX5_join_68 : decode cX5_join 68 = .ok (.iload_n 1, 1) := by decide +kernel
theorem dX5_join_69 : decode cX5_join 69 = .ok (.iastore, 1) := by decide +kernel
theorem dX5_join_70 : decode cX5_join 70 = .ok (.aload_n 0, 1) := by decide +kernel
theorem dX5_join_71 : decode cX5_join 71 = .ok (.getfield 7, 3) := by decide +kernel
theorem dX5_join_74 : decode cX5_join 74 = .ok (.iload_n 3, 1) := by decide +kernel
theorem dX5_join_75 : decode cX5_join 75 = .ok (.iconst 1, 1) := by decide +kernel
theorem dX5_join_76 : decode cX5_join 76 = .ok (.invokestatic 89, 3) := by decide +kernel
theorem dX5_join_79 : decode cX5_join 79 = .ok (.iload_n 2, 1) := by decide +kernel
theorem dX5_join_80 : decode cX5_join 80 = .ok (.iastore, 1) := by decide +kernel
theorem dX5_join_81 : decode cX5_join 81 = .ok (.aload_n 0, 1) := by decide +kernel
theorem dX5_join_82 : decode cX5_join 82 = .ok (.getfield 7, 3) := by decide +kernel
theorem dX5_join_85 : decode cX5_join 85 = .ok (.iload_n 3, 1) := by decide +kernel
theorem dX5_join_86 : decode cX5_join 86 = .ok (.iconst 2, 1) := by decide +kernel
theorem dX5_join_87 : decode cX5_join 87 = .ok (.invokestatic 89, 3) := by decide +kernel
theorem dX5_join_90 : decode cX5_join 90 = .ok (.iconst 0, 1) := by decide +kernel
theorem dX5_join_91 : decode cX5_join 91 = .ok (.iastore, 1) := by decide +kernel
theorem dX5_join_92 : decode cX5_join 92 = .ok (.aload_n 0, 1) := by decide +kernel
theorem dX5_join_93 : decode cX5_join 93 = .ok (.getfield 7, 3) := by decide +kernel
theorem dX5_join_96 : decode cX5_join 96 = .ok (.iload_n 3, 1) := by decide +kernel
theorem dX5_join_97 : decode cX5_join 97 = .ok (.iconst 3, 1) := by decide +kernel
theorem dX5_join_98 : decode cX5_join 98 = .ok (.invokestatic 89, 3) := by decide +kernel
theorem dX5_join_101 : decode cX5_join 101 = .ok (.iconst 0, 1) := by decide +kernel
theorem dX5_join_102 : decode cX5_join 102 = .ok (.iastore, 1) := by decide +kernel
theorem dX5_join_103 : decode cX5_join 103 = .ok (.iload_n 3, 1) := by decide +kernel
theorem dX5_join_104 : decode cX5_join 104 = .ok (.ireturn, 1) := by decide +kernel
set_option maxRecDepth 20000 in
theorem ggX5_leave_X5_isMember : GoodIn wsX5_leave wsX5_isMember := goodIn_r _ [6, 1, 7, 8, 5, 9, 19, 20, 21, 22, 23, 24, 25, 26, 27] (by decide +kernel) (by decide +kernel)
set_option maxRecDepth 20000 in
theorem gX5_leave_X5_isMember : GoodIn wsX5_leave (wsV RX5 92 RX5 yX5_isMember wsX5_isMember) := goodIn_app (goodIn_of _ (by decide +kernel)) ggX5_leave_X5_isMember
set_option maxRecDepth 20000 in
theorem ggX5_leave_X5_record : GoodIn wsX5_leave wsX5_record := goodIn_r _ [13, 14, 15, 1, 19, 20, 21, 22, 23, 24, 25, 26, 27] (by decide +kernel) (by decide +kernel)
set_option maxRecDepth 20000 in
theorem gX5_leave_X5_record : GoodIn wsX5_leave (wsV RX5 65 RX5 yX5_record wsX5_record) := goodIn_app (goodIn_of _ (by decide +kernel)) ggX5_leave_X5_record
set_option maxRecDepth 20000 in
theorem ggX5_leave_X5_ofGuild : GoodIn wsX5_leave wsX5_ofGuild := goodIn_r _ [18] (by decide +kernel) (by decide +kernel)
set_option maxRecDepth 20000 in
theorem gX5_leave_X5_ofGuild : GoodIn wsX5_leave (va_wsS RX5 89 yX5_ofGuild wsX5_ofGuild) := goodIn_app (goodIn_of _ (by decide +kernel)) ggX5_leave_X5_ofGuild
theorem dX5_leave_0 : decode cX5_leave 0 = .ok (.aload_n 0, 1) := by decide +kernel
theorem dX5_leave_1 : decode cX5_leave 1 = .ok (.iload_n 1, 1) := by decide +kernel
theorem dX5_leave_2 : decode cX5_leave 2 = .ok (.invokevirtual 92, 3) := by decide +kernel
theorem dX5_leave_5 : decode cX5_leave 5 = .ok (.ifCond .ne 5, 3) := by decide +kernel
theorem dX5_leave_8 : decode cX5_leave 8 = .ok (.iconst (-1), 1) := by decide +kernel
theorem dX5_leave_9 : decode cX5_leave 9 = .ok (.ireturn, 1) := by decide +kernel
theorem dX5_leave_10 : decode cX5_leave 10 = .ok (.aload_n 0, 1) := by decide +kernel
theorem dX5_leave_11 : decode cX5_leave 11 = .ok (.invokevirtual 65, 3) := by decide +kernel
theorem dX5_leave_14 : decode cX5_leave 14 = .ok (.aload_n 0, 1) := by decide +kernel
theorem dX5_leave_15 : decode cX5_leave 15 = .ok (.getfield 7, 3) := by decide +kernel
theorem dX5_leave_18 : decode cX5_leave 18 = .ok (.iload_n 1, 1) := by decide +kernel
theorem dX5_leave_19 : decode cX5_leave 19 = .ok (.iconst 2, 1) := by decide +kernel
theorem dX5_leave_20 : decode cX5_leave 20 = .ok (.invokestatic 89, 3) := by decide +kernel
theorem dX5_leave_23 : decode cX5_leave 23 = .ok (.iaload, 1) := by decide +kernel
theorem dX5_leave_24 : decode cX5_leave 24 = .ok (.istore_n 2, 1) := by decide +kernel
theorem dX5_leave_25 : decode cX5_leave 25 = .ok (.aload_n 0, 1) := by decide +kernel
theorem dX5_leave_26 : decode cX5_leave 26 = .ok (.getfield 7, 3) := by decide +kernel
theorem dX5_leave_29 : decode cX5_leave 29 = .ok (.iconst 1, 1) := by decide +kernel
theorem dX5_leave_30 : decode cX5_leave 30 = .ok (.dup2, 1) := by decide +kernel
theorem dX5_leave_31 : decode cX5_leave 31 = .ok (.iaload, 1) := by decide +kernel
theorem dX5_leave_32 : decode cX5_leave 32 = .ok (.iconst 1, 1) := by decide +kernel
theorem dX5_leave_33 : decode cX5_leave 33 = .ok (.isub, 1) := by decide +kernel
theorem dX5_leave_34 : decode cX5_leave 34 = .ok (.iastore, 1) := by decide +kernel
theorem dX5_leave_35 : decode cX5_leave 35 = .ok (.iload_n 1, 1) := by decide +kernel
theorem dX5_leave_36 : decode cX5_leave 36 = .ok (.iconst 0, 1) := by decide +kernel
theorem dX5_leave_37 : decode cX5_leave 37 = .ok (.invokestatic 89, 3) := by decide +kernel
theorem dX5_leave_40 : decode cX5_leave 40 = .ok (.istore_n 3, 1) := by decide +kernel
theorem dX5_leave_41 : decode cX5_leave 41 = .ok (.iload_n 3, 1) := by decide +kernel
theorem dX5_leave_42 : decode cX5_leave 42 = .ok (.aload_n 0, 1) := by decide +kernel
theorem dX5_leave_43 : decode cX5_leave 43 = .ok (.getfield 7, 3) := by decide +kernel
theorem dX5_leave_46 : decode cX5_leave 46 = .ok (.iconst 1, 1) := by decide +kernel
theorem dX5_leave_47 : decode cX5_leave 47 = .ok (.iaload, 1) := by decide +kernel
theorem dX5_leave_48 : decode cX5_leave 48 = .ok (.iconst 0, 1) := by decide +kernel
theorem dX5_leave_49 : decode cX5_leave 49 = .ok (.invokestatic 89, 3) := by decide +kernel
theorem dX5_leave_52 : decode cX5_leave 52 = .ok (.if_icmp .ge 23, 3) := by decide +kernel
theorem dX5_leave_55 : decode cX5_leave 55 = .ok (.aload_n 0, 1) := by decide +kernel
theorem dX5_leave_56 : decode cX5_leave 56 = .ok (.getfield 7, 3) := by decide +kernel
theorem dX5_leave_59 : decode cX5_leave 59 = .ok (.iload_n 3, 1) := by decide +kernel
theorem dX5_leave_60 : decode cX5_leave 60 = .ok (.aload_n 0, 1) := by decide +kernel
theorem dX5_leave_61 : decode cX5_leave 61 = .ok (.getfield 7, 3) := by decide +kernel
theorem dX5_leave_64 : decode cX5_leave 64 = .ok (.iload_n 3, 1) := by decide +kernel
theorem dX5_leave_65 : decode cX5_leave 65 = .ok (.iconst 4, 1) := by decide +kernel
theorem dX5_leave_66 : decode cX5_leave 66 = .ok (.iadd, 1) := by decide +kernel
theorem dX5_leave_67 : decode cX5_leave 67 = .ok (.iaload, 1) := by decide +kernel
theorem dX5_leave_68 : decode cX5_leave 68 = .ok (.iastore, 1) := by decide +kernel
theorem dX5_leave_69 : decode cX5_leave 69 = .ok (.iinc 3 1, 3) := by decide +kernel
theorem dX5_leave_72 : decode cX5_leave 72 = .ok (.goto (-31), 3) := by decide +kernel
theorem dX5_leave_75 : decode cX5_leave 75 = .ok (.iconst 0, 1) := by decide +kernel
theorem dX5_leave_76 : decode cX5_leave 76 = .ok (.istore_n 3, 1) := by decide +kernel
theorem dX5_leave_77 : decode cX5_leave 77 = .ok (.iload_n 3, 1) := by decide +kernel
theorem dX5_leave_78 : decode cX5_leave 78 = .ok (.iconst 4, 1) := by decide +kernel
theorem dX5_leave_79 : decode cX5_leave 79 = .ok (.if_icmp .ge 25, 3) := by decide +kernel
theorem dX5_leave_82 : decode cX5_leave 82 = .ok (.aload_n 0, 1) := by decide +kernel
theorem dX5_leave_83 : decode cX5_leave 83 = .ok (.getfield 7, 3) := by decide +kernel
theorem dX5_leave_86 : decode cX5_leave 86 = .ok (.aload_n 0, 1) := by decide +kernel
theorem dX5_leave_87 : decode cX5_leave 87 = .ok (.getfield 7, 3) := by decide +kernel
theorem dX5_leave_90 : decode cX5_leave 90 = .ok (.iconst 1, 1) := by decide +kernel
theorem dX5_leave_91 : decode cX5_leave 91 = .ok (.iaload, 1) := by decide +kernel
theorem dX5_leave_92 : decode cX5_leave 92 = .ok (.iload_n 3, 1) := by decide +kernel
theorem dX5_leave_93 : decode cX5_leave 93 = .ok (.invokestatic 89, 3) := by decide +kernel
theorem dX5_leave_96 : decode cX5_leave 96 = .ok (.iconst 0, 1) := by decide +kernel
theorem dX5_leave_97 : decode cX5_leave 97 = .ok (.iastore, 1) := by decide +kernel
theorem dX5_leave_98 : decode cX5_leave 98 = .ok (.iinc 3 1, 3) := by decide +kernel
theorem dX5_leave_101 : decode cX5_leave 101 = .ok (.goto (-24), 3) := by decide +kernel
theorem dX5_leave_104 : decode cX5_leave 104 = .ok (.iload_n 2, 1) := by decide +kernel
theorem dX5_leave_105 : decode cX5_leave 105 = .ok (.ireturn, 1) := by decide +kernel
set_option maxRecDepth 20000 in
theorem ggX5_rank_X5_isMember : GoodIn wsX5_rank wsX5_isMember := goodIn_r _ [5, 6, 7, 8, 4, 9, 23, 24, 25, 26, 27, 28, 29, 30, 31] (by decide +kernel) (by decide +kernel)
set_option maxRecDepth 20000 in
theorem gX5_rank_X5_isMember : GoodIn wsX5_rank (wsV RX5 92 RX5 yX5_isMember wsX5_isMember) := goodIn_app (goodIn_of _ (by decide +kernel)) ggX5_rank_X5_isMember
set_option maxRecDepth 20000 in
theorem ggX5_rank_X5_in : GoodIn wsX5_rank wsX5_in := goodIn_r _ [9] (by decide +kernel) (by decide +kernel)
set_option maxRecDepth 20000 in
theorem gX5_rank_X5_in : GoodIn wsX5_rank (va_wsS RX5 29 yX5_in wsX5_in) := goodIn_app (goodIn_of _ (by decide +kernel)) ggX5_rank_X5_in
set_option maxRecDepth 20000 in
theorem ggX5_rank_X5_ofGuild : GoodIn wsX5_rank wsX5_ofGuild := goodIn_r _ [12] (by decide +kernel) (by decide +kernel)
set_option maxRecDepth 20000 in
theorem gX5_rank_X5_ofGuild : GoodIn wsX5_rank (va_wsS RX5 89 yX5_ofGuild wsX5_ofGuild) := goodIn_app (goodIn_of _ (by decide +kernel)) ggX5_rank_X5_ofGuild
set_option maxRecDepth 20000 in
theorem ggX5_rank_X5_lays : GoodIn wsX5_rank wsX5_lays := goodIn_r _ [16, 6, 17, 18, 19, 4, 20, 21, 22, 23, 24, 25, 26, 27, 28, 29, 30, 31] (by decide +kernel) (by decide +kernel)
set_option maxRecDepth 20000 in
theorem gX5_rank_X5_lays : GoodIn wsX5_rank (wsV RX5 79 RX5 yX5_lays wsX5_lays) := goodIn_app (goodIn_of _ (by decide +kernel)) ggX5_rank_X5_lays
theorem dX5_rank_0 : decode cX5_rank 0 = .ok (.aload_n 0, 1) := by decide +kernel
theorem dX5_rank_1 : decode cX5_rank 1 = .ok (.iload_n 1, 1) := by decide +kernel
theorem dX5_rank_2 : decode cX5_rank 2 = .ok (.invokevirtual 92, 3) := by decide +kernel
theorem dX5_rank_5 : decode cX5_rank 5 = .ok (.ifCond .ne 5, 3) := by decide +kernel
theorem dX5_rank_8 : decode cX5_rank 8 = .ok (.iconst (-1), 1) := by decide +kernel
theorem dX5_rank_9 : decode cX5_rank 9 = .ok (.ireturn, 1) := by decide +kernel
theorem dX5_rank_10 : decode cX5_rank 10 = .ok (.iload_n 2, 1) := by decide +kernel
theorem dX5_rank_11 : decode cX5_rank 11 = .ok (.iconst 0, 1) := by decide +kernel
theorem dX5_rank_12 : decode cX5_rank 12 = .ok (.bipush 9, 2) := by decide +kernel
theorem dX5_rank_14 : decode cX5_rank 14 = .ok (.invokestatic 29, 3) := by decide +kernel
theorem dX5_rank_17 : decode cX5_rank 17 = .ok (.ifCond .eq 16, 3) := by decide +kernel
theorem dX5_rank_20 : decode cX5_rank 20 = .ok (.aload_n 0, 1) := by decide +kernel
theorem dX5_rank_21 : decode cX5_rank 21 = .ok (.iload_n 1, 1) := by decide +kernel
theorem dX5_rank_22 : decode cX5_rank 22 = .ok (.iconst 1, 1) := by decide +kernel
theorem dX5_rank_23 : decode cX5_rank 23 = .ok (.invokestatic 89, 3) := by decide +kernel
theorem dX5_rank_26 : decode cX5_rank 26 = .ok (.iload_n 2, 1) := by decide +kernel
theorem dX5_rank_27 : decode cX5_rank 27 = .ok (.invokevirtual 79, 3) := by decide +kernel
theorem dX5_rank_30 : decode cX5_rank 30 = .ok (.goto 5, 3) := by decide +kernel
theorem dX5_rank_33 : decode cX5_rank 33 = .ok (.bipush (-2), 2) := by decide +kernel
theorem dX5_rank_35 : decode cX5_rank 35 = .ok (.ireturn, 1) := by decide +kernel
set_option maxRecDepth 20000 in
theorem ggX5_act_X5_isMember : GoodIn wsX5_act wsX5_isMember := goodIn_r _ [6, 1, 7, 8, 5, 9, 51, 52, 53, 54, 55, 56, 57, 58, 59] (by decide +kernel) (by decide +kernel)
set_option maxRecDepth 20000 in
theorem gX5_act_X5_isMember : GoodIn wsX5_act (wsV RX5 92 RX5 yX5_isMember wsX5_isMember) := goodIn_app (goodIn_of _ (by decide +kernel)) ggX5_act_X5_isMember
set_option maxRecDepth 20000 in
theorem ggX5_act_X5_in : GoodIn wsX5_act wsX5_in := goodIn_r _ [9] (by decide +kernel) (by decide +kernel)
set_option maxRecDepth 20000 in
theorem gX5_act_X5_in : GoodIn wsX5_act (va_wsS RX5 29 yX5_in wsX5_in) := goodIn_app (goodIn_of _ (by decide +kernel)) ggX5_act_X5_in
set_option maxRecDepth 20000 in
theorem ggX5_act_X5_record : GoodIn wsX5_act wsX5_record := goodIn_r _ [13, 14, 15, 1, 51, 52, 53, 54, 55, 56, 57, 58, 59] (by decide +kernel) (by decide +kernel)
set_option maxRecDepth 20000 in
theorem gX5_act_X5_record : GoodIn wsX5_act (wsV RX5 65 RX5 yX5_record wsX5_record) := goodIn_app (goodIn_of _ (by decide +kernel)) ggX5_act_X5_record
set_option maxRecDepth 20000 in
theorem ggX5_act_X5_ofGuild : GoodIn wsX5_act wsX5_ofGuild := goodIn_r _ [18] (by decide +kernel) (by decide +kernel)
set_option maxRecDepth 20000 in
theorem gX5_act_X5_ofGuild : GoodIn wsX5_act (va_wsS RX5 89 yX5_ofGuild wsX5_ofGuild) := goodIn_app (goodIn_of _ (by decide +kernel)) ggX5_act_X5_ofGuild
set_option maxRecDepth 20000 in
theorem ggX5_act_X5_reason : GoodIn wsX5_act wsX5_reason := goodIn_r _ [22, 1, 23, 24, 25, 26, 5, 27, 28, 29, 30, 31, 32, 33, 34, 35, 36, 37, 38, 39, 40, 41, 42, 43, 44, 45, 46, 47, 48, 49, 50, 51, 52, 53, 54, 55, 56, 57, 58, 59] (by decide +kernel) (by decide +kernel)
set_option maxRecDepth 20000 in
theorem gX5_act_X5_reason : GoodIn wsX5_act (wsV RX5 95 RX5 yX5_reason wsX5_reason) := goodIn_app (goodIn_of _ (by decide +kernel)) ggX5_act_X5_reason
set_option maxRecDepth 20000 in
theorem ggX5_act_X5_of : GoodIn wsX5_act wsX5_of := goodIn_r _ [39, 1, 40, 41, 5, 42, 51, 52, 53, 54, 55, 56, 57, 58, 59] (by decide +kernel) (by decide +kernel)
set_option maxRecDepth 20000 in
theorem gX5_act_X5_of : GoodIn wsX5_act (wsV RX5 41 RX5 yX5_of wsX5_of) := goodIn_app (goodIn_of _ (by decide +kernel)) ggX5_act_X5_of
theorem dX5_act_0 : decode cX5_act 0 = .ok (.aload_n 0, 1) := by decide +kernel
theorem dX5_act_1 : decode cX5_act 1 = .ok (.iload_n 1, 1) := by decide +kernel
theorem dX5_act_2 : decode cX5_act 2 = .ok (.invokevirtual 92, 3) := by decide +kernel
theorem dX5_act_5 : decode cX5_act 5 = .ok (.ifCond .eq 12, 3) := by decide +kernel
theorem dX5_act_8 : decode cX5_act 8 = .ok (.iload_n 2, 1) := by decide +kernel
theorem dX5_act_9 : decode cX5_act 9 = .ok (.iconst 0, 1) := by decide +kernel
theorem dX5_act_10 : decode cX5_act 10 = .ok (.iconst 5, 1) := by decide +kernel
theorem dX5_act_11 : decode cX5_act 11 = .ok (.invokestatic 29, 3) := by decide +kernel
theorem dX5_act_14 : decode cX5_act 14 = .ok (.ifCond .ne 5, 3) := by decide +kernel
theorem dX5_act_17 : decode cX5_act 17 = .ok (.iconst (-1), 1) := by decide +kernel
theorem dX5_act_18 : decode cX5_act 18 = .ok (.ireturn, 1) := by decide +kernel
theorem dX5_act_19 : decode cX5_act 19 = .ok (.aload_n 0, 1) := by decide +kernel
theorem dX5_act_20 : decode cX5_act 20 = .ok (.invokevirtual 65, 3) := by decide +kernel
theorem dX5_act_23 : decode cX5_act 23 = .ok (.aload_n 0, 1) := by decide +kernel
theorem dX5_act_24 : decode cX5_act 24 = .ok (.aload_n 0, 1) := by decide +kernel
theorem dX5_act_25 : decode cX5_act 25 = .ok (.getfield 7, 3) := by decide +kernel
theorem dX5_act_28 : decode cX5_act 28 = .ok (.iload_n 1, 1) := by decide +kernel
theorem dX5_act_29 : decode cX5_act 29 = .ok (.iconst 0, 1) := by decide +kernel
theorem dX5_act_30 : decode cX5_act 30 = .ok (.invokestatic 89, 3) := by decide +kernel
theorem dX5_act_33 : decode cX5_act 33 = .ok (.iaload, 1) := by decide +kernel
theorem dX5_act_34 : decode cX5_act 34 = .ok (.iload_n 2, 1) := by decide +kernel
theorem dX5_act_35 : decode cX5_act 35 = .ok (.aload_n 0, 1) := by decide +kernel
theorem dX5_act_36 : decode cX5_act 36 = .ok (.getfield 7, 3) := by decide +kernel
theorem dX5_act_39 : decode cX5_act 39 = .ok (.iload_n 1, 1) := by decide +kernel
theorem dX5_act_40 : decode cX5_act 40 = .ok (.iconst 1, 1) := by decide +kernel
theorem dX5_act_41 : decode cX5_act 41 = .ok (.invokestatic 89, 3) := by decide +kernel
theorem dX5_act_44 : decode cX5_act 44 = .ok (.iaload, 1) := by decide +kernel
theorem dX5_act_45 : decode cX5_act 45 = .ok (.invokevirtual 95, 3) := by decide +kernel
theorem dX5_act_48 : decode cX5_act 48 = .ok (.istore_n 3, 1) := by decide +kernel
theorem dX5_act_49 : decode cX5_act 49 = .ok (.aload_n 0, 1) := by decide +kernel
theorem dX5_act_50 : decode cX5_act 50 = .ok (.getfield 7, 3) := by decide +kernel
theorem dX5_act_53 : decode cX5_act 53 = .ok (.iload_n 1, 1) := by decide +kernel
theorem dX5_act_54 : decode cX5_act 54 = .ok (.iload_n 3, 1) := by decide +kernel
theorem dX5_act_55 : decode cX5_act 55 = .ok (.bipush (-6), 2) := by decide +kernel
theorem dX5_act_57 : decode cX5_act 57 = .ok (.if_icmp .ne 7, 3) := by decide +kernel
theorem dX5_act_60 : decode cX5_act 60 = .ok (.iconst 2, 1) := by decide +kernel
theorem dX5_act_61 : decode cX5_act 61 = .ok (.goto 4, 3) := by decide +kernel
theorem dX5_act_64 : decode cX5_act 64 = .ok (.iconst 3, 1) := by decide +kernel
theorem dX5_act_65 : decode cX5_act 65 = .ok (.invokestatic 89, 3) := by decide +kernel
theorem dX5_act_68 : decode cX5_act 68 = .ok (.dup2, 1) := by decide +kernel
theorem dX5_act_69 : decode cX5_act 69 = .ok (.iaload, 1) := by decide +kernel
theorem dX5_act_70 : decode cX5_act 70 = .ok (.iconst 1, 1) := by decide +kernel
theorem dX5_act_71 : decode cX5_act 71 = .ok (.iadd, 1) := by decide +kernel
theorem dX5_act_72 : decode cX5_act 72 = .ok (.iastore, 1) := by decide +kernel
theorem dX5_act_73 : decode cX5_act 73 = .ok (.iload_n 3, 1) := by decide +kernel
theorem dX5_act_74 : decode cX5_act 74 = .ok (.bipush (-6), 2) := by decide +kernel
theorem dX5_act_76 : decode cX5_act 76 = .ok (.if_icmp .ne 7, 3) := by decide +kernel
theorem dX5_act_79 : decode cX5_act 79 = .ok (.iconst 2, 1) := by decide +kernel
theorem dX5_act_80 : decode cX5_act 80 = .ok (.goto 22, 3) := by decide +kernel
theorem dX5_act_83 : decode cX5_act 83 = .ok (.iload_n 3, 1) := by decide +kernel
theorem dX5_act_84 : decode cX5_act 84 = .ok (.bipush 100, 2) := by decide +kernel
theorem dX5_act_86 : decode cX5_act 86 = .ok (.if_icmp .ne 8, 3) := by decide +kernel
theorem dX5_act_89 : decode cX5_act 89 = .ok (.bipush 8, 2) := by decide +kernel
theorem dX5_act_91 : decode cX5_act 91 = .ok (.goto 11, 3) := by decide +kernel
theorem dX5_act_94 : decode cX5_act 94 = .ok (.iconst 3, 1) := by decide +kernel
theorem dX5_act_95 : decode cX5_act 95 = .ok (.aload_n 0, 1) := by decide +kernel
theorem dX5_act_96 : decode cX5_act 96 = .ok (.iload_n 3, 1) := by decide +kernel
theorem dX5_act_97 : decode cX5_act 97 = .ok (.iconst 0, 1) := by decide +kernel
theorem dX5_act_98 : decode cX5_act 98 = .ok (.invokevirtual 41, 3) := by decide +kernel
theorem dX5_act_101 : decode cX5_act 101 = .ok (.iadd, 1) := by decide +kernel
theorem dX5_act_102 : decode cX5_act 102 = .ok (.istore 4, 2) := by decide +kernel
theorem dX5_act_104 : decode cX5_act 104 = .ok (.aload_n 0, 1) := by decide +kernel
theorem dX5_act_105 : decode cX5_act 105 = .ok (.getfield 7, 3) := by decide +kernel
theorem dX5_act_108 : decode cX5_act 108 = .ok (.iload 4, 2) := by decide +kernel
theorem dX5_act_110 : decode cX5_act 110 = .ok (.dup2, 1) := by decide +kernel
theorem dX5_act_111 : decode cX5_act 111 = .ok (.iaload, 1) := by decide +kernel
theorem dX5_act_112 : decode cX5_act 112 = .ok (.iconst 1, 1) := by decide +kernel
theorem dX5_act_113 : decode cX5_act 113 = .ok (.iadd, 1) := by decide +kernel
theorem dX5_act_114 : decode cX5_act 114 = .ok (.iastore, 1) := by decide +kernel
theorem dX5_act_115 : decode cX5_act 115 = .ok (.iload_n 3, 1) := by decide +kernel
theorem dX5_act_116 : decode cX5_act 116 = .ok (.ireturn, 1) := by decide +kernel
set_option maxRecDepth 20000 in
theorem ggX5_oddsOf_X5_areAtOdds : GoodIn wsX5_oddsOf wsX5_areAtOdds := goodIn_r _ [6, 7, 8, 9, 5, 10, 1, 11, 12, 13, 14, 15, 16, 17, 18, 19, 20, 21, 22] (by decide +kernel) (by decide +kernel)
set_option maxRecDepth 20000 in
theorem gX5_oddsOf_X5_areAtOdds : GoodIn wsX5_oddsOf (wsV RX5 98 RX5 yX5_areAtOdds wsX5_areAtOdds) := goodIn_app (goodIn_of _ (by decide +kernel)) ggX5_oddsOf_X5_areAtOdds
theorem dX5_oddsOf_0 : decode cX5_oddsOf 0 = .ok (.iconst 0, 1) := by decide +kernel
theorem dX5_oddsOf_1 : decode cX5_oddsOf 1 = .ok (.istore_n 2, 1) := by decide +kernel
theorem dX5_oddsOf_2 : decode cX5_oddsOf 2 = .ok (.iconst 0, 1) := by decide +kernel
theorem dX5_oddsOf_3 : decode cX5_oddsOf 3 = .ok (.istore_n 3, 1) := by decide +kernel
theorem dX5_oddsOf_4 : decode cX5_oddsOf 4 = .ok (.iload_n 3, 1) := by decide +kernel
theorem dX5_oddsOf_5 : decode cX5_oddsOf 5 = .ok (.aload_n 0, 1) := by decide +kernel
theorem dX5_oddsOf_6 : decode cX5_oddsOf 6 = .ok (.getfield 7, 3) := by decide +kernel
theorem dX5_oddsOf_9 : decode cX5_oddsOf 9 = .ok (.iconst 0, 1) := by decide +kernel
theorem dX5_oddsOf_10 : decode cX5_oddsOf 10 = .ok (.iaload, 1) := by decide +kernel
theorem dX5_oddsOf_11 : decode cX5_oddsOf 11 = .ok (.if_icmp .ge 26, 3) := by decide +kernel
theorem dX5_oddsOf_14 : decode cX5_oddsOf 14 = .ok (.iload_n 2, 1) := by decide +kernel
theorem dX5_oddsOf_15 : decode cX5_oddsOf 15 = .ok (.aload_n 0, 1) := by decide +kernel
theorem dX5_oddsOf_16 : decode cX5_oddsOf 16 = .ok (.iload_n 1, 1) := by decide +kernel
theorem dX5_oddsOf_17 : decode cX5_oddsOf 17 = .ok (.iload_n 3, 1) := by decide +kernel
theorem dX5_oddsOf_18 : decode cX5_oddsOf 18 = .ok (.invokevirtual 98, 3) := by decide +kernel
theorem dX5_oddsOf_21 : decode cX5_oddsOf 21 = .ok (.ifCond .eq 7, 3) := by decide +kernel
theorem dX5_oddsOf_24 : decode cX5_oddsOf 24 = .ok (.iconst 1, 1) := by decide +kernel
theorem dX5_oddsOf_25 : decode cX5_oddsOf 25 = .ok (.goto 4, 3) := by decide +kernel
theorem dX5_oddsOf_28 : decode cX5_oddsOf 28 = .ok (.iconst 0, 1) := by decide +kernel
theorem dX5_oddsOf_29 : decode cX5_oddsOf 29 = .ok (.iadd, 1) := by decide +kernel
theorem dX5_oddsOf_30 : decode cX5_oddsOf 30 = .ok (.istore_n 2, 1) := by decide +kernel
theorem dX5_oddsOf_31 : decode cX5_oddsOf 31 = .ok (.iinc 3 1, 3) := by decide +kernel
theorem dX5_oddsOf_34 : decode cX5_oddsOf 34 = .ok (.goto (-30), 3) := by decide +kernel
theorem dX5_oddsOf_37 : decode cX5_oddsOf 37 = .ok (.iload_n 2, 1) := by decide +kernel
theorem dX5_oddsOf_38 : decode cX5_oddsOf 38 = .ok (.ireturn, 1) := by decide +kernel
set_option maxRecDepth 20000 in
theorem ggX5_rule_X5_isRule : GoodIn wsX5_rule wsX5_isRule := goodIn_r _ [5, 6, 7, 8, 4, 9, 50, 51, 52, 53, 54, 55, 56, 57, 58] (by decide +kernel) (by decide +kernel)
set_option maxRecDepth 20000 in
theorem gX5_rule_X5_isRule : GoodIn wsX5_rule (wsV RX5 71 RX5 yX5_isRule wsX5_isRule) := goodIn_app (goodIn_of _ (by decide +kernel)) ggX5_rule_X5_isRule
set_option maxRecDepth 20000 in
theorem ggX5_rule_X5_isIdle : GoodIn wsX5_rule wsX5_isIdle := goodIn_r _ [13, 14, 15, 16, 4, 17, 18, 19, 20, 21, 6, 22, 23, 24, 25, 26, 27, 28, 29, 30, 31, 32, 33, 34, 35, 36, 37, 38, 39, 40, 41, 50, 51, 52, 53, 54, 55, 56, 57, 58] (by decide +kernel) (by decide +kernel)
set_option maxRecDepth 20000 in
theorem gX5_rule_X5_isIdle : GoodIn wsX5_rule (wsV RX5 82 RX5 yX5_isIdle wsX5_isIdle) := goodIn_app (goodIn_of _ (by decide +kernel)) ggX5_rule_X5_isIdle
set_option maxRecDepth 20000 in
theorem ggX5_rule_X5_oddsOf : GoodIn wsX5_rule wsX5_oddsOf := goodIn_r _ [45, 6, 46, 47, 48, 4, 49, 27, 28, 29, 30, 31, 32, 33, 50, 51, 52, 53, 54, 55, 56, 57, 58] (by decide +kernel) (by decide +kernel)
set_option maxRecDepth 20000 in
theorem gX5_rule_X5_oddsOf : GoodIn wsX5_rule (wsV RX5 102 RX5 yX5_oddsOf wsX5_oddsOf) := goodIn_app (goodIn_of _ (by decide +kernel)) ggX5_rule_X5_oddsOf
set_option maxRecDepth 20000 in
theorem ggX5_rule_X5_of : GoodIn wsX5_rule wsX5_of := goodIn_r _ [30, 6, 31, 32, 4, 33, 50, 51, 52, 53, 54, 55, 56, 57, 58] (by decide +kernel) (by decide +kernel)
set_option maxRecDepth 20000 in
theorem gX5_rule_X5_of : GoodIn wsX5_rule (wsV RX5 41 RX5 yX5_of wsX5_of) := goodIn_app (goodIn_of _ (by decide +kernel)) ggX5_rule_X5_of
set_option maxRecDepth 20000 in
theorem ggX5_rule_X5_in : GoodIn wsX5_rule wsX5_in := goodIn_r _ [9] (by decide +kernel) (by decide +kernel)
set_option maxRecDepth 20000 in
theorem gX5_rule_X5_in : GoodIn wsX5_rule (va_wsS RX5 29 yX5_in wsX5_in) := goodIn_app (goodIn_of _ (by decide +kernel)) ggX5_rule_X5_in
theorem dX5_rule_0 : decode cX5_rule 0 = .ok (.aload_n 0, 1) := by decide +kernel
theorem dX5_rule_1 : decode cX5_rule 1 = .ok (.iload_n 1, 1) := by decide +kernel
theorem dX5_rule_2 : decode cX5_rule 2 = .ok (.invokevirtual 71, 3) := by decide +kernel
theorem dX5_rule_5 : decode cX5_rule 5 = .ok (.ifCond .ne 5, 3) := by decide +kernel
theorem dX5_rule_8 : decode cX5_rule 8 = .ok (.iconst (-1), 1) := by decide +kernel
theorem dX5_rule_9 : decode cX5_rule 9 = .ok (.ireturn, 1) := by decide +kernel
theorem dX5_rule_10 : decode cX5_rule 10 = .ok (.iload_n 2, 1) := by decide +kernel
theorem dX5_rule_11 : decode cX5_rule 11 = .ok (.tableswitch 79 5 7 #[25, 39, 45], 25) := by decide +kernel
theorem dX5_rule_36 : decode cX5_rule 36 = .ok (.aload_n 0, 1) := by decide +kernel
theorem dX5_rule_37 : decode cX5_rule 37 = .ok (.iload_n 1, 1) := by decide +kernel
theorem dX5_rule_38 : decode cX5_rule 38 = .ok (.invokevirtual 82, 3) := by decide +kernel
theorem dX5_rule_41 : decode cX5_rule 41 = .ok (.ifCond .eq 7, 3) := by decide +kernel
theorem dX5_rule_44 : decode cX5_rule 44 = .ok (.iconst 1, 1) := by decide +kernel
theorem dX5_rule_45 : decode cX5_rule 45 = .ok (.goto 4, 3) := by decide +kernel
theorem dX5_rule_48 : decode cX5_rule 48 = .ok (.iconst 0, 1) := by decide +kernel
theorem dX5_rule_49 : decode cX5_rule 49 = .ok (.ireturn, 1) := by decide +kernel
theorem dX5_rule_50 : decode cX5_rule 50 = .ok (.aload_n 0, 1) := by decide +kernel
theorem dX5_rule_51 : decode cX5_rule 51 = .ok (.iload_n 1, 1) := by decide +kernel
theorem dX5_rule_52 : decode cX5_rule 52 = .ok (.invokevirtual 102, 3) := by decide +kernel
theorem dX5_rule_55 : decode cX5_rule 55 = .ok (.ireturn, 1) := by decide +kernel
theorem dX5_rule_56 : decode cX5_rule 56 = .ok (.aload_n 0, 1) := by decide +kernel
theorem dX5_rule_57 : decode cX5_rule 57 = .ok (.iload_n 1, 1) := by decide +kernel
theorem dX5_rule_58 : decode cX5_rule 58 = .ok (.iconst 2, 1) := by decide +kernel
theorem dX5_rule_59 : decode cX5_rule 59 = .ok (.invokevirtual 41, 3) := by decide +kernel
theorem dX5_rule_62 : decode cX5_rule 62 = .ok (.iconst 5, 1) := by decide +kernel
theorem dX5_rule_63 : decode cX5_rule 63 = .ok (.if_icmp .ne 7, 3) := by decide +kernel
theorem dX5_rule_66 : decode cX5_rule 66 = .ok (.iconst 5, 1) := by decide +kernel
theorem dX5_rule_67 : decode cX5_rule 67 = .ok (.goto 4, 3) := by decide +kernel
theorem dX5_rule_70 : decode cX5_rule 70 = .ok (.iconst 1, 1) := by decide +kernel
theorem dX5_rule_71 : decode cX5_rule 71 = .ok (.aload_n 0, 1) := by decide +kernel
theorem dX5_rule_72 : decode cX5_rule 72 = .ok (.iload_n 1, 1) := by decide +kernel
theorem dX5_rule_73 : decode cX5_rule 73 = .ok (.iconst 3, 1) := by decide +kernel
theorem dX5_rule_74 : decode cX5_rule 74 = .ok (.invokevirtual 41, 3) := by decide +kernel
theorem dX5_rule_77 : decode cX5_rule 77 = .ok (.bipush 6, 2) := by decide +kernel
theorem dX5_rule_79 : decode cX5_rule 79 = .ok (.if_icmp .ne 8, 3) := by decide +kernel
theorem dX5_rule_82 : decode cX5_rule 82 = .ok (.bipush 6, 2) := by decide +kernel
theorem dX5_rule_84 : decode cX5_rule 84 = .ok (.goto 4, 3) := by decide +kernel
theorem dX5_rule_87 : decode cX5_rule 87 = .ok (.iconst 1, 1) := by decide +kernel
theorem dX5_rule_88 : decode cX5_rule 88 = .ok (.imul, 1) := by decide +kernel
theorem dX5_rule_89 : decode cX5_rule 89 = .ok (.ireturn, 1) := by decide +kernel
theorem dX5_rule_90 : decode cX5_rule 90 = .ok (.iload_n 2, 1) := by decide +kernel
theorem dX5_rule_91 : decode cX5_rule 91 = .ok (.iconst 0, 1) := by decide +kernel
theorem dX5_rule_92 : decode cX5_rule 92 = .ok (.iconst 4, 1) := by decide +kernel
theorem dX5_rule_93 : decode cX5_rule 93 = .ok (.invokestatic 29, 3) := by decide +kernel
theorem dX5_rule_96 : decode cX5_rule 96 = .ok (.ifCond .eq 12, 3) := by decide +kernel
theorem dX5_rule_99 : decode cX5_rule 99 = .ok (.aload_n 0, 1) := by decide +kernel
theorem dX5_rule_100 : decode cX5_rule 100 = .ok (.iload_n 1, 1) := by decide +kernel
theorem dX5_rule_101 : decode cX5_rule 101 = .ok (.iload_n 2, 1) := by decide +kernel
theorem dX5_rule_102 : decode cX5_rule 102 = .ok (.invokevirtual 41, 3) := by decide +kernel
theorem dX5_rule_105 : decode cX5_rule 105 = .ok (.goto 5, 3) := by decide +kernel
theorem dX5_rule_108 : decode cX5_rule 108 = .ok (.bipush (-2), 2) := by decide +kernel
theorem dX5_rule_110 : decode cX5_rule 110 = .ok (.ireturn, 1) := by decide +kernel
set_option maxRecDepth 20000 in
theorem ggX5_mayDo_X5_ofGuild : GoodIn wsX5_mayDo wsX5_ofGuild := goodIn_r _ [5] (by decide +kernel) (by decide +kernel)
set_option maxRecDepth 20000 in
theorem gX5_mayDo_X5_ofGuild : GoodIn wsX5_mayDo (va_wsS RX5 89 yX5_ofGuild wsX5_ofGuild) := goodIn_app (goodIn_of _ (by decide +kernel)) ggX5_mayDo_X5_ofGuild
set_option maxRecDepth 20000 in
theorem ggX5_mayDo_X5_leastNow : GoodIn wsX5_mayDo wsX5_leastNow := goodIn_r _ [9, 10, 11, 12, 4, 13, 1, 14, 15, 16, 17, 18, 19, 20, 21, 22, 23, 24, 25, 26, 27, 28, 29, 30, 31, 32, 33, 34, 35, 36, 37, 38, 39, 40, 41, 42] (by decide +kernel) (by decide +kernel)
set_option maxRecDepth 20000 in
theorem gX5_mayDo_X5_leastNow : GoodIn wsX5_mayDo (wsV RX5 58 RX5 yX5_leastNow wsX5_leastNow) := goodIn_app (goodIn_of _ (by decide +kernel)) ggX5_mayDo_X5_leastNow
theorem dX5_mayDo_0 : decode cX5_mayDo 0 = .ok (.iconst 0, 1) := by decide +kernel
theorem dX5_mayDo_1 : decode cX5_mayDo 1 = .ok (.istore_n 2, 1) := by decide +kernel
theorem dX5_mayDo_2 : decode cX5_mayDo 2 = .ok (.iconst 0, 1) := by decide +kernel
theorem dX5_mayDo_3 : decode cX5_mayDo 3 = .ok (.istore_n 3, 1) := by decide +kernel
theorem dX5_mayDo_4 : decode cX5_mayDo 4 = .ok (.iload_n 3, 1) := by decide +kernel
theorem dX5_mayDo_5 : decode cX5_mayDo 5 = .ok (.bipush 6, 2) := by decide +kernel
theorem dX5_mayDo_7 : decode cX5_mayDo 7 = .ok (.if_icmp .ge 47, 3) := by decide +kernel
theorem dX5_mayDo_10 : decode cX5_mayDo 10 = .ok (.iload_n 2, 1) := by decide +kernel
theorem dX5_mayDo_11 : decode cX5_mayDo 11 = .ok (.aload_n 0, 1) := by decide +kernel
theorem dX5_mayDo_12 : decode cX5_mayDo 12 = .ok (.getfield 7, 3) := by decide +kernel
theorem dX5_mayDo_15 : decode cX5_mayDo 15 = .ok (.iload_n 1, 1) := by decide +kernel
theorem dX5_mayDo_16 : decode cX5_mayDo 16 = .ok (.iconst 1, 1) := by decide +kernel
theorem dX5_mayDo_17 : decode cX5_mayDo 17 = .ok (.invokestatic 89, 3) := by decide +kernel
theorem dX5_mayDo_20 : decode cX5_mayDo 20 = .ok (.iaload, 1) := by decide +kernel
theorem dX5_mayDo_21 : decode cX5_mayDo 21 = .ok (.aload_n 0, 1) := by decide +kernel
theorem dX5_mayDo_22 : decode cX5_mayDo 22 = .ok (.aload_n 0, 1) := by decide +kernel
theorem dX5_mayDo_23 : decode cX5_mayDo 23 = .ok (.getfield 7, 3) := by decide +kernel
theorem dX5_mayDo_26 : decode cX5_mayDo 26 = .ok (.iload_n 1, 1) := by decide +kernel
theorem dX5_mayDo_27 : decode cX5_mayDo 27 = .ok (.iconst 0, 1) := by decide +kernel
theorem dX5_mayDo_28 : decode cX5_mayDo 28 = .ok (.invokestatic 89, 3) := by decide +kernel
theorem dX5_mayDo_31 : decode cX5_mayDo 31 = .ok (.iaload, 1) := by decide +kernel
theorem dX5_mayDo_32 : decode cX5_mayDo 32 = .ok (.iload_n 3, 1) := by decide +kernel
theorem dX5_mayDo_33 : decode cX5_mayDo 33 = .ok (.invokevirtual 58, 3) := by decide +kernel
theorem dX5_mayDo_36 : decode cX5_mayDo 36 = .ok (.if_icmp .lt 9, 3) := by decide +kernel
theorem dX5_mayDo_39 : decode cX5_mayDo 39 = .ok (.iconst 1, 1) := by decide +kernel
theorem dX5_mayDo_40 : decode cX5_mayDo 40 = .ok (.iload_n 3, 1) := by decide +kernel
theorem dX5_mayDo_41 : decode cX5_mayDo 41 = .ok (.ishl, 1) := by decide +kernel
theorem dX5_mayDo_42 : decode cX5_mayDo 42 = .ok (.goto 4, 3) := by decide +kernel
theorem dX5_mayDo_45 : decode cX5_mayDo 45 = .ok (.iconst 0, 1) := by decide +kernel
theorem dX5_mayDo_46 : decode cX5_mayDo 46 = .ok (.ior, 1) := by decide +kernel
theorem dX5_mayDo_47 : decode cX5_mayDo 47 = .ok (.istore_n 2, 1) := by decide +kernel
theorem dX5_mayDo_48 : decode cX5_mayDo 48 = .ok (.iinc 3 1, 3) := by decide +kernel
theorem dX5_mayDo_51 : decode cX5_mayDo 51 = .ok (.goto (-47), 3) := by decide +kernel
theorem dX5_mayDo_54 : decode cX5_mayDo 54 = .ok (.iload_n 2, 1) := by decide +kernel
theorem dX5_mayDo_55 : decode cX5_mayDo 55 = .ok (.ireturn, 1) := by decide +kernel
set_option maxRecDepth 20000 in
theorem ggX5_member_X5_isMember : GoodIn wsX5_member wsX5_isMember := goodIn_r _ [6, 1, 7, 8, 5, 9, 45, 46, 47, 48, 49, 50, 51, 52, 53] (by decide +kernel) (by decide +kernel)
set_option maxRecDepth 20000 in
theorem gX5_member_X5_isMember : GoodIn wsX5_member (wsV RX5 92 RX5 yX5_isMember wsX5_isMember) := goodIn_app (goodIn_of _ (by decide +kernel)) ggX5_member_X5_isMember
set_option maxRecDepth 20000 in
theorem ggX5_member_X5_ofGuild : GoodIn wsX5_member wsX5_ofGuild := goodIn_r _ [12] (by decide +kernel) (by decide +kernel)
set_option maxRecDepth 20000 in
theorem gX5_member_X5_ofGuild : GoodIn wsX5_member (va_wsS RX5 89 yX5_ofGuild wsX5_ofGuild) := goodIn_app (goodIn_of _ (by decide +kernel)) ggX5_member_X5_ofGuild
set_option maxRecDepth 20000 in
theorem ggX5_member_X5_mayDo : GoodIn wsX5_member wsX5_mayDo := goodIn_r _ [16, 1, 10, 11, 5, 12, 17, 18, 19, 20, 21, 22, 23, 24, 25, 26, 27, 28, 29, 30, 31, 32, 33, 34, 35, 36, 37, 38, 39, 40, 41, 42, 43, 44, 45, 46, 47, 48, 49, 50, 51, 52, 53] (by decide +kernel) (by decide +kernel)
set_option maxRecDepth 20000 in
theorem gX5_member_X5_mayDo : GoodIn wsX5_member (wsV RX5 106 RX5 yX5_mayDo wsX5_mayDo) := goodIn_app (goodIn_of _ (by decide +kernel)) ggX5_member_X5_mayDo
theorem dX5_member_0 : decode cX5_member 0 = .ok (.aload_n 0, 1) := by decide +kernel
theorem dX5_member_1 : decode cX5_member 1 = .ok (.iload_n 1, 1) := by decide +kernel
theorem dX5_member_2 : decode cX5_member 2 = .ok (.invokevirtual 92, 3) := by decide +kernel
theorem dX5_member_5 : decode cX5_member 5 = .ok (.ifCond .ne 5, 3) := by decide +kernel
theorem dX5_member_8 : decode cX5_member 8 = .ok (.iconst (-1), 1) := by decide +kernel
theorem dX5_member_9 : decode cX5_member 9 = .ok (.ireturn, 1) := by decide +kernel
theorem dX5_member_10 : decode cX5_member 10 = .ok (.iload_n 2, 1) := by decide +kernel
theorem dX5_member_11 : decode cX5_member 11 = .ok (.tableswitch 63 0 4 #[33, 33, 44, 50, 50], 33) := by decide +kernel
theorem dX5_member_44 : decode cX5_member 44 = .ok (.aload_n 0, 1) := by decide +kernel
theorem dX5_member_45 : decode cX5_member 45 = .ok (.getfield 7, 3) := by decide +kernel
theorem dX5_member_48 : decode cX5_member 48 = .ok (.iload_n 1, 1) := by decide +kernel
theorem dX5_member_49 : decode cX5_member 49 = .ok (.iload_n 2, 1) := by decide +kernel
theorem dX5_member_50 : decode cX5_member 50 = .ok (.invokestatic 89, 3) := by decide +kernel
theorem dX5_member_53 : decode cX5_member 53 = .ok (.iaload, 1) := by decide +kernel
theorem dX5_member_54 : decode cX5_member 54 = .ok (.ireturn, 1) := by decide +kernel
theorem dX5_member_55 : decode cX5_member 55 = .ok (.aload_n 0, 1) := by decide +kernel
theorem dX5_member_56 : decode cX5_member 56 = .ok (.iload_n 1, 1) := by decide +kernel
theorem dX5_member_57 : decode cX5_member 57 = .ok (.invokevirtual 106, 3) := by decide +kernel
theorem dX5_member_60 : decode cX5_member 60 = .ok (.ireturn, 1) := by decide +kernel
theorem dX5_member_61 : decode cX5_member 61 = .ok (.aload_n 0, 1) := by decide +kernel
theorem dX5_member_62 : decode cX5_member 62 = .ok (.getfield 7, 3) := by decide +kernel
theorem dX5_member_65 : decode cX5_member 65 = .ok (.iload_n 1, 1) := by decide +kernel
theorem dX5_member_66 : decode cX5_member 66 = .ok (.iload_n 2, 1) := by decide +kernel
theorem dX5_member_67 : decode cX5_member 67 = .ok (.iconst 1, 1) := by decide +kernel
theorem dX5_member_68 : decode cX5_member 68 = .ok (.isub, 1) := by decide +kernel
theorem dX5_member_69 : decode cX5_member 69 = .ok (.invokestatic 89, 3) := by decide +kernel
theorem dX5_member_72 : decode cX5_member 72 = .ok (.iaload, 1) := by decide +kernel
theorem dX5_member_73 : decode cX5_member 73 = .ok (.ireturn, 1) := by decide +kernel
theorem dX5_member_74 : decode cX5_member 74 = .ok (.bipush (-2), 2) := by decide +kernel
theorem dX5_member_76 : decode cX5_member 76 = .ok (.ireturn, 1) := by decide +kernel
set_option maxRecDepth 20000 in
theorem ggX5_allowed_X5_isAsked : GoodIn wsX5_allowed wsX5_isAsked := goodIn_r _ [4, 5, 6, 3, 7] (by decide +kernel) (by decide +kernel)
set_option maxRecDepth 20000 in
theorem gX5_allowed_X5_isAsked : GoodIn wsX5_allowed (va_wsS RX5 109 yX5_isAsked wsX5_isAsked) := goodIn_app (goodIn_of _ (by decide +kernel)) ggX5_allowed_X5_isAsked
set_option maxRecDepth 20000 in
theorem ggX5_allowed_X5_in : GoodIn wsX5_allowed wsX5_in := goodIn_r _ [7] (by decide +kernel) (by decide +kernel)
set_option maxRecDepth 20000 in
theorem gX5_allowed_X5_in : GoodIn wsX5_allowed (va_wsS RX5 29 yX5_in wsX5_in) := goodIn_app (goodIn_of _ (by decide +kernel)) ggX5_allowed_X5_in
set_option maxRecDepth 20000 in
theorem ggX5_allowed_X5_leastNow : GoodIn wsX5_allowed wsX5_leastNow := goodIn_r _ [11, 12, 13, 14, 3, 15, 16, 17, 18, 19, 20, 21, 22, 23, 24, 25, 26, 27, 28, 29, 30, 31, 32, 33, 34, 35, 36, 37, 38, 39, 40, 41, 42, 43, 44, 45] (by decide +kernel) (by decide +kernel)
set_option maxRecDepth 20000 in
theorem gX5_allowed_X5_leastNow : GoodIn wsX5_allowed (wsV RX5 58 RX5 yX5_leastNow wsX5_leastNow) := goodIn_app (goodIn_of _ (by decide +kernel)) ggX5_allowed_X5_leastNow
theorem dX5_allowed_0 : decode cX5_allowed 0 = .ok (.iload_n 1, 1) := by decide +kernel
theorem dX5_allowed_1 : decode cX5_allowed 1 = .ok (.iload_n 2, 1) := by decide +kernel
theorem dX5_allowed_2 : decode cX5_allowed 2 = .ok (.invokestatic 109, 3) := by decide +kernel
theorem dX5_allowed_5 : decode cX5_allowed 5 = .ok (.ifCond .ne 5, 3) := by decide +kernel
theorem dX5_allowed_8 : decode cX5_allowed 8 = .ok (.iconst (-1), 1) := by decide +kernel
theorem dX5_allowed_9 : decode cX5_allowed 9 = .ok (.ireturn, 1) := by decide +kernel
theorem dX5_allowed_10 : decode cX5_allowed 10 = .ok (.iload_n 3, 1) := by decide +kernel
theorem dX5_allowed_11 : decode cX5_allowed 11 = .ok (.iconst 0, 1) := by decide +kernel
theorem dX5_allowed_12 : decode cX5_allowed 12 = .ok (.bipush 9, 2) := by decide +kernel
theorem dX5_allowed_14 : decode cX5_allowed 14 = .ok (.invokestatic 29, 3) := by decide +kernel
theorem dX5_allowed_17 : decode cX5_allowed 17 = .ok (.ifCond .eq 13, 3) := by decide +kernel
theorem dX5_allowed_20 : decode cX5_allowed 20 = .ok (.iload 4, 2) := by decide +kernel
theorem dX5_allowed_22 : decode cX5_allowed 22 = .ok (.iconst 0, 1) := by decide +kernel
theorem dX5_allowed_23 : decode cX5_allowed 23 = .ok (.iconst 1, 1) := by decide +kernel
theorem dX5_allowed_24 : decode cX5_allowed 24 = .ok (.invokestatic 29, 3) := by decide +kernel
theorem dX5_allowed_27 : decode cX5_allowed 27 = .ok (.ifCond .ne 6, 3) := by decide +kernel
theorem dX5_allowed_30 : decode cX5_allowed 30 = .ok (.bipush (-2), 2) := by decide +kernel
theorem dX5_allowed_32 : decode cX5_allowed 32 = .ok (.ireturn, 1) := by decide +kernel
theorem dX5_allowed_33 : decode cX5_allowed 33 = .ok (.iload_n 3, 1) := by decide +kernel
theorem dX5_allowed_34 : decode cX5_allowed 34 = .ok (.aload_n 0, 1) := by decide +kernel
theorem dX5_allowed_35 : decode cX5_allowed 35 = .ok (.iload_n 1, 1) := by decide +kernel
theorem dX5_allowed_36 : decode cX5_allowed 36 = .ok (.iload_n 2, 1) := by decide +kernel
theorem dX5_allowed_37 : decode cX5_allowed 37 = .ok (.invokevirtual 58, 3) := by decide +kernel
theorem dX5_allowed_40 : decode cX5_allowed 40 = .ok (.if_icmp .lt 7, 3) := by decide +kernel
theorem dX5_allowed_43 : decode cX5_allowed 43 = .ok (.iconst 1, 1) := by decide +kernel
theorem dX5_allowed_44 : decode cX5_allowed 44 = .ok (.goto 4, 3) := by decide +kernel
theorem dX5_allowed_47 : decode cX5_allowed 47 = .ok (.iconst 0, 1) := by decide +kernel
theorem dX5_allowed_48 : decode cX5_allowed 48 = .ok (.ireturn, 1) := by decide +kernel
set_option maxRecDepth 20000 in
theorem ggX5_why_X5_isAsked : GoodIn wsX5_why wsX5_isAsked := goodIn_r _ [4, 5, 6, 3, 7] (by decide +kernel) (by decide +kernel)
set_option maxRecDepth 20000 in
theorem gX5_why_X5_isAsked : GoodIn wsX5_why (va_wsS RX5 109 yX5_isAsked wsX5_isAsked) := goodIn_app (goodIn_of _ (by decide +kernel)) ggX5_why_X5_isAsked
set_option maxRecDepth 20000 in
theorem ggX5_why_X5_in : GoodIn wsX5_why wsX5_in := goodIn_r _ [7] (by decide +kernel) (by decide +kernel)
set_option maxRecDepth 20000 in
theorem gX5_why_X5_in : GoodIn wsX5_why (va_wsS RX5 29 yX5_in wsX5_in) := goodIn_app (goodIn_of _ (by decide +kernel)) ggX5_why_X5_in
set_option maxRecDepth 20000 in
theorem ggX5_why_X5_reason : GoodIn wsX5_why wsX5_reason := goodIn_r _ [11, 12, 13, 14, 15, 16, 3, 17, 18, 19, 20, 21, 22, 23, 24, 25, 26, 27, 28, 29, 30, 31, 32, 33, 34, 35, 36, 37, 38, 39, 40, 41, 42, 43, 44, 45, 46, 47, 48, 49] (by decide +kernel) (by decide +kernel)
set_option maxRecDepth 20000 in
theorem gX5_why_X5_reason : GoodIn wsX5_why (wsV RX5 95 RX5 yX5_reason wsX5_reason) := goodIn_app (goodIn_of _ (by decide +kernel)) ggX5_why_X5_reason
theorem dX5_why_0 : decode cX5_why 0 = .ok (.iload_n 1, 1) := by decide +kernel
theorem dX5_why_1 : decode cX5_why 1 = .ok (.iload_n 2, 1) := by decide +kernel
theorem dX5_why_2 : decode cX5_why 2 = .ok (.invokestatic 109, 3) := by decide +kernel
theorem dX5_why_5 : decode cX5_why 5 = .ok (.ifCond .ne 5, 3) := by decide +kernel
theorem dX5_why_8 : decode cX5_why 8 = .ok (.iconst (-1), 1) := by decide +kernel
theorem dX5_why_9 : decode cX5_why 9 = .ok (.ireturn, 1) := by decide +kernel
theorem dX5_why_10 : decode cX5_why 10 = .ok (.iload_n 3, 1) := by decide +kernel
theorem dX5_why_11 : decode cX5_why 11 = .ok (.iconst 0, 1) := by decide +kernel
theorem dX5_why_12 : decode cX5_why 12 = .ok (.bipush 9, 2) := by decide +kernel
theorem dX5_why_14 : decode cX5_why 14 = .ok (.invokestatic 29, 3) := by decide +kernel
theorem dX5_why_17 : decode cX5_why 17 = .ok (.ifCond .eq 13, 3) := by decide +kernel
theorem dX5_why_20 : decode cX5_why 20 = .ok (.aload_n 0, 1) := by decide +kernel
theorem dX5_why_21 : decode cX5_why 21 = .ok (.iload_n 1, 1) := by decide +kernel
theorem dX5_why_22 : decode cX5_why 22 = .ok (.iload_n 2, 1) := by decide +kernel
theorem dX5_why_23 : decode cX5_why 23 = .ok (.iload_n 3, 1) := by decide +kernel
theorem dX5_why_24 : decode cX5_why 24 = .ok (.invokevirtual 95, 3) := by decide +kernel
theorem dX5_why_27 : decode cX5_why 27 = .ok (.goto 5, 3) := by decide +kernel
theorem dX5_why_30 : decode cX5_why 30 = .ok (.bipush (-2), 2) := by decide +kernel
theorem dX5_why_32 : decode cX5_why 32 = .ok (.ireturn, 1) := by decide +kernel
set_option maxRecDepth 20000 in
theorem ggX5_sumOf_X5_oddsOf : GoodIn wsX5_sumOf wsX5_oddsOf := goodIn_r _ [6, 1, 7, 8, 9, 5, 10, 11, 12, 13, 14, 15, 16, 17, 43, 44, 45, 46, 47, 48, 49, 50, 51] (by decide +kernel) (by decide +kernel)
set_option maxRecDepth 20000 in
theorem gX5_sumOf_X5_oddsOf : GoodIn wsX5_sumOf (wsV RX5 102 RX5 yX5_oddsOf wsX5_oddsOf) := goodIn_app (goodIn_of _ (by decide +kernel)) ggX5_sumOf_X5_oddsOf
set_option maxRecDepth 20000 in
theorem ggX5_sumOf_X5_isIdle : GoodIn wsX5_sumOf wsX5_isIdle := goodIn_r _ [21, 22, 23, 24, 5, 25, 26, 27, 28, 29, 1, 30, 31, 32, 33, 34, 11, 12, 13, 14, 15, 16, 17, 35, 36, 37, 38, 39, 40, 41, 42, 43, 44, 45, 46, 47, 48, 49, 50, 51] (by decide +kernel) (by decide +kernel)
set_option maxRecDepth 20000 in
theorem gX5_sumOf_X5_isIdle : GoodIn wsX5_sumOf (wsV RX5 82 RX5 yX5_isIdle wsX5_isIdle) := goodIn_app (goodIn_of _ (by decide +kernel)) ggX5_sumOf_X5_isIdle
set_option maxRecDepth 20000 in
theorem ggX5_sumOf_X5_of : GoodIn wsX5_sumOf wsX5_of := goodIn_r _ [14, 1, 15, 16, 5, 17, 43, 44, 45, 46, 47, 48, 49, 50, 51] (by decide +kernel) (by decide +kernel)
set_option maxRecDepth 20000 in
theorem gX5_sumOf_X5_of : GoodIn wsX5_sumOf (wsV RX5 41 RX5 yX5_of wsX5_of) := goodIn_app (goodIn_of _ (by decide +kernel)) ggX5_sumOf_X5_of
theorem dX5_sumOf_0 : decode cX5_sumOf 0 = .ok (.iconst 0, 1) := by decide +kernel
theorem dX5_sumOf_1 : decode cX5_sumOf 1 = .ok (.istore_n 2, 1) := by decide +kernel
theorem dX5_sumOf_2 : decode cX5_sumOf 2 = .ok (.iconst 0, 1) := by decide +kernel
theorem dX5_sumOf_3 : decode cX5_sumOf 3 = .ok (.istore_n 3, 1) := by decide +kernel
theorem dX5_sumOf_4 : decode cX5_sumOf 4 = .ok (.iload_n 3, 1) := by decide +kernel
theorem dX5_sumOf_5 : decode cX5_sumOf 5 = .ok (.aload_n 0, 1) := by decide +kernel
theorem dX5_sumOf_6 : decode cX5_sumOf 6 = .ok (.getfield 7, 3) := by decide +kernel
theorem dX5_sumOf_9 : decode cX5_sumOf 9 = .ok (.iconst 0, 1) := by decide +kernel
theorem dX5_sumOf_10 : decode cX5_sumOf 10 = .ok (.iaload, 1) := by decide +kernel
theorem dX5_sumOf_11 : decode cX5_sumOf 11 = .ok (.if_icmp .ge 63, 3) := by decide +kernel
theorem dX5_sumOf_14 : decode cX5_sumOf 14 = .ok (.iload_n 2, 1) := by decide +kernel
theorem dX5_sumOf_15 : decode cX5_sumOf 15 = .ok (.iload_n 1, 1) := by decide +kernel
theorem dX5_sumOf_16 : decode cX5_sumOf 16 = .ok (.iconst 5, 1) := by decide +kernel
theorem dX5_sumOf_17 : decode cX5_sumOf 17 = .ok (.if_icmp .ne 11, 3) := by decide +kernel
theorem dX5_sumOf_20 : decode cX5_sumOf 20 = .ok (.aload_n 0, 1) := by decide +kernel
theorem dX5_sumOf_21 : decode cX5_sumOf 21 = .ok (.iload_n 3, 1) := by decide +kernel
theorem dX5_sumOf_22 : decode cX5_sumOf 22 = .ok (.invokevirtual 102, 3) := by decide +kernel
theorem dX5_sumOf_25 : decode cX5_sumOf 25 = .ok (.goto 41, 3) := by decide +kernel
theorem dX5_sumOf_28 : decode cX5_sumOf 28 = .ok (.iload_n 1, 1) := by decide +kernel
theorem dX5_sumOf_29 : decode cX5_sumOf 29 = .ok (.iconst 4, 1) := by decide +kernel
theorem dX5_sumOf_30 : decode cX5_sumOf 30 = .ok (.if_icmp .ne 19, 3) := by decide +kernel
theorem dX5_sumOf_33 : decode cX5_sumOf 33 = .ok (.aload_n 0, 1) := by decide +kernel
theorem dX5_sumOf_34 : decode cX5_sumOf 34 = .ok (.iload_n 3, 1) := by decide +kernel
theorem dX5_sumOf_35 : decode cX5_sumOf 35 = .ok (.invokevirtual 82, 3) := by decide +kernel
theorem dX5_sumOf_38 : decode cX5_sumOf 38 = .ok (.ifCond .eq 7, 3) := by decide +kernel
theorem dX5_sumOf_41 : decode cX5_sumOf 41 = .ok (.iconst 1, 1) := by decide +kernel
theorem dX5_sumOf_42 : decode cX5_sumOf 42 = .ok (.goto 24, 3) := by decide +kernel
theorem dX5_sumOf_45 : decode cX5_sumOf 45 = .ok (.iconst 0, 1) := by decide +kernel
theorem dX5_sumOf_46 : decode cX5_sumOf 46 = .ok (.goto 20, 3) := by decide +kernel
theorem dX5_sumOf_49 : decode cX5_sumOf 49 = .ok (.aload_n 0, 1) := by decide +kernel
theorem dX5_sumOf_50 : decode cX5_sumOf 50 = .ok (.iload_n 3, 1) := by decide +kernel
theorem dX5_sumOf_51 : decode cX5_sumOf 51 = .ok (.iconst 1, 1) := by decide +kernel
theorem dX5_sumOf_52 : decode cX5_sumOf 52 = .ok (.invokevirtual 41, 3) := by decide +kernel
theorem dX5_sumOf_55 : decode cX5_sumOf 55 = .ok (.iload_n 1, 1) := by decide +kernel
theorem dX5_sumOf_56 : decode cX5_sumOf 56 = .ok (.iconst 1, 1) := by decide +kernel
theorem dX5_sumOf_57 : decode cX5_sumOf 57 = .ok (.isub, 1) := by decide +kernel
theorem dX5_sumOf_58 : decode cX5_sumOf 58 = .ok (.if_icmp .ne 7, 3) := by decide +kernel
theorem dX5_sumOf_61 : decode cX5_sumOf 61 = .ok (.iconst 1, 1) := by decide +kernel
theorem dX5_sumOf_62 : decode cX5_sumOf 62 = .ok (.goto 4, 3) := by decide +kernel
theorem dX5_sumOf_65 : decode cX5_sumOf 65 = .ok (.iconst 0, 1) := by decide +kernel
theorem dX5_sumOf_66 : decode cX5_sumOf 66 = .ok (.iadd, 1) := by decide +kernel
theorem dX5_sumOf_67 : decode cX5_sumOf 67 = .ok (.istore_n 2, 1) := by decide +kernel
theorem dX5_sumOf_68 : decode cX5_sumOf 68 = .ok (.iinc 3 1, 3) := by decide +kernel
theorem dX5_sumOf_71 : decode cX5_sumOf 71 = .ok (.goto (-67), 3) := by decide +kernel
theorem dX5_sumOf_74 : decode cX5_sumOf 74 = .ok (.iload_n 2, 1) := by decide +kernel
theorem dX5_sumOf_75 : decode cX5_sumOf 75 = .ok (.ireturn, 1) := by decide +kernel
set_option maxRecDepth 20000 in
theorem ggX5_count_X5_sumOf : GoodIn wsX5_count wsX5_sumOf := goodIn_r _ [8, 1, 9, 10, 11, 7, 12, 13, 14, 15, 16, 17, 18, 19, 20, 21, 22, 23, 24, 25, 26, 27, 28, 29, 30, 31, 32, 33, 34, 35, 36, 37, 38, 39, 40, 41, 42, 43, 44, 45, 46, 47, 48, 57, 58, 59, 60, 61, 62, 63, 64, 65] (by decide +kernel) (by decide +kernel)
set_option maxRecDepth 20000 in
theorem gX5_count_X5_sumOf : GoodIn wsX5_count (wsV RX5 112 RX5 yX5_sumOf wsX5_sumOf) := goodIn_app (goodIn_of _ (by decide +kernel)) ggX5_count_X5_sumOf
set_option maxRecDepth 20000 in
theorem ggX5_count_X5_triplesNow : GoodIn wsX5_count wsX5_triplesNow := goodIn_r _ [52, 53, 54, 55, 7, 56, 32, 33, 34, 35, 1, 36, 37, 38, 39, 40, 17, 18, 19, 20, 21, 22, 23, 41, 42, 43, 44, 45, 46, 47, 48, 57, 58, 59, 60, 61, 62, 63, 64, 65] (by decide +kernel) (by decide +kernel)
set_option maxRecDepth 20000 in
theorem gX5_count_X5_triplesNow : GoodIn wsX5_count (wsV RX5 115 RX5 yX5_triplesNow wsX5_triplesNow) := goodIn_app (goodIn_of _ (by decide +kernel)) ggX5_count_X5_triplesNow
theorem dX5_count_0 : decode cX5_count 0 = .ok (.iload_n 1, 1) := by decide +kernel
theorem dX5_count_1 : decode cX5_count 1 = .ok (.tableswitch 138 0 16 #[83, 90, 90, 90, 90, 96, 104, 109, 116, 116, 116, 116, 116, 116, 116, 128, 133], 83) := by decide +kernel
theorem dX5_count_84 : decode cX5_count 84 = .ok (.aload_n 0, 1) := by decide +kernel
theorem dX5_count_85 : decode cX5_count 85 = .ok (.getfield 7, 3) := by decide +kernel
theorem dX5_count_88 : decode cX5_count 88 = .ok (.iconst 0, 1) := by decide +kernel
theorem dX5_count_89 : decode cX5_count 89 = .ok (.iaload, 1) := by decide +kernel
theorem dX5_count_90 : decode cX5_count 90 = .ok (.ireturn, 1) := by decide +kernel
theorem dX5_count_91 : decode cX5_count 91 = .ok (.aload_n 0, 1) := by decide +kernel
theorem dX5_count_92 : decode cX5_count 92 = .ok (.iload_n 1, 1) := by decide +kernel
theorem dX5_count_93 : decode cX5_count 93 = .ok (.invokevirtual 112, 3) := by decide +kernel
theorem dX5_count_96 : decode cX5_count 96 = .ok (.ireturn, 1) := by decide +kernel
theorem dX5_count_97 : decode cX5_count 97 = .ok (.aload_n 0, 1) := by decide +kernel
theorem dX5_count_98 : decode cX5_count 98 = .ok (.iconst 5, 1) := by decide +kernel
theorem dX5_count_99 : decode cX5_count 99 = .ok (.invokevirtual 112, 3) := by decide +kernel
theorem dX5_count_102 : decode cX5_count 102 = .ok (.iconst 2, 1) := by decide +kernel
theorem dX5_count_103 : decode cX5_count 103 = .ok (.idiv, 1) := by decide +kernel
theorem dX5_count_104 : decode cX5_count 104 = .ok (.ireturn, 1) := by decide +kernel
theorem dX5_count_105 : decode cX5_count 105 = .ok (.aload_n 0, 1) := by decide +kernel
theorem dX5_count_106 : decode cX5_count 106 = .ok (.invokevirtual 115, 3) := by decide +kernel
theorem dX5_count_109 : decode cX5_count 109 = .ok (.ireturn, 1) := by decide +kernel
theorem dX5_count_110 : decode cX5_count 110 = .ok (.aload_n 0, 1) := by decide +kernel
theorem dX5_count_111 : decode cX5_count 111 = .ok (.getfield 7, 3) := by decide +kernel
theorem dX5_count_114 : decode cX5_count 114 = .ok (.iconst 1, 1) := by decide +kernel
theorem dX5_count_115 : decode cX5_count 115 = .ok (.iaload, 1) := by decide +kernel
theorem dX5_count_116 : decode cX5_count 116 = .ok (.ireturn, 1) := by decide +kernel
theorem dX5_count_117 : decode cX5_count 117 = .ok (.aload_n 0, 1) := by decide +kernel
theorem dX5_count_118 : decode cX5_count 118 = .ok (.getfield 7, 3) := by decide +kernel
theorem dX5_count_121 : decode cX5_count 121 = .ok (.iconst 2, 1) := by decide +kernel
theorem dX5_count_122 : decode cX5_count 122 = .ok (.iload_n 1, 1) := by decide +kernel
theorem dX5_count_123 : decode cX5_count 123 = .ok (.iadd, 1) := by decide +kernel
theorem dX5_count_124 : decode cX5_count 124 = .ok (.bipush 8, 2) := by decide +kernel
theorem dX5_count_126 : decode cX5_count 126 = .ok (.isub, 1) := by decide +kernel
theorem dX5_count_127 : decode cX5_count 127 = .ok (.iaload, 1) := by decide +kernel
theorem dX5_count_128 : decode cX5_count 128 = .ok (.ireturn, 1) := by decide +kernel
theorem dX5_count_129 : decode cX5_count 129 = .ok (.aload_n 0, 1) := by decide +kernel
theorem dX5_count_130 : decode cX5_count 130 = .ok (.getfield 118, 3) := by decide +kernel
theorem dX5_count_133 : decode cX5_count 133 = .ok (.ireturn, 1) := by decide +kernel
theorem dX5_count_134 : decode cX5_count 134 = .ok (.aload_n 0, 1) := by decide +kernel
theorem dX5_count_135 : decode cX5_count 135 = .ok (.getfield 37, 3) := by decide +kernel
theorem dX5_count_138 : decode cX5_count 138 = .ok (.ireturn, 1) := by decide +kernel
theorem dX5_count_139 : decode cX5_count 139 = .ok (.bipush (-2), 2) := by decide +kernel
theorem dX5_count_141 : decode cX5_count 141 = .ok (.ireturn, 1) := by decide +kernel
set_option maxRecDepth 20000 in
theorem ggX5_leastRank_X5_isAsked : GoodIn wsX5_leastRank wsX5_isAsked := goodIn_r _ [4, 5, 6, 3, 7] (by decide +kernel) (by decide +kernel)
set_option maxRecDepth 20000 in
theorem gX5_leastRank_X5_isAsked : GoodIn wsX5_leastRank (va_wsS RX5 109 yX5_isAsked wsX5_isAsked) := goodIn_app (goodIn_of _ (by decide +kernel)) ggX5_leastRank_X5_isAsked
set_option maxRecDepth 20000 in
theorem ggX5_leastRank_X5_leastNow : GoodIn wsX5_leastRank wsX5_leastNow := goodIn_r _ [11, 12, 13, 14, 3, 15, 16, 17, 18, 19, 20, 21, 22, 23, 24, 25, 26, 27, 28, 29, 30, 31, 32, 33, 34, 35, 36, 37, 38, 39, 40, 41, 42, 43, 44, 45] (by decide +kernel) (by decide +kernel)
set_option maxRecDepth 20000 in
theorem gX5_leastRank_X5_leastNow : GoodIn wsX5_leastRank (wsV RX5 58 RX5 yX5_leastNow wsX5_leastNow) := goodIn_app (goodIn_of _ (by decide +kernel)) ggX5_leastRank_X5_leastNow
theorem dX5_leastRank_0 : decode cX5_leastRank 0 = .ok (.iload_n 1, 1) := by decide +kernel
theorem dX5_leastRank_1 : decode cX5_leastRank 1 = .ok (.iload_n 2, 1) := by decide +kernel
theorem dX5_leastRank_2 : decode cX5_leastRank 2 = .ok (.invokestatic 109, 3) := by decide +kernel
theorem dX5_leastRank_5 : decode cX5_leastRank 5 = .ok (.ifCond .ne 5, 3) := by decide +kernel
theorem dX5_leastRank_8 : decode cX5_leastRank 8 = .ok (.iconst (-1), 1) := by decide +kernel
theorem dX5_leastRank_9 : decode cX5_leastRank 9 = .ok (.ireturn, 1) := by decide +kernel
theorem dX5_leastRank_10 : decode cX5_leastRank 10 = .ok (.aload_n 0, 1) := by decide +kernel
theorem dX5_leastRank_11 : decode cX5_leastRank 11 = .ok (.iload_n 1, 1) := by decide +kernel
theorem dX5_leastRank_12 : decode cX5_leastRank 12 = .ok (.iload_n 2, 1) := by decide +kernel
theorem dX5_leastRank_13 : decode cX5_leastRank 13 = .ok (.invokevirtual 58, 3) := by decide +kernel
theorem dX5_leastRank_16 : decode cX5_leastRank 16 = .ok (.istore_n 3, 1) := by decide +kernel
theorem dX5_leastRank_17 : decode cX5_leastRank 17 = .ok (.iload_n 3, 1) := by decide +kernel
theorem dX5_leastRank_18 : decode cX5_leastRank 18 = .ok (.bipush 10, 2) := by decide +kernel
theorem dX5_leastRank_20 : decode cX5_leastRank 20 = .ok (.if_icmp .ne 8, 3) := by decide +kernel
theorem dX5_leastRank_23 : decode cX5_leastRank 23 = .ok (.bipush (-6), 2) := by decide +kernel
theorem dX5_leastRank_25 : decode cX5_leastRank 25 = .ok (.goto 4, 3) := by decide +kernel
theorem dX5_leastRank_28 : decode cX5_leastRank 28 = .ok (.iload_n 3, 1) := by decide +kernel
theorem dX5_leastRank_29 : decode cX5_leastRank 29 = .ok (.ireturn, 1) := by decide +kernel
set_option maxRecDepth 20000 in
theorem ggX5_ifStruck_X5_isRule : GoodIn wsX5_ifStruck wsX5_isRule := goodIn_r _ [5, 6, 7, 8, 4, 9, 42, 43, 44, 45, 46, 47, 48, 49, 50] (by decide +kernel) (by decide +kernel)
set_option maxRecDepth 20000 in
theorem gX5_ifStruck_X5_isRule : GoodIn wsX5_ifStruck (wsV RX5 71 RX5 yX5_isRule wsX5_isRule) := goodIn_app (goodIn_of _ (by decide +kernel)) ggX5_ifStruck_X5_isRule
set_option maxRecDepth 20000 in
theorem ggX5_ifStruck_X5_triples : GoodIn wsX5_ifStruck wsX5_triples := goodIn_r _ [13, 14, 15, 16, 4, 17, 6, 18, 19, 20, 21, 22, 23, 24, 25, 26, 27, 28, 29, 30, 31, 32, 33, 34, 35, 36, 37, 42, 43, 44, 45, 46, 47, 48, 49, 50] (by decide +kernel) (by decide +kernel)
set_option maxRecDepth 20000 in
theorem gX5_ifStruck_X5_triples : GoodIn wsX5_ifStruck (wsV RX5 61 RX5 yX5_triples wsX5_triples) := goodIn_app (goodIn_of _ (by decide +kernel)) ggX5_ifStruck_X5_triples
set_option maxRecDepth 20000 in
theorem ggX5_ifStruck_X5_triplesNow : GoodIn wsX5_ifStruck wsX5_triplesNow := goodIn_r _ [41, 10, 11, 12, 4, 13, 14, 15, 16, 17, 6, 18, 19, 20, 21, 22, 23, 24, 25, 26, 27, 28, 29, 30, 31, 32, 33, 34, 35, 36, 37, 42, 43, 44, 45, 46, 47, 48, 49, 50] (by decide +kernel) (by decide +kernel)
set_option maxRecDepth 20000 in
theorem gX5_ifStruck_X5_triplesNow : GoodIn wsX5_ifStruck (wsV RX5 115 RX5 yX5_triplesNow wsX5_triplesNow) := goodIn_app (goodIn_of _ (by decide +kernel)) ggX5_ifStruck_X5_triplesNow
theorem dX5_ifStruck_0 : decode cX5_ifStruck 0 = .ok (.aload_n 0, 1) := by decide +kernel
theorem dX5_ifStruck_1 : decode cX5_ifStruck 1 = .ok (.iload_n 1, 1) := by decide +kernel
theorem dX5_ifStruck_2 : decode cX5_ifStruck 2 = .ok (.invokevirtual 71, 3) := by decide +kernel
theorem dX5_ifStruck_5 : decode cX5_ifStruck 5 = .ok (.ifCond .eq 23, 3) := by decide +kernel
theorem dX5_ifStruck_8 : decode cX5_ifStruck 8 = .ok (.sipush 1000, 3) := by decide +kernel
theorem dX5_ifStruck_11 : decode cX5_ifStruck 11 = .ok (.aload_n 0, 1) := by decide +kernel
theorem dX5_ifStruck_12 : decode cX5_ifStruck 12 = .ok (.iload_n 1, 1) := by decide +kernel
theorem dX5_ifStruck_13 : decode cX5_ifStruck 13 = .ok (.bipush (-6), 2) := by decide +kernel
theorem dX5_ifStruck_15 : decode cX5_ifStruck 15 = .ok (.iconst 0, 1) := by decide +kernel
theorem dX5_ifStruck_16 : decode cX5_ifStruck 16 = .ok (.invokevirtual 61, 3) := by decide +kernel
theorem dX5_ifStruck_19 : decode cX5_ifStruck 19 = .ok (.iadd, 1) := by decide +kernel
theorem dX5_ifStruck_20 : decode cX5_ifStruck 20 = .ok (.aload_n 0, 1) := by decide +kernel
theorem dX5_ifStruck_21 : decode cX5_ifStruck 21 = .ok (.invokevirtual 115, 3) := by decide +kernel
theorem dX5_ifStruck_24 : decode cX5_ifStruck 24 = .ok (.isub, 1) := by decide +kernel
theorem dX5_ifStruck_25 : decode cX5_ifStruck 25 = .ok (.goto 4, 3) := by decide +kernel
theorem dX5_ifStruck_28 : decode cX5_ifStruck 28 = .ok (.iconst (-1), 1) := by decide +kernel
theorem dX5_ifStruck_29 : decode cX5_ifStruck 29 = .ok (.ireturn, 1) := by decide +kernel
set_option maxRecDepth 20000 in
theorem ggX5_worstBan_X5_of : GoodIn wsX5_worstBan wsX5_of := goodIn_r _ [6, 1, 7, 8, 5, 9, 31, 32, 33, 34, 35, 36, 37, 38, 39] (by decide +kernel) (by decide +kernel)
set_option maxRecDepth 20000 in
theorem gX5_worstBan_X5_of : GoodIn wsX5_worstBan (wsV RX5 41 RX5 yX5_of wsX5_of) := goodIn_app (goodIn_of _ (by decide +kernel)) ggX5_worstBan_X5_of
set_option maxRecDepth 20000 in
theorem ggX5_worstBan_X5_triples : GoodIn wsX5_worstBan wsX5_triples := goodIn_r _ [13, 14, 15, 16, 5, 17, 1, 18, 19, 20, 21, 22, 2, 3, 4, 6, 7, 8, 9, 23, 24, 25, 26, 27, 28, 29, 30, 31, 32, 33, 34, 35, 36, 37, 38, 39] (by decide +kernel) (by decide +kernel)
set_option maxRecDepth 20000 in
theorem gX5_worstBan_X5_triples : GoodIn wsX5_worstBan (wsV RX5 61 RX5 yX5_triples wsX5_triples) := goodIn_app (goodIn_of _ (by decide +kernel)) ggX5_worstBan_X5_triples
theorem dX5_worstBan_0 : decode cX5_worstBan 0 = .ok (.bipush (-6), 2) := by decide +kernel
theorem dX5_worstBan_2 : decode cX5_worstBan 2 = .ok (.istore_n 1, 1) := by decide +kernel
theorem dX5_worstBan_3 : decode cX5_worstBan 3 = .ok (.iconst 0, 1) := by decide +kernel
theorem dX5_worstBan_4 : decode cX5_worstBan 4 = .ok (.istore_n 2, 1) := by decide +kernel
theorem dX5_worstBan_5 : decode cX5_worstBan 5 = .ok (.iconst 0, 1) := by decide +kernel
theorem dX5_worstBan_6 : decode cX5_worstBan 6 = .ok (.istore_n 3, 1) := by decide +kernel
theorem dX5_worstBan_7 : decode cX5_worstBan 7 = .ok (.iload_n 3, 1) := by decide +kernel
theorem dX5_worstBan_8 : decode cX5_worstBan 8 = .ok (.aload_n 0, 1) := by decide +kernel
theorem dX5_worstBan_9 : decode cX5_worstBan 9 = .ok (.getfield 7, 3) := by decide +kernel
theorem dX5_worstBan_12 : decode cX5_worstBan 12 = .ok (.iconst 0, 1) := by decide +kernel
theorem dX5_worstBan_13 : decode cX5_worstBan 13 = .ok (.iaload, 1) := by decide +kernel
theorem dX5_worstBan_14 : decode cX5_worstBan 14 = .ok (.if_icmp .ge 71, 3) := by decide +kernel
theorem dX5_worstBan_17 : decode cX5_worstBan 17 = .ok (.aload_n 0, 1) := by decide +kernel
theorem dX5_worstBan_18 : decode cX5_worstBan 18 = .ok (.iload_n 3, 1) := by decide +kernel
theorem dX5_worstBan_19 : decode cX5_worstBan 19 = .ok (.iconst 1, 1) := by decide +kernel
theorem dX5_worstBan_20 : decode cX5_worstBan 20 = .ok (.invokevirtual 41, 3) := by decide +kernel
theorem dX5_worstBan_23 : decode cX5_worstBan 23 = .ok (.iconst 1, 1) := by decide +kernel
theorem dX5_worstBan_24 : decode cX5_worstBan 24 = .ok (.if_icmp .ne 55, 3) := by decide +kernel
theorem dX5_worstBan_27 : decode cX5_worstBan 27 = .ok (.aload_n 0, 1) := by decide +kernel
theorem dX5_worstBan_28 : decode cX5_worstBan 28 = .ok (.iload_n 3, 1) := by decide +kernel
theorem dX5_worstBan_29 : decode cX5_worstBan 29 = .ok (.bipush (-6), 2) := by decide +kernel
theorem dX5_worstBan_31 : decode cX5_worstBan 31 = .ok (.iconst 0, 1) := by decide +kernel
theorem dX5_worstBan_32 : decode cX5_worstBan 32 = .ok (.invokevirtual 61, 3) := by decide +kernel
theorem dX5_worstBan_35 : decode cX5_worstBan 35 = .ok (.istore 4, 2) := by decide +kernel
theorem dX5_worstBan_37 : decode cX5_worstBan 37 = .ok (.iload_n 1, 1) := by decide +kernel
theorem dX5_worstBan_38 : decode cX5_worstBan 38 = .ok (.bipush (-6), 2) := by decide +kernel
theorem dX5_worstBan_40 : decode cX5_worstBan 40 = .ok (.if_icmp .eq 9, 3) := by decide +kernel
theorem dX5_worstBan_43 : decode cX5_worstBan 43 = .ok (.iload 4, 2) := by decide +kernel
theorem dX5_worstBan_45 : decode cX5_worstBan 45 = .ok (.iload_n 2, 1) := by decide +kernel
theorem dX5_worstBan_46 : decode cX5_worstBan 46 = .ok (.if_icmp .le 7, 3) := by decide +kernel
theorem dX5_worstBan_49 : decode cX5_worstBan 49 = .ok (.iconst 1, 1) := by decide +kernel
theorem dX5_worstBan_50 : decode cX5_worstBan 50 = .ok (.goto 4, 3) := by decide +kernel
theorem dX5_worstBan_53 : decode cX5_worstBan 53 = .ok (.iconst 0, 1) := by decide +kernel
theorem dX5_worstBan_54 : decode cX5_worstBan 54 = .ok (.istore 5, 2) := by decide +kernel
theorem dX5_worstBan_56 : decode cX5_worstBan 56 = .ok (.iload 5, 2) := by decide +kernel
theorem dX5_worstBan_58 : decode cX5_worstBan 58 = .ok (.ifCond .eq 7, 3) := by decide +kernel
theorem dX5_worstBan_61 : decode cX5_worstBan 61 = .ok (.iload_n 3, 1) := by decide +kernel
theorem dX5_worstBan_62 : decode cX5_worstBan 62 = .ok (.goto 4, 3) := by decide +kernel
theorem dX5_worstBan_65 : decode cX5_worstBan 65 = .ok (.iload_n 1, 1) := by decide +kernel
theorem dX5_worstBan_66 : decode cX5_worstBan 66 = .ok (.istore_n 1, 1) := by decide +kernel
theorem dX5_worstBan_67 : decode cX5_worstBan 67 = .ok (.iload 5, 2) := by decide +kernel
theorem dX5_worstBan_69 : decode cX5_worstBan 69 = .ok (.ifCond .eq 8, 3) := by decide +kernel
theorem dX5_worstBan_72 : decode cX5_worstBan 72 = .ok (.iload 4, 2) := by decide +kernel
theorem dX5_worstBan_74 : decode cX5_worstBan 74 = .ok (.goto 4, 3) := by decide +kernel
theorem dX5_worstBan_77 : decode cX5_worstBan 77 = .ok (.iload_n 2, 1) := by decide +kernel
theorem dX5_worstBan_78 : decode cX5_worstBan 78 = .ok (.istore_n 2, 1) := by decide +kernel
theorem dX5_worstBan_79 : decode cX5_worstBan 79 = .ok (.iinc 3 1, 3) := by decide +kernel
theorem dX5_worstBan_82 : decode cX5_worstBan 82 = .ok (.goto (-75), 3) := by decide +kernel
theorem dX5_worstBan_85 : decode cX5_worstBan 85 = .ok (.iload_n 1, 1) := by decide +kernel
theorem dX5_worstBan_86 : decode cX5_worstBan 86 = .ok (.ireturn, 1) := by decide +kernel
set_option maxRecDepth 20000 in
theorem ggX5_bestWaiver_X5_in : GoodIn wsX5_bestWaiver wsX5_in := goodIn_r _ [4] (by decide +kernel) (by decide +kernel)
set_option maxRecDepth 20000 in
theorem gX5_bestWaiver_X5_in : GoodIn wsX5_bestWaiver (va_wsS RX5 29 yX5_in wsX5_in) := goodIn_app (goodIn_of _ (by decide +kernel)) ggX5_bestWaiver_X5_in
set_option maxRecDepth 20000 in
theorem ggX5_bestWaiver_X5_triples : GoodIn wsX5_bestWaiver wsX5_triples := goodIn_r _ [8, 9, 10, 11, 3, 12, 13, 14, 15, 16, 17, 18, 19, 20, 21, 22, 23, 24, 25, 26, 27, 28, 29, 30, 31, 32, 33, 34, 35, 36, 37, 38, 39, 40, 41, 42] (by decide +kernel) (by decide +kernel)
set_option maxRecDepth 20000 in
theorem gX5_bestWaiver_X5_triples : GoodIn wsX5_bestWaiver (wsV RX5 61 RX5 yX5_triples wsX5_triples) := goodIn_app (goodIn_of _ (by decide +kernel)) ggX5_bestWaiver_X5_triples
theorem dX5_bestWaiver_0 : decode cX5_bestWaiver 0 = .ok (.iload_n 1, 1) := by decide +kernel
theorem dX5_bestWaiver_1 : decode cX5_bestWaiver 1 = .ok (.iconst 1, 1) := by decide +kernel
theorem dX5_bestWaiver_2 : decode cX5_bestWaiver 2 = .ok (.bipush 9, 2) := by decide +kernel
theorem dX5_bestWaiver_4 : decode cX5_bestWaiver 4 = .ok (.invokestatic 29, 3) := by decide +kernel
theorem dX5_bestWaiver_7 : decode cX5_bestWaiver 7 = .ok (.ifCond .ne 6, 3) := by decide +kernel
theorem dX5_bestWaiver_10 : decode cX5_bestWaiver 10 = .ok (.bipush (-2), 2) := by decide +kernel
theorem dX5_bestWaiver_12 : decode cX5_bestWaiver 12 = .ok (.ireturn, 1) := by decide +kernel
theorem dX5_bestWaiver_13 : decode cX5_bestWaiver 13 = .ok (.iconst 0, 1) := by decide +kernel
theorem dX5_bestWaiver_14 : decode cX5_bestWaiver 14 = .ok (.istore_n 2, 1) := by decide +kernel
theorem dX5_bestWaiver_15 : decode cX5_bestWaiver 15 = .ok (.iconst 0, 1) := by decide +kernel
theorem dX5_bestWaiver_16 : decode cX5_bestWaiver 16 = .ok (.istore_n 3, 1) := by decide +kernel
theorem dX5_bestWaiver_17 : decode cX5_bestWaiver 17 = .ok (.iconst 0, 1) := by decide +kernel
theorem dX5_bestWaiver_18 : decode cX5_bestWaiver 18 = .ok (.istore 4, 2) := by decide +kernel
theorem dX5_bestWaiver_20 : decode cX5_bestWaiver 20 = .ok (.iload 4, 2) := by decide +kernel
theorem dX5_bestWaiver_22 : decode cX5_bestWaiver 22 = .ok (.iconst 5, 1) := by decide +kernel
theorem dX5_bestWaiver_23 : decode cX5_bestWaiver 23 = .ok (.if_icmp .ge 46, 3) := by decide +kernel
theorem dX5_bestWaiver_26 : decode cX5_bestWaiver 26 = .ok (.aload_n 0, 1) := by decide +kernel
theorem dX5_bestWaiver_27 : decode cX5_bestWaiver 27 = .ok (.bipush (-6), 2) := by decide +kernel
theorem dX5_bestWaiver_29 : decode cX5_bestWaiver 29 = .ok (.iload 4, 2) := by decide +kernel
theorem dX5_bestWaiver_31 : decode cX5_bestWaiver 31 = .ok (.iload_n 1, 1) := by decide +kernel
theorem dX5_bestWaiver_32 : decode cX5_bestWaiver 32 = .ok (.invokevirtual 61, 3) := by decide +kernel
theorem dX5_bestWaiver_35 : decode cX5_bestWaiver 35 = .ok (.istore 5, 2) := by decide +kernel
theorem dX5_bestWaiver_37 : decode cX5_bestWaiver 37 = .ok (.iload 5, 2) := by decide +kernel
theorem dX5_bestWaiver_39 : decode cX5_bestWaiver 39 = .ok (.iload_n 3, 1) := by decide +kernel
theorem dX5_bestWaiver_40 : decode cX5_bestWaiver 40 = .ok (.if_icmp .lt 8, 3) := by decide +kernel
theorem dX5_bestWaiver_43 : decode cX5_bestWaiver 43 = .ok (.iload 4, 2) := by decide +kernel
theorem dX5_bestWaiver_45 : decode cX5_bestWaiver 45 = .ok (.goto 4, 3) := by decide +kernel
theorem dX5_bestWaiver_48 : decode cX5_bestWaiver 48 = .ok (.iload_n 2, 1) := by decide +kernel
theorem dX5_bestWaiver_49 : decode cX5_bestWaiver 49 = .ok (.istore_n 2, 1) := by decide +kernel
theorem dX5_bestWaiver_50 : decode cX5_bestWaiver 50 = .ok (.iload 5, 2) := by decide +kernel
theorem dX5_bestWaiver_52 : decode cX5_bestWaiver 52 = .ok (.iload_n 3, 1) := by decide +kernel
theorem dX5_bestWaiver_53 : decode cX5_bestWaiver 53 = .ok (.if_icmp .lt 8, 3) := by decide +kernel
theorem dX5_bestWaiver_56 : decode cX5_bestWaiver 56 = .ok (.iload 5, 2) := by decide +kernel
theorem dX5_bestWaiver_58 : decode cX5_bestWaiver 58 = .ok (.goto 4, 3) := by decide +kernel
theorem dX5_bestWaiver_61 : decode cX5_bestWaiver 61 = .ok (.iload_n 3, 1) := by decide +kernel
theorem dX5_bestWaiver_62 : decode cX5_bestWaiver 62 = .ok (.istore_n 3, 1) := by decide +kernel
theorem dX5_bestWaiver_63 : decode cX5_bestWaiver 63 = .ok (.iinc 4 1, 3) := by decide +kernel
theorem dX5_bestWaiver_66 : decode cX5_bestWaiver 66 = .ok (.goto (-46), 3) := by decide +kernel
theorem dX5_bestWaiver_69 : decode cX5_bestWaiver 69 = .ok (.iload_n 2, 1) := by decide +kernel
theorem dX5_bestWaiver_70 : decode cX5_bestWaiver 70 = .ok (.ireturn, 1) := by decide +kernel
set_option maxRecDepth 20000 in
theorem ggX5_put_X5_in : GoodIn wsX5_put wsX5_in := goodIn_r _ [7] (by decide +kernel) (by decide +kernel)
set_option maxRecDepth 20000 in
theorem gX5_put_X5_in : GoodIn wsX5_put (va_wsS RX5 29 yX5_in wsX5_in) := goodIn_app (goodIn_of _ (by decide +kernel)) ggX5_put_X5_in
theorem dX5_put_0 : decode cX5_put 0 = .ok (.iconst 0, 1) := by decide +kernel
theorem dX5_put_1 : decode cX5_put 1 = .ok (.istore_n 3, 1) := by decide +kernel
theorem dX5_put_2 : decode cX5_put 2 = .ok (.iconst 0, 1) := by decide +kernel
theorem dX5_put_3 : decode cX5_put 3 = .ok (.istore 4, 2) := by decide +kernel
theorem dX5_put_5 : decode cX5_put 5 = .ok (.iconst 0, 1) := by decide +kernel
theorem dX5_put_6 : decode cX5_put 6 = .ok (.istore 5, 2) := by decide +kernel
theorem dX5_put_8 : decode cX5_put 8 = .ok (.iload 5, 2) := by decide +kernel
theorem dX5_put_10 : decode cX5_put 10 = .ok (.bipush 8, 2) := by decide +kernel
theorem dX5_put_12 : decode cX5_put 12 = .ok (.if_icmp .ge 89, 3) := by decide +kernel
theorem dX5_put_15 : decode cX5_put 15 = .ok (.lload_n 1, 1) := by decide +kernel
theorem dX5_put_16 : decode cX5_put 16 = .ok (.bipush 8, 2) := by decide +kernel
theorem dX5_put_18 : decode cX5_put 18 = .ok (.iload 5, 2) := by decide +kernel
theorem dX5_put_20 : decode cX5_put 20 = .ok (.imul, 1) := by decide +kernel
theorem dX5_put_21 : decode cX5_put 21 = .ok (.lushr, 1) := by decide +kernel
theorem dX5_put_22 : decode cX5_put 22 = .ok (.ldc2_w 121, 3) := by decide +kernel
theorem dX5_put_25 : decode cX5_put 25 = .ok (.land, 1) := by decide +kernel
theorem dX5_put_26 : decode cX5_put 26 = .ok (.l2i, 1) := by decide +kernel
theorem dX5_put_27 : decode cX5_put 27 = .ok (.istore 6, 2) := by decide +kernel
theorem dX5_put_29 : decode cX5_put 29 = .ok (.iload 5, 2) := by decide +kernel
theorem dX5_put_31 : decode cX5_put 31 = .ok (.ifCond .le 19, 3) := by decide +kernel
theorem dX5_put_34 : decode cX5_put 34 = .ok (.lload_n 1, 1) := by decide +kernel
theorem dX5_put_35 : decode cX5_put 35 = .ok (.bipush 8, 2) := by decide +kernel
theorem dX5_put_37 : decode cX5_put 37 = .ok (.iload 5, 2) := by decide +kernel
theorem dX5_put_39 : decode cX5_put 39 = .ok (.imul, 1) := by decide +kernel
theorem dX5_put_40 : decode cX5_put 40 = .ok (.lushr, 1) := by decide +kernel
theorem dX5_put_41 : decode cX5_put 41 = .ok (.lconst 0, 1) := by decide +kernel
theorem dX5_put_42 : decode cX5_put 42 = .ok (.lcmp, 1) := by decide +kernel
theorem dX5_put_43 : decode cX5_put 43 = .ok (.ifCond .ne 7, 3) := by decide +kernel
theorem dX5_put_46 : decode cX5_put 46 = .ok (.iconst 1, 1) := by decide +kernel
theorem dX5_put_47 : decode cX5_put 47 = .ok (.goto 4, 3) := by decide +kernel
theorem dX5_put_50 : decode cX5_put 50 = .ok (.iconst 0, 1) := by decide +kernel
theorem dX5_put_51 : decode cX5_put 51 = .ok (.istore 7, 2) := by decide +kernel
theorem dX5_put_53 : decode cX5_put 53 = .ok (.iload 4, 2) := by decide +kernel
theorem dX5_put_55 : decode cX5_put 55 = .ok (.ifCond .ne 20, 3) := by decide +kernel
theorem dX5_put_58 : decode cX5_put 58 = .ok (.iload 7, 2) := by decide +kernel
theorem dX5_put_60 : decode cX5_put 60 = .ok (.ifCond .ne 19, 3) := by decide +kernel
theorem dX5_put_63 : decode cX5_put 63 = .ok (.iload 6, 2) := by decide +kernel
theorem dX5_put_65 : decode cX5_put 65 = .ok (.bipush 33, 2) := by decide +kernel
theorem dX5_put_67 : decode cX5_put 67 = .ok (.bipush 126, 2) := by decide +kernel
theorem dX5_put_69 : decode cX5_put 69 = .ok (.invokestatic 29, 3) := by decide +kernel
theorem dX5_put_72 : decode cX5_put 72 = .ok (.ifCond .ne 7, 3) := by decide +kernel
theorem dX5_put_75 : decode cX5_put 75 = .ok (.iconst 1, 1) := by decide +kernel
theorem dX5_put_76 : decode cX5_put 76 = .ok (.goto 4, 3) := by decide +kernel
theorem dX5_put_79 : decode cX5_put 79 = .ok (.iconst 0, 1) := by decide +kernel
theorem dX5_put_80 : decode cX5_put 80 = .ok (.istore 4, 2) := by decide +kernel
theorem dX5_put_82 : decode cX5_put 82 = .ok (.iload_n 3, 1) := by decide +kernel
theorem dX5_put_83 : decode cX5_put 83 = .ok (.iload 7, 2) := by decide +kernel
theorem dX5_put_85 : decode cX5_put 85 = .ok (.ifCond .eq 7, 3) := by decide +kernel
theorem dX5_put_88 : decode cX5_put 88 = .ok (.iconst 0, 1) := by decide +kernel
theorem dX5_put_89 : decode cX5_put 89 = .ok (.goto 4, 3) := by decide +kernel
theorem dX5_put_92 : decode cX5_put 92 = .ok (.iconst 1, 1) := by decide +kernel
theorem dX5_put_93 : decode cX5_put 93 = .ok (.iadd, 1) := by decide +kernel
theorem dX5_put_94 : decode cX5_put 94 = .ok (.istore_n 3, 1) := by decide +kernel
theorem dX5_put_95 : decode cX5_put 95 = .ok (.iinc 5 1, 3) := by decide +kernel
theorem dX5_put_98 : decode cX5_put 98 = .ok (.goto (-90), 3) := by decide +kernel
theorem dX5_put_101 : decode cX5_put 101 = .ok (.iload 4, 2) := by decide +kernel
theorem dX5_put_103 : decode cX5_put 103 = .ok (.ifCond .eq 6, 3) := by decide +kernel
theorem dX5_put_106 : decode cX5_put 106 = .ok (.bipush (-2), 2) := by decide +kernel
theorem dX5_put_108 : decode cX5_put 108 = .ok (.ireturn, 1) := by decide +kernel
theorem dX5_put_109 : decode cX5_put 109 = .ok (.aload_n 0, 1) := by decide +kernel
theorem dX5_put_110 : decode cX5_put 110 = .ok (.getfield 118, 3) := by decide +kernel
theorem dX5_put_113 : decode cX5_put 113 = .ok (.iload_n 3, 1) := by decide +kernel
theorem dX5_put_114 : decode cX5_put 114 = .ok (.iadd, 1) := by decide +kernel
theorem dX5_put_115 : decode cX5_put 115 = .ok (.bipush 60, 2) := by decide +kernel
theorem dX5_put_117 : decode cX5_put 117 = .ok (.if_icmp .le 6, 3) := by decide +kernel
theorem dX5_put_120 : decode cX5_put 120 = .ok (.bipush (-4), 2) := by decide +kernel
theorem dX5_put_122 : decode cX5_put 122 = .ok (.ireturn, 1) := by decide +kernel
theorem dX5_put_123 : decode cX5_put 123 = .ok (.iconst 0, 1) := by decide +kernel
theorem dX5_put_124 : decode cX5_put 124 = .ok (.istore 5, 2) := by decide +kernel
theorem dX5_put_126 : decode cX5_put 126 = .ok (.iload 5, 2) := by decide +kernel
theorem dX5_put_128 : decode cX5_put 128 = .ok (.iload_n 3, 1) := by decide +kernel
theorem dX5_put_129 : decode cX5_put 129 = .ok (.if_icmp .ge 37, 3) := by decide +kernel
theorem dX5_put_132 : decode cX5_put 132 = .ok (.aload_n 0, 1) := by decide +kernel
theorem dX5_put_133 : decode cX5_put 133 = .ok (.getfield 23, 3) := by decide +kernel
theorem dX5_put_136 : decode cX5_put 136 = .ok (.aload_n 0, 1) := by decide +kernel
theorem dX5_put_137 : decode cX5_put 137 = .ok (.getfield 118, 3) := by decide +kernel
theorem dX5_put_140 : decode cX5_put 140 = .ok (.iload_n 3, 1) := by decide +kernel
theorem dX5_put_141 : decode cX5_put 141 = .ok (.iadd, 1) := by decide +kernel
theorem dX5_put_142 : decode cX5_put 142 = .ok (.iconst 1, 1) := by decide +kernel
theorem dX5_put_143 : decode cX5_put 143 = .ok (.isub, 1) := by decide +kernel
theorem dX5_put_144 : decode cX5_put 144 = .ok (.iload 5, 2) := by decide +kernel
theorem dX5_put_146 : decode cX5_put 146 = .ok (.isub, 1) := by decide +kernel
theorem dX5_put_147 : decode cX5_put 147 = .ok (.lload_n 1, 1) := by decide +kernel
theorem dX5_put_148 : decode cX5_put 148 = .ok (.bipush 8, 2) := by decide +kernel
theorem dX5_put_150 : decode cX5_put 150 = .ok (.iload 5, 2) := by decide +kernel
theorem dX5_put_152 : decode cX5_put 152 = .ok (.imul, 1) := by decide +kernel
theorem dX5_put_153 : decode cX5_put 153 = .ok (.lushr, 1) := by decide +kernel
theorem dX5_put_154 : decode cX5_put 154 = .ok (.ldc2_w 121, 3) := by decide +kernel
theorem dX5_put_157 : decode cX5_put 157 = .ok (.land, 1) := by decide +kernel
theorem dX5_put_158 : decode cX5_put 158 = .ok (.l2i, 1) := by decide +kernel
theorem dX5_put_159 : decode cX5_put 159 = .ok (.iastore, 1) := by decide +kernel
theorem dX5_put_160 : decode cX5_put 160 = .ok (.iinc 5 1, 3) := by decide +kernel
theorem dX5_put_163 : decode cX5_put 163 = .ok (.goto (-37), 3) := by decide +kernel
theorem dX5_put_166 : decode cX5_put 166 = .ok (.aload_n 0, 1) := by decide +kernel
theorem dX5_put_167 : decode cX5_put 167 = .ok (.dup, 1) := by decide +kernel
theorem dX5_put_168 : decode cX5_put 168 = .ok (.getfield 118, 3) := by decide +kernel
theorem dX5_put_171 : decode cX5_put 171 = .ok (.iload_n 3, 1) := by decide +kernel
theorem dX5_put_172 : decode cX5_put 172 = .ok (.iadd, 1) := by decide +kernel
theorem dX5_put_173 : decode cX5_put 173 = .ok (.putfield 118, 3) := by decide +kernel
theorem dX5_put_176 : decode cX5_put 176 = .ok (.aload_n 0, 1) := by decide +kernel
theorem dX5_put_177 : decode cX5_put 177 = .ok (.getfield 118, 3) := by decide +kernel
theorem dX5_put_180 : decode cX5_put 180 = .ok (.ireturn, 1) := by decide +kernel
theorem dX5_wipe_0 : decode cX5_wipe 0 = .ok (.aload_n 0, 1) := by decide +kernel
theorem dX5_wipe_1 : decode cX5_wipe 1 = .ok (.getfield 118, 3) := by decide +kernel
theorem dX5_wipe_4 : decode cX5_wipe 4 = .ok (.istore_n 1, 1) := by decide +kernel
theorem dX5_wipe_5 : decode cX5_wipe 5 = .ok (.aload_n 0, 1) := by decide +kernel
theorem dX5_wipe_6 : decode cX5_wipe 6 = .ok (.iconst 0, 1) := by decide +kernel
theorem dX5_wipe_7 : decode cX5_wipe 7 = .ok (.putfield 118, 3) := by decide +kernel
theorem dX5_wipe_10 : decode cX5_wipe 10 = .ok (.iload_n 1, 1) := by decide +kernel
theorem dX5_wipe_11 : decode cX5_wipe 11 = .ok (.ireturn, 1) := by decide +kernel
theorem dX5_next_0 : decode cX5_next 0 = .ok (.iload_n 1, 1) := by decide +kernel
theorem dX5_next_1 : decode cX5_next 1 = .ok (.aload_n 0, 1) := by decide +kernel
theorem dX5_next_2 : decode cX5_next 2 = .ok (.getfield 118, 3) := by decide +kernel
theorem dX5_next_5 : decode cX5_next 5 = .ok (.if_icmp .ge 12, 3) := by decide +kernel
theorem dX5_next_8 : decode cX5_next 8 = .ok (.aload_n 0, 1) := by decide +kernel
theorem dX5_next_9 : decode cX5_next 9 = .ok (.getfield 23, 3) := by decide +kernel
theorem dX5_next_12 : decode cX5_next 12 = .ok (.iload_n 1, 1) := by decide +kernel
theorem dX5_next_13 : decode cX5_next 13 = .ok (.iaload, 1) := by decide +kernel
theorem dX5_next_14 : decode cX5_next 14 = .ok (.goto 4, 3) := by decide +kernel
theorem dX5_next_17 : decode cX5_next 17 = .ok (.iconst 0, 1) := by decide +kernel
theorem dX5_next_18 : decode cX5_next 18 = .ok (.ireturn, 1) := by decide +kernel
theorem dX5_kindFor_0 : decode cX5_kindFor 0 = .ok (.iload_n 0, 1) := by decide +kernel
theorem dX5_kindFor_1 : decode cX5_kindFor 1 = .ok (.bipush 112, 2) := by decide +kernel
theorem dX5_kindFor_3 : decode cX5_kindFor 3 = .ok (.if_icmp .ne 7, 3) := by decide +kernel
theorem dX5_kindFor_6 : decode cX5_kindFor 6 = .ok (.iconst 0, 1) := by decide +kernel
theorem dX5_kindFor_7 : decode cX5_kindFor 7 = .ok (.goto 25, 3) := by decide +kernel
theorem dX5_kindFor_10 : decode cX5_kindFor 10 = .ok (.iload_n 0, 1) := by decide +kernel
theorem dX5_kindFor_11 : decode cX5_kindFor 11 = .ok (.bipush 98, 2) := by decide +kernel
theorem dX5_kindFor_13 : decode cX5_kindFor 13 = .ok (.if_icmp .ne 7, 3) := by decide +kernel
theorem dX5_kindFor_16 : decode cX5_kindFor 16 = .ok (.iconst 1, 1) := by decide +kernel
theorem dX5_kindFor_17 : decode cX5_kindFor 17 = .ok (.goto 15, 3) := by decide +kernel
theorem dX5_kindFor_20 : decode cX5_kindFor 20 = .ok (.iload_n 0, 1) := by decide +kernel
theorem dX5_kindFor_21 : decode cX5_kindFor 21 = .ok (.bipush 119, 2) := by decide +kernel
theorem dX5_kindFor_23 : decode cX5_kindFor 23 = .ok (.if_icmp .ne 7, 3) := by decide +kernel
theorem dX5_kindFor_26 : decode cX5_kindFor 26 = .ok (.iconst 2, 1) := by decide +kernel
theorem dX5_kindFor_27 : decode cX5_kindFor 27 = .ok (.goto 5, 3) := by decide +kernel
theorem dX5_kindFor_30 : decode cX5_kindFor 30 = .ok (.bipush (-6), 2) := by decide +kernel
theorem dX5_kindFor_32 : decode cX5_kindFor 32 = .ok (.ireturn, 1) := by decide +kernel
set_option maxRecDepth 20000 in
theorem ggX5_right_X5_next : GoodIn wsX5_right wsX5_next := goodIn_r _ [5, 6, 7, 14, 15, 16, 17, 18, 19, 20, 21, 22] (by decide +kernel) (by decide +kernel)
set_option maxRecDepth 20000 in
theorem gX5_right_X5_next : GoodIn wsX5_right (wsV RX5 123 RX5 yX5_next wsX5_next) := goodIn_app (goodIn_of _ (by decide +kernel)) ggX5_right_X5_next
set_option maxRecDepth 20000 in
theorem ggX5_right_X5_kindFor : GoodIn wsX5_right wsX5_kindFor := goodIn_r _ [10] (by decide +kernel) (by decide +kernel)
set_option maxRecDepth 20000 in
theorem gX5_right_X5_kindFor : GoodIn wsX5_right (va_wsS RX5 126 yX5_kindFor wsX5_kindFor) := goodIn_app (goodIn_of _ (by decide +kernel)) ggX5_right_X5_kindFor
set_option maxRecDepth 20000 in
theorem ggX5_right_X5_in : GoodIn wsX5_right wsX5_in := goodIn_r _ [13] (by decide +kernel) (by decide +kernel)
set_option maxRecDepth 20000 in
theorem gX5_right_X5_in : GoodIn wsX5_right (va_wsS RX5 29 yX5_in wsX5_in) := goodIn_app (goodIn_of _ (by decide +kernel)) ggX5_right_X5_in
theorem dX5_right_0 : decode cX5_right 0 = .ok (.aload_n 0, 1) := by decide +kernel
theorem dX5_right_1 : decode cX5_right 1 = .ok (.iload_n 1, 1) := by decide +kernel
theorem dX5_right_2 : decode cX5_right 2 = .ok (.iconst 1, 1) := by decide +kernel
theorem dX5_right_3 : decode cX5_right 3 = .ok (.iadd, 1) := by decide +kernel
theorem dX5_right_4 : decode cX5_right 4 = .ok (.invokevirtual 123, 3) := by decide +kernel
theorem dX5_right_7 : decode cX5_right 7 = .ok (.invokestatic 126, 3) := by decide +kernel
theorem dX5_right_10 : decode cX5_right 10 = .ok (.istore_n 2, 1) := by decide +kernel
theorem dX5_right_11 : decode cX5_right 11 = .ok (.aload_n 0, 1) := by decide +kernel
theorem dX5_right_12 : decode cX5_right 12 = .ok (.iload_n 1, 1) := by decide +kernel
theorem dX5_right_13 : decode cX5_right 13 = .ok (.invokevirtual 123, 3) := by decide +kernel
theorem dX5_right_16 : decode cX5_right 16 = .ok (.bipush 48, 2) := by decide +kernel
theorem dX5_right_18 : decode cX5_right 18 = .ok (.bipush 52, 2) := by decide +kernel
theorem dX5_right_20 : decode cX5_right 20 = .ok (.invokestatic 29, 3) := by decide +kernel
theorem dX5_right_23 : decode cX5_right 23 = .ok (.ifCond .ne 5, 3) := by decide +kernel
theorem dX5_right_26 : decode cX5_right 26 = .ok (.iconst 0, 1) := by decide +kernel
theorem dX5_right_27 : decode cX5_right 27 = .ok (.ireturn, 1) := by decide +kernel
theorem dX5_right_28 : decode cX5_right 28 = .ok (.iload_n 2, 1) := by decide +kernel
theorem dX5_right_29 : decode cX5_right 29 = .ok (.bipush (-6), 2) := by decide +kernel
theorem dX5_right_31 : decode cX5_right 31 = .ok (.if_icmp .eq 17, 3) := by decide +kernel
theorem dX5_right_34 : decode cX5_right 34 = .ok (.iload_n 2, 1) := by decide +kernel
theorem dX5_right_35 : decode cX5_right 35 = .ok (.ifCond .ne 15, 3) := by decide +kernel
theorem dX5_right_38 : decode cX5_right 38 = .ok (.aload_n 0, 1) := by decide +kernel
theorem dX5_right_39 : decode cX5_right 39 = .ok (.iload_n 1, 1) := by decide +kernel
theorem dX5_right_40 : decode cX5_right 40 = .ok (.invokevirtual 123, 3) := by decide +kernel
theorem dX5_right_43 : decode cX5_right 43 = .ok (.bipush 48, 2) := by decide +kernel
theorem dX5_right_45 : decode cX5_right 45 = .ok (.if_icmp .eq 5, 3) := by decide +kernel
theorem dX5_right_48 : decode cX5_right 48 = .ok (.iconst 1, 1) := by decide +kernel
theorem dX5_right_49 : decode cX5_right 49 = .ok (.ireturn, 1) := by decide +kernel
theorem dX5_right_50 : decode cX5_right 50 = .ok (.aload_n 0, 1) := by decide +kernel
theorem dX5_right_51 : decode cX5_right 51 = .ok (.iload_n 1, 1) := by decide +kernel
theorem dX5_right_52 : decode cX5_right 52 = .ok (.iconst 2, 1) := by decide +kernel
theorem dX5_right_53 : decode cX5_right 53 = .ok (.iadd, 1) := by decide +kernel
theorem dX5_right_54 : decode cX5_right 54 = .ok (.invokevirtual 123, 3) := by decide +kernel
theorem dX5_right_57 : decode cX5_right 57 = .ok (.bipush 42, 2) := by decide +kernel
theorem dX5_right_59 : decode cX5_right 59 = .ok (.if_icmp .eq 22, 3) := by decide +kernel
theorem dX5_right_62 : decode cX5_right 62 = .ok (.aload_n 0, 1) := by decide +kernel
theorem dX5_right_63 : decode cX5_right 63 = .ok (.iload_n 1, 1) := by decide +kernel
theorem dX5_right_64 : decode cX5_right 64 = .ok (.iconst 2, 1) := by decide +kernel
theorem dX5_right_65 : decode cX5_right 65 = .ok (.iadd, 1) := by decide +kernel
theorem dX5_right_66 : decode cX5_right 66 = .ok (.invokevirtual 123, 3) := by decide +kernel
theorem dX5_right_69 : decode cX5_right 69 = .ok (.bipush 48, 2) := by decide +kernel
theorem dX5_right_71 : decode cX5_right 71 = .ok (.bipush 52, 2) := by decide +kernel
theorem dX5_right_73 : decode cX5_right 73 = .ok (.invokestatic 29, 3) := by decide +kernel
theorem dX5_right_76 : decode cX5_right 76 = .ok (.ifCond .ne 5, 3) := by decide +kernel
theorem dX5_right_79 : decode cX5_right 79 = .ok (.iconst 2, 1) := by decide +kernel
theorem dX5_right_80 : decode cX5_right 80 = .ok (.ireturn, 1) := by decide +kernel
theorem dX5_right_81 : decode cX5_right 81 = .ok (.aload_n 0, 1) := by decide +kernel
theorem dX5_right_82 : decode cX5_right 82 = .ok (.iload_n 1, 1) := by decide +kernel
theorem dX5_right_83 : decode cX5_right 83 = .ok (.iconst 3, 1) := by decide +kernel
theorem dX5_right_84 : decode cX5_right 84 = .ok (.iadd, 1) := by decide +kernel
theorem dX5_right_85 : decode cX5_right 85 = .ok (.invokevirtual 123, 3) := by decide +kernel
theorem dX5_right_88 : decode cX5_right 88 = .ok (.bipush 42, 2) := by decide +kernel
theorem dX5_right_90 : decode cX5_right 90 = .ok (.if_icmp .eq 22, 3) := by decide +kernel
theorem dX5_right_93 : decode cX5_right 93 = .ok (.aload_n 0, 1) := by decide +kernel
theorem dX5_right_94 : decode cX5_right 94 = .ok (.iload_n 1, 1) := by decide +kernel
theorem dX5_right_95 : decode cX5_right 95 = .ok (.iconst 3, 1) := by decide +kernel
theorem dX5_right_96 : decode cX5_right 96 = .ok (.iadd, 1) := by decide +kernel
theorem dX5_right_97 : decode cX5_right 97 = .ok (.invokevirtual 123, 3) := by decide +kernel
theorem dX5_right_100 : decode cX5_right 100 = .ok (.bipush 48, 2) := by decide +kernel
theorem dX5_right_102 : decode cX5_right 102 = .ok (.bipush 53, 2) := by decide +kernel
theorem dX5_right_104 : decode cX5_right 104 = .ok (.invokestatic 29, 3) := by decide +kernel
theorem dX5_right_107 : decode cX5_right 107 = .ok (.ifCond .ne 5, 3) := by decide +kernel
theorem dX5_right_110 : decode cX5_right 110 = .ok (.iconst 3, 1) := by decide +kernel
theorem dX5_right_111 : decode cX5_right 111 = .ok (.ireturn, 1) := by decide +kernel
theorem dX5_right_112 : decode cX5_right 112 = .ok (.iload_n 2, 1) := by decide +kernel
theorem dX5_right_113 : decode cX5_right 113 = .ok (.ifCond .eq 24, 3) := by decide +kernel
theorem dX5_right_116 : decode cX5_right 116 = .ok (.aload_n 0, 1) := by decide +kernel
theorem dX5_right_117 : decode cX5_right 117 = .ok (.iload_n 1, 1) := by decide +kernel
theorem dX5_right_118 : decode cX5_right 118 = .ok (.iconst 4, 1) := by decide +kernel
theorem dX5_right_119 : decode cX5_right 119 = .ok (.iadd, 1) := by decide +kernel
theorem dX5_right_120 : decode cX5_right 120 = .ok (.invokevirtual 123, 3) := by decide +kernel
theorem dX5_right_123 : decode cX5_right 123 = .ok (.bipush 49, 2) := by decide +kernel
theorem dX5_right_125 : decode cX5_right 125 = .ok (.bipush 57, 2) := by decide +kernel
theorem dX5_right_127 : decode cX5_right 127 = .ok (.invokestatic 29, 3) := by decide +kernel
theorem dX5_right_130 : decode cX5_right 130 = .ok (.ifCond .eq 7, 3) := by decide +kernel
theorem dX5_right_133 : decode cX5_right 133 = .ok (.iconst 5, 1) := by decide +kernel
theorem dX5_right_134 : decode cX5_right 134 = .ok (.goto 4, 3) := by decide +kernel
theorem dX5_right_137 : decode cX5_right 137 = .ok (.iconst 4, 1) := by decide +kernel
theorem dX5_right_138 : decode cX5_right 138 = .ok (.ireturn, 1) := by decide +kernel
set_option maxRecDepth 20000 in
theorem ggX5_whole_X5_next : GoodIn wsX5_whole wsX5_next := goodIn_r _ [5, 6, 7, 8, 9, 10, 11, 12, 13, 14, 15, 16] (by decide +kernel) (by decide +kernel)
set_option maxRecDepth 20000 in
theorem gX5_whole_X5_next : GoodIn wsX5_whole (wsV RX5 123 RX5 yX5_next wsX5_next) := goodIn_app (goodIn_of _ (by decide +kernel)) ggX5_whole_X5_next
theorem dX5_whole_0 : decode cX5_whole 0 = .ok (.aload_n 0, 1) := by decide +kernel
theorem dX5_whole_1 : decode cX5_whole 1 = .ok (.iload_n 1, 1) := by decide +kernel
theorem dX5_whole_2 : decode cX5_whole 2 = .ok (.iconst 1, 1) := by decide +kernel
theorem dX5_whole_3 : decode cX5_whole 3 = .ok (.iadd, 1) := by decide +kernel
theorem dX5_whole_4 : decode cX5_whole 4 = .ok (.invokevirtual 123, 3) := by decide +kernel
theorem dX5_whole_7 : decode cX5_whole 7 = .ok (.bipush 112, 2) := by decide +kernel
theorem dX5_whole_9 : decode cX5_whole 9 = .ok (.if_icmp .ne 7, 3) := by decide +kernel
theorem dX5_whole_12 : decode cX5_whole 12 = .ok (.iconst 4, 1) := by decide +kernel
theorem dX5_whole_13 : decode cX5_whole 13 = .ok (.goto 4, 3) := by decide +kernel
theorem dX5_whole_16 : decode cX5_whole 16 = .ok (.iconst 5, 1) := by decide +kernel
theorem dX5_whole_17 : decode cX5_whole 17 = .ok (.ireturn, 1) := by decide +kernel
set_option maxRecDepth 20000 in
theorem ggX5_wrong_X5_right : GoodIn wsX5_wrong wsX5_right := goodIn_r _ [8, 9, 10, 11, 7, 12, 2, 3, 13, 14, 15, 16, 17, 18, 23, 24, 25, 26, 27, 28, 29, 30, 31] (by decide +kernel) (by decide +kernel)
set_option maxRecDepth 20000 in
theorem gX5_wrong_X5_right : GoodIn wsX5_wrong (wsV RX5 132 RX5 yX5_right wsX5_right) := goodIn_app (goodIn_of _ (by decide +kernel)) ggX5_wrong_X5_right
set_option maxRecDepth 20000 in
theorem ggX5_wrong_X5_whole : GoodIn wsX5_wrong wsX5_whole := goodIn_r _ [22, 9, 10, 11, 7, 12, 2, 3, 23, 24, 25, 26, 27, 28, 29, 30, 31] (by decide +kernel) (by decide +kernel)
set_option maxRecDepth 20000 in
theorem gX5_wrong_X5_whole : GoodIn wsX5_wrong (wsV RX5 135 RX5 yX5_whole wsX5_whole) := goodIn_app (goodIn_of _ (by decide +kernel)) ggX5_wrong_X5_whole
theorem dX5_wrong_0 : decode cX5_wrong 0 = .ok (.iconst 0, 1) := by decide +kernel
theorem dX5_wrong_1 : decode cX5_wrong 1 = .ok (.istore_n 1, 1) := by decide +kernel
theorem dX5_wrong_2 : decode cX5_wrong 2 = .ok (.aload_n 0, 1) := by decide +kernel
theorem dX5_wrong_3 : decode cX5_wrong 3 = .ok (.iconst 0, 1) := by decide +kernel
theorem dX5_wrong_4 : decode cX5_wrong 4 = .ok (.putfield 129, 3) := by decide +kernel
theorem dX5_wrong_7 : decode cX5_wrong 7 = .ok (.iconst 1, 1) := by decide +kernel
theorem dX5_wrong_8 : decode cX5_wrong 8 = .ok (.istore_n 2, 1) := by decide +kernel
theorem dX5_wrong_9 : decode cX5_wrong 9 = .ok (.iload_n 2, 1) := by decide +kernel
theorem dX5_wrong_10 : decode cX5_wrong 10 = .ok (.ifCond .eq 82, 3) := by decide +kernel
theorem dX5_wrong_13 : decode cX5_wrong 13 = .ok (.aload_n 0, 1) := by decide +kernel
theorem dX5_wrong_14 : decode cX5_wrong 14 = .ok (.iload_n 1, 1) := by decide +kernel
theorem dX5_wrong_15 : decode cX5_wrong 15 = .ok (.invokevirtual 132, 3) := by decide +kernel
theorem dX5_wrong_18 : decode cX5_wrong 18 = .ok (.istore_n 3, 1) := by decide +kernel
theorem dX5_wrong_19 : decode cX5_wrong 19 = .ok (.iload_n 3, 1) := by decide +kernel
theorem dX5_wrong_20 : decode cX5_wrong 20 = .ok (.aload_n 0, 1) := by decide +kernel
theorem dX5_wrong_21 : decode cX5_wrong 21 = .ok (.iload_n 1, 1) := by decide +kernel
theorem dX5_wrong_22 : decode cX5_wrong 22 = .ok (.invokevirtual 135, 3) := by decide +kernel
theorem dX5_wrong_25 : decode cX5_wrong 25 = .ok (.if_icmp .ge 7, 3) := by decide +kernel
theorem dX5_wrong_28 : decode cX5_wrong 28 = .ok (.iload_n 1, 1) := by decide +kernel
theorem dX5_wrong_29 : decode cX5_wrong 29 = .ok (.iload_n 3, 1) := by decide +kernel
theorem dX5_wrong_30 : decode cX5_wrong 30 = .ok (.iadd, 1) := by decide +kernel
theorem dX5_wrong_31 : decode cX5_wrong 31 = .ok (.ireturn, 1) := by decide +kernel
theorem dX5_wrong_32 : decode cX5_wrong 32 = .ok (.aload_n 0, 1) := by decide +kernel
theorem dX5_wrong_33 : decode cX5_wrong 33 = .ok (.dup, 1) := by decide +kernel
theorem dX5_wrong_34 : decode cX5_wrong 34 = .ok (.getfield 129, 3) := by decide +kernel
theorem dX5_wrong_37 : decode cX5_wrong 37 = .ok (.iconst 1, 1) := by decide +kernel
theorem dX5_wrong_38 : decode cX5_wrong 38 = .ok (.iadd, 1) := by decide +kernel
theorem dX5_wrong_39 : decode cX5_wrong 39 = .ok (.putfield 129, 3) := by decide +kernel
theorem dX5_wrong_42 : decode cX5_wrong 42 = .ok (.iload_n 1, 1) := by decide +kernel
theorem dX5_wrong_43 : decode cX5_wrong 43 = .ok (.iload_n 3, 1) := by decide +kernel
theorem dX5_wrong_44 : decode cX5_wrong 44 = .ok (.iadd, 1) := by decide +kernel
theorem dX5_wrong_45 : decode cX5_wrong 45 = .ok (.istore_n 1, 1) := by decide +kernel
theorem dX5_wrong_46 : decode cX5_wrong 46 = .ok (.iload_n 1, 1) := by decide +kernel
theorem dX5_wrong_47 : decode cX5_wrong 47 = .ok (.aload_n 0, 1) := by decide +kernel
theorem dX5_wrong_48 : decode cX5_wrong 48 = .ok (.getfield 118, 3) := by decide +kernel
theorem dX5_wrong_51 : decode cX5_wrong 51 = .ok (.if_icmp .ge 7, 3) := by decide +kernel
theorem dX5_wrong_54 : decode cX5_wrong 54 = .ok (.iconst 1, 1) := by decide +kernel
theorem dX5_wrong_55 : decode cX5_wrong 55 = .ok (.goto 4, 3) := by decide +kernel
theorem dX5_wrong_58 : decode cX5_wrong 58 = .ok (.iconst 0, 1) := by decide +kernel
theorem dX5_wrong_59 : decode cX5_wrong 59 = .ok (.istore_n 2, 1) := by decide +kernel
theorem dX5_wrong_60 : decode cX5_wrong 60 = .ok (.iload_n 2, 1) := by decide +kernel
theorem dX5_wrong_61 : decode cX5_wrong 61 = .ok (.ifCond .eq 16, 3) := by decide +kernel
theorem dX5_wrong_64 : decode cX5_wrong 64 = .ok (.aload_n 0, 1) := by decide +kernel
theorem dX5_wrong_65 : decode cX5_wrong 65 = .ok (.getfield 23, 3) := by decide +kernel
theorem dX5_wrong_68 : decode cX5_wrong 68 = .ok (.iload_n 1, 1) := by decide +kernel
theorem dX5_wrong_69 : decode cX5_wrong 69 = .ok (.iaload, 1) := by decide +kernel
theorem dX5_wrong_70 : decode cX5_wrong 70 = .ok (.bipush 59, 2) := by decide +kernel
theorem dX5_wrong_72 : decode cX5_wrong 72 = .ok (.if_icmp .eq 5, 3) := by decide +kernel
theorem dX5_wrong_75 : decode cX5_wrong 75 = .ok (.iload_n 1, 1) := by decide +kernel
theorem dX5_wrong_76 : decode cX5_wrong 76 = .ok (.ireturn, 1) := by decide +kernel
theorem dX5_wrong_77 : decode cX5_wrong 77 = .ok (.iload_n 1, 1) := by decide +kernel
theorem dX5_wrong_78 : decode cX5_wrong 78 = .ok (.iload_n 2, 1) := by decide +kernel
theorem dX5_wrong_79 : decode cX5_wrong 79 = .ok (.ifCond .eq 7, 3) := by decide +kernel
theorem dX5_wrong_82 : decode cX5_wrong 82 = .ok (.iconst 1, 1) := by decide +kernel
theorem dX5_wrong_83 : decode cX5_wrong 83 = .ok (.goto 4, 3) := by decide +kernel
theorem dX5_wrong_86 : decode cX5_wrong 86 = .ok (.iconst 0, 1) := by decide +kernel
theorem dX5_wrong_87 : decode cX5_wrong 87 = .ok (.iadd, 1) := by decide +kernel
theorem dX5_wrong_88 : decode cX5_wrong 88 = .ok (.istore_n 1, 1) := by decide +kernel
theorem dX5_wrong_89 : decode cX5_wrong 89 = .ok (.goto (-80), 3) := by decide +kernel
theorem dX5_wrong_92 : decode cX5_wrong 92 = .ok (.bipush (-6), 2) := by decide +kernel
theorem dX5_wrong_94 : decode cX5_wrong 94 = .ok (.ireturn, 1) := by decide +kernel
set_option maxRecDepth 20000 in
theorem ggX5_fault_X5_wrong : GoodIn wsX5_fault wsX5_wrong := goodIn_r _ [5, 6, 7, 8, 9, 10, 11, 4, 12, 13, 14, 15, 16, 17, 18, 19, 20, 21, 22, 23, 24, 25, 26, 27, 28, 29, 30, 31, 32, 33, 34, 35] (by decide +kernel) (by decide +kernel)
set_option maxRecDepth 20000 in
theorem gX5_fault_X5_wrong : GoodIn wsX5_fault (wsV RX5 138 RX5 yX5_wrong wsX5_wrong) := goodIn_app (goodIn_of _ (by decide +kernel)) ggX5_fault_X5_wrong
theorem dX5_fault_0 : decode cX5_fault 0 = .ok (.aload_n 0, 1) := by decide +kernel
theorem dX5_fault_1 : decode cX5_fault 1 = .ok (.invokevirtual 138, 3) := by decide +kernel
theorem dX5_fault_4 : decode cX5_fault 4 = .ok (.ireturn, 1) := by decide +kernel
set_option maxRecDepth 20000 in
theorem ggX5_read_X5_wrong : GoodIn wsX5_read wsX5_wrong := goodIn_r _ [8, 2, 3, 9, 10, 11, 12, 7, 13, 14, 15, 16, 17, 18, 19, 20, 21, 22, 23, 24, 25, 26, 27, 41, 42, 43, 44, 45, 46, 47, 48, 49] (by decide +kernel) (by decide +kernel)
set_option maxRecDepth 20000 in
theorem gX5_read_X5_wrong : GoodIn wsX5_read (wsV RX5 138 RX5 yX5_wrong wsX5_wrong) := goodIn_app (goodIn_of _ (by decide +kernel)) ggX5_read_X5_wrong
set_option maxRecDepth 20000 in
theorem ggX5_read_X5_record : GoodIn wsX5_read wsX5_record := goodIn_r _ [31, 32, 33, 1, 41, 42, 43, 44, 45, 46, 47, 48, 49] (by decide +kernel) (by decide +kernel)
set_option maxRecDepth 20000 in
theorem gX5_read_X5_record : GoodIn wsX5_read (wsV RX5 65 RX5 yX5_record wsX5_record) := goodIn_app (goodIn_of _ (by decide +kernel)) ggX5_read_X5_record
set_option maxRecDepth 20000 in
theorem ggX5_read_X5_next : GoodIn wsX5_read wsX5_next := goodIn_r _ [17, 3, 9, 41, 42, 43, 44, 45, 46, 47, 48, 49] (by decide +kernel) (by decide +kernel)
set_option maxRecDepth 20000 in
theorem gX5_read_X5_next : GoodIn wsX5_read (wsV RX5 123 RX5 yX5_next wsX5_next) := goodIn_app (goodIn_of _ (by decide +kernel)) ggX5_read_X5_next
set_option maxRecDepth 20000 in
theorem ggX5_read_X5_kindFor : GoodIn wsX5_read wsX5_kindFor := goodIn_r _ [20] (by decide +kernel) (by decide +kernel)
set_option maxRecDepth 20000 in
theorem gX5_read_X5_kindFor : GoodIn wsX5_read (va_wsS RX5 126 yX5_kindFor wsX5_kindFor) := goodIn_app (goodIn_of _ (by decide +kernel)) ggX5_read_X5_kindFor
set_option maxRecDepth 20000 in
theorem ggX5_read_X5_adds : GoodIn wsX5_read wsX5_adds := goodIn_r _ [37, 1, 38, 39, 7, 40, 41, 42, 43, 44, 45, 46, 47, 48, 49] (by decide +kernel) (by decide +kernel)
set_option maxRecDepth 20000 in
theorem gX5_read_X5_adds : GoodIn wsX5_read (wsV RX5 68 RX5 yX5_adds wsX5_adds) := goodIn_app (goodIn_of _ (by decide +kernel)) ggX5_read_X5_adds
set_option maxRecDepth 20000 in
theorem ggX5_read_X5_whole : GoodIn wsX5_read wsX5_whole := goodIn_r _ [27, 14, 15, 16, 7, 17, 3, 9, 41, 42, 43, 44, 45, 46, 47, 48, 49] (by decide +kernel) (by decide +kernel)
set_option maxRecDepth 20000 in
theorem gX5_read_X5_whole : GoodIn wsX5_read (wsV RX5 135 RX5 yX5_whole wsX5_whole) := goodIn_app (goodIn_of _ (by decide +kernel)) ggX5_read_X5_whole
theorem dX5_read_0 : decode cX5_read 0 = .ok (.aload_n 0, 1) := by decide +kernel
theorem dX5_read_1 : decode cX5_read 1 = .ok (.invokevirtual 138, 3) := by decide +kernel
theorem dX5_read_4 : decode cX5_read 4 = .ok (.bipush (-6), 2) := by decide +kernel
theorem dX5_read_6 : decode cX5_read 6 = .ok (.if_icmp .eq 6, 3) := by decide +kernel
theorem dX5_read_9 : decode cX5_read 9 = .ok (.bipush (-3), 2) := by decide +kernel
theorem dX5_read_11 : decode cX5_read 11 = .ok (.ireturn, 1) := by decide +kernel
theorem dX5_read_12 : decode cX5_read 12 = .ok (.aload_n 0, 1) := by decide +kernel
theorem dX5_read_13 : decode cX5_read 13 = .ok (.getfield 7, 3) := by decide +kernel
theorem dX5_read_16 : decode cX5_read 16 = .ok (.iconst 0, 1) := by decide +kernel
theorem dX5_read_17 : decode cX5_read 17 = .ok (.iaload, 1) := by decide +kernel
theorem dX5_read_18 : decode cX5_read 18 = .ok (.aload_n 0, 1) := by decide +kernel
theorem dX5_read_19 : decode cX5_read 19 = .ok (.getfield 129, 3) := by decide +kernel
theorem dX5_read_22 : decode cX5_read 22 = .ok (.iadd, 1) := by decide +kernel
theorem dX5_read_23 : decode cX5_read 23 = .ok (.bipush 24, 2) := by decide +kernel
theorem dX5_read_25 : decode cX5_read 25 = .ok (.if_icmp .le 6, 3) := by decide +kernel
theorem dX5_read_28 : decode cX5_read 28 = .ok (.bipush (-4), 2) := by decide +kernel
theorem dX5_read_30 : decode cX5_read 30 = .ok (.ireturn, 1) := by decide +kernel
theorem dX5_read_31 : decode cX5_read 31 = .ok (.aload_n 0, 1) := by decide +kernel
theorem dX5_read_32 : decode cX5_read 32 = .ok (.invokevirtual 65, 3) := by decide +kernel
theorem dX5_read_35 : decode cX5_read 35 = .ok (.iconst 0, 1) := by decide +kernel
theorem dX5_read_36 : decode cX5_read 36 = .ok (.istore_n 1, 1) := by decide +kernel
theorem dX5_read_37 : decode cX5_read 37 = .ok (.iload_n 1, 1) := by decide +kernel
theorem dX5_read_38 : decode cX5_read 38 = .ok (.aload_n 0, 1) := by decide +kernel
theorem dX5_read_39 : decode cX5_read 39 = .ok (.getfield 118, 3) := by decide +kernel
theorem dX5_read_42 : decode cX5_read 42 = .ok (.if_icmp .ge 120, 3) := by decide +kernel
theorem dX5_read_45 : decode cX5_read 45 = .ok (.aload_n 0, 1) := by decide +kernel
theorem dX5_read_46 : decode cX5_read 46 = .ok (.iload_n 1, 1) := by decide +kernel
theorem dX5_read_47 : decode cX5_read 47 = .ok (.iconst 2, 1) := by decide +kernel
theorem dX5_read_48 : decode cX5_read 48 = .ok (.iadd, 1) := by decide +kernel
theorem dX5_read_49 : decode cX5_read 49 = .ok (.invokevirtual 123, 3) := by decide +kernel
theorem dX5_read_52 : decode cX5_read 52 = .ok (.bipush 42, 2) := by decide +kernel
theorem dX5_read_54 : decode cX5_read 54 = .ok (.if_icmp .ne 7, 3) := by decide +kernel
theorem dX5_read_57 : decode cX5_read 57 = .ok (.iconst 5, 1) := by decide +kernel
theorem dX5_read_58 : decode cX5_read 58 = .ok (.goto 13, 3) := by decide +kernel
theorem dX5_read_61 : decode cX5_read 61 = .ok (.aload_n 0, 1) := by decide +kernel
theorem dX5_read_62 : decode cX5_read 62 = .ok (.iload_n 1, 1) := by decide +kernel
theorem dX5_read_63 : decode cX5_read 63 = .ok (.iconst 2, 1) := by decide +kernel
theorem dX5_read_64 : decode cX5_read 64 = .ok (.iadd, 1) := by decide +kernel
theorem dX5_read_65 : decode cX5_read 65 = .ok (.invokevirtual 123, 3) := by decide +kernel
theorem dX5_read_68 : decode cX5_read 68 = .ok (.bipush 48, 2) := by decide +kernel
theorem dX5_read_70 : decode cX5_read 70 = .ok (.isub, 1) := by decide +kernel
theorem dX5_read_71 : decode cX5_read 71 = .ok (.istore_n 2, 1) := by decide +kernel
theorem dX5_read_72 : decode cX5_read 72 = .ok (.aload_n 0, 1) := by decide +kernel
theorem dX5_read_73 : decode cX5_read 73 = .ok (.iload_n 1, 1) := by decide +kernel
theorem dX5_read_74 : decode cX5_read 74 = .ok (.iconst 3, 1) := by decide +kernel
theorem dX5_read_75 : decode cX5_read 75 = .ok (.iadd, 1) := by decide +kernel
theorem dX5_read_76 : decode cX5_read 76 = .ok (.invokevirtual 123, 3) := by decide +kernel
theorem dX5_read_79 : decode cX5_read 79 = .ok (.bipush 42, 2) := by decide +kernel
theorem dX5_read_81 : decode cX5_read 81 = .ok (.if_icmp .ne 8, 3) := by decide +kernel
theorem dX5_read_84 : decode cX5_read 84 = .ok (.bipush 6, 2) := by decide +kernel
theorem dX5_read_86 : decode cX5_read 86 = .ok (.goto 13, 3) := by decide +kernel
theorem dX5_read_89 : decode cX5_read 89 = .ok (.aload_n 0, 1) := by decide +kernel
theorem dX5_read_90 : decode cX5_read 90 = .ok (.iload_n 1, 1) := by decide +kernel
theorem dX5_read_91 : decode cX5_read 91 = .ok (.iconst 3, 1) := by decide +kernel
theorem dX5_read_92 : decode cX5_read 92 = .ok (.iadd, 1) := by decide +kernel
theorem dX5_read_93 : decode cX5_read 93 = .ok (.invokevirtual 123, 3) := by decide +kernel
theorem dX5_read_96 : decode cX5_read 96 = .ok (.bipush 48, 2) := by decide +kernel
theorem dX5_read_98 : decode cX5_read 98 = .ok (.isub, 1) := by decide +kernel
theorem dX5_read_99 : decode cX5_read 99 = .ok (.istore_n 3, 1) := by decide +kernel
theorem dX5_read_100 : decode cX5_read 100 = .ok (.aload_n 0, 1) := by decide +kernel
theorem dX5_read_101 : decode cX5_read 101 = .ok (.iload_n 1, 1) := by decide +kernel
theorem dX5_read_102 : decode cX5_read 102 = .ok (.iconst 1, 1) := by decide +kernel
theorem dX5_read_103 : decode cX5_read 103 = .ok (.iadd, 1) := by decide +kernel
theorem dX5_read_104 : decode cX5_read 104 = .ok (.invokevirtual 123, 3) := by decide +kernel
theorem dX5_read_107 : decode cX5_read 107 = .ok (.invokestatic 126, 3) := by decide +kernel
theorem dX5_read_110 : decode cX5_read 110 = .ok (.istore 4, 2) := by decide +kernel
theorem dX5_read_112 : decode cX5_read 112 = .ok (.aload_n 0, 1) := by decide +kernel
theorem dX5_read_113 : decode cX5_read 113 = .ok (.aload_n 0, 1) := by decide +kernel
theorem dX5_read_114 : decode cX5_read 114 = .ok (.iload_n 1, 1) := by decide +kernel
theorem dX5_read_115 : decode cX5_read 115 = .ok (.invokevirtual 123, 3) := by decide +kernel
theorem dX5_read_118 : decode cX5_read 118 = .ok (.bipush 48, 2) := by decide +kernel
theorem dX5_read_120 : decode cX5_read 120 = .ok (.isub, 1) := by decide +kernel
theorem dX5_read_121 : decode cX5_read 121 = .ok (.iload 4, 2) := by decide +kernel
theorem dX5_read_123 : decode cX5_read 123 = .ok (.iload_n 2, 1) := by decide +kernel
theorem dX5_read_124 : decode cX5_read 124 = .ok (.iload_n 3, 1) := by decide +kernel
theorem dX5_read_125 : decode cX5_read 125 = .ok (.iload 4, 2) := by decide +kernel
theorem dX5_read_127 : decode cX5_read 127 = .ok (.ifCond .ne 7, 3) := by decide +kernel
theorem dX5_read_130 : decode cX5_read 130 = .ok (.iconst 1, 1) := by decide +kernel
theorem dX5_read_131 : decode cX5_read 131 = .ok (.goto 13, 3) := by decide +kernel
theorem dX5_read_134 : decode cX5_read 134 = .ok (.aload_n 0, 1) := by decide +kernel
theorem dX5_read_135 : decode cX5_read 135 = .ok (.iload_n 1, 1) := by decide +kernel
theorem dX5_read_136 : decode cX5_read 136 = .ok (.iconst 4, 1) := by decide +kernel
theorem dX5_read_137 : decode cX5_read 137 = .ok (.iadd, 1) := by decide +kernel
theorem dX5_read_138 : decode cX5_read 138 = .ok (.invokevirtual 123, 3) := by decide +kernel
theorem dX5_read_141 : decode cX5_read 141 = .ok (.bipush 48, 2) := by decide +kernel
theorem dX5_read_143 : decode cX5_read 143 = .ok (.isub, 1) := by decide +kernel
theorem dX5_read_144 : decode cX5_read 144 = .ok (.invokevirtual 68, 3) := by decide +kernel
theorem dX5_read_147 : decode cX5_read 147 = .ok (.istore 5, 2) := by decide +kernel
theorem dX5_read_149 : decode cX5_read 149 = .ok (.iload_n 1, 1) := by decide +kernel
theorem dX5_read_150 : decode cX5_read 150 = .ok (.aload_n 0, 1) := by decide +kernel
theorem dX5_read_151 : decode cX5_read 151 = .ok (.iload_n 1, 1) := by decide +kernel
theorem dX5_read_152 : decode cX5_read 152 = .ok (.invokevirtual 135, 3) := by decide +kernel
theorem dX5_read_155 : decode cX5_read 155 = .ok (.iconst 1, 1) := by decide +kernel
theorem dX5_read_156 : decode cX5_read 156 = .ok (.iadd, 1) := by decide +kernel
theorem dX5_read_157 : decode cX5_read 157 = .ok (.iadd, 1) := by decide +kernel
theorem dX5_read_158 : decode cX5_read 158 = .ok (.istore_n 1, 1) := by decide +kernel
theorem dX5_read_159 : decode cX5_read 159 = .ok (.goto (-122), 3) := by decide +kernel
theorem dX5_read_162 : decode cX5_read 162 = .ok (.aload_n 0, 1) := by decide +kernel
theorem dX5_read_163 : decode cX5_read 163 = .ok (.iconst 0, 1) := by decide +kernel
theorem dX5_read_164 : decode cX5_read 164 = .ok (.putfield 118, 3) := by decide +kernel
theorem dX5_read_167 : decode cX5_read 167 = .ok (.aload_n 0, 1) := by decide +kernel
theorem dX5_read_168 : decode cX5_read 168 = .ok (.getfield 7, 3) := by decide +kernel
theorem dX5_read_171 : decode cX5_read 171 = .ok (.iconst 0, 1) := by decide +kernel
theorem dX5_read_172 : decode cX5_read 172 = .ok (.iaload, 1) := by decide +kernel
theorem dX5_read_173 : decode cX5_read 173 = .ok (.ireturn, 1) := by decide +kernel
theorem dX5_undo_0 : decode cX5_undo 0 = .ok (.aload_n 0, 1) := by decide +kernel
theorem dX5_undo_1 : decode cX5_undo 1 = .ok (.getfield 37, 3) := by decide +kernel
theorem dX5_undo_4 : decode cX5_undo 4 = .ok (.ifCond .ne 6, 3) := by decide +kernel
theorem dX5_undo_7 : decode cX5_undo 7 = .ok (.bipush (-5), 2) := by decide +kernel
theorem dX5_undo_9 : decode cX5_undo 9 = .ok (.ireturn, 1) := by decide +kernel
theorem dX5_undo_10 : decode cX5_undo 10 = .ok (.aload_n 0, 1) := by decide +kernel
theorem dX5_undo_11 : decode cX5_undo 11 = .ok (.dup, 1) := by decide +kernel
theorem dX5_undo_12 : decode cX5_undo 12 = .ok (.getfield 37, 3) := by decide +kernel
theorem dX5_undo_15 : decode cX5_undo 15 = .ok (.iconst 1, 1) := by decide +kernel
theorem dX5_undo_16 : decode cX5_undo 16 = .ok (.isub, 1) := by decide +kernel
theorem dX5_undo_17 : decode cX5_undo 17 = .ok (.putfield 37, 3) := by decide +kernel
theorem dX5_undo_20 : decode cX5_undo 20 = .ok (.iconst 0, 1) := by decide +kernel
theorem dX5_undo_21 : decode cX5_undo 21 = .ok (.istore_n 1, 1) := by decide +kernel
theorem dX5_undo_22 : decode cX5_undo 22 = .ok (.iload_n 1, 1) := by decide +kernel
theorem dX5_undo_23 : decode cX5_undo 23 = .ok (.sipush 169, 3) := by decide +kernel
theorem dX5_undo_26 : decode cX5_undo 26 = .ok (.if_icmp .ge 30, 3) := by decide +kernel
theorem dX5_undo_29 : decode cX5_undo 29 = .ok (.aload_n 0, 1) := by decide +kernel
theorem dX5_undo_30 : decode cX5_undo 30 = .ok (.getfield 7, 3) := by decide +kernel
theorem dX5_undo_33 : decode cX5_undo 33 = .ok (.iload_n 1, 1) := by decide +kernel
theorem dX5_undo_34 : decode cX5_undo 34 = .ok (.aload_n 0, 1) := by decide +kernel
theorem dX5_undo_35 : decode cX5_undo 35 = .ok (.getfield 13, 3) := by decide +kernel
theorem dX5_undo_38 : decode cX5_undo 38 = .ok (.sipush 169, 3) := by decide +kernel
theorem dX5_undo_41 : decode cX5_undo 41 = .ok (.aload_n 0, 1) := by decide +kernel
theorem dX5_undo_42 : decode cX5_undo 42 = .ok (.getfield 37, 3) := by decide +kernel
theorem dX5_undo_45 : decode cX5_undo 45 = .ok (.imul, 1) := by decide +kernel
theorem dX5_undo_46 : decode cX5_undo 46 = .ok (.iload_n 1, 1) := by decide +kernel
theorem dX5_undo_47 : decode cX5_undo 47 = .ok (.iadd, 1) := by decide +kernel
theorem dX5_undo_48 : decode cX5_undo 48 = .ok (.iaload, 1) := by decide +kernel
theorem dX5_undo_49 : decode cX5_undo 49 = .ok (.iastore, 1) := by decide +kernel
theorem dX5_undo_50 : decode cX5_undo 50 = .ok (.iinc 1 1, 3) := by decide +kernel
theorem dX5_undo_53 : decode cX5_undo 53 = .ok (.goto (-31), 3) := by decide +kernel
theorem dX5_undo_56 : decode cX5_undo 56 = .ok (.aload_n 0, 1) := by decide +kernel
theorem dX5_undo_57 : decode cX5_undo 57 = .ok (.getfield 37, 3) := by decide +kernel
theorem dX5_undo_60 : decode cX5_undo 60 = .ok (.ireturn, 1) := by decide +kernel
set_option maxRecDepth 20000 in
theorem ggX5_save_X5_in : GoodIn wsX5_save wsX5_in := goodIn_r _ [7] (by decide +kernel) (by decide +kernel)
set_option maxRecDepth 20000 in
theorem gX5_save_X5_in : GoodIn wsX5_save (va_wsS RX5 29 yX5_in wsX5_in) := goodIn_app (goodIn_of _ (by decide +kernel)) ggX5_save_X5_in
theorem dX5_save_0 : decode cX5_save 0 = .ok (.iload_n 1, 1) := by decide +kernel
theorem dX5_save_1 : decode cX5_save 1 = .ok (.iconst 0, 1) := by decide +kernel
theorem dX5_save_2 : decode cX5_save 2 = .ok (.iconst 1, 1) := by decide +kernel
theorem dX5_save_3 : decode cX5_save 3 = .ok (.invokestatic 29, 3) := by decide +kernel
theorem dX5_save_6 : decode cX5_save 6 = .ok (.ifCond .ne 6, 3) := by decide +kernel
theorem dX5_save_9 : decode cX5_save 9 = .ok (.bipush (-2), 2) := by decide +kernel
theorem dX5_save_11 : decode cX5_save 11 = .ok (.ireturn, 1) := by decide +kernel
theorem dX5_save_12 : decode cX5_save 12 = .ok (.iconst 0, 1) := by decide +kernel
theorem dX5_save_13 : decode cX5_save 13 = .ok (.istore_n 2, 1) := by decide +kernel
theorem dX5_save_14 : decode cX5_save 14 = .ok (.iload_n 2, 1) := by decide +kernel
theorem dX5_save_15 : decode cX5_save 15 = .ok (.sipush 169, 3) := by decide +kernel
theorem dX5_save_18 : decode cX5_save 18 = .ok (.if_icmp .ge 27, 3) := by decide +kernel
theorem dX5_save_21 : decode cX5_save 21 = .ok (.aload_n 0, 1) := by decide +kernel
theorem dX5_save_22 : decode cX5_save 22 = .ok (.getfield 16, 3) := by decide +kernel
theorem dX5_save_25 : decode cX5_save 25 = .ok (.sipush 169, 3) := by decide +kernel
theorem dX5_save_28 : decode cX5_save 28 = .ok (.iload_n 1, 1) := by decide +kernel
theorem dX5_save_29 : decode cX5_save 29 = .ok (.imul, 1) := by decide +kernel
theorem dX5_save_30 : decode cX5_save 30 = .ok (.iload_n 2, 1) := by decide +kernel
theorem dX5_save_31 : decode cX5_save 31 = .ok (.iadd, 1) := by decide +kernel
theorem dX5_save_32 : decode cX5_save 32 = .ok (.aload_n 0, 1) := by decide +kernel
theorem dX5_save_33 : decode cX5_save 33 = .ok (.getfield 7, 3) := by decide +kernel
theorem dX5_save_36 : decode cX5_save 36 = .ok (.iload_n 2, 1) := by decide +kernel
theorem dX5_save_37 : decode cX5_save 37 = .ok (.iaload, 1) := by decide +kernel
theorem dX5_save_38 : decode cX5_save 38 = .ok (.iastore, 1) := by decide +kernel
theorem dX5_save_39 : decode cX5_save 39 = .ok (.iinc 2 1, 3) := by decide +kernel
theorem dX5_save_42 : decode cX5_save 42 = .ok (.goto (-28), 3) := by decide +kernel
theorem dX5_save_45 : decode cX5_save 45 = .ok (.aload_n 0, 1) := by decide +kernel
theorem dX5_save_46 : decode cX5_save 46 = .ok (.getfield 19, 3) := by decide +kernel
theorem dX5_save_49 : decode cX5_save 49 = .ok (.iload_n 1, 1) := by decide +kernel
theorem dX5_save_50 : decode cX5_save 50 = .ok (.iconst 1, 1) := by decide +kernel
theorem dX5_save_51 : decode cX5_save 51 = .ok (.bastore, 1) := by decide +kernel
theorem dX5_save_52 : decode cX5_save 52 = .ok (.aload_n 0, 1) := by decide +kernel
theorem dX5_save_53 : decode cX5_save 53 = .ok (.getfield 7, 3) := by decide +kernel
theorem dX5_save_56 : decode cX5_save 56 = .ok (.iconst 0, 1) := by decide +kernel
theorem dX5_save_57 : decode cX5_save 57 = .ok (.iaload, 1) := by decide +kernel
theorem dX5_save_58 : decode cX5_save 58 = .ok (.ireturn, 1) := by decide +kernel
set_option maxRecDepth 20000 in
theorem ggX5_restore_X5_in : GoodIn wsX5_restore wsX5_in := goodIn_r _ [7] (by decide +kernel) (by decide +kernel)
set_option maxRecDepth 20000 in
theorem gX5_restore_X5_in : GoodIn wsX5_restore (va_wsS RX5 29 yX5_in wsX5_in) := goodIn_app (goodIn_of _ (by decide +kernel)) ggX5_restore_X5_in
set_option maxRecDepth 20000 in
theorem ggX5_restore_X5_record : GoodIn wsX5_restore wsX5_record := goodIn_r _ [11, 12, 13, 2, 14, 15, 16, 17, 18, 19, 20, 21, 22] (by decide +kernel) (by decide +kernel)
set_option maxRecDepth 20000 in
theorem gX5_restore_X5_record : GoodIn wsX5_restore (wsV RX5 65 RX5 yX5_record wsX5_record) := goodIn_app (goodIn_of _ (by decide +kernel)) ggX5_restore_X5_record
theorem dX5_restore_0 : decode cX5_restore 0 = .ok (.iload_n 1, 1) := by decide +kernel
theorem dX5_restore_1 : decode cX5_restore 1 = .ok (.iconst 0, 1) := by decide +kernel
theorem dX5_restore_2 : decode cX5_restore 2 = .ok (.iconst 1, 1) := by decide +kernel
theorem dX5_restore_3 : decode cX5_restore 3 = .ok (.invokestatic 29, 3) := by decide +kernel
theorem dX5_restore_6 : decode cX5_restore 6 = .ok (.ifCond .ne 6, 3) := by decide +kernel
theorem dX5_restore_9 : decode cX5_restore 9 = .ok (.bipush (-2), 2) := by decide +kernel
theorem dX5_restore_11 : decode cX5_restore 11 = .ok (.ireturn, 1) := by decide +kernel
theorem dX5_restore_12 : decode cX5_restore 12 = .ok (.aload_n 0, 1) := by decide +kernel
theorem dX5_restore_13 : decode cX5_restore 13 = .ok (.getfield 19, 3) := by decide +kernel
theorem dX5_restore_16 : decode cX5_restore 16 = .ok (.iload_n 1, 1) := by decide +kernel
theorem dX5_restore_17 : decode cX5_restore 17 = .ok (.baload, 1) := by decide +kernel
theorem dX5_restore_18 : decode cX5_restore 18 = .ok (.ifCond .ne 6, 3) := by decide +kernel
theorem dX5_restore_21 : decode cX5_restore 21 = .ok (.bipush (-5), 2) := by decide +kernel
theorem dX5_restore_23 : decode cX5_restore 23 = .ok (.ireturn, 1) := by decide +kernel
theorem dX5_restore_24 : decode cX5_restore 24 = .ok (.aload_n 0, 1) := by decide +kernel
theorem dX5_restore_25 : decode cX5_restore 25 = .ok (.invokevirtual 65, 3) := by decide +kernel
theorem dX5_restore_28 : decode cX5_restore 28 = .ok (.iconst 0, 1) := by decide +kernel
theorem dX5_restore_29 : decode cX5_restore 29 = .ok (.istore_n 2, 1) := by decide +kernel
theorem dX5_restore_30 : decode cX5_restore 30 = .ok (.iload_n 2, 1) := by decide +kernel
theorem dX5_restore_31 : decode cX5_restore 31 = .ok (.sipush 169, 3) := by decide +kernel
theorem dX5_restore_34 : decode cX5_restore 34 = .ok (.if_icmp .ge 27, 3) := by decide +kernel
theorem dX5_restore_37 : decode cX5_restore 37 = .ok (.aload_n 0, 1) := by decide +kernel
theorem dX5_restore_38 : decode cX5_restore 38 = .ok (.getfield 7, 3) := by decide +kernel
theorem dX5_restore_41 : decode cX5_restore 41 = .ok (.iload_n 2, 1) := by decide +kernel
theorem dX5_restore_42 : decode cX5_restore 42 = .ok (.aload_n 0, 1) := by decide +kernel
theorem dX5_restore_43 : decode cX5_restore 43 = .ok (.getfield 16, 3) := by decide +kernel
theorem dX5_restore_46 : decode cX5_restore 46 = .ok (.sipush 169, 3) := by decide +kernel
theorem dX5_restore_49 : decode cX5_restore 49 = .ok (.iload_n 1, 1) := by decide +kernel
theorem dX5_restore_50 : decode cX5_restore 50 = .ok (.imul, 1) := by decide +kernel
theorem dX5_restore_51 : decode cX5_restore 51 = .ok (.iload_n 2, 1) := by decide +kernel
theorem dX5_restore_52 : decode cX5_restore 52 = .ok (.iadd, 1) := by decide +kernel
theorem dX5_restore_53 : decode cX5_restore 53 = .ok (.iaload, 1) := by decide +kernel
theorem dX5_restore_54 : decode cX5_restore 54 = .ok (.iastore, 1) := by decide +kernel
theorem dX5_restore_55 : decode cX5_restore 55 = .ok (.iinc 2 1, 3) := by decide +kernel
theorem dX5_restore_58 : decode cX5_restore 58 = .ok (.goto (-28), 3) := by decide +kernel
theorem dX5_restore_61 : decode cX5_restore 61 = .ok (.aload_n 0, 1) := by decide +kernel
theorem dX5_restore_62 : decode cX5_restore 62 = .ok (.getfield 7, 3) := by decide +kernel
theorem dX5_restore_65 : decode cX5_restore 65 = .ok (.iconst 0, 1) := by decide +kernel
theorem dX5_restore_66 : decode cX5_restore 66 = .ok (.iaload, 1) := by decide +kernel
theorem dX5_restore_67 : decode cX5_restore 67 = .ok (.ireturn, 1) := by decide +kernel
theorem dJ6_bitCount_0f7a4_0 : decode cJ6_bitCount_0f7a4 0 = .ok (.iload_n 0, 1) := by decide +kernel
theorem dJ6_bitCount_0f7a4_1 : decode cJ6_bitCount_0f7a4 1 = .ok (.iload_n 0, 1) := by decide +kernel
theorem dJ6_bitCount_0f7a4_2 : decode cJ6_bitCount_0f7a4 2 = .ok (.iconst 1, 1) := by decide +kernel
theorem dJ6_bitCount_0f7a4_3 : decode cJ6_bitCount_0f7a4 3 = .ok (.iushr, 1) := by decide +kernel
theorem dJ6_bitCount_0f7a4_4 : decode cJ6_bitCount_0f7a4 4 = .ok (.ldc_w 265, 3) := by decide +kernel
theorem dJ6_bitCount_0f7a4_7 : decode cJ6_bitCount_0f7a4 7 = .ok (.iand, 1) := by decide +kernel
theorem dJ6_bitCount_0f7a4_8 : decode cJ6_bitCount_0f7a4 8 = .ok (.isub, 1) := by decide +kernel
theorem dJ6_bitCount_0f7a4_9 : decode cJ6_bitCount_0f7a4 9 = .ok (.istore_n 0, 1) := by decide +kernel
theorem dJ6_bitCount_0f7a4_10 : decode cJ6_bitCount_0f7a4 10 = .ok (.iload_n 0, 1) := by decide +kernel
theorem dJ6_bitCount_0f7a4_11 : decode cJ6_bitCount_0f7a4 11 = .ok (.ldc_w 266, 3) := by decide +kernel
theorem dJ6_bitCount_0f7a4_14 : decode cJ6_bitCount_0f7a4 14 = .ok (.iand, 1) := by decide +kernel
theorem dJ6_bitCount_0f7a4_15 : decode cJ6_bitCount_0f7a4 15 = .ok (.iload_n 0, 1) := by decide +kernel
theorem dJ6_bitCount_0f7a4_16 : decode cJ6_bitCount_0f7a4 16 = .ok (.iconst 2, 1) := by decide +kernel
theorem dJ6_bitCount_0f7a4_17 : decode cJ6_bitCount_0f7a4 17 = .ok (.iushr, 1) := by decide +kernel
theorem dJ6_bitCount_0f7a4_18 : decode cJ6_bitCount_0f7a4 18 = .ok (.ldc_w 266, 3) := by decide +kernel
theorem dJ6_bitCount_0f7a4_21 : decode cJ6_bitCount_0f7a4 21 = .ok (.iand, 1) := by decide +kernel
theorem dJ6_bitCount_0f7a4_22 : decode cJ6_bitCount_0f7a4 22 = .ok (.iadd, 1) := by decide +kernel
theorem dJ6_bitCount_0f7a4_23 : decode cJ6_bitCount_0f7a4 23 = .ok (.istore_n 0, 1) := by decide +kernel
theorem dJ6_bitCount_0f7a4_24 : decode cJ6_bitCount_0f7a4 24 = .ok (.iload_n 0, 1) := by decide +kernel
theorem dJ6_bitCount_0f7a4_25 : decode cJ6_bitCount_0f7a4 25 = .ok (.iload_n 0, 1) := by decide +kernel
theorem dJ6_bitCount_0f7a4_26 : decode cJ6_bitCount_0f7a4 26 = .ok (.iconst 4, 1) := by decide +kernel
theorem dJ6_bitCount_0f7a4_27 : decode cJ6_bitCount_0f7a4 27 = .ok (.iushr, 1) := by decide +kernel
theorem dJ6_bitCount_0f7a4_28 : decode cJ6_bitCount_0f7a4 28 = .ok (.iadd, 1) := by decide +kernel
theorem dJ6_bitCount_0f7a4_29 : decode cJ6_bitCount_0f7a4 29 = .ok (.ldc_w 267, 3) := by decide +kernel
theorem dJ6_bitCount_0f7a4_32 : decode cJ6_bitCount_0f7a4 32 = .ok (.iand, 1) := by decide +kernel
theorem dJ6_bitCount_0f7a4_33 : decode cJ6_bitCount_0f7a4 33 = .ok (.istore_n 0, 1) := by decide +kernel
theorem dJ6_bitCount_0f7a4_34 : decode cJ6_bitCount_0f7a4 34 = .ok (.iload_n 0, 1) := by decide +kernel
theorem dJ6_bitCount_0f7a4_35 : decode cJ6_bitCount_0f7a4 35 = .ok (.iload_n 0, 1) := by decide +kernel
theorem dJ6_bitCount_0f7a4_36 : decode cJ6_bitCount_0f7a4 36 = .ok (.bipush 8, 2) := by decide +kernel
theorem dJ6_bitCount_0f7a4_38 : decode cJ6_bitCount_0f7a4 38 = .ok (.iushr, 1) := by decide +kernel
theorem dJ6_bitCount_0f7a4_39 : decode cJ6_bitCount_0f7a4 39 = .ok (.iadd, 1) := by decide +kernel
theorem dJ6_bitCount_0f7a4_40 : decode cJ6_bitCount_0f7a4 40 = .ok (.istore_n 0, 1) := by decide +kernel
theorem dJ6_bitCount_0f7a4_41 : decode cJ6_bitCount_0f7a4 41 = .ok (.iload_n 0, 1) := by decide +kernel
theorem dJ6_bitCount_0f7a4_42 : decode cJ6_bitCount_0f7a4 42 = .ok (.iload_n 0, 1) := by decide +kernel
theorem dJ6_bitCount_0f7a4_43 : decode cJ6_bitCount_0f7a4 43 = .ok (.bipush 16, 2) := by decide +kernel
theorem dJ6_bitCount_0f7a4_45 : decode cJ6_bitCount_0f7a4 45 = .ok (.iushr, 1) := by decide +kernel
theorem dJ6_bitCount_0f7a4_46 : decode cJ6_bitCount_0f7a4 46 = .ok (.iadd, 1) := by decide +kernel
theorem dJ6_bitCount_0f7a4_47 : decode cJ6_bitCount_0f7a4 47 = .ok (.istore_n 0, 1) := by decide +kernel
theorem dJ6_bitCount_0f7a4_48 : decode cJ6_bitCount_0f7a4 48 = .ok (.iload_n 0, 1) := by decide +kernel
theorem dJ6_bitCount_0f7a4_49 : decode cJ6_bitCount_0f7a4 49 = .ok (.bipush 63, 2) := by decide +kernel
theorem dJ6_bitCount_0f7a4_51 : decode cJ6_bitCount_0f7a4 51 = .ok (.iand, 1) := by decide +kernel
theorem dJ6_bitCount_0f7a4_52 : decode cJ6_bitCount_0f7a4 52 = .ok (.ireturn, 1) := by decide +kernel
theorem dJ9_max_7cf53_0 : decode cJ9_max_7cf53 0 = .ok (.iload_n 0, 1) := by decide +kernel
theorem dJ9_max_7cf53_1 : decode cJ9_max_7cf53 1 = .ok (.iload_n 1, 1) := by decide +kernel
theorem dJ9_max_7cf53_2 : decode cJ9_max_7cf53 2 = .ok (.if_icmp .lt 7, 3) := by decide +kernel
theorem dJ9_max_7cf53_5 : decode cJ9_max_7cf53 5 = .ok (.iload_n 0, 1) := by decide +kernel
theorem dJ9_max_7cf53_6 : decode cJ9_max_7cf53 6 = .ok (.goto 4, 3) := by decide +kernel
theorem dJ9_max_7cf53_9 : decode cJ9_max_7cf53 9 = .ok (.iload_n 1, 1) := by decide +kernel
theorem dJ9_max_7cf53_10 : decode cJ9_max_7cf53 10 = .ok (.ireturn, 1) := by decide +kernel
theorem dJ9_min_7cf53_0 : decode cJ9_min_7cf53 0 = .ok (.iload_n 0, 1) := by decide +kernel
theorem dJ9_min_7cf53_1 : decode cJ9_min_7cf53 1 = .ok (.iload_n 1, 1) := by decide +kernel
theorem dJ9_min_7cf53_2 : decode cJ9_min_7cf53 2 = .ok (.if_icmp .gt 7, 3) := by decide +kernel
theorem dJ9_min_7cf53_5 : decode cJ9_min_7cf53 5 = .ok (.iload_n 0, 1) := by decide +kernel
theorem dJ9_min_7cf53_6 : decode cJ9_min_7cf53 6 = .ok (.goto 4, 3) := by decide +kernel
theorem dJ9_min_7cf53_9 : decode cJ9_min_7cf53 9 = .ok (.iload_n 1, 1) := by decide +kernel
theorem dJ9_min_7cf53_10 : decode cJ9_min_7cf53 10 = .ok (.ireturn, 1) := by decide +kernel
abbrev vwCl : List vw_C := [(RX0, TX0, 7), (RX1, TX1, 2), (RX2, TX2, 7), (RX3, TX3, 2), (RX4, TX4, 6), (RX5, TX5, 9)]
end
section
/-! Rows of this claim's own: the context of a walk, numbers as nI of a Nat, calls in one row. -/
def Nests (U : State) : Prop :=
  va_Nw (.methodLinkNest RX4 11 yX3_init "LayeredCharters") U ∧ va_Nw (.methodLinkNest RX3 9 yX2_init "LayeredCharters") U ∧ va_Nw (.methodLinkNest RX3 18 yX0_init "LayeredCharters") U ∧ va_Nw (.methodLinkNest RX4 18 yX1_init "LayeredCharters") U ∧ va_Nw (.methodLinkNest RX4 36 yX2_init "LayeredCharters") U ∧ va_Nw (.methodLinkNest RX2 34 yX4_copyRow "LayeredCharters") U ∧ va_Nw (.methodLinkNest RX0 34 yX4_copyRow "LayeredCharters") U ∧ va_Nw (.methodLinkNest RX2 38 yX4_pairsOf "LayeredCharters") U ∧ va_Nw (.methodLinkNest RX2 46 yX4_closeGap "LayeredCharters") U ∧ va_Nw (.methodLinkNest RX1 21 yX4_isBetween "LayeredCharters") U ∧ va_Nw (.methodLinkNest RX0 42 yX4_closeGap "LayeredCharters") U ∧ va_Nw (.methodLinkNest RX0 46 yX4_isBetween "LayeredCharters") U ∧ va_AO RX3 U
abbrev xTys (k : Nat → ClassId) : List (ClassId × FieldType) := [(k 0, .int), (k 1, .char), (k 2, .boolean), (k 3, .object RX3)]
def KN (D : va_G) (k : Nat → ClassId) (U : State) : Prop := va_K D vwCl (xTys k) U ∧ Nests U
theorem Nests.warm {s U : State} (hW : s.WarmedH U.vm) (h : Nests s) : Nests U := by
  obtain ⟨h1, h2, h3, h4, h5, h6, h7, h8, h9, h10, h11, h12, h13⟩ := h
  exact ⟨h1.warmM hW, h2.warmM hW, h3.warmM hW, h4.warmM hW, h5.warmM hW, h6.warmM hW, h7.warmM hW, h8.warmM hW, h9.warmM hW, h10.warmM hW, h11.warmM hW, h12.warmM hW, h13.moved hW.alike⟩
theorem Nests.calling {U : State} {g : JFrame} {mk : MethodId} {a : Array Value} (h : Nests U) : Nests (U.calling g mk a) := by
  obtain ⟨h1, h2, h3, h4, h5, h6, h7, h8, h9, h10, h11, h12, h13⟩ := h
  exact ⟨h1.same rfl rfl, h2.same rfl rfl, h3.same rfl rfl, h4.same rfl rfl, h5.same rfl rfl, h6.same rfl rfl, h7.same rfl rfl, h8.same rfl rfl, h9.same rfl rfl, h10.same rfl rfl, h11.same rfl rfl, h12.same rfl rfl, h13.moved (Vm.Alike.refl U.vm)⟩
theorem KN.warm {D : va_G} {k : Nat → ClassId} {s U : State} (hW : s.WarmedH U.vm) (h : KN D k s) : KN D k U := ⟨va_K.moved hW.alike h.1, h.2.warm hW⟩
theorem KN.calling {D : va_G} {k : Nat → ClassId} {U : State} {g : JFrame} {mk : MethodId} {a : Array Value} (h : KN D k U) : KN D k (U.calling g mk a) := ⟨va_K.moved (u := U) (U := U.calling g mk a) (Vm.Alike.refl U.vm) h.1, h.2.calling⟩
/-- a reading method's start: its world, and the tables -/
def xPr (D : va_G) (k : Nat → ClassId) (ws : va_W) (U : State) : Prop := va_P D vwCl ws U.heap ∧ KN D k U
/-- a writing method's start: its world is apart and lies in A, and what is new lies in A -/
def xPw (D : va_G) (k : Nat → ClassId) (A : Nat → Prop) (ws : va_W) (U : State) : Prop := va_P D vwCl ws U.heap ∧ KN D k U ∧ va_D A ws ∧ ∀ q : Nat, U.heap.size ≤ q → A q
def xB (D : va_G) (A : Nat → Prop) (u : va_W) (t : State) : Prop := va_P D vwCl u t.heap ∧ va_D A u
abbrev xQi (D : va_G) (A : Nat → Prop) (post : Int32 → va_W → Prop) : Array Value → State → Outcome → State → Prop := va_Qi post (xB D A) A
abbrev xQv (D : va_G) (A : Nat → Prop) (post : va_W → Prop) : Array Value → State → Outcome → State → Prop := va_Qv post (xB D A) A
theorem xPr.calling {D : va_G} {k : Nat → ClassId} {ws : va_W} {U : State} {g : JFrame} {mk : MethodId} {a : Array Value} (h : xPr D k ws U) : xPr D k ws (U.calling g mk a) := ⟨h.1, h.2.calling⟩
theorem xPw.calling {D : va_G} {k : Nat → ClassId} {A : Nat → Prop} {ws : va_W} {U : State} {g : JFrame} {mk : MethodId} {a : Array Value} (h : xPw D k A ws U) : xPw D k A ws (U.calling g mk a) := ⟨h.1, h.2.1.calling, h.2.2.1, h.2.2.2⟩
theorem xRun {p : Program} {l : Launch} {e : Env} {R : Room} {s : State} {m : MethodId} {args : Array Value} {below : List Frame} {meth : Method} {c : Code} {H : Heap} {locs : List Loc} {cells slots mc ms : Nat} {g : JFrame} {rest : List Value} {Qa : State → Outcome → State → Prop} {free : Addr → Prop} (h : va_Run p l e R s m args below meth c H locs cells slots mc ms g rest Qa free) : CallRun p l e R s m args below meth c H locs cells slots mc ms g rest Qa free := fun T hT X => by
  obtain ⟨v, a, t, T', L, h1, h2, h3, h4, _, h6, h7⟩ := h T hT X
  exact ⟨v, a, t, T', L, h1, h2, h3, h4, h6, h7⟩
/-- a world cut in two: what stays and what a callee takes, with a tail of any length; behind the call -/
theorem xJoin {A0 : Nat → Prop} {D : va_G} {cl : List vw_C} {L tl wc wr w1 : va_W} {H H1 : Heap} (hP : va_P D cl (L ++ tl) H) (hD : va_D A0 (L ++ tl)) (isC isR : List Nat) (hC : isC.map (fun i => L[i]?) = wc.map some) (hR : isR.map (fun i => L[i]?) = wr.map some) (hn : va_nd isR = true) (hdis : ∀ i ∈ isR, i ∉ isC)
    (hk : ∀ q : Nat, q < H.size → ¬ va_A wc H.size q → H1[q]? = H[q]?) (hF : ∀ q, va_A wc H.size q → A0 q) (hP1 : va_P D cl w1 H1) (hD1 : va_D (va_A wc H.size) w1) : va_P D cl (wr ++ w1 ++ tl) H1 ∧ va_D A0 (wr ++ w1 ++ tl) := by
  have atL : ∀ {is : List Nat} {w : va_W}, is.map (fun i => L[i]?) = w.map some → ∀ (k : Nat) (q : Nat × va_E), w[k]? = some q → ∃ i, is[k]? = some i ∧ L[i]? = some q := by
    intro is w hs k q hq
    have h1 : (is.map (fun i => L[i]?))[k]? = some (some q) := by rw [hs, List.getElem?_map, hq]; rfl
    rw [List.getElem?_map] at h1
    cases hi : is[k]? with
    | none => rw [hi] at h1; cases h1
    | some i => rw [hi] at h1; exact ⟨i, rfl, Option.some.inj h1⟩
  have inL : ∀ {i : Nat} {q : Nat × va_E}, L[i]? = some q → (L ++ tl)[i]? = some q := by
    intro i q h
    have hl := (List.getElem?_eq_some_iff.mp h).1
    rw [List.getElem?_append_left hl]; exact h
  have inT : ∀ {i : Nat} {q : Nat × va_E}, tl[i]? = some q → (L ++ tl)[L.length + i]? = some q := by
    intro i q h
    rw [List.getElem?_append_right (by omega), Nat.add_sub_cancel_left]; exact h
  have nA : ∀ {j : Nat} {q : Nat × va_E}, (L ++ tl)[j]? = some q → (∀ i ∈ isC, i < L.length → j ≠ i) → q.1 < H.size ∧ ¬ va_A wc H.size q.1 := by
    intro j q hj hne
    have hl := (hP j q hj).lt
    refine ⟨hl, fun h => ?_⟩
    rcases h with ⟨k2, e, h⟩ | h
    · obtain ⟨i, h3, h4⟩ := atL hC k2 (q.1, e) h
      exact hne i (List.mem_of_getElem? h3) (List.getElem?_eq_some_iff.mp h4).1 (hD.1 j i q (q.1, e) hj (inL h4) rfl)
    · omega
  have apR : ∀ (k : Nat) (q : Nat × va_E), wr[k]? = some q → ∃ i ∈ isR, L[i]? = some q ∧ q.1 < H.size ∧ ¬ va_A wc H.size q.1 := by
    intro k q hq
    obtain ⟨i, h1, h2⟩ := atL hR k q hq
    have hi := List.mem_of_getElem? h1
    exact ⟨i, hi, h2, nA (inL h2) (fun j hj _ hij => hdis i hi (by rw [hij]; exact hj))⟩
  have apT : ∀ (k : Nat) (q : Nat × va_E), tl[k]? = some q → q.1 < H.size ∧ ¬ va_A wc H.size q.1 := by
    intro k q hq
    exact nA (inT hq) (fun j _ hl hij => by omega)
  have hDR : va_D A0 wr := by
    refine hD.sub (ws' := wr) isR hn ?_
    rw [← hR]
    apply List.map_congr_left
    intro i hi
    obtain ⟨k, hk⟩ := List.getElem?_of_mem hi
    have h1 : (isR.map (fun i => L[i]?))[k]? = some (L[i]?) := by rw [List.getElem?_map, hk]; rfl
    rw [hR, List.getElem?_map] at h1
    cases hw : wr[k]? with
    | none => rw [hw] at h1; cases h1
    | some q =>
      rw [hw] at h1
      have h2 : L[i]? = some q := (Option.some.inj h1).symm
      rw [inL h2, h2]
  have hDT : va_D A0 tl := by
    refine ⟨fun i j a b hi hj hab => ?_, fun i a hi => hD.2 _ a (inT hi)⟩
    have := hD.1 _ _ a b (inT hi) (inT hj) hab
    omega
  refine ⟨va_P.app (va_P.app (fun k q hq => ?_) hP1) (fun k q hq => ?_), va_D.app (va_D.app hDR (hD1.weaken (fun k q _ h => hF q.1 h)) (fun i j x y hx hy hxy => ?_)) hDT (fun i j x y hx hy hxy => ?_)⟩
  · obtain ⟨i, h1, h2, g1, g2⟩ := apR k q hq
    exact (hP i q (inL h2)).kept (hk q.1 g1 g2)
  · obtain ⟨g1, g2⟩ := apT k q hq
    exact (hP _ q (inT hq)).kept (hk q.1 g1 g2)
  · obtain ⟨_, _, _, g1, g2⟩ := apR i x hx
    exact g2 (by rw [hxy]; exact hD1.2 j y hy)
  · obtain ⟨g1, g2⟩ := apT j y hy
    rcases List.mem_append.mp (List.mem_of_getElem? hx) with h | h
    · obtain ⟨i2, h⟩ := List.getElem?_of_mem h
      obtain ⟨i3, _, h2, _, _⟩ := apR i2 x h
      have hl := (List.getElem?_eq_some_iff.mp h2).1
      have := hD.1 _ _ x y (inL h2) (inT hy) hxy
      omega
    · obtain ⟨i2, h⟩ := List.getElem?_of_mem h
      exact g2 (by rw [← hxy]; exact hD1.2 i2 x h)
theorem xSubL {D : va_G} {cl : List vw_C} {L tl wc : va_W} {H : Heap} (hP : va_P D cl (L ++ tl) H) (isC : List Nat) (hC : isC.map (fun i => L[i]?) = wc.map some) : va_P D cl wc H := by
  intro k q hq
  have h1 : (isC.map (fun i => L[i]?))[k]? = some (some q) := by rw [hC, List.getElem?_map, hq]; rfl
  rw [List.getElem?_map] at h1
  cases hi : isC[k]? with
  | none => rw [hi] at h1; cases h1
  | some i =>
    rw [hi] at h1
    have h2 : L[i]? = some q := Option.some.inj h1
    have hl := (List.getElem?_eq_some_iff.mp h2).1
    exact hP i q (by rw [List.getElem?_append_left hl]; exact h2)
theorem xSubD {A : Nat → Prop} {L tl wc : va_W} (hD : va_D A (L ++ tl)) (isC : List Nat) (hn : va_nd isC = true) (hC : isC.map (fun i => L[i]?) = wc.map some) : va_D A wc := by
  refine hD.sub (ws' := wc) isC hn ?_
  rw [← hC]
  apply List.map_congr_left
  intro i hi
  obtain ⟨k, hk⟩ := List.getElem?_of_mem hi
  have h1 : (isC.map (fun i => L[i]?))[k]? = some (L[i]?) := by rw [List.getElem?_map, hk]; rfl
  rw [hC, List.getElem?_map] at h1
  cases hw : wc[k]? with
  | none => rw [hw] at h1; cases h1
  | some q =>
    rw [hw] at h1
    have h2 : L[i]? = some q := (Option.some.inj h1).symm
    have hl := (List.getElem?_eq_some_iff.mp h2).1
    rw [List.getElem?_append_left hl]
theorem xFreeL {A0 : Nat → Prop} {L tl wc : va_W} {H0 H : Heap} {locs : List Loc} (hD : va_D A0 (L ++ tl)) (hS : va_S A0 H0 H locs) (hA : ∀ q, H0.size ≤ q → A0 q) (isC : List Nat) (hC : isC.map (fun i => L[i]?) = wc.map some) : ∀ q, va_A wc H.size q → A0 q := by
  intro q h
  rcases h with ⟨k, e, h⟩ | h
  · have h1 : (isC.map (fun i => L[i]?))[k]? = some (some (q, e)) := by rw [hC, List.getElem?_map, h]; rfl
    rw [List.getElem?_map] at h1
    cases hi : isC[k]? with
    | none => rw [hi] at h1; cases h1
    | some i =>
      rw [hi] at h1
      have h2 : L[i]? = some (q, e) := Option.some.inj h1
      have hl := (List.getElem?_eq_some_iff.mp h2).1
      exact hD.2 i (q, e) (by rw [List.getElem?_append_left hl]; exact h2)
  · exact hA q (Nat.le_trans hS.1 h)
section XR
variable {p : Program} {l : Launch} {e : Env} {R : Room} {s : State} {m : MethodId} {args : Array Value} {below : List Frame} {meth : Method} {c : Code} {H : Heap} {locs : List Loc} {cells slots : Nat} {Q : State → Prop}
variable {cc : ByteArray} {pc nL : Nat} {ls : Array Slot} {rest st0 : List Value} {Ts : List Cond} {own : String} {D : va_G} {k : Nat → ClassId} {A : Nat → Prop} {H0 : Heap} {ws : va_W}
theorem xTop {x y : Int32} (h : x = y) (kk : W p l e R s m args below meth c H locs cells slots Q (F0 m pc ls (.int y :: rest))) : W p l e R s m args below meth c H locs cells slots Q (F0 m pc ls (.int x :: rest)) := h ▸ kk
theorem xIadd (C : CallFix p m c cc nL s args Ts own) {a b : Nat} (hdg : decode cc pc = .ok (.iadd, 1)) (kk : W p l e R s m args below meth c H locs cells slots Q (F0 m (pc + 1) ls (.int (nI (a + b)) :: rest))) : W p l e R s m args below meth c H locs cells slots Q (F0 m pc ls (.int (nI b) :: .int (nI a) :: rest)) :=
  lv_iadd C.1 C.2.1 hdg (by rw [nI_add]; exact kk)
theorem xIsub (C : CallFix p m c cc nL s args Ts own) {a b : Nat} (h : b ≤ a) (hdg : decode cc pc = .ok (.isub, 1)) (kk : W p l e R s m args below meth c H locs cells slots Q (F0 m (pc + 1) ls (.int (nI (a - b)) :: rest))) : W p l e R s m args below meth c H locs cells slots Q (F0 m pc ls (.int (nI b) :: .int (nI a) :: rest)) :=
  lv_isub C.1 C.2.1 hdg (by rw [pk_sub h]; exact kk)
theorem xImul (C : CallFix p m c cc nL s args Ts own) {a b : Nat} (hdg : decode cc pc = .ok (.imul, 1)) (kk : W p l e R s m args below meth c H locs cells slots Q (F0 m (pc + 1) ls (.int (nI (a * b)) :: rest))) : W p l e R s m args below meth c H locs cells slots Q (F0 m pc ls (.int (nI b) :: .int (nI a) :: rest)) :=
  lv_imul C.1 C.2.1 hdg (by rw [pk_mul]; exact kk)
theorem xIdiv (C : CallFix p m c cc nL s args Ts own) {a b : Nat} (ha : a < 2 ^ 31) (h0 : 0 < b) (hb : b < 2 ^ 31) (hdg : decode cc pc = .ok (.idiv, 1)) (kk : W p l e R s m args below meth c H locs cells slots Q (F0 m (pc + 1) ls (.int (nI (a / b)) :: rest))) : W p l e R s m args below meth c H locs cells slots Q (F0 m pc ls (.int (nI b) :: .int (nI a) :: rest)) :=
  lv_idiv C.1 C.2.1 hdg (nI_ne0 h0 hb) (by rw [pk_div ha h0 hb]; exact kk)
theorem xIrem (C : CallFix p m c cc nL s args Ts own) {a b : Nat} (ha : a < 2 ^ 31) (h0 : 0 < b) (hb : b < 2 ^ 31) (hdg : decode cc pc = .ok (.irem, 1)) (kk : W p l e R s m args below meth c H locs cells slots Q (F0 m (pc + 1) ls (.int (nI (a % b)) :: rest))) : W p l e R s m args below meth c H locs cells slots Q (F0 m pc ls (.int (nI b) :: .int (nI a) :: rest)) :=
  t_irem C.1 C.2.1 hdg (nI_ne0 h0 hb) (pk_rem ha h0 hb) kk
theorem xIinc (C : CallFix p m c cc nL s args Ts own) {i kx d n : Nat} {z : Int} {lv lv' : List (Nat × Value)} (hdg : decode cc pc = .ok (.iinc i z, 3)) (h : lv_has ls nL lv) (hk : lv[kx]? = some (i, .int (nI n))) (hz : Int32.ofInt z = nI d) (hn : i < nL) (hl : (i, Value.int (nI (n + d))) :: lv.filter (fun q => !(q.1 == i) && !(q.1 + 1 == i && q.2.category == 2)) = lv')
    (kk : ∀ ls' : Array Slot, lv_has ls' nL lv' → W p l e R s m args below meth c H locs cells slots Q (F0 m (pc + 3) ls' rest)) : W p l e R s m args below meth c H locs cells slots Q (F0 m pc ls rest) :=
  lv_iinc C.1 C.2.1 hdg h hk (by rw [hz, nI_add]) hn hl kk
theorem xIdec (C : CallFix p m c cc nL s args Ts own) {i kx n : Nat} {lv lv' : List (Nat × Value)} (h1 : 1 ≤ n) (hdg : decode cc pc = .ok (.iinc i (-1), 3)) (h : lv_has ls nL lv) (hk : lv[kx]? = some (i, .int (nI n))) (hn : i < nL) (hl : (i, Value.int (nI (n - 1))) :: lv.filter (fun q => !(q.1 == i) && !(q.1 + 1 == i && q.2.category == 2)) = lv')
    (kk : ∀ ls' : Array Slot, lv_has ls' nL lv' → W p l e R s m args below meth c H locs cells slots Q (F0 m (pc + 3) ls' rest)) : W p l e R s m args below meth c H locs cells slots Q (F0 m pc ls rest) :=
  lv_iinc C.1 C.2.1 hdg h hk (by
    obtain ⟨n', rfl⟩ : ∃ n', n = n' + 1 := ⟨n - 1, by omega⟩
    rw [Nat.add_sub_cancel]; exact pk_m1 n') hn hl kk
theorem xIcmpEq (C : CallFix p m c cc nL s args Ts own) {a b : Nat} {off : Int} {tgt : Nat} (ha : a < 2 ^ 31) (hb : b < 2 ^ 31) (hdg : decode cc pc = .ok (.if_icmp .eq off, 3)) (ht : (pc : Int) + off = (tgt : Int)) (kt : a = b → W p l e R s m args below meth c H locs cells slots Q (F0 m tgt ls rest)) (kf : a ≠ b → W p l e R s m args below meth c H locs cells slots Q (F0 m (pc + 3) ls rest)) : W p l e R s m args below meth c H locs cells slots Q (F0 m pc ls (.int (nI b) :: .int (nI a) :: rest)) :=
  lv_icmp_eq C.1 C.2.1 hdg ht (fun h => kt ((nI_eq ha hb).mp h)) (fun h => kf (fun q => h ((nI_eq ha hb).mpr q)))
theorem xIcmpNe (C : CallFix p m c cc nL s args Ts own) {a b : Nat} {off : Int} {tgt : Nat} (ha : a < 2 ^ 31) (hb : b < 2 ^ 31) (hdg : decode cc pc = .ok (.if_icmp .ne off, 3)) (ht : (pc : Int) + off = (tgt : Int)) (kt : a ≠ b → W p l e R s m args below meth c H locs cells slots Q (F0 m tgt ls rest)) (kf : a = b → W p l e R s m args below meth c H locs cells slots Q (F0 m (pc + 3) ls rest)) : W p l e R s m args below meth c H locs cells slots Q (F0 m pc ls (.int (nI b) :: .int (nI a) :: rest)) :=
  lv_icmp_ne C.1 C.2.1 hdg ht (fun h => kt (fun q => h ((nI_eq ha hb).mpr q))) (fun h => kf ((nI_eq ha hb).mp h))
theorem xIcmpLt (C : CallFix p m c cc nL s args Ts own) {a b : Nat} {off : Int} {tgt : Nat} (ha : a < 2 ^ 31) (hb : b < 2 ^ 31) (hdg : decode cc pc = .ok (.if_icmp .lt off, 3)) (ht : (pc : Int) + off = (tgt : Int)) (kt : a < b → W p l e R s m args below meth c H locs cells slots Q (F0 m tgt ls rest)) (kf : b ≤ a → W p l e R s m args below meth c H locs cells slots Q (F0 m (pc + 3) ls rest)) : W p l e R s m args below meth c H locs cells slots Q (F0 m pc ls (.int (nI b) :: .int (nI a) :: rest)) :=
  lv_icmp_lt C.1 C.2.1 hdg ht (fun h => kt ((nI_ltI ha hb).mp h)) (fun h => kf (Nat.not_lt.mp (fun q => h ((nI_ltI ha hb).mpr q))))
theorem xIcmpGe (C : CallFix p m c cc nL s args Ts own) {a b : Nat} {off : Int} {tgt : Nat} (ha : a < 2 ^ 31) (hb : b < 2 ^ 31) (hdg : decode cc pc = .ok (.if_icmp .ge off, 3)) (ht : (pc : Int) + off = (tgt : Int)) (kt : b ≤ a → W p l e R s m args below meth c H locs cells slots Q (F0 m tgt ls rest)) (kf : a < b → W p l e R s m args below meth c H locs cells slots Q (F0 m (pc + 3) ls rest)) : W p l e R s m args below meth c H locs cells slots Q (F0 m pc ls (.int (nI b) :: .int (nI a) :: rest)) :=
  lv_icmp_ge C.1 C.2.1 hdg ht (fun h => kt ((nI_leI hb ha).mp h)) (fun h => kf (Nat.not_le.mp (fun q => h ((nI_leI hb ha).mpr q))))
theorem xIcmpGt (C : CallFix p m c cc nL s args Ts own) {a b : Nat} {off : Int} {tgt : Nat} (ha : a < 2 ^ 31) (hb : b < 2 ^ 31) (hdg : decode cc pc = .ok (.if_icmp .gt off, 3)) (ht : (pc : Int) + off = (tgt : Int)) (kt : b < a → W p l e R s m args below meth c H locs cells slots Q (F0 m tgt ls rest)) (kf : a ≤ b → W p l e R s m args below meth c H locs cells slots Q (F0 m (pc + 3) ls rest)) : W p l e R s m args below meth c H locs cells slots Q (F0 m pc ls (.int (nI b) :: .int (nI a) :: rest)) :=
  lv_icmp_gt C.1 C.2.1 hdg ht (fun h => kt ((nI_ltI hb ha).mp h)) (fun h => kf (Nat.not_lt.mp (fun q => h ((nI_ltI hb ha).mpr q))))
theorem xIcmpLe (C : CallFix p m c cc nL s args Ts own) {a b : Nat} {off : Int} {tgt : Nat} (ha : a < 2 ^ 31) (hb : b < 2 ^ 31) (hdg : decode cc pc = .ok (.if_icmp .le off, 3)) (ht : (pc : Int) + off = (tgt : Int)) (kt : a ≤ b → W p l e R s m args below meth c H locs cells slots Q (F0 m tgt ls rest)) (kf : b < a → W p l e R s m args below meth c H locs cells slots Q (F0 m (pc + 3) ls rest)) : W p l e R s m args below meth c H locs cells slots Q (F0 m pc ls (.int (nI b) :: .int (nI a) :: rest)) :=
  lv_icmp_le C.1 C.2.1 hdg ht (fun h => kt ((nI_leI ha hb).mp h)) (fun h => kf (Nat.not_le.mp (fun q => h ((nI_leI ha hb).mpr q))))
theorem xIfEq (C : CallFix p m c cc nL s args Ts own) {a : Nat} {off : Int} {tgt : Nat} (ha : a < 2 ^ 31) (hdg : decode cc pc = .ok (.ifCond .eq off, 3)) (ht : (pc : Int) + off = (tgt : Int)) (kt : a = 0 → W p l e R s m args below meth c H locs cells slots Q (F0 m tgt ls rest)) (kf : 0 < a → W p l e R s m args below meth c H locs cells slots Q (F0 m (pc + 3) ls rest)) : W p l e R s m args below meth c H locs cells slots Q (F0 m pc ls (.int (nI a) :: rest)) :=
  lv_if_eq C.1 C.2.1 hdg ht (fun h => kt (by rcases Nat.eq_zero_or_pos a with z | z; exact z; exact absurd h (nI_ne0 z ha))) (fun h => kf (by rcases Nat.eq_zero_or_pos a with z | z; exact absurd (by rw [z]; exact nI_0) h; exact z))
theorem xIfNe (C : CallFix p m c cc nL s args Ts own) {a : Nat} {off : Int} {tgt : Nat} (ha : a < 2 ^ 31) (hdg : decode cc pc = .ok (.ifCond .ne off, 3)) (ht : (pc : Int) + off = (tgt : Int)) (kt : 0 < a → W p l e R s m args below meth c H locs cells slots Q (F0 m tgt ls rest)) (kf : a = 0 → W p l e R s m args below meth c H locs cells slots Q (F0 m (pc + 3) ls rest)) : W p l e R s m args below meth c H locs cells slots Q (F0 m pc ls (.int (nI a) :: rest)) :=
  lv_if_ne C.1 C.2.1 hdg ht (fun h => kt (by rcases Nat.eq_zero_or_pos a with z | z; exact absurd (by rw [z]; exact nI_0) h; exact z)) (fun h => kf (by rcases Nat.eq_zero_or_pos a with z | z; exact z; exact absurd h (nI_ne0 z ha)))
theorem xIfLe (C : CallFix p m c cc nL s args Ts own) {a : Nat} {off : Int} {tgt : Nat} (ha : a < 2 ^ 31) (hdg : decode cc pc = .ok (.ifCond .le off, 3)) (ht : (pc : Int) + off = (tgt : Int)) (kt : a = 0 → W p l e R s m args below meth c H locs cells slots Q (F0 m tgt ls rest)) (kf : 0 < a → W p l e R s m args below meth c H locs cells slots Q (F0 m (pc + 3) ls rest)) : W p l e R s m args below meth c H locs cells slots Q (F0 m pc ls (.int (nI a) :: rest)) :=
  lv_if_le C.1 C.2.1 hdg ht (fun h => kt (by rcases Nat.eq_zero_or_pos a with z | z; exact z; exact absurd h (nI_nle z ha))) (fun h => kf (by
    rcases Nat.eq_zero_or_pos a with z | z
    · exact absurd (by rw [z, nI_0]; exact Int32.le_refl 0) h
    · exact z))
theorem xIfGe (C : CallFix p m c cc nL s args Ts own) {a : Nat} {off : Int} {tgt : Nat} (ha : a < 2 ^ 31) (hdg : decode cc pc = .ok (.ifCond .ge off, 3)) (ht : (pc : Int) + off = (tgt : Int)) (kt : W p l e R s m args below meth c H locs cells slots Q (F0 m tgt ls rest)) : W p l e R s m args below meth c H locs cells slots Q (F0 m pc ls (.int (nI a) :: rest)) :=
  lv_if_ge C.1 C.2.1 hdg ht (fun _ => kt) (fun h => absurd (nI_pos' ha) h)
theorem xIfLt (C : CallFix p m c cc nL s args Ts own) {a : Nat} {off : Int} {tgt : Nat} (ha : a < 2 ^ 31) (hdg : decode cc pc = .ok (.ifCond .lt off, 3)) (ht : (pc : Int) + off = (tgt : Int)) (kf : W p l e R s m args below meth c H locs cells slots Q (F0 m (pc + 3) ls rest)) : W p l e R s m args below meth c H locs cells slots Q (F0 m pc ls (.int (nI a) :: rest)) :=
  lv_if_lt C.1 C.2.1 hdg ht (fun h => absurd h (nI_pos ha)) (fun _ => kf)
/-- a truth value as a number -/
def bI (b : Bool) : Int32 := if b = true then 1 else 0
theorem xIfEqB (C : CallFix p m c cc nL s args Ts own) {a : Bool} {off : Int} {tgt : Nat} (hdg : decode cc pc = .ok (.ifCond .eq off, 3)) (ht : (pc : Int) + off = (tgt : Int)) (kt : a = false → W p l e R s m args below meth c H locs cells slots Q (F0 m tgt ls rest)) (kf : a = true → W p l e R s m args below meth c H locs cells slots Q (F0 m (pc + 3) ls rest)) : W p l e R s m args below meth c H locs cells slots Q (F0 m pc ls (.int (bI a) :: rest)) :=
  lv_if_eq C.1 C.2.1 hdg ht (fun h => kt (by cases a; rfl; exact absurd h (by decide))) (fun h => kf (by cases a; exact absurd rfl h; rfl))
theorem xIfNeB (C : CallFix p m c cc nL s args Ts own) {a : Bool} {off : Int} {tgt : Nat} (hdg : decode cc pc = .ok (.ifCond .ne off, 3)) (ht : (pc : Int) + off = (tgt : Int)) (kt : a = true → W p l e R s m args below meth c H locs cells slots Q (F0 m tgt ls rest)) (kf : a = false → W p l e R s m args below meth c H locs cells slots Q (F0 m (pc + 3) ls rest)) : W p l e R s m args below meth c H locs cells slots Q (F0 m pc ls (.int (bI a) :: rest)) :=
  lv_if_ne C.1 C.2.1 hdg ht (fun h => kt (by cases a; exact absurd rfl h; rfl)) (fun h => kf (by cases a; rfl; exact absurd h (by decide)))
/-- getfield in the class's own world -/
theorem xGet (C : CallFix p m c cc nL s args Ts own) (hN : KN D k s) (hP : va_P D vwCl ws H) (q0 : Nat) {a ci : Nat} {fs : List Value} {v : Value} (he : ws[q0]? = some (a, .inr (ci, fs))) {Cn : String} {T : u_T} {N index j : Nat} (hc : vwCl[ci]? = some (Cn, T, N)) (hin : ∀ w ∈ u_ws Cn T N, w ∈ Ts) (hk : j < N) (hlink : Cond.fieldLink own index Cn (T j).2.1 (T j).2.2.1 ∈ Ts) (hself : (T j).1 = Cn) (hv : fs[j]? = some v) (hdg : decode cc pc = .ok (.getfield index, 3))
    (kk : W p l e R s m args below meth c H locs cells slots Q (F0 m (pc + 3) ls (v :: rest))) : W p l e R s m args below meth c H locs cells slots Q (F0 m pc ls (.ref a :: rest)) :=
  va_get C.1 C.2.1 C.2.2.2.2 hin C.2.2.2.1 hN.1 hP q0 he hc j hk (C.2.2.2.2 _ hlink) (fun _ h => by rw [hself] at h; exact h) hv hdg kk
theorem xPut (C : CallFix p m c cc nL s args Ts own) (hN : KN D k s) (hP : va_P D vwCl ws H) (hD : va_D A ws) (hS : va_S A H0 H locs) (q0 : Nat) {a ci : Nat} {fs : List Value} {v : Value} (he : ws[q0]? = some (a, .inr (ci, fs))) {Cn : String} {T : u_T} {N index j : Nat} {ty0 : Nat → FieldType} (hc : vwCl[ci]? = some (Cn, T, N)) (hin : ∀ w ∈ u_ws Cn T N, w ∈ Ts) (hty : ∀ j, j < N → parseFieldDescriptor (T j).2.2.1 = some (ty0 j)) (hnm : ∀ a, a < N → ∀ b, b < N → a ≠ b → (T a).2.1 ≠ (T b).2.1) (hk : j < N) (hlink : Cond.fieldLink own index Cn (T j).2.1 (T j).2.2.1 ∈ Ts) (hself : (T j).1 = Cn) (hfin : (T j).2.2.2 = false) (hn : narrow (ty0 j) v = v) (hfit : fits (ty0 j) v = true) (hl : j < fs.length)
    (hdg : decode cc pc = .ok (.putfield index, 3)) (kk : ∀ (H1 : Heap) (locs1 : List Loc), va_P D vwCl (ws.set q0 (a, .inr (ci, fs.set j v))) H1 → va_D A (ws.set q0 (a, .inr (ci, fs.set j v))) → va_S A H0 H1 locs1 → W p l e R s m args below meth c H1 locs1 cells slots Q (F0 m (pc + 3) ls rest)) : W p l e R s m args below meth c H locs cells slots Q (F0 m pc ls (v :: .ref a :: rest)) :=
  va_put C.1 C.2.1 C.2.2.2.2 hin ty0 hty hnm C.2.2.2.1 hN.1 hP hD hS q0 he hc j hk (C.2.2.2.2 _ hlink) (fun _ h => by rw [hself] at h; exact h) hfin (hty j hk) hn hfit hl hdg kk
theorem xPutF (C : CallFix p m c cc nL s args Ts own) (hN : KN D k s) (hP : va_P D vwCl ws H) (hD : va_D A ws) (hS : va_S A H0 H locs) (hname : meth.name = "<init>") (q0 : Nat) {a ci : Nat} {fs : List Value} {v : Value} (he : ws[q0]? = some (a, .inr (ci, fs))) {Cn : String} {T : u_T} {N index j : Nat} {ty0 : Nat → FieldType} (hc : vwCl[ci]? = some (Cn, T, N)) (hin : ∀ w ∈ u_ws Cn T N, w ∈ Ts) (hty : ∀ j, j < N → parseFieldDescriptor (T j).2.2.1 = some (ty0 j)) (hnm : ∀ a, a < N → ∀ b, b < N → a ≠ b → (T a).2.1 ≠ (T b).2.1) (hk : j < N) (hlink : Cond.fieldLink own index Cn (T j).2.1 (T j).2.2.1 ∈ Ts) (hself : (T j).1 = Cn) (hself2 : (T j).1 = own) (hfin : (T j).2.2.2 = true) (hn : narrow (ty0 j) v = v) (hfit : fits (ty0 j) v = true) (hl : j < fs.length)
    (hdg : decode cc pc = .ok (.putfield index, 3)) (kk : ∀ (H1 : Heap) (locs1 : List Loc), va_P D vwCl (ws.set q0 (a, .inr (ci, fs.set j v))) H1 → va_D A (ws.set q0 (a, .inr (ci, fs.set j v))) → va_S A H0 H1 locs1 → W p l e R s m args below meth c H1 locs1 cells slots Q (F0 m (pc + 3) ls rest)) : W p l e R s m args below meth c H locs cells slots Q (F0 m pc ls (v :: .ref a :: rest)) :=
  va_putF C.1 C.2.1 C.2.2.2.2 hin ty0 hty hnm C.2.2.2.1 hN.1 hP hD hS q0 he hc j hk (C.2.2.2.2 _ hlink) (fun _ h => by rw [hself] at h; exact h) hfin hname hself2 (hty j hk) hn hfit hl hdg kk
theorem xIald (C : CallFix p m c cc nL s args Ts own) (hN : KN D k s) (hP : va_P D vwCl ws H) (q0 : Nat) {a n j : Nat} {f : Nat → Int32} {v : Int32} (he : ws[q0]? = some (a, .inl (k 0, n, .inl f))) (hj : j < n) (hn : n < 2 ^ 31) (hv : f j = v) (hdg : decode cc pc = .ok (.iaload, 1))
    (kk : W p l e R s m args below meth c H locs cells slots Q (F0 m (pc + 1) ls (.int v :: rest))) : W p l e R s m args below meth c H locs cells slots Q (F0 m pc ls (.int (nI j) :: .ref a :: rest)) :=
  va_iald C.1 C.2.1 hN.1 hP q0 0 he rfl (vp_in_nI hj hn) hdg (by rw [nI_clamp (Nat.lt_trans hj hn), hv]; exact kk)
theorem xCald (C : CallFix p m c cc nL s args Ts own) (hN : KN D k s) (hP : va_P D vwCl ws H) (q0 : Nat) {a n j : Nat} {f : Nat → Int32} {v : Int32} (he : ws[q0]? = some (a, .inl (k 1, n, .inl f))) (hj : j < n) (hn : n < 2 ^ 31) (hv : f j = v) (hdg : decode cc pc = .ok (.caload, 1))
    (kk : W p l e R s m args below meth c H locs cells slots Q (F0 m (pc + 1) ls (.int v :: rest))) : W p l e R s m args below meth c H locs cells slots Q (F0 m pc ls (.int (nI j) :: .ref a :: rest)) :=
  va_cald C.1 C.2.1 hN.1 hP q0 1 he rfl (vp_in_nI hj hn) hdg (by rw [nI_clamp (Nat.lt_trans hj hn), hv]; exact kk)
theorem xZald (C : CallFix p m c cc nL s args Ts own) (hN : KN D k s) (hP : va_P D vwCl ws H) (q0 : Nat) {a n j : Nat} {f : Nat → Int32} {v : Int32} (he : ws[q0]? = some (a, .inl (k 2, n, .inl f))) (hj : j < n) (hn : n < 2 ^ 31) (hv : f j = v) (hdg : decode cc pc = .ok (.baload, 1))
    (kk : W p l e R s m args below meth c H locs cells slots Q (F0 m (pc + 1) ls (.int v :: rest))) : W p l e R s m args below meth c H locs cells slots Q (F0 m pc ls (.int (nI j) :: .ref a :: rest)) :=
  va_zald C.1 C.2.1 hN.1 hP q0 2 he rfl (vp_in_nI hj hn) hdg (by rw [nI_clamp (Nat.lt_trans hj hn), hv]; exact kk)
theorem xAald (C : CallFix p m c cc nL s args Ts own) (hN : KN D k s) (hP : va_P D vwCl ws H) (q0 : Nat) {a n j : Nat} {f : Nat → Option Nat} {v : Value} (he : ws[q0]? = some (a, .inl (k 3, n, .inr (.inr (.inr (.inr f)))))) (hj : j < n) (hn : n < 2 ^ 31) (hv : va_rf (f j) = v) (hdg : decode cc pc = .ok (.aaload, 1))
    (kk : W p l e R s m args below meth c H locs cells slots Q (F0 m (pc + 1) ls (v :: rest))) : W p l e R s m args below meth c H locs cells slots Q (F0 m pc ls (.int (nI j) :: .ref a :: rest)) :=
  va_aldq C.1 C.2.1 hN.1 hP q0 3 he rfl (vp_in_nI hj hn) hdg (by rw [nI_clamp (Nat.lt_trans hj hn), hv]; exact kk)
theorem xIast (C : CallFix p m c cc nL s args Ts own) (hN : KN D k s) (hP : va_P D vwCl ws H) (hD : va_D A ws) (hS : va_S A H0 H locs) (q0 : Nat) {a n j : Nat} {f : Nat → Int32} {x : Int32} (he : ws[q0]? = some (a, .inl (k 0, n, .inl f))) (hj : j < n) (hn : n < 2 ^ 31) (hdg : decode cc pc = .ok (.iastore, 1))
    (kk : ∀ (H1 : Heap) (locs1 : List Loc), va_P D vwCl (ws.set q0 (a, .inl (k 0, n, .inl (upd f j x)))) H1 → va_D A (ws.set q0 (a, .inl (k 0, n, .inl (upd f j x)))) → va_S A H0 H1 locs1 → W p l e R s m args below meth c H1 locs1 cells slots Q (F0 m (pc + 1) ls rest)) : W p l e R s m args below meth c H locs cells slots Q (F0 m pc ls (.int x :: .int (nI j) :: .ref a :: rest)) :=
  va_iast C.1 C.2.1 hN.1 hP hD hS q0 0 he rfl (vp_in_nI hj hn) hdg (by rw [nI_clamp (Nat.lt_trans hj hn)]; exact kk)
theorem xZast (C : CallFix p m c cc nL s args Ts own) (hN : KN D k s) (hP : va_P D vwCl ws H) (hD : va_D A ws) (hS : va_S A H0 H locs) (q0 : Nat) {a n j : Nat} {f : Nat → Int32} {x y : Int32} (he : ws[q0]? = some (a, .inl (k 2, n, .inl f))) (hj : j < n) (hn : n < 2 ^ 31) (hx : vp_nar .boolean x = y) (hdg : decode cc pc = .ok (.bastore, 1))
    (kk : ∀ (H1 : Heap) (locs1 : List Loc), va_P D vwCl (ws.set q0 (a, .inl (k 2, n, .inl (upd f j y)))) H1 → va_D A (ws.set q0 (a, .inl (k 2, n, .inl (upd f j y)))) → va_S A H0 H1 locs1 → W p l e R s m args below meth c H1 locs1 cells slots Q (F0 m (pc + 1) ls rest)) : W p l e R s m args below meth c H locs cells slots Q (F0 m pc ls (.int x :: .int (nI j) :: .ref a :: rest)) :=
  va_zast C.1 C.2.1 hN.1 hP hD hS q0 2 he rfl (vp_in_nI hj hn) hdg (by rw [nI_clamp (Nat.lt_trans hj hn), hx]; exact kk)
theorem xCast (C : CallFix p m c cc nL s args Ts own) (hN : KN D k s) (hP : va_P D vwCl ws H) (hD : va_D A ws) (hS : va_S A H0 H locs) (q0 : Nat) {a n j : Nat} {f : Nat → Int32} {x y : Int32} (he : ws[q0]? = some (a, .inl (k 1, n, .inl f))) (hj : j < n) (hn : n < 2 ^ 31) (hx : vp_nar .char x = y) (hdg : decode cc pc = .ok (.castore, 1))
    (kk : ∀ (H1 : Heap) (locs1 : List Loc), va_P D vwCl (ws.set q0 (a, .inl (k 1, n, .inl (upd f j y)))) H1 → va_D A (ws.set q0 (a, .inl (k 1, n, .inl (upd f j y)))) → va_S A H0 H1 locs1 → W p l e R s m args below meth c H1 locs1 cells slots Q (F0 m (pc + 1) ls rest)) : W p l e R s m args below meth c H locs cells slots Q (F0 m pc ls (.int x :: .int (nI j) :: .ref a :: rest)) :=
  va_cast C.1 C.2.1 hN.1 hP hD hS q0 1 he rfl (vp_in_nI hj hn) hdg (by rw [nI_clamp (Nat.lt_trans hj hn), hx]; exact kk)
theorem xAlen (C : CallFix p m c cc nL s args Ts own) (hN : KN D k s) (hP : va_P D vwCl ws H) (q0 t0 : Nat) {a : Nat} {cA : ClassId} {x : vp_A} (he : ws[q0]? = some (a, .inl (cA, x))) {ty : FieldType} (ht : (xTys k)[t0]? = some (cA, ty)) (hdg : decode cc pc = .ok (.arraylength, 1))
    (kk : W p l e R s m args below meth c H locs cells slots Q (F0 m (pc + 1) ls (.int (nI x.1) :: rest))) : W p l e R s m args below meth c H locs cells slots Q (F0 m pc ls (.ref a :: rest)) :=
  va_alen C.1 C.2.1 hN.1 hP q0 t0 he ht rfl hdg kk
/-- a call that reads: an instance method -/
theorem xPreV {wc : va_W} {Cn : String} {b q0 ci : Nat} {q : vw_C} {fs : List Value} {As : List Value} (hN : KN D k s) (hP : va_P D vwCl wc H) (hc : vwCl[ci]? = some q) (he : wc[q0]? = some (b, .inr (ci, fs))) (hq : q.1 = Cn) : PreV s H Cn b (va_Pc (.ref b :: As) (xPr D k wc)) As := by
  subst hq
  exact ⟨fun a U g mk h => ⟨h.1, h.2.calling⟩, va_recv hN.1 hP hc he, fun U hU hW => ⟨rfl, by rw [hU]; exact hP, hN.warm hW⟩⟩
theorem xPreS {wc : va_W} {As : List Value} (hN : KN D k s) (hP : va_P D vwCl wc H) : PreS s H (va_Pc As (xPr D k wc)) As :=
  ⟨fun a U g mk h => ⟨h.1, h.2.calling⟩, fun U hU hW => ⟨rfl, by rw [hU]; exact hP, hN.warm hW⟩⟩
theorem xVro (C : CallFix p m c cc nL s args Ts own) (hN : KN D k s) {y : MethodName} {bytes : ByteArray} {maxL n index : Nat} {ret : Option FieldType} {wy : List Cond} {rm : Room} {b q0 ci : Nat} {As : List Value} {wc : va_W} {v : Int32} {Cn : String} {q : vw_C} {fs : List Value} (hM : Met l y wy rm (va_Pc (.ref b :: As) (xPr D k wc)) (vp_Si (fun r => r = v)) 0 0 (fun _ => False)) (cw : CallW R s args own Cn index y bytes maxL ret wy rm 0 0 n) (hP : va_P D vwCl wc H) (he : wc[q0]? = some (b, .inr (ci, fs))) (hc : vwCl[ci]? = some q) (hq : q.1 = Cn) (hn : As.length = n) (hl : ls.size = nL) (hst : st0 = As.reverse ++ .ref b :: rest) (hW : (rest.map fun v => v.category).sum ≤ 8) (hdg : decode cc pc = .ok (.invokevirtual index, 3)) (hf : cells ≤ R.cells ∧ slots ≤ R.slots)
    (kk : W p l e R s m args below meth c H locs cells slots Q (F0 m (pc + 3) ls (.int v :: rest))) : W p l e R s m args below meth c H locs cells slots Q (F0 m pc ls st0) :=
  vp_callSi (xRun (va_runV C hM cw (xPreV hN hP hc he hq) rfl hn hl hst (lv_room hW) hdg hf)) (fun r hr => by rw [hr]; exact kk)
theorem xSro (C : CallFix p m c cc nL s args Ts own) (hN : KN D k s) {y : MethodName} {bytes : ByteArray} {maxL n index : Nat} {ret : Option FieldType} {wy : List Cond} {rm : Room} {As : List Value} {wc : va_W} {v : Int32} (hM : Met l y wy rm (va_Pc As (xPr D k wc)) (vp_Si (fun r => r = v)) 0 0 (fun _ => False)) (cw : CallB R s args own index y bytes maxL ret wy rm 0 0 n ∧ (Cond.static y).before args s = true) (hP : va_P D vwCl wc H) (hn : As.length = n) (hl : ls.size = nL) (hst : st0 = As.reverse ++ rest) (hW : (rest.map fun v => v.category).sum ≤ 8) (hdg : decode cc pc = .ok (.invokestatic index, 3)) (hf : cells ≤ R.cells ∧ slots ≤ R.slots)
    (kk : W p l e R s m args below meth c H locs cells slots Q (F0 m (pc + 3) ls (.int v :: rest))) : W p l e R s m args below meth c H locs cells slots Q (F0 m pc ls st0) :=
  vp_callSi (xRun (va_runS C hM cw (xPreS hN hP) rfl hn hl hst (lv_room hW) hdg hf)) (fun r hr => by rw [hr]; exact kk)
theorem xNro (C : CallFix p m c cc nL s args Ts own) (hN : KN D k s) {y : MethodName} {host : String} {bytes : ByteArray} {maxL n index : Nat} {ret : Option FieldType} {wy : List Cond} {rm : Room} {As : List Value} {wc : va_W} {v : Int32} (hM : Met l y wy rm (va_Pc As (xPr D k wc)) (vp_Si (fun r => r = v)) 0 0 (fun _ => False)) (cw : va_CN R s args own index y host bytes maxL ret wy rm 0 0 n) (hst2 : (Cond.static y).before args s = true) (hP : va_P D vwCl wc H) (hn : As.length = n) (hl : ls.size = nL) (hst : st0 = As.reverse ++ rest) (hW : (rest.map fun v => v.category).sum ≤ 8) (hdg : decode cc pc = .ok (.invokestatic index, 3)) (hf : cells ≤ R.cells ∧ slots ≤ R.slots)
    (kk : W p l e R s m args below meth c H locs cells slots Q (F0 m (pc + 3) ls (.int v :: rest))) : W p l e R s m args below meth c H locs cells slots Q (F0 m pc ls st0) :=
  vp_callSi (xRun (va_runSN C hM ⟨cw, hst2, trivial⟩ (xPreS hN hP) rfl hn hl hst (lv_room hW) hdg hf)) (fun r hr => by rw [hr]; exact kk)
/-- the receiver and the start of a writing call -/
theorem xPreVw {A1 : Nat → Prop} {wc : va_W} {Cn : String} {b q0 ci : Nat} {q : vw_C} {fs : List Value} {As : List Value} (hN : KN D k s) (hP : va_P D vwCl wc H) (hD : va_D A1 wc) (hA : ∀ z : Nat, H.size ≤ z → A1 z) (hc : vwCl[ci]? = some q) (he : wc[q0]? = some (b, .inr (ci, fs))) (hq : q.1 = Cn) : PreV s H Cn b (va_Pc (.ref b :: As) (xPw D k A1 wc)) As := by
  subst hq
  exact ⟨fun a U g mk h => ⟨h.1, h.2.calling⟩, va_recv hN.1 hP hc he, fun U hU hW => ⟨rfl, by rw [hU]; exact hP, hN.warm hW, hD, by rw [hU]; exact hA⟩⟩
theorem xPreSw {A1 : Nat → Prop} {wc : va_W} {As : List Value} (hN : KN D k s) (hP : va_P D vwCl wc H) (hD : va_D A1 wc) (hA : ∀ z : Nat, H.size ≤ z → A1 z) : PreS s H (va_Pc As (xPw D k A1 wc)) As :=
  ⟨fun a U g mk h => ⟨h.1, h.2.calling⟩, fun U hU hW => ⟨rfl, by rw [hU]; exact hP, hN.warm hW, hD, by rw [hU]; exact hA⟩⟩
/-- a call that writes, on a part of the world (places isC), the rest (places isR) and the tail as they were -/
theorem xWi {L tl wc wr : va_W} {post : Int32 → va_W → Prop} {a : Array Value} {mc ms : Nat} (hP : va_P D vwCl (L ++ tl) H) (hD : va_D A (L ++ tl)) (hS : va_S A H0 H locs) (hA : ∀ q : Nat, H0.size ≤ q → A q) (isC isR : List Nat) (hC : isC.map (fun i => L[i]?) = wc.map some) (hR : isR.map (fun i => L[i]?) = wr.map some) (hn : va_nd isR = true) (hdis : ∀ i ∈ isR, i ∉ isC)
    (hr : va_Run p l e R s m args below meth c H locs cells slots mc ms (F0 m pc ls st0) rest (xQi D (va_A wc H.size) post a) (va_A wc H.size))
    (kk : ∀ (r : Int32) (u : va_W) (H1 : Heap) (locs1 : List Loc), post r u → va_P D vwCl (wr ++ u ++ tl) H1 → va_D A (wr ++ u ++ tl) → va_S A H0 H1 locs1 → W p l e R s m args below meth c H1 locs1 (cells + mc) (slots + ms) Q (F0 m (pc + 3) ls (.int r :: rest))) : W p l e R s m args below meth c H locs cells slots Q (F0 m pc ls st0) := by
  have hF := xFreeL hD hS hA isC hC
  refine va_calli hr hS (fun q _ h => hF q h) hF (fun r u t H1 locs1 ht _ hw hB _ hk1 hS1 => ?_)
  obtain ⟨hP1, hD1⟩ := hB
  rw [ht] at hP1
  obtain ⟨g1, g2⟩ := xJoin hP hD isC isR hC hR hn hdis hk1 hF hP1 hD1
  exact kk r u H1 locs1 hw g1 g2 hS1
theorem xWv {L tl wc wr : va_W} {post : va_W → Prop} {a : Array Value} {mc ms : Nat} (hP : va_P D vwCl (L ++ tl) H) (hD : va_D A (L ++ tl)) (hS : va_S A H0 H locs) (hA : ∀ q : Nat, H0.size ≤ q → A q) (isC isR : List Nat) (hC : isC.map (fun i => L[i]?) = wc.map some) (hR : isR.map (fun i => L[i]?) = wr.map some) (hn : va_nd isR = true) (hdis : ∀ i ∈ isR, i ∉ isC)
    (hr : va_Run p l e R s m args below meth c H locs cells slots mc ms (F0 m pc ls st0) rest (xQv D (va_A wc H.size) post a) (va_A wc H.size))
    (kk : ∀ (u : va_W) (H1 : Heap) (locs1 : List Loc), post u → va_P D vwCl (wr ++ u ++ tl) H1 → va_D A (wr ++ u ++ tl) → va_S A H0 H1 locs1 → W p l e R s m args below meth c H1 locs1 (cells + mc) (slots + ms) Q (F0 m (pc + 3) ls rest)) : W p l e R s m args below meth c H locs cells slots Q (F0 m pc ls st0) := by
  have hF := xFreeL hD hS hA isC hC
  refine va_callv hr hS (fun q _ h => hF q h) hF (fun u t H1 locs1 ht _ hw hB _ hk1 hS1 => ?_)
  obtain ⟨hP1, hD1⟩ := hB
  rw [ht] at hP1
  obtain ⟨g1, g2⟩ := xJoin hP hD isC isR hC hR hn hdis hk1 hF hP1 hD1
  exact kk u H1 locs1 hw g1 g2 hS1
/-- a call that writes, on the whole world -/
theorem xWWi {post : Int32 → va_W → Prop} {a : Array Value} {mc ms : Nat} (hS : va_S A H0 H locs)
    (hr : va_Run p l e R s m args below meth c H locs cells slots mc ms (F0 m pc ls st0) rest (xQi D A post a) A)
    (kk : ∀ (r : Int32) (u : va_W) (H1 : Heap) (locs1 : List Loc), post r u → va_P D vwCl u H1 → va_D A u → va_S A H0 H1 locs1 → W p l e R s m args below meth c H1 locs1 (cells + mc) (slots + ms) Q (F0 m (pc + 3) ls (.int r :: rest))) : W p l e R s m args below meth c H locs cells slots Q (F0 m pc ls st0) := by
  refine va_calli hr hS (fun q _ h => h) (fun _ h => h) (fun r u t H1 locs1 ht _ hw hB _ hk1 hS1 => ?_)
  obtain ⟨hP1, hD1⟩ := hB
  rw [ht] at hP1
  exact kk r u H1 locs1 hw hP1 hD1 hS1
theorem xWWv {post : va_W → Prop} {a : Array Value} {mc ms : Nat} (hS : va_S A H0 H locs)
    (hr : va_Run p l e R s m args below meth c H locs cells slots mc ms (F0 m pc ls st0) rest (xQv D A post a) A)
    (kk : ∀ (u : va_W) (H1 : Heap) (locs1 : List Loc), post u → va_P D vwCl u H1 → va_D A u → va_S A H0 H1 locs1 → W p l e R s m args below meth c H1 locs1 (cells + mc) (slots + ms) Q (F0 m (pc + 3) ls rest)) : W p l e R s m args below meth c H locs cells slots Q (F0 m pc ls st0) := by
  refine va_callv hr hS (fun q _ h => h) (fun _ h => h) (fun u t H1 locs1 ht _ hw hB _ hk1 hS1 => ?_)
  obtain ⟨hP1, hD1⟩ := hB
  rw [ht] at hP1
  exact kk u H1 locs1 hw hP1 hD1 hS1
theorem xAll {A : Nat → Prop} {H0 H : Heap} {locs : List Loc} (hS : va_S A H0 H locs) (hA : ∀ q : Nat, H0.size ≤ q → A q) : ∀ q : Nat, H.size ≤ q → A q := fun q h => hA q (Nat.le_trans hS.1 h)
theorem xNarB (b : Bool) : narrow .boolean (.int (bI b)) = .int (bI b) := by cases b <;> rfl
theorem xNar0 : narrow .boolean (.int (nI 0)) = .int (nI 0) := rfl
theorem xNar1 : narrow .boolean (.int (nI 1)) = .int (nI 1) := rfl
theorem xRoI {v v' : Int32} (hx : p.tables.exec = Jvm.exec) (hb : c.code = cc) (hr : meth.sig.returnType = some .int) (hv : v = v') (hdg : decode cc pc = .ok (.ireturn, 1)) (hlocks : meth.locks = false) : W p l e R s m args below meth c s.heap [] 0 0 (MQ below (vp_Si (fun r => r = v')) args s 0 0 (fun _ => False)) (F0 m pc ls [.int v]) :=
  W.iret hx hb hr (fun t ht _ => ⟨v, rfl, hv, ht⟩) (fun _ h => absurd h List.not_mem_nil) hdg hlocks
theorem xRoZ {v v' : Int32} (hx : p.tables.exec = Jvm.exec) (hb : c.code = cc) (hr : meth.sig.returnType = some .boolean) (hn : narrow .boolean (.int v) = .int v) (hv : v = v') (hdg : decode cc pc = .ok (.ireturn, 1)) (hlocks : meth.locks = false) : W p l e R s m args below meth c s.heap [] 0 0 (MQ below (vp_Si (fun r => r = v')) args s 0 0 (fun _ => False)) (F0 m pc ls [.int v]) :=
  W.zret hx hb hr hn (fun t ht _ => ⟨v, rfl, hv, ht⟩) (fun _ h => absurd h List.not_mem_nil) hdg hlocks
theorem xRoC {v v' : Int32} (hx : p.tables.exec = Jvm.exec) (hb : c.code = cc) (hr : meth.sig.returnType = some .char) (hn : narrow .char (.int v) = .int v) (hv : v = v') (hdg : decode cc pc = .ok (.ireturn, 1)) (hlocks : meth.locks = false) : W p l e R s m args below meth c s.heap [] 0 0 (MQ below (vp_Si (fun r => r = v')) args s 0 0 (fun _ => False)) (F0 m pc ls [.int v]) :=
  W.zret hx hb hr hn (fun t ht _ => ⟨v, rfl, hv, ht⟩) (fun _ h => absurd h List.not_mem_nil) hdg hlocks
theorem xRetI {v : Int32} {post : Int32 → va_W → Prop} (hx : p.tables.exec = Jvm.exec) (hb : c.code = cc) (hr : meth.sig.returnType = some .int) (hq : post v ws) (hP : va_P D vwCl ws H) (hD : va_D A ws) (hS : va_S A s.heap H locs) (hdg : decode cc pc = .ok (.ireturn, 1)) (hlocks : meth.locks = false) : W p l e R s m args below meth c H locs cells slots (MQ below (xQi D A post) args s cells slots A) (F0 m pc ls [.int v]) :=
  W.iret hx hb hr (fun t ht _ => ⟨⟨v, ws, rfl, hq, by rw [ht]; exact hP, hD⟩, hS.F ht⟩) hS.2.2 hdg hlocks
theorem xRetZ {v : Int32} {post : Int32 → va_W → Prop} (hx : p.tables.exec = Jvm.exec) (hb : c.code = cc) (hr : meth.sig.returnType = some .boolean) (hn : narrow .boolean (.int v) = .int v) (hq : post v ws) (hP : va_P D vwCl ws H) (hD : va_D A ws) (hS : va_S A s.heap H locs) (hdg : decode cc pc = .ok (.ireturn, 1)) (hlocks : meth.locks = false) : W p l e R s m args below meth c H locs cells slots (MQ below (xQi D A post) args s cells slots A) (F0 m pc ls [.int v]) :=
  W.zret hx hb hr hn (fun t ht _ => ⟨⟨v, ws, rfl, hq, by rw [ht]; exact hP, hD⟩, hS.F ht⟩) hS.2.2 hdg hlocks
theorem xRetV {post : va_W → Prop} (hx : p.tables.exec = Jvm.exec) (hb : c.code = cc) (hr : meth.sig.returnType = none) (hq : post ws) (hP : va_P D vwCl ws H) (hD : va_D A ws) (hS : va_S A s.heap H locs) (hdg : decode cc pc = .ok (.return_, 1)) (hlocks : meth.locks = false) : W p l e R s m args below meth c H locs cells slots (MQ below (xQv D A post) args s cells slots A) (F0 m pc ls []) :=
  W.vret hx hb hr (fun t ht _ => ⟨⟨ws, rfl, hq, by rw [ht]; exact hP, hD⟩, hS.F ht⟩) hS.2.2 hdg hlocks
theorem xPermP {L tl L2 : va_W} (hP : va_P D vwCl (L ++ tl) H) (is : List Nat) (hs : is.map (fun i => L[i]?) = L2.map some) : va_P D vwCl (L2 ++ tl) H := by
  refine va_P.app (xSubL hP is hs) (fun i q hi => hP (L.length + i) q ?_)
  rw [List.getElem?_append_right (by omega), Nat.add_sub_cancel_left]; exact hi
theorem xPermD {L tl L2 : va_W} (hD : va_D A (L ++ tl)) (is : List Nat) (hn : va_nd is = true) (hs : is.map (fun i => L[i]?) = L2.map some) : va_D A (L2 ++ tl) := by
  have inT : ∀ {i : Nat} {q : Nat × va_E}, tl[i]? = some q → (L ++ tl)[L.length + i]? = some q := by
    intro i q h
    rw [List.getElem?_append_right (by omega), Nat.add_sub_cancel_left]; exact h
  refine va_D.app (xSubD hD is hn hs) ⟨fun i j a b hi hj hab => ?_, fun i a hi => hD.2 _ a (inT hi)⟩ (fun i j a b ha hb hab => ?_)
  · have := hD.1 _ _ a b (inT hi) (inT hj) hab
    omega
  · have h1 : (is.map (fun i => L[i]?))[i]? = some (some a) := by rw [hs, List.getElem?_map, ha]; rfl
    rw [List.getElem?_map] at h1
    cases hi : is[i]? with
    | none => rw [hi] at h1; cases h1
    | some i2 =>
      rw [hi] at h1
      have h2 : L[i2]? = some a := Option.some.inj h1
      have hl := (List.getElem?_eq_some_iff.mp h2).1
      have := hD.1 i2 _ a b (by rw [List.getElem?_append_left hl]; exact h2) (inT hb) hab
      omega
/-- a switch over a table -/
theorem xTab {x : Int32} (lo n : Nat) (h : lo + n < 2 ^ 30) : (x.toInt < (lo : Int) ∨ (lo : Int) + n ≤ x.toInt) ∨ ∃ j : Nat, j < n ∧ x = nI (lo + j) := by
  by_cases h1 : x.toInt < (lo : Int)
  · exact Or.inl (Or.inl h1)
  · by_cases h2 : (lo : Int) + n ≤ x.toInt
    · exact Or.inl (Or.inr h2)
    · refine Or.inr ⟨x.toInt.toNat - lo, by omega, ?_⟩
      apply Int32.toInt_inj.mp
      rw [nI_toInt (by omega)]
      omega
theorem xTabIn (C : CallFix p m c cc nL s args Ts own) {x : Int32} {dflt lo hi : Int} {offs : Array Int} {len j : Nat} {off : Int} {tgt : Nat} (hx : x = nI j) (hdg : decode cc pc = .ok (.tableswitch dflt lo hi offs, len)) (h1 : ¬ (j : Int) < lo ∧ j < 2 ^ 31) (h2 : ¬ hi < (j : Int)) (ho : offs[((j : Int) - lo).toNat]? = some off) (ht : (pc : Int) + off = (tgt : Int)) (kk : W p l e R s m args below meth c H locs cells slots Q (F0 m tgt ls rest)) : W p l e R s m args below meth c H locs cells slots Q (F0 m pc ls (.int x :: rest)) := by
  subst hx
  exact lv_tableIn C.1 C.2.1 hdg (by rw [nI_toInt h1.2]; exact h1.1) (by rw [nI_toInt h1.2]; exact h2) (by rw [nI_toInt h1.2]; exact ho) ht kk
end XR
theorem nI_max {a b : Nat} (ha : a < 2 ^ 31) (hb : b < 2 ^ 31) : (if nI a < nI b then nI b else nI a) = nI (max a b) := by
  by_cases h : a < b
  · rw [if_pos (nI_lt h hb), Nat.max_eq_right (by omega)]
  · rw [if_neg (nI_nlt (by omega) ha), Nat.max_eq_left (by omega)]
theorem nI_min {a b : Nat} (ha : a < 2 ^ 31) (hb : b < 2 ^ 31) : (if nI b < nI a then nI b else nI a) = nI (min a b) := by
  by_cases h : b < a
  · rw [if_pos (nI_lt h ha), Nat.min_eq_right (by omega)]
  · rw [if_neg (nI_nlt (by omega) hb), Nat.min_eq_left (by omega)]
end
section
/-! The field words of each method among its words. -/
theorem kX0_append_27 : Cond.fieldLink RX0 27 "LayeredCharters$Guild" "size" "I" ∈ wsX0_append := List.mem_of_getElem? (i := 1) rfl
theorem kX0_append_9 : Cond.fieldLink RX0 9 "LayeredCharters$Guild" "crafts" "[I" ∈ wsX0_append := List.mem_of_getElem? (i := 2) rfl
theorem kX0_append_15 : Cond.fieldLink RX0 15 "LayeredCharters$Guild" "ranks" "[I" ∈ wsX0_append := List.mem_of_getElem? (i := 3) rfl
theorem kX0_append_18 : Cond.fieldLink RX0 18 "LayeredCharters$Guild" "done" "[I" ∈ wsX0_append := List.mem_of_getElem? (i := 4) rfl
theorem kX0_append_21 : Cond.fieldLink RX0 21 "LayeredCharters$Guild" "refused" "[I" ∈ wsX0_append := List.mem_of_getElem? (i := 5) rfl
set_option maxRecDepth 20000 in
theorem iX0_append_X0 : ∀ w ∈ wsX00, w ∈ wsX0_append := by decide +kernel
theorem kX0_copyFrom_9 : Cond.fieldLink RX0 9 "LayeredCharters$Guild" "crafts" "[I" ∈ wsX0_copyFrom := List.mem_of_getElem? (i := 1) rfl
theorem kX0_copyFrom_15 : Cond.fieldLink RX0 15 "LayeredCharters$Guild" "ranks" "[I" ∈ wsX0_copyFrom := List.mem_of_getElem? (i := 2) rfl
theorem kX0_copyFrom_18 : Cond.fieldLink RX0 18 "LayeredCharters$Guild" "done" "[I" ∈ wsX0_copyFrom := List.mem_of_getElem? (i := 3) rfl
theorem kX0_copyFrom_21 : Cond.fieldLink RX0 21 "LayeredCharters$Guild" "refused" "[I" ∈ wsX0_copyFrom := List.mem_of_getElem? (i := 4) rfl
theorem kX0_copyFrom_24 : Cond.fieldLink RX0 24 "LayeredCharters$Guild" "refusals" "[I" ∈ wsX0_copyFrom := List.mem_of_getElem? (i := 5) rfl
theorem kX0_copyFrom_27 : Cond.fieldLink RX0 27 "LayeredCharters$Guild" "size" "I" ∈ wsX0_copyFrom := List.mem_of_getElem? (i := 6) rfl
theorem kX0_copyFrom_31 : Cond.fieldLink RX0 31 "LayeredCharters$Guild" "doneInAll" "I" ∈ wsX0_copyFrom := List.mem_of_getElem? (i := 7) rfl
set_option maxRecDepth 20000 in
theorem iX0_copyFrom_X0 : ∀ w ∈ wsX00, w ∈ wsX0_copyFrom := by decide +kernel
theorem kX0_has_27 : Cond.fieldLink RX0 27 "LayeredCharters$Guild" "size" "I" ∈ wsX0_has := List.mem_of_getElem? (i := 1) rfl
set_option maxRecDepth 20000 in
theorem iX0_has_X0 : ∀ w ∈ wsX00, w ∈ wsX0_has := by decide +kernel
theorem kX0_init_9 : Cond.fieldLink RX0 9 "LayeredCharters$Guild" "crafts" "[I" ∈ wsX0_init := List.mem_of_getElem? (i := 5) rfl
theorem kX0_init_15 : Cond.fieldLink RX0 15 "LayeredCharters$Guild" "ranks" "[I" ∈ wsX0_init := List.mem_of_getElem? (i := 6) rfl
theorem kX0_init_18 : Cond.fieldLink RX0 18 "LayeredCharters$Guild" "done" "[I" ∈ wsX0_init := List.mem_of_getElem? (i := 7) rfl
theorem kX0_init_21 : Cond.fieldLink RX0 21 "LayeredCharters$Guild" "refused" "[I" ∈ wsX0_init := List.mem_of_getElem? (i := 8) rfl
theorem kX0_init_24 : Cond.fieldLink RX0 24 "LayeredCharters$Guild" "refusals" "[I" ∈ wsX0_init := List.mem_of_getElem? (i := 9) rfl
theorem kX0_init_27 : Cond.fieldLink RX0 27 "LayeredCharters$Guild" "size" "I" ∈ wsX0_init := List.mem_of_getElem? (i := 10) rfl
theorem kX0_init_31 : Cond.fieldLink RX0 31 "LayeredCharters$Guild" "doneInAll" "I" ∈ wsX0_init := List.mem_of_getElem? (i := 11) rfl
set_option maxRecDepth 20000 in
theorem iX0_init_X0 : ∀ w ∈ wsX00, w ∈ wsX0_init := by decide +kernel
theorem kX0_noteDone_18 : Cond.fieldLink RX0 18 "LayeredCharters$Guild" "done" "[I" ∈ wsX0_noteDone := List.mem_of_getElem? (i := 1) rfl
theorem kX0_noteDone_31 : Cond.fieldLink RX0 31 "LayeredCharters$Guild" "doneInAll" "I" ∈ wsX0_noteDone := List.mem_of_getElem? (i := 2) rfl
theorem kX0_noteDone_27 : Cond.fieldLink RX0 27 "LayeredCharters$Guild" "size" "I" ∈ wsX0_noteDone := List.mem_of_getElem? (i := 8) rfl
set_option maxRecDepth 20000 in
theorem iX0_noteDone_X0 : ∀ w ∈ wsX00, w ∈ wsX0_noteDone := by decide +kernel
theorem kX0_noteRefusal_21 : Cond.fieldLink RX0 21 "LayeredCharters$Guild" "refused" "[I" ∈ wsX0_noteRefusal := List.mem_of_getElem? (i := 1) rfl
theorem kX0_noteRefusal_24 : Cond.fieldLink RX0 24 "LayeredCharters$Guild" "refusals" "[I" ∈ wsX0_noteRefusal := List.mem_of_getElem? (i := 2) rfl
theorem kX0_noteRefusal_27 : Cond.fieldLink RX0 27 "LayeredCharters$Guild" "size" "I" ∈ wsX0_noteRefusal := List.mem_of_getElem? (i := 8) rfl
set_option maxRecDepth 20000 in
theorem iX0_noteRefusal_X0 : ∀ w ∈ wsX00, w ∈ wsX0_noteRefusal := by decide +kernel
theorem kX0_refusalsOf_24 : Cond.fieldLink RX0 24 "LayeredCharters$Guild" "refusals" "[I" ∈ wsX0_refusalsOf := List.mem_of_getElem? (i := 1) rfl
set_option maxRecDepth 20000 in
theorem iX0_refusalsOf_X0 : ∀ w ∈ wsX00, w ∈ wsX0_refusalsOf := by decide +kernel
theorem kX0_remove_9 : Cond.fieldLink RX0 9 "LayeredCharters$Guild" "crafts" "[I" ∈ wsX0_remove := List.mem_of_getElem? (i := 1) rfl
theorem kX0_remove_15 : Cond.fieldLink RX0 15 "LayeredCharters$Guild" "ranks" "[I" ∈ wsX0_remove := List.mem_of_getElem? (i := 2) rfl
theorem kX0_remove_18 : Cond.fieldLink RX0 18 "LayeredCharters$Guild" "done" "[I" ∈ wsX0_remove := List.mem_of_getElem? (i := 3) rfl
theorem kX0_remove_21 : Cond.fieldLink RX0 21 "LayeredCharters$Guild" "refused" "[I" ∈ wsX0_remove := List.mem_of_getElem? (i := 4) rfl
theorem kX0_remove_27 : Cond.fieldLink RX0 27 "LayeredCharters$Guild" "size" "I" ∈ wsX0_remove := List.mem_of_getElem? (i := 5) rfl
set_option maxRecDepth 20000 in
theorem iX0_remove_X0 : ∀ w ∈ wsX00, w ∈ wsX0_remove := by decide +kernel
theorem kX1_append_15 : Cond.fieldLink RX1 15 "LayeredCharters$Pad" "length" "I" ∈ wsX1_append := List.mem_of_getElem? (i := 1) rfl
theorem kX1_append_9 : Cond.fieldLink RX1 9 "LayeredCharters$Pad" "signs" "[C" ∈ wsX1_append := List.mem_of_getElem? (i := 2) rfl
set_option maxRecDepth 20000 in
theorem iX1_append_X1 : ∀ w ∈ wsX10, w ∈ wsX1_append := by decide +kernel
theorem kX1_appendTo_15 : Cond.fieldLink RX1 15 "LayeredCharters$Pad" "length" "I" ∈ wsX1_appendTo := List.mem_of_getElem? (i := 1) rfl
theorem kX1_appendTo_9 : Cond.fieldLink RX1 9 "LayeredCharters$Pad" "signs" "[C" ∈ wsX1_appendTo := List.mem_of_getElem? (i := 7) rfl
set_option maxRecDepth 20000 in
theorem iX1_appendTo_X1 : ∀ w ∈ wsX10, w ∈ wsX1_appendTo := by decide +kernel
set_option maxRecDepth 20000 in
theorem iX1_appendTo_X2 : ∀ w ∈ wsX20, w ∈ wsX1_appendTo := by decide +kernel
theorem kX1_canStand_15 : Cond.fieldLink RX1 15 "LayeredCharters$Pad" "length" "I" ∈ wsX1_canStand := List.mem_of_getElem? (i := 6) rfl
theorem kX1_canStand_9 : Cond.fieldLink RX1 9 "LayeredCharters$Pad" "signs" "[C" ∈ wsX1_canStand := List.mem_of_getElem? (i := 7) rfl
set_option maxRecDepth 20000 in
theorem iX1_canStand_X1 : ∀ w ∈ wsX10, w ∈ wsX1_canStand := by decide +kernel
theorem kX1_clear_15 : Cond.fieldLink RX1 15 "LayeredCharters$Pad" "length" "I" ∈ wsX1_clear := List.mem_of_getElem? (i := 1) rfl
set_option maxRecDepth 20000 in
theorem iX1_clear_X1 : ∀ w ∈ wsX10, w ∈ wsX1_clear := by decide +kernel
theorem kX1_firstFault_15 : Cond.fieldLink RX1 15 "LayeredCharters$Pad" "length" "I" ∈ wsX1_firstFault := List.mem_of_getElem? (i := 1) rfl
theorem kX1_firstFault_9 : Cond.fieldLink RX1 9 "LayeredCharters$Pad" "signs" "[C" ∈ wsX1_firstFault := List.mem_of_getElem? (i := 11) rfl
set_option maxRecDepth 20000 in
theorem iX1_firstFault_X1 : ∀ w ∈ wsX10, w ∈ wsX1_firstFault := by decide +kernel
theorem kX1_init_9 : Cond.fieldLink RX1 9 "LayeredCharters$Pad" "signs" "[C" ∈ wsX1_init := List.mem_of_getElem? (i := 5) rfl
theorem kX1_init_15 : Cond.fieldLink RX1 15 "LayeredCharters$Pad" "length" "I" ∈ wsX1_init := List.mem_of_getElem? (i := 6) rfl
set_option maxRecDepth 20000 in
theorem iX1_init_X1 : ∀ w ∈ wsX10, w ∈ wsX1_init := by decide +kernel
theorem kX1_placeAfter_15 : Cond.fieldLink RX1 15 "LayeredCharters$Pad" "length" "I" ∈ wsX1_placeAfter := List.mem_of_getElem? (i := 6) rfl
theorem kX1_placeAfter_9 : Cond.fieldLink RX1 9 "LayeredCharters$Pad" "signs" "[C" ∈ wsX1_placeAfter := List.mem_of_getElem? (i := 7) rfl
set_option maxRecDepth 20000 in
theorem iX1_placeAfter_X1 : ∀ w ∈ wsX10, w ∈ wsX1_placeAfter := by decide +kernel
theorem kX1_rulesInText_15 : Cond.fieldLink RX1 15 "LayeredCharters$Pad" "length" "I" ∈ wsX1_rulesInText := List.mem_of_getElem? (i := 1) rfl
theorem kX1_rulesInText_9 : Cond.fieldLink RX1 9 "LayeredCharters$Pad" "signs" "[C" ∈ wsX1_rulesInText := List.mem_of_getElem? (i := 2) rfl
set_option maxRecDepth 20000 in
theorem iX1_rulesInText_X1 : ∀ w ∈ wsX10, w ∈ wsX1_rulesInText := by decide +kernel
theorem kX1_signAt_15 : Cond.fieldLink RX1 15 "LayeredCharters$Pad" "length" "I" ∈ wsX1_signAt := List.mem_of_getElem? (i := 1) rfl
theorem kX1_signAt_9 : Cond.fieldLink RX1 9 "LayeredCharters$Pad" "signs" "[C" ∈ wsX1_signAt := List.mem_of_getElem? (i := 2) rfl
set_option maxRecDepth 20000 in
theorem iX1_signAt_X1 : ∀ w ∈ wsX10, w ∈ wsX1_signAt := by decide +kernel
theorem kX2_allowedPairs_30 : Cond.fieldLink RX2 30 "LayeredCharters$Rules" "size" "I" ∈ wsX2_allowedPairs := List.mem_of_getElem? (i := 6) rfl
theorem kX2_allowedPairs_15 : Cond.fieldLink RX2 15 "LayeredCharters$Rules" "kinds" "[I" ∈ wsX2_allowedPairs := List.mem_of_getElem? (i := 7) rfl
theorem kX2_allowedPairs_27 : Cond.fieldLink RX2 27 "LayeredCharters$Rules" "pairs" "[I" ∈ wsX2_allowedPairs := List.mem_of_getElem? (i := 8) rfl
theorem kX2_allowedPairs_24 : Cond.fieldLink RX2 24 "LayeredCharters$Rules" "seals" "[I" ∈ wsX2_allowedPairs := List.mem_of_getElem? (i := 13) rfl
theorem kX2_allowedPairs_11 : Cond.fieldLink RX2 11 "LayeredCharters$Rules" "layers" "[I" ∈ wsX2_allowedPairs := List.mem_of_getElem? (i := 22) rfl
set_option maxRecDepth 20000 in
theorem iX2_allowedPairs_X2 : ∀ w ∈ wsX20, w ∈ wsX2_allowedPairs := by decide +kernel
theorem kX2_allowsByLayers_30 : Cond.fieldLink RX2 30 "LayeredCharters$Rules" "size" "I" ∈ wsX2_allowsByLayers := List.mem_of_getElem? (i := 10) rfl
theorem kX2_allowsByLayers_15 : Cond.fieldLink RX2 15 "LayeredCharters$Rules" "kinds" "[I" ∈ wsX2_allowsByLayers := List.mem_of_getElem? (i := 11) rfl
theorem kX2_allowsByLayers_27 : Cond.fieldLink RX2 27 "LayeredCharters$Rules" "pairs" "[I" ∈ wsX2_allowsByLayers := List.mem_of_getElem? (i := 12) rfl
theorem kX2_allowsByLayers_11 : Cond.fieldLink RX2 11 "LayeredCharters$Rules" "layers" "[I" ∈ wsX2_allowsByLayers := List.mem_of_getElem? (i := 17) rfl
theorem kX2_allowsByLayers_24 : Cond.fieldLink RX2 24 "LayeredCharters$Rules" "seals" "[I" ∈ wsX2_allowsByLayers := List.mem_of_getElem? (i := 18) rfl
set_option maxRecDepth 20000 in
theorem iX2_allowsByLayers_X2 : ∀ w ∈ wsX20, w ∈ wsX2_allowsByLayers := by decide +kernel
theorem kX2_append_30 : Cond.fieldLink RX2 30 "LayeredCharters$Rules" "size" "I" ∈ wsX2_append := List.mem_of_getElem? (i := 1) rfl
theorem kX2_append_11 : Cond.fieldLink RX2 11 "LayeredCharters$Rules" "layers" "[I" ∈ wsX2_append := List.mem_of_getElem? (i := 2) rfl
theorem kX2_append_15 : Cond.fieldLink RX2 15 "LayeredCharters$Rules" "kinds" "[I" ∈ wsX2_append := List.mem_of_getElem? (i := 3) rfl
theorem kX2_append_18 : Cond.fieldLink RX2 18 "LayeredCharters$Rules" "crafts" "[I" ∈ wsX2_append := List.mem_of_getElem? (i := 4) rfl
theorem kX2_append_21 : Cond.fieldLink RX2 21 "LayeredCharters$Rules" "deeds" "[I" ∈ wsX2_append := List.mem_of_getElem? (i := 5) rfl
theorem kX2_append_24 : Cond.fieldLink RX2 24 "LayeredCharters$Rules" "seals" "[I" ∈ wsX2_append := List.mem_of_getElem? (i := 6) rfl
theorem kX2_append_27 : Cond.fieldLink RX2 27 "LayeredCharters$Rules" "pairs" "[I" ∈ wsX2_append := List.mem_of_getElem? (i := 7) rfl
set_option maxRecDepth 20000 in
theorem iX2_append_X2 : ∀ w ∈ wsX20, w ∈ wsX2_append := by decide +kernel
theorem kX2_areAtOdds_15 : Cond.fieldLink RX2 15 "LayeredCharters$Rules" "kinds" "[I" ∈ wsX2_areAtOdds := List.mem_of_getElem? (i := 1) rfl
theorem kX2_areAtOdds_27 : Cond.fieldLink RX2 27 "LayeredCharters$Rules" "pairs" "[I" ∈ wsX2_areAtOdds := List.mem_of_getElem? (i := 2) rfl
set_option maxRecDepth 20000 in
theorem iX2_areAtOdds_X2 : ∀ w ∈ wsX20, w ∈ wsX2_areAtOdds := by decide +kernel
theorem kX2_copyFrom_11 : Cond.fieldLink RX2 11 "LayeredCharters$Rules" "layers" "[I" ∈ wsX2_copyFrom := List.mem_of_getElem? (i := 1) rfl
theorem kX2_copyFrom_15 : Cond.fieldLink RX2 15 "LayeredCharters$Rules" "kinds" "[I" ∈ wsX2_copyFrom := List.mem_of_getElem? (i := 2) rfl
theorem kX2_copyFrom_18 : Cond.fieldLink RX2 18 "LayeredCharters$Rules" "crafts" "[I" ∈ wsX2_copyFrom := List.mem_of_getElem? (i := 3) rfl
theorem kX2_copyFrom_21 : Cond.fieldLink RX2 21 "LayeredCharters$Rules" "deeds" "[I" ∈ wsX2_copyFrom := List.mem_of_getElem? (i := 4) rfl
theorem kX2_copyFrom_24 : Cond.fieldLink RX2 24 "LayeredCharters$Rules" "seals" "[I" ∈ wsX2_copyFrom := List.mem_of_getElem? (i := 5) rfl
theorem kX2_copyFrom_27 : Cond.fieldLink RX2 27 "LayeredCharters$Rules" "pairs" "[I" ∈ wsX2_copyFrom := List.mem_of_getElem? (i := 6) rfl
theorem kX2_copyFrom_30 : Cond.fieldLink RX2 30 "LayeredCharters$Rules" "size" "I" ∈ wsX2_copyFrom := List.mem_of_getElem? (i := 7) rfl
set_option maxRecDepth 20000 in
theorem iX2_copyFrom_X2 : ∀ w ∈ wsX20, w ∈ wsX2_copyFrom := by decide +kernel
theorem kX2_has_30 : Cond.fieldLink RX2 30 "LayeredCharters$Rules" "size" "I" ∈ wsX2_has := List.mem_of_getElem? (i := 1) rfl
set_option maxRecDepth 20000 in
theorem iX2_has_X2 : ∀ w ∈ wsX20, w ∈ wsX2_has := by decide +kernel
theorem kX2_heldPairs_27 : Cond.fieldLink RX2 27 "LayeredCharters$Rules" "pairs" "[I" ∈ wsX2_heldPairs := List.mem_of_getElem? (i := 1) rfl
theorem kX2_heldPairs_30 : Cond.fieldLink RX2 30 "LayeredCharters$Rules" "size" "I" ∈ wsX2_heldPairs := List.mem_of_getElem? (i := 2) rfl
theorem kX2_heldPairs_15 : Cond.fieldLink RX2 15 "LayeredCharters$Rules" "kinds" "[I" ∈ wsX2_heldPairs := List.mem_of_getElem? (i := 8) rfl
theorem kX2_heldPairs_11 : Cond.fieldLink RX2 11 "LayeredCharters$Rules" "layers" "[I" ∈ wsX2_heldPairs := List.mem_of_getElem? (i := 9) rfl
theorem kX2_heldPairs_24 : Cond.fieldLink RX2 24 "LayeredCharters$Rules" "seals" "[I" ∈ wsX2_heldPairs := List.mem_of_getElem? (i := 10) rfl
set_option maxRecDepth 20000 in
theorem iX2_heldPairs_X2 : ∀ w ∈ wsX20, w ∈ wsX2_heldPairs := by decide +kernel
theorem kX2_heldPairsOfSeal_30 : Cond.fieldLink RX2 30 "LayeredCharters$Rules" "size" "I" ∈ wsX2_heldPairsOfSeal := List.mem_of_getElem? (i := 1) rfl
theorem kX2_heldPairsOfSeal_15 : Cond.fieldLink RX2 15 "LayeredCharters$Rules" "kinds" "[I" ∈ wsX2_heldPairsOfSeal := List.mem_of_getElem? (i := 2) rfl
theorem kX2_heldPairsOfSeal_24 : Cond.fieldLink RX2 24 "LayeredCharters$Rules" "seals" "[I" ∈ wsX2_heldPairsOfSeal := List.mem_of_getElem? (i := 3) rfl
theorem kX2_heldPairsOfSeal_27 : Cond.fieldLink RX2 27 "LayeredCharters$Rules" "pairs" "[I" ∈ wsX2_heldPairsOfSeal := List.mem_of_getElem? (i := 9) rfl
theorem kX2_heldPairsOfSeal_11 : Cond.fieldLink RX2 11 "LayeredCharters$Rules" "layers" "[I" ∈ wsX2_heldPairsOfSeal := List.mem_of_getElem? (i := 14) rfl
set_option maxRecDepth 20000 in
theorem iX2_heldPairsOfSeal_X2 : ∀ w ∈ wsX20, w ∈ wsX2_heldPairsOfSeal := by decide +kernel
theorem kX2_init_11 : Cond.fieldLink RX2 11 "LayeredCharters$Rules" "layers" "[I" ∈ wsX2_init := List.mem_of_getElem? (i := 5) rfl
theorem kX2_init_15 : Cond.fieldLink RX2 15 "LayeredCharters$Rules" "kinds" "[I" ∈ wsX2_init := List.mem_of_getElem? (i := 6) rfl
theorem kX2_init_18 : Cond.fieldLink RX2 18 "LayeredCharters$Rules" "crafts" "[I" ∈ wsX2_init := List.mem_of_getElem? (i := 7) rfl
theorem kX2_init_21 : Cond.fieldLink RX2 21 "LayeredCharters$Rules" "deeds" "[I" ∈ wsX2_init := List.mem_of_getElem? (i := 8) rfl
theorem kX2_init_24 : Cond.fieldLink RX2 24 "LayeredCharters$Rules" "seals" "[I" ∈ wsX2_init := List.mem_of_getElem? (i := 9) rfl
theorem kX2_init_27 : Cond.fieldLink RX2 27 "LayeredCharters$Rules" "pairs" "[I" ∈ wsX2_init := List.mem_of_getElem? (i := 10) rfl
theorem kX2_init_30 : Cond.fieldLink RX2 30 "LayeredCharters$Rules" "size" "I" ∈ wsX2_init := List.mem_of_getElem? (i := 11) rfl
set_option maxRecDepth 20000 in
theorem iX2_init_X2 : ∀ w ∈ wsX20, w ∈ wsX2_init := by decide +kernel
theorem kX2_leastRankFor_30 : Cond.fieldLink RX2 30 "LayeredCharters$Rules" "size" "I" ∈ wsX2_leastRankFor := List.mem_of_getElem? (i := 6) rfl
theorem kX2_leastRankFor_15 : Cond.fieldLink RX2 15 "LayeredCharters$Rules" "kinds" "[I" ∈ wsX2_leastRankFor := List.mem_of_getElem? (i := 7) rfl
theorem kX2_leastRankFor_27 : Cond.fieldLink RX2 27 "LayeredCharters$Rules" "pairs" "[I" ∈ wsX2_leastRankFor := List.mem_of_getElem? (i := 8) rfl
theorem kX2_leastRankFor_24 : Cond.fieldLink RX2 24 "LayeredCharters$Rules" "seals" "[I" ∈ wsX2_leastRankFor := List.mem_of_getElem? (i := 13) rfl
theorem kX2_leastRankFor_11 : Cond.fieldLink RX2 11 "LayeredCharters$Rules" "layers" "[I" ∈ wsX2_leastRankFor := List.mem_of_getElem? (i := 22) rfl
set_option maxRecDepth 20000 in
theorem iX2_leastRankFor_X2 : ∀ w ∈ wsX20, w ∈ wsX2_leastRankFor := by decide +kernel
theorem kX2_lifts_15 : Cond.fieldLink RX2 15 "LayeredCharters$Rules" "kinds" "[I" ∈ wsX2_lifts := List.mem_of_getElem? (i := 1) rfl
theorem kX2_lifts_11 : Cond.fieldLink RX2 11 "LayeredCharters$Rules" "layers" "[I" ∈ wsX2_lifts := List.mem_of_getElem? (i := 2) rfl
theorem kX2_lifts_24 : Cond.fieldLink RX2 24 "LayeredCharters$Rules" "seals" "[I" ∈ wsX2_lifts := List.mem_of_getElem? (i := 3) rfl
set_option maxRecDepth 20000 in
theorem iX2_lifts_X2 : ∀ w ∈ wsX20, w ∈ wsX2_lifts := by decide +kernel
theorem kX2_oddPairs_30 : Cond.fieldLink RX2 30 "LayeredCharters$Rules" "size" "I" ∈ wsX2_oddPairs := List.mem_of_getElem? (i := 1) rfl
theorem kX2_oddPairs_15 : Cond.fieldLink RX2 15 "LayeredCharters$Rules" "kinds" "[I" ∈ wsX2_oddPairs := List.mem_of_getElem? (i := 2) rfl
theorem kX2_oddPairs_27 : Cond.fieldLink RX2 27 "LayeredCharters$Rules" "pairs" "[I" ∈ wsX2_oddPairs := List.mem_of_getElem? (i := 12) rfl
set_option maxRecDepth 20000 in
theorem iX2_oddPairs_X2 : ∀ w ∈ wsX20, w ∈ wsX2_oddPairs := by decide +kernel
theorem kX2_oddsOf_30 : Cond.fieldLink RX2 30 "LayeredCharters$Rules" "size" "I" ∈ wsX2_oddsOf := List.mem_of_getElem? (i := 1) rfl
theorem kX2_oddsOf_15 : Cond.fieldLink RX2 15 "LayeredCharters$Rules" "kinds" "[I" ∈ wsX2_oddsOf := List.mem_of_getElem? (i := 7) rfl
theorem kX2_oddsOf_27 : Cond.fieldLink RX2 27 "LayeredCharters$Rules" "pairs" "[I" ∈ wsX2_oddsOf := List.mem_of_getElem? (i := 8) rfl
set_option maxRecDepth 20000 in
theorem iX2_oddsOf_X2 : ∀ w ∈ wsX20, w ∈ wsX2_oddsOf := by decide +kernel
theorem kX2_permittedPairs_30 : Cond.fieldLink RX2 30 "LayeredCharters$Rules" "size" "I" ∈ wsX2_permittedPairs := List.mem_of_getElem? (i := 1) rfl
theorem kX2_permittedPairs_15 : Cond.fieldLink RX2 15 "LayeredCharters$Rules" "kinds" "[I" ∈ wsX2_permittedPairs := List.mem_of_getElem? (i := 2) rfl
theorem kX2_permittedPairs_27 : Cond.fieldLink RX2 27 "LayeredCharters$Rules" "pairs" "[I" ∈ wsX2_permittedPairs := List.mem_of_getElem? (i := 3) rfl
set_option maxRecDepth 20000 in
theorem iX2_permittedPairs_X2 : ∀ w ∈ wsX20, w ∈ wsX2_permittedPairs := by decide +kernel
theorem kX2_reason_30 : Cond.fieldLink RX2 30 "LayeredCharters$Rules" "size" "I" ∈ wsX2_reason := List.mem_of_getElem? (i := 1) rfl
theorem kX2_reason_15 : Cond.fieldLink RX2 15 "LayeredCharters$Rules" "kinds" "[I" ∈ wsX2_reason := List.mem_of_getElem? (i := 2) rfl
theorem kX2_reason_24 : Cond.fieldLink RX2 24 "LayeredCharters$Rules" "seals" "[I" ∈ wsX2_reason := List.mem_of_getElem? (i := 3) rfl
theorem kX2_reason_11 : Cond.fieldLink RX2 11 "LayeredCharters$Rules" "layers" "[I" ∈ wsX2_reason := List.mem_of_getElem? (i := 4) rfl
theorem kX2_reason_27 : Cond.fieldLink RX2 27 "LayeredCharters$Rules" "pairs" "[I" ∈ wsX2_reason := List.mem_of_getElem? (i := 10) rfl
set_option maxRecDepth 20000 in
theorem iX2_reason_X2 : ∀ w ∈ wsX20, w ∈ wsX2_reason := by decide +kernel
theorem kX2_remove_11 : Cond.fieldLink RX2 11 "LayeredCharters$Rules" "layers" "[I" ∈ wsX2_remove := List.mem_of_getElem? (i := 1) rfl
theorem kX2_remove_15 : Cond.fieldLink RX2 15 "LayeredCharters$Rules" "kinds" "[I" ∈ wsX2_remove := List.mem_of_getElem? (i := 2) rfl
theorem kX2_remove_18 : Cond.fieldLink RX2 18 "LayeredCharters$Rules" "crafts" "[I" ∈ wsX2_remove := List.mem_of_getElem? (i := 3) rfl
theorem kX2_remove_21 : Cond.fieldLink RX2 21 "LayeredCharters$Rules" "deeds" "[I" ∈ wsX2_remove := List.mem_of_getElem? (i := 4) rfl
theorem kX2_remove_24 : Cond.fieldLink RX2 24 "LayeredCharters$Rules" "seals" "[I" ∈ wsX2_remove := List.mem_of_getElem? (i := 5) rfl
theorem kX2_remove_27 : Cond.fieldLink RX2 27 "LayeredCharters$Rules" "pairs" "[I" ∈ wsX2_remove := List.mem_of_getElem? (i := 6) rfl
theorem kX2_remove_30 : Cond.fieldLink RX2 30 "LayeredCharters$Rules" "size" "I" ∈ wsX2_remove := List.mem_of_getElem? (i := 7) rfl
set_option maxRecDepth 20000 in
theorem iX2_remove_X2 : ∀ w ∈ wsX20, w ∈ wsX2_remove := by decide +kernel
theorem kX2_sizeOfKind_30 : Cond.fieldLink RX2 30 "LayeredCharters$Rules" "size" "I" ∈ wsX2_sizeOfKind := List.mem_of_getElem? (i := 1) rfl
theorem kX2_sizeOfKind_15 : Cond.fieldLink RX2 15 "LayeredCharters$Rules" "kinds" "[I" ∈ wsX2_sizeOfKind := List.mem_of_getElem? (i := 2) rfl
set_option maxRecDepth 20000 in
theorem iX2_sizeOfKind_X2 : ∀ w ∈ wsX20, w ∈ wsX2_sizeOfKind := by decide +kernel
theorem kX2_strongest_30 : Cond.fieldLink RX2 30 "LayeredCharters$Rules" "size" "I" ∈ wsX2_strongest := List.mem_of_getElem? (i := 1) rfl
theorem kX2_strongest_15 : Cond.fieldLink RX2 15 "LayeredCharters$Rules" "kinds" "[I" ∈ wsX2_strongest := List.mem_of_getElem? (i := 2) rfl
theorem kX2_strongest_11 : Cond.fieldLink RX2 11 "LayeredCharters$Rules" "layers" "[I" ∈ wsX2_strongest := List.mem_of_getElem? (i := 3) rfl
theorem kX2_strongest_27 : Cond.fieldLink RX2 27 "LayeredCharters$Rules" "pairs" "[I" ∈ wsX2_strongest := List.mem_of_getElem? (i := 4) rfl
theorem kX2_strongest_24 : Cond.fieldLink RX2 24 "LayeredCharters$Rules" "seals" "[I" ∈ wsX2_strongest := List.mem_of_getElem? (i := 5) rfl
set_option maxRecDepth 20000 in
theorem iX2_strongest_X2 : ∀ w ∈ wsX20, w ∈ wsX2_strongest := by decide +kernel
theorem kX2_triples_30 : Cond.fieldLink RX2 30 "LayeredCharters$Rules" "size" "I" ∈ wsX2_triples := List.mem_of_getElem? (i := 6) rfl
theorem kX2_triples_15 : Cond.fieldLink RX2 15 "LayeredCharters$Rules" "kinds" "[I" ∈ wsX2_triples := List.mem_of_getElem? (i := 7) rfl
theorem kX2_triples_27 : Cond.fieldLink RX2 27 "LayeredCharters$Rules" "pairs" "[I" ∈ wsX2_triples := List.mem_of_getElem? (i := 8) rfl
theorem kX2_triples_24 : Cond.fieldLink RX2 24 "LayeredCharters$Rules" "seals" "[I" ∈ wsX2_triples := List.mem_of_getElem? (i := 20) rfl
theorem kX2_triples_11 : Cond.fieldLink RX2 11 "LayeredCharters$Rules" "layers" "[I" ∈ wsX2_triples := List.mem_of_getElem? (i := 29) rfl
set_option maxRecDepth 20000 in
theorem iX2_triples_X2 : ∀ w ∈ wsX20, w ∈ wsX2_triples := by decide +kernel
theorem kX3_copyFrom_10 : Cond.fieldLink RX3 10 "LayeredCharters$State" "rules" "LLayeredCharters$Rules;" ∈ wsX3_copyFrom := List.mem_of_getElem? (i := 1) rfl
theorem kX3_copyFrom_19 : Cond.fieldLink RX3 19 "LayeredCharters$State" "guild" "LLayeredCharters$Guild;" ∈ wsX3_copyFrom := List.mem_of_getElem? (i := 2) rfl
set_option maxRecDepth 20000 in
theorem iX3_copyFrom_X3 : ∀ w ∈ wsX30, w ∈ wsX3_copyFrom := by decide +kernel
set_option maxRecDepth 20000 in
theorem iX3_copyFrom_X2 : ∀ w ∈ wsX20, w ∈ wsX3_copyFrom := by decide +kernel
set_option maxRecDepth 20000 in
theorem iX3_copyFrom_X0 : ∀ w ∈ wsX00, w ∈ wsX3_copyFrom := by decide +kernel
theorem kX3_init_10 : Cond.fieldLink RX3 10 "LayeredCharters$State" "rules" "LLayeredCharters$Rules;" ∈ wsX3_init := List.mem_of_getElem? (i := 7) rfl
theorem kX3_init_19 : Cond.fieldLink RX3 19 "LayeredCharters$State" "guild" "LLayeredCharters$Guild;" ∈ wsX3_init := List.mem_of_getElem? (i := 11) rfl
set_option maxRecDepth 20000 in
theorem iX3_init_X2 : ∀ w ∈ wsX20, w ∈ wsX3_init := by decide +kernel
set_option maxRecDepth 20000 in
theorem iX3_init_X3 : ∀ w ∈ wsX30, w ∈ wsX3_init := by decide +kernel
set_option maxRecDepth 20000 in
theorem iX3_init_X0 : ∀ w ∈ wsX00, w ∈ wsX3_init := by decide +kernel
theorem kX4_act_12 : Cond.fieldLink RX4 12 "LayeredCharters" "now" "LLayeredCharters$State;" ∈ wsX4_act := List.mem_of_getElem? (i := 1) rfl
theorem kX4_act_105 : Cond.fieldLink RX4 105 "LayeredCharters$State" "guild" "LLayeredCharters$Guild;" ∈ wsX4_act := List.mem_of_getElem? (i := 2) rfl
theorem kX4_act_52 : Cond.fieldLink RX4 52 "LayeredCharters$State" "rules" "LLayeredCharters$Rules;" ∈ wsX4_act := List.mem_of_getElem? (i := 3) rfl
theorem kX4_act_126 : Cond.fieldLink RX4 126 "LayeredCharters$Guild" "crafts" "[I" ∈ wsX4_act := List.mem_of_getElem? (i := 4) rfl
theorem kX4_act_120 : Cond.fieldLink RX4 120 "LayeredCharters$Guild" "ranks" "[I" ∈ wsX4_act := List.mem_of_getElem? (i := 5) rfl
theorem kX4_act_79 : Cond.fieldLink RX4 79 "LayeredCharters$Rules" "layers" "[I" ∈ wsX4_act := List.mem_of_getElem? (i := 6) rfl
theorem kX4_act_30 : Cond.fieldLink RX4 30 "LayeredCharters" "remembered" "I" ∈ wsX4_act := List.mem_of_getElem? (i := 24) rfl
theorem kX4_act_27 : Cond.fieldLink RX4 27 "LayeredCharters" "history" "[LLayeredCharters$State;" ∈ wsX4_act := List.mem_of_getElem? (i := 25) rfl
set_option maxRecDepth 20000 in
theorem iX4_act_X4 : ∀ w ∈ wsX40, w ∈ wsX4_act := by decide +kernel
set_option maxRecDepth 20000 in
theorem iX4_act_X3 : ∀ w ∈ wsX30, w ∈ wsX4_act := by decide +kernel
set_option maxRecDepth 20000 in
theorem iX4_act_X0 : ∀ w ∈ wsX00, w ∈ wsX4_act := by decide +kernel
set_option maxRecDepth 20000 in
theorem iX4_act_X2 : ∀ w ∈ wsX20, w ∈ wsX4_act := by decide +kernel
theorem kX4_add_12 : Cond.fieldLink RX4 12 "LayeredCharters" "now" "LLayeredCharters$State;" ∈ wsX4_add := List.mem_of_getElem? (i := 1) rfl
theorem kX4_add_52 : Cond.fieldLink RX4 52 "LayeredCharters$State" "rules" "LLayeredCharters$Rules;" ∈ wsX4_add := List.mem_of_getElem? (i := 2) rfl
theorem kX4_add_55 : Cond.fieldLink RX4 55 "LayeredCharters$Rules" "size" "I" ∈ wsX4_add := List.mem_of_getElem? (i := 3) rfl
theorem kX4_add_30 : Cond.fieldLink RX4 30 "LayeredCharters" "remembered" "I" ∈ wsX4_add := List.mem_of_getElem? (i := 18) rfl
theorem kX4_add_27 : Cond.fieldLink RX4 27 "LayeredCharters" "history" "[LLayeredCharters$State;" ∈ wsX4_add := List.mem_of_getElem? (i := 19) rfl
set_option maxRecDepth 20000 in
theorem iX4_add_X4 : ∀ w ∈ wsX40, w ∈ wsX4_add := by decide +kernel
set_option maxRecDepth 20000 in
theorem iX4_add_X3 : ∀ w ∈ wsX30, w ∈ wsX4_add := by decide +kernel
set_option maxRecDepth 20000 in
theorem iX4_add_X2 : ∀ w ∈ wsX20, w ∈ wsX4_add := by decide +kernel
set_option maxRecDepth 20000 in
theorem iX4_add_X0 : ∀ w ∈ wsX00, w ∈ wsX4_add := by decide +kernel
theorem kX4_allowed_12 : Cond.fieldLink RX4 12 "LayeredCharters" "now" "LLayeredCharters$State;" ∈ wsX4_allowed := List.mem_of_getElem? (i := 1) rfl
theorem kX4_allowed_52 : Cond.fieldLink RX4 52 "LayeredCharters$State" "rules" "LLayeredCharters$Rules;" ∈ wsX4_allowed := List.mem_of_getElem? (i := 2) rfl
set_option maxRecDepth 20000 in
theorem iX4_allowed_X4 : ∀ w ∈ wsX40, w ∈ wsX4_allowed := by decide +kernel
set_option maxRecDepth 20000 in
theorem iX4_allowed_X3 : ∀ w ∈ wsX30, w ∈ wsX4_allowed := by decide +kernel
set_option maxRecDepth 20000 in
theorem iX4_allowed_X2 : ∀ w ∈ wsX20, w ∈ wsX4_allowed := by decide +kernel
theorem kX4_bestWaiver_37 : Cond.fieldLink RX4 37 "LayeredCharters" "trial" "LLayeredCharters$Rules;" ∈ wsX4_bestWaiver := List.mem_of_getElem? (i := 12) rfl
theorem kX4_bestWaiver_12 : Cond.fieldLink RX4 12 "LayeredCharters" "now" "LLayeredCharters$State;" ∈ wsX4_bestWaiver := List.mem_of_getElem? (i := 13) rfl
theorem kX4_bestWaiver_52 : Cond.fieldLink RX4 52 "LayeredCharters$State" "rules" "LLayeredCharters$Rules;" ∈ wsX4_bestWaiver := List.mem_of_getElem? (i := 14) rfl
set_option maxRecDepth 20000 in
theorem iX4_bestWaiver_X4 : ∀ w ∈ wsX40, w ∈ wsX4_bestWaiver := by decide +kernel
set_option maxRecDepth 20000 in
theorem iX4_bestWaiver_X3 : ∀ w ∈ wsX30, w ∈ wsX4_bestWaiver := by decide +kernel
set_option maxRecDepth 20000 in
theorem iX4_bestWaiver_X2 : ∀ w ∈ wsX20, w ∈ wsX4_bestWaiver := by decide +kernel
theorem kX4_copyInto_12 : Cond.fieldLink RX4 12 "LayeredCharters" "now" "LLayeredCharters$State;" ∈ wsX4_copyInto := List.mem_of_getElem? (i := 4) rfl
set_option maxRecDepth 20000 in
theorem iX4_copyInto_X3 : ∀ w ∈ wsX30, w ∈ wsX4_copyInto := by decide +kernel
set_option maxRecDepth 20000 in
theorem iX4_copyInto_X4 : ∀ w ∈ wsX40, w ∈ wsX4_copyInto := by decide +kernel
set_option maxRecDepth 20000 in
theorem iX4_copyInto_X2 : ∀ w ∈ wsX20, w ∈ wsX4_copyInto := by decide +kernel
set_option maxRecDepth 20000 in
theorem iX4_copyInto_X0 : ∀ w ∈ wsX00, w ∈ wsX4_copyInto := by decide +kernel
theorem kX4_count_12 : Cond.fieldLink RX4 12 "LayeredCharters" "now" "LLayeredCharters$State;" ∈ wsX4_count := List.mem_of_getElem? (i := 1) rfl
theorem kX4_count_52 : Cond.fieldLink RX4 52 "LayeredCharters$State" "rules" "LLayeredCharters$Rules;" ∈ wsX4_count := List.mem_of_getElem? (i := 2) rfl
theorem kX4_count_55 : Cond.fieldLink RX4 55 "LayeredCharters$Rules" "size" "I" ∈ wsX4_count := List.mem_of_getElem? (i := 3) rfl
theorem kX4_count_105 : Cond.fieldLink RX4 105 "LayeredCharters$State" "guild" "LLayeredCharters$Guild;" ∈ wsX4_count := List.mem_of_getElem? (i := 4) rfl
theorem kX4_count_109 : Cond.fieldLink RX4 109 "LayeredCharters$Guild" "size" "I" ∈ wsX4_count := List.mem_of_getElem? (i := 5) rfl
theorem kX4_count_183 : Cond.fieldLink RX4 183 "LayeredCharters$Guild" "doneInAll" "I" ∈ wsX4_count := List.mem_of_getElem? (i := 6) rfl
theorem kX4_count_19 : Cond.fieldLink RX4 19 "LayeredCharters" "pad" "LLayeredCharters$Pad;" ∈ wsX4_count := List.mem_of_getElem? (i := 7) rfl
theorem kX4_count_189 : Cond.fieldLink RX4 189 "LayeredCharters$Pad" "length" "I" ∈ wsX4_count := List.mem_of_getElem? (i := 8) rfl
theorem kX4_count_30 : Cond.fieldLink RX4 30 "LayeredCharters" "remembered" "I" ∈ wsX4_count := List.mem_of_getElem? (i := 9) rfl
theorem kX4_count_37 : Cond.fieldLink RX4 37 "LayeredCharters" "trial" "LLayeredCharters$Rules;" ∈ wsX4_count := List.mem_of_getElem? (i := 60) rfl
set_option maxRecDepth 20000 in
theorem iX4_count_X4 : ∀ w ∈ wsX40, w ∈ wsX4_count := by decide +kernel
set_option maxRecDepth 20000 in
theorem iX4_count_X3 : ∀ w ∈ wsX30, w ∈ wsX4_count := by decide +kernel
set_option maxRecDepth 20000 in
theorem iX4_count_X2 : ∀ w ∈ wsX20, w ∈ wsX4_count := by decide +kernel
set_option maxRecDepth 20000 in
theorem iX4_count_X0 : ∀ w ∈ wsX00, w ∈ wsX4_count := by decide +kernel
set_option maxRecDepth 20000 in
theorem iX4_count_X1 : ∀ w ∈ wsX10, w ∈ wsX4_count := by decide +kernel
theorem kX4_deedsAllowed_12 : Cond.fieldLink RX4 12 "LayeredCharters" "now" "LLayeredCharters$State;" ∈ wsX4_deedsAllowed := List.mem_of_getElem? (i := 1) rfl
theorem kX4_deedsAllowed_52 : Cond.fieldLink RX4 52 "LayeredCharters$State" "rules" "LLayeredCharters$Rules;" ∈ wsX4_deedsAllowed := List.mem_of_getElem? (i := 2) rfl
set_option maxRecDepth 20000 in
theorem iX4_deedsAllowed_X4 : ∀ w ∈ wsX40, w ∈ wsX4_deedsAllowed := by decide +kernel
set_option maxRecDepth 20000 in
theorem iX4_deedsAllowed_X3 : ∀ w ∈ wsX30, w ∈ wsX4_deedsAllowed := by decide +kernel
set_option maxRecDepth 20000 in
theorem iX4_deedsAllowed_X2 : ∀ w ∈ wsX20, w ∈ wsX4_deedsAllowed := by decide +kernel
theorem kX4_dropOldest_27 : Cond.fieldLink RX4 27 "LayeredCharters" "history" "[LLayeredCharters$State;" ∈ wsX4_dropOldest := List.mem_of_getElem? (i := 1) rfl
theorem kX4_dropOldest_30 : Cond.fieldLink RX4 30 "LayeredCharters" "remembered" "I" ∈ wsX4_dropOldest := List.mem_of_getElem? (i := 2) rfl
set_option maxRecDepth 20000 in
theorem iX4_dropOldest_X4 : ∀ w ∈ wsX40, w ∈ wsX4_dropOldest := by decide +kernel
theorem kX4_fault_19 : Cond.fieldLink RX4 19 "LayeredCharters" "pad" "LLayeredCharters$Pad;" ∈ wsX4_fault := List.mem_of_getElem? (i := 1) rfl
set_option maxRecDepth 20000 in
theorem iX4_fault_X4 : ∀ w ∈ wsX40, w ∈ wsX4_fault := by decide +kernel
set_option maxRecDepth 20000 in
theorem iX4_fault_X1 : ∀ w ∈ wsX10, w ∈ wsX4_fault := by decide +kernel
theorem kX4_firstIdle_12 : Cond.fieldLink RX4 12 "LayeredCharters" "now" "LLayeredCharters$State;" ∈ wsX4_firstIdle := List.mem_of_getElem? (i := 1) rfl
theorem kX4_firstIdle_52 : Cond.fieldLink RX4 52 "LayeredCharters$State" "rules" "LLayeredCharters$Rules;" ∈ wsX4_firstIdle := List.mem_of_getElem? (i := 2) rfl
theorem kX4_firstIdle_55 : Cond.fieldLink RX4 55 "LayeredCharters$Rules" "size" "I" ∈ wsX4_firstIdle := List.mem_of_getElem? (i := 3) rfl
theorem kX4_firstIdle_37 : Cond.fieldLink RX4 37 "LayeredCharters" "trial" "LLayeredCharters$Rules;" ∈ wsX4_firstIdle := List.mem_of_getElem? (i := 46) rfl
set_option maxRecDepth 20000 in
theorem iX4_firstIdle_X4 : ∀ w ∈ wsX40, w ∈ wsX4_firstIdle := by decide +kernel
set_option maxRecDepth 20000 in
theorem iX4_firstIdle_X3 : ∀ w ∈ wsX30, w ∈ wsX4_firstIdle := by decide +kernel
set_option maxRecDepth 20000 in
theorem iX4_firstIdle_X2 : ∀ w ∈ wsX20, w ∈ wsX4_firstIdle := by decide +kernel
theorem kX4_idleRules_12 : Cond.fieldLink RX4 12 "LayeredCharters" "now" "LLayeredCharters$State;" ∈ wsX4_idleRules := List.mem_of_getElem? (i := 1) rfl
theorem kX4_idleRules_52 : Cond.fieldLink RX4 52 "LayeredCharters$State" "rules" "LLayeredCharters$Rules;" ∈ wsX4_idleRules := List.mem_of_getElem? (i := 2) rfl
theorem kX4_idleRules_55 : Cond.fieldLink RX4 55 "LayeredCharters$Rules" "size" "I" ∈ wsX4_idleRules := List.mem_of_getElem? (i := 3) rfl
theorem kX4_idleRules_37 : Cond.fieldLink RX4 37 "LayeredCharters" "trial" "LLayeredCharters$Rules;" ∈ wsX4_idleRules := List.mem_of_getElem? (i := 46) rfl
set_option maxRecDepth 20000 in
theorem iX4_idleRules_X4 : ∀ w ∈ wsX40, w ∈ wsX4_idleRules := by decide +kernel
set_option maxRecDepth 20000 in
theorem iX4_idleRules_X3 : ∀ w ∈ wsX30, w ∈ wsX4_idleRules := by decide +kernel
set_option maxRecDepth 20000 in
theorem iX4_idleRules_X2 : ∀ w ∈ wsX20, w ∈ wsX4_idleRules := by decide +kernel
theorem kX4_ifStruck_12 : Cond.fieldLink RX4 12 "LayeredCharters" "now" "LLayeredCharters$State;" ∈ wsX4_ifStruck := List.mem_of_getElem? (i := 1) rfl
theorem kX4_ifStruck_52 : Cond.fieldLink RX4 52 "LayeredCharters$State" "rules" "LLayeredCharters$Rules;" ∈ wsX4_ifStruck := List.mem_of_getElem? (i := 2) rfl
theorem kX4_ifStruck_37 : Cond.fieldLink RX4 37 "LayeredCharters" "trial" "LLayeredCharters$Rules;" ∈ wsX4_ifStruck := List.mem_of_getElem? (i := 14) rfl
set_option maxRecDepth 20000 in
theorem iX4_ifStruck_X4 : ∀ w ∈ wsX40, w ∈ wsX4_ifStruck := by decide +kernel
set_option maxRecDepth 20000 in
theorem iX4_ifStruck_X3 : ∀ w ∈ wsX30, w ∈ wsX4_ifStruck := by decide +kernel
set_option maxRecDepth 20000 in
theorem iX4_ifStruck_X2 : ∀ w ∈ wsX20, w ∈ wsX4_ifStruck := by decide +kernel
theorem kX4_init_12 : Cond.fieldLink RX4 12 "LayeredCharters" "now" "LLayeredCharters$State;" ∈ wsX4_init := List.mem_of_getElem? (i := 7) rfl
theorem kX4_init_19 : Cond.fieldLink RX4 19 "LayeredCharters" "pad" "LLayeredCharters$Pad;" ∈ wsX4_init := List.mem_of_getElem? (i := 11) rfl
theorem kX4_init_23 : Cond.fieldLink RX4 23 "LayeredCharters" "slots" "[LLayeredCharters$State;" ∈ wsX4_init := List.mem_of_getElem? (i := 12) rfl
theorem kX4_init_27 : Cond.fieldLink RX4 27 "LayeredCharters" "history" "[LLayeredCharters$State;" ∈ wsX4_init := List.mem_of_getElem? (i := 13) rfl
theorem kX4_init_30 : Cond.fieldLink RX4 30 "LayeredCharters" "remembered" "I" ∈ wsX4_init := List.mem_of_getElem? (i := 14) rfl
theorem kX4_init_37 : Cond.fieldLink RX4 37 "LayeredCharters" "trial" "LLayeredCharters$Rules;" ∈ wsX4_init := List.mem_of_getElem? (i := 18) rfl
set_option maxRecDepth 20000 in
theorem iX4_init_X3 : ∀ w ∈ wsX30, w ∈ wsX4_init := by decide +kernel
set_option maxRecDepth 20000 in
theorem iX4_init_X4 : ∀ w ∈ wsX40, w ∈ wsX4_init := by decide +kernel
set_option maxRecDepth 20000 in
theorem iX4_init_X1 : ∀ w ∈ wsX10, w ∈ wsX4_init := by decide +kernel
set_option maxRecDepth 20000 in
theorem iX4_init_X2 : ∀ w ∈ wsX20, w ∈ wsX4_init := by decide +kernel
set_option maxRecDepth 20000 in
theorem iX4_init_X0 : ∀ w ∈ wsX00, w ∈ wsX4_init := by decide +kernel
theorem kX4_isIdle_37 : Cond.fieldLink RX4 37 "LayeredCharters" "trial" "LLayeredCharters$Rules;" ∈ wsX4_isIdle := List.mem_of_getElem? (i := 6) rfl
theorem kX4_isIdle_12 : Cond.fieldLink RX4 12 "LayeredCharters" "now" "LLayeredCharters$State;" ∈ wsX4_isIdle := List.mem_of_getElem? (i := 7) rfl
theorem kX4_isIdle_52 : Cond.fieldLink RX4 52 "LayeredCharters$State" "rules" "LLayeredCharters$Rules;" ∈ wsX4_isIdle := List.mem_of_getElem? (i := 8) rfl
set_option maxRecDepth 20000 in
theorem iX4_isIdle_X4 : ∀ w ∈ wsX40, w ∈ wsX4_isIdle := by decide +kernel
set_option maxRecDepth 20000 in
theorem iX4_isIdle_X3 : ∀ w ∈ wsX30, w ∈ wsX4_isIdle := by decide +kernel
set_option maxRecDepth 20000 in
theorem iX4_isIdle_X2 : ∀ w ∈ wsX20, w ∈ wsX4_isIdle := by decide +kernel
theorem kX4_join_12 : Cond.fieldLink RX4 12 "LayeredCharters" "now" "LLayeredCharters$State;" ∈ wsX4_join := List.mem_of_getElem? (i := 1) rfl
theorem kX4_join_105 : Cond.fieldLink RX4 105 "LayeredCharters$State" "guild" "LLayeredCharters$Guild;" ∈ wsX4_join := List.mem_of_getElem? (i := 2) rfl
theorem kX4_join_109 : Cond.fieldLink RX4 109 "LayeredCharters$Guild" "size" "I" ∈ wsX4_join := List.mem_of_getElem? (i := 3) rfl
theorem kX4_join_30 : Cond.fieldLink RX4 30 "LayeredCharters" "remembered" "I" ∈ wsX4_join := List.mem_of_getElem? (i := 18) rfl
theorem kX4_join_27 : Cond.fieldLink RX4 27 "LayeredCharters" "history" "[LLayeredCharters$State;" ∈ wsX4_join := List.mem_of_getElem? (i := 19) rfl
set_option maxRecDepth 20000 in
theorem iX4_join_X4 : ∀ w ∈ wsX40, w ∈ wsX4_join := by decide +kernel
set_option maxRecDepth 20000 in
theorem iX4_join_X3 : ∀ w ∈ wsX30, w ∈ wsX4_join := by decide +kernel
set_option maxRecDepth 20000 in
theorem iX4_join_X0 : ∀ w ∈ wsX00, w ∈ wsX4_join := by decide +kernel
set_option maxRecDepth 20000 in
theorem iX4_join_X2 : ∀ w ∈ wsX20, w ∈ wsX4_join := by decide +kernel
theorem kX4_leastRank_12 : Cond.fieldLink RX4 12 "LayeredCharters" "now" "LLayeredCharters$State;" ∈ wsX4_leastRank := List.mem_of_getElem? (i := 1) rfl
theorem kX4_leastRank_52 : Cond.fieldLink RX4 52 "LayeredCharters$State" "rules" "LLayeredCharters$Rules;" ∈ wsX4_leastRank := List.mem_of_getElem? (i := 2) rfl
set_option maxRecDepth 20000 in
theorem iX4_leastRank_X4 : ∀ w ∈ wsX40, w ∈ wsX4_leastRank := by decide +kernel
set_option maxRecDepth 20000 in
theorem iX4_leastRank_X3 : ∀ w ∈ wsX30, w ∈ wsX4_leastRank := by decide +kernel
set_option maxRecDepth 20000 in
theorem iX4_leastRank_X2 : ∀ w ∈ wsX20, w ∈ wsX4_leastRank := by decide +kernel
theorem kX4_leave_12 : Cond.fieldLink RX4 12 "LayeredCharters" "now" "LLayeredCharters$State;" ∈ wsX4_leave := List.mem_of_getElem? (i := 1) rfl
theorem kX4_leave_105 : Cond.fieldLink RX4 105 "LayeredCharters$State" "guild" "LLayeredCharters$Guild;" ∈ wsX4_leave := List.mem_of_getElem? (i := 2) rfl
theorem kX4_leave_116 : Cond.fieldLink RX4 116 "LayeredCharters$Guild" "done" "[I" ∈ wsX4_leave := List.mem_of_getElem? (i := 3) rfl
theorem kX4_leave_30 : Cond.fieldLink RX4 30 "LayeredCharters" "remembered" "I" ∈ wsX4_leave := List.mem_of_getElem? (i := 15) rfl
theorem kX4_leave_27 : Cond.fieldLink RX4 27 "LayeredCharters" "history" "[LLayeredCharters$State;" ∈ wsX4_leave := List.mem_of_getElem? (i := 16) rfl
set_option maxRecDepth 20000 in
theorem iX4_leave_X4 : ∀ w ∈ wsX40, w ∈ wsX4_leave := by decide +kernel
set_option maxRecDepth 20000 in
theorem iX4_leave_X3 : ∀ w ∈ wsX30, w ∈ wsX4_leave := by decide +kernel
set_option maxRecDepth 20000 in
theorem iX4_leave_X0 : ∀ w ∈ wsX00, w ∈ wsX4_leave := by decide +kernel
set_option maxRecDepth 20000 in
theorem iX4_leave_X2 : ∀ w ∈ wsX20, w ∈ wsX4_leave := by decide +kernel
theorem kX4_member_12 : Cond.fieldLink RX4 12 "LayeredCharters" "now" "LLayeredCharters$State;" ∈ wsX4_member := List.mem_of_getElem? (i := 1) rfl
theorem kX4_member_105 : Cond.fieldLink RX4 105 "LayeredCharters$State" "guild" "LLayeredCharters$Guild;" ∈ wsX4_member := List.mem_of_getElem? (i := 2) rfl
theorem kX4_member_126 : Cond.fieldLink RX4 126 "LayeredCharters$Guild" "crafts" "[I" ∈ wsX4_member := List.mem_of_getElem? (i := 3) rfl
theorem kX4_member_120 : Cond.fieldLink RX4 120 "LayeredCharters$Guild" "ranks" "[I" ∈ wsX4_member := List.mem_of_getElem? (i := 4) rfl
theorem kX4_member_116 : Cond.fieldLink RX4 116 "LayeredCharters$Guild" "done" "[I" ∈ wsX4_member := List.mem_of_getElem? (i := 5) rfl
theorem kX4_member_168 : Cond.fieldLink RX4 168 "LayeredCharters$Guild" "refused" "[I" ∈ wsX4_member := List.mem_of_getElem? (i := 6) rfl
theorem kX4_member_52 : Cond.fieldLink RX4 52 "LayeredCharters$State" "rules" "LLayeredCharters$Rules;" ∈ wsX4_member := List.mem_of_getElem? (i := 18) rfl
set_option maxRecDepth 20000 in
theorem iX4_member_X4 : ∀ w ∈ wsX40, w ∈ wsX4_member := by decide +kernel
set_option maxRecDepth 20000 in
theorem iX4_member_X3 : ∀ w ∈ wsX30, w ∈ wsX4_member := by decide +kernel
set_option maxRecDepth 20000 in
theorem iX4_member_X0 : ∀ w ∈ wsX00, w ∈ wsX4_member := by decide +kernel
set_option maxRecDepth 20000 in
theorem iX4_member_X2 : ∀ w ∈ wsX20, w ∈ wsX4_member := by decide +kernel
theorem kX4_move_12 : Cond.fieldLink RX4 12 "LayeredCharters" "now" "LLayeredCharters$State;" ∈ wsX4_move := List.mem_of_getElem? (i := 1) rfl
theorem kX4_move_52 : Cond.fieldLink RX4 52 "LayeredCharters$State" "rules" "LLayeredCharters$Rules;" ∈ wsX4_move := List.mem_of_getElem? (i := 2) rfl
theorem kX4_move_76 : Cond.fieldLink RX4 76 "LayeredCharters$Rules" "kinds" "[I" ∈ wsX4_move := List.mem_of_getElem? (i := 3) rfl
theorem kX4_move_79 : Cond.fieldLink RX4 79 "LayeredCharters$Rules" "layers" "[I" ∈ wsX4_move := List.mem_of_getElem? (i := 4) rfl
theorem kX4_move_30 : Cond.fieldLink RX4 30 "LayeredCharters" "remembered" "I" ∈ wsX4_move := List.mem_of_getElem? (i := 22) rfl
theorem kX4_move_27 : Cond.fieldLink RX4 27 "LayeredCharters" "history" "[LLayeredCharters$State;" ∈ wsX4_move := List.mem_of_getElem? (i := 23) rfl
set_option maxRecDepth 20000 in
theorem iX4_move_X4 : ∀ w ∈ wsX40, w ∈ wsX4_move := by decide +kernel
set_option maxRecDepth 20000 in
theorem iX4_move_X3 : ∀ w ∈ wsX30, w ∈ wsX4_move := by decide +kernel
set_option maxRecDepth 20000 in
theorem iX4_move_X2 : ∀ w ∈ wsX20, w ∈ wsX4_move := by decide +kernel
set_option maxRecDepth 20000 in
theorem iX4_move_X0 : ∀ w ∈ wsX00, w ∈ wsX4_move := by decide +kernel
theorem kX4_put_19 : Cond.fieldLink RX4 19 "LayeredCharters" "pad" "LLayeredCharters$Pad;" ∈ wsX4_put := List.mem_of_getElem? (i := 1) rfl
theorem kX4_put_189 : Cond.fieldLink RX4 189 "LayeredCharters$Pad" "length" "I" ∈ wsX4_put := List.mem_of_getElem? (i := 2) rfl
set_option maxRecDepth 20000 in
theorem iX4_put_X4 : ∀ w ∈ wsX40, w ∈ wsX4_put := by decide +kernel
set_option maxRecDepth 20000 in
theorem iX4_put_X1 : ∀ w ∈ wsX10, w ∈ wsX4_put := by decide +kernel
theorem kX4_rank_12 : Cond.fieldLink RX4 12 "LayeredCharters" "now" "LLayeredCharters$State;" ∈ wsX4_rank := List.mem_of_getElem? (i := 1) rfl
theorem kX4_rank_105 : Cond.fieldLink RX4 105 "LayeredCharters$State" "guild" "LLayeredCharters$Guild;" ∈ wsX4_rank := List.mem_of_getElem? (i := 2) rfl
theorem kX4_rank_120 : Cond.fieldLink RX4 120 "LayeredCharters$Guild" "ranks" "[I" ∈ wsX4_rank := List.mem_of_getElem? (i := 3) rfl
theorem kX4_rank_30 : Cond.fieldLink RX4 30 "LayeredCharters" "remembered" "I" ∈ wsX4_rank := List.mem_of_getElem? (i := 21) rfl
theorem kX4_rank_27 : Cond.fieldLink RX4 27 "LayeredCharters" "history" "[LLayeredCharters$State;" ∈ wsX4_rank := List.mem_of_getElem? (i := 22) rfl
set_option maxRecDepth 20000 in
theorem iX4_rank_X4 : ∀ w ∈ wsX40, w ∈ wsX4_rank := by decide +kernel
set_option maxRecDepth 20000 in
theorem iX4_rank_X3 : ∀ w ∈ wsX30, w ∈ wsX4_rank := by decide +kernel
set_option maxRecDepth 20000 in
theorem iX4_rank_X0 : ∀ w ∈ wsX00, w ∈ wsX4_rank := by decide +kernel
set_option maxRecDepth 20000 in
theorem iX4_rank_X2 : ∀ w ∈ wsX20, w ∈ wsX4_rank := by decide +kernel
theorem kX4_read_19 : Cond.fieldLink RX4 19 "LayeredCharters" "pad" "LLayeredCharters$Pad;" ∈ wsX4_read := List.mem_of_getElem? (i := 1) rfl
theorem kX4_read_12 : Cond.fieldLink RX4 12 "LayeredCharters" "now" "LLayeredCharters$State;" ∈ wsX4_read := List.mem_of_getElem? (i := 2) rfl
theorem kX4_read_52 : Cond.fieldLink RX4 52 "LayeredCharters$State" "rules" "LLayeredCharters$Rules;" ∈ wsX4_read := List.mem_of_getElem? (i := 3) rfl
theorem kX4_read_55 : Cond.fieldLink RX4 55 "LayeredCharters$Rules" "size" "I" ∈ wsX4_read := List.mem_of_getElem? (i := 4) rfl
theorem kX4_read_30 : Cond.fieldLink RX4 30 "LayeredCharters" "remembered" "I" ∈ wsX4_read := List.mem_of_getElem? (i := 35) rfl
theorem kX4_read_27 : Cond.fieldLink RX4 27 "LayeredCharters" "history" "[LLayeredCharters$State;" ∈ wsX4_read := List.mem_of_getElem? (i := 36) rfl
set_option maxRecDepth 20000 in
theorem iX4_read_X4 : ∀ w ∈ wsX40, w ∈ wsX4_read := by decide +kernel
set_option maxRecDepth 20000 in
theorem iX4_read_X3 : ∀ w ∈ wsX30, w ∈ wsX4_read := by decide +kernel
set_option maxRecDepth 20000 in
theorem iX4_read_X2 : ∀ w ∈ wsX20, w ∈ wsX4_read := by decide +kernel
set_option maxRecDepth 20000 in
theorem iX4_read_X1 : ∀ w ∈ wsX10, w ∈ wsX4_read := by decide +kernel
set_option maxRecDepth 20000 in
theorem iX4_read_X0 : ∀ w ∈ wsX00, w ∈ wsX4_read := by decide +kernel
theorem kX4_remember_30 : Cond.fieldLink RX4 30 "LayeredCharters" "remembered" "I" ∈ wsX4_remember := List.mem_of_getElem? (i := 1) rfl
theorem kX4_remember_27 : Cond.fieldLink RX4 27 "LayeredCharters" "history" "[LLayeredCharters$State;" ∈ wsX4_remember := List.mem_of_getElem? (i := 2) rfl
theorem kX4_remember_12 : Cond.fieldLink RX4 12 "LayeredCharters" "now" "LLayeredCharters$State;" ∈ wsX4_remember := List.mem_of_getElem? (i := 15) rfl
set_option maxRecDepth 20000 in
theorem iX4_remember_X4 : ∀ w ∈ wsX40, w ∈ wsX4_remember := by decide +kernel
set_option maxRecDepth 20000 in
theorem iX4_remember_X3 : ∀ w ∈ wsX30, w ∈ wsX4_remember := by decide +kernel
set_option maxRecDepth 20000 in
theorem iX4_remember_X2 : ∀ w ∈ wsX20, w ∈ wsX4_remember := by decide +kernel
set_option maxRecDepth 20000 in
theorem iX4_remember_X0 : ∀ w ∈ wsX00, w ∈ wsX4_remember := by decide +kernel
theorem kX4_restore_23 : Cond.fieldLink RX4 23 "LayeredCharters" "slots" "[LLayeredCharters$State;" ∈ wsX4_restore := List.mem_of_getElem? (i := 1) rfl
theorem kX4_restore_12 : Cond.fieldLink RX4 12 "LayeredCharters" "now" "LLayeredCharters$State;" ∈ wsX4_restore := List.mem_of_getElem? (i := 2) rfl
theorem kX4_restore_52 : Cond.fieldLink RX4 52 "LayeredCharters$State" "rules" "LLayeredCharters$Rules;" ∈ wsX4_restore := List.mem_of_getElem? (i := 3) rfl
theorem kX4_restore_55 : Cond.fieldLink RX4 55 "LayeredCharters$Rules" "size" "I" ∈ wsX4_restore := List.mem_of_getElem? (i := 4) rfl
theorem kX4_restore_30 : Cond.fieldLink RX4 30 "LayeredCharters" "remembered" "I" ∈ wsX4_restore := List.mem_of_getElem? (i := 13) rfl
theorem kX4_restore_27 : Cond.fieldLink RX4 27 "LayeredCharters" "history" "[LLayeredCharters$State;" ∈ wsX4_restore := List.mem_of_getElem? (i := 14) rfl
set_option maxRecDepth 20000 in
theorem iX4_restore_X4 : ∀ w ∈ wsX40, w ∈ wsX4_restore := by decide +kernel
set_option maxRecDepth 20000 in
theorem iX4_restore_X3 : ∀ w ∈ wsX30, w ∈ wsX4_restore := by decide +kernel
set_option maxRecDepth 20000 in
theorem iX4_restore_X2 : ∀ w ∈ wsX20, w ∈ wsX4_restore := by decide +kernel
set_option maxRecDepth 20000 in
theorem iX4_restore_X0 : ∀ w ∈ wsX00, w ∈ wsX4_restore := by decide +kernel
theorem kX4_rule_12 : Cond.fieldLink RX4 12 "LayeredCharters" "now" "LLayeredCharters$State;" ∈ wsX4_rule := List.mem_of_getElem? (i := 1) rfl
theorem kX4_rule_52 : Cond.fieldLink RX4 52 "LayeredCharters$State" "rules" "LLayeredCharters$Rules;" ∈ wsX4_rule := List.mem_of_getElem? (i := 2) rfl
theorem kX4_rule_79 : Cond.fieldLink RX4 79 "LayeredCharters$Rules" "layers" "[I" ∈ wsX4_rule := List.mem_of_getElem? (i := 3) rfl
theorem kX4_rule_76 : Cond.fieldLink RX4 76 "LayeredCharters$Rules" "kinds" "[I" ∈ wsX4_rule := List.mem_of_getElem? (i := 4) rfl
theorem kX4_rule_142 : Cond.fieldLink RX4 142 "LayeredCharters$Rules" "crafts" "[I" ∈ wsX4_rule := List.mem_of_getElem? (i := 5) rfl
theorem kX4_rule_143 : Cond.fieldLink RX4 143 "LayeredCharters$Rules" "deeds" "[I" ∈ wsX4_rule := List.mem_of_getElem? (i := 6) rfl
theorem kX4_rule_72 : Cond.fieldLink RX4 72 "LayeredCharters$Rules" "seals" "[I" ∈ wsX4_rule := List.mem_of_getElem? (i := 7) rfl
theorem kX4_rule_157 : Cond.fieldLink RX4 157 "LayeredCharters$Rules" "pairs" "[I" ∈ wsX4_rule := List.mem_of_getElem? (i := 8) rfl
theorem kX4_rule_37 : Cond.fieldLink RX4 37 "LayeredCharters" "trial" "LLayeredCharters$Rules;" ∈ wsX4_rule := List.mem_of_getElem? (i := 55) rfl
set_option maxRecDepth 20000 in
theorem iX4_rule_X4 : ∀ w ∈ wsX40, w ∈ wsX4_rule := by decide +kernel
set_option maxRecDepth 20000 in
theorem iX4_rule_X3 : ∀ w ∈ wsX30, w ∈ wsX4_rule := by decide +kernel
set_option maxRecDepth 20000 in
theorem iX4_rule_X2 : ∀ w ∈ wsX20, w ∈ wsX4_rule := by decide +kernel
theorem kX4_save_23 : Cond.fieldLink RX4 23 "LayeredCharters" "slots" "[LLayeredCharters$State;" ∈ wsX4_save := List.mem_of_getElem? (i := 1) rfl
theorem kX4_save_12 : Cond.fieldLink RX4 12 "LayeredCharters" "now" "LLayeredCharters$State;" ∈ wsX4_save := List.mem_of_getElem? (i := 2) rfl
theorem kX4_save_52 : Cond.fieldLink RX4 52 "LayeredCharters$State" "rules" "LLayeredCharters$Rules;" ∈ wsX4_save := List.mem_of_getElem? (i := 3) rfl
theorem kX4_save_55 : Cond.fieldLink RX4 55 "LayeredCharters$Rules" "size" "I" ∈ wsX4_save := List.mem_of_getElem? (i := 4) rfl
set_option maxRecDepth 20000 in
theorem iX4_save_X4 : ∀ w ∈ wsX40, w ∈ wsX4_save := by decide +kernel
set_option maxRecDepth 20000 in
theorem iX4_save_X3 : ∀ w ∈ wsX30, w ∈ wsX4_save := by decide +kernel
set_option maxRecDepth 20000 in
theorem iX4_save_X2 : ∀ w ∈ wsX20, w ∈ wsX4_save := by decide +kernel
set_option maxRecDepth 20000 in
theorem iX4_save_X0 : ∀ w ∈ wsX00, w ∈ wsX4_save := by decide +kernel
theorem kX4_seal_12 : Cond.fieldLink RX4 12 "LayeredCharters" "now" "LLayeredCharters$State;" ∈ wsX4_seal := List.mem_of_getElem? (i := 1) rfl
theorem kX4_seal_52 : Cond.fieldLink RX4 52 "LayeredCharters$State" "rules" "LLayeredCharters$Rules;" ∈ wsX4_seal := List.mem_of_getElem? (i := 2) rfl
theorem kX4_seal_72 : Cond.fieldLink RX4 72 "LayeredCharters$Rules" "seals" "[I" ∈ wsX4_seal := List.mem_of_getElem? (i := 3) rfl
theorem kX4_seal_30 : Cond.fieldLink RX4 30 "LayeredCharters" "remembered" "I" ∈ wsX4_seal := List.mem_of_getElem? (i := 21) rfl
theorem kX4_seal_27 : Cond.fieldLink RX4 27 "LayeredCharters" "history" "[LLayeredCharters$State;" ∈ wsX4_seal := List.mem_of_getElem? (i := 22) rfl
set_option maxRecDepth 20000 in
theorem iX4_seal_X4 : ∀ w ∈ wsX40, w ∈ wsX4_seal := by decide +kernel
set_option maxRecDepth 20000 in
theorem iX4_seal_X3 : ∀ w ∈ wsX30, w ∈ wsX4_seal := by decide +kernel
set_option maxRecDepth 20000 in
theorem iX4_seal_X2 : ∀ w ∈ wsX20, w ∈ wsX4_seal := by decide +kernel
set_option maxRecDepth 20000 in
theorem iX4_seal_X0 : ∀ w ∈ wsX00, w ∈ wsX4_seal := by decide +kernel
theorem kX4_strike_12 : Cond.fieldLink RX4 12 "LayeredCharters" "now" "LLayeredCharters$State;" ∈ wsX4_strike := List.mem_of_getElem? (i := 1) rfl
theorem kX4_strike_52 : Cond.fieldLink RX4 52 "LayeredCharters$State" "rules" "LLayeredCharters$Rules;" ∈ wsX4_strike := List.mem_of_getElem? (i := 2) rfl
theorem kX4_strike_55 : Cond.fieldLink RX4 55 "LayeredCharters$Rules" "size" "I" ∈ wsX4_strike := List.mem_of_getElem? (i := 3) rfl
theorem kX4_strike_30 : Cond.fieldLink RX4 30 "LayeredCharters" "remembered" "I" ∈ wsX4_strike := List.mem_of_getElem? (i := 15) rfl
theorem kX4_strike_27 : Cond.fieldLink RX4 27 "LayeredCharters" "history" "[LLayeredCharters$State;" ∈ wsX4_strike := List.mem_of_getElem? (i := 16) rfl
set_option maxRecDepth 20000 in
theorem iX4_strike_X4 : ∀ w ∈ wsX40, w ∈ wsX4_strike := by decide +kernel
set_option maxRecDepth 20000 in
theorem iX4_strike_X3 : ∀ w ∈ wsX30, w ∈ wsX4_strike := by decide +kernel
set_option maxRecDepth 20000 in
theorem iX4_strike_X2 : ∀ w ∈ wsX20, w ∈ wsX4_strike := by decide +kernel
set_option maxRecDepth 20000 in
theorem iX4_strike_X0 : ∀ w ∈ wsX00, w ∈ wsX4_strike := by decide +kernel
theorem kX4_tidy_12 : Cond.fieldLink RX4 12 "LayeredCharters" "now" "LLayeredCharters$State;" ∈ wsX4_tidy := List.mem_of_getElem? (i := 1) rfl
theorem kX4_tidy_52 : Cond.fieldLink RX4 52 "LayeredCharters$State" "rules" "LLayeredCharters$Rules;" ∈ wsX4_tidy := List.mem_of_getElem? (i := 2) rfl
theorem kX4_tidy_30 : Cond.fieldLink RX4 30 "LayeredCharters" "remembered" "I" ∈ wsX4_tidy := List.mem_of_getElem? (i := 8) rfl
theorem kX4_tidy_27 : Cond.fieldLink RX4 27 "LayeredCharters" "history" "[LLayeredCharters$State;" ∈ wsX4_tidy := List.mem_of_getElem? (i := 9) rfl
theorem kX4_tidy_55 : Cond.fieldLink RX4 55 "LayeredCharters$Rules" "size" "I" ∈ wsX4_tidy := List.mem_of_getElem? (i := 81) rfl
theorem kX4_tidy_37 : Cond.fieldLink RX4 37 "LayeredCharters" "trial" "LLayeredCharters$Rules;" ∈ wsX4_tidy := List.mem_of_getElem? (i := 117) rfl
set_option maxRecDepth 20000 in
theorem iX4_tidy_X4 : ∀ w ∈ wsX40, w ∈ wsX4_tidy := by decide +kernel
set_option maxRecDepth 20000 in
theorem iX4_tidy_X3 : ∀ w ∈ wsX30, w ∈ wsX4_tidy := by decide +kernel
set_option maxRecDepth 20000 in
theorem iX4_tidy_X2 : ∀ w ∈ wsX20, w ∈ wsX4_tidy := by decide +kernel
set_option maxRecDepth 20000 in
theorem iX4_tidy_X0 : ∀ w ∈ wsX00, w ∈ wsX4_tidy := by decide +kernel
theorem kX4_triplesWithWaiver_37 : Cond.fieldLink RX4 37 "LayeredCharters" "trial" "LLayeredCharters$Rules;" ∈ wsX4_triplesWithWaiver := List.mem_of_getElem? (i := 1) rfl
theorem kX4_triplesWithWaiver_12 : Cond.fieldLink RX4 12 "LayeredCharters" "now" "LLayeredCharters$State;" ∈ wsX4_triplesWithWaiver := List.mem_of_getElem? (i := 2) rfl
theorem kX4_triplesWithWaiver_52 : Cond.fieldLink RX4 52 "LayeredCharters$State" "rules" "LLayeredCharters$Rules;" ∈ wsX4_triplesWithWaiver := List.mem_of_getElem? (i := 3) rfl
set_option maxRecDepth 20000 in
theorem iX4_triplesWithWaiver_X4 : ∀ w ∈ wsX40, w ∈ wsX4_triplesWithWaiver := by decide +kernel
set_option maxRecDepth 20000 in
theorem iX4_triplesWithWaiver_X3 : ∀ w ∈ wsX30, w ∈ wsX4_triplesWithWaiver := by decide +kernel
set_option maxRecDepth 20000 in
theorem iX4_triplesWithWaiver_X2 : ∀ w ∈ wsX20, w ∈ wsX4_triplesWithWaiver := by decide +kernel
theorem kX4_triplesWithout_37 : Cond.fieldLink RX4 37 "LayeredCharters" "trial" "LLayeredCharters$Rules;" ∈ wsX4_triplesWithout := List.mem_of_getElem? (i := 1) rfl
theorem kX4_triplesWithout_12 : Cond.fieldLink RX4 12 "LayeredCharters" "now" "LLayeredCharters$State;" ∈ wsX4_triplesWithout := List.mem_of_getElem? (i := 2) rfl
theorem kX4_triplesWithout_52 : Cond.fieldLink RX4 52 "LayeredCharters$State" "rules" "LLayeredCharters$Rules;" ∈ wsX4_triplesWithout := List.mem_of_getElem? (i := 3) rfl
set_option maxRecDepth 20000 in
theorem iX4_triplesWithout_X4 : ∀ w ∈ wsX40, w ∈ wsX4_triplesWithout := by decide +kernel
set_option maxRecDepth 20000 in
theorem iX4_triplesWithout_X3 : ∀ w ∈ wsX30, w ∈ wsX4_triplesWithout := by decide +kernel
set_option maxRecDepth 20000 in
theorem iX4_triplesWithout_X2 : ∀ w ∈ wsX20, w ∈ wsX4_triplesWithout := by decide +kernel
theorem kX4_undo_30 : Cond.fieldLink RX4 30 "LayeredCharters" "remembered" "I" ∈ wsX4_undo := List.mem_of_getElem? (i := 1) rfl
theorem kX4_undo_27 : Cond.fieldLink RX4 27 "LayeredCharters" "history" "[LLayeredCharters$State;" ∈ wsX4_undo := List.mem_of_getElem? (i := 2) rfl
theorem kX4_undo_12 : Cond.fieldLink RX4 12 "LayeredCharters" "now" "LLayeredCharters$State;" ∈ wsX4_undo := List.mem_of_getElem? (i := 3) rfl
set_option maxRecDepth 20000 in
theorem iX4_undo_X4 : ∀ w ∈ wsX40, w ∈ wsX4_undo := by decide +kernel
set_option maxRecDepth 20000 in
theorem iX4_undo_X3 : ∀ w ∈ wsX30, w ∈ wsX4_undo := by decide +kernel
set_option maxRecDepth 20000 in
theorem iX4_undo_X2 : ∀ w ∈ wsX20, w ∈ wsX4_undo := by decide +kernel
set_option maxRecDepth 20000 in
theorem iX4_undo_X0 : ∀ w ∈ wsX00, w ∈ wsX4_undo := by decide +kernel
theorem kX4_why_12 : Cond.fieldLink RX4 12 "LayeredCharters" "now" "LLayeredCharters$State;" ∈ wsX4_why := List.mem_of_getElem? (i := 1) rfl
theorem kX4_why_52 : Cond.fieldLink RX4 52 "LayeredCharters$State" "rules" "LLayeredCharters$Rules;" ∈ wsX4_why := List.mem_of_getElem? (i := 2) rfl
set_option maxRecDepth 20000 in
theorem iX4_why_X4 : ∀ w ∈ wsX40, w ∈ wsX4_why := by decide +kernel
set_option maxRecDepth 20000 in
theorem iX4_why_X3 : ∀ w ∈ wsX30, w ∈ wsX4_why := by decide +kernel
set_option maxRecDepth 20000 in
theorem iX4_why_X2 : ∀ w ∈ wsX20, w ∈ wsX4_why := by decide +kernel
theorem kX4_wipe_19 : Cond.fieldLink RX4 19 "LayeredCharters" "pad" "LLayeredCharters$Pad;" ∈ wsX4_wipe := List.mem_of_getElem? (i := 1) rfl
theorem kX4_wipe_189 : Cond.fieldLink RX4 189 "LayeredCharters$Pad" "length" "I" ∈ wsX4_wipe := List.mem_of_getElem? (i := 2) rfl
set_option maxRecDepth 20000 in
theorem iX4_wipe_X4 : ∀ w ∈ wsX40, w ∈ wsX4_wipe := by decide +kernel
set_option maxRecDepth 20000 in
theorem iX4_wipe_X1 : ∀ w ∈ wsX10, w ∈ wsX4_wipe := by decide +kernel
theorem kX4_worstBan_12 : Cond.fieldLink RX4 12 "LayeredCharters" "now" "LLayeredCharters$State;" ∈ wsX4_worstBan := List.mem_of_getElem? (i := 1) rfl
theorem kX4_worstBan_52 : Cond.fieldLink RX4 52 "LayeredCharters$State" "rules" "LLayeredCharters$Rules;" ∈ wsX4_worstBan := List.mem_of_getElem? (i := 2) rfl
theorem kX4_worstBan_55 : Cond.fieldLink RX4 55 "LayeredCharters$Rules" "size" "I" ∈ wsX4_worstBan := List.mem_of_getElem? (i := 3) rfl
theorem kX4_worstBan_76 : Cond.fieldLink RX4 76 "LayeredCharters$Rules" "kinds" "[I" ∈ wsX4_worstBan := List.mem_of_getElem? (i := 4) rfl
theorem kX4_worstBan_37 : Cond.fieldLink RX4 37 "LayeredCharters" "trial" "LLayeredCharters$Rules;" ∈ wsX4_worstBan := List.mem_of_getElem? (i := 10) rfl
set_option maxRecDepth 20000 in
theorem iX4_worstBan_X4 : ∀ w ∈ wsX40, w ∈ wsX4_worstBan := by decide +kernel
set_option maxRecDepth 20000 in
theorem iX4_worstBan_X3 : ∀ w ∈ wsX30, w ∈ wsX4_worstBan := by decide +kernel
set_option maxRecDepth 20000 in
theorem iX4_worstBan_X2 : ∀ w ∈ wsX20, w ∈ wsX4_worstBan := by decide +kernel
theorem kX5_act_7 : Cond.fieldLink RX5 7 "LayeredChartersModel" "s" "[I" ∈ wsX5_act := List.mem_of_getElem? (i := 1) rfl
theorem kX5_act_37 : Cond.fieldLink RX5 37 "LayeredChartersModel" "kept" "I" ∈ wsX5_act := List.mem_of_getElem? (i := 14) rfl
theorem kX5_act_13 : Cond.fieldLink RX5 13 "LayeredChartersModel" "history" "[I" ∈ wsX5_act := List.mem_of_getElem? (i := 15) rfl
theorem kX5_act_26 : Cond.fieldLink RX5 26 "LayeredChartersModel" "strong" "[I" ∈ wsX5_act := List.mem_of_getElem? (i := 23) rfl
set_option maxRecDepth 20000 in
theorem iX5_act_X5 : ∀ w ∈ wsX50, w ∈ wsX5_act := by decide +kernel
theorem kX5_add_7 : Cond.fieldLink RX5 7 "LayeredChartersModel" "s" "[I" ∈ wsX5_add := List.mem_of_getElem? (i := 1) rfl
theorem kX5_add_37 : Cond.fieldLink RX5 37 "LayeredChartersModel" "kept" "I" ∈ wsX5_add := List.mem_of_getElem? (i := 10) rfl
theorem kX5_add_13 : Cond.fieldLink RX5 13 "LayeredChartersModel" "history" "[I" ∈ wsX5_add := List.mem_of_getElem? (i := 11) rfl
set_option maxRecDepth 20000 in
theorem iX5_add_X5 : ∀ w ∈ wsX50, w ∈ wsX5_add := by decide +kernel
theorem kX5_adds_7 : Cond.fieldLink RX5 7 "LayeredChartersModel" "s" "[I" ∈ wsX5_adds := List.mem_of_getElem? (i := 1) rfl
set_option maxRecDepth 20000 in
theorem iX5_adds_X5 : ∀ w ∈ wsX50, w ∈ wsX5_adds := by decide +kernel
theorem kX5_allowed_7 : Cond.fieldLink RX5 7 "LayeredChartersModel" "s" "[I" ∈ wsX5_allowed := List.mem_of_getElem? (i := 16) rfl
theorem kX5_allowed_26 : Cond.fieldLink RX5 26 "LayeredChartersModel" "strong" "[I" ∈ wsX5_allowed := List.mem_of_getElem? (i := 17) rfl
set_option maxRecDepth 20000 in
theorem iX5_allowed_X5 : ∀ w ∈ wsX50, w ∈ wsX5_allowed := by decide +kernel
theorem kX5_areAtOdds_7 : Cond.fieldLink RX5 7 "LayeredChartersModel" "s" "[I" ∈ wsX5_areAtOdds := List.mem_of_getElem? (i := 6) rfl
set_option maxRecDepth 20000 in
theorem iX5_areAtOdds_X5 : ∀ w ∈ wsX50, w ∈ wsX5_areAtOdds := by decide +kernel
theorem kX5_bestWaiver_7 : Cond.fieldLink RX5 7 "LayeredChartersModel" "s" "[I" ∈ wsX5_bestWaiver := List.mem_of_getElem? (i := 13) rfl
theorem kX5_bestWaiver_26 : Cond.fieldLink RX5 26 "LayeredChartersModel" "strong" "[I" ∈ wsX5_bestWaiver := List.mem_of_getElem? (i := 14) rfl
set_option maxRecDepth 20000 in
theorem iX5_bestWaiver_X5 : ∀ w ∈ wsX50, w ∈ wsX5_bestWaiver := by decide +kernel
theorem kX5_count_7 : Cond.fieldLink RX5 7 "LayeredChartersModel" "s" "[I" ∈ wsX5_count := List.mem_of_getElem? (i := 1) rfl
theorem kX5_count_118 : Cond.fieldLink RX5 118 "LayeredChartersModel" "length" "I" ∈ wsX5_count := List.mem_of_getElem? (i := 2) rfl
theorem kX5_count_37 : Cond.fieldLink RX5 37 "LayeredChartersModel" "kept" "I" ∈ wsX5_count := List.mem_of_getElem? (i := 3) rfl
theorem kX5_count_26 : Cond.fieldLink RX5 26 "LayeredChartersModel" "strong" "[I" ∈ wsX5_count := List.mem_of_getElem? (i := 36) rfl
set_option maxRecDepth 20000 in
theorem iX5_count_X5 : ∀ w ∈ wsX50, w ∈ wsX5_count := by decide +kernel
theorem kX5_fault_129 : Cond.fieldLink RX5 129 "LayeredChartersModel" "told" "I" ∈ wsX5_fault := List.mem_of_getElem? (i := 6) rfl
theorem kX5_fault_118 : Cond.fieldLink RX5 118 "LayeredChartersModel" "length" "I" ∈ wsX5_fault := List.mem_of_getElem? (i := 7) rfl
theorem kX5_fault_23 : Cond.fieldLink RX5 23 "LayeredChartersModel" "pad" "[I" ∈ wsX5_fault := List.mem_of_getElem? (i := 8) rfl
set_option maxRecDepth 20000 in
theorem iX5_fault_X5 : ∀ w ∈ wsX50, w ∈ wsX5_fault := by decide +kernel
theorem kX5_firstIdle_7 : Cond.fieldLink RX5 7 "LayeredChartersModel" "s" "[I" ∈ wsX5_firstIdle := List.mem_of_getElem? (i := 1) rfl
theorem kX5_firstIdle_26 : Cond.fieldLink RX5 26 "LayeredChartersModel" "strong" "[I" ∈ wsX5_firstIdle := List.mem_of_getElem? (i := 15) rfl
set_option maxRecDepth 20000 in
theorem iX5_firstIdle_X5 : ∀ w ∈ wsX50, w ∈ wsX5_firstIdle := by decide +kernel
theorem kX5_fits_7 : Cond.fieldLink RX5 7 "LayeredChartersModel" "s" "[I" ∈ wsX5_fits := List.mem_of_getElem? (i := 6) rfl
set_option maxRecDepth 20000 in
theorem iX5_fits_X5 : ∀ w ∈ wsX50, w ∈ wsX5_fits := by decide +kernel
theorem kX5_ifStruck_7 : Cond.fieldLink RX5 7 "LayeredChartersModel" "s" "[I" ∈ wsX5_ifStruck := List.mem_of_getElem? (i := 6) rfl
theorem kX5_ifStruck_26 : Cond.fieldLink RX5 26 "LayeredChartersModel" "strong" "[I" ∈ wsX5_ifStruck := List.mem_of_getElem? (i := 18) rfl
set_option maxRecDepth 20000 in
theorem iX5_ifStruck_X5 : ∀ w ∈ wsX50, w ∈ wsX5_ifStruck := by decide +kernel
theorem kX5_init_7 : Cond.fieldLink RX5 7 "LayeredChartersModel" "s" "[I" ∈ wsX5_init := List.mem_of_getElem? (i := 5) rfl
theorem kX5_init_13 : Cond.fieldLink RX5 13 "LayeredChartersModel" "history" "[I" ∈ wsX5_init := List.mem_of_getElem? (i := 6) rfl
theorem kX5_init_16 : Cond.fieldLink RX5 16 "LayeredChartersModel" "slots" "[I" ∈ wsX5_init := List.mem_of_getElem? (i := 7) rfl
theorem kX5_init_19 : Cond.fieldLink RX5 19 "LayeredChartersModel" "isSaved" "[Z" ∈ wsX5_init := List.mem_of_getElem? (i := 9) rfl
theorem kX5_init_23 : Cond.fieldLink RX5 23 "LayeredChartersModel" "pad" "[I" ∈ wsX5_init := List.mem_of_getElem? (i := 10) rfl
theorem kX5_init_26 : Cond.fieldLink RX5 26 "LayeredChartersModel" "strong" "[I" ∈ wsX5_init := List.mem_of_getElem? (i := 11) rfl
set_option maxRecDepth 20000 in
theorem iX5_init_X5 : ∀ w ∈ wsX50, w ∈ wsX5_init := by decide +kernel
theorem kX5_isIdle_7 : Cond.fieldLink RX5 7 "LayeredChartersModel" "s" "[I" ∈ wsX5_isIdle := List.mem_of_getElem? (i := 10) rfl
theorem kX5_isIdle_26 : Cond.fieldLink RX5 26 "LayeredChartersModel" "strong" "[I" ∈ wsX5_isIdle := List.mem_of_getElem? (i := 11) rfl
set_option maxRecDepth 20000 in
theorem iX5_isIdle_X5 : ∀ w ∈ wsX50, w ∈ wsX5_isIdle := by decide +kernel
theorem kX5_isMember_7 : Cond.fieldLink RX5 7 "LayeredChartersModel" "s" "[I" ∈ wsX5_isMember := List.mem_of_getElem? (i := 1) rfl
set_option maxRecDepth 20000 in
theorem iX5_isMember_X5 : ∀ w ∈ wsX50, w ∈ wsX5_isMember := by decide +kernel
theorem kX5_isPermitted_7 : Cond.fieldLink RX5 7 "LayeredChartersModel" "s" "[I" ∈ wsX5_isPermitted := List.mem_of_getElem? (i := 1) rfl
set_option maxRecDepth 20000 in
theorem iX5_isPermitted_X5 : ∀ w ∈ wsX50, w ∈ wsX5_isPermitted := by decide +kernel
theorem kX5_isRule_7 : Cond.fieldLink RX5 7 "LayeredChartersModel" "s" "[I" ∈ wsX5_isRule := List.mem_of_getElem? (i := 1) rfl
set_option maxRecDepth 20000 in
theorem iX5_isRule_X5 : ∀ w ∈ wsX50, w ∈ wsX5_isRule := by decide +kernel
theorem kX5_join_7 : Cond.fieldLink RX5 7 "LayeredChartersModel" "s" "[I" ∈ wsX5_join := List.mem_of_getElem? (i := 1) rfl
theorem kX5_join_37 : Cond.fieldLink RX5 37 "LayeredChartersModel" "kept" "I" ∈ wsX5_join := List.mem_of_getElem? (i := 10) rfl
theorem kX5_join_13 : Cond.fieldLink RX5 13 "LayeredChartersModel" "history" "[I" ∈ wsX5_join := List.mem_of_getElem? (i := 11) rfl
set_option maxRecDepth 20000 in
theorem iX5_join_X5 : ∀ w ∈ wsX50, w ∈ wsX5_join := by decide +kernel
theorem kX5_layStrong_26 : Cond.fieldLink RX5 26 "LayeredChartersModel" "strong" "[I" ∈ wsX5_layStrong := List.mem_of_getElem? (i := 1) rfl
theorem kX5_layStrong_7 : Cond.fieldLink RX5 7 "LayeredChartersModel" "s" "[I" ∈ wsX5_layStrong := List.mem_of_getElem? (i := 2) rfl
set_option maxRecDepth 20000 in
theorem iX5_layStrong_X5 : ∀ w ∈ wsX50, w ∈ wsX5_layStrong := by decide +kernel
theorem kX5_lays_7 : Cond.fieldLink RX5 7 "LayeredChartersModel" "s" "[I" ∈ wsX5_lays := List.mem_of_getElem? (i := 1) rfl
theorem kX5_lays_37 : Cond.fieldLink RX5 37 "LayeredChartersModel" "kept" "I" ∈ wsX5_lays := List.mem_of_getElem? (i := 7) rfl
theorem kX5_lays_13 : Cond.fieldLink RX5 13 "LayeredChartersModel" "history" "[I" ∈ wsX5_lays := List.mem_of_getElem? (i := 8) rfl
set_option maxRecDepth 20000 in
theorem iX5_lays_X5 : ∀ w ∈ wsX50, w ∈ wsX5_lays := by decide +kernel
theorem kX5_least_7 : Cond.fieldLink RX5 7 "LayeredChartersModel" "s" "[I" ∈ wsX5_least := List.mem_of_getElem? (i := 1) rfl
theorem kX5_least_26 : Cond.fieldLink RX5 26 "LayeredChartersModel" "strong" "[I" ∈ wsX5_least := List.mem_of_getElem? (i := 2) rfl
set_option maxRecDepth 20000 in
theorem iX5_least_X5 : ∀ w ∈ wsX50, w ∈ wsX5_least := by decide +kernel
theorem kX5_leastNow_7 : Cond.fieldLink RX5 7 "LayeredChartersModel" "s" "[I" ∈ wsX5_leastNow := List.mem_of_getElem? (i := 6) rfl
theorem kX5_leastNow_26 : Cond.fieldLink RX5 26 "LayeredChartersModel" "strong" "[I" ∈ wsX5_leastNow := List.mem_of_getElem? (i := 7) rfl
set_option maxRecDepth 20000 in
theorem iX5_leastNow_X5 : ∀ w ∈ wsX50, w ∈ wsX5_leastNow := by decide +kernel
theorem kX5_leastRank_7 : Cond.fieldLink RX5 7 "LayeredChartersModel" "s" "[I" ∈ wsX5_leastRank := List.mem_of_getElem? (i := 16) rfl
theorem kX5_leastRank_26 : Cond.fieldLink RX5 26 "LayeredChartersModel" "strong" "[I" ∈ wsX5_leastRank := List.mem_of_getElem? (i := 17) rfl
set_option maxRecDepth 20000 in
theorem iX5_leastRank_X5 : ∀ w ∈ wsX50, w ∈ wsX5_leastRank := by decide +kernel
theorem kX5_leave_7 : Cond.fieldLink RX5 7 "LayeredChartersModel" "s" "[I" ∈ wsX5_leave := List.mem_of_getElem? (i := 1) rfl
theorem kX5_leave_37 : Cond.fieldLink RX5 37 "LayeredChartersModel" "kept" "I" ∈ wsX5_leave := List.mem_of_getElem? (i := 14) rfl
theorem kX5_leave_13 : Cond.fieldLink RX5 13 "LayeredChartersModel" "history" "[I" ∈ wsX5_leave := List.mem_of_getElem? (i := 15) rfl
set_option maxRecDepth 20000 in
theorem iX5_leave_X5 : ∀ w ∈ wsX50, w ∈ wsX5_leave := by decide +kernel
theorem kX5_mayDo_7 : Cond.fieldLink RX5 7 "LayeredChartersModel" "s" "[I" ∈ wsX5_mayDo := List.mem_of_getElem? (i := 1) rfl
theorem kX5_mayDo_26 : Cond.fieldLink RX5 26 "LayeredChartersModel" "strong" "[I" ∈ wsX5_mayDo := List.mem_of_getElem? (i := 14) rfl
set_option maxRecDepth 20000 in
theorem iX5_mayDo_X5 : ∀ w ∈ wsX50, w ∈ wsX5_mayDo := by decide +kernel
theorem kX5_member_7 : Cond.fieldLink RX5 7 "LayeredChartersModel" "s" "[I" ∈ wsX5_member := List.mem_of_getElem? (i := 1) rfl
theorem kX5_member_26 : Cond.fieldLink RX5 26 "LayeredChartersModel" "strong" "[I" ∈ wsX5_member := List.mem_of_getElem? (i := 25) rfl
set_option maxRecDepth 20000 in
theorem iX5_member_X5 : ∀ w ∈ wsX50, w ∈ wsX5_member := by decide +kernel
theorem kX5_move_7 : Cond.fieldLink RX5 7 "LayeredChartersModel" "s" "[I" ∈ wsX5_move := List.mem_of_getElem? (i := 6) rfl
theorem kX5_move_37 : Cond.fieldLink RX5 37 "LayeredChartersModel" "kept" "I" ∈ wsX5_move := List.mem_of_getElem? (i := 25) rfl
theorem kX5_move_13 : Cond.fieldLink RX5 13 "LayeredChartersModel" "history" "[I" ∈ wsX5_move := List.mem_of_getElem? (i := 26) rfl
set_option maxRecDepth 20000 in
theorem iX5_move_X5 : ∀ w ∈ wsX50, w ∈ wsX5_move := by decide +kernel
theorem kX5_next_118 : Cond.fieldLink RX5 118 "LayeredChartersModel" "length" "I" ∈ wsX5_next := List.mem_of_getElem? (i := 1) rfl
theorem kX5_next_23 : Cond.fieldLink RX5 23 "LayeredChartersModel" "pad" "[I" ∈ wsX5_next := List.mem_of_getElem? (i := 2) rfl
set_option maxRecDepth 20000 in
theorem iX5_next_X5 : ∀ w ∈ wsX50, w ∈ wsX5_next := by decide +kernel
theorem kX5_oddsOf_7 : Cond.fieldLink RX5 7 "LayeredChartersModel" "s" "[I" ∈ wsX5_oddsOf := List.mem_of_getElem? (i := 1) rfl
set_option maxRecDepth 20000 in
theorem iX5_oddsOf_X5 : ∀ w ∈ wsX50, w ∈ wsX5_oddsOf := by decide +kernel
theorem kX5_of_7 : Cond.fieldLink RX5 7 "LayeredChartersModel" "s" "[I" ∈ wsX5_of := List.mem_of_getElem? (i := 1) rfl
set_option maxRecDepth 20000 in
theorem iX5_of_X5 : ∀ w ∈ wsX50, w ∈ wsX5_of := by decide +kernel
theorem kX5_put_118 : Cond.fieldLink RX5 118 "LayeredChartersModel" "length" "I" ∈ wsX5_put := List.mem_of_getElem? (i := 2) rfl
theorem kX5_put_23 : Cond.fieldLink RX5 23 "LayeredChartersModel" "pad" "[I" ∈ wsX5_put := List.mem_of_getElem? (i := 3) rfl
set_option maxRecDepth 20000 in
theorem iX5_put_X5 : ∀ w ∈ wsX50, w ∈ wsX5_put := by decide +kernel
theorem kX5_rank_7 : Cond.fieldLink RX5 7 "LayeredChartersModel" "s" "[I" ∈ wsX5_rank := List.mem_of_getElem? (i := 6) rfl
theorem kX5_rank_37 : Cond.fieldLink RX5 37 "LayeredChartersModel" "kept" "I" ∈ wsX5_rank := List.mem_of_getElem? (i := 21) rfl
theorem kX5_rank_13 : Cond.fieldLink RX5 13 "LayeredChartersModel" "history" "[I" ∈ wsX5_rank := List.mem_of_getElem? (i := 22) rfl
set_option maxRecDepth 20000 in
theorem iX5_rank_X5 : ∀ w ∈ wsX50, w ∈ wsX5_rank := by decide +kernel
theorem kX5_read_7 : Cond.fieldLink RX5 7 "LayeredChartersModel" "s" "[I" ∈ wsX5_read := List.mem_of_getElem? (i := 1) rfl
theorem kX5_read_129 : Cond.fieldLink RX5 129 "LayeredChartersModel" "told" "I" ∈ wsX5_read := List.mem_of_getElem? (i := 2) rfl
theorem kX5_read_118 : Cond.fieldLink RX5 118 "LayeredChartersModel" "length" "I" ∈ wsX5_read := List.mem_of_getElem? (i := 3) rfl
theorem kX5_read_23 : Cond.fieldLink RX5 23 "LayeredChartersModel" "pad" "[I" ∈ wsX5_read := List.mem_of_getElem? (i := 9) rfl
theorem kX5_read_37 : Cond.fieldLink RX5 37 "LayeredChartersModel" "kept" "I" ∈ wsX5_read := List.mem_of_getElem? (i := 32) rfl
theorem kX5_read_13 : Cond.fieldLink RX5 13 "LayeredChartersModel" "history" "[I" ∈ wsX5_read := List.mem_of_getElem? (i := 33) rfl
set_option maxRecDepth 20000 in
theorem iX5_read_X5 : ∀ w ∈ wsX50, w ∈ wsX5_read := by decide +kernel
theorem kX5_reason_7 : Cond.fieldLink RX5 7 "LayeredChartersModel" "s" "[I" ∈ wsX5_reason := List.mem_of_getElem? (i := 1) rfl
theorem kX5_reason_26 : Cond.fieldLink RX5 26 "LayeredChartersModel" "strong" "[I" ∈ wsX5_reason := List.mem_of_getElem? (i := 2) rfl
set_option maxRecDepth 20000 in
theorem iX5_reason_X5 : ∀ w ∈ wsX50, w ∈ wsX5_reason := by decide +kernel
theorem kX5_record_37 : Cond.fieldLink RX5 37 "LayeredChartersModel" "kept" "I" ∈ wsX5_record := List.mem_of_getElem? (i := 1) rfl
theorem kX5_record_13 : Cond.fieldLink RX5 13 "LayeredChartersModel" "history" "[I" ∈ wsX5_record := List.mem_of_getElem? (i := 2) rfl
theorem kX5_record_7 : Cond.fieldLink RX5 7 "LayeredChartersModel" "s" "[I" ∈ wsX5_record := List.mem_of_getElem? (i := 3) rfl
set_option maxRecDepth 20000 in
theorem iX5_record_X5 : ∀ w ∈ wsX50, w ∈ wsX5_record := by decide +kernel
theorem kX5_restore_19 : Cond.fieldLink RX5 19 "LayeredChartersModel" "isSaved" "[Z" ∈ wsX5_restore := List.mem_of_getElem? (i := 1) rfl
theorem kX5_restore_7 : Cond.fieldLink RX5 7 "LayeredChartersModel" "s" "[I" ∈ wsX5_restore := List.mem_of_getElem? (i := 2) rfl
theorem kX5_restore_16 : Cond.fieldLink RX5 16 "LayeredChartersModel" "slots" "[I" ∈ wsX5_restore := List.mem_of_getElem? (i := 3) rfl
theorem kX5_restore_37 : Cond.fieldLink RX5 37 "LayeredChartersModel" "kept" "I" ∈ wsX5_restore := List.mem_of_getElem? (i := 12) rfl
theorem kX5_restore_13 : Cond.fieldLink RX5 13 "LayeredChartersModel" "history" "[I" ∈ wsX5_restore := List.mem_of_getElem? (i := 13) rfl
set_option maxRecDepth 20000 in
theorem iX5_restore_X5 : ∀ w ∈ wsX50, w ∈ wsX5_restore := by decide +kernel
theorem kX5_right_118 : Cond.fieldLink RX5 118 "LayeredChartersModel" "length" "I" ∈ wsX5_right := List.mem_of_getElem? (i := 6) rfl
theorem kX5_right_23 : Cond.fieldLink RX5 23 "LayeredChartersModel" "pad" "[I" ∈ wsX5_right := List.mem_of_getElem? (i := 7) rfl
set_option maxRecDepth 20000 in
theorem iX5_right_X5 : ∀ w ∈ wsX50, w ∈ wsX5_right := by decide +kernel
theorem kX5_rule_7 : Cond.fieldLink RX5 7 "LayeredChartersModel" "s" "[I" ∈ wsX5_rule := List.mem_of_getElem? (i := 6) rfl
theorem kX5_rule_26 : Cond.fieldLink RX5 26 "LayeredChartersModel" "strong" "[I" ∈ wsX5_rule := List.mem_of_getElem? (i := 22) rfl
set_option maxRecDepth 20000 in
theorem iX5_rule_X5 : ∀ w ∈ wsX50, w ∈ wsX5_rule := by decide +kernel
theorem kX5_save_16 : Cond.fieldLink RX5 16 "LayeredChartersModel" "slots" "[I" ∈ wsX5_save := List.mem_of_getElem? (i := 1) rfl
theorem kX5_save_7 : Cond.fieldLink RX5 7 "LayeredChartersModel" "s" "[I" ∈ wsX5_save := List.mem_of_getElem? (i := 2) rfl
theorem kX5_save_19 : Cond.fieldLink RX5 19 "LayeredChartersModel" "isSaved" "[Z" ∈ wsX5_save := List.mem_of_getElem? (i := 3) rfl
set_option maxRecDepth 20000 in
theorem iX5_save_X5 : ∀ w ∈ wsX50, w ∈ wsX5_save := by decide +kernel
theorem kX5_seal_7 : Cond.fieldLink RX5 7 "LayeredChartersModel" "s" "[I" ∈ wsX5_seal := List.mem_of_getElem? (i := 6) rfl
theorem kX5_seal_37 : Cond.fieldLink RX5 37 "LayeredChartersModel" "kept" "I" ∈ wsX5_seal := List.mem_of_getElem? (i := 21) rfl
theorem kX5_seal_13 : Cond.fieldLink RX5 13 "LayeredChartersModel" "history" "[I" ∈ wsX5_seal := List.mem_of_getElem? (i := 22) rfl
set_option maxRecDepth 20000 in
theorem iX5_seal_X5 : ∀ w ∈ wsX50, w ∈ wsX5_seal := by decide +kernel
theorem kX5_strike_7 : Cond.fieldLink RX5 7 "LayeredChartersModel" "s" "[I" ∈ wsX5_strike := List.mem_of_getElem? (i := 1) rfl
theorem kX5_strike_37 : Cond.fieldLink RX5 37 "LayeredChartersModel" "kept" "I" ∈ wsX5_strike := List.mem_of_getElem? (i := 14) rfl
theorem kX5_strike_13 : Cond.fieldLink RX5 13 "LayeredChartersModel" "history" "[I" ∈ wsX5_strike := List.mem_of_getElem? (i := 15) rfl
set_option maxRecDepth 20000 in
theorem iX5_strike_X5 : ∀ w ∈ wsX50, w ∈ wsX5_strike := by decide +kernel
theorem kX5_strikes_7 : Cond.fieldLink RX5 7 "LayeredChartersModel" "s" "[I" ∈ wsX5_strikes := List.mem_of_getElem? (i := 1) rfl
set_option maxRecDepth 20000 in
theorem iX5_strikes_X5 : ∀ w ∈ wsX50, w ∈ wsX5_strikes := by decide +kernel
theorem kX5_sumOf_7 : Cond.fieldLink RX5 7 "LayeredChartersModel" "s" "[I" ∈ wsX5_sumOf := List.mem_of_getElem? (i := 1) rfl
theorem kX5_sumOf_26 : Cond.fieldLink RX5 26 "LayeredChartersModel" "strong" "[I" ∈ wsX5_sumOf := List.mem_of_getElem? (i := 30) rfl
set_option maxRecDepth 20000 in
theorem iX5_sumOf_X5 : ∀ w ∈ wsX50, w ∈ wsX5_sumOf := by decide +kernel
theorem kX5_tidy_37 : Cond.fieldLink RX5 37 "LayeredChartersModel" "kept" "I" ∈ wsX5_tidy := List.mem_of_getElem? (i := 6) rfl
theorem kX5_tidy_13 : Cond.fieldLink RX5 13 "LayeredChartersModel" "history" "[I" ∈ wsX5_tidy := List.mem_of_getElem? (i := 7) rfl
theorem kX5_tidy_7 : Cond.fieldLink RX5 7 "LayeredChartersModel" "s" "[I" ∈ wsX5_tidy := List.mem_of_getElem? (i := 8) rfl
theorem kX5_tidy_26 : Cond.fieldLink RX5 26 "LayeredChartersModel" "strong" "[I" ∈ wsX5_tidy := List.mem_of_getElem? (i := 25) rfl
set_option maxRecDepth 20000 in
theorem iX5_tidy_X5 : ∀ w ∈ wsX50, w ∈ wsX5_tidy := by decide +kernel
theorem kX5_triples_7 : Cond.fieldLink RX5 7 "LayeredChartersModel" "s" "[I" ∈ wsX5_triples := List.mem_of_getElem? (i := 6) rfl
theorem kX5_triples_26 : Cond.fieldLink RX5 26 "LayeredChartersModel" "strong" "[I" ∈ wsX5_triples := List.mem_of_getElem? (i := 7) rfl
set_option maxRecDepth 20000 in
theorem iX5_triples_X5 : ∀ w ∈ wsX50, w ∈ wsX5_triples := by decide +kernel
theorem kX5_triplesNow_7 : Cond.fieldLink RX5 7 "LayeredChartersModel" "s" "[I" ∈ wsX5_triplesNow := List.mem_of_getElem? (i := 10) rfl
theorem kX5_triplesNow_26 : Cond.fieldLink RX5 26 "LayeredChartersModel" "strong" "[I" ∈ wsX5_triplesNow := List.mem_of_getElem? (i := 11) rfl
set_option maxRecDepth 20000 in
theorem iX5_triplesNow_X5 : ∀ w ∈ wsX50, w ∈ wsX5_triplesNow := by decide +kernel
theorem kX5_undo_37 : Cond.fieldLink RX5 37 "LayeredChartersModel" "kept" "I" ∈ wsX5_undo := List.mem_of_getElem? (i := 1) rfl
theorem kX5_undo_7 : Cond.fieldLink RX5 7 "LayeredChartersModel" "s" "[I" ∈ wsX5_undo := List.mem_of_getElem? (i := 2) rfl
theorem kX5_undo_13 : Cond.fieldLink RX5 13 "LayeredChartersModel" "history" "[I" ∈ wsX5_undo := List.mem_of_getElem? (i := 3) rfl
set_option maxRecDepth 20000 in
theorem iX5_undo_X5 : ∀ w ∈ wsX50, w ∈ wsX5_undo := by decide +kernel
theorem kX5_whole_118 : Cond.fieldLink RX5 118 "LayeredChartersModel" "length" "I" ∈ wsX5_whole := List.mem_of_getElem? (i := 6) rfl
theorem kX5_whole_23 : Cond.fieldLink RX5 23 "LayeredChartersModel" "pad" "[I" ∈ wsX5_whole := List.mem_of_getElem? (i := 7) rfl
set_option maxRecDepth 20000 in
theorem iX5_whole_X5 : ∀ w ∈ wsX50, w ∈ wsX5_whole := by decide +kernel
theorem kX5_why_7 : Cond.fieldLink RX5 7 "LayeredChartersModel" "s" "[I" ∈ wsX5_why := List.mem_of_getElem? (i := 12) rfl
theorem kX5_why_26 : Cond.fieldLink RX5 26 "LayeredChartersModel" "strong" "[I" ∈ wsX5_why := List.mem_of_getElem? (i := 13) rfl
set_option maxRecDepth 20000 in
theorem iX5_why_X5 : ∀ w ∈ wsX50, w ∈ wsX5_why := by decide +kernel
theorem kX5_wipe_118 : Cond.fieldLink RX5 118 "LayeredChartersModel" "length" "I" ∈ wsX5_wipe := List.mem_of_getElem? (i := 1) rfl
set_option maxRecDepth 20000 in
theorem iX5_wipe_X5 : ∀ w ∈ wsX50, w ∈ wsX5_wipe := by decide +kernel
theorem kX5_worstBan_7 : Cond.fieldLink RX5 7 "LayeredChartersModel" "s" "[I" ∈ wsX5_worstBan := List.mem_of_getElem? (i := 1) rfl
theorem kX5_worstBan_26 : Cond.fieldLink RX5 26 "LayeredChartersModel" "strong" "[I" ∈ wsX5_worstBan := List.mem_of_getElem? (i := 18) rfl
set_option maxRecDepth 20000 in
theorem iX5_worstBan_X5 : ∀ w ∈ wsX50, w ∈ wsX5_worstBan := by decide +kernel
theorem kX5_wrong_129 : Cond.fieldLink RX5 129 "LayeredChartersModel" "told" "I" ∈ wsX5_wrong := List.mem_of_getElem? (i := 1) rfl
theorem kX5_wrong_118 : Cond.fieldLink RX5 118 "LayeredChartersModel" "length" "I" ∈ wsX5_wrong := List.mem_of_getElem? (i := 2) rfl
theorem kX5_wrong_23 : Cond.fieldLink RX5 23 "LayeredChartersModel" "pad" "[I" ∈ wsX5_wrong := List.mem_of_getElem? (i := 3) rfl
set_option maxRecDepth 20000 in
theorem iX5_wrong_X5 : ∀ w ∈ wsX50, w ∈ wsX5_wrong := by decide +kernel
end
section
/-! What the charter means, in plain numbers: a table T of rules (T j w: rule j's layer 0, kind 1, craft 2, deed 3, seal 4), n of them. -/
def bt (x : Int32) (i : Nat) : Bool := x.toBitVec.getLsbD i
theorem b_ext {x y : Int32} (h : ∀ i, i < 32 → bt x i = bt y i) : x = y := Int32.toBitVec_inj.mp (BitVec.eq_of_getLsbD_eq (fun i hi => h i hi))
theorem b_or (x y : Int32) (i : Nat) : bt (x ||| y) i = (bt x i || bt y i) := by unfold bt; rw [Int32.toBitVec_or, BitVec.getLsbD_or]
theorem b_and (x y : Int32) (i : Nat) : bt (x &&& y) i = (bt x i && bt y i) := by unfold bt; rw [Int32.toBitVec_and, BitVec.getLsbD_and]
theorem b_xor (x y : Int32) (i : Nat) : bt (x ^^^ y) i = (bt x i ^^ bt y i) := by unfold bt; rw [Int32.toBitVec_xor, BitVec.getLsbD_xor]
theorem b_m1 : ∀ i, i < 32 → bt (-1) i = true := by decide +kernel
theorem b_0 (i : Nat) : bt 0 i = false := BitVec.getLsbD_zero
theorem s_l : ∀ n, n < 32 → ((nI n &&& 31).toBitVec.smod 32).toNat = n := by decide +kernel
theorem b_shl (n : Nat) (hn : n < 32) (x : Int32) {i : Nat} (hi : i < 32) : bt (x <<< (nI n &&& 31)) i = (decide (n ≤ i) && bt x (i - n)) := by
  unfold bt
  rw [Int32.toBitVec_shiftLeft]
  show (x.toBitVec <<< ((nI n &&& 31).toBitVec.smod 32).toNat).getLsbD i = _
  rw [s_l n hn, BitVec.getLsbD_shiftLeft]
  rcases Nat.lt_or_ge i n with h | h
  · simp [h, Nat.not_le.mpr h]
  · simp [hi, h, Nat.not_lt.mpr h]
theorem b_sshr (n : Nat) (hn : n < 32) (x : Int32) {i : Nat} (hi : i < 32) : bt (x >>> (nI n &&& 31)) i = if n + i < 32 then bt x (n + i) else bt x 31 := by
  unfold bt
  rw [Int32.toBitVec_shiftRight]
  show (x.toBitVec.sshiftRight ((nI n &&& 31).toBitVec.smod 32).toNat).getLsbD i = _
  rw [s_l n hn, BitVec.getLsbD_sshiftRight, BitVec.msb_eq_getLsbD_last]
  simp [hi]
theorem bt_nI (n : Nat) (i : Nat) (hi : i < 32) : bt (nI n) i = n.testBit i := by
  show (BitVec.ofNat 32 n).getLsbD i = _
  rw [BitVec.getLsbD_ofNat]; simp [hi]
-- counting with a bound
def anyN : Nat → (Nat → Bool) → Bool
  | 0, _ => false
  | n + 1, p => anyN n p || p n
def maxN : Nat → (Nat → Nat) → Nat
  | 0, _ => 0
  | n + 1, f => max (maxN n f) (f n)
def sumN : Nat → (Nat → Nat) → Nat
  | 0, _ => 0
  | n + 1, f => sumN n f + f n
def cntN (n : Nat) (p : Nat → Bool) : Nat := sumN n (fun i => if p i = true then 1 else 0)
theorem anyN_true {n : Nat} {p : Nat → Bool} : anyN n p = true ↔ ∃ i, i < n ∧ p i = true := by
  induction n with
  | zero => simp [anyN]
  | succ n ih =>
    simp only [anyN, Bool.or_eq_true, ih]
    constructor
    · rintro (⟨i, h, g⟩ | h)
      · exact ⟨i, by omega, g⟩
      · exact ⟨n, by omega, h⟩
    · rintro ⟨i, h, g⟩
      rcases Nat.lt_or_ge i n with q | q
      · exact Or.inl ⟨i, q, g⟩
      · have : i = n := by omega
        subst this; exact Or.inr g
theorem anyN_false {n : Nat} {p : Nat → Bool} : anyN n p = false ↔ ∀ i, i < n → p i = false := by
  constructor
  · intro h i hi
    cases hp : p i with
    | false => rfl
    | true => rw [anyN_true.mpr ⟨i, hi, hp⟩] at h; cases h
  · intro h
    cases ha : anyN n p with
    | false => rfl
    | true =>
      obtain ⟨i, hi, hp⟩ := anyN_true.mp ha
      rw [h i hi] at hp; cases hp
theorem anyN_cong {n : Nat} {p q : Nat → Bool} (h : ∀ i, i < n → p i = q i) : anyN n p = anyN n q := by
  induction n with
  | zero => rfl
  | succ n ih => rw [anyN, anyN, ih (fun i hi => h i (by omega)), h n (by omega)]
theorem maxN_cong {n : Nat} {f g : Nat → Nat} (h : ∀ i, i < n → f i = g i) : maxN n f = maxN n g := by
  induction n with
  | zero => rfl
  | succ n ih => rw [maxN, maxN, ih (fun i hi => h i (by omega)), h n (by omega)]
theorem sumN_cong {n : Nat} {f g : Nat → Nat} (h : ∀ i, i < n → f i = g i) : sumN n f = sumN n g := by
  induction n with
  | zero => rfl
  | succ n ih => rw [sumN, sumN, ih (fun i hi => h i (by omega)), h n (by omega)]
theorem maxN_le {n k : Nat} {f : Nat → Nat} : maxN n f ≤ k ↔ ∀ i, i < n → f i ≤ k := by
  induction n with
  | zero => simp [maxN]
  | succ n ih =>
    rw [maxN, Nat.max_le, ih]
    constructor
    · rintro ⟨h, g⟩ i hi
      rcases Nat.lt_or_ge i n with q | q
      · exact h i q
      · have : i = n := by omega
        subst this; exact g
    · intro h; exact ⟨fun i hi => h i (by omega), h n (by omega)⟩
theorem maxN_ge {n i : Nat} {f : Nat → Nat} (h : i < n) : f i ≤ maxN n f := maxN_le.mp (Nat.le_refl _) i h
theorem sumN_le {n c : Nat} {f : Nat → Nat} (h : ∀ i, i < n → f i ≤ c) : sumN n f ≤ n * c := by
  induction n with
  | zero => simp [sumN]
  | succ n ih =>
    have := ih (fun i hi => h i (by omega))
    have := h n (by omega)
    rw [sumN, Nat.succ_mul]; omega
theorem sumN_mono {n : Nat} {f g : Nat → Nat} (h : ∀ i, i < n → f i ≤ g i) : sumN n f ≤ sumN n g := by
  induction n with
  | zero => exact Nat.le_refl _
  | succ n ih =>
    have := ih (fun i hi => h i (by omega))
    have := h n (by omega)
    rw [sumN, sumN]; omega
theorem sumN_eq {n : Nat} {f g : Nat → Nat} (h : ∀ i, i < n → f i ≤ g i) (e : sumN n f = sumN n g) : ∀ i, i < n → f i = g i := by
  induction n with
  | zero => intro i hi; omega
  | succ n ih =>
    have h1 := sumN_mono (fun i (hi : i < n) => h i (by omega))
    have h2 := h n (by omega)
    rw [sumN, sumN] at e
    intro i hi
    rcases Nat.lt_or_ge i n with q | q
    · exact ih (fun i hi => h i (by omega)) (by omega) i q
    · have : i = n := by omega
      subst this; omega
theorem sumN_add {n : Nat} (f g : Nat → Nat) : sumN n (fun i => f i + g i) = sumN n f + sumN n g := by
  induction n with
  | zero => rfl
  | succ n ih => rw [sumN, sumN, sumN, ih]; omega
theorem sumN_zero {n : Nat} : sumN n (fun _ => 0) = 0 := by
  induction n with
  | zero => rfl
  | succ n ih => rw [sumN, ih]
theorem sumN_swap {n m : Nat} (f : Nat → Nat → Nat) : sumN n (fun i => sumN m (fun j => f i j)) = sumN m (fun j => sumN n (fun i => f i j)) := by
  induction n with
  | zero => rw [sumN]; exact sumN_zero.symm
  | succ n ih => rw [sumN, ih, ← sumN_add]; rfl
-- masks of 30 bits
def maskN : Nat → (Nat → Bool) → Nat
  | 0, _ => 0
  | n + 1, p => maskN n p ||| (if p n = true then 2 ^ n else 0)
theorem maskN_bit (p : Nat → Bool) : ∀ (n i : Nat), (maskN n p).testBit i = (decide (i < n) && p i)
  | 0, i => by simp [maskN]
  | n + 1, i => by
    rw [maskN, Nat.testBit_or, maskN_bit p n i]
    by_cases hi : i = n
    · subst hi
      cases h : p i <;> simp [h]
    · cases h : p n
      · by_cases h2 : i < n
        · simp [h2, show i < n + 1 by omega]
        · simp [h2, show ¬ i < n + 1 by omega]
      · rw [if_pos rfl, Nat.testBit_two_pow]
        by_cases h2 : i < n
        · simp [h2, show i < n + 1 by omega, show ¬ n = i by omega]
        · simp [h2, show ¬ i < n + 1 by omega, show ¬ n = i by omega]
theorem maskN_lt (p : Nat → Bool) (n : Nat) : maskN n p < 2 ^ n := by
  apply Nat.lt_pow_two_of_testBit
  intro i hi
  rw [maskN_bit]; simp [Nat.not_lt.mpr hi]
def mk (p : Nat → Bool) : Int32 := nI (maskN 30 p)
theorem bt_mk (p : Nat → Bool) {i : Nat} (hi : i < 32) : bt (mk p) i = (decide (i < 30) && p i) := by
  unfold mk; rw [bt_nI _ _ hi, maskN_bit]
theorem mk_cong {p q : Nat → Bool} (h : ∀ i, i < 30 → p i = q i) : mk p = mk q := by
  apply b_ext; intro i hi
  rw [bt_mk p hi, bt_mk q hi]
  by_cases h2 : i < 30
  · rw [h i h2]
  · simp [h2]
theorem mk_or (p q : Nat → Bool) : mk p ||| mk q = mk (fun i => p i || q i) := by
  apply b_ext; intro i hi
  rw [b_or, bt_mk p hi, bt_mk q hi, bt_mk _ hi]
  by_cases h2 : i < 30 <;> simp [h2]
theorem mk_and (p q : Nat → Bool) : mk p &&& mk q = mk (fun i => p i && q i) := by
  apply b_ext; intro i hi
  rw [b_and, bt_mk p hi, bt_mk q hi, bt_mk _ hi]
  by_cases h2 : i < 30 <;> simp [h2]
theorem mk_andnot (p q : Nat → Bool) : mk p &&& (mk q ^^^ (-1)) = mk (fun i => p i && !q i) := by
  apply b_ext; intro i hi
  rw [b_and, b_xor, b_m1 i hi, bt_mk p hi, bt_mk q hi, bt_mk _ hi]
  by_cases h2 : i < 30 <;> simp [h2]
theorem mk_0 : mk (fun _ => false) = nI 0 := by
  apply b_ext; intro i hi
  rw [bt_mk _ hi, nI_0, b_0]; simp
theorem mk_zero {p : Nat → Bool} : mk p = 0 ↔ ∀ i, i < 30 → p i = false := by
  constructor
  · intro h i hi
    have := bt_mk p (i := i) (by omega)
    rw [h, b_0] at this
    simpa [hi] using this.symm
  · intro h
    rw [mk_cong (q := fun _ => false) h, mk_0, nI_0]
/-- a craft (or 5) and a deed (or 6) fit the pair q -/
def pfit (c d q : Nat) : Bool := (c == q / 6 || c == 5) && (d == q % 6 || d == 6)
theorem mk_one {c d : Nat} (hc : c < 5) (hd : d < 6) (p : Nat → Bool) : mk p &&& mk (pfit c d) = 0 ↔ p (6 * c + d) = false := by
  rw [mk_and, mk_zero]
  constructor
  · intro h
    have := h (6 * c + d) (by omega)
    have e1 : (6 * c + d) / 6 = c := by omega
    have e2 : (6 * c + d) % 6 = d := by omega
    simpa [pfit, e1, e2] using this
  · intro h i hi
    by_cases h2 : i = 6 * c + d
    · rw [h2, h]; rfl
    · have : pfit c d i = false := by
        simp only [pfit, Bool.and_eq_false_iff, Bool.or_eq_false_iff, beq_eq_false_iff_ne]
        by_cases h3 : c = i / 6
        · right; constructor <;> omega
        · left; constructor <;> omega
      rw [this, Bool.and_false]
-- the charter
def fitT (T : Nat → Nat → Nat) (j c d : Nat) : Bool := (T j 2 == c || T j 2 == 5) && (T j 3 == d || T j 3 == 6)
def permT (n : Nat) (T : Nat → Nat → Nat) (c d : Nat) : Bool := anyN n (fun j => T j 1 == 0 && fitT T j c d)
def liftT (T : Nat → Nat → Nat) (w b : Nat) : Bool := T w 1 == 2 && (decide (T w 0 ≤ T b 0) && decide (T b 4 ≤ T w 4))
def holdT (n : Nat) (T : Nat → Nat → Nat) (b c d : Nat) : Bool := fitT T b c d && !anyN n (fun w => liftT T w b && fitT T w c d)
def lstT (n : Nat) (T : Nat → Nat → Nat) (c d : Nat) : Nat := if permT n T c d = true then maxN n (fun j => if (T j 1 == 1 && holdT n T j c d) = true then T j 4 else 0) else 10
def trpT (n : Nat) (T : Nat → Nat → Nat) : Nat := sumN 30 (fun q => 10 - lstT n T (q / 6) (q % 6))
/-- the tables' numbers in their ranges -/
def WfT (n : Nat) (T : Nat → Nat → Nat) : Prop := ∀ j, j < n → T j 0 < 5 ∧ T j 1 < 3 ∧ T j 2 ≤ 5 ∧ T j 3 ≤ 6 ∧ 1 ≤ T j 4 ∧ T j 4 ≤ 9
/-- six rows of cells hold the table -/
def relT (f : Nat → Nat → Int32) (n : Nat) (T : Nat → Nat → Nat) : Prop := ∀ j, j < n → f 0 j = nI (T j 0) ∧ f 1 j = nI (T j 1) ∧ f 2 j = nI (T j 2) ∧ f 3 j = nI (T j 3) ∧ f 4 j = nI (T j 4) ∧ f 5 j = mk (pfit (T j 2) (T j 3))
theorem cntN_succ (n : Nat) (p : Nat → Bool) : cntN (n + 1) p = cntN n p + (if p n = true then 1 else 0) := rfl
theorem sumN_succ (n : Nat) (f : Nat → Nat) : sumN (n + 1) f = sumN n f + f n := rfl
/-- an int within bounds -/
def inR (x lo hi : Int32) : Bool := decide (lo ≤ x) && decide (x ≤ hi)
def hasB (n : Nat) (x : Int32) : Bool := decide (0 ≤ x) && decide (x < nI n)
def dmask (d q : Nat) : Bool := decide (q < 6) && (d == q || d == 6)
def lmask (d i q : Nat) : Bool := decide (q < 6 * i) && (d == q % 6 || d == 6)
theorem dmask_6 {d : Nat} (h : d = 6) : nI 63 = mk (dmask d) := by subst h; decide +kernel
theorem dmask_s (d : Nat) (h : d < 6) : (nI 1) <<< (nI d &&& 31) = mk (dmask d) := by
  rcases (show d = 0 ∨ d = 1 ∨ d = 2 ∨ d = 3 ∨ d = 4 ∨ d = 5 by omega) with rfl | rfl | rfl | rfl | rfl | rfl <;> decide +kernel
theorem dmask_sh (d i : Nat) (hi : i < 5) : mk (dmask d) <<< (nI (i * 6) &&& 31) = mk (fun q => (q / 6 == i) && (d == q % 6 || d == 6)) := by
  apply b_ext; intro j hj
  rw [b_shl (i * 6) (by omega) _ hj, bt_mk _ (i := j - i * 6) (by omega), bt_mk _ hj]
  by_cases h1 : j / 6 = i
  · have e1 : j - i * 6 = j % 6 := by omega
    have e2 : i * 6 ≤ j := by omega
    have e3 : j % 6 < 6 := Nat.mod_lt _ (by omega)
    have e4 : j < 30 := by omega
    have e5 : j % 6 < 30 := by omega
    simp [dmask, e1, e2, e3, e4, e5, h1]
  · have e6 : (j / 6 == i) = false := by simp [h1]
    rw [e6]
    by_cases h2 : i * 6 ≤ j
    · have : ¬ j - i * 6 < 6 := by omega
      simp [dmask, this]
    · simp [h2]
theorem dmask_c (c d : Nat) (h : c < 5) : mk (dmask d) <<< (nI (c * 6) &&& 31) = mk (pfit c d) := by
  rw [dmask_sh d c h]
  apply mk_cong; intro i hi
  show ((i / 6 == c) && (d == i % 6 || d == 6)) = ((c == i / 6 || c == 5) && (d == i % 6 || d == 6))
  have e3 : (c == 5) = false := by rw [beq_eq_false_iff_ne]; omega
  by_cases h1 : i / 6 = c
  · rw [h1, e3, Bool.or_false]
  · have e1 : (i / 6 == c) = false := by rw [beq_eq_false_iff_ne]; exact h1
    have e2 : (c == i / 6) = false := by rw [beq_eq_false_iff_ne]; exact fun e => h1 e.symm
    rw [e1, e2, e3]; rfl
theorem lmask_0 (d : Nat) : mk (lmask d 0) = nI 0 := by
  rw [← mk_0]; apply mk_cong; intro i hi; simp [lmask]
theorem lmask_s (d i : Nat) (h : i < 5) : mk (lmask d i) ||| mk (dmask d) <<< (nI (i * 6) &&& 31) = mk (lmask d (i + 1)) := by
  rw [dmask_sh d i h, mk_or]
  apply mk_cong; intro j hj
  unfold lmask
  by_cases h1 : j < 6 * i
  · have : j < 6 * (i + 1) := by omega
    have h2 : ¬ j / 6 = i := by omega
    simp [h1, this, h2]
  · by_cases h2 : j / 6 = i
    · have : j < 6 * (i + 1) := by omega
      simp [h1, this, h2]
    · have : ¬ j < 6 * (i + 1) := by omega
      simp [h1, this, h2]
theorem lmask_5 (c d i : Nat) (hc : c = 5) (hi : i = 5) : mk (lmask d i) = mk (pfit c d) := by
  subst hc; subst hi
  apply mk_cong; intro j hj
  simp [lmask, pfit, hj]
def gapF (f : Nat → Int32) (i e : Nat) : Nat → Int32 := fun j => if i ≤ j ∧ j < e then f (j + 1) else f j
theorem gapF_0 (f : Nat → Int32) (i : Nat) : gapF f i i = f := by
  funext j; unfold gapF; rw [if_neg (by omega)]
theorem gapF_hi (f : Nat → Int32) {i e : Nat} (h : i ≤ e) : gapF f i e (e + 1) = f (e + 1) := by
  unfold gapF; rw [if_neg (by omega)]
theorem gapF_s (f : Nat → Int32) {i e : Nat} (h : i ≤ e) : upd (gapF f i e) e (f (e + 1)) = gapF f i (e + 1) := by
  funext j; unfold upd gapF
  by_cases h1 : j = e
  · subst h1; rw [if_pos rfl, if_pos (by omega)]
  · rw [if_neg h1]
    by_cases h2 : i ≤ j ∧ j < e
    · rw [if_pos h2, if_pos (by omega)]
    · rw [if_neg h2, if_neg (by omega)]
theorem xCpyAll {A : Nat → Prop} {D : va_G} {H : Heap} {a b N : Nat} {cI : ClassId} {f g : Nat → Int32} (hN : N < 2 ^ 31) (hP : va_P D vwCl [(a, .inl (cI, N, .inl f)), (b, .inl (cI, N, .inl (va_cpy f g (nI 0).toNatClampNeg (nI 0).toNatClampNeg (nI N).toNatClampNeg)))] H) (hD : va_D A [(a, .inl (cI, N, .inl f)), (b, .inl (cI, N, .inl (va_cpy f g (nI 0).toNatClampNeg (nI 0).toNatClampNeg (nI N).toNatClampNeg)))]) : va_P D vwCl [(a, .inl (cI, N, .inl f)), (b, .inl (cI, N, .inl f))] H ∧ va_D A [(a, .inl (cI, N, .inl f)), (b, .inl (cI, N, .inl f))] := by
  rw [nI_clamp hN, nI_clamp (show 0 < 2 ^ 31 by omega)] at hP hD
  have e : vp_cell cI (N, .inl (va_cpy f g 0 0 N)) = vp_cell cI (N, .inl f) := by
    rw [vp_cell_i, vp_cell_i]
    unfold arrV
    congr 1
    apply Array.ext
    · simp
    · intro i h1 h2
      have h3 : i < N := by simpa using h1
      simp [va_cpy, h3]
  refine ⟨fun k q hk => ?_, ⟨fun i j p q hi hj hpq => ?_, fun k q hk => ?_⟩⟩
  · match k, hk with
    | 0, hk => exact hP 0 q hk
    | 1, hk =>
      cases hk
      have := hP 1 _ rfl
      show H[b]? = some (vp_cell cI (N, .inl f))
      rw [← e]; exact this
    | k + 2, hk => simp at hk
  · match i, j, hi, hj with
    | 0, 0, _, _ => rfl
    | 1, 1, _, _ => rfl
    | 0, 1, hi, hj => cases hi; cases hj; exact hD.1 0 1 _ _ rfl rfl hpq
    | 1, 0, hi, hj => cases hi; cases hj; exact hD.1 1 0 _ _ rfl rfl hpq
    | i + 2, _, hi, _ => simp at hi
    | _, j + 2, _, hj => simp at hj
  · match k, hk with
    | 0, hk => exact hD.2 0 q hk
    | 1, hk => cases hk; exact (show A b from hD.2 1 (b, .inl (cI, N, .inl (va_cpy f g 0 0 N))) rfl)
    | k + 2, hk => simp at hk
theorem btw_1 {x lo hi : Int32} (h : x < lo) : nI 0 = bI (inR x lo hi) := by
  have : ¬ lo ≤ x := fun q => absurd h (Int32.not_lt.mpr q)
  unfold inR; rw [decide_eq_false this]; rfl
theorem btw_2 {x lo hi : Int32} (h : hi < x) : nI 0 = bI (inR x lo hi) := by
  have : ¬ x ≤ hi := fun q => absurd h (Int32.not_lt.mpr q)
  unfold inR; rw [decide_eq_false this, Bool.and_false]; rfl
theorem btw_3 {x lo hi : Int32} (h1 : ¬ x < lo) (h2 : ¬ hi < x) : nI 1 = bI (inR x lo hi) := by
  unfold inR; rw [decide_eq_true (Int32.not_lt.mp h1), decide_eq_true (Int32.not_lt.mp h2)]; rfl
theorem has_1 {n : Nat} {x : Int32} (h : x < 0) : nI 0 = bI (hasB n x) := by
  have : ¬ (0 : Int32) ≤ x := fun q => absurd h (Int32.not_lt.mpr q)
  unfold hasB; rw [decide_eq_false this]; rfl
theorem has_2 {n : Nat} {x : Int32} (h : nI n ≤ x) : nI 0 = bI (hasB n x) := by
  have : ¬ x < nI n := Int32.not_lt.mpr h
  unfold hasB; rw [decide_eq_false this, Bool.and_false]; rfl
theorem has_3 {n : Nat} {x : Int32} (h1 : ¬ x < 0) (h2 : ¬ nI n ≤ x) : nI 1 = bI (hasB n x) := by
  unfold hasB; rw [decide_eq_true (Int32.not_lt.mp h1), decide_eq_true (Int32.not_le.mp h2)]; rfl
def heldP (T : Nat → Nat → Nat) (b i q : Nat) : Bool := pfit (T b 2) (T b 3) q && !anyN i (fun w => liftT T w b && pfit (T w 2) (T w 3) q)
def heldM (n : Nat) (T : Nat → Nat → Nat) (b q : Nat) : Bool := holdT n T b (q / 6) (q % 6)
theorem heldP_0 (T : Nat → Nat → Nat) (b : Nat) : mk (pfit (T b 2) (T b 3)) = mk (heldP T b 0) := by
  apply mk_cong; intro i _; simp [heldP, anyN]
theorem heldP_t {T : Nat → Nat → Nat} {b i : Nat} (h : liftT T i b = true) : mk (heldP T b i) &&& (mk (pfit (T i 2) (T i 3)) ^^^ (-1)) = mk (heldP T b (i + 1)) := by
  rw [mk_andnot]; apply mk_cong; intro q _
  simp only [heldP, anyN, h, Bool.true_and]
  cases pfit (T b 2) (T b 3) q <;> cases anyN i (fun w => liftT T w b && pfit (T w 2) (T w 3) q) <;> cases pfit (T i 2) (T i 3) q <;> rfl
theorem heldP_f {T : Nat → Nat → Nat} {b i : Nat} (h : liftT T i b = false) : mk (heldP T b i) = mk (heldP T b (i + 1)) := by
  apply mk_cong; intro q _
  simp only [heldP, anyN, h, Bool.false_and, Bool.or_false]
theorem heldP_n (n : Nat) (T : Nat → Nat → Nat) (b : Nat) : mk (heldP T b n) = mk (heldM n T b) := rfl
def permM (n : Nat) (T : Nat → Nat → Nat) (q : Nat) : Bool := permT n T (q / 6) (q % 6)
theorem permM_t {T : Nat → Nat → Nat} {i : Nat} (h : T i 1 = 0) : mk (permM i T) ||| mk (pfit (T i 2) (T i 3)) = mk (permM (i + 1) T) := by
  rw [mk_or]; apply mk_cong; intro q _
  simp only [permM, permT, anyN, h]
  simp [fitT, pfit]
theorem permM_f {T : Nat → Nat → Nat} {i : Nat} (h : 0 < T i 1) : mk (permM i T) = mk (permM (i + 1) T) := by
  apply mk_cong; intro q _
  have : (T i 1 == 0) = false := by simp; omega
  simp only [permM, permT, anyN, this, Bool.false_and, Bool.or_false]
def sealM (i n : Nat) (T : Nat → Nat → Nat) (z q : Nat) : Bool := anyN i (fun b => (T b 1 == 1 && T b 4 == z) && holdT n T b (q / 6) (q % 6))
theorem sealM_t {i n z : Nat} {T : Nat → Nat → Nat} (h1 : T i 1 = 1) (h2 : T i 4 = z) : mk (sealM i n T z) ||| mk (heldM n T i) = mk (sealM (i + 1) n T z) := by
  rw [mk_or]; apply mk_cong; intro q _
  simp only [sealM, anyN, heldM, h1, h2]
  simp
theorem sealM_f1 {i n z : Nat} {T : Nat → Nat → Nat} (h1 : T i 1 ≠ 1) : mk (sealM i n T z) = mk (sealM (i + 1) n T z) := by
  apply mk_cong; intro q _
  have : (T i 1 == 1) = false := by simpa using h1
  simp only [sealM, anyN, this, Bool.false_and, Bool.or_false]
theorem sealM_f2 {i n z : Nat} {T : Nat → Nat → Nat} (h1 : T i 4 ≠ z) : mk (sealM i n T z) = mk (sealM (i + 1) n T z) := by
  apply mk_cong; intro q _
  have : (T i 4 == z) = false := by simpa using h1
  simp only [sealM, anyN, this, Bool.and_false, Bool.false_and, Bool.or_false]
def aboveM (n : Nat) (T : Nat → Nat → Nat) (z q : Nat) : Bool := permM n T q && !anyN n (fun b => (T b 1 == 1 && decide (z < T b 4)) && holdT n T b (q / 6) (q % 6))
theorem aboveM_9 {n : Nat} {T : Nat → Nat → Nat} (hW : WfT n T) : mk (permM n T) = mk (aboveM n T 9) := by
  apply mk_cong; intro q _
  have : anyN n (fun b => (T b 1 == 1 && decide (9 < T b 4)) && holdT n T b (q / 6) (q % 6)) = false := by
    rw [anyN_false]; intro i hi
    have := hW i hi
    rw [decide_eq_false (show ¬ 9 < T i 4 by omega)]; simp
  rw [aboveM, this]; simp
theorem aboveM_s {n z : Nat} {T : Nat → Nat → Nat} (h : 1 ≤ z) : mk (aboveM n T z) &&& (mk (sealM n n T z) ^^^ (-1)) = mk (aboveM n T (z - 1)) := by
  rw [mk_andnot]; apply mk_cong; intro q _
  have e : anyN n (fun b => (T b 1 == 1 && decide (z - 1 < T b 4)) && holdT n T b (q / 6) (q % 6)) = (anyN n (fun b => (T b 1 == 1 && decide (z < T b 4)) && holdT n T b (q / 6) (q % 6)) || sealM n n T z q) := by
    unfold sealM
    rw [Bool.eq_iff_iff, Bool.or_eq_true, anyN_true, anyN_true, anyN_true]
    constructor
    · rintro ⟨i, hi, h1⟩
      simp only [Bool.and_eq_true, decide_eq_true_eq, beq_iff_eq] at h1
      rcases Nat.lt_or_ge z (T i 4) with g | g
      · exact Or.inl ⟨i, hi, by simp [h1, g]⟩
      · exact Or.inr ⟨i, hi, by simp [h1, show T i 4 = z by omega]⟩
    · rintro (⟨i, hi, h1⟩ | ⟨i, hi, h1⟩) <;> simp only [Bool.and_eq_true, decide_eq_true_eq, beq_iff_eq] at h1
      · exact ⟨i, hi, by simp only [Bool.and_eq_true, decide_eq_true_eq, beq_iff_eq]; exact ⟨⟨h1.1.1, by omega⟩, h1.2⟩⟩
      · exact ⟨i, hi, by simp only [Bool.and_eq_true, decide_eq_true_eq, beq_iff_eq]; exact ⟨⟨h1.1.1, by omega⟩, h1.2⟩⟩
  unfold aboveM; rw [e]
  cases permM n T q <;> cases anyN n (fun b => (T b 1 == 1 && decide (z < T b 4)) && holdT n T b (q / 6) (q % 6)) <;> cases sealM n n T z q <;> rfl
theorem lst_le {n c d z : Nat} {T : Nat → Nat → Nat} (hz : z ≤ 9) : lstT n T c d ≤ z ↔ permT n T c d = true ∧ ∀ b, b < n → T b 1 = 1 → holdT n T b c d = true → T b 4 ≤ z := by
  unfold lstT
  cases hp : permT n T c d
  · simp; omega
  · simp only [if_true, maxN_le, true_and]
    constructor
    · intro h b hb h1 h2
      have := h b hb
      simpa [h1, h2] using this
    · intro h b hb
      by_cases h1 : T b 1 = 1
      · cases h2 : holdT n T b c d
        · simp
        · simpa [h1] using h b hb h1 h2
      · simp [h1]
theorem aboveM_lst {n z q : Nat} {T : Nat → Nat → Nat} (hz : z ≤ 9) : aboveM n T z q = decide (lstT n T (q / 6) (q % 6) ≤ z) := by
  rw [Bool.eq_iff_iff, decide_eq_true_iff, lst_le hz]
  unfold aboveM permM
  rw [Bool.and_eq_true, Bool.not_eq_true', anyN_false]
  constructor
  · rintro ⟨h1, h2⟩
    refine ⟨h1, fun b hb g1 g2 => ?_⟩
    have := h2 b hb
    simp only [g1, g2, Bool.and_true, beq_self_eq_true, Bool.true_and, decide_eq_false_iff_not] at this
    omega
  · rintro ⟨h1, h2⟩
    refine ⟨h1, fun b hb => ?_⟩
    cases g2 : holdT n T b (q / 6) (q % 6)
    · simp
    · by_cases g1 : T b 1 = 1
      · have := h2 b hb g1 g2
        simp [g1]; omega
      · simp [g1]
theorem perm_bit {n c d : Nat} {T : Nat → Nat → Nat} (hc : c < 5) (hd : d < 6) : permM n T (6 * c + d) = permT n T c d := by
  unfold permM
  rw [show (6 * c + d) / 6 = c by omega, show (6 * c + d) % 6 = d by omega]
theorem lst_none {n c d : Nat} {T : Nat → Nat → Nat} (hc : c < 5) (hd : d < 6) (h : mk (permM n T) &&& mk (pfit c d) = 0) : (if lstT n T c d = 10 then (-6 : Int32) else nI (lstT n T c d)) = -6 := by
  rw [mk_one hc hd, perm_bit hc hd] at h
  unfold lstT; rw [h]; simp
theorem lst_le9 {n c d : Nat} {T : Nat → Nat → Nat} (hW : WfT n T) (hc : c < 5) (hd : d < 6) (h : ¬ mk (permM n T) &&& mk (pfit c d) = 0) : lstT n T c d ≤ 9 := by
  rw [mk_one hc hd, perm_bit hc hd] at h
  rw [lst_le (Nat.le_refl 9)]
  refine ⟨by simpa using h, fun b hb _ _ => ?_⟩
  have := hW b hb; omega
theorem seal_bit {n c d z : Nat} {T : Nat → Nat → Nat} (hc : c < 5) (hd : d < 6) : sealM n n T z (6 * c + d) = true ↔ ∃ b, b < n ∧ T b 1 = 1 ∧ T b 4 = z ∧ holdT n T b c d = true := by
  unfold sealM
  rw [anyN_true, show (6 * c + d) / 6 = c by omega, show (6 * c + d) % 6 = d by omega]
  constructor
  · rintro ⟨b, hb, h⟩
    simp only [Bool.and_eq_true, beq_iff_eq] at h
    exact ⟨b, hb, h.1.1, h.1.2, h.2⟩
  · rintro ⟨b, hb, h1, h2, h3⟩
    exact ⟨b, hb, by simp [h1, h2, h3]⟩
theorem lst_dn {n c d z : Nat} {T : Nat → Nat → Nat} (hc : c < 5) (hd : d < 6) (hz : 1 ≤ z ∧ z ≤ 9) (hv : lstT n T c d ≤ z) (h : mk (sealM n n T z) &&& mk (pfit c d) = 0) : lstT n T c d ≤ z - 1 := by
  rw [mk_one hc hd] at h
  rw [lst_le (by omega)] at hv ⊢
  refine ⟨hv.1, fun b hb h1 h2 => ?_⟩
  have := hv.2 b hb h1 h2
  rcases Nat.lt_or_ge (T b 4) z with g | g
  · omega
  · rw [(seal_bit hc hd).mpr ⟨b, hb, h1, by omega, h2⟩] at h; cases h
theorem lst_at {n c d z : Nat} {T : Nat → Nat → Nat} (hc : c < 5) (hd : d < 6) (hz : 1 ≤ z) (hz9 : z ≤ 9) (hv : lstT n T c d ≤ z) (h : ¬ mk (sealM n n T z) &&& mk (pfit c d) = 0) : (if lstT n T c d = 10 then (-6 : Int32) else nI (lstT n T c d)) = nI z := by
  rw [mk_one hc hd] at h
  have h : sealM n n T z (6 * c + d) = true := by simpa using h
  obtain ⟨b, hb, h1, h2, h3⟩ := (seal_bit hc hd).mp h
  have : lstT n T c d = z := by
    rcases Nat.lt_or_ge (lstT n T c d) z with g | g
    · have g2 : lstT n T c d ≤ z - 1 := by omega
      rw [lst_le (by omega)] at g2
      have := g2.2 b hb h1 h3
      omega
    · omega
  rw [this, if_neg (by omega)]
theorem lst_at0 {n c d z : Nat} {T : Nat → Nat → Nat} (hz : z < 1) (hv : lstT n T c d ≤ z) : (if lstT n T c d = 10 then (-6 : Int32) else nI (lstT n T c d)) = nI 0 := by
  rw [show lstT n T c d = 0 by omega, if_neg (by omega)]
def meetT (T : Nat → Nat → Nat) (i j : Nat) : Bool := (T i 2 == T j 2 || T i 2 == 5 || T j 2 == 5) && (T i 3 == T j 3 || T i 3 == 6 || T j 3 == 6)
def oddT (T : Nat → Nat → Nat) (i j : Nat) : Bool := ((T i 1 == 1) != (T j 1 == 1)) && meetT T i j
def oprT (n : Nat) (T : Nat → Nat → Nat) : Nat := sumN n (fun i => if T i 1 = 1 then cntN n (fun j => oddT T i j) else 0)
theorem oddT_z {T : Nat → Nat → Nat} {i j : Nat} (h : T i 1 = 1 ↔ T j 1 = 1) : nI 0 = bI (oddT T i j) := by
  have : (T i 1 == 1) = (T j 1 == 1) := by rw [Bool.eq_iff_iff]; simpa using h
  unfold oddT; rw [this]; simp [bI, nI_0]
theorem oddT_n {T : Nat → Nat → Nat} {i j : Nat} (h : meetT T i j = false) : nI 0 = bI (oddT T i j) := by
  unfold oddT; rw [h]; simp [bI, nI_0]
theorem oddT_o {T : Nat → Nat → Nat} {i j : Nat} (h : ¬ (T i 1 = 1 ↔ T j 1 = 1)) (h2 : meetT T i j = true) : nI 1 = bI (oddT T i j) := by
  have : ((T i 1 == 1) != (T j 1 == 1)) = true := by
    simp only [bne_iff_ne, ne_eq]
    intro e; apply h
    rw [Bool.eq_iff_iff] at e; simpa using e
  unfold oddT; rw [this, h2]; rfl
theorem meet_iff {T : Nat → Nat → Nat} {i j : Nat} (hi : T i 2 ≤ 5 ∧ T i 3 ≤ 6) (hj : T j 2 ≤ 5 ∧ T j 3 ≤ 6) : meetT T i j = true ↔ ∃ q, q < 30 ∧ (pfit (T i 2) (T i 3) q && pfit (T j 2) (T j 3) q) = true := by
  unfold meetT pfit
  simp only [Bool.and_eq_true, Bool.or_eq_true, beq_iff_eq]
  constructor
  · rintro ⟨h1, h2⟩
    refine ⟨6 * (if T i 2 = 5 then (if T j 2 = 5 then 0 else T j 2) else T i 2) + (if T i 3 = 6 then (if T j 3 = 6 then 0 else T j 3) else T i 3), ?_, ?_⟩
    · split <;> split <;> (try split) <;> (try split) <;> omega
    · split <;> split <;> (try split) <;> (try split) <;> omega
  · rintro ⟨q, _, ⟨h1, h2⟩, h3, h4⟩
    omega
theorem meetT_t {T : Nat → Nat → Nat} {i j : Nat} (hi : T i 0 < 5 ∧ T i 1 < 3 ∧ T i 2 ≤ 5 ∧ T i 3 ≤ 6 ∧ 1 ≤ T i 4 ∧ T i 4 ≤ 9) (hj : T j 0 < 5 ∧ T j 1 < 3 ∧ T j 2 ≤ 5 ∧ T j 3 ≤ 6 ∧ 1 ≤ T j 4 ∧ T j 4 ≤ 9) (h : ¬ mk (pfit (T i 2) (T i 3)) &&& mk (pfit (T j 2) (T j 3)) = 0) : meetT T i j = true := by
  rw [mk_and, mk_zero] at h
  rw [meet_iff ⟨hi.2.2.1, hi.2.2.2.1⟩ ⟨hj.2.2.1, hj.2.2.2.1⟩]
  apply Classical.byContradiction
  intro g; apply h; intro q hq
  cases e : (pfit (T i 2) (T i 3) q && pfit (T j 2) (T j 3) q)
  · rfl
  · exact absurd ⟨q, hq, e⟩ g
theorem meetT_f {T : Nat → Nat → Nat} {i j : Nat} (hi : T i 0 < 5 ∧ T i 1 < 3 ∧ T i 2 ≤ 5 ∧ T i 3 ≤ 6 ∧ 1 ≤ T i 4 ∧ T i 4 ≤ 9) (hj : T j 0 < 5 ∧ T j 1 < 3 ∧ T j 2 ≤ 5 ∧ T j 3 ≤ 6 ∧ 1 ≤ T j 4 ∧ T j 4 ≤ 9) (h : mk (pfit (T i 2) (T i 3)) &&& mk (pfit (T j 2) (T j 3)) = 0) : meetT T i j = false := by
  rw [mk_and, mk_zero] at h
  cases e : meetT T i j
  · rfl
  · obtain ⟨q, hq, g⟩ := (meet_iff ⟨hi.2.2.1, hi.2.2.2.1⟩ ⟨hj.2.2.1, hj.2.2.2.1⟩).mp e
    rw [h q hq] at g; cases g
theorem lift_o {T : Nat → Nat → Nat} {w b : Nat} (h1 : T w 1 = 2) (h2 : T w 0 ≤ T b 0) (h3 : T b 4 ≤ T w 4) : nI 1 = bI (liftT T w b) := by
  unfold liftT; simp [h1, h2, h3, bI]; rfl
theorem lift_1 {T : Nat → Nat → Nat} {w b : Nat} (h1 : T w 1 ≠ 2) : nI 0 = bI (liftT T w b) := by
  unfold liftT; simp [h1, bI, nI_0]
theorem lift_2 {T : Nat → Nat → Nat} {w b : Nat} (h1 : T b 0 < T w 0) : nI 0 = bI (liftT T w b) := by
  unfold liftT; simp [Nat.not_le.mpr h1, bI, nI_0]
theorem lift_3 {T : Nat → Nat → Nat} {w b : Nat} (h1 : T w 4 < T b 4) : nI 0 = bI (liftT T w b) := by
  unfold liftT; simp [Nat.not_le.mpr h1, bI, nI_0]
end
section
set_option maxHeartbeats 8000000 in
set_option maxRecDepth 100000 in
theorem c_X4_isBetween (xl : Launch) (D : va_G) (kA : Nat → ClassId) (x lo hi : Int32) : Met xl yX4_isBetween wsX4_isBetween { frames := 0, cells := 0, slots := 0, locals := 0 } (va_Pc [.int x, .int lo, .int hi] (xPr D kA [])) (vp_Si (fun r => r = bI (inR x lo hi))) 0 0 (fun _ => False) := by
  refine Met.ofW (cc := cX4_isBetween) (maxL := 3) (ret := (some .boolean)) (by decide) rfl ?_
  intro xp xe xs xm args xbe xme xc s₁ B hml hv
  obtain ⟨rfl, hP, hN⟩ := hv
  have hr := B.returns
  have C : CallFix xp xm xc cX4_isBetween 3 xs ([.int x, .int lo, .int hi] : List Value).toArray wsX4_isBetween RX4 := ⟨B.exec, B.bytes, hml, findClass_of_methodNamed B.named, atoms_spec (ws := wsX4_isBetween) B.pre⟩
  have hlocks := B.notSynchronized
  obtain ⟨hx, hb, _, hown, hts⟩ := id C
  have hl := lv_entry ([.int x, .int lo, .int hi]) (n := 3) (Nat.le_of_ble_eq_true rfl)
  rw [lg_entry_eq]
  generalize (lg_sl ([.int x, .int lo, .int hi]) ++ List.replicate (3 - (lg_sl ([.int x, .int lo, .int hi])).length) Slot.unset).toArray = ls at hl ⊢
  have hl : lv_has ls 3 [(0, .int x), (1, .int lo), (2, .int hi)] := hl
  refine lv_iload_n hx hb dX4_isBetween_0 rfl (lv_at hl 0 rfl) ?_
  refine lv_iload_n hx hb dX4_isBetween_1 rfl (lv_at hl 1 rfl) ?_
  refine lv_icmp_lt (tgt := 14) hx hb dX4_isBetween_2 (by decide) (fun h_2 => ?_) (fun h_2 => ?_)
  · skip
    refine lv_iconst (v := nI 0) hx hb dX4_isBetween_14 (by decide) ?_
    exact xRoZ hx hb hr (v := nI 0) (xNar0) (by first | exact btw_3 h_2 h_7 | exact btw_2 h_7 | exact btw_1 h_2) dX4_isBetween_15 hlocks
  · skip
    refine lv_iload_n hx hb dX4_isBetween_5 rfl (lv_at hl 0 rfl) ?_
    refine lv_iload_n hx hb dX4_isBetween_6 rfl (lv_at hl 2 rfl) ?_
    refine lv_icmp_gt (tgt := 14) hx hb dX4_isBetween_7 (by decide) (fun h_7 => ?_) (fun h_7 => ?_)
    · skip
      refine lv_iconst (v := nI 0) hx hb dX4_isBetween_14 (by decide) ?_
      exact xRoZ hx hb hr (v := nI 0) (xNar0) (by first | exact btw_3 h_2 h_7 | exact btw_2 h_7 | exact btw_1 h_2) dX4_isBetween_15 hlocks
    · skip
      refine lv_iconst (v := nI 1) hx hb dX4_isBetween_10 (by decide) ?_
      refine lv_goto (tgt := 15) hx hb dX4_isBetween_11 (by decide) ?_
      exact xRoZ hx hb hr (v := nI 1) (xNar1) (by first | exact btw_3 h_2 h_7 | exact btw_2 h_7 | exact btw_1 h_2) dX4_isBetween_15 hlocks

set_option maxHeartbeats 8000000 in
set_option maxRecDepth 100000 in
theorem c_X4_isLayer (xl : Launch) (D : va_G) (kA : Nat → ClassId) (x : Int32) : Met xl yX4_isLayer wsX4_isLayer { frames := 1, cells := 0, slots := 0, locals := 22 } (va_Pc [.int x] (xPr D kA [])) (vp_Si (fun r => r = bI (inR x (nI 0) (nI 4)))) 0 0 (fun _ => False) := by
  refine Met.ofW (cc := cX4_isLayer) (maxL := 1) (ret := (some .boolean)) (by decide) rfl ?_
  intro xp xe xs xm args xbe xme xc s₁ B hml hv
  obtain ⟨rfl, hP, hN⟩ := hv
  have hr := B.returns
  have C : CallFix xp xm xc cX4_isLayer 1 xs ([.int x] : List Value).toArray wsX4_isLayer RX4 := ⟨B.exec, B.bytes, hml, findClass_of_methodNamed B.named, atoms_spec (ws := wsX4_isLayer) B.pre⟩
  have hlocks := B.notSynchronized
  obtain ⟨hx, hb, _, hown, hts⟩ := id C
  have hl := lv_entry ([.int x]) (n := 1) (Nat.le_of_ble_eq_true rfl)
  rw [lg_entry_eq]
  generalize (lg_sl ([.int x]) ++ List.replicate (1 - (lg_sl ([.int x])).length) Slot.unset).toArray = ls at hl ⊢
  have hl : lv_has ls 1 [(0, .int x)] := hl
  refine lv_iload_n hx hb dX4_isLayer_0 rfl (lv_at hl 0 rfl) ?_
  refine lv_iconst (v := nI 0) hx hb dX4_isLayer_1 (by decide) ?_
  refine lv_iconst (v := nI 4) hx hb dX4_isLayer_2 (by decide) ?_
  refine xSro C hN (As := [.int x, .int (nI 0), .int (nI 4)]) (rest := []) (c_X4_isBetween xl D kA x (nI 0) (nI 4)) (va_cwS 3 hts gX4_isLayer_X4_isBetween rfl rfl rfl (by decide +kernel) ⟨Nat.le_of_ble_eq_true rfl, Nat.le_of_ble_eq_true rfl⟩) hP rfl hl.1 rfl (Nat.le_of_ble_eq_true rfl) dX4_isLayer_3 ⟨Nat.le_of_ble_eq_true rfl, Nat.le_of_ble_eq_true rfl⟩ ?_
  exact xRoZ hx hb hr (v := bI (inR x (nI 0) (nI 4))) (xNarB _) (rfl) dX4_isLayer_6 hlocks

set_option maxHeartbeats 8000000 in
set_option maxRecDepth 100000 in
theorem c_X4_isCraft (xl : Launch) (D : va_G) (kA : Nat → ClassId) (x : Int32) : Met xl yX4_isCraft wsX4_isCraft { frames := 1, cells := 0, slots := 0, locals := 22 } (va_Pc [.int x] (xPr D kA [])) (vp_Si (fun r => r = bI (inR x (nI 0) (nI 4)))) 0 0 (fun _ => False) := by
  refine Met.ofW (cc := cX4_isCraft) (maxL := 1) (ret := (some .boolean)) (by decide) rfl ?_
  intro xp xe xs xm args xbe xme xc s₁ B hml hv
  obtain ⟨rfl, hP, hN⟩ := hv
  have hr := B.returns
  have C : CallFix xp xm xc cX4_isCraft 1 xs ([.int x] : List Value).toArray wsX4_isCraft RX4 := ⟨B.exec, B.bytes, hml, findClass_of_methodNamed B.named, atoms_spec (ws := wsX4_isCraft) B.pre⟩
  have hlocks := B.notSynchronized
  obtain ⟨hx, hb, _, hown, hts⟩ := id C
  have hl := lv_entry ([.int x]) (n := 1) (Nat.le_of_ble_eq_true rfl)
  rw [lg_entry_eq]
  generalize (lg_sl ([.int x]) ++ List.replicate (1 - (lg_sl ([.int x])).length) Slot.unset).toArray = ls at hl ⊢
  have hl : lv_has ls 1 [(0, .int x)] := hl
  refine lv_iload_n hx hb dX4_isCraft_0 rfl (lv_at hl 0 rfl) ?_
  refine lv_iconst (v := nI 0) hx hb dX4_isCraft_1 (by decide) ?_
  refine lv_iconst (v := nI 4) hx hb dX4_isCraft_2 (by decide) ?_
  refine xSro C hN (As := [.int x, .int (nI 0), .int (nI 4)]) (rest := []) (c_X4_isBetween xl D kA x (nI 0) (nI 4)) (va_cwS 3 hts gX4_isCraft_X4_isBetween rfl rfl rfl (by decide +kernel) ⟨Nat.le_of_ble_eq_true rfl, Nat.le_of_ble_eq_true rfl⟩) hP rfl hl.1 rfl (Nat.le_of_ble_eq_true rfl) dX4_isCraft_3 ⟨Nat.le_of_ble_eq_true rfl, Nat.le_of_ble_eq_true rfl⟩ ?_
  exact xRoZ hx hb hr (v := bI (inR x (nI 0) (nI 4))) (xNarB _) (rfl) dX4_isCraft_6 hlocks

set_option maxHeartbeats 8000000 in
set_option maxRecDepth 100000 in
theorem c_X4_isDeed (xl : Launch) (D : va_G) (kA : Nat → ClassId) (x : Int32) : Met xl yX4_isDeed wsX4_isDeed { frames := 1, cells := 0, slots := 0, locals := 22 } (va_Pc [.int x] (xPr D kA [])) (vp_Si (fun r => r = bI (inR x (nI 0) (nI 5)))) 0 0 (fun _ => False) := by
  refine Met.ofW (cc := cX4_isDeed) (maxL := 1) (ret := (some .boolean)) (by decide) rfl ?_
  intro xp xe xs xm args xbe xme xc s₁ B hml hv
  obtain ⟨rfl, hP, hN⟩ := hv
  have hr := B.returns
  have C : CallFix xp xm xc cX4_isDeed 1 xs ([.int x] : List Value).toArray wsX4_isDeed RX4 := ⟨B.exec, B.bytes, hml, findClass_of_methodNamed B.named, atoms_spec (ws := wsX4_isDeed) B.pre⟩
  have hlocks := B.notSynchronized
  obtain ⟨hx, hb, _, hown, hts⟩ := id C
  have hl := lv_entry ([.int x]) (n := 1) (Nat.le_of_ble_eq_true rfl)
  rw [lg_entry_eq]
  generalize (lg_sl ([.int x]) ++ List.replicate (1 - (lg_sl ([.int x])).length) Slot.unset).toArray = ls at hl ⊢
  have hl : lv_has ls 1 [(0, .int x)] := hl
  refine lv_iload_n hx hb dX4_isDeed_0 rfl (lv_at hl 0 rfl) ?_
  refine lv_iconst (v := nI 0) hx hb dX4_isDeed_1 (by decide) ?_
  refine lv_iconst (v := nI 5) hx hb dX4_isDeed_2 (by decide) ?_
  refine xSro C hN (As := [.int x, .int (nI 0), .int (nI 5)]) (rest := []) (c_X4_isBetween xl D kA x (nI 0) (nI 5)) (va_cwS 3 hts gX4_isDeed_X4_isBetween rfl rfl rfl (by decide +kernel) ⟨Nat.le_of_ble_eq_true rfl, Nat.le_of_ble_eq_true rfl⟩) hP rfl hl.1 rfl (Nat.le_of_ble_eq_true rfl) dX4_isDeed_3 ⟨Nat.le_of_ble_eq_true rfl, Nat.le_of_ble_eq_true rfl⟩ ?_
  exact xRoZ hx hb hr (v := bI (inR x (nI 0) (nI 5))) (xNarB _) (rfl) dX4_isDeed_6 hlocks

set_option maxHeartbeats 8000000 in
set_option maxRecDepth 100000 in
theorem c_X4_isSeal (xl : Launch) (D : va_G) (kA : Nat → ClassId) (x : Int32) : Met xl yX4_isSeal wsX4_isSeal { frames := 1, cells := 0, slots := 0, locals := 22 } (va_Pc [.int x] (xPr D kA [])) (vp_Si (fun r => r = bI (inR x (nI 1) (nI 9)))) 0 0 (fun _ => False) := by
  refine Met.ofW (cc := cX4_isSeal) (maxL := 1) (ret := (some .boolean)) (by decide) rfl ?_
  intro xp xe xs xm args xbe xme xc s₁ B hml hv
  obtain ⟨rfl, hP, hN⟩ := hv
  have hr := B.returns
  have C : CallFix xp xm xc cX4_isSeal 1 xs ([.int x] : List Value).toArray wsX4_isSeal RX4 := ⟨B.exec, B.bytes, hml, findClass_of_methodNamed B.named, atoms_spec (ws := wsX4_isSeal) B.pre⟩
  have hlocks := B.notSynchronized
  obtain ⟨hx, hb, _, hown, hts⟩ := id C
  have hl := lv_entry ([.int x]) (n := 1) (Nat.le_of_ble_eq_true rfl)
  rw [lg_entry_eq]
  generalize (lg_sl ([.int x]) ++ List.replicate (1 - (lg_sl ([.int x])).length) Slot.unset).toArray = ls at hl ⊢
  have hl : lv_has ls 1 [(0, .int x)] := hl
  refine lv_iload_n hx hb dX4_isSeal_0 rfl (lv_at hl 0 rfl) ?_
  refine lv_iconst (v := nI 1) hx hb dX4_isSeal_1 (by decide) ?_
  refine lv_bipush (v := nI 9) hx hb dX4_isSeal_2 (by decide) ?_
  refine xSro C hN (As := [.int x, .int (nI 1), .int (nI 9)]) (rest := []) (c_X4_isBetween xl D kA x (nI 1) (nI 9)) (va_cwS 3 hts gX4_isSeal_X4_isBetween rfl rfl rfl (by decide +kernel) ⟨Nat.le_of_ble_eq_true rfl, Nat.le_of_ble_eq_true rfl⟩) hP rfl hl.1 rfl (Nat.le_of_ble_eq_true rfl) dX4_isSeal_4 ⟨Nat.le_of_ble_eq_true rfl, Nat.le_of_ble_eq_true rfl⟩ ?_
  exact xRoZ hx hb hr (v := bI (inR x (nI 1) (nI 9))) (xNarB _) (rfl) dX4_isSeal_7 hlocks

set_option maxHeartbeats 8000000 in
set_option maxRecDepth 100000 in
theorem c_X4_isRank (xl : Launch) (D : va_G) (kA : Nat → ClassId) (x : Int32) : Met xl yX4_isRank wsX4_isRank { frames := 1, cells := 0, slots := 0, locals := 22 } (va_Pc [.int x] (xPr D kA [])) (vp_Si (fun r => r = bI (inR x (nI 0) (nI 9)))) 0 0 (fun _ => False) := by
  refine Met.ofW (cc := cX4_isRank) (maxL := 1) (ret := (some .boolean)) (by decide) rfl ?_
  intro xp xe xs xm args xbe xme xc s₁ B hml hv
  obtain ⟨rfl, hP, hN⟩ := hv
  have hr := B.returns
  have C : CallFix xp xm xc cX4_isRank 1 xs ([.int x] : List Value).toArray wsX4_isRank RX4 := ⟨B.exec, B.bytes, hml, findClass_of_methodNamed B.named, atoms_spec (ws := wsX4_isRank) B.pre⟩
  have hlocks := B.notSynchronized
  obtain ⟨hx, hb, _, hown, hts⟩ := id C
  have hl := lv_entry ([.int x]) (n := 1) (Nat.le_of_ble_eq_true rfl)
  rw [lg_entry_eq]
  generalize (lg_sl ([.int x]) ++ List.replicate (1 - (lg_sl ([.int x])).length) Slot.unset).toArray = ls at hl ⊢
  have hl : lv_has ls 1 [(0, .int x)] := hl
  refine lv_iload_n hx hb dX4_isRank_0 rfl (lv_at hl 0 rfl) ?_
  refine lv_iconst (v := nI 0) hx hb dX4_isRank_1 (by decide) ?_
  refine lv_bipush (v := nI 9) hx hb dX4_isRank_2 (by decide) ?_
  refine xSro C hN (As := [.int x, .int (nI 0), .int (nI 9)]) (rest := []) (c_X4_isBetween xl D kA x (nI 0) (nI 9)) (va_cwS 3 hts gX4_isRank_X4_isBetween rfl rfl rfl (by decide +kernel) ⟨Nat.le_of_ble_eq_true rfl, Nat.le_of_ble_eq_true rfl⟩) hP rfl hl.1 rfl (Nat.le_of_ble_eq_true rfl) dX4_isRank_4 ⟨Nat.le_of_ble_eq_true rfl, Nat.le_of_ble_eq_true rfl⟩ ?_
  exact xRoZ hx hb hr (v := bI (inR x (nI 0) (nI 9))) (xNarB _) (rfl) dX4_isRank_7 hlocks

set_option maxHeartbeats 8000000 in
set_option maxRecDepth 100000 in
theorem c_X4_pairsOf (xl : Launch) (D : va_G) (kA : Nat → ClassId) (c d : Nat) (hc : c ≤ 5) (hd : d ≤ 6) : Met xl yX4_pairsOf wsX4_pairsOf { frames := 0, cells := 0, slots := 0, locals := 0 } (va_Pc [.int (nI c), .int (nI d)] (xPr D kA [])) (vp_Si (fun r => r = mk (pfit c d))) 0 0 (fun _ => False) := by
  refine Met.ofW (cc := cX4_pairsOf) (maxL := 5) (ret := (some .int)) (by decide) rfl ?_
  intro xp xe xs xm args xbe xme xc s₁ B hml hv
  obtain ⟨rfl, hP, hN⟩ := hv
  have hr := B.returns
  have C : CallFix xp xm xc cX4_pairsOf 5 xs ([.int (nI c), .int (nI d)] : List Value).toArray wsX4_pairsOf RX4 := ⟨B.exec, B.bytes, hml, findClass_of_methodNamed B.named, atoms_spec (ws := wsX4_pairsOf) B.pre⟩
  have hlocks := B.notSynchronized
  obtain ⟨hx, hb, _, hown, hts⟩ := id C
  have hl := lv_entry ([.int (nI c), .int (nI d)]) (n := 5) (Nat.le_of_ble_eq_true rfl)
  rw [lg_entry_eq]
  generalize (lg_sl ([.int (nI c), .int (nI d)]) ++ List.replicate (5 - (lg_sl ([.int (nI c), .int (nI d)])).length) Slot.unset).toArray = ls at hl ⊢
  have hl : lv_has ls 5 [(0, .int (nI c)), (1, .int (nI d))] := hl
  refine lv_iload_n hx hb dX4_pairsOf_0 rfl (lv_at hl 1 rfl) ?_
  refine lv_bipush (v := nI 6) hx hb dX4_pairsOf_1 (by decide) ?_
  have J3 : ∀ (ls : Array Slot) (_ : lv_has ls 5 [(0, .int (nI c)), (1, .int (nI d))]), W xp xl xe (headSpec wsX4_pairsOf { frames := 0, cells := 0, slots := 0, locals := 0 }).room xs xm ([.int (nI c), .int (nI d)] : List Value).toArray xbe xme xc xs.heap [] 0 0 (MQ xbe (vp_Si (fun r => r = mk (pfit c d))) ([.int (nI c), .int (nI d)] : List Value).toArray xs 0 0 (fun _ => False)) (F0 xm 14 ls [.int (mk (dmask d))]) := by
    intro   ls hl
    refine lv_istore_n (lv' := [(2, .int (mk (dmask d))), (0, .int (nI c)), (1, .int (nI d))]) hx hb dX4_pairsOf_14 rfl hl (by decide) rfl (fun ls hl => ?_)
    refine lv_iload_n hx hb dX4_pairsOf_15 rfl (lv_at hl 1 rfl) ?_
    refine lv_iconst (v := nI 5) hx hb dX4_pairsOf_16 (by decide) ?_
    refine xIcmpEq C (tgt := 27) (by omega) (by decide) dX4_pairsOf_17 (by decide) (fun h_17 => ?_) (fun h_17 => ?_)
    · skip
      refine lv_iconst (v := nI 0) hx hb dX4_pairsOf_27 (by decide) ?_
      refine lv_istore_n (lv' := [(3, .int (nI 0)), (2, .int (mk (dmask d))), (0, .int (nI c)), (1, .int (nI d))]) hx hb dX4_pairsOf_28 rfl hl (by decide) rfl (fun ls hl => ?_)
      rw [show (nI 0 : Int32) = mk (lmask d 0) from (lmask_0 d).symm] at hl
      refine lv_iconst (v := nI 0) hx hb dX4_pairsOf_29 (by decide) ?_
      refine lv_istore (lv' := [(4, .int (nI 0)), (3, .int (mk (lmask d 0))), (2, .int (mk (dmask d))), (0, .int (nI c)), (1, .int (nI d))]) hx hb dX4_pairsOf_30 hl (by decide) rfl (fun ls hl => ?_)
      have L32 : ∀ (fuel : Nat), ∀ (i : Nat) (hmu : 5 - i < fuel) (hi : i ≤ 5) (ls : Array Slot) (_ : lv_has ls 5 [(4, .int (nI i)), (3, .int (mk (lmask d i))), (2, .int (mk (dmask d))), (0, .int (nI c)), (1, .int (nI d))]), W xp xl xe (headSpec wsX4_pairsOf { frames := 0, cells := 0, slots := 0, locals := 0 }).room xs xm ([.int (nI c), .int (nI d)] : List Value).toArray xbe xme xc xs.heap [] 0 0 (MQ xbe (vp_Si (fun r => r = mk (pfit c d))) ([.int (nI c), .int (nI d)] : List Value).toArray xs 0 0 (fun _ => False)) (F0 xm 32 ls []) := by
        intro fuel
        induction fuel with
        | zero => intro i hmu; exact absurd hmu (Nat.not_lt_zero _)
        | succ fuel ih32 =>
          intro i hmu hi ls hl
          refine lv_iload hx hb dX4_pairsOf_32 (lv_at hl 0 rfl) ?_
          refine lv_iconst (v := nI 5) hx hb dX4_pairsOf_34 (by decide) ?_
          refine xIcmpGe C (tgt := 54) (by omega) (by decide) dX4_pairsOf_35 (by decide) (fun h_35 => ?_) (fun h_35 => ?_)
          · skip
            refine lv_iload_n hx hb dX4_pairsOf_54 rfl (lv_at hl 1 rfl) ?_
            exact xRoI hx hb hr (v := mk (lmask d i)) (lmask_5 c d i (by omega) (by omega)) dX4_pairsOf_55 hlocks
          · skip
            refine lv_iload_n hx hb dX4_pairsOf_38 rfl (lv_at hl 1 rfl) ?_
            refine lv_iload_n hx hb dX4_pairsOf_39 rfl (lv_at hl 2 rfl) ?_
            refine lv_iload hx hb dX4_pairsOf_40 (lv_at hl 0 rfl) ?_
            refine lv_bipush (v := nI 6) hx hb dX4_pairsOf_42 (by decide) ?_
            refine xImul C dX4_pairsOf_44 ?_
            refine lv_ishl hx hb dX4_pairsOf_45 ?_
            refine lv_ior hx hb dX4_pairsOf_46 ?_
            refine xTop (y := mk (lmask d (i + 1))) (lmask_s d i (by omega)) ?_
            refine lv_istore_n (lv' := [(3, .int (mk (lmask d (i + 1)))), (4, .int (nI i)), (2, .int (mk (dmask d))), (0, .int (nI c)), (1, .int (nI d))]) hx hb dX4_pairsOf_47 rfl hl (by decide) rfl (fun ls hl => ?_)
            refine xIinc C (kx := 1) (d := 1) (lv' := [(4, .int (nI (i + 1))), (3, .int (mk (lmask d (i + 1)))), (2, .int (mk (dmask d))), (0, .int (nI c)), (1, .int (nI d))]) dX4_pairsOf_48 hl rfl (by decide) (by decide) rfl (fun ls hl => ?_)
            refine lv_goto (tgt := 32) hx hb dX4_pairsOf_51 (by decide) ?_
            exact ih32 (i + 1) (by omega) (by omega) _ (lv_sub hl [0, 1, 2, 3, 4] rfl)
      exact L32 _ 0 (Nat.lt_succ_self _) (by omega) _ (lv_sub hl [0, 1, 2, 3, 4] rfl)
    · skip
      refine lv_iload_n hx hb dX4_pairsOf_20 rfl (lv_at hl 0 rfl) ?_
      refine lv_iload_n hx hb dX4_pairsOf_21 rfl (lv_at hl 1 rfl) ?_
      refine lv_bipush (v := nI 6) hx hb dX4_pairsOf_22 (by decide) ?_
      refine xImul C dX4_pairsOf_24 ?_
      refine lv_ishl hx hb dX4_pairsOf_25 ?_
      refine xTop (y := mk (pfit c d)) (dmask_c c d (by omega)) ?_
      exact xRoI hx hb hr (v := mk (pfit c d)) (rfl) dX4_pairsOf_26 hlocks
  refine xIcmpNe C (tgt := 11) (by omega) (by decide) dX4_pairsOf_3 (by decide) (fun h_3 => ?_) (fun h_3 => ?_)
  · skip
    refine lv_iconst (v := nI 1) hx hb dX4_pairsOf_11 (by decide) ?_
    refine lv_iload_n hx hb dX4_pairsOf_12 rfl (lv_at hl 1 rfl) ?_
    refine lv_ishl hx hb dX4_pairsOf_13 ?_
    refine xTop (y := mk (dmask d)) (dmask_s d (by omega)) ?_
    exact J3   _ (lv_sub hl [0, 1] rfl)
  · skip
    refine lv_bipush (v := nI 63) hx hb dX4_pairsOf_6 (by decide) ?_
    refine xTop (y := mk (dmask d)) (dmask_6 h_3) ?_
    refine lv_goto (tgt := 14) hx hb dX4_pairsOf_8 (by decide) ?_
    exact J3   _ (lv_sub hl [0, 1] rfl)

set_option maxHeartbeats 8000000 in
set_option maxRecDepth 100000 in
theorem c_X4_closeGap (xl : Launch) (D : va_G) (kA : Nat → ClassId) (a N : Nat) (f : Nat → Int32) (i : Nat) (hi : i < N) (hN2 : N < 2 ^ 30) (A : Nat → Prop) : Met xl yX4_closeGap wsX4_closeGap { frames := 1, cells := 0, slots := 0, locals := 40 } (va_Pc [.ref a, .int (nI i)] (xPw D kA A [(a, .inl (kA 0, N, .inl (f)))])) (xQv D A (fun u => u = [(a, .inl (kA 0, N, .inl (gapF f i (N - 1))))])) 0 0 A := by
  refine Met.ofW (cc := cX4_closeGap) (maxL := 3) (ret := none) (by decide) rfl ?_
  intro xp xe xs xm args xbe xme xc s₁ B hml hv
  obtain ⟨rfl, hP, hN, hD, hA⟩ := hv
  have hr := B.returns
  have C : CallFix xp xm xc cX4_closeGap 3 xs ([.ref a, .int (nI i)] : List Value).toArray wsX4_closeGap RX4 := ⟨B.exec, B.bytes, hml, findClass_of_methodNamed B.named, atoms_spec (ws := wsX4_closeGap) B.pre⟩
  have hlocks := B.notSynchronized
  obtain ⟨hx, hb, _, hown, hts⟩ := id C
  have hS : va_S A xs.heap xs.heap [] := va_S.rf
  have hl := lv_entry ([.ref a, .int (nI i)]) (n := 3) (Nat.le_of_ble_eq_true rfl)
  rw [lg_entry_eq]
  generalize (lg_sl ([.ref a, .int (nI i)]) ++ List.replicate (3 - (lg_sl ([.ref a, .int (nI i)])).length) Slot.unset).toArray = ls at hl ⊢
  have hl : lv_has ls 3 [(0, .ref a), (1, .int (nI i))] := hl
  refine lv_iload_n hx hb dX4_closeGap_0 rfl (lv_at hl 1 rfl) ?_
  refine lv_iconst (v := nI 0) hx hb dX4_closeGap_1 (by decide) ?_
  refine va_mmax hx hb (hml.trans hl.1.symm) hown (hts _ (List.mem_of_getElem? (i := 1) rfl)) (hts _ (List.mem_of_getElem? (i := 2) rfl)) (hts _ (List.mem_of_getElem? (i := 3) rfl)) (hts _ (List.mem_of_getElem? (i := 4) rfl)) (Nat.le_of_ble_eq_true rfl) (Nat.le_of_ble_eq_true rfl) (Nat.le_of_ble_eq_true rfl) (Nat.le_of_ble_eq_true rfl) dX4_closeGap_2 ?_
  refine xTop (y := nI (max i 0)) (nI_max (by omega) (by decide)) ?_
  refine xTop (y := nI i) (by rw [Nat.max_eq_left (Nat.zero_le i)]) ?_
  refine lv_istore_n (lv' := [(2, .int (nI i)), (0, .ref a), (1, .int (nI i))]) hx hb dX4_closeGap_5 rfl hl (by decide) rfl (fun ls hl => ?_)
  rw [← gapF_0 f i] at hP hD
  have L6 : ∀ (fuel : Nat), ∀ (j : Nat) (hmu : N - j < fuel) (hj : i ≤ j) (hj2 : j ≤ N - 1) (H : Heap) (locs : List Loc) (_ : va_P D vwCl [(a, .inl (kA 0, N, .inl (gapF f i j)))] H) (_ : va_D A [(a, .inl (kA 0, N, .inl (gapF f i j)))]) (_ : va_S A xs.heap H locs) (ls : Array Slot) (_ : lv_has ls 3 [(2, .int (nI j)), (0, .ref a), (1, .int (nI i))]), W xp xl xe (headSpec wsX4_closeGap { frames := 1, cells := 0, slots := 0, locals := 40 }).room xs xm ([.ref a, .int (nI i)] : List Value).toArray xbe xme xc H locs 0 0 (MQ xbe (xQv D A (fun u => u = [(a, .inl (kA 0, N, .inl (gapF f i (N - 1))))])) ([.ref a, .int (nI i)] : List Value).toArray xs 0 0 A) (F0 xm 6 ls []) := by
    intro fuel
    induction fuel with
    | zero => intro j hmu; exact absurd hmu (Nat.not_lt_zero _)
    | succ fuel ih6 =>
      intro j hmu hj hj2 H locs hP hD hS ls hl
      refine lv_iload_n hx hb dX4_closeGap_6 rfl (lv_at hl 0 rfl) ?_
      refine lv_aload_n hx hb dX4_closeGap_7 rfl (lv_at hl 1 rfl) ?_
      refine xAlen C hN hP 0 0 rfl rfl dX4_closeGap_8 ?_
      refine lv_iconst (v := nI 1) hx hb dX4_closeGap_9 (by decide) ?_
      refine xIsub C (by omega) dX4_closeGap_10 ?_
      refine xIcmpGe C (tgt := 28) (by omega) (by omega) dX4_closeGap_11 (by decide) (fun h_11 => ?_) (fun h_11 => ?_)
      · skip
        exact xRetV hx hb hr (by rw [show j = N - 1 by omega]) hP hD hS dX4_closeGap_28 hlocks
      · skip
        refine lv_aload_n hx hb dX4_closeGap_14 rfl (lv_at hl 1 rfl) ?_
        refine lv_iload_n hx hb dX4_closeGap_15 rfl (lv_at hl 0 rfl) ?_
        refine lv_aload_n hx hb dX4_closeGap_16 rfl (lv_at hl 1 rfl) ?_
        refine lv_iload_n hx hb dX4_closeGap_17 rfl (lv_at hl 0 rfl) ?_
        refine lv_iconst (v := nI 1) hx hb dX4_closeGap_18 (by decide) ?_
        refine xIadd C dX4_closeGap_19 ?_
        refine xIald C hN hP 0 (j := j + 1) (v := f (j + 1)) rfl (by omega) (by omega) (gapF_hi f (by omega)) dX4_closeGap_20 ?_
        refine xIast C hN hP hD hS 0 (j := j) rfl (by omega) (by omega) dX4_closeGap_21 (fun H locs hP hD hS => ?_)
        rw [show upd (gapF f i j) (j) (f (j + 1)) = gapF f i (j + 1) from gapF_s f (by omega)] at hP hD
        have hP : va_P D vwCl [(a, .inl (kA 0, N, .inl (gapF f i (j + 1))))] H := hP
        have hD : va_D A [(a, .inl (kA 0, N, .inl (gapF f i (j + 1))))] := hD
        refine xIinc C (kx := 0) (d := 1) (lv' := [(2, .int (nI (j + 1))), (0, .ref a), (1, .int (nI i))]) dX4_closeGap_22 hl rfl (by decide) (by decide) rfl (fun ls hl => ?_)
        refine lv_goto (tgt := 6) hx hb dX4_closeGap_25 (by decide) ?_
        have hP : va_P D vwCl [(a, .inl (kA 0, N, .inl (gapF f i (j + 1))))] H := hP
        exact ih6 (j + 1) (by omega) (by omega) (by omega) _ _ hP hD hS _ (lv_sub hl [0, 1, 2] rfl)
  exact L6 _ i (Nat.lt_succ_self _) (Nat.le_refl _) (by omega) _ _ hP hD hS _ (lv_sub hl [0, 1, 2] rfl)

set_option maxHeartbeats 8000000 in
set_option maxRecDepth 100000 in
theorem c_X4_copyRow (xl : Launch) (D : va_G) (kA : Nat → ClassId) (a b N : Nat) (f h : Nat → Int32) (hN2 : N < 2 ^ 30) (A : Nat → Prop) : Met xl yX4_copyRow wsX4_copyRow { frames := 1, cells := 0, slots := 0, locals := 40 } (va_Pc [.ref a, .ref b] (xPw D kA A [(a, .inl (kA 0, N, .inl (f))), (b, .inl (kA 0, N, .inl (h)))])) (xQv D A (fun u => u = [(a, .inl (kA 0, N, .inl f)), (b, .inl (kA 0, N, .inl f))])) 0 0 A := by
  refine Met.ofW (cc := cX4_copyRow) (maxL := 2) (ret := none) (by decide) rfl ?_
  intro xp xe xs xm args xbe xme xc s₁ B hml hv
  obtain ⟨rfl, hP, hN, hD, hA⟩ := hv
  have hr := B.returns
  have C : CallFix xp xm xc cX4_copyRow 2 xs ([.ref a, .ref b] : List Value).toArray wsX4_copyRow RX4 := ⟨B.exec, B.bytes, hml, findClass_of_methodNamed B.named, atoms_spec (ws := wsX4_copyRow) B.pre⟩
  have hlocks := B.notSynchronized
  obtain ⟨hx, hb, _, hown, hts⟩ := id C
  have hS : va_S A xs.heap xs.heap [] := va_S.rf
  have hl := lv_entry ([.ref a, .ref b]) (n := 2) (Nat.le_of_ble_eq_true rfl)
  rw [lg_entry_eq]
  generalize (lg_sl ([.ref a, .ref b]) ++ List.replicate (2 - (lg_sl ([.ref a, .ref b])).length) Slot.unset).toArray = ls at hl ⊢
  have hl : lv_has ls 2 [(0, .ref a), (1, .ref b)] := hl
  refine lv_aload_n hx hb dX4_copyRow_0 rfl (lv_at hl 0 rfl) ?_
  refine lv_iconst (v := nI 0) hx hb dX4_copyRow_1 (by decide) ?_
  refine lv_aload_n hx hb dX4_copyRow_2 rfl (lv_at hl 1 rfl) ?_
  refine lv_iconst (v := nI 0) hx hb dX4_copyRow_3 (by decide) ?_
  refine lv_aload_n hx hb dX4_copyRow_4 rfl (lv_at hl 0 rfl) ?_
  refine xAlen C hN hP 0 0 rfl rfl dX4_copyRow_5 ?_
  refine lv_aload_n hx hb dX4_copyRow_6 rfl (lv_at hl 1 rfl) ?_
  refine xAlen C hN hP 1 0 rfl rfl dX4_copyRow_7 ?_
  refine va_mmin hx hb (hml.trans hl.1.symm) hown (hts _ (List.mem_of_getElem? (i := 1) rfl)) (hts _ (List.mem_of_getElem? (i := 2) rfl)) (hts _ (List.mem_of_getElem? (i := 3) rfl)) (hts _ (List.mem_of_getElem? (i := 4) rfl)) (Nat.le_of_ble_eq_true rfl) (Nat.le_of_ble_eq_true rfl) (Nat.le_of_ble_eq_true rfl) (Nat.le_of_ble_eq_true rfl) dX4_copyRow_8 ?_
  refine xTop (y := nI (min N N)) (nI_min (by omega) (by omega)) ?_
  refine xTop (y := nI N) (by rw [Nat.min_self]) ?_
  refine va_copyi hx hb (hml.trans hl.1.symm) hown (hts _ (List.mem_of_getElem? (i := 5) rfl)) (hts _ (List.mem_of_getElem? (i := 6) rfl)) (hts _ (List.mem_of_getElem? (i := 7) rfl)) (hts _ (List.mem_of_getElem? (i := 8) rfl)) hN.1 hP hD hS 0 1 0 0 rfl rfl rfl rfl rfl (nI_pos (by omega)) (nI_pos (by omega)) (nI_pos (by omega)) (by rw [nI_clamp (by omega), nI_clamp (by omega)]; omega) (by rw [nI_clamp (by omega), nI_clamp (by omega)]; omega) (fun _ _ => rfl) (Nat.le_of_ble_eq_true rfl) (Nat.le_of_ble_eq_true (by decide +kernel)) dX4_copyRow_11 (fun H locs hP hD hS => ?_)
  obtain ⟨hP, hD⟩ := xCpyAll (N := N) (f := f) (g := h) (by omega) hP hD
  have hP : va_P D vwCl [(a, .inl (kA 0, N, .inl (f))), (b, .inl (kA 0, N, .inl (f)))] H := hP
  have hD : va_D A [(a, .inl (kA 0, N, .inl (f))), (b, .inl (kA 0, N, .inl (f)))] := hD
  exact xRetV hx hb hr (rfl) hP hD hS dX4_copyRow_14 hlocks
end
section
set_option maxHeartbeats 8000000 in
set_option maxRecDepth 100000 in
theorem c_X2_has (xl : Launch) (D : va_G) (kA : Nat → ClassId) (a : Nat → Nat) (f : Nat → Nat → Int32) (n : Nat) (x : Int32) (hn : n ≤ 25) : Met xl yX2_has wsX2_has { frames := 0, cells := 0, slots := 0, locals := 0 } (va_Pc [.ref (a 0), .int x] (xPr D kA [((a 0), .inr (2, [.ref (a 1), .ref (a 2), .ref (a 3), .ref (a 4), .ref (a 5), .ref (a 6), .int (nI n)])), ((a 1), .inl (kA 0, 25, .inl (f 0))), ((a 2), .inl (kA 0, 25, .inl (f 1))), ((a 3), .inl (kA 0, 25, .inl (f 2))), ((a 4), .inl (kA 0, 25, .inl (f 3))), ((a 5), .inl (kA 0, 25, .inl (f 4))), ((a 6), .inl (kA 0, 25, .inl (f 5)))])) (vp_Si (fun r => r = bI (hasB n x))) 0 0 (fun _ => False) := by
  refine Met.ofW (cc := cX2_has) (maxL := 2) (ret := (some .boolean)) (by decide) rfl ?_
  intro xp xe xs xm args xbe xme xc s₁ B hml hv
  obtain ⟨rfl, hP, hN⟩ := hv
  have hr := B.returns
  have C : CallFix xp xm xc cX2_has 2 xs ([.ref (a 0), .int x] : List Value).toArray wsX2_has RX2 := ⟨B.exec, B.bytes, hml, findClass_of_methodNamed B.named, atoms_spec (ws := wsX2_has) B.pre⟩
  have hlocks := B.notSynchronized
  obtain ⟨hx, hb, _, hown, hts⟩ := id C
  have hl := lv_entry ([.ref (a 0), .int x]) (n := 2) (Nat.le_of_ble_eq_true rfl)
  rw [lg_entry_eq]
  generalize (lg_sl ([.ref (a 0), .int x]) ++ List.replicate (2 - (lg_sl ([.ref (a 0), .int x])).length) Slot.unset).toArray = ls at hl ⊢
  have hl : lv_has ls 2 [(0, .ref (a 0)), (1, .int x)] := hl
  refine lv_iload_n hx hb dX2_has_0 rfl (lv_at hl 1 rfl) ?_
  refine lv_if_lt (tgt := 16) hx hb dX2_has_1 (by decide) (fun h_1 => ?_) (fun h_1 => ?_)
  · skip
    refine lv_iconst (v := nI 0) hx hb dX2_has_16 (by decide) ?_
    exact xRoZ hx hb hr (v := nI 0) (xNar0) (by first | exact has_3 h_1 h_9 | exact has_2 h_9 | exact has_1 h_1) dX2_has_17 hlocks
  · skip
    refine lv_iload_n hx hb dX2_has_4 rfl (lv_at hl 1 rfl) ?_
    refine lv_aload_n hx hb dX2_has_5 rfl (lv_at hl 0 rfl) ?_
    refine xGet C hN hP 0 (j := 6) rfl rfl iX2_has_X2 (by decide) kX2_has_30 rfl rfl dX2_has_6 ?_
    refine lv_icmp_ge (tgt := 16) hx hb dX2_has_9 (by decide) (fun h_9 => ?_) (fun h_9 => ?_)
    · skip
      refine lv_iconst (v := nI 0) hx hb dX2_has_16 (by decide) ?_
      exact xRoZ hx hb hr (v := nI 0) (xNar0) (by first | exact has_3 h_1 h_9 | exact has_2 h_9 | exact has_1 h_1) dX2_has_17 hlocks
    · skip
      refine lv_iconst (v := nI 1) hx hb dX2_has_12 (by decide) ?_
      refine lv_goto (tgt := 17) hx hb dX2_has_13 (by decide) ?_
      exact xRoZ hx hb hr (v := nI 1) (xNar1) (by first | exact has_3 h_1 h_9 | exact has_2 h_9 | exact has_1 h_1) dX2_has_17 hlocks

set_option maxHeartbeats 8000000 in
set_option maxRecDepth 100000 in
theorem c_X2_sizeOfKind (xl : Launch) (D : va_G) (kA : Nat → ClassId) (a : Nat → Nat) (f : Nat → Nat → Int32) (n : Nat) (T : Nat → Nat → Nat) (hR : relT f n T) (hW : WfT n T) (hn : n ≤ 25) (kd : Nat) (hkd : kd < 3) : Met xl yX2_sizeOfKind wsX2_sizeOfKind { frames := 0, cells := 0, slots := 0, locals := 0 } (va_Pc [.ref (a 0), .int (nI kd)] (xPr D kA [((a 0), .inr (2, [.ref (a 1), .ref (a 2), .ref (a 3), .ref (a 4), .ref (a 5), .ref (a 6), .int (nI n)])), ((a 1), .inl (kA 0, 25, .inl (f 0))), ((a 2), .inl (kA 0, 25, .inl (f 1))), ((a 3), .inl (kA 0, 25, .inl (f 2))), ((a 4), .inl (kA 0, 25, .inl (f 3))), ((a 5), .inl (kA 0, 25, .inl (f 4))), ((a 6), .inl (kA 0, 25, .inl (f 5)))])) (vp_Si (fun r => r = nI (cntN n (fun j => T j 1 == kd)))) 0 0 (fun _ => False) := by
  refine Met.ofW (cc := cX2_sizeOfKind) (maxL := 4) (ret := (some .int)) (by decide) rfl ?_
  intro xp xe xs xm args xbe xme xc s₁ B hml hv
  obtain ⟨rfl, hP, hN⟩ := hv
  have hr := B.returns
  have C : CallFix xp xm xc cX2_sizeOfKind 4 xs ([.ref (a 0), .int (nI kd)] : List Value).toArray wsX2_sizeOfKind RX2 := ⟨B.exec, B.bytes, hml, findClass_of_methodNamed B.named, atoms_spec (ws := wsX2_sizeOfKind) B.pre⟩
  have hlocks := B.notSynchronized
  obtain ⟨hx, hb, _, hown, hts⟩ := id C
  have hl := lv_entry ([.ref (a 0), .int (nI kd)]) (n := 4) (Nat.le_of_ble_eq_true rfl)
  rw [lg_entry_eq]
  generalize (lg_sl ([.ref (a 0), .int (nI kd)]) ++ List.replicate (4 - (lg_sl ([.ref (a 0), .int (nI kd)])).length) Slot.unset).toArray = ls at hl ⊢
  have hl : lv_has ls 4 [(0, .ref (a 0)), (1, .int (nI kd))] := hl
  refine lv_iconst (v := nI 0) hx hb dX2_sizeOfKind_0 (by decide) ?_
  refine lv_istore_n (lv' := [(2, .int (nI 0)), (0, .ref (a 0)), (1, .int (nI kd))]) hx hb dX2_sizeOfKind_1 rfl hl (by decide) rfl (fun ls hl => ?_)
  refine lv_iconst (v := nI 0) hx hb dX2_sizeOfKind_2 (by decide) ?_
  refine lv_istore_n (lv' := [(3, .int (nI 0)), (2, .int (nI 0)), (0, .ref (a 0)), (1, .int (nI kd))]) hx hb dX2_sizeOfKind_3 rfl hl (by decide) rfl (fun ls hl => ?_)
  have L4 : ∀ (fuel : Nat), ∀ (i : Nat) (v : Nat) (hmu : n - i < fuel) (hi : i ≤ n) (hv : v = cntN i (fun j => T j 1 == kd)) (ls : Array Slot) (_ : lv_has ls 4 [(3, .int (nI i)), (2, .int (nI v)), (0, .ref (a 0)), (1, .int (nI kd))]), W xp xl xe (headSpec wsX2_sizeOfKind { frames := 0, cells := 0, slots := 0, locals := 0 }).room xs xm ([.ref (a 0), .int (nI kd)] : List Value).toArray xbe xme xc xs.heap [] 0 0 (MQ xbe (vp_Si (fun r => r = nI (cntN n (fun j => T j 1 == kd)))) ([.ref (a 0), .int (nI kd)] : List Value).toArray xs 0 0 (fun _ => False)) (F0 xm 4 ls []) := by
    intro fuel
    induction fuel with
    | zero => intro i v hmu; exact absurd hmu (Nat.not_lt_zero _)
    | succ fuel ih4 =>
      intro i v hmu hi hv ls hl
      refine lv_iload_n hx hb dX2_sizeOfKind_4 rfl (lv_at hl 0 rfl) ?_
      refine lv_aload_n hx hb dX2_sizeOfKind_5 rfl (lv_at hl 2 rfl) ?_
      refine xGet C hN hP 0 (j := 6) rfl rfl iX2_sizeOfKind_X2 (by decide) kX2_sizeOfKind_30 rfl rfl dX2_sizeOfKind_6 ?_
      refine xIcmpGe C (tgt := 31) (by omega) (by omega) dX2_sizeOfKind_9 (by decide) (fun h_9 => ?_) (fun h_9 => ?_)
      · skip
        refine lv_iload_n hx hb dX2_sizeOfKind_31 rfl (lv_at hl 1 rfl) ?_
        exact xRoI hx hb hr (v := nI v) (by rw [hv, show i = n by omega]) dX2_sizeOfKind_32 hlocks
      · skip
        refine lv_aload_n hx hb dX2_sizeOfKind_12 rfl (lv_at hl 2 rfl) ?_
        refine xGet C hN hP 0 (j := 1) rfl rfl iX2_sizeOfKind_X2 (by decide) kX2_sizeOfKind_15 rfl rfl dX2_sizeOfKind_13 ?_
        refine lv_iload_n hx hb dX2_sizeOfKind_16 rfl (lv_at hl 0 rfl) ?_
        refine xIald C hN hP 2 (j := i) (v := nI (T i 1)) rfl (by omega) (by decide) ((hR i (by omega)).2.1) dX2_sizeOfKind_17 ?_
        refine lv_iload_n hx hb dX2_sizeOfKind_18 rfl (lv_at hl 3 rfl) ?_
        refine xIcmpNe C (tgt := 25) (by have := hW i (by omega); omega) (by omega) dX2_sizeOfKind_19 (by decide) (fun h_19 => ?_) (fun h_19 => ?_)
        · skip
          refine xIinc C (kx := 0) (d := 1) (lv' := [(3, .int (nI (i + 1))), (2, .int (nI v)), (0, .ref (a 0)), (1, .int (nI kd))]) dX2_sizeOfKind_25 hl rfl (by decide) (by decide) rfl (fun ls hl => ?_)
          refine lv_goto (tgt := 4) hx hb dX2_sizeOfKind_28 (by decide) ?_
          exact ih4 (i + 1) v (by omega) (by omega) (by rw [cntN_succ, hv]; simp [h_19]) _ (lv_sub hl [0, 1, 2, 3] rfl)
        · skip
          refine xIinc C (kx := 1) (d := 1) (lv' := [(2, .int (nI (v + 1))), (3, .int (nI i)), (0, .ref (a 0)), (1, .int (nI kd))]) dX2_sizeOfKind_22 hl rfl (by decide) (by decide) rfl (fun ls hl => ?_)
          refine xIinc C (kx := 1) (d := 1) (lv' := [(3, .int (nI (i + 1))), (2, .int (nI (v + 1))), (0, .ref (a 0)), (1, .int (nI kd))]) dX2_sizeOfKind_25 hl rfl (by decide) (by decide) rfl (fun ls hl => ?_)
          refine lv_goto (tgt := 4) hx hb dX2_sizeOfKind_28 (by decide) ?_
          exact ih4 (i + 1) (v + 1) (by omega) (by omega) (by rw [cntN_succ, hv]; simp [h_19]) _ (lv_sub hl [0, 1, 2, 3] rfl)
  exact L4 _ 0 0 (Nat.lt_succ_self _) (by omega) rfl _ (lv_sub hl [0, 1, 2, 3] rfl)

set_option maxHeartbeats 8000000 in
set_option maxRecDepth 100000 in
theorem c_X2_areAtOdds (xl : Launch) (D : va_G) (kA : Nat → ClassId) (a : Nat → Nat) (f : Nat → Nat → Int32) (n : Nat) (T : Nat → Nat → Nat) (hR : relT f n T) (hW : WfT n T) (hn : n ≤ 25) (i j : Nat) (hi : i < n) (hj : j < n) : Met xl yX2_areAtOdds wsX2_areAtOdds { frames := 0, cells := 0, slots := 0, locals := 0 } (va_Pc [.ref (a 0), .int (nI i), .int (nI j)] (xPr D kA [((a 0), .inr (2, [.ref (a 1), .ref (a 2), .ref (a 3), .ref (a 4), .ref (a 5), .ref (a 6), .int (nI n)])), ((a 1), .inl (kA 0, 25, .inl (f 0))), ((a 2), .inl (kA 0, 25, .inl (f 1))), ((a 3), .inl (kA 0, 25, .inl (f 2))), ((a 4), .inl (kA 0, 25, .inl (f 3))), ((a 5), .inl (kA 0, 25, .inl (f 4))), ((a 6), .inl (kA 0, 25, .inl (f 5)))])) (vp_Si (fun r => r = bI (oddT T i j))) 0 0 (fun _ => False) := by
  refine Met.ofW (cc := cX2_areAtOdds) (maxL := 3) (ret := (some .boolean)) (by decide) rfl ?_
  intro xp xe xs xm args xbe xme xc s₁ B hml hv
  obtain ⟨rfl, hP, hN⟩ := hv
  have hr := B.returns
  have C : CallFix xp xm xc cX2_areAtOdds 3 xs ([.ref (a 0), .int (nI i), .int (nI j)] : List Value).toArray wsX2_areAtOdds RX2 := ⟨B.exec, B.bytes, hml, findClass_of_methodNamed B.named, atoms_spec (ws := wsX2_areAtOdds) B.pre⟩
  have hlocks := B.notSynchronized
  obtain ⟨hx, hb, _, hown, hts⟩ := id C
  have hl := lv_entry ([.ref (a 0), .int (nI i), .int (nI j)]) (n := 3) (Nat.le_of_ble_eq_true rfl)
  rw [lg_entry_eq]
  generalize (lg_sl ([.ref (a 0), .int (nI i), .int (nI j)]) ++ List.replicate (3 - (lg_sl ([.ref (a 0), .int (nI i), .int (nI j)])).length) Slot.unset).toArray = ls at hl ⊢
  have hl : lv_has ls 3 [(0, .ref (a 0)), (1, .int (nI i)), (2, .int (nI j))] := hl
  refine lv_aload_n hx hb dX2_areAtOdds_0 rfl (lv_at hl 0 rfl) ?_
  refine xGet C hN hP 0 (j := 1) rfl rfl iX2_areAtOdds_X2 (by decide) kX2_areAtOdds_15 rfl rfl dX2_areAtOdds_1 ?_
  refine lv_iload_n hx hb dX2_areAtOdds_4 rfl (lv_at hl 1 rfl) ?_
  refine xIald C hN hP 2 (j := i) (v := nI (T i 1)) rfl (by omega) (by decide) ((hR i (by omega)).2.1) dX2_areAtOdds_5 ?_
  refine lv_iconst (v := nI 1) hx hb dX2_areAtOdds_6 (by decide) ?_
  refine xIcmpNe C (tgt := 14) (by have := hW i (by omega); omega) (by decide) dX2_areAtOdds_7 (by decide) (fun h_7 => ?_) (fun h_7 => ?_)
  · skip
    refine lv_iconst (v := nI 0) hx hb dX2_areAtOdds_14 (by decide) ?_
    refine lv_aload_n hx hb dX2_areAtOdds_15 rfl (lv_at hl 0 rfl) ?_
    refine xGet C hN hP 0 (j := 1) rfl rfl iX2_areAtOdds_X2 (by decide) kX2_areAtOdds_15 rfl rfl dX2_areAtOdds_16 ?_
    refine lv_iload_n hx hb dX2_areAtOdds_19 rfl (lv_at hl 2 rfl) ?_
    refine xIald C hN hP 2 (j := j) (v := nI (T j 1)) rfl (by omega) (by decide) ((hR j (by omega)).2.1) dX2_areAtOdds_20 ?_
    refine lv_iconst (v := nI 1) hx hb dX2_areAtOdds_21 (by decide) ?_
    refine xIcmpNe C (tgt := 29) (by have := hW j (by omega); omega) (by decide) dX2_areAtOdds_22 (by decide) (fun h_22 => ?_) (fun h_22 => ?_)
    · skip
      refine lv_iconst (v := nI 0) hx hb dX2_areAtOdds_29 (by decide) ?_
      refine xIcmpEq C (tgt := 53) (by decide) (by decide) dX2_areAtOdds_30 (by decide) (fun h_30 => ?_) (fun h_30 => ?_)
      · skip
        refine lv_iconst (v := nI 0) hx hb dX2_areAtOdds_53 (by decide) ?_
        exact xRoZ hx hb hr (v := nI 0) (xNar0) (by first | exact oddT_n (meetT_f (hW i hi) (hW j hj) h_46) | exact oddT_o (by omega) (meetT_t (hW i hi) (hW j hj) h_46) | exact oddT_z (by omega)) dX2_areAtOdds_54 hlocks
      · exact absurd h_30 (by decide)
    · skip
      refine lv_iconst (v := nI 1) hx hb dX2_areAtOdds_25 (by decide) ?_
      refine lv_goto (tgt := 30) hx hb dX2_areAtOdds_26 (by decide) ?_
      refine xIcmpEq C (tgt := 53) (by decide) (by decide) dX2_areAtOdds_30 (by decide) (fun h_30 => ?_) (fun h_30 => ?_)
      · exact absurd h_30 (by decide)
      · skip
        refine lv_aload_n hx hb dX2_areAtOdds_33 rfl (lv_at hl 0 rfl) ?_
        refine xGet C hN hP 0 (j := 5) rfl rfl iX2_areAtOdds_X2 (by decide) kX2_areAtOdds_27 rfl rfl dX2_areAtOdds_34 ?_
        refine lv_iload_n hx hb dX2_areAtOdds_37 rfl (lv_at hl 1 rfl) ?_
        refine xIald C hN hP 6 (j := i) (v := mk (pfit (T i 2) (T i 3))) rfl (by omega) (by decide) ((hR i (by omega)).2.2.2.2.2) dX2_areAtOdds_38 ?_
        refine lv_aload_n hx hb dX2_areAtOdds_39 rfl (lv_at hl 0 rfl) ?_
        refine xGet C hN hP 0 (j := 5) rfl rfl iX2_areAtOdds_X2 (by decide) kX2_areAtOdds_27 rfl rfl dX2_areAtOdds_40 ?_
        refine lv_iload_n hx hb dX2_areAtOdds_43 rfl (lv_at hl 2 rfl) ?_
        refine xIald C hN hP 6 (j := j) (v := mk (pfit (T j 2) (T j 3))) rfl (by omega) (by decide) ((hR j (by omega)).2.2.2.2.2) dX2_areAtOdds_44 ?_
        refine lv_iand hx hb dX2_areAtOdds_45 ?_
        refine lv_if_eq (tgt := 53) hx hb dX2_areAtOdds_46 (by decide) (fun h_46 => ?_) (fun h_46 => ?_)
        · skip
          refine lv_iconst (v := nI 0) hx hb dX2_areAtOdds_53 (by decide) ?_
          exact xRoZ hx hb hr (v := nI 0) (xNar0) (by first | exact oddT_n (meetT_f (hW i hi) (hW j hj) h_46) | exact oddT_o (by omega) (meetT_t (hW i hi) (hW j hj) h_46) | exact oddT_z (by omega)) dX2_areAtOdds_54 hlocks
        · skip
          refine lv_iconst (v := nI 1) hx hb dX2_areAtOdds_49 (by decide) ?_
          refine lv_goto (tgt := 54) hx hb dX2_areAtOdds_50 (by decide) ?_
          exact xRoZ hx hb hr (v := nI 1) (xNar1) (by first | exact oddT_n (meetT_f (hW i hi) (hW j hj) h_46) | exact oddT_o (by omega) (meetT_t (hW i hi) (hW j hj) h_46) | exact oddT_z (by omega)) dX2_areAtOdds_54 hlocks
  · skip
    refine lv_iconst (v := nI 1) hx hb dX2_areAtOdds_10 (by decide) ?_
    refine lv_goto (tgt := 15) hx hb dX2_areAtOdds_11 (by decide) ?_
    refine lv_aload_n hx hb dX2_areAtOdds_15 rfl (lv_at hl 0 rfl) ?_
    refine xGet C hN hP 0 (j := 1) rfl rfl iX2_areAtOdds_X2 (by decide) kX2_areAtOdds_15 rfl rfl dX2_areAtOdds_16 ?_
    refine lv_iload_n hx hb dX2_areAtOdds_19 rfl (lv_at hl 2 rfl) ?_
    refine xIald C hN hP 2 (j := j) (v := nI (T j 1)) rfl (by omega) (by decide) ((hR j (by omega)).2.1) dX2_areAtOdds_20 ?_
    refine lv_iconst (v := nI 1) hx hb dX2_areAtOdds_21 (by decide) ?_
    refine xIcmpNe C (tgt := 29) (by have := hW j (by omega); omega) (by decide) dX2_areAtOdds_22 (by decide) (fun h_22 => ?_) (fun h_22 => ?_)
    · skip
      refine lv_iconst (v := nI 0) hx hb dX2_areAtOdds_29 (by decide) ?_
      refine xIcmpEq C (tgt := 53) (by decide) (by decide) dX2_areAtOdds_30 (by decide) (fun h_30 => ?_) (fun h_30 => ?_)
      · exact absurd h_30 (by decide)
      · skip
        refine lv_aload_n hx hb dX2_areAtOdds_33 rfl (lv_at hl 0 rfl) ?_
        refine xGet C hN hP 0 (j := 5) rfl rfl iX2_areAtOdds_X2 (by decide) kX2_areAtOdds_27 rfl rfl dX2_areAtOdds_34 ?_
        refine lv_iload_n hx hb dX2_areAtOdds_37 rfl (lv_at hl 1 rfl) ?_
        refine xIald C hN hP 6 (j := i) (v := mk (pfit (T i 2) (T i 3))) rfl (by omega) (by decide) ((hR i (by omega)).2.2.2.2.2) dX2_areAtOdds_38 ?_
        refine lv_aload_n hx hb dX2_areAtOdds_39 rfl (lv_at hl 0 rfl) ?_
        refine xGet C hN hP 0 (j := 5) rfl rfl iX2_areAtOdds_X2 (by decide) kX2_areAtOdds_27 rfl rfl dX2_areAtOdds_40 ?_
        refine lv_iload_n hx hb dX2_areAtOdds_43 rfl (lv_at hl 2 rfl) ?_
        refine xIald C hN hP 6 (j := j) (v := mk (pfit (T j 2) (T j 3))) rfl (by omega) (by decide) ((hR j (by omega)).2.2.2.2.2) dX2_areAtOdds_44 ?_
        refine lv_iand hx hb dX2_areAtOdds_45 ?_
        refine lv_if_eq (tgt := 53) hx hb dX2_areAtOdds_46 (by decide) (fun h_46 => ?_) (fun h_46 => ?_)
        · skip
          refine lv_iconst (v := nI 0) hx hb dX2_areAtOdds_53 (by decide) ?_
          exact xRoZ hx hb hr (v := nI 0) (xNar0) (by first | exact oddT_n (meetT_f (hW i hi) (hW j hj) h_46) | exact oddT_o (by omega) (meetT_t (hW i hi) (hW j hj) h_46) | exact oddT_z (by omega)) dX2_areAtOdds_54 hlocks
        · skip
          refine lv_iconst (v := nI 1) hx hb dX2_areAtOdds_49 (by decide) ?_
          refine lv_goto (tgt := 54) hx hb dX2_areAtOdds_50 (by decide) ?_
          exact xRoZ hx hb hr (v := nI 1) (xNar1) (by first | exact oddT_n (meetT_f (hW i hi) (hW j hj) h_46) | exact oddT_o (by omega) (meetT_t (hW i hi) (hW j hj) h_46) | exact oddT_z (by omega)) dX2_areAtOdds_54 hlocks
    · skip
      refine lv_iconst (v := nI 1) hx hb dX2_areAtOdds_25 (by decide) ?_
      refine lv_goto (tgt := 30) hx hb dX2_areAtOdds_26 (by decide) ?_
      refine xIcmpEq C (tgt := 53) (by decide) (by decide) dX2_areAtOdds_30 (by decide) (fun h_30 => ?_) (fun h_30 => ?_)
      · skip
        refine lv_iconst (v := nI 0) hx hb dX2_areAtOdds_53 (by decide) ?_
        exact xRoZ hx hb hr (v := nI 0) (xNar0) (by first | exact oddT_n (meetT_f (hW i hi) (hW j hj) h_46) | exact oddT_o (by omega) (meetT_t (hW i hi) (hW j hj) h_46) | exact oddT_z (by omega)) dX2_areAtOdds_54 hlocks
      · exact absurd h_30 (by decide)

set_option maxHeartbeats 8000000 in
set_option maxRecDepth 100000 in
theorem c_X2_oddsOf (xl : Launch) (D : va_G) (kA : Nat → ClassId) (a : Nat → Nat) (f : Nat → Nat → Int32) (n : Nat) (T : Nat → Nat → Nat) (hR : relT f n T) (hW : WfT n T) (hn : n ≤ 25) (i : Nat) (hi : i < n) : Met xl yX2_oddsOf wsX2_oddsOf { frames := 1, cells := 0, slots := 0, locals := 22 } (va_Pc [.ref (a 0), .int (nI i)] (xPr D kA [((a 0), .inr (2, [.ref (a 1), .ref (a 2), .ref (a 3), .ref (a 4), .ref (a 5), .ref (a 6), .int (nI n)])), ((a 1), .inl (kA 0, 25, .inl (f 0))), ((a 2), .inl (kA 0, 25, .inl (f 1))), ((a 3), .inl (kA 0, 25, .inl (f 2))), ((a 4), .inl (kA 0, 25, .inl (f 3))), ((a 5), .inl (kA 0, 25, .inl (f 4))), ((a 6), .inl (kA 0, 25, .inl (f 5)))])) (vp_Si (fun r => r = nI (cntN n (fun j => oddT T i j)))) 0 0 (fun _ => False) := by
  refine Met.ofW (cc := cX2_oddsOf) (maxL := 4) (ret := (some .int)) (by decide) rfl ?_
  intro xp xe xs xm args xbe xme xc s₁ B hml hv
  obtain ⟨rfl, hP, hN⟩ := hv
  have hr := B.returns
  have C : CallFix xp xm xc cX2_oddsOf 4 xs ([.ref (a 0), .int (nI i)] : List Value).toArray wsX2_oddsOf RX2 := ⟨B.exec, B.bytes, hml, findClass_of_methodNamed B.named, atoms_spec (ws := wsX2_oddsOf) B.pre⟩
  have hlocks := B.notSynchronized
  obtain ⟨hx, hb, _, hown, hts⟩ := id C
  have hl := lv_entry ([.ref (a 0), .int (nI i)]) (n := 4) (Nat.le_of_ble_eq_true rfl)
  rw [lg_entry_eq]
  generalize (lg_sl ([.ref (a 0), .int (nI i)]) ++ List.replicate (4 - (lg_sl ([.ref (a 0), .int (nI i)])).length) Slot.unset).toArray = ls at hl ⊢
  have hl : lv_has ls 4 [(0, .ref (a 0)), (1, .int (nI i))] := hl
  refine lv_iconst (v := nI 0) hx hb dX2_oddsOf_0 (by decide) ?_
  refine lv_istore_n (lv' := [(2, .int (nI 0)), (0, .ref (a 0)), (1, .int (nI i))]) hx hb dX2_oddsOf_1 rfl hl (by decide) rfl (fun ls hl => ?_)
  refine lv_iconst (v := nI 0) hx hb dX2_oddsOf_2 (by decide) ?_
  refine lv_istore_n (lv' := [(3, .int (nI 0)), (2, .int (nI 0)), (0, .ref (a 0)), (1, .int (nI i))]) hx hb dX2_oddsOf_3 rfl hl (by decide) rfl (fun ls hl => ?_)
  have L4 : ∀ (fuel : Nat), ∀ (q : Nat) (v : Nat) (hmu : n - q < fuel) (hq : q ≤ n) (hv : v = cntN q (fun j => oddT T i j)) (ls : Array Slot) (_ : lv_has ls 4 [(3, .int (nI q)), (2, .int (nI v)), (0, .ref (a 0)), (1, .int (nI i))]), W xp xl xe (headSpec wsX2_oddsOf { frames := 1, cells := 0, slots := 0, locals := 22 }).room xs xm ([.ref (a 0), .int (nI i)] : List Value).toArray xbe xme xc xs.heap [] 0 0 (MQ xbe (vp_Si (fun r => r = nI (cntN n (fun j => oddT T i j)))) ([.ref (a 0), .int (nI i)] : List Value).toArray xs 0 0 (fun _ => False)) (F0 xm 4 ls []) := by
    intro fuel
    induction fuel with
    | zero => intro q v hmu; exact absurd hmu (Nat.not_lt_zero _)
    | succ fuel ih4 =>
      intro q v hmu hq hv ls hl
      refine lv_iload_n hx hb dX2_oddsOf_4 rfl (lv_at hl 0 rfl) ?_
      refine lv_aload_n hx hb dX2_oddsOf_5 rfl (lv_at hl 2 rfl) ?_
      refine xGet C hN hP 0 (j := 6) rfl rfl iX2_oddsOf_X2 (by decide) kX2_oddsOf_30 rfl rfl dX2_oddsOf_6 ?_
      refine xIcmpGe C (tgt := 30) (by omega) (by omega) dX2_oddsOf_9 (by decide) (fun h_9 => ?_) (fun h_9 => ?_)
      · skip
        refine lv_iload_n hx hb dX2_oddsOf_30 rfl (lv_at hl 1 rfl) ?_
        exact xRoI hx hb hr (v := nI v) (by rw [hv, show q = n by omega]) dX2_oddsOf_31 hlocks
      · skip
        refine lv_aload_n hx hb dX2_oddsOf_12 rfl (lv_at hl 2 rfl) ?_
        refine lv_iload_n hx hb dX2_oddsOf_13 rfl (lv_at hl 3 rfl) ?_
        refine lv_iload_n hx hb dX2_oddsOf_14 rfl (lv_at hl 0 rfl) ?_
        refine xVro C hN (As := [.int (nI i), .int (nI q)]) (rest := []) (q0 := 0) (c_X2_areAtOdds xl D kA a f n T hR hW hn i q hi (by omega)) (cwV 2 hts gX2_oddsOf_X2_areAtOdds rfl rfl rfl (by decide +kernel) ⟨Nat.le_of_ble_eq_true rfl, Nat.le_of_ble_eq_true rfl⟩) hP rfl rfl rfl rfl hl.1 rfl (Nat.le_of_ble_eq_true rfl) dX2_oddsOf_15 ⟨Nat.le_of_ble_eq_true rfl, Nat.le_of_ble_eq_true rfl⟩ ?_
        refine xIfEqB C (tgt := 24) dX2_oddsOf_18 (by decide) (fun h_18 => ?_) (fun h_18 => ?_)
        · skip
          refine xIinc C (kx := 0) (d := 1) (lv' := [(3, .int (nI (q + 1))), (2, .int (nI v)), (0, .ref (a 0)), (1, .int (nI i))]) dX2_oddsOf_24 hl rfl (by decide) (by decide) rfl (fun ls hl => ?_)
          refine lv_goto (tgt := 4) hx hb dX2_oddsOf_27 (by decide) ?_
          exact ih4 (q + 1) v (by omega) (by omega) (by rw [cntN_succ, hv]; simp [h_18]) _ (lv_sub hl [0, 1, 2, 3] rfl)
        · skip
          refine xIinc C (kx := 1) (d := 1) (lv' := [(2, .int (nI (v + 1))), (3, .int (nI q)), (0, .ref (a 0)), (1, .int (nI i))]) dX2_oddsOf_21 hl rfl (by decide) (by decide) rfl (fun ls hl => ?_)
          refine xIinc C (kx := 1) (d := 1) (lv' := [(3, .int (nI (q + 1))), (2, .int (nI (v + 1))), (0, .ref (a 0)), (1, .int (nI i))]) dX2_oddsOf_24 hl rfl (by decide) (by decide) rfl (fun ls hl => ?_)
          refine lv_goto (tgt := 4) hx hb dX2_oddsOf_27 (by decide) ?_
          exact ih4 (q + 1) (v + 1) (by omega) (by omega) (by rw [cntN_succ, hv]; simp [h_18]) _ (lv_sub hl [0, 1, 2, 3] rfl)
  exact L4 _ 0 0 (Nat.lt_succ_self _) (by omega) rfl _ (lv_sub hl [0, 1, 2, 3] rfl)

set_option maxHeartbeats 8000000 in
set_option maxRecDepth 100000 in
theorem c_X2_oddPairs (xl : Launch) (D : va_G) (kA : Nat → ClassId) (a : Nat → Nat) (f : Nat → Nat → Int32) (n : Nat) (T : Nat → Nat → Nat) (hR : relT f n T) (hW : WfT n T) (hn : n ≤ 25) : Met xl yX2_oddPairs wsX2_oddPairs { frames := 2, cells := 0, slots := 0, locals := 45 } (va_Pc [.ref (a 0)] (xPr D kA [((a 0), .inr (2, [.ref (a 1), .ref (a 2), .ref (a 3), .ref (a 4), .ref (a 5), .ref (a 6), .int (nI n)])), ((a 1), .inl (kA 0, 25, .inl (f 0))), ((a 2), .inl (kA 0, 25, .inl (f 1))), ((a 3), .inl (kA 0, 25, .inl (f 2))), ((a 4), .inl (kA 0, 25, .inl (f 3))), ((a 5), .inl (kA 0, 25, .inl (f 4))), ((a 6), .inl (kA 0, 25, .inl (f 5)))])) (vp_Si (fun r => r = nI (oprT n T))) 0 0 (fun _ => False) := by
  refine Met.ofW (cc := cX2_oddPairs) (maxL := 3) (ret := (some .int)) (by decide) rfl ?_
  intro xp xe xs xm args xbe xme xc s₁ B hml hv
  obtain ⟨rfl, hP, hN⟩ := hv
  have hr := B.returns
  have C : CallFix xp xm xc cX2_oddPairs 3 xs ([.ref (a 0)] : List Value).toArray wsX2_oddPairs RX2 := ⟨B.exec, B.bytes, hml, findClass_of_methodNamed B.named, atoms_spec (ws := wsX2_oddPairs) B.pre⟩
  have hlocks := B.notSynchronized
  obtain ⟨hx, hb, _, hown, hts⟩ := id C
  have hl := lv_entry ([.ref (a 0)]) (n := 3) (Nat.le_of_ble_eq_true rfl)
  rw [lg_entry_eq]
  generalize (lg_sl ([.ref (a 0)]) ++ List.replicate (3 - (lg_sl ([.ref (a 0)])).length) Slot.unset).toArray = ls at hl ⊢
  have hl : lv_has ls 3 [(0, .ref (a 0))] := hl
  refine lv_iconst (v := nI 0) hx hb dX2_oddPairs_0 (by decide) ?_
  refine lv_istore_n (lv' := [(1, .int (nI 0)), (0, .ref (a 0))]) hx hb dX2_oddPairs_1 rfl hl (by decide) rfl (fun ls hl => ?_)
  refine lv_iconst (v := nI 0) hx hb dX2_oddPairs_2 (by decide) ?_
  refine lv_istore_n (lv' := [(2, .int (nI 0)), (1, .int (nI 0)), (0, .ref (a 0))]) hx hb dX2_oddPairs_3 rfl hl (by decide) rfl (fun ls hl => ?_)
  have L4 : ∀ (fuel : Nat), ∀ (i : Nat) (v : Nat) (hmu : n - i < fuel) (hi : i ≤ n) (hv : v = sumN i (fun i => if T i 1 = 1 then cntN n (fun j => oddT T i j) else 0)) (ls : Array Slot) (_ : lv_has ls 3 [(2, .int (nI i)), (1, .int (nI v)), (0, .ref (a 0))]), W xp xl xe (headSpec wsX2_oddPairs { frames := 2, cells := 0, slots := 0, locals := 45 }).room xs xm ([.ref (a 0)] : List Value).toArray xbe xme xc xs.heap [] 0 0 (MQ xbe (vp_Si (fun r => r = nI (oprT n T))) ([.ref (a 0)] : List Value).toArray xs 0 0 (fun _ => False)) (F0 xm 4 ls []) := by
    intro fuel
    induction fuel with
    | zero => intro i v hmu; exact absurd hmu (Nat.not_lt_zero _)
    | succ fuel ih4 =>
      intro i v hmu hi hv ls hl
      refine lv_iload_n hx hb dX2_oddPairs_4 rfl (lv_at hl 0 rfl) ?_
      refine lv_aload_n hx hb dX2_oddPairs_5 rfl (lv_at hl 2 rfl) ?_
      refine xGet C hN hP 0 (j := 6) rfl rfl iX2_oddPairs_X2 (by decide) kX2_oddPairs_30 rfl rfl dX2_oddPairs_6 ?_
      refine xIcmpGe C (tgt := 36) (by omega) (by omega) dX2_oddPairs_9 (by decide) (fun h_9 => ?_) (fun h_9 => ?_)
      · skip
        refine lv_iload_n hx hb dX2_oddPairs_36 rfl (lv_at hl 1 rfl) ?_
        exact xRoI hx hb hr (v := nI v) (by rw [hv, show i = n by omega]; rfl) dX2_oddPairs_37 hlocks
      · skip
        refine lv_aload_n hx hb dX2_oddPairs_12 rfl (lv_at hl 2 rfl) ?_
        refine xGet C hN hP 0 (j := 1) rfl rfl iX2_oddPairs_X2 (by decide) kX2_oddPairs_15 rfl rfl dX2_oddPairs_13 ?_
        refine lv_iload_n hx hb dX2_oddPairs_16 rfl (lv_at hl 0 rfl) ?_
        refine xIald C hN hP 2 (j := i) (v := nI (T i 1)) rfl (by omega) (by decide) ((hR i (by omega)).2.1) dX2_oddPairs_17 ?_
        refine lv_iconst (v := nI 1) hx hb dX2_oddPairs_18 (by decide) ?_
        refine xIcmpNe C (tgt := 30) (by have := hW i (by omega); omega) (by decide) dX2_oddPairs_19 (by decide) (fun h_19 => ?_) (fun h_19 => ?_)
        · skip
          refine xIinc C (kx := 0) (d := 1) (lv' := [(2, .int (nI (i + 1))), (1, .int (nI v)), (0, .ref (a 0))]) dX2_oddPairs_30 hl rfl (by decide) (by decide) rfl (fun ls hl => ?_)
          refine lv_goto (tgt := 4) hx hb dX2_oddPairs_33 (by decide) ?_
          exact ih4 (i + 1) v (by omega) (by omega) (by rw [sumN_succ, hv]; simp [h_19]) _ (lv_sub hl [0, 1, 2] rfl)
        · skip
          refine lv_iload_n hx hb dX2_oddPairs_22 rfl (lv_at hl 1 rfl) ?_
          refine lv_aload_n hx hb dX2_oddPairs_23 rfl (lv_at hl 2 rfl) ?_
          refine lv_iload_n hx hb dX2_oddPairs_24 rfl (lv_at hl 0 rfl) ?_
          refine xVro C hN (As := [.int (nI i)]) (rest := [.int (nI v)]) (q0 := 0) (c_X2_oddsOf xl D kA a f n T hR hW hn i (by omega)) (cwV 1 hts gX2_oddPairs_X2_oddsOf rfl rfl rfl (by decide +kernel) ⟨Nat.le_of_ble_eq_true rfl, Nat.le_of_ble_eq_true rfl⟩) hP rfl rfl rfl rfl hl.1 rfl (Nat.le_of_ble_eq_true rfl) dX2_oddPairs_25 ⟨Nat.le_of_ble_eq_true rfl, Nat.le_of_ble_eq_true rfl⟩ ?_
          refine xIadd C dX2_oddPairs_28 ?_
          refine lv_istore_n (lv' := [(1, .int (nI (v + (cntN n (fun j => oddT T i j))))), (2, .int (nI i)), (0, .ref (a 0))]) hx hb dX2_oddPairs_29 rfl hl (by decide) rfl (fun ls hl => ?_)
          refine xIinc C (kx := 1) (d := 1) (lv' := [(2, .int (nI (i + 1))), (1, .int (nI (v + (cntN n (fun j => oddT T i j))))), (0, .ref (a 0))]) dX2_oddPairs_30 hl rfl (by decide) (by decide) rfl (fun ls hl => ?_)
          refine lv_goto (tgt := 4) hx hb dX2_oddPairs_33 (by decide) ?_
          exact ih4 (i + 1) (v + (cntN n (fun j => oddT T i j))) (by omega) (by omega) (by rw [sumN_succ, hv]; simp [h_19]) _ (lv_sub hl [0, 1, 2] rfl)
  exact L4 _ 0 0 (Nat.lt_succ_self _) (by omega) rfl _ (lv_sub hl [0, 1, 2] rfl)

set_option maxHeartbeats 8000000 in
set_option maxRecDepth 100000 in
theorem c_X2_lifts (xl : Launch) (D : va_G) (kA : Nat → ClassId) (a : Nat → Nat) (f : Nat → Nat → Int32) (n : Nat) (T : Nat → Nat → Nat) (hR : relT f n T) (hW : WfT n T) (hn : n ≤ 25) (w b : Nat) (hw : w < n) (hb0 : b < n) : Met xl yX2_lifts wsX2_lifts { frames := 0, cells := 0, slots := 0, locals := 0 } (va_Pc [.ref (a 0), .int (nI w), .int (nI b)] (xPr D kA [((a 0), .inr (2, [.ref (a 1), .ref (a 2), .ref (a 3), .ref (a 4), .ref (a 5), .ref (a 6), .int (nI n)])), ((a 1), .inl (kA 0, 25, .inl (f 0))), ((a 2), .inl (kA 0, 25, .inl (f 1))), ((a 3), .inl (kA 0, 25, .inl (f 2))), ((a 4), .inl (kA 0, 25, .inl (f 3))), ((a 5), .inl (kA 0, 25, .inl (f 4))), ((a 6), .inl (kA 0, 25, .inl (f 5)))])) (vp_Si (fun r => r = bI (liftT T w b))) 0 0 (fun _ => False) := by
  refine Met.ofW (cc := cX2_lifts) (maxL := 3) (ret := (some .boolean)) (by decide) rfl ?_
  intro xp xe xs xm args xbe xme xc s₁ B hml hv
  obtain ⟨rfl, hP, hN⟩ := hv
  have hr := B.returns
  have C : CallFix xp xm xc cX2_lifts 3 xs ([.ref (a 0), .int (nI w), .int (nI b)] : List Value).toArray wsX2_lifts RX2 := ⟨B.exec, B.bytes, hml, findClass_of_methodNamed B.named, atoms_spec (ws := wsX2_lifts) B.pre⟩
  have hlocks := B.notSynchronized
  obtain ⟨hx, hb, _, hown, hts⟩ := id C
  have hl := lv_entry ([.ref (a 0), .int (nI w), .int (nI b)]) (n := 3) (Nat.le_of_ble_eq_true rfl)
  rw [lg_entry_eq]
  generalize (lg_sl ([.ref (a 0), .int (nI w), .int (nI b)]) ++ List.replicate (3 - (lg_sl ([.ref (a 0), .int (nI w), .int (nI b)])).length) Slot.unset).toArray = ls at hl ⊢
  have hl : lv_has ls 3 [(0, .ref (a 0)), (1, .int (nI w)), (2, .int (nI b))] := hl
  refine lv_aload_n hx hb dX2_lifts_0 rfl (lv_at hl 0 rfl) ?_
  refine xGet C hN hP 0 (j := 1) rfl rfl iX2_lifts_X2 (by decide) kX2_lifts_15 rfl rfl dX2_lifts_1 ?_
  refine lv_iload_n hx hb dX2_lifts_4 rfl (lv_at hl 1 rfl) ?_
  refine xIald C hN hP 2 (j := w) (v := nI (T w 1)) rfl (by omega) (by decide) ((hR w (by omega)).2.1) dX2_lifts_5 ?_
  refine lv_iconst (v := nI 2) hx hb dX2_lifts_6 (by decide) ?_
  refine xIcmpNe C (tgt := 44) (by have := hW w (by omega); omega) (by decide) dX2_lifts_7 (by decide) (fun h_7 => ?_) (fun h_7 => ?_)
  · skip
    refine lv_iconst (v := nI 0) hx hb dX2_lifts_44 (by decide) ?_
    exact xRoZ hx hb hr (v := nI 0) (xNar0) (by first | exact lift_o h_7 h_22 h_37 | exact lift_3 h_37 | exact lift_2 h_22 | exact lift_1 h_7) dX2_lifts_45 hlocks
  · skip
    refine lv_aload_n hx hb dX2_lifts_10 rfl (lv_at hl 0 rfl) ?_
    refine xGet C hN hP 0 (j := 0) rfl rfl iX2_lifts_X2 (by decide) kX2_lifts_11 rfl rfl dX2_lifts_11 ?_
    refine lv_iload_n hx hb dX2_lifts_14 rfl (lv_at hl 1 rfl) ?_
    refine xIald C hN hP 1 (j := w) (v := nI (T w 0)) rfl (by omega) (by decide) ((hR w (by omega)).1) dX2_lifts_15 ?_
    refine lv_aload_n hx hb dX2_lifts_16 rfl (lv_at hl 0 rfl) ?_
    refine xGet C hN hP 0 (j := 0) rfl rfl iX2_lifts_X2 (by decide) kX2_lifts_11 rfl rfl dX2_lifts_17 ?_
    refine lv_iload_n hx hb dX2_lifts_20 rfl (lv_at hl 2 rfl) ?_
    refine xIald C hN hP 1 (j := b) (v := nI (T b 0)) rfl (by omega) (by decide) ((hR b (by omega)).1) dX2_lifts_21 ?_
    refine xIcmpGt C (tgt := 44) (by have := hW w (by omega); omega) (by have := hW b (by omega); omega) dX2_lifts_22 (by decide) (fun h_22 => ?_) (fun h_22 => ?_)
    · skip
      refine lv_iconst (v := nI 0) hx hb dX2_lifts_44 (by decide) ?_
      exact xRoZ hx hb hr (v := nI 0) (xNar0) (by first | exact lift_o h_7 h_22 h_37 | exact lift_3 h_37 | exact lift_2 h_22 | exact lift_1 h_7) dX2_lifts_45 hlocks
    · skip
      refine lv_aload_n hx hb dX2_lifts_25 rfl (lv_at hl 0 rfl) ?_
      refine xGet C hN hP 0 (j := 4) rfl rfl iX2_lifts_X2 (by decide) kX2_lifts_24 rfl rfl dX2_lifts_26 ?_
      refine lv_iload_n hx hb dX2_lifts_29 rfl (lv_at hl 1 rfl) ?_
      refine xIald C hN hP 5 (j := w) (v := nI (T w 4)) rfl (by omega) (by decide) ((hR w (by omega)).2.2.2.2.1) dX2_lifts_30 ?_
      refine lv_aload_n hx hb dX2_lifts_31 rfl (lv_at hl 0 rfl) ?_
      refine xGet C hN hP 0 (j := 4) rfl rfl iX2_lifts_X2 (by decide) kX2_lifts_24 rfl rfl dX2_lifts_32 ?_
      refine lv_iload_n hx hb dX2_lifts_35 rfl (lv_at hl 2 rfl) ?_
      refine xIald C hN hP 5 (j := b) (v := nI (T b 4)) rfl (by omega) (by decide) ((hR b (by omega)).2.2.2.2.1) dX2_lifts_36 ?_
      refine xIcmpLt C (tgt := 44) (by have := hW w (by omega); omega) (by have := hW b (by omega); omega) dX2_lifts_37 (by decide) (fun h_37 => ?_) (fun h_37 => ?_)
      · skip
        refine lv_iconst (v := nI 0) hx hb dX2_lifts_44 (by decide) ?_
        exact xRoZ hx hb hr (v := nI 0) (xNar0) (by first | exact lift_o h_7 h_22 h_37 | exact lift_3 h_37 | exact lift_2 h_22 | exact lift_1 h_7) dX2_lifts_45 hlocks
      · skip
        refine lv_iconst (v := nI 1) hx hb dX2_lifts_40 (by decide) ?_
        refine lv_goto (tgt := 45) hx hb dX2_lifts_41 (by decide) ?_
        exact xRoZ hx hb hr (v := nI 1) (xNar1) (by first | exact lift_o h_7 h_22 h_37 | exact lift_3 h_37 | exact lift_2 h_22 | exact lift_1 h_7) dX2_lifts_45 hlocks

set_option maxHeartbeats 8000000 in
set_option maxRecDepth 100000 in
theorem c_X2_heldPairs (xl : Launch) (D : va_G) (kA : Nat → ClassId) (a : Nat → Nat) (f : Nat → Nat → Int32) (n : Nat) (T : Nat → Nat → Nat) (hR : relT f n T) (hW : WfT n T) (hn : n ≤ 25) (b : Nat) (hb0 : b < n) : Met xl yX2_heldPairs wsX2_heldPairs { frames := 1, cells := 0, slots := 0, locals := 22 } (va_Pc [.ref (a 0), .int (nI b)] (xPr D kA [((a 0), .inr (2, [.ref (a 1), .ref (a 2), .ref (a 3), .ref (a 4), .ref (a 5), .ref (a 6), .int (nI n)])), ((a 1), .inl (kA 0, 25, .inl (f 0))), ((a 2), .inl (kA 0, 25, .inl (f 1))), ((a 3), .inl (kA 0, 25, .inl (f 2))), ((a 4), .inl (kA 0, 25, .inl (f 3))), ((a 5), .inl (kA 0, 25, .inl (f 4))), ((a 6), .inl (kA 0, 25, .inl (f 5)))])) (vp_Si (fun r => r = mk (heldM n T b))) 0 0 (fun _ => False) := by
  refine Met.ofW (cc := cX2_heldPairs) (maxL := 4) (ret := (some .int)) (by decide) rfl ?_
  intro xp xe xs xm args xbe xme xc s₁ B hml hv
  obtain ⟨rfl, hP, hN⟩ := hv
  have hr := B.returns
  have C : CallFix xp xm xc cX2_heldPairs 4 xs ([.ref (a 0), .int (nI b)] : List Value).toArray wsX2_heldPairs RX2 := ⟨B.exec, B.bytes, hml, findClass_of_methodNamed B.named, atoms_spec (ws := wsX2_heldPairs) B.pre⟩
  have hlocks := B.notSynchronized
  obtain ⟨hx, hb, _, hown, hts⟩ := id C
  have hl := lv_entry ([.ref (a 0), .int (nI b)]) (n := 4) (Nat.le_of_ble_eq_true rfl)
  rw [lg_entry_eq]
  generalize (lg_sl ([.ref (a 0), .int (nI b)]) ++ List.replicate (4 - (lg_sl ([.ref (a 0), .int (nI b)])).length) Slot.unset).toArray = ls at hl ⊢
  have hl : lv_has ls 4 [(0, .ref (a 0)), (1, .int (nI b))] := hl
  refine lv_aload_n hx hb dX2_heldPairs_0 rfl (lv_at hl 0 rfl) ?_
  refine xGet C hN hP 0 (j := 5) rfl rfl iX2_heldPairs_X2 (by decide) kX2_heldPairs_27 rfl rfl dX2_heldPairs_1 ?_
  refine lv_iload_n hx hb dX2_heldPairs_4 rfl (lv_at hl 1 rfl) ?_
  refine xIald C hN hP 6 (j := b) (v := mk (pfit (T b 2) (T b 3))) rfl (by omega) (by decide) ((hR b (by omega)).2.2.2.2.2) dX2_heldPairs_5 ?_
  refine lv_istore_n (lv' := [(2, .int (mk (pfit (T b 2) (T b 3)))), (0, .ref (a 0)), (1, .int (nI b))]) hx hb dX2_heldPairs_6 rfl hl (by decide) rfl (fun ls hl => ?_)
  refine lv_iconst (v := nI 0) hx hb dX2_heldPairs_7 (by decide) ?_
  refine lv_istore_n (lv' := [(3, .int (nI 0)), (2, .int (mk (pfit (T b 2) (T b 3)))), (0, .ref (a 0)), (1, .int (nI b))]) hx hb dX2_heldPairs_8 rfl hl (by decide) rfl (fun ls hl => ?_)
  have L9 : ∀ (fuel : Nat), ∀ (i : Nat) (v : Int32) (hmu : n - i < fuel) (hi : i ≤ n) (hv : v = mk (heldP T b i)) (ls : Array Slot) (_ : lv_has ls 4 [(3, .int (nI i)), (2, .int v), (0, .ref (a 0)), (1, .int (nI b))]), W xp xl xe (headSpec wsX2_heldPairs { frames := 1, cells := 0, slots := 0, locals := 22 }).room xs xm ([.ref (a 0), .int (nI b)] : List Value).toArray xbe xme xc xs.heap [] 0 0 (MQ xbe (vp_Si (fun r => r = mk (heldM n T b))) ([.ref (a 0), .int (nI b)] : List Value).toArray xs 0 0 (fun _ => False)) (F0 xm 9 ls []) := by
    intro fuel
    induction fuel with
    | zero => intro i v hmu; exact absurd hmu (Nat.not_lt_zero _)
    | succ fuel ih9 =>
      intro i v hmu hi hv ls hl
      refine lv_iload_n hx hb dX2_heldPairs_9 rfl (lv_at hl 0 rfl) ?_
      refine lv_aload_n hx hb dX2_heldPairs_10 rfl (lv_at hl 2 rfl) ?_
      refine xGet C hN hP 0 (j := 6) rfl rfl iX2_heldPairs_X2 (by decide) kX2_heldPairs_30 rfl rfl dX2_heldPairs_11 ?_
      refine xIcmpGe C (tgt := 43) (by omega) (by omega) dX2_heldPairs_14 (by decide) (fun h_14 => ?_) (fun h_14 => ?_)
      · skip
        refine lv_iload_n hx hb dX2_heldPairs_43 rfl (lv_at hl 1 rfl) ?_
        exact xRoI hx hb hr (v := v) (by rw [hv, show i = n by omega]; exact heldP_n n T b) dX2_heldPairs_44 hlocks
      · skip
        refine lv_aload_n hx hb dX2_heldPairs_17 rfl (lv_at hl 2 rfl) ?_
        refine lv_iload_n hx hb dX2_heldPairs_18 rfl (lv_at hl 0 rfl) ?_
        refine lv_iload_n hx hb dX2_heldPairs_19 rfl (lv_at hl 3 rfl) ?_
        refine xVro C hN (As := [.int (nI i), .int (nI b)]) (rest := []) (q0 := 0) (c_X2_lifts xl D kA a f n T hR hW hn i b (by omega) hb0) (cwV 2 hts gX2_heldPairs_X2_lifts rfl rfl rfl (by decide +kernel) ⟨Nat.le_of_ble_eq_true rfl, Nat.le_of_ble_eq_true rfl⟩) hP rfl rfl rfl rfl hl.1 rfl (Nat.le_of_ble_eq_true rfl) dX2_heldPairs_20 ⟨Nat.le_of_ble_eq_true rfl, Nat.le_of_ble_eq_true rfl⟩ ?_
        refine xIfEqB C (tgt := 37) dX2_heldPairs_23 (by decide) (fun h_23 => ?_) (fun h_23 => ?_)
        · skip
          refine xIinc C (kx := 0) (d := 1) (lv' := [(3, .int (nI (i + 1))), (2, .int v), (0, .ref (a 0)), (1, .int (nI b))]) dX2_heldPairs_37 hl rfl (by decide) (by decide) rfl (fun ls hl => ?_)
          refine lv_goto (tgt := 9) hx hb dX2_heldPairs_40 (by decide) ?_
          exact ih9 (i + 1) v (by omega) (by omega) (by rw [hv]; first | exact heldP_t h_23 | exact heldP_f h_23) _ (lv_sub hl [0, 1, 2, 3] rfl)
        · skip
          refine lv_iload_n hx hb dX2_heldPairs_26 rfl (lv_at hl 1 rfl) ?_
          refine lv_aload_n hx hb dX2_heldPairs_27 rfl (lv_at hl 2 rfl) ?_
          refine xGet C hN hP 0 (j := 5) rfl rfl iX2_heldPairs_X2 (by decide) kX2_heldPairs_27 rfl rfl dX2_heldPairs_28 ?_
          refine lv_iload_n hx hb dX2_heldPairs_31 rfl (lv_at hl 0 rfl) ?_
          refine xIald C hN hP 6 (j := i) (v := mk (pfit (T i 2) (T i 3))) rfl (by omega) (by decide) ((hR i (by omega)).2.2.2.2.2) dX2_heldPairs_32 ?_
          refine lv_iconst (v := (-1)) hx hb dX2_heldPairs_33 (by decide) ?_
          refine lv_ixor hx hb dX2_heldPairs_34 ?_
          refine lv_iand hx hb dX2_heldPairs_35 ?_
          refine lv_istore_n (lv' := [(2, .int (v &&& ((mk (pfit (T i 2) (T i 3))) ^^^ (-1)))), (3, .int (nI i)), (0, .ref (a 0)), (1, .int (nI b))]) hx hb dX2_heldPairs_36 rfl hl (by decide) rfl (fun ls hl => ?_)
          refine xIinc C (kx := 1) (d := 1) (lv' := [(3, .int (nI (i + 1))), (2, .int (v &&& ((mk (pfit (T i 2) (T i 3))) ^^^ (-1)))), (0, .ref (a 0)), (1, .int (nI b))]) dX2_heldPairs_37 hl rfl (by decide) (by decide) rfl (fun ls hl => ?_)
          refine lv_goto (tgt := 9) hx hb dX2_heldPairs_40 (by decide) ?_
          exact ih9 (i + 1) (v &&& ((mk (pfit (T i 2) (T i 3))) ^^^ (-1))) (by omega) (by omega) (by rw [hv]; first | exact heldP_t h_23 | exact heldP_f h_23) _ (lv_sub hl [0, 1, 2, 3] rfl)
  exact L9 _ 0 (mk (pfit (T b 2) (T b 3))) (Nat.lt_succ_self _) (by omega) (heldP_0 T b) _ (lv_sub hl [0, 1, 2, 3] rfl)

set_option maxHeartbeats 8000000 in
set_option maxRecDepth 100000 in
theorem c_X2_permittedPairs (xl : Launch) (D : va_G) (kA : Nat → ClassId) (a : Nat → Nat) (f : Nat → Nat → Int32) (n : Nat) (T : Nat → Nat → Nat) (hR : relT f n T) (hW : WfT n T) (hn : n ≤ 25) : Met xl yX2_permittedPairs wsX2_permittedPairs { frames := 0, cells := 0, slots := 0, locals := 0 } (va_Pc [.ref (a 0)] (xPr D kA [((a 0), .inr (2, [.ref (a 1), .ref (a 2), .ref (a 3), .ref (a 4), .ref (a 5), .ref (a 6), .int (nI n)])), ((a 1), .inl (kA 0, 25, .inl (f 0))), ((a 2), .inl (kA 0, 25, .inl (f 1))), ((a 3), .inl (kA 0, 25, .inl (f 2))), ((a 4), .inl (kA 0, 25, .inl (f 3))), ((a 5), .inl (kA 0, 25, .inl (f 4))), ((a 6), .inl (kA 0, 25, .inl (f 5)))])) (vp_Si (fun r => r = mk (permM n T))) 0 0 (fun _ => False) := by
  refine Met.ofW (cc := cX2_permittedPairs) (maxL := 3) (ret := (some .int)) (by decide) rfl ?_
  intro xp xe xs xm args xbe xme xc s₁ B hml hv
  obtain ⟨rfl, hP, hN⟩ := hv
  have hr := B.returns
  have C : CallFix xp xm xc cX2_permittedPairs 3 xs ([.ref (a 0)] : List Value).toArray wsX2_permittedPairs RX2 := ⟨B.exec, B.bytes, hml, findClass_of_methodNamed B.named, atoms_spec (ws := wsX2_permittedPairs) B.pre⟩
  have hlocks := B.notSynchronized
  obtain ⟨hx, hb, _, hown, hts⟩ := id C
  have hl := lv_entry ([.ref (a 0)]) (n := 3) (Nat.le_of_ble_eq_true rfl)
  rw [lg_entry_eq]
  generalize (lg_sl ([.ref (a 0)]) ++ List.replicate (3 - (lg_sl ([.ref (a 0)])).length) Slot.unset).toArray = ls at hl ⊢
  have hl : lv_has ls 3 [(0, .ref (a 0))] := hl
  refine lv_iconst (v := nI 0) hx hb dX2_permittedPairs_0 (by decide) ?_
  refine lv_istore_n (lv' := [(1, .int (nI 0)), (0, .ref (a 0))]) hx hb dX2_permittedPairs_1 rfl hl (by decide) rfl (fun ls hl => ?_)
  refine lv_iconst (v := nI 0) hx hb dX2_permittedPairs_2 (by decide) ?_
  refine lv_istore_n (lv' := [(2, .int (nI 0)), (1, .int (nI 0)), (0, .ref (a 0))]) hx hb dX2_permittedPairs_3 rfl hl (by decide) rfl (fun ls hl => ?_)
  have L4 : ∀ (fuel : Nat), ∀ (i : Nat) (v : Int32) (hmu : n - i < fuel) (hi : i ≤ n) (hv : v = mk (permM i T)) (ls : Array Slot) (_ : lv_has ls 3 [(2, .int (nI i)), (1, .int v), (0, .ref (a 0))]), W xp xl xe (headSpec wsX2_permittedPairs { frames := 0, cells := 0, slots := 0, locals := 0 }).room xs xm ([.ref (a 0)] : List Value).toArray xbe xme xc xs.heap [] 0 0 (MQ xbe (vp_Si (fun r => r = mk (permM n T))) ([.ref (a 0)] : List Value).toArray xs 0 0 (fun _ => False)) (F0 xm 4 ls []) := by
    intro fuel
    induction fuel with
    | zero => intro i v hmu; exact absurd hmu (Nat.not_lt_zero _)
    | succ fuel ih4 =>
      intro i v hmu hi hv ls hl
      refine lv_iload_n hx hb dX2_permittedPairs_4 rfl (lv_at hl 0 rfl) ?_
      refine lv_aload_n hx hb dX2_permittedPairs_5 rfl (lv_at hl 2 rfl) ?_
      refine xGet C hN hP 0 (j := 6) rfl rfl iX2_permittedPairs_X2 (by decide) kX2_permittedPairs_30 rfl rfl dX2_permittedPairs_6 ?_
      refine xIcmpGe C (tgt := 36) (by omega) (by omega) dX2_permittedPairs_9 (by decide) (fun h_9 => ?_) (fun h_9 => ?_)
      · skip
        refine lv_iload_n hx hb dX2_permittedPairs_36 rfl (lv_at hl 1 rfl) ?_
        exact xRoI hx hb hr (v := v) (by rw [hv, show i = n by omega]) dX2_permittedPairs_37 hlocks
      · skip
        refine lv_aload_n hx hb dX2_permittedPairs_12 rfl (lv_at hl 2 rfl) ?_
        refine xGet C hN hP 0 (j := 1) rfl rfl iX2_permittedPairs_X2 (by decide) kX2_permittedPairs_15 rfl rfl dX2_permittedPairs_13 ?_
        refine lv_iload_n hx hb dX2_permittedPairs_16 rfl (lv_at hl 0 rfl) ?_
        refine xIald C hN hP 2 (j := i) (v := nI (T i 1)) rfl (by omega) (by decide) ((hR i (by omega)).2.1) dX2_permittedPairs_17 ?_
        refine xIfNe C (tgt := 30) (by have := hW i (by omega); omega) dX2_permittedPairs_18 (by decide) (fun h_18 => ?_) (fun h_18 => ?_)
        · skip
          refine xIinc C (kx := 0) (d := 1) (lv' := [(2, .int (nI (i + 1))), (1, .int v), (0, .ref (a 0))]) dX2_permittedPairs_30 hl rfl (by decide) (by decide) rfl (fun ls hl => ?_)
          refine lv_goto (tgt := 4) hx hb dX2_permittedPairs_33 (by decide) ?_
          exact ih4 (i + 1) v (by omega) (by omega) (by rw [hv]; first | exact permM_t h_18 | exact permM_f h_18) _ (lv_sub hl [0, 1, 2] rfl)
        · skip
          refine lv_iload_n hx hb dX2_permittedPairs_21 rfl (lv_at hl 1 rfl) ?_
          refine lv_aload_n hx hb dX2_permittedPairs_22 rfl (lv_at hl 2 rfl) ?_
          refine xGet C hN hP 0 (j := 5) rfl rfl iX2_permittedPairs_X2 (by decide) kX2_permittedPairs_27 rfl rfl dX2_permittedPairs_23 ?_
          refine lv_iload_n hx hb dX2_permittedPairs_26 rfl (lv_at hl 0 rfl) ?_
          refine xIald C hN hP 6 (j := i) (v := mk (pfit (T i 2) (T i 3))) rfl (by omega) (by decide) ((hR i (by omega)).2.2.2.2.2) dX2_permittedPairs_27 ?_
          refine lv_ior hx hb dX2_permittedPairs_28 ?_
          refine lv_istore_n (lv' := [(1, .int (v ||| (mk (pfit (T i 2) (T i 3))))), (2, .int (nI i)), (0, .ref (a 0))]) hx hb dX2_permittedPairs_29 rfl hl (by decide) rfl (fun ls hl => ?_)
          refine xIinc C (kx := 1) (d := 1) (lv' := [(2, .int (nI (i + 1))), (1, .int (v ||| (mk (pfit (T i 2) (T i 3))))), (0, .ref (a 0))]) dX2_permittedPairs_30 hl rfl (by decide) (by decide) rfl (fun ls hl => ?_)
          refine lv_goto (tgt := 4) hx hb dX2_permittedPairs_33 (by decide) ?_
          exact ih4 (i + 1) (v ||| (mk (pfit (T i 2) (T i 3)))) (by omega) (by omega) (by rw [hv]; first | exact permM_t h_18 | exact permM_f h_18) _ (lv_sub hl [0, 1, 2] rfl)
  exact L4 _ 0 (nI 0) (Nat.lt_succ_self _) (by omega) (mk_0.symm) _ (lv_sub hl [0, 1, 2] rfl)

set_option maxHeartbeats 8000000 in
set_option maxRecDepth 100000 in
theorem c_X2_heldPairsOfSeal (xl : Launch) (D : va_G) (kA : Nat → ClassId) (a : Nat → Nat) (f : Nat → Nat → Int32) (n : Nat) (T : Nat → Nat → Nat) (hR : relT f n T) (hW : WfT n T) (hn : n ≤ 25) (z : Nat) (hz : z ≤ 9) : Met xl yX2_heldPairsOfSeal wsX2_heldPairsOfSeal { frames := 2, cells := 0, slots := 0, locals := 45 } (va_Pc [.ref (a 0), .int (nI z)] (xPr D kA [((a 0), .inr (2, [.ref (a 1), .ref (a 2), .ref (a 3), .ref (a 4), .ref (a 5), .ref (a 6), .int (nI n)])), ((a 1), .inl (kA 0, 25, .inl (f 0))), ((a 2), .inl (kA 0, 25, .inl (f 1))), ((a 3), .inl (kA 0, 25, .inl (f 2))), ((a 4), .inl (kA 0, 25, .inl (f 3))), ((a 5), .inl (kA 0, 25, .inl (f 4))), ((a 6), .inl (kA 0, 25, .inl (f 5)))])) (vp_Si (fun r => r = mk (sealM n n T z))) 0 0 (fun _ => False) := by
  refine Met.ofW (cc := cX2_heldPairsOfSeal) (maxL := 4) (ret := (some .int)) (by decide) rfl ?_
  intro xp xe xs xm args xbe xme xc s₁ B hml hv
  obtain ⟨rfl, hP, hN⟩ := hv
  have hr := B.returns
  have C : CallFix xp xm xc cX2_heldPairsOfSeal 4 xs ([.ref (a 0), .int (nI z)] : List Value).toArray wsX2_heldPairsOfSeal RX2 := ⟨B.exec, B.bytes, hml, findClass_of_methodNamed B.named, atoms_spec (ws := wsX2_heldPairsOfSeal) B.pre⟩
  have hlocks := B.notSynchronized
  obtain ⟨hx, hb, _, hown, hts⟩ := id C
  have hl := lv_entry ([.ref (a 0), .int (nI z)]) (n := 4) (Nat.le_of_ble_eq_true rfl)
  rw [lg_entry_eq]
  generalize (lg_sl ([.ref (a 0), .int (nI z)]) ++ List.replicate (4 - (lg_sl ([.ref (a 0), .int (nI z)])).length) Slot.unset).toArray = ls at hl ⊢
  have hl : lv_has ls 4 [(0, .ref (a 0)), (1, .int (nI z))] := hl
  refine lv_iconst (v := nI 0) hx hb dX2_heldPairsOfSeal_0 (by decide) ?_
  refine lv_istore_n (lv' := [(2, .int (nI 0)), (0, .ref (a 0)), (1, .int (nI z))]) hx hb dX2_heldPairsOfSeal_1 rfl hl (by decide) rfl (fun ls hl => ?_)
  refine lv_iconst (v := nI 0) hx hb dX2_heldPairsOfSeal_2 (by decide) ?_
  refine lv_istore_n (lv' := [(3, .int (nI 0)), (2, .int (nI 0)), (0, .ref (a 0)), (1, .int (nI z))]) hx hb dX2_heldPairsOfSeal_3 rfl hl (by decide) rfl (fun ls hl => ?_)
  have L4 : ∀ (fuel : Nat), ∀ (i : Nat) (v : Int32) (hmu : n - i < fuel) (hi : i ≤ n) (hv : v = mk (sealM i n T z)) (ls : Array Slot) (_ : lv_has ls 4 [(3, .int (nI i)), (2, .int v), (0, .ref (a 0)), (1, .int (nI z))]), W xp xl xe (headSpec wsX2_heldPairsOfSeal { frames := 2, cells := 0, slots := 0, locals := 45 }).room xs xm ([.ref (a 0), .int (nI z)] : List Value).toArray xbe xme xc xs.heap [] 0 0 (MQ xbe (vp_Si (fun r => r = mk (sealM n n T z))) ([.ref (a 0), .int (nI z)] : List Value).toArray xs 0 0 (fun _ => False)) (F0 xm 4 ls []) := by
    intro fuel
    induction fuel with
    | zero => intro i v hmu; exact absurd hmu (Nat.not_lt_zero _)
    | succ fuel ih4 =>
      intro i v hmu hi hv ls hl
      refine lv_iload_n hx hb dX2_heldPairsOfSeal_4 rfl (lv_at hl 0 rfl) ?_
      refine lv_aload_n hx hb dX2_heldPairsOfSeal_5 rfl (lv_at hl 2 rfl) ?_
      refine xGet C hN hP 0 (j := 6) rfl rfl iX2_heldPairsOfSeal_X2 (by decide) kX2_heldPairsOfSeal_30 rfl rfl dX2_heldPairsOfSeal_6 ?_
      refine xIcmpGe C (tgt := 46) (by omega) (by omega) dX2_heldPairsOfSeal_9 (by decide) (fun h_9 => ?_) (fun h_9 => ?_)
      · skip
        refine lv_iload_n hx hb dX2_heldPairsOfSeal_46 rfl (lv_at hl 1 rfl) ?_
        exact xRoI hx hb hr (v := v) (by rw [hv, show i = n by omega]) dX2_heldPairsOfSeal_47 hlocks
      · skip
        refine lv_aload_n hx hb dX2_heldPairsOfSeal_12 rfl (lv_at hl 2 rfl) ?_
        refine xGet C hN hP 0 (j := 1) rfl rfl iX2_heldPairsOfSeal_X2 (by decide) kX2_heldPairsOfSeal_15 rfl rfl dX2_heldPairsOfSeal_13 ?_
        refine lv_iload_n hx hb dX2_heldPairsOfSeal_16 rfl (lv_at hl 0 rfl) ?_
        refine xIald C hN hP 2 (j := i) (v := nI (T i 1)) rfl (by omega) (by decide) ((hR i (by omega)).2.1) dX2_heldPairsOfSeal_17 ?_
        refine lv_iconst (v := nI 1) hx hb dX2_heldPairsOfSeal_18 (by decide) ?_
        refine xIcmpNe C (tgt := 40) (by have := hW i (by omega); omega) (by decide) dX2_heldPairsOfSeal_19 (by decide) (fun h_19 => ?_) (fun h_19 => ?_)
        · skip
          refine xIinc C (kx := 0) (d := 1) (lv' := [(3, .int (nI (i + 1))), (2, .int v), (0, .ref (a 0)), (1, .int (nI z))]) dX2_heldPairsOfSeal_40 hl rfl (by decide) (by decide) rfl (fun ls hl => ?_)
          refine lv_goto (tgt := 4) hx hb dX2_heldPairsOfSeal_43 (by decide) ?_
          exact ih4 (i + 1) v (by omega) (by omega) (by rw [hv]; first | exact sealM_t h_19 h_29 | exact sealM_f1 h_19 | exact sealM_f2 h_29) _ (lv_sub hl [0, 1, 2, 3] rfl)
        · skip
          refine lv_aload_n hx hb dX2_heldPairsOfSeal_22 rfl (lv_at hl 2 rfl) ?_
          refine xGet C hN hP 0 (j := 4) rfl rfl iX2_heldPairsOfSeal_X2 (by decide) kX2_heldPairsOfSeal_24 rfl rfl dX2_heldPairsOfSeal_23 ?_
          refine lv_iload_n hx hb dX2_heldPairsOfSeal_26 rfl (lv_at hl 0 rfl) ?_
          refine xIald C hN hP 5 (j := i) (v := nI (T i 4)) rfl (by omega) (by decide) ((hR i (by omega)).2.2.2.2.1) dX2_heldPairsOfSeal_27 ?_
          refine lv_iload_n hx hb dX2_heldPairsOfSeal_28 rfl (lv_at hl 3 rfl) ?_
          refine xIcmpNe C (tgt := 40) (by have := hW i (by omega); omega) (by omega) dX2_heldPairsOfSeal_29 (by decide) (fun h_29 => ?_) (fun h_29 => ?_)
          · skip
            refine xIinc C (kx := 0) (d := 1) (lv' := [(3, .int (nI (i + 1))), (2, .int v), (0, .ref (a 0)), (1, .int (nI z))]) dX2_heldPairsOfSeal_40 hl rfl (by decide) (by decide) rfl (fun ls hl => ?_)
            refine lv_goto (tgt := 4) hx hb dX2_heldPairsOfSeal_43 (by decide) ?_
            exact ih4 (i + 1) v (by omega) (by omega) (by rw [hv]; first | exact sealM_t h_19 h_29 | exact sealM_f1 h_19 | exact sealM_f2 h_29) _ (lv_sub hl [0, 1, 2, 3] rfl)
          · skip
            refine lv_iload_n hx hb dX2_heldPairsOfSeal_32 rfl (lv_at hl 1 rfl) ?_
            refine lv_aload_n hx hb dX2_heldPairsOfSeal_33 rfl (lv_at hl 2 rfl) ?_
            refine lv_iload_n hx hb dX2_heldPairsOfSeal_34 rfl (lv_at hl 0 rfl) ?_
            refine xVro C hN (As := [.int (nI i)]) (rest := [.int v]) (q0 := 0) (c_X2_heldPairs xl D kA a f n T hR hW hn i (by omega)) (cwV 1 hts gX2_heldPairsOfSeal_X2_heldPairs rfl rfl rfl (by decide +kernel) ⟨Nat.le_of_ble_eq_true rfl, Nat.le_of_ble_eq_true rfl⟩) hP rfl rfl rfl rfl hl.1 rfl (Nat.le_of_ble_eq_true rfl) dX2_heldPairsOfSeal_35 ⟨Nat.le_of_ble_eq_true rfl, Nat.le_of_ble_eq_true rfl⟩ ?_
            refine lv_ior hx hb dX2_heldPairsOfSeal_38 ?_
            refine lv_istore_n (lv' := [(2, .int (v ||| (mk (heldM n T i)))), (3, .int (nI i)), (0, .ref (a 0)), (1, .int (nI z))]) hx hb dX2_heldPairsOfSeal_39 rfl hl (by decide) rfl (fun ls hl => ?_)
            refine xIinc C (kx := 1) (d := 1) (lv' := [(3, .int (nI (i + 1))), (2, .int (v ||| (mk (heldM n T i)))), (0, .ref (a 0)), (1, .int (nI z))]) dX2_heldPairsOfSeal_40 hl rfl (by decide) (by decide) rfl (fun ls hl => ?_)
            refine lv_goto (tgt := 4) hx hb dX2_heldPairsOfSeal_43 (by decide) ?_
            exact ih4 (i + 1) (v ||| (mk (heldM n T i))) (by omega) (by omega) (by rw [hv]; first | exact sealM_t h_19 h_29 | exact sealM_f1 h_19 | exact sealM_f2 h_29) _ (lv_sub hl [0, 1, 2, 3] rfl)
  exact L4 _ 0 (nI 0) (Nat.lt_succ_self _) (by omega) (mk_0.symm) _ (lv_sub hl [0, 1, 2, 3] rfl)

set_option maxHeartbeats 8000000 in
set_option maxRecDepth 100000 in
theorem c_X2_allowedPairs (xl : Launch) (D : va_G) (kA : Nat → ClassId) (a : Nat → Nat) (f : Nat → Nat → Int32) (n : Nat) (T : Nat → Nat → Nat) (hR : relT f n T) (hW : WfT n T) (hn : n ≤ 25) (rk : Nat) (hrk : rk ≤ 9) : Met xl yX2_allowedPairs wsX2_allowedPairs { frames := 3, cells := 0, slots := 0, locals := 68 } (va_Pc [.ref (a 0), .int (nI rk)] (xPr D kA [((a 0), .inr (2, [.ref (a 1), .ref (a 2), .ref (a 3), .ref (a 4), .ref (a 5), .ref (a 6), .int (nI n)])), ((a 1), .inl (kA 0, 25, .inl (f 0))), ((a 2), .inl (kA 0, 25, .inl (f 1))), ((a 3), .inl (kA 0, 25, .inl (f 2))), ((a 4), .inl (kA 0, 25, .inl (f 3))), ((a 5), .inl (kA 0, 25, .inl (f 4))), ((a 6), .inl (kA 0, 25, .inl (f 5)))])) (vp_Si (fun r => r = mk (fun q => decide (lstT n T (q / 6) (q % 6) ≤ rk)))) 0 0 (fun _ => False) := by
  refine Met.ofW (cc := cX2_allowedPairs) (maxL := 4) (ret := (some .int)) (by decide) rfl ?_
  intro xp xe xs xm args xbe xme xc s₁ B hml hv
  obtain ⟨rfl, hP, hN⟩ := hv
  have hr := B.returns
  have C : CallFix xp xm xc cX2_allowedPairs 4 xs ([.ref (a 0), .int (nI rk)] : List Value).toArray wsX2_allowedPairs RX2 := ⟨B.exec, B.bytes, hml, findClass_of_methodNamed B.named, atoms_spec (ws := wsX2_allowedPairs) B.pre⟩
  have hlocks := B.notSynchronized
  obtain ⟨hx, hb, _, hown, hts⟩ := id C
  have hl := lv_entry ([.ref (a 0), .int (nI rk)]) (n := 4) (Nat.le_of_ble_eq_true rfl)
  rw [lg_entry_eq]
  generalize (lg_sl ([.ref (a 0), .int (nI rk)]) ++ List.replicate (4 - (lg_sl ([.ref (a 0), .int (nI rk)])).length) Slot.unset).toArray = ls at hl ⊢
  have hl : lv_has ls 4 [(0, .ref (a 0)), (1, .int (nI rk))] := hl
  refine lv_aload_n hx hb dX2_allowedPairs_0 rfl (lv_at hl 0 rfl) ?_
  refine xVro C hN (As := []) (rest := []) (q0 := 0) (c_X2_permittedPairs xl D kA a f n T hR hW hn) (cwV 0 hts gX2_allowedPairs_X2_permittedPairs rfl rfl rfl (by decide +kernel) ⟨Nat.le_of_ble_eq_true rfl, Nat.le_of_ble_eq_true rfl⟩) hP rfl rfl rfl rfl hl.1 rfl (Nat.le_of_ble_eq_true rfl) dX2_allowedPairs_1 ⟨Nat.le_of_ble_eq_true rfl, Nat.le_of_ble_eq_true rfl⟩ ?_
  refine lv_istore_n (lv' := [(2, .int (mk (permM n T))), (0, .ref (a 0)), (1, .int (nI rk))]) hx hb dX2_allowedPairs_4 rfl hl (by decide) rfl (fun ls hl => ?_)
  refine lv_bipush (v := nI 9) hx hb dX2_allowedPairs_5 (by decide) ?_
  refine lv_istore_n (lv' := [(3, .int (nI 9)), (2, .int (mk (permM n T))), (0, .ref (a 0)), (1, .int (nI rk))]) hx hb dX2_allowedPairs_7 rfl hl (by decide) rfl (fun ls hl => ?_)
  have L8 : ∀ (fuel : Nat), ∀ (z : Nat) (v : Int32) (hmu : z < fuel) (hz : rk ≤ z ∧ z ≤ 9) (hv : v = mk (aboveM n T z)) (ls : Array Slot) (_ : lv_has ls 4 [(3, .int (nI z)), (2, .int v), (0, .ref (a 0)), (1, .int (nI rk))]), W xp xl xe (headSpec wsX2_allowedPairs { frames := 3, cells := 0, slots := 0, locals := 68 }).room xs xm ([.ref (a 0), .int (nI rk)] : List Value).toArray xbe xme xc xs.heap [] 0 0 (MQ xbe (vp_Si (fun r => r = mk (fun q => decide (lstT n T (q / 6) (q % 6) ≤ rk)))) ([.ref (a 0), .int (nI rk)] : List Value).toArray xs 0 0 (fun _ => False)) (F0 xm 8 ls []) := by
    intro fuel
    induction fuel with
    | zero => intro z v hmu; exact absurd hmu (Nat.not_lt_zero _)
    | succ fuel ih8 =>
      intro z v hmu hz hv ls hl
      refine lv_iload_n hx hb dX2_allowedPairs_8 rfl (lv_at hl 0 rfl) ?_
      refine lv_iload_n hx hb dX2_allowedPairs_9 rfl (lv_at hl 3 rfl) ?_
      refine xIcmpLe C (tgt := 29) (by omega) (by omega) dX2_allowedPairs_10 (by decide) (fun h_10 => ?_) (fun h_10 => ?_)
      · skip
        refine lv_iload_n hx hb dX2_allowedPairs_29 rfl (lv_at hl 1 rfl) ?_
        exact xRoI hx hb hr (v := v) (by rw [hv, show z = rk by omega]; exact mk_cong (fun q _ => aboveM_lst (by omega))) dX2_allowedPairs_30 hlocks
      · skip
        refine lv_iload_n hx hb dX2_allowedPairs_13 rfl (lv_at hl 1 rfl) ?_
        refine lv_aload_n hx hb dX2_allowedPairs_14 rfl (lv_at hl 2 rfl) ?_
        refine lv_iload_n hx hb dX2_allowedPairs_15 rfl (lv_at hl 0 rfl) ?_
        refine xVro C hN (As := [.int (nI z)]) (rest := [.int v]) (q0 := 0) (c_X2_heldPairsOfSeal xl D kA a f n T hR hW hn z (by omega)) (cwV 1 hts gX2_allowedPairs_X2_heldPairsOfSeal rfl rfl rfl (by decide +kernel) ⟨Nat.le_of_ble_eq_true rfl, Nat.le_of_ble_eq_true rfl⟩) hP rfl rfl rfl rfl hl.1 rfl (Nat.le_of_ble_eq_true rfl) dX2_allowedPairs_16 ⟨Nat.le_of_ble_eq_true rfl, Nat.le_of_ble_eq_true rfl⟩ ?_
        refine lv_iconst (v := (-1)) hx hb dX2_allowedPairs_19 (by decide) ?_
        refine lv_ixor hx hb dX2_allowedPairs_20 ?_
        refine lv_iand hx hb dX2_allowedPairs_21 ?_
        refine lv_istore_n (lv' := [(2, .int (v &&& ((mk (sealM n n T z)) ^^^ (-1)))), (3, .int (nI z)), (0, .ref (a 0)), (1, .int (nI rk))]) hx hb dX2_allowedPairs_22 rfl hl (by decide) rfl (fun ls hl => ?_)
        refine xIdec C (kx := 1) (lv' := [(3, .int (nI (z - 1))), (2, .int (v &&& ((mk (sealM n n T z)) ^^^ (-1)))), (0, .ref (a 0)), (1, .int (nI rk))]) (by omega) dX2_allowedPairs_23 hl rfl (by decide) rfl (fun ls hl => ?_)
        refine lv_goto (tgt := 8) hx hb dX2_allowedPairs_26 (by decide) ?_
        exact ih8 (z - 1) (v &&& ((mk (sealM n n T z)) ^^^ (-1))) (by omega) (by omega) (by rw [hv]; exact aboveM_s (by omega)) _ (lv_sub hl [0, 1, 2, 3] rfl)
  exact L8 _ 9 (mk (permM n T)) (Nat.lt_succ_self _) (by omega) (aboveM_9 hW) _ (lv_sub hl [0, 1, 2, 3] rfl)

set_option maxHeartbeats 8000000 in
set_option maxRecDepth 100000 in
theorem c_X2_leastRankFor (xl : Launch) (D : va_G) (kA : Nat → ClassId) (a : Nat → Nat) (f : Nat → Nat → Int32) (n : Nat) (T : Nat → Nat → Nat) (hR : relT f n T) (hW : WfT n T) (hn : n ≤ 25) (c d : Nat) (hc : c < 5) (hd : d < 6) : Met xl yX2_leastRankFor wsX2_leastRankFor { frames := 3, cells := 0, slots := 0, locals := 68 } (va_Pc [.ref (a 0), .int (mk (pfit c d))] (xPr D kA [((a 0), .inr (2, [.ref (a 1), .ref (a 2), .ref (a 3), .ref (a 4), .ref (a 5), .ref (a 6), .int (nI n)])), ((a 1), .inl (kA 0, 25, .inl (f 0))), ((a 2), .inl (kA 0, 25, .inl (f 1))), ((a 3), .inl (kA 0, 25, .inl (f 2))), ((a 4), .inl (kA 0, 25, .inl (f 3))), ((a 5), .inl (kA 0, 25, .inl (f 4))), ((a 6), .inl (kA 0, 25, .inl (f 5)))])) (vp_Si (fun r => r = (if lstT n T c d = 10 then (-6) else nI (lstT n T c d)))) 0 0 (fun _ => False) := by
  refine Met.ofW (cc := cX2_leastRankFor) (maxL := 3) (ret := (some .int)) (by decide) rfl ?_
  intro xp xe xs xm args xbe xme xc s₁ B hml hv
  obtain ⟨rfl, hP, hN⟩ := hv
  have hr := B.returns
  have C : CallFix xp xm xc cX2_leastRankFor 3 xs ([.ref (a 0), .int (mk (pfit c d))] : List Value).toArray wsX2_leastRankFor RX2 := ⟨B.exec, B.bytes, hml, findClass_of_methodNamed B.named, atoms_spec (ws := wsX2_leastRankFor) B.pre⟩
  have hlocks := B.notSynchronized
  obtain ⟨hx, hb, _, hown, hts⟩ := id C
  have hl := lv_entry ([.ref (a 0), .int (mk (pfit c d))]) (n := 3) (Nat.le_of_ble_eq_true rfl)
  rw [lg_entry_eq]
  generalize (lg_sl ([.ref (a 0), .int (mk (pfit c d))]) ++ List.replicate (3 - (lg_sl ([.ref (a 0), .int (mk (pfit c d))])).length) Slot.unset).toArray = ls at hl ⊢
  have hl : lv_has ls 3 [(0, .ref (a 0)), (1, .int (mk (pfit c d)))] := hl
  refine lv_aload_n hx hb dX2_leastRankFor_0 rfl (lv_at hl 0 rfl) ?_
  refine xVro C hN (As := []) (rest := []) (q0 := 0) (c_X2_permittedPairs xl D kA a f n T hR hW hn) (cwV 0 hts gX2_leastRankFor_X2_permittedPairs rfl rfl rfl (by decide +kernel) ⟨Nat.le_of_ble_eq_true rfl, Nat.le_of_ble_eq_true rfl⟩) hP rfl rfl rfl rfl hl.1 rfl (Nat.le_of_ble_eq_true rfl) dX2_leastRankFor_1 ⟨Nat.le_of_ble_eq_true rfl, Nat.le_of_ble_eq_true rfl⟩ ?_
  refine lv_iload_n hx hb dX2_leastRankFor_4 rfl (lv_at hl 1 rfl) ?_
  refine lv_iand hx hb dX2_leastRankFor_5 ?_
  refine lv_if_ne (tgt := 12) hx hb dX2_leastRankFor_6 (by decide) (fun h_6 => ?_) (fun h_6 => ?_)
  · skip
    refine lv_bipush (v := nI 9) hx hb dX2_leastRankFor_12 (by decide) ?_
    refine lv_istore_n (lv' := [(2, .int (nI 9)), (0, .ref (a 0)), (1, .int (mk (pfit c d)))]) hx hb dX2_leastRankFor_14 rfl hl (by decide) rfl (fun ls hl => ?_)
    have L15 : ∀ (fuel : Nat), ∀ (z : Nat) (hmu : z < fuel) (hz : z ≤ 9) (hv : lstT n T c d ≤ z) (ls : Array Slot) (_ : lv_has ls 3 [(2, .int (nI z)), (0, .ref (a 0)), (1, .int (mk (pfit c d)))]), W xp xl xe (headSpec wsX2_leastRankFor { frames := 3, cells := 0, slots := 0, locals := 68 }).room xs xm ([.ref (a 0), .int (mk (pfit c d))] : List Value).toArray xbe xme xc xs.heap [] 0 0 (MQ xbe (vp_Si (fun r => r = (if lstT n T c d = 10 then (-6) else nI (lstT n T c d)))) ([.ref (a 0), .int (mk (pfit c d))] : List Value).toArray xs 0 0 (fun _ => False)) (F0 xm 15 ls []) := by
      intro fuel
      induction fuel with
      | zero => intro z hmu; exact absurd hmu (Nat.not_lt_zero _)
      | succ fuel ih15 =>
        intro z hmu hz hv ls hl
        refine lv_iload_n hx hb dX2_leastRankFor_15 rfl (lv_at hl 0 rfl) ?_
        refine lv_iconst (v := nI 1) hx hb dX2_leastRankFor_16 (by decide) ?_
        refine xIcmpLt C (tgt := 38) (by omega) (by decide) dX2_leastRankFor_17 (by decide) (fun h_17 => ?_) (fun h_17 => ?_)
        · skip
          refine lv_iconst (v := nI 0) hx hb dX2_leastRankFor_38 (by decide) ?_
          exact xRoI hx hb hr (v := nI 0) ((lst_at0 (by omega) hv).symm) dX2_leastRankFor_39 hlocks
        · skip
          refine lv_aload_n hx hb dX2_leastRankFor_20 rfl (lv_at hl 1 rfl) ?_
          refine lv_iload_n hx hb dX2_leastRankFor_21 rfl (lv_at hl 0 rfl) ?_
          refine xVro C hN (As := [.int (nI z)]) (rest := []) (q0 := 0) (c_X2_heldPairsOfSeal xl D kA a f n T hR hW hn z (by omega)) (cwV 1 hts gX2_leastRankFor_X2_heldPairsOfSeal rfl rfl rfl (by decide +kernel) ⟨Nat.le_of_ble_eq_true rfl, Nat.le_of_ble_eq_true rfl⟩) hP rfl rfl rfl rfl hl.1 rfl (Nat.le_of_ble_eq_true rfl) dX2_leastRankFor_22 ⟨Nat.le_of_ble_eq_true rfl, Nat.le_of_ble_eq_true rfl⟩ ?_
          refine lv_iload_n hx hb dX2_leastRankFor_25 rfl (lv_at hl 2 rfl) ?_
          refine lv_iand hx hb dX2_leastRankFor_26 ?_
          refine lv_if_eq (tgt := 32) hx hb dX2_leastRankFor_27 (by decide) (fun h_27 => ?_) (fun h_27 => ?_)
          · skip
            refine xIdec C (kx := 0) (lv' := [(2, .int (nI (z - 1))), (0, .ref (a 0)), (1, .int (mk (pfit c d)))]) (by omega) dX2_leastRankFor_32 hl rfl (by decide) rfl (fun ls hl => ?_)
            refine lv_goto (tgt := 15) hx hb dX2_leastRankFor_35 (by decide) ?_
            exact ih15 (z - 1) (by omega) (by omega) (lst_dn hc hd (by omega) hv h_27) _ (lv_sub hl [0, 1, 2] rfl)
          · skip
            refine lv_iload_n hx hb dX2_leastRankFor_30 rfl (lv_at hl 0 rfl) ?_
            exact xRoI hx hb hr (v := nI z) ((lst_at hc hd (by omega) (by omega) hv h_27).symm) dX2_leastRankFor_31 hlocks
    exact L15 _ 9 (Nat.lt_succ_self _) (by omega) (lst_le9 hW hc hd h_6) _ (lv_sub hl [0, 1, 2] rfl)
  · skip
    refine lv_bipush (v := (-6)) hx hb dX2_leastRankFor_9 (by decide) ?_
    exact xRoI hx hb hr (v := (-6)) ((lst_none hc hd h_6).symm) dX2_leastRankFor_11 hlocks
end
section
/-! Integer.bitCount: the number of ones. -/
def popN (x : Nat) : Nat := cntN 32 (fun i => x.testBit i)
def pop8 (x : Nat) : Nat := cntN 8 (fun i => x.testBit i)
theorem cntN_split (m : Nat) (p : Nat → Bool) : ∀ n, cntN (m + n) p = cntN m p + cntN n (fun i => p (m + i))
  | 0 => rfl
  | n + 1 => by
    rw [← Nat.add_assoc, cntN_succ, cntN_succ, cntN_split m p n]; omega
theorem cntN_cong {n : Nat} {p q : Nat → Bool} (h : ∀ i, i < n → p i = q i) : cntN n p = cntN n q := sumN_cong (fun i hi => by rw [h i hi])
theorem byte_bit {a y : Nat} (ha : a < 256) (i : Nat) : (a + 256 * y).testBit i = if i < 8 then a.testBit i else y.testBit (i - 8) := by
  rw [Nat.add_comm, show 256 * y = 2 ^ 8 * y from rfl, Nat.testBit_two_pow_mul_add y (show a < 2 ^ 8 from ha)]
theorem byte_and {a y m M : Nat} (ha : a < 256) (hm : m < 256) : (a + 256 * y) &&& (m + 256 * M) = (a &&& m) + 256 * (y &&& M) := by
  apply Nat.eq_of_testBit_eq; intro i
  rw [Nat.testBit_and, byte_bit ha, byte_bit hm, byte_bit (Nat.lt_of_le_of_lt Nat.and_le_left ha)]
  split <;> rw [Nat.testBit_and]
theorem pop_byte {a y : Nat} (n : Nat) (ha : a < 256) : cntN (8 + n) (fun i => (a + 256 * y).testBit i) = pop8 a + cntN n (fun i => y.testBit i) := by
  rw [cntN_split]
  congr 1
  · apply cntN_cong; intro i hi; rw [byte_bit ha, if_pos hi]
  · apply cntN_cong; intro i _; rw [byte_bit ha, if_neg (by omega), Nat.add_sub_cancel_left]
def by1 (a : Nat) : Nat := a - (a / 2 &&& 85)
def by2 (d : Nat) : Nat := (d &&& 51) + (d / 4 &&& 51)
def by3 (e : Nat) : Nat := (e + e / 16) &&& 15
theorem by1_c : ∀ a, a < 256 → ∀ t, t < 2 → (a / 2 + 128 * t) &&& 85 = a / 2 &&& 85 := by decide +kernel
theorem by1_le : ∀ a, a < 256 → (a / 2 &&& 85) ≤ a := by decide +kernel
theorem by2_c : ∀ d, d < 256 → ∀ t, t < 4 → (d / 4 + 64 * t) &&& 51 = d / 4 &&& 51 := by decide +kernel
theorem by2_le : ∀ a, a < 256 → by2 (by1 a) ≤ 68 ∧ by2 (by1 a) % 16 ≤ 4 := by decide +kernel
theorem by3_c : ∀ e, e < 69 → ∀ t, t < 5 → (e + e / 16 + 16 * t) &&& 15 = (e + e / 16) &&& 15 := by decide +kernel
theorem by_all : ∀ a, a < 256 → by3 (by2 (by1 a)) = pop8 a := by decide +kernel
theorem pop8_le : ∀ a, a < 256 → pop8 a ≤ 8 := by decide +kernel
theorem swar {b0 b1 b2 b3 : Nat} (h0 : b0 < 256) (h1 : b1 < 256) (h2 : b2 < 256) (h3 : b3 < 256) :
    ∃ x1 x2 x3 x4 x5 : Nat, x1 = (b0 + 256 * (b1 + 256 * (b2 + 256 * b3))) - ((b0 + 256 * (b1 + 256 * (b2 + 256 * b3))) / 2 &&& 1431655765) ∧ ((b0 + 256 * (b1 + 256 * (b2 + 256 * b3))) / 2 &&& 1431655765) ≤ (b0 + 256 * (b1 + 256 * (b2 + 256 * b3))) ∧ x1 < 2 ^ 32 ∧ x2 = (x1 &&& 858993459) + (x1 / 4 &&& 858993459) ∧ x2 < 2 ^ 32 ∧ x3 = (x2 + x2 / 16) &&& 252645135 ∧ x3 < 2 ^ 32 ∧ x4 = x3 + x3 / 256 ∧ x4 < 2 ^ 32 ∧ x5 = x4 + x4 / 65536 ∧ x5 % 64 = pop8 b0 + pop8 b1 + pop8 b2 + pop8 b3 := by
  have c0 := by1_le b0 h0
  have c1 := by1_le b1 h1
  have c2 := by1_le b2 h2
  have c3 := by1_le b3 h3
  have s1 : (b0 + 256 * (b1 + 256 * (b2 + 256 * b3))) / 2 &&& 1431655765 = (b0 / 2 &&& 85) + 256 * ((b1 / 2 &&& 85) + 256 * ((b2 / 2 &&& 85) + 256 * (b3 / 2 &&& 85))) := by
    rw [show (b0 + 256 * (b1 + 256 * (b2 + 256 * b3))) / 2 = (b0 / 2 + 128 * (b1 % 2)) + 256 * ((b1 / 2 + 128 * (b2 % 2)) + 256 * ((b2 / 2 + 128 * (b3 % 2)) + 256 * (b3 / 2))) by omega, show 1431655765 = 85 + 256 * (85 + 256 * (85 + 256 * 85)) from rfl, byte_and (by omega) (by omega), byte_and (by omega) (by omega), byte_and (by omega) (by omega), by1_c b0 h0 _ (by omega), by1_c b1 h1 _ (by omega), by1_c b2 h2 _ (by omega)]
  have v1 : (b0 + 256 * (b1 + 256 * (b2 + 256 * b3))) - ((b0 + 256 * (b1 + 256 * (b2 + 256 * b3))) / 2 &&& 1431655765) = by1 b0 + 256 * (by1 b1 + 256 * (by1 b2 + 256 * by1 b3)) := by
    rw [s1]; unfold by1; omega
  have d0 : by1 b0 < 256 := by unfold by1; omega
  have d1 : by1 b1 < 256 := by unfold by1; omega
  have d2 : by1 b2 < 256 := by unfold by1; omega
  have d3 : by1 b3 < 256 := by unfold by1; omega
  have v2 : ((by1 b0 + 256 * (by1 b1 + 256 * (by1 b2 + 256 * by1 b3))) &&& 858993459) + ((by1 b0 + 256 * (by1 b1 + 256 * (by1 b2 + 256 * by1 b3))) / 4 &&& 858993459) = by2 (by1 b0) + 256 * (by2 (by1 b1) + 256 * (by2 (by1 b2) + 256 * by2 (by1 b3))) := by
    rw [show (by1 b0 + 256 * (by1 b1 + 256 * (by1 b2 + 256 * by1 b3))) / 4 = (by1 b0 / 4 + 64 * (by1 b1 % 4)) + 256 * ((by1 b1 / 4 + 64 * (by1 b2 % 4)) + 256 * ((by1 b2 / 4 + 64 * (by1 b3 % 4)) + 256 * (by1 b3 / 4))) by omega, show 858993459 = 51 + 256 * (51 + 256 * (51 + 256 * 51)) from rfl, byte_and d0 (by omega), byte_and d1 (by omega), byte_and d2 (by omega), byte_and (by omega) (by omega), byte_and (by omega) (by omega), byte_and (by omega) (by omega), by2_c _ d0 _ (by omega), by2_c _ d1 _ (by omega), by2_c _ d2 _ (by omega)]
    unfold by2; omega
  obtain ⟨e0, g0⟩ := by2_le b0 h0
  obtain ⟨e1, g1⟩ := by2_le b1 h1
  obtain ⟨e2, g2⟩ := by2_le b2 h2
  obtain ⟨e3, g3⟩ := by2_le b3 h3
  have a0 := by_all b0 h0
  have a1 := by_all b1 h1
  have a2 := by_all b2 h2
  have a3 := by_all b3 h3
  generalize by2 (by1 b0) = u0 at v2 e0 g0 a0
  generalize by2 (by1 b1) = u1 at v2 e1 g1 a1
  generalize by2 (by1 b2) = u2 at v2 e2 g2 a2
  generalize by2 (by1 b3) = u3 at v2 e3 g3 a3
  have v3 : ((u0 + 256 * (u1 + 256 * (u2 + 256 * u3))) + (u0 + 256 * (u1 + 256 * (u2 + 256 * u3))) / 16) &&& 252645135 = pop8 b0 + 256 * (pop8 b1 + 256 * (pop8 b2 + 256 * pop8 b3)) := by
    rw [show (u0 + 256 * (u1 + 256 * (u2 + 256 * u3))) + (u0 + 256 * (u1 + 256 * (u2 + 256 * u3))) / 16 = (u0 + u0 / 16 + 16 * (u1 % 16)) + 256 * ((u1 + u1 / 16 + 16 * (u2 % 16)) + 256 * ((u2 + u2 / 16 + 16 * (u3 % 16)) + 256 * (u3 + u3 / 16))) by omega, show 252645135 = 15 + 256 * (15 + 256 * (15 + 256 * 15)) from rfl, byte_and (by omega) (by omega), byte_and (by omega) (by omega), byte_and (by omega) (by omega), by3_c u0 (by omega) _ (by omega), by3_c u1 (by omega) _ (by omega), by3_c u2 (by omega) _ (by omega), ← a0, ← a1, ← a2, ← a3]
    rfl
  have p0 := pop8_le b0 h0
  have p1 := pop8_le b1 h1
  have p2 := pop8_le b2 h2
  have p3 := pop8_le b3 h3
  refine ⟨_, _, _, _, _, rfl, by rw [s1]; omega, by omega, rfl, ?_, rfl, ?_, rfl, ?_, rfl, ?_⟩
  · rw [v1, v2]; omega
  · rw [v1, v2, v3]; omega
  · rw [v1, v2, v3]; omega
  · rw [v1, v2, v3]
    clear v1 v2 v3 s1 a0 a1 a2 a3 e0 e1 e2 e3 g0 g1 g2 g3 d0 d1 d2 d3 c0 c1 c2 c3
    generalize pop8 b0 = t0 at p0 ⊢
    generalize pop8 b1 = t1 at p1 ⊢
    generalize pop8 b2 = t2 at p2 ⊢
    generalize pop8 b3 = t3 at p3 ⊢
    have k1 : (t0 + 256 * (t1 + 256 * (t2 + 256 * t3))) / 256 = t1 + 256 * (t2 + 256 * t3) := by omega
    rw [k1]
    have k2 : (t0 + 256 * (t1 + 256 * (t2 + 256 * t3)) + (t1 + 256 * (t2 + 256 * t3))) / 65536 = t2 + t3 + 256 * t3 := by omega
    rw [k2]
    omega
theorem pop_32 {b0 b1 b2 b3 : Nat} (h0 : b0 < 256) (h1 : b1 < 256) (h2 : b2 < 256) (h3 : b3 < 256) : popN (b0 + 256 * (b1 + 256 * (b2 + 256 * b3))) = pop8 b0 + pop8 b1 + pop8 b2 + pop8 b3 := by
  unfold popN
  rw [show (32 : Nat) = 8 + 24 from rfl, pop_byte 24 h0, show (24 : Nat) = 8 + 16 from rfl, pop_byte 16 h1, show (16 : Nat) = 8 + 8 from rfl, pop_byte 8 h2]
  unfold pop8; omega
theorem ush_n {n : Nat} (hn : n < 2 ^ 32) : ((nI n).toUInt32 >>> ((nI 1).toUInt32 &&& Int32.toUInt32 31)).toInt32 = nI (n / 2) ∧ ((nI n).toUInt32 >>> ((nI 2).toUInt32 &&& Int32.toUInt32 31)).toInt32 = nI (n / 4) ∧ ((nI n).toUInt32 >>> ((nI 4).toUInt32 &&& Int32.toUInt32 31)).toInt32 = nI (n / 16) ∧ ((nI n).toUInt32 >>> ((nI 8).toUInt32 &&& Int32.toUInt32 31)).toInt32 = nI (n / 256) ∧ ((nI n).toUInt32 >>> ((nI 16).toUInt32 &&& Int32.toUInt32 31)).toInt32 = nI (n / 65536) :=
  ⟨pk_ushrN hn (nI 1) 1 (by decide +kernel), pk_ushrN hn (nI 2) 2 (by decide +kernel), pk_ushrN hn (nI 4) 4 (by decide +kernel), pk_ushrN hn (nI 8) 8 (by decide +kernel), pk_ushrN hn (nI 16) 16 (by decide +kernel)⟩
theorem nI_and (a b : Nat) : nI a &&& nI b = nI (a &&& b) := by
  apply b_ext; intro i hi
  rw [b_and, bt_nI _ _ hi, bt_nI _ _ hi, bt_nI _ _ hi, Nat.testBit_and]
theorem bitc_pop {n : Nat} (hn : n < 2 ^ 32) : ∃ x1 x2 x3 x4 x5 : Nat, x1 = n - (n / 2 &&& 1431655765) ∧ (n / 2 &&& 1431655765) ≤ n ∧ x1 < 2 ^ 32 ∧ x2 = (x1 &&& 858993459) + (x1 / 4 &&& 858993459) ∧ x2 < 2 ^ 32 ∧ x3 = (x2 + x2 / 16) &&& 252645135 ∧ x3 < 2 ^ 32 ∧ x4 = x3 + x3 / 256 ∧ x4 < 2 ^ 32 ∧ x5 = x4 + x4 / 65536 ∧ x5 % 64 = popN n := by
  obtain ⟨b0, b1, b2, b3, h0, h1, h2, h3, rfl⟩ : ∃ b0 b1 b2 b3 : Nat, b0 < 256 ∧ b1 < 256 ∧ b2 < 256 ∧ b3 < 256 ∧ n = b0 + 256 * (b1 + 256 * (b2 + 256 * b3)) :=
    ⟨n % 256, n / 256 % 256, n / 65536 % 256, n / 16777216, by omega, by omega, by omega, by omega, by omega⟩
  rw [pop_32 h0 h1 h2 h3]
  exact swar h0 h1 h2 h3
theorem and63 (x : Nat) : x &&& 63 = x % 64 := Nat.and_two_pow_sub_one_eq_mod x 6
theorem mk_pop (p : Nat → Bool) : popN (maskN 30 p) = cntN 30 p := by
  unfold popN
  rw [show (32 : Nat) = 30 + 2 from rfl, cntN_split]
  have e1 : cntN 30 (fun i => (maskN 30 p).testBit i) = cntN 30 p := by
    apply cntN_cong; intro i hi; rw [maskN_bit]; simp [hi]
  have e2 : cntN 2 (fun i => (maskN 30 p).testBit (30 + i)) = 0 := by
    have : cntN 2 (fun i => (maskN 30 p).testBit (30 + i)) = cntN 2 (fun _ => false) := by
      apply cntN_cong; intro i _; rw [maskN_bit, decide_eq_false (by omega), Bool.false_and]
    rw [this]; rfl
  rw [e1, e2]; rfl
end
section
/-! More of what the charter means: by layers, reasons, triples. -/
def stgT (n : Nat) (T : Nat → Nat → Nat) (kd ly c d : Nat) : Nat := maxN n (fun j => if (T j 1 == kd && (T j 0 == ly && fitT T j c d)) = true then T j 4 else 0)
theorem maxN_succ (n : Nat) (f : Nat → Nat) : maxN (n + 1) f = max (maxN n f) (f n) := rfl
theorem fit_bit {T : Nat → Nat → Nat} {i c d : Nat} (hc : c < 5) (hd : d < 6) : mk (pfit (T i 2) (T i 3)) &&& mk (pfit c d) = 0 ↔ fitT T i c d = false := by
  rw [mk_one hc hd]
  unfold pfit fitT
  rw [show (6 * c + d) / 6 = c by omega, show (6 * c + d) % 6 = d by omega]
theorem stg_t {T : Nat → Nat → Nat} {i kd ly c d : Nat} (hc : c < 5) (hd : d < 6) (h1 : T i 1 = kd) (h2 : T i 0 = ly) (h3 : ¬ mk (pfit (T i 2) (T i 3)) &&& mk (pfit c d) = 0) : max (maxN i (fun j => if (T j 1 == kd && (T j 0 == ly && fitT T j c d)) = true then T j 4 else 0)) (T i 4) = maxN (i + 1) (fun j => if (T j 1 == kd && (T j 0 == ly && fitT T j c d)) = true then T j 4 else 0) := by
  rw [fit_bit hc hd] at h3
  have h3 : fitT T i c d = true := by simpa using h3
  rw [maxN_succ]; simp [h1, h2, h3]
theorem stg_f1 {T : Nat → Nat → Nat} {i kd ly c d : Nat} (h1 : T i 1 ≠ kd) : maxN i (fun j => if (T j 1 == kd && (T j 0 == ly && fitT T j c d)) = true then T j 4 else 0) = maxN (i + 1) (fun j => if (T j 1 == kd && (T j 0 == ly && fitT T j c d)) = true then T j 4 else 0) := by
  rw [maxN_succ]; simp [h1]
theorem stg_f2 {T : Nat → Nat → Nat} {i kd ly c d : Nat} (h1 : T i 0 ≠ ly) : maxN i (fun j => if (T j 1 == kd && (T j 0 == ly && fitT T j c d)) = true then T j 4 else 0) = maxN (i + 1) (fun j => if (T j 1 == kd && (T j 0 == ly && fitT T j c d)) = true then T j 4 else 0) := by
  rw [maxN_succ]; simp [h1]
theorem stg_f3 {T : Nat → Nat → Nat} {i kd ly c d : Nat} (hc : c < 5) (hd : d < 6) (h3 : mk (pfit (T i 2) (T i 3)) &&& mk (pfit c d) = 0) : maxN i (fun j => if (T j 1 == kd && (T j 0 == ly && fitT T j c d)) = true then T j 4 else 0) = maxN (i + 1) (fun j => if (T j 1 == kd && (T j 0 == ly && fitT T j c d)) = true then T j 4 else 0) := by
  rw [fit_bit hc hd] at h3
  rw [maxN_succ]; simp [h3]
theorem maxIf_le {n k : Nat} {p : Nat → Bool} {f : Nat → Nat} : maxN n (fun j => if p j = true then f j else 0) ≤ k ↔ ∀ i, i < n → p i = true → f i ≤ k := by
  rw [maxN_le]
  constructor
  · intro h i hi hp
    have := h i hi
    rw [if_pos hp] at this; exact this
  · intro h i hi
    by_cases hp : p i = true
    · rw [if_pos hp]; exact h i hi hp
    · rw [if_neg hp]; omega
theorem maxIf_ge {n i : Nat} {p : Nat → Bool} {f : Nat → Nat} (hi : i < n) (hp : p i = true) : f i ≤ maxN n (fun j => if p j = true then f j else 0) := maxIf_le.mp (Nat.le_refl _) i hi hp
theorem maxN_at {n : Nat} {f : Nat → Nat} (h : 0 < maxN n f) : ∃ i, i < n ∧ f i = maxN n f := by
  induction n with
  | zero => exact absurd h (Nat.lt_irrefl 0)
  | succ n ih =>
    rw [maxN_succ] at h ⊢
    rcases Nat.le_total (maxN n f) (f n) with g | g
    · exact ⟨n, by omega, by rw [Nat.max_eq_right g]⟩
    · rw [Nat.max_eq_left g] at h ⊢
      obtain ⟨i, hi, e⟩ := ih h
      exact ⟨i, by omega, e⟩
theorem maxIf_at {n : Nat} {p : Nat → Bool} {f : Nat → Nat} (h : 0 < maxN n (fun j => if p j = true then f j else 0)) : ∃ i, i < n ∧ p i = true ∧ f i = maxN n (fun j => if p j = true then f j else 0) := by
  obtain ⟨i, hi, e⟩ := maxN_at h
  refine ⟨i, hi, ?_⟩
  by_cases hp : p i = true
  · rw [if_pos hp] at e; exact ⟨hp, e⟩
  · rw [if_neg hp] at e; omega
theorem stgT_le {n : Nat} {T : Nat → Nat → Nat} {kd ly c d : Nat} (hW : WfT n T) : stgT n T kd ly c d ≤ 9 :=
  (maxIf_le (p := fun j => (T j 1 == kd && (T j 0 == ly && fitT T j c d))) (f := fun j => T j 4)).mpr (fun i hi _ => (hW i hi).2.2.2.2.2)
/-- the strongest waiver of the layers ahead of ly -/
def wvT (n : Nat) (T : Nat → Nat → Nat) (ly c d : Nat) : Nat := maxN n (fun j => if (T j 1 == 2 && (decide (T j 0 < ly) && fitT T j c d)) = true then T j 4 else 0)
theorem wv_iff {n : Nat} {T : Nat → Nat → Nat} {ly c d k : Nat} : wvT n T ly c d ≤ k ↔ ∀ i, i < n → T i 1 = 2 → T i 0 < ly → fitT T i c d = true → T i 4 ≤ k := by
  refine (maxIf_le (p := fun j => (T j 1 == 2 && (decide (T j 0 < ly) && fitT T j c d))) (f := fun j => T j 4)).trans ?_
  constructor
  · intro h i hi h1 h2 h3
    exact h i hi (by simp [h1, h2, h3])
  · intro h i hi g
    simp only [Bool.and_eq_true, decide_eq_true_eq, beq_iff_eq] at g
    exact h i hi g.1 g.2.1 g.2.2
theorem stg_iff {n : Nat} {T : Nat → Nat → Nat} {kd ly c d k : Nat} : stgT n T kd ly c d ≤ k ↔ ∀ i, i < n → T i 1 = kd → T i 0 = ly → fitT T i c d = true → T i 4 ≤ k := by
  refine (maxIf_le (p := fun j => (T j 1 == kd && (T j 0 == ly && fitT T j c d))) (f := fun j => T j 4)).trans ?_
  constructor
  · intro h i hi h1 h2 h3
    exact h i hi (by simp [h1, h2, h3])
  · intro h i hi g
    simp only [Bool.and_eq_true, beq_iff_eq] at g
    exact h i hi g.1 g.2.1 g.2.2
theorem wv_0 (n : Nat) (T : Nat → Nat → Nat) (c d : Nat) : wvT n T 0 c d = 0 := by
  apply Nat.le_zero.mp; rw [wv_iff]; intro i _ _ h _; omega
theorem wv_s (n : Nat) (T : Nat → Nat → Nat) (ly c d : Nat) : max (wvT n T ly c d) (stgT n T 2 ly c d) = wvT n T (ly + 1) c d := by
  apply Nat.le_antisymm
  · rw [Nat.max_le]; constructor
    · rw [wv_iff]; intro i hi h1 h2 h3
      exact wv_iff.mp (Nat.le_refl _) i hi h1 (by omega) h3
    · rw [stg_iff]; intro i hi h1 h2 h3
      exact wv_iff.mp (Nat.le_refl _) i hi h1 (by omega) h3
  · rw [wv_iff]; intro i hi h1 h2 h3
    rcases Nat.lt_or_ge (T i 0) ly with g | g
    · exact Nat.le_trans (wv_iff.mp (Nat.le_refl _) i hi h1 g h3) (Nat.le_max_left _ _)
    · exact Nat.le_trans (stg_iff.mp (Nat.le_refl _) i hi h1 (by omega) h3) (Nat.le_max_right _ _)
theorem wv_le {n : Nat} {T : Nat → Nat → Nat} {ly c d : Nat} (hW : WfT n T) : wvT n T ly c d ≤ 9 := by
  rw [wv_iff]; intro i hi _ _ _
  exact (hW i hi).2.2.2.2.2
/-- a ban that fits holds if no waiver of its layer or ahead of it is as strong -/
theorem hold_iff {n : Nat} {T : Nat → Nat → Nat} {b c d : Nat} (hf : fitT T b c d = true) (hp : 1 ≤ T b 4) : holdT n T b c d = true ↔ wvT n T (T b 0 + 1) c d < T b 4 := by
  unfold holdT
  rw [hf, Bool.true_and, Bool.not_eq_true', anyN_false]
  constructor
  · intro h
    have : wvT n T (T b 0 + 1) c d ≤ T b 4 - 1 := by
      rw [wv_iff]; intro i hi g1 g2 g3
      have h1 := h i hi
      simp only [liftT, g1, g3, beq_self_eq_true, Bool.true_and, Bool.and_true, Bool.and_eq_false_iff, decide_eq_false_iff_not] at h1
      omega
    omega
  · intro h i hi
    cases g : (liftT T i b && fitT T i c d)
    · rfl
    · simp only [liftT, Bool.and_eq_true, decide_eq_true_eq, beq_iff_eq] at g
      have := wv_iff.mp (Nat.le_refl (wvT n T (T b 0 + 1) c d)) i hi g.1.1 (by omega) g.2
      omega
theorem abl_none {n rk c d : Nat} {T : Nat → Nat → Nat} (hc : c < 5) (hd : d < 6) (hrk : rk ≤ 9) (h : mk (permM n T) &&& mk (pfit c d) = 0) : nI 0 = bI (decide (lstT n T c d ≤ rk)) := by
  rw [mk_one hc hd, perm_bit hc hd] at h
  rw [decide_eq_false (by rw [lst_le hrk, h]; simp)]; rfl
theorem abl_stop {n rk ly c d w : Nat} {T : Nat → Nat → Nat} (hW : WfT n T) (hrk : rk ≤ 9) (hw : w = wvT n T (ly + 1) c d) (h : max w rk < stgT n T 1 ly c d) : nI 0 = bI (decide (lstT n T c d ≤ rk)) := by
  obtain ⟨b, hb, g, e⟩ := maxIf_at (p := fun j => (T j 1 == 1 && (T j 0 == ly && fitT T j c d))) (f := fun j => T j 4) (show 0 < stgT n T 1 ly c d by omega)
  change T b 4 = stgT n T 1 ly c d at e
  simp only [Bool.and_eq_true, beq_iff_eq] at g
  have := hW b hb
  have hh : holdT n T b c d = true := by
    rw [hold_iff g.2.2 (by omega), g.2.1, ← hw]; omega
  rw [decide_eq_false]; · rfl
  rw [lst_le hrk]
  rintro ⟨_, k⟩
  have := k b hb g.1 hh
  omega
theorem abl_go {n rk ly c d w : Nat} {T : Nat → Nat → Nat} (hW : WfT n T) (hw : w = wvT n T (ly + 1) c d) (h : stgT n T 1 ly c d ≤ max w rk) (hv : ∀ b, b < n → T b 1 = 1 → T b 0 < ly → holdT n T b c d = true → T b 4 ≤ rk) : ∀ b, b < n → T b 1 = 1 → T b 0 < ly + 1 → holdT n T b c d = true → T b 4 ≤ rk := by
  intro b hb h1 h2 h3
  rcases Nat.lt_or_ge (T b 0) ly with g | g
  · exact hv b hb h1 g h3
  · have e : T b 0 = ly := by omega
    have hf : fitT T b c d = true := by
      unfold holdT at h3; rw [Bool.and_eq_true] at h3; exact h3.1
    have := hW b hb
    rw [hold_iff hf (by omega), e, ← hw] at h3
    have := stg_iff.mp (Nat.le_refl (stgT n T 1 ly c d)) b hb h1 e hf
    omega
theorem abl_end {n rk c d : Nat} {T : Nat → Nat → Nat} (hW : WfT n T) (hc : c < 5) (hd : d < 6) (hrk : rk ≤ 9) (h : ¬ mk (permM n T) &&& mk (pfit c d) = 0) (hv : ∀ b, b < n → T b 1 = 1 → T b 0 < 5 → holdT n T b c d = true → T b 4 ≤ rk) : nI 1 = bI (decide (lstT n T c d ≤ rk)) := by
  rw [mk_one hc hd, perm_bit hc hd] at h
  rw [decide_eq_true]; · rfl
  rw [lst_le hrk]
  exact ⟨by simpa using h, fun b hb h1 h2 => hv b hb h1 (hW b hb).1 h2⟩
theorem lst_le10 {n c d : Nat} {T : Nat → Nat → Nat} (hW : WfT n T) : lstT n T c d ≤ 10 := by
  unfold lstT; split
  · refine Nat.le_trans ((maxIf_le (p := fun j => (T j 1 == 1 && holdT n T j c d)) (f := fun j => T j 4)).mpr (fun i hi _ => (hW i hi).2.2.2.2.2)) (by omega)
  · omega
/-- how many triples there are from the rank z on -/
def trzT (n : Nat) (T : Nat → Nat → Nat) (z : Nat) : Nat := sumN 30 (fun q => 10 - max (lstT n T (q / 6) (q % 6)) z)
theorem trz_9 {n : Nat} {T : Nat → Nat → Nat} (hW : WfT n T) : cntN 30 (permM n T) = trzT n T 9 := by
  unfold cntN trzT
  apply sumN_cong; intro q _
  have h := lst_le10 (c := q / 6) (d := q % 6) hW
  by_cases g : lstT n T (q / 6) (q % 6) ≤ 9
  · have := ((lst_le (Nat.le_refl 9)).mp g).1
    rw [if_pos (by unfold permM; exact this)]; omega
  · have : ¬ permM n T q = true := by
      intro k; apply g
      rw [lst_le (Nat.le_refl 9)]
      exact ⟨k, fun b hb _ _ => by have := hW b hb; omega⟩
    rw [if_neg this]; omega
theorem trz_s {n z : Nat} {T : Nat → Nat → Nat} (hW : WfT n T) (hz : 1 ≤ z ∧ z ≤ 9) : trzT n T z + cntN 30 (aboveM n T (z - 1)) = trzT n T (z - 1) := by
  unfold cntN trzT
  rw [← sumN_add]
  apply sumN_cong; intro q _
  rw [aboveM_lst (by omega)]
  by_cases g : lstT n T (q / 6) (q % 6) ≤ z - 1
  · rw [if_pos (by simpa using g)]; omega
  · rw [if_neg (by simpa using g)]; omega
theorem trz_0 (n : Nat) (T : Nat → Nat → Nat) : trzT n T 0 = trpT n T := by
  unfold trzT trpT; apply sumN_cong; intro q _; rw [Nat.max_zero]
/-- the reason, found from the first rule on -/
def hitT (n : Nat) (T : Nat → Nat → Nat) (c d rk i : Nat) : Bool := (T i 1 == 1 && decide (rk < T i 4)) && holdT n T i c d
def rsF (n : Nat) (T : Nat → Nat → Nat) (c d rk : Nat) : Nat → Int32 × Nat
  | 0 => ((-6), 5)
  | i + 1 => if hitT n T c d rk i = true ∧ T i 0 < (rsF n T c d rk i).2 then (nI i, T i 0) else rsF n T c d rk i
def rsnT (n : Nat) (T : Nat → Nat → Nat) (c d rk : Nat) : Int32 := if permT n T c d = true then (rsF n T c d rk n).1 else nI 100
theorem rsF_le {n : Nat} {T : Nat → Nat → Nat} {c d rk : Nat} : ∀ i, (rsF n T c d rk i).2 ≤ 5
  | 0 => Nat.le_refl 5
  | i + 1 => by
    have := rsF_le (n := n) (T := T) (c := c) (d := d) (rk := rk) i
    rw [rsF]; split
    · rename_i h; show T i 0 ≤ 5; omega
    · exact this
theorem hold_bit {n : Nat} {T : Nat → Nat → Nat} {b c d : Nat} (hc : c < 5) (hd : d < 6) : mk (heldM n T b) &&& mk (pfit c d) = 0 ↔ holdT n T b c d = false := by
  rw [mk_one hc hd]; unfold heldM
  rw [show (6 * c + d) / 6 = c by omega, show (6 * c + d) % 6 = d by omega]
theorem rs_t {n i c d rk : Nat} {T : Nat → Nat → Nat} {o : Nat} (hc : c < 5) (hd : d < 6) (ho : o = (rsF n T c d rk i).2) (h1 : T i 1 = 1) (h2 : rk < T i 4) (h3 : T i 0 < o) (h4 : ¬ mk (heldM n T i) &&& mk (pfit c d) = 0) : rsF n T c d rk (i + 1) = (nI i, T i 0) := by
  rw [hold_bit hc hd] at h4
  have h4 : holdT n T i c d = true := by simpa using h4
  rw [rsF, if_pos]
  exact ⟨by simp [hitT, h1, h2, h4], by omega⟩
theorem rs_f {n i c d rk : Nat} {T : Nat → Nat → Nat} {o : Nat} (hc : c < 5) (hd : d < 6) (ho : o = (rsF n T c d rk i).2) (h : T i 1 ≠ 1 ∨ T i 4 ≤ rk ∨ o ≤ T i 0 ∨ mk (heldM n T i) &&& mk (pfit c d) = 0) : rsF n T c d rk (i + 1) = rsF n T c d rk i := by
  rw [rsF, if_neg]
  rintro ⟨g1, g2⟩
  simp only [hitT, Bool.and_eq_true, decide_eq_true_eq, beq_iff_eq] at g1
  rcases h with h | h | h | h
  · exact h g1.1.1
  · omega
  · omega
  · rw [hold_bit hc hd, g1.2] at h; cases h
theorem rsn_none {n c d rk : Nat} {T : Nat → Nat → Nat} (hc : c < 5) (hd : d < 6) (h : mk (permM n T) &&& mk (pfit c d) = 0) : nI 100 = rsnT n T c d rk := by
  rw [mk_one hc hd, perm_bit hc hd] at h
  unfold rsnT; rw [h]; rfl
theorem rsn_end {n c d rk : Nat} {T : Nat → Nat → Nat} (hc : c < 5) (hd : d < 6) (h : ¬ mk (permM n T) &&& mk (pfit c d) = 0) : (rsF n T c d rk n).1 = rsnT n T c d rk := by
  rw [mk_one hc hd, perm_bit hc hd] at h
  have h : permT n T c d = true := by simpa using h
  unfold rsnT; rw [if_pos h]
abbrev rulW (kA : Nat → ClassId) (a : Nat → Nat) (f : Nat → Nat → Int32) (z : Int32) : va_W := [((a 0), .inr (2, [.ref (a 1), .ref (a 2), .ref (a 3), .ref (a 4), .ref (a 5), .ref (a 6), .int z])), ((a 1), .inl (kA 0, 25, .inl (f 0))), ((a 2), .inl (kA 0, 25, .inl (f 1))), ((a 3), .inl (kA 0, 25, .inl (f 2))), ((a 4), .inl (kA 0, 25, .inl (f 3))), ((a 5), .inl (kA 0, 25, .inl (f 4))), ((a 6), .inl (kA 0, 25, .inl (f 5)))]
abbrev gldW (kA : Nat → ClassId) (b : Nat → Nat) (g : Nat → Nat → Int32) (z dn : Int32) : va_W := [((b 0), .inr (0, [.ref (b 1), .ref (b 2), .ref (b 3), .ref (b 4), .ref (b 5), .int z, .int dn])), ((b 1), .inl (kA 0, 10, .inl (g 0))), ((b 2), .inl (kA 0, 10, .inl (g 1))), ((b 3), .inl (kA 0, 10, .inl (g 2))), ((b 4), .inl (kA 0, 10, .inl (g 3))), ((b 5), .inl (kA 0, 6, .inl (g 4)))]
def appF (f : Nat → Nat → Int32) (n l kd c d s : Nat) : Nat → Nat → Int32 := fun w => match w with
  | 0 => upd (f 0) n (nI l)
  | 1 => upd (f 1) n (nI kd)
  | 2 => upd (f 2) n (nI c)
  | 3 => upd (f 3) n (nI d)
  | 4 => upd (f 4) n (nI s)
  | 5 => upd (f 5) n (mk (pfit c d))
  | _ => f w
def delF (f : Nat → Nat → Int32) (i : Nat) : Nat → Nat → Int32 := fun w => gapF (f w) i 24
def appG (g : Nat → Nat → Int32) (n c rk : Nat) : Nat → Nat → Int32 := fun w => match w with
  | 0 => upd (g 0) n (nI c)
  | 1 => upd (g 1) n (nI rk)
  | 2 => upd (g 2) n (nI 0)
  | 3 => upd (g 3) n (nI 0)
  | _ => g w
def delG (g : Nat → Nat → Int32) (i : Nat) : Nat → Nat → Int32 := fun w => if w < 4 then gapF (g w) i 9 else g w
theorem has_t {n i : Nat} (h : i < n) (hn : n < 2 ^ 31) : bI (hasB n (nI i)) = bI true := by
  unfold hasB; rw [decide_eq_true (nI_pos' (by omega)), decide_eq_true (nI_lt h hn)]; rfl
theorem inR_t {i a b : Nat} (h1 : a ≤ i) (h2 : i ≤ b) (hb : b < 2 ^ 31) : bI (inR (nI i) (nI a) (nI b)) = bI true := by
  unfold inR; rw [decide_eq_true (nI_le h1 (by omega)), decide_eq_true (nI_le h2 hb)]; rfl
end
section
theorem zz_probe : (1 : Nat) = 1 := rfl
end
