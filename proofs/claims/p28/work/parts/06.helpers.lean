set_option maxHeartbeats 8000000 in
set_option maxRecDepth 100000 in
theorem c_X4_isBetween (xl : Launch) (D : va_G) (kA : Nat → ClassId) (x lo hi : Int32) : Met xl yX4_isBetween wsX4_isBetween { frames := 0, cells := 0, slots := 0, locals := 0 } (va_Pc [.int x, .int lo, .int hi] (xPr D kA [])) (vp_Si (fun rr => rr = bI (inR x lo hi))) 0 0 (fun _ => False) := by
  refine Met.ofW (cc := cX4_isBetween) (maxL := 3) (ret := (some .boolean)) (by decide) rfl ?_
  intro xp xe xs xm args xbe xme xc s₁ B hml hv
  obtain ⟨rfl, hP, hN⟩ := hv
  have hret := B.returns
  have C : CallFix xp xm xc cX4_isBetween 3 xs ([.int x, .int lo, .int hi] : List Value).toArray wsX4_isBetween RX4 := ⟨B.exec, B.bytes, hml, findClass_of_methodNamed B.named, atoms_spec (ws := wsX4_isBetween) B.pre⟩
  have hlocks := B.notSynchronized
  obtain ⟨hx, hb, _, hown, hts⟩ := id C
  have hl := lv_entry ([.int x, .int lo, .int hi]) (n := 3) (Nat.le_of_ble_eq_true rfl)
  rw [lg_entry_eq]
  generalize (lg_sl ([.int x, .int lo, .int hi]) ++ List.replicate (3 - (lg_sl ([.int x, .int lo, .int hi])).length) Slot.unset).toArray = ls at hl ⊢
  have hl : lv_has ls 3 [(0, .int x), (1, .int lo), (2, .int hi)] := hl
  refine lv_iload_n hx hb dX4_isBetween_0 rfl (lv_at hl 0 rfl) ?_
  refine lv_iload_n hx hb dX4_isBetween_1 rfl (lv_at hl 1 rfl) ?_
  refine lv_icmp_lt (tgt := 14) hx hb dX4_isBetween_2 (by decide) (fun h_2 => ?_) (fun h_2 => ?_)
  · skip
    refine lv_iconst (v := nI 0) hx hb dX4_isBetween_14 (by decide) ?_
    exact xRoZ hx hb hret (v := nI 0) (xNar0) (by first | exact btw_3 h_2 h_7 | exact btw_2 h_7 | exact btw_1 h_2) dX4_isBetween_15 hlocks
  · skip
    refine lv_iload_n hx hb dX4_isBetween_5 rfl (lv_at hl 0 rfl) ?_
    refine lv_iload_n hx hb dX4_isBetween_6 rfl (lv_at hl 2 rfl) ?_
    refine lv_icmp_gt (tgt := 14) hx hb dX4_isBetween_7 (by decide) (fun h_7 => ?_) (fun h_7 => ?_)
    · skip
      refine lv_iconst (v := nI 0) hx hb dX4_isBetween_14 (by decide) ?_
      exact xRoZ hx hb hret (v := nI 0) (xNar0) (by first | exact btw_3 h_2 h_7 | exact btw_2 h_7 | exact btw_1 h_2) dX4_isBetween_15 hlocks
    · skip
      refine lv_iconst (v := nI 1) hx hb dX4_isBetween_10 (by decide) ?_
      refine lv_goto (tgt := 15) hx hb dX4_isBetween_11 (by decide) ?_
      exact xRoZ hx hb hret (v := nI 1) (xNar1) (by first | exact btw_3 h_2 h_7 | exact btw_2 h_7 | exact btw_1 h_2) dX4_isBetween_15 hlocks

set_option maxHeartbeats 8000000 in
set_option maxRecDepth 100000 in
theorem c_X4_isLayer (xl : Launch) (D : va_G) (kA : Nat → ClassId) (x : Int32) : Met xl yX4_isLayer wsX4_isLayer { frames := 1, cells := 0, slots := 0, locals := 22 } (va_Pc [.int x] (xPr D kA [])) (vp_Si (fun rr => rr = bI (inR x (nI 0) (nI 4)))) 0 0 (fun _ => False) := by
  refine Met.ofW (cc := cX4_isLayer) (maxL := 1) (ret := (some .boolean)) (by decide) rfl ?_
  intro xp xe xs xm args xbe xme xc s₁ B hml hv
  obtain ⟨rfl, hP, hN⟩ := hv
  have hret := B.returns
  have C : CallFix xp xm xc cX4_isLayer 1 xs ([.int x] : List Value).toArray wsX4_isLayer RX4 := ⟨B.exec, B.bytes, hml, findClass_of_methodNamed B.named, atoms_spec (ws := wsX4_isLayer) B.pre⟩
  have hlocks := B.notSynchronized
  obtain ⟨hx, hb, _, hown, hts⟩ := id C
  have hl := lv_entry ([.int x]) (n := 1) (Nat.le_of_ble_eq_true rfl)
  rw [lg_entry_eq]
  generalize (lg_sl ([.int x]) ++ List.replicate (1 - (lg_sl ([.int x])).length) Slot.unset).toArray = ls at hl ⊢
  have hl : lv_has ls 1 [(0, .int x)] := hl
  refine lv_iload_n hx hb dX4_isLayer_0 rfl (lv_at hl 0 rfl) ?_
  refine lv_iconst (v := nI 0) hx hb dX4_isLayer_1 (by decide) ?_
  refine lv_iconst (v := nI 4) hx hb dX4_isLayer_2 (by decide) ?_
  refine xSro C hN (As := [.int x, .int (nI 0), .int (nI 4)]) (rest := []) (c_X4_isBetween xl D kA x (nI 0) (nI 4)) (va_cwS 3 hts gX4_isLayer_X4_isBetween rfl rfl rfl (by decide +kernel) ⟨Nat.le_of_ble_eq_true rfl, Nat.le_of_ble_eq_true rfl⟩) hP rfl hl.1 rfl (Nat.le_of_ble_eq_true rfl) dX4_isLayer_3 ⟨Nat.le_of_ble_eq_true rfl, Nat.le_of_ble_eq_true rfl⟩ ?_
  exact xRoZ hx hb hret (v := bI (inR x (nI 0) (nI 4))) (xNarB _) (rfl) dX4_isLayer_6 hlocks

set_option maxHeartbeats 8000000 in
set_option maxRecDepth 100000 in
theorem c_X4_isCraft (xl : Launch) (D : va_G) (kA : Nat → ClassId) (x : Int32) : Met xl yX4_isCraft wsX4_isCraft { frames := 1, cells := 0, slots := 0, locals := 22 } (va_Pc [.int x] (xPr D kA [])) (vp_Si (fun rr => rr = bI (inR x (nI 0) (nI 4)))) 0 0 (fun _ => False) := by
  refine Met.ofW (cc := cX4_isCraft) (maxL := 1) (ret := (some .boolean)) (by decide) rfl ?_
  intro xp xe xs xm args xbe xme xc s₁ B hml hv
  obtain ⟨rfl, hP, hN⟩ := hv
  have hret := B.returns
  have C : CallFix xp xm xc cX4_isCraft 1 xs ([.int x] : List Value).toArray wsX4_isCraft RX4 := ⟨B.exec, B.bytes, hml, findClass_of_methodNamed B.named, atoms_spec (ws := wsX4_isCraft) B.pre⟩
  have hlocks := B.notSynchronized
  obtain ⟨hx, hb, _, hown, hts⟩ := id C
  have hl := lv_entry ([.int x]) (n := 1) (Nat.le_of_ble_eq_true rfl)
  rw [lg_entry_eq]
  generalize (lg_sl ([.int x]) ++ List.replicate (1 - (lg_sl ([.int x])).length) Slot.unset).toArray = ls at hl ⊢
  have hl : lv_has ls 1 [(0, .int x)] := hl
  refine lv_iload_n hx hb dX4_isCraft_0 rfl (lv_at hl 0 rfl) ?_
  refine lv_iconst (v := nI 0) hx hb dX4_isCraft_1 (by decide) ?_
  refine lv_iconst (v := nI 4) hx hb dX4_isCraft_2 (by decide) ?_
  refine xSro C hN (As := [.int x, .int (nI 0), .int (nI 4)]) (rest := []) (c_X4_isBetween xl D kA x (nI 0) (nI 4)) (va_cwS 3 hts gX4_isCraft_X4_isBetween rfl rfl rfl (by decide +kernel) ⟨Nat.le_of_ble_eq_true rfl, Nat.le_of_ble_eq_true rfl⟩) hP rfl hl.1 rfl (Nat.le_of_ble_eq_true rfl) dX4_isCraft_3 ⟨Nat.le_of_ble_eq_true rfl, Nat.le_of_ble_eq_true rfl⟩ ?_
  exact xRoZ hx hb hret (v := bI (inR x (nI 0) (nI 4))) (xNarB _) (rfl) dX4_isCraft_6 hlocks

set_option maxHeartbeats 8000000 in
set_option maxRecDepth 100000 in
theorem c_X4_isDeed (xl : Launch) (D : va_G) (kA : Nat → ClassId) (x : Int32) : Met xl yX4_isDeed wsX4_isDeed { frames := 1, cells := 0, slots := 0, locals := 22 } (va_Pc [.int x] (xPr D kA [])) (vp_Si (fun rr => rr = bI (inR x (nI 0) (nI 5)))) 0 0 (fun _ => False) := by
  refine Met.ofW (cc := cX4_isDeed) (maxL := 1) (ret := (some .boolean)) (by decide) rfl ?_
  intro xp xe xs xm args xbe xme xc s₁ B hml hv
  obtain ⟨rfl, hP, hN⟩ := hv
  have hret := B.returns
  have C : CallFix xp xm xc cX4_isDeed 1 xs ([.int x] : List Value).toArray wsX4_isDeed RX4 := ⟨B.exec, B.bytes, hml, findClass_of_methodNamed B.named, atoms_spec (ws := wsX4_isDeed) B.pre⟩
  have hlocks := B.notSynchronized
  obtain ⟨hx, hb, _, hown, hts⟩ := id C
  have hl := lv_entry ([.int x]) (n := 1) (Nat.le_of_ble_eq_true rfl)
  rw [lg_entry_eq]
  generalize (lg_sl ([.int x]) ++ List.replicate (1 - (lg_sl ([.int x])).length) Slot.unset).toArray = ls at hl ⊢
  have hl : lv_has ls 1 [(0, .int x)] := hl
  refine lv_iload_n hx hb dX4_isDeed_0 rfl (lv_at hl 0 rfl) ?_
  refine lv_iconst (v := nI 0) hx hb dX4_isDeed_1 (by decide) ?_
  refine lv_iconst (v := nI 5) hx hb dX4_isDeed_2 (by decide) ?_
  refine xSro C hN (As := [.int x, .int (nI 0), .int (nI 5)]) (rest := []) (c_X4_isBetween xl D kA x (nI 0) (nI 5)) (va_cwS 3 hts gX4_isDeed_X4_isBetween rfl rfl rfl (by decide +kernel) ⟨Nat.le_of_ble_eq_true rfl, Nat.le_of_ble_eq_true rfl⟩) hP rfl hl.1 rfl (Nat.le_of_ble_eq_true rfl) dX4_isDeed_3 ⟨Nat.le_of_ble_eq_true rfl, Nat.le_of_ble_eq_true rfl⟩ ?_
  exact xRoZ hx hb hret (v := bI (inR x (nI 0) (nI 5))) (xNarB _) (rfl) dX4_isDeed_6 hlocks

set_option maxHeartbeats 8000000 in
set_option maxRecDepth 100000 in
theorem c_X4_isSeal (xl : Launch) (D : va_G) (kA : Nat → ClassId) (x : Int32) : Met xl yX4_isSeal wsX4_isSeal { frames := 1, cells := 0, slots := 0, locals := 22 } (va_Pc [.int x] (xPr D kA [])) (vp_Si (fun rr => rr = bI (inR x (nI 1) (nI 9)))) 0 0 (fun _ => False) := by
  refine Met.ofW (cc := cX4_isSeal) (maxL := 1) (ret := (some .boolean)) (by decide) rfl ?_
  intro xp xe xs xm args xbe xme xc s₁ B hml hv
  obtain ⟨rfl, hP, hN⟩ := hv
  have hret := B.returns
  have C : CallFix xp xm xc cX4_isSeal 1 xs ([.int x] : List Value).toArray wsX4_isSeal RX4 := ⟨B.exec, B.bytes, hml, findClass_of_methodNamed B.named, atoms_spec (ws := wsX4_isSeal) B.pre⟩
  have hlocks := B.notSynchronized
  obtain ⟨hx, hb, _, hown, hts⟩ := id C
  have hl := lv_entry ([.int x]) (n := 1) (Nat.le_of_ble_eq_true rfl)
  rw [lg_entry_eq]
  generalize (lg_sl ([.int x]) ++ List.replicate (1 - (lg_sl ([.int x])).length) Slot.unset).toArray = ls at hl ⊢
  have hl : lv_has ls 1 [(0, .int x)] := hl
  refine lv_iload_n hx hb dX4_isSeal_0 rfl (lv_at hl 0 rfl) ?_
  refine lv_iconst (v := nI 1) hx hb dX4_isSeal_1 (by decide) ?_
  refine lv_bipush (v := nI 9) hx hb dX4_isSeal_2 (by decide) ?_
  refine xSro C hN (As := [.int x, .int (nI 1), .int (nI 9)]) (rest := []) (c_X4_isBetween xl D kA x (nI 1) (nI 9)) (va_cwS 3 hts gX4_isSeal_X4_isBetween rfl rfl rfl (by decide +kernel) ⟨Nat.le_of_ble_eq_true rfl, Nat.le_of_ble_eq_true rfl⟩) hP rfl hl.1 rfl (Nat.le_of_ble_eq_true rfl) dX4_isSeal_4 ⟨Nat.le_of_ble_eq_true rfl, Nat.le_of_ble_eq_true rfl⟩ ?_
  exact xRoZ hx hb hret (v := bI (inR x (nI 1) (nI 9))) (xNarB _) (rfl) dX4_isSeal_7 hlocks

set_option maxHeartbeats 8000000 in
set_option maxRecDepth 100000 in
theorem c_X4_isRank (xl : Launch) (D : va_G) (kA : Nat → ClassId) (x : Int32) : Met xl yX4_isRank wsX4_isRank { frames := 1, cells := 0, slots := 0, locals := 22 } (va_Pc [.int x] (xPr D kA [])) (vp_Si (fun rr => rr = bI (inR x (nI 0) (nI 9)))) 0 0 (fun _ => False) := by
  refine Met.ofW (cc := cX4_isRank) (maxL := 1) (ret := (some .boolean)) (by decide) rfl ?_
  intro xp xe xs xm args xbe xme xc s₁ B hml hv
  obtain ⟨rfl, hP, hN⟩ := hv
  have hret := B.returns
  have C : CallFix xp xm xc cX4_isRank 1 xs ([.int x] : List Value).toArray wsX4_isRank RX4 := ⟨B.exec, B.bytes, hml, findClass_of_methodNamed B.named, atoms_spec (ws := wsX4_isRank) B.pre⟩
  have hlocks := B.notSynchronized
  obtain ⟨hx, hb, _, hown, hts⟩ := id C
  have hl := lv_entry ([.int x]) (n := 1) (Nat.le_of_ble_eq_true rfl)
  rw [lg_entry_eq]
  generalize (lg_sl ([.int x]) ++ List.replicate (1 - (lg_sl ([.int x])).length) Slot.unset).toArray = ls at hl ⊢
  have hl : lv_has ls 1 [(0, .int x)] := hl
  refine lv_iload_n hx hb dX4_isRank_0 rfl (lv_at hl 0 rfl) ?_
  refine lv_iconst (v := nI 0) hx hb dX4_isRank_1 (by decide) ?_
  refine lv_bipush (v := nI 9) hx hb dX4_isRank_2 (by decide) ?_
  refine xSro C hN (As := [.int x, .int (nI 0), .int (nI 9)]) (rest := []) (c_X4_isBetween xl D kA x (nI 0) (nI 9)) (va_cwS 3 hts gX4_isRank_X4_isBetween rfl rfl rfl (by decide +kernel) ⟨Nat.le_of_ble_eq_true rfl, Nat.le_of_ble_eq_true rfl⟩) hP rfl hl.1 rfl (Nat.le_of_ble_eq_true rfl) dX4_isRank_4 ⟨Nat.le_of_ble_eq_true rfl, Nat.le_of_ble_eq_true rfl⟩ ?_
  exact xRoZ hx hb hret (v := bI (inR x (nI 0) (nI 9))) (xNarB _) (rfl) dX4_isRank_7 hlocks

set_option maxHeartbeats 8000000 in
set_option maxRecDepth 100000 in
theorem c_X4_pairsOf (xl : Launch) (D : va_G) (kA : Nat → ClassId) (c d : Nat) (hc : c ≤ 5) (hd : d ≤ 6) : Met xl yX4_pairsOf wsX4_pairsOf { frames := 0, cells := 0, slots := 0, locals := 0 } (va_Pc [.int (nI c), .int (nI d)] (xPr D kA [])) (vp_Si (fun rr => rr = mk (pfit c d))) 0 0 (fun _ => False) := by
  refine Met.ofW (cc := cX4_pairsOf) (maxL := 5) (ret := (some .int)) (by decide) rfl ?_
  intro xp xe xs xm args xbe xme xc s₁ B hml hv
  obtain ⟨rfl, hP, hN⟩ := hv
  have hret := B.returns
  have C : CallFix xp xm xc cX4_pairsOf 5 xs ([.int (nI c), .int (nI d)] : List Value).toArray wsX4_pairsOf RX4 := ⟨B.exec, B.bytes, hml, findClass_of_methodNamed B.named, atoms_spec (ws := wsX4_pairsOf) B.pre⟩
  have hlocks := B.notSynchronized
  obtain ⟨hx, hb, _, hown, hts⟩ := id C
  have hl := lv_entry ([.int (nI c), .int (nI d)]) (n := 5) (Nat.le_of_ble_eq_true rfl)
  rw [lg_entry_eq]
  generalize (lg_sl ([.int (nI c), .int (nI d)]) ++ List.replicate (5 - (lg_sl ([.int (nI c), .int (nI d)])).length) Slot.unset).toArray = ls at hl ⊢
  have hl : lv_has ls 5 [(0, .int (nI c)), (1, .int (nI d))] := hl
  refine lv_iload_n hx hb dX4_pairsOf_0 rfl (lv_at hl 1 rfl) ?_
  refine lv_bipush (v := nI 6) hx hb dX4_pairsOf_1 (by decide) ?_
  have J3 : ∀ (ls : Array Slot) (_ : lv_has ls 5 [(0, .int (nI c)), (1, .int (nI d))]), W xp xl xe (headSpec wsX4_pairsOf { frames := 0, cells := 0, slots := 0, locals := 0 }).room xs xm ([.int (nI c), .int (nI d)] : List Value).toArray xbe xme xc xs.heap [] 0 0 (MQ xbe (vp_Si (fun rr => rr = mk (pfit c d))) ([.int (nI c), .int (nI d)] : List Value).toArray xs 0 0 (fun _ => False)) (F0 xm 14 ls [.int (mk (dmask d))]) := by
    intro   ls hl
    refine lv_istore_n (lv' := [(2, .int (mk (dmask d))), (0, .int (nI c)), (1, .int (nI d))]) hx hb dX4_pairsOf_14 rfl hl (by decide) rfl (fun ls hl => ?_)
    refine lv_iload_n hx hb dX4_pairsOf_15 rfl (lv_at hl 1 rfl) ?_
    refine lv_iconst (v := nI 5) hx hb dX4_pairsOf_16 (by decide) ?_
    refine xIcmpEq C (tgt := 27) (by omega) (by decide) dX4_pairsOf_17 (by decide) (fun h_17 => ?_) (fun h_17 => ?_)
    · skip
      refine lv_iconst (v := nI 0) hx hb dX4_pairsOf_27 (by decide) ?_
      refine lv_istore_n (lv' := [(3, .int (nI 0)), (2, .int (mk (dmask d))), (0, .int (nI c)), (1, .int (nI d))]) hx hb dX4_pairsOf_28 rfl hl (by decide) rfl (fun ls hl => ?_)
      rw [show (nI 0 : Int32) = mk (lmask d 0) from (lmask_0 d).symm] at hl
      refine lv_iconst (v := nI 0) hx hb dX4_pairsOf_29 (by decide) ?_
      refine lv_istore (lv' := [(4, .int (nI 0)), (3, .int (mk (lmask d 0))), (2, .int (mk (dmask d))), (0, .int (nI c)), (1, .int (nI d))]) hx hb dX4_pairsOf_30 hl (by decide) rfl (fun ls hl => ?_)
      have L32 : ∀ (fuel : Nat), ∀ (i : Nat) (hmu : 5 - i < fuel) (hi : i ≤ 5) (ls : Array Slot) (_ : lv_has ls 5 [(4, .int (nI i)), (3, .int (mk (lmask d i))), (2, .int (mk (dmask d))), (0, .int (nI c)), (1, .int (nI d))]), W xp xl xe (headSpec wsX4_pairsOf { frames := 0, cells := 0, slots := 0, locals := 0 }).room xs xm ([.int (nI c), .int (nI d)] : List Value).toArray xbe xme xc xs.heap [] 0 0 (MQ xbe (vp_Si (fun rr => rr = mk (pfit c d))) ([.int (nI c), .int (nI d)] : List Value).toArray xs 0 0 (fun _ => False)) (F0 xm 32 ls []) := by
        intro fuel
        induction fuel with
        | zero => intro i hmu; exact absurd hmu (Nat.not_lt_zero _)
        | succ fuel ih32 =>
          intro i hmu hi ls hl
          refine lv_iload hx hb dX4_pairsOf_32 (lv_at hl 0 rfl) ?_
          refine lv_iconst (v := nI 5) hx hb dX4_pairsOf_34 (by decide) ?_
          refine xIcmpGe C (tgt := 54) (by omega) (by decide) dX4_pairsOf_35 (by decide) (fun h_35 => ?_) (fun h_35 => ?_)
          · skip
            refine lv_iload_n hx hb dX4_pairsOf_54 rfl (lv_at hl 1 rfl) ?_
            exact xRoI hx hb hret (v := mk (lmask d i)) (lmask_5 c d i (by omega) (by omega)) dX4_pairsOf_55 hlocks
          · skip
            refine lv_iload_n hx hb dX4_pairsOf_38 rfl (lv_at hl 1 rfl) ?_
            refine lv_iload_n hx hb dX4_pairsOf_39 rfl (lv_at hl 2 rfl) ?_
            refine lv_iload hx hb dX4_pairsOf_40 (lv_at hl 0 rfl) ?_
            refine lv_bipush (v := nI 6) hx hb dX4_pairsOf_42 (by decide) ?_
            refine xImul C dX4_pairsOf_44 ?_
            refine lv_ishl hx hb dX4_pairsOf_45 ?_
            refine lv_ior hx hb dX4_pairsOf_46 ?_
            refine xTop (y := mk (lmask d (i + 1))) (lmask_s d i (by omega)) ?_
            refine lv_istore_n (lv' := [(3, .int (mk (lmask d (i + 1)))), (4, .int (nI i)), (2, .int (mk (dmask d))), (0, .int (nI c)), (1, .int (nI d))]) hx hb dX4_pairsOf_47 rfl hl (by decide) rfl (fun ls hl => ?_)
            refine xIinc C (kx := 1) (d := 1) (lv' := [(4, .int (nI (i + 1))), (3, .int (mk (lmask d (i + 1)))), (2, .int (mk (dmask d))), (0, .int (nI c)), (1, .int (nI d))]) dX4_pairsOf_48 hl rfl (by decide) (by decide) rfl (fun ls hl => ?_)
            refine lv_goto (tgt := 32) hx hb dX4_pairsOf_51 (by decide) ?_
            exact ih32 (i + 1) (by omega) (by omega) _ (lv_sub hl [0, 1, 2, 3, 4] rfl)
      exact L32 _ 0 (Nat.lt_succ_self _) (by omega) _ (lv_sub hl [0, 1, 2, 3, 4] rfl)
    · skip
      refine lv_iload_n hx hb dX4_pairsOf_20 rfl (lv_at hl 0 rfl) ?_
      refine lv_iload_n hx hb dX4_pairsOf_21 rfl (lv_at hl 1 rfl) ?_
      refine lv_bipush (v := nI 6) hx hb dX4_pairsOf_22 (by decide) ?_
      refine xImul C dX4_pairsOf_24 ?_
      refine lv_ishl hx hb dX4_pairsOf_25 ?_
      refine xTop (y := mk (pfit c d)) (dmask_c c d (by omega)) ?_
      exact xRoI hx hb hret (v := mk (pfit c d)) (rfl) dX4_pairsOf_26 hlocks
  refine xIcmpNe C (tgt := 11) (by omega) (by decide) dX4_pairsOf_3 (by decide) (fun h_3 => ?_) (fun h_3 => ?_)
  · skip
    refine lv_iconst (v := nI 1) hx hb dX4_pairsOf_11 (by decide) ?_
    refine lv_iload_n hx hb dX4_pairsOf_12 rfl (lv_at hl 1 rfl) ?_
    refine lv_ishl hx hb dX4_pairsOf_13 ?_
    refine xTop (y := mk (dmask d)) (dmask_s d (by omega)) ?_
    exact J3   _ (lv_sub hl [0, 1] rfl)
  · skip
    refine lv_bipush (v := nI 63) hx hb dX4_pairsOf_6 (by decide) ?_
    refine xTop (y := mk (dmask d)) (dmask_6 h_3) ?_
    refine lv_goto (tgt := 14) hx hb dX4_pairsOf_8 (by decide) ?_
    exact J3   _ (lv_sub hl [0, 1] rfl)

set_option maxHeartbeats 8000000 in
set_option maxRecDepth 100000 in
theorem c_X4_closeGap (xl : Launch) (D : va_G) (kA : Nat → ClassId) (a N : Nat) (f : Nat → Int32) (i : Nat) (hi : i < N) (hN2 : N < 2 ^ 30) (A : Nat → Prop) : Met xl yX4_closeGap wsX4_closeGap { frames := 1, cells := 0, slots := 0, locals := 40 } (va_Pc [.ref a, .int (nI i)] (xPw D kA A [(a, .inl (kA 0, N, .inl (f)))])) (xQv D A (fun u => u = [(a, .inl (kA 0, N, .inl (gapF f i (N - 1))))])) 0 0 A := by
  refine Met.ofW (cc := cX4_closeGap) (maxL := 3) (ret := none) (by decide) rfl ?_
  intro xp xe xs xm args xbe xme xc s₁ B hml hv
  obtain ⟨rfl, hP, hN, hD, hA⟩ := hv
  have hret := B.returns
  have C : CallFix xp xm xc cX4_closeGap 3 xs ([.ref a, .int (nI i)] : List Value).toArray wsX4_closeGap RX4 := ⟨B.exec, B.bytes, hml, findClass_of_methodNamed B.named, atoms_spec (ws := wsX4_closeGap) B.pre⟩
  have hlocks := B.notSynchronized
  obtain ⟨hx, hb, _, hown, hts⟩ := id C
  have hS : va_S A xs.heap xs.heap [] := va_S.rf
  have hl := lv_entry ([.ref a, .int (nI i)]) (n := 3) (Nat.le_of_ble_eq_true rfl)
  rw [lg_entry_eq]
  generalize (lg_sl ([.ref a, .int (nI i)]) ++ List.replicate (3 - (lg_sl ([.ref a, .int (nI i)])).length) Slot.unset).toArray = ls at hl ⊢
  have hl : lv_has ls 3 [(0, .ref a), (1, .int (nI i))] := hl
  refine lv_iload_n hx hb dX4_closeGap_0 rfl (lv_at hl 1 rfl) ?_
  refine lv_iconst (v := nI 0) hx hb dX4_closeGap_1 (by decide) ?_
  refine va_mmax hx hb (hml.trans hl.1.symm) hown (hts _ (List.mem_of_getElem? (i := 1) rfl)) (hts _ (List.mem_of_getElem? (i := 2) rfl)) (hts _ (List.mem_of_getElem? (i := 3) rfl)) (hts _ (List.mem_of_getElem? (i := 4) rfl)) (Nat.le_of_ble_eq_true rfl) (Nat.le_of_ble_eq_true rfl) (Nat.le_of_ble_eq_true rfl) (Nat.le_of_ble_eq_true rfl) dX4_closeGap_2 ?_
  refine xTop (y := nI (max i 0)) (nI_max (by omega) (by decide)) ?_
  refine xTop (y := nI i) (by rw [Nat.max_eq_left (Nat.zero_le i)]) ?_
  refine lv_istore_n (lv' := [(2, .int (nI i)), (0, .ref a), (1, .int (nI i))]) hx hb dX4_closeGap_5 rfl hl (by decide) rfl (fun ls hl => ?_)
  rw [← gapF_0 f i] at hP hD
  have L6 : ∀ (fuel : Nat), ∀ (j : Nat) (hmu : N - j < fuel) (hj : i ≤ j) (hj2 : j ≤ N - 1) (H : Heap) (locs : List Loc) (_ : va_P D vwCl [(a, .inl (kA 0, N, .inl (gapF f i j)))] H) (_ : va_D A [(a, .inl (kA 0, N, .inl (gapF f i j)))]) (_ : va_S A xs.heap H locs) (ls : Array Slot) (_ : lv_has ls 3 [(2, .int (nI j)), (0, .ref a), (1, .int (nI i))]), W xp xl xe (headSpec wsX4_closeGap { frames := 1, cells := 0, slots := 0, locals := 40 }).room xs xm ([.ref a, .int (nI i)] : List Value).toArray xbe xme xc H locs 0 0 (MQ xbe (xQv D A (fun u => u = [(a, .inl (kA 0, N, .inl (gapF f i (N - 1))))])) ([.ref a, .int (nI i)] : List Value).toArray xs 0 0 A) (F0 xm 6 ls []) := by
    intro fuel
    induction fuel with
    | zero => intro j hmu; exact absurd hmu (Nat.not_lt_zero _)
    | succ fuel ih6 =>
      intro j hmu hj hj2 H locs hP hD hS ls hl
      refine lv_iload_n hx hb dX4_closeGap_6 rfl (lv_at hl 0 rfl) ?_
      refine lv_aload_n hx hb dX4_closeGap_7 rfl (lv_at hl 1 rfl) ?_
      refine xAlen C hN hP 0 0 rfl rfl dX4_closeGap_8 ?_
      refine lv_iconst (v := nI 1) hx hb dX4_closeGap_9 (by decide) ?_
      refine xIsub C (by omega) dX4_closeGap_10 ?_
      refine xIcmpGe C (tgt := 28) (by omega) (by omega) dX4_closeGap_11 (by decide) (fun h_11 => ?_) (fun h_11 => ?_)
      · skip
        exact xRetV hx hb hret (by rw [show j = N - 1 by omega]) hP hD hS dX4_closeGap_28 hlocks
      · skip
        refine lv_aload_n hx hb dX4_closeGap_14 rfl (lv_at hl 1 rfl) ?_
        refine lv_iload_n hx hb dX4_closeGap_15 rfl (lv_at hl 0 rfl) ?_
        refine lv_aload_n hx hb dX4_closeGap_16 rfl (lv_at hl 1 rfl) ?_
        refine lv_iload_n hx hb dX4_closeGap_17 rfl (lv_at hl 0 rfl) ?_
        refine lv_iconst (v := nI 1) hx hb dX4_closeGap_18 (by decide) ?_
        refine xIadd C dX4_closeGap_19 ?_
        refine xIald C hN hP 0 (j := j + 1) (v := f (j + 1)) rfl (by omega) (by omega) (gapF_hi f (by omega)) dX4_closeGap_20 ?_
        refine xIast C hN hP hD hS 0 (j := j) rfl (by omega) (by omega) dX4_closeGap_21 (fun H locs hP hD hS => ?_)
        rw [show upd (gapF f i j) (j) (f (j + 1)) = gapF f i (j + 1) from gapF_s f (by omega)] at hP hD
        have hP : va_P D vwCl [(a, .inl (kA 0, N, .inl (gapF f i (j + 1))))] H := hP
        have hD : va_D A [(a, .inl (kA 0, N, .inl (gapF f i (j + 1))))] := hD
        refine xIinc C (kx := 0) (d := 1) (lv' := [(2, .int (nI (j + 1))), (0, .ref a), (1, .int (nI i))]) dX4_closeGap_22 hl rfl (by decide) (by decide) rfl (fun ls hl => ?_)
        refine lv_goto (tgt := 6) hx hb dX4_closeGap_25 (by decide) ?_
        have hP : va_P D vwCl [(a, .inl (kA 0, N, .inl (gapF f i (j + 1))))] H := hP
        exact ih6 (j + 1) (by omega) (by omega) (by omega) _ _ hP hD hS _ (lv_sub hl [0, 1, 2] rfl)
  exact L6 _ i (Nat.lt_succ_self _) (Nat.le_refl _) (by omega) _ _ hP hD hS _ (lv_sub hl [0, 1, 2] rfl)

set_option maxHeartbeats 8000000 in
set_option maxRecDepth 100000 in
theorem c_X4_copyRow (xl : Launch) (D : va_G) (kA : Nat → ClassId) (a b N : Nat) (f h : Nat → Int32) (hN2 : N < 2 ^ 30) (A : Nat → Prop) : Met xl yX4_copyRow wsX4_copyRow { frames := 1, cells := 0, slots := 0, locals := 40 } (va_Pc [.ref a, .ref b] (xPw D kA A [(a, .inl (kA 0, N, .inl (f))), (b, .inl (kA 0, N, .inl (h)))])) (xQv D A (fun u => u = [(a, .inl (kA 0, N, .inl f)), (b, .inl (kA 0, N, .inl f))])) 0 0 A := by
  refine Met.ofW (cc := cX4_copyRow) (maxL := 2) (ret := none) (by decide) rfl ?_
  intro xp xe xs xm args xbe xme xc s₁ B hml hv
  obtain ⟨rfl, hP, hN, hD, hA⟩ := hv
  have hret := B.returns
  have C : CallFix xp xm xc cX4_copyRow 2 xs ([.ref a, .ref b] : List Value).toArray wsX4_copyRow RX4 := ⟨B.exec, B.bytes, hml, findClass_of_methodNamed B.named, atoms_spec (ws := wsX4_copyRow) B.pre⟩
  have hlocks := B.notSynchronized
  obtain ⟨hx, hb, _, hown, hts⟩ := id C
  have hS : va_S A xs.heap xs.heap [] := va_S.rf
  have hl := lv_entry ([.ref a, .ref b]) (n := 2) (Nat.le_of_ble_eq_true rfl)
  rw [lg_entry_eq]
  generalize (lg_sl ([.ref a, .ref b]) ++ List.replicate (2 - (lg_sl ([.ref a, .ref b])).length) Slot.unset).toArray = ls at hl ⊢
  have hl : lv_has ls 2 [(0, .ref a), (1, .ref b)] := hl
  refine lv_aload_n hx hb dX4_copyRow_0 rfl (lv_at hl 0 rfl) ?_
  refine lv_iconst (v := nI 0) hx hb dX4_copyRow_1 (by decide) ?_
  refine lv_aload_n hx hb dX4_copyRow_2 rfl (lv_at hl 1 rfl) ?_
  refine lv_iconst (v := nI 0) hx hb dX4_copyRow_3 (by decide) ?_
  refine lv_aload_n hx hb dX4_copyRow_4 rfl (lv_at hl 0 rfl) ?_
  refine xAlen C hN hP 0 0 rfl rfl dX4_copyRow_5 ?_
  refine lv_aload_n hx hb dX4_copyRow_6 rfl (lv_at hl 1 rfl) ?_
  refine xAlen C hN hP 1 0 rfl rfl dX4_copyRow_7 ?_
  refine va_mmin hx hb (hml.trans hl.1.symm) hown (hts _ (List.mem_of_getElem? (i := 1) rfl)) (hts _ (List.mem_of_getElem? (i := 2) rfl)) (hts _ (List.mem_of_getElem? (i := 3) rfl)) (hts _ (List.mem_of_getElem? (i := 4) rfl)) (Nat.le_of_ble_eq_true rfl) (Nat.le_of_ble_eq_true rfl) (Nat.le_of_ble_eq_true rfl) (Nat.le_of_ble_eq_true rfl) dX4_copyRow_8 ?_
  refine xTop (y := nI (min N N)) (nI_min (by omega) (by omega)) ?_
  refine xTop (y := nI N) (by rw [Nat.min_self]) ?_
  refine va_copyi hx hb (hml.trans hl.1.symm) hown (hts _ (List.mem_of_getElem? (i := 5) rfl)) (hts _ (List.mem_of_getElem? (i := 6) rfl)) (hts _ (List.mem_of_getElem? (i := 7) rfl)) (hts _ (List.mem_of_getElem? (i := 8) rfl)) hN.1 hP hD hS 0 1 0 0 rfl rfl rfl rfl rfl (nI_pos (by omega)) (nI_pos (by omega)) (nI_pos (by omega)) (by rw [nI_clamp (by omega), nI_clamp (by omega)]; omega) (by rw [nI_clamp (by omega), nI_clamp (by omega)]; omega) (fun _ _ => rfl) (Nat.le_of_ble_eq_true rfl) (Nat.le_of_ble_eq_true (by decide +kernel)) dX4_copyRow_11 (fun H locs hP hD hS => ?_)
  obtain ⟨hP, hD⟩ := xCpyAll (N := N) (f := f) (g := h) (by omega) hP hD
  have hP : va_P D vwCl [(a, .inl (kA 0, N, .inl (f))), (b, .inl (kA 0, N, .inl (f)))] H := hP
  have hD : va_D A [(a, .inl (kA 0, N, .inl (f))), (b, .inl (kA 0, N, .inl (f)))] := hD
  exact xRetV hx hb hret (rfl) hP hD hS dX4_copyRow_14 hlocks
