set_option maxHeartbeats 8000000 in
set_option maxRecDepth 100000 in
theorem c_X1_signAt (xl : Launch) (D : va_G) (kA : Nat → ClassId) (b : Nat → Nat) (h : Nat → Int32) (m : Nat) (P : Nat → Nat) (hh : relP h m P) (hP2 : wfP m P) (hm : m ≤ 60) (i : Nat) (hi : i < 2 ^ 30) : Met xl yX1_signAt wsX1_signAt { frames := 0, cells := 0, slots := 0, locals := 0 } (va_Pc [.ref (b 0), .int (nI i)] (xPr D kA [((b 0), .inr (1, [.ref (b 1), .int (nI m)])), ((b 1), .inl (kA 1, 60, .inl (h)))])) (vp_Si (fun rr => rr = nI (sgn m P i))) 0 0 (fun _ => False) := by
  refine Met.ofW (cc := cX1_signAt) (maxL := 2) (ret := (some .char)) (by decide) rfl ?_
  intro xp xe xs xm args xbe xme xc s₁ B hml hv
  obtain ⟨rfl, hP, hN⟩ := hv
  have hret := B.returns
  have C : CallFix xp xm xc cX1_signAt 2 xs ([.ref (b 0), .int (nI i)] : List Value).toArray wsX1_signAt RX1 := ⟨B.exec, B.bytes, hml, findClass_of_methodNamed B.named, atoms_spec (ws := wsX1_signAt) B.pre⟩
  have hlocks := B.notSynchronized
  obtain ⟨hx, hb, _, hown, hts⟩ := id C
  have hl := lv_entry ([.ref (b 0), .int (nI i)]) (n := 2) (Nat.le_of_ble_eq_true rfl)
  rw [lg_entry_eq]
  generalize (lg_sl ([.ref (b 0), .int (nI i)]) ++ List.replicate (2 - (lg_sl ([.ref (b 0), .int (nI i)])).length) Slot.unset).toArray = ls at hl ⊢
  have hl : lv_has ls 2 [(0, .ref (b 0)), (1, .int (nI i))] := hl
  refine lv_iload_n hx hb dX1_signAt_0 rfl (lv_at hl 1 rfl) ?_
  refine xIfLt C (tgt := 21) (by omega) dX1_signAt_1 (by decide) ?_
  refine lv_iload_n hx hb dX1_signAt_4 rfl (lv_at hl 1 rfl) ?_
  refine lv_aload_n hx hb dX1_signAt_5 rfl (lv_at hl 0 rfl) ?_
  refine xGet C hN hP 0 (j := 1) rfl rfl iX1_signAt_X1 (by decide) kX1_signAt_15 rfl rfl dX1_signAt_6 ?_
  refine xIcmpGe C (tgt := 21) (by omega) (by omega) dX1_signAt_9 (by decide) (fun h_9 => ?_) (fun h_9 => ?_)
  · skip
    refine lv_iconst (v := nI 0) hx hb dX1_signAt_21 (by decide) ?_
    exact xRoC hx hb hret (v := nI 0) (by first | exact (pk_charN (show P i < 65536 by have := hP2 i (by omega); omega)).1 | exact (pk_charN (by decide)).1) (by unfold sgn; first | rw [if_pos h_9] | rw [if_neg (by omega)]) dX1_signAt_22 hlocks
  · skip
    refine lv_aload_n hx hb dX1_signAt_12 rfl (lv_at hl 0 rfl) ?_
    refine xGet C hN hP 0 (j := 0) rfl rfl iX1_signAt_X1 (by decide) kX1_signAt_9 rfl rfl dX1_signAt_13 ?_
    refine lv_iload_n hx hb dX1_signAt_16 rfl (lv_at hl 1 rfl) ?_
    refine xCald C hN hP 1 (j := i) (v := nI (P i)) rfl (by omega) (by decide) (hh i (by omega)) dX1_signAt_17 ?_
    refine lv_goto (tgt := 22) hx hb dX1_signAt_18 (by decide) ?_
    exact xRoC hx hb hret (v := nI (P i)) (by first | exact (pk_charN (show P i < 65536 by have := hP2 i (by omega); omega)).1 | exact (pk_charN (by decide)).1) (by unfold sgn; first | rw [if_pos h_9] | rw [if_neg (by omega)]) dX1_signAt_22 hlocks

set_option maxHeartbeats 8000000 in
set_option maxRecDepth 100000 in
theorem c_X1_kindOf (xl : Launch) (D : va_G) (kA : Nat → ClassId) (c : Nat) (hc : c < 128) : Met xl yX1_kindOf wsX1_kindOf { frames := 0, cells := 0, slots := 0, locals := 0 } (va_Pc [.int (nI c)] (xPr D kA [])) (vp_Si (fun rr => rr = nI (kindC c))) 0 0 (fun _ => False) := by
  refine Met.ofW (cc := cX1_kindOf) (maxL := 1) (ret := (some .int)) (by decide) rfl ?_
  intro xp xe xs xm args xbe xme xc s₁ B hml hv
  obtain ⟨rfl, hP, hN⟩ := hv
  have hret := B.returns
  have C : CallFix xp xm xc cX1_kindOf 1 xs ([.int (nI c)] : List Value).toArray wsX1_kindOf RX1 := ⟨B.exec, B.bytes, hml, findClass_of_methodNamed B.named, atoms_spec (ws := wsX1_kindOf) B.pre⟩
  have hlocks := B.notSynchronized
  obtain ⟨hx, hb, _, hown, hts⟩ := id C
  have hl := lv_entry ([.int (nI c)]) (n := 1) (Nat.le_of_ble_eq_true rfl)
  rw [lg_entry_eq]
  generalize (lg_sl ([.int (nI c)]) ++ List.replicate (1 - (lg_sl ([.int (nI c)])).length) Slot.unset).toArray = ls at hl ⊢
  have hl : lv_has ls 1 [(0, .int (nI c))] := hl
  refine lv_iload_n hx hb dX1_kindOf_0 rfl (lv_at hl 0 rfl) ?_
  refine lv_bipush (v := nI 112) hx hb dX1_kindOf_1 (by decide) ?_
  refine xIcmpNe C (tgt := 10) (by omega) (by decide) dX1_kindOf_3 (by decide) (fun h_3 => ?_) (fun h_3 => ?_)
  · skip
    refine lv_iload_n hx hb dX1_kindOf_10 rfl (lv_at hl 0 rfl) ?_
    refine lv_bipush (v := nI 98) hx hb dX1_kindOf_11 (by decide) ?_
    refine xIcmpNe C (tgt := 20) (by omega) (by decide) dX1_kindOf_13 (by decide) (fun h_13 => ?_) (fun h_13 => ?_)
    · skip
      refine lv_iconst (v := nI 2) hx hb dX1_kindOf_20 (by decide) ?_
      exact xRoI hx hb hret (v := nI 2) (by unfold kindC; first | (rw [if_neg h_3, if_pos h_13]; done) | (rw [if_pos h_3]; done) | (rw [if_neg h_3, if_neg h_13]; done)) dX1_kindOf_21 hlocks
    · skip
      refine lv_iconst (v := nI 1) hx hb dX1_kindOf_16 (by decide) ?_
      refine lv_goto (tgt := 21) hx hb dX1_kindOf_17 (by decide) ?_
      exact xRoI hx hb hret (v := nI 1) (by unfold kindC; first | (rw [if_neg h_3, if_pos h_13]; done) | (rw [if_pos h_3]; done) | (rw [if_neg h_3, if_neg h_13]; done)) dX1_kindOf_21 hlocks
  · skip
    refine lv_iconst (v := nI 0) hx hb dX1_kindOf_6 (by decide) ?_
    refine lv_goto (tgt := 21) hx hb dX1_kindOf_7 (by decide) ?_
    exact xRoI hx hb hret (v := nI 0) (by unfold kindC; first | (rw [if_neg h_3, if_pos h_13]; done) | (rw [if_pos h_3]; done) | (rw [if_neg h_3, if_neg h_13]; done)) dX1_kindOf_21 hlocks

set_option maxHeartbeats 8000000 in
set_option maxRecDepth 100000 in
theorem c_X1_numberOf (xl : Launch) (D : va_G) (kA : Nat → ClassId) (c q : Nat) (hc : c < 128) (h0 : c = 42 ∨ 48 ≤ c) : Met xl yX1_numberOf wsX1_numberOf { frames := 0, cells := 0, slots := 0, locals := 0 } (va_Pc [.int (nI c), .int (nI q)] (xPr D kA [])) (vp_Si (fun rr => rr = nI (nmC c q))) 0 0 (fun _ => False) := by
  refine Met.ofW (cc := cX1_numberOf) (maxL := 2) (ret := (some .int)) (by decide) rfl ?_
  intro xp xe xs xm args xbe xme xc s₁ B hml hv
  obtain ⟨rfl, hP, hN⟩ := hv
  have hret := B.returns
  have C : CallFix xp xm xc cX1_numberOf 2 xs ([.int (nI c), .int (nI q)] : List Value).toArray wsX1_numberOf RX1 := ⟨B.exec, B.bytes, hml, findClass_of_methodNamed B.named, atoms_spec (ws := wsX1_numberOf) B.pre⟩
  have hlocks := B.notSynchronized
  obtain ⟨hx, hb, _, hown, hts⟩ := id C
  have hl := lv_entry ([.int (nI c), .int (nI q)]) (n := 2) (Nat.le_of_ble_eq_true rfl)
  rw [lg_entry_eq]
  generalize (lg_sl ([.int (nI c), .int (nI q)]) ++ List.replicate (2 - (lg_sl ([.int (nI c), .int (nI q)])).length) Slot.unset).toArray = ls at hl ⊢
  have hl : lv_has ls 2 [(0, .int (nI c)), (1, .int (nI q))] := hl
  refine lv_iload_n hx hb dX1_numberOf_0 rfl (lv_at hl 0 rfl) ?_
  refine lv_bipush (v := nI 42) hx hb dX1_numberOf_1 (by decide) ?_
  refine xIcmpNe C (tgt := 10) (by omega) (by decide) dX1_numberOf_3 (by decide) (fun h_3 => ?_) (fun h_3 => ?_)
  · skip
    refine lv_iload_n hx hb dX1_numberOf_10 rfl (lv_at hl 0 rfl) ?_
    refine lv_bipush (v := nI 48) hx hb dX1_numberOf_11 (by decide) ?_
    refine xIsub C (by omega) dX1_numberOf_13 ?_
    exact xRoI hx hb hret (v := nI (c - 48)) (by unfold nmC; first | rw [if_pos h_3] | rw [if_neg h_3]) dX1_numberOf_14 hlocks
  · skip
    refine lv_iload_n hx hb dX1_numberOf_6 rfl (lv_at hl 1 rfl) ?_
    refine lv_goto (tgt := 14) hx hb dX1_numberOf_7 (by decide) ?_
    exact xRoI hx hb hret (v := nI q) (by unfold nmC; first | rw [if_pos h_3] | rw [if_neg h_3]) dX1_numberOf_14 hlocks

set_option maxHeartbeats 8000000 in
set_option maxRecDepth 100000 in
theorem c_X1_rulesInText (xl : Launch) (D : va_G) (kA : Nat → ClassId) (b : Nat → Nat) (h : Nat → Int32) (m : Nat) (P : Nat → Nat) (hh : relP h m P) (hP2 : wfP m P) (hm : m ≤ 60) : Met xl yX1_rulesInText wsX1_rulesInText { frames := 0, cells := 0, slots := 0, locals := 0 } (va_Pc [.ref (b 0)] (xPr D kA [((b 0), .inr (1, [.ref (b 1), .int (nI m)])), ((b 1), .inl (kA 1, 60, .inl (h)))])) (vp_Si (fun rr => rr = nI (1 + cntN m (fun j => P j == 59)))) 0 0 (fun _ => False) := by
  refine Met.ofW (cc := cX1_rulesInText) (maxL := 3) (ret := (some .int)) (by decide) rfl ?_
  intro xp xe xs xm args xbe xme xc s₁ B hml hv
  obtain ⟨rfl, hP, hN⟩ := hv
  have hret := B.returns
  have C : CallFix xp xm xc cX1_rulesInText 3 xs ([.ref (b 0)] : List Value).toArray wsX1_rulesInText RX1 := ⟨B.exec, B.bytes, hml, findClass_of_methodNamed B.named, atoms_spec (ws := wsX1_rulesInText) B.pre⟩
  have hlocks := B.notSynchronized
  obtain ⟨hx, hb, _, hown, hts⟩ := id C
  have hl := lv_entry ([.ref (b 0)]) (n := 3) (Nat.le_of_ble_eq_true rfl)
  rw [lg_entry_eq]
  generalize (lg_sl ([.ref (b 0)]) ++ List.replicate (3 - (lg_sl ([.ref (b 0)])).length) Slot.unset).toArray = ls at hl ⊢
  have hl : lv_has ls 3 [(0, .ref (b 0))] := hl
  refine lv_iconst (v := nI 1) hx hb dX1_rulesInText_0 (by decide) ?_
  refine lv_istore_n (lv' := [(1, .int (nI 1)), (0, .ref (b 0))]) hx hb dX1_rulesInText_1 rfl hl (by decide) rfl (fun ls hl => ?_)
  refine lv_iconst (v := nI 0) hx hb dX1_rulesInText_2 (by decide) ?_
  refine lv_istore_n (lv' := [(2, .int (nI 0)), (1, .int (nI 1)), (0, .ref (b 0))]) hx hb dX1_rulesInText_3 rfl hl (by decide) rfl (fun ls hl => ?_)
  have L4 : ∀ (fuel : Nat), ∀ (i : Nat) (v : Nat) (hmu : m - i < fuel) (hi : i ≤ m) (hv : v = 1 + cntN i (fun j => P j == 59)) (ls : Array Slot) (_ : lv_has ls 3 [(2, .int (nI i)), (1, .int (nI v)), (0, .ref (b 0))]), W xp xl xe (headSpec wsX1_rulesInText { frames := 0, cells := 0, slots := 0, locals := 0 }).room xs xm ([.ref (b 0)] : List Value).toArray xbe xme xc xs.heap [] 0 0 (MQ xbe (vp_Si (fun rr => rr = nI (1 + cntN m (fun j => P j == 59)))) ([.ref (b 0)] : List Value).toArray xs 0 0 (fun _ => False)) (F0 xm 4 ls []) := by
    intro fuel
    induction fuel with
    | zero => intro i v hmu; exact absurd hmu (Nat.not_lt_zero _)
    | succ fuel ih4 =>
      intro i v hmu hi hv ls hl
      refine lv_iload_n hx hb dX1_rulesInText_4 rfl (lv_at hl 0 rfl) ?_
      refine lv_aload_n hx hb dX1_rulesInText_5 rfl (lv_at hl 2 rfl) ?_
      refine xGet C hN hP 0 (j := 1) rfl rfl iX1_rulesInText_X1 (by decide) kX1_rulesInText_15 rfl rfl dX1_rulesInText_6 ?_
      refine xIcmpGe C (tgt := 32) (by omega) (by omega) dX1_rulesInText_9 (by decide) (fun h_9 => ?_) (fun h_9 => ?_)
      · skip
        refine lv_iload_n hx hb dX1_rulesInText_32 rfl (lv_at hl 1 rfl) ?_
        exact xRoI hx hb hret (v := nI v) (by rw [hv, show i = m by omega]) dX1_rulesInText_33 hlocks
      · skip
        refine lv_aload_n hx hb dX1_rulesInText_12 rfl (lv_at hl 2 rfl) ?_
        refine xGet C hN hP 0 (j := 0) rfl rfl iX1_rulesInText_X1 (by decide) kX1_rulesInText_9 rfl rfl dX1_rulesInText_13 ?_
        refine lv_iload_n hx hb dX1_rulesInText_16 rfl (lv_at hl 0 rfl) ?_
        refine xCald C hN hP 1 (j := i) (v := nI (P i)) rfl (by omega) (by decide) (hh i (by omega)) dX1_rulesInText_17 ?_
        refine lv_bipush (v := nI 59) hx hb dX1_rulesInText_18 (by decide) ?_
        refine xIcmpNe C (tgt := 26) (by have := hP2 i (by omega); omega) (by decide) dX1_rulesInText_20 (by decide) (fun h_20 => ?_) (fun h_20 => ?_)
        · skip
          refine xIinc C (kx := 0) (d := 1) (lv' := [(2, .int (nI (i + 1))), (1, .int (nI v)), (0, .ref (b 0))]) dX1_rulesInText_26 hl rfl (by decide) (by decide) rfl (fun ls hl => ?_)
          refine lv_goto (tgt := 4) hx hb dX1_rulesInText_29 (by decide) ?_
          exact ih4 (i + 1) v (by omega) (by omega) (by rw [cntN_succ, hv]; simp [h_20] <;> omega) _ (lv_sub hl [0, 1, 2] rfl)
        · skip
          refine xIinc C (kx := 1) (d := 1) (lv' := [(1, .int (nI (v + 1))), (2, .int (nI i)), (0, .ref (b 0))]) dX1_rulesInText_23 hl rfl (by decide) (by decide) rfl (fun ls hl => ?_)
          refine xIinc C (kx := 1) (d := 1) (lv' := [(2, .int (nI (i + 1))), (1, .int (nI (v + 1))), (0, .ref (b 0))]) dX1_rulesInText_26 hl rfl (by decide) (by decide) rfl (fun ls hl => ?_)
          refine lv_goto (tgt := 4) hx hb dX1_rulesInText_29 (by decide) ?_
          exact ih4 (i + 1) (v + 1) (by omega) (by omega) (by rw [cntN_succ, hv]; simp [h_20] <;> omega) _ (lv_sub hl [0, 1, 2] rfl)
  exact L4 _ 0 1 (Nat.lt_succ_self _) (by omega) rfl _ (lv_sub hl [0, 1, 2] rfl)

set_option maxHeartbeats 8000000 in
set_option maxRecDepth 100000 in
theorem c_X1_canStand (xl : Launch) (D : va_G) (kA : Nat → ClassId) (b : Nat → Nat) (h : Nat → Int32) (m : Nat) (P : Nat → Nat) (hh : relP h m P) (hP2 : wfP m P) (hm : m ≤ 60) (pl i : Nat) (hpl : pl ≤ 5) (hi : i < 2 ^ 30) (h1 : pl = 1 → 1 ≤ i) : Met xl yX1_canStand wsX1_canStand { frames := 1, cells := 0, slots := 0, locals := 22 } (va_Pc [.ref (b 0), .int (nI pl), .int (nI i)] (xPr D kA [((b 0), .inr (1, [.ref (b 1), .int (nI m)])), ((b 1), .inl (kA 1, 60, .inl (h)))])) (vp_Si (fun rr => rr = bI (cstB m P pl i))) 0 0 (fun _ => False) := by
  refine Met.ofW (cc := cX1_canStand) (maxL := 4) (ret := (some .boolean)) (by decide) rfl ?_
  intro xp xe xs xm args xbe xme xc s₁ B hml hv
  obtain ⟨rfl, hP, hN⟩ := hv
  have hret := B.returns
  have C : CallFix xp xm xc cX1_canStand 4 xs ([.ref (b 0), .int (nI pl), .int (nI i)] : List Value).toArray wsX1_canStand RX1 := ⟨B.exec, B.bytes, hml, findClass_of_methodNamed B.named, atoms_spec (ws := wsX1_canStand) B.pre⟩
  have hlocks := B.notSynchronized
  obtain ⟨hx, hb, _, hown, hts⟩ := id C
  have hl := lv_entry ([.ref (b 0), .int (nI pl), .int (nI i)]) (n := 4) (Nat.le_of_ble_eq_true rfl)
  rw [lg_entry_eq]
  generalize (lg_sl ([.ref (b 0), .int (nI pl), .int (nI i)]) ++ List.replicate (4 - (lg_sl ([.ref (b 0), .int (nI pl), .int (nI i)])).length) Slot.unset).toArray = ls at hl ⊢
  have hl : lv_has ls 4 [(0, .ref (b 0)), (1, .int (nI pl)), (2, .int (nI i))] := hl
  refine lv_aload_n hx hb dX1_canStand_0 rfl (lv_at hl 0 rfl) ?_
  refine lv_iload_n hx hb dX1_canStand_1 rfl (lv_at hl 2 rfl) ?_
  refine xVro C hN (As := [.int (nI i)]) (rest := []) (q0 := 0) (c_X1_signAt xl D kA b h m P hh hP2 hm (i) hi) (cwV 1 hts gX1_canStand_X1_signAt rfl rfl rfl (by decide +kernel) ⟨Nat.le_of_ble_eq_true rfl, Nat.le_of_ble_eq_true rfl⟩) hP rfl rfl rfl rfl hl.1 rfl (Nat.le_of_ble_eq_true rfl) dX1_canStand_2 ⟨Nat.le_of_ble_eq_true rfl, Nat.le_of_ble_eq_true rfl⟩ ?_
  refine lv_istore_n (lv' := [(3, .int (nI (sgn m P i))), (0, .ref (b 0)), (1, .int (nI pl)), (2, .int (nI i))]) hx hb dX1_canStand_5 rfl hl (by decide) rfl (fun ls hl => ?_)
  refine lv_iload_n hx hb dX1_canStand_6 rfl (lv_at hl 2 rfl) ?_
  rcases (show pl = 0 ∨ pl = 1 ∨ pl = 2 ∨ pl = 3 ∨ pl = 4 ∨ pl = 5 by omega) with e_7 | e_7 | e_7 | e_7 | e_7 | e_7
  · refine xTabIn C (j := 0) (tgt := 40) (by rw [e_7]) dX1_canStand_7 (by decide) (by decide) rfl (by decide) ?_
    refine lv_iload_n hx hb dX1_canStand_40 rfl (lv_at hl 0 rfl) ?_
    refine lv_bipush (v := nI 48) hx hb dX1_canStand_41 (by decide) ?_
    refine lv_bipush (v := nI 52) hx hb dX1_canStand_43 (by decide) ?_
    refine xNro C hN (As := [.int (nI (sgn m P i)), .int (nI 48), .int (nI 52)]) (rest := []) (c_X4_isBetween xl D kA (nI (sgn m P i)) (nI 48) (nI 52)) (va_cnB 3 hts gX1_canStand_X4_isBetween_n21 rfl rfl rfl hN.2.2.2.2.2.2.2.2.2.2.1 (hts _ (List.mem_of_getElem? (i := 9) rfl)) (by decide +kernel) ⟨Nat.le_of_ble_eq_true rfl, Nat.le_of_ble_eq_true rfl⟩) (hts _ (List.mem_of_getElem? (i := 8) rfl)) (hP.sub (ws' := []) [] rfl) rfl hl.1 rfl (Nat.le_of_ble_eq_true rfl) dX1_canStand_45 ⟨Nat.le_of_ble_eq_true rfl, Nat.le_of_ble_eq_true rfl⟩ ?_
    refine xTop (y := bI (btwB (sgn m P i) 48 52)) (congrArg bI (inR_nI (by have := sgn_lt hP2 (i); omega) (by decide) (by decide))) ?_
    exact xRoZ hx hb hret (v := bI (btwB (sgn m P i) 48 52)) (xNarB _) (by rw [e_7]; rfl) dX1_canStand_48 hlocks
  · refine xTabIn C (j := 1) (tgt := 49) (by rw [e_7]) dX1_canStand_7 (by decide) (by decide) rfl (by decide) ?_
    refine lv_iload_n hx hb dX1_canStand_49 rfl (lv_at hl 0 rfl) ?_
    refine lv_bipush (v := nI 98) hx hb dX1_canStand_50 (by decide) ?_
    refine xIcmpEq C (tgt := 79) (by have := sgn_lt hP2 (i); omega) (by decide) dX1_canStand_52 (by decide) (fun h_52 => ?_) (fun h_52 => ?_)
    · skip
      refine lv_iconst (v := nI 1) hx hb dX1_canStand_79 (by decide) ?_
      refine lv_goto (tgt := 84) hx hb dX1_canStand_80 (by decide) ?_
      exact xRoZ hx hb hret (v := nI 1) (xNar1) (by rw [e_7]; first | exact cst1_t (by omega) | exact cst1_f (by omega)) dX1_canStand_84 hlocks
    · skip
      refine lv_iload_n hx hb dX1_canStand_55 rfl (lv_at hl 0 rfl) ?_
      refine lv_bipush (v := nI 119) hx hb dX1_canStand_56 (by decide) ?_
      refine xIcmpEq C (tgt := 79) (by have := sgn_lt hP2 (i); omega) (by decide) dX1_canStand_58 (by decide) (fun h_58 => ?_) (fun h_58 => ?_)
      · skip
        refine lv_iconst (v := nI 1) hx hb dX1_canStand_79 (by decide) ?_
        refine lv_goto (tgt := 84) hx hb dX1_canStand_80 (by decide) ?_
        exact xRoZ hx hb hret (v := nI 1) (xNar1) (by rw [e_7]; first | exact cst1_t (by omega) | exact cst1_f (by omega)) dX1_canStand_84 hlocks
      · skip
        refine lv_iload_n hx hb dX1_canStand_61 rfl (lv_at hl 0 rfl) ?_
        refine lv_bipush (v := nI 112) hx hb dX1_canStand_62 (by decide) ?_
        refine xIcmpNe C (tgt := 83) (by have := sgn_lt hP2 (i); omega) (by decide) dX1_canStand_64 (by decide) (fun h_64 => ?_) (fun h_64 => ?_)
        · skip
          refine lv_iconst (v := nI 0) hx hb dX1_canStand_83 (by decide) ?_
          exact xRoZ hx hb hret (v := nI 0) (xNar0) (by rw [e_7]; first | exact cst1_t (by omega) | exact cst1_f (by omega)) dX1_canStand_84 hlocks
        · skip
          refine lv_aload_n hx hb dX1_canStand_67 rfl (lv_at hl 1 rfl) ?_
          refine lv_iload_n hx hb dX1_canStand_68 rfl (lv_at hl 3 rfl) ?_
          refine lv_iconst (v := nI 1) hx hb dX1_canStand_69 (by decide) ?_
          refine xIsub C (by omega) dX1_canStand_70 ?_
          refine xVro C hN (As := [.int (nI (i - 1))]) (rest := []) (q0 := 0) (c_X1_signAt xl D kA b h m P hh hP2 hm (i - 1) (by omega)) (cwV 1 hts gX1_canStand_X1_signAt rfl rfl rfl (by decide +kernel) ⟨Nat.le_of_ble_eq_true rfl, Nat.le_of_ble_eq_true rfl⟩) hP rfl rfl rfl rfl hl.1 rfl (Nat.le_of_ble_eq_true rfl) dX1_canStand_71 ⟨Nat.le_of_ble_eq_true rfl, Nat.le_of_ble_eq_true rfl⟩ ?_
          refine lv_bipush (v := nI 48) hx hb dX1_canStand_74 (by decide) ?_
          refine xIcmpNe C (tgt := 83) (by have := sgn_lt hP2 (i - 1); omega) (by decide) dX1_canStand_76 (by decide) (fun h_76 => ?_) (fun h_76 => ?_)
          · skip
            refine lv_iconst (v := nI 0) hx hb dX1_canStand_83 (by decide) ?_
            exact xRoZ hx hb hret (v := nI 0) (xNar0) (by rw [e_7]; first | exact cst1_t (by omega) | exact cst1_f (by omega)) dX1_canStand_84 hlocks
          · skip
            refine lv_iconst (v := nI 1) hx hb dX1_canStand_79 (by decide) ?_
            refine lv_goto (tgt := 84) hx hb dX1_canStand_80 (by decide) ?_
            exact xRoZ hx hb hret (v := nI 1) (xNar1) (by rw [e_7]; first | exact cst1_t (by omega) | exact cst1_f (by omega)) dX1_canStand_84 hlocks
  · refine xTabIn C (j := 2) (tgt := 85) (by rw [e_7]) dX1_canStand_7 (by decide) (by decide) rfl (by decide) ?_
    refine lv_iload_n hx hb dX1_canStand_85 rfl (lv_at hl 0 rfl) ?_
    refine lv_bipush (v := nI 42) hx hb dX1_canStand_86 (by decide) ?_
    refine xIcmpEq C (tgt := 102) (by have := sgn_lt hP2 (i); omega) (by decide) dX1_canStand_88 (by decide) (fun h_88 => ?_) (fun h_88 => ?_)
    · skip
      refine lv_iconst (v := nI 1) hx hb dX1_canStand_102 (by decide) ?_
      refine lv_goto (tgt := 107) hx hb dX1_canStand_103 (by decide) ?_
      exact xRoZ hx hb hret (v := nI 1) (xNar1) (by rw [e_7]; first | exact cst2_t (Or.inl h_88) | exact cst2_t (Or.inr h_99) | exact cst2_f h_88 h_99) dX1_canStand_107 hlocks
    · skip
      refine lv_iload_n hx hb dX1_canStand_91 rfl (lv_at hl 0 rfl) ?_
      refine lv_bipush (v := nI 48) hx hb dX1_canStand_92 (by decide) ?_
      refine lv_bipush (v := nI 52) hx hb dX1_canStand_94 (by decide) ?_
      refine xNro C hN (As := [.int (nI (sgn m P i)), .int (nI 48), .int (nI 52)]) (rest := []) (c_X4_isBetween xl D kA (nI (sgn m P i)) (nI 48) (nI 52)) (va_cnB 3 hts gX1_canStand_X4_isBetween_n21 rfl rfl rfl hN.2.2.2.2.2.2.2.2.2.2.1 (hts _ (List.mem_of_getElem? (i := 9) rfl)) (by decide +kernel) ⟨Nat.le_of_ble_eq_true rfl, Nat.le_of_ble_eq_true rfl⟩) (hts _ (List.mem_of_getElem? (i := 8) rfl)) (hP.sub (ws' := []) [] rfl) rfl hl.1 rfl (Nat.le_of_ble_eq_true rfl) dX1_canStand_96 ⟨Nat.le_of_ble_eq_true rfl, Nat.le_of_ble_eq_true rfl⟩ ?_
      refine xTop (y := bI (btwB (sgn m P i) 48 52)) (congrArg bI (inR_nI (by have := sgn_lt hP2 (i); omega) (by decide) (by decide))) ?_
      refine xIfEqB C (tgt := 106) dX1_canStand_99 (by decide) (fun h_99 => ?_) (fun h_99 => ?_)
      · skip
        refine lv_iconst (v := nI 0) hx hb dX1_canStand_106 (by decide) ?_
        exact xRoZ hx hb hret (v := nI 0) (xNar0) (by rw [e_7]; first | exact cst2_t (Or.inl h_88) | exact cst2_t (Or.inr h_99) | exact cst2_f h_88 h_99) dX1_canStand_107 hlocks
      · skip
        refine lv_iconst (v := nI 1) hx hb dX1_canStand_102 (by decide) ?_
        refine lv_goto (tgt := 107) hx hb dX1_canStand_103 (by decide) ?_
        exact xRoZ hx hb hret (v := nI 1) (xNar1) (by rw [e_7]; first | exact cst2_t (Or.inl h_88) | exact cst2_t (Or.inr h_99) | exact cst2_f h_88 h_99) dX1_canStand_107 hlocks
  · refine xTabIn C (j := 3) (tgt := 108) (by rw [e_7]) dX1_canStand_7 (by decide) (by decide) rfl (by decide) ?_
    refine lv_iload_n hx hb dX1_canStand_108 rfl (lv_at hl 0 rfl) ?_
    refine lv_bipush (v := nI 42) hx hb dX1_canStand_109 (by decide) ?_
    refine xIcmpEq C (tgt := 125) (by have := sgn_lt hP2 (i); omega) (by decide) dX1_canStand_111 (by decide) (fun h_111 => ?_) (fun h_111 => ?_)
    · skip
      refine lv_iconst (v := nI 1) hx hb dX1_canStand_125 (by decide) ?_
      refine lv_goto (tgt := 130) hx hb dX1_canStand_126 (by decide) ?_
      exact xRoZ hx hb hret (v := nI 1) (xNar1) (by rw [e_7]; first | exact cst3_t (Or.inl h_111) | exact cst3_t (Or.inr h_122) | exact cst3_f h_111 h_122) dX1_canStand_130 hlocks
    · skip
      refine lv_iload_n hx hb dX1_canStand_114 rfl (lv_at hl 0 rfl) ?_
      refine lv_bipush (v := nI 48) hx hb dX1_canStand_115 (by decide) ?_
      refine lv_bipush (v := nI 53) hx hb dX1_canStand_117 (by decide) ?_
      refine xNro C hN (As := [.int (nI (sgn m P i)), .int (nI 48), .int (nI 53)]) (rest := []) (c_X4_isBetween xl D kA (nI (sgn m P i)) (nI 48) (nI 53)) (va_cnB 3 hts gX1_canStand_X4_isBetween_n21 rfl rfl rfl hN.2.2.2.2.2.2.2.2.2.2.1 (hts _ (List.mem_of_getElem? (i := 9) rfl)) (by decide +kernel) ⟨Nat.le_of_ble_eq_true rfl, Nat.le_of_ble_eq_true rfl⟩) (hts _ (List.mem_of_getElem? (i := 8) rfl)) (hP.sub (ws' := []) [] rfl) rfl hl.1 rfl (Nat.le_of_ble_eq_true rfl) dX1_canStand_119 ⟨Nat.le_of_ble_eq_true rfl, Nat.le_of_ble_eq_true rfl⟩ ?_
      refine xTop (y := bI (btwB (sgn m P i) 48 53)) (congrArg bI (inR_nI (by have := sgn_lt hP2 (i); omega) (by decide) (by decide))) ?_
      refine xIfEqB C (tgt := 129) dX1_canStand_122 (by decide) (fun h_122 => ?_) (fun h_122 => ?_)
      · skip
        refine lv_iconst (v := nI 0) hx hb dX1_canStand_129 (by decide) ?_
        exact xRoZ hx hb hret (v := nI 0) (xNar0) (by rw [e_7]; first | exact cst3_t (Or.inl h_111) | exact cst3_t (Or.inr h_122) | exact cst3_f h_111 h_122) dX1_canStand_130 hlocks
      · skip
        refine lv_iconst (v := nI 1) hx hb dX1_canStand_125 (by decide) ?_
        refine lv_goto (tgt := 130) hx hb dX1_canStand_126 (by decide) ?_
        exact xRoZ hx hb hret (v := nI 1) (xNar1) (by rw [e_7]; first | exact cst3_t (Or.inl h_111) | exact cst3_t (Or.inr h_122) | exact cst3_f h_111 h_122) dX1_canStand_130 hlocks
  · refine xTabIn C (j := 4) (tgt := 131) (by rw [e_7]) dX1_canStand_7 (by decide) (by decide) rfl (by decide) ?_
    refine lv_iload_n hx hb dX1_canStand_131 rfl (lv_at hl 0 rfl) ?_
    refine lv_bipush (v := nI 49) hx hb dX1_canStand_132 (by decide) ?_
    refine lv_bipush (v := nI 57) hx hb dX1_canStand_134 (by decide) ?_
    refine xNro C hN (As := [.int (nI (sgn m P i)), .int (nI 49), .int (nI 57)]) (rest := []) (c_X4_isBetween xl D kA (nI (sgn m P i)) (nI 49) (nI 57)) (va_cnB 3 hts gX1_canStand_X4_isBetween_n21 rfl rfl rfl hN.2.2.2.2.2.2.2.2.2.2.1 (hts _ (List.mem_of_getElem? (i := 9) rfl)) (by decide +kernel) ⟨Nat.le_of_ble_eq_true rfl, Nat.le_of_ble_eq_true rfl⟩) (hts _ (List.mem_of_getElem? (i := 8) rfl)) (hP.sub (ws' := []) [] rfl) rfl hl.1 rfl (Nat.le_of_ble_eq_true rfl) dX1_canStand_136 ⟨Nat.le_of_ble_eq_true rfl, Nat.le_of_ble_eq_true rfl⟩ ?_
    refine xTop (y := bI (btwB (sgn m P i) 49 57)) (congrArg bI (inR_nI (by have := sgn_lt hP2 (i); omega) (by decide) (by decide))) ?_
    exact xRoZ hx hb hret (v := bI (btwB (sgn m P i) 49 57)) (xNarB _) (by rw [e_7]; rfl) dX1_canStand_139 hlocks
  · refine lv_tableOut (tgt := 140) hx hb dX1_canStand_7 (by rw [e_7]; decide) (by decide) ?_
    refine lv_iload_n hx hb dX1_canStand_140 rfl (lv_at hl 0 rfl) ?_
    refine lv_bipush (v := nI 59) hx hb dX1_canStand_141 (by decide) ?_
    refine xIcmpNe C (tgt := 150) (by have := sgn_lt hP2 (i); omega) (by decide) dX1_canStand_143 (by decide) (fun h_143 => ?_) (fun h_143 => ?_)
    · skip
      refine lv_iconst (v := nI 0) hx hb dX1_canStand_150 (by decide) ?_
      exact xRoZ hx hb hret (v := nI 0) (xNar0) (by rw [e_7]; first | exact cst5_t h_143 | exact cst5_f h_143) dX1_canStand_151 hlocks
    · skip
      refine lv_iconst (v := nI 1) hx hb dX1_canStand_146 (by decide) ?_
      refine lv_goto (tgt := 151) hx hb dX1_canStand_147 (by decide) ?_
      exact xRoZ hx hb hret (v := nI 1) (xNar1) (by rw [e_7]; first | exact cst5_t h_143 | exact cst5_f h_143) dX1_canStand_151 hlocks

set_option maxHeartbeats 8000000 in
set_option maxRecDepth 100000 in
theorem c_X1_placeAfter (xl : Launch) (D : va_G) (kA : Nat → ClassId) (b : Nat → Nat) (h : Nat → Int32) (m : Nat) (P : Nat → Nat) (hh : relP h m P) (hP2 : wfP m P) (hm : m ≤ 60) (pl i : Nat) (hpl : pl ≤ 5) (hi : i < 2 ^ 30) (h3 : pl = 3 → 2 ≤ i) : Met xl yX1_placeAfter wsX1_placeAfter { frames := 1, cells := 0, slots := 0, locals := 21 } (va_Pc [.ref (b 0), .int (nI pl), .int (nI i)] (xPr D kA [((b 0), .inr (1, [.ref (b 1), .int (nI m)])), ((b 1), .inl (kA 1, 60, .inl (h)))])) (vp_Si (fun rr => rr = nI (plA m P pl i))) 0 0 (fun _ => False) := by
  refine Met.ofW (cc := cX1_placeAfter) (maxL := 4) (ret := (some .int)) (by decide) rfl ?_
  intro xp xe xs xm args xbe xme xc s₁ B hml hv
  obtain ⟨rfl, hP, hN⟩ := hv
  have hret := B.returns
  have C : CallFix xp xm xc cX1_placeAfter 4 xs ([.ref (b 0), .int (nI pl), .int (nI i)] : List Value).toArray wsX1_placeAfter RX1 := ⟨B.exec, B.bytes, hml, findClass_of_methodNamed B.named, atoms_spec (ws := wsX1_placeAfter) B.pre⟩
  have hlocks := B.notSynchronized
  obtain ⟨hx, hb, _, hown, hts⟩ := id C
  have hl := lv_entry ([.ref (b 0), .int (nI pl), .int (nI i)]) (n := 4) (Nat.le_of_ble_eq_true rfl)
  rw [lg_entry_eq]
  generalize (lg_sl ([.ref (b 0), .int (nI pl), .int (nI i)]) ++ List.replicate (4 - (lg_sl ([.ref (b 0), .int (nI pl), .int (nI i)])).length) Slot.unset).toArray = ls at hl ⊢
  have hl : lv_has ls 4 [(0, .ref (b 0)), (1, .int (nI pl)), (2, .int (nI i))] := hl
  refine lv_iload_n hx hb dX1_placeAfter_0 rfl (lv_at hl 1 rfl) ?_
  refine lv_iconst (v := nI 5) hx hb dX1_placeAfter_1 (by decide) ?_
  refine xIcmpNe C (tgt := 7) (by omega) (by decide) dX1_placeAfter_2 (by decide) (fun h_2 => ?_) (fun h_2 => ?_)
  · skip
    refine lv_iload_n hx hb dX1_placeAfter_7 rfl (lv_at hl 1 rfl) ?_
    refine lv_iconst (v := nI 3) hx hb dX1_placeAfter_8 (by decide) ?_
    refine xIcmpNe C (tgt := 28) (by omega) (by decide) dX1_placeAfter_9 (by decide) (fun h_9 => ?_) (fun h_9 => ?_)
    · skip
      refine lv_iconst (v := nI 0) hx hb dX1_placeAfter_28 (by decide) ?_
      refine lv_istore_n (lv' := [(3, .int (nI 0)), (0, .ref (b 0)), (1, .int (nI pl)), (2, .int (nI i))]) hx hb dX1_placeAfter_29 rfl hl (by decide) rfl (fun ls hl => ?_)
      refine lv_iload_n hx hb dX1_placeAfter_30 rfl (lv_at hl 0 rfl) ?_
      refine xIfEq C (tgt := 38) (by omega) dX1_placeAfter_31 (by decide) (fun h_31 => ?_) (fun h_31 => ?_)
      · skip
        refine lv_iload_n hx hb dX1_placeAfter_38 rfl (lv_at hl 2 rfl) ?_
        refine lv_iconst (v := nI 1) hx hb dX1_placeAfter_39 (by decide) ?_
        refine xIadd C dX1_placeAfter_40 ?_
        exact xRoI hx hb hret (v := nI (pl + 1)) (by unfold plA; first | (rw [if_neg h_2, if_pos ⟨h_9, h_21⟩]; done) | (rw [if_neg h_2, if_neg (fun q => h_21 q.2)]; done) | (rw [if_neg h_2, if_neg (fun q => h_9 q.1)]; done)) dX1_placeAfter_41 hlocks
      · exact absurd h_31 (by decide)
    · skip
      refine lv_aload_n hx hb dX1_placeAfter_12 rfl (lv_at hl 0 rfl) ?_
      refine lv_iload_n hx hb dX1_placeAfter_13 rfl (lv_at hl 2 rfl) ?_
      refine lv_iconst (v := nI 2) hx hb dX1_placeAfter_14 (by decide) ?_
      refine xIsub C (by omega) dX1_placeAfter_15 ?_
      refine xVro C hN (As := [.int (nI (i - 2))]) (rest := []) (q0 := 0) (c_X1_signAt xl D kA b h m P hh hP2 hm (i - 2) (by omega)) (cwV 1 hts gX1_placeAfter_X1_signAt rfl rfl rfl (by decide +kernel) ⟨Nat.le_of_ble_eq_true rfl, Nat.le_of_ble_eq_true rfl⟩) hP rfl rfl rfl rfl hl.1 rfl (Nat.le_of_ble_eq_true rfl) dX1_placeAfter_16 ⟨Nat.le_of_ble_eq_true rfl, Nat.le_of_ble_eq_true rfl⟩ ?_
      refine lv_bipush (v := nI 112) hx hb dX1_placeAfter_19 (by decide) ?_
      refine xIcmpNe C (tgt := 28) (by have := sgn_lt hP2 (i - 2); omega) (by decide) dX1_placeAfter_21 (by decide) (fun h_21 => ?_) (fun h_21 => ?_)
      · skip
        refine lv_iconst (v := nI 0) hx hb dX1_placeAfter_28 (by decide) ?_
        refine lv_istore_n (lv' := [(3, .int (nI 0)), (0, .ref (b 0)), (1, .int (nI pl)), (2, .int (nI i))]) hx hb dX1_placeAfter_29 rfl hl (by decide) rfl (fun ls hl => ?_)
        refine lv_iload_n hx hb dX1_placeAfter_30 rfl (lv_at hl 0 rfl) ?_
        refine xIfEq C (tgt := 38) (by omega) dX1_placeAfter_31 (by decide) (fun h_31 => ?_) (fun h_31 => ?_)
        · skip
          refine lv_iload_n hx hb dX1_placeAfter_38 rfl (lv_at hl 2 rfl) ?_
          refine lv_iconst (v := nI 1) hx hb dX1_placeAfter_39 (by decide) ?_
          refine xIadd C dX1_placeAfter_40 ?_
          exact xRoI hx hb hret (v := nI (pl + 1)) (by unfold plA; first | (rw [if_neg h_2, if_pos ⟨h_9, h_21⟩]; done) | (rw [if_neg h_2, if_neg (fun q => h_21 q.2)]; done) | (rw [if_neg h_2, if_neg (fun q => h_9 q.1)]; done)) dX1_placeAfter_41 hlocks
        · exact absurd h_31 (by decide)
      · skip
        refine lv_iconst (v := nI 1) hx hb dX1_placeAfter_24 (by decide) ?_
        refine lv_goto (tgt := 29) hx hb dX1_placeAfter_25 (by decide) ?_
        refine lv_istore_n (lv' := [(3, .int (nI 1)), (0, .ref (b 0)), (1, .int (nI pl)), (2, .int (nI i))]) hx hb dX1_placeAfter_29 rfl hl (by decide) rfl (fun ls hl => ?_)
        refine lv_iload_n hx hb dX1_placeAfter_30 rfl (lv_at hl 0 rfl) ?_
        refine xIfEq C (tgt := 38) (by omega) dX1_placeAfter_31 (by decide) (fun h_31 => ?_) (fun h_31 => ?_)
        · exact absurd h_31 (by decide)
        · skip
          refine lv_iconst (v := nI 5) hx hb dX1_placeAfter_34 (by decide) ?_
          refine lv_goto (tgt := 41) hx hb dX1_placeAfter_35 (by decide) ?_
          exact xRoI hx hb hret (v := nI 5) (by unfold plA; first | (rw [if_neg h_2, if_pos ⟨h_9, h_21⟩]; done) | (rw [if_neg h_2, if_neg (fun q => h_21 q.2)]; done) | (rw [if_neg h_2, if_neg (fun q => h_9 q.1)]; done)) dX1_placeAfter_41 hlocks
  · skip
    refine lv_iconst (v := nI 0) hx hb dX1_placeAfter_5 (by decide) ?_
    exact xRoI hx hb hret (v := nI 0) (by unfold plA; rw [if_pos h_2]) dX1_placeAfter_6 hlocks

set_option maxHeartbeats 8000000 in
set_option maxRecDepth 100000 in
theorem c_X1_firstFault (xl : Launch) (D : va_G) (kA : Nat → ClassId) (b : Nat → Nat) (h : Nat → Int32) (m : Nat) (P : Nat → Nat) (hh : relP h m P) (hP2 : wfP m P) (hm : m ≤ 60) : Met xl yX1_firstFault wsX1_firstFault { frames := 2, cells := 0, slots := 0, locals := 45 } (va_Pc [.ref (b 0)] (xPr D kA [((b 0), .inr (1, [.ref (b 1), .int (nI m)])), ((b 1), .inl (kA 1, 60, .inl (h)))])) (vp_Si (fun rr => rr = ffT m P 0 0)) 0 0 (fun _ => False) := by
  refine Met.ofW (cc := cX1_firstFault) (maxL := 3) (ret := (some .int)) (by decide) rfl ?_
  intro xp xe xs xm args xbe xme xc s₁ B hml hv
  obtain ⟨rfl, hP, hN⟩ := hv
  have hret := B.returns
  have C : CallFix xp xm xc cX1_firstFault 3 xs ([.ref (b 0)] : List Value).toArray wsX1_firstFault RX1 := ⟨B.exec, B.bytes, hml, findClass_of_methodNamed B.named, atoms_spec (ws := wsX1_firstFault) B.pre⟩
  have hlocks := B.notSynchronized
  obtain ⟨hx, hb, _, hown, hts⟩ := id C
  have hl := lv_entry ([.ref (b 0)]) (n := 3) (Nat.le_of_ble_eq_true rfl)
  rw [lg_entry_eq]
  generalize (lg_sl ([.ref (b 0)]) ++ List.replicate (3 - (lg_sl ([.ref (b 0)])).length) Slot.unset).toArray = ls at hl ⊢
  have hl : lv_has ls 3 [(0, .ref (b 0))] := hl
  refine lv_iconst (v := nI 0) hx hb dX1_firstFault_0 (by decide) ?_
  refine lv_istore_n (lv' := [(1, .int (nI 0)), (0, .ref (b 0))]) hx hb dX1_firstFault_1 rfl hl (by decide) rfl (fun ls hl => ?_)
  refine lv_iconst (v := nI 0) hx hb dX1_firstFault_2 (by decide) ?_
  refine lv_istore_n (lv' := [(2, .int (nI 0)), (1, .int (nI 0)), (0, .ref (b 0))]) hx hb dX1_firstFault_3 rfl hl (by decide) rfl (fun ls hl => ?_)
  have L4 : ∀ (fuel : Nat), ∀ (i : Nat) (pl : Nat) (hmu : m - i < fuel) (hi : i ≤ m) (hpl : pl ≤ 5) (hpi : pl ≤ 4 → pl ≤ i) (hf : ffT m P i pl = ffT m P 0 0) (ls : Array Slot) (_ : lv_has ls 3 [(2, .int (nI i)), (1, .int (nI pl)), (0, .ref (b 0))]), W xp xl xe (headSpec wsX1_firstFault { frames := 2, cells := 0, slots := 0, locals := 45 }).room xs xm ([.ref (b 0)] : List Value).toArray xbe xme xc xs.heap [] 0 0 (MQ xbe (vp_Si (fun rr => rr = ffT m P 0 0)) ([.ref (b 0)] : List Value).toArray xs 0 0 (fun _ => False)) (F0 xm 4 ls []) := by
    intro fuel
    induction fuel with
    | zero => intro i pl hmu; exact absurd hmu (Nat.not_lt_zero _)
    | succ fuel ih4 =>
      intro i pl hmu hi hpl hpi hf ls hl
      refine lv_iload_n hx hb dX1_firstFault_4 rfl (lv_at hl 0 rfl) ?_
      refine lv_aload_n hx hb dX1_firstFault_5 rfl (lv_at hl 2 rfl) ?_
      refine xGet C hN hP 0 (j := 1) rfl rfl iX1_firstFault_X1 (by decide) kX1_firstFault_15 rfl rfl dX1_firstFault_6 ?_
      refine xIcmpGe C (tgt := 36) (by omega) (by omega) dX1_firstFault_9 (by decide) (fun h_9 => ?_) (fun h_9 => ?_)
      · skip
        refine lv_iload_n hx hb dX1_firstFault_36 rfl (lv_at hl 1 rfl) ?_
        refine lv_iconst (v := nI 5) hx hb dX1_firstFault_37 (by decide) ?_
        refine xIcmpNe C (tgt := 46) (by omega) (by decide) dX1_firstFault_38 (by decide) (fun h_38 => ?_) (fun h_38 => ?_)
        · skip
          refine lv_aload_n hx hb dX1_firstFault_46 rfl (lv_at hl 2 rfl) ?_
          refine xGet C hN hP 0 (j := 1) rfl rfl iX1_firstFault_X1 (by decide) kX1_firstFault_15 rfl rfl dX1_firstFault_47 ?_
          exact xRoI hx hb hret (v := nI m) (by rw [← hf, ff_e h_9]; first | rw [if_pos h_38] | rw [if_neg h_38]) dX1_firstFault_50 hlocks
        · skip
          refine lv_bipush (v := (-6)) hx hb dX1_firstFault_41 (by decide) ?_
          refine lv_goto (tgt := 50) hx hb dX1_firstFault_43 (by decide) ?_
          exact xRoI hx hb hret (v := (-6)) (by rw [← hf, ff_e h_9]; first | rw [if_pos h_38] | rw [if_neg h_38]) dX1_firstFault_50 hlocks
      · skip
        refine lv_aload_n hx hb dX1_firstFault_12 rfl (lv_at hl 2 rfl) ?_
        refine lv_iload_n hx hb dX1_firstFault_13 rfl (lv_at hl 1 rfl) ?_
        refine lv_iload_n hx hb dX1_firstFault_14 rfl (lv_at hl 0 rfl) ?_
        refine xVro C hN (As := [.int (nI pl), .int (nI i)]) (rest := []) (q0 := 0) (c_X1_canStand xl D kA b h m P hh hP2 hm pl i (by omega) (by omega) (by omega)) (cwV 2 hts gX1_firstFault_X1_canStand rfl rfl rfl (by decide +kernel) ⟨Nat.le_of_ble_eq_true rfl, Nat.le_of_ble_eq_true rfl⟩) hP rfl rfl rfl rfl hl.1 rfl (Nat.le_of_ble_eq_true rfl) dX1_firstFault_15 ⟨Nat.le_of_ble_eq_true rfl, Nat.le_of_ble_eq_true rfl⟩ ?_
        refine xIfNeB C (tgt := 23) dX1_firstFault_18 (by decide) (fun h_18 => ?_) (fun h_18 => ?_)
        · skip
          refine lv_aload_n hx hb dX1_firstFault_23 rfl (lv_at hl 2 rfl) ?_
          refine lv_iload_n hx hb dX1_firstFault_24 rfl (lv_at hl 1 rfl) ?_
          refine lv_iload_n hx hb dX1_firstFault_25 rfl (lv_at hl 0 rfl) ?_
          refine xVro C hN (As := [.int (nI pl), .int (nI i)]) (rest := []) (q0 := 0) (c_X1_placeAfter xl D kA b h m P hh hP2 hm pl i (by omega) (by omega) (by omega)) (cwV 2 hts gX1_firstFault_X1_placeAfter rfl rfl rfl (by decide +kernel) ⟨Nat.le_of_ble_eq_true rfl, Nat.le_of_ble_eq_true rfl⟩) hP rfl rfl rfl rfl hl.1 rfl (Nat.le_of_ble_eq_true rfl) dX1_firstFault_26 ⟨Nat.le_of_ble_eq_true rfl, Nat.le_of_ble_eq_true rfl⟩ ?_
          refine lv_istore_n (lv' := [(1, .int (nI (plA m P pl i))), (2, .int (nI i)), (0, .ref (b 0))]) hx hb dX1_firstFault_29 rfl hl (by decide) rfl (fun ls hl => ?_)
          refine xIinc C (kx := 1) (d := 1) (lv' := [(2, .int (nI (i + 1))), (1, .int (nI (plA m P pl i))), (0, .ref (b 0))]) dX1_firstFault_30 hl rfl (by decide) (by decide) rfl (fun ls hl => ?_)
          refine lv_goto (tgt := 4) hx hb dX1_firstFault_33 (by decide) ?_
          exact ih4 (i + 1) (plA m P pl i) (by omega) (by omega) (by unfold plA; split <;> (try split) <;> omega) (by unfold plA; split <;> (try split) <;> omega) (by rw [← hf, ff_s h_9, if_pos h_18]) _ (lv_sub hl [0, 1, 2] rfl)
        · skip
          refine lv_iload_n hx hb dX1_firstFault_21 rfl (lv_at hl 0 rfl) ?_
          exact xRoI hx hb hret (v := nI i) (by rw [← hf, ff_s h_9, h_18]; rfl) dX1_firstFault_22 hlocks
  exact L4 _ 0 0 (Nat.lt_succ_self _) (by omega) (by omega) (by omega) rfl _ (lv_sub hl [0, 1, 2] rfl)

set_option maxHeartbeats 8000000 in
set_option maxRecDepth 100000 in
theorem c_X1_clear (xl : Launch) (D : va_G) (kA : Nat → ClassId) (b : Nat → Nat) (h : Nat → Int32) (m : Nat) (A : Nat → Prop) : Met xl yX1_clear wsX1_clear { frames := 0, cells := 0, slots := 0, locals := 0 } (va_Pc [.ref (b 0)] (xPw D kA A [((b 0), .inr (1, [.ref (b 1), .int (nI m)])), ((b 1), .inl (kA 1, 60, .inl (h)))])) (xQv D A (fun u => u = padW kA b h 0)) 0 0 A := by
  refine Met.ofW (cc := cX1_clear) (maxL := 1) (ret := none) (by decide) rfl ?_
  intro xp xe xs xm args xbe xme xc s₁ B hml hv
  obtain ⟨rfl, hP, hN, hD, hA⟩ := hv
  have hret := B.returns
  have C : CallFix xp xm xc cX1_clear 1 xs ([.ref (b 0)] : List Value).toArray wsX1_clear RX1 := ⟨B.exec, B.bytes, hml, findClass_of_methodNamed B.named, atoms_spec (ws := wsX1_clear) B.pre⟩
  have hlocks := B.notSynchronized
  obtain ⟨hx, hb, _, hown, hts⟩ := id C
  have hS : va_S A xs.heap xs.heap [] := va_S.rf
  have hl := lv_entry ([.ref (b 0)]) (n := 1) (Nat.le_of_ble_eq_true rfl)
  rw [lg_entry_eq]
  generalize (lg_sl ([.ref (b 0)]) ++ List.replicate (1 - (lg_sl ([.ref (b 0)])).length) Slot.unset).toArray = ls at hl ⊢
  have hl : lv_has ls 1 [(0, .ref (b 0))] := hl
  refine lv_aload_n hx hb dX1_clear_0 rfl (lv_at hl 0 rfl) ?_
  refine lv_iconst (v := nI 0) hx hb dX1_clear_1 (by decide) ?_
  refine xPut C hN hP hD hS 0 (j := 1) (v := .int (nI 0)) rfl rfl iX1_clear_X1 tyX1_ok nmX1 (by decide) kX1_clear_15 rfl rfl rfl rfl (Nat.le_of_ble_eq_true rfl) dX1_clear_2 (fun H locs hP hD hS => ?_)
  have hP : va_P D vwCl [((b 0), .inr (1, [.ref (b 1), .int (nI 0)])), ((b 1), .inl (kA 1, 60, .inl (h)))] H := hP
  have hD : va_D A [((b 0), .inr (1, [.ref (b 1), .int (nI 0)])), ((b 1), .inl (kA 1, 60, .inl (h)))] := hD
  exact xRetV hx hb hret (rfl) hP hD hS dX1_clear_5 hlocks

set_option maxHeartbeats 8000000 in
set_option maxRecDepth 100000 in
theorem c_X1_init (xl : Launch) (D : va_G) (kA : Nat → ClassId) (q : Nat) (A : Nat → Prop) : Met xl yX1_init wsX1_init { frames := 1, cells := 1, slots := 60, locals := 40 } (va_Pc [.ref q] (xPw D kA A [(q, .inr (1, [.null, .int 0]))])) (xQv D A (fun u => ∃ b : Nat → Nat, b 0 = q ∧ u = padW kA b (fun _ => 0) 0)) 1 60 A := by
  refine Met.ofW (cc := cX1_init) (maxL := 1) (ret := none) (by decide) rfl ?_
  intro xp xe xs xm args xbe xme xc s₁ B hml hv
  obtain ⟨rfl, hP, hN, hD, hA⟩ := hv
  have hret := B.returns
  have C : CallFix xp xm xc cX1_init 1 xs ([.ref q] : List Value).toArray wsX1_init RX1 := ⟨B.exec, B.bytes, hml, findClass_of_methodNamed B.named, atoms_spec (ws := wsX1_init) B.pre⟩
  have hlocks := B.notSynchronized
  have hin : xme.name = "<init>" := (name_of_methodNamed B.named B.method).1
  obtain ⟨hx, hb, _, hown, hts⟩ := id C
  have hS : va_S A xs.heap xs.heap [] := va_S.rf
  have hl := lv_entry ([.ref q]) (n := 1) (Nat.le_of_ble_eq_true rfl)
  rw [lg_entry_eq]
  generalize (lg_sl ([.ref q]) ++ List.replicate (1 - (lg_sl ([.ref q])).length) Slot.unset).toArray = ls at hl ⊢
  have hl : lv_has ls 1 [(0, .ref q)] := hl
  refine lv_aload_n hx hb dX1_init_0 rfl (lv_at hl 0 rfl) ?_
  refine W.objInit hx hb hown (hts _ (List.mem_of_getElem? (i := 1) rfl)) (hts _ (List.mem_of_getElem? (i := 2) rfl)) (hts _ (List.mem_of_getElem? (i := 3) rfl)) rfl (by rw [hml]; exact hl.1) rfl dX1_init_1 (Nat.le_of_ble_eq_true rfl) (Nat.le_of_ble_eq_true rfl) ?_
  refine W.eq (g2 := F0 xm 4 ls []) rfl ?_
  refine lv_aload_n hx hb dX1_init_4 rfl (lv_at hl 0 rfl) ?_
  refine lv_bipush (v := nI 60) hx hb dX1_init_5 (by decide) ?_
  refine xNewa C hN hP hD hS hA 1 (N := 60) (ty := .char) rfl rfl (fun _ _ h => h) (List.mem_of_getElem? (i := 4) rfl) rfl (by decide) (by decide) rfl (Nat.le_of_ble_eq_true rfl) (Nat.le_of_ble_eq_true rfl) dX1_init_7 (fun q_7 H hP hD hS => ?_)
  have hP : va_P D vwCl [(q, .inr (1, [.null, .int 0])), (q_7, .inl (kA 1, 60, .inl (fun _ => 0)))] H := hP
  have hD : va_D A [(q, .inr (1, [.null, .int 0])), (q_7, .inl (kA 1, 60, .inl (fun _ => 0)))] := hD
  refine xPutF C hN hP hD hS hin 0 (j := 0) (v := .ref q_7) rfl rfl iX1_init_X1 tyX1_ok nmX1 (by decide) kX1_init_9 rfl rfl rfl rfl rfl (Nat.le_of_ble_eq_true rfl) dX1_init_9 (fun H locs hP hD hS => ?_)
  have hP : va_P D vwCl [(q, .inr (1, [.ref q_7, .int 0])), (q_7, .inl (kA 1, 60, .inl (fun _ => 0)))] H := hP
  have hD : va_D A [(q, .inr (1, [.ref q_7, .int 0])), (q_7, .inl (kA 1, 60, .inl (fun _ => 0)))] := hD
  refine lv_aload_n hx hb dX1_init_12 rfl (lv_at hl 0 rfl) ?_
  refine lv_iconst (v := nI 0) hx hb dX1_init_13 (by decide) ?_
  refine xPut C hN hP hD hS 0 (j := 1) (v := .int (nI 0)) rfl rfl iX1_init_X1 tyX1_ok nmX1 (by decide) kX1_init_15 rfl rfl rfl rfl (Nat.le_of_ble_eq_true rfl) dX1_init_14 (fun H locs hP hD hS => ?_)
  have hP : va_P D vwCl [(q, .inr (1, [.ref q_7, .int (nI 0)])), (q_7, .inl (kA 1, 60, .inl (fun _ => 0)))] H := hP
  have hD : va_D A [(q, .inr (1, [.ref q_7, .int (nI 0)])), (q_7, .inl (kA 1, 60, .inl (fun _ => 0)))] := hD
  exact xRetV hx hb hret (⟨ad7 q q_7 q_7 q_7 q_7 q_7 q_7, rfl, rfl⟩) hP hD hS dX1_init_17 hlocks

set_option maxHeartbeats 8000000 in
set_option maxRecDepth 100000 in
theorem c_X1_signsIn (xl : Launch) (D : va_G) (kA : Nat → ClassId) (X : Nat) (hX : X < 2 ^ 64) : Met xl yX1_signsIn wsX1_signsIn { frames := 1, cells := 0, slots := 0, locals := 22 } (va_Pc [.long (lN X)] (xPr D kA [])) (vp_Si (fun rr => rr = nI (sgF X 8 0))) 0 0 (fun _ => False) := by
  refine Met.ofW (cc := cX1_signsIn) (maxL := 5) (ret := (some .int)) (by decide) rfl ?_
  intro xp xe xs xm args xbe xme xc s₁ B hml hv
  obtain ⟨rfl, hP, hN⟩ := hv
  have hret := B.returns
  have C : CallFix xp xm xc cX1_signsIn 5 xs ([.long (lN X)] : List Value).toArray wsX1_signsIn RX1 := ⟨B.exec, B.bytes, hml, findClass_of_methodNamed B.named, atoms_spec (ws := wsX1_signsIn) B.pre⟩
  have hlocks := B.notSynchronized
  obtain ⟨hx, hb, _, hown, hts⟩ := id C
  have hl := lv_entry ([.long (lN X)]) (n := 5) (Nat.le_of_ble_eq_true rfl)
  rw [lg_entry_eq]
  generalize (lg_sl ([.long (lN X)]) ++ List.replicate (5 - (lg_sl ([.long (lN X)])).length) Slot.unset).toArray = ls at hl ⊢
  have hl : lv_has ls 5 [(0, .long (lN X))] := hl
  refine lv_lload_n hx hb dX1_signsIn_0 rfl (lv_at hl 0 rfl) ?_
  refine lv_lstore_n (lv' := [(2, .long (lN X)), (0, .long (lN X))]) hx hb dX1_signsIn_1 rfl hl (by decide) rfl (fun ls hl => ?_)
  
  rw [show lN X = lN (X / 2 ^ (0 * 8)) by rw [Nat.zero_mul, Nat.pow_zero, Nat.div_one]] at hl
  refine lv_iconst (v := nI 0) hx hb dX1_signsIn_2 (by decide) ?_
  refine lv_istore (lv' := [(4, .int (nI 0)), (2, .long (lN (X / 2 ^ (0 * 8)))), (0, .long (lN (X / 2 ^ (0 * 8))))]) hx hb dX1_signsIn_3 hl (by decide) rfl (fun ls hl => ?_)
  have L5 : ∀ (fuel : Nat), ∀ (k : Nat) (hmu : 8 - k < fuel) (hk : k ≤ 8) (hf : sgF X (8 - k) k = sgF X 8 0) (ls : Array Slot) (_ : lv_has ls 5 [(4, .int (nI k)), (2, .long (lN (X / 2 ^ (k * 8))))]), W xp xl xe (headSpec wsX1_signsIn { frames := 1, cells := 0, slots := 0, locals := 22 }).room xs xm ([.long (lN X)] : List Value).toArray xbe xme xc xs.heap [] 0 0 (MQ xbe (vp_Si (fun rr => rr = nI (sgF X 8 0))) ([.long (lN X)] : List Value).toArray xs 0 0 (fun _ => False)) (F0 xm 5 ls []) := by
    intro fuel
    induction fuel with
    | zero => intro k hmu; exact absurd hmu (Nat.not_lt_zero _)
    | succ fuel ih5 =>
      intro k hmu hk hf ls hl
      refine lv_iload hx hb dX1_signsIn_5 (lv_at hl 0 rfl) ?_
      refine lv_bipush (v := nI 8) hx hb dX1_signsIn_7 (by decide) ?_
      refine xIcmpGe C (tgt := 50) (by omega) (by decide) dX1_signsIn_9 (by decide) (fun h_9 => ?_) (fun h_9 => ?_)
      · skip
        refine lv_bipush (v := nI 8) hx hb dX1_signsIn_50 (by decide) ?_
        exact xRoI hx hb hret (v := nI 8) (by rw [← hf, show 8 - k = 0 by omega]; rfl) dX1_signsIn_52 hlocks
      · skip
        refine lv_lload_n hx hb dX1_signsIn_12 rfl (lv_at hl 1 rfl) ?_
        refine lv_lconst (v := lN 0) hx hb dX1_signsIn_13 (by decide) ?_
        refine W.lcmp hx hb dX1_signsIn_14 ?_
        refine lv_if_ne (tgt := 21) hx hb dX1_signsIn_15 (by decide) (fun h_15 => ?_) (fun h_15 => ?_)
        · skip
          have g_15 : ¬ X / 2 ^ (k * 8) = 0 := fun q => h_15 ((lcmp0 (div_lt64 hX)).mpr q)
          refine lv_lload_n hx hb dX1_signsIn_21 rfl (lv_at hl 1 rfl) ?_
          refine lv_ldc2 (v := 255) hx hb hown (hts _ (List.mem_of_getElem? (i := 1) rfl)) dX1_signsIn_22 ?_
          refine xTopL (y := lN 255) (rfl) ?_
          refine lv_land hx hb dX1_signsIn_25 ?_
          refine xTopL (y := lN (byB X k)) (wb_mask (k := 8) (div_lt64 hX) (by decide)) ?_
          refine lv_l2i (v := (lN (byB X k)).toInt32) hx hb dX1_signsIn_26 rfl ?_
          refine xTop (y := nI (byB X k)) (lN_i _) ?_
          refine lv_bipush (v := nI 33) hx hb dX1_signsIn_27 (by decide) ?_
          refine lv_bipush (v := nI 126) hx hb dX1_signsIn_29 (by decide) ?_
          refine xNro C hN (As := [.int (nI (byB X k)), .int (nI 33), .int (nI 126)]) (rest := []) (c_X4_isBetween xl D kA (nI (byB X k)) (nI 33) (nI 126)) (va_cnB 3 hts gX1_signsIn_X4_isBetween_n21 rfl rfl rfl hN.2.2.2.2.2.2.2.2.2.2.1 (hts _ (List.mem_of_getElem? (i := 3) rfl)) (by decide +kernel) ⟨Nat.le_of_ble_eq_true rfl, Nat.le_of_ble_eq_true rfl⟩) (hts _ (List.mem_of_getElem? (i := 2) rfl)) hP rfl hl.1 rfl (Nat.le_of_ble_eq_true rfl) dX1_signsIn_31 ⟨Nat.le_of_ble_eq_true rfl, Nat.le_of_ble_eq_true rfl⟩ ?_
          refine xTop (y := bI (btwB (byB X k) 33 126)) (congrArg bI (inR_nI (by have := byB_lt X k; omega) (by decide) (by decide))) ?_
          refine xIfNeB C (tgt := 39) dX1_signsIn_34 (by decide) (fun h_34 => ?_) (fun h_34 => ?_)
          · skip
            refine lv_lload_n hx hb dX1_signsIn_39 rfl (lv_at hl 1 rfl) ?_
            refine lv_bipush (v := nI 8) hx hb dX1_signsIn_40 (by decide) ?_
            refine lv_lushr (v := ((lN (X / 2 ^ (k * 8))).toUInt64 >>> ((nI 8).toInt64.toUInt64 &&& Int64.toUInt64 63)).toInt64) hx hb dX1_signsIn_42 rfl ?_
            refine xTopL (y := lN (X / 2 ^ ((k + 1) * 8))) (by rw [wb_shr (div_lt64 hX) (by decide), sh8]) ?_
            refine lv_lstore_n (lv' := [(2, .long (lN (X / 2 ^ ((k + 1) * 8)))), (4, .int (nI k))]) hx hb dX1_signsIn_43 rfl hl (by decide) rfl (fun ls hl => ?_)
            refine xIinc C (kx := 1) (d := 1) (lv' := [(4, .int (nI (k + 1))), (2, .long (lN (X / 2 ^ ((k + 1) * 8))))]) dX1_signsIn_44 hl rfl (by decide) (by decide) rfl (fun ls hl => ?_)
            refine lv_goto (tgt := 5) hx hb dX1_signsIn_47 (by decide) ?_
            exact ih5 (k + 1) (by omega) (by omega) (by rw [← hf, sg_s h_9, if_neg g_15, if_pos h_34]) _ (lv_sub hl [0, 1] rfl)
          · skip
            refine lv_iconst (v := nI 0) hx hb dX1_signsIn_37 (by decide) ?_
            exact xRoI hx hb hret (v := nI 0) (by rw [← hf, sg_s h_9, if_neg g_15, h_34]; rfl) dX1_signsIn_38 hlocks
        · skip
          have g_15 : X / 2 ^ (k * 8) = 0 := (lcmp0 (div_lt64 hX)).mp h_15
          refine lv_iload hx hb dX1_signsIn_18 (lv_at hl 0 rfl) ?_
          exact xRoI hx hb hret (v := nI k) (by rw [← hf, sg_s h_9, if_pos g_15]) dX1_signsIn_20 hlocks
  exact L5 _ 0 (Nat.lt_succ_self _) (by omega) rfl _ (lv_sub hl [0, 1] rfl)

set_option maxHeartbeats 8000000 in
set_option maxRecDepth 100000 in
theorem c_X1_append (xl : Launch) (D : va_G) (kA : Nat → ClassId) (b : Nat → Nat) (h : Nat → Int32) (m X ad : Nat) (hX : X < 2 ^ 64) (had : ad ≤ 8) (hm : m + ad ≤ 60) (A : Nat → Prop) : Met xl yX1_append wsX1_append { frames := 0, cells := 0, slots := 0, locals := 0 } (va_Pc [.ref (b 0), .long (lN X), .int (nI ad)] (xPw D kA A [((b 0), .inr (1, [.ref (b 1), .int (nI m)])), ((b 1), .inl (kA 1, 60, .inl (h)))])) (xQv D A (fun u => u = padW kA b (wrP h X m ad ad) (m + ad))) 0 0 A := by
  refine Met.ofW (cc := cX1_append) (maxL := 5) (ret := none) (by decide) rfl ?_
  intro xp xe xs xm args xbe xme xc s₁ B hml hv
  obtain ⟨rfl, hP, hN, hD, hA⟩ := hv
  have hret := B.returns
  have C : CallFix xp xm xc cX1_append 5 xs ([.ref (b 0), .long (lN X), .int (nI ad)] : List Value).toArray wsX1_append RX1 := ⟨B.exec, B.bytes, hml, findClass_of_methodNamed B.named, atoms_spec (ws := wsX1_append) B.pre⟩
  have hlocks := B.notSynchronized
  obtain ⟨hx, hb, _, hown, hts⟩ := id C
  have hS : va_S A xs.heap xs.heap [] := va_S.rf
  have hl := lv_entry ([.ref (b 0), .long (lN X), .int (nI ad)]) (n := 5) (Nat.le_of_ble_eq_true rfl)
  rw [lg_entry_eq]
  generalize (lg_sl ([.ref (b 0), .long (lN X), .int (nI ad)]) ++ List.replicate (5 - (lg_sl ([.ref (b 0), .long (lN X), .int (nI ad)])).length) Slot.unset).toArray = ls at hl ⊢
  have hl : lv_has ls 5 [(0, .ref (b 0)), (1, .long (lN X)), (3, .int (nI ad))] := hl
  refine lv_iload_n hx hb dX1_append_0 rfl (lv_at hl 2 rfl) ?_
  refine lv_iconst (v := nI 1) hx hb dX1_append_1 (by decide) ?_
  refine lv_isub hx hb dX1_append_2 ?_
  refine lv_istore (lv' := [(4, .int ((nI ad) - (nI 1))), (0, .ref (b 0)), (1, .long (lN X)), (3, .int (nI ad))]) hx hb dX1_append_3 hl (by decide) rfl (fun ls hl => ?_)
  rw [← wrP_0 h X m ad] at hP hD
  have L5 : ∀ (fuel : Nat), ∀ (e : Nat) (hmu : ad - e < fuel) (he : e ≤ ad) (H : Heap) (locs : List Loc) (_ : va_P D vwCl [((b 0), .inr (1, [.ref (b 1), .int (nI (m + e))])), ((b 1), .inl (kA 1, 60, .inl (wrP h X m ad e)))] H) (_ : va_D A [((b 0), .inr (1, [.ref (b 1), .int (nI (m + e))])), ((b 1), .inl (kA 1, 60, .inl (wrP h X m ad e)))]) (_ : va_S A xs.heap H locs) (ls : Array Slot) (_ : lv_has ls 5 [(4, .int (nI (ad - e) - nI 1)), (0, .ref (b 0)), (1, .long (lN X)), (3, .int (nI ad))]), W xp xl xe (headSpec wsX1_append { frames := 0, cells := 0, slots := 0, locals := 0 }).room xs xm ([.ref (b 0), .long (lN X), .int (nI ad)] : List Value).toArray xbe xme xc H locs 0 0 (MQ xbe (xQv D A (fun u => u = padW kA b (wrP h X m ad ad) (m + ad))) ([.ref (b 0), .long (lN X), .int (nI ad)] : List Value).toArray xs 0 0 A) (F0 xm 5 ls []) := by
    intro fuel
    induction fuel with
    | zero => intro e hmu; exact absurd hmu (Nat.not_lt_zero _)
    | succ fuel ih5 =>
      intro e hmu he H locs hP hD hS ls hl
      refine lv_iload hx hb dX1_append_5 (lv_at hl 0 rfl) ?_
      refine lv_if_lt (tgt := 57) hx hb dX1_append_7 (by decide) (fun h_7 => ?_) (fun h_7 => ?_)
      · skip
        have g_7 := neg1_t h_7 (by omega)
        exact xRetV hx hb hret (by rw [show e = ad by omega]) hP hD hS dX1_append_57 hlocks
      · skip
        have g_7 := neg1_f h_7
        rw [pk_sub g_7] at hl
        refine lv_aload_n hx hb dX1_append_10 rfl (lv_at hl 1 rfl) ?_
        refine xGet C hN hP 0 (j := 1) rfl rfl iX1_append_X1 (by decide) kX1_append_15 rfl rfl dX1_append_11 ?_
        refine lv_bipush (v := nI 60) hx hb dX1_append_14 (by decide) ?_
        refine xIcmpGe C (tgt := 57) (by omega) (by decide) dX1_append_16 (by decide) (fun h_16 => ?_) (fun h_16 => ?_)
        · exfalso; omega
        · skip
          refine lv_aload_n hx hb dX1_append_19 rfl (lv_at hl 1 rfl) ?_
          refine xGet C hN hP 0 (j := 0) rfl rfl iX1_append_X1 (by decide) kX1_append_9 rfl rfl dX1_append_20 ?_
          refine lv_aload_n hx hb dX1_append_23 rfl (lv_at hl 1 rfl) ?_
          refine xGet C hN hP 0 (j := 1) rfl rfl iX1_append_X1 (by decide) kX1_append_15 rfl rfl dX1_append_24 ?_
          refine lv_lload_n hx hb dX1_append_27 rfl (lv_at hl 2 rfl) ?_
          refine lv_iload hx hb dX1_append_28 (lv_at hl 0 rfl) ?_
          refine lv_bipush (v := nI 8) hx hb dX1_append_30 (by decide) ?_
          refine xImul C dX1_append_32 ?_
          refine lv_lushr (v := ((lN X).toUInt64 >>> ((nI ((ad - e - 1) * 8)).toInt64.toUInt64 &&& Int64.toUInt64 63)).toInt64) hx hb dX1_append_33 rfl ?_
          refine xTopL (y := lN (X / 2 ^ ((ad - e - 1) * 8))) (wb_shr hX (by omega)) ?_
          refine lv_ldc2 (v := 255) hx hb hown (hts _ (List.mem_of_getElem? (i := 3) rfl)) dX1_append_34 ?_
          refine xTopL (y := lN 255) (rfl) ?_
          refine lv_land hx hb dX1_append_37 ?_
          refine xTopL (y := lN (byB X (ad - e - 1))) (wb_mask (k := 8) (div_lt64 hX) (by decide)) ?_
          refine lv_l2i (v := (lN (byB X (ad - e - 1))).toInt32) hx hb dX1_append_38 rfl ?_
          refine xTop (y := nI (byB X (ad - e - 1))) (lN_i _) ?_
          refine lv_i2c (v := ((nI (byB X (ad - e - 1))).toUInt32 % 65536).toInt32) hx hb dX1_append_39 rfl ?_
          refine xTop (y := nI (byB X (ad - e - 1))) ((sb_byte _ (byB_lt _ _)).2.1) ?_
          refine xCast C hN hP hD hS 1 (j := m + e) (y := nI (byB X (ad - e - 1))) rfl (by omega) (by decide) (by unfold vp_nar; rw [(pk_charN (show byB X (ad - e - 1) < 65536 by have := byB_lt X (ad - e - 1); omega)).1]) dX1_append_40 (fun H locs hP hD hS => ?_)
          rw [show upd (wrP h X m ad e) (m + e) (nI (byB X (ad - e - 1))) = wrP h X m ad (e + 1) from wrP_s h (by omega)] at hP hD
          have hP : va_P D vwCl [((b 0), .inr (1, [.ref (b 1), .int (nI (m + e))])), ((b 1), .inl (kA 1, 60, .inl (wrP h X m ad (e + 1))))] H := hP
          have hD : va_D A [((b 0), .inr (1, [.ref (b 1), .int (nI (m + e))])), ((b 1), .inl (kA 1, 60, .inl (wrP h X m ad (e + 1))))] := hD
          refine lv_aload_n hx hb dX1_append_41 rfl (lv_at hl 1 rfl) ?_
          refine lv_dup hx hb dX1_append_42 rfl ?_
          refine xGet C hN hP 0 (j := 1) rfl rfl iX1_append_X1 (by decide) kX1_append_15 rfl rfl dX1_append_43 ?_
          refine lv_iconst (v := nI 1) hx hb dX1_append_46 (by decide) ?_
          refine xIadd C dX1_append_47 ?_
          refine xPut C hN hP hD hS 0 (j := 1) (v := .int (nI ((m + e) + 1))) rfl rfl iX1_append_X1 tyX1_ok nmX1 (by decide) kX1_append_15 rfl rfl rfl rfl (Nat.le_of_ble_eq_true rfl) dX1_append_48 (fun H locs hP hD hS => ?_)
          have hP : va_P D vwCl [((b 0), .inr (1, [.ref (b 1), .int (nI ((m + e) + 1))])), ((b 1), .inl (kA 1, 60, .inl (wrP h X m ad (e + 1))))] H := hP
          have hD : va_D A [((b 0), .inr (1, [.ref (b 1), .int (nI ((m + e) + 1))])), ((b 1), .inl (kA 1, 60, .inl (wrP h X m ad (e + 1))))] := hD
          refine lv_iinc (v := nI (ad - (e + 1)) - nI 1) (lv' := [(4, .int (nI (ad - (e + 1)) - nI 1)), (0, .ref (b 0)), (1, .long (lN X)), (3, .int (nI ad))]) hx hb dX1_append_51 hl (k := 0) rfl (by rw [sub_1]; rfl) (by decide) rfl (fun ls hl => ?_)
          refine lv_goto (tgt := 5) hx hb dX1_append_54 (by decide) ?_
          have hP : va_P D vwCl [((b 0), .inr (1, [.ref (b 1), .int (nI ((m + e) + 1))])), ((b 1), .inl (kA 1, 60, .inl (wrP h X m ad (e + 1))))] H := hP
          exact ih5 (e + 1) (by omega) (by omega) _ _ hP hD hS _ (lv_sub hl [0, 1, 2, 3] rfl)
  exact L5 _ 0 (Nat.lt_succ_self _) (by omega) _ _ hP hD hS _ (lv_sub hl [0, 1, 2, 3] rfl)

set_option maxHeartbeats 8000000 in
set_option maxRecDepth 100000 in
theorem c_X1_appendTo (xl : Launch) (D : va_G) (kA : Nat → ClassId) (b : Nat → Nat) (h : Nat → Int32) (m : Nat) (P : Nat → Nat) (hh : relP h m P) (hP2 : wfP m P) (hm : m ≤ 60) (V : Nat → Nat) (f : Nat → Nat → Int32) (a : Nat → Nat) (hR : relT f (V 0) (TV V)) (hW : WfT (V 0) (TV V)) (hok : (wrK m P 61 0 0).1 = -6) (hn : V 0 + nrK m P 61 0 ≤ 24) (A : Nat → Prop) : Met xl yX1_appendTo wsX1_appendTo { frames := 2, cells := 0, slots := 0, locals := 49 } (va_Pc [.ref (b 0), .ref (a 0)] (xPw D kA A [((b 0), .inr (1, [.ref (b 1), .int (nI m)])), ((b 1), .inl (kA 1, 60, .inl (h))), ((a 0), .inr (2, [.ref (a 1), .ref (a 2), .ref (a 3), .ref (a 4), .ref (a 5), .ref (a 6), .int (nI (V 0))])), ((a 1), .inl (kA 0, 25, .inl (f 0))), ((a 2), .inl (kA 0, 25, .inl (f 1))), ((a 3), .inl (kA 0, 25, .inl (f 2))), ((a 4), .inl (kA 0, 25, .inl (f 3))), ((a 5), .inl (kA 0, 25, .inl (f 4))), ((a 6), .inl (kA 0, 25, .inl (f 5)))])) (xQv D A (fun u => ∃ f2 : Nat → Nat → Int32, u = padW kA b h m ++ rulW kA a f2 (nI (rdK m P 61 0 V 0)) ∧ relT f2 (rdK m P 61 0 V 0) (TV (rdK m P 61 0 V)) ∧ WfT (rdK m P 61 0 V 0) (TV (rdK m P 61 0 V)) ∧ rdK m P 61 0 V 0 ≤ 24)) 0 0 A := by
  refine Met.ofW (cc := cX1_appendTo) (maxL := 7) (ret := none) (by decide) rfl ?_
  intro xp xe xs xm args xbe xme xc s₁ B hml hv
  obtain ⟨rfl, hP, hN, hD, hA⟩ := hv
  have hret := B.returns
  have C : CallFix xp xm xc cX1_appendTo 7 xs ([.ref (b 0), .ref (a 0)] : List Value).toArray wsX1_appendTo RX1 := ⟨B.exec, B.bytes, hml, findClass_of_methodNamed B.named, atoms_spec (ws := wsX1_appendTo) B.pre⟩
  have hlocks := B.notSynchronized
  obtain ⟨hx, hb, _, hown, hts⟩ := id C
  have hS : va_S A xs.heap xs.heap [] := va_S.rf
  have hl := lv_entry ([.ref (b 0), .ref (a 0)]) (n := 7) (Nat.le_of_ble_eq_true rfl)
  rw [lg_entry_eq]
  generalize (lg_sl ([.ref (b 0), .ref (a 0)]) ++ List.replicate (7 - (lg_sl ([.ref (b 0), .ref (a 0)])).length) Slot.unset).toArray = ls at hl ⊢
  have hl : lv_has ls 7 [(0, .ref (b 0)), (1, .ref (a 0))] := hl
  refine lv_iconst (v := nI 0) hx hb dX1_appendTo_0 (by decide) ?_
  refine lv_istore_n (lv' := [(2, .int (nI 0)), (0, .ref (b 0)), (1, .ref (a 0))]) hx hb dX1_appendTo_1 rfl hl (by decide) rfl (fun ls hl => ?_)
  have L2 : ∀ (fuel : Nat), ∀ (p : Nat) (kk : Nat) (U : Nat → Nat) (ff : Nat → Nat → Int32) (hmu : m - p < fuel) (hkk : m < p + kk) (hp60 : p ≤ m + 1) (hst : p < m → (∃ t, (wrK m P kk p t).1 = -6) ∧ U 0 + nrK m P kk p ≤ 24) (hW24 : U 0 ≤ 24) (hrd : rdK m P kk p U = rdK m P 61 0 V) (hRW : relT ff (U 0) (TV U)) (hWW : WfT (U 0) (TV U)) (H : Heap) (locs : List Loc) (_ : va_P D vwCl [((b 0), .inr (1, [.ref (b 1), .int (nI m)])), ((b 1), .inl (kA 1, 60, .inl (h))), ((a 0), .inr (2, [.ref (a 1), .ref (a 2), .ref (a 3), .ref (a 4), .ref (a 5), .ref (a 6), .int (nI (U 0))])), ((a 1), .inl (kA 0, 25, .inl (ff 0))), ((a 2), .inl (kA 0, 25, .inl (ff 1))), ((a 3), .inl (kA 0, 25, .inl (ff 2))), ((a 4), .inl (kA 0, 25, .inl (ff 3))), ((a 5), .inl (kA 0, 25, .inl (ff 4))), ((a 6), .inl (kA 0, 25, .inl (ff 5)))] H) (_ : va_D A [((b 0), .inr (1, [.ref (b 1), .int (nI m)])), ((b 1), .inl (kA 1, 60, .inl (h))), ((a 0), .inr (2, [.ref (a 1), .ref (a 2), .ref (a 3), .ref (a 4), .ref (a 5), .ref (a 6), .int (nI (U 0))])), ((a 1), .inl (kA 0, 25, .inl (ff 0))), ((a 2), .inl (kA 0, 25, .inl (ff 1))), ((a 3), .inl (kA 0, 25, .inl (ff 2))), ((a 4), .inl (kA 0, 25, .inl (ff 3))), ((a 5), .inl (kA 0, 25, .inl (ff 4))), ((a 6), .inl (kA 0, 25, .inl (ff 5)))]) (_ : va_S A xs.heap H locs) (ls : Array Slot) (_ : lv_has ls 7 [(2, .int (nI p)), (0, .ref (b 0)), (1, .ref (a 0))]), W xp xl xe (headSpec wsX1_appendTo { frames := 2, cells := 0, slots := 0, locals := 49 }).room xs xm ([.ref (b 0), .ref (a 0)] : List Value).toArray xbe xme xc H locs 0 0 (MQ xbe (xQv D A (fun u => ∃ f2 : Nat → Nat → Int32, u = padW kA b h m ++ rulW kA a f2 (nI (rdK m P 61 0 V 0)) ∧ relT f2 (rdK m P 61 0 V 0) (TV (rdK m P 61 0 V)) ∧ WfT (rdK m P 61 0 V 0) (TV (rdK m P 61 0 V)) ∧ rdK m P 61 0 V 0 ≤ 24)) ([.ref (b 0), .ref (a 0)] : List Value).toArray xs 0 0 A) (F0 xm 2 ls []) := by
    intro fuel
    induction fuel with
    | zero => intro p kk U ff hmu; exact absurd hmu (Nat.not_lt_zero _)
    | succ fuel ih2 =>
      intro p kk U ff hmu hkk hp60 hst hW24 hrd hRW hWW H locs hP hD hS ls hl
      refine lv_iload_n hx hb dX1_appendTo_2 rfl (lv_at hl 0 rfl) ?_
      refine lv_aload_n hx hb dX1_appendTo_3 rfl (lv_at hl 1 rfl) ?_
      refine xGet C hN hP 0 (j := 1) rfl rfl iX1_appendTo_X1 (by decide) kX1_appendTo_15 rfl rfl dX1_appendTo_4 ?_
      refine xIcmpGe C (tgt := 103) (by omega) (by omega) dX1_appendTo_7 (by decide) (fun h_7 => ?_) (fun h_7 => ?_)
      · skip
        exact xRetV hx hb hret (by rw [← hrd, rd_e h_7]; exact ⟨ff, rfl, hRW, hWW, hW24⟩) hP hD hS dX1_appendTo_103 hlocks
      · skip
        obtain ⟨hk1, hk2⟩ := hst h_7
        obtain ⟨t_7, hk3⟩ := hk1
        obtain ⟨s1, s2, s3, s4, s5⟩ := ok_step hm (by omega) hkk hk3
        obtain ⟨v0, v1, v2, v3, v4⟩ := ok_vals s2
        refine lv_aload_n hx hb dX1_appendTo_10 rfl (lv_at hl 1 rfl) ?_
        refine lv_iload_n hx hb dX1_appendTo_11 rfl (lv_at hl 0 rfl) ?_
        refine lv_iconst (v := nI 1) hx hb dX1_appendTo_12 (by decide) ?_
        refine xIadd C dX1_appendTo_13 ?_
        refine xVro C hN (As := [.int (nI (p + 1))]) (rest := []) (q0 := 0) (c_X1_signAt xl D kA b h m P hh hP2 hm (p + 1) (by omega)) (cwV 1 hts gX1_appendTo_X1_signAt rfl rfl rfl (by decide +kernel) ⟨Nat.le_of_ble_eq_true rfl, Nat.le_of_ble_eq_true rfl⟩) (hP.sub (ws' := [((b 0), .inr (1, [.ref (b 1), .int (nI m)])), ((b 1), .inl (kA 1, 60, .inl (h)))]) [0, 1] rfl) rfl rfl rfl rfl hl.1 rfl (Nat.le_of_ble_eq_true rfl) dX1_appendTo_14 ⟨Nat.le_of_ble_eq_true rfl, Nat.le_of_ble_eq_true rfl⟩ ?_
        refine xSro C hN (As := [.int (nI (sgn m P (p + 1)))]) (rest := []) (c_X1_kindOf xl D kA (sgn m P (p + 1)) (sgn_lt hP2 _)) (va_cwS 1 hts gX1_appendTo_X1_kindOf rfl rfl rfl (by decide +kernel) ⟨Nat.le_of_ble_eq_true rfl, Nat.le_of_ble_eq_true rfl⟩) (hP.sub (ws' := []) [] rfl) rfl hl.1 rfl (Nat.le_of_ble_eq_true rfl) dX1_appendTo_17 ⟨Nat.le_of_ble_eq_true rfl, Nat.le_of_ble_eq_true rfl⟩ ?_
        refine lv_istore_n (lv' := [(3, .int (nI (kindC (sgn m P (p + 1))))), (2, .int (nI p)), (0, .ref (b 0)), (1, .ref (a 0))]) hx hb dX1_appendTo_20 rfl hl (by decide) rfl (fun ls hl => ?_)
        refine lv_aload_n hx hb dX1_appendTo_21 rfl (lv_at hl 2 rfl) ?_
        refine lv_iload_n hx hb dX1_appendTo_22 rfl (lv_at hl 1 rfl) ?_
        refine lv_iconst (v := nI 2) hx hb dX1_appendTo_23 (by decide) ?_
        refine xIadd C dX1_appendTo_24 ?_
        refine xVro C hN (As := [.int (nI (p + 2))]) (rest := []) (q0 := 0) (c_X1_signAt xl D kA b h m P hh hP2 hm (p + 2) (by omega)) (cwV 1 hts gX1_appendTo_X1_signAt rfl rfl rfl (by decide +kernel) ⟨Nat.le_of_ble_eq_true rfl, Nat.le_of_ble_eq_true rfl⟩) (hP.sub (ws' := [((b 0), .inr (1, [.ref (b 1), .int (nI m)])), ((b 1), .inl (kA 1, 60, .inl (h)))]) [0, 1] rfl) rfl rfl rfl rfl hl.1 rfl (Nat.le_of_ble_eq_true rfl) dX1_appendTo_25 ⟨Nat.le_of_ble_eq_true rfl, Nat.le_of_ble_eq_true rfl⟩ ?_
        refine lv_iconst (v := nI 5) hx hb dX1_appendTo_28 (by decide) ?_
        refine xSro C hN (As := [.int (nI (sgn m P (p + 2))), .int (nI 5)]) (rest := []) (c_X1_numberOf xl D kA (sgn m P (p + 2)) 5 (sgn_lt hP2 _) v2.2) (va_cwS 2 hts gX1_appendTo_X1_numberOf rfl rfl rfl (by decide +kernel) ⟨Nat.le_of_ble_eq_true rfl, Nat.le_of_ble_eq_true rfl⟩) (hP.sub (ws' := []) [] rfl) rfl hl.1 rfl (Nat.le_of_ble_eq_true rfl) dX1_appendTo_29 ⟨Nat.le_of_ble_eq_true rfl, Nat.le_of_ble_eq_true rfl⟩ ?_
        refine lv_istore (lv' := [(4, .int (nI (nmC (sgn m P (p + 2)) 5))), (3, .int (nI (kindC (sgn m P (p + 1))))), (2, .int (nI p)), (0, .ref (b 0)), (1, .ref (a 0))]) hx hb dX1_appendTo_32 hl (by decide) rfl (fun ls hl => ?_)
        refine lv_aload_n hx hb dX1_appendTo_34 rfl (lv_at hl 3 rfl) ?_
        refine lv_iload_n hx hb dX1_appendTo_35 rfl (lv_at hl 2 rfl) ?_
        refine lv_iconst (v := nI 3) hx hb dX1_appendTo_36 (by decide) ?_
        refine xIadd C dX1_appendTo_37 ?_
        refine xVro C hN (As := [.int (nI (p + 3))]) (rest := []) (q0 := 0) (c_X1_signAt xl D kA b h m P hh hP2 hm (p + 3) (by omega)) (cwV 1 hts gX1_appendTo_X1_signAt rfl rfl rfl (by decide +kernel) ⟨Nat.le_of_ble_eq_true rfl, Nat.le_of_ble_eq_true rfl⟩) (hP.sub (ws' := [((b 0), .inr (1, [.ref (b 1), .int (nI m)])), ((b 1), .inl (kA 1, 60, .inl (h)))]) [0, 1] rfl) rfl rfl rfl rfl hl.1 rfl (Nat.le_of_ble_eq_true rfl) dX1_appendTo_38 ⟨Nat.le_of_ble_eq_true rfl, Nat.le_of_ble_eq_true rfl⟩ ?_
        refine lv_bipush (v := nI 6) hx hb dX1_appendTo_41 (by decide) ?_
        refine xSro C hN (As := [.int (nI (sgn m P (p + 3))), .int (nI 6)]) (rest := []) (c_X1_numberOf xl D kA (sgn m P (p + 3)) 6 (sgn_lt hP2 _) v3.2) (va_cwS 2 hts gX1_appendTo_X1_numberOf rfl rfl rfl (by decide +kernel) ⟨Nat.le_of_ble_eq_true rfl, Nat.le_of_ble_eq_true rfl⟩) (hP.sub (ws' := []) [] rfl) rfl hl.1 rfl (Nat.le_of_ble_eq_true rfl) dX1_appendTo_43 ⟨Nat.le_of_ble_eq_true rfl, Nat.le_of_ble_eq_true rfl⟩ ?_
        refine lv_istore (lv' := [(5, .int (nI (nmC (sgn m P (p + 3)) 6))), (4, .int (nI (nmC (sgn m P (p + 2)) 5))), (3, .int (nI (kindC (sgn m P (p + 1))))), (2, .int (nI p)), (0, .ref (b 0)), (1, .ref (a 0))]) hx hb dX1_appendTo_46 hl (by decide) rfl (fun ls hl => ?_)
        refine lv_iload_n hx hb dX1_appendTo_48 rfl (lv_at hl 2 rfl) ?_
        have J49 : ∀ (ls : Array Slot) (_ : lv_has ls 7 [(5, .int (nI (nmC (sgn m P (p + 3)) 6))), (4, .int (nI (nmC (sgn m P (p + 2)) 5))), (3, .int (nI (kindC (sgn m P (p + 1))))), (2, .int (nI p)), (0, .ref (b 0)), (1, .ref (a 0))]), W xp xl xe (headSpec wsX1_appendTo { frames := 2, cells := 0, slots := 0, locals := 49 }).room xs xm ([.ref (b 0), .ref (a 0)] : List Value).toArray xbe xme xc H locs 0 0 (MQ xbe (xQv D A (fun u => ∃ f2 : Nat → Nat → Int32, u = padW kA b h m ++ rulW kA a f2 (nI (rdK m P 61 0 V 0)) ∧ relT f2 (rdK m P 61 0 V 0) (TV (rdK m P 61 0 V)) ∧ WfT (rdK m P 61 0 V 0) (TV (rdK m P 61 0 V)) ∧ rdK m P 61 0 V 0 ≤ 24)) ([.ref (b 0), .ref (a 0)] : List Value).toArray xs 0 0 A) (F0 xm 66 ls [.int (nI (slT m P p))]) := by
          intro   ls hl
          refine lv_istore (lv' := [(6, .int (nI (slT m P p))), (5, .int (nI (nmC (sgn m P (p + 3)) 6))), (4, .int (nI (nmC (sgn m P (p + 2)) 5))), (3, .int (nI (kindC (sgn m P (p + 1))))), (2, .int (nI p)), (0, .ref (b 0)), (1, .ref (a 0))]) hx hb dX1_appendTo_66 hl (by decide) rfl (fun ls hl => ?_)
          refine lv_aload_n hx hb dX1_appendTo_68 rfl (lv_at hl 6 rfl) ?_
          refine lv_aload_n hx hb dX1_appendTo_69 rfl (lv_at hl 5 rfl) ?_
          refine lv_iload_n hx hb dX1_appendTo_70 rfl (lv_at hl 4 rfl) ?_
          refine xVro C hN (As := [.int (nI p)]) (rest := [.ref (a 0)]) (q0 := 0) (c_X1_signAt xl D kA b h m P hh hP2 hm (p) (by omega)) (cwV 1 hts gX1_appendTo_X1_signAt rfl rfl rfl (by decide +kernel) ⟨Nat.le_of_ble_eq_true rfl, Nat.le_of_ble_eq_true rfl⟩) (hP.sub (ws' := [((b 0), .inr (1, [.ref (b 1), .int (nI m)])), ((b 1), .inl (kA 1, 60, .inl (h)))]) [0, 1] rfl) rfl rfl rfl rfl hl.1 rfl (Nat.le_of_ble_eq_true rfl) dX1_appendTo_71 ⟨Nat.le_of_ble_eq_true rfl, Nat.le_of_ble_eq_true rfl⟩ ?_
          refine lv_bipush (v := nI 48) hx hb dX1_appendTo_74 (by decide) ?_
          refine xIsub C v0.2 dX1_appendTo_76 ?_
          refine lv_iload_n hx hb dX1_appendTo_77 rfl (lv_at hl 3 rfl) ?_
          refine lv_iload hx hb dX1_appendTo_78 (lv_at hl 2 rfl) ?_
          refine lv_iload hx hb dX1_appendTo_80 (lv_at hl 1 rfl) ?_
          refine lv_iload hx hb dX1_appendTo_82 (lv_at hl 0 rfl) ?_
          refine xWv (L := [((b 0), .inr (1, [.ref (b 1), .int (nI m)])), ((b 1), .inl (kA 1, 60, .inl (h))), ((a 0), .inr (2, [.ref (a 1), .ref (a 2), .ref (a 3), .ref (a 4), .ref (a 5), .ref (a 6), .int (nI (U 0))])), ((a 1), .inl (kA 0, 25, .inl (ff 0))), ((a 2), .inl (kA 0, 25, .inl (ff 1))), ((a 3), .inl (kA 0, 25, .inl (ff 2))), ((a 4), .inl (kA 0, 25, .inl (ff 3))), ((a 5), .inl (kA 0, 25, .inl (ff 4))), ((a 6), .inl (kA 0, 25, .inl (ff 5)))]) (tl := []) (wc := [((a 0), .inr (2, [.ref (a 1), .ref (a 2), .ref (a 3), .ref (a 4), .ref (a 5), .ref (a 6), .int (nI (U 0))])), ((a 1), .inl (kA 0, 25, .inl (ff 0))), ((a 2), .inl (kA 0, 25, .inl (ff 1))), ((a 3), .inl (kA 0, 25, .inl (ff 2))), ((a 4), .inl (kA 0, 25, .inl (ff 3))), ((a 5), .inl (kA 0, 25, .inl (ff 4))), ((a 6), .inl (kA 0, 25, .inl (ff 5)))]) (wr := [((b 0), .inr (1, [.ref (b 1), .int (nI m)])), ((b 1), .inl (kA 1, 60, .inl (h)))]) hP hD hS hA [2, 3, 4, 5, 6, 7, 8] [0, 1] rfl rfl (by decide) (by decide) (va_runV (As := [.int (nI ((sgn m P p) - 48)), .int (nI (kindC (sgn m P (p + 1)))), .int (nI (nmC (sgn m P (p + 2)) 5)), .int (nI (nmC (sgn m P (p + 3)) 6)), .int (nI (slT m P p))]) (rest := []) C (c_X2_append xl D kA a ff (U 0) (sgn m P p - 48) (kindC (sgn m P (p + 1))) (nmC (sgn m P (p + 2)) 5) (nmC (sgn m P (p + 3)) 6) (slT m P p) (by omega) v2.1 v3.1 _) (cwV 5 hts gX1_appendTo_X2_append rfl rfl rfl (by decide +kernel) ⟨Nat.le_of_ble_eq_true rfl, Nat.le_of_ble_eq_true rfl⟩) (xPreVw (q0 := 0) hN (xSubL (wc := [((a 0), .inr (2, [.ref (a 1), .ref (a 2), .ref (a 3), .ref (a 4), .ref (a 5), .ref (a 6), .int (nI (U 0))])), ((a 1), .inl (kA 0, 25, .inl (ff 0))), ((a 2), .inl (kA 0, 25, .inl (ff 1))), ((a 3), .inl (kA 0, 25, .inl (ff 2))), ((a 4), .inl (kA 0, 25, .inl (ff 3))), ((a 5), .inl (kA 0, 25, .inl (ff 4))), ((a 6), .inl (kA 0, 25, .inl (ff 5)))]) (L := [((b 0), .inr (1, [.ref (b 1), .int (nI m)])), ((b 1), .inl (kA 1, 60, .inl (h))), ((a 0), .inr (2, [.ref (a 1), .ref (a 2), .ref (a 3), .ref (a 4), .ref (a 5), .ref (a 6), .int (nI (U 0))])), ((a 1), .inl (kA 0, 25, .inl (ff 0))), ((a 2), .inl (kA 0, 25, .inl (ff 1))), ((a 3), .inl (kA 0, 25, .inl (ff 2))), ((a 4), .inl (kA 0, 25, .inl (ff 3))), ((a 5), .inl (kA 0, 25, .inl (ff 4))), ((a 6), .inl (kA 0, 25, .inl (ff 5)))]) (tl := []) hP [2, 3, 4, 5, 6, 7, 8] rfl) (xSubD (wc := [((a 0), .inr (2, [.ref (a 1), .ref (a 2), .ref (a 3), .ref (a 4), .ref (a 5), .ref (a 6), .int (nI (U 0))])), ((a 1), .inl (kA 0, 25, .inl (ff 0))), ((a 2), .inl (kA 0, 25, .inl (ff 1))), ((a 3), .inl (kA 0, 25, .inl (ff 2))), ((a 4), .inl (kA 0, 25, .inl (ff 3))), ((a 5), .inl (kA 0, 25, .inl (ff 4))), ((a 6), .inl (kA 0, 25, .inl (ff 5)))]) (L := [((b 0), .inr (1, [.ref (b 1), .int (nI m)])), ((b 1), .inl (kA 1, 60, .inl (h))), ((a 0), .inr (2, [.ref (a 1), .ref (a 2), .ref (a 3), .ref (a 4), .ref (a 5), .ref (a 6), .int (nI (U 0))])), ((a 1), .inl (kA 0, 25, .inl (ff 0))), ((a 2), .inl (kA 0, 25, .inl (ff 1))), ((a 3), .inl (kA 0, 25, .inl (ff 2))), ((a 4), .inl (kA 0, 25, .inl (ff 3))), ((a 5), .inl (kA 0, 25, .inl (ff 4))), ((a 6), .inl (kA 0, 25, .inl (ff 5)))]) (tl := []) hD [2, 3, 4, 5, 6, 7, 8] (by decide) rfl).self (fun _ h => Or.inr h) rfl rfl rfl) rfl rfl hl.1 rfl (lv_room (Nat.le_of_ble_eq_true rfl)) dX1_appendTo_84 ⟨Nat.le_of_ble_eq_true rfl, Nat.le_of_ble_eq_true rfl⟩) (fun u_84 H locs hq_84 hP hD hS => ?_)
          subst hq_84
          have hP : va_P D vwCl [((b 0), .inr (1, [.ref (b 1), .int (nI m)])), ((b 1), .inl (kA 1, 60, .inl (h))), ((a 0), .inr (2, [.ref (a 1), .ref (a 2), .ref (a 3), .ref (a 4), .ref (a 5), .ref (a 6), .int (nI (U 0 + 1))])), ((a 1), .inl (kA 0, 25, .inl ((appF ff (U 0) (sgn m P p - 48) (kindC (sgn m P (p + 1))) (nmC (sgn m P (p + 2)) 5) (nmC (sgn m P (p + 3)) 6) (slT m P p)) 0))), ((a 2), .inl (kA 0, 25, .inl ((appF ff (U 0) (sgn m P p - 48) (kindC (sgn m P (p + 1))) (nmC (sgn m P (p + 2)) 5) (nmC (sgn m P (p + 3)) 6) (slT m P p)) 1))), ((a 3), .inl (kA 0, 25, .inl ((appF ff (U 0) (sgn m P p - 48) (kindC (sgn m P (p + 1))) (nmC (sgn m P (p + 2)) 5) (nmC (sgn m P (p + 3)) 6) (slT m P p)) 2))), ((a 4), .inl (kA 0, 25, .inl ((appF ff (U 0) (sgn m P p - 48) (kindC (sgn m P (p + 1))) (nmC (sgn m P (p + 2)) 5) (nmC (sgn m P (p + 3)) 6) (slT m P p)) 3))), ((a 5), .inl (kA 0, 25, .inl ((appF ff (U 0) (sgn m P p - 48) (kindC (sgn m P (p + 1))) (nmC (sgn m P (p + 2)) 5) (nmC (sgn m P (p + 3)) 6) (slT m P p)) 4))), ((a 6), .inl (kA 0, 25, .inl ((appF ff (U 0) (sgn m P p - 48) (kindC (sgn m P (p + 1))) (nmC (sgn m P (p + 2)) 5) (nmC (sgn m P (p + 3)) 6) (slT m P p)) 5)))] H := hP
          have hD : va_D A [((b 0), .inr (1, [.ref (b 1), .int (nI m)])), ((b 1), .inl (kA 1, 60, .inl (h))), ((a 0), .inr (2, [.ref (a 1), .ref (a 2), .ref (a 3), .ref (a 4), .ref (a 5), .ref (a 6), .int (nI (U 0 + 1))])), ((a 1), .inl (kA 0, 25, .inl ((appF ff (U 0) (sgn m P p - 48) (kindC (sgn m P (p + 1))) (nmC (sgn m P (p + 2)) 5) (nmC (sgn m P (p + 3)) 6) (slT m P p)) 0))), ((a 2), .inl (kA 0, 25, .inl ((appF ff (U 0) (sgn m P p - 48) (kindC (sgn m P (p + 1))) (nmC (sgn m P (p + 2)) 5) (nmC (sgn m P (p + 3)) 6) (slT m P p)) 1))), ((a 3), .inl (kA 0, 25, .inl ((appF ff (U 0) (sgn m P p - 48) (kindC (sgn m P (p + 1))) (nmC (sgn m P (p + 2)) 5) (nmC (sgn m P (p + 3)) 6) (slT m P p)) 2))), ((a 4), .inl (kA 0, 25, .inl ((appF ff (U 0) (sgn m P p - 48) (kindC (sgn m P (p + 1))) (nmC (sgn m P (p + 2)) 5) (nmC (sgn m P (p + 3)) 6) (slT m P p)) 3))), ((a 5), .inl (kA 0, 25, .inl ((appF ff (U 0) (sgn m P p - 48) (kindC (sgn m P (p + 1))) (nmC (sgn m P (p + 2)) 5) (nmC (sgn m P (p + 3)) 6) (slT m P p)) 4))), ((a 6), .inl (kA 0, 25, .inl ((appF ff (U 0) (sgn m P p - 48) (kindC (sgn m P (p + 1))) (nmC (sgn m P (p + 2)) 5) (nmC (sgn m P (p + 3)) 6) (slT m P p)) 5)))] := hD
          refine lv_iload_n hx hb dX1_appendTo_87 rfl (lv_at hl 4 rfl) ?_
          refine lv_iload_n hx hb dX1_appendTo_88 rfl (lv_at hl 3 rfl) ?_
          have J89 : ∀ (ls : Array Slot) (_ : lv_has ls 7 [(6, .int (nI (slT m P p))), (5, .int (nI (nmC (sgn m P (p + 3)) 6))), (4, .int (nI (nmC (sgn m P (p + 2)) 5))), (3, .int (nI (kindC (sgn m P (p + 1))))), (2, .int (nI p)), (0, .ref (b 0)), (1, .ref (a 0))]), W xp xl xe (headSpec wsX1_appendTo { frames := 2, cells := 0, slots := 0, locals := 49 }).room xs xm ([.ref (b 0), .ref (a 0)] : List Value).toArray xbe xme xc H locs 0 0 (MQ xbe (xQv D A (fun u => ∃ f2 : Nat → Nat → Int32, u = padW kA b h m ++ rulW kA a f2 (nI (rdK m P 61 0 V 0)) ∧ relT f2 (rdK m P 61 0 V 0) (TV (rdK m P 61 0 V)) ∧ WfT (rdK m P 61 0 V 0) (TV (rdK m P 61 0 V)) ∧ rdK m P 61 0 V 0 ≤ 24)) ([.ref (b 0), .ref (a 0)] : List Value).toArray xs 0 0 A) (F0 xm 98 ls [.int (nI (whl m P p + 1)), .int (nI p)]) := by
            intro   ls hl
            refine xIadd C dX1_appendTo_98 ?_
            refine lv_istore_n (lv' := [(2, .int (nI (p + (whl m P p + 1)))), (6, .int (nI (slT m P p))), (5, .int (nI (nmC (sgn m P (p + 3)) 6))), (4, .int (nI (nmC (sgn m P (p + 2)) 5))), (3, .int (nI (kindC (sgn m P (p + 1))))), (0, .ref (b 0)), (1, .ref (a 0))]) hx hb dX1_appendTo_99 rfl hl (by decide) rfl (fun ls hl => ?_)
            refine lv_goto (tgt := 2) hx hb dX1_appendTo_100 (by decide) ?_
            have hP : va_P D vwCl [((b 0), .inr (1, [.ref (b 1), .int (nI m)])), ((b 1), .inl (kA 1, 60, .inl (h))), ((a 0), .inr (2, [.ref (a 1), .ref (a 2), .ref (a 3), .ref (a 4), .ref (a 5), .ref (a 6), .int (nI (U 0 + 1))])), ((a 1), .inl (kA 0, 25, .inl ((appF ff (U 0) (sgn m P p - 48) (kindC (sgn m P (p + 1))) (nmC (sgn m P (p + 2)) 5) (nmC (sgn m P (p + 3)) 6) (slT m P p)) 0))), ((a 2), .inl (kA 0, 25, .inl ((appF ff (U 0) (sgn m P p - 48) (kindC (sgn m P (p + 1))) (nmC (sgn m P (p + 2)) 5) (nmC (sgn m P (p + 3)) 6) (slT m P p)) 1))), ((a 3), .inl (kA 0, 25, .inl ((appF ff (U 0) (sgn m P p - 48) (kindC (sgn m P (p + 1))) (nmC (sgn m P (p + 2)) 5) (nmC (sgn m P (p + 3)) 6) (slT m P p)) 2))), ((a 4), .inl (kA 0, 25, .inl ((appF ff (U 0) (sgn m P p - 48) (kindC (sgn m P (p + 1))) (nmC (sgn m P (p + 2)) 5) (nmC (sgn m P (p + 3)) 6) (slT m P p)) 3))), ((a 5), .inl (kA 0, 25, .inl ((appF ff (U 0) (sgn m P p - 48) (kindC (sgn m P (p + 1))) (nmC (sgn m P (p + 2)) 5) (nmC (sgn m P (p + 3)) 6) (slT m P p)) 4))), ((a 6), .inl (kA 0, 25, .inl ((appF ff (U 0) (sgn m P p - 48) (kindC (sgn m P (p + 1))) (nmC (sgn m P (p + 2)) 5) (nmC (sgn m P (p + 3)) 6) (slT m P p)) 5)))] H := hP
            exact ih2 (p + (whl m P p + 1)) (kk - 1) (addP m P p U) (appF ff (U 0) (sgn m P p - 48) (kindC (sgn m P (p + 1))) (nmC (sgn m P (p + 2)) 5) (nmC (sgn m P (p + 3)) 6) (slT m P p)) (by omega) (by have := whl_ge m P p; omega) (by omega) (fun q => ⟨⟨t_7 + 1, (s5 (by omega)).2⟩, by rw [if_pos (show p + whl m P p < m by omega)] at s4; show U 0 + 1 + nrK m P (kk - 1) (p + whl m P p + 1) ≤ 24; omega⟩) (by show U 0 + 1 ≤ 24; omega) (by rw [← hrd, rd_s hkk h_7]; rfl) (relT_app hRW) (WfT_app hWW ⟨v0.1, v1.1, v2.1, v3.1, v4.1, v4.2.1⟩) _ _ hP hD hS _ (lv_sub hl [0, 5, 6] rfl)
          refine xIfNe C (tgt := 96) (by omega) dX1_appendTo_89 (by decide) (fun h_89 => ?_) (fun h_89 => ?_)
          · skip
            refine lv_bipush (v := nI 6) hx hb dX1_appendTo_96 (by decide) ?_
            refine xTop (y := nI (whl m P p + 1)) (by unfold whl; rw [if_neg (fun q => by rw [v1.2, kind0.mpr q] at h_89; exact absurd h_89 (Nat.lt_irrefl 0))]) ?_
            exact J89   _ (lv_sub hl [0, 1, 2, 3, 4, 5, 6] rfl)
          · skip
            refine lv_iconst (v := nI 5) hx hb dX1_appendTo_92 (by decide) ?_
            refine xTop (y := nI (whl m P p + 1)) (by unfold whl; rw [if_pos (kind0.mp (by rw [← v1.2]; exact h_89))]) ?_
            refine lv_goto (tgt := 98) hx hb dX1_appendTo_93 (by decide) ?_
            exact J89   _ (lv_sub hl [0, 1, 2, 3, 4, 5, 6] rfl)
        refine xIfNe C (tgt := 56) (by omega) dX1_appendTo_49 (by decide) (fun h_49 => ?_) (fun h_49 => ?_)
        · skip
          refine lv_aload_n hx hb dX1_appendTo_56 rfl (lv_at hl 4 rfl) ?_
          refine lv_iload_n hx hb dX1_appendTo_57 rfl (lv_at hl 3 rfl) ?_
          refine lv_iconst (v := nI 4) hx hb dX1_appendTo_58 (by decide) ?_
          refine xIadd C dX1_appendTo_59 ?_
          refine xVro C hN (As := [.int (nI (p + 4))]) (rest := []) (q0 := 0) (c_X1_signAt xl D kA b h m P hh hP2 hm (p + 4) (by omega)) (cwV 1 hts gX1_appendTo_X1_signAt rfl rfl rfl (by decide +kernel) ⟨Nat.le_of_ble_eq_true rfl, Nat.le_of_ble_eq_true rfl⟩) (hP.sub (ws' := [((b 0), .inr (1, [.ref (b 1), .int (nI m)])), ((b 1), .inl (kA 1, 60, .inl (h)))]) [0, 1] rfl) rfl rfl rfl rfl hl.1 rfl (Nat.le_of_ble_eq_true rfl) dX1_appendTo_60 ⟨Nat.le_of_ble_eq_true rfl, Nat.le_of_ble_eq_true rfl⟩ ?_
          refine lv_bipush (v := nI 48) hx hb dX1_appendTo_63 (by decide) ?_
          refine xIsub C (by have := v4.2.2 (by intro q; rw [v1.2, kind0.mpr q] at h_49; exact absurd h_49 (Nat.lt_irrefl 0)); omega) dX1_appendTo_65 ?_
          refine xTop (y := nI (slT m P p)) (by unfold slT; rw [if_neg (fun q => by rw [v1.2, kind0.mpr q] at h_49; exact absurd h_49 (Nat.lt_irrefl 0))]) ?_
          exact J49   _ (lv_sub hl [0, 1, 2, 3, 4, 5] rfl)
        · skip
          refine lv_iconst (v := nI 1) hx hb dX1_appendTo_52 (by decide) ?_
          refine xTop (y := nI (slT m P p)) (by unfold slT; rw [if_pos (kind0.mp (by rw [← v1.2]; exact h_49))]) ?_
          refine lv_goto (tgt := 66) hx hb dX1_appendTo_53 (by decide) ?_
          exact J49   _ (lv_sub hl [0, 1, 2, 3, 4, 5] rfl)
  exact L2 _ 0 61 V f (Nat.lt_succ_self _) (by omega) (by omega) (fun _ => ⟨⟨0, hok⟩, hn⟩) (by omega) rfl hR hW _ _ hP hD hS _ (lv_sub hl [0, 1, 2] rfl)
