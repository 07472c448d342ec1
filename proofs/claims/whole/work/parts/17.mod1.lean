set_option maxHeartbeats 8000000 in
set_option maxRecDepth 100000 in
theorem c_X5_in (xl : Launch) (D : va_G) (kA : Nat → ClassId) (x lo hi : Int32) : Met xl yX5_in wsX5_in { frames := 0, cells := 0, slots := 0, locals := 0 } (va_Pc [.int x, .int lo, .int hi] (xPr D kA [])) (vp_Si (fun rr => rr = bI (inR x lo hi))) 0 0 (fun _ => False) := by
  refine Met.ofW (cc := cX5_in) (maxL := 3) (ret := (some .boolean)) (by decide) rfl ?_
  intro xp xe xs xm args xbe xme xc s₁ B hml hv
  obtain ⟨rfl, hP, hN⟩ := hv
  have hret := B.returns
  have C : CallFix xp xm xc cX5_in 3 xs ([.int x, .int lo, .int hi] : List Value).toArray wsX5_in RX5 := ⟨B.exec, B.bytes, hml, findClass_of_methodNamed B.named, atoms_spec (ws := wsX5_in) B.pre⟩
  have hlocks := B.notSynchronized
  obtain ⟨hx, hb, _, hown, hts⟩ := id C
  have hl := lv_entry ([.int x, .int lo, .int hi]) (n := 3) (Nat.le_of_ble_eq_true rfl)
  rw [lg_entry_eq]
  generalize (lg_sl ([.int x, .int lo, .int hi]) ++ List.replicate (3 - (lg_sl ([.int x, .int lo, .int hi])).length) Slot.unset).toArray = ls at hl ⊢
  have hl : lv_has ls 3 [(0, .int x), (1, .int lo), (2, .int hi)] := hl
  refine lv_iload_n hx hb dX5_in_0 rfl (lv_at hl 0 rfl) ?_
  refine lv_iload_n hx hb dX5_in_1 rfl (lv_at hl 1 rfl) ?_
  refine lv_icmp_lt (tgt := 14) hx hb dX5_in_2 (by decide) (fun h_2 => ?_) (fun h_2 => ?_)
  · skip
    refine lv_iconst (v := nI 0) hx hb dX5_in_14 (by decide) ?_
    exact xRoZ hx hb hret (v := nI 0) (xNar0) (by first | exact btw_3 h_2 h_7 | exact btw_2 h_7 | exact btw_1 h_2) dX5_in_15 hlocks
  · skip
    refine lv_iload_n hx hb dX5_in_5 rfl (lv_at hl 0 rfl) ?_
    refine lv_iload_n hx hb dX5_in_6 rfl (lv_at hl 2 rfl) ?_
    refine lv_icmp_gt (tgt := 14) hx hb dX5_in_7 (by decide) (fun h_7 => ?_) (fun h_7 => ?_)
    · skip
      refine lv_iconst (v := nI 0) hx hb dX5_in_14 (by decide) ?_
      exact xRoZ hx hb hret (v := nI 0) (xNar0) (by first | exact btw_3 h_2 h_7 | exact btw_2 h_7 | exact btw_1 h_2) dX5_in_15 hlocks
    · skip
      refine lv_iconst (v := nI 1) hx hb dX5_in_10 (by decide) ?_
      refine lv_goto (tgt := 15) hx hb dX5_in_11 (by decide) ?_
      exact xRoZ hx hb hret (v := nI 1) (xNar1) (by first | exact btw_3 h_2 h_7 | exact btw_2 h_7 | exact btw_1 h_2) dX5_in_15 hlocks

set_option maxHeartbeats 8000000 in
set_option maxRecDepth 100000 in
theorem c_X5_isRule (xl : Launch) (D : va_G) (kA : Nat → ClassId) (a : Nat → Nat) (V : Nat → Nat) (hs sl sv pd sg : Nat → Int32) (kt ln td : Nat) (hV : V 0 ≤ 24) (hW : WfT (V 0) (TV V)) (x : Int32) : Met xl yX5_isRule wsX5_isRule { frames := 1, cells := 0, slots := 0, locals := 22 } (va_Pc [.ref (a 0), .int x] (xPr D kA [((a 0), .inr (5, [.ref (a 1), .ref (a 2), .int (nI kt), .ref (a 3), .ref (a 4), .ref (a 5), .int (nI ln), .ref (a 6), .int (nI td)])), ((a 1), .inl (kA 0, 169, .inl (vI V))), ((a 2), .inl (kA 0, 1014, .inl (hs))), ((a 3), .inl (kA 0, 338, .inl (sl))), ((a 4), .inl (kA 2, 2, .inl (sv))), ((a 5), .inl (kA 0, 60, .inl (pd))), ((a 6), .inl (kA 0, 5, .inl (sg)))])) (vp_Si (fun rr => rr = bI (hasB (V 0) x))) 0 0 (fun _ => False) := by
  refine Met.ofW (cc := cX5_isRule) (maxL := 2) (ret := (some .boolean)) (by decide) rfl ?_
  intro xp xe xs xm args xbe xme xc s₁ B hml hv
  obtain ⟨rfl, hP, hN⟩ := hv
  have hret := B.returns
  have C : CallFix xp xm xc cX5_isRule 2 xs ([.ref (a 0), .int x] : List Value).toArray wsX5_isRule RX5 := ⟨B.exec, B.bytes, hml, findClass_of_methodNamed B.named, atoms_spec (ws := wsX5_isRule) B.pre⟩
  have hlocks := B.notSynchronized
  obtain ⟨hx, hb, _, hown, hts⟩ := id C
  have hl := lv_entry ([.ref (a 0), .int x]) (n := 2) (Nat.le_of_ble_eq_true rfl)
  rw [lg_entry_eq]
  generalize (lg_sl ([.ref (a 0), .int x]) ++ List.replicate (2 - (lg_sl ([.ref (a 0), .int x])).length) Slot.unset).toArray = ls at hl ⊢
  have hl : lv_has ls 2 [(0, .ref (a 0)), (1, .int x)] := hl
  refine lv_iload_n hx hb dX5_isRule_0 rfl (lv_at hl 1 rfl) ?_
  refine lv_iconst (v := nI 0) hx hb dX5_isRule_1 (by decide) ?_
  refine lv_aload_n hx hb dX5_isRule_2 rfl (lv_at hl 0 rfl) ?_
  refine xGet C hN hP 0 (j := 0) rfl rfl iX5_isRule_X5 (by decide) kX5_isRule_7 rfl rfl dX5_isRule_3 ?_
  refine lv_iconst (v := nI 0) hx hb dX5_isRule_6 (by decide) ?_
  refine xIald C hN hP 1 (j := 0) (v := nI (V 0)) rfl (by omega) (by decide) (rfl) dX5_isRule_7 ?_
  refine lv_iconst (v := nI 1) hx hb dX5_isRule_8 (by decide) ?_
  refine lv_isub hx hb dX5_isRule_9 ?_
  refine xSro C hN (As := [.int x, .int (nI 0), .int ((nI (V 0)) - (nI 1))]) (rest := []) (c_X5_in xl D kA x (nI 0) (nI (V 0) - nI 1)) (va_cwS 3 hts gX5_isRule_X5_in rfl rfl rfl (by decide +kernel) ⟨Nat.le_of_ble_eq_true rfl, Nat.le_of_ble_eq_true rfl⟩) (hP.sub (ws' := []) [] rfl) rfl hl.1 rfl (Nat.le_of_ble_eq_true rfl) dX5_isRule_10 ⟨Nat.le_of_ble_eq_true rfl, Nat.le_of_ble_eq_true rfl⟩ ?_
  refine xTop (y := bI (hasB (V 0) x)) (congrArg bI (isr (by omega))) ?_
  exact xRoZ hx hb hret (v := bI (hasB (V 0) x)) (xNarB _) (rfl) dX5_isRule_13 hlocks

set_option maxHeartbeats 8000000 in
set_option maxRecDepth 100000 in
theorem c_X5_isMember (xl : Launch) (D : va_G) (kA : Nat → ClassId) (a : Nat → Nat) (V : Nat → Nat) (hs sl sv pd sg : Nat → Int32) (kt ln td : Nat) (hV : V 0 ≤ 24) (hW : WfT (V 0) (TV V)) (hM : V 1 ≤ 10) (x : Int32) : Met xl yX5_isMember wsX5_isMember { frames := 1, cells := 0, slots := 0, locals := 22 } (va_Pc [.ref (a 0), .int x] (xPr D kA [((a 0), .inr (5, [.ref (a 1), .ref (a 2), .int (nI kt), .ref (a 3), .ref (a 4), .ref (a 5), .int (nI ln), .ref (a 6), .int (nI td)])), ((a 1), .inl (kA 0, 169, .inl (vI V))), ((a 2), .inl (kA 0, 1014, .inl (hs))), ((a 3), .inl (kA 0, 338, .inl (sl))), ((a 4), .inl (kA 2, 2, .inl (sv))), ((a 5), .inl (kA 0, 60, .inl (pd))), ((a 6), .inl (kA 0, 5, .inl (sg)))])) (vp_Si (fun rr => rr = bI (hasB (V 1) x))) 0 0 (fun _ => False) := by
  refine Met.ofW (cc := cX5_isMember) (maxL := 2) (ret := (some .boolean)) (by decide) rfl ?_
  intro xp xe xs xm args xbe xme xc s₁ B hml hv
  obtain ⟨rfl, hP, hN⟩ := hv
  have hret := B.returns
  have C : CallFix xp xm xc cX5_isMember 2 xs ([.ref (a 0), .int x] : List Value).toArray wsX5_isMember RX5 := ⟨B.exec, B.bytes, hml, findClass_of_methodNamed B.named, atoms_spec (ws := wsX5_isMember) B.pre⟩
  have hlocks := B.notSynchronized
  obtain ⟨hx, hb, _, hown, hts⟩ := id C
  have hl := lv_entry ([.ref (a 0), .int x]) (n := 2) (Nat.le_of_ble_eq_true rfl)
  rw [lg_entry_eq]
  generalize (lg_sl ([.ref (a 0), .int x]) ++ List.replicate (2 - (lg_sl ([.ref (a 0), .int x])).length) Slot.unset).toArray = ls at hl ⊢
  have hl : lv_has ls 2 [(0, .ref (a 0)), (1, .int x)] := hl
  refine lv_iload_n hx hb dX5_isMember_0 rfl (lv_at hl 1 rfl) ?_
  refine lv_iconst (v := nI 0) hx hb dX5_isMember_1 (by decide) ?_
  refine lv_aload_n hx hb dX5_isMember_2 rfl (lv_at hl 0 rfl) ?_
  refine xGet C hN hP 0 (j := 0) rfl rfl iX5_isMember_X5 (by decide) kX5_isMember_7 rfl rfl dX5_isMember_3 ?_
  refine lv_iconst (v := nI 1) hx hb dX5_isMember_6 (by decide) ?_
  refine xIald C hN hP 1 (j := 1) (v := nI (V 1)) rfl (by omega) (by decide) (rfl) dX5_isMember_7 ?_
  refine lv_iconst (v := nI 1) hx hb dX5_isMember_8 (by decide) ?_
  refine lv_isub hx hb dX5_isMember_9 ?_
  refine xSro C hN (As := [.int x, .int (nI 0), .int ((nI (V 1)) - (nI 1))]) (rest := []) (c_X5_in xl D kA x (nI 0) (nI (V 1) - nI 1)) (va_cwS 3 hts gX5_isMember_X5_in rfl rfl rfl (by decide +kernel) ⟨Nat.le_of_ble_eq_true rfl, Nat.le_of_ble_eq_true rfl⟩) (hP.sub (ws' := []) [] rfl) rfl hl.1 rfl (Nat.le_of_ble_eq_true rfl) dX5_isMember_10 ⟨Nat.le_of_ble_eq_true rfl, Nat.le_of_ble_eq_true rfl⟩ ?_
  refine xTop (y := bI (hasB (V 1) x)) (congrArg bI (isr (by omega))) ?_
  exact xRoZ hx hb hret (v := bI (hasB (V 1) x)) (xNarB _) (rfl) dX5_isMember_13 hlocks

set_option maxHeartbeats 8000000 in
set_option maxRecDepth 100000 in
theorem c_X5_isAsked (xl : Launch) (D : va_G) (kA : Nat → ClassId) (x y : Int32) : Met xl yX5_isAsked wsX5_isAsked { frames := 1, cells := 0, slots := 0, locals := 22 } (va_Pc [.int x, .int y] (xPr D kA [])) (vp_Si (fun rr => rr = bI (inR x (nI 0) (nI 4) && inR y (nI 0) (nI 5)))) 0 0 (fun _ => False) := by
  refine Met.ofW (cc := cX5_isAsked) (maxL := 2) (ret := (some .boolean)) (by decide) rfl ?_
  intro xp xe xs xm args xbe xme xc s₁ B hml hv
  obtain ⟨rfl, hP, hN⟩ := hv
  have hret := B.returns
  have C : CallFix xp xm xc cX5_isAsked 2 xs ([.int x, .int y] : List Value).toArray wsX5_isAsked RX5 := ⟨B.exec, B.bytes, hml, findClass_of_methodNamed B.named, atoms_spec (ws := wsX5_isAsked) B.pre⟩
  have hlocks := B.notSynchronized
  obtain ⟨hx, hb, _, hown, hts⟩ := id C
  have hl := lv_entry ([.int x, .int y]) (n := 2) (Nat.le_of_ble_eq_true rfl)
  rw [lg_entry_eq]
  generalize (lg_sl ([.int x, .int y]) ++ List.replicate (2 - (lg_sl ([.int x, .int y])).length) Slot.unset).toArray = ls at hl ⊢
  have hl : lv_has ls 2 [(0, .int x), (1, .int y)] := hl
  refine lv_iload_n hx hb dX5_isAsked_0 rfl (lv_at hl 0 rfl) ?_
  refine lv_iconst (v := nI 0) hx hb dX5_isAsked_1 (by decide) ?_
  refine lv_iconst (v := nI 4) hx hb dX5_isAsked_2 (by decide) ?_
  refine xSro C hN (As := [.int x, .int (nI 0), .int (nI 4)]) (rest := []) (c_X5_in xl D kA x (nI 0) (nI 4)) (va_cwS 3 hts gX5_isAsked_X5_in rfl rfl rfl (by decide +kernel) ⟨Nat.le_of_ble_eq_true rfl, Nat.le_of_ble_eq_true rfl⟩) hP rfl hl.1 rfl (Nat.le_of_ble_eq_true rfl) dX5_isAsked_3 ⟨Nat.le_of_ble_eq_true rfl, Nat.le_of_ble_eq_true rfl⟩ ?_
  refine xIfEqB C (tgt := 22) dX5_isAsked_6 (by decide) (fun h_6 => ?_) (fun h_6 => ?_)
  · skip
    refine lv_iconst (v := nI 0) hx hb dX5_isAsked_22 (by decide) ?_
    exact xRoZ hx hb hret (v := nI 0) (xNar0) (by first | (rw [h_6, h_15]; rfl) | (rw [h_6]; rfl)) dX5_isAsked_23 hlocks
  · skip
    refine lv_iload_n hx hb dX5_isAsked_9 rfl (lv_at hl 1 rfl) ?_
    refine lv_iconst (v := nI 0) hx hb dX5_isAsked_10 (by decide) ?_
    refine lv_iconst (v := nI 5) hx hb dX5_isAsked_11 (by decide) ?_
    refine xSro C hN (As := [.int y, .int (nI 0), .int (nI 5)]) (rest := []) (c_X5_in xl D kA y (nI 0) (nI 5)) (va_cwS 3 hts gX5_isAsked_X5_in rfl rfl rfl (by decide +kernel) ⟨Nat.le_of_ble_eq_true rfl, Nat.le_of_ble_eq_true rfl⟩) hP rfl hl.1 rfl (Nat.le_of_ble_eq_true rfl) dX5_isAsked_12 ⟨Nat.le_of_ble_eq_true rfl, Nat.le_of_ble_eq_true rfl⟩ ?_
    refine xIfEqB C (tgt := 22) dX5_isAsked_15 (by decide) (fun h_15 => ?_) (fun h_15 => ?_)
    · skip
      refine lv_iconst (v := nI 0) hx hb dX5_isAsked_22 (by decide) ?_
      exact xRoZ hx hb hret (v := nI 0) (xNar0) (by first | (rw [h_6, h_15]; rfl) | (rw [h_6]; rfl)) dX5_isAsked_23 hlocks
    · skip
      refine lv_iconst (v := nI 1) hx hb dX5_isAsked_18 (by decide) ?_
      refine lv_goto (tgt := 23) hx hb dX5_isAsked_19 (by decide) ?_
      exact xRoZ hx hb hret (v := nI 1) (xNar1) (by first | (rw [h_6, h_15]; rfl) | (rw [h_6]; rfl)) dX5_isAsked_23 hlocks

set_option maxHeartbeats 8000000 in
set_option maxRecDepth 100000 in
theorem c_X5_at (xl : Launch) (D : va_G) (kA : Nat → ClassId) (r w : Nat) : Met xl yX5_at wsX5_at { frames := 0, cells := 0, slots := 0, locals := 0 } (va_Pc [.int (nI r), .int (nI w)] (xPr D kA [])) (vp_Si (fun rr => rr = nI (9 + 5 * r + w))) 0 0 (fun _ => False) := by
  refine Met.ofW (cc := cX5_at) (maxL := 2) (ret := (some .int)) (by decide) rfl ?_
  intro xp xe xs xm args xbe xme xc s₁ B hml hv
  obtain ⟨rfl, hP, hN⟩ := hv
  have hret := B.returns
  have C : CallFix xp xm xc cX5_at 2 xs ([.int (nI r), .int (nI w)] : List Value).toArray wsX5_at RX5 := ⟨B.exec, B.bytes, hml, findClass_of_methodNamed B.named, atoms_spec (ws := wsX5_at) B.pre⟩
  have hlocks := B.notSynchronized
  obtain ⟨hx, hb, _, hown, hts⟩ := id C
  have hl := lv_entry ([.int (nI r), .int (nI w)]) (n := 2) (Nat.le_of_ble_eq_true rfl)
  rw [lg_entry_eq]
  generalize (lg_sl ([.int (nI r), .int (nI w)]) ++ List.replicate (2 - (lg_sl ([.int (nI r), .int (nI w)])).length) Slot.unset).toArray = ls at hl ⊢
  have hl : lv_has ls 2 [(0, .int (nI r)), (1, .int (nI w))] := hl
  refine lv_bipush (v := nI 9) hx hb dX5_at_0 (by decide) ?_
  refine lv_iconst (v := nI 5) hx hb dX5_at_2 (by decide) ?_
  refine lv_iload_n hx hb dX5_at_3 rfl (lv_at hl 0 rfl) ?_
  refine xImul C dX5_at_4 ?_
  refine xIadd C dX5_at_5 ?_
  refine lv_iload_n hx hb dX5_at_6 rfl (lv_at hl 1 rfl) ?_
  refine xIadd C dX5_at_7 ?_
  exact xRoI hx hb hret (v := nI ((9 + (5 * r)) + w)) (rfl) dX5_at_8 hlocks

set_option maxHeartbeats 8000000 in
set_option maxRecDepth 100000 in
theorem c_X5_ofGuild (xl : Launch) (D : va_G) (kA : Nat → ClassId) (r w : Nat) : Met xl yX5_ofGuild wsX5_ofGuild { frames := 0, cells := 0, slots := 0, locals := 0 } (va_Pc [.int (nI r), .int (nI w)] (xPr D kA [])) (vp_Si (fun rr => rr = nI (129 + 4 * r + w))) 0 0 (fun _ => False) := by
  refine Met.ofW (cc := cX5_ofGuild) (maxL := 2) (ret := (some .int)) (by decide) rfl ?_
  intro xp xe xs xm args xbe xme xc s₁ B hml hv
  obtain ⟨rfl, hP, hN⟩ := hv
  have hret := B.returns
  have C : CallFix xp xm xc cX5_ofGuild 2 xs ([.int (nI r), .int (nI w)] : List Value).toArray wsX5_ofGuild RX5 := ⟨B.exec, B.bytes, hml, findClass_of_methodNamed B.named, atoms_spec (ws := wsX5_ofGuild) B.pre⟩
  have hlocks := B.notSynchronized
  obtain ⟨hx, hb, _, hown, hts⟩ := id C
  have hl := lv_entry ([.int (nI r), .int (nI w)]) (n := 2) (Nat.le_of_ble_eq_true rfl)
  rw [lg_entry_eq]
  generalize (lg_sl ([.int (nI r), .int (nI w)]) ++ List.replicate (2 - (lg_sl ([.int (nI r), .int (nI w)])).length) Slot.unset).toArray = ls at hl ⊢
  have hl : lv_has ls 2 [(0, .int (nI r)), (1, .int (nI w))] := hl
  refine lv_sipush (v := nI 129) hx hb dX5_ofGuild_0 (by decide) ?_
  refine lv_iconst (v := nI 4) hx hb dX5_ofGuild_3 (by decide) ?_
  refine lv_iload_n hx hb dX5_ofGuild_4 rfl (lv_at hl 0 rfl) ?_
  refine xImul C dX5_ofGuild_5 ?_
  refine xIadd C dX5_ofGuild_6 ?_
  refine lv_iload_n hx hb dX5_ofGuild_7 rfl (lv_at hl 1 rfl) ?_
  refine xIadd C dX5_ofGuild_8 ?_
  exact xRoI hx hb hret (v := nI ((129 + (4 * r)) + w)) (rfl) dX5_ofGuild_9 hlocks

set_option maxHeartbeats 8000000 in
set_option maxRecDepth 100000 in
theorem c_X5_of (xl : Launch) (D : va_G) (kA : Nat → ClassId) (a : Nat → Nat) (V : Nat → Nat) (hs sl sv pd sg : Nat → Int32) (kt ln td : Nat) (r w : Nat) (hr : r < 24) (hw : w < 5) : Met xl yX5_of wsX5_of { frames := 1, cells := 0, slots := 0, locals := 21 } (va_Pc [.ref (a 0), .int (nI r), .int (nI w)] (xPr D kA [((a 0), .inr (5, [.ref (a 1), .ref (a 2), .int (nI kt), .ref (a 3), .ref (a 4), .ref (a 5), .int (nI ln), .ref (a 6), .int (nI td)])), ((a 1), .inl (kA 0, 169, .inl (vI V))), ((a 2), .inl (kA 0, 1014, .inl (hs))), ((a 3), .inl (kA 0, 338, .inl (sl))), ((a 4), .inl (kA 2, 2, .inl (sv))), ((a 5), .inl (kA 0, 60, .inl (pd))), ((a 6), .inl (kA 0, 5, .inl (sg)))])) (vp_Si (fun rr => rr = nI (TV V r w))) 0 0 (fun _ => False) := by
  refine Met.ofW (cc := cX5_of) (maxL := 3) (ret := (some .int)) (by decide) rfl ?_
  intro xp xe xs xm args xbe xme xc s₁ B hml hv
  obtain ⟨rfl, hP, hN⟩ := hv
  have hret := B.returns
  have C : CallFix xp xm xc cX5_of 3 xs ([.ref (a 0), .int (nI r), .int (nI w)] : List Value).toArray wsX5_of RX5 := ⟨B.exec, B.bytes, hml, findClass_of_methodNamed B.named, atoms_spec (ws := wsX5_of) B.pre⟩
  have hlocks := B.notSynchronized
  obtain ⟨hx, hb, _, hown, hts⟩ := id C
  have hl := lv_entry ([.ref (a 0), .int (nI r), .int (nI w)]) (n := 3) (Nat.le_of_ble_eq_true rfl)
  rw [lg_entry_eq]
  generalize (lg_sl ([.ref (a 0), .int (nI r), .int (nI w)]) ++ List.replicate (3 - (lg_sl ([.ref (a 0), .int (nI r), .int (nI w)])).length) Slot.unset).toArray = ls at hl ⊢
  have hl : lv_has ls 3 [(0, .ref (a 0)), (1, .int (nI r)), (2, .int (nI w))] := hl
  refine lv_aload_n hx hb dX5_of_0 rfl (lv_at hl 0 rfl) ?_
  refine xGet C hN hP 0 (j := 0) rfl rfl iX5_of_X5 (by decide) kX5_of_7 rfl rfl dX5_of_1 ?_
  refine lv_iload_n hx hb dX5_of_4 rfl (lv_at hl 1 rfl) ?_
  refine lv_iload_n hx hb dX5_of_5 rfl (lv_at hl 2 rfl) ?_
  refine xSro C hN (As := [.int (nI r), .int (nI w)]) (rest := [.ref (a 1)]) (c_X5_at xl D kA r w) (va_cwS 2 hts gX5_of_X5_at rfl rfl rfl (by decide +kernel) ⟨Nat.le_of_ble_eq_true rfl, Nat.le_of_ble_eq_true rfl⟩) (hP.sub (ws' := []) [] rfl) rfl hl.1 rfl (Nat.le_of_ble_eq_true rfl) dX5_of_6 ⟨Nat.le_of_ble_eq_true rfl, Nat.le_of_ble_eq_true rfl⟩ ?_
  refine xIald C hN hP 1 (j := 9 + 5 * r + w) (v := nI (V (9 + 5 * r + w))) rfl (by omega) (by decide) (rfl) dX5_of_9 ?_
  exact xRoI hx hb hret (v := nI (V (9 + 5 * r + w))) (rfl) dX5_of_10 hlocks

set_option maxHeartbeats 8000000 in
set_option maxRecDepth 100000 in
theorem c_X5_fits (xl : Launch) (D : va_G) (kA : Nat → ClassId) (a : Nat → Nat) (V : Nat → Nat) (hs sl sv pd sg : Nat → Int32) (kt ln td : Nat) (hV : V 0 ≤ 24) (hW : WfT (V 0) (TV V)) (r c d : Nat) (hr : r < V 0) (hc : c < 5) (hd : d < 6) : Met xl yX5_fits wsX5_fits { frames := 2, cells := 0, slots := 0, locals := 43 } (va_Pc [.ref (a 0), .int (nI r), .int (nI c), .int (nI d)] (xPr D kA [((a 0), .inr (5, [.ref (a 1), .ref (a 2), .int (nI kt), .ref (a 3), .ref (a 4), .ref (a 5), .int (nI ln), .ref (a 6), .int (nI td)])), ((a 1), .inl (kA 0, 169, .inl (vI V))), ((a 2), .inl (kA 0, 1014, .inl (hs))), ((a 3), .inl (kA 0, 338, .inl (sl))), ((a 4), .inl (kA 2, 2, .inl (sv))), ((a 5), .inl (kA 0, 60, .inl (pd))), ((a 6), .inl (kA 0, 5, .inl (sg)))])) (vp_Si (fun rr => rr = bI (fitT (TV V) r c d))) 0 0 (fun _ => False) := by
  refine Met.ofW (cc := cX5_fits) (maxL := 4) (ret := (some .boolean)) (by decide) rfl ?_
  intro xp xe xs xm args xbe xme xc s₁ B hml hv
  obtain ⟨rfl, hP, hN⟩ := hv
  have hret := B.returns
  have C : CallFix xp xm xc cX5_fits 4 xs ([.ref (a 0), .int (nI r), .int (nI c), .int (nI d)] : List Value).toArray wsX5_fits RX5 := ⟨B.exec, B.bytes, hml, findClass_of_methodNamed B.named, atoms_spec (ws := wsX5_fits) B.pre⟩
  have hlocks := B.notSynchronized
  obtain ⟨hx, hb, _, hown, hts⟩ := id C
  have hl := lv_entry ([.ref (a 0), .int (nI r), .int (nI c), .int (nI d)]) (n := 4) (Nat.le_of_ble_eq_true rfl)
  rw [lg_entry_eq]
  generalize (lg_sl ([.ref (a 0), .int (nI r), .int (nI c), .int (nI d)]) ++ List.replicate (4 - (lg_sl ([.ref (a 0), .int (nI r), .int (nI c), .int (nI d)])).length) Slot.unset).toArray = ls at hl ⊢
  have hl : lv_has ls 4 [(0, .ref (a 0)), (1, .int (nI r)), (2, .int (nI c)), (3, .int (nI d))] := hl
  refine lv_aload_n hx hb dX5_fits_0 rfl (lv_at hl 0 rfl) ?_
  refine lv_iload_n hx hb dX5_fits_1 rfl (lv_at hl 1 rfl) ?_
  refine lv_iconst (v := nI 2) hx hb dX5_fits_2 (by decide) ?_
  refine xVro C hN (As := [.int (nI r), .int (nI 2)]) (rest := []) (q0 := 0) (c_X5_of xl D kA a V hs sl sv pd sg kt ln td r 2 (by omega) (by omega)) (cwV 2 hts gX5_fits_X5_of rfl rfl rfl (by decide +kernel) ⟨Nat.le_of_ble_eq_true rfl, Nat.le_of_ble_eq_true rfl⟩) hP rfl rfl rfl rfl hl.1 rfl (Nat.le_of_ble_eq_true rfl) dX5_fits_3 ⟨Nat.le_of_ble_eq_true rfl, Nat.le_of_ble_eq_true rfl⟩ ?_
  refine lv_iload_n hx hb dX5_fits_6 rfl (lv_at hl 2 rfl) ?_
  refine xIcmpEq C (tgt := 20) (by have := hW r (by omega); omega) (by omega) dX5_fits_7 (by decide) (fun h_7 => ?_) (fun h_7 => ?_)
  · skip
    refine lv_aload_n hx hb dX5_fits_20 rfl (lv_at hl 0 rfl) ?_
    refine lv_iload_n hx hb dX5_fits_21 rfl (lv_at hl 1 rfl) ?_
    refine lv_iconst (v := nI 3) hx hb dX5_fits_22 (by decide) ?_
    refine xVro C hN (As := [.int (nI r), .int (nI 3)]) (rest := []) (q0 := 0) (c_X5_of xl D kA a V hs sl sv pd sg kt ln td r 3 (by omega) (by omega)) (cwV 2 hts gX5_fits_X5_of rfl rfl rfl (by decide +kernel) ⟨Nat.le_of_ble_eq_true rfl, Nat.le_of_ble_eq_true rfl⟩) hP rfl rfl rfl rfl hl.1 rfl (Nat.le_of_ble_eq_true rfl) dX5_fits_23 ⟨Nat.le_of_ble_eq_true rfl, Nat.le_of_ble_eq_true rfl⟩ ?_
    refine lv_iload_n hx hb dX5_fits_26 rfl (lv_at hl 3 rfl) ?_
    refine xIcmpEq C (tgt := 41) (by have := hW r (by omega); omega) (by omega) dX5_fits_27 (by decide) (fun h_27 => ?_) (fun h_27 => ?_)
    · skip
      refine lv_iconst (v := nI 1) hx hb dX5_fits_41 (by decide) ?_
      refine lv_goto (tgt := 46) hx hb dX5_fits_42 (by decide) ?_
      exact xRoZ hx hb hret (v := nI 1) (xNar1) (by first | exact ft_t (by omega) | exact ft_f (by omega)) dX5_fits_46 hlocks
    · skip
      refine lv_aload_n hx hb dX5_fits_30 rfl (lv_at hl 0 rfl) ?_
      refine lv_iload_n hx hb dX5_fits_31 rfl (lv_at hl 1 rfl) ?_
      refine lv_iconst (v := nI 3) hx hb dX5_fits_32 (by decide) ?_
      refine xVro C hN (As := [.int (nI r), .int (nI 3)]) (rest := []) (q0 := 0) (c_X5_of xl D kA a V hs sl sv pd sg kt ln td r 3 (by omega) (by omega)) (cwV 2 hts gX5_fits_X5_of rfl rfl rfl (by decide +kernel) ⟨Nat.le_of_ble_eq_true rfl, Nat.le_of_ble_eq_true rfl⟩) hP rfl rfl rfl rfl hl.1 rfl (Nat.le_of_ble_eq_true rfl) dX5_fits_33 ⟨Nat.le_of_ble_eq_true rfl, Nat.le_of_ble_eq_true rfl⟩ ?_
      refine lv_bipush (v := nI 6) hx hb dX5_fits_36 (by decide) ?_
      refine xIcmpNe C (tgt := 45) (by have := hW r (by omega); omega) (by decide) dX5_fits_38 (by decide) (fun h_38 => ?_) (fun h_38 => ?_)
      · skip
        refine lv_iconst (v := nI 0) hx hb dX5_fits_45 (by decide) ?_
        exact xRoZ hx hb hret (v := nI 0) (xNar0) (by first | exact ft_t (by omega) | exact ft_f (by omega)) dX5_fits_46 hlocks
      · skip
        refine lv_iconst (v := nI 1) hx hb dX5_fits_41 (by decide) ?_
        refine lv_goto (tgt := 46) hx hb dX5_fits_42 (by decide) ?_
        exact xRoZ hx hb hret (v := nI 1) (xNar1) (by first | exact ft_t (by omega) | exact ft_f (by omega)) dX5_fits_46 hlocks
  · skip
    refine lv_aload_n hx hb dX5_fits_10 rfl (lv_at hl 0 rfl) ?_
    refine lv_iload_n hx hb dX5_fits_11 rfl (lv_at hl 1 rfl) ?_
    refine lv_iconst (v := nI 2) hx hb dX5_fits_12 (by decide) ?_
    refine xVro C hN (As := [.int (nI r), .int (nI 2)]) (rest := []) (q0 := 0) (c_X5_of xl D kA a V hs sl sv pd sg kt ln td r 2 (by omega) (by omega)) (cwV 2 hts gX5_fits_X5_of rfl rfl rfl (by decide +kernel) ⟨Nat.le_of_ble_eq_true rfl, Nat.le_of_ble_eq_true rfl⟩) hP rfl rfl rfl rfl hl.1 rfl (Nat.le_of_ble_eq_true rfl) dX5_fits_13 ⟨Nat.le_of_ble_eq_true rfl, Nat.le_of_ble_eq_true rfl⟩ ?_
    refine lv_iconst (v := nI 5) hx hb dX5_fits_16 (by decide) ?_
    refine xIcmpNe C (tgt := 45) (by have := hW r (by omega); omega) (by decide) dX5_fits_17 (by decide) (fun h_17 => ?_) (fun h_17 => ?_)
    · skip
      refine lv_iconst (v := nI 0) hx hb dX5_fits_45 (by decide) ?_
      exact xRoZ hx hb hret (v := nI 0) (xNar0) (by first | exact ft_t (by omega) | exact ft_f (by omega)) dX5_fits_46 hlocks
    · skip
      refine lv_aload_n hx hb dX5_fits_20 rfl (lv_at hl 0 rfl) ?_
      refine lv_iload_n hx hb dX5_fits_21 rfl (lv_at hl 1 rfl) ?_
      refine lv_iconst (v := nI 3) hx hb dX5_fits_22 (by decide) ?_
      refine xVro C hN (As := [.int (nI r), .int (nI 3)]) (rest := []) (q0 := 0) (c_X5_of xl D kA a V hs sl sv pd sg kt ln td r 3 (by omega) (by omega)) (cwV 2 hts gX5_fits_X5_of rfl rfl rfl (by decide +kernel) ⟨Nat.le_of_ble_eq_true rfl, Nat.le_of_ble_eq_true rfl⟩) hP rfl rfl rfl rfl hl.1 rfl (Nat.le_of_ble_eq_true rfl) dX5_fits_23 ⟨Nat.le_of_ble_eq_true rfl, Nat.le_of_ble_eq_true rfl⟩ ?_
      refine lv_iload_n hx hb dX5_fits_26 rfl (lv_at hl 3 rfl) ?_
      refine xIcmpEq C (tgt := 41) (by have := hW r (by omega); omega) (by omega) dX5_fits_27 (by decide) (fun h_27 => ?_) (fun h_27 => ?_)
      · skip
        refine lv_iconst (v := nI 1) hx hb dX5_fits_41 (by decide) ?_
        refine lv_goto (tgt := 46) hx hb dX5_fits_42 (by decide) ?_
        exact xRoZ hx hb hret (v := nI 1) (xNar1) (by first | exact ft_t (by omega) | exact ft_f (by omega)) dX5_fits_46 hlocks
      · skip
        refine lv_aload_n hx hb dX5_fits_30 rfl (lv_at hl 0 rfl) ?_
        refine lv_iload_n hx hb dX5_fits_31 rfl (lv_at hl 1 rfl) ?_
        refine lv_iconst (v := nI 3) hx hb dX5_fits_32 (by decide) ?_
        refine xVro C hN (As := [.int (nI r), .int (nI 3)]) (rest := []) (q0 := 0) (c_X5_of xl D kA a V hs sl sv pd sg kt ln td r 3 (by omega) (by omega)) (cwV 2 hts gX5_fits_X5_of rfl rfl rfl (by decide +kernel) ⟨Nat.le_of_ble_eq_true rfl, Nat.le_of_ble_eq_true rfl⟩) hP rfl rfl rfl rfl hl.1 rfl (Nat.le_of_ble_eq_true rfl) dX5_fits_33 ⟨Nat.le_of_ble_eq_true rfl, Nat.le_of_ble_eq_true rfl⟩ ?_
        refine lv_bipush (v := nI 6) hx hb dX5_fits_36 (by decide) ?_
        refine xIcmpNe C (tgt := 45) (by have := hW r (by omega); omega) (by decide) dX5_fits_38 (by decide) (fun h_38 => ?_) (fun h_38 => ?_)
        · skip
          refine lv_iconst (v := nI 0) hx hb dX5_fits_45 (by decide) ?_
          exact xRoZ hx hb hret (v := nI 0) (xNar0) (by first | exact ft_t (by omega) | exact ft_f (by omega)) dX5_fits_46 hlocks
        · skip
          refine lv_iconst (v := nI 1) hx hb dX5_fits_41 (by decide) ?_
          refine lv_goto (tgt := 46) hx hb dX5_fits_42 (by decide) ?_
          exact xRoZ hx hb hret (v := nI 1) (xNar1) (by first | exact ft_t (by omega) | exact ft_f (by omega)) dX5_fits_46 hlocks

set_option maxHeartbeats 8000000 in
set_option maxRecDepth 100000 in
theorem c_X5_layStrong (xl : Launch) (D : va_G) (kA : Nat → ClassId) (a : Nat → Nat) (V : Nat → Nat) (hs sl sv pd sg : Nat → Int32) (kt ln td : Nat) (hV : V 0 ≤ 24) (hW : WfT (V 0) (TV V)) (c d : Nat) (hc : c < 5) (hd : d < 6) (bu ly : Int32) (se : Nat) (hse : se ≤ 9) (A : Nat → Prop) : Met xl yX5_layStrong wsX5_layStrong { frames := 3, cells := 0, slots := 0, locals := 66 } (va_Pc [.ref (a 0), .int (nI c), .int (nI d), .int bu, .int ly, .int (nI se)] (xPw D kA A [((a 0), .inr (5, [.ref (a 1), .ref (a 2), .int (nI kt), .ref (a 3), .ref (a 4), .ref (a 5), .int (nI ln), .ref (a 6), .int (nI td)])), ((a 1), .inl (kA 0, 169, .inl (vI V))), ((a 2), .inl (kA 0, 1014, .inl (hs))), ((a 3), .inl (kA 0, 338, .inl (sl))), ((a 4), .inl (kA 2, 2, .inl (sv))), ((a 5), .inl (kA 0, 60, .inl (pd))), ((a 6), .inl (kA 0, 5, .inl (sg)))])) (xQv D A (fun u => ∃ g : Nat → Int32, u = modW kA a V hs sl sv pd g kt ln td ∧ ∀ q, q < 5 → g q = nI (stM (V 0) (TV V) c d bu ly se q))) 0 0 A := by
  refine Met.ofW (cc := cX5_layStrong) (maxL := 8) (ret := none) (by decide) rfl ?_
  intro xp xe xs xm args xbe xme xc s₁ B hml hv
  obtain ⟨rfl, hP, hN, hD, hA⟩ := hv
  have hret := B.returns
  have C : CallFix xp xm xc cX5_layStrong 8 xs ([.ref (a 0), .int (nI c), .int (nI d), .int bu, .int ly, .int (nI se)] : List Value).toArray wsX5_layStrong RX5 := ⟨B.exec, B.bytes, hml, findClass_of_methodNamed B.named, atoms_spec (ws := wsX5_layStrong) B.pre⟩
  have hlocks := B.notSynchronized
  obtain ⟨hx, hb, _, hown, hts⟩ := id C
  have hS : va_S A xs.heap xs.heap [] := va_S.rf
  have hl := lv_entry ([.ref (a 0), .int (nI c), .int (nI d), .int bu, .int ly, .int (nI se)]) (n := 8) (Nat.le_of_ble_eq_true rfl)
  rw [lg_entry_eq]
  generalize (lg_sl ([.ref (a 0), .int (nI c), .int (nI d), .int bu, .int ly, .int (nI se)]) ++ List.replicate (8 - (lg_sl ([.ref (a 0), .int (nI c), .int (nI d), .int bu, .int ly, .int (nI se)])).length) Slot.unset).toArray = ls at hl ⊢
  have hl : lv_has ls 8 [(0, .ref (a 0)), (1, .int (nI c)), (2, .int (nI d)), (3, .int bu), (4, .int ly), (5, .int (nI se))] := hl
  refine lv_iconst (v := nI 0) hx hb dX5_layStrong_0 (by decide) ?_
  refine lv_istore (lv' := [(6, .int (nI 0)), (0, .ref (a 0)), (1, .int (nI c)), (2, .int (nI d)), (3, .int bu), (4, .int ly), (5, .int (nI se))]) hx hb dX5_layStrong_1 hl (by decide) rfl (fun ls hl => ?_)
  have L3 : ∀ (fuel : Nat), ∀ (l : Nat) (g1 : Nat → Int32) (hmu : 5 - l < fuel) (hl5 : l ≤ 5) (hg1 : ∀ q, q < l → g1 q = nI (iniF ly se q)) (H : Heap) (locs : List Loc) (_ : va_P D vwCl [((a 0), .inr (5, [.ref (a 1), .ref (a 2), .int (nI kt), .ref (a 3), .ref (a 4), .ref (a 5), .int (nI ln), .ref (a 6), .int (nI td)])), ((a 1), .inl (kA 0, 169, .inl (vI V))), ((a 2), .inl (kA 0, 1014, .inl (hs))), ((a 3), .inl (kA 0, 338, .inl (sl))), ((a 4), .inl (kA 2, 2, .inl (sv))), ((a 5), .inl (kA 0, 60, .inl (pd))), ((a 6), .inl (kA 0, 5, .inl (g1)))] H) (_ : va_D A [((a 0), .inr (5, [.ref (a 1), .ref (a 2), .int (nI kt), .ref (a 3), .ref (a 4), .ref (a 5), .int (nI ln), .ref (a 6), .int (nI td)])), ((a 1), .inl (kA 0, 169, .inl (vI V))), ((a 2), .inl (kA 0, 1014, .inl (hs))), ((a 3), .inl (kA 0, 338, .inl (sl))), ((a 4), .inl (kA 2, 2, .inl (sv))), ((a 5), .inl (kA 0, 60, .inl (pd))), ((a 6), .inl (kA 0, 5, .inl (g1)))]) (_ : va_S A xs.heap H locs) (ls : Array Slot) (_ : lv_has ls 8 [(6, .int (nI l)), (0, .ref (a 0)), (1, .int (nI c)), (2, .int (nI d)), (3, .int bu), (4, .int ly), (5, .int (nI se))]), W xp xl xe (headSpec wsX5_layStrong { frames := 3, cells := 0, slots := 0, locals := 66 }).room xs xm ([.ref (a 0), .int (nI c), .int (nI d), .int bu, .int ly, .int (nI se)] : List Value).toArray xbe xme xc H locs 0 0 (MQ xbe (xQv D A (fun u => ∃ g : Nat → Int32, u = modW kA a V hs sl sv pd g kt ln td ∧ ∀ q, q < 5 → g q = nI (stM (V 0) (TV V) c d bu ly se q))) ([.ref (a 0), .int (nI c), .int (nI d), .int bu, .int ly, .int (nI se)] : List Value).toArray xs 0 0 A) (F0 xm 3 ls []) := by
    intro fuel
    induction fuel with
    | zero => intro l g1 hmu; exact absurd hmu (Nat.not_lt_zero _)
    | succ fuel ih3 =>
      intro l g1 hmu hl5 hg1 H locs hP hD hS ls hl
      refine lv_iload hx hb dX5_layStrong_3 (lv_at hl 0 rfl) ?_
      refine lv_iconst (v := nI 5) hx hb dX5_layStrong_5 (by decide) ?_
      refine xIcmpGe C (tgt := 35) (by omega) (by decide) dX5_layStrong_6 (by decide) (fun h_6 => ?_) (fun h_6 => ?_)
      · skip
        refine lv_iconst (v := nI 0) hx hb dX5_layStrong_35 (by decide) ?_
        refine lv_istore (lv' := [(6, .int (nI 0)), (0, .ref (a 0)), (1, .int (nI c)), (2, .int (nI d)), (3, .int bu), (4, .int ly), (5, .int (nI se))]) hx hb dX5_layStrong_36 hl (by decide) rfl (fun ls hl => ?_)
        have L38 : ∀ (fuel : Nat), ∀ (r : Nat) (g2 : Nat → Int32) (hmu : V 0 - r < fuel) (hr : r ≤ V 0) (hg2 : ∀ q, q < 5 → g2 q = nI (lf2 (TV V) c d bu ly se r q)) (H : Heap) (locs : List Loc) (_ : va_P D vwCl [((a 0), .inr (5, [.ref (a 1), .ref (a 2), .int (nI kt), .ref (a 3), .ref (a 4), .ref (a 5), .int (nI ln), .ref (a 6), .int (nI td)])), ((a 1), .inl (kA 0, 169, .inl (vI V))), ((a 2), .inl (kA 0, 1014, .inl (hs))), ((a 3), .inl (kA 0, 338, .inl (sl))), ((a 4), .inl (kA 2, 2, .inl (sv))), ((a 5), .inl (kA 0, 60, .inl (pd))), ((a 6), .inl (kA 0, 5, .inl (g2)))] H) (_ : va_D A [((a 0), .inr (5, [.ref (a 1), .ref (a 2), .int (nI kt), .ref (a 3), .ref (a 4), .ref (a 5), .int (nI ln), .ref (a 6), .int (nI td)])), ((a 1), .inl (kA 0, 169, .inl (vI V))), ((a 2), .inl (kA 0, 1014, .inl (hs))), ((a 3), .inl (kA 0, 338, .inl (sl))), ((a 4), .inl (kA 2, 2, .inl (sv))), ((a 5), .inl (kA 0, 60, .inl (pd))), ((a 6), .inl (kA 0, 5, .inl (g2)))]) (_ : va_S A xs.heap H locs) (ls : Array Slot) (_ : lv_has ls 8 [(6, .int (nI r)), (0, .ref (a 0)), (1, .int (nI c)), (2, .int (nI d)), (3, .int bu), (4, .int ly), (5, .int (nI se))]), W xp xl xe (headSpec wsX5_layStrong { frames := 3, cells := 0, slots := 0, locals := 66 }).room xs xm ([.ref (a 0), .int (nI c), .int (nI d), .int bu, .int ly, .int (nI se)] : List Value).toArray xbe xme xc H locs 0 0 (MQ xbe (xQv D A (fun u => ∃ g : Nat → Int32, u = modW kA a V hs sl sv pd g kt ln td ∧ ∀ q, q < 5 → g q = nI (stM (V 0) (TV V) c d bu ly se q))) ([.ref (a 0), .int (nI c), .int (nI d), .int bu, .int ly, .int (nI se)] : List Value).toArray xs 0 0 A) (F0 xm 38 ls []) := by
          intro fuel
          induction fuel with
          | zero => intro r g2 hmu; exact absurd hmu (Nat.not_lt_zero _)
          | succ fuel ih38 =>
            intro r g2 hmu hr hg2 H locs hP hD hS ls hl
            refine lv_iload hx hb dX5_layStrong_38 (lv_at hl 0 rfl) ?_
            refine lv_aload_n hx hb dX5_layStrong_40 rfl (lv_at hl 1 rfl) ?_
            refine xGet C hN hP 0 (j := 0) rfl rfl iX5_layStrong_X5 (by decide) kX5_layStrong_7 rfl rfl dX5_layStrong_41 ?_
            refine lv_iconst (v := nI 0) hx hb dX5_layStrong_44 (by decide) ?_
            refine xIald C hN hP 1 (j := 0) (v := nI (V 0)) rfl (by omega) (by decide) (rfl) dX5_layStrong_45 ?_
            refine xIcmpGe C (tgt := 133) (by omega) (by omega) dX5_layStrong_46 (by decide) (fun h_46 => ?_) (fun h_46 => ?_)
            · skip
              refine lv_iconst (v := nI 1) hx hb dX5_layStrong_133 (by decide) ?_
              refine lv_istore (lv' := [(6, .int (nI 1)), (0, .ref (a 0)), (1, .int (nI c)), (2, .int (nI d)), (3, .int bu), (4, .int ly), (5, .int (nI se))]) hx hb dX5_layStrong_134 hl (by decide) rfl (fun ls hl => ?_)
              have L136 : ∀ (fuel : Nat), ∀ (l : Nat) (g3 : Nat → Int32) (hmu : 5 - l < fuel) (hl1 : 1 ≤ l) (hl5 : l ≤ 5) (hg3 : ∀ q, q < 5 → g3 q = nI (if q < l then pmx (lf2 (TV V) c d bu ly se (V 0)) q else lf2 (TV V) c d bu ly se (V 0) q)) (H : Heap) (locs : List Loc) (_ : va_P D vwCl [((a 0), .inr (5, [.ref (a 1), .ref (a 2), .int (nI kt), .ref (a 3), .ref (a 4), .ref (a 5), .int (nI ln), .ref (a 6), .int (nI td)])), ((a 1), .inl (kA 0, 169, .inl (vI V))), ((a 2), .inl (kA 0, 1014, .inl (hs))), ((a 3), .inl (kA 0, 338, .inl (sl))), ((a 4), .inl (kA 2, 2, .inl (sv))), ((a 5), .inl (kA 0, 60, .inl (pd))), ((a 6), .inl (kA 0, 5, .inl (g3)))] H) (_ : va_D A [((a 0), .inr (5, [.ref (a 1), .ref (a 2), .int (nI kt), .ref (a 3), .ref (a 4), .ref (a 5), .int (nI ln), .ref (a 6), .int (nI td)])), ((a 1), .inl (kA 0, 169, .inl (vI V))), ((a 2), .inl (kA 0, 1014, .inl (hs))), ((a 3), .inl (kA 0, 338, .inl (sl))), ((a 4), .inl (kA 2, 2, .inl (sv))), ((a 5), .inl (kA 0, 60, .inl (pd))), ((a 6), .inl (kA 0, 5, .inl (g3)))]) (_ : va_S A xs.heap H locs) (ls : Array Slot) (_ : lv_has ls 8 [(6, .int (nI l)), (0, .ref (a 0)), (1, .int (nI c)), (2, .int (nI d)), (3, .int bu), (4, .int ly), (5, .int (nI se))]), W xp xl xe (headSpec wsX5_layStrong { frames := 3, cells := 0, slots := 0, locals := 66 }).room xs xm ([.ref (a 0), .int (nI c), .int (nI d), .int bu, .int ly, .int (nI se)] : List Value).toArray xbe xme xc H locs 0 0 (MQ xbe (xQv D A (fun u => ∃ g : Nat → Int32, u = modW kA a V hs sl sv pd g kt ln td ∧ ∀ q, q < 5 → g q = nI (stM (V 0) (TV V) c d bu ly se q))) ([.ref (a 0), .int (nI c), .int (nI d), .int bu, .int ly, .int (nI se)] : List Value).toArray xs 0 0 A) (F0 xm 136 ls []) := by
                intro fuel
                induction fuel with
                | zero => intro l g3 hmu; exact absurd hmu (Nat.not_lt_zero _)
                | succ fuel ih136 =>
                  intro l g3 hmu hl1 hl5 hg3 H locs hP hD hS ls hl
                  refine lv_iload hx hb dX5_layStrong_136 (lv_at hl 0 rfl) ?_
                  refine lv_iconst (v := nI 5) hx hb dX5_layStrong_138 (by decide) ?_
                  refine xIcmpGe C (tgt := 193) (by omega) (by decide) dX5_layStrong_139 (by decide) (fun h_139 => ?_) (fun h_139 => ?_)
                  · skip
                    exact xRetV hx hb hret (⟨g3, rfl, fun q h => by rw [hg3 q h, if_pos (by omega)]; rfl⟩) hP hD hS dX5_layStrong_193 hlocks
                  · skip
                    refine lv_aload_n hx hb dX5_layStrong_142 rfl (lv_at hl 1 rfl) ?_
                    refine xGet C hN hP 0 (j := 7) rfl rfl iX5_layStrong_X5 (by decide) kX5_layStrong_26 rfl rfl dX5_layStrong_143 ?_
                    refine lv_iload hx hb dX5_layStrong_146 (lv_at hl 0 rfl) ?_
                    refine lv_aload_n hx hb dX5_layStrong_148 rfl (lv_at hl 1 rfl) ?_
                    refine xGet C hN hP 0 (j := 7) rfl rfl iX5_layStrong_X5 (by decide) kX5_layStrong_26 rfl rfl dX5_layStrong_149 ?_
                    refine lv_iload hx hb dX5_layStrong_152 (lv_at hl 0 rfl) ?_
                    refine lv_iconst (v := nI 1) hx hb dX5_layStrong_154 (by decide) ?_
                    refine xIsub C (by omega) dX5_layStrong_155 ?_
                    refine xIald C hN hP 6 (j := l - 1) (v := nI (pmx (lf2 (TV V) c d bu ly se (V 0)) (l - 1))) rfl (by omega) (by decide) (by rw [hg3 _ (by omega), if_pos (by omega)]) dX5_layStrong_156 ?_
                    refine lv_aload_n hx hb dX5_layStrong_157 rfl (lv_at hl 1 rfl) ?_
                    refine xGet C hN hP 0 (j := 7) rfl rfl iX5_layStrong_X5 (by decide) kX5_layStrong_26 rfl rfl dX5_layStrong_158 ?_
                    refine lv_iload hx hb dX5_layStrong_161 (lv_at hl 0 rfl) ?_
                    refine xIald C hN hP 6 (j := l) (v := nI (lf2 (TV V) c d bu ly se (V 0) l)) rfl (by omega) (by decide) (by rw [hg3 _ (by omega), if_neg (by omega)]) dX5_layStrong_163 ?_
                    refine xIcmpLe C (tgt := 179) (by have := pmx_le (F := lf2 (TV V) c d bu ly se (V 0)) (k := 9) (fun q => lf2_le hW (Nat.le_refl _) hse) (l - 1); omega) (by have := lf2_le (q := l) (c := c) (d := d) (bu := bu) (ly := ly) (se := se) hW (Nat.le_refl (V 0)) hse; omega) dX5_layStrong_164 (by decide) (fun h_164 => ?_) (fun h_164 => ?_)
                    · skip
                      refine lv_aload_n hx hb dX5_layStrong_179 rfl (lv_at hl 1 rfl) ?_
                      refine xGet C hN hP 0 (j := 7) rfl rfl iX5_layStrong_X5 (by decide) kX5_layStrong_26 rfl rfl dX5_layStrong_180 ?_
                      refine lv_iload hx hb dX5_layStrong_183 (lv_at hl 0 rfl) ?_
                      refine xIald C hN hP 6 (j := l) (v := nI (lf2 (TV V) c d bu ly se (V 0) l)) rfl (by omega) (by decide) (by rw [hg3 _ (by omega), if_neg (by omega)]) dX5_layStrong_185 ?_
                      refine xIast C hN hP hD hS 6 (j := l) rfl (by omega) (by decide) dX5_layStrong_186 (fun H locs hP hD hS => ?_)
                      have hP : va_P D vwCl [((a 0), .inr (5, [.ref (a 1), .ref (a 2), .int (nI kt), .ref (a 3), .ref (a 4), .ref (a 5), .int (nI ln), .ref (a 6), .int (nI td)])), ((a 1), .inl (kA 0, 169, .inl (vI V))), ((a 2), .inl (kA 0, 1014, .inl (hs))), ((a 3), .inl (kA 0, 338, .inl (sl))), ((a 4), .inl (kA 2, 2, .inl (sv))), ((a 5), .inl (kA 0, 60, .inl (pd))), ((a 6), .inl (kA 0, 5, .inl (upd (g3) (l) (nI (lf2 (TV V) c d bu ly se (V 0) l)))))] H := hP
                      have hD : va_D A [((a 0), .inr (5, [.ref (a 1), .ref (a 2), .int (nI kt), .ref (a 3), .ref (a 4), .ref (a 5), .int (nI ln), .ref (a 6), .int (nI td)])), ((a 1), .inl (kA 0, 169, .inl (vI V))), ((a 2), .inl (kA 0, 1014, .inl (hs))), ((a 3), .inl (kA 0, 338, .inl (sl))), ((a 4), .inl (kA 2, 2, .inl (sv))), ((a 5), .inl (kA 0, 60, .inl (pd))), ((a 6), .inl (kA 0, 5, .inl (upd (g3) (l) (nI (lf2 (TV V) c d bu ly se (V 0) l)))))] := hD
                      refine xIinc C (kx := 0) (d := 1) (lv' := [(6, .int (nI (l + 1))), (0, .ref (a 0)), (1, .int (nI c)), (2, .int (nI d)), (3, .int bu), (4, .int ly), (5, .int (nI se))]) dX5_layStrong_187 hl rfl (by decide) (by decide) rfl (fun ls hl => ?_)
                      refine lv_goto (tgt := 136) hx hb dX5_layStrong_190 (by decide) ?_
                      have hP : va_P D vwCl [((a 0), .inr (5, [.ref (a 1), .ref (a 2), .int (nI kt), .ref (a 3), .ref (a 4), .ref (a 5), .int (nI ln), .ref (a 6), .int (nI td)])), ((a 1), .inl (kA 0, 169, .inl (vI V))), ((a 2), .inl (kA 0, 1014, .inl (hs))), ((a 3), .inl (kA 0, 338, .inl (sl))), ((a 4), .inl (kA 2, 2, .inl (sv))), ((a 5), .inl (kA 0, 60, .inl (pd))), ((a 6), .inl (kA 0, 5, .inl (upd (g3) (l) (nI (lf2 (TV V) c d bu ly se (V 0) l)))))] H := hP
                      exact ih136 (l + 1) (upd (g3) (l) (nI (lf2 (TV V) c d bu ly se (V 0) l))) (by omega) (by omega) (by omega) (pmx_put hl1 hg3 (by omega)) _ _ hP hD hS _ (lv_sub hl [0, 1, 2, 3, 4, 5, 6] rfl)
                    · skip
                      refine lv_aload_n hx hb dX5_layStrong_167 rfl (lv_at hl 1 rfl) ?_
                      refine xGet C hN hP 0 (j := 7) rfl rfl iX5_layStrong_X5 (by decide) kX5_layStrong_26 rfl rfl dX5_layStrong_168 ?_
                      refine lv_iload hx hb dX5_layStrong_171 (lv_at hl 0 rfl) ?_
                      refine lv_iconst (v := nI 1) hx hb dX5_layStrong_173 (by decide) ?_
                      refine xIsub C (by omega) dX5_layStrong_174 ?_
                      refine xIald C hN hP 6 (j := l - 1) (v := nI (pmx (lf2 (TV V) c d bu ly se (V 0)) (l - 1))) rfl (by omega) (by decide) (by rw [hg3 _ (by omega), if_pos (by omega)]) dX5_layStrong_175 ?_
                      refine lv_goto (tgt := 186) hx hb dX5_layStrong_176 (by decide) ?_
                      refine xIast C hN hP hD hS 6 (j := l) rfl (by omega) (by decide) dX5_layStrong_186 (fun H locs hP hD hS => ?_)
                      have hP : va_P D vwCl [((a 0), .inr (5, [.ref (a 1), .ref (a 2), .int (nI kt), .ref (a 3), .ref (a 4), .ref (a 5), .int (nI ln), .ref (a 6), .int (nI td)])), ((a 1), .inl (kA 0, 169, .inl (vI V))), ((a 2), .inl (kA 0, 1014, .inl (hs))), ((a 3), .inl (kA 0, 338, .inl (sl))), ((a 4), .inl (kA 2, 2, .inl (sv))), ((a 5), .inl (kA 0, 60, .inl (pd))), ((a 6), .inl (kA 0, 5, .inl (upd (g3) (l) (nI (pmx (lf2 (TV V) c d bu ly se (V 0)) (l - 1))))))] H := hP
                      have hD : va_D A [((a 0), .inr (5, [.ref (a 1), .ref (a 2), .int (nI kt), .ref (a 3), .ref (a 4), .ref (a 5), .int (nI ln), .ref (a 6), .int (nI td)])), ((a 1), .inl (kA 0, 169, .inl (vI V))), ((a 2), .inl (kA 0, 1014, .inl (hs))), ((a 3), .inl (kA 0, 338, .inl (sl))), ((a 4), .inl (kA 2, 2, .inl (sv))), ((a 5), .inl (kA 0, 60, .inl (pd))), ((a 6), .inl (kA 0, 5, .inl (upd (g3) (l) (nI (pmx (lf2 (TV V) c d bu ly se (V 0)) (l - 1))))))] := hD
                      refine xIinc C (kx := 0) (d := 1) (lv' := [(6, .int (nI (l + 1))), (0, .ref (a 0)), (1, .int (nI c)), (2, .int (nI d)), (3, .int bu), (4, .int ly), (5, .int (nI se))]) dX5_layStrong_187 hl rfl (by decide) (by decide) rfl (fun ls hl => ?_)
                      refine lv_goto (tgt := 136) hx hb dX5_layStrong_190 (by decide) ?_
                      have hP : va_P D vwCl [((a 0), .inr (5, [.ref (a 1), .ref (a 2), .int (nI kt), .ref (a 3), .ref (a 4), .ref (a 5), .int (nI ln), .ref (a 6), .int (nI td)])), ((a 1), .inl (kA 0, 169, .inl (vI V))), ((a 2), .inl (kA 0, 1014, .inl (hs))), ((a 3), .inl (kA 0, 338, .inl (sl))), ((a 4), .inl (kA 2, 2, .inl (sv))), ((a 5), .inl (kA 0, 60, .inl (pd))), ((a 6), .inl (kA 0, 5, .inl (upd (g3) (l) (nI (pmx (lf2 (TV V) c d bu ly se (V 0)) (l - 1))))))] H := hP
                      exact ih136 (l + 1) (upd (g3) (l) (nI (pmx (lf2 (TV V) c d bu ly se (V 0)) (l - 1)))) (by omega) (by omega) (by omega) (pmx_put hl1 hg3 (by omega)) _ _ hP hD hS _ (lv_sub hl [0, 1, 2, 3, 4, 5, 6] rfl)
              exact L136 _ 1 g2 (Nat.lt_succ_self _) (by omega) (by omega) (fun q h => by rw [hg2 q h, show r = V 0 by omega]; split <;> first | rfl | (rw [show q = 0 by omega]; rfl)) _ _ hP hD hS _ (lv_sub hl [0, 1, 2, 3, 4, 5, 6] rfl)
            · skip
              refine lv_iload hx hb dX5_layStrong_49 (lv_at hl 0 rfl) ?_
              refine lv_iload_n hx hb dX5_layStrong_51 rfl (lv_at hl 4 rfl) ?_
              refine lv_icmp_eq (tgt := 127) hx hb dX5_layStrong_52 (by decide) (fun h_52 => ?_) (fun h_52 => ?_)
              · skip
                refine xIinc C (kx := 0) (d := 1) (lv' := [(6, .int (nI (r + 1))), (0, .ref (a 0)), (1, .int (nI c)), (2, .int (nI d)), (3, .int bu), (4, .int ly), (5, .int (nI se))]) dX5_layStrong_127 hl rfl (by decide) (by decide) rfl (fun ls hl => ?_)
                refine lv_goto (tgt := 38) hx hb dX5_layStrong_130 (by decide) ?_
                have hP : va_P D vwCl [((a 0), .inr (5, [.ref (a 1), .ref (a 2), .int (nI kt), .ref (a 3), .ref (a 4), .ref (a 5), .int (nI ln), .ref (a 6), .int (nI td)])), ((a 1), .inl (kA 0, 169, .inl (vI V))), ((a 2), .inl (kA 0, 1014, .inl (hs))), ((a 3), .inl (kA 0, 338, .inl (sl))), ((a 4), .inl (kA 2, 2, .inl (sv))), ((a 5), .inl (kA 0, 60, .inl (pd))), ((a 6), .inl (kA 0, 5, .inl (g2)))] H := hP
                exact ih38 (r + 1) g2 (by omega) (by omega) (by first | exact lf2_put h_52 h_63 h_74 hg2 (by omega) | (intro q hq; rw [lf2_f (Or.inr (Or.inr h_74))]; exact hg2 q hq) | (intro q hq; rw [lf2_f (Or.inr (Or.inl h_63))]; exact hg2 q hq) | (intro q hq; rw [lf2_f (Or.inl h_52)]; exact hg2 q hq)) _ _ hP hD hS _ (lv_sub hl [0, 1, 2, 3, 4, 5, 6] rfl)
              · skip
                refine lv_aload_n hx hb dX5_layStrong_55 rfl (lv_at hl 1 rfl) ?_
                refine lv_iload hx hb dX5_layStrong_56 (lv_at hl 0 rfl) ?_
                refine lv_iconst (v := nI 1) hx hb dX5_layStrong_58 (by decide) ?_
                refine xVro C hN (As := [.int (nI r), .int (nI 1)]) (rest := []) (q0 := 0) (c_X5_of xl D kA a V hs sl sv pd g2 kt ln td r 1 (by omega) (by omega)) (cwV 2 hts gX5_layStrong_X5_of rfl rfl rfl (by decide +kernel) ⟨Nat.le_of_ble_eq_true rfl, Nat.le_of_ble_eq_true rfl⟩) hP rfl rfl rfl rfl hl.1 rfl (Nat.le_of_ble_eq_true rfl) dX5_layStrong_59 ⟨Nat.le_of_ble_eq_true rfl, Nat.le_of_ble_eq_true rfl⟩ ?_
                refine lv_iconst (v := nI 2) hx hb dX5_layStrong_62 (by decide) ?_
                refine xIcmpNe C (tgt := 127) (by have := hW r (by omega); omega) (by decide) dX5_layStrong_63 (by decide) (fun h_63 => ?_) (fun h_63 => ?_)
                · skip
                  refine xIinc C (kx := 0) (d := 1) (lv' := [(6, .int (nI (r + 1))), (0, .ref (a 0)), (1, .int (nI c)), (2, .int (nI d)), (3, .int bu), (4, .int ly), (5, .int (nI se))]) dX5_layStrong_127 hl rfl (by decide) (by decide) rfl (fun ls hl => ?_)
                  refine lv_goto (tgt := 38) hx hb dX5_layStrong_130 (by decide) ?_
                  have hP : va_P D vwCl [((a 0), .inr (5, [.ref (a 1), .ref (a 2), .int (nI kt), .ref (a 3), .ref (a 4), .ref (a 5), .int (nI ln), .ref (a 6), .int (nI td)])), ((a 1), .inl (kA 0, 169, .inl (vI V))), ((a 2), .inl (kA 0, 1014, .inl (hs))), ((a 3), .inl (kA 0, 338, .inl (sl))), ((a 4), .inl (kA 2, 2, .inl (sv))), ((a 5), .inl (kA 0, 60, .inl (pd))), ((a 6), .inl (kA 0, 5, .inl (g2)))] H := hP
                  exact ih38 (r + 1) g2 (by omega) (by omega) (by first | exact lf2_put h_52 h_63 h_74 hg2 (by omega) | (intro q hq; rw [lf2_f (Or.inr (Or.inr h_74))]; exact hg2 q hq) | (intro q hq; rw [lf2_f (Or.inr (Or.inl h_63))]; exact hg2 q hq) | (intro q hq; rw [lf2_f (Or.inl h_52)]; exact hg2 q hq)) _ _ hP hD hS _ (lv_sub hl [0, 1, 2, 3, 4, 5, 6] rfl)
                · skip
                  refine lv_aload_n hx hb dX5_layStrong_66 rfl (lv_at hl 1 rfl) ?_
                  refine lv_iload hx hb dX5_layStrong_67 (lv_at hl 0 rfl) ?_
                  refine lv_iload_n hx hb dX5_layStrong_69 rfl (lv_at hl 2 rfl) ?_
                  refine lv_iload_n hx hb dX5_layStrong_70 rfl (lv_at hl 3 rfl) ?_
                  refine xVro C hN (As := [.int (nI r), .int (nI c), .int (nI d)]) (rest := []) (q0 := 0) (c_X5_fits xl D kA a V hs sl sv pd g2 kt ln td hV hW r c d (by omega) hc hd) (cwV 3 hts gX5_layStrong_X5_fits rfl rfl rfl (by decide +kernel) ⟨Nat.le_of_ble_eq_true rfl, Nat.le_of_ble_eq_true rfl⟩) hP rfl rfl rfl rfl hl.1 rfl (Nat.le_of_ble_eq_true rfl) dX5_layStrong_71 ⟨Nat.le_of_ble_eq_true rfl, Nat.le_of_ble_eq_true rfl⟩ ?_
                  refine xIfEqB C (tgt := 127) dX5_layStrong_74 (by decide) (fun h_74 => ?_) (fun h_74 => ?_)
                  · skip
                    refine xIinc C (kx := 0) (d := 1) (lv' := [(6, .int (nI (r + 1))), (0, .ref (a 0)), (1, .int (nI c)), (2, .int (nI d)), (3, .int bu), (4, .int ly), (5, .int (nI se))]) dX5_layStrong_127 hl rfl (by decide) (by decide) rfl (fun ls hl => ?_)
                    refine lv_goto (tgt := 38) hx hb dX5_layStrong_130 (by decide) ?_
                    have hP : va_P D vwCl [((a 0), .inr (5, [.ref (a 1), .ref (a 2), .int (nI kt), .ref (a 3), .ref (a 4), .ref (a 5), .int (nI ln), .ref (a 6), .int (nI td)])), ((a 1), .inl (kA 0, 169, .inl (vI V))), ((a 2), .inl (kA 0, 1014, .inl (hs))), ((a 3), .inl (kA 0, 338, .inl (sl))), ((a 4), .inl (kA 2, 2, .inl (sv))), ((a 5), .inl (kA 0, 60, .inl (pd))), ((a 6), .inl (kA 0, 5, .inl (g2)))] H := hP
                    exact ih38 (r + 1) g2 (by omega) (by omega) (by first | exact lf2_put h_52 h_63 h_74 hg2 (by omega) | (intro q hq; rw [lf2_f (Or.inr (Or.inr h_74))]; exact hg2 q hq) | (intro q hq; rw [lf2_f (Or.inr (Or.inl h_63))]; exact hg2 q hq) | (intro q hq; rw [lf2_f (Or.inl h_52)]; exact hg2 q hq)) _ _ hP hD hS _ (lv_sub hl [0, 1, 2, 3, 4, 5, 6] rfl)
                  · skip
                    refine lv_aload_n hx hb dX5_layStrong_77 rfl (lv_at hl 1 rfl) ?_
                    refine lv_iload hx hb dX5_layStrong_78 (lv_at hl 0 rfl) ?_
                    refine lv_iconst (v := nI 0) hx hb dX5_layStrong_80 (by decide) ?_
                    refine xVro C hN (As := [.int (nI r), .int (nI 0)]) (rest := []) (q0 := 0) (c_X5_of xl D kA a V hs sl sv pd g2 kt ln td r 0 (by omega) (by omega)) (cwV 2 hts gX5_layStrong_X5_of rfl rfl rfl (by decide +kernel) ⟨Nat.le_of_ble_eq_true rfl, Nat.le_of_ble_eq_true rfl⟩) hP rfl rfl rfl rfl hl.1 rfl (Nat.le_of_ble_eq_true rfl) dX5_layStrong_81 ⟨Nat.le_of_ble_eq_true rfl, Nat.le_of_ble_eq_true rfl⟩ ?_
                    refine lv_istore (lv' := [(7, .int (nI (TV V r 0))), (6, .int (nI r)), (0, .ref (a 0)), (1, .int (nI c)), (2, .int (nI d)), (3, .int bu), (4, .int ly), (5, .int (nI se))]) hx hb dX5_layStrong_84 hl (by decide) rfl (fun ls hl => ?_)
                    refine lv_aload_n hx hb dX5_layStrong_86 rfl (lv_at hl 2 rfl) ?_
                    refine xGet C hN hP 0 (j := 7) rfl rfl iX5_layStrong_X5 (by decide) kX5_layStrong_26 rfl rfl dX5_layStrong_87 ?_
                    refine lv_iload hx hb dX5_layStrong_90 (lv_at hl 0 rfl) ?_
                    refine lv_aload_n hx hb dX5_layStrong_92 rfl (lv_at hl 2 rfl) ?_
                    refine lv_iload hx hb dX5_layStrong_93 (lv_at hl 1 rfl) ?_
                    refine lv_iconst (v := nI 4) hx hb dX5_layStrong_95 (by decide) ?_
                    refine xVro C hN (As := [.int (nI r), .int (nI 4)]) (rest := [.int (nI (TV V r 0)), .ref (a 6)]) (q0 := 0) (c_X5_of xl D kA a V hs sl sv pd g2 kt ln td r 4 (by omega) (by omega)) (cwV 2 hts gX5_layStrong_X5_of rfl rfl rfl (by decide +kernel) ⟨Nat.le_of_ble_eq_true rfl, Nat.le_of_ble_eq_true rfl⟩) hP rfl rfl rfl rfl hl.1 rfl (Nat.le_of_ble_eq_true rfl) dX5_layStrong_96 ⟨Nat.le_of_ble_eq_true rfl, Nat.le_of_ble_eq_true rfl⟩ ?_
                    refine lv_aload_n hx hb dX5_layStrong_99 rfl (lv_at hl 2 rfl) ?_
                    refine xGet C hN hP 0 (j := 7) rfl rfl iX5_layStrong_X5 (by decide) kX5_layStrong_26 rfl rfl dX5_layStrong_100 ?_
                    refine lv_iload hx hb dX5_layStrong_103 (lv_at hl 0 rfl) ?_
                    refine xIald C hN hP 6 (j := TV V r 0) (v := nI (lf2 (TV V) c d bu ly se r (TV V r 0))) rfl (by have := hW r (by omega); omega) (by decide) (hg2 _ (by have := hW r (by omega); omega)) dX5_layStrong_105 ?_
                    refine xIcmpLe C (tgt := 119) (by have := hW r (by omega); omega) (by have := lf2_le (q := TV V r 0) (c := c) (d := d) (bu := bu) (ly := ly) (se := se) hW (show r ≤ V 0 by omega) hse; omega) dX5_layStrong_106 (by decide) (fun h_106 => ?_) (fun h_106 => ?_)
                    · skip
                      refine lv_aload_n hx hb dX5_layStrong_119 rfl (lv_at hl 2 rfl) ?_
                      refine xGet C hN hP 0 (j := 7) rfl rfl iX5_layStrong_X5 (by decide) kX5_layStrong_26 rfl rfl dX5_layStrong_120 ?_
                      refine lv_iload hx hb dX5_layStrong_123 (lv_at hl 0 rfl) ?_
                      refine xIald C hN hP 6 (j := TV V r 0) (v := nI (lf2 (TV V) c d bu ly se r (TV V r 0))) rfl (by have := hW r (by omega); omega) (by decide) (hg2 _ (by have := hW r (by omega); omega)) dX5_layStrong_125 ?_
                      refine xIast C hN hP hD hS 6 (j := TV V r 0) rfl (by have := hW r (by omega); omega) (by decide) dX5_layStrong_126 (fun H locs hP hD hS => ?_)
                      have hP : va_P D vwCl [((a 0), .inr (5, [.ref (a 1), .ref (a 2), .int (nI kt), .ref (a 3), .ref (a 4), .ref (a 5), .int (nI ln), .ref (a 6), .int (nI td)])), ((a 1), .inl (kA 0, 169, .inl (vI V))), ((a 2), .inl (kA 0, 1014, .inl (hs))), ((a 3), .inl (kA 0, 338, .inl (sl))), ((a 4), .inl (kA 2, 2, .inl (sv))), ((a 5), .inl (kA 0, 60, .inl (pd))), ((a 6), .inl (kA 0, 5, .inl (upd (g2) (TV V r 0) (nI (lf2 (TV V) c d bu ly se r (TV V r 0))))))] H := hP
                      have hD : va_D A [((a 0), .inr (5, [.ref (a 1), .ref (a 2), .int (nI kt), .ref (a 3), .ref (a 4), .ref (a 5), .int (nI ln), .ref (a 6), .int (nI td)])), ((a 1), .inl (kA 0, 169, .inl (vI V))), ((a 2), .inl (kA 0, 1014, .inl (hs))), ((a 3), .inl (kA 0, 338, .inl (sl))), ((a 4), .inl (kA 2, 2, .inl (sv))), ((a 5), .inl (kA 0, 60, .inl (pd))), ((a 6), .inl (kA 0, 5, .inl (upd (g2) (TV V r 0) (nI (lf2 (TV V) c d bu ly se r (TV V r 0))))))] := hD
                      refine xIinc C (kx := 1) (d := 1) (lv' := [(6, .int (nI (r + 1))), (7, .int (nI (TV V r 0))), (0, .ref (a 0)), (1, .int (nI c)), (2, .int (nI d)), (3, .int bu), (4, .int ly), (5, .int (nI se))]) dX5_layStrong_127 hl rfl (by decide) (by decide) rfl (fun ls hl => ?_)
                      refine lv_goto (tgt := 38) hx hb dX5_layStrong_130 (by decide) ?_
                      have hP : va_P D vwCl [((a 0), .inr (5, [.ref (a 1), .ref (a 2), .int (nI kt), .ref (a 3), .ref (a 4), .ref (a 5), .int (nI ln), .ref (a 6), .int (nI td)])), ((a 1), .inl (kA 0, 169, .inl (vI V))), ((a 2), .inl (kA 0, 1014, .inl (hs))), ((a 3), .inl (kA 0, 338, .inl (sl))), ((a 4), .inl (kA 2, 2, .inl (sv))), ((a 5), .inl (kA 0, 60, .inl (pd))), ((a 6), .inl (kA 0, 5, .inl (upd (g2) (TV V r 0) (nI (lf2 (TV V) c d bu ly se r (TV V r 0))))))] H := hP
                      exact ih38 (r + 1) (upd (g2) (TV V r 0) (nI (lf2 (TV V) c d bu ly se r (TV V r 0)))) (by omega) (by omega) (by first | exact lf2_put h_52 h_63 h_74 hg2 (by omega) | (intro q hq; rw [lf2_f (Or.inr (Or.inr h_74))]; exact hg2 q hq) | (intro q hq; rw [lf2_f (Or.inr (Or.inl h_63))]; exact hg2 q hq) | (intro q hq; rw [lf2_f (Or.inl h_52)]; exact hg2 q hq)) _ _ hP hD hS _ (lv_sub hl [0, 2, 3, 4, 5, 6, 7] rfl)
                    · skip
                      refine lv_aload_n hx hb dX5_layStrong_109 rfl (lv_at hl 2 rfl) ?_
                      refine lv_iload hx hb dX5_layStrong_110 (lv_at hl 1 rfl) ?_
                      refine lv_iconst (v := nI 4) hx hb dX5_layStrong_112 (by decide) ?_
                      refine xVro C hN (As := [.int (nI r), .int (nI 4)]) (rest := [.int (nI (TV V r 0)), .ref (a 6)]) (q0 := 0) (c_X5_of xl D kA a V hs sl sv pd g2 kt ln td r 4 (by omega) (by omega)) (cwV 2 hts gX5_layStrong_X5_of rfl rfl rfl (by decide +kernel) ⟨Nat.le_of_ble_eq_true rfl, Nat.le_of_ble_eq_true rfl⟩) hP rfl rfl rfl rfl hl.1 rfl (Nat.le_of_ble_eq_true rfl) dX5_layStrong_113 ⟨Nat.le_of_ble_eq_true rfl, Nat.le_of_ble_eq_true rfl⟩ ?_
                      refine lv_goto (tgt := 126) hx hb dX5_layStrong_116 (by decide) ?_
                      refine xIast C hN hP hD hS 6 (j := TV V r 0) rfl (by have := hW r (by omega); omega) (by decide) dX5_layStrong_126 (fun H locs hP hD hS => ?_)
                      have hP : va_P D vwCl [((a 0), .inr (5, [.ref (a 1), .ref (a 2), .int (nI kt), .ref (a 3), .ref (a 4), .ref (a 5), .int (nI ln), .ref (a 6), .int (nI td)])), ((a 1), .inl (kA 0, 169, .inl (vI V))), ((a 2), .inl (kA 0, 1014, .inl (hs))), ((a 3), .inl (kA 0, 338, .inl (sl))), ((a 4), .inl (kA 2, 2, .inl (sv))), ((a 5), .inl (kA 0, 60, .inl (pd))), ((a 6), .inl (kA 0, 5, .inl (upd (g2) (TV V r 0) (nI (TV V r 4)))))] H := hP
                      have hD : va_D A [((a 0), .inr (5, [.ref (a 1), .ref (a 2), .int (nI kt), .ref (a 3), .ref (a 4), .ref (a 5), .int (nI ln), .ref (a 6), .int (nI td)])), ((a 1), .inl (kA 0, 169, .inl (vI V))), ((a 2), .inl (kA 0, 1014, .inl (hs))), ((a 3), .inl (kA 0, 338, .inl (sl))), ((a 4), .inl (kA 2, 2, .inl (sv))), ((a 5), .inl (kA 0, 60, .inl (pd))), ((a 6), .inl (kA 0, 5, .inl (upd (g2) (TV V r 0) (nI (TV V r 4)))))] := hD
                      refine xIinc C (kx := 1) (d := 1) (lv' := [(6, .int (nI (r + 1))), (7, .int (nI (TV V r 0))), (0, .ref (a 0)), (1, .int (nI c)), (2, .int (nI d)), (3, .int bu), (4, .int ly), (5, .int (nI se))]) dX5_layStrong_127 hl rfl (by decide) (by decide) rfl (fun ls hl => ?_)
                      refine lv_goto (tgt := 38) hx hb dX5_layStrong_130 (by decide) ?_
                      have hP : va_P D vwCl [((a 0), .inr (5, [.ref (a 1), .ref (a 2), .int (nI kt), .ref (a 3), .ref (a 4), .ref (a 5), .int (nI ln), .ref (a 6), .int (nI td)])), ((a 1), .inl (kA 0, 169, .inl (vI V))), ((a 2), .inl (kA 0, 1014, .inl (hs))), ((a 3), .inl (kA 0, 338, .inl (sl))), ((a 4), .inl (kA 2, 2, .inl (sv))), ((a 5), .inl (kA 0, 60, .inl (pd))), ((a 6), .inl (kA 0, 5, .inl (upd (g2) (TV V r 0) (nI (TV V r 4)))))] H := hP
                      exact ih38 (r + 1) (upd (g2) (TV V r 0) (nI (TV V r 4))) (by omega) (by omega) (by first | exact lf2_put h_52 h_63 h_74 hg2 (by omega) | (intro q hq; rw [lf2_f (Or.inr (Or.inr h_74))]; exact hg2 q hq) | (intro q hq; rw [lf2_f (Or.inr (Or.inl h_63))]; exact hg2 q hq) | (intro q hq; rw [lf2_f (Or.inl h_52)]; exact hg2 q hq)) _ _ hP hD hS _ (lv_sub hl [0, 2, 3, 4, 5, 6, 7] rfl)
        exact L38 _ 0 g1 (Nat.lt_succ_self _) (by omega) (fun q h => by rw [hg1 q (by omega), lf2_0]) _ _ hP hD hS _ (lv_sub hl [0, 1, 2, 3, 4, 5, 6] rfl)
      · skip
        refine lv_aload_n hx hb dX5_layStrong_9 rfl (lv_at hl 1 rfl) ?_
        refine xGet C hN hP 0 (j := 7) rfl rfl iX5_layStrong_X5 (by decide) kX5_layStrong_26 rfl rfl dX5_layStrong_10 ?_
        refine lv_iload hx hb dX5_layStrong_13 (lv_at hl 0 rfl) ?_
        refine lv_iload hx hb dX5_layStrong_15 (lv_at hl 0 rfl) ?_
        refine lv_iload hx hb dX5_layStrong_17 (lv_at hl 5 rfl) ?_
        refine lv_icmp_ne (tgt := 27) hx hb dX5_layStrong_19 (by decide) (fun h_19 => ?_) (fun h_19 => ?_)
        · skip
          refine lv_iconst (v := nI 0) hx hb dX5_layStrong_27 (by decide) ?_
          refine xIast C hN hP hD hS 6 (j := l) rfl (by omega) (by decide) dX5_layStrong_28 (fun H locs hP hD hS => ?_)
          have hP : va_P D vwCl [((a 0), .inr (5, [.ref (a 1), .ref (a 2), .int (nI kt), .ref (a 3), .ref (a 4), .ref (a 5), .int (nI ln), .ref (a 6), .int (nI td)])), ((a 1), .inl (kA 0, 169, .inl (vI V))), ((a 2), .inl (kA 0, 1014, .inl (hs))), ((a 3), .inl (kA 0, 338, .inl (sl))), ((a 4), .inl (kA 2, 2, .inl (sv))), ((a 5), .inl (kA 0, 60, .inl (pd))), ((a 6), .inl (kA 0, 5, .inl (upd (g1) (l) (nI 0))))] H := hP
          have hD : va_D A [((a 0), .inr (5, [.ref (a 1), .ref (a 2), .int (nI kt), .ref (a 3), .ref (a 4), .ref (a 5), .int (nI ln), .ref (a 6), .int (nI td)])), ((a 1), .inl (kA 0, 169, .inl (vI V))), ((a 2), .inl (kA 0, 1014, .inl (hs))), ((a 3), .inl (kA 0, 338, .inl (sl))), ((a 4), .inl (kA 2, 2, .inl (sv))), ((a 5), .inl (kA 0, 60, .inl (pd))), ((a 6), .inl (kA 0, 5, .inl (upd (g1) (l) (nI 0))))] := hD
          refine xIinc C (kx := 0) (d := 1) (lv' := [(6, .int (nI (l + 1))), (0, .ref (a 0)), (1, .int (nI c)), (2, .int (nI d)), (3, .int bu), (4, .int ly), (5, .int (nI se))]) dX5_layStrong_29 hl rfl (by decide) (by decide) rfl (fun ls hl => ?_)
          refine lv_goto (tgt := 3) hx hb dX5_layStrong_32 (by decide) ?_
          have hP : va_P D vwCl [((a 0), .inr (5, [.ref (a 1), .ref (a 2), .int (nI kt), .ref (a 3), .ref (a 4), .ref (a 5), .int (nI ln), .ref (a 6), .int (nI td)])), ((a 1), .inl (kA 0, 169, .inl (vI V))), ((a 2), .inl (kA 0, 1014, .inl (hs))), ((a 3), .inl (kA 0, 338, .inl (sl))), ((a 4), .inl (kA 2, 2, .inl (sv))), ((a 5), .inl (kA 0, 60, .inl (pd))), ((a 6), .inl (kA 0, 5, .inl (upd (g1) (l) (nI 0))))] H := hP
          exact ih3 (l + 1) (upd (g1) (l) (nI 0)) (by omega) (by omega) (fillS hg1 (by unfold iniF; first | rw [if_pos h_19] | rw [if_neg h_19])) _ _ hP hD hS _ (lv_sub hl [0, 1, 2, 3, 4, 5, 6] rfl)
        · skip
          refine lv_iload hx hb dX5_layStrong_22 (lv_at hl 6 rfl) ?_
          refine lv_goto (tgt := 28) hx hb dX5_layStrong_24 (by decide) ?_
          refine xIast C hN hP hD hS 6 (j := l) rfl (by omega) (by decide) dX5_layStrong_28 (fun H locs hP hD hS => ?_)
          have hP : va_P D vwCl [((a 0), .inr (5, [.ref (a 1), .ref (a 2), .int (nI kt), .ref (a 3), .ref (a 4), .ref (a 5), .int (nI ln), .ref (a 6), .int (nI td)])), ((a 1), .inl (kA 0, 169, .inl (vI V))), ((a 2), .inl (kA 0, 1014, .inl (hs))), ((a 3), .inl (kA 0, 338, .inl (sl))), ((a 4), .inl (kA 2, 2, .inl (sv))), ((a 5), .inl (kA 0, 60, .inl (pd))), ((a 6), .inl (kA 0, 5, .inl (upd (g1) (l) (nI se))))] H := hP
          have hD : va_D A [((a 0), .inr (5, [.ref (a 1), .ref (a 2), .int (nI kt), .ref (a 3), .ref (a 4), .ref (a 5), .int (nI ln), .ref (a 6), .int (nI td)])), ((a 1), .inl (kA 0, 169, .inl (vI V))), ((a 2), .inl (kA 0, 1014, .inl (hs))), ((a 3), .inl (kA 0, 338, .inl (sl))), ((a 4), .inl (kA 2, 2, .inl (sv))), ((a 5), .inl (kA 0, 60, .inl (pd))), ((a 6), .inl (kA 0, 5, .inl (upd (g1) (l) (nI se))))] := hD
          refine xIinc C (kx := 0) (d := 1) (lv' := [(6, .int (nI (l + 1))), (0, .ref (a 0)), (1, .int (nI c)), (2, .int (nI d)), (3, .int bu), (4, .int ly), (5, .int (nI se))]) dX5_layStrong_29 hl rfl (by decide) (by decide) rfl (fun ls hl => ?_)
          refine lv_goto (tgt := 3) hx hb dX5_layStrong_32 (by decide) ?_
          have hP : va_P D vwCl [((a 0), .inr (5, [.ref (a 1), .ref (a 2), .int (nI kt), .ref (a 3), .ref (a 4), .ref (a 5), .int (nI ln), .ref (a 6), .int (nI td)])), ((a 1), .inl (kA 0, 169, .inl (vI V))), ((a 2), .inl (kA 0, 1014, .inl (hs))), ((a 3), .inl (kA 0, 338, .inl (sl))), ((a 4), .inl (kA 2, 2, .inl (sv))), ((a 5), .inl (kA 0, 60, .inl (pd))), ((a 6), .inl (kA 0, 5, .inl (upd (g1) (l) (nI se))))] H := hP
          exact ih3 (l + 1) (upd (g1) (l) (nI se)) (by omega) (by omega) (fillS hg1 (by unfold iniF; first | rw [if_pos h_19] | rw [if_neg h_19])) _ _ hP hD hS _ (lv_sub hl [0, 1, 2, 3, 4, 5, 6] rfl)
  exact L3 _ 0 sg (Nat.lt_succ_self _) (by omega) (fun q h => absurd h (Nat.not_lt_zero q)) _ _ hP hD hS _ (lv_sub hl [0, 1, 2, 3, 4, 5, 6] rfl)

set_option maxHeartbeats 8000000 in
set_option maxRecDepth 100000 in
theorem c_X5_isPermitted (xl : Launch) (D : va_G) (kA : Nat → ClassId) (a : Nat → Nat) (V : Nat → Nat) (hs sl sv pd sg : Nat → Int32) (kt ln td : Nat) (hV : V 0 ≤ 24) (hW : WfT (V 0) (TV V)) (c d : Nat) (hc : c < 5) (hd : d < 6) (bu : Int32) : Met xl yX5_isPermitted wsX5_isPermitted { frames := 3, cells := 0, slots := 0, locals := 66 } (va_Pc [.ref (a 0), .int (nI c), .int (nI d), .int bu] (xPr D kA [((a 0), .inr (5, [.ref (a 1), .ref (a 2), .int (nI kt), .ref (a 3), .ref (a 4), .ref (a 5), .int (nI ln), .ref (a 6), .int (nI td)])), ((a 1), .inl (kA 0, 169, .inl (vI V))), ((a 2), .inl (kA 0, 1014, .inl (hs))), ((a 3), .inl (kA 0, 338, .inl (sl))), ((a 4), .inl (kA 2, 2, .inl (sv))), ((a 5), .inl (kA 0, 60, .inl (pd))), ((a 6), .inl (kA 0, 5, .inl (sg)))])) (vp_Si (fun rr => rr = bI (pmM (V 0) (TV V) c d bu))) 0 0 (fun _ => False) := by
  refine Met.ofW (cc := cX5_isPermitted) (maxL := 6) (ret := (some .boolean)) (by decide) rfl ?_
  intro xp xe xs xm args xbe xme xc s₁ B hml hv
  obtain ⟨rfl, hP, hN⟩ := hv
  have hret := B.returns
  have C : CallFix xp xm xc cX5_isPermitted 6 xs ([.ref (a 0), .int (nI c), .int (nI d), .int bu] : List Value).toArray wsX5_isPermitted RX5 := ⟨B.exec, B.bytes, hml, findClass_of_methodNamed B.named, atoms_spec (ws := wsX5_isPermitted) B.pre⟩
  have hlocks := B.notSynchronized
  obtain ⟨hx, hb, _, hown, hts⟩ := id C
  have hl := lv_entry ([.ref (a 0), .int (nI c), .int (nI d), .int bu]) (n := 6) (Nat.le_of_ble_eq_true rfl)
  rw [lg_entry_eq]
  generalize (lg_sl ([.ref (a 0), .int (nI c), .int (nI d), .int bu]) ++ List.replicate (6 - (lg_sl ([.ref (a 0), .int (nI c), .int (nI d), .int bu])).length) Slot.unset).toArray = ls at hl ⊢
  have hl : lv_has ls 6 [(0, .ref (a 0)), (1, .int (nI c)), (2, .int (nI d)), (3, .int bu)] := hl
  refine lv_iconst (v := nI 0) hx hb dX5_isPermitted_0 (by decide) ?_
  refine lv_istore (lv' := [(4, .int (nI 0)), (0, .ref (a 0)), (1, .int (nI c)), (2, .int (nI d)), (3, .int bu)]) hx hb dX5_isPermitted_1 hl (by decide) rfl (fun ls hl => ?_)
  refine lv_iconst (v := nI 0) hx hb dX5_isPermitted_3 (by decide) ?_
  refine lv_istore (lv' := [(5, .int (nI 0)), (4, .int (nI 0)), (0, .ref (a 0)), (1, .int (nI c)), (2, .int (nI d)), (3, .int bu)]) hx hb dX5_isPermitted_4 hl (by decide) rfl (fun ls hl => ?_)
  have L6 : ∀ (fuel : Nat), ∀ (r : Nat) (v : Bool) (hmu : V 0 - r < fuel) (hr : r ≤ V 0) (hv : v = anyN r (fun j => !decide (nI j = bu) && (TV V j 1 == 0 && fitT (TV V) j c d))) (ls : Array Slot) (_ : lv_has ls 6 [(5, .int (nI r)), (4, .int (bI v)), (0, .ref (a 0)), (1, .int (nI c)), (2, .int (nI d)), (3, .int bu)]), W xp xl xe (headSpec wsX5_isPermitted { frames := 3, cells := 0, slots := 0, locals := 66 }).room xs xm ([.ref (a 0), .int (nI c), .int (nI d), .int bu] : List Value).toArray xbe xme xc xs.heap [] 0 0 (MQ xbe (vp_Si (fun rr => rr = bI (pmM (V 0) (TV V) c d bu))) ([.ref (a 0), .int (nI c), .int (nI d), .int bu] : List Value).toArray xs 0 0 (fun _ => False)) (F0 xm 6 ls []) := by
    intro fuel
    induction fuel with
    | zero => intro r v hmu; exact absurd hmu (Nat.not_lt_zero _)
    | succ fuel ih6 =>
      intro r v hmu hr hv ls hl
      refine lv_iload hx hb dX5_isPermitted_6 (lv_at hl 0 rfl) ?_
      refine lv_aload_n hx hb dX5_isPermitted_8 rfl (lv_at hl 2 rfl) ?_
      refine xGet C hN hP 0 (j := 0) rfl rfl iX5_isPermitted_X5 (by decide) kX5_isPermitted_7 rfl rfl dX5_isPermitted_9 ?_
      refine lv_iconst (v := nI 0) hx hb dX5_isPermitted_12 (by decide) ?_
      refine xIald C hN hP 1 (j := 0) (v := nI (V 0)) rfl (by omega) (by decide) (rfl) dX5_isPermitted_13 ?_
      refine xIcmpGe C (tgt := 62) (by omega) (by omega) dX5_isPermitted_14 (by decide) (fun h_14 => ?_) (fun h_14 => ?_)
      · skip
        refine lv_iload hx hb dX5_isPermitted_62 (lv_at hl 1 rfl) ?_
        exact xRoZ hx hb hret (v := bI v) (xNarB _) (by rw [hv, show r = V 0 by omega]; rfl) dX5_isPermitted_64 hlocks
      · skip
        refine lv_iload hx hb dX5_isPermitted_17 (lv_at hl 1 rfl) ?_
        refine xIfNeB C (tgt := 49) dX5_isPermitted_19 (by decide) (fun h_19 => ?_) (fun h_19 => ?_)
        · skip
          refine lv_iconst (v := nI 1) hx hb dX5_isPermitted_49 (by decide) ?_
          refine lv_goto (tgt := 54) hx hb dX5_isPermitted_50 (by decide) ?_
          refine lv_istore (lv' := [(4, .int (nI 1)), (5, .int (nI r)), (0, .ref (a 0)), (1, .int (nI c)), (2, .int (nI d)), (3, .int bu)]) hx hb dX5_isPermitted_54 hl (by decide) rfl (fun ls hl => ?_)
          refine xIinc C (kx := 1) (d := 1) (lv' := [(5, .int (nI (r + 1))), (4, .int (nI 1)), (0, .ref (a 0)), (1, .int (nI c)), (2, .int (nI d)), (3, .int bu)]) dX5_isPermitted_56 hl rfl (by decide) (by decide) rfl (fun ls hl => ?_)
          refine lv_goto (tgt := 6) hx hb dX5_isPermitted_59 (by decide) ?_
          exact ih6 (r + 1) true (by omega) (by omega) (by first | exact an_1 hv h_19 | exact an_2 (pm_t h_25 h_35 h_46) | exact an_3 hv h_19 (pm_f3 h_46) | exact an_3 hv h_19 (pm_f2 h_35) | exact an_3 hv h_19 (pm_f1 h_25)) _ (lv_sub hl [0, 1, 2, 3, 4, 5] rfl)
        · skip
          refine lv_iload hx hb dX5_isPermitted_22 (lv_at hl 0 rfl) ?_
          refine lv_iload_n hx hb dX5_isPermitted_24 rfl (lv_at hl 5 rfl) ?_
          refine lv_icmp_eq (tgt := 53) hx hb dX5_isPermitted_25 (by decide) (fun h_25 => ?_) (fun h_25 => ?_)
          · skip
            refine lv_iconst (v := nI 0) hx hb dX5_isPermitted_53 (by decide) ?_
            refine lv_istore (lv' := [(4, .int (nI 0)), (5, .int (nI r)), (0, .ref (a 0)), (1, .int (nI c)), (2, .int (nI d)), (3, .int bu)]) hx hb dX5_isPermitted_54 hl (by decide) rfl (fun ls hl => ?_)
            refine xIinc C (kx := 1) (d := 1) (lv' := [(5, .int (nI (r + 1))), (4, .int (nI 0)), (0, .ref (a 0)), (1, .int (nI c)), (2, .int (nI d)), (3, .int bu)]) dX5_isPermitted_56 hl rfl (by decide) (by decide) rfl (fun ls hl => ?_)
            refine lv_goto (tgt := 6) hx hb dX5_isPermitted_59 (by decide) ?_
            exact ih6 (r + 1) false (by omega) (by omega) (by first | exact an_1 hv h_19 | exact an_2 (pm_t h_25 h_35 h_46) | exact an_3 hv h_19 (pm_f3 h_46) | exact an_3 hv h_19 (pm_f2 h_35) | exact an_3 hv h_19 (pm_f1 h_25)) _ (lv_sub hl [0, 1, 2, 3, 4, 5] rfl)
          · skip
            refine lv_aload_n hx hb dX5_isPermitted_28 rfl (lv_at hl 2 rfl) ?_
            refine lv_iload hx hb dX5_isPermitted_29 (lv_at hl 0 rfl) ?_
            refine lv_iconst (v := nI 1) hx hb dX5_isPermitted_31 (by decide) ?_
            refine xVro C hN (As := [.int (nI r), .int (nI 1)]) (rest := []) (q0 := 0) (c_X5_of xl D kA a V hs sl sv pd sg kt ln td r 1 (by omega) (by omega)) (cwV 2 hts gX5_isPermitted_X5_of rfl rfl rfl (by decide +kernel) ⟨Nat.le_of_ble_eq_true rfl, Nat.le_of_ble_eq_true rfl⟩) hP rfl rfl rfl rfl hl.1 rfl (Nat.le_of_ble_eq_true rfl) dX5_isPermitted_32 ⟨Nat.le_of_ble_eq_true rfl, Nat.le_of_ble_eq_true rfl⟩ ?_
            refine xIfNe C (tgt := 53) (by have := hW r (by omega); omega) dX5_isPermitted_35 (by decide) (fun h_35 => ?_) (fun h_35 => ?_)
            · skip
              refine lv_iconst (v := nI 0) hx hb dX5_isPermitted_53 (by decide) ?_
              refine lv_istore (lv' := [(4, .int (nI 0)), (5, .int (nI r)), (0, .ref (a 0)), (1, .int (nI c)), (2, .int (nI d)), (3, .int bu)]) hx hb dX5_isPermitted_54 hl (by decide) rfl (fun ls hl => ?_)
              refine xIinc C (kx := 1) (d := 1) (lv' := [(5, .int (nI (r + 1))), (4, .int (nI 0)), (0, .ref (a 0)), (1, .int (nI c)), (2, .int (nI d)), (3, .int bu)]) dX5_isPermitted_56 hl rfl (by decide) (by decide) rfl (fun ls hl => ?_)
              refine lv_goto (tgt := 6) hx hb dX5_isPermitted_59 (by decide) ?_
              exact ih6 (r + 1) false (by omega) (by omega) (by first | exact an_1 hv h_19 | exact an_2 (pm_t h_25 h_35 h_46) | exact an_3 hv h_19 (pm_f3 h_46) | exact an_3 hv h_19 (pm_f2 h_35) | exact an_3 hv h_19 (pm_f1 h_25)) _ (lv_sub hl [0, 1, 2, 3, 4, 5] rfl)
            · skip
              refine lv_aload_n hx hb dX5_isPermitted_38 rfl (lv_at hl 2 rfl) ?_
              refine lv_iload hx hb dX5_isPermitted_39 (lv_at hl 0 rfl) ?_
              refine lv_iload_n hx hb dX5_isPermitted_41 rfl (lv_at hl 3 rfl) ?_
              refine lv_iload_n hx hb dX5_isPermitted_42 rfl (lv_at hl 4 rfl) ?_
              refine xVro C hN (As := [.int (nI r), .int (nI c), .int (nI d)]) (rest := []) (q0 := 0) (c_X5_fits xl D kA a V hs sl sv pd sg kt ln td hV hW r c d (by omega) hc hd) (cwV 3 hts gX5_isPermitted_X5_fits rfl rfl rfl (by decide +kernel) ⟨Nat.le_of_ble_eq_true rfl, Nat.le_of_ble_eq_true rfl⟩) hP rfl rfl rfl rfl hl.1 rfl (Nat.le_of_ble_eq_true rfl) dX5_isPermitted_43 ⟨Nat.le_of_ble_eq_true rfl, Nat.le_of_ble_eq_true rfl⟩ ?_
              refine xIfEqB C (tgt := 53) dX5_isPermitted_46 (by decide) (fun h_46 => ?_) (fun h_46 => ?_)
              · skip
                refine lv_iconst (v := nI 0) hx hb dX5_isPermitted_53 (by decide) ?_
                refine lv_istore (lv' := [(4, .int (nI 0)), (5, .int (nI r)), (0, .ref (a 0)), (1, .int (nI c)), (2, .int (nI d)), (3, .int bu)]) hx hb dX5_isPermitted_54 hl (by decide) rfl (fun ls hl => ?_)
                refine xIinc C (kx := 1) (d := 1) (lv' := [(5, .int (nI (r + 1))), (4, .int (nI 0)), (0, .ref (a 0)), (1, .int (nI c)), (2, .int (nI d)), (3, .int bu)]) dX5_isPermitted_56 hl rfl (by decide) (by decide) rfl (fun ls hl => ?_)
                refine lv_goto (tgt := 6) hx hb dX5_isPermitted_59 (by decide) ?_
                exact ih6 (r + 1) false (by omega) (by omega) (by first | exact an_1 hv h_19 | exact an_2 (pm_t h_25 h_35 h_46) | exact an_3 hv h_19 (pm_f3 h_46) | exact an_3 hv h_19 (pm_f2 h_35) | exact an_3 hv h_19 (pm_f1 h_25)) _ (lv_sub hl [0, 1, 2, 3, 4, 5] rfl)
              · skip
                refine lv_iconst (v := nI 1) hx hb dX5_isPermitted_49 (by decide) ?_
                refine lv_goto (tgt := 54) hx hb dX5_isPermitted_50 (by decide) ?_
                refine lv_istore (lv' := [(4, .int (nI 1)), (5, .int (nI r)), (0, .ref (a 0)), (1, .int (nI c)), (2, .int (nI d)), (3, .int bu)]) hx hb dX5_isPermitted_54 hl (by decide) rfl (fun ls hl => ?_)
                refine xIinc C (kx := 1) (d := 1) (lv' := [(5, .int (nI (r + 1))), (4, .int (nI 1)), (0, .ref (a 0)), (1, .int (nI c)), (2, .int (nI d)), (3, .int bu)]) dX5_isPermitted_56 hl rfl (by decide) (by decide) rfl (fun ls hl => ?_)
                refine lv_goto (tgt := 6) hx hb dX5_isPermitted_59 (by decide) ?_
                exact ih6 (r + 1) true (by omega) (by omega) (by first | exact an_1 hv h_19 | exact an_2 (pm_t h_25 h_35 h_46) | exact an_3 hv h_19 (pm_f3 h_46) | exact an_3 hv h_19 (pm_f2 h_35) | exact an_3 hv h_19 (pm_f1 h_25)) _ (lv_sub hl [0, 1, 2, 3, 4, 5] rfl)
  exact L6 _ 0 false (Nat.lt_succ_self _) (by omega) rfl _ (lv_sub hl [0, 1, 2, 3, 4, 5] rfl)

set_option maxHeartbeats 8000000 in
set_option maxRecDepth 100000 in
theorem c_X5_least (xl : Launch) (D : va_G) (kA : Nat → ClassId) (a : Nat → Nat) (V : Nat → Nat) (hs sl sv pd sg : Nat → Int32) (kt ln td : Nat) (hV : V 0 ≤ 24) (hW : WfT (V 0) (TV V)) (c d : Nat) (hc : c < 5) (hd : d < 6) (bu ly : Int32) (se : Nat) (hse : se ≤ 9) (A : Nat → Prop) : Met xl yX5_least wsX5_least { frames := 4, cells := 0, slots := 0, locals := 93 } (va_Pc [.ref (a 0), .int (nI c), .int (nI d), .int bu, .int ly, .int (nI se)] (xPw D kA A [((a 0), .inr (5, [.ref (a 1), .ref (a 2), .int (nI kt), .ref (a 3), .ref (a 4), .ref (a 5), .int (nI ln), .ref (a 6), .int (nI td)])), ((a 1), .inl (kA 0, 169, .inl (vI V))), ((a 2), .inl (kA 0, 1014, .inl (hs))), ((a 3), .inl (kA 0, 338, .inl (sl))), ((a 4), .inl (kA 2, 2, .inl (sv))), ((a 5), .inl (kA 0, 60, .inl (pd))), ((a 6), .inl (kA 0, 5, .inl (sg)))])) (xQi D A (fun r u => r = nI (lstM (V 0) (TV V) c d bu ly se) ∧ ∃ g : Nat → Int32, u = modW kA a V hs sl sv pd g kt ln td ∧ (pmM (V 0) (TV V) c d bu = true → ∀ q, q < 5 → g q = nI (stM (V 0) (TV V) c d bu ly se q)))) 0 0 A := by
  refine Met.ofW (cc := cX5_least) (maxL := 9) (ret := (some .int)) (by decide) rfl ?_
  intro xp xe xs xm args xbe xme xc s₁ B hml hv
  obtain ⟨rfl, hP, hN, hD, hA⟩ := hv
  have hret := B.returns
  have C : CallFix xp xm xc cX5_least 9 xs ([.ref (a 0), .int (nI c), .int (nI d), .int bu, .int ly, .int (nI se)] : List Value).toArray wsX5_least RX5 := ⟨B.exec, B.bytes, hml, findClass_of_methodNamed B.named, atoms_spec (ws := wsX5_least) B.pre⟩
  have hlocks := B.notSynchronized
  obtain ⟨hx, hb, _, hown, hts⟩ := id C
  have hS : va_S A xs.heap xs.heap [] := va_S.rf
  have hl := lv_entry ([.ref (a 0), .int (nI c), .int (nI d), .int bu, .int ly, .int (nI se)]) (n := 9) (Nat.le_of_ble_eq_true rfl)
  rw [lg_entry_eq]
  generalize (lg_sl ([.ref (a 0), .int (nI c), .int (nI d), .int bu, .int ly, .int (nI se)]) ++ List.replicate (9 - (lg_sl ([.ref (a 0), .int (nI c), .int (nI d), .int bu, .int ly, .int (nI se)])).length) Slot.unset).toArray = ls at hl ⊢
  have hl : lv_has ls 9 [(0, .ref (a 0)), (1, .int (nI c)), (2, .int (nI d)), (3, .int bu), (4, .int ly), (5, .int (nI se))] := hl
  refine lv_aload_n hx hb dX5_least_0 rfl (lv_at hl 0 rfl) ?_
  refine lv_iload_n hx hb dX5_least_1 rfl (lv_at hl 1 rfl) ?_
  refine lv_iload_n hx hb dX5_least_2 rfl (lv_at hl 2 rfl) ?_
  refine lv_iload_n hx hb dX5_least_3 rfl (lv_at hl 3 rfl) ?_
  refine xVro C hN (As := [.int (nI c), .int (nI d), .int bu]) (rest := []) (q0 := 0) (c_X5_isPermitted xl D kA a V hs sl sv pd sg kt ln td hV hW c d hc hd bu) (cwV 3 hts gX5_least_X5_isPermitted rfl rfl rfl (by decide +kernel) ⟨Nat.le_of_ble_eq_true rfl, Nat.le_of_ble_eq_true rfl⟩) hP rfl rfl rfl rfl hl.1 rfl (Nat.le_of_ble_eq_true rfl) dX5_least_4 ⟨Nat.le_of_ble_eq_true rfl, Nat.le_of_ble_eq_true rfl⟩ ?_
  refine xIfNeB C (tgt := 13) dX5_least_7 (by decide) (fun h_7 => ?_) (fun h_7 => ?_)
  · skip
    refine lv_aload_n hx hb dX5_least_13 rfl (lv_at hl 0 rfl) ?_
    refine lv_iload_n hx hb dX5_least_14 rfl (lv_at hl 1 rfl) ?_
    refine lv_iload_n hx hb dX5_least_15 rfl (lv_at hl 2 rfl) ?_
    refine lv_iload_n hx hb dX5_least_16 rfl (lv_at hl 3 rfl) ?_
    refine lv_iload hx hb dX5_least_17 (lv_at hl 4 rfl) ?_
    refine lv_iload hx hb dX5_least_19 (lv_at hl 5 rfl) ?_
    refine xWWv hS (va_runV (As := [.int (nI c), .int (nI d), .int bu, .int ly, .int (nI se)]) (rest := []) C (c_X5_layStrong xl D kA a V hs sl sv pd sg kt ln td hV hW c d hc hd bu ly se hse A) (cwV 5 hts gX5_least_X5_layStrong rfl rfl rfl (by decide +kernel) ⟨Nat.le_of_ble_eq_true rfl, Nat.le_of_ble_eq_true rfl⟩) (xPreVw (q0 := 0) hN hP hD (xAll hS hA) rfl rfl rfl) rfl rfl hl.1 rfl (lv_room (Nat.le_of_ble_eq_true rfl)) dX5_least_21 ⟨Nat.le_of_ble_eq_true rfl, Nat.le_of_ble_eq_true rfl⟩) (fun u_21 H locs hq_21 hP hD hS => ?_)
    obtain ⟨g_21, rfl, hg_21⟩ := hq_21
    have hP : va_P D vwCl [((a 0), .inr (5, [.ref (a 1), .ref (a 2), .int (nI kt), .ref (a 3), .ref (a 4), .ref (a 5), .int (nI ln), .ref (a 6), .int (nI td)])), ((a 1), .inl (kA 0, 169, .inl (vI V))), ((a 2), .inl (kA 0, 1014, .inl (hs))), ((a 3), .inl (kA 0, 338, .inl (sl))), ((a 4), .inl (kA 2, 2, .inl (sv))), ((a 5), .inl (kA 0, 60, .inl (pd))), ((a 6), .inl (kA 0, 5, .inl (g_21)))] H := hP
    have hD : va_D A [((a 0), .inr (5, [.ref (a 1), .ref (a 2), .int (nI kt), .ref (a 3), .ref (a 4), .ref (a 5), .int (nI ln), .ref (a 6), .int (nI td)])), ((a 1), .inl (kA 0, 169, .inl (vI V))), ((a 2), .inl (kA 0, 1014, .inl (hs))), ((a 3), .inl (kA 0, 338, .inl (sl))), ((a 4), .inl (kA 2, 2, .inl (sv))), ((a 5), .inl (kA 0, 60, .inl (pd))), ((a 6), .inl (kA 0, 5, .inl (g_21)))] := hD
    refine lv_iconst (v := nI 0) hx hb dX5_least_24 (by decide) ?_
    refine lv_istore (lv' := [(6, .int (nI 0)), (0, .ref (a 0)), (1, .int (nI c)), (2, .int (nI d)), (3, .int bu), (4, .int ly), (5, .int (nI se))]) hx hb dX5_least_25 hl (by decide) rfl (fun ls hl => ?_)
    refine lv_iconst (v := nI 0) hx hb dX5_least_27 (by decide) ?_
    refine lv_istore (lv' := [(7, .int (nI 0)), (6, .int (nI 0)), (0, .ref (a 0)), (1, .int (nI c)), (2, .int (nI d)), (3, .int bu), (4, .int ly), (5, .int (nI se))]) hx hb dX5_least_28 hl (by decide) rfl (fun ls hl => ?_)
    have L30 : ∀ (fuel : Nat), ∀ (r : Nat) (v : Nat) (hmu : V 0 - r < fuel) (hr : r ≤ V 0) (hv9 : v ≤ 9) (hv : v = maxN r (fun r => if hdM (V 0) (TV V) c d bu ly se r = true then TV V r 4 else 0)) (ls : Array Slot) (_ : lv_has ls 9 [(7, .int (nI r)), (6, .int (nI v)), (0, .ref (a 0)), (1, .int (nI c)), (2, .int (nI d)), (3, .int bu), (4, .int ly), (5, .int (nI se))]), W xp xl xe (headSpec wsX5_least { frames := 4, cells := 0, slots := 0, locals := 93 }).room xs xm ([.ref (a 0), .int (nI c), .int (nI d), .int bu, .int ly, .int (nI se)] : List Value).toArray xbe xme xc H locs 0 0 (MQ xbe (xQi D A (fun r u => r = nI (lstM (V 0) (TV V) c d bu ly se) ∧ ∃ g : Nat → Int32, u = modW kA a V hs sl sv pd g kt ln td ∧ (pmM (V 0) (TV V) c d bu = true → ∀ q, q < 5 → g q = nI (stM (V 0) (TV V) c d bu ly se q)))) ([.ref (a 0), .int (nI c), .int (nI d), .int bu, .int ly, .int (nI se)] : List Value).toArray xs 0 0 A) (F0 xm 30 ls []) := by
      intro fuel
      induction fuel with
      | zero => intro r v hmu; exact absurd hmu (Nat.not_lt_zero _)
      | succ fuel ih30 =>
        intro r v hmu hr hv9 hv ls hl
        refine lv_iload hx hb dX5_least_30 (lv_at hl 0 rfl) ?_
        refine lv_aload_n hx hb dX5_least_32 rfl (lv_at hl 2 rfl) ?_
        refine xGet C hN hP 0 (j := 0) rfl rfl iX5_least_X5 (by decide) kX5_least_7 rfl rfl dX5_least_33 ?_
        refine lv_iconst (v := nI 0) hx hb dX5_least_36 (by decide) ?_
        refine xIald C hN hP 1 (j := 0) (v := nI (V 0)) rfl (by omega) (by decide) (rfl) dX5_least_37 ?_
        refine xIcmpGe C (tgt := 135) (by omega) (by omega) dX5_least_38 (by decide) (fun h_38 => ?_) (fun h_38 => ?_)
        · skip
          refine lv_iload hx hb dX5_least_135 (lv_at hl 1 rfl) ?_
          exact xRetI hx hb hret (v := nI v) (⟨by unfold lstM; rw [if_pos h_7, hv, show r = V 0 by omega], g_21, rfl, fun _ => hg_21⟩) hP hD hS dX5_least_137 hlocks
        · skip
          refine lv_iload hx hb dX5_least_41 (lv_at hl 0 rfl) ?_
          refine lv_iload_n hx hb dX5_least_43 rfl (lv_at hl 5 rfl) ?_
          refine lv_icmp_eq (tgt := 95) hx hb dX5_least_44 (by decide) (fun h_44 => ?_) (fun h_44 => ?_)
          · skip
            refine lv_iconst (v := nI 0) hx hb dX5_least_95 (by decide) ?_
            refine lv_istore (lv' := [(8, .int (nI 0)), (7, .int (nI r)), (6, .int (nI v)), (0, .ref (a 0)), (1, .int (nI c)), (2, .int (nI d)), (3, .int bu), (4, .int ly), (5, .int (nI se))]) hx hb dX5_least_96 hl (by decide) rfl (fun ls hl => ?_)
            refine lv_iload hx hb dX5_least_98 (lv_at hl 0 rfl) ?_
            refine xIfEq C (tgt := 125) (by omega) dX5_least_100 (by decide) (fun h_100 => ?_) (fun h_100 => ?_)
            · skip
              refine lv_iload hx hb dX5_least_125 (lv_at hl 2 rfl) ?_
              refine lv_istore (lv' := [(6, .int (nI v)), (8, .int (nI 0)), (7, .int (nI r)), (0, .ref (a 0)), (1, .int (nI c)), (2, .int (nI d)), (3, .int bu), (4, .int ly), (5, .int (nI se))]) hx hb dX5_least_127 hl (by decide) rfl (fun ls hl => ?_)
              refine xIinc C (kx := 2) (d := 1) (lv' := [(7, .int (nI (r + 1))), (6, .int (nI v)), (8, .int (nI 0)), (0, .ref (a 0)), (1, .int (nI c)), (2, .int (nI d)), (3, .int bu), (4, .int ly), (5, .int (nI se))]) dX5_least_129 hl rfl (by decide) (by decide) rfl (fun ls hl => ?_)
              refine lv_goto (tgt := 30) hx hb dX5_least_132 (by decide) ?_
              exact ih30 (r + 1) v (by omega) (by omega) (by have := hW r (by omega); omega) (by first | (rw [← mx_t hv (hd_t h_44 h_55 h_66 h_88)]; omega) | exact mx_f hv (hd_f (Or.inr (Or.inr (Or.inr h_88)))) | exact mx_f hv (hd_f (Or.inr (Or.inr (Or.inl h_66)))) | exact mx_f hv (hd_f (Or.inr (Or.inl h_55))) | exact mx_f hv (hd_f (Or.inl h_44))) _ (lv_sub hl [0, 1, 3, 4, 5, 6, 7, 8] rfl)
            · exact absurd h_100 (by decide)
          · skip
            refine lv_aload_n hx hb dX5_least_47 rfl (lv_at hl 2 rfl) ?_
            refine lv_iload hx hb dX5_least_48 (lv_at hl 0 rfl) ?_
            refine lv_iconst (v := nI 1) hx hb dX5_least_50 (by decide) ?_
            refine xVro C hN (As := [.int (nI r), .int (nI 1)]) (rest := []) (q0 := 0) (c_X5_of xl D kA a V hs sl sv pd g_21 kt ln td r 1 (by omega) (by omega)) (cwV 2 hts gX5_least_X5_of rfl rfl rfl (by decide +kernel) ⟨Nat.le_of_ble_eq_true rfl, Nat.le_of_ble_eq_true rfl⟩) hP rfl rfl rfl rfl hl.1 rfl (Nat.le_of_ble_eq_true rfl) dX5_least_51 ⟨Nat.le_of_ble_eq_true rfl, Nat.le_of_ble_eq_true rfl⟩ ?_
            refine lv_iconst (v := nI 1) hx hb dX5_least_54 (by decide) ?_
            refine xIcmpNe C (tgt := 95) (by have := hW r (by omega); omega) (by decide) dX5_least_55 (by decide) (fun h_55 => ?_) (fun h_55 => ?_)
            · skip
              refine lv_iconst (v := nI 0) hx hb dX5_least_95 (by decide) ?_
              refine lv_istore (lv' := [(8, .int (nI 0)), (7, .int (nI r)), (6, .int (nI v)), (0, .ref (a 0)), (1, .int (nI c)), (2, .int (nI d)), (3, .int bu), (4, .int ly), (5, .int (nI se))]) hx hb dX5_least_96 hl (by decide) rfl (fun ls hl => ?_)
              refine lv_iload hx hb dX5_least_98 (lv_at hl 0 rfl) ?_
              refine xIfEq C (tgt := 125) (by omega) dX5_least_100 (by decide) (fun h_100 => ?_) (fun h_100 => ?_)
              · skip
                refine lv_iload hx hb dX5_least_125 (lv_at hl 2 rfl) ?_
                refine lv_istore (lv' := [(6, .int (nI v)), (8, .int (nI 0)), (7, .int (nI r)), (0, .ref (a 0)), (1, .int (nI c)), (2, .int (nI d)), (3, .int bu), (4, .int ly), (5, .int (nI se))]) hx hb dX5_least_127 hl (by decide) rfl (fun ls hl => ?_)
                refine xIinc C (kx := 2) (d := 1) (lv' := [(7, .int (nI (r + 1))), (6, .int (nI v)), (8, .int (nI 0)), (0, .ref (a 0)), (1, .int (nI c)), (2, .int (nI d)), (3, .int bu), (4, .int ly), (5, .int (nI se))]) dX5_least_129 hl rfl (by decide) (by decide) rfl (fun ls hl => ?_)
                refine lv_goto (tgt := 30) hx hb dX5_least_132 (by decide) ?_
                exact ih30 (r + 1) v (by omega) (by omega) (by have := hW r (by omega); omega) (by first | (rw [← mx_t hv (hd_t h_44 h_55 h_66 h_88)]; omega) | exact mx_f hv (hd_f (Or.inr (Or.inr (Or.inr h_88)))) | exact mx_f hv (hd_f (Or.inr (Or.inr (Or.inl h_66)))) | exact mx_f hv (hd_f (Or.inr (Or.inl h_55))) | exact mx_f hv (hd_f (Or.inl h_44))) _ (lv_sub hl [0, 1, 3, 4, 5, 6, 7, 8] rfl)
              · exact absurd h_100 (by decide)
            · skip
              refine lv_aload_n hx hb dX5_least_58 rfl (lv_at hl 2 rfl) ?_
              refine lv_iload hx hb dX5_least_59 (lv_at hl 0 rfl) ?_
              refine lv_iload_n hx hb dX5_least_61 rfl (lv_at hl 3 rfl) ?_
              refine lv_iload_n hx hb dX5_least_62 rfl (lv_at hl 4 rfl) ?_
              refine xVro C hN (As := [.int (nI r), .int (nI c), .int (nI d)]) (rest := []) (q0 := 0) (c_X5_fits xl D kA a V hs sl sv pd g_21 kt ln td hV hW r c d (by omega) hc hd) (cwV 3 hts gX5_least_X5_fits rfl rfl rfl (by decide +kernel) ⟨Nat.le_of_ble_eq_true rfl, Nat.le_of_ble_eq_true rfl⟩) hP rfl rfl rfl rfl hl.1 rfl (Nat.le_of_ble_eq_true rfl) dX5_least_63 ⟨Nat.le_of_ble_eq_true rfl, Nat.le_of_ble_eq_true rfl⟩ ?_
              refine xIfEqB C (tgt := 95) dX5_least_66 (by decide) (fun h_66 => ?_) (fun h_66 => ?_)
              · skip
                refine lv_iconst (v := nI 0) hx hb dX5_least_95 (by decide) ?_
                refine lv_istore (lv' := [(8, .int (nI 0)), (7, .int (nI r)), (6, .int (nI v)), (0, .ref (a 0)), (1, .int (nI c)), (2, .int (nI d)), (3, .int bu), (4, .int ly), (5, .int (nI se))]) hx hb dX5_least_96 hl (by decide) rfl (fun ls hl => ?_)
                refine lv_iload hx hb dX5_least_98 (lv_at hl 0 rfl) ?_
                refine xIfEq C (tgt := 125) (by omega) dX5_least_100 (by decide) (fun h_100 => ?_) (fun h_100 => ?_)
                · skip
                  refine lv_iload hx hb dX5_least_125 (lv_at hl 2 rfl) ?_
                  refine lv_istore (lv' := [(6, .int (nI v)), (8, .int (nI 0)), (7, .int (nI r)), (0, .ref (a 0)), (1, .int (nI c)), (2, .int (nI d)), (3, .int bu), (4, .int ly), (5, .int (nI se))]) hx hb dX5_least_127 hl (by decide) rfl (fun ls hl => ?_)
                  refine xIinc C (kx := 2) (d := 1) (lv' := [(7, .int (nI (r + 1))), (6, .int (nI v)), (8, .int (nI 0)), (0, .ref (a 0)), (1, .int (nI c)), (2, .int (nI d)), (3, .int bu), (4, .int ly), (5, .int (nI se))]) dX5_least_129 hl rfl (by decide) (by decide) rfl (fun ls hl => ?_)
                  refine lv_goto (tgt := 30) hx hb dX5_least_132 (by decide) ?_
                  exact ih30 (r + 1) v (by omega) (by omega) (by have := hW r (by omega); omega) (by first | (rw [← mx_t hv (hd_t h_44 h_55 h_66 h_88)]; omega) | exact mx_f hv (hd_f (Or.inr (Or.inr (Or.inr h_88)))) | exact mx_f hv (hd_f (Or.inr (Or.inr (Or.inl h_66)))) | exact mx_f hv (hd_f (Or.inr (Or.inl h_55))) | exact mx_f hv (hd_f (Or.inl h_44))) _ (lv_sub hl [0, 1, 3, 4, 5, 6, 7, 8] rfl)
                · exact absurd h_100 (by decide)
              · skip
                refine lv_aload_n hx hb dX5_least_69 rfl (lv_at hl 2 rfl) ?_
                refine xGet C hN hP 0 (j := 7) rfl rfl iX5_least_X5 (by decide) kX5_least_26 rfl rfl dX5_least_70 ?_
                refine lv_aload_n hx hb dX5_least_73 rfl (lv_at hl 2 rfl) ?_
                refine lv_iload hx hb dX5_least_74 (lv_at hl 0 rfl) ?_
                refine lv_iconst (v := nI 0) hx hb dX5_least_76 (by decide) ?_
                refine xVro C hN (As := [.int (nI r), .int (nI 0)]) (rest := [.ref (a 6)]) (q0 := 0) (c_X5_of xl D kA a V hs sl sv pd g_21 kt ln td r 0 (by omega) (by omega)) (cwV 2 hts gX5_least_X5_of rfl rfl rfl (by decide +kernel) ⟨Nat.le_of_ble_eq_true rfl, Nat.le_of_ble_eq_true rfl⟩) hP rfl rfl rfl rfl hl.1 rfl (Nat.le_of_ble_eq_true rfl) dX5_least_77 ⟨Nat.le_of_ble_eq_true rfl, Nat.le_of_ble_eq_true rfl⟩ ?_
                refine xIald C hN hP 6 (j := TV V r 0) (v := nI (stM (V 0) (TV V) c d bu ly se (TV V r 0))) rfl (by have := hW r (by omega); omega) (by decide) (hg_21 _ (by have := hW r (by omega); omega)) dX5_least_80 ?_
                refine lv_aload_n hx hb dX5_least_81 rfl (lv_at hl 2 rfl) ?_
                refine lv_iload hx hb dX5_least_82 (lv_at hl 0 rfl) ?_
                refine lv_iconst (v := nI 4) hx hb dX5_least_84 (by decide) ?_
                refine xVro C hN (As := [.int (nI r), .int (nI 4)]) (rest := [.int (nI (stM (V 0) (TV V) c d bu ly se (TV V r 0)))]) (q0 := 0) (c_X5_of xl D kA a V hs sl sv pd g_21 kt ln td r 4 (by omega) (by omega)) (cwV 2 hts gX5_least_X5_of rfl rfl rfl (by decide +kernel) ⟨Nat.le_of_ble_eq_true rfl, Nat.le_of_ble_eq_true rfl⟩) hP rfl rfl rfl rfl hl.1 rfl (Nat.le_of_ble_eq_true rfl) dX5_least_85 ⟨Nat.le_of_ble_eq_true rfl, Nat.le_of_ble_eq_true rfl⟩ ?_
                refine xIcmpGe C (tgt := 95) (by have := pmx_le (F := lf2 (TV V) c d bu ly se (V 0)) (k := 9) (fun q => lf2_le hW (Nat.le_refl _) hse) (TV V r 0); unfold stM; omega) (by have := hW r (by omega); omega) dX5_least_88 (by decide) (fun h_88 => ?_) (fun h_88 => ?_)
                · skip
                  refine lv_iconst (v := nI 0) hx hb dX5_least_95 (by decide) ?_
                  refine lv_istore (lv' := [(8, .int (nI 0)), (7, .int (nI r)), (6, .int (nI v)), (0, .ref (a 0)), (1, .int (nI c)), (2, .int (nI d)), (3, .int bu), (4, .int ly), (5, .int (nI se))]) hx hb dX5_least_96 hl (by decide) rfl (fun ls hl => ?_)
                  refine lv_iload hx hb dX5_least_98 (lv_at hl 0 rfl) ?_
                  refine xIfEq C (tgt := 125) (by omega) dX5_least_100 (by decide) (fun h_100 => ?_) (fun h_100 => ?_)
                  · skip
                    refine lv_iload hx hb dX5_least_125 (lv_at hl 2 rfl) ?_
                    refine lv_istore (lv' := [(6, .int (nI v)), (8, .int (nI 0)), (7, .int (nI r)), (0, .ref (a 0)), (1, .int (nI c)), (2, .int (nI d)), (3, .int bu), (4, .int ly), (5, .int (nI se))]) hx hb dX5_least_127 hl (by decide) rfl (fun ls hl => ?_)
                    refine xIinc C (kx := 2) (d := 1) (lv' := [(7, .int (nI (r + 1))), (6, .int (nI v)), (8, .int (nI 0)), (0, .ref (a 0)), (1, .int (nI c)), (2, .int (nI d)), (3, .int bu), (4, .int ly), (5, .int (nI se))]) dX5_least_129 hl rfl (by decide) (by decide) rfl (fun ls hl => ?_)
                    refine lv_goto (tgt := 30) hx hb dX5_least_132 (by decide) ?_
                    exact ih30 (r + 1) v (by omega) (by omega) (by have := hW r (by omega); omega) (by first | (rw [← mx_t hv (hd_t h_44 h_55 h_66 h_88)]; omega) | exact mx_f hv (hd_f (Or.inr (Or.inr (Or.inr h_88)))) | exact mx_f hv (hd_f (Or.inr (Or.inr (Or.inl h_66)))) | exact mx_f hv (hd_f (Or.inr (Or.inl h_55))) | exact mx_f hv (hd_f (Or.inl h_44))) _ (lv_sub hl [0, 1, 3, 4, 5, 6, 7, 8] rfl)
                  · exact absurd h_100 (by decide)
                · skip
                  refine lv_iconst (v := nI 1) hx hb dX5_least_91 (by decide) ?_
                  refine lv_goto (tgt := 96) hx hb dX5_least_92 (by decide) ?_
                  refine lv_istore (lv' := [(8, .int (nI 1)), (7, .int (nI r)), (6, .int (nI v)), (0, .ref (a 0)), (1, .int (nI c)), (2, .int (nI d)), (3, .int bu), (4, .int ly), (5, .int (nI se))]) hx hb dX5_least_96 hl (by decide) rfl (fun ls hl => ?_)
                  refine lv_iload hx hb dX5_least_98 (lv_at hl 0 rfl) ?_
                  refine xIfEq C (tgt := 125) (by omega) dX5_least_100 (by decide) (fun h_100 => ?_) (fun h_100 => ?_)
                  · exact absurd h_100 (by decide)
                  · skip
                    refine lv_aload_n hx hb dX5_least_103 rfl (lv_at hl 3 rfl) ?_
                    refine lv_iload hx hb dX5_least_104 (lv_at hl 1 rfl) ?_
                    refine lv_iconst (v := nI 4) hx hb dX5_least_106 (by decide) ?_
                    refine xVro C hN (As := [.int (nI r), .int (nI 4)]) (rest := []) (q0 := 0) (c_X5_of xl D kA a V hs sl sv pd g_21 kt ln td r 4 (by omega) (by omega)) (cwV 2 hts gX5_least_X5_of rfl rfl rfl (by decide +kernel) ⟨Nat.le_of_ble_eq_true rfl, Nat.le_of_ble_eq_true rfl⟩) hP rfl rfl rfl rfl hl.1 rfl (Nat.le_of_ble_eq_true rfl) dX5_least_107 ⟨Nat.le_of_ble_eq_true rfl, Nat.le_of_ble_eq_true rfl⟩ ?_
                    refine lv_iload hx hb dX5_least_110 (lv_at hl 2 rfl) ?_
                    refine xIcmpLe C (tgt := 125) (by have := hW r (by omega); omega) (by omega) dX5_least_112 (by decide) (fun h_112 => ?_) (fun h_112 => ?_)
                    · skip
                      refine lv_iload hx hb dX5_least_125 (lv_at hl 2 rfl) ?_
                      refine lv_istore (lv' := [(6, .int (nI v)), (8, .int (nI 1)), (7, .int (nI r)), (0, .ref (a 0)), (1, .int (nI c)), (2, .int (nI d)), (3, .int bu), (4, .int ly), (5, .int (nI se))]) hx hb dX5_least_127 hl (by decide) rfl (fun ls hl => ?_)
                      refine xIinc C (kx := 2) (d := 1) (lv' := [(7, .int (nI (r + 1))), (6, .int (nI v)), (8, .int (nI 1)), (0, .ref (a 0)), (1, .int (nI c)), (2, .int (nI d)), (3, .int bu), (4, .int ly), (5, .int (nI se))]) dX5_least_129 hl rfl (by decide) (by decide) rfl (fun ls hl => ?_)
                      refine lv_goto (tgt := 30) hx hb dX5_least_132 (by decide) ?_
                      exact ih30 (r + 1) v (by omega) (by omega) (by have := hW r (by omega); omega) (by first | (rw [← mx_t hv (hd_t h_44 h_55 h_66 h_88)]; omega) | exact mx_f hv (hd_f (Or.inr (Or.inr (Or.inr h_88)))) | exact mx_f hv (hd_f (Or.inr (Or.inr (Or.inl h_66)))) | exact mx_f hv (hd_f (Or.inr (Or.inl h_55))) | exact mx_f hv (hd_f (Or.inl h_44))) _ (lv_sub hl [0, 1, 3, 4, 5, 6, 7, 8] rfl)
                    · skip
                      refine lv_aload_n hx hb dX5_least_115 rfl (lv_at hl 3 rfl) ?_
                      refine lv_iload hx hb dX5_least_116 (lv_at hl 1 rfl) ?_
                      refine lv_iconst (v := nI 4) hx hb dX5_least_118 (by decide) ?_
                      refine xVro C hN (As := [.int (nI r), .int (nI 4)]) (rest := []) (q0 := 0) (c_X5_of xl D kA a V hs sl sv pd g_21 kt ln td r 4 (by omega) (by omega)) (cwV 2 hts gX5_least_X5_of rfl rfl rfl (by decide +kernel) ⟨Nat.le_of_ble_eq_true rfl, Nat.le_of_ble_eq_true rfl⟩) hP rfl rfl rfl rfl hl.1 rfl (Nat.le_of_ble_eq_true rfl) dX5_least_119 ⟨Nat.le_of_ble_eq_true rfl, Nat.le_of_ble_eq_true rfl⟩ ?_
                      refine lv_goto (tgt := 127) hx hb dX5_least_122 (by decide) ?_
                      refine lv_istore (lv' := [(6, .int (nI (TV V r 4))), (8, .int (nI 1)), (7, .int (nI r)), (0, .ref (a 0)), (1, .int (nI c)), (2, .int (nI d)), (3, .int bu), (4, .int ly), (5, .int (nI se))]) hx hb dX5_least_127 hl (by decide) rfl (fun ls hl => ?_)
                      refine xIinc C (kx := 2) (d := 1) (lv' := [(7, .int (nI (r + 1))), (6, .int (nI (TV V r 4))), (8, .int (nI 1)), (0, .ref (a 0)), (1, .int (nI c)), (2, .int (nI d)), (3, .int bu), (4, .int ly), (5, .int (nI se))]) dX5_least_129 hl rfl (by decide) (by decide) rfl (fun ls hl => ?_)
                      refine lv_goto (tgt := 30) hx hb dX5_least_132 (by decide) ?_
                      exact ih30 (r + 1) (TV V r 4) (by omega) (by omega) (by have := hW r (by omega); omega) (by first | (rw [← mx_t hv (hd_t h_44 h_55 h_66 h_88)]; omega) | exact mx_f hv (hd_f (Or.inr (Or.inr (Or.inr h_88)))) | exact mx_f hv (hd_f (Or.inr (Or.inr (Or.inl h_66)))) | exact mx_f hv (hd_f (Or.inr (Or.inl h_55))) | exact mx_f hv (hd_f (Or.inl h_44))) _ (lv_sub hl [0, 1, 3, 4, 5, 6, 7, 8] rfl)
    exact L30 _ 0 0 (Nat.lt_succ_self _) (by omega) (by omega) rfl _ (lv_sub hl [0, 1, 2, 3, 4, 5, 6, 7] rfl)
  · skip
    refine lv_bipush (v := nI 10) hx hb dX5_least_10 (by decide) ?_
    exact xRetI hx hb hret (v := nI 10) (⟨by unfold lstM; rw [h_7]; rfl, sg, rfl, fun q => by rw [h_7] at q; cases q⟩) hP hD hS dX5_least_12 hlocks

set_option maxHeartbeats 8000000 in
set_option maxRecDepth 100000 in
theorem c_X5_leastNow (xl : Launch) (D : va_G) (kA : Nat → ClassId) (a : Nat → Nat) (V : Nat → Nat) (hs sl sv pd sg : Nat → Int32) (kt ln td : Nat) (hV : V 0 ≤ 24) (hW : WfT (V 0) (TV V)) (c d : Nat) (hc : c < 5) (hd : d < 6) (A : Nat → Prop) : Met xl yX5_leastNow wsX5_leastNow { frames := 5, cells := 0, slots := 0, locals := 121 } (va_Pc [.ref (a 0), .int (nI c), .int (nI d)] (xPw D kA A [((a 0), .inr (5, [.ref (a 1), .ref (a 2), .int (nI kt), .ref (a 3), .ref (a 4), .ref (a 5), .int (nI ln), .ref (a 6), .int (nI td)])), ((a 1), .inl (kA 0, 169, .inl (vI V))), ((a 2), .inl (kA 0, 1014, .inl (hs))), ((a 3), .inl (kA 0, 338, .inl (sl))), ((a 4), .inl (kA 2, 2, .inl (sv))), ((a 5), .inl (kA 0, 60, .inl (pd))), ((a 6), .inl (kA 0, 5, .inl (sg)))])) (xQi D A (fun r u => r = nI (lstM (V 0) (TV V) c d (-6) (-6) 0) ∧ ∃ g : Nat → Int32, u = modW kA a V hs sl sv pd g kt ln td ∧ (pmM (V 0) (TV V) c d (-6) = true → ∀ q, q < 5 → g q = nI (stM (V 0) (TV V) c d (-6) (-6) 0 q)))) 0 0 A := by
  refine Met.ofW (cc := cX5_leastNow) (maxL := 3) (ret := (some .int)) (by decide) rfl ?_
  intro xp xe xs xm args xbe xme xc s₁ B hml hv
  obtain ⟨rfl, hP, hN, hD, hA⟩ := hv
  have hret := B.returns
  have C : CallFix xp xm xc cX5_leastNow 3 xs ([.ref (a 0), .int (nI c), .int (nI d)] : List Value).toArray wsX5_leastNow RX5 := ⟨B.exec, B.bytes, hml, findClass_of_methodNamed B.named, atoms_spec (ws := wsX5_leastNow) B.pre⟩
  have hlocks := B.notSynchronized
  obtain ⟨hx, hb, _, hown, hts⟩ := id C
  have hS : va_S A xs.heap xs.heap [] := va_S.rf
  have hl := lv_entry ([.ref (a 0), .int (nI c), .int (nI d)]) (n := 3) (Nat.le_of_ble_eq_true rfl)
  rw [lg_entry_eq]
  generalize (lg_sl ([.ref (a 0), .int (nI c), .int (nI d)]) ++ List.replicate (3 - (lg_sl ([.ref (a 0), .int (nI c), .int (nI d)])).length) Slot.unset).toArray = ls at hl ⊢
  have hl : lv_has ls 3 [(0, .ref (a 0)), (1, .int (nI c)), (2, .int (nI d))] := hl
  refine lv_aload_n hx hb dX5_leastNow_0 rfl (lv_at hl 0 rfl) ?_
  refine lv_iload_n hx hb dX5_leastNow_1 rfl (lv_at hl 1 rfl) ?_
  refine lv_iload_n hx hb dX5_leastNow_2 rfl (lv_at hl 2 rfl) ?_
  refine lv_bipush (v := (-6)) hx hb dX5_leastNow_3 (by decide) ?_
  refine lv_bipush (v := (-6)) hx hb dX5_leastNow_5 (by decide) ?_
  refine lv_iconst (v := nI 0) hx hb dX5_leastNow_7 (by decide) ?_
  refine xWWi hS (va_runV (As := [.int (nI c), .int (nI d), .int (-6), .int (-6), .int (nI 0)]) (rest := []) C (c_X5_least xl D kA a V hs sl sv pd sg kt ln td hV hW c d hc hd (-6) (-6) 0 (by omega) A) (cwV 5 hts gX5_leastNow_X5_least rfl rfl rfl (by decide +kernel) ⟨Nat.le_of_ble_eq_true rfl, Nat.le_of_ble_eq_true rfl⟩) (xPreVw (q0 := 0) hN hP hD (xAll hS hA) rfl rfl rfl) rfl rfl hl.1 rfl (lv_room (Nat.le_of_ble_eq_true rfl)) dX5_leastNow_8 ⟨Nat.le_of_ble_eq_true rfl, Nat.le_of_ble_eq_true rfl⟩) (fun r_8 u_8 H locs hq_8 hP hD hS => ?_)
  obtain ⟨rfl, g_8, rfl, hg_8⟩ := hq_8
  have hP : va_P D vwCl [((a 0), .inr (5, [.ref (a 1), .ref (a 2), .int (nI kt), .ref (a 3), .ref (a 4), .ref (a 5), .int (nI ln), .ref (a 6), .int (nI td)])), ((a 1), .inl (kA 0, 169, .inl (vI V))), ((a 2), .inl (kA 0, 1014, .inl (hs))), ((a 3), .inl (kA 0, 338, .inl (sl))), ((a 4), .inl (kA 2, 2, .inl (sv))), ((a 5), .inl (kA 0, 60, .inl (pd))), ((a 6), .inl (kA 0, 5, .inl (g_8)))] H := hP
  have hD : va_D A [((a 0), .inr (5, [.ref (a 1), .ref (a 2), .int (nI kt), .ref (a 3), .ref (a 4), .ref (a 5), .int (nI ln), .ref (a 6), .int (nI td)])), ((a 1), .inl (kA 0, 169, .inl (vI V))), ((a 2), .inl (kA 0, 1014, .inl (hs))), ((a 3), .inl (kA 0, 338, .inl (sl))), ((a 4), .inl (kA 2, 2, .inl (sv))), ((a 5), .inl (kA 0, 60, .inl (pd))), ((a 6), .inl (kA 0, 5, .inl (g_8)))] := hD
  exact xRetI hx hb hret (v := nI (lstM (V 0) (TV V) c d (-6) (-6) 0)) (⟨rfl, g_8, rfl, hg_8⟩) hP hD hS dX5_leastNow_11 hlocks

set_option maxHeartbeats 8000000 in
set_option maxRecDepth 100000 in
theorem c_X5_triples (xl : Launch) (D : va_G) (kA : Nat → ClassId) (a : Nat → Nat) (V : Nat → Nat) (hs sl sv pd sg : Nat → Int32) (kt ln td : Nat) (hV : V 0 ≤ 24) (hW : WfT (V 0) (TV V)) (bu ly : Int32) (se : Nat) (hse : se ≤ 9) (A : Nat → Prop) : Met xl yX5_triples wsX5_triples { frames := 5, cells := 0, slots := 0, locals := 121 } (va_Pc [.ref (a 0), .int bu, .int ly, .int (nI se)] (xPw D kA A [((a 0), .inr (5, [.ref (a 1), .ref (a 2), .int (nI kt), .ref (a 3), .ref (a 4), .ref (a 5), .int (nI ln), .ref (a 6), .int (nI td)])), ((a 1), .inl (kA 0, 169, .inl (vI V))), ((a 2), .inl (kA 0, 1014, .inl (hs))), ((a 3), .inl (kA 0, 338, .inl (sl))), ((a 4), .inl (kA 2, 2, .inl (sv))), ((a 5), .inl (kA 0, 60, .inl (pd))), ((a 6), .inl (kA 0, 5, .inl (sg)))])) (xQi D A (fun r u => r = nI (trpM (V 0) (TV V) bu ly se) ∧ ∃ g : Nat → Int32, u = modW kA a V hs sl sv pd g kt ln td)) 0 0 A := by
  refine Met.ofW (cc := cX5_triples) (maxL := 6) (ret := (some .int)) (by decide) rfl ?_
  intro xp xe xs xm args xbe xme xc s₁ B hml hv
  obtain ⟨rfl, hP, hN, hD, hA⟩ := hv
  have hret := B.returns
  have C : CallFix xp xm xc cX5_triples 6 xs ([.ref (a 0), .int bu, .int ly, .int (nI se)] : List Value).toArray wsX5_triples RX5 := ⟨B.exec, B.bytes, hml, findClass_of_methodNamed B.named, atoms_spec (ws := wsX5_triples) B.pre⟩
  have hlocks := B.notSynchronized
  obtain ⟨hx, hb, _, hown, hts⟩ := id C
  have hS : va_S A xs.heap xs.heap [] := va_S.rf
  have hl := lv_entry ([.ref (a 0), .int bu, .int ly, .int (nI se)]) (n := 6) (Nat.le_of_ble_eq_true rfl)
  rw [lg_entry_eq]
  generalize (lg_sl ([.ref (a 0), .int bu, .int ly, .int (nI se)]) ++ List.replicate (6 - (lg_sl ([.ref (a 0), .int bu, .int ly, .int (nI se)])).length) Slot.unset).toArray = ls at hl ⊢
  have hl : lv_has ls 6 [(0, .ref (a 0)), (1, .int bu), (2, .int ly), (3, .int (nI se))] := hl
  refine lv_iconst (v := nI 0) hx hb dX5_triples_0 (by decide) ?_
  refine lv_istore (lv' := [(4, .int (nI 0)), (0, .ref (a 0)), (1, .int bu), (2, .int ly), (3, .int (nI se))]) hx hb dX5_triples_1 hl (by decide) rfl (fun ls hl => ?_)
  refine lv_iconst (v := nI 0) hx hb dX5_triples_3 (by decide) ?_
  refine lv_istore (lv' := [(5, .int (nI 0)), (4, .int (nI 0)), (0, .ref (a 0)), (1, .int bu), (2, .int ly), (3, .int (nI se))]) hx hb dX5_triples_4 hl (by decide) rfl (fun ls hl => ?_)
  have L6 : ∀ (fuel : Nat), ∀ (k : Nat) (v : Nat) (g1 : Nat → Int32) (hmu : 30 - k < fuel) (hk : k ≤ 30) (hv : v = sumN k (fun q => 10 - lstM (V 0) (TV V) (q / 6) (q % 6) bu ly se)) (H : Heap) (locs : List Loc) (_ : va_P D vwCl [((a 0), .inr (5, [.ref (a 1), .ref (a 2), .int (nI kt), .ref (a 3), .ref (a 4), .ref (a 5), .int (nI ln), .ref (a 6), .int (nI td)])), ((a 1), .inl (kA 0, 169, .inl (vI V))), ((a 2), .inl (kA 0, 1014, .inl (hs))), ((a 3), .inl (kA 0, 338, .inl (sl))), ((a 4), .inl (kA 2, 2, .inl (sv))), ((a 5), .inl (kA 0, 60, .inl (pd))), ((a 6), .inl (kA 0, 5, .inl (g1)))] H) (_ : va_D A [((a 0), .inr (5, [.ref (a 1), .ref (a 2), .int (nI kt), .ref (a 3), .ref (a 4), .ref (a 5), .int (nI ln), .ref (a 6), .int (nI td)])), ((a 1), .inl (kA 0, 169, .inl (vI V))), ((a 2), .inl (kA 0, 1014, .inl (hs))), ((a 3), .inl (kA 0, 338, .inl (sl))), ((a 4), .inl (kA 2, 2, .inl (sv))), ((a 5), .inl (kA 0, 60, .inl (pd))), ((a 6), .inl (kA 0, 5, .inl (g1)))]) (_ : va_S A xs.heap H locs) (ls : Array Slot) (_ : lv_has ls 6 [(5, .int (nI k)), (4, .int (nI v)), (0, .ref (a 0)), (1, .int bu), (2, .int ly), (3, .int (nI se))]), W xp xl xe (headSpec wsX5_triples { frames := 5, cells := 0, slots := 0, locals := 121 }).room xs xm ([.ref (a 0), .int bu, .int ly, .int (nI se)] : List Value).toArray xbe xme xc H locs 0 0 (MQ xbe (xQi D A (fun r u => r = nI (trpM (V 0) (TV V) bu ly se) ∧ ∃ g : Nat → Int32, u = modW kA a V hs sl sv pd g kt ln td)) ([.ref (a 0), .int bu, .int ly, .int (nI se)] : List Value).toArray xs 0 0 A) (F0 xm 6 ls []) := by
    intro fuel
    induction fuel with
    | zero => intro k v g1 hmu; exact absurd hmu (Nat.not_lt_zero _)
    | succ fuel ih6 =>
      intro k v g1 hmu hk hv H locs hP hD hS ls hl
      refine lv_iload hx hb dX5_triples_6 (lv_at hl 0 rfl) ?_
      refine lv_bipush (v := nI 30) hx hb dX5_triples_8 (by decide) ?_
      refine xIcmpGe C (tgt := 44) (by omega) (by decide) dX5_triples_10 (by decide) (fun h_10 => ?_) (fun h_10 => ?_)
      · skip
        refine lv_iload hx hb dX5_triples_44 (lv_at hl 1 rfl) ?_
        exact xRetI hx hb hret (v := nI v) (⟨by rw [hv, show k = 30 by omega]; rfl, g1, rfl⟩) hP hD hS dX5_triples_46 hlocks
      · skip
        refine lv_iload hx hb dX5_triples_13 (lv_at hl 1 rfl) ?_
        refine lv_bipush (v := nI 10) hx hb dX5_triples_15 (by decide) ?_
        refine lv_aload_n hx hb dX5_triples_17 rfl (lv_at hl 2 rfl) ?_
        refine lv_iload hx hb dX5_triples_18 (lv_at hl 0 rfl) ?_
        refine lv_bipush (v := nI 6) hx hb dX5_triples_20 (by decide) ?_
        refine xIdiv C (by omega) (by decide) (by decide) dX5_triples_22 ?_
        refine lv_iload hx hb dX5_triples_23 (lv_at hl 0 rfl) ?_
        refine lv_bipush (v := nI 6) hx hb dX5_triples_25 (by decide) ?_
        refine xIrem C (by omega) (by decide) (by decide) dX5_triples_27 ?_
        refine lv_iload_n hx hb dX5_triples_28 rfl (lv_at hl 3 rfl) ?_
        refine lv_iload_n hx hb dX5_triples_29 rfl (lv_at hl 4 rfl) ?_
        refine lv_iload_n hx hb dX5_triples_30 rfl (lv_at hl 5 rfl) ?_
        refine xWWi hS (va_runV (As := [.int (nI (k / 6)), .int (nI (k % 6)), .int bu, .int ly, .int (nI se)]) (rest := [.int (nI 10), .int (nI v)]) C (c_X5_least xl D kA a V hs sl sv pd g1 kt ln td hV hW (k / 6) (k % 6) (by omega) (by omega) bu ly se hse A) (cwV 5 hts gX5_triples_X5_least rfl rfl rfl (by decide +kernel) ⟨Nat.le_of_ble_eq_true rfl, Nat.le_of_ble_eq_true rfl⟩) (xPreVw (q0 := 0) hN hP hD (xAll hS hA) rfl rfl rfl) rfl rfl hl.1 rfl (lv_room (Nat.le_of_ble_eq_true rfl)) dX5_triples_31 ⟨Nat.le_of_ble_eq_true rfl, Nat.le_of_ble_eq_true rfl⟩) (fun r_31 u_31 H locs hq_31 hP hD hS => ?_)
        obtain ⟨rfl, g_31, rfl, hg_31⟩ := hq_31
        have hP : va_P D vwCl [((a 0), .inr (5, [.ref (a 1), .ref (a 2), .int (nI kt), .ref (a 3), .ref (a 4), .ref (a 5), .int (nI ln), .ref (a 6), .int (nI td)])), ((a 1), .inl (kA 0, 169, .inl (vI V))), ((a 2), .inl (kA 0, 1014, .inl (hs))), ((a 3), .inl (kA 0, 338, .inl (sl))), ((a 4), .inl (kA 2, 2, .inl (sv))), ((a 5), .inl (kA 0, 60, .inl (pd))), ((a 6), .inl (kA 0, 5, .inl (g_31)))] H := hP
        have hD : va_D A [((a 0), .inr (5, [.ref (a 1), .ref (a 2), .int (nI kt), .ref (a 3), .ref (a 4), .ref (a 5), .int (nI ln), .ref (a 6), .int (nI td)])), ((a 1), .inl (kA 0, 169, .inl (vI V))), ((a 2), .inl (kA 0, 1014, .inl (hs))), ((a 3), .inl (kA 0, 338, .inl (sl))), ((a 4), .inl (kA 2, 2, .inl (sv))), ((a 5), .inl (kA 0, 60, .inl (pd))), ((a 6), .inl (kA 0, 5, .inl (g_31)))] := hD
        refine xIsub C (by have := lstM_le (c := k / 6) (d := k % 6) (bu := bu) (ly := ly) (se := se) hW; omega) dX5_triples_34 ?_
        refine xIadd C dX5_triples_35 ?_
        refine lv_istore (lv' := [(4, .int (nI (v + (10 - (lstM (V 0) (TV V) (k / 6) (k % 6) bu ly se))))), (5, .int (nI k)), (0, .ref (a 0)), (1, .int bu), (2, .int ly), (3, .int (nI se))]) hx hb dX5_triples_36 hl (by decide) rfl (fun ls hl => ?_)
        refine xIinc C (kx := 1) (d := 1) (lv' := [(5, .int (nI (k + 1))), (4, .int (nI (v + (10 - (lstM (V 0) (TV V) (k / 6) (k % 6) bu ly se))))), (0, .ref (a 0)), (1, .int bu), (2, .int ly), (3, .int (nI se))]) dX5_triples_38 hl rfl (by decide) (by decide) rfl (fun ls hl => ?_)
        refine lv_goto (tgt := 6) hx hb dX5_triples_41 (by decide) ?_
        have hP : va_P D vwCl [((a 0), .inr (5, [.ref (a 1), .ref (a 2), .int (nI kt), .ref (a 3), .ref (a 4), .ref (a 5), .int (nI ln), .ref (a 6), .int (nI td)])), ((a 1), .inl (kA 0, 169, .inl (vI V))), ((a 2), .inl (kA 0, 1014, .inl (hs))), ((a 3), .inl (kA 0, 338, .inl (sl))), ((a 4), .inl (kA 2, 2, .inl (sv))), ((a 5), .inl (kA 0, 60, .inl (pd))), ((a 6), .inl (kA 0, 5, .inl (g_31)))] H := hP
        exact ih6 (k + 1) (v + (10 - (lstM (V 0) (TV V) (k / 6) (k % 6) bu ly se))) g_31 (by omega) (by omega) (by rw [sumN_succ, hv]) _ _ hP hD hS _ (lv_sub hl [0, 1, 2, 3, 4, 5] rfl)
  exact L6 _ 0 0 sg (Nat.lt_succ_self _) (by omega) rfl _ _ hP hD hS _ (lv_sub hl [0, 1, 2, 3, 4, 5] rfl)

set_option maxHeartbeats 8000000 in
set_option maxRecDepth 100000 in
theorem c_X5_triplesNow (xl : Launch) (D : va_G) (kA : Nat → ClassId) (a : Nat → Nat) (V : Nat → Nat) (hs sl sv pd sg : Nat → Int32) (kt ln td : Nat) (hV : V 0 ≤ 24) (hW : WfT (V 0) (TV V)) (A : Nat → Prop) : Met xl yX5_triplesNow wsX5_triplesNow { frames := 6, cells := 0, slots := 0, locals := 146 } (va_Pc [.ref (a 0)] (xPw D kA A [((a 0), .inr (5, [.ref (a 1), .ref (a 2), .int (nI kt), .ref (a 3), .ref (a 4), .ref (a 5), .int (nI ln), .ref (a 6), .int (nI td)])), ((a 1), .inl (kA 0, 169, .inl (vI V))), ((a 2), .inl (kA 0, 1014, .inl (hs))), ((a 3), .inl (kA 0, 338, .inl (sl))), ((a 4), .inl (kA 2, 2, .inl (sv))), ((a 5), .inl (kA 0, 60, .inl (pd))), ((a 6), .inl (kA 0, 5, .inl (sg)))])) (xQi D A (fun r u => r = nI (trpM (V 0) (TV V) (-6) (-6) 0) ∧ ∃ g : Nat → Int32, u = modW kA a V hs sl sv pd g kt ln td)) 0 0 A := by
  refine Met.ofW (cc := cX5_triplesNow) (maxL := 1) (ret := (some .int)) (by decide) rfl ?_
  intro xp xe xs xm args xbe xme xc s₁ B hml hv
  obtain ⟨rfl, hP, hN, hD, hA⟩ := hv
  have hret := B.returns
  have C : CallFix xp xm xc cX5_triplesNow 1 xs ([.ref (a 0)] : List Value).toArray wsX5_triplesNow RX5 := ⟨B.exec, B.bytes, hml, findClass_of_methodNamed B.named, atoms_spec (ws := wsX5_triplesNow) B.pre⟩
  have hlocks := B.notSynchronized
  obtain ⟨hx, hb, _, hown, hts⟩ := id C
  have hS : va_S A xs.heap xs.heap [] := va_S.rf
  have hl := lv_entry ([.ref (a 0)]) (n := 1) (Nat.le_of_ble_eq_true rfl)
  rw [lg_entry_eq]
  generalize (lg_sl ([.ref (a 0)]) ++ List.replicate (1 - (lg_sl ([.ref (a 0)])).length) Slot.unset).toArray = ls at hl ⊢
  have hl : lv_has ls 1 [(0, .ref (a 0))] := hl
  refine lv_aload_n hx hb dX5_triplesNow_0 rfl (lv_at hl 0 rfl) ?_
  refine lv_bipush (v := (-6)) hx hb dX5_triplesNow_1 (by decide) ?_
  refine lv_bipush (v := (-6)) hx hb dX5_triplesNow_3 (by decide) ?_
  refine lv_iconst (v := nI 0) hx hb dX5_triplesNow_5 (by decide) ?_
  refine xWWi hS (va_runV (As := [.int (-6), .int (-6), .int (nI 0)]) (rest := []) C (c_X5_triples xl D kA a V hs sl sv pd sg kt ln td hV hW (-6) (-6) 0 (by omega) A) (cwV 3 hts gX5_triplesNow_X5_triples rfl rfl rfl (by decide +kernel) ⟨Nat.le_of_ble_eq_true rfl, Nat.le_of_ble_eq_true rfl⟩) (xPreVw (q0 := 0) hN hP hD (xAll hS hA) rfl rfl rfl) rfl rfl hl.1 rfl (lv_room (Nat.le_of_ble_eq_true rfl)) dX5_triplesNow_6 ⟨Nat.le_of_ble_eq_true rfl, Nat.le_of_ble_eq_true rfl⟩) (fun r_6 u_6 H locs hq_6 hP hD hS => ?_)
  obtain ⟨rfl, g_6, rfl⟩ := hq_6
  have hP : va_P D vwCl [((a 0), .inr (5, [.ref (a 1), .ref (a 2), .int (nI kt), .ref (a 3), .ref (a 4), .ref (a 5), .int (nI ln), .ref (a 6), .int (nI td)])), ((a 1), .inl (kA 0, 169, .inl (vI V))), ((a 2), .inl (kA 0, 1014, .inl (hs))), ((a 3), .inl (kA 0, 338, .inl (sl))), ((a 4), .inl (kA 2, 2, .inl (sv))), ((a 5), .inl (kA 0, 60, .inl (pd))), ((a 6), .inl (kA 0, 5, .inl (g_6)))] H := hP
  have hD : va_D A [((a 0), .inr (5, [.ref (a 1), .ref (a 2), .int (nI kt), .ref (a 3), .ref (a 4), .ref (a 5), .int (nI ln), .ref (a 6), .int (nI td)])), ((a 1), .inl (kA 0, 169, .inl (vI V))), ((a 2), .inl (kA 0, 1014, .inl (hs))), ((a 3), .inl (kA 0, 338, .inl (sl))), ((a 4), .inl (kA 2, 2, .inl (sv))), ((a 5), .inl (kA 0, 60, .inl (pd))), ((a 6), .inl (kA 0, 5, .inl (g_6)))] := hD
  exact xRetI hx hb hret (v := nI (trpM (V 0) (TV V) (-6) (-6) 0)) (⟨rfl, g_6, rfl⟩) hP hD hS dX5_triplesNow_9 hlocks

set_option maxHeartbeats 8000000 in
set_option maxRecDepth 100000 in
theorem c_X5_isIdle (xl : Launch) (D : va_G) (kA : Nat → ClassId) (a : Nat → Nat) (V : Nat → Nat) (hs sl sv pd sg : Nat → Int32) (kt ln td : Nat) (hV : V 0 ≤ 24) (hW : WfT (V 0) (TV V)) (i : Nat) (hi : i < V 0) (A : Nat → Prop) : Met xl yX5_isIdle wsX5_isIdle { frames := 6, cells := 0, slots := 0, locals := 143 } (va_Pc [.ref (a 0), .int (nI i)] (xPw D kA A [((a 0), .inr (5, [.ref (a 1), .ref (a 2), .int (nI kt), .ref (a 3), .ref (a 4), .ref (a 5), .int (nI ln), .ref (a 6), .int (nI td)])), ((a 1), .inl (kA 0, 169, .inl (vI V))), ((a 2), .inl (kA 0, 1014, .inl (hs))), ((a 3), .inl (kA 0, 338, .inl (sl))), ((a 4), .inl (kA 2, 2, .inl (sv))), ((a 5), .inl (kA 0, 60, .inl (pd))), ((a 6), .inl (kA 0, 5, .inl (sg)))])) (xQi D A (fun r u => r = bI (idM (V 0) (TV V) i) ∧ ∃ g : Nat → Int32, u = modW kA a V hs sl sv pd g kt ln td)) 0 0 A := by
  refine Met.ofW (cc := cX5_isIdle) (maxL := 4) (ret := (some .boolean)) (by decide) rfl ?_
  intro xp xe xs xm args xbe xme xc s₁ B hml hv
  obtain ⟨rfl, hP, hN, hD, hA⟩ := hv
  have hret := B.returns
  have C : CallFix xp xm xc cX5_isIdle 4 xs ([.ref (a 0), .int (nI i)] : List Value).toArray wsX5_isIdle RX5 := ⟨B.exec, B.bytes, hml, findClass_of_methodNamed B.named, atoms_spec (ws := wsX5_isIdle) B.pre⟩
  have hlocks := B.notSynchronized
  obtain ⟨hx, hb, _, hown, hts⟩ := id C
  have hS : va_S A xs.heap xs.heap [] := va_S.rf
  have hl := lv_entry ([.ref (a 0), .int (nI i)]) (n := 4) (Nat.le_of_ble_eq_true rfl)
  rw [lg_entry_eq]
  generalize (lg_sl ([.ref (a 0), .int (nI i)]) ++ List.replicate (4 - (lg_sl ([.ref (a 0), .int (nI i)])).length) Slot.unset).toArray = ls at hl ⊢
  have hl : lv_has ls 4 [(0, .ref (a 0)), (1, .int (nI i))] := hl
  refine lv_iconst (v := nI 1) hx hb dX5_isIdle_0 (by decide) ?_
  refine lv_istore_n (lv' := [(2, .int (nI 1)), (0, .ref (a 0)), (1, .int (nI i))]) hx hb dX5_isIdle_1 rfl hl (by decide) rfl (fun ls hl => ?_)
  refine lv_iconst (v := nI 0) hx hb dX5_isIdle_2 (by decide) ?_
  refine lv_istore_n (lv' := [(3, .int (nI 0)), (2, .int (nI 1)), (0, .ref (a 0)), (1, .int (nI i))]) hx hb dX5_isIdle_3 rfl hl (by decide) rfl (fun ls hl => ?_)
  have L4 : ∀ (fuel : Nat), ∀ (k : Nat) (v : Bool) (g1 : Nat → Int32) (hmu : 30 - k < fuel) (hk : k ≤ 30) (hv : (!v) = anyN k (fun q => !decide (lstM (V 0) (TV V) (q / 6) (q % 6) (-6) (-6) 0 = lstM (V 0) (TV V) (q / 6) (q % 6) (nI i) (-6) 0))) (H : Heap) (locs : List Loc) (_ : va_P D vwCl [((a 0), .inr (5, [.ref (a 1), .ref (a 2), .int (nI kt), .ref (a 3), .ref (a 4), .ref (a 5), .int (nI ln), .ref (a 6), .int (nI td)])), ((a 1), .inl (kA 0, 169, .inl (vI V))), ((a 2), .inl (kA 0, 1014, .inl (hs))), ((a 3), .inl (kA 0, 338, .inl (sl))), ((a 4), .inl (kA 2, 2, .inl (sv))), ((a 5), .inl (kA 0, 60, .inl (pd))), ((a 6), .inl (kA 0, 5, .inl (g1)))] H) (_ : va_D A [((a 0), .inr (5, [.ref (a 1), .ref (a 2), .int (nI kt), .ref (a 3), .ref (a 4), .ref (a 5), .int (nI ln), .ref (a 6), .int (nI td)])), ((a 1), .inl (kA 0, 169, .inl (vI V))), ((a 2), .inl (kA 0, 1014, .inl (hs))), ((a 3), .inl (kA 0, 338, .inl (sl))), ((a 4), .inl (kA 2, 2, .inl (sv))), ((a 5), .inl (kA 0, 60, .inl (pd))), ((a 6), .inl (kA 0, 5, .inl (g1)))]) (_ : va_S A xs.heap H locs) (ls : Array Slot) (_ : lv_has ls 4 [(3, .int (nI k)), (2, .int (bI v)), (0, .ref (a 0)), (1, .int (nI i))]), W xp xl xe (headSpec wsX5_isIdle { frames := 6, cells := 0, slots := 0, locals := 143 }).room xs xm ([.ref (a 0), .int (nI i)] : List Value).toArray xbe xme xc H locs 0 0 (MQ xbe (xQi D A (fun r u => r = bI (idM (V 0) (TV V) i) ∧ ∃ g : Nat → Int32, u = modW kA a V hs sl sv pd g kt ln td)) ([.ref (a 0), .int (nI i)] : List Value).toArray xs 0 0 A) (F0 xm 4 ls []) := by
    intro fuel
    induction fuel with
    | zero => intro k v g1 hmu; exact absurd hmu (Nat.not_lt_zero _)
    | succ fuel ih4 =>
      intro k v g1 hmu hk hv H locs hP hD hS ls hl
      refine lv_iload_n hx hb dX5_isIdle_4 rfl (lv_at hl 0 rfl) ?_
      refine lv_bipush (v := nI 30) hx hb dX5_isIdle_5 (by decide) ?_
      refine xIcmpGe C (tgt := 57) (by omega) (by decide) dX5_isIdle_7 (by decide) (fun h_7 => ?_) (fun h_7 => ?_)
      · skip
        refine lv_iload_n hx hb dX5_isIdle_57 rfl (lv_at hl 1 rfl) ?_
        exact xRetZ hx hb hret (v := bI v) (xNarB _) (⟨congrArg bI (idM_e hv (by first | exact Or.inl (by omega) | exact Or.inr ⟨h_11, hk⟩)), g1, rfl⟩) hP hD hS dX5_isIdle_58 hlocks
      · skip
        refine lv_iload_n hx hb dX5_isIdle_10 rfl (lv_at hl 1 rfl) ?_
        refine xIfEqB C (tgt := 57) dX5_isIdle_11 (by decide) (fun h_11 => ?_) (fun h_11 => ?_)
        · skip
          refine lv_iload_n hx hb dX5_isIdle_57 rfl (lv_at hl 1 rfl) ?_
          exact xRetZ hx hb hret (v := bI v) (xNarB _) (⟨congrArg bI (idM_e hv (by first | exact Or.inl (by omega) | exact Or.inr ⟨h_11, hk⟩)), g1, rfl⟩) hP hD hS dX5_isIdle_58 hlocks
        · skip
          refine lv_aload_n hx hb dX5_isIdle_14 rfl (lv_at hl 2 rfl) ?_
          refine lv_iload_n hx hb dX5_isIdle_15 rfl (lv_at hl 0 rfl) ?_
          refine lv_bipush (v := nI 6) hx hb dX5_isIdle_16 (by decide) ?_
          refine xIdiv C (by omega) (by decide) (by decide) dX5_isIdle_18 ?_
          refine lv_iload_n hx hb dX5_isIdle_19 rfl (lv_at hl 0 rfl) ?_
          refine lv_bipush (v := nI 6) hx hb dX5_isIdle_20 (by decide) ?_
          refine xIrem C (by omega) (by decide) (by decide) dX5_isIdle_22 ?_
          refine xWWi hS (va_runV (As := [.int (nI (k / 6)), .int (nI (k % 6))]) (rest := []) C (c_X5_leastNow xl D kA a V hs sl sv pd g1 kt ln td hV hW (k / 6) (k % 6) (by omega) (by omega) A) (cwV 2 hts gX5_isIdle_X5_leastNow rfl rfl rfl (by decide +kernel) ⟨Nat.le_of_ble_eq_true rfl, Nat.le_of_ble_eq_true rfl⟩) (xPreVw (q0 := 0) hN hP hD (xAll hS hA) rfl rfl rfl) rfl rfl hl.1 rfl (lv_room (Nat.le_of_ble_eq_true rfl)) dX5_isIdle_23 ⟨Nat.le_of_ble_eq_true rfl, Nat.le_of_ble_eq_true rfl⟩) (fun r_23 u_23 H locs hq_23 hP hD hS => ?_)
          obtain ⟨rfl, g_23, rfl, hg_23⟩ := hq_23
          have hP : va_P D vwCl [((a 0), .inr (5, [.ref (a 1), .ref (a 2), .int (nI kt), .ref (a 3), .ref (a 4), .ref (a 5), .int (nI ln), .ref (a 6), .int (nI td)])), ((a 1), .inl (kA 0, 169, .inl (vI V))), ((a 2), .inl (kA 0, 1014, .inl (hs))), ((a 3), .inl (kA 0, 338, .inl (sl))), ((a 4), .inl (kA 2, 2, .inl (sv))), ((a 5), .inl (kA 0, 60, .inl (pd))), ((a 6), .inl (kA 0, 5, .inl (g_23)))] H := hP
          have hD : va_D A [((a 0), .inr (5, [.ref (a 1), .ref (a 2), .int (nI kt), .ref (a 3), .ref (a 4), .ref (a 5), .int (nI ln), .ref (a 6), .int (nI td)])), ((a 1), .inl (kA 0, 169, .inl (vI V))), ((a 2), .inl (kA 0, 1014, .inl (hs))), ((a 3), .inl (kA 0, 338, .inl (sl))), ((a 4), .inl (kA 2, 2, .inl (sv))), ((a 5), .inl (kA 0, 60, .inl (pd))), ((a 6), .inl (kA 0, 5, .inl (g_23)))] := hD
          refine lv_aload_n hx hb dX5_isIdle_26 rfl (lv_at hl 2 rfl) ?_
          refine lv_iload_n hx hb dX5_isIdle_27 rfl (lv_at hl 0 rfl) ?_
          refine lv_bipush (v := nI 6) hx hb dX5_isIdle_28 (by decide) ?_
          refine xIdiv C (by omega) (by decide) (by decide) dX5_isIdle_30 ?_
          refine lv_iload_n hx hb dX5_isIdle_31 rfl (lv_at hl 0 rfl) ?_
          refine lv_bipush (v := nI 6) hx hb dX5_isIdle_32 (by decide) ?_
          refine xIrem C (by omega) (by decide) (by decide) dX5_isIdle_34 ?_
          refine lv_iload_n hx hb dX5_isIdle_35 rfl (lv_at hl 3 rfl) ?_
          refine lv_bipush (v := (-6)) hx hb dX5_isIdle_36 (by decide) ?_
          refine lv_iconst (v := nI 0) hx hb dX5_isIdle_38 (by decide) ?_
          refine xWWi hS (va_runV (As := [.int (nI (k / 6)), .int (nI (k % 6)), .int (nI i), .int (-6), .int (nI 0)]) (rest := [.int (nI (lstM (V 0) (TV V) (k / 6) (k % 6) (-6) (-6) 0))]) C (c_X5_least xl D kA a V hs sl sv pd g_23 kt ln td hV hW (k / 6) (k % 6) (by omega) (by omega) (nI i) (-6) 0 (by omega) A) (cwV 5 hts gX5_isIdle_X5_least rfl rfl rfl (by decide +kernel) ⟨Nat.le_of_ble_eq_true rfl, Nat.le_of_ble_eq_true rfl⟩) (xPreVw (q0 := 0) hN hP hD (xAll hS hA) rfl rfl rfl) rfl rfl hl.1 rfl (lv_room (Nat.le_of_ble_eq_true rfl)) dX5_isIdle_39 ⟨Nat.le_of_ble_eq_true rfl, Nat.le_of_ble_eq_true rfl⟩) (fun r_39 u_39 H locs hq_39 hP hD hS => ?_)
          obtain ⟨rfl, g_39, rfl, hg_39⟩ := hq_39
          have hP : va_P D vwCl [((a 0), .inr (5, [.ref (a 1), .ref (a 2), .int (nI kt), .ref (a 3), .ref (a 4), .ref (a 5), .int (nI ln), .ref (a 6), .int (nI td)])), ((a 1), .inl (kA 0, 169, .inl (vI V))), ((a 2), .inl (kA 0, 1014, .inl (hs))), ((a 3), .inl (kA 0, 338, .inl (sl))), ((a 4), .inl (kA 2, 2, .inl (sv))), ((a 5), .inl (kA 0, 60, .inl (pd))), ((a 6), .inl (kA 0, 5, .inl (g_39)))] H := hP
          have hD : va_D A [((a 0), .inr (5, [.ref (a 1), .ref (a 2), .int (nI kt), .ref (a 3), .ref (a 4), .ref (a 5), .int (nI ln), .ref (a 6), .int (nI td)])), ((a 1), .inl (kA 0, 169, .inl (vI V))), ((a 2), .inl (kA 0, 1014, .inl (hs))), ((a 3), .inl (kA 0, 338, .inl (sl))), ((a 4), .inl (kA 2, 2, .inl (sv))), ((a 5), .inl (kA 0, 60, .inl (pd))), ((a 6), .inl (kA 0, 5, .inl (g_39)))] := hD
          refine xIcmpNe C (tgt := 49) (by have := lstM_le (c := k / 6) (d := k % 6) (bu := (-6)) (ly := (-6)) (se := 0) hW; omega) (by have := lstM_le (c := k / 6) (d := k % 6) (bu := nI i) (ly := (-6)) (se := 0) hW; omega) dX5_isIdle_42 (by decide) (fun h_42 => ?_) (fun h_42 => ?_)
          · skip
            refine lv_iconst (v := nI 0) hx hb dX5_isIdle_49 (by decide) ?_
            refine lv_istore_n (lv' := [(2, .int (nI 0)), (3, .int (nI k)), (0, .ref (a 0)), (1, .int (nI i))]) hx hb dX5_isIdle_50 rfl hl (by decide) rfl (fun ls hl => ?_)
            refine xIinc C (kx := 1) (d := 1) (lv' := [(3, .int (nI (k + 1))), (2, .int (nI 0)), (0, .ref (a 0)), (1, .int (nI i))]) dX5_isIdle_51 hl rfl (by decide) (by decide) rfl (fun ls hl => ?_)
            refine lv_goto (tgt := 4) hx hb dX5_isIdle_54 (by decide) ?_
            have hP : va_P D vwCl [((a 0), .inr (5, [.ref (a 1), .ref (a 2), .int (nI kt), .ref (a 3), .ref (a 4), .ref (a 5), .int (nI ln), .ref (a 6), .int (nI td)])), ((a 1), .inl (kA 0, 169, .inl (vI V))), ((a 2), .inl (kA 0, 1014, .inl (hs))), ((a 3), .inl (kA 0, 338, .inl (sl))), ((a 4), .inl (kA 2, 2, .inl (sv))), ((a 5), .inl (kA 0, 60, .inl (pd))), ((a 6), .inl (kA 0, 5, .inl (g_39)))] H := hP
            exact ih4 (k + 1) false g_39 (by omega) (by omega) (by first | exact an_3 hv (by rw [h_11]; rfl) (by simp [h_42]) | exact an_2 (by simp [h_42])) _ _ hP hD hS _ (lv_sub hl [0, 1, 2, 3] rfl)
          · skip
            refine lv_iconst (v := nI 1) hx hb dX5_isIdle_45 (by decide) ?_
            refine lv_goto (tgt := 50) hx hb dX5_isIdle_46 (by decide) ?_
            refine lv_istore_n (lv' := [(2, .int (nI 1)), (3, .int (nI k)), (0, .ref (a 0)), (1, .int (nI i))]) hx hb dX5_isIdle_50 rfl hl (by decide) rfl (fun ls hl => ?_)
            refine xIinc C (kx := 1) (d := 1) (lv' := [(3, .int (nI (k + 1))), (2, .int (nI 1)), (0, .ref (a 0)), (1, .int (nI i))]) dX5_isIdle_51 hl rfl (by decide) (by decide) rfl (fun ls hl => ?_)
            refine lv_goto (tgt := 4) hx hb dX5_isIdle_54 (by decide) ?_
            have hP : va_P D vwCl [((a 0), .inr (5, [.ref (a 1), .ref (a 2), .int (nI kt), .ref (a 3), .ref (a 4), .ref (a 5), .int (nI ln), .ref (a 6), .int (nI td)])), ((a 1), .inl (kA 0, 169, .inl (vI V))), ((a 2), .inl (kA 0, 1014, .inl (hs))), ((a 3), .inl (kA 0, 338, .inl (sl))), ((a 4), .inl (kA 2, 2, .inl (sv))), ((a 5), .inl (kA 0, 60, .inl (pd))), ((a 6), .inl (kA 0, 5, .inl (g_39)))] H := hP
            exact ih4 (k + 1) true g_39 (by omega) (by omega) (by first | exact an_3 hv (by rw [h_11]; rfl) (by simp [h_42]) | exact an_2 (by simp [h_42])) _ _ hP hD hS _ (lv_sub hl [0, 1, 2, 3] rfl)
  exact L4 _ 0 true sg (Nat.lt_succ_self _) (by omega) rfl _ _ hP hD hS _ (lv_sub hl [0, 1, 2, 3] rfl)

set_option maxHeartbeats 8000000 in
set_option maxRecDepth 100000 in
theorem c_X5_areAtOdds (xl : Launch) (D : va_G) (kA : Nat → ClassId) (a : Nat → Nat) (V : Nat → Nat) (hs sl sv pd sg : Nat → Int32) (kt ln td : Nat) (hV : V 0 ≤ 24) (hW : WfT (V 0) (TV V)) (i j : Nat) (hi : i < V 0) (hj : j < V 0) : Met xl yX5_areAtOdds wsX5_areAtOdds { frames := 2, cells := 0, slots := 0, locals := 43 } (va_Pc [.ref (a 0), .int (nI i), .int (nI j)] (xPr D kA [((a 0), .inr (5, [.ref (a 1), .ref (a 2), .int (nI kt), .ref (a 3), .ref (a 4), .ref (a 5), .int (nI ln), .ref (a 6), .int (nI td)])), ((a 1), .inl (kA 0, 169, .inl (vI V))), ((a 2), .inl (kA 0, 1014, .inl (hs))), ((a 3), .inl (kA 0, 338, .inl (sl))), ((a 4), .inl (kA 2, 2, .inl (sv))), ((a 5), .inl (kA 0, 60, .inl (pd))), ((a 6), .inl (kA 0, 5, .inl (sg)))])) (vp_Si (fun rr => rr = bI (oddT (TV V) i j))) 0 0 (fun _ => False) := by
  refine Met.ofW (cc := cX5_areAtOdds) (maxL := 5) (ret := (some .boolean)) (by decide) rfl ?_
  intro xp xe xs xm args xbe xme xc s₁ B hml hv
  obtain ⟨rfl, hP, hN⟩ := hv
  have hret := B.returns
  have C : CallFix xp xm xc cX5_areAtOdds 5 xs ([.ref (a 0), .int (nI i), .int (nI j)] : List Value).toArray wsX5_areAtOdds RX5 := ⟨B.exec, B.bytes, hml, findClass_of_methodNamed B.named, atoms_spec (ws := wsX5_areAtOdds) B.pre⟩
  have hlocks := B.notSynchronized
  obtain ⟨hx, hb, _, hown, hts⟩ := id C
  have hl := lv_entry ([.ref (a 0), .int (nI i), .int (nI j)]) (n := 5) (Nat.le_of_ble_eq_true rfl)
  rw [lg_entry_eq]
  generalize (lg_sl ([.ref (a 0), .int (nI i), .int (nI j)]) ++ List.replicate (5 - (lg_sl ([.ref (a 0), .int (nI i), .int (nI j)])).length) Slot.unset).toArray = ls at hl ⊢
  have hl : lv_has ls 5 [(0, .ref (a 0)), (1, .int (nI i)), (2, .int (nI j))] := hl
  refine lv_aload_n hx hb dX5_areAtOdds_0 rfl (lv_at hl 0 rfl) ?_
  refine lv_iload_n hx hb dX5_areAtOdds_1 rfl (lv_at hl 1 rfl) ?_
  refine lv_iconst (v := nI 2) hx hb dX5_areAtOdds_2 (by decide) ?_
  refine xVro C hN (As := [.int (nI i), .int (nI 2)]) (rest := []) (q0 := 0) (c_X5_of xl D kA a V hs sl sv pd sg kt ln td i 2 (by omega) (by omega)) (cwV 2 hts gX5_areAtOdds_X5_of rfl rfl rfl (by decide +kernel) ⟨Nat.le_of_ble_eq_true rfl, Nat.le_of_ble_eq_true rfl⟩) hP rfl rfl rfl rfl hl.1 rfl (Nat.le_of_ble_eq_true rfl) dX5_areAtOdds_3 ⟨Nat.le_of_ble_eq_true rfl, Nat.le_of_ble_eq_true rfl⟩ ?_
  refine lv_aload_n hx hb dX5_areAtOdds_6 rfl (lv_at hl 0 rfl) ?_
  refine lv_iload_n hx hb dX5_areAtOdds_7 rfl (lv_at hl 2 rfl) ?_
  refine lv_iconst (v := nI 2) hx hb dX5_areAtOdds_8 (by decide) ?_
  refine xVro C hN (As := [.int (nI j), .int (nI 2)]) (rest := [.int (nI (TV V i 2))]) (q0 := 0) (c_X5_of xl D kA a V hs sl sv pd sg kt ln td j 2 (by omega) (by omega)) (cwV 2 hts gX5_areAtOdds_X5_of rfl rfl rfl (by decide +kernel) ⟨Nat.le_of_ble_eq_true rfl, Nat.le_of_ble_eq_true rfl⟩) hP rfl rfl rfl rfl hl.1 rfl (Nat.le_of_ble_eq_true rfl) dX5_areAtOdds_9 ⟨Nat.le_of_ble_eq_true rfl, Nat.le_of_ble_eq_true rfl⟩ ?_
  have J12 : ∀ (ls : Array Slot) (_ : lv_has ls 5 [(0, .ref (a 0)), (1, .int (nI i)), (2, .int (nI j))]), W xp xl xe (headSpec wsX5_areAtOdds { frames := 2, cells := 0, slots := 0, locals := 43 }).room xs xm ([.ref (a 0), .int (nI i), .int (nI j)] : List Value).toArray xbe xme xc xs.heap [] 0 0 (MQ xbe (vp_Si (fun rr => rr = bI (oddT (TV V) i j))) ([.ref (a 0), .int (nI i), .int (nI j)] : List Value).toArray xs 0 0 (fun _ => False)) (F0 xm 40 ls [.int (bI (TV V i 2 == TV V j 2 || TV V i 2 == 5 || TV V j 2 == 5))]) := by
    intro   ls hl
    refine lv_istore_n (lv' := [(3, .int (bI (TV V i 2 == TV V j 2 || TV V i 2 == 5 || TV V j 2 == 5))), (0, .ref (a 0)), (1, .int (nI i)), (2, .int (nI j))]) hx hb dX5_areAtOdds_40 rfl hl (by decide) rfl (fun ls hl => ?_)
    refine lv_aload_n hx hb dX5_areAtOdds_41 rfl (lv_at hl 1 rfl) ?_
    refine lv_iload_n hx hb dX5_areAtOdds_42 rfl (lv_at hl 2 rfl) ?_
    refine lv_iconst (v := nI 3) hx hb dX5_areAtOdds_43 (by decide) ?_
    refine xVro C hN (As := [.int (nI i), .int (nI 3)]) (rest := []) (q0 := 0) (c_X5_of xl D kA a V hs sl sv pd sg kt ln td i 3 (by omega) (by omega)) (cwV 2 hts gX5_areAtOdds_X5_of rfl rfl rfl (by decide +kernel) ⟨Nat.le_of_ble_eq_true rfl, Nat.le_of_ble_eq_true rfl⟩) hP rfl rfl rfl rfl hl.1 rfl (Nat.le_of_ble_eq_true rfl) dX5_areAtOdds_44 ⟨Nat.le_of_ble_eq_true rfl, Nat.le_of_ble_eq_true rfl⟩ ?_
    refine lv_aload_n hx hb dX5_areAtOdds_47 rfl (lv_at hl 1 rfl) ?_
    refine lv_iload_n hx hb dX5_areAtOdds_48 rfl (lv_at hl 3 rfl) ?_
    refine lv_iconst (v := nI 3) hx hb dX5_areAtOdds_49 (by decide) ?_
    refine xVro C hN (As := [.int (nI j), .int (nI 3)]) (rest := [.int (nI (TV V i 3))]) (q0 := 0) (c_X5_of xl D kA a V hs sl sv pd sg kt ln td j 3 (by omega) (by omega)) (cwV 2 hts gX5_areAtOdds_X5_of rfl rfl rfl (by decide +kernel) ⟨Nat.le_of_ble_eq_true rfl, Nat.le_of_ble_eq_true rfl⟩) hP rfl rfl rfl rfl hl.1 rfl (Nat.le_of_ble_eq_true rfl) dX5_areAtOdds_50 ⟨Nat.le_of_ble_eq_true rfl, Nat.le_of_ble_eq_true rfl⟩ ?_
    have J53 : ∀ (ls : Array Slot) (_ : lv_has ls 5 [(3, .int (bI (TV V i 2 == TV V j 2 || TV V i 2 == 5 || TV V j 2 == 5))), (0, .ref (a 0)), (1, .int (nI i)), (2, .int (nI j))]), W xp xl xe (headSpec wsX5_areAtOdds { frames := 2, cells := 0, slots := 0, locals := 43 }).room xs xm ([.ref (a 0), .int (nI i), .int (nI j)] : List Value).toArray xbe xme xc xs.heap [] 0 0 (MQ xbe (vp_Si (fun rr => rr = bI (oddT (TV V) i j))) ([.ref (a 0), .int (nI i), .int (nI j)] : List Value).toArray xs 0 0 (fun _ => False)) (F0 xm 83 ls [.int (bI (TV V i 3 == TV V j 3 || TV V i 3 == 6 || TV V j 3 == 6))]) := by
      intro   ls hl
      refine lv_istore (lv' := [(4, .int (bI (TV V i 3 == TV V j 3 || TV V i 3 == 6 || TV V j 3 == 6))), (3, .int (bI (TV V i 2 == TV V j 2 || TV V i 2 == 5 || TV V j 2 == 5))), (0, .ref (a 0)), (1, .int (nI i)), (2, .int (nI j))]) hx hb dX5_areAtOdds_83 hl (by decide) rfl (fun ls hl => ?_)
      refine lv_iload_n hx hb dX5_areAtOdds_85 rfl (lv_at hl 1 rfl) ?_
      refine xIfEqB C (tgt := 131) dX5_areAtOdds_86 (by decide) (fun h_86 => ?_) (fun h_86 => ?_)
      · skip
        refine lv_iconst (v := nI 0) hx hb dX5_areAtOdds_131 (by decide) ?_
        exact xRoZ hx hb hret (v := nI 0) (xNar0) (by first | exact od_t h_86 h_91 (by omega) | exact od_f1 h_86 | exact od_f2 h_91 | exact oddT_z (by omega)) dX5_areAtOdds_132 hlocks
      · skip
        refine lv_iload hx hb dX5_areAtOdds_89 (lv_at hl 0 rfl) ?_
        refine xIfEqB C (tgt := 131) dX5_areAtOdds_91 (by decide) (fun h_91 => ?_) (fun h_91 => ?_)
        · skip
          refine lv_iconst (v := nI 0) hx hb dX5_areAtOdds_131 (by decide) ?_
          exact xRoZ hx hb hret (v := nI 0) (xNar0) (by first | exact od_t h_86 h_91 (by omega) | exact od_f1 h_86 | exact od_f2 h_91 | exact oddT_z (by omega)) dX5_areAtOdds_132 hlocks
        · skip
          refine lv_aload_n hx hb dX5_areAtOdds_94 rfl (lv_at hl 2 rfl) ?_
          refine lv_iload_n hx hb dX5_areAtOdds_95 rfl (lv_at hl 3 rfl) ?_
          refine lv_iconst (v := nI 1) hx hb dX5_areAtOdds_96 (by decide) ?_
          refine xVro C hN (As := [.int (nI i), .int (nI 1)]) (rest := []) (q0 := 0) (c_X5_of xl D kA a V hs sl sv pd sg kt ln td i 1 (by omega) (by omega)) (cwV 2 hts gX5_areAtOdds_X5_of rfl rfl rfl (by decide +kernel) ⟨Nat.le_of_ble_eq_true rfl, Nat.le_of_ble_eq_true rfl⟩) hP rfl rfl rfl rfl hl.1 rfl (Nat.le_of_ble_eq_true rfl) dX5_areAtOdds_97 ⟨Nat.le_of_ble_eq_true rfl, Nat.le_of_ble_eq_true rfl⟩ ?_
          refine lv_iconst (v := nI 1) hx hb dX5_areAtOdds_100 (by decide) ?_
          refine xIcmpNe C (tgt := 108) (by have := hW i (by omega); omega) (by decide) dX5_areAtOdds_101 (by decide) (fun h_101 => ?_) (fun h_101 => ?_)
          · skip
            refine lv_iconst (v := nI 0) hx hb dX5_areAtOdds_108 (by decide) ?_
            refine lv_aload_n hx hb dX5_areAtOdds_109 rfl (lv_at hl 2 rfl) ?_
            refine lv_iload_n hx hb dX5_areAtOdds_110 rfl (lv_at hl 4 rfl) ?_
            refine lv_iconst (v := nI 1) hx hb dX5_areAtOdds_111 (by decide) ?_
            refine xVro C hN (As := [.int (nI j), .int (nI 1)]) (rest := [.int (nI 0)]) (q0 := 0) (c_X5_of xl D kA a V hs sl sv pd sg kt ln td j 1 (by omega) (by omega)) (cwV 2 hts gX5_areAtOdds_X5_of rfl rfl rfl (by decide +kernel) ⟨Nat.le_of_ble_eq_true rfl, Nat.le_of_ble_eq_true rfl⟩) hP rfl rfl rfl rfl hl.1 rfl (Nat.le_of_ble_eq_true rfl) dX5_areAtOdds_112 ⟨Nat.le_of_ble_eq_true rfl, Nat.le_of_ble_eq_true rfl⟩ ?_
            refine lv_iconst (v := nI 1) hx hb dX5_areAtOdds_115 (by decide) ?_
            refine xIcmpNe C (tgt := 123) (by have := hW j (by omega); omega) (by decide) dX5_areAtOdds_116 (by decide) (fun h_116 => ?_) (fun h_116 => ?_)
            · skip
              refine lv_iconst (v := nI 0) hx hb dX5_areAtOdds_123 (by decide) ?_
              refine xIcmpEq C (tgt := 131) (by decide) (by decide) dX5_areAtOdds_124 (by decide) (fun h_124 => ?_) (fun h_124 => ?_)
              · skip
                refine lv_iconst (v := nI 0) hx hb dX5_areAtOdds_131 (by decide) ?_
                exact xRoZ hx hb hret (v := nI 0) (xNar0) (by first | exact od_t h_86 h_91 (by omega) | exact od_f1 h_86 | exact od_f2 h_91 | exact oddT_z (by omega)) dX5_areAtOdds_132 hlocks
              · exact absurd h_124 (by decide)
            · skip
              refine lv_iconst (v := nI 1) hx hb dX5_areAtOdds_119 (by decide) ?_
              refine lv_goto (tgt := 124) hx hb dX5_areAtOdds_120 (by decide) ?_
              refine xIcmpEq C (tgt := 131) (by decide) (by decide) dX5_areAtOdds_124 (by decide) (fun h_124 => ?_) (fun h_124 => ?_)
              · exact absurd h_124 (by decide)
              · skip
                refine lv_iconst (v := nI 1) hx hb dX5_areAtOdds_127 (by decide) ?_
                refine lv_goto (tgt := 132) hx hb dX5_areAtOdds_128 (by decide) ?_
                exact xRoZ hx hb hret (v := nI 1) (xNar1) (by first | exact od_t h_86 h_91 (by omega) | exact od_f1 h_86 | exact od_f2 h_91 | exact oddT_z (by omega)) dX5_areAtOdds_132 hlocks
          · skip
            refine lv_iconst (v := nI 1) hx hb dX5_areAtOdds_104 (by decide) ?_
            refine lv_goto (tgt := 109) hx hb dX5_areAtOdds_105 (by decide) ?_
            refine lv_aload_n hx hb dX5_areAtOdds_109 rfl (lv_at hl 2 rfl) ?_
            refine lv_iload_n hx hb dX5_areAtOdds_110 rfl (lv_at hl 4 rfl) ?_
            refine lv_iconst (v := nI 1) hx hb dX5_areAtOdds_111 (by decide) ?_
            refine xVro C hN (As := [.int (nI j), .int (nI 1)]) (rest := [.int (nI 1)]) (q0 := 0) (c_X5_of xl D kA a V hs sl sv pd sg kt ln td j 1 (by omega) (by omega)) (cwV 2 hts gX5_areAtOdds_X5_of rfl rfl rfl (by decide +kernel) ⟨Nat.le_of_ble_eq_true rfl, Nat.le_of_ble_eq_true rfl⟩) hP rfl rfl rfl rfl hl.1 rfl (Nat.le_of_ble_eq_true rfl) dX5_areAtOdds_112 ⟨Nat.le_of_ble_eq_true rfl, Nat.le_of_ble_eq_true rfl⟩ ?_
            refine lv_iconst (v := nI 1) hx hb dX5_areAtOdds_115 (by decide) ?_
            refine xIcmpNe C (tgt := 123) (by have := hW j (by omega); omega) (by decide) dX5_areAtOdds_116 (by decide) (fun h_116 => ?_) (fun h_116 => ?_)
            · skip
              refine lv_iconst (v := nI 0) hx hb dX5_areAtOdds_123 (by decide) ?_
              refine xIcmpEq C (tgt := 131) (by decide) (by decide) dX5_areAtOdds_124 (by decide) (fun h_124 => ?_) (fun h_124 => ?_)
              · exact absurd h_124 (by decide)
              · skip
                refine lv_iconst (v := nI 1) hx hb dX5_areAtOdds_127 (by decide) ?_
                refine lv_goto (tgt := 132) hx hb dX5_areAtOdds_128 (by decide) ?_
                exact xRoZ hx hb hret (v := nI 1) (xNar1) (by first | exact od_t h_86 h_91 (by omega) | exact od_f1 h_86 | exact od_f2 h_91 | exact oddT_z (by omega)) dX5_areAtOdds_132 hlocks
            · skip
              refine lv_iconst (v := nI 1) hx hb dX5_areAtOdds_119 (by decide) ?_
              refine lv_goto (tgt := 124) hx hb dX5_areAtOdds_120 (by decide) ?_
              refine xIcmpEq C (tgt := 131) (by decide) (by decide) dX5_areAtOdds_124 (by decide) (fun h_124 => ?_) (fun h_124 => ?_)
              · skip
                refine lv_iconst (v := nI 0) hx hb dX5_areAtOdds_131 (by decide) ?_
                exact xRoZ hx hb hret (v := nI 0) (xNar0) (by first | exact od_t h_86 h_91 (by omega) | exact od_f1 h_86 | exact od_f2 h_91 | exact oddT_z (by omega)) dX5_areAtOdds_132 hlocks
              · exact absurd h_124 (by decide)
    refine xIcmpEq C (tgt := 78) (by have := hW i (by omega); omega) (by have := hW j (by omega); omega) dX5_areAtOdds_53 (by decide) (fun h_53 => ?_) (fun h_53 => ?_)
    · skip
      refine lv_iconst (v := nI 1) hx hb dX5_areAtOdds_78 (by decide) ?_
      refine xTop (y := bI (TV V i 3 == TV V j 3 || TV V i 3 == 6 || TV V j 3 == 6)) (or3_t (by omega)) ?_
      refine lv_goto (tgt := 83) hx hb dX5_areAtOdds_79 (by decide) ?_
      exact J53   _ (lv_sub hl [0, 1, 2, 3] rfl)
    · skip
      refine lv_aload_n hx hb dX5_areAtOdds_56 rfl (lv_at hl 1 rfl) ?_
      refine lv_iload_n hx hb dX5_areAtOdds_57 rfl (lv_at hl 2 rfl) ?_
      refine lv_iconst (v := nI 3) hx hb dX5_areAtOdds_58 (by decide) ?_
      refine xVro C hN (As := [.int (nI i), .int (nI 3)]) (rest := []) (q0 := 0) (c_X5_of xl D kA a V hs sl sv pd sg kt ln td i 3 (by omega) (by omega)) (cwV 2 hts gX5_areAtOdds_X5_of rfl rfl rfl (by decide +kernel) ⟨Nat.le_of_ble_eq_true rfl, Nat.le_of_ble_eq_true rfl⟩) hP rfl rfl rfl rfl hl.1 rfl (Nat.le_of_ble_eq_true rfl) dX5_areAtOdds_59 ⟨Nat.le_of_ble_eq_true rfl, Nat.le_of_ble_eq_true rfl⟩ ?_
      refine lv_bipush (v := nI 6) hx hb dX5_areAtOdds_62 (by decide) ?_
      refine xIcmpEq C (tgt := 78) (by have := hW i (by omega); omega) (by decide) dX5_areAtOdds_64 (by decide) (fun h_64 => ?_) (fun h_64 => ?_)
      · skip
        refine lv_iconst (v := nI 1) hx hb dX5_areAtOdds_78 (by decide) ?_
        refine xTop (y := bI (TV V i 3 == TV V j 3 || TV V i 3 == 6 || TV V j 3 == 6)) (or3_t (by omega)) ?_
        refine lv_goto (tgt := 83) hx hb dX5_areAtOdds_79 (by decide) ?_
        exact J53   _ (lv_sub hl [0, 1, 2, 3] rfl)
      · skip
        refine lv_aload_n hx hb dX5_areAtOdds_67 rfl (lv_at hl 1 rfl) ?_
        refine lv_iload_n hx hb dX5_areAtOdds_68 rfl (lv_at hl 3 rfl) ?_
        refine lv_iconst (v := nI 3) hx hb dX5_areAtOdds_69 (by decide) ?_
        refine xVro C hN (As := [.int (nI j), .int (nI 3)]) (rest := []) (q0 := 0) (c_X5_of xl D kA a V hs sl sv pd sg kt ln td j 3 (by omega) (by omega)) (cwV 2 hts gX5_areAtOdds_X5_of rfl rfl rfl (by decide +kernel) ⟨Nat.le_of_ble_eq_true rfl, Nat.le_of_ble_eq_true rfl⟩) hP rfl rfl rfl rfl hl.1 rfl (Nat.le_of_ble_eq_true rfl) dX5_areAtOdds_70 ⟨Nat.le_of_ble_eq_true rfl, Nat.le_of_ble_eq_true rfl⟩ ?_
        refine lv_bipush (v := nI 6) hx hb dX5_areAtOdds_73 (by decide) ?_
        refine xIcmpNe C (tgt := 82) (by have := hW j (by omega); omega) (by decide) dX5_areAtOdds_75 (by decide) (fun h_75 => ?_) (fun h_75 => ?_)
        · skip
          refine lv_iconst (v := nI 0) hx hb dX5_areAtOdds_82 (by decide) ?_
          refine xTop (y := bI (TV V i 3 == TV V j 3 || TV V i 3 == 6 || TV V j 3 == 6)) (or3_f (by omega)) ?_
          exact J53   _ (lv_sub hl [0, 1, 2, 3] rfl)
        · skip
          refine lv_iconst (v := nI 1) hx hb dX5_areAtOdds_78 (by decide) ?_
          refine xTop (y := bI (TV V i 3 == TV V j 3 || TV V i 3 == 6 || TV V j 3 == 6)) (or3_t (by omega)) ?_
          refine lv_goto (tgt := 83) hx hb dX5_areAtOdds_79 (by decide) ?_
          exact J53   _ (lv_sub hl [0, 1, 2, 3] rfl)
  refine xIcmpEq C (tgt := 35) (by have := hW i (by omega); omega) (by have := hW j (by omega); omega) dX5_areAtOdds_12 (by decide) (fun h_12 => ?_) (fun h_12 => ?_)
  · skip
    refine lv_iconst (v := nI 1) hx hb dX5_areAtOdds_35 (by decide) ?_
    refine xTop (y := bI (TV V i 2 == TV V j 2 || TV V i 2 == 5 || TV V j 2 == 5)) (or3_t (by omega)) ?_
    refine lv_goto (tgt := 40) hx hb dX5_areAtOdds_36 (by decide) ?_
    exact J12   _ (lv_sub hl [0, 1, 2] rfl)
  · skip
    refine lv_aload_n hx hb dX5_areAtOdds_15 rfl (lv_at hl 0 rfl) ?_
    refine lv_iload_n hx hb dX5_areAtOdds_16 rfl (lv_at hl 1 rfl) ?_
    refine lv_iconst (v := nI 2) hx hb dX5_areAtOdds_17 (by decide) ?_
    refine xVro C hN (As := [.int (nI i), .int (nI 2)]) (rest := []) (q0 := 0) (c_X5_of xl D kA a V hs sl sv pd sg kt ln td i 2 (by omega) (by omega)) (cwV 2 hts gX5_areAtOdds_X5_of rfl rfl rfl (by decide +kernel) ⟨Nat.le_of_ble_eq_true rfl, Nat.le_of_ble_eq_true rfl⟩) hP rfl rfl rfl rfl hl.1 rfl (Nat.le_of_ble_eq_true rfl) dX5_areAtOdds_18 ⟨Nat.le_of_ble_eq_true rfl, Nat.le_of_ble_eq_true rfl⟩ ?_
    refine lv_iconst (v := nI 5) hx hb dX5_areAtOdds_21 (by decide) ?_
    refine xIcmpEq C (tgt := 35) (by have := hW i (by omega); omega) (by decide) dX5_areAtOdds_22 (by decide) (fun h_22 => ?_) (fun h_22 => ?_)
    · skip
      refine lv_iconst (v := nI 1) hx hb dX5_areAtOdds_35 (by decide) ?_
      refine xTop (y := bI (TV V i 2 == TV V j 2 || TV V i 2 == 5 || TV V j 2 == 5)) (or3_t (by omega)) ?_
      refine lv_goto (tgt := 40) hx hb dX5_areAtOdds_36 (by decide) ?_
      exact J12   _ (lv_sub hl [0, 1, 2] rfl)
    · skip
      refine lv_aload_n hx hb dX5_areAtOdds_25 rfl (lv_at hl 0 rfl) ?_
      refine lv_iload_n hx hb dX5_areAtOdds_26 rfl (lv_at hl 2 rfl) ?_
      refine lv_iconst (v := nI 2) hx hb dX5_areAtOdds_27 (by decide) ?_
      refine xVro C hN (As := [.int (nI j), .int (nI 2)]) (rest := []) (q0 := 0) (c_X5_of xl D kA a V hs sl sv pd sg kt ln td j 2 (by omega) (by omega)) (cwV 2 hts gX5_areAtOdds_X5_of rfl rfl rfl (by decide +kernel) ⟨Nat.le_of_ble_eq_true rfl, Nat.le_of_ble_eq_true rfl⟩) hP rfl rfl rfl rfl hl.1 rfl (Nat.le_of_ble_eq_true rfl) dX5_areAtOdds_28 ⟨Nat.le_of_ble_eq_true rfl, Nat.le_of_ble_eq_true rfl⟩ ?_
      refine lv_iconst (v := nI 5) hx hb dX5_areAtOdds_31 (by decide) ?_
      refine xIcmpNe C (tgt := 39) (by have := hW j (by omega); omega) (by decide) dX5_areAtOdds_32 (by decide) (fun h_32 => ?_) (fun h_32 => ?_)
      · skip
        refine lv_iconst (v := nI 0) hx hb dX5_areAtOdds_39 (by decide) ?_
        refine xTop (y := bI (TV V i 2 == TV V j 2 || TV V i 2 == 5 || TV V j 2 == 5)) (or3_f (by omega)) ?_
        exact J12   _ (lv_sub hl [0, 1, 2] rfl)
      · skip
        refine lv_iconst (v := nI 1) hx hb dX5_areAtOdds_35 (by decide) ?_
        refine xTop (y := bI (TV V i 2 == TV V j 2 || TV V i 2 == 5 || TV V j 2 == 5)) (or3_t (by omega)) ?_
        refine lv_goto (tgt := 40) hx hb dX5_areAtOdds_36 (by decide) ?_
        exact J12   _ (lv_sub hl [0, 1, 2] rfl)

set_option maxHeartbeats 8000000 in
set_option maxRecDepth 100000 in
theorem c_X5_adds (xl : Launch) (D : va_G) (kA : Nat → ClassId) (a : Nat → Nat) (V : Nat → Nat) (hs sl sv pd sg : Nat → Int32) (kt ln td : Nat) (l k c d z : Nat) (hV23 : V 0 < 24) (A : Nat → Prop) : Met xl yX5_adds wsX5_adds { frames := 1, cells := 0, slots := 0, locals := 21 } (va_Pc [.ref (a 0), .int (nI l), .int (nI k), .int (nI c), .int (nI d), .int (nI z)] (xPw D kA A [((a 0), .inr (5, [.ref (a 1), .ref (a 2), .int (nI kt), .ref (a 3), .ref (a 4), .ref (a 5), .int (nI ln), .ref (a 6), .int (nI td)])), ((a 1), .inl (kA 0, 169, .inl (vI V))), ((a 2), .inl (kA 0, 1014, .inl (hs))), ((a 3), .inl (kA 0, 338, .inl (sl))), ((a 4), .inl (kA 2, 2, .inl (sv))), ((a 5), .inl (kA 0, 60, .inl (pd))), ((a 6), .inl (kA 0, 5, .inl (sg)))])) (xQi D A (fun r u => r = nI (V 0) ∧ u = modW kA a (addV V l k c d z) hs sl sv pd sg kt ln td)) 0 0 A := by
  refine Met.ofW (cc := cX5_adds) (maxL := 7) (ret := (some .int)) (by decide) rfl ?_
  intro xp xe xs xm args xbe xme xc s₁ B hml hv
  obtain ⟨rfl, hP, hN, hD, hA⟩ := hv
  have hret := B.returns
  have C : CallFix xp xm xc cX5_adds 7 xs ([.ref (a 0), .int (nI l), .int (nI k), .int (nI c), .int (nI d), .int (nI z)] : List Value).toArray wsX5_adds RX5 := ⟨B.exec, B.bytes, hml, findClass_of_methodNamed B.named, atoms_spec (ws := wsX5_adds) B.pre⟩
  have hlocks := B.notSynchronized
  obtain ⟨hx, hb, _, hown, hts⟩ := id C
  have hS : va_S A xs.heap xs.heap [] := va_S.rf
  have hl := lv_entry ([.ref (a 0), .int (nI l), .int (nI k), .int (nI c), .int (nI d), .int (nI z)]) (n := 7) (Nat.le_of_ble_eq_true rfl)
  rw [lg_entry_eq]
  generalize (lg_sl ([.ref (a 0), .int (nI l), .int (nI k), .int (nI c), .int (nI d), .int (nI z)]) ++ List.replicate (7 - (lg_sl ([.ref (a 0), .int (nI l), .int (nI k), .int (nI c), .int (nI d), .int (nI z)])).length) Slot.unset).toArray = ls at hl ⊢
  have hl : lv_has ls 7 [(0, .ref (a 0)), (1, .int (nI l)), (2, .int (nI k)), (3, .int (nI c)), (4, .int (nI d)), (5, .int (nI z))] := hl
  refine lv_aload_n hx hb dX5_adds_0 rfl (lv_at hl 0 rfl) ?_
  refine xGet C hN hP 0 (j := 0) rfl rfl iX5_adds_X5 (by decide) kX5_adds_7 rfl rfl dX5_adds_1 ?_
  refine lv_iconst (v := nI 0) hx hb dX5_adds_4 (by decide) ?_
  refine xIald C hN hP 1 (j := 0) (v := nI (V 0)) rfl (by omega) (by decide) (rfl) dX5_adds_5 ?_
  refine lv_istore (lv' := [(6, .int (nI (V 0))), (0, .ref (a 0)), (1, .int (nI l)), (2, .int (nI k)), (3, .int (nI c)), (4, .int (nI d)), (5, .int (nI z))]) hx hb dX5_adds_6 hl (by decide) rfl (fun ls hl => ?_)
  refine lv_aload_n hx hb dX5_adds_8 rfl (lv_at hl 1 rfl) ?_
  refine xGet C hN hP 0 (j := 0) rfl rfl iX5_adds_X5 (by decide) kX5_adds_7 rfl rfl dX5_adds_9 ?_
  refine lv_iconst (v := nI 0) hx hb dX5_adds_12 (by decide) ?_
  refine lv_dup2_11 hx hb dX5_adds_13 rfl rfl ?_
  refine xIald C hN hP 1 (j := 0) (v := nI (V 0)) rfl (by omega) (by decide) (rfl) dX5_adds_14 ?_
  refine lv_iconst (v := nI 1) hx hb dX5_adds_15 (by decide) ?_
  refine xIadd C dX5_adds_16 ?_
  refine xIast C hN hP hD hS 1 (j := 0) rfl (by omega) (by decide) dX5_adds_17 (fun H locs hP hD hS => ?_)
  rw [show upd (vI V) (0) (nI ((V 0) + 1)) = vI (updN V 0 (V 0 + 1)) from upd_vI _ _ _] at hP hD
  have hP : va_P D vwCl [((a 0), .inr (5, [.ref (a 1), .ref (a 2), .int (nI kt), .ref (a 3), .ref (a 4), .ref (a 5), .int (nI ln), .ref (a 6), .int (nI td)])), ((a 1), .inl (kA 0, 169, .inl (vI (updN V 0 (V 0 + 1))))), ((a 2), .inl (kA 0, 1014, .inl (hs))), ((a 3), .inl (kA 0, 338, .inl (sl))), ((a 4), .inl (kA 2, 2, .inl (sv))), ((a 5), .inl (kA 0, 60, .inl (pd))), ((a 6), .inl (kA 0, 5, .inl (sg)))] H := hP
  have hD : va_D A [((a 0), .inr (5, [.ref (a 1), .ref (a 2), .int (nI kt), .ref (a 3), .ref (a 4), .ref (a 5), .int (nI ln), .ref (a 6), .int (nI td)])), ((a 1), .inl (kA 0, 169, .inl (vI (updN V 0 (V 0 + 1))))), ((a 2), .inl (kA 0, 1014, .inl (hs))), ((a 3), .inl (kA 0, 338, .inl (sl))), ((a 4), .inl (kA 2, 2, .inl (sv))), ((a 5), .inl (kA 0, 60, .inl (pd))), ((a 6), .inl (kA 0, 5, .inl (sg)))] := hD
  refine lv_aload_n hx hb dX5_adds_18 rfl (lv_at hl 1 rfl) ?_
  refine xGet C hN hP 0 (j := 0) rfl rfl iX5_adds_X5 (by decide) kX5_adds_7 rfl rfl dX5_adds_19 ?_
  refine lv_iload hx hb dX5_adds_22 (lv_at hl 0 rfl) ?_
  refine lv_iconst (v := nI 0) hx hb dX5_adds_24 (by decide) ?_
  refine xSro C hN (As := [.int (nI (V 0)), .int (nI 0)]) (rest := [.ref (a 1)]) (c_X5_at xl D kA (V 0) 0) (va_cwS 2 hts gX5_adds_X5_at rfl rfl rfl (by decide +kernel) ⟨Nat.le_of_ble_eq_true rfl, Nat.le_of_ble_eq_true rfl⟩) (hP.sub (ws' := []) [] rfl) rfl hl.1 rfl (Nat.le_of_ble_eq_true rfl) dX5_adds_25 ⟨Nat.le_of_ble_eq_true rfl, Nat.le_of_ble_eq_true rfl⟩ ?_
  refine lv_iload_n hx hb dX5_adds_28 rfl (lv_at hl 2 rfl) ?_
  refine xIast C hN hP hD hS 1 (j := 9 + 5 * (V 0) + 0) rfl (by omega) (by decide) dX5_adds_29 (fun H locs hP hD hS => ?_)
  rw [show upd (vI (updN V 0 (V 0 + 1))) (9 + 5 * (V 0) + 0) (nI l) = vI (updN (updN V 0 (V 0 + 1)) (9 + 5 * (V 0) + 0) l) from upd_vI _ _ _] at hP hD
  have hP : va_P D vwCl [((a 0), .inr (5, [.ref (a 1), .ref (a 2), .int (nI kt), .ref (a 3), .ref (a 4), .ref (a 5), .int (nI ln), .ref (a 6), .int (nI td)])), ((a 1), .inl (kA 0, 169, .inl (vI (updN (updN V 0 (V 0 + 1)) (9 + 5 * (V 0) + 0) l)))), ((a 2), .inl (kA 0, 1014, .inl (hs))), ((a 3), .inl (kA 0, 338, .inl (sl))), ((a 4), .inl (kA 2, 2, .inl (sv))), ((a 5), .inl (kA 0, 60, .inl (pd))), ((a 6), .inl (kA 0, 5, .inl (sg)))] H := hP
  have hD : va_D A [((a 0), .inr (5, [.ref (a 1), .ref (a 2), .int (nI kt), .ref (a 3), .ref (a 4), .ref (a 5), .int (nI ln), .ref (a 6), .int (nI td)])), ((a 1), .inl (kA 0, 169, .inl (vI (updN (updN V 0 (V 0 + 1)) (9 + 5 * (V 0) + 0) l)))), ((a 2), .inl (kA 0, 1014, .inl (hs))), ((a 3), .inl (kA 0, 338, .inl (sl))), ((a 4), .inl (kA 2, 2, .inl (sv))), ((a 5), .inl (kA 0, 60, .inl (pd))), ((a 6), .inl (kA 0, 5, .inl (sg)))] := hD
  refine lv_aload_n hx hb dX5_adds_30 rfl (lv_at hl 1 rfl) ?_
  refine xGet C hN hP 0 (j := 0) rfl rfl iX5_adds_X5 (by decide) kX5_adds_7 rfl rfl dX5_adds_31 ?_
  refine lv_iload hx hb dX5_adds_34 (lv_at hl 0 rfl) ?_
  refine lv_iconst (v := nI 1) hx hb dX5_adds_36 (by decide) ?_
  refine xSro C hN (As := [.int (nI (V 0)), .int (nI 1)]) (rest := [.ref (a 1)]) (c_X5_at xl D kA (V 0) 1) (va_cwS 2 hts gX5_adds_X5_at rfl rfl rfl (by decide +kernel) ⟨Nat.le_of_ble_eq_true rfl, Nat.le_of_ble_eq_true rfl⟩) (hP.sub (ws' := []) [] rfl) rfl hl.1 rfl (Nat.le_of_ble_eq_true rfl) dX5_adds_37 ⟨Nat.le_of_ble_eq_true rfl, Nat.le_of_ble_eq_true rfl⟩ ?_
  refine lv_iload_n hx hb dX5_adds_40 rfl (lv_at hl 3 rfl) ?_
  refine xIast C hN hP hD hS 1 (j := 9 + 5 * (V 0) + 1) rfl (by omega) (by decide) dX5_adds_41 (fun H locs hP hD hS => ?_)
  rw [show upd (vI (updN (updN V 0 (V 0 + 1)) (9 + 5 * (V 0) + 0) l)) (9 + 5 * (V 0) + 1) (nI k) = vI (updN (updN (updN V 0 (V 0 + 1)) (9 + 5 * (V 0) + 0) l) (9 + 5 * (V 0) + 1) k) from upd_vI _ _ _] at hP hD
  have hP : va_P D vwCl [((a 0), .inr (5, [.ref (a 1), .ref (a 2), .int (nI kt), .ref (a 3), .ref (a 4), .ref (a 5), .int (nI ln), .ref (a 6), .int (nI td)])), ((a 1), .inl (kA 0, 169, .inl (vI (updN (updN (updN V 0 (V 0 + 1)) (9 + 5 * (V 0) + 0) l) (9 + 5 * (V 0) + 1) k)))), ((a 2), .inl (kA 0, 1014, .inl (hs))), ((a 3), .inl (kA 0, 338, .inl (sl))), ((a 4), .inl (kA 2, 2, .inl (sv))), ((a 5), .inl (kA 0, 60, .inl (pd))), ((a 6), .inl (kA 0, 5, .inl (sg)))] H := hP
  have hD : va_D A [((a 0), .inr (5, [.ref (a 1), .ref (a 2), .int (nI kt), .ref (a 3), .ref (a 4), .ref (a 5), .int (nI ln), .ref (a 6), .int (nI td)])), ((a 1), .inl (kA 0, 169, .inl (vI (updN (updN (updN V 0 (V 0 + 1)) (9 + 5 * (V 0) + 0) l) (9 + 5 * (V 0) + 1) k)))), ((a 2), .inl (kA 0, 1014, .inl (hs))), ((a 3), .inl (kA 0, 338, .inl (sl))), ((a 4), .inl (kA 2, 2, .inl (sv))), ((a 5), .inl (kA 0, 60, .inl (pd))), ((a 6), .inl (kA 0, 5, .inl (sg)))] := hD
  refine lv_aload_n hx hb dX5_adds_42 rfl (lv_at hl 1 rfl) ?_
  refine xGet C hN hP 0 (j := 0) rfl rfl iX5_adds_X5 (by decide) kX5_adds_7 rfl rfl dX5_adds_43 ?_
  refine lv_iload hx hb dX5_adds_46 (lv_at hl 0 rfl) ?_
  refine lv_iconst (v := nI 2) hx hb dX5_adds_48 (by decide) ?_
  refine xSro C hN (As := [.int (nI (V 0)), .int (nI 2)]) (rest := [.ref (a 1)]) (c_X5_at xl D kA (V 0) 2) (va_cwS 2 hts gX5_adds_X5_at rfl rfl rfl (by decide +kernel) ⟨Nat.le_of_ble_eq_true rfl, Nat.le_of_ble_eq_true rfl⟩) (hP.sub (ws' := []) [] rfl) rfl hl.1 rfl (Nat.le_of_ble_eq_true rfl) dX5_adds_49 ⟨Nat.le_of_ble_eq_true rfl, Nat.le_of_ble_eq_true rfl⟩ ?_
  refine lv_iload_n hx hb dX5_adds_52 rfl (lv_at hl 4 rfl) ?_
  refine xIast C hN hP hD hS 1 (j := 9 + 5 * (V 0) + 2) rfl (by omega) (by decide) dX5_adds_53 (fun H locs hP hD hS => ?_)
  rw [show upd (vI (updN (updN (updN V 0 (V 0 + 1)) (9 + 5 * (V 0) + 0) l) (9 + 5 * (V 0) + 1) k)) (9 + 5 * (V 0) + 2) (nI c) = vI (updN (updN (updN (updN V 0 (V 0 + 1)) (9 + 5 * (V 0) + 0) l) (9 + 5 * (V 0) + 1) k) (9 + 5 * (V 0) + 2) c) from upd_vI _ _ _] at hP hD
  have hP : va_P D vwCl [((a 0), .inr (5, [.ref (a 1), .ref (a 2), .int (nI kt), .ref (a 3), .ref (a 4), .ref (a 5), .int (nI ln), .ref (a 6), .int (nI td)])), ((a 1), .inl (kA 0, 169, .inl (vI (updN (updN (updN (updN V 0 (V 0 + 1)) (9 + 5 * (V 0) + 0) l) (9 + 5 * (V 0) + 1) k) (9 + 5 * (V 0) + 2) c)))), ((a 2), .inl (kA 0, 1014, .inl (hs))), ((a 3), .inl (kA 0, 338, .inl (sl))), ((a 4), .inl (kA 2, 2, .inl (sv))), ((a 5), .inl (kA 0, 60, .inl (pd))), ((a 6), .inl (kA 0, 5, .inl (sg)))] H := hP
  have hD : va_D A [((a 0), .inr (5, [.ref (a 1), .ref (a 2), .int (nI kt), .ref (a 3), .ref (a 4), .ref (a 5), .int (nI ln), .ref (a 6), .int (nI td)])), ((a 1), .inl (kA 0, 169, .inl (vI (updN (updN (updN (updN V 0 (V 0 + 1)) (9 + 5 * (V 0) + 0) l) (9 + 5 * (V 0) + 1) k) (9 + 5 * (V 0) + 2) c)))), ((a 2), .inl (kA 0, 1014, .inl (hs))), ((a 3), .inl (kA 0, 338, .inl (sl))), ((a 4), .inl (kA 2, 2, .inl (sv))), ((a 5), .inl (kA 0, 60, .inl (pd))), ((a 6), .inl (kA 0, 5, .inl (sg)))] := hD
  refine lv_aload_n hx hb dX5_adds_54 rfl (lv_at hl 1 rfl) ?_
  refine xGet C hN hP 0 (j := 0) rfl rfl iX5_adds_X5 (by decide) kX5_adds_7 rfl rfl dX5_adds_55 ?_
  refine lv_iload hx hb dX5_adds_58 (lv_at hl 0 rfl) ?_
  refine lv_iconst (v := nI 3) hx hb dX5_adds_60 (by decide) ?_
  refine xSro C hN (As := [.int (nI (V 0)), .int (nI 3)]) (rest := [.ref (a 1)]) (c_X5_at xl D kA (V 0) 3) (va_cwS 2 hts gX5_adds_X5_at rfl rfl rfl (by decide +kernel) ⟨Nat.le_of_ble_eq_true rfl, Nat.le_of_ble_eq_true rfl⟩) (hP.sub (ws' := []) [] rfl) rfl hl.1 rfl (Nat.le_of_ble_eq_true rfl) dX5_adds_61 ⟨Nat.le_of_ble_eq_true rfl, Nat.le_of_ble_eq_true rfl⟩ ?_
  refine lv_iload hx hb dX5_adds_64 (lv_at hl 5 rfl) ?_
  refine xIast C hN hP hD hS 1 (j := 9 + 5 * (V 0) + 3) rfl (by omega) (by decide) dX5_adds_66 (fun H locs hP hD hS => ?_)
  rw [show upd (vI (updN (updN (updN (updN V 0 (V 0 + 1)) (9 + 5 * (V 0) + 0) l) (9 + 5 * (V 0) + 1) k) (9 + 5 * (V 0) + 2) c)) (9 + 5 * (V 0) + 3) (nI d) = vI (updN (updN (updN (updN (updN V 0 (V 0 + 1)) (9 + 5 * (V 0) + 0) l) (9 + 5 * (V 0) + 1) k) (9 + 5 * (V 0) + 2) c) (9 + 5 * (V 0) + 3) d) from upd_vI _ _ _] at hP hD
  have hP : va_P D vwCl [((a 0), .inr (5, [.ref (a 1), .ref (a 2), .int (nI kt), .ref (a 3), .ref (a 4), .ref (a 5), .int (nI ln), .ref (a 6), .int (nI td)])), ((a 1), .inl (kA 0, 169, .inl (vI (updN (updN (updN (updN (updN V 0 (V 0 + 1)) (9 + 5 * (V 0) + 0) l) (9 + 5 * (V 0) + 1) k) (9 + 5 * (V 0) + 2) c) (9 + 5 * (V 0) + 3) d)))), ((a 2), .inl (kA 0, 1014, .inl (hs))), ((a 3), .inl (kA 0, 338, .inl (sl))), ((a 4), .inl (kA 2, 2, .inl (sv))), ((a 5), .inl (kA 0, 60, .inl (pd))), ((a 6), .inl (kA 0, 5, .inl (sg)))] H := hP
  have hD : va_D A [((a 0), .inr (5, [.ref (a 1), .ref (a 2), .int (nI kt), .ref (a 3), .ref (a 4), .ref (a 5), .int (nI ln), .ref (a 6), .int (nI td)])), ((a 1), .inl (kA 0, 169, .inl (vI (updN (updN (updN (updN (updN V 0 (V 0 + 1)) (9 + 5 * (V 0) + 0) l) (9 + 5 * (V 0) + 1) k) (9 + 5 * (V 0) + 2) c) (9 + 5 * (V 0) + 3) d)))), ((a 2), .inl (kA 0, 1014, .inl (hs))), ((a 3), .inl (kA 0, 338, .inl (sl))), ((a 4), .inl (kA 2, 2, .inl (sv))), ((a 5), .inl (kA 0, 60, .inl (pd))), ((a 6), .inl (kA 0, 5, .inl (sg)))] := hD
  refine lv_aload_n hx hb dX5_adds_67 rfl (lv_at hl 1 rfl) ?_
  refine xGet C hN hP 0 (j := 0) rfl rfl iX5_adds_X5 (by decide) kX5_adds_7 rfl rfl dX5_adds_68 ?_
  refine lv_iload hx hb dX5_adds_71 (lv_at hl 0 rfl) ?_
  refine lv_iconst (v := nI 4) hx hb dX5_adds_73 (by decide) ?_
  refine xSro C hN (As := [.int (nI (V 0)), .int (nI 4)]) (rest := [.ref (a 1)]) (c_X5_at xl D kA (V 0) 4) (va_cwS 2 hts gX5_adds_X5_at rfl rfl rfl (by decide +kernel) ⟨Nat.le_of_ble_eq_true rfl, Nat.le_of_ble_eq_true rfl⟩) (hP.sub (ws' := []) [] rfl) rfl hl.1 rfl (Nat.le_of_ble_eq_true rfl) dX5_adds_74 ⟨Nat.le_of_ble_eq_true rfl, Nat.le_of_ble_eq_true rfl⟩ ?_
  refine lv_iload hx hb dX5_adds_77 (lv_at hl 6 rfl) ?_
  refine xIast C hN hP hD hS 1 (j := 9 + 5 * (V 0) + 4) rfl (by omega) (by decide) dX5_adds_79 (fun H locs hP hD hS => ?_)
  rw [show upd (vI (updN (updN (updN (updN (updN V 0 (V 0 + 1)) (9 + 5 * (V 0) + 0) l) (9 + 5 * (V 0) + 1) k) (9 + 5 * (V 0) + 2) c) (9 + 5 * (V 0) + 3) d)) (9 + 5 * (V 0) + 4) (nI z) = vI (updN (updN (updN (updN (updN (updN V 0 (V 0 + 1)) (9 + 5 * (V 0) + 0) l) (9 + 5 * (V 0) + 1) k) (9 + 5 * (V 0) + 2) c) (9 + 5 * (V 0) + 3) d) (9 + 5 * (V 0) + 4) z) from upd_vI _ _ _] at hP hD
  have hP : va_P D vwCl [((a 0), .inr (5, [.ref (a 1), .ref (a 2), .int (nI kt), .ref (a 3), .ref (a 4), .ref (a 5), .int (nI ln), .ref (a 6), .int (nI td)])), ((a 1), .inl (kA 0, 169, .inl (vI (updN (updN (updN (updN (updN (updN V 0 (V 0 + 1)) (9 + 5 * (V 0) + 0) l) (9 + 5 * (V 0) + 1) k) (9 + 5 * (V 0) + 2) c) (9 + 5 * (V 0) + 3) d) (9 + 5 * (V 0) + 4) z)))), ((a 2), .inl (kA 0, 1014, .inl (hs))), ((a 3), .inl (kA 0, 338, .inl (sl))), ((a 4), .inl (kA 2, 2, .inl (sv))), ((a 5), .inl (kA 0, 60, .inl (pd))), ((a 6), .inl (kA 0, 5, .inl (sg)))] H := hP
  have hD : va_D A [((a 0), .inr (5, [.ref (a 1), .ref (a 2), .int (nI kt), .ref (a 3), .ref (a 4), .ref (a 5), .int (nI ln), .ref (a 6), .int (nI td)])), ((a 1), .inl (kA 0, 169, .inl (vI (updN (updN (updN (updN (updN (updN V 0 (V 0 + 1)) (9 + 5 * (V 0) + 0) l) (9 + 5 * (V 0) + 1) k) (9 + 5 * (V 0) + 2) c) (9 + 5 * (V 0) + 3) d) (9 + 5 * (V 0) + 4) z)))), ((a 2), .inl (kA 0, 1014, .inl (hs))), ((a 3), .inl (kA 0, 338, .inl (sl))), ((a 4), .inl (kA 2, 2, .inl (sv))), ((a 5), .inl (kA 0, 60, .inl (pd))), ((a 6), .inl (kA 0, 5, .inl (sg)))] := hD
  refine lv_iload hx hb dX5_adds_80 (lv_at hl 0 rfl) ?_
  exact xRetI hx hb hret (v := nI (V 0)) (⟨rfl, by rw [← adV]⟩) hP hD hS dX5_adds_82 hlocks

set_option maxHeartbeats 8000000 in
set_option maxRecDepth 100000 in
theorem c_X5_strikes (xl : Launch) (D : va_G) (kA : Nat → ClassId) (a : Nat → Nat) (V : Nat → Nat) (hs sl sv pd sg : Nat → Int32) (kt ln td : Nat) (i : Nat) (hi : i < V 0) (hV : V 0 ≤ 24) (A : Nat → Prop) : Met xl yX5_strikes wsX5_strikes { frames := 1, cells := 0, slots := 0, locals := 21 } (va_Pc [.ref (a 0), .int (nI i)] (xPw D kA A [((a 0), .inr (5, [.ref (a 1), .ref (a 2), .int (nI kt), .ref (a 3), .ref (a 4), .ref (a 5), .int (nI ln), .ref (a 6), .int (nI td)])), ((a 1), .inl (kA 0, 169, .inl (vI V))), ((a 2), .inl (kA 0, 1014, .inl (hs))), ((a 3), .inl (kA 0, 338, .inl (sl))), ((a 4), .inl (kA 2, 2, .inl (sv))), ((a 5), .inl (kA 0, 60, .inl (pd))), ((a 6), .inl (kA 0, 5, .inl (sg)))])) (xQv D A (fun u => u = modW kA a (strV V i) hs sl sv pd sg kt ln td)) 0 0 A := by
  refine Met.ofW (cc := cX5_strikes) (maxL := 3) (ret := none) (by decide) rfl ?_
  intro xp xe xs xm args xbe xme xc s₁ B hml hv
  obtain ⟨rfl, hP, hN, hD, hA⟩ := hv
  have hret := B.returns
  have C : CallFix xp xm xc cX5_strikes 3 xs ([.ref (a 0), .int (nI i)] : List Value).toArray wsX5_strikes RX5 := ⟨B.exec, B.bytes, hml, findClass_of_methodNamed B.named, atoms_spec (ws := wsX5_strikes) B.pre⟩
  have hlocks := B.notSynchronized
  obtain ⟨hx, hb, _, hown, hts⟩ := id C
  have hS : va_S A xs.heap xs.heap [] := va_S.rf
  have hl := lv_entry ([.ref (a 0), .int (nI i)]) (n := 3) (Nat.le_of_ble_eq_true rfl)
  rw [lg_entry_eq]
  generalize (lg_sl ([.ref (a 0), .int (nI i)]) ++ List.replicate (3 - (lg_sl ([.ref (a 0), .int (nI i)])).length) Slot.unset).toArray = ls at hl ⊢
  have hl : lv_has ls 3 [(0, .ref (a 0)), (1, .int (nI i))] := hl
  refine lv_aload_n hx hb dX5_strikes_0 rfl (lv_at hl 0 rfl) ?_
  refine xGet C hN hP 0 (j := 0) rfl rfl iX5_strikes_X5 (by decide) kX5_strikes_7 rfl rfl dX5_strikes_1 ?_
  refine lv_iconst (v := nI 0) hx hb dX5_strikes_4 (by decide) ?_
  refine lv_dup2_11 hx hb dX5_strikes_5 rfl rfl ?_
  refine xIald C hN hP 1 (j := 0) (v := nI (V 0)) rfl (by omega) (by decide) (rfl) dX5_strikes_6 ?_
  refine lv_iconst (v := nI 1) hx hb dX5_strikes_7 (by decide) ?_
  refine xIsub C (by omega) dX5_strikes_8 ?_
  refine xIast C hN hP hD hS 1 (j := 0) rfl (by omega) (by decide) dX5_strikes_9 (fun H locs hP hD hS => ?_)
  rw [show upd (vI V) (0) (nI ((V 0) - 1)) = vI (shV V i (9 + 5 * i + 0)) from by rw [upd_vI, shV_0]; rfl] at hP hD
  have hP : va_P D vwCl [((a 0), .inr (5, [.ref (a 1), .ref (a 2), .int (nI kt), .ref (a 3), .ref (a 4), .ref (a 5), .int (nI ln), .ref (a 6), .int (nI td)])), ((a 1), .inl (kA 0, 169, .inl (vI (shV V i (9 + 5 * i + 0))))), ((a 2), .inl (kA 0, 1014, .inl (hs))), ((a 3), .inl (kA 0, 338, .inl (sl))), ((a 4), .inl (kA 2, 2, .inl (sv))), ((a 5), .inl (kA 0, 60, .inl (pd))), ((a 6), .inl (kA 0, 5, .inl (sg)))] H := hP
  have hD : va_D A [((a 0), .inr (5, [.ref (a 1), .ref (a 2), .int (nI kt), .ref (a 3), .ref (a 4), .ref (a 5), .int (nI ln), .ref (a 6), .int (nI td)])), ((a 1), .inl (kA 0, 169, .inl (vI (shV V i (9 + 5 * i + 0))))), ((a 2), .inl (kA 0, 1014, .inl (hs))), ((a 3), .inl (kA 0, 338, .inl (sl))), ((a 4), .inl (kA 2, 2, .inl (sv))), ((a 5), .inl (kA 0, 60, .inl (pd))), ((a 6), .inl (kA 0, 5, .inl (sg)))] := hD
  refine lv_iload_n hx hb dX5_strikes_10 rfl (lv_at hl 1 rfl) ?_
  refine lv_iconst (v := nI 0) hx hb dX5_strikes_11 (by decide) ?_
  refine xSro C hN (As := [.int (nI i), .int (nI 0)]) (rest := []) (c_X5_at xl D kA i 0) (va_cwS 2 hts gX5_strikes_X5_at rfl rfl rfl (by decide +kernel) ⟨Nat.le_of_ble_eq_true rfl, Nat.le_of_ble_eq_true rfl⟩) (hP.sub (ws' := []) [] rfl) rfl hl.1 rfl (Nat.le_of_ble_eq_true rfl) dX5_strikes_12 ⟨Nat.le_of_ble_eq_true rfl, Nat.le_of_ble_eq_true rfl⟩ ?_
  refine lv_istore_n (lv' := [(2, .int (nI (9 + 5 * i + 0))), (0, .ref (a 0)), (1, .int (nI i))]) hx hb dX5_strikes_15 rfl hl (by decide) rfl (fun ls hl => ?_)
  have L16 : ∀ (fuel : Nat), ∀ (k : Nat) (hmu : 200 - k < fuel) (hk1 : 9 + 5 * i ≤ k) (hk2 : k ≤ 9 + 5 * (V 0 - 1)) (H : Heap) (locs : List Loc) (_ : va_P D vwCl [((a 0), .inr (5, [.ref (a 1), .ref (a 2), .int (nI kt), .ref (a 3), .ref (a 4), .ref (a 5), .int (nI ln), .ref (a 6), .int (nI td)])), ((a 1), .inl (kA 0, 169, .inl (vI (shV V i k)))), ((a 2), .inl (kA 0, 1014, .inl (hs))), ((a 3), .inl (kA 0, 338, .inl (sl))), ((a 4), .inl (kA 2, 2, .inl (sv))), ((a 5), .inl (kA 0, 60, .inl (pd))), ((a 6), .inl (kA 0, 5, .inl (sg)))] H) (_ : va_D A [((a 0), .inr (5, [.ref (a 1), .ref (a 2), .int (nI kt), .ref (a 3), .ref (a 4), .ref (a 5), .int (nI ln), .ref (a 6), .int (nI td)])), ((a 1), .inl (kA 0, 169, .inl (vI (shV V i k)))), ((a 2), .inl (kA 0, 1014, .inl (hs))), ((a 3), .inl (kA 0, 338, .inl (sl))), ((a 4), .inl (kA 2, 2, .inl (sv))), ((a 5), .inl (kA 0, 60, .inl (pd))), ((a 6), .inl (kA 0, 5, .inl (sg)))]) (_ : va_S A xs.heap H locs) (ls : Array Slot) (_ : lv_has ls 3 [(2, .int (nI k)), (0, .ref (a 0)), (1, .int (nI i))]), W xp xl xe (headSpec wsX5_strikes { frames := 1, cells := 0, slots := 0, locals := 21 }).room xs xm ([.ref (a 0), .int (nI i)] : List Value).toArray xbe xme xc H locs 0 0 (MQ xbe (xQv D A (fun u => u = modW kA a (strV V i) hs sl sv pd sg kt ln td)) ([.ref (a 0), .int (nI i)] : List Value).toArray xs 0 0 A) (F0 xm 16 ls []) := by
    intro fuel
    induction fuel with
    | zero => intro k hmu; exact absurd hmu (Nat.not_lt_zero _)
    | succ fuel ih16 =>
      intro k hmu hk1 hk2 H locs hP hD hS ls hl
      refine lv_iload_n hx hb dX5_strikes_16 rfl (lv_at hl 0 rfl) ?_
      refine lv_aload_n hx hb dX5_strikes_17 rfl (lv_at hl 1 rfl) ?_
      refine xGet C hN hP 0 (j := 0) rfl rfl iX5_strikes_X5 (by decide) kX5_strikes_7 rfl rfl dX5_strikes_18 ?_
      refine lv_iconst (v := nI 0) hx hb dX5_strikes_21 (by decide) ?_
      refine xIald C hN hP 1 (j := 0) (v := nI ((shV V i k) 0)) rfl (by omega) (by decide) (rfl) dX5_strikes_22 ?_
      refine lv_iconst (v := nI 0) hx hb dX5_strikes_23 (by decide) ?_
      refine xSro C hN (As := [.int (nI ((shV V i k) 0)), .int (nI 0)]) (rest := [.int (nI k)]) (c_X5_at xl D kA (V 0 - 1) 0) (va_cwS 2 hts gX5_strikes_X5_at rfl rfl rfl (by decide +kernel) ⟨Nat.le_of_ble_eq_true rfl, Nat.le_of_ble_eq_true rfl⟩) (hP.sub (ws' := []) [] rfl) rfl hl.1 rfl (Nat.le_of_ble_eq_true rfl) dX5_strikes_24 ⟨Nat.le_of_ble_eq_true rfl, Nat.le_of_ble_eq_true rfl⟩ ?_
      refine xIcmpGe C (tgt := 50) (by omega) (by omega) dX5_strikes_27 (by decide) (fun h_27 => ?_) (fun h_27 => ?_)
      · skip
        refine lv_iconst (v := nI 0) hx hb dX5_strikes_50 (by decide) ?_
        refine lv_istore_n (lv' := [(2, .int (nI 0)), (0, .ref (a 0)), (1, .int (nI i))]) hx hb dX5_strikes_51 rfl hl (by decide) rfl (fun ls hl => ?_)
        rw [shV_e V (i := i) (k := k) (by omega)] at hP hD
        skip
        have L52 : ∀ (fuel : Nat), ∀ (e : Nat) (hmu : 5 - e < fuel) (he : e ≤ 5) (H : Heap) (locs : List Loc) (_ : va_P D vwCl [((a 0), .inr (5, [.ref (a 1), .ref (a 2), .int (nI kt), .ref (a 3), .ref (a 4), .ref (a 5), .int (nI ln), .ref (a 6), .int (nI td)])), ((a 1), .inl (kA 0, 169, .inl (vI (zrV V i e)))), ((a 2), .inl (kA 0, 1014, .inl (hs))), ((a 3), .inl (kA 0, 338, .inl (sl))), ((a 4), .inl (kA 2, 2, .inl (sv))), ((a 5), .inl (kA 0, 60, .inl (pd))), ((a 6), .inl (kA 0, 5, .inl (sg)))] H) (_ : va_D A [((a 0), .inr (5, [.ref (a 1), .ref (a 2), .int (nI kt), .ref (a 3), .ref (a 4), .ref (a 5), .int (nI ln), .ref (a 6), .int (nI td)])), ((a 1), .inl (kA 0, 169, .inl (vI (zrV V i e)))), ((a 2), .inl (kA 0, 1014, .inl (hs))), ((a 3), .inl (kA 0, 338, .inl (sl))), ((a 4), .inl (kA 2, 2, .inl (sv))), ((a 5), .inl (kA 0, 60, .inl (pd))), ((a 6), .inl (kA 0, 5, .inl (sg)))]) (_ : va_S A xs.heap H locs) (ls : Array Slot) (_ : lv_has ls 3 [(2, .int (nI e)), (0, .ref (a 0)), (1, .int (nI i))]), W xp xl xe (headSpec wsX5_strikes { frames := 1, cells := 0, slots := 0, locals := 21 }).room xs xm ([.ref (a 0), .int (nI i)] : List Value).toArray xbe xme xc H locs 0 0 (MQ xbe (xQv D A (fun u => u = modW kA a (strV V i) hs sl sv pd sg kt ln td)) ([.ref (a 0), .int (nI i)] : List Value).toArray xs 0 0 A) (F0 xm 52 ls []) := by
          intro fuel
          induction fuel with
          | zero => intro e hmu; exact absurd hmu (Nat.not_lt_zero _)
          | succ fuel ih52 =>
            intro e hmu he H locs hP hD hS ls hl
            refine lv_iload_n hx hb dX5_strikes_52 rfl (lv_at hl 0 rfl) ?_
            refine lv_iconst (v := nI 5) hx hb dX5_strikes_53 (by decide) ?_
            refine xIcmpGe C (tgt := 79) (by omega) (by decide) dX5_strikes_54 (by decide) (fun h_54 => ?_) (fun h_54 => ?_)
            · skip
              exact xRetV hx hb hret (by rw [show e = 5 by omega]; rfl) hP hD hS dX5_strikes_79 hlocks
            · skip
              refine lv_aload_n hx hb dX5_strikes_57 rfl (lv_at hl 1 rfl) ?_
              refine xGet C hN hP 0 (j := 0) rfl rfl iX5_strikes_X5 (by decide) kX5_strikes_7 rfl rfl dX5_strikes_58 ?_
              refine lv_aload_n hx hb dX5_strikes_61 rfl (lv_at hl 1 rfl) ?_
              refine xGet C hN hP 0 (j := 0) rfl rfl iX5_strikes_X5 (by decide) kX5_strikes_7 rfl rfl dX5_strikes_62 ?_
              refine lv_iconst (v := nI 0) hx hb dX5_strikes_65 (by decide) ?_
              refine xIald C hN hP 1 (j := 0) (v := nI (V 0 - 1)) rfl (by omega) (by decide) (rfl) dX5_strikes_66 ?_
              refine lv_iload_n hx hb dX5_strikes_67 rfl (lv_at hl 0 rfl) ?_
              refine xSro C hN (As := [.int (nI (V 0 - 1)), .int (nI e)]) (rest := [.ref (a 1)]) (c_X5_at xl D kA (V 0 - 1) e) (va_cwS 2 hts gX5_strikes_X5_at rfl rfl rfl (by decide +kernel) ⟨Nat.le_of_ble_eq_true rfl, Nat.le_of_ble_eq_true rfl⟩) (hP.sub (ws' := []) [] rfl) rfl hl.1 rfl (Nat.le_of_ble_eq_true rfl) dX5_strikes_68 ⟨Nat.le_of_ble_eq_true rfl, Nat.le_of_ble_eq_true rfl⟩ ?_
              refine lv_iconst (v := nI 0) hx hb dX5_strikes_71 (by decide) ?_
              refine xIast C hN hP hD hS 1 (j := 9 + 5 * (V 0 - 1) + e) rfl (by omega) (by decide) dX5_strikes_72 (fun H locs hP hD hS => ?_)
              rw [show upd (vI (zrV V i e)) (9 + 5 * (V 0 - 1) + e) (nI 0) = vI (zrV V i (e + 1)) from by rw [upd_vI, zrV_s V hi]] at hP hD
              have hP : va_P D vwCl [((a 0), .inr (5, [.ref (a 1), .ref (a 2), .int (nI kt), .ref (a 3), .ref (a 4), .ref (a 5), .int (nI ln), .ref (a 6), .int (nI td)])), ((a 1), .inl (kA 0, 169, .inl (vI (zrV V i (e + 1))))), ((a 2), .inl (kA 0, 1014, .inl (hs))), ((a 3), .inl (kA 0, 338, .inl (sl))), ((a 4), .inl (kA 2, 2, .inl (sv))), ((a 5), .inl (kA 0, 60, .inl (pd))), ((a 6), .inl (kA 0, 5, .inl (sg)))] H := hP
              have hD : va_D A [((a 0), .inr (5, [.ref (a 1), .ref (a 2), .int (nI kt), .ref (a 3), .ref (a 4), .ref (a 5), .int (nI ln), .ref (a 6), .int (nI td)])), ((a 1), .inl (kA 0, 169, .inl (vI (zrV V i (e + 1))))), ((a 2), .inl (kA 0, 1014, .inl (hs))), ((a 3), .inl (kA 0, 338, .inl (sl))), ((a 4), .inl (kA 2, 2, .inl (sv))), ((a 5), .inl (kA 0, 60, .inl (pd))), ((a 6), .inl (kA 0, 5, .inl (sg)))] := hD
              refine xIinc C (kx := 0) (d := 1) (lv' := [(2, .int (nI (e + 1))), (0, .ref (a 0)), (1, .int (nI i))]) dX5_strikes_73 hl rfl (by decide) (by decide) rfl (fun ls hl => ?_)
              refine lv_goto (tgt := 52) hx hb dX5_strikes_76 (by decide) ?_
              have hP : va_P D vwCl [((a 0), .inr (5, [.ref (a 1), .ref (a 2), .int (nI kt), .ref (a 3), .ref (a 4), .ref (a 5), .int (nI ln), .ref (a 6), .int (nI td)])), ((a 1), .inl (kA 0, 169, .inl (vI (zrV V i (e + 1))))), ((a 2), .inl (kA 0, 1014, .inl (hs))), ((a 3), .inl (kA 0, 338, .inl (sl))), ((a 4), .inl (kA 2, 2, .inl (sv))), ((a 5), .inl (kA 0, 60, .inl (pd))), ((a 6), .inl (kA 0, 5, .inl (sg)))] H := hP
              exact ih52 (e + 1) (by omega) (by omega) _ _ hP hD hS _ (lv_sub hl [0, 1, 2] rfl)
        exact L52 _ 0 (Nat.lt_succ_self _) (by omega) _ _ hP hD hS _ (lv_sub hl [0, 1, 2] rfl)
      · skip
        refine lv_aload_n hx hb dX5_strikes_30 rfl (lv_at hl 1 rfl) ?_
        refine xGet C hN hP 0 (j := 0) rfl rfl iX5_strikes_X5 (by decide) kX5_strikes_7 rfl rfl dX5_strikes_31 ?_
        refine lv_iload_n hx hb dX5_strikes_34 rfl (lv_at hl 0 rfl) ?_
        refine lv_aload_n hx hb dX5_strikes_35 rfl (lv_at hl 1 rfl) ?_
        refine xGet C hN hP 0 (j := 0) rfl rfl iX5_strikes_X5 (by decide) kX5_strikes_7 rfl rfl dX5_strikes_36 ?_
        refine lv_iload_n hx hb dX5_strikes_39 rfl (lv_at hl 0 rfl) ?_
        refine lv_iconst (v := nI 5) hx hb dX5_strikes_40 (by decide) ?_
        refine xIadd C dX5_strikes_41 ?_
        refine xIald C hN hP 1 (j := k + 5) (v := nI (V (k + 5))) rfl (by omega) (by decide) (congrArg nI (shV_hi V hk1)) dX5_strikes_42 ?_
        refine xIast C hN hP hD hS 1 (j := k) rfl (by omega) (by decide) dX5_strikes_43 (fun H locs hP hD hS => ?_)
        rw [show upd (vI (shV V i k)) (k) (nI (V (k + 5))) = vI (shV V i (k + 1)) from by rw [upd_vI, shV_s V hk1]] at hP hD
        have hP : va_P D vwCl [((a 0), .inr (5, [.ref (a 1), .ref (a 2), .int (nI kt), .ref (a 3), .ref (a 4), .ref (a 5), .int (nI ln), .ref (a 6), .int (nI td)])), ((a 1), .inl (kA 0, 169, .inl (vI (shV V i (k + 1))))), ((a 2), .inl (kA 0, 1014, .inl (hs))), ((a 3), .inl (kA 0, 338, .inl (sl))), ((a 4), .inl (kA 2, 2, .inl (sv))), ((a 5), .inl (kA 0, 60, .inl (pd))), ((a 6), .inl (kA 0, 5, .inl (sg)))] H := hP
        have hD : va_D A [((a 0), .inr (5, [.ref (a 1), .ref (a 2), .int (nI kt), .ref (a 3), .ref (a 4), .ref (a 5), .int (nI ln), .ref (a 6), .int (nI td)])), ((a 1), .inl (kA 0, 169, .inl (vI (shV V i (k + 1))))), ((a 2), .inl (kA 0, 1014, .inl (hs))), ((a 3), .inl (kA 0, 338, .inl (sl))), ((a 4), .inl (kA 2, 2, .inl (sv))), ((a 5), .inl (kA 0, 60, .inl (pd))), ((a 6), .inl (kA 0, 5, .inl (sg)))] := hD
        refine xIinc C (kx := 0) (d := 1) (lv' := [(2, .int (nI (k + 1))), (0, .ref (a 0)), (1, .int (nI i))]) dX5_strikes_44 hl rfl (by decide) (by decide) rfl (fun ls hl => ?_)
        refine lv_goto (tgt := 16) hx hb dX5_strikes_47 (by decide) ?_
        have hP : va_P D vwCl [((a 0), .inr (5, [.ref (a 1), .ref (a 2), .int (nI kt), .ref (a 3), .ref (a 4), .ref (a 5), .int (nI ln), .ref (a 6), .int (nI td)])), ((a 1), .inl (kA 0, 169, .inl (vI (shV V i (k + 1))))), ((a 2), .inl (kA 0, 1014, .inl (hs))), ((a 3), .inl (kA 0, 338, .inl (sl))), ((a 4), .inl (kA 2, 2, .inl (sv))), ((a 5), .inl (kA 0, 60, .inl (pd))), ((a 6), .inl (kA 0, 5, .inl (sg)))] H := hP
        exact ih16 (k + 1) (by omega) (by omega) (by omega) _ _ hP hD hS _ (lv_sub hl [0, 1, 2] rfl)
  exact L16 _ (9 + 5 * i + 0) (Nat.lt_succ_self _) (by omega) (by omega) _ _ hP hD hS _ (lv_sub hl [0, 1, 2] rfl)

set_option maxHeartbeats 8000000 in
set_option maxRecDepth 100000 in
theorem c_X5_record (xl : Launch) (D : va_G) (kA : Nat → ClassId) (a : Nat → Nat) (V : Nat → Nat) (hs sl sv pd sg : Nat → Int32) (kt ln td : Nat) (HH : Nat → Nat → Nat) (hH : relH hs kt HH) (hk : kt ≤ 6) (A : Nat → Prop) : Met xl yX5_record wsX5_record { frames := 0, cells := 0, slots := 0, locals := 0 } (va_Pc [.ref (a 0)] (xPw D kA A [((a 0), .inr (5, [.ref (a 1), .ref (a 2), .int (nI kt), .ref (a 3), .ref (a 4), .ref (a 5), .int (nI ln), .ref (a 6), .int (nI td)])), ((a 1), .inl (kA 0, 169, .inl (vI V))), ((a 2), .inl (kA 0, 1014, .inl (hs))), ((a 3), .inl (kA 0, 338, .inl (sl))), ((a 4), .inl (kA 2, 2, .inl (sv))), ((a 5), .inl (kA 0, 60, .inl (pd))), ((a 6), .inl (kA 0, 5, .inl (sg)))])) (xQv D A (fun u => ∃ h2 : Nat → Int32, u = modW kA a V h2 sl sv pd sg (pushN kt) ln td ∧ relH h2 (pushN kt) (pushH HH kt V))) 0 0 A := by
  refine Met.ofW (cc := cX5_record) (maxL := 2) (ret := none) (by decide) rfl ?_
  intro xp xe xs xm args xbe xme xc s₁ B hml hv
  obtain ⟨rfl, hP, hN, hD, hA⟩ := hv
  have hret := B.returns
  have C : CallFix xp xm xc cX5_record 2 xs ([.ref (a 0)] : List Value).toArray wsX5_record RX5 := ⟨B.exec, B.bytes, hml, findClass_of_methodNamed B.named, atoms_spec (ws := wsX5_record) B.pre⟩
  have hlocks := B.notSynchronized
  obtain ⟨hx, hb, _, hown, hts⟩ := id C
  have hS : va_S A xs.heap xs.heap [] := va_S.rf
  have hl := lv_entry ([.ref (a 0)]) (n := 2) (Nat.le_of_ble_eq_true rfl)
  rw [lg_entry_eq]
  generalize (lg_sl ([.ref (a 0)]) ++ List.replicate (2 - (lg_sl ([.ref (a 0)])).length) Slot.unset).toArray = ls at hl ⊢
  have hl : lv_has ls 2 [(0, .ref (a 0))] := hl
  refine lv_aload_n hx hb dX5_record_0 rfl (lv_at hl 0 rfl) ?_
  refine xGet C hN hP 0 (j := 2) rfl rfl iX5_record_X5 (by decide) kX5_record_37 rfl rfl dX5_record_1 ?_
  refine lv_bipush (v := nI 6) hx hb dX5_record_4 (by decide) ?_
  have J6 : ∀ (h1 : Nat → Int32) (k1 : Nat) (hk1 : k1 ≤ 5) (hk1p : pushN kt = k1 + 1) (hh1 : relH (cpH h1 k1 V 169) (k1 + 1) (pushH HH kt V)) (H : Heap) (locs : List Loc) (_ : va_P D vwCl [((a 0), .inr (5, [.ref (a 1), .ref (a 2), .int (nI k1), .ref (a 3), .ref (a 4), .ref (a 5), .int (nI ln), .ref (a 6), .int (nI td)])), ((a 1), .inl (kA 0, 169, .inl (vI V))), ((a 2), .inl (kA 0, 1014, .inl (h1))), ((a 3), .inl (kA 0, 338, .inl (sl))), ((a 4), .inl (kA 2, 2, .inl (sv))), ((a 5), .inl (kA 0, 60, .inl (pd))), ((a 6), .inl (kA 0, 5, .inl (sg)))] H) (_ : va_D A [((a 0), .inr (5, [.ref (a 1), .ref (a 2), .int (nI k1), .ref (a 3), .ref (a 4), .ref (a 5), .int (nI ln), .ref (a 6), .int (nI td)])), ((a 1), .inl (kA 0, 169, .inl (vI V))), ((a 2), .inl (kA 0, 1014, .inl (h1))), ((a 3), .inl (kA 0, 338, .inl (sl))), ((a 4), .inl (kA 2, 2, .inl (sv))), ((a 5), .inl (kA 0, 60, .inl (pd))), ((a 6), .inl (kA 0, 5, .inl (sg)))]) (_ : va_S A xs.heap H locs) (ls : Array Slot) (_ : lv_has ls 2 [(0, .ref (a 0))]), W xp xl xe (headSpec wsX5_record { frames := 0, cells := 0, slots := 0, locals := 0 }).room xs xm ([.ref (a 0)] : List Value).toArray xbe xme xc H locs 0 0 (MQ xbe (xQv D A (fun u => ∃ h2 : Nat → Int32, u = modW kA a V h2 sl sv pd sg (pushN kt) ln td ∧ relH h2 (pushN kt) (pushH HH kt V))) ([.ref (a 0)] : List Value).toArray xs 0 0 A) (F0 xm 50 ls []) := by
    intro h1 k1 hk1 hk1p hh1 H locs hP hD hS ls hl
    refine lv_iconst (v := nI 0) hx hb dX5_record_50 (by decide) ?_
    refine lv_istore_n (lv' := [(1, .int (nI 0)), (0, .ref (a 0))]) hx hb dX5_record_51 rfl hl (by decide) rfl (fun ls hl => ?_)
    rw [← cpH_0 h1 k1 V] at hP hD
    skip
    have L52 : ∀ (fuel : Nat), ∀ (e : Nat) (hmu : 169 - e < fuel) (he : e ≤ 169) (H : Heap) (locs : List Loc) (_ : va_P D vwCl [((a 0), .inr (5, [.ref (a 1), .ref (a 2), .int (nI k1), .ref (a 3), .ref (a 4), .ref (a 5), .int (nI ln), .ref (a 6), .int (nI td)])), ((a 1), .inl (kA 0, 169, .inl (vI V))), ((a 2), .inl (kA 0, 1014, .inl (cpH h1 k1 V e))), ((a 3), .inl (kA 0, 338, .inl (sl))), ((a 4), .inl (kA 2, 2, .inl (sv))), ((a 5), .inl (kA 0, 60, .inl (pd))), ((a 6), .inl (kA 0, 5, .inl (sg)))] H) (_ : va_D A [((a 0), .inr (5, [.ref (a 1), .ref (a 2), .int (nI k1), .ref (a 3), .ref (a 4), .ref (a 5), .int (nI ln), .ref (a 6), .int (nI td)])), ((a 1), .inl (kA 0, 169, .inl (vI V))), ((a 2), .inl (kA 0, 1014, .inl (cpH h1 k1 V e))), ((a 3), .inl (kA 0, 338, .inl (sl))), ((a 4), .inl (kA 2, 2, .inl (sv))), ((a 5), .inl (kA 0, 60, .inl (pd))), ((a 6), .inl (kA 0, 5, .inl (sg)))]) (_ : va_S A xs.heap H locs) (ls : Array Slot) (_ : lv_has ls 2 [(1, .int (nI e)), (0, .ref (a 0))]), W xp xl xe (headSpec wsX5_record { frames := 0, cells := 0, slots := 0, locals := 0 }).room xs xm ([.ref (a 0)] : List Value).toArray xbe xme xc H locs 0 0 (MQ xbe (xQv D A (fun u => ∃ h2 : Nat → Int32, u = modW kA a V h2 sl sv pd sg (pushN kt) ln td ∧ relH h2 (pushN kt) (pushH HH kt V))) ([.ref (a 0)] : List Value).toArray xs 0 0 A) (F0 xm 52 ls []) := by
      intro fuel
      induction fuel with
      | zero => intro e hmu; exact absurd hmu (Nat.not_lt_zero _)
      | succ fuel ih52 =>
        intro e hmu he H locs hP hD hS ls hl
        refine lv_iload_n hx hb dX5_record_52 rfl (lv_at hl 0 rfl) ?_
        refine lv_sipush (v := nI 169) hx hb dX5_record_53 (by decide) ?_
        refine xIcmpGe C (tgt := 86) (by omega) (by decide) dX5_record_56 (by decide) (fun h_56 => ?_) (fun h_56 => ?_)
        · skip
          refine lv_aload_n hx hb dX5_record_86 rfl (lv_at hl 1 rfl) ?_
          refine lv_dup hx hb dX5_record_87 rfl ?_
          refine xGet C hN hP 0 (j := 2) rfl rfl iX5_record_X5 (by decide) kX5_record_37 rfl rfl dX5_record_88 ?_
          refine lv_iconst (v := nI 1) hx hb dX5_record_91 (by decide) ?_
          refine xIadd C dX5_record_92 ?_
          refine xPut C hN hP hD hS 0 (j := 2) (v := .int (nI (k1 + 1))) rfl rfl iX5_record_X5 tyX5_ok nmX5 (by decide) kX5_record_37 rfl rfl rfl rfl (Nat.le_of_ble_eq_true rfl) dX5_record_93 (fun H locs hP hD hS => ?_)
          have hP : va_P D vwCl [((a 0), .inr (5, [.ref (a 1), .ref (a 2), .int (nI (k1 + 1)), .ref (a 3), .ref (a 4), .ref (a 5), .int (nI ln), .ref (a 6), .int (nI td)])), ((a 1), .inl (kA 0, 169, .inl (vI V))), ((a 2), .inl (kA 0, 1014, .inl (cpH h1 k1 V e))), ((a 3), .inl (kA 0, 338, .inl (sl))), ((a 4), .inl (kA 2, 2, .inl (sv))), ((a 5), .inl (kA 0, 60, .inl (pd))), ((a 6), .inl (kA 0, 5, .inl (sg)))] H := hP
          have hD : va_D A [((a 0), .inr (5, [.ref (a 1), .ref (a 2), .int (nI (k1 + 1)), .ref (a 3), .ref (a 4), .ref (a 5), .int (nI ln), .ref (a 6), .int (nI td)])), ((a 1), .inl (kA 0, 169, .inl (vI V))), ((a 2), .inl (kA 0, 1014, .inl (cpH h1 k1 V e))), ((a 3), .inl (kA 0, 338, .inl (sl))), ((a 4), .inl (kA 2, 2, .inl (sv))), ((a 5), .inl (kA 0, 60, .inl (pd))), ((a 6), .inl (kA 0, 5, .inl (sg)))] := hD
          exact xRetV hx hb hret (⟨cpH h1 k1 V 169, by rw [hk1p, show e = 169 by omega], by rw [hk1p]; exact hh1⟩) hP hD hS dX5_record_96 hlocks
        · skip
          refine lv_aload_n hx hb dX5_record_59 rfl (lv_at hl 1 rfl) ?_
          refine xGet C hN hP 0 (j := 1) rfl rfl iX5_record_X5 (by decide) kX5_record_13 rfl rfl dX5_record_60 ?_
          refine lv_sipush (v := nI 169) hx hb dX5_record_63 (by decide) ?_
          refine lv_aload_n hx hb dX5_record_66 rfl (lv_at hl 1 rfl) ?_
          refine xGet C hN hP 0 (j := 2) rfl rfl iX5_record_X5 (by decide) kX5_record_37 rfl rfl dX5_record_67 ?_
          refine xImul C dX5_record_70 ?_
          refine lv_iload_n hx hb dX5_record_71 rfl (lv_at hl 0 rfl) ?_
          refine xIadd C dX5_record_72 ?_
          refine lv_aload_n hx hb dX5_record_73 rfl (lv_at hl 1 rfl) ?_
          refine xGet C hN hP 0 (j := 0) rfl rfl iX5_record_X5 (by decide) kX5_record_7 rfl rfl dX5_record_74 ?_
          refine lv_iload_n hx hb dX5_record_77 rfl (lv_at hl 0 rfl) ?_
          refine xIald C hN hP 1 (j := e) (v := nI (V e)) rfl (by omega) (by decide) (rfl) dX5_record_78 ?_
          refine xIast C hN hP hD hS 2 (j := (169 * k1) + e) rfl (by omega) (by decide) dX5_record_79 (fun H locs hP hD hS => ?_)
          rw [show upd (cpH h1 k1 V e) ((169 * k1) + e) (nI (V e)) = cpH h1 k1 V (e + 1) from cpH_s h1 k1 V e] at hP hD
          have hP : va_P D vwCl [((a 0), .inr (5, [.ref (a 1), .ref (a 2), .int (nI k1), .ref (a 3), .ref (a 4), .ref (a 5), .int (nI ln), .ref (a 6), .int (nI td)])), ((a 1), .inl (kA 0, 169, .inl (vI V))), ((a 2), .inl (kA 0, 1014, .inl (cpH h1 k1 V (e + 1)))), ((a 3), .inl (kA 0, 338, .inl (sl))), ((a 4), .inl (kA 2, 2, .inl (sv))), ((a 5), .inl (kA 0, 60, .inl (pd))), ((a 6), .inl (kA 0, 5, .inl (sg)))] H := hP
          have hD : va_D A [((a 0), .inr (5, [.ref (a 1), .ref (a 2), .int (nI k1), .ref (a 3), .ref (a 4), .ref (a 5), .int (nI ln), .ref (a 6), .int (nI td)])), ((a 1), .inl (kA 0, 169, .inl (vI V))), ((a 2), .inl (kA 0, 1014, .inl (cpH h1 k1 V (e + 1)))), ((a 3), .inl (kA 0, 338, .inl (sl))), ((a 4), .inl (kA 2, 2, .inl (sv))), ((a 5), .inl (kA 0, 60, .inl (pd))), ((a 6), .inl (kA 0, 5, .inl (sg)))] := hD
          refine xIinc C (kx := 0) (d := 1) (lv' := [(1, .int (nI (e + 1))), (0, .ref (a 0))]) dX5_record_80 hl rfl (by decide) (by decide) rfl (fun ls hl => ?_)
          refine lv_goto (tgt := 52) hx hb dX5_record_83 (by decide) ?_
          have hP : va_P D vwCl [((a 0), .inr (5, [.ref (a 1), .ref (a 2), .int (nI k1), .ref (a 3), .ref (a 4), .ref (a 5), .int (nI ln), .ref (a 6), .int (nI td)])), ((a 1), .inl (kA 0, 169, .inl (vI V))), ((a 2), .inl (kA 0, 1014, .inl (cpH h1 k1 V (e + 1)))), ((a 3), .inl (kA 0, 338, .inl (sl))), ((a 4), .inl (kA 2, 2, .inl (sv))), ((a 5), .inl (kA 0, 60, .inl (pd))), ((a 6), .inl (kA 0, 5, .inl (sg)))] H := hP
          exact ih52 (e + 1) (by omega) (by omega) _ _ hP hD hS _ (lv_sub hl [0, 1] rfl)
    exact L52 _ 0 (Nat.lt_succ_self _) (by omega) _ _ hP hD hS _ (lv_sub hl [0, 1] rfl)
  refine xIcmpNe C (tgt := 50) (by omega) (by decide) dX5_record_6 (by decide) (fun h_6 => ?_) (fun h_6 => ?_)
  · skip
    have hP : va_P D vwCl [((a 0), .inr (5, [.ref (a 1), .ref (a 2), .int (nI kt), .ref (a 3), .ref (a 4), .ref (a 5), .int (nI ln), .ref (a 6), .int (nI td)])), ((a 1), .inl (kA 0, 169, .inl (vI V))), ((a 2), .inl (kA 0, 1014, .inl (hs))), ((a 3), .inl (kA 0, 338, .inl (sl))), ((a 4), .inl (kA 2, 2, .inl (sv))), ((a 5), .inl (kA 0, 60, .inl (pd))), ((a 6), .inl (kA 0, 5, .inl (sg)))] xs.heap := hP
    exact J6 hs kt (by omega) (by unfold pushN; first | (rw [if_pos h_6]; omega) | rw [if_neg h_6]) (by first | exact push_n hH h_6 | (rw [show k = 845 by omega, show kt - 1 = 5 by omega]; exact push_6 hH h_6)) _ _ hP hD hS _ (lv_sub hl [0] rfl)
  · skip
    refine lv_iconst (v := nI 0) hx hb dX5_record_9 (by decide) ?_
    refine lv_istore_n (lv' := [(1, .int (nI 0)), (0, .ref (a 0))]) hx hb dX5_record_10 rfl hl (by decide) rfl (fun ls hl => ?_)
    rw [← shH_0 hs] at hP hD
    skip
    have L11 : ∀ (fuel : Nat), ∀ (k : Nat) (hmu : 845 - k < fuel) (hk2 : k ≤ 845) (H : Heap) (locs : List Loc) (_ : va_P D vwCl [((a 0), .inr (5, [.ref (a 1), .ref (a 2), .int (nI kt), .ref (a 3), .ref (a 4), .ref (a 5), .int (nI ln), .ref (a 6), .int (nI td)])), ((a 1), .inl (kA 0, 169, .inl (vI V))), ((a 2), .inl (kA 0, 1014, .inl (shH hs k))), ((a 3), .inl (kA 0, 338, .inl (sl))), ((a 4), .inl (kA 2, 2, .inl (sv))), ((a 5), .inl (kA 0, 60, .inl (pd))), ((a 6), .inl (kA 0, 5, .inl (sg)))] H) (_ : va_D A [((a 0), .inr (5, [.ref (a 1), .ref (a 2), .int (nI kt), .ref (a 3), .ref (a 4), .ref (a 5), .int (nI ln), .ref (a 6), .int (nI td)])), ((a 1), .inl (kA 0, 169, .inl (vI V))), ((a 2), .inl (kA 0, 1014, .inl (shH hs k))), ((a 3), .inl (kA 0, 338, .inl (sl))), ((a 4), .inl (kA 2, 2, .inl (sv))), ((a 5), .inl (kA 0, 60, .inl (pd))), ((a 6), .inl (kA 0, 5, .inl (sg)))]) (_ : va_S A xs.heap H locs) (ls : Array Slot) (_ : lv_has ls 2 [(1, .int (nI k)), (0, .ref (a 0))]), W xp xl xe (headSpec wsX5_record { frames := 0, cells := 0, slots := 0, locals := 0 }).room xs xm ([.ref (a 0)] : List Value).toArray xbe xme xc H locs 0 0 (MQ xbe (xQv D A (fun u => ∃ h2 : Nat → Int32, u = modW kA a V h2 sl sv pd sg (pushN kt) ln td ∧ relH h2 (pushN kt) (pushH HH kt V))) ([.ref (a 0)] : List Value).toArray xs 0 0 A) (F0 xm 11 ls []) := by
      intro fuel
      induction fuel with
      | zero => intro k hmu; exact absurd hmu (Nat.not_lt_zero _)
      | succ fuel ih11 =>
        intro k hmu hk2 H locs hP hD hS ls hl
        refine lv_iload_n hx hb dX5_record_11 rfl (lv_at hl 0 rfl) ?_
        refine lv_sipush (v := nI 845) hx hb dX5_record_12 (by decide) ?_
        refine xIcmpGe C (tgt := 40) (by omega) (by decide) dX5_record_15 (by decide) (fun h_15 => ?_) (fun h_15 => ?_)
        · skip
          refine lv_aload_n hx hb dX5_record_40 rfl (lv_at hl 1 rfl) ?_
          refine lv_dup hx hb dX5_record_41 rfl ?_
          refine xGet C hN hP 0 (j := 2) rfl rfl iX5_record_X5 (by decide) kX5_record_37 rfl rfl dX5_record_42 ?_
          refine lv_iconst (v := nI 1) hx hb dX5_record_45 (by decide) ?_
          refine xIsub C (by omega) dX5_record_46 ?_
          refine xPut C hN hP hD hS 0 (j := 2) (v := .int (nI (kt - 1))) rfl rfl iX5_record_X5 tyX5_ok nmX5 (by decide) kX5_record_37 rfl rfl rfl rfl (Nat.le_of_ble_eq_true rfl) dX5_record_47 (fun H locs hP hD hS => ?_)
          have hP : va_P D vwCl [((a 0), .inr (5, [.ref (a 1), .ref (a 2), .int (nI (kt - 1)), .ref (a 3), .ref (a 4), .ref (a 5), .int (nI ln), .ref (a 6), .int (nI td)])), ((a 1), .inl (kA 0, 169, .inl (vI V))), ((a 2), .inl (kA 0, 1014, .inl (shH hs k))), ((a 3), .inl (kA 0, 338, .inl (sl))), ((a 4), .inl (kA 2, 2, .inl (sv))), ((a 5), .inl (kA 0, 60, .inl (pd))), ((a 6), .inl (kA 0, 5, .inl (sg)))] H := hP
          have hD : va_D A [((a 0), .inr (5, [.ref (a 1), .ref (a 2), .int (nI (kt - 1)), .ref (a 3), .ref (a 4), .ref (a 5), .int (nI ln), .ref (a 6), .int (nI td)])), ((a 1), .inl (kA 0, 169, .inl (vI V))), ((a 2), .inl (kA 0, 1014, .inl (shH hs k))), ((a 3), .inl (kA 0, 338, .inl (sl))), ((a 4), .inl (kA 2, 2, .inl (sv))), ((a 5), .inl (kA 0, 60, .inl (pd))), ((a 6), .inl (kA 0, 5, .inl (sg)))] := hD
          have hP : va_P D vwCl [((a 0), .inr (5, [.ref (a 1), .ref (a 2), .int (nI (kt - 1)), .ref (a 3), .ref (a 4), .ref (a 5), .int (nI ln), .ref (a 6), .int (nI td)])), ((a 1), .inl (kA 0, 169, .inl (vI V))), ((a 2), .inl (kA 0, 1014, .inl (shH hs k))), ((a 3), .inl (kA 0, 338, .inl (sl))), ((a 4), .inl (kA 2, 2, .inl (sv))), ((a 5), .inl (kA 0, 60, .inl (pd))), ((a 6), .inl (kA 0, 5, .inl (sg)))] H := hP
          exact J6 (shH hs k) (kt - 1) (by omega) (by unfold pushN; first | (rw [if_pos h_6]; omega) | rw [if_neg h_6]) (by first | exact push_n hH h_6 | (rw [show k = 845 by omega, show kt - 1 = 5 by omega]; exact push_6 hH h_6)) _ _ hP hD hS _ (lv_sub hl [1] rfl)
        · skip
          refine lv_aload_n hx hb dX5_record_18 rfl (lv_at hl 1 rfl) ?_
          refine xGet C hN hP 0 (j := 1) rfl rfl iX5_record_X5 (by decide) kX5_record_13 rfl rfl dX5_record_19 ?_
          refine lv_iload_n hx hb dX5_record_22 rfl (lv_at hl 0 rfl) ?_
          refine lv_aload_n hx hb dX5_record_23 rfl (lv_at hl 1 rfl) ?_
          refine xGet C hN hP 0 (j := 1) rfl rfl iX5_record_X5 (by decide) kX5_record_13 rfl rfl dX5_record_24 ?_
          refine lv_iload_n hx hb dX5_record_27 rfl (lv_at hl 0 rfl) ?_
          refine lv_sipush (v := nI 169) hx hb dX5_record_28 (by decide) ?_
          refine xIadd C dX5_record_31 ?_
          refine xIald C hN hP 2 (j := k + 169) (v := hs (k + 169)) rfl (by omega) (by decide) (shH_hi hs k) dX5_record_32 ?_
          refine xIast C hN hP hD hS 2 (j := k) rfl (by omega) (by decide) dX5_record_33 (fun H locs hP hD hS => ?_)
          rw [show upd (shH hs k) (k) (hs (k + 169)) = shH hs (k + 1) from shH_s hs k] at hP hD
          have hP : va_P D vwCl [((a 0), .inr (5, [.ref (a 1), .ref (a 2), .int (nI kt), .ref (a 3), .ref (a 4), .ref (a 5), .int (nI ln), .ref (a 6), .int (nI td)])), ((a 1), .inl (kA 0, 169, .inl (vI V))), ((a 2), .inl (kA 0, 1014, .inl (shH hs (k + 1)))), ((a 3), .inl (kA 0, 338, .inl (sl))), ((a 4), .inl (kA 2, 2, .inl (sv))), ((a 5), .inl (kA 0, 60, .inl (pd))), ((a 6), .inl (kA 0, 5, .inl (sg)))] H := hP
          have hD : va_D A [((a 0), .inr (5, [.ref (a 1), .ref (a 2), .int (nI kt), .ref (a 3), .ref (a 4), .ref (a 5), .int (nI ln), .ref (a 6), .int (nI td)])), ((a 1), .inl (kA 0, 169, .inl (vI V))), ((a 2), .inl (kA 0, 1014, .inl (shH hs (k + 1)))), ((a 3), .inl (kA 0, 338, .inl (sl))), ((a 4), .inl (kA 2, 2, .inl (sv))), ((a 5), .inl (kA 0, 60, .inl (pd))), ((a 6), .inl (kA 0, 5, .inl (sg)))] := hD
          refine xIinc C (kx := 0) (d := 1) (lv' := [(1, .int (nI (k + 1))), (0, .ref (a 0))]) dX5_record_34 hl rfl (by decide) (by decide) rfl (fun ls hl => ?_)
          refine lv_goto (tgt := 11) hx hb dX5_record_37 (by decide) ?_
          have hP : va_P D vwCl [((a 0), .inr (5, [.ref (a 1), .ref (a 2), .int (nI kt), .ref (a 3), .ref (a 4), .ref (a 5), .int (nI ln), .ref (a 6), .int (nI td)])), ((a 1), .inl (kA 0, 169, .inl (vI V))), ((a 2), .inl (kA 0, 1014, .inl (shH hs (k + 1)))), ((a 3), .inl (kA 0, 338, .inl (sl))), ((a 4), .inl (kA 2, 2, .inl (sv))), ((a 5), .inl (kA 0, 60, .inl (pd))), ((a 6), .inl (kA 0, 5, .inl (sg)))] H := hP
          exact ih11 (k + 1) (by omega) (by omega) _ _ hP hD hS _ (lv_sub hl [0, 1] rfl)
    exact L11 _ 0 (Nat.lt_succ_self _) (by omega) _ _ hP hD hS _ (lv_sub hl [0, 1] rfl)
