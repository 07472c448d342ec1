set_option maxHeartbeats 8000000 in
set_option maxRecDepth 100000 in
theorem c_X2_has (xl : Launch) (D : va_G) (kA : Nat → ClassId) (a : Nat → Nat) (f : Nat → Nat → Int32) (n : Nat) (x : Int32) (hn : n ≤ 25) : Met xl yX2_has wsX2_has { frames := 0, cells := 0, slots := 0, locals := 0 } (va_Pc [.ref (a 0), .int x] (xPr D kA [((a 0), .inr (2, [.ref (a 1), .ref (a 2), .ref (a 3), .ref (a 4), .ref (a 5), .ref (a 6), .int (nI n)])), ((a 1), .inl (kA 0, 25, .inl (f 0))), ((a 2), .inl (kA 0, 25, .inl (f 1))), ((a 3), .inl (kA 0, 25, .inl (f 2))), ((a 4), .inl (kA 0, 25, .inl (f 3))), ((a 5), .inl (kA 0, 25, .inl (f 4))), ((a 6), .inl (kA 0, 25, .inl (f 5)))])) (vp_Si (fun rr => rr = bI (hasB n x))) 0 0 (fun _ => False) := by
  refine Met.ofW (cc := cX2_has) (maxL := 2) (ret := (some .boolean)) (by decide) rfl ?_
  intro xp xe xs xm args xbe xme xc s₁ B hml hv
  obtain ⟨rfl, hP, hN⟩ := hv
  have hret := B.returns
  have C : CallFix xp xm xc cX2_has 2 xs ([.ref (a 0), .int x] : List Value).toArray wsX2_has RX2 := ⟨B.exec, B.bytes, hml, findClass_of_methodNamed B.named, atoms_spec (ws := wsX2_has) B.pre⟩
  have hlocks := B.notSynchronized
  obtain ⟨hx, hb, _, hown, hts⟩ := id C
  have hl := lv_entry ([.ref (a 0), .int x]) (n := 2) (Nat.le_of_ble_eq_true rfl)
  rw [lg_entry_eq]
  generalize (lg_sl ([.ref (a 0), .int x]) ++ List.replicate (2 - (lg_sl ([.ref (a 0), .int x])).length) Slot.unset).toArray = ls at hl ⊢
  have hl : lv_has ls 2 [(0, .ref (a 0)), (1, .int x)] := hl
  refine lv_iload_n hx hb dX2_has_0 rfl (lv_at hl 1 rfl) ?_
  refine lv_if_lt (tgt := 16) hx hb dX2_has_1 (by decide) (fun h_1 => ?_) (fun h_1 => ?_)
  · skip
    refine lv_iconst (v := nI 0) hx hb dX2_has_16 (by decide) ?_
    exact xRoZ hx hb hret (v := nI 0) (xNar0) (by first | exact has_3 h_1 h_9 | exact has_2 h_9 | exact has_1 h_1) dX2_has_17 hlocks
  · skip
    refine lv_iload_n hx hb dX2_has_4 rfl (lv_at hl 1 rfl) ?_
    refine lv_aload_n hx hb dX2_has_5 rfl (lv_at hl 0 rfl) ?_
    refine xGet C hN hP 0 (j := 6) rfl rfl iX2_has_X2 (by decide) kX2_has_30 rfl rfl dX2_has_6 ?_
    refine lv_icmp_ge (tgt := 16) hx hb dX2_has_9 (by decide) (fun h_9 => ?_) (fun h_9 => ?_)
    · skip
      refine lv_iconst (v := nI 0) hx hb dX2_has_16 (by decide) ?_
      exact xRoZ hx hb hret (v := nI 0) (xNar0) (by first | exact has_3 h_1 h_9 | exact has_2 h_9 | exact has_1 h_1) dX2_has_17 hlocks
    · skip
      refine lv_iconst (v := nI 1) hx hb dX2_has_12 (by decide) ?_
      refine lv_goto (tgt := 17) hx hb dX2_has_13 (by decide) ?_
      exact xRoZ hx hb hret (v := nI 1) (xNar1) (by first | exact has_3 h_1 h_9 | exact has_2 h_9 | exact has_1 h_1) dX2_has_17 hlocks

set_option maxHeartbeats 8000000 in
set_option maxRecDepth 100000 in
theorem c_X2_sizeOfKind (xl : Launch) (D : va_G) (kA : Nat → ClassId) (a : Nat → Nat) (f : Nat → Nat → Int32) (n : Nat) (T : Nat → Nat → Nat) (hR : relT f n T) (hW : WfT n T) (hn : n ≤ 25) (kd : Nat) (hkd : kd < 3) : Met xl yX2_sizeOfKind wsX2_sizeOfKind { frames := 0, cells := 0, slots := 0, locals := 0 } (va_Pc [.ref (a 0), .int (nI kd)] (xPr D kA [((a 0), .inr (2, [.ref (a 1), .ref (a 2), .ref (a 3), .ref (a 4), .ref (a 5), .ref (a 6), .int (nI n)])), ((a 1), .inl (kA 0, 25, .inl (f 0))), ((a 2), .inl (kA 0, 25, .inl (f 1))), ((a 3), .inl (kA 0, 25, .inl (f 2))), ((a 4), .inl (kA 0, 25, .inl (f 3))), ((a 5), .inl (kA 0, 25, .inl (f 4))), ((a 6), .inl (kA 0, 25, .inl (f 5)))])) (vp_Si (fun rr => rr = nI (cntN n (fun j => T j 1 == kd)))) 0 0 (fun _ => False) := by
  refine Met.ofW (cc := cX2_sizeOfKind) (maxL := 4) (ret := (some .int)) (by decide) rfl ?_
  intro xp xe xs xm args xbe xme xc s₁ B hml hv
  obtain ⟨rfl, hP, hN⟩ := hv
  have hret := B.returns
  have C : CallFix xp xm xc cX2_sizeOfKind 4 xs ([.ref (a 0), .int (nI kd)] : List Value).toArray wsX2_sizeOfKind RX2 := ⟨B.exec, B.bytes, hml, findClass_of_methodNamed B.named, atoms_spec (ws := wsX2_sizeOfKind) B.pre⟩
  have hlocks := B.notSynchronized
  obtain ⟨hx, hb, _, hown, hts⟩ := id C
  have hl := lv_entry ([.ref (a 0), .int (nI kd)]) (n := 4) (Nat.le_of_ble_eq_true rfl)
  rw [lg_entry_eq]
  generalize (lg_sl ([.ref (a 0), .int (nI kd)]) ++ List.replicate (4 - (lg_sl ([.ref (a 0), .int (nI kd)])).length) Slot.unset).toArray = ls at hl ⊢
  have hl : lv_has ls 4 [(0, .ref (a 0)), (1, .int (nI kd))] := hl
  refine lv_iconst (v := nI 0) hx hb dX2_sizeOfKind_0 (by decide) ?_
  refine lv_istore_n (lv' := [(2, .int (nI 0)), (0, .ref (a 0)), (1, .int (nI kd))]) hx hb dX2_sizeOfKind_1 rfl hl (by decide) rfl (fun ls hl => ?_)
  refine lv_iconst (v := nI 0) hx hb dX2_sizeOfKind_2 (by decide) ?_
  refine lv_istore_n (lv' := [(3, .int (nI 0)), (2, .int (nI 0)), (0, .ref (a 0)), (1, .int (nI kd))]) hx hb dX2_sizeOfKind_3 rfl hl (by decide) rfl (fun ls hl => ?_)
  have L4 : ∀ (fuel : Nat), ∀ (i : Nat) (v : Nat) (hmu : n - i < fuel) (hi : i ≤ n) (hv : v = cntN i (fun j => T j 1 == kd)) (ls : Array Slot) (_ : lv_has ls 4 [(3, .int (nI i)), (2, .int (nI v)), (0, .ref (a 0)), (1, .int (nI kd))]), W xp xl xe (headSpec wsX2_sizeOfKind { frames := 0, cells := 0, slots := 0, locals := 0 }).room xs xm ([.ref (a 0), .int (nI kd)] : List Value).toArray xbe xme xc xs.heap [] 0 0 (MQ xbe (vp_Si (fun rr => rr = nI (cntN n (fun j => T j 1 == kd)))) ([.ref (a 0), .int (nI kd)] : List Value).toArray xs 0 0 (fun _ => False)) (F0 xm 4 ls []) := by
    intro fuel
    induction fuel with
    | zero => intro i v hmu; exact absurd hmu (Nat.not_lt_zero _)
    | succ fuel ih4 =>
      intro i v hmu hi hv ls hl
      refine lv_iload_n hx hb dX2_sizeOfKind_4 rfl (lv_at hl 0 rfl) ?_
      refine lv_aload_n hx hb dX2_sizeOfKind_5 rfl (lv_at hl 2 rfl) ?_
      refine xGet C hN hP 0 (j := 6) rfl rfl iX2_sizeOfKind_X2 (by decide) kX2_sizeOfKind_30 rfl rfl dX2_sizeOfKind_6 ?_
      refine xIcmpGe C (tgt := 31) (by omega) (by omega) dX2_sizeOfKind_9 (by decide) (fun h_9 => ?_) (fun h_9 => ?_)
      · skip
        refine lv_iload_n hx hb dX2_sizeOfKind_31 rfl (lv_at hl 1 rfl) ?_
        exact xRoI hx hb hret (v := nI v) (by rw [hv, show i = n by omega]) dX2_sizeOfKind_32 hlocks
      · skip
        refine lv_aload_n hx hb dX2_sizeOfKind_12 rfl (lv_at hl 2 rfl) ?_
        refine xGet C hN hP 0 (j := 1) rfl rfl iX2_sizeOfKind_X2 (by decide) kX2_sizeOfKind_15 rfl rfl dX2_sizeOfKind_13 ?_
        refine lv_iload_n hx hb dX2_sizeOfKind_16 rfl (lv_at hl 0 rfl) ?_
        refine xIald C hN hP 2 (j := i) (v := nI (T i 1)) rfl (by omega) (by decide) ((hR i (by omega)).2.1) dX2_sizeOfKind_17 ?_
        refine lv_iload_n hx hb dX2_sizeOfKind_18 rfl (lv_at hl 3 rfl) ?_
        refine xIcmpNe C (tgt := 25) (by have := hW i (by omega); omega) (by omega) dX2_sizeOfKind_19 (by decide) (fun h_19 => ?_) (fun h_19 => ?_)
        · skip
          refine xIinc C (kx := 0) (d := 1) (lv' := [(3, .int (nI (i + 1))), (2, .int (nI v)), (0, .ref (a 0)), (1, .int (nI kd))]) dX2_sizeOfKind_25 hl rfl (by decide) (by decide) rfl (fun ls hl => ?_)
          refine lv_goto (tgt := 4) hx hb dX2_sizeOfKind_28 (by decide) ?_
          exact ih4 (i + 1) v (by omega) (by omega) (by rw [cntN_succ, hv]; simp [h_19]) _ (lv_sub hl [0, 1, 2, 3] rfl)
        · skip
          refine xIinc C (kx := 1) (d := 1) (lv' := [(2, .int (nI (v + 1))), (3, .int (nI i)), (0, .ref (a 0)), (1, .int (nI kd))]) dX2_sizeOfKind_22 hl rfl (by decide) (by decide) rfl (fun ls hl => ?_)
          refine xIinc C (kx := 1) (d := 1) (lv' := [(3, .int (nI (i + 1))), (2, .int (nI (v + 1))), (0, .ref (a 0)), (1, .int (nI kd))]) dX2_sizeOfKind_25 hl rfl (by decide) (by decide) rfl (fun ls hl => ?_)
          refine lv_goto (tgt := 4) hx hb dX2_sizeOfKind_28 (by decide) ?_
          exact ih4 (i + 1) (v + 1) (by omega) (by omega) (by rw [cntN_succ, hv]; simp [h_19]) _ (lv_sub hl [0, 1, 2, 3] rfl)
  exact L4 _ 0 0 (Nat.lt_succ_self _) (by omega) rfl _ (lv_sub hl [0, 1, 2, 3] rfl)

set_option maxHeartbeats 8000000 in
set_option maxRecDepth 100000 in
theorem c_X2_areAtOdds (xl : Launch) (D : va_G) (kA : Nat → ClassId) (a : Nat → Nat) (f : Nat → Nat → Int32) (n : Nat) (T : Nat → Nat → Nat) (hR : relT f n T) (hW : WfT n T) (hn : n ≤ 25) (i j : Nat) (hi : i < n) (hj : j < n) : Met xl yX2_areAtOdds wsX2_areAtOdds { frames := 0, cells := 0, slots := 0, locals := 0 } (va_Pc [.ref (a 0), .int (nI i), .int (nI j)] (xPr D kA [((a 0), .inr (2, [.ref (a 1), .ref (a 2), .ref (a 3), .ref (a 4), .ref (a 5), .ref (a 6), .int (nI n)])), ((a 1), .inl (kA 0, 25, .inl (f 0))), ((a 2), .inl (kA 0, 25, .inl (f 1))), ((a 3), .inl (kA 0, 25, .inl (f 2))), ((a 4), .inl (kA 0, 25, .inl (f 3))), ((a 5), .inl (kA 0, 25, .inl (f 4))), ((a 6), .inl (kA 0, 25, .inl (f 5)))])) (vp_Si (fun rr => rr = bI (oddT T i j))) 0 0 (fun _ => False) := by
  refine Met.ofW (cc := cX2_areAtOdds) (maxL := 3) (ret := (some .boolean)) (by decide) rfl ?_
  intro xp xe xs xm args xbe xme xc s₁ B hml hv
  obtain ⟨rfl, hP, hN⟩ := hv
  have hret := B.returns
  have C : CallFix xp xm xc cX2_areAtOdds 3 xs ([.ref (a 0), .int (nI i), .int (nI j)] : List Value).toArray wsX2_areAtOdds RX2 := ⟨B.exec, B.bytes, hml, findClass_of_methodNamed B.named, atoms_spec (ws := wsX2_areAtOdds) B.pre⟩
  have hlocks := B.notSynchronized
  obtain ⟨hx, hb, _, hown, hts⟩ := id C
  have hl := lv_entry ([.ref (a 0), .int (nI i), .int (nI j)]) (n := 3) (Nat.le_of_ble_eq_true rfl)
  rw [lg_entry_eq]
  generalize (lg_sl ([.ref (a 0), .int (nI i), .int (nI j)]) ++ List.replicate (3 - (lg_sl ([.ref (a 0), .int (nI i), .int (nI j)])).length) Slot.unset).toArray = ls at hl ⊢
  have hl : lv_has ls 3 [(0, .ref (a 0)), (1, .int (nI i)), (2, .int (nI j))] := hl
  refine lv_aload_n hx hb dX2_areAtOdds_0 rfl (lv_at hl 0 rfl) ?_
  refine xGet C hN hP 0 (j := 1) rfl rfl iX2_areAtOdds_X2 (by decide) kX2_areAtOdds_15 rfl rfl dX2_areAtOdds_1 ?_
  refine lv_iload_n hx hb dX2_areAtOdds_4 rfl (lv_at hl 1 rfl) ?_
  refine xIald C hN hP 2 (j := i) (v := nI (T i 1)) rfl (by omega) (by decide) ((hR i (by omega)).2.1) dX2_areAtOdds_5 ?_
  refine lv_iconst (v := nI 1) hx hb dX2_areAtOdds_6 (by decide) ?_
  refine xIcmpNe C (tgt := 14) (by have := hW i (by omega); omega) (by decide) dX2_areAtOdds_7 (by decide) (fun h_7 => ?_) (fun h_7 => ?_)
  · skip
    refine lv_iconst (v := nI 0) hx hb dX2_areAtOdds_14 (by decide) ?_
    refine lv_aload_n hx hb dX2_areAtOdds_15 rfl (lv_at hl 0 rfl) ?_
    refine xGet C hN hP 0 (j := 1) rfl rfl iX2_areAtOdds_X2 (by decide) kX2_areAtOdds_15 rfl rfl dX2_areAtOdds_16 ?_
    refine lv_iload_n hx hb dX2_areAtOdds_19 rfl (lv_at hl 2 rfl) ?_
    refine xIald C hN hP 2 (j := j) (v := nI (T j 1)) rfl (by omega) (by decide) ((hR j (by omega)).2.1) dX2_areAtOdds_20 ?_
    refine lv_iconst (v := nI 1) hx hb dX2_areAtOdds_21 (by decide) ?_
    refine xIcmpNe C (tgt := 29) (by have := hW j (by omega); omega) (by decide) dX2_areAtOdds_22 (by decide) (fun h_22 => ?_) (fun h_22 => ?_)
    · skip
      refine lv_iconst (v := nI 0) hx hb dX2_areAtOdds_29 (by decide) ?_
      refine xIcmpEq C (tgt := 53) (by decide) (by decide) dX2_areAtOdds_30 (by decide) (fun h_30 => ?_) (fun h_30 => ?_)
      · skip
        refine lv_iconst (v := nI 0) hx hb dX2_areAtOdds_53 (by decide) ?_
        exact xRoZ hx hb hret (v := nI 0) (xNar0) (by first | exact oddT_n (meetT_f (hW i hi) (hW j hj) h_46) | exact oddT_o (by omega) (meetT_t (hW i hi) (hW j hj) h_46) | exact oddT_z (by omega)) dX2_areAtOdds_54 hlocks
      · exact absurd h_30 (by decide)
    · skip
      refine lv_iconst (v := nI 1) hx hb dX2_areAtOdds_25 (by decide) ?_
      refine lv_goto (tgt := 30) hx hb dX2_areAtOdds_26 (by decide) ?_
      refine xIcmpEq C (tgt := 53) (by decide) (by decide) dX2_areAtOdds_30 (by decide) (fun h_30 => ?_) (fun h_30 => ?_)
      · exact absurd h_30 (by decide)
      · skip
        refine lv_aload_n hx hb dX2_areAtOdds_33 rfl (lv_at hl 0 rfl) ?_
        refine xGet C hN hP 0 (j := 5) rfl rfl iX2_areAtOdds_X2 (by decide) kX2_areAtOdds_27 rfl rfl dX2_areAtOdds_34 ?_
        refine lv_iload_n hx hb dX2_areAtOdds_37 rfl (lv_at hl 1 rfl) ?_
        refine xIald C hN hP 6 (j := i) (v := mk (pfit (T i 2) (T i 3))) rfl (by omega) (by decide) ((hR i (by omega)).2.2.2.2.2) dX2_areAtOdds_38 ?_
        refine lv_aload_n hx hb dX2_areAtOdds_39 rfl (lv_at hl 0 rfl) ?_
        refine xGet C hN hP 0 (j := 5) rfl rfl iX2_areAtOdds_X2 (by decide) kX2_areAtOdds_27 rfl rfl dX2_areAtOdds_40 ?_
        refine lv_iload_n hx hb dX2_areAtOdds_43 rfl (lv_at hl 2 rfl) ?_
        refine xIald C hN hP 6 (j := j) (v := mk (pfit (T j 2) (T j 3))) rfl (by omega) (by decide) ((hR j (by omega)).2.2.2.2.2) dX2_areAtOdds_44 ?_
        refine lv_iand hx hb dX2_areAtOdds_45 ?_
        refine lv_if_eq (tgt := 53) hx hb dX2_areAtOdds_46 (by decide) (fun h_46 => ?_) (fun h_46 => ?_)
        · skip
          refine lv_iconst (v := nI 0) hx hb dX2_areAtOdds_53 (by decide) ?_
          exact xRoZ hx hb hret (v := nI 0) (xNar0) (by first | exact oddT_n (meetT_f (hW i hi) (hW j hj) h_46) | exact oddT_o (by omega) (meetT_t (hW i hi) (hW j hj) h_46) | exact oddT_z (by omega)) dX2_areAtOdds_54 hlocks
        · skip
          refine lv_iconst (v := nI 1) hx hb dX2_areAtOdds_49 (by decide) ?_
          refine lv_goto (tgt := 54) hx hb dX2_areAtOdds_50 (by decide) ?_
          exact xRoZ hx hb hret (v := nI 1) (xNar1) (by first | exact oddT_n (meetT_f (hW i hi) (hW j hj) h_46) | exact oddT_o (by omega) (meetT_t (hW i hi) (hW j hj) h_46) | exact oddT_z (by omega)) dX2_areAtOdds_54 hlocks
  · skip
    refine lv_iconst (v := nI 1) hx hb dX2_areAtOdds_10 (by decide) ?_
    refine lv_goto (tgt := 15) hx hb dX2_areAtOdds_11 (by decide) ?_
    refine lv_aload_n hx hb dX2_areAtOdds_15 rfl (lv_at hl 0 rfl) ?_
    refine xGet C hN hP 0 (j := 1) rfl rfl iX2_areAtOdds_X2 (by decide) kX2_areAtOdds_15 rfl rfl dX2_areAtOdds_16 ?_
    refine lv_iload_n hx hb dX2_areAtOdds_19 rfl (lv_at hl 2 rfl) ?_
    refine xIald C hN hP 2 (j := j) (v := nI (T j 1)) rfl (by omega) (by decide) ((hR j (by omega)).2.1) dX2_areAtOdds_20 ?_
    refine lv_iconst (v := nI 1) hx hb dX2_areAtOdds_21 (by decide) ?_
    refine xIcmpNe C (tgt := 29) (by have := hW j (by omega); omega) (by decide) dX2_areAtOdds_22 (by decide) (fun h_22 => ?_) (fun h_22 => ?_)
    · skip
      refine lv_iconst (v := nI 0) hx hb dX2_areAtOdds_29 (by decide) ?_
      refine xIcmpEq C (tgt := 53) (by decide) (by decide) dX2_areAtOdds_30 (by decide) (fun h_30 => ?_) (fun h_30 => ?_)
      · exact absurd h_30 (by decide)
      · skip
        refine lv_aload_n hx hb dX2_areAtOdds_33 rfl (lv_at hl 0 rfl) ?_
        refine xGet C hN hP 0 (j := 5) rfl rfl iX2_areAtOdds_X2 (by decide) kX2_areAtOdds_27 rfl rfl dX2_areAtOdds_34 ?_
        refine lv_iload_n hx hb dX2_areAtOdds_37 rfl (lv_at hl 1 rfl) ?_
        refine xIald C hN hP 6 (j := i) (v := mk (pfit (T i 2) (T i 3))) rfl (by omega) (by decide) ((hR i (by omega)).2.2.2.2.2) dX2_areAtOdds_38 ?_
        refine lv_aload_n hx hb dX2_areAtOdds_39 rfl (lv_at hl 0 rfl) ?_
        refine xGet C hN hP 0 (j := 5) rfl rfl iX2_areAtOdds_X2 (by decide) kX2_areAtOdds_27 rfl rfl dX2_areAtOdds_40 ?_
        refine lv_iload_n hx hb dX2_areAtOdds_43 rfl (lv_at hl 2 rfl) ?_
        refine xIald C hN hP 6 (j := j) (v := mk (pfit (T j 2) (T j 3))) rfl (by omega) (by decide) ((hR j (by omega)).2.2.2.2.2) dX2_areAtOdds_44 ?_
        refine lv_iand hx hb dX2_areAtOdds_45 ?_
        refine lv_if_eq (tgt := 53) hx hb dX2_areAtOdds_46 (by decide) (fun h_46 => ?_) (fun h_46 => ?_)
        · skip
          refine lv_iconst (v := nI 0) hx hb dX2_areAtOdds_53 (by decide) ?_
          exact xRoZ hx hb hret (v := nI 0) (xNar0) (by first | exact oddT_n (meetT_f (hW i hi) (hW j hj) h_46) | exact oddT_o (by omega) (meetT_t (hW i hi) (hW j hj) h_46) | exact oddT_z (by omega)) dX2_areAtOdds_54 hlocks
        · skip
          refine lv_iconst (v := nI 1) hx hb dX2_areAtOdds_49 (by decide) ?_
          refine lv_goto (tgt := 54) hx hb dX2_areAtOdds_50 (by decide) ?_
          exact xRoZ hx hb hret (v := nI 1) (xNar1) (by first | exact oddT_n (meetT_f (hW i hi) (hW j hj) h_46) | exact oddT_o (by omega) (meetT_t (hW i hi) (hW j hj) h_46) | exact oddT_z (by omega)) dX2_areAtOdds_54 hlocks
    · skip
      refine lv_iconst (v := nI 1) hx hb dX2_areAtOdds_25 (by decide) ?_
      refine lv_goto (tgt := 30) hx hb dX2_areAtOdds_26 (by decide) ?_
      refine xIcmpEq C (tgt := 53) (by decide) (by decide) dX2_areAtOdds_30 (by decide) (fun h_30 => ?_) (fun h_30 => ?_)
      · skip
        refine lv_iconst (v := nI 0) hx hb dX2_areAtOdds_53 (by decide) ?_
        exact xRoZ hx hb hret (v := nI 0) (xNar0) (by first | exact oddT_n (meetT_f (hW i hi) (hW j hj) h_46) | exact oddT_o (by omega) (meetT_t (hW i hi) (hW j hj) h_46) | exact oddT_z (by omega)) dX2_areAtOdds_54 hlocks
      · exact absurd h_30 (by decide)

set_option maxHeartbeats 8000000 in
set_option maxRecDepth 100000 in
theorem c_X2_oddsOf (xl : Launch) (D : va_G) (kA : Nat → ClassId) (a : Nat → Nat) (f : Nat → Nat → Int32) (n : Nat) (T : Nat → Nat → Nat) (hR : relT f n T) (hW : WfT n T) (hn : n ≤ 25) (i : Nat) (hi : i < n) : Met xl yX2_oddsOf wsX2_oddsOf { frames := 1, cells := 0, slots := 0, locals := 22 } (va_Pc [.ref (a 0), .int (nI i)] (xPr D kA [((a 0), .inr (2, [.ref (a 1), .ref (a 2), .ref (a 3), .ref (a 4), .ref (a 5), .ref (a 6), .int (nI n)])), ((a 1), .inl (kA 0, 25, .inl (f 0))), ((a 2), .inl (kA 0, 25, .inl (f 1))), ((a 3), .inl (kA 0, 25, .inl (f 2))), ((a 4), .inl (kA 0, 25, .inl (f 3))), ((a 5), .inl (kA 0, 25, .inl (f 4))), ((a 6), .inl (kA 0, 25, .inl (f 5)))])) (vp_Si (fun rr => rr = nI (cntN n (fun j => oddT T i j)))) 0 0 (fun _ => False) := by
  refine Met.ofW (cc := cX2_oddsOf) (maxL := 4) (ret := (some .int)) (by decide) rfl ?_
  intro xp xe xs xm args xbe xme xc s₁ B hml hv
  obtain ⟨rfl, hP, hN⟩ := hv
  have hret := B.returns
  have C : CallFix xp xm xc cX2_oddsOf 4 xs ([.ref (a 0), .int (nI i)] : List Value).toArray wsX2_oddsOf RX2 := ⟨B.exec, B.bytes, hml, findClass_of_methodNamed B.named, atoms_spec (ws := wsX2_oddsOf) B.pre⟩
  have hlocks := B.notSynchronized
  obtain ⟨hx, hb, _, hown, hts⟩ := id C
  have hl := lv_entry ([.ref (a 0), .int (nI i)]) (n := 4) (Nat.le_of_ble_eq_true rfl)
  rw [lg_entry_eq]
  generalize (lg_sl ([.ref (a 0), .int (nI i)]) ++ List.replicate (4 - (lg_sl ([.ref (a 0), .int (nI i)])).length) Slot.unset).toArray = ls at hl ⊢
  have hl : lv_has ls 4 [(0, .ref (a 0)), (1, .int (nI i))] := hl
  refine lv_iconst (v := nI 0) hx hb dX2_oddsOf_0 (by decide) ?_
  refine lv_istore_n (lv' := [(2, .int (nI 0)), (0, .ref (a 0)), (1, .int (nI i))]) hx hb dX2_oddsOf_1 rfl hl (by decide) rfl (fun ls hl => ?_)
  refine lv_iconst (v := nI 0) hx hb dX2_oddsOf_2 (by decide) ?_
  refine lv_istore_n (lv' := [(3, .int (nI 0)), (2, .int (nI 0)), (0, .ref (a 0)), (1, .int (nI i))]) hx hb dX2_oddsOf_3 rfl hl (by decide) rfl (fun ls hl => ?_)
  have L4 : ∀ (fuel : Nat), ∀ (q : Nat) (v : Nat) (hmu : n - q < fuel) (hq : q ≤ n) (hv : v = cntN q (fun j => oddT T i j)) (ls : Array Slot) (_ : lv_has ls 4 [(3, .int (nI q)), (2, .int (nI v)), (0, .ref (a 0)), (1, .int (nI i))]), W xp xl xe (headSpec wsX2_oddsOf { frames := 1, cells := 0, slots := 0, locals := 22 }).room xs xm ([.ref (a 0), .int (nI i)] : List Value).toArray xbe xme xc xs.heap [] 0 0 (MQ xbe (vp_Si (fun rr => rr = nI (cntN n (fun j => oddT T i j)))) ([.ref (a 0), .int (nI i)] : List Value).toArray xs 0 0 (fun _ => False)) (F0 xm 4 ls []) := by
    intro fuel
    induction fuel with
    | zero => intro q v hmu; exact absurd hmu (Nat.not_lt_zero _)
    | succ fuel ih4 =>
      intro q v hmu hq hv ls hl
      refine lv_iload_n hx hb dX2_oddsOf_4 rfl (lv_at hl 0 rfl) ?_
      refine lv_aload_n hx hb dX2_oddsOf_5 rfl (lv_at hl 2 rfl) ?_
      refine xGet C hN hP 0 (j := 6) rfl rfl iX2_oddsOf_X2 (by decide) kX2_oddsOf_30 rfl rfl dX2_oddsOf_6 ?_
      refine xIcmpGe C (tgt := 30) (by omega) (by omega) dX2_oddsOf_9 (by decide) (fun h_9 => ?_) (fun h_9 => ?_)
      · skip
        refine lv_iload_n hx hb dX2_oddsOf_30 rfl (lv_at hl 1 rfl) ?_
        exact xRoI hx hb hret (v := nI v) (by rw [hv, show q = n by omega]) dX2_oddsOf_31 hlocks
      · skip
        refine lv_aload_n hx hb dX2_oddsOf_12 rfl (lv_at hl 2 rfl) ?_
        refine lv_iload_n hx hb dX2_oddsOf_13 rfl (lv_at hl 3 rfl) ?_
        refine lv_iload_n hx hb dX2_oddsOf_14 rfl (lv_at hl 0 rfl) ?_
        refine xVro C hN (As := [.int (nI i), .int (nI q)]) (rest := []) (q0 := 0) (c_X2_areAtOdds xl D kA a f n T hR hW hn i q hi (by omega)) (cwV 2 hts gX2_oddsOf_X2_areAtOdds rfl rfl rfl (by decide +kernel) ⟨Nat.le_of_ble_eq_true rfl, Nat.le_of_ble_eq_true rfl⟩) hP rfl rfl rfl rfl hl.1 rfl (Nat.le_of_ble_eq_true rfl) dX2_oddsOf_15 ⟨Nat.le_of_ble_eq_true rfl, Nat.le_of_ble_eq_true rfl⟩ ?_
        refine xIfEqB C (tgt := 24) dX2_oddsOf_18 (by decide) (fun h_18 => ?_) (fun h_18 => ?_)
        · skip
          refine xIinc C (kx := 0) (d := 1) (lv' := [(3, .int (nI (q + 1))), (2, .int (nI v)), (0, .ref (a 0)), (1, .int (nI i))]) dX2_oddsOf_24 hl rfl (by decide) (by decide) rfl (fun ls hl => ?_)
          refine lv_goto (tgt := 4) hx hb dX2_oddsOf_27 (by decide) ?_
          exact ih4 (q + 1) v (by omega) (by omega) (by rw [cntN_succ, hv]; simp [h_18]) _ (lv_sub hl [0, 1, 2, 3] rfl)
        · skip
          refine xIinc C (kx := 1) (d := 1) (lv' := [(2, .int (nI (v + 1))), (3, .int (nI q)), (0, .ref (a 0)), (1, .int (nI i))]) dX2_oddsOf_21 hl rfl (by decide) (by decide) rfl (fun ls hl => ?_)
          refine xIinc C (kx := 1) (d := 1) (lv' := [(3, .int (nI (q + 1))), (2, .int (nI (v + 1))), (0, .ref (a 0)), (1, .int (nI i))]) dX2_oddsOf_24 hl rfl (by decide) (by decide) rfl (fun ls hl => ?_)
          refine lv_goto (tgt := 4) hx hb dX2_oddsOf_27 (by decide) ?_
          exact ih4 (q + 1) (v + 1) (by omega) (by omega) (by rw [cntN_succ, hv]; simp [h_18]) _ (lv_sub hl [0, 1, 2, 3] rfl)
  exact L4 _ 0 0 (Nat.lt_succ_self _) (by omega) rfl _ (lv_sub hl [0, 1, 2, 3] rfl)

set_option maxHeartbeats 8000000 in
set_option maxRecDepth 100000 in
theorem c_X2_oddPairs (xl : Launch) (D : va_G) (kA : Nat → ClassId) (a : Nat → Nat) (f : Nat → Nat → Int32) (n : Nat) (T : Nat → Nat → Nat) (hR : relT f n T) (hW : WfT n T) (hn : n ≤ 25) : Met xl yX2_oddPairs wsX2_oddPairs { frames := 2, cells := 0, slots := 0, locals := 45 } (va_Pc [.ref (a 0)] (xPr D kA [((a 0), .inr (2, [.ref (a 1), .ref (a 2), .ref (a 3), .ref (a 4), .ref (a 5), .ref (a 6), .int (nI n)])), ((a 1), .inl (kA 0, 25, .inl (f 0))), ((a 2), .inl (kA 0, 25, .inl (f 1))), ((a 3), .inl (kA 0, 25, .inl (f 2))), ((a 4), .inl (kA 0, 25, .inl (f 3))), ((a 5), .inl (kA 0, 25, .inl (f 4))), ((a 6), .inl (kA 0, 25, .inl (f 5)))])) (vp_Si (fun rr => rr = nI (oprT n T))) 0 0 (fun _ => False) := by
  refine Met.ofW (cc := cX2_oddPairs) (maxL := 3) (ret := (some .int)) (by decide) rfl ?_
  intro xp xe xs xm args xbe xme xc s₁ B hml hv
  obtain ⟨rfl, hP, hN⟩ := hv
  have hret := B.returns
  have C : CallFix xp xm xc cX2_oddPairs 3 xs ([.ref (a 0)] : List Value).toArray wsX2_oddPairs RX2 := ⟨B.exec, B.bytes, hml, findClass_of_methodNamed B.named, atoms_spec (ws := wsX2_oddPairs) B.pre⟩
  have hlocks := B.notSynchronized
  obtain ⟨hx, hb, _, hown, hts⟩ := id C
  have hl := lv_entry ([.ref (a 0)]) (n := 3) (Nat.le_of_ble_eq_true rfl)
  rw [lg_entry_eq]
  generalize (lg_sl ([.ref (a 0)]) ++ List.replicate (3 - (lg_sl ([.ref (a 0)])).length) Slot.unset).toArray = ls at hl ⊢
  have hl : lv_has ls 3 [(0, .ref (a 0))] := hl
  refine lv_iconst (v := nI 0) hx hb dX2_oddPairs_0 (by decide) ?_
  refine lv_istore_n (lv' := [(1, .int (nI 0)), (0, .ref (a 0))]) hx hb dX2_oddPairs_1 rfl hl (by decide) rfl (fun ls hl => ?_)
  refine lv_iconst (v := nI 0) hx hb dX2_oddPairs_2 (by decide) ?_
  refine lv_istore_n (lv' := [(2, .int (nI 0)), (1, .int (nI 0)), (0, .ref (a 0))]) hx hb dX2_oddPairs_3 rfl hl (by decide) rfl (fun ls hl => ?_)
  have L4 : ∀ (fuel : Nat), ∀ (i : Nat) (v : Nat) (hmu : n - i < fuel) (hi : i ≤ n) (hv : v = sumN i (fun i => if T i 1 = 1 then cntN n (fun j => oddT T i j) else 0)) (ls : Array Slot) (_ : lv_has ls 3 [(2, .int (nI i)), (1, .int (nI v)), (0, .ref (a 0))]), W xp xl xe (headSpec wsX2_oddPairs { frames := 2, cells := 0, slots := 0, locals := 45 }).room xs xm ([.ref (a 0)] : List Value).toArray xbe xme xc xs.heap [] 0 0 (MQ xbe (vp_Si (fun rr => rr = nI (oprT n T))) ([.ref (a 0)] : List Value).toArray xs 0 0 (fun _ => False)) (F0 xm 4 ls []) := by
    intro fuel
    induction fuel with
    | zero => intro i v hmu; exact absurd hmu (Nat.not_lt_zero _)
    | succ fuel ih4 =>
      intro i v hmu hi hv ls hl
      refine lv_iload_n hx hb dX2_oddPairs_4 rfl (lv_at hl 0 rfl) ?_
      refine lv_aload_n hx hb dX2_oddPairs_5 rfl (lv_at hl 2 rfl) ?_
      refine xGet C hN hP 0 (j := 6) rfl rfl iX2_oddPairs_X2 (by decide) kX2_oddPairs_30 rfl rfl dX2_oddPairs_6 ?_
      refine xIcmpGe C (tgt := 36) (by omega) (by omega) dX2_oddPairs_9 (by decide) (fun h_9 => ?_) (fun h_9 => ?_)
      · skip
        refine lv_iload_n hx hb dX2_oddPairs_36 rfl (lv_at hl 1 rfl) ?_
        exact xRoI hx hb hret (v := nI v) (by rw [hv, show i = n by omega]; rfl) dX2_oddPairs_37 hlocks
      · skip
        refine lv_aload_n hx hb dX2_oddPairs_12 rfl (lv_at hl 2 rfl) ?_
        refine xGet C hN hP 0 (j := 1) rfl rfl iX2_oddPairs_X2 (by decide) kX2_oddPairs_15 rfl rfl dX2_oddPairs_13 ?_
        refine lv_iload_n hx hb dX2_oddPairs_16 rfl (lv_at hl 0 rfl) ?_
        refine xIald C hN hP 2 (j := i) (v := nI (T i 1)) rfl (by omega) (by decide) ((hR i (by omega)).2.1) dX2_oddPairs_17 ?_
        refine lv_iconst (v := nI 1) hx hb dX2_oddPairs_18 (by decide) ?_
        refine xIcmpNe C (tgt := 30) (by have := hW i (by omega); omega) (by decide) dX2_oddPairs_19 (by decide) (fun h_19 => ?_) (fun h_19 => ?_)
        · skip
          refine xIinc C (kx := 0) (d := 1) (lv' := [(2, .int (nI (i + 1))), (1, .int (nI v)), (0, .ref (a 0))]) dX2_oddPairs_30 hl rfl (by decide) (by decide) rfl (fun ls hl => ?_)
          refine lv_goto (tgt := 4) hx hb dX2_oddPairs_33 (by decide) ?_
          exact ih4 (i + 1) v (by omega) (by omega) (by rw [sumN_succ, hv]; simp [h_19]) _ (lv_sub hl [0, 1, 2] rfl)
        · skip
          refine lv_iload_n hx hb dX2_oddPairs_22 rfl (lv_at hl 1 rfl) ?_
          refine lv_aload_n hx hb dX2_oddPairs_23 rfl (lv_at hl 2 rfl) ?_
          refine lv_iload_n hx hb dX2_oddPairs_24 rfl (lv_at hl 0 rfl) ?_
          refine xVro C hN (As := [.int (nI i)]) (rest := [.int (nI v)]) (q0 := 0) (c_X2_oddsOf xl D kA a f n T hR hW hn i (by omega)) (cwV 1 hts gX2_oddPairs_X2_oddsOf rfl rfl rfl (by decide +kernel) ⟨Nat.le_of_ble_eq_true rfl, Nat.le_of_ble_eq_true rfl⟩) hP rfl rfl rfl rfl hl.1 rfl (Nat.le_of_ble_eq_true rfl) dX2_oddPairs_25 ⟨Nat.le_of_ble_eq_true rfl, Nat.le_of_ble_eq_true rfl⟩ ?_
          refine xIadd C dX2_oddPairs_28 ?_
          refine lv_istore_n (lv' := [(1, .int (nI (v + (cntN n (fun j => oddT T i j))))), (2, .int (nI i)), (0, .ref (a 0))]) hx hb dX2_oddPairs_29 rfl hl (by decide) rfl (fun ls hl => ?_)
          refine xIinc C (kx := 1) (d := 1) (lv' := [(2, .int (nI (i + 1))), (1, .int (nI (v + (cntN n (fun j => oddT T i j))))), (0, .ref (a 0))]) dX2_oddPairs_30 hl rfl (by decide) (by decide) rfl (fun ls hl => ?_)
          refine lv_goto (tgt := 4) hx hb dX2_oddPairs_33 (by decide) ?_
          exact ih4 (i + 1) (v + (cntN n (fun j => oddT T i j))) (by omega) (by omega) (by rw [sumN_succ, hv]; simp [h_19]) _ (lv_sub hl [0, 1, 2] rfl)
  exact L4 _ 0 0 (Nat.lt_succ_self _) (by omega) rfl _ (lv_sub hl [0, 1, 2] rfl)

set_option maxHeartbeats 8000000 in
set_option maxRecDepth 100000 in
theorem c_X2_lifts (xl : Launch) (D : va_G) (kA : Nat → ClassId) (a : Nat → Nat) (f : Nat → Nat → Int32) (n : Nat) (T : Nat → Nat → Nat) (hR : relT f n T) (hW : WfT n T) (hn : n ≤ 25) (w b : Nat) (hw : w < n) (hb0 : b < n) : Met xl yX2_lifts wsX2_lifts { frames := 0, cells := 0, slots := 0, locals := 0 } (va_Pc [.ref (a 0), .int (nI w), .int (nI b)] (xPr D kA [((a 0), .inr (2, [.ref (a 1), .ref (a 2), .ref (a 3), .ref (a 4), .ref (a 5), .ref (a 6), .int (nI n)])), ((a 1), .inl (kA 0, 25, .inl (f 0))), ((a 2), .inl (kA 0, 25, .inl (f 1))), ((a 3), .inl (kA 0, 25, .inl (f 2))), ((a 4), .inl (kA 0, 25, .inl (f 3))), ((a 5), .inl (kA 0, 25, .inl (f 4))), ((a 6), .inl (kA 0, 25, .inl (f 5)))])) (vp_Si (fun rr => rr = bI (liftT T w b))) 0 0 (fun _ => False) := by
  refine Met.ofW (cc := cX2_lifts) (maxL := 3) (ret := (some .boolean)) (by decide) rfl ?_
  intro xp xe xs xm args xbe xme xc s₁ B hml hv
  obtain ⟨rfl, hP, hN⟩ := hv
  have hret := B.returns
  have C : CallFix xp xm xc cX2_lifts 3 xs ([.ref (a 0), .int (nI w), .int (nI b)] : List Value).toArray wsX2_lifts RX2 := ⟨B.exec, B.bytes, hml, findClass_of_methodNamed B.named, atoms_spec (ws := wsX2_lifts) B.pre⟩
  have hlocks := B.notSynchronized
  obtain ⟨hx, hb, _, hown, hts⟩ := id C
  have hl := lv_entry ([.ref (a 0), .int (nI w), .int (nI b)]) (n := 3) (Nat.le_of_ble_eq_true rfl)
  rw [lg_entry_eq]
  generalize (lg_sl ([.ref (a 0), .int (nI w), .int (nI b)]) ++ List.replicate (3 - (lg_sl ([.ref (a 0), .int (nI w), .int (nI b)])).length) Slot.unset).toArray = ls at hl ⊢
  have hl : lv_has ls 3 [(0, .ref (a 0)), (1, .int (nI w)), (2, .int (nI b))] := hl
  refine lv_aload_n hx hb dX2_lifts_0 rfl (lv_at hl 0 rfl) ?_
  refine xGet C hN hP 0 (j := 1) rfl rfl iX2_lifts_X2 (by decide) kX2_lifts_15 rfl rfl dX2_lifts_1 ?_
  refine lv_iload_n hx hb dX2_lifts_4 rfl (lv_at hl 1 rfl) ?_
  refine xIald C hN hP 2 (j := w) (v := nI (T w 1)) rfl (by omega) (by decide) ((hR w (by omega)).2.1) dX2_lifts_5 ?_
  refine lv_iconst (v := nI 2) hx hb dX2_lifts_6 (by decide) ?_
  refine xIcmpNe C (tgt := 44) (by have := hW w (by omega); omega) (by decide) dX2_lifts_7 (by decide) (fun h_7 => ?_) (fun h_7 => ?_)
  · skip
    refine lv_iconst (v := nI 0) hx hb dX2_lifts_44 (by decide) ?_
    exact xRoZ hx hb hret (v := nI 0) (xNar0) (by first | exact lift_o h_7 h_22 h_37 | exact lift_3 h_37 | exact lift_2 h_22 | exact lift_1 h_7) dX2_lifts_45 hlocks
  · skip
    refine lv_aload_n hx hb dX2_lifts_10 rfl (lv_at hl 0 rfl) ?_
    refine xGet C hN hP 0 (j := 0) rfl rfl iX2_lifts_X2 (by decide) kX2_lifts_11 rfl rfl dX2_lifts_11 ?_
    refine lv_iload_n hx hb dX2_lifts_14 rfl (lv_at hl 1 rfl) ?_
    refine xIald C hN hP 1 (j := w) (v := nI (T w 0)) rfl (by omega) (by decide) ((hR w (by omega)).1) dX2_lifts_15 ?_
    refine lv_aload_n hx hb dX2_lifts_16 rfl (lv_at hl 0 rfl) ?_
    refine xGet C hN hP 0 (j := 0) rfl rfl iX2_lifts_X2 (by decide) kX2_lifts_11 rfl rfl dX2_lifts_17 ?_
    refine lv_iload_n hx hb dX2_lifts_20 rfl (lv_at hl 2 rfl) ?_
    refine xIald C hN hP 1 (j := b) (v := nI (T b 0)) rfl (by omega) (by decide) ((hR b (by omega)).1) dX2_lifts_21 ?_
    refine xIcmpGt C (tgt := 44) (by have := hW w (by omega); omega) (by have := hW b (by omega); omega) dX2_lifts_22 (by decide) (fun h_22 => ?_) (fun h_22 => ?_)
    · skip
      refine lv_iconst (v := nI 0) hx hb dX2_lifts_44 (by decide) ?_
      exact xRoZ hx hb hret (v := nI 0) (xNar0) (by first | exact lift_o h_7 h_22 h_37 | exact lift_3 h_37 | exact lift_2 h_22 | exact lift_1 h_7) dX2_lifts_45 hlocks
    · skip
      refine lv_aload_n hx hb dX2_lifts_25 rfl (lv_at hl 0 rfl) ?_
      refine xGet C hN hP 0 (j := 4) rfl rfl iX2_lifts_X2 (by decide) kX2_lifts_24 rfl rfl dX2_lifts_26 ?_
      refine lv_iload_n hx hb dX2_lifts_29 rfl (lv_at hl 1 rfl) ?_
      refine xIald C hN hP 5 (j := w) (v := nI (T w 4)) rfl (by omega) (by decide) ((hR w (by omega)).2.2.2.2.1) dX2_lifts_30 ?_
      refine lv_aload_n hx hb dX2_lifts_31 rfl (lv_at hl 0 rfl) ?_
      refine xGet C hN hP 0 (j := 4) rfl rfl iX2_lifts_X2 (by decide) kX2_lifts_24 rfl rfl dX2_lifts_32 ?_
      refine lv_iload_n hx hb dX2_lifts_35 rfl (lv_at hl 2 rfl) ?_
      refine xIald C hN hP 5 (j := b) (v := nI (T b 4)) rfl (by omega) (by decide) ((hR b (by omega)).2.2.2.2.1) dX2_lifts_36 ?_
      refine xIcmpLt C (tgt := 44) (by have := hW w (by omega); omega) (by have := hW b (by omega); omega) dX2_lifts_37 (by decide) (fun h_37 => ?_) (fun h_37 => ?_)
      · skip
        refine lv_iconst (v := nI 0) hx hb dX2_lifts_44 (by decide) ?_
        exact xRoZ hx hb hret (v := nI 0) (xNar0) (by first | exact lift_o h_7 h_22 h_37 | exact lift_3 h_37 | exact lift_2 h_22 | exact lift_1 h_7) dX2_lifts_45 hlocks
      · skip
        refine lv_iconst (v := nI 1) hx hb dX2_lifts_40 (by decide) ?_
        refine lv_goto (tgt := 45) hx hb dX2_lifts_41 (by decide) ?_
        exact xRoZ hx hb hret (v := nI 1) (xNar1) (by first | exact lift_o h_7 h_22 h_37 | exact lift_3 h_37 | exact lift_2 h_22 | exact lift_1 h_7) dX2_lifts_45 hlocks

set_option maxHeartbeats 8000000 in
set_option maxRecDepth 100000 in
theorem c_X2_heldPairs (xl : Launch) (D : va_G) (kA : Nat → ClassId) (a : Nat → Nat) (f : Nat → Nat → Int32) (n : Nat) (T : Nat → Nat → Nat) (hR : relT f n T) (hW : WfT n T) (hn : n ≤ 25) (b : Nat) (hb0 : b < n) : Met xl yX2_heldPairs wsX2_heldPairs { frames := 1, cells := 0, slots := 0, locals := 22 } (va_Pc [.ref (a 0), .int (nI b)] (xPr D kA [((a 0), .inr (2, [.ref (a 1), .ref (a 2), .ref (a 3), .ref (a 4), .ref (a 5), .ref (a 6), .int (nI n)])), ((a 1), .inl (kA 0, 25, .inl (f 0))), ((a 2), .inl (kA 0, 25, .inl (f 1))), ((a 3), .inl (kA 0, 25, .inl (f 2))), ((a 4), .inl (kA 0, 25, .inl (f 3))), ((a 5), .inl (kA 0, 25, .inl (f 4))), ((a 6), .inl (kA 0, 25, .inl (f 5)))])) (vp_Si (fun rr => rr = mk (heldM n T b))) 0 0 (fun _ => False) := by
  refine Met.ofW (cc := cX2_heldPairs) (maxL := 4) (ret := (some .int)) (by decide) rfl ?_
  intro xp xe xs xm args xbe xme xc s₁ B hml hv
  obtain ⟨rfl, hP, hN⟩ := hv
  have hret := B.returns
  have C : CallFix xp xm xc cX2_heldPairs 4 xs ([.ref (a 0), .int (nI b)] : List Value).toArray wsX2_heldPairs RX2 := ⟨B.exec, B.bytes, hml, findClass_of_methodNamed B.named, atoms_spec (ws := wsX2_heldPairs) B.pre⟩
  have hlocks := B.notSynchronized
  obtain ⟨hx, hb, _, hown, hts⟩ := id C
  have hl := lv_entry ([.ref (a 0), .int (nI b)]) (n := 4) (Nat.le_of_ble_eq_true rfl)
  rw [lg_entry_eq]
  generalize (lg_sl ([.ref (a 0), .int (nI b)]) ++ List.replicate (4 - (lg_sl ([.ref (a 0), .int (nI b)])).length) Slot.unset).toArray = ls at hl ⊢
  have hl : lv_has ls 4 [(0, .ref (a 0)), (1, .int (nI b))] := hl
  refine lv_aload_n hx hb dX2_heldPairs_0 rfl (lv_at hl 0 rfl) ?_
  refine xGet C hN hP 0 (j := 5) rfl rfl iX2_heldPairs_X2 (by decide) kX2_heldPairs_27 rfl rfl dX2_heldPairs_1 ?_
  refine lv_iload_n hx hb dX2_heldPairs_4 rfl (lv_at hl 1 rfl) ?_
  refine xIald C hN hP 6 (j := b) (v := mk (pfit (T b 2) (T b 3))) rfl (by omega) (by decide) ((hR b (by omega)).2.2.2.2.2) dX2_heldPairs_5 ?_
  refine lv_istore_n (lv' := [(2, .int (mk (pfit (T b 2) (T b 3)))), (0, .ref (a 0)), (1, .int (nI b))]) hx hb dX2_heldPairs_6 rfl hl (by decide) rfl (fun ls hl => ?_)
  refine lv_iconst (v := nI 0) hx hb dX2_heldPairs_7 (by decide) ?_
  refine lv_istore_n (lv' := [(3, .int (nI 0)), (2, .int (mk (pfit (T b 2) (T b 3)))), (0, .ref (a 0)), (1, .int (nI b))]) hx hb dX2_heldPairs_8 rfl hl (by decide) rfl (fun ls hl => ?_)
  have L9 : ∀ (fuel : Nat), ∀ (i : Nat) (v : Int32) (hmu : n - i < fuel) (hi : i ≤ n) (hv : v = mk (heldP T b i)) (ls : Array Slot) (_ : lv_has ls 4 [(3, .int (nI i)), (2, .int v), (0, .ref (a 0)), (1, .int (nI b))]), W xp xl xe (headSpec wsX2_heldPairs { frames := 1, cells := 0, slots := 0, locals := 22 }).room xs xm ([.ref (a 0), .int (nI b)] : List Value).toArray xbe xme xc xs.heap [] 0 0 (MQ xbe (vp_Si (fun rr => rr = mk (heldM n T b))) ([.ref (a 0), .int (nI b)] : List Value).toArray xs 0 0 (fun _ => False)) (F0 xm 9 ls []) := by
    intro fuel
    induction fuel with
    | zero => intro i v hmu; exact absurd hmu (Nat.not_lt_zero _)
    | succ fuel ih9 =>
      intro i v hmu hi hv ls hl
      refine lv_iload_n hx hb dX2_heldPairs_9 rfl (lv_at hl 0 rfl) ?_
      refine lv_aload_n hx hb dX2_heldPairs_10 rfl (lv_at hl 2 rfl) ?_
      refine xGet C hN hP 0 (j := 6) rfl rfl iX2_heldPairs_X2 (by decide) kX2_heldPairs_30 rfl rfl dX2_heldPairs_11 ?_
      refine xIcmpGe C (tgt := 43) (by omega) (by omega) dX2_heldPairs_14 (by decide) (fun h_14 => ?_) (fun h_14 => ?_)
      · skip
        refine lv_iload_n hx hb dX2_heldPairs_43 rfl (lv_at hl 1 rfl) ?_
        exact xRoI hx hb hret (v := v) (by rw [hv, show i = n by omega]; exact heldP_n n T b) dX2_heldPairs_44 hlocks
      · skip
        refine lv_aload_n hx hb dX2_heldPairs_17 rfl (lv_at hl 2 rfl) ?_
        refine lv_iload_n hx hb dX2_heldPairs_18 rfl (lv_at hl 0 rfl) ?_
        refine lv_iload_n hx hb dX2_heldPairs_19 rfl (lv_at hl 3 rfl) ?_
        refine xVro C hN (As := [.int (nI i), .int (nI b)]) (rest := []) (q0 := 0) (c_X2_lifts xl D kA a f n T hR hW hn i b (by omega) hb0) (cwV 2 hts gX2_heldPairs_X2_lifts rfl rfl rfl (by decide +kernel) ⟨Nat.le_of_ble_eq_true rfl, Nat.le_of_ble_eq_true rfl⟩) hP rfl rfl rfl rfl hl.1 rfl (Nat.le_of_ble_eq_true rfl) dX2_heldPairs_20 ⟨Nat.le_of_ble_eq_true rfl, Nat.le_of_ble_eq_true rfl⟩ ?_
        refine xIfEqB C (tgt := 37) dX2_heldPairs_23 (by decide) (fun h_23 => ?_) (fun h_23 => ?_)
        · skip
          refine xIinc C (kx := 0) (d := 1) (lv' := [(3, .int (nI (i + 1))), (2, .int v), (0, .ref (a 0)), (1, .int (nI b))]) dX2_heldPairs_37 hl rfl (by decide) (by decide) rfl (fun ls hl => ?_)
          refine lv_goto (tgt := 9) hx hb dX2_heldPairs_40 (by decide) ?_
          exact ih9 (i + 1) v (by omega) (by omega) (by rw [hv]; first | exact heldP_t h_23 | exact heldP_f h_23) _ (lv_sub hl [0, 1, 2, 3] rfl)
        · skip
          refine lv_iload_n hx hb dX2_heldPairs_26 rfl (lv_at hl 1 rfl) ?_
          refine lv_aload_n hx hb dX2_heldPairs_27 rfl (lv_at hl 2 rfl) ?_
          refine xGet C hN hP 0 (j := 5) rfl rfl iX2_heldPairs_X2 (by decide) kX2_heldPairs_27 rfl rfl dX2_heldPairs_28 ?_
          refine lv_iload_n hx hb dX2_heldPairs_31 rfl (lv_at hl 0 rfl) ?_
          refine xIald C hN hP 6 (j := i) (v := mk (pfit (T i 2) (T i 3))) rfl (by omega) (by decide) ((hR i (by omega)).2.2.2.2.2) dX2_heldPairs_32 ?_
          refine lv_iconst (v := (-1)) hx hb dX2_heldPairs_33 (by decide) ?_
          refine lv_ixor hx hb dX2_heldPairs_34 ?_
          refine lv_iand hx hb dX2_heldPairs_35 ?_
          refine lv_istore_n (lv' := [(2, .int (v &&& ((mk (pfit (T i 2) (T i 3))) ^^^ (-1)))), (3, .int (nI i)), (0, .ref (a 0)), (1, .int (nI b))]) hx hb dX2_heldPairs_36 rfl hl (by decide) rfl (fun ls hl => ?_)
          refine xIinc C (kx := 1) (d := 1) (lv' := [(3, .int (nI (i + 1))), (2, .int (v &&& ((mk (pfit (T i 2) (T i 3))) ^^^ (-1)))), (0, .ref (a 0)), (1, .int (nI b))]) dX2_heldPairs_37 hl rfl (by decide) (by decide) rfl (fun ls hl => ?_)
          refine lv_goto (tgt := 9) hx hb dX2_heldPairs_40 (by decide) ?_
          exact ih9 (i + 1) (v &&& ((mk (pfit (T i 2) (T i 3))) ^^^ (-1))) (by omega) (by omega) (by rw [hv]; first | exact heldP_t h_23 | exact heldP_f h_23) _ (lv_sub hl [0, 1, 2, 3] rfl)
  exact L9 _ 0 (mk (pfit (T b 2) (T b 3))) (Nat.lt_succ_self _) (by omega) (heldP_0 T b) _ (lv_sub hl [0, 1, 2, 3] rfl)

set_option maxHeartbeats 8000000 in
set_option maxRecDepth 100000 in
theorem c_X2_permittedPairs (xl : Launch) (D : va_G) (kA : Nat → ClassId) (a : Nat → Nat) (f : Nat → Nat → Int32) (n : Nat) (T : Nat → Nat → Nat) (hR : relT f n T) (hW : WfT n T) (hn : n ≤ 25) : Met xl yX2_permittedPairs wsX2_permittedPairs { frames := 0, cells := 0, slots := 0, locals := 0 } (va_Pc [.ref (a 0)] (xPr D kA [((a 0), .inr (2, [.ref (a 1), .ref (a 2), .ref (a 3), .ref (a 4), .ref (a 5), .ref (a 6), .int (nI n)])), ((a 1), .inl (kA 0, 25, .inl (f 0))), ((a 2), .inl (kA 0, 25, .inl (f 1))), ((a 3), .inl (kA 0, 25, .inl (f 2))), ((a 4), .inl (kA 0, 25, .inl (f 3))), ((a 5), .inl (kA 0, 25, .inl (f 4))), ((a 6), .inl (kA 0, 25, .inl (f 5)))])) (vp_Si (fun rr => rr = mk (permM n T))) 0 0 (fun _ => False) := by
  refine Met.ofW (cc := cX2_permittedPairs) (maxL := 3) (ret := (some .int)) (by decide) rfl ?_
  intro xp xe xs xm args xbe xme xc s₁ B hml hv
  obtain ⟨rfl, hP, hN⟩ := hv
  have hret := B.returns
  have C : CallFix xp xm xc cX2_permittedPairs 3 xs ([.ref (a 0)] : List Value).toArray wsX2_permittedPairs RX2 := ⟨B.exec, B.bytes, hml, findClass_of_methodNamed B.named, atoms_spec (ws := wsX2_permittedPairs) B.pre⟩
  have hlocks := B.notSynchronized
  obtain ⟨hx, hb, _, hown, hts⟩ := id C
  have hl := lv_entry ([.ref (a 0)]) (n := 3) (Nat.le_of_ble_eq_true rfl)
  rw [lg_entry_eq]
  generalize (lg_sl ([.ref (a 0)]) ++ List.replicate (3 - (lg_sl ([.ref (a 0)])).length) Slot.unset).toArray = ls at hl ⊢
  have hl : lv_has ls 3 [(0, .ref (a 0))] := hl
  refine lv_iconst (v := nI 0) hx hb dX2_permittedPairs_0 (by decide) ?_
  refine lv_istore_n (lv' := [(1, .int (nI 0)), (0, .ref (a 0))]) hx hb dX2_permittedPairs_1 rfl hl (by decide) rfl (fun ls hl => ?_)
  refine lv_iconst (v := nI 0) hx hb dX2_permittedPairs_2 (by decide) ?_
  refine lv_istore_n (lv' := [(2, .int (nI 0)), (1, .int (nI 0)), (0, .ref (a 0))]) hx hb dX2_permittedPairs_3 rfl hl (by decide) rfl (fun ls hl => ?_)
  have L4 : ∀ (fuel : Nat), ∀ (i : Nat) (v : Int32) (hmu : n - i < fuel) (hi : i ≤ n) (hv : v = mk (permM i T)) (ls : Array Slot) (_ : lv_has ls 3 [(2, .int (nI i)), (1, .int v), (0, .ref (a 0))]), W xp xl xe (headSpec wsX2_permittedPairs { frames := 0, cells := 0, slots := 0, locals := 0 }).room xs xm ([.ref (a 0)] : List Value).toArray xbe xme xc xs.heap [] 0 0 (MQ xbe (vp_Si (fun rr => rr = mk (permM n T))) ([.ref (a 0)] : List Value).toArray xs 0 0 (fun _ => False)) (F0 xm 4 ls []) := by
    intro fuel
    induction fuel with
    | zero => intro i v hmu; exact absurd hmu (Nat.not_lt_zero _)
    | succ fuel ih4 =>
      intro i v hmu hi hv ls hl
      refine lv_iload_n hx hb dX2_permittedPairs_4 rfl (lv_at hl 0 rfl) ?_
      refine lv_aload_n hx hb dX2_permittedPairs_5 rfl (lv_at hl 2 rfl) ?_
      refine xGet C hN hP 0 (j := 6) rfl rfl iX2_permittedPairs_X2 (by decide) kX2_permittedPairs_30 rfl rfl dX2_permittedPairs_6 ?_
      refine xIcmpGe C (tgt := 36) (by omega) (by omega) dX2_permittedPairs_9 (by decide) (fun h_9 => ?_) (fun h_9 => ?_)
      · skip
        refine lv_iload_n hx hb dX2_permittedPairs_36 rfl (lv_at hl 1 rfl) ?_
        exact xRoI hx hb hret (v := v) (by rw [hv, show i = n by omega]) dX2_permittedPairs_37 hlocks
      · skip
        refine lv_aload_n hx hb dX2_permittedPairs_12 rfl (lv_at hl 2 rfl) ?_
        refine xGet C hN hP 0 (j := 1) rfl rfl iX2_permittedPairs_X2 (by decide) kX2_permittedPairs_15 rfl rfl dX2_permittedPairs_13 ?_
        refine lv_iload_n hx hb dX2_permittedPairs_16 rfl (lv_at hl 0 rfl) ?_
        refine xIald C hN hP 2 (j := i) (v := nI (T i 1)) rfl (by omega) (by decide) ((hR i (by omega)).2.1) dX2_permittedPairs_17 ?_
        refine xIfNe C (tgt := 30) (by have := hW i (by omega); omega) dX2_permittedPairs_18 (by decide) (fun h_18 => ?_) (fun h_18 => ?_)
        · skip
          refine xIinc C (kx := 0) (d := 1) (lv' := [(2, .int (nI (i + 1))), (1, .int v), (0, .ref (a 0))]) dX2_permittedPairs_30 hl rfl (by decide) (by decide) rfl (fun ls hl => ?_)
          refine lv_goto (tgt := 4) hx hb dX2_permittedPairs_33 (by decide) ?_
          exact ih4 (i + 1) v (by omega) (by omega) (by rw [hv]; first | exact permM_t h_18 | exact permM_f h_18) _ (lv_sub hl [0, 1, 2] rfl)
        · skip
          refine lv_iload_n hx hb dX2_permittedPairs_21 rfl (lv_at hl 1 rfl) ?_
          refine lv_aload_n hx hb dX2_permittedPairs_22 rfl (lv_at hl 2 rfl) ?_
          refine xGet C hN hP 0 (j := 5) rfl rfl iX2_permittedPairs_X2 (by decide) kX2_permittedPairs_27 rfl rfl dX2_permittedPairs_23 ?_
          refine lv_iload_n hx hb dX2_permittedPairs_26 rfl (lv_at hl 0 rfl) ?_
          refine xIald C hN hP 6 (j := i) (v := mk (pfit (T i 2) (T i 3))) rfl (by omega) (by decide) ((hR i (by omega)).2.2.2.2.2) dX2_permittedPairs_27 ?_
          refine lv_ior hx hb dX2_permittedPairs_28 ?_
          refine lv_istore_n (lv' := [(1, .int (v ||| (mk (pfit (T i 2) (T i 3))))), (2, .int (nI i)), (0, .ref (a 0))]) hx hb dX2_permittedPairs_29 rfl hl (by decide) rfl (fun ls hl => ?_)
          refine xIinc C (kx := 1) (d := 1) (lv' := [(2, .int (nI (i + 1))), (1, .int (v ||| (mk (pfit (T i 2) (T i 3))))), (0, .ref (a 0))]) dX2_permittedPairs_30 hl rfl (by decide) (by decide) rfl (fun ls hl => ?_)
          refine lv_goto (tgt := 4) hx hb dX2_permittedPairs_33 (by decide) ?_
          exact ih4 (i + 1) (v ||| (mk (pfit (T i 2) (T i 3)))) (by omega) (by omega) (by rw [hv]; first | exact permM_t h_18 | exact permM_f h_18) _ (lv_sub hl [0, 1, 2] rfl)
  exact L4 _ 0 (nI 0) (Nat.lt_succ_self _) (by omega) (mk_0.symm) _ (lv_sub hl [0, 1, 2] rfl)

set_option maxHeartbeats 8000000 in
set_option maxRecDepth 100000 in
theorem c_X2_heldPairsOfSeal (xl : Launch) (D : va_G) (kA : Nat → ClassId) (a : Nat → Nat) (f : Nat → Nat → Int32) (n : Nat) (T : Nat → Nat → Nat) (hR : relT f n T) (hW : WfT n T) (hn : n ≤ 25) (z : Nat) (hz : z ≤ 9) : Met xl yX2_heldPairsOfSeal wsX2_heldPairsOfSeal { frames := 2, cells := 0, slots := 0, locals := 45 } (va_Pc [.ref (a 0), .int (nI z)] (xPr D kA [((a 0), .inr (2, [.ref (a 1), .ref (a 2), .ref (a 3), .ref (a 4), .ref (a 5), .ref (a 6), .int (nI n)])), ((a 1), .inl (kA 0, 25, .inl (f 0))), ((a 2), .inl (kA 0, 25, .inl (f 1))), ((a 3), .inl (kA 0, 25, .inl (f 2))), ((a 4), .inl (kA 0, 25, .inl (f 3))), ((a 5), .inl (kA 0, 25, .inl (f 4))), ((a 6), .inl (kA 0, 25, .inl (f 5)))])) (vp_Si (fun rr => rr = mk (sealM n n T z))) 0 0 (fun _ => False) := by
  refine Met.ofW (cc := cX2_heldPairsOfSeal) (maxL := 4) (ret := (some .int)) (by decide) rfl ?_
  intro xp xe xs xm args xbe xme xc s₁ B hml hv
  obtain ⟨rfl, hP, hN⟩ := hv
  have hret := B.returns
  have C : CallFix xp xm xc cX2_heldPairsOfSeal 4 xs ([.ref (a 0), .int (nI z)] : List Value).toArray wsX2_heldPairsOfSeal RX2 := ⟨B.exec, B.bytes, hml, findClass_of_methodNamed B.named, atoms_spec (ws := wsX2_heldPairsOfSeal) B.pre⟩
  have hlocks := B.notSynchronized
  obtain ⟨hx, hb, _, hown, hts⟩ := id C
  have hl := lv_entry ([.ref (a 0), .int (nI z)]) (n := 4) (Nat.le_of_ble_eq_true rfl)
  rw [lg_entry_eq]
  generalize (lg_sl ([.ref (a 0), .int (nI z)]) ++ List.replicate (4 - (lg_sl ([.ref (a 0), .int (nI z)])).length) Slot.unset).toArray = ls at hl ⊢
  have hl : lv_has ls 4 [(0, .ref (a 0)), (1, .int (nI z))] := hl
  refine lv_iconst (v := nI 0) hx hb dX2_heldPairsOfSeal_0 (by decide) ?_
  refine lv_istore_n (lv' := [(2, .int (nI 0)), (0, .ref (a 0)), (1, .int (nI z))]) hx hb dX2_heldPairsOfSeal_1 rfl hl (by decide) rfl (fun ls hl => ?_)
  refine lv_iconst (v := nI 0) hx hb dX2_heldPairsOfSeal_2 (by decide) ?_
  refine lv_istore_n (lv' := [(3, .int (nI 0)), (2, .int (nI 0)), (0, .ref (a 0)), (1, .int (nI z))]) hx hb dX2_heldPairsOfSeal_3 rfl hl (by decide) rfl (fun ls hl => ?_)
  have L4 : ∀ (fuel : Nat), ∀ (i : Nat) (v : Int32) (hmu : n - i < fuel) (hi : i ≤ n) (hv : v = mk (sealM i n T z)) (ls : Array Slot) (_ : lv_has ls 4 [(3, .int (nI i)), (2, .int v), (0, .ref (a 0)), (1, .int (nI z))]), W xp xl xe (headSpec wsX2_heldPairsOfSeal { frames := 2, cells := 0, slots := 0, locals := 45 }).room xs xm ([.ref (a 0), .int (nI z)] : List Value).toArray xbe xme xc xs.heap [] 0 0 (MQ xbe (vp_Si (fun rr => rr = mk (sealM n n T z))) ([.ref (a 0), .int (nI z)] : List Value).toArray xs 0 0 (fun _ => False)) (F0 xm 4 ls []) := by
    intro fuel
    induction fuel with
    | zero => intro i v hmu; exact absurd hmu (Nat.not_lt_zero _)
    | succ fuel ih4 =>
      intro i v hmu hi hv ls hl
      refine lv_iload_n hx hb dX2_heldPairsOfSeal_4 rfl (lv_at hl 0 rfl) ?_
      refine lv_aload_n hx hb dX2_heldPairsOfSeal_5 rfl (lv_at hl 2 rfl) ?_
      refine xGet C hN hP 0 (j := 6) rfl rfl iX2_heldPairsOfSeal_X2 (by decide) kX2_heldPairsOfSeal_30 rfl rfl dX2_heldPairsOfSeal_6 ?_
      refine xIcmpGe C (tgt := 46) (by omega) (by omega) dX2_heldPairsOfSeal_9 (by decide) (fun h_9 => ?_) (fun h_9 => ?_)
      · skip
        refine lv_iload_n hx hb dX2_heldPairsOfSeal_46 rfl (lv_at hl 1 rfl) ?_
        exact xRoI hx hb hret (v := v) (by rw [hv, show i = n by omega]) dX2_heldPairsOfSeal_47 hlocks
      · skip
        refine lv_aload_n hx hb dX2_heldPairsOfSeal_12 rfl (lv_at hl 2 rfl) ?_
        refine xGet C hN hP 0 (j := 1) rfl rfl iX2_heldPairsOfSeal_X2 (by decide) kX2_heldPairsOfSeal_15 rfl rfl dX2_heldPairsOfSeal_13 ?_
        refine lv_iload_n hx hb dX2_heldPairsOfSeal_16 rfl (lv_at hl 0 rfl) ?_
        refine xIald C hN hP 2 (j := i) (v := nI (T i 1)) rfl (by omega) (by decide) ((hR i (by omega)).2.1) dX2_heldPairsOfSeal_17 ?_
        refine lv_iconst (v := nI 1) hx hb dX2_heldPairsOfSeal_18 (by decide) ?_
        refine xIcmpNe C (tgt := 40) (by have := hW i (by omega); omega) (by decide) dX2_heldPairsOfSeal_19 (by decide) (fun h_19 => ?_) (fun h_19 => ?_)
        · skip
          refine xIinc C (kx := 0) (d := 1) (lv' := [(3, .int (nI (i + 1))), (2, .int v), (0, .ref (a 0)), (1, .int (nI z))]) dX2_heldPairsOfSeal_40 hl rfl (by decide) (by decide) rfl (fun ls hl => ?_)
          refine lv_goto (tgt := 4) hx hb dX2_heldPairsOfSeal_43 (by decide) ?_
          exact ih4 (i + 1) v (by omega) (by omega) (by rw [hv]; first | exact sealM_t h_19 h_29 | exact sealM_f1 h_19 | exact sealM_f2 h_29) _ (lv_sub hl [0, 1, 2, 3] rfl)
        · skip
          refine lv_aload_n hx hb dX2_heldPairsOfSeal_22 rfl (lv_at hl 2 rfl) ?_
          refine xGet C hN hP 0 (j := 4) rfl rfl iX2_heldPairsOfSeal_X2 (by decide) kX2_heldPairsOfSeal_24 rfl rfl dX2_heldPairsOfSeal_23 ?_
          refine lv_iload_n hx hb dX2_heldPairsOfSeal_26 rfl (lv_at hl 0 rfl) ?_
          refine xIald C hN hP 5 (j := i) (v := nI (T i 4)) rfl (by omega) (by decide) ((hR i (by omega)).2.2.2.2.1) dX2_heldPairsOfSeal_27 ?_
          refine lv_iload_n hx hb dX2_heldPairsOfSeal_28 rfl (lv_at hl 3 rfl) ?_
          refine xIcmpNe C (tgt := 40) (by have := hW i (by omega); omega) (by omega) dX2_heldPairsOfSeal_29 (by decide) (fun h_29 => ?_) (fun h_29 => ?_)
          · skip
            refine xIinc C (kx := 0) (d := 1) (lv' := [(3, .int (nI (i + 1))), (2, .int v), (0, .ref (a 0)), (1, .int (nI z))]) dX2_heldPairsOfSeal_40 hl rfl (by decide) (by decide) rfl (fun ls hl => ?_)
            refine lv_goto (tgt := 4) hx hb dX2_heldPairsOfSeal_43 (by decide) ?_
            exact ih4 (i + 1) v (by omega) (by omega) (by rw [hv]; first | exact sealM_t h_19 h_29 | exact sealM_f1 h_19 | exact sealM_f2 h_29) _ (lv_sub hl [0, 1, 2, 3] rfl)
          · skip
            refine lv_iload_n hx hb dX2_heldPairsOfSeal_32 rfl (lv_at hl 1 rfl) ?_
            refine lv_aload_n hx hb dX2_heldPairsOfSeal_33 rfl (lv_at hl 2 rfl) ?_
            refine lv_iload_n hx hb dX2_heldPairsOfSeal_34 rfl (lv_at hl 0 rfl) ?_
            refine xVro C hN (As := [.int (nI i)]) (rest := [.int v]) (q0 := 0) (c_X2_heldPairs xl D kA a f n T hR hW hn i (by omega)) (cwV 1 hts gX2_heldPairsOfSeal_X2_heldPairs rfl rfl rfl (by decide +kernel) ⟨Nat.le_of_ble_eq_true rfl, Nat.le_of_ble_eq_true rfl⟩) hP rfl rfl rfl rfl hl.1 rfl (Nat.le_of_ble_eq_true rfl) dX2_heldPairsOfSeal_35 ⟨Nat.le_of_ble_eq_true rfl, Nat.le_of_ble_eq_true rfl⟩ ?_
            refine lv_ior hx hb dX2_heldPairsOfSeal_38 ?_
            refine lv_istore_n (lv' := [(2, .int (v ||| (mk (heldM n T i)))), (3, .int (nI i)), (0, .ref (a 0)), (1, .int (nI z))]) hx hb dX2_heldPairsOfSeal_39 rfl hl (by decide) rfl (fun ls hl => ?_)
            refine xIinc C (kx := 1) (d := 1) (lv' := [(3, .int (nI (i + 1))), (2, .int (v ||| (mk (heldM n T i)))), (0, .ref (a 0)), (1, .int (nI z))]) dX2_heldPairsOfSeal_40 hl rfl (by decide) (by decide) rfl (fun ls hl => ?_)
            refine lv_goto (tgt := 4) hx hb dX2_heldPairsOfSeal_43 (by decide) ?_
            exact ih4 (i + 1) (v ||| (mk (heldM n T i))) (by omega) (by omega) (by rw [hv]; first | exact sealM_t h_19 h_29 | exact sealM_f1 h_19 | exact sealM_f2 h_29) _ (lv_sub hl [0, 1, 2, 3] rfl)
  exact L4 _ 0 (nI 0) (Nat.lt_succ_self _) (by omega) (mk_0.symm) _ (lv_sub hl [0, 1, 2, 3] rfl)

set_option maxHeartbeats 8000000 in
set_option maxRecDepth 100000 in
theorem c_X2_allowedPairs (xl : Launch) (D : va_G) (kA : Nat → ClassId) (a : Nat → Nat) (f : Nat → Nat → Int32) (n : Nat) (T : Nat → Nat → Nat) (hR : relT f n T) (hW : WfT n T) (hn : n ≤ 25) (rk : Nat) (hrk : rk ≤ 9) : Met xl yX2_allowedPairs wsX2_allowedPairs { frames := 3, cells := 0, slots := 0, locals := 68 } (va_Pc [.ref (a 0), .int (nI rk)] (xPr D kA [((a 0), .inr (2, [.ref (a 1), .ref (a 2), .ref (a 3), .ref (a 4), .ref (a 5), .ref (a 6), .int (nI n)])), ((a 1), .inl (kA 0, 25, .inl (f 0))), ((a 2), .inl (kA 0, 25, .inl (f 1))), ((a 3), .inl (kA 0, 25, .inl (f 2))), ((a 4), .inl (kA 0, 25, .inl (f 3))), ((a 5), .inl (kA 0, 25, .inl (f 4))), ((a 6), .inl (kA 0, 25, .inl (f 5)))])) (vp_Si (fun rr => rr = mk (fun q => decide (lstT n T (q / 6) (q % 6) ≤ rk)))) 0 0 (fun _ => False) := by
  refine Met.ofW (cc := cX2_allowedPairs) (maxL := 4) (ret := (some .int)) (by decide) rfl ?_
  intro xp xe xs xm args xbe xme xc s₁ B hml hv
  obtain ⟨rfl, hP, hN⟩ := hv
  have hret := B.returns
  have C : CallFix xp xm xc cX2_allowedPairs 4 xs ([.ref (a 0), .int (nI rk)] : List Value).toArray wsX2_allowedPairs RX2 := ⟨B.exec, B.bytes, hml, findClass_of_methodNamed B.named, atoms_spec (ws := wsX2_allowedPairs) B.pre⟩
  have hlocks := B.notSynchronized
  obtain ⟨hx, hb, _, hown, hts⟩ := id C
  have hl := lv_entry ([.ref (a 0), .int (nI rk)]) (n := 4) (Nat.le_of_ble_eq_true rfl)
  rw [lg_entry_eq]
  generalize (lg_sl ([.ref (a 0), .int (nI rk)]) ++ List.replicate (4 - (lg_sl ([.ref (a 0), .int (nI rk)])).length) Slot.unset).toArray = ls at hl ⊢
  have hl : lv_has ls 4 [(0, .ref (a 0)), (1, .int (nI rk))] := hl
  refine lv_aload_n hx hb dX2_allowedPairs_0 rfl (lv_at hl 0 rfl) ?_
  refine xVro C hN (As := []) (rest := []) (q0 := 0) (c_X2_permittedPairs xl D kA a f n T hR hW hn) (cwV 0 hts gX2_allowedPairs_X2_permittedPairs rfl rfl rfl (by decide +kernel) ⟨Nat.le_of_ble_eq_true rfl, Nat.le_of_ble_eq_true rfl⟩) hP rfl rfl rfl rfl hl.1 rfl (Nat.le_of_ble_eq_true rfl) dX2_allowedPairs_1 ⟨Nat.le_of_ble_eq_true rfl, Nat.le_of_ble_eq_true rfl⟩ ?_
  refine lv_istore_n (lv' := [(2, .int (mk (permM n T))), (0, .ref (a 0)), (1, .int (nI rk))]) hx hb dX2_allowedPairs_4 rfl hl (by decide) rfl (fun ls hl => ?_)
  refine lv_bipush (v := nI 9) hx hb dX2_allowedPairs_5 (by decide) ?_
  refine lv_istore_n (lv' := [(3, .int (nI 9)), (2, .int (mk (permM n T))), (0, .ref (a 0)), (1, .int (nI rk))]) hx hb dX2_allowedPairs_7 rfl hl (by decide) rfl (fun ls hl => ?_)
  have L8 : ∀ (fuel : Nat), ∀ (z : Nat) (v : Int32) (hmu : z < fuel) (hz : rk ≤ z ∧ z ≤ 9) (hv : v = mk (aboveM n T z)) (ls : Array Slot) (_ : lv_has ls 4 [(3, .int (nI z)), (2, .int v), (0, .ref (a 0)), (1, .int (nI rk))]), W xp xl xe (headSpec wsX2_allowedPairs { frames := 3, cells := 0, slots := 0, locals := 68 }).room xs xm ([.ref (a 0), .int (nI rk)] : List Value).toArray xbe xme xc xs.heap [] 0 0 (MQ xbe (vp_Si (fun rr => rr = mk (fun q => decide (lstT n T (q / 6) (q % 6) ≤ rk)))) ([.ref (a 0), .int (nI rk)] : List Value).toArray xs 0 0 (fun _ => False)) (F0 xm 8 ls []) := by
    intro fuel
    induction fuel with
    | zero => intro z v hmu; exact absurd hmu (Nat.not_lt_zero _)
    | succ fuel ih8 =>
      intro z v hmu hz hv ls hl
      refine lv_iload_n hx hb dX2_allowedPairs_8 rfl (lv_at hl 0 rfl) ?_
      refine lv_iload_n hx hb dX2_allowedPairs_9 rfl (lv_at hl 3 rfl) ?_
      refine xIcmpLe C (tgt := 29) (by omega) (by omega) dX2_allowedPairs_10 (by decide) (fun h_10 => ?_) (fun h_10 => ?_)
      · skip
        refine lv_iload_n hx hb dX2_allowedPairs_29 rfl (lv_at hl 1 rfl) ?_
        exact xRoI hx hb hret (v := v) (by rw [hv, show z = rk by omega]; exact mk_cong (fun q _ => aboveM_lst (by omega))) dX2_allowedPairs_30 hlocks
      · skip
        refine lv_iload_n hx hb dX2_allowedPairs_13 rfl (lv_at hl 1 rfl) ?_
        refine lv_aload_n hx hb dX2_allowedPairs_14 rfl (lv_at hl 2 rfl) ?_
        refine lv_iload_n hx hb dX2_allowedPairs_15 rfl (lv_at hl 0 rfl) ?_
        refine xVro C hN (As := [.int (nI z)]) (rest := [.int v]) (q0 := 0) (c_X2_heldPairsOfSeal xl D kA a f n T hR hW hn z (by omega)) (cwV 1 hts gX2_allowedPairs_X2_heldPairsOfSeal rfl rfl rfl (by decide +kernel) ⟨Nat.le_of_ble_eq_true rfl, Nat.le_of_ble_eq_true rfl⟩) hP rfl rfl rfl rfl hl.1 rfl (Nat.le_of_ble_eq_true rfl) dX2_allowedPairs_16 ⟨Nat.le_of_ble_eq_true rfl, Nat.le_of_ble_eq_true rfl⟩ ?_
        refine lv_iconst (v := (-1)) hx hb dX2_allowedPairs_19 (by decide) ?_
        refine lv_ixor hx hb dX2_allowedPairs_20 ?_
        refine lv_iand hx hb dX2_allowedPairs_21 ?_
        refine lv_istore_n (lv' := [(2, .int (v &&& ((mk (sealM n n T z)) ^^^ (-1)))), (3, .int (nI z)), (0, .ref (a 0)), (1, .int (nI rk))]) hx hb dX2_allowedPairs_22 rfl hl (by decide) rfl (fun ls hl => ?_)
        refine xIdec C (kx := 1) (lv' := [(3, .int (nI (z - 1))), (2, .int (v &&& ((mk (sealM n n T z)) ^^^ (-1)))), (0, .ref (a 0)), (1, .int (nI rk))]) (by omega) dX2_allowedPairs_23 hl rfl (by decide) rfl (fun ls hl => ?_)
        refine lv_goto (tgt := 8) hx hb dX2_allowedPairs_26 (by decide) ?_
        exact ih8 (z - 1) (v &&& ((mk (sealM n n T z)) ^^^ (-1))) (by omega) (by omega) (by rw [hv]; exact aboveM_s (by omega)) _ (lv_sub hl [0, 1, 2, 3] rfl)
  exact L8 _ 9 (mk (permM n T)) (Nat.lt_succ_self _) (by omega) (aboveM_9 hW) _ (lv_sub hl [0, 1, 2, 3] rfl)

set_option maxHeartbeats 8000000 in
set_option maxRecDepth 100000 in
theorem c_X2_leastRankFor (xl : Launch) (D : va_G) (kA : Nat → ClassId) (a : Nat → Nat) (f : Nat → Nat → Int32) (n : Nat) (T : Nat → Nat → Nat) (hR : relT f n T) (hW : WfT n T) (hn : n ≤ 25) (c d : Nat) (hc : c < 5) (hd : d < 6) : Met xl yX2_leastRankFor wsX2_leastRankFor { frames := 3, cells := 0, slots := 0, locals := 68 } (va_Pc [.ref (a 0), .int (mk (pfit c d))] (xPr D kA [((a 0), .inr (2, [.ref (a 1), .ref (a 2), .ref (a 3), .ref (a 4), .ref (a 5), .ref (a 6), .int (nI n)])), ((a 1), .inl (kA 0, 25, .inl (f 0))), ((a 2), .inl (kA 0, 25, .inl (f 1))), ((a 3), .inl (kA 0, 25, .inl (f 2))), ((a 4), .inl (kA 0, 25, .inl (f 3))), ((a 5), .inl (kA 0, 25, .inl (f 4))), ((a 6), .inl (kA 0, 25, .inl (f 5)))])) (vp_Si (fun rr => rr = (if lstT n T c d = 10 then (-6) else nI (lstT n T c d)))) 0 0 (fun _ => False) := by
  refine Met.ofW (cc := cX2_leastRankFor) (maxL := 3) (ret := (some .int)) (by decide) rfl ?_
  intro xp xe xs xm args xbe xme xc s₁ B hml hv
  obtain ⟨rfl, hP, hN⟩ := hv
  have hret := B.returns
  have C : CallFix xp xm xc cX2_leastRankFor 3 xs ([.ref (a 0), .int (mk (pfit c d))] : List Value).toArray wsX2_leastRankFor RX2 := ⟨B.exec, B.bytes, hml, findClass_of_methodNamed B.named, atoms_spec (ws := wsX2_leastRankFor) B.pre⟩
  have hlocks := B.notSynchronized
  obtain ⟨hx, hb, _, hown, hts⟩ := id C
  have hl := lv_entry ([.ref (a 0), .int (mk (pfit c d))]) (n := 3) (Nat.le_of_ble_eq_true rfl)
  rw [lg_entry_eq]
  generalize (lg_sl ([.ref (a 0), .int (mk (pfit c d))]) ++ List.replicate (3 - (lg_sl ([.ref (a 0), .int (mk (pfit c d))])).length) Slot.unset).toArray = ls at hl ⊢
  have hl : lv_has ls 3 [(0, .ref (a 0)), (1, .int (mk (pfit c d)))] := hl
  refine lv_aload_n hx hb dX2_leastRankFor_0 rfl (lv_at hl 0 rfl) ?_
  refine xVro C hN (As := []) (rest := []) (q0 := 0) (c_X2_permittedPairs xl D kA a f n T hR hW hn) (cwV 0 hts gX2_leastRankFor_X2_permittedPairs rfl rfl rfl (by decide +kernel) ⟨Nat.le_of_ble_eq_true rfl, Nat.le_of_ble_eq_true rfl⟩) hP rfl rfl rfl rfl hl.1 rfl (Nat.le_of_ble_eq_true rfl) dX2_leastRankFor_1 ⟨Nat.le_of_ble_eq_true rfl, Nat.le_of_ble_eq_true rfl⟩ ?_
  refine lv_iload_n hx hb dX2_leastRankFor_4 rfl (lv_at hl 1 rfl) ?_
  refine lv_iand hx hb dX2_leastRankFor_5 ?_
  refine lv_if_ne (tgt := 12) hx hb dX2_leastRankFor_6 (by decide) (fun h_6 => ?_) (fun h_6 => ?_)
  · skip
    refine lv_bipush (v := nI 9) hx hb dX2_leastRankFor_12 (by decide) ?_
    refine lv_istore_n (lv' := [(2, .int (nI 9)), (0, .ref (a 0)), (1, .int (mk (pfit c d)))]) hx hb dX2_leastRankFor_14 rfl hl (by decide) rfl (fun ls hl => ?_)
    have L15 : ∀ (fuel : Nat), ∀ (z : Nat) (hmu : z < fuel) (hz : z ≤ 9) (hv : lstT n T c d ≤ z) (ls : Array Slot) (_ : lv_has ls 3 [(2, .int (nI z)), (0, .ref (a 0)), (1, .int (mk (pfit c d)))]), W xp xl xe (headSpec wsX2_leastRankFor { frames := 3, cells := 0, slots := 0, locals := 68 }).room xs xm ([.ref (a 0), .int (mk (pfit c d))] : List Value).toArray xbe xme xc xs.heap [] 0 0 (MQ xbe (vp_Si (fun rr => rr = (if lstT n T c d = 10 then (-6) else nI (lstT n T c d)))) ([.ref (a 0), .int (mk (pfit c d))] : List Value).toArray xs 0 0 (fun _ => False)) (F0 xm 15 ls []) := by
      intro fuel
      induction fuel with
      | zero => intro z hmu; exact absurd hmu (Nat.not_lt_zero _)
      | succ fuel ih15 =>
        intro z hmu hz hv ls hl
        refine lv_iload_n hx hb dX2_leastRankFor_15 rfl (lv_at hl 0 rfl) ?_
        refine lv_iconst (v := nI 1) hx hb dX2_leastRankFor_16 (by decide) ?_
        refine xIcmpLt C (tgt := 38) (by omega) (by decide) dX2_leastRankFor_17 (by decide) (fun h_17 => ?_) (fun h_17 => ?_)
        · skip
          refine lv_iconst (v := nI 0) hx hb dX2_leastRankFor_38 (by decide) ?_
          exact xRoI hx hb hret (v := nI 0) ((lst_at0 (by omega) hv).symm) dX2_leastRankFor_39 hlocks
        · skip
          refine lv_aload_n hx hb dX2_leastRankFor_20 rfl (lv_at hl 1 rfl) ?_
          refine lv_iload_n hx hb dX2_leastRankFor_21 rfl (lv_at hl 0 rfl) ?_
          refine xVro C hN (As := [.int (nI z)]) (rest := []) (q0 := 0) (c_X2_heldPairsOfSeal xl D kA a f n T hR hW hn z (by omega)) (cwV 1 hts gX2_leastRankFor_X2_heldPairsOfSeal rfl rfl rfl (by decide +kernel) ⟨Nat.le_of_ble_eq_true rfl, Nat.le_of_ble_eq_true rfl⟩) hP rfl rfl rfl rfl hl.1 rfl (Nat.le_of_ble_eq_true rfl) dX2_leastRankFor_22 ⟨Nat.le_of_ble_eq_true rfl, Nat.le_of_ble_eq_true rfl⟩ ?_
          refine lv_iload_n hx hb dX2_leastRankFor_25 rfl (lv_at hl 2 rfl) ?_
          refine lv_iand hx hb dX2_leastRankFor_26 ?_
          refine lv_if_eq (tgt := 32) hx hb dX2_leastRankFor_27 (by decide) (fun h_27 => ?_) (fun h_27 => ?_)
          · skip
            refine xIdec C (kx := 0) (lv' := [(2, .int (nI (z - 1))), (0, .ref (a 0)), (1, .int (mk (pfit c d)))]) (by omega) dX2_leastRankFor_32 hl rfl (by decide) rfl (fun ls hl => ?_)
            refine lv_goto (tgt := 15) hx hb dX2_leastRankFor_35 (by decide) ?_
            exact ih15 (z - 1) (by omega) (by omega) (lst_dn hc hd (by omega) hv h_27) _ (lv_sub hl [0, 1, 2] rfl)
          · skip
            refine lv_iload_n hx hb dX2_leastRankFor_30 rfl (lv_at hl 0 rfl) ?_
            exact xRoI hx hb hret (v := nI z) ((lst_at hc hd (by omega) (by omega) hv h_27).symm) dX2_leastRankFor_31 hlocks
    exact L15 _ 9 (Nat.lt_succ_self _) (by omega) (lst_le9 hW hc hd h_6) _ (lv_sub hl [0, 1, 2] rfl)
  · skip
    refine lv_bipush (v := (-6)) hx hb dX2_leastRankFor_9 (by decide) ?_
    exact xRoI hx hb hret (v := (-6)) ((lst_none hc hd h_6).symm) dX2_leastRankFor_11 hlocks
