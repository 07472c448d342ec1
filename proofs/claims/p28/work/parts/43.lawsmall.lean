set_option maxHeartbeats 8000000 in
set_option maxRecDepth 100000 in
theorem c_L_low (xl : Launch) (D : va_G) (kA : Nat → ClassId) (v : Int32) (n : Nat) (h0 : 0 < n) (h1 : n < 2 ^ 31) : Met xl yL_low wsL_low { frames := 0, cells := 0, slots := 0, locals := 0 } (va_Pc [.int v, .int (nI n)] (xPr D kA [])) (vp_Si (fun rr => rr = nI (loN v % n))) 0 0 (fun _ => False) := by
  refine Met.ofW (cc := cL_low) (maxL := 2) (ret := (some .int)) (by decide) rfl ?_
  intro xp xe xs xm args xbe xme xc s₁ B hml hv
  obtain ⟨rfl, hP, hN⟩ := hv
  have hret := B.returns
  have C : CallFix xp xm xc cL_low 2 xs ([.int v, .int (nI n)] : List Value).toArray wsL_low RL := ⟨B.exec, B.bytes, hml, findClass_of_methodNamed B.named, atoms_spec (ws := wsL_low) B.pre⟩
  have hlocks := B.notSynchronized
  obtain ⟨hx, hb, _, hown, hts⟩ := id C
  have hl := lv_entry ([.int v, .int (nI n)]) (n := 2) (Nat.le_of_ble_eq_true rfl)
  rw [lg_entry_eq]
  generalize (lg_sl ([.int v, .int (nI n)]) ++ List.replicate (2 - (lg_sl ([.int v, .int (nI n)])).length) Slot.unset).toArray = ls at hl ⊢
  have hl : lv_has ls 2 [(0, .int v), (1, .int (nI n))] := hl
  refine lv_iload_n hx hb dL_low_0 rfl (lv_at hl 0 rfl) ?_
  refine lv_ldc (v := 2147483647) hx hb hown (hts _ (List.mem_of_getElem? (i := 1) rfl)) dL_low_1 ?_
  refine lv_iand hx hb dL_low_3 ?_
  refine xTop (y := nI (loN v)) (lo_and v) ?_
  refine lv_iload_n hx hb dL_low_4 rfl (lv_at hl 1 rfl) ?_
  refine xIrem C (lo_lt v) h0 h1 dL_low_5 ?_
  exact xRoI hx hb hret (v := nI ((loN v) % n)) (rfl) dL_low_6 hlocks

set_option maxHeartbeats 8000000 in
set_option maxRecDepth 100000 in
theorem c_L_fits (xl : Launch) (D : va_G) (kA : Nat → ClassId) (ra : Nat) (f : Nat → Int32) (x y c d : Nat) (hx2 : f 2 = nI x) (hy3 : f 3 = nI y) (hxl : x ≤ 5) (hyl : y ≤ 6) (hcl : c < 5) (hdl : d < 6) : Met xl yL_fits wsL_fits { frames := 0, cells := 0, slots := 0, locals := 0 } (va_Pc [.ref ra, .int (nI c), .int (nI d)] (xPr D kA [(ra, .inl (kA 0, 5, .inl (f)))])) (vp_Si (fun rr => rr = bI (fitQ x y c d))) 0 0 (fun _ => False) := by
  refine Met.ofW (cc := cL_fits) (maxL := 3) (ret := (some .boolean)) (by decide) rfl ?_
  intro xp xe xs xm args xbe xme xc s₁ B hml hv
  obtain ⟨rfl, hP, hN⟩ := hv
  have hret := B.returns
  have C : CallFix xp xm xc cL_fits 3 xs ([.ref ra, .int (nI c), .int (nI d)] : List Value).toArray wsL_fits RL := ⟨B.exec, B.bytes, hml, findClass_of_methodNamed B.named, atoms_spec (ws := wsL_fits) B.pre⟩
  have hlocks := B.notSynchronized
  obtain ⟨hx, hb, _, hown, hts⟩ := id C
  have hl := lv_entry ([.ref ra, .int (nI c), .int (nI d)]) (n := 3) (Nat.le_of_ble_eq_true rfl)
  rw [lg_entry_eq]
  generalize (lg_sl ([.ref ra, .int (nI c), .int (nI d)]) ++ List.replicate (3 - (lg_sl ([.ref ra, .int (nI c), .int (nI d)])).length) Slot.unset).toArray = ls at hl ⊢
  have hl : lv_has ls 3 [(0, .ref ra), (1, .int (nI c)), (2, .int (nI d))] := hl
  refine lv_aload_n hx hb dL_fits_0 rfl (lv_at hl 0 rfl) ?_
  refine lv_iconst (v := nI 2) hx hb dL_fits_1 (by decide) ?_
  refine xIald C hN hP 0 (j := 2) (v := nI x) rfl (by decide) (by decide) (hx2) dL_fits_2 ?_
  refine lv_iconst (v := nI 5) hx hb dL_fits_3 (by decide) ?_
  refine xIcmpEq C (tgt := 14) (by omega) (by decide) dL_fits_4 (by decide) (fun h_4 => ?_) (fun h_4 => ?_)
  · skip
    refine lv_aload_n hx hb dL_fits_14 rfl (lv_at hl 0 rfl) ?_
    refine lv_iconst (v := nI 3) hx hb dL_fits_15 (by decide) ?_
    refine xIald C hN hP 0 (j := 3) (v := nI y) rfl (by decide) (by decide) (hy3) dL_fits_16 ?_
    refine lv_bipush (v := nI 6) hx hb dL_fits_17 (by decide) ?_
    refine xIcmpEq C (tgt := 29) (by omega) (by decide) dL_fits_19 (by decide) (fun h_19 => ?_) (fun h_19 => ?_)
    · skip
      refine lv_iconst (v := nI 1) hx hb dL_fits_29 (by decide) ?_
      refine lv_goto (tgt := 34) hx hb dL_fits_30 (by decide) ?_
      exact xRoZ hx hb hret (v := nI 1) (xNar1) (fq_t (by omega) (by omega)) dL_fits_34 hlocks
    · skip
      refine lv_aload_n hx hb dL_fits_22 rfl (lv_at hl 0 rfl) ?_
      refine lv_iconst (v := nI 3) hx hb dL_fits_23 (by decide) ?_
      refine xIald C hN hP 0 (j := 3) (v := nI y) rfl (by decide) (by decide) (hy3) dL_fits_24 ?_
      refine lv_iload_n hx hb dL_fits_25 rfl (lv_at hl 2 rfl) ?_
      refine xIcmpNe C (tgt := 33) (by omega) (by omega) dL_fits_26 (by decide) (fun h_26 => ?_) (fun h_26 => ?_)
      · skip
        refine lv_iconst (v := nI 0) hx hb dL_fits_33 (by decide) ?_
        exact xRoZ hx hb hret (v := nI 0) (xNar0) (fq_f (by omega)) dL_fits_34 hlocks
      · skip
        refine lv_iconst (v := nI 1) hx hb dL_fits_29 (by decide) ?_
        refine lv_goto (tgt := 34) hx hb dL_fits_30 (by decide) ?_
        exact xRoZ hx hb hret (v := nI 1) (xNar1) (fq_t (by omega) (by omega)) dL_fits_34 hlocks
  · skip
    refine lv_aload_n hx hb dL_fits_7 rfl (lv_at hl 0 rfl) ?_
    refine lv_iconst (v := nI 2) hx hb dL_fits_8 (by decide) ?_
    refine xIald C hN hP 0 (j := 2) (v := nI x) rfl (by decide) (by decide) (hx2) dL_fits_9 ?_
    refine lv_iload_n hx hb dL_fits_10 rfl (lv_at hl 1 rfl) ?_
    refine xIcmpNe C (tgt := 33) (by omega) (by omega) dL_fits_11 (by decide) (fun h_11 => ?_) (fun h_11 => ?_)
    · skip
      refine lv_iconst (v := nI 0) hx hb dL_fits_33 (by decide) ?_
      exact xRoZ hx hb hret (v := nI 0) (xNar0) (fq_f (by omega)) dL_fits_34 hlocks
    · skip
      refine lv_aload_n hx hb dL_fits_14 rfl (lv_at hl 0 rfl) ?_
      refine lv_iconst (v := nI 3) hx hb dL_fits_15 (by decide) ?_
      refine xIald C hN hP 0 (j := 3) (v := nI y) rfl (by decide) (by decide) (hy3) dL_fits_16 ?_
      refine lv_bipush (v := nI 6) hx hb dL_fits_17 (by decide) ?_
      refine xIcmpEq C (tgt := 29) (by omega) (by decide) dL_fits_19 (by decide) (fun h_19 => ?_) (fun h_19 => ?_)
      · skip
        refine lv_iconst (v := nI 1) hx hb dL_fits_29 (by decide) ?_
        refine lv_goto (tgt := 34) hx hb dL_fits_30 (by decide) ?_
        exact xRoZ hx hb hret (v := nI 1) (xNar1) (fq_t (by omega) (by omega)) dL_fits_34 hlocks
      · skip
        refine lv_aload_n hx hb dL_fits_22 rfl (lv_at hl 0 rfl) ?_
        refine lv_iconst (v := nI 3) hx hb dL_fits_23 (by decide) ?_
        refine xIald C hN hP 0 (j := 3) (v := nI y) rfl (by decide) (by decide) (hy3) dL_fits_24 ?_
        refine lv_iload_n hx hb dL_fits_25 rfl (lv_at hl 2 rfl) ?_
        refine xIcmpNe C (tgt := 33) (by omega) (by omega) dL_fits_26 (by decide) (fun h_26 => ?_) (fun h_26 => ?_)
        · skip
          refine lv_iconst (v := nI 0) hx hb dL_fits_33 (by decide) ?_
          exact xRoZ hx hb hret (v := nI 0) (xNar0) (fq_f (by omega)) dL_fits_34 hlocks
        · skip
          refine lv_iconst (v := nI 1) hx hb dL_fits_29 (by decide) ?_
          refine lv_goto (tgt := 34) hx hb dL_fits_30 (by decide) ?_
          exact xRoZ hx hb hret (v := nI 1) (xNar1) (fq_t (by omega) (by omega)) dL_fits_34 hlocks

set_option maxHeartbeats 8000000 in
set_option maxRecDepth 100000 in
theorem c_L_read (xl : Launch) (D : va_G) (kA : Nat → ClassId) (ox os ob ot : Nat → Nat) (V : Nat → Nat) (m : Nat) (P : Nat → Nat) (kt : Nat) (HH : Nat → Nat → Nat) (HB : Nat → Bool) (LL : Nat → Nat → Nat) (hI : InvS (V, m, P, kt, HH, HB, LL)) (i : Nat) (hi : i < V 0) (ra : Nat) (g : Nat → Int32) (u : va_W) (hc : ClsR kA ox os ob ot (V, m, P, kt, HH, HB, LL) u) (A : Nat → Prop) : Met xl yL_read wsL_read { frames := 7, cells := 0, slots := 0, locals := 156 } (va_Pc [.ref (ox 0), .int (nI i), .ref ra] (xPw D kA A (u ++ [(ra, .inl (kA 0, 5, .inl (g)))]))) (xQv D A (lawQv kA ox os ob ot (fun S2 X2 => S2 = (V, m, P, kt, HH, HB, LL) ∧ X2 = [(ra, .inl (kA 0, 5, .inl (rdF V i g 5)))]))) 0 0 A := by
  refine Met.ofW (cc := cL_read) (maxL := 4) (ret := none) (by decide) rfl ?_
  intro xp xe xs xm args xbe xme xc s₁ B hml hv
  obtain ⟨rfl, hP, hN, hD, hA⟩ := hv
  have hret := B.returns
  have C : CallFix xp xm xc cL_read 4 xs ([.ref (ox 0), .int (nI i), .ref ra] : List Value).toArray wsL_read RL := ⟨B.exec, B.bytes, hml, findClass_of_methodNamed B.named, atoms_spec (ws := wsL_read) B.pre⟩
  have hlocks := B.notSynchronized
  obtain ⟨hx, hb, _, hown, hts⟩ := id C
  have hW : WX D kA A xs.heap ox os ob ot (V, m, P, kt, HH, HB, LL) [(ra, .inl (kA 0, 5, .inl (g)))] xs.heap [] := ⟨u, hc, hP, hD, va_S.rf⟩
  have hl := lv_entry ([.ref (ox 0), .int (nI i), .ref ra]) (n := 4) (Nat.le_of_ble_eq_true rfl)
  rw [lg_entry_eq]
  generalize (lg_sl ([.ref (ox 0), .int (nI i), .ref ra]) ++ List.replicate (4 - (lg_sl ([.ref (ox 0), .int (nI i), .ref ra])).length) Slot.unset).toArray = ls at hl ⊢
  have hl : lv_has ls 4 [(0, .ref (ox 0)), (1, .int (nI i)), (2, .ref ra)] := hl
  have hV : V 0 ≤ 24 := hI.1.1
  have hWf : WfT (V 0) (TV V) := hI.1.2.1
  have hM : V 1 ≤ 10 := hI.1.2.2.1
  refine lv_iconst (v := nI 0) hx hb dL_read_0 (by decide) ?_
  refine lv_istore_n (lv' := [(3, .int (nI 0)), (0, .ref (ox 0)), (1, .int (nI i)), (2, .ref ra)]) hx hb dL_read_1 rfl hl (by decide) rfl (fun ls hl => ?_)
  rw [rdF_0 V i g] at hW
  have L2 : ∀ (fuel : Nat), ∀ (e : Nat) (hmu : 5 - e < fuel) (he : e ≤ 5) (H : Heap) (locs : List Loc) (_ : WX D kA A xs.heap ox os ob ot (V, m, P, kt, HH, HB, LL) [(ra, .inl (kA 0, 5, .inl (rdF V i g e)))] H locs) (ls : Array Slot) (_ : lv_has ls 4 [(3, .int (nI e)), (0, .ref (ox 0)), (1, .int (nI i)), (2, .ref ra)]), W xp xl xe (headSpec wsL_read { frames := 7, cells := 0, slots := 0, locals := 156 }).room xs xm ([.ref (ox 0), .int (nI i), .ref ra] : List Value).toArray xbe xme xc H locs (0) (0) (MQ xbe (xQv D A (lawQv kA ox os ob ot (fun S2 X2 => S2 = (V, m, P, kt, HH, HB, LL) ∧ X2 = [(ra, .inl (kA 0, 5, .inl (rdF V i g 5)))]))) ([.ref (ox 0), .int (nI i), .ref ra] : List Value).toArray xs 0 0 A) (F0 xm 2 ls []) := by
    intro fuel
    induction fuel with
    | zero => intro e hmu; exact absurd hmu (Nat.not_lt_zero _)
    | succ fuel ih2 =>
      intro e hmu he H locs hW ls hl
      refine lv_iload_n hx hb dL_read_2 rfl (lv_at hl 0 rfl) ?_
      refine lv_iconst (v := nI 5) hx hb dL_read_3 (by decide) ?_
      refine xIcmpGe C (tgt := 22) (by omega) (by decide) dL_read_4 (by decide) (fun h_4 => ?_) (fun h_4 => ?_)
      · skip
        have e5 : e = 5 := by omega
        rw [e5] at hW
        exact wRetV hx hb hret (⟨rfl, rfl⟩) hW dL_read_22 hlocks
      · skip
        refine lv_aload_n hx hb dL_read_7 rfl (lv_at hl 3 rfl) ?_
        refine lv_iload_n hx hb dL_read_8 rfl (lv_at hl 0 rfl) ?_
        refine lv_aload_n hx hb dL_read_9 rfl (lv_at hl 1 rfl) ?_
        refine lv_iload_n hx hb dL_read_10 rfl (lv_at hl 2 rfl) ?_
        refine lv_iload_n hx hb dL_read_11 rfl (lv_at hl 0 rfl) ?_
        refine qVr C hN hA (S := (V, m, P, kt, HH, HB, LL)) (S2 := (V, m, P, kt, HH, HB, LL)) (v := nI (TV V i e)) (As := [.int (nI i), .int (nI e)]) (rest := [.int (nI e), .ref ra]) (fun u A1 h => k4_rule xl D kA ox os ob ot (V, m, P, kt, HH, HB, LL) u hI h (nI i) (nI e) A1) ((e_rule hV hi (show e ≤ 7 by omega)).trans (by rw [ru_lt (show e < 5 by omega)])) (cwV 2 hts gL_read_X4_rule rfl rfl rfl (by decide +kernel) ⟨Nat.le_of_ble_eq_true rfl, Nat.le_of_ble_eq_true rfl⟩) hW rfl hl.1 rfl (Nat.le_of_ble_eq_true rfl) dL_read_12 ⟨Nat.le_of_ble_eq_true rfl, Nat.le_of_ble_eq_true rfl⟩ (fun H locs hW => ?_)
        refine wIast C hN hW 0 (j := e) rfl (by omega) (by decide) dL_read_15 (fun H locs hW => ?_)
        rw [show upd (rdF V i g e) (e) (nI (TV V i e)) = rdF V i g (e + 1) from rdF_s V i g e] at hW
        have hW : WX D kA A xs.heap ox os ob ot (V, m, P, kt, HH, HB, LL) [(ra, .inl (kA 0, 5, .inl (rdF V i g (e + 1))))] H locs := hW
        refine xIinc C (kx := 0) (d := 1) (lv' := [(3, .int (nI (e + 1))), (0, .ref (ox 0)), (1, .int (nI i)), (2, .ref ra)]) dL_read_16 hl rfl (by decide) (by decide) rfl (fun ls hl => ?_)
        refine lv_goto (tgt := 2) hx hb dL_read_19 (by decide) ?_
        exact ih2 (e + 1) (by omega) (by omega) _ _ hW _ (lv_sub hl [0, 1, 2, 3] rfl)
  exact L2 _ 0 (Nat.lt_succ_self _) (by omega) _ _ hW _ (lv_sub hl [0, 1, 2, 3] rfl)

set_option maxHeartbeats 8000000 in
set_option maxRecDepth 100000 in
theorem c_L_why (xl : Launch) (D : va_G) (kA : Nat → ClassId) (ox os ob ot : Nat → Nat) (V : Nat → Nat) (m : Nat) (P : Nat → Nat) (kt : Nat) (HH : Nat → Nat → Nat) (HB : Nat → Bool) (LL : Nat → Nat → Nat) (hI : InvS (V, m, P, kt, HH, HB, LL)) (c d rk : Nat) (hcl : c < 5) (hdl : d < 6) (hrk : rk < 10) (u : va_W) (hc : ClsR kA ox os ob ot (V, m, P, kt, HH, HB, LL) u) (A : Nat → Prop) : Met xl yL_why wsL_why { frames := 8, cells := 2, slots := 10, locals := 179 } (va_Pc [.ref (ox 0), .int (nI c), .int (nI d), .int (nI rk), .int (-1)] (xPw D kA A (u ++ []))) (xQi D A (lawQ kA ox os ob ot (fun r S2 X2 => r = rsnT (V 0) (TV V) c d rk ∧ S2 = (V, m, P, kt, HH, HB, LL) ∧ X2 = []))) 2 10 A := by
  refine Met.ofW (cc := cL_why) (maxL := 13) (ret := (some .int)) (by decide) rfl ?_
  intro xp xe xs xm args xbe xme xc s₁ B hml hv
  obtain ⟨rfl, hP, hN, hD, hA⟩ := hv
  have hret := B.returns
  have C : CallFix xp xm xc cL_why 13 xs ([.ref (ox 0), .int (nI c), .int (nI d), .int (nI rk), .int (-1)] : List Value).toArray wsL_why RL := ⟨B.exec, B.bytes, hml, findClass_of_methodNamed B.named, atoms_spec (ws := wsL_why) B.pre⟩
  have hlocks := B.notSynchronized
  obtain ⟨hx, hb, _, hown, hts⟩ := id C
  have hW : WX D kA A xs.heap ox os ob ot (V, m, P, kt, HH, HB, LL) [] xs.heap [] := ⟨u, hc, hP, hD, va_S.rf⟩
  have hl := lv_entry ([.ref (ox 0), .int (nI c), .int (nI d), .int (nI rk), .int (-1)]) (n := 13) (Nat.le_of_ble_eq_true rfl)
  rw [lg_entry_eq]
  generalize (lg_sl ([.ref (ox 0), .int (nI c), .int (nI d), .int (nI rk), .int (-1)]) ++ List.replicate (13 - (lg_sl ([.ref (ox 0), .int (nI c), .int (nI d), .int (nI rk), .int (-1)])).length) Slot.unset).toArray = ls at hl ⊢
  have hl : lv_has ls 13 [(0, .ref (ox 0)), (1, .int (nI c)), (2, .int (nI d)), (3, .int (nI rk)), (4, .int (-1))] := hl
  have hV : V 0 ≤ 24 := hI.1.1
  have hWf : WfT (V 0) (TV V) := hI.1.2.1
  have hM : V 1 ≤ 10 := hI.1.2.2.1
  refine lv_iconst (v := nI 5) hx hb dL_why_0 (by decide) ?_
  refine wNewa C hN hW hA (N := 5) (List.mem_of_getElem? (i := 1) rfl) (by decide) (Nat.le_of_ble_eq_true rfl) (Nat.le_of_ble_eq_true rfl) dL_why_1 (fun q_1 H hW => ?_)
  have hW : WX D kA A xs.heap ox os ob ot (V, m, P, kt, HH, HB, LL) [(q_1, .inl (kA 0, 5, .inl (fun _ => 0)))] H [] := hW
  refine lv_astore (lv' := [(5, .ref q_1), (0, .ref (ox 0)), (1, .int (nI c)), (2, .int (nI d)), (3, .int (nI rk)), (4, .int (-1))]) hx hb dL_why_3 hl (by decide) rfl (fun ls hl => ?_)
  refine lv_iconst (v := nI 5) hx hb dL_why_5 (by decide) ?_
  refine wNewa C hN hW hA (N := 5) (List.mem_of_getElem? (i := 1) rfl) (by decide) (Nat.le_of_ble_eq_true rfl) (Nat.le_of_ble_eq_true rfl) dL_why_6 (fun q_6 H hW => ?_)
  have hW : WX D kA A xs.heap ox os ob ot (V, m, P, kt, HH, HB, LL) [(q_1, .inl (kA 0, 5, .inl (fun _ => 0))), (q_6, .inl (kA 0, 5, .inl (fun _ => 0)))] H [] := hW
  refine lv_astore (lv' := [(6, .ref q_6), (5, .ref q_1), (0, .ref (ox 0)), (1, .int (nI c)), (2, .int (nI d)), (3, .int (nI rk)), (4, .int (-1))]) hx hb dL_why_8 hl (by decide) rfl (fun ls hl => ?_)
  refine lv_iconst (v := nI 0) hx hb dL_why_10 (by decide) ?_
  refine xTop (y := bI (pmW V c d 0)) (rfl) ?_
  refine lv_istore (lv' := [(7, .int (bI (pmW V c d 0))), (6, .ref q_6), (5, .ref q_1), (0, .ref (ox 0)), (1, .int (nI c)), (2, .int (nI d)), (3, .int (nI rk)), (4, .int (-1))]) hx hb dL_why_11 hl (by decide) rfl (fun ls hl => ?_)
  refine lv_bipush (v := (-6)) hx hb dL_why_13 (by decide) ?_
  refine xTop (y := (rsG V c d rk 0).1) (rfl) ?_
  refine lv_istore (lv' := [(8, .int ((rsG V c d rk 0).1)), (7, .int (bI (pmW V c d 0))), (6, .ref q_6), (5, .ref q_1), (0, .ref (ox 0)), (1, .int (nI c)), (2, .int (nI d)), (3, .int (nI rk)), (4, .int (-1))]) hx hb dL_why_15 hl (by decide) rfl (fun ls hl => ?_)
  refine lv_bipush (v := nI 9) hx hb dL_why_17 (by decide) ?_
  refine xTop (y := nI ((rsG V c d rk 0).2)) (rfl) ?_
  refine lv_istore (lv' := [(9, .int (nI ((rsG V c d rk 0).2))), (8, .int ((rsG V c d rk 0).1)), (7, .int (bI (pmW V c d 0))), (6, .ref q_6), (5, .ref q_1), (0, .ref (ox 0)), (1, .int (nI c)), (2, .int (nI d)), (3, .int (nI rk)), (4, .int (-1))]) hx hb dL_why_19 hl (by decide) rfl (fun ls hl => ?_)
  refine lv_iconst (v := nI 0) hx hb dL_why_21 (by decide) ?_
  refine lv_istore (lv' := [(10, .int (nI 0)), (9, .int (nI ((rsG V c d rk 0).2))), (8, .int ((rsG V c d rk 0).1)), (7, .int (bI (pmW V c d 0))), (6, .ref q_6), (5, .ref q_1), (0, .ref (ox 0)), (1, .int (nI c)), (2, .int (nI d)), (3, .int (nI rk)), (4, .int (-1))]) hx hb dL_why_22 hl (by decide) rfl (fun ls hl => ?_)
  have L24 : ∀ (fuel : Nat), ∀ (k : Nat) (bg : Nat → Int32) (og : Nat → Int32) (hmu : V 0 - k < fuel) (hk : k ≤ V 0) (H : Heap) (locs : List Loc) (_ : WX D kA A xs.heap ox os ob ot (V, m, P, kt, HH, HB, LL) [(q_1, .inl (kA 0, 5, .inl (bg))), (q_6, .inl (kA 0, 5, .inl (og)))] H locs) (ls : Array Slot) (_ : lv_has ls 13 [(10, .int (nI k)), (9, .int (nI ((rsG V c d rk k).2))), (8, .int ((rsG V c d rk k).1)), (7, .int (bI (pmW V c d k))), (6, .ref q_6), (5, .ref q_1), (0, .ref (ox 0)), (1, .int (nI c)), (2, .int (nI d)), (3, .int (nI rk)), (4, .int (-1))]), W xp xl xe (headSpec wsL_why { frames := 8, cells := 2, slots := 10, locals := 179 }).room xs xm ([.ref (ox 0), .int (nI c), .int (nI d), .int (nI rk), .int (-1)] : List Value).toArray xbe xme xc H locs (2) (10) (MQ xbe (xQi D A (lawQ kA ox os ob ot (fun r S2 X2 => r = rsnT (V 0) (TV V) c d rk ∧ S2 = (V, m, P, kt, HH, HB, LL) ∧ X2 = []))) ([.ref (ox 0), .int (nI c), .int (nI d), .int (nI rk), .int (-1)] : List Value).toArray xs 2 10 A) (F0 xm 24 ls []) := by
    intro fuel
    induction fuel with
    | zero => intro k bg og hmu; exact absurd hmu (Nat.not_lt_zero _)
    | succ fuel ih24 =>
      intro k bg og hmu hk H locs hW ls hl
      have hr9 := rg_le (c := c) (d := d) (rk := rk) hWf k hk
      refine lv_iload hx hb dL_why_24 (lv_at hl 0 rfl) ?_
      refine lv_aload_n hx hb dL_why_26 rfl (lv_at hl 6 rfl) ?_
      refine lv_iconst (v := nI 0) hx hb dL_why_27 (by decide) ?_
      refine qVr C hN hA (S := (V, m, P, kt, HH, HB, LL)) (S2 := (V, m, P, kt, HH, HB, LL)) (v := nI (V 0)) (As := [.int (nI 0)]) (rest := [.int (nI k)]) (fun u A1 h => k4_count xl D kA ox os ob ot (V, m, P, kt, HH, HB, LL) u hI h (nI 0) A1) (e_count0) (cwV 1 hts gL_why_X4_count rfl rfl rfl (by decide +kernel) ⟨Nat.le_of_ble_eq_true rfl, Nat.le_of_ble_eq_true rfl⟩) hW rfl hl.1 rfl (Nat.le_of_ble_eq_true rfl) dL_why_28 ⟨Nat.le_of_ble_eq_true rfl, Nat.le_of_ble_eq_true rfl⟩ (fun H locs hW => ?_)
      refine xIcmpGe C (tgt := 245) (by omega) (by omega) dL_why_31 (by decide) (fun h_31 => ?_) (fun h_31 => ?_)
      · skip
        have ek : k = V 0 := by omega
        rw [ek] at hl
        refine lv_iload hx hb dL_why_245 (lv_at hl 3 rfl) ?_
        refine xIfEqB C (tgt := 255) dL_why_247 (by decide) (fun h_247 => ?_) (fun h_247 => ?_)
        · skip
          refine lv_bipush (v := nI 100) hx hb dL_why_255 (by decide) ?_
          refine xTop (y := rsnT (V 0) (TV V) c d rk) (why_f h_247) ?_
          have hW := WX.drop (X := []) hW
          exact wRetI hx hb hret (v := rsnT (V 0) (TV V) c d rk) (⟨rfl, rfl, rfl⟩) hW dL_why_257 hlocks
        · skip
          refine lv_iload hx hb dL_why_250 (lv_at hl 2 rfl) ?_
          refine xTop (y := rsnT (V 0) (TV V) c d rk) (why_t hWf h_247) ?_
          refine lv_goto (tgt := 257) hx hb dL_why_252 (by decide) ?_
          have hW := WX.drop (X := []) hW
          exact wRetI hx hb hret (v := rsnT (V 0) (TV V) c d rk) (⟨rfl, rfl, rfl⟩) hW dL_why_257 hlocks
      · skip
        refine lv_aload_n hx hb dL_why_34 rfl (lv_at hl 6 rfl) ?_
        refine lv_iload hx hb dL_why_35 (lv_at hl 0 rfl) ?_
        refine lv_aload hx hb dL_why_37 (lv_at hl 5 rfl) ?_
        refine qSv C hN hA (As := [.ref (ox 0), .int (nI k), .ref q_1]) (rest := []) (Xc := [(q_1, .inl (kA 0, 5, .inl (bg)))]) (Xr := [(q_6, .inl (kA 0, 5, .inl (og)))]) (fun u A1 h => c_L_read xl D kA ox os ob ot V m P kt HH HB LL hI k (by omega) q_1 bg u h A1) (va_cwS 3 hts gL_why_L_read rfl rfl rfl (by decide +kernel) ⟨Nat.le_of_ble_eq_true rfl, Nat.le_of_ble_eq_true rfl⟩) hW (List.Perm.refl _) rfl hl.1 rfl (Nat.le_of_ble_eq_true rfl) dL_why_39 ⟨Nat.le_of_ble_eq_true rfl, Nat.le_of_ble_eq_true rfl⟩ (fun S2 X2 H locs hR hW => ?_)
        obtain ⟨rfl, rfl⟩ := hR
        have hW : WX D kA A xs.heap ox os ob ot (V, m, P, kt, HH, HB, LL) [(q_1, .inl (kA 0, 5, .inl (rdF V k bg 5))), (q_6, .inl (kA 0, 5, .inl (og)))] H locs := hW
        have J42 : ∀ (H : Heap) (locs : List Loc) (_ : WX D kA A xs.heap ox os ob ot (V, m, P, kt, HH, HB, LL) [(q_1, .inl (kA 0, 5, .inl (rdF V k bg 5))), (q_6, .inl (kA 0, 5, .inl (og)))] H locs) (ls : Array Slot) (_ : lv_has ls 13 [(10, .int (nI k)), (9, .int (nI ((rsG V c d rk k).2))), (8, .int ((rsG V c d rk k).1)), (6, .ref q_6), (5, .ref q_1), (0, .ref (ox 0)), (1, .int (nI c)), (2, .int (nI d)), (3, .int (nI rk)), (4, .int (-1))]), W xp xl xe (headSpec wsL_why { frames := 8, cells := 2, slots := 10, locals := 179 }).room xs xm ([.ref (ox 0), .int (nI c), .int (nI d), .int (nI rk), .int (-1)] : List Value).toArray xbe xme xc H locs (2) (10) (MQ xbe (xQi D A (lawQ kA ox os ob ot (fun r S2 X2 => r = rsnT (V 0) (TV V) c d rk ∧ S2 = (V, m, P, kt, HH, HB, LL) ∧ X2 = []))) ([.ref (ox 0), .int (nI c), .int (nI d), .int (nI rk), .int (-1)] : List Value).toArray xs 2 10 A) (F0 xm 76 ls [.int (bI (pmW V c d (k + 1)))]) := by
          intro   H locs hW ls hl
          have hwk := hWf k (by omega)
          refine lv_istore (lv' := [(7, .int (bI (pmW V c d (k + 1)))), (10, .int (nI k)), (9, .int (nI ((rsG V c d rk k).2))), (8, .int ((rsG V c d rk k).1)), (6, .ref q_6), (5, .ref q_1), (0, .ref (ox 0)), (1, .int (nI c)), (2, .int (nI d)), (3, .int (nI rk)), (4, .int (-1))]) hx hb dL_why_76 hl (by decide) rfl (fun ls hl => ?_)
          refine lv_iload hx hb dL_why_78 (lv_at hl 1 rfl) ?_
          refine lv_iload hx hb dL_why_80 (lv_at hl 10 rfl) ?_
          refine lv_icmp_eq (tgt := 239) hx hb dL_why_82 (by decide) (fun h_82 => ?_) (fun h_82 => ?_)
          · exact absurd h_82 (nI_n1 (by omega))
          · skip
            refine lv_aload hx hb dL_why_85 (lv_at hl 5 rfl) ?_
            refine lv_iconst (v := nI 1) hx hb dL_why_87 (by decide) ?_
            refine wIald C hN hW 0 (j := 1) (v := nI (TV V k 1)) rfl (by decide) (by decide) (rd_at (by decide)) dL_why_88 ?_
            refine lv_iconst (v := nI 1) hx hb dL_why_89 (by decide) ?_
            refine xIcmpNe C (tgt := 239) (by omega) (by decide) dL_why_90 (by decide) (fun h_90 => ?_) (fun h_90 => ?_)
            · skip
              rw [← rg_n (V := V) (c := c) (d := d) (rk := rk) (k := k) (Or.inl (hit_no (Or.inl h_90)))] at hl
              refine xIinc C (kx := 1) (d := 1) (lv' := [(10, .int (nI (k + 1))), (7, .int (bI (pmW V c d (k + 1)))), (9, .int (nI ((rsG V c d rk (k + 1)).2))), (8, .int ((rsG V c d rk (k + 1)).1)), (6, .ref q_6), (5, .ref q_1), (0, .ref (ox 0)), (1, .int (nI c)), (2, .int (nI d)), (3, .int (nI rk)), (4, .int (-1))]) dL_why_239 hl rfl (by decide) (by decide) rfl (fun ls hl => ?_)
              refine lv_goto (tgt := 24) hx hb dL_why_242 (by decide) ?_
              exact ih24 (k + 1) (rdF V k bg 5) og (by omega) (by omega) _ _ hW _ (lv_sub hl [0, 2, 3, 1, 4, 5, 6, 7, 8, 9, 10] rfl)
            · skip
              refine lv_aload hx hb dL_why_93 (lv_at hl 5 rfl) ?_
              refine lv_iload_n hx hb dL_why_95 rfl (lv_at hl 7 rfl) ?_
              refine lv_iload_n hx hb dL_why_96 rfl (lv_at hl 8 rfl) ?_
              refine wSro C hN (As := [.ref q_1, .int (nI c), .int (nI d)]) (rest := []) (v := bI (fitT (TV V) k c d)) 0 (c_L_fits xl D kA q_1 _ _ _ c d (rd_at (by decide)) (rd_at (by decide)) (hWf k (by omega)).2.2.1 (hWf k (by omega)).2.2.2.1 hcl hdl) (va_cwS 3 hts gL_why_L_fits rfl rfl rfl (by decide +kernel) ⟨Nat.le_of_ble_eq_true rfl, Nat.le_of_ble_eq_true rfl⟩) hW rfl rfl hl.1 rfl (Nat.le_of_ble_eq_true rfl) dL_why_97 ⟨Nat.le_of_ble_eq_true rfl, Nat.le_of_ble_eq_true rfl⟩ ?_
              refine xIfEqB C (tgt := 239) dL_why_100 (by decide) (fun h_100 => ?_) (fun h_100 => ?_)
              · skip
                rw [← rg_n (V := V) (c := c) (d := d) (rk := rk) (k := k) (Or.inl (hit_no (Or.inr (Or.inl h_100))))] at hl
                refine xIinc C (kx := 1) (d := 1) (lv' := [(10, .int (nI (k + 1))), (7, .int (bI (pmW V c d (k + 1)))), (9, .int (nI ((rsG V c d rk (k + 1)).2))), (8, .int ((rsG V c d rk (k + 1)).1)), (6, .ref q_6), (5, .ref q_1), (0, .ref (ox 0)), (1, .int (nI c)), (2, .int (nI d)), (3, .int (nI rk)), (4, .int (-1))]) dL_why_239 hl rfl (by decide) (by decide) rfl (fun ls hl => ?_)
                refine lv_goto (tgt := 24) hx hb dL_why_242 (by decide) ?_
                exact ih24 (k + 1) (rdF V k bg 5) og (by omega) (by omega) _ _ hW _ (lv_sub hl [0, 2, 3, 1, 4, 5, 6, 7, 8, 9, 10] rfl)
              · skip
                refine lv_iload_n hx hb dL_why_103 rfl (lv_at hl 9 rfl) ?_
                refine lv_aload hx hb dL_why_104 (lv_at hl 5 rfl) ?_
                refine lv_iconst (v := nI 4) hx hb dL_why_106 (by decide) ?_
                refine wIald C hN hW 0 (j := 4) (v := nI (TV V k 4)) rfl (by decide) (by decide) (rd_at (by decide)) dL_why_107 ?_
                refine xIcmpGe C (tgt := 239) (by omega) (by omega) dL_why_108 (by decide) (fun h_108 => ?_) (fun h_108 => ?_)
                · skip
                  rw [← rg_n (V := V) (c := c) (d := d) (rk := rk) (k := k) (Or.inl (hit_no (Or.inr (Or.inr h_108))))] at hl
                  refine xIinc C (kx := 1) (d := 1) (lv' := [(10, .int (nI (k + 1))), (7, .int (bI (pmW V c d (k + 1)))), (9, .int (nI ((rsG V c d rk (k + 1)).2))), (8, .int ((rsG V c d rk (k + 1)).1)), (6, .ref q_6), (5, .ref q_1), (0, .ref (ox 0)), (1, .int (nI c)), (2, .int (nI d)), (3, .int (nI rk)), (4, .int (-1))]) dL_why_239 hl rfl (by decide) (by decide) rfl (fun ls hl => ?_)
                  refine lv_goto (tgt := 24) hx hb dL_why_242 (by decide) ?_
                  exact ih24 (k + 1) (rdF V k bg 5) og (by omega) (by omega) _ _ hW _ (lv_sub hl [0, 2, 3, 1, 4, 5, 6, 7, 8, 9, 10] rfl)
                · skip
                  refine lv_aload hx hb dL_why_111 (lv_at hl 5 rfl) ?_
                  refine lv_iconst (v := nI 0) hx hb dL_why_113 (by decide) ?_
                  refine wIald C hN hW 0 (j := 0) (v := nI (TV V k 0)) rfl (by decide) (by decide) (rd_at (by decide)) dL_why_114 ?_
                  refine lv_iload hx hb dL_why_115 (lv_at hl 2 rfl) ?_
                  refine xIcmpGe C (tgt := 239) (by omega) (by omega) dL_why_117 (by decide) (fun h_117 => ?_) (fun h_117 => ?_)
                  · skip
                    rw [← rg_n (V := V) (c := c) (d := d) (rk := rk) (k := k) (Or.inr h_117)] at hl
                    refine xIinc C (kx := 1) (d := 1) (lv' := [(10, .int (nI (k + 1))), (7, .int (bI (pmW V c d (k + 1)))), (9, .int (nI ((rsG V c d rk (k + 1)).2))), (8, .int ((rsG V c d rk (k + 1)).1)), (6, .ref q_6), (5, .ref q_1), (0, .ref (ox 0)), (1, .int (nI c)), (2, .int (nI d)), (3, .int (nI rk)), (4, .int (-1))]) dL_why_239 hl rfl (by decide) (by decide) rfl (fun ls hl => ?_)
                    refine lv_goto (tgt := 24) hx hb dL_why_242 (by decide) ?_
                    exact ih24 (k + 1) (rdF V k bg 5) og (by omega) (by omega) _ _ hW _ (lv_sub hl [0, 2, 3, 1, 4, 5, 6, 7, 8, 9, 10] rfl)
                  · skip
                    refine lv_iconst (v := nI 1) hx hb dL_why_120 (by decide) ?_
                    refine xTop (y := bI (hdW V c d k 0)) (rfl) ?_
                    refine lv_istore (lv' := [(11, .int (bI (hdW V c d k 0))), (7, .int (bI (pmW V c d (k + 1)))), (10, .int (nI k)), (9, .int (nI ((rsG V c d rk k).2))), (8, .int ((rsG V c d rk k).1)), (6, .ref q_6), (5, .ref q_1), (0, .ref (ox 0)), (1, .int (nI c)), (2, .int (nI d)), (3, .int (nI rk)), (4, .int (-1))]) hx hb dL_why_121 hl (by decide) rfl (fun ls hl => ?_)
                    refine lv_iconst (v := nI 0) hx hb dL_why_123 (by decide) ?_
                    refine lv_istore (lv' := [(12, .int (nI 0)), (11, .int (bI (hdW V c d k 0))), (7, .int (bI (pmW V c d (k + 1)))), (10, .int (nI k)), (9, .int (nI ((rsG V c d rk k).2))), (8, .int ((rsG V c d rk k).1)), (6, .ref q_6), (5, .ref q_1), (0, .ref (ox 0)), (1, .int (nI c)), (2, .int (nI d)), (3, .int (nI rk)), (4, .int (-1))]) hx hb dL_why_124 hl (by decide) rfl (fun ls hl => ?_)
                    have L126 : ∀ (fuel : Nat), ∀ (j : Nat) (og : Nat → Int32) (hmu : V 0 - j < fuel) (hj : j ≤ V 0) (H : Heap) (locs : List Loc) (_ : WX D kA A xs.heap ox os ob ot (V, m, P, kt, HH, HB, LL) [(q_1, .inl (kA 0, 5, .inl (rdF V k bg 5))), (q_6, .inl (kA 0, 5, .inl (og)))] H locs) (ls : Array Slot) (_ : lv_has ls 13 [(12, .int (nI j)), (11, .int (bI (hdW V c d k j))), (7, .int (bI (pmW V c d (k + 1)))), (10, .int (nI k)), (9, .int (nI ((rsG V c d rk k).2))), (8, .int ((rsG V c d rk k).1)), (6, .ref q_6), (5, .ref q_1), (0, .ref (ox 0)), (1, .int (nI c)), (2, .int (nI d)), (3, .int (nI rk)), (4, .int (-1))]), W xp xl xe (headSpec wsL_why { frames := 8, cells := 2, slots := 10, locals := 179 }).room xs xm ([.ref (ox 0), .int (nI c), .int (nI d), .int (nI rk), .int (-1)] : List Value).toArray xbe xme xc H locs (2) (10) (MQ xbe (xQi D A (lawQ kA ox os ob ot (fun r S2 X2 => r = rsnT (V 0) (TV V) c d rk ∧ S2 = (V, m, P, kt, HH, HB, LL) ∧ X2 = []))) ([.ref (ox 0), .int (nI c), .int (nI d), .int (nI rk), .int (-1)] : List Value).toArray xs 2 10 A) (F0 xm 126 ls []) := by
                      intro fuel
                      induction fuel with
                      | zero => intro j og hmu; exact absurd hmu (Nat.not_lt_zero _)
                      | succ fuel ih126 =>
                        intro j og hmu hj H locs hW ls hl
                        have hwk := hWf k (by omega)
                        refine lv_iload hx hb dL_why_126 (lv_at hl 0 rfl) ?_
                        refine lv_aload_n hx hb dL_why_128 rfl (lv_at hl 8 rfl) ?_
                        refine lv_iconst (v := nI 0) hx hb dL_why_129 (by decide) ?_
                        refine qVr C hN hA (S := (V, m, P, kt, HH, HB, LL)) (S2 := (V, m, P, kt, HH, HB, LL)) (v := nI (V 0)) (As := [.int (nI 0)]) (rest := [.int (nI j)]) (fun u A1 h => k4_count xl D kA ox os ob ot (V, m, P, kt, HH, HB, LL) u hI h (nI 0) A1) (e_count0) (cwV 1 hts gL_why_X4_count rfl rfl rfl (by decide +kernel) ⟨Nat.le_of_ble_eq_true rfl, Nat.le_of_ble_eq_true rfl⟩) hW rfl hl.1 rfl (Nat.le_of_ble_eq_true rfl) dL_why_130 ⟨Nat.le_of_ble_eq_true rfl, Nat.le_of_ble_eq_true rfl⟩ (fun H locs hW => ?_)
                        refine xIcmpGe C (tgt := 209) (by omega) (by omega) dL_why_133 (by decide) (fun h_133 => ?_) (fun h_133 => ?_)
                        · skip
                          have ej : j = V 0 := by omega
                          rw [ej] at hl
                          refine lv_iload hx hb dL_why_209 (lv_at hl 1 rfl) ?_
                          refine xIfEqB C (tgt := 219) dL_why_211 (by decide) (fun h_211 => ?_) (fun h_211 => ?_)
                          · skip
                            have hit : hitT (V 0) (TV V) c d rk k = false := (hit_at h_90 h_100 h_108).trans h_211
                            rw [h_211] at hl
                            refine lv_iload hx hb dL_why_219 (lv_at hl 5 rfl) ?_
                            refine xTop (y := (rsG V c d rk (k + 1)).1) ((congrArg Prod.fst (rg_n (Or.inl hit))).symm) ?_
                            refine lv_istore (lv' := [(8, .int ((rsG V c d rk (k + 1)).1)), (12, .int (nI (V 0))), (11, .int (bI false)), (7, .int (bI (pmW V c d (k + 1)))), (10, .int (nI k)), (9, .int (nI ((rsG V c d rk k).2))), (6, .ref q_6), (5, .ref q_1), (0, .ref (ox 0)), (1, .int (nI c)), (2, .int (nI d)), (3, .int (nI rk)), (4, .int (-1))]) hx hb dL_why_221 hl (by decide) rfl (fun ls hl => ?_)
                            refine lv_iload hx hb dL_why_223 (lv_at hl 2 rfl) ?_
                            refine xIfEqB C (tgt := 235) dL_why_225 (by decide) (fun h_225 => ?_) (fun h_225 => ?_)
                            · skip
                              refine lv_iload hx hb dL_why_235 (lv_at hl 5 rfl) ?_
                              refine xTop (y := nI ((rsG V c d rk (k + 1)).2)) ((congrArg (fun z => nI z.2) (rg_n (Or.inl hit))).symm) ?_
                              refine lv_istore (lv' := [(9, .int (nI ((rsG V c d rk (k + 1)).2))), (8, .int ((rsG V c d rk (k + 1)).1)), (12, .int (nI (V 0))), (11, .int (bI false)), (7, .int (bI (pmW V c d (k + 1)))), (10, .int (nI k)), (6, .ref q_6), (5, .ref q_1), (0, .ref (ox 0)), (1, .int (nI c)), (2, .int (nI d)), (3, .int (nI rk)), (4, .int (-1))]) hx hb dL_why_237 hl (by decide) rfl (fun ls hl => ?_)
                              refine xIinc C (kx := 5) (d := 1) (lv' := [(10, .int (nI (k + 1))), (9, .int (nI ((rsG V c d rk (k + 1)).2))), (8, .int ((rsG V c d rk (k + 1)).1)), (12, .int (nI (V 0))), (11, .int (bI false)), (7, .int (bI (pmW V c d (k + 1)))), (6, .ref q_6), (5, .ref q_1), (0, .ref (ox 0)), (1, .int (nI c)), (2, .int (nI d)), (3, .int (nI rk)), (4, .int (-1))]) dL_why_239 hl rfl (by decide) (by decide) rfl (fun ls hl => ?_)
                              refine lv_goto (tgt := 24) hx hb dL_why_242 (by decide) ?_
                              exact ih24 (k + 1) (rdF V k bg 5) og (by omega) (by omega) _ _ hW _ (lv_sub hl [0, 1, 2, 5, 6, 7, 8, 9, 10, 11, 12] rfl)
                            · exact absurd h_225 (by decide)
                          · skip
                            have hit : hitT (V 0) (TV V) c d rk k = true := (hit_at h_90 h_100 h_108).trans h_211
                            rw [h_211] at hl
                            refine lv_iload hx hb dL_why_214 (lv_at hl 3 rfl) ?_
                            refine xTop (y := (rsG V c d rk (k + 1)).1) ((congrArg Prod.fst (rg_t hit h_117)).symm) ?_
                            refine lv_goto (tgt := 221) hx hb dL_why_216 (by decide) ?_
                            refine lv_istore (lv' := [(8, .int ((rsG V c d rk (k + 1)).1)), (12, .int (nI (V 0))), (11, .int (bI true)), (7, .int (bI (pmW V c d (k + 1)))), (10, .int (nI k)), (9, .int (nI ((rsG V c d rk k).2))), (6, .ref q_6), (5, .ref q_1), (0, .ref (ox 0)), (1, .int (nI c)), (2, .int (nI d)), (3, .int (nI rk)), (4, .int (-1))]) hx hb dL_why_221 hl (by decide) rfl (fun ls hl => ?_)
                            refine lv_iload hx hb dL_why_223 (lv_at hl 2 rfl) ?_
                            refine xIfEqB C (tgt := 235) dL_why_225 (by decide) (fun h_225 => ?_) (fun h_225 => ?_)
                            · exact absurd h_225 (by decide)
                            · skip
                              refine lv_aload hx hb dL_why_228 (lv_at hl 7 rfl) ?_
                              refine lv_iconst (v := nI 0) hx hb dL_why_230 (by decide) ?_
                              refine wIald C hN hW 0 (j := 0) (v := nI (TV V k 0)) rfl (by decide) (by decide) (rd_at (by decide)) dL_why_231 ?_
                              refine xTop (y := nI ((rsG V c d rk (k + 1)).2)) ((congrArg (fun z => nI z.2) (rg_t hit h_117)).symm) ?_
                              refine lv_goto (tgt := 237) hx hb dL_why_232 (by decide) ?_
                              refine lv_istore (lv' := [(9, .int (nI ((rsG V c d rk (k + 1)).2))), (8, .int ((rsG V c d rk (k + 1)).1)), (12, .int (nI (V 0))), (11, .int (bI true)), (7, .int (bI (pmW V c d (k + 1)))), (10, .int (nI k)), (6, .ref q_6), (5, .ref q_1), (0, .ref (ox 0)), (1, .int (nI c)), (2, .int (nI d)), (3, .int (nI rk)), (4, .int (-1))]) hx hb dL_why_237 hl (by decide) rfl (fun ls hl => ?_)
                              refine xIinc C (kx := 5) (d := 1) (lv' := [(10, .int (nI (k + 1))), (9, .int (nI ((rsG V c d rk (k + 1)).2))), (8, .int ((rsG V c d rk (k + 1)).1)), (12, .int (nI (V 0))), (11, .int (bI true)), (7, .int (bI (pmW V c d (k + 1)))), (6, .ref q_6), (5, .ref q_1), (0, .ref (ox 0)), (1, .int (nI c)), (2, .int (nI d)), (3, .int (nI rk)), (4, .int (-1))]) dL_why_239 hl rfl (by decide) (by decide) rfl (fun ls hl => ?_)
                              refine lv_goto (tgt := 24) hx hb dL_why_242 (by decide) ?_
                              exact ih24 (k + 1) (rdF V k bg 5) og (by omega) (by omega) _ _ hW _ (lv_sub hl [0, 1, 2, 5, 6, 7, 8, 9, 10, 11, 12] rfl)
                        · skip
                          have hwj := hWf j (by omega)
                          refine lv_aload_n hx hb dL_why_136 rfl (lv_at hl 8 rfl) ?_
                          refine lv_iload hx hb dL_why_137 (lv_at hl 0 rfl) ?_
                          refine lv_aload hx hb dL_why_139 (lv_at hl 6 rfl) ?_
                          refine qSv C hN hA (As := [.ref (ox 0), .int (nI j), .ref q_6]) (rest := []) (Xc := [(q_6, .inl (kA 0, 5, .inl (og)))]) (Xr := [(q_1, .inl (kA 0, 5, .inl (rdF V k bg 5)))]) (fun u A1 h => c_L_read xl D kA ox os ob ot V m P kt HH HB LL hI j (by omega) q_6 og u h A1) (va_cwS 3 hts gL_why_L_read rfl rfl rfl (by decide +kernel) ⟨Nat.le_of_ble_eq_true rfl, Nat.le_of_ble_eq_true rfl⟩) hW (List.Perm.swap _ _ _) rfl hl.1 rfl (Nat.le_of_ble_eq_true rfl) dL_why_141 ⟨Nat.le_of_ble_eq_true rfl, Nat.le_of_ble_eq_true rfl⟩ (fun S2 X2 H locs hR hW => ?_)
                          obtain ⟨rfl, rfl⟩ := hR
                          have hW : WX D kA A xs.heap ox os ob ot (V, m, P, kt, HH, HB, LL) [(q_1, .inl (kA 0, 5, .inl (rdF V k bg 5))), (q_6, .inl (kA 0, 5, .inl (rdF V j og 5)))] H locs := hW.perm (List.Perm.swap _ _ _)
                          refine lv_iload hx hb dL_why_144 (lv_at hl 1 rfl) ?_
                          refine xIfEqB C (tgt := 200) dL_why_146 (by decide) (fun h_146 => ?_) (fun h_146 => ?_)
                          · skip
                            refine lv_iconst (v := nI 0) hx hb dL_why_200 (by decide) ?_
                            refine xTop (y := bI (hdW V c d k (j + 1))) (hd_0 (by first | exact Or.inl h_146 | exact Or.inr ⟨h_161, h_171, h_182, h_193⟩)) ?_
                            refine lv_istore (lv' := [(11, .int (bI (hdW V c d k (j + 1)))), (12, .int (nI j)), (7, .int (bI (pmW V c d (k + 1)))), (10, .int (nI k)), (9, .int (nI ((rsG V c d rk k).2))), (8, .int ((rsG V c d rk k).1)), (6, .ref q_6), (5, .ref q_1), (0, .ref (ox 0)), (1, .int (nI c)), (2, .int (nI d)), (3, .int (nI rk)), (4, .int (-1))]) hx hb dL_why_201 hl (by decide) rfl (fun ls hl => ?_)
                            refine xIinc C (kx := 1) (d := 1) (lv' := [(12, .int (nI (j + 1))), (11, .int (bI (hdW V c d k (j + 1)))), (7, .int (bI (pmW V c d (k + 1)))), (10, .int (nI k)), (9, .int (nI ((rsG V c d rk k).2))), (8, .int ((rsG V c d rk k).1)), (6, .ref q_6), (5, .ref q_1), (0, .ref (ox 0)), (1, .int (nI c)), (2, .int (nI d)), (3, .int (nI rk)), (4, .int (-1))]) dL_why_203 hl rfl (by decide) (by decide) rfl (fun ls hl => ?_)
                            refine lv_goto (tgt := 126) hx hb dL_why_206 (by decide) ?_
                            exact ih126 (j + 1) (rdF V j og 5) (by omega) (by omega) _ _ hW _ (lv_sub hl [0, 1, 2, 3, 4, 5, 6, 7, 8, 9, 10, 11, 12] rfl)
                          · skip
                            refine lv_iload hx hb dL_why_149 (lv_at hl 0 rfl) ?_
                            refine lv_iload hx hb dL_why_151 (lv_at hl 12 rfl) ?_
                            refine lv_icmp_eq (tgt := 196) hx hb dL_why_153 (by decide) (fun h_153 => ?_) (fun h_153 => ?_)
                            · exact absurd h_153 (nI_n1 (by omega))
                            · skip
                              refine lv_aload hx hb dL_why_156 (lv_at hl 6 rfl) ?_
                              refine lv_iconst (v := nI 1) hx hb dL_why_158 (by decide) ?_
                              refine wIald C hN hW 1 (j := 1) (v := nI (TV V j 1)) rfl (by decide) (by decide) (rd_at (by decide)) dL_why_159 ?_
                              refine lv_iconst (v := nI 2) hx hb dL_why_160 (by decide) ?_
                              refine xIcmpNe C (tgt := 196) (by omega) (by decide) dL_why_161 (by decide) (fun h_161 => ?_) (fun h_161 => ?_)
                              · skip
                                refine lv_iconst (v := nI 1) hx hb dL_why_196 (by decide) ?_
                                refine xTop (y := bI (hdW V c d k (j + 1))) (hd_1 h_146 (by first | exact Or.inl h_161 | exact Or.inr (Or.inl h_171) | exact Or.inr (Or.inr (Or.inl h_182)) | exact Or.inr (Or.inr (Or.inr h_193)))) ?_
                                refine lv_goto (tgt := 201) hx hb dL_why_197 (by decide) ?_
                                refine lv_istore (lv' := [(11, .int (bI (hdW V c d k (j + 1)))), (12, .int (nI j)), (7, .int (bI (pmW V c d (k + 1)))), (10, .int (nI k)), (9, .int (nI ((rsG V c d rk k).2))), (8, .int ((rsG V c d rk k).1)), (6, .ref q_6), (5, .ref q_1), (0, .ref (ox 0)), (1, .int (nI c)), (2, .int (nI d)), (3, .int (nI rk)), (4, .int (-1))]) hx hb dL_why_201 hl (by decide) rfl (fun ls hl => ?_)
                                refine xIinc C (kx := 1) (d := 1) (lv' := [(12, .int (nI (j + 1))), (11, .int (bI (hdW V c d k (j + 1)))), (7, .int (bI (pmW V c d (k + 1)))), (10, .int (nI k)), (9, .int (nI ((rsG V c d rk k).2))), (8, .int ((rsG V c d rk k).1)), (6, .ref q_6), (5, .ref q_1), (0, .ref (ox 0)), (1, .int (nI c)), (2, .int (nI d)), (3, .int (nI rk)), (4, .int (-1))]) dL_why_203 hl rfl (by decide) (by decide) rfl (fun ls hl => ?_)
                                refine lv_goto (tgt := 126) hx hb dL_why_206 (by decide) ?_
                                exact ih126 (j + 1) (rdF V j og 5) (by omega) (by omega) _ _ hW _ (lv_sub hl [0, 1, 2, 3, 4, 5, 6, 7, 8, 9, 10, 11, 12] rfl)
                              · skip
                                refine lv_aload hx hb dL_why_164 (lv_at hl 6 rfl) ?_
                                refine lv_iload_n hx hb dL_why_166 rfl (lv_at hl 9 rfl) ?_
                                refine lv_iload_n hx hb dL_why_167 rfl (lv_at hl 10 rfl) ?_
                                refine wSro C hN (As := [.ref q_6, .int (nI c), .int (nI d)]) (rest := []) (v := bI (fitT (TV V) j c d)) 1 (c_L_fits xl D kA q_6 _ _ _ c d (rd_at (by decide)) (rd_at (by decide)) (hWf j (by omega)).2.2.1 (hWf j (by omega)).2.2.2.1 hcl hdl) (va_cwS 3 hts gL_why_L_fits rfl rfl rfl (by decide +kernel) ⟨Nat.le_of_ble_eq_true rfl, Nat.le_of_ble_eq_true rfl⟩) hW rfl rfl hl.1 rfl (Nat.le_of_ble_eq_true rfl) dL_why_168 ⟨Nat.le_of_ble_eq_true rfl, Nat.le_of_ble_eq_true rfl⟩ ?_
                                refine xIfEqB C (tgt := 196) dL_why_171 (by decide) (fun h_171 => ?_) (fun h_171 => ?_)
                                · skip
                                  refine lv_iconst (v := nI 1) hx hb dL_why_196 (by decide) ?_
                                  refine xTop (y := bI (hdW V c d k (j + 1))) (hd_1 h_146 (by first | exact Or.inl h_161 | exact Or.inr (Or.inl h_171) | exact Or.inr (Or.inr (Or.inl h_182)) | exact Or.inr (Or.inr (Or.inr h_193)))) ?_
                                  refine lv_goto (tgt := 201) hx hb dL_why_197 (by decide) ?_
                                  refine lv_istore (lv' := [(11, .int (bI (hdW V c d k (j + 1)))), (12, .int (nI j)), (7, .int (bI (pmW V c d (k + 1)))), (10, .int (nI k)), (9, .int (nI ((rsG V c d rk k).2))), (8, .int ((rsG V c d rk k).1)), (6, .ref q_6), (5, .ref q_1), (0, .ref (ox 0)), (1, .int (nI c)), (2, .int (nI d)), (3, .int (nI rk)), (4, .int (-1))]) hx hb dL_why_201 hl (by decide) rfl (fun ls hl => ?_)
                                  refine xIinc C (kx := 1) (d := 1) (lv' := [(12, .int (nI (j + 1))), (11, .int (bI (hdW V c d k (j + 1)))), (7, .int (bI (pmW V c d (k + 1)))), (10, .int (nI k)), (9, .int (nI ((rsG V c d rk k).2))), (8, .int ((rsG V c d rk k).1)), (6, .ref q_6), (5, .ref q_1), (0, .ref (ox 0)), (1, .int (nI c)), (2, .int (nI d)), (3, .int (nI rk)), (4, .int (-1))]) dL_why_203 hl rfl (by decide) (by decide) rfl (fun ls hl => ?_)
                                  refine lv_goto (tgt := 126) hx hb dL_why_206 (by decide) ?_
                                  exact ih126 (j + 1) (rdF V j og 5) (by omega) (by omega) _ _ hW _ (lv_sub hl [0, 1, 2, 3, 4, 5, 6, 7, 8, 9, 10, 11, 12] rfl)
                                · skip
                                  refine lv_aload hx hb dL_why_174 (lv_at hl 6 rfl) ?_
                                  refine lv_iconst (v := nI 0) hx hb dL_why_176 (by decide) ?_
                                  refine wIald C hN hW 1 (j := 0) (v := nI (TV V j 0)) rfl (by decide) (by decide) (rd_at (by decide)) dL_why_177 ?_
                                  refine lv_aload hx hb dL_why_178 (lv_at hl 7 rfl) ?_
                                  refine lv_iconst (v := nI 0) hx hb dL_why_180 (by decide) ?_
                                  refine wIald C hN hW 0 (j := 0) (v := nI (TV V k 0)) rfl (by decide) (by decide) (rd_at (by decide)) dL_why_181 ?_
                                  refine xIcmpGt C (tgt := 196) (by omega) (by omega) dL_why_182 (by decide) (fun h_182 => ?_) (fun h_182 => ?_)
                                  · skip
                                    refine lv_iconst (v := nI 1) hx hb dL_why_196 (by decide) ?_
                                    refine xTop (y := bI (hdW V c d k (j + 1))) (hd_1 h_146 (by first | exact Or.inl h_161 | exact Or.inr (Or.inl h_171) | exact Or.inr (Or.inr (Or.inl h_182)) | exact Or.inr (Or.inr (Or.inr h_193)))) ?_
                                    refine lv_goto (tgt := 201) hx hb dL_why_197 (by decide) ?_
                                    refine lv_istore (lv' := [(11, .int (bI (hdW V c d k (j + 1)))), (12, .int (nI j)), (7, .int (bI (pmW V c d (k + 1)))), (10, .int (nI k)), (9, .int (nI ((rsG V c d rk k).2))), (8, .int ((rsG V c d rk k).1)), (6, .ref q_6), (5, .ref q_1), (0, .ref (ox 0)), (1, .int (nI c)), (2, .int (nI d)), (3, .int (nI rk)), (4, .int (-1))]) hx hb dL_why_201 hl (by decide) rfl (fun ls hl => ?_)
                                    refine xIinc C (kx := 1) (d := 1) (lv' := [(12, .int (nI (j + 1))), (11, .int (bI (hdW V c d k (j + 1)))), (7, .int (bI (pmW V c d (k + 1)))), (10, .int (nI k)), (9, .int (nI ((rsG V c d rk k).2))), (8, .int ((rsG V c d rk k).1)), (6, .ref q_6), (5, .ref q_1), (0, .ref (ox 0)), (1, .int (nI c)), (2, .int (nI d)), (3, .int (nI rk)), (4, .int (-1))]) dL_why_203 hl rfl (by decide) (by decide) rfl (fun ls hl => ?_)
                                    refine lv_goto (tgt := 126) hx hb dL_why_206 (by decide) ?_
                                    exact ih126 (j + 1) (rdF V j og 5) (by omega) (by omega) _ _ hW _ (lv_sub hl [0, 1, 2, 3, 4, 5, 6, 7, 8, 9, 10, 11, 12] rfl)
                                  · skip
                                    refine lv_aload hx hb dL_why_185 (lv_at hl 6 rfl) ?_
                                    refine lv_iconst (v := nI 4) hx hb dL_why_187 (by decide) ?_
                                    refine wIald C hN hW 1 (j := 4) (v := nI (TV V j 4)) rfl (by decide) (by decide) (rd_at (by decide)) dL_why_188 ?_
                                    refine lv_aload hx hb dL_why_189 (lv_at hl 7 rfl) ?_
                                    refine lv_iconst (v := nI 4) hx hb dL_why_191 (by decide) ?_
                                    refine wIald C hN hW 0 (j := 4) (v := nI (TV V k 4)) rfl (by decide) (by decide) (rd_at (by decide)) dL_why_192 ?_
                                    refine xIcmpGe C (tgt := 200) (by omega) (by omega) dL_why_193 (by decide) (fun h_193 => ?_) (fun h_193 => ?_)
                                    · skip
                                      refine lv_iconst (v := nI 0) hx hb dL_why_200 (by decide) ?_
                                      refine xTop (y := bI (hdW V c d k (j + 1))) (hd_0 (by first | exact Or.inl h_146 | exact Or.inr ⟨h_161, h_171, h_182, h_193⟩)) ?_
                                      refine lv_istore (lv' := [(11, .int (bI (hdW V c d k (j + 1)))), (12, .int (nI j)), (7, .int (bI (pmW V c d (k + 1)))), (10, .int (nI k)), (9, .int (nI ((rsG V c d rk k).2))), (8, .int ((rsG V c d rk k).1)), (6, .ref q_6), (5, .ref q_1), (0, .ref (ox 0)), (1, .int (nI c)), (2, .int (nI d)), (3, .int (nI rk)), (4, .int (-1))]) hx hb dL_why_201 hl (by decide) rfl (fun ls hl => ?_)
                                      refine xIinc C (kx := 1) (d := 1) (lv' := [(12, .int (nI (j + 1))), (11, .int (bI (hdW V c d k (j + 1)))), (7, .int (bI (pmW V c d (k + 1)))), (10, .int (nI k)), (9, .int (nI ((rsG V c d rk k).2))), (8, .int ((rsG V c d rk k).1)), (6, .ref q_6), (5, .ref q_1), (0, .ref (ox 0)), (1, .int (nI c)), (2, .int (nI d)), (3, .int (nI rk)), (4, .int (-1))]) dL_why_203 hl rfl (by decide) (by decide) rfl (fun ls hl => ?_)
                                      refine lv_goto (tgt := 126) hx hb dL_why_206 (by decide) ?_
                                      exact ih126 (j + 1) (rdF V j og 5) (by omega) (by omega) _ _ hW _ (lv_sub hl [0, 1, 2, 3, 4, 5, 6, 7, 8, 9, 10, 11, 12] rfl)
                                    · skip
                                      refine lv_iconst (v := nI 1) hx hb dL_why_196 (by decide) ?_
                                      refine xTop (y := bI (hdW V c d k (j + 1))) (hd_1 h_146 (by first | exact Or.inl h_161 | exact Or.inr (Or.inl h_171) | exact Or.inr (Or.inr (Or.inl h_182)) | exact Or.inr (Or.inr (Or.inr h_193)))) ?_
                                      refine lv_goto (tgt := 201) hx hb dL_why_197 (by decide) ?_
                                      refine lv_istore (lv' := [(11, .int (bI (hdW V c d k (j + 1)))), (12, .int (nI j)), (7, .int (bI (pmW V c d (k + 1)))), (10, .int (nI k)), (9, .int (nI ((rsG V c d rk k).2))), (8, .int ((rsG V c d rk k).1)), (6, .ref q_6), (5, .ref q_1), (0, .ref (ox 0)), (1, .int (nI c)), (2, .int (nI d)), (3, .int (nI rk)), (4, .int (-1))]) hx hb dL_why_201 hl (by decide) rfl (fun ls hl => ?_)
                                      refine xIinc C (kx := 1) (d := 1) (lv' := [(12, .int (nI (j + 1))), (11, .int (bI (hdW V c d k (j + 1)))), (7, .int (bI (pmW V c d (k + 1)))), (10, .int (nI k)), (9, .int (nI ((rsG V c d rk k).2))), (8, .int ((rsG V c d rk k).1)), (6, .ref q_6), (5, .ref q_1), (0, .ref (ox 0)), (1, .int (nI c)), (2, .int (nI d)), (3, .int (nI rk)), (4, .int (-1))]) dL_why_203 hl rfl (by decide) (by decide) rfl (fun ls hl => ?_)
                                      refine lv_goto (tgt := 126) hx hb dL_why_206 (by decide) ?_
                                      exact ih126 (j + 1) (rdF V j og 5) (by omega) (by omega) _ _ hW _ (lv_sub hl [0, 1, 2, 3, 4, 5, 6, 7, 8, 9, 10, 11, 12] rfl)
                    exact L126 _ 0 og (Nat.lt_succ_self _) (Nat.zero_le _) _ _ hW _ (lv_sub hl [0, 1, 2, 3, 4, 5, 6, 7, 8, 9, 10, 11, 12] rfl)
        have hwk := hWf k (by omega)
        refine lv_iload hx hb dL_why_42 (lv_at hl 3 rfl) ?_
        refine xIfNeB C (tgt := 71) dL_why_44 (by decide) (fun h_44 => ?_) (fun h_44 => ?_)
        · skip
          refine lv_iconst (v := nI 1) hx hb dL_why_71 (by decide) ?_
          refine xTop (y := bI (pmW V c d (k + 1))) (pm_1 (by first | exact Or.inl h_44 | exact Or.inr ⟨h_58, h_68⟩)) ?_
          refine lv_goto (tgt := 76) hx hb dL_why_72 (by decide) ?_
          exact J42  _ _ hW _ (lv_sub hl [0, 1, 2, 4, 5, 6, 7, 8, 9, 10] rfl)
        · skip
          refine lv_iload hx hb dL_why_47 (lv_at hl 0 rfl) ?_
          refine lv_iload hx hb dL_why_49 (lv_at hl 10 rfl) ?_
          refine lv_icmp_eq (tgt := 75) hx hb dL_why_51 (by decide) (fun h_51 => ?_) (fun h_51 => ?_)
          · exact absurd h_51 (nI_n1 (by omega))
          · skip
            refine lv_aload hx hb dL_why_54 (lv_at hl 5 rfl) ?_
            refine lv_iconst (v := nI 1) hx hb dL_why_56 (by decide) ?_
            refine wIald C hN hW 0 (j := 1) (v := nI (TV V k 1)) rfl (by decide) (by decide) (rd_at (by decide)) dL_why_57 ?_
            refine xIfNe C (tgt := 75) (by omega) dL_why_58 (by decide) (fun h_58 => ?_) (fun h_58 => ?_)
            · skip
              refine lv_iconst (v := nI 0) hx hb dL_why_75 (by decide) ?_
              refine xTop (y := bI (pmW V c d (k + 1))) (pm_0 h_44 (by first | exact Or.inl (Nat.ne_of_gt h_58) | exact Or.inr h_68)) ?_
              exact J42  _ _ hW _ (lv_sub hl [0, 1, 2, 4, 5, 6, 7, 8, 9, 10] rfl)
            · skip
              refine lv_aload hx hb dL_why_61 (lv_at hl 5 rfl) ?_
              refine lv_iload_n hx hb dL_why_63 rfl (lv_at hl 7 rfl) ?_
              refine lv_iload_n hx hb dL_why_64 rfl (lv_at hl 8 rfl) ?_
              refine wSro C hN (As := [.ref q_1, .int (nI c), .int (nI d)]) (rest := []) (v := bI (fitT (TV V) k c d)) 0 (c_L_fits xl D kA q_1 _ _ _ c d (rd_at (by decide)) (rd_at (by decide)) (hWf k (by omega)).2.2.1 (hWf k (by omega)).2.2.2.1 hcl hdl) (va_cwS 3 hts gL_why_L_fits rfl rfl rfl (by decide +kernel) ⟨Nat.le_of_ble_eq_true rfl, Nat.le_of_ble_eq_true rfl⟩) hW rfl rfl hl.1 rfl (Nat.le_of_ble_eq_true rfl) dL_why_65 ⟨Nat.le_of_ble_eq_true rfl, Nat.le_of_ble_eq_true rfl⟩ ?_
              refine xIfEqB C (tgt := 75) dL_why_68 (by decide) (fun h_68 => ?_) (fun h_68 => ?_)
              · skip
                refine lv_iconst (v := nI 0) hx hb dL_why_75 (by decide) ?_
                refine xTop (y := bI (pmW V c d (k + 1))) (pm_0 h_44 (by first | exact Or.inl (Nat.ne_of_gt h_58) | exact Or.inr h_68)) ?_
                exact J42  _ _ hW _ (lv_sub hl [0, 1, 2, 4, 5, 6, 7, 8, 9, 10] rfl)
              · skip
                refine lv_iconst (v := nI 1) hx hb dL_why_71 (by decide) ?_
                refine xTop (y := bI (pmW V c d (k + 1))) (pm_1 (by first | exact Or.inl h_44 | exact Or.inr ⟨h_58, h_68⟩)) ?_
                refine lv_goto (tgt := 76) hx hb dL_why_72 (by decide) ?_
                exact J42  _ _ hW _ (lv_sub hl [0, 1, 2, 4, 5, 6, 7, 8, 9, 10] rfl)
  exact L24 _ 0 (fun _ => 0) (fun _ => 0) (Nat.lt_succ_self _) (Nat.zero_le _) _ _ hW _ (lv_sub hl [0, 1, 2, 3, 4, 5, 6, 7, 8, 9, 10] rfl)
