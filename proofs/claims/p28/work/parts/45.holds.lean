set_option maxHeartbeats 8000000 in
set_option maxRecDepth 100000 in
theorem c_L_holds (xl : Launch) (D : va_G) (kA : Nat → ClassId) (ox os ob ot : Nat → Nat) (V : Nat → Nat) (m : Nat) (P : Nat → Nat) (kt : Nat) (HH : Nat → Nat → Nat) (HB : Nat → Bool) (LL : Nat → Nat → Nat) (hI : InvS (V, m, P, kt, HH, HB, LL)) (dd : Nat) (g : Nat → Int32) (t : Nat) (hL : LI V g t) (ht : t ≤ 1000) (x : Int32) (u : va_W) (hc : ClsR kA ox os ob ot (V, m, P, kt, HH, HB, LL) u) (A : Nat → Prop) : Met xl yL_holds wsL_holds { frames := 9, cells := 60, slots := 300, locals := 211 } (va_Pc [.ref (ox 0), .ref dd, .int x] (xPw D kA A (u ++ [(dd, .inl (kA 0, 2, .inl (g)))]))) (xQi D A (lawQ kA ox os ob ot (fun r S2 X2 => r = nI 1 ∧ S2 = (V, m, P, kt, HH, HB, LL) ∧ X2 = [(dd, .inl (kA 0, 2, .inl g))]))) 60 300 A := by
  refine Met.ofW (cc := cL_holds) (maxL := 12) (ret := (some .boolean)) (by decide) rfl ?_
  intro xp xe xs xm args xbe xme xc s₁ B hml hv
  obtain ⟨rfl, hP, hN, hD, hA⟩ := hv
  have hret := B.returns
  have C : CallFix xp xm xc cL_holds 12 xs ([.ref (ox 0), .ref dd, .int x] : List Value).toArray wsL_holds RL := ⟨B.exec, B.bytes, hml, findClass_of_methodNamed B.named, atoms_spec (ws := wsL_holds) B.pre⟩
  have hlocks := B.notSynchronized
  obtain ⟨hx, hb, _, hown, hts⟩ := id C
  have hW : WX D kA A xs.heap ox os ob ot (V, m, P, kt, HH, HB, LL) [(dd, .inl (kA 0, 2, .inl (g)))] xs.heap [] := ⟨u, hc, hP, hD, va_S.rf⟩
  have hl := lv_entry ([.ref (ox 0), .ref dd, .int x]) (n := 12) (Nat.le_of_ble_eq_true rfl)
  rw [lg_entry_eq]
  generalize (lg_sl ([.ref (ox 0), .ref dd, .int x]) ++ List.replicate (12 - (lg_sl ([.ref (ox 0), .ref dd, .int x])).length) Slot.unset).toArray = ls at hl ⊢
  have hl : lv_has ls 12 [(0, .ref (ox 0)), (1, .ref dd), (2, .int x)] := hl
  have hV : V 0 ≤ 24 := hI.1.1
  have hWf : WfT (V 0) (TV V) := hI.1.2.1
  have hM : V 1 ≤ 10 := hI.1.2.2.1
  obtain ⟨hg0, hg1, hdn, ht2, htr⟩ := id hL
  have htp : trpT (V 0) (TV V) ≤ 300 := trp_le
  have hk3 := kinds3 hWf
  have hod := ods_le hV (Nat.le_refl (V 0))
  have hod2 := ods_2 (V := V)
  refine lv_iconst (v := nI 0) hx hb dL_holds_0 (by decide) ?_
  refine xTop (y := nI (sumN (6 * 0) (lsF V))) (rfl) ?_
  refine lv_istore_n (lv' := [(3, .int (nI (sumN (6 * 0) (lsF V)))), (0, .ref (ox 0)), (1, .ref dd), (2, .int x)]) hx hb dL_holds_1 rfl hl (by decide) rfl (fun ls hl => ?_)
  refine lv_iconst (v := nI 0) hx hb dL_holds_2 (by decide) ?_
  refine lv_istore (lv' := [(4, .int (nI 0)), (3, .int (nI (sumN (6 * 0) (lsF V)))), (0, .ref (ox 0)), (1, .ref dd), (2, .int x)]) hx hb dL_holds_3 hl (by decide) rfl (fun ls hl => ?_)
  refine lv_aload_n hx hb dL_holds_5 rfl (lv_at hl 2 rfl) ?_
  refine lv_aload_n hx hb dL_holds_6 rfl (lv_at hl 2 rfl) ?_
  refine lv_iconst (v := nI 0) hx hb dL_holds_7 (by decide) ?_
  refine qVr C hN hA (S := (V, m, P, kt, HH, HB, LL)) (S2 := (V, m, P, kt, HH, HB, LL)) (v := nI (V 0)) (As := [.int (nI 0)]) (rest := [.ref (ox 0)]) (fun u A1 h => k4_count xl D kA ox os ob ot (V, m, P, kt, HH, HB, LL) u hI h (nI 0) A1) (e_count0) (cwV 1 hts gL_holds_X4_count rfl rfl rfl (by decide +kernel) ⟨Nat.le_of_ble_eq_true rfl, Nat.le_of_ble_eq_true rfl⟩) hW rfl hl.1 rfl (Nat.le_of_ble_eq_true rfl) dL_holds_8 ⟨Nat.le_of_ble_eq_true rfl, Nat.le_of_ble_eq_true rfl⟩ (fun H locs hW => ?_)
  refine lv_iconst (v := nI 0) hx hb dL_holds_11 (by decide) ?_
  refine qVr C hN hA (S := (V, m, P, kt, HH, HB, LL)) (S2 := (V, m, P, kt, HH, HB, LL)) (v := (-1)) (As := [.int (nI (V 0)), .int (nI 0)]) (rest := []) (fun u A1 h => k4_rule xl D kA ox os ob ot (V, m, P, kt, HH, HB, LL) u hI h (nI (V 0)) (nI 0) A1) (e_ruleN hV) (cwV 2 hts gL_holds_X4_rule rfl rfl rfl (by decide +kernel) ⟨Nat.le_of_ble_eq_true rfl, Nat.le_of_ble_eq_true rfl⟩) hW rfl hl.1 rfl (Nat.le_of_ble_eq_true rfl) dL_holds_12 ⟨Nat.le_of_ble_eq_true rfl, Nat.le_of_ble_eq_true rfl⟩ (fun H locs hW => ?_)
  refine lv_iconst (v := (-1)) hx hb dL_holds_15 (by decide) ?_
  refine lv_icmp_ne (tgt := 35) hx hb dL_holds_16 (by decide) (fun h_16 => ?_) (fun h_16 => ?_)
  · exact absurd rfl h_16
  · skip
    refine lv_aload_n hx hb dL_holds_19 rfl (lv_at hl 2 rfl) ?_
    refine lv_iconst (v := nI 5) hx hb dL_holds_20 (by decide) ?_
    refine lv_iconst (v := nI 0) hx hb dL_holds_21 (by decide) ?_
    refine lv_iconst (v := nI 0) hx hb dL_holds_22 (by decide) ?_
    refine lv_iconst (v := nI 0) hx hb dL_holds_23 (by decide) ?_
    refine qVr C hN hA (S := (V, m, P, kt, HH, HB, LL)) (S2 := (V, m, P, kt, HH, HB, LL)) (v := (-1)) (As := [.int (nI 5), .int (nI 0), .int (nI 0), .int (nI 0)]) (rest := []) (fun u A1 h => k4_allowed xl D kA ox os ob ot (V, m, P, kt, HH, HB, LL) u hI h (nI 5) (nI 0) (nI 0) (nI 0) A1) (e_allowedN) (cwV 4 hts gL_holds_X4_allowed rfl rfl rfl (by decide +kernel) ⟨Nat.le_of_ble_eq_true rfl, Nat.le_of_ble_eq_true rfl⟩) hW rfl hl.1 rfl (Nat.le_of_ble_eq_true rfl) dL_holds_24 ⟨Nat.le_of_ble_eq_true rfl, Nat.le_of_ble_eq_true rfl⟩ (fun H locs hW => ?_)
    refine lv_iconst (v := (-1)) hx hb dL_holds_27 (by decide) ?_
    refine lv_icmp_ne (tgt := 35) hx hb dL_holds_28 (by decide) (fun h_28 => ?_) (fun h_28 => ?_)
    · exact absurd rfl h_28
    · skip
      refine lv_iconst (v := nI 1) hx hb dL_holds_31 (by decide) ?_
      refine lv_goto (tgt := 36) hx hb dL_holds_32 (by decide) ?_
      refine lv_istore (lv' := [(5, .int (nI 1)), (4, .int (nI 0)), (3, .int (nI (sumN (6 * 0) (lsF V)))), (0, .ref (ox 0)), (1, .ref dd), (2, .int x)]) hx hb dL_holds_36 hl (by decide) rfl (fun ls hl => ?_)
      refine lv_iconst (v := nI 0) hx hb dL_holds_38 (by decide) ?_
      refine lv_istore (lv' := [(6, .int (nI 0)), (5, .int (nI 1)), (4, .int (nI 0)), (3, .int (nI (sumN (6 * 0) (lsF V)))), (0, .ref (ox 0)), (1, .ref dd), (2, .int x)]) hx hb dL_holds_39 hl (by decide) rfl (fun ls hl => ?_)
      have L41 : ∀ (fuel : Nat), ∀ (cr : Nat) (hmu : 5 - cr < fuel) (hcr : cr ≤ 5) (H : Heap) (locs : List Loc) (_ : WX D kA A xs.heap ox os ob ot (V, m, P, kt, HH, HB, LL) [(dd, .inl (kA 0, 2, .inl (g)))] H locs) (ls : Array Slot) (_ : lv_has ls 12 [(6, .int (nI cr)), (5, .int (nI 1)), (4, .int (nI 0)), (3, .int (nI (sumN (6 * cr) (lsF V)))), (0, .ref (ox 0)), (1, .ref dd), (2, .int x)]), W xp xl xe (headSpec wsL_holds { frames := 9, cells := 60, slots := 300, locals := 211 }).room xs xm ([.ref (ox 0), .ref dd, .int x] : List Value).toArray xbe xme xc H locs (12 * cr) (60 * cr) (MQ xbe (xQi D A (lawQ kA ox os ob ot (fun r S2 X2 => r = nI 1 ∧ S2 = (V, m, P, kt, HH, HB, LL) ∧ X2 = [(dd, .inl (kA 0, 2, .inl g))]))) ([.ref (ox 0), .ref dd, .int x] : List Value).toArray xs 60 300 A) (F0 xm 41 ls []) := by
        intro fuel
        induction fuel with
        | zero => intro cr hmu; exact absurd hmu (Nat.not_lt_zero _)
        | succ fuel ih41 =>
          intro cr hmu hcr H locs hW ls hl
          refine lv_iload hx hb dL_holds_41 (lv_at hl 0 rfl) ?_
          refine lv_iconst (v := nI 5) hx hb dL_holds_43 (by decide) ?_
          refine xIcmpGe C (tgt := 307) (by omega) (by decide) dL_holds_44 (by decide) (fun h_44 => ?_) (fun h_44 => ?_)
          · skip
            have e5 : cr = 5 := by omega
            rw [e5] at hl
            have hl : lv_has ls 12 [(6, .int (nI 5)), (5, .int (nI 1)), (4, .int (nI 0)), (3, .int (nI (trpT (V 0) (TV V)))), (0, .ref (ox 0)), (1, .ref dd), (2, .int x)] := hl
            refine lv_iconst (v := nI 0) hx hb dL_holds_307 (by decide) ?_
            refine xTop (y := nI (sumN 0 (odF V))) (rfl) ?_
            refine lv_istore (lv' := [(6, .int (nI (sumN 0 (odF V)))), (5, .int (nI 1)), (4, .int (nI 0)), (3, .int (nI (trpT (V 0) (TV V)))), (0, .ref (ox 0)), (1, .ref dd), (2, .int x)]) hx hb dL_holds_308 hl (by decide) rfl (fun ls hl => ?_)
            refine lv_iconst (v := nI 0) hx hb dL_holds_310 (by decide) ?_
            refine xTop (y := nI (cntN 0 (idB V))) (rfl) ?_
            refine lv_istore (lv' := [(7, .int (nI (cntN 0 (idB V)))), (6, .int (nI (sumN 0 (odF V)))), (5, .int (nI 1)), (4, .int (nI 0)), (3, .int (nI (trpT (V 0) (TV V)))), (0, .ref (ox 0)), (1, .ref dd), (2, .int x)]) hx hb dL_holds_311 hl (by decide) rfl (fun ls hl => ?_)
            refine lv_iconst (v := nI 0) hx hb dL_holds_313 (by decide) ?_
            refine lv_istore (lv' := [(8, .int (nI 0)), (7, .int (nI (cntN 0 (idB V)))), (6, .int (nI (sumN 0 (odF V)))), (5, .int (nI 1)), (4, .int (nI 0)), (3, .int (nI (trpT (V 0) (TV V)))), (0, .ref (ox 0)), (1, .ref dd), (2, .int x)]) hx hb dL_holds_314 hl (by decide) rfl (fun ls hl => ?_)
            have L316 : ∀ (fuel : Nat), ∀ (k : Nat) (hmu : V 0 - k < fuel) (hk : k ≤ V 0) (H : Heap) (locs : List Loc) (_ : WX D kA A xs.heap ox os ob ot (V, m, P, kt, HH, HB, LL) [(dd, .inl (kA 0, 2, .inl (g)))] H locs) (ls : Array Slot) (_ : lv_has ls 12 [(8, .int (nI k)), (7, .int (nI (cntN k (idB V)))), (6, .int (nI (sumN k (odF V)))), (5, .int (nI 1)), (4, .int (nI 0)), (3, .int (nI (trpT (V 0) (TV V)))), (0, .ref (ox 0)), (1, .ref dd), (2, .int x)]), W xp xl xe (headSpec wsL_holds { frames := 9, cells := 60, slots := 300, locals := 211 }).room xs xm ([.ref (ox 0), .ref dd, .int x] : List Value).toArray xbe xme xc H locs (60) (300) (MQ xbe (xQi D A (lawQ kA ox os ob ot (fun r S2 X2 => r = nI 1 ∧ S2 = (V, m, P, kt, HH, HB, LL) ∧ X2 = [(dd, .inl (kA 0, 2, .inl g))]))) ([.ref (ox 0), .ref dd, .int x] : List Value).toArray xs 60 300 A) (F0 xm 316 ls []) := by
              intro fuel
              induction fuel with
              | zero => intro k hmu; exact absurd hmu (Nat.not_lt_zero _)
              | succ fuel ih316 =>
                intro k hmu hk H locs hW ls hl
                refine lv_iload hx hb dL_holds_316 (lv_at hl 0 rfl) ?_
                refine lv_aload_n hx hb dL_holds_318 rfl (lv_at hl 6 rfl) ?_
                refine lv_iconst (v := nI 0) hx hb dL_holds_319 (by decide) ?_
                refine qVr C hN hA (S := (V, m, P, kt, HH, HB, LL)) (S2 := (V, m, P, kt, HH, HB, LL)) (v := nI (V 0)) (As := [.int (nI 0)]) (rest := [.int (nI k)]) (fun u A1 h => k4_count xl D kA ox os ob ot (V, m, P, kt, HH, HB, LL) u hI h (nI 0) A1) (e_count0) (cwV 1 hts gL_holds_X4_count rfl rfl rfl (by decide +kernel) ⟨Nat.le_of_ble_eq_true rfl, Nat.le_of_ble_eq_true rfl⟩) hW rfl hl.1 rfl (Nat.le_of_ble_eq_true rfl) dL_holds_320 ⟨Nat.le_of_ble_eq_true rfl, Nat.le_of_ble_eq_true rfl⟩ (fun H locs hW => ?_)
                refine xIcmpGe C (tgt := 468) (by omega) (by omega) dL_holds_323 (by decide) (fun h_323 => ?_) (fun h_323 => ?_)
                · skip
                  have ek : k = V 0 := by omega
                  rw [ek] at hl
                  have hl : lv_has ls 12 [(8, .int (nI (V 0))), (7, .int (nI (cntN (V 0) (idB V)))), (6, .int (nI (sumN (V 0) (odF V)))), (5, .int (nI 1)), (4, .int (nI 0)), (3, .int (nI (trpT (V 0) (TV V)))), (0, .ref (ox 0)), (1, .ref dd), (2, .int x)] := hl
                  refine lv_iconst (v := nI 0) hx hb dL_holds_468 (by decide) ?_
                  refine xTop (y := nI (sumN 0 (dnF V))) (rfl) ?_
                  refine lv_istore (lv' := [(8, .int (nI (sumN 0 (dnF V)))), (7, .int (nI (cntN (V 0) (idB V)))), (6, .int (nI (sumN (V 0) (odF V)))), (5, .int (nI 1)), (4, .int (nI 0)), (3, .int (nI (trpT (V 0) (TV V)))), (0, .ref (ox 0)), (1, .ref dd), (2, .int x)]) hx hb dL_holds_469 hl (by decide) rfl (fun ls hl => ?_)
                  refine lv_iconst (v := nI 0) hx hb dL_holds_471 (by decide) ?_
                  refine lv_istore (lv' := [(9, .int (nI 0)), (8, .int (nI (sumN 0 (dnF V)))), (7, .int (nI (cntN (V 0) (idB V)))), (6, .int (nI (sumN (V 0) (odF V)))), (5, .int (nI 1)), (4, .int (nI 0)), (3, .int (nI (trpT (V 0) (TV V)))), (0, .ref (ox 0)), (1, .ref dd), (2, .int x)]) hx hb dL_holds_472 hl (by decide) rfl (fun ls hl => ?_)
                  have L474 : ∀ (fuel : Nat), ∀ (k : Nat) (hmu : V 1 - k < fuel) (hk : k ≤ V 1) (H : Heap) (locs : List Loc) (_ : WX D kA A xs.heap ox os ob ot (V, m, P, kt, HH, HB, LL) [(dd, .inl (kA 0, 2, .inl (g)))] H locs) (ls : Array Slot) (_ : lv_has ls 12 [(9, .int (nI k)), (8, .int (nI (sumN k (dnF V)))), (7, .int (nI (cntN (V 0) (idB V)))), (6, .int (nI (sumN (V 0) (odF V)))), (5, .int (nI 1)), (4, .int (nI 0)), (3, .int (nI (trpT (V 0) (TV V)))), (0, .ref (ox 0)), (1, .ref dd), (2, .int x)]), W xp xl xe (headSpec wsL_holds { frames := 9, cells := 60, slots := 300, locals := 211 }).room xs xm ([.ref (ox 0), .ref dd, .int x] : List Value).toArray xbe xme xc H locs (60) (300) (MQ xbe (xQi D A (lawQ kA ox os ob ot (fun r S2 X2 => r = nI 1 ∧ S2 = (V, m, P, kt, HH, HB, LL) ∧ X2 = [(dd, .inl (kA 0, 2, .inl g))]))) ([.ref (ox 0), .ref dd, .int x] : List Value).toArray xs 60 300 A) (F0 xm 474 ls []) := by
                    intro fuel
                    induction fuel with
                    | zero => intro k hmu; exact absurd hmu (Nat.not_lt_zero _)
                    | succ fuel ih474 =>
                      intro k hmu hk H locs hW ls hl
                      refine lv_iload hx hb dL_holds_474 (lv_at hl 0 rfl) ?_
                      refine lv_aload_n hx hb dL_holds_476 rfl (lv_at hl 7 rfl) ?_
                      refine lv_bipush (v := nI 7) hx hb dL_holds_477 (by decide) ?_
                      refine qVr C hN hA (S := (V, m, P, kt, HH, HB, LL)) (S2 := (V, m, P, kt, HH, HB, LL)) (v := nI (V 1)) (As := [.int (nI 7)]) (rest := [.int (nI k)]) (fun u A1 h => k4_count xl D kA ox os ob ot (V, m, P, kt, HH, HB, LL) u hI h (nI 7) A1) (e_count7) (cwV 1 hts gL_holds_X4_count rfl rfl rfl (by decide +kernel) ⟨Nat.le_of_ble_eq_true rfl, Nat.le_of_ble_eq_true rfl⟩) hW rfl hl.1 rfl (Nat.le_of_ble_eq_true rfl) dL_holds_479 ⟨Nat.le_of_ble_eq_true rfl, Nat.le_of_ble_eq_true rfl⟩ (fun H locs hW => ?_)
                      refine xIcmpGe C (tgt := 575) (by omega) (by omega) dL_holds_482 (by decide) (fun h_482 => ?_) (fun h_482 => ?_)
                      · skip
                        have ek : k = V 1 := by omega
                        rw [ek] at hl
                        have hl : lv_has ls 12 [(9, .int (nI (V 1))), (8, .int (nI (dnS V))), (7, .int (nI (cntN (V 0) (idB V)))), (6, .int (nI (sumN (V 0) (odF V)))), (5, .int (nI 1)), (4, .int (nI 0)), (3, .int (nI (trpT (V 0) (TV V)))), (0, .ref (ox 0)), (1, .ref dd), (2, .int x)] := hl
                        refine lv_iconst (v := nI 0) hx hb dL_holds_575 (by decide) ?_
                        refine xTop (y := nI (sumN (9 - 9) (rfF V))) (rfl) ?_
                        refine lv_istore (lv' := [(9, .int (nI (sumN (9 - 9) (rfF V)))), (8, .int (nI (dnS V))), (7, .int (nI (cntN (V 0) (idB V)))), (6, .int (nI (sumN (V 0) (odF V)))), (5, .int (nI 1)), (4, .int (nI 0)), (3, .int (nI (trpT (V 0) (TV V)))), (0, .ref (ox 0)), (1, .ref dd), (2, .int x)]) hx hb dL_holds_576 hl (by decide) rfl (fun ls hl => ?_)
                        refine lv_bipush (v := nI 9) hx hb dL_holds_578 (by decide) ?_
                        refine lv_istore (lv' := [(10, .int (nI 9)), (9, .int (nI (sumN (9 - 9) (rfF V)))), (8, .int (nI (dnS V))), (7, .int (nI (cntN (V 0) (idB V)))), (6, .int (nI (sumN (V 0) (odF V)))), (5, .int (nI 1)), (4, .int (nI 0)), (3, .int (nI (trpT (V 0) (TV V)))), (0, .ref (ox 0)), (1, .ref dd), (2, .int x)]) hx hb dL_holds_580 hl (by decide) rfl (fun ls hl => ?_)
                        have L582 : ∀ (fuel : Nat), ∀ (w : Nat) (hmu : 15 - w < fuel) (hw : 9 ≤ w ∧ w ≤ 15) (H : Heap) (locs : List Loc) (_ : WX D kA A xs.heap ox os ob ot (V, m, P, kt, HH, HB, LL) [(dd, .inl (kA 0, 2, .inl (g)))] H locs) (ls : Array Slot) (_ : lv_has ls 12 [(10, .int (nI w)), (9, .int (nI (sumN (w - 9) (rfF V)))), (8, .int (nI (dnS V))), (7, .int (nI (cntN (V 0) (idB V)))), (6, .int (nI (sumN (V 0) (odF V)))), (5, .int (nI 1)), (4, .int (nI 0)), (3, .int (nI (trpT (V 0) (TV V)))), (0, .ref (ox 0)), (1, .ref dd), (2, .int x)]), W xp xl xe (headSpec wsL_holds { frames := 9, cells := 60, slots := 300, locals := 211 }).room xs xm ([.ref (ox 0), .ref dd, .int x] : List Value).toArray xbe xme xc H locs (60) (300) (MQ xbe (xQi D A (lawQ kA ox os ob ot (fun r S2 X2 => r = nI 1 ∧ S2 = (V, m, P, kt, HH, HB, LL) ∧ X2 = [(dd, .inl (kA 0, 2, .inl g))]))) ([.ref (ox 0), .ref dd, .int x] : List Value).toArray xs 60 300 A) (F0 xm 582 ls []) := by
                          intro fuel
                          induction fuel with
                          | zero => intro w hmu; exact absurd hmu (Nat.not_lt_zero _)
                          | succ fuel ih582 =>
                            intro w hmu hw H locs hW ls hl
                            refine lv_iload hx hb dL_holds_582 (lv_at hl 0 rfl) ?_
                            refine lv_bipush (v := nI 15) hx hb dL_holds_584 (by decide) ?_
                            refine xIcmpGe C (tgt := 606) (by omega) (by decide) dL_holds_586 (by decide) (fun h_586 => ?_) (fun h_586 => ?_)
                            · skip
                              have ew : w = 15 := by omega
                              rw [ew] at hl
                              have hl : lv_has ls 12 [(10, .int (nI 15)), (9, .int (nI (rfS V))), (8, .int (nI (dnS V))), (7, .int (nI (cntN (V 0) (idB V)))), (6, .int (nI (sumN (V 0) (odF V)))), (5, .int (nI 1)), (4, .int (nI 0)), (3, .int (nI (trpT (V 0) (TV V)))), (0, .ref (ox 0)), (1, .ref dd), (2, .int x)] := hl
                              refine lv_iload hx hb dL_holds_606 (lv_at hl 5 rfl) ?_
                              refine xIfEq C (tgt := 708) (by decide) dL_holds_608 (by decide) (fun h_608 => ?_) (fun h_608 => ?_)
                              · exact absurd h_608 (by decide)
                              · skip
                                refine lv_iload hx hb dL_holds_611 (lv_at hl 6 rfl) ?_
                                refine xIfNe C (tgt := 708) (by decide) dL_holds_613 (by decide) (fun h_613 => ?_) (fun h_613 => ?_)
                                · exact absurd h_613 (by decide)
                                · skip
                                  refine lv_iload_n hx hb dL_holds_616 rfl (lv_at hl 7 rfl) ?_
                                  refine lv_aload_n hx hb dL_holds_617 rfl (lv_at hl 8 rfl) ?_
                                  refine lv_bipush (v := nI 6) hx hb dL_holds_618 (by decide) ?_
                                  refine qVr C hN hA (S := (V, m, P, kt, HH, HB, LL)) (S2 := (V, m, P, kt, HH, HB, LL)) (v := nI (trpT (V 0) (TV V))) (As := [.int (nI 6)]) (rest := [.int (nI (trpT (V 0) (TV V)))]) (fun u A1 h => k4_count xl D kA ox os ob ot (V, m, P, kt, HH, HB, LL) u hI h (nI 6) A1) (e_count6) (cwV 1 hts gL_holds_X4_count rfl rfl rfl (by decide +kernel) ⟨Nat.le_of_ble_eq_true rfl, Nat.le_of_ble_eq_true rfl⟩) hW rfl hl.1 rfl (Nat.le_of_ble_eq_true rfl) dL_holds_620 ⟨Nat.le_of_ble_eq_true rfl, Nat.le_of_ble_eq_true rfl⟩ (fun H locs hW => ?_)
                                  refine xIcmpNe C (tgt := 708) (by omega) (by omega) dL_holds_623 (by decide) (fun h_623 => ?_) (fun h_623 => ?_)
                                  · exact absurd rfl h_623
                                  · skip
                                    refine lv_iload hx hb dL_holds_626 (lv_at hl 4 rfl) ?_
                                    refine lv_iconst (v := nI 2) hx hb dL_holds_628 (by decide) ?_
                                    refine lv_aload_n hx hb dL_holds_629 rfl (lv_at hl 8 rfl) ?_
                                    refine lv_iconst (v := nI 5) hx hb dL_holds_630 (by decide) ?_
                                    refine qVr C hN hA (S := (V, m, P, kt, HH, HB, LL)) (S2 := (V, m, P, kt, HH, HB, LL)) (v := nI (oprT (V 0) (TV V))) (As := [.int (nI 5)]) (rest := [.int (nI 2), .int (nI (sumN (V 0) (odF V)))]) (fun u A1 h => k4_count xl D kA ox os ob ot (V, m, P, kt, HH, HB, LL) u hI h (nI 5) A1) (e_count5) (cwV 1 hts gL_holds_X4_count rfl rfl rfl (by decide +kernel) ⟨Nat.le_of_ble_eq_true rfl, Nat.le_of_ble_eq_true rfl⟩) hW rfl hl.1 rfl (Nat.le_of_ble_eq_true rfl) dL_holds_631 ⟨Nat.le_of_ble_eq_true rfl, Nat.le_of_ble_eq_true rfl⟩ (fun H locs hW => ?_)
                                    refine xImul C dL_holds_634 ?_
                                    refine xIcmpNe C (tgt := 708) (by omega) (by omega) dL_holds_635 (by decide) (fun h_635 => ?_) (fun h_635 => ?_)
                                    · exact absurd hod2 h_635
                                    · skip
                                      refine lv_iload hx hb dL_holds_638 (lv_at hl 3 rfl) ?_
                                      refine lv_aload_n hx hb dL_holds_640 rfl (lv_at hl 8 rfl) ?_
                                      refine lv_iconst (v := nI 4) hx hb dL_holds_641 (by decide) ?_
                                      refine qVr C hN hA (S := (V, m, P, kt, HH, HB, LL)) (S2 := (V, m, P, kt, HH, HB, LL)) (v := nI (cntN (V 0) (idB V))) (As := [.int (nI 4)]) (rest := [.int (nI (cntN (V 0) (idB V)))]) (fun u A1 h => k4_count xl D kA ox os ob ot (V, m, P, kt, HH, HB, LL) u hI h (nI 4) A1) (e_count4) (cwV 1 hts gL_holds_X4_count rfl rfl rfl (by decide +kernel) ⟨Nat.le_of_ble_eq_true rfl, Nat.le_of_ble_eq_true rfl⟩) hW rfl hl.1 rfl (Nat.le_of_ble_eq_true rfl) dL_holds_642 ⟨Nat.le_of_ble_eq_true rfl, Nat.le_of_ble_eq_true rfl⟩ (fun H locs hW => ?_)
                                      refine xIcmpNe C (tgt := 708) (Nat.lt_of_le_of_lt cn_le (by omega)) (Nat.lt_of_le_of_lt cn_le (by omega)) dL_holds_645 (by decide) (fun h_645 => ?_) (fun h_645 => ?_)
                                      · exact absurd rfl h_645
                                      · skip
                                        refine lv_aload_n hx hb dL_holds_648 rfl (lv_at hl 8 rfl) ?_
                                        refine lv_iconst (v := nI 1) hx hb dL_holds_649 (by decide) ?_
                                        refine qVr C hN hA (S := (V, m, P, kt, HH, HB, LL)) (S2 := (V, m, P, kt, HH, HB, LL)) (v := nI (cntN (V 0) (fun j => TV V j 1 == 1 - 1))) (As := [.int (nI 1)]) (rest := []) (fun u A1 h => k4_count xl D kA ox os ob ot (V, m, P, kt, HH, HB, LL) u hI h (nI 1) A1) (e_countK (by decide)) (cwV 1 hts gL_holds_X4_count rfl rfl rfl (by decide +kernel) ⟨Nat.le_of_ble_eq_true rfl, Nat.le_of_ble_eq_true rfl⟩) hW rfl hl.1 rfl (Nat.le_of_ble_eq_true rfl) dL_holds_650 ⟨Nat.le_of_ble_eq_true rfl, Nat.le_of_ble_eq_true rfl⟩ (fun H locs hW => ?_)
                                        refine lv_aload_n hx hb dL_holds_653 rfl (lv_at hl 8 rfl) ?_
                                        refine lv_iconst (v := nI 2) hx hb dL_holds_654 (by decide) ?_
                                        refine qVr C hN hA (S := (V, m, P, kt, HH, HB, LL)) (S2 := (V, m, P, kt, HH, HB, LL)) (v := nI (cntN (V 0) (fun j => TV V j 1 == 2 - 1))) (As := [.int (nI 2)]) (rest := [.int (nI (cntN (V 0) (fun j => TV V j 1 == 1 - 1)))]) (fun u A1 h => k4_count xl D kA ox os ob ot (V, m, P, kt, HH, HB, LL) u hI h (nI 2) A1) (e_countK (by decide)) (cwV 1 hts gL_holds_X4_count rfl rfl rfl (by decide +kernel) ⟨Nat.le_of_ble_eq_true rfl, Nat.le_of_ble_eq_true rfl⟩) hW rfl hl.1 rfl (Nat.le_of_ble_eq_true rfl) dL_holds_655 ⟨Nat.le_of_ble_eq_true rfl, Nat.le_of_ble_eq_true rfl⟩ (fun H locs hW => ?_)
                                        refine xIadd C dL_holds_658 ?_
                                        refine lv_aload_n hx hb dL_holds_659 rfl (lv_at hl 8 rfl) ?_
                                        refine lv_iconst (v := nI 3) hx hb dL_holds_660 (by decide) ?_
                                        refine qVr C hN hA (S := (V, m, P, kt, HH, HB, LL)) (S2 := (V, m, P, kt, HH, HB, LL)) (v := nI (cntN (V 0) (fun j => TV V j 1 == 3 - 1))) (As := [.int (nI 3)]) (rest := [.int (nI ((cntN (V 0) (fun j => TV V j 1 == 1 - 1)) + (cntN (V 0) (fun j => TV V j 1 == 2 - 1))))]) (fun u A1 h => k4_count xl D kA ox os ob ot (V, m, P, kt, HH, HB, LL) u hI h (nI 3) A1) (e_countK (by decide)) (cwV 1 hts gL_holds_X4_count rfl rfl rfl (by decide +kernel) ⟨Nat.le_of_ble_eq_true rfl, Nat.le_of_ble_eq_true rfl⟩) hW rfl hl.1 rfl (Nat.le_of_ble_eq_true rfl) dL_holds_661 ⟨Nat.le_of_ble_eq_true rfl, Nat.le_of_ble_eq_true rfl⟩ (fun H locs hW => ?_)
                                        refine xIadd C dL_holds_664 ?_
                                        refine lv_aload_n hx hb dL_holds_665 rfl (lv_at hl 8 rfl) ?_
                                        refine lv_iconst (v := nI 0) hx hb dL_holds_666 (by decide) ?_
                                        refine qVr C hN hA (S := (V, m, P, kt, HH, HB, LL)) (S2 := (V, m, P, kt, HH, HB, LL)) (v := nI (V 0)) (As := [.int (nI 0)]) (rest := [.int (nI (((cntN (V 0) (fun j => TV V j 1 == 1 - 1)) + (cntN (V 0) (fun j => TV V j 1 == 2 - 1))) + (cntN (V 0) (fun j => TV V j 1 == 3 - 1))))]) (fun u A1 h => k4_count xl D kA ox os ob ot (V, m, P, kt, HH, HB, LL) u hI h (nI 0) A1) (e_count0) (cwV 1 hts gL_holds_X4_count rfl rfl rfl (by decide +kernel) ⟨Nat.le_of_ble_eq_true rfl, Nat.le_of_ble_eq_true rfl⟩) hW rfl hl.1 rfl (Nat.le_of_ble_eq_true rfl) dL_holds_667 ⟨Nat.le_of_ble_eq_true rfl, Nat.le_of_ble_eq_true rfl⟩ (fun H locs hW => ?_)
                                        refine xIcmpNe C (tgt := 708) (by omega) (by omega) dL_holds_670 (by decide) (fun h_670 => ?_) (fun h_670 => ?_)
                                        · exact absurd hk3 h_670
                                        · skip
                                          refine lv_iload hx hb dL_holds_673 (lv_at hl 2 rfl) ?_
                                          refine lv_aload_n hx hb dL_holds_675 rfl (lv_at hl 8 rfl) ?_
                                          refine lv_bipush (v := nI 8) hx hb dL_holds_676 (by decide) ?_
                                          refine qVr C hN hA (S := (V, m, P, kt, HH, HB, LL)) (S2 := (V, m, P, kt, HH, HB, LL)) (v := nI (V 2)) (As := [.int (nI 8)]) (rest := [.int (nI (dnS V))]) (fun u A1 h => k4_count xl D kA ox os ob ot (V, m, P, kt, HH, HB, LL) u hI h (nI 8) A1) (e_count8) (cwV 1 hts gL_holds_X4_count rfl rfl rfl (by decide +kernel) ⟨Nat.le_of_ble_eq_true rfl, Nat.le_of_ble_eq_true rfl⟩) hW rfl hl.1 rfl (Nat.le_of_ble_eq_true rfl) dL_holds_678 ⟨Nat.le_of_ble_eq_true rfl, Nat.le_of_ble_eq_true rfl⟩ (fun H locs hW => ?_)
                                          refine xIcmpGt C (tgt := 708) (by omega) (by omega) dL_holds_681 (by decide) (fun h_681 => ?_) (fun h_681 => ?_)
                                          · exfalso; omega
                                          · skip
                                            refine lv_aload_n hx hb dL_holds_684 rfl (lv_at hl 9 rfl) ?_
                                            refine lv_iconst (v := nI 0) hx hb dL_holds_685 (by decide) ?_
                                            refine wIald C hN hW 0 (j := 0) (v := nI (V 2)) rfl (by decide) (by decide) (hg0) dL_holds_686 ?_
                                            refine lv_aload_n hx hb dL_holds_687 rfl (lv_at hl 8 rfl) ?_
                                            refine lv_bipush (v := nI 8) hx hb dL_holds_688 (by decide) ?_
                                            refine qVr C hN hA (S := (V, m, P, kt, HH, HB, LL)) (S2 := (V, m, P, kt, HH, HB, LL)) (v := nI (V 2)) (As := [.int (nI 8)]) (rest := [.int (nI (V 2))]) (fun u A1 h => k4_count xl D kA ox os ob ot (V, m, P, kt, HH, HB, LL) u hI h (nI 8) A1) (e_count8) (cwV 1 hts gL_holds_X4_count rfl rfl rfl (by decide +kernel) ⟨Nat.le_of_ble_eq_true rfl, Nat.le_of_ble_eq_true rfl⟩) hW rfl hl.1 rfl (Nat.le_of_ble_eq_true rfl) dL_holds_690 ⟨Nat.le_of_ble_eq_true rfl, Nat.le_of_ble_eq_true rfl⟩ (fun H locs hW => ?_)
                                            refine xIcmpNe C (tgt := 708) (by omega) (by omega) dL_holds_693 (by decide) (fun h_693 => ?_) (fun h_693 => ?_)
                                            · exact absurd rfl h_693
                                            · skip
                                              refine lv_aload_n hx hb dL_holds_696 rfl (lv_at hl 9 rfl) ?_
                                              refine lv_iconst (v := nI 1) hx hb dL_holds_697 (by decide) ?_
                                              refine wIald C hN hW 0 (j := 1) (v := nI (rfS V)) rfl (by decide) (by decide) (hg1) dL_holds_698 ?_
                                              refine lv_iload hx hb dL_holds_699 (lv_at hl 1 rfl) ?_
                                              refine xIcmpNe C (tgt := 708) (by omega) (by omega) dL_holds_701 (by decide) (fun h_701 => ?_) (fun h_701 => ?_)
                                              · exact absurd rfl h_701
                                              · skip
                                                refine lv_iconst (v := nI 1) hx hb dL_holds_704 (by decide) ?_
                                                refine lv_goto (tgt := 709) hx hb dL_holds_705 (by decide) ?_
                                                exact wRetZ hx hb hret (v := nI 1) (xNar1) (⟨rfl, rfl, rfl⟩) hW dL_holds_709 hlocks
                            · skip
                              refine lv_iload hx hb dL_holds_589 (lv_at hl 1 rfl) ?_
                              refine lv_aload_n hx hb dL_holds_591 rfl (lv_at hl 8 rfl) ?_
                              refine lv_iload hx hb dL_holds_592 (lv_at hl 0 rfl) ?_
                              refine qVr C hN hA (S := (V, m, P, kt, HH, HB, LL)) (S2 := (V, m, P, kt, HH, HB, LL)) (v := nI (V (w - 6))) (As := [.int (nI w)]) (rest := [.int (nI (sumN (w - 9) (rfF V)))]) (fun u A1 h => k4_count xl D kA ox os ob ot (V, m, P, kt, HH, HB, LL) u hI h (nI w) A1) (e_countR (by omega)) (cwV 1 hts gL_holds_X4_count rfl rfl rfl (by decide +kernel) ⟨Nat.le_of_ble_eq_true rfl, Nat.le_of_ble_eq_true rfl⟩) hW rfl hl.1 rfl (Nat.le_of_ble_eq_true rfl) dL_holds_594 ⟨Nat.le_of_ble_eq_true rfl, Nat.le_of_ble_eq_true rfl⟩ (fun H locs hW => ?_)
                              refine xIadd C dL_holds_597 ?_
                              refine xTop (y := nI (sumN (w + 1 - 9) (rfF V))) (by rw [rf_s hw.1]) ?_
                              refine lv_istore (lv' := [(9, .int (nI (sumN (w + 1 - 9) (rfF V)))), (10, .int (nI w)), (8, .int (nI (dnS V))), (7, .int (nI (cntN (V 0) (idB V)))), (6, .int (nI (sumN (V 0) (odF V)))), (5, .int (nI 1)), (4, .int (nI 0)), (3, .int (nI (trpT (V 0) (TV V)))), (0, .ref (ox 0)), (1, .ref dd), (2, .int x)]) hx hb dL_holds_598 hl (by decide) rfl (fun ls hl => ?_)
                              refine xIinc C (kx := 1) (d := 1) (lv' := [(10, .int (nI (w + 1))), (9, .int (nI (sumN (w + 1 - 9) (rfF V)))), (8, .int (nI (dnS V))), (7, .int (nI (cntN (V 0) (idB V)))), (6, .int (nI (sumN (V 0) (odF V)))), (5, .int (nI 1)), (4, .int (nI 0)), (3, .int (nI (trpT (V 0) (TV V)))), (0, .ref (ox 0)), (1, .ref dd), (2, .int x)]) dL_holds_600 hl rfl (by decide) (by decide) rfl (fun ls hl => ?_)
                              refine lv_goto (tgt := 582) hx hb dL_holds_603 (by decide) ?_
                              exact ih582 (w + 1) (by omega) (by omega) _ _ hW _ (lv_sub hl [0, 1, 2, 3, 4, 5, 6, 7, 8, 9, 10] rfl)
                        exact L582 _ 9 (Nat.lt_succ_self _) (by decide) _ _ hW _ (lv_sub hl [0, 1, 2, 3, 4, 5, 6, 7, 8, 9, 10] rfl)
                      · skip
                        refine lv_iload hx hb dL_holds_485 (lv_at hl 4 rfl) ?_
                        refine xIfEq C (tgt := 575) (by decide) dL_holds_487 (by decide) (fun h_487 => ?_) (fun h_487 => ?_)
                        · exact absurd h_487 (by decide)
                        · skip
                          refine lv_iconst (v := nI 0) hx hb dL_holds_490 (by decide) ?_
                          refine xTop (y := nI (maskN 0 (mdP V k))) (rfl) ?_
                          refine lv_istore (lv' := [(10, .int (nI (maskN 0 (mdP V k)))), (9, .int (nI k)), (8, .int (nI (sumN k (dnF V)))), (7, .int (nI (cntN (V 0) (idB V)))), (6, .int (nI (sumN (V 0) (odF V)))), (5, .int (nI 1)), (4, .int (nI 0)), (3, .int (nI (trpT (V 0) (TV V)))), (0, .ref (ox 0)), (1, .ref dd), (2, .int x)]) hx hb dL_holds_491 hl (by decide) rfl (fun ls hl => ?_)
                          refine lv_iconst (v := nI 0) hx hb dL_holds_493 (by decide) ?_
                          refine lv_istore (lv' := [(11, .int (nI 0)), (10, .int (nI (maskN 0 (mdP V k)))), (9, .int (nI k)), (8, .int (nI (sumN k (dnF V)))), (7, .int (nI (cntN (V 0) (idB V)))), (6, .int (nI (sumN (V 0) (odF V)))), (5, .int (nI 1)), (4, .int (nI 0)), (3, .int (nI (trpT (V 0) (TV V)))), (0, .ref (ox 0)), (1, .ref dd), (2, .int x)]) hx hb dL_holds_494 hl (by decide) rfl (fun ls hl => ?_)
                          have L496 : ∀ (fuel : Nat), ∀ (de : Nat) (hmu : 6 - de < fuel) (hde : de ≤ 6) (H : Heap) (locs : List Loc) (_ : WX D kA A xs.heap ox os ob ot (V, m, P, kt, HH, HB, LL) [(dd, .inl (kA 0, 2, .inl (g)))] H locs) (ls : Array Slot) (_ : lv_has ls 12 [(11, .int (nI de)), (10, .int (nI (maskN de (mdP V k)))), (9, .int (nI k)), (8, .int (nI (sumN k (dnF V)))), (7, .int (nI (cntN (V 0) (idB V)))), (6, .int (nI (sumN (V 0) (odF V)))), (5, .int (nI 1)), (4, .int (nI 0)), (3, .int (nI (trpT (V 0) (TV V)))), (0, .ref (ox 0)), (1, .ref dd), (2, .int x)]), W xp xl xe (headSpec wsL_holds { frames := 9, cells := 60, slots := 300, locals := 211 }).room xs xm ([.ref (ox 0), .ref dd, .int x] : List Value).toArray xbe xme xc H locs (60) (300) (MQ xbe (xQi D A (lawQ kA ox os ob ot (fun r S2 X2 => r = nI 1 ∧ S2 = (V, m, P, kt, HH, HB, LL) ∧ X2 = [(dd, .inl (kA 0, 2, .inl g))]))) ([.ref (ox 0), .ref dd, .int x] : List Value).toArray xs 60 300 A) (F0 xm 496 ls []) := by
                            intro fuel
                            induction fuel with
                            | zero => intro de hmu; exact absurd hmu (Nat.not_lt_zero _)
                            | succ fuel ih496 =>
                              intro de hmu hde H locs hW ls hl
                              refine lv_iload hx hb dL_holds_496 (lv_at hl 0 rfl) ?_
                              refine lv_bipush (v := nI 6) hx hb dL_holds_498 (by decide) ?_
                              refine xIcmpGe C (tgt := 538) (by omega) (by decide) dL_holds_500 (by decide) (fun h_500 => ?_) (fun h_500 => ?_)
                              · skip
                                have e6 : de = 6 := by omega
                                rw [e6] at hl
                                have hl : lv_has ls 12 [(11, .int (nI 6)), (10, .int (nI (maskN 6 (mdP V k)))), (9, .int (nI k)), (8, .int (nI (sumN k (dnF V)))), (7, .int (nI (cntN (V 0) (idB V)))), (6, .int (nI (sumN (V 0) (odF V)))), (5, .int (nI 1)), (4, .int (nI 0)), (3, .int (nI (trpT (V 0) (TV V)))), (0, .ref (ox 0)), (1, .ref dd), (2, .int x)] := hl
                                refine lv_aload_n hx hb dL_holds_538 rfl (lv_at hl 9 rfl) ?_
                                refine lv_iload hx hb dL_holds_539 (lv_at hl 2 rfl) ?_
                                refine lv_iconst (v := nI 2) hx hb dL_holds_541 (by decide) ?_
                                refine qVr C hN hA (S := (V, m, P, kt, HH, HB, LL)) (S2 := (V, m, P, kt, HH, HB, LL)) (v := nI (mdM V k)) (As := [.int (nI k), .int (nI 2)]) (rest := []) (fun u A1 h => k4_member xl D kA ox os ob ot (V, m, P, kt, HH, HB, LL) u hI h (nI k) (nI 2) A1) ((e_member hM (show k < V 1 by omega) (by decide)).trans (by rw [me_2])) (cwV 2 hts gL_holds_X4_member rfl rfl rfl (by decide +kernel) ⟨Nat.le_of_ble_eq_true rfl, Nat.le_of_ble_eq_true rfl⟩) hW rfl hl.1 rfl (Nat.le_of_ble_eq_true rfl) dL_holds_542 ⟨Nat.le_of_ble_eq_true rfl, Nat.le_of_ble_eq_true rfl⟩ (fun H locs hW => ?_)
                                refine lv_iload hx hb dL_holds_545 (lv_at hl 1 rfl) ?_
                                refine xIcmpNe C (tgt := 554) (by rw [md_6]; exact md_lt (by decide)) (md_lt (by decide)) dL_holds_547 (by decide) (fun h_547 => ?_) (fun h_547 => ?_)
                                · exact absurd md_6 h_547
                                · skip
                                  refine lv_iconst (v := nI 1) hx hb dL_holds_550 (by decide) ?_
                                  refine lv_goto (tgt := 555) hx hb dL_holds_551 (by decide) ?_
                                  refine lv_istore (lv' := [(5, .int (nI 1)), (11, .int (nI 6)), (10, .int (nI (maskN 6 (mdP V k)))), (9, .int (nI k)), (8, .int (nI (sumN k (dnF V)))), (7, .int (nI (cntN (V 0) (idB V)))), (6, .int (nI (sumN (V 0) (odF V)))), (4, .int (nI 0)), (3, .int (nI (trpT (V 0) (TV V)))), (0, .ref (ox 0)), (1, .ref dd), (2, .int x)]) hx hb dL_holds_555 hl (by decide) rfl (fun ls hl => ?_)
                                  refine lv_iload hx hb dL_holds_557 (lv_at hl 4 rfl) ?_
                                  refine lv_aload_n hx hb dL_holds_559 rfl (lv_at hl 9 rfl) ?_
                                  refine lv_iload hx hb dL_holds_560 (lv_at hl 3 rfl) ?_
                                  refine lv_iconst (v := nI 3) hx hb dL_holds_562 (by decide) ?_
                                  refine qVr C hN hA (S := (V, m, P, kt, HH, HB, LL)) (S2 := (V, m, P, kt, HH, HB, LL)) (v := nI (dnF V k)) (As := [.int (nI k), .int (nI 3)]) (rest := [.int (nI (sumN k (dnF V)))]) (fun u A1 h => k4_member xl D kA ox os ob ot (V, m, P, kt, HH, HB, LL) u hI h (nI k) (nI 3) A1) ((e_member hM (show k < V 1 by omega) (by decide)).trans (by rw [me_3])) (cwV 2 hts gL_holds_X4_member rfl rfl rfl (by decide +kernel) ⟨Nat.le_of_ble_eq_true rfl, Nat.le_of_ble_eq_true rfl⟩) hW rfl hl.1 rfl (Nat.le_of_ble_eq_true rfl) dL_holds_563 ⟨Nat.le_of_ble_eq_true rfl, Nat.le_of_ble_eq_true rfl⟩ (fun H locs hW => ?_)
                                  refine xIadd C dL_holds_566 ?_
                                  refine xTop (y := nI (sumN (k + 1) (dnF V))) (rfl) ?_
                                  refine lv_istore (lv' := [(8, .int (nI (sumN (k + 1) (dnF V)))), (5, .int (nI 1)), (11, .int (nI 6)), (10, .int (nI (maskN 6 (mdP V k)))), (9, .int (nI k)), (7, .int (nI (cntN (V 0) (idB V)))), (6, .int (nI (sumN (V 0) (odF V)))), (4, .int (nI 0)), (3, .int (nI (trpT (V 0) (TV V)))), (0, .ref (ox 0)), (1, .ref dd), (2, .int x)]) hx hb dL_holds_567 hl (by decide) rfl (fun ls hl => ?_)
                                  refine xIinc C (kx := 4) (d := 1) (lv' := [(9, .int (nI (k + 1))), (8, .int (nI (sumN (k + 1) (dnF V)))), (5, .int (nI 1)), (11, .int (nI 6)), (10, .int (nI (maskN 6 (mdP V k)))), (7, .int (nI (cntN (V 0) (idB V)))), (6, .int (nI (sumN (V 0) (odF V)))), (4, .int (nI 0)), (3, .int (nI (trpT (V 0) (TV V)))), (0, .ref (ox 0)), (1, .ref dd), (2, .int x)]) dL_holds_569 hl rfl (by decide) (by decide) rfl (fun ls hl => ?_)
                                  refine lv_goto (tgt := 474) hx hb dL_holds_572 (by decide) ?_
                                  exact ih474 (k + 1) (by omega) (by omega) _ _ hW _ (lv_sub hl [0, 1, 5, 6, 2, 7, 8, 9, 10, 11] rfl)
                              · skip
                                have hmk := hI.1.2.2.2 k (by omega)
                                refine lv_iload hx hb dL_holds_503 (lv_at hl 1 rfl) ?_
                                refine lv_aload_n hx hb dL_holds_505 rfl (lv_at hl 9 rfl) ?_
                                refine lv_aload_n hx hb dL_holds_506 rfl (lv_at hl 9 rfl) ?_
                                refine lv_iload hx hb dL_holds_507 (lv_at hl 2 rfl) ?_
                                refine lv_iconst (v := nI 0) hx hb dL_holds_509 (by decide) ?_
                                refine qVr C hN hA (S := (V, m, P, kt, HH, HB, LL)) (S2 := (V, m, P, kt, HH, HB, LL)) (v := nI (V (129 + 4 * k))) (As := [.int (nI k), .int (nI 0)]) (rest := [.ref (ox 0), .int (nI (maskN de (mdP V k)))]) (fun u A1 h => k4_member xl D kA ox os ob ot (V, m, P, kt, HH, HB, LL) u hI h (nI k) (nI 0) A1) ((e_member hM (show k < V 1 by omega) (by decide)).trans (by rw [me_0])) (cwV 2 hts gL_holds_X4_member rfl rfl rfl (by decide +kernel) ⟨Nat.le_of_ble_eq_true rfl, Nat.le_of_ble_eq_true rfl⟩) hW rfl hl.1 rfl (Nat.le_of_ble_eq_true rfl) dL_holds_510 ⟨Nat.le_of_ble_eq_true rfl, Nat.le_of_ble_eq_true rfl⟩ (fun H locs hW => ?_)
                                refine lv_iload hx hb dL_holds_513 (lv_at hl 0 rfl) ?_
                                refine lv_aload_n hx hb dL_holds_515 rfl (lv_at hl 9 rfl) ?_
                                refine lv_iload hx hb dL_holds_516 (lv_at hl 2 rfl) ?_
                                refine lv_iconst (v := nI 1) hx hb dL_holds_518 (by decide) ?_
                                refine qVr C hN hA (S := (V, m, P, kt, HH, HB, LL)) (S2 := (V, m, P, kt, HH, HB, LL)) (v := nI (V (129 + 4 * k + 1))) (As := [.int (nI k), .int (nI 1)]) (rest := [.int (nI de), .int (nI (V (129 + 4 * k))), .ref (ox 0), .int (nI (maskN de (mdP V k)))]) (fun u A1 h => k4_member xl D kA ox os ob ot (V, m, P, kt, HH, HB, LL) u hI h (nI k) (nI 1) A1) ((e_member hM (show k < V 1 by omega) (by decide)).trans (by rw [me_1])) (cwV 2 hts gL_holds_X4_member rfl rfl rfl (by decide +kernel) ⟨Nat.le_of_ble_eq_true rfl, Nat.le_of_ble_eq_true rfl⟩) hW rfl hl.1 rfl (Nat.le_of_ble_eq_true rfl) dL_holds_519 ⟨Nat.le_of_ble_eq_true rfl, Nat.le_of_ble_eq_true rfl⟩ (fun H locs hW => ?_)
                                refine lv_iconst (v := nI 0) hx hb dL_holds_522 (by decide) ?_
                                refine qVr C hN hA (S := (V, m, P, kt, HH, HB, LL)) (S2 := (V, m, P, kt, HH, HB, LL)) (v := bI (decide (lstT (V 0) (TV V) (V (129 + 4 * k)) de ≤ V (129 + 4 * k + 1)))) (As := [.int (nI (V (129 + 4 * k))), .int (nI de), .int (nI (V (129 + 4 * k + 1))), .int (nI 0)]) (rest := [.int (nI (maskN de (mdP V k)))]) (fun u A1 h => k4_allowed xl D kA ox os ob ot (V, m, P, kt, HH, HB, LL) u hI h (nI (V (129 + 4 * k))) (nI de) (nI (V (129 + 4 * k + 1))) (nI 0) A1) (e_allowed (hmk.1) (by omega) (hmk.2) (by decide)) (cwV 4 hts gL_holds_X4_allowed rfl rfl rfl (by decide +kernel) ⟨Nat.le_of_ble_eq_true rfl, Nat.le_of_ble_eq_true rfl⟩) hW rfl hl.1 rfl (Nat.le_of_ble_eq_true rfl) dL_holds_523 ⟨Nat.le_of_ble_eq_true rfl, Nat.le_of_ble_eq_true rfl⟩ (fun H locs hW => ?_)
                                refine lv_iload hx hb dL_holds_526 (lv_at hl 0 rfl) ?_
                                refine lv_ishl hx hb dL_holds_528 ?_
                                refine lv_ior hx hb dL_holds_529 ?_
                                refine xTop (y := nI (maskN (de + 1) (mdP V k))) (md_b (by omega)) ?_
                                refine lv_istore (lv' := [(10, .int (nI (maskN (de + 1) (mdP V k)))), (11, .int (nI de)), (9, .int (nI k)), (8, .int (nI (sumN k (dnF V)))), (7, .int (nI (cntN (V 0) (idB V)))), (6, .int (nI (sumN (V 0) (odF V)))), (5, .int (nI 1)), (4, .int (nI 0)), (3, .int (nI (trpT (V 0) (TV V)))), (0, .ref (ox 0)), (1, .ref dd), (2, .int x)]) hx hb dL_holds_530 hl (by decide) rfl (fun ls hl => ?_)
                                refine xIinc C (kx := 1) (d := 1) (lv' := [(11, .int (nI (de + 1))), (10, .int (nI (maskN (de + 1) (mdP V k)))), (9, .int (nI k)), (8, .int (nI (sumN k (dnF V)))), (7, .int (nI (cntN (V 0) (idB V)))), (6, .int (nI (sumN (V 0) (odF V)))), (5, .int (nI 1)), (4, .int (nI 0)), (3, .int (nI (trpT (V 0) (TV V)))), (0, .ref (ox 0)), (1, .ref dd), (2, .int x)]) dL_holds_532 hl rfl (by decide) (by decide) rfl (fun ls hl => ?_)
                                refine lv_goto (tgt := 496) hx hb dL_holds_535 (by decide) ?_
                                exact ih496 (de + 1) (by omega) (by omega) _ _ hW _ (lv_sub hl [0, 1, 2, 3, 4, 5, 6, 7, 8, 9, 10, 11] rfl)
                          exact L496 _ 0 (Nat.lt_succ_self _) (by omega) _ _ hW _ (lv_sub hl [0, 1, 2, 3, 4, 5, 6, 7, 8, 9, 10, 11] rfl)
                  exact L474 _ 0 (Nat.lt_succ_self _) (Nat.zero_le _) _ _ hW _ (lv_sub hl [0, 1, 2, 3, 4, 5, 6, 7, 8, 9] rfl)
                · skip
                  refine lv_iload hx hb dL_holds_326 (lv_at hl 3 rfl) ?_
                  refine xIfEq C (tgt := 468) (by decide) dL_holds_328 (by decide) (fun h_328 => ?_) (fun h_328 => ?_)
                  · exact absurd h_328 (by decide)
                  · skip
                    have hwk := hWf k (by omega)
                    refine lv_iload hx hb dL_holds_331 (lv_at hl 4 rfl) ?_
                    refine lv_aload_n hx hb dL_holds_333 rfl (lv_at hl 6 rfl) ?_
                    refine lv_iload hx hb dL_holds_334 (lv_at hl 0 rfl) ?_
                    refine lv_iconst (v := nI 1) hx hb dL_holds_336 (by decide) ?_
                    refine qVr C hN hA (S := (V, m, P, kt, HH, HB, LL)) (S2 := (V, m, P, kt, HH, HB, LL)) (v := nI (TV V k 1)) (As := [.int (nI k), .int (nI 1)]) (rest := [.int (nI 0)]) (fun u A1 h => k4_rule xl D kA ox os ob ot (V, m, P, kt, HH, HB, LL) u hI h (nI k) (nI 1) A1) ((e_rule hV (show k < V 0 by omega) (by decide)).trans (by rw [ru_1])) (cwV 2 hts gL_holds_X4_rule rfl rfl rfl (by decide +kernel) ⟨Nat.le_of_ble_eq_true rfl, Nat.le_of_ble_eq_true rfl⟩) hW rfl hl.1 rfl (Nat.le_of_ble_eq_true rfl) dL_holds_337 ⟨Nat.le_of_ble_eq_true rfl, Nat.le_of_ble_eq_true rfl⟩ (fun H locs hW => ?_)
                    refine xIfLt C (tgt := 354) (by omega) dL_holds_340 (by decide) ?_
                    refine lv_aload_n hx hb dL_holds_343 rfl (lv_at hl 6 rfl) ?_
                    refine lv_iload hx hb dL_holds_344 (lv_at hl 0 rfl) ?_
                    refine lv_iconst (v := nI 1) hx hb dL_holds_346 (by decide) ?_
                    refine qVr C hN hA (S := (V, m, P, kt, HH, HB, LL)) (S2 := (V, m, P, kt, HH, HB, LL)) (v := nI (TV V k 1)) (As := [.int (nI k), .int (nI 1)]) (rest := [.int (nI 0)]) (fun u A1 h => k4_rule xl D kA ox os ob ot (V, m, P, kt, HH, HB, LL) u hI h (nI k) (nI 1) A1) ((e_rule hV (show k < V 0 by omega) (by decide)).trans (by rw [ru_1])) (cwV 2 hts gL_holds_X4_rule rfl rfl rfl (by decide +kernel) ⟨Nat.le_of_ble_eq_true rfl, Nat.le_of_ble_eq_true rfl⟩) hW rfl hl.1 rfl (Nat.le_of_ble_eq_true rfl) dL_holds_347 ⟨Nat.le_of_ble_eq_true rfl, Nat.le_of_ble_eq_true rfl⟩ (fun H locs hW => ?_)
                    refine lv_iconst (v := nI 2) hx hb dL_holds_350 (by decide) ?_
                    refine xIcmpLe C (tgt := 358) (by omega) (by decide) dL_holds_351 (by decide) (fun h_351 => ?_) (fun h_351 => ?_)
                    · skip
                      refine lv_iconst (v := nI 0) hx hb dL_holds_358 (by decide) ?_
                      refine xIadd C dL_holds_359 ?_
                      refine xTop (y := nI 0) (rfl) ?_
                      refine lv_istore (lv' := [(4, .int (nI 0)), (8, .int (nI k)), (7, .int (nI (cntN k (idB V)))), (6, .int (nI (sumN k (odF V)))), (5, .int (nI 1)), (3, .int (nI (trpT (V 0) (TV V)))), (0, .ref (ox 0)), (1, .ref dd), (2, .int x)]) hx hb dL_holds_360 hl (by decide) rfl (fun ls hl => ?_)
                      refine lv_iload hx hb dL_holds_362 (lv_at hl 3 rfl) ?_
                      refine lv_aload_n hx hb dL_holds_364 rfl (lv_at hl 6 rfl) ?_
                      refine lv_iload hx hb dL_holds_365 (lv_at hl 1 rfl) ?_
                      refine lv_bipush (v := nI 6) hx hb dL_holds_367 (by decide) ?_
                      refine qVr C hN hA (S := (V, m, P, kt, HH, HB, LL)) (S2 := (V, m, P, kt, HH, HB, LL)) (v := nI (odF V k)) (As := [.int (nI k), .int (nI 6)]) (rest := [.int (nI (sumN k (odF V)))]) (fun u A1 h => k4_rule xl D kA ox os ob ot (V, m, P, kt, HH, HB, LL) u hI h (nI k) (nI 6) A1) ((e_rule hV (show k < V 0 by omega) (by decide)).trans (by rw [ru_6, odF])) (cwV 2 hts gL_holds_X4_rule rfl rfl rfl (by decide +kernel) ⟨Nat.le_of_ble_eq_true rfl, Nat.le_of_ble_eq_true rfl⟩) hW rfl hl.1 rfl (Nat.le_of_ble_eq_true rfl) dL_holds_369 ⟨Nat.le_of_ble_eq_true rfl, Nat.le_of_ble_eq_true rfl⟩ (fun H locs hW => ?_)
                      refine xIadd C dL_holds_372 ?_
                      refine xTop (y := nI (sumN (k + 1) (odF V))) (rfl) ?_
                      refine lv_istore (lv' := [(6, .int (nI (sumN (k + 1) (odF V)))), (4, .int (nI 0)), (8, .int (nI k)), (7, .int (nI (cntN k (idB V)))), (5, .int (nI 1)), (3, .int (nI (trpT (V 0) (TV V)))), (0, .ref (ox 0)), (1, .ref dd), (2, .int x)]) hx hb dL_holds_373 hl (by decide) rfl (fun ls hl => ?_)
                      refine lv_iload hx hb dL_holds_375 (lv_at hl 3 rfl) ?_
                      refine lv_aload_n hx hb dL_holds_377 rfl (lv_at hl 6 rfl) ?_
                      refine lv_iload hx hb dL_holds_378 (lv_at hl 2 rfl) ?_
                      refine lv_iconst (v := nI 5) hx hb dL_holds_380 (by decide) ?_
                      refine qVr C hN hA (S := (V, m, P, kt, HH, HB, LL)) (S2 := (V, m, P, kt, HH, HB, LL)) (v := bI (idB V k)) (As := [.int (nI k), .int (nI 5)]) (rest := [.int (nI (cntN k (idB V)))]) (fun u A1 h => k4_rule xl D kA ox os ob ot (V, m, P, kt, HH, HB, LL) u hI h (nI k) (nI 5) A1) ((e_rule hV (show k < V 0 by omega) (by decide)).trans (by rw [ru_5])) (cwV 2 hts gL_holds_X4_rule rfl rfl rfl (by decide +kernel) ⟨Nat.le_of_ble_eq_true rfl, Nat.le_of_ble_eq_true rfl⟩) hW rfl hl.1 rfl (Nat.le_of_ble_eq_true rfl) dL_holds_381 ⟨Nat.le_of_ble_eq_true rfl, Nat.le_of_ble_eq_true rfl⟩ (fun H locs hW => ?_)
                      refine lv_iadd hx hb dL_holds_384 ?_
                      refine xTop (y := nI (cntN (k + 1) (idB V))) (id_s) ?_
                      refine lv_istore (lv' := [(7, .int (nI (cntN (k + 1) (idB V)))), (6, .int (nI (sumN (k + 1) (odF V)))), (4, .int (nI 0)), (8, .int (nI k)), (5, .int (nI 1)), (3, .int (nI (trpT (V 0) (TV V)))), (0, .ref (ox 0)), (1, .ref dd), (2, .int x)]) hx hb dL_holds_385 hl (by decide) rfl (fun ls hl => ?_)
                      refine lv_aload_n hx hb dL_holds_387 rfl (lv_at hl 6 rfl) ?_
                      refine lv_iload hx hb dL_holds_388 (lv_at hl 3 rfl) ?_
                      refine lv_bipush (v := nI 7) hx hb dL_holds_390 (by decide) ?_
                      refine qVr C hN hA (S := (V, m, P, kt, HH, HB, LL)) (S2 := (V, m, P, kt, HH, HB, LL)) (v := nI ((if TV V k 2 = 5 then 5 else 1) * (if TV V k 3 = 6 then 6 else 1))) (As := [.int (nI k), .int (nI 7)]) (rest := []) (fun u A1 h => k4_rule xl D kA ox os ob ot (V, m, P, kt, HH, HB, LL) u hI h (nI k) (nI 7) A1) ((e_rule hV (show k < V 0 by omega) (by decide)).trans (by rw [ru_7])) (cwV 2 hts gL_holds_X4_rule rfl rfl rfl (by decide +kernel) ⟨Nat.le_of_ble_eq_true rfl, Nat.le_of_ble_eq_true rfl⟩) hW rfl hl.1 rfl (Nat.le_of_ble_eq_true rfl) dL_holds_392 ⟨Nat.le_of_ble_eq_true rfl, Nat.le_of_ble_eq_true rfl⟩ (fun H locs hW => ?_)
                      refine lv_aload_n hx hb dL_holds_395 rfl (lv_at hl 6 rfl) ?_
                      refine lv_iload hx hb dL_holds_396 (lv_at hl 3 rfl) ?_
                      refine lv_iconst (v := nI 2) hx hb dL_holds_398 (by decide) ?_
                      refine qVr C hN hA (S := (V, m, P, kt, HH, HB, LL)) (S2 := (V, m, P, kt, HH, HB, LL)) (v := nI (TV V k 2)) (As := [.int (nI k), .int (nI 2)]) (rest := [.int (nI ((if TV V k 2 = 5 then 5 else 1) * (if TV V k 3 = 6 then 6 else 1)))]) (fun u A1 h => k4_rule xl D kA ox os ob ot (V, m, P, kt, HH, HB, LL) u hI h (nI k) (nI 2) A1) ((e_rule hV (show k < V 0 by omega) (by decide)).trans (by rw [ru_lt (show 2 < 5 by decide)])) (cwV 2 hts gL_holds_X4_rule rfl rfl rfl (by decide +kernel) ⟨Nat.le_of_ble_eq_true rfl, Nat.le_of_ble_eq_true rfl⟩) hW rfl hl.1 rfl (Nat.le_of_ble_eq_true rfl) dL_holds_399 ⟨Nat.le_of_ble_eq_true rfl, Nat.le_of_ble_eq_true rfl⟩ (fun H locs hW => ?_)
                      have J402 : ∀ (H : Heap) (locs : List Loc) (_ : WX D kA A xs.heap ox os ob ot (V, m, P, kt, HH, HB, LL) [(dd, .inl (kA 0, 2, .inl (g)))] H locs) (ls : Array Slot) (_ : lv_has ls 12 [(7, .int (nI (cntN (k + 1) (idB V)))), (6, .int (nI (sumN (k + 1) (odF V)))), (4, .int (nI 0)), (8, .int (nI k)), (5, .int (nI 1)), (3, .int (nI (trpT (V 0) (TV V)))), (0, .ref (ox 0)), (1, .ref dd), (2, .int x)]), W xp xl xe (headSpec wsL_holds { frames := 9, cells := 60, slots := 300, locals := 211 }).room xs xm ([.ref (ox 0), .ref dd, .int x] : List Value).toArray xbe xme xc H locs (60) (300) (MQ xbe (xQi D A (lawQ kA ox os ob ot (fun r S2 X2 => r = nI 1 ∧ S2 = (V, m, P, kt, HH, HB, LL) ∧ X2 = [(dd, .inl (kA 0, 2, .inl g))]))) ([.ref (ox 0), .ref dd, .int x] : List Value).toArray xs 60 300 A) (F0 xm 411 ls [.int (nI (if TV V k 2 = 5 then 5 else 1)), .int (nI ((if TV V k 2 = 5 then 5 else 1) * (if TV V k 3 = 6 then 6 else 1)))]) := by
                        intro   H locs hW ls hl
                        refine lv_aload_n hx hb dL_holds_411 rfl (lv_at hl 6 rfl) ?_
                        refine lv_iload hx hb dL_holds_412 (lv_at hl 3 rfl) ?_
                        refine lv_iconst (v := nI 3) hx hb dL_holds_414 (by decide) ?_
                        refine qVr C hN hA (S := (V, m, P, kt, HH, HB, LL)) (S2 := (V, m, P, kt, HH, HB, LL)) (v := nI (TV V k 3)) (As := [.int (nI k), .int (nI 3)]) (rest := [.int (nI (if TV V k 2 = 5 then 5 else 1)), .int (nI ((if TV V k 2 = 5 then 5 else 1) * (if TV V k 3 = 6 then 6 else 1)))]) (fun u A1 h => k4_rule xl D kA ox os ob ot (V, m, P, kt, HH, HB, LL) u hI h (nI k) (nI 3) A1) ((e_rule hV (show k < V 0 by omega) (by decide)).trans (by rw [ru_lt (show 3 < 5 by decide)])) (cwV 2 hts gL_holds_X4_rule rfl rfl rfl (by decide +kernel) ⟨Nat.le_of_ble_eq_true rfl, Nat.le_of_ble_eq_true rfl⟩) hW rfl hl.1 rfl (Nat.le_of_ble_eq_true rfl) dL_holds_415 ⟨Nat.le_of_ble_eq_true rfl, Nat.le_of_ble_eq_true rfl⟩ (fun H locs hW => ?_)
                        have J418 : ∀ (H : Heap) (locs : List Loc) (_ : WX D kA A xs.heap ox os ob ot (V, m, P, kt, HH, HB, LL) [(dd, .inl (kA 0, 2, .inl (g)))] H locs) (ls : Array Slot) (_ : lv_has ls 12 [(7, .int (nI (cntN (k + 1) (idB V)))), (6, .int (nI (sumN (k + 1) (odF V)))), (4, .int (nI 0)), (8, .int (nI k)), (5, .int (nI 1)), (3, .int (nI (trpT (V 0) (TV V)))), (0, .ref (ox 0)), (1, .ref dd), (2, .int x)]), W xp xl xe (headSpec wsL_holds { frames := 9, cells := 60, slots := 300, locals := 211 }).room xs xm ([.ref (ox 0), .ref dd, .int x] : List Value).toArray xbe xme xc H locs (60) (300) (MQ xbe (xQi D A (lawQ kA ox os ob ot (fun r S2 X2 => r = nI 1 ∧ S2 = (V, m, P, kt, HH, HB, LL) ∧ X2 = [(dd, .inl (kA 0, 2, .inl g))]))) ([.ref (ox 0), .ref dd, .int x] : List Value).toArray xs 60 300 A) (F0 xm 429 ls [.int (nI (if TV V k 3 = 6 then 6 else 1)), .int (nI (if TV V k 2 = 5 then 5 else 1)), .int (nI ((if TV V k 2 = 5 then 5 else 1) * (if TV V k 3 = 6 then 6 else 1)))]) := by
                          intro   H locs hW ls hl
                          refine xImul C dL_holds_429 ?_
                          refine xIcmpNe C (tgt := 459) (pr7_lt _ _) (pr7_lt _ _) dL_holds_430 (by decide) (fun h_430 => ?_) (fun h_430 => ?_)
                          · exact absurd rfl h_430
                          · skip
                            refine lv_aload_n hx hb dL_holds_433 rfl (lv_at hl 6 rfl) ?_
                            refine lv_iload hx hb dL_holds_434 (lv_at hl 3 rfl) ?_
                            refine lv_iconst (v := nI 5) hx hb dL_holds_436 (by decide) ?_
                            refine qVr C hN hA (S := (V, m, P, kt, HH, HB, LL)) (S2 := (V, m, P, kt, HH, HB, LL)) (v := bI (idB V k)) (As := [.int (nI k), .int (nI 5)]) (rest := []) (fun u A1 h => k4_rule xl D kA ox os ob ot (V, m, P, kt, HH, HB, LL) u hI h (nI k) (nI 5) A1) ((e_rule hV (show k < V 0 by omega) (by decide)).trans (by rw [ru_5])) (cwV 2 hts gL_holds_X4_rule rfl rfl rfl (by decide +kernel) ⟨Nat.le_of_ble_eq_true rfl, Nat.le_of_ble_eq_true rfl⟩) hW rfl hl.1 rfl (Nat.le_of_ble_eq_true rfl) dL_holds_437 ⟨Nat.le_of_ble_eq_true rfl, Nat.le_of_ble_eq_true rfl⟩ (fun H locs hW => ?_)
                            refine xIfEqB C (tgt := 455) dL_holds_440 (by decide) (fun h_440 => ?_) (fun h_440 => ?_)
                            · skip
                              refine lv_iconst (v := nI 1) hx hb dL_holds_455 (by decide) ?_
                              refine lv_goto (tgt := 460) hx hb dL_holds_456 (by decide) ?_
                              refine lv_istore (lv' := [(5, .int (nI 1)), (7, .int (nI (cntN (k + 1) (idB V)))), (6, .int (nI (sumN (k + 1) (odF V)))), (4, .int (nI 0)), (8, .int (nI k)), (3, .int (nI (trpT (V 0) (TV V)))), (0, .ref (ox 0)), (1, .ref dd), (2, .int x)]) hx hb dL_holds_460 hl (by decide) rfl (fun ls hl => ?_)
                              refine xIinc C (kx := 4) (d := 1) (lv' := [(8, .int (nI (k + 1))), (5, .int (nI 1)), (7, .int (nI (cntN (k + 1) (idB V)))), (6, .int (nI (sumN (k + 1) (odF V)))), (4, .int (nI 0)), (3, .int (nI (trpT (V 0) (TV V)))), (0, .ref (ox 0)), (1, .ref dd), (2, .int x)]) dL_holds_462 hl rfl (by decide) (by decide) rfl (fun ls hl => ?_)
                              refine lv_goto (tgt := 316) hx hb dL_holds_465 (by decide) ?_
                              exact ih316 (k + 1) (by omega) (by omega) _ _ hW _ (lv_sub hl [0, 2, 3, 1, 4, 5, 6, 7, 8] rfl)
                            · skip
                              refine lv_aload_n hx hb dL_holds_443 rfl (lv_at hl 6 rfl) ?_
                              refine lv_iload hx hb dL_holds_444 (lv_at hl 3 rfl) ?_
                              refine qVr C hN hA (S := (V, m, P, kt, HH, HB, LL)) (S2 := (V, m, P, kt, HH, HB, LL)) (v := nI (ifN V k)) (As := [.int (nI k)]) (rest := []) (fun u A1 h => k4_ifStruck xl D kA ox os ob ot (V, m, P, kt, HH, HB, LL) u hI h (nI k) A1) (e_if hV (by omega)) (cwV 1 hts gL_holds_X4_ifStruck rfl rfl rfl (by decide +kernel) ⟨Nat.le_of_ble_eq_true rfl, Nat.le_of_ble_eq_true rfl⟩) hW rfl hl.1 rfl (Nat.le_of_ble_eq_true rfl) dL_holds_446 ⟨Nat.le_of_ble_eq_true rfl, Nat.le_of_ble_eq_true rfl⟩ (fun H locs hW => ?_)
                              refine lv_sipush (v := nI 1000) hx hb dL_holds_449 (by decide) ?_
                              refine xIcmpNe C (tgt := 459) (Nat.lt_of_le_of_lt if_le (by decide)) (by decide) dL_holds_452 (by decide) (fun h_452 => ?_) (fun h_452 => ?_)
                              · exact absurd (if_1 hV hWf (by omega) h_440) h_452
                              · skip
                                refine lv_iconst (v := nI 1) hx hb dL_holds_455 (by decide) ?_
                                refine lv_goto (tgt := 460) hx hb dL_holds_456 (by decide) ?_
                                refine lv_istore (lv' := [(5, .int (nI 1)), (7, .int (nI (cntN (k + 1) (idB V)))), (6, .int (nI (sumN (k + 1) (odF V)))), (4, .int (nI 0)), (8, .int (nI k)), (3, .int (nI (trpT (V 0) (TV V)))), (0, .ref (ox 0)), (1, .ref dd), (2, .int x)]) hx hb dL_holds_460 hl (by decide) rfl (fun ls hl => ?_)
                                refine xIinc C (kx := 4) (d := 1) (lv' := [(8, .int (nI (k + 1))), (5, .int (nI 1)), (7, .int (nI (cntN (k + 1) (idB V)))), (6, .int (nI (sumN (k + 1) (odF V)))), (4, .int (nI 0)), (3, .int (nI (trpT (V 0) (TV V)))), (0, .ref (ox 0)), (1, .ref dd), (2, .int x)]) dL_holds_462 hl rfl (by decide) (by decide) rfl (fun ls hl => ?_)
                                refine lv_goto (tgt := 316) hx hb dL_holds_465 (by decide) ?_
                                exact ih316 (k + 1) (by omega) (by omega) _ _ hW _ (lv_sub hl [0, 2, 3, 1, 4, 5, 6, 7, 8] rfl)
                        refine lv_bipush (v := nI 6) hx hb dL_holds_418 (by decide) ?_
                        refine xIcmpNe C (tgt := 428) (by omega) (by decide) dL_holds_420 (by decide) (fun h_420 => ?_) (fun h_420 => ?_)
                        · skip
                          refine lv_iconst (v := nI 1) hx hb dL_holds_428 (by decide) ?_
                          refine xTop (y := nI (if TV V k 3 = 6 then 6 else 1)) (by rw [if_neg h_420]) ?_
                          exact J418  _ _ hW _ (lv_sub hl [0, 1, 2, 3, 4, 5, 6, 7, 8] rfl)
                        · skip
                          refine lv_bipush (v := nI 6) hx hb dL_holds_423 (by decide) ?_
                          refine xTop (y := nI (if TV V k 3 = 6 then 6 else 1)) (by rw [if_pos h_420]) ?_
                          refine lv_goto (tgt := 429) hx hb dL_holds_425 (by decide) ?_
                          exact J418  _ _ hW _ (lv_sub hl [0, 1, 2, 3, 4, 5, 6, 7, 8] rfl)
                      refine lv_iconst (v := nI 5) hx hb dL_holds_402 (by decide) ?_
                      refine xIcmpNe C (tgt := 410) (by omega) (by decide) dL_holds_403 (by decide) (fun h_403 => ?_) (fun h_403 => ?_)
                      · skip
                        refine lv_iconst (v := nI 1) hx hb dL_holds_410 (by decide) ?_
                        refine xTop (y := nI (if TV V k 2 = 5 then 5 else 1)) (by rw [if_neg h_403]) ?_
                        exact J402  _ _ hW _ (lv_sub hl [0, 1, 2, 3, 4, 5, 6, 7, 8] rfl)
                      · skip
                        refine lv_iconst (v := nI 5) hx hb dL_holds_406 (by decide) ?_
                        refine xTop (y := nI (if TV V k 2 = 5 then 5 else 1)) (by rw [if_pos h_403]) ?_
                        refine lv_goto (tgt := 411) hx hb dL_holds_407 (by decide) ?_
                        exact J402  _ _ hW _ (lv_sub hl [0, 1, 2, 3, 4, 5, 6, 7, 8] rfl)
                    · exfalso; omega
            refine W.widen (k := 60) (n := 300) (by omega) (by omega) ?_
            exact L316 _ 0 (Nat.lt_succ_self _) (Nat.zero_le _) _ _ hW _ (lv_sub hl [0, 1, 2, 3, 4, 5, 6, 7, 8] rfl)
          · skip
            refine lv_iload hx hb dL_holds_47 (lv_at hl 1 rfl) ?_
            refine xIfEq C (tgt := 307) (by decide) dL_holds_49 (by decide) (fun h_49 => ?_) (fun h_49 => ?_)
            · exact absurd h_49 (by decide)
            · skip
              refine lv_iconst (v := nI 0) hx hb dL_holds_52 (by decide) ?_
              refine lv_istore (lv' := [(7, .int (nI 0)), (6, .int (nI cr)), (5, .int (nI 1)), (4, .int (nI 0)), (3, .int (nI (sumN (6 * cr) (lsF V)))), (0, .ref (ox 0)), (1, .ref dd), (2, .int x)]) hx hb dL_holds_53 hl (by decide) rfl (fun ls hl => ?_)
              have L55 : ∀ (fuel : Nat), ∀ (de : Nat) (hmu : 6 - de < fuel) (hde : de ≤ 6) (H : Heap) (locs : List Loc) (_ : WX D kA A xs.heap ox os ob ot (V, m, P, kt, HH, HB, LL) [(dd, .inl (kA 0, 2, .inl (g)))] H locs) (ls : Array Slot) (_ : lv_has ls 12 [(7, .int (nI de)), (6, .int (nI cr)), (5, .int (nI 1)), (4, .int (nI 0)), (3, .int (nI (sumN (6 * cr + de) (lsF V)))), (0, .ref (ox 0)), (1, .ref dd), (2, .int x)]), W xp xl xe (headSpec wsL_holds { frames := 9, cells := 60, slots := 300, locals := 211 }).room xs xm ([.ref (ox 0), .ref dd, .int x] : List Value).toArray xbe xme xc H locs (12 * cr + 2 * de) (60 * cr + 10 * de) (MQ xbe (xQi D A (lawQ kA ox os ob ot (fun r S2 X2 => r = nI 1 ∧ S2 = (V, m, P, kt, HH, HB, LL) ∧ X2 = [(dd, .inl (kA 0, 2, .inl g))]))) ([.ref (ox 0), .ref dd, .int x] : List Value).toArray xs 60 300 A) (F0 xm 55 ls []) := by
                intro fuel
                induction fuel with
                | zero => intro de hmu; exact absurd hmu (Nat.not_lt_zero _)
                | succ fuel ih55 =>
                  intro de hmu hde H locs hW ls hl
                  refine lv_iload hx hb dL_holds_55 (lv_at hl 0 rfl) ?_
                  refine lv_bipush (v := nI 6) hx hb dL_holds_57 (by decide) ?_
                  refine xIcmpGe C (tgt := 301) (by omega) (by decide) dL_holds_59 (by decide) (fun h_59 => ?_) (fun h_59 => ?_)
                  · skip
                    have e6 : de = 6 := by omega
                    rw [e6, show 6 * cr + 6 = 6 * (cr + 1) by omega] at hl
                    have hl : lv_has ls 12 [(7, .int (nI 6)), (6, .int (nI cr)), (5, .int (nI 1)), (4, .int (nI 0)), (3, .int (nI (sumN (6 * (cr + 1)) (lsF V)))), (0, .ref (ox 0)), (1, .ref dd), (2, .int x)] := hl
                    refine xIinc C (kx := 1) (d := 1) (lv' := [(6, .int (nI (cr + 1))), (7, .int (nI 6)), (5, .int (nI 1)), (4, .int (nI 0)), (3, .int (nI (sumN (6 * (cr + 1)) (lsF V)))), (0, .ref (ox 0)), (1, .ref dd), (2, .int x)]) dL_holds_301 hl rfl (by decide) (by decide) rfl (fun ls hl => ?_)
                    refine lv_goto (tgt := 41) hx hb dL_holds_304 (by decide) ?_
                    refine W.widen (k := 12 * (cr + 1)) (n := 60 * (cr + 1)) (by omega) (by omega) ?_
                    exact ih41 (cr + 1) (by omega) (by omega) _ _ hW _ (lv_sub hl [0, 2, 3, 4, 5, 6, 7] rfl)
                  · skip
                    refine lv_iload hx hb dL_holds_62 (lv_at hl 2 rfl) ?_
                    refine xIfEq C (tgt := 301) (by decide) dL_holds_64 (by decide) (fun h_64 => ?_) (fun h_64 => ?_)
                    · exact absurd h_64 (by decide)
                    · skip
                      refine lv_aload_n hx hb dL_holds_67 rfl (lv_at hl 5 rfl) ?_
                      refine lv_iload hx hb dL_holds_68 (lv_at hl 1 rfl) ?_
                      refine lv_iload hx hb dL_holds_70 (lv_at hl 0 rfl) ?_
                      refine qVr C hN hA (S := (V, m, P, kt, HH, HB, LL)) (S2 := (V, m, P, kt, HH, HB, LL)) (v := (leI V cr de)) (As := [.int (nI cr), .int (nI de)]) (rest := []) (fun u A1 h => k4_leastRank xl D kA ox os ob ot (V, m, P, kt, HH, HB, LL) u hI h (nI cr) (nI de) A1) (e_least (by omega) (by omega)) (cwV 2 hts gL_holds_X4_leastRank rfl rfl rfl (by decide +kernel) ⟨Nat.le_of_ble_eq_true rfl, Nat.le_of_ble_eq_true rfl⟩) hW rfl hl.1 rfl (Nat.le_of_ble_eq_true rfl) dL_holds_72 ⟨(show 12 * cr + 2 * de ≤ 60 by omega), (show 60 * cr + 10 * de ≤ 300 by omega)⟩ (fun H locs hW => ?_)
                      refine lv_istore (lv' := [(8, .int (leI V cr de)), (7, .int (nI de)), (6, .int (nI cr)), (5, .int (nI 1)), (4, .int (nI 0)), (3, .int (nI (sumN (6 * cr + de) (lsF V)))), (0, .ref (ox 0)), (1, .ref dd), (2, .int x)]) hx hb dL_holds_75 hl (by decide) rfl (fun ls hl => ?_)
                      refine lv_iload_n hx hb dL_holds_77 rfl (lv_at hl 8 rfl) ?_
                      refine lv_bipush (v := nI 7) hx hb dL_holds_78 (by decide) ?_
                      refine lv_iload hx hb dL_holds_80 (lv_at hl 2 rfl) ?_
                      refine xImul C dL_holds_82 ?_
                      refine lv_iadd hx hb dL_holds_83 ?_
                      refine lv_iload hx hb dL_holds_84 (lv_at hl 1 rfl) ?_
                      refine lv_iadd hx hb dL_holds_86 ?_
                      refine lv_bipush (v := nI 10) hx hb dL_holds_87 (by decide) ?_
                      refine wSr0 C hN (As := [.int ((x + (nI (7 * cr))) + (nI de)), .int (nI 10)]) (rest := []) (v := nI (loN ((x + (nI (7 * cr))) + (nI de)) % 10)) (c_L_low xl D kA ((x + (nI (7 * cr))) + (nI de)) 10 (by decide) (by decide)) (va_cwS 2 hts gL_holds_L_low rfl rfl rfl (by decide +kernel) ⟨Nat.le_of_ble_eq_true rfl, Nat.le_of_ble_eq_true rfl⟩) rfl hl.1 rfl (Nat.le_of_ble_eq_true rfl) dL_holds_89 ⟨(show 12 * cr + 2 * de ≤ 60 by omega), (show 60 * cr + 10 * de ≤ 300 by omega)⟩ ?_
                      refine lv_istore (lv' := [(9, .int (nI (loN ((x + (nI (7 * cr))) + (nI de)) % 10))), (8, .int (leI V cr de)), (7, .int (nI de)), (6, .int (nI cr)), (5, .int (nI 1)), (4, .int (nI 0)), (3, .int (nI (sumN (6 * cr + de) (lsF V)))), (0, .ref (ox 0)), (1, .ref dd), (2, .int x)]) hx hb dL_holds_92 hl (by decide) rfl (fun ls hl => ?_)
                      refine lv_iconst (v := nI 0) hx hb dL_holds_94 (by decide) ?_
                      refine lv_istore (lv' := [(10, .int (nI 0)), (9, .int (nI (loN ((x + (nI (7 * cr))) + (nI de)) % 10))), (8, .int (leI V cr de)), (7, .int (nI de)), (6, .int (nI cr)), (5, .int (nI 1)), (4, .int (nI 0)), (3, .int (nI (sumN (6 * cr + de) (lsF V)))), (0, .ref (ox 0)), (1, .ref dd), (2, .int x)]) hx hb dL_holds_95 hl (by decide) rfl (fun ls hl => ?_)
                      have L97 : ∀ (fuel : Nat), ∀ (k : Nat) (hmu : 10 - k < fuel) (hk : k ≤ 10) (H : Heap) (locs : List Loc) (_ : WX D kA A xs.heap ox os ob ot (V, m, P, kt, HH, HB, LL) [(dd, .inl (kA 0, 2, .inl (g)))] H locs) (ls : Array Slot) (_ : lv_has ls 12 [(10, .int (nI k)), (9, .int (nI (loN ((x + (nI (7 * cr))) + (nI de)) % 10))), (8, .int (leI V cr de)), (7, .int (nI de)), (6, .int (nI cr)), (5, .int (nI 1)), (4, .int (nI 0)), (3, .int (nI (sumN (6 * cr + de) (lsF V)))), (0, .ref (ox 0)), (1, .ref dd), (2, .int x)]), W xp xl xe (headSpec wsL_holds { frames := 9, cells := 60, slots := 300, locals := 211 }).room xs xm ([.ref (ox 0), .ref dd, .int x] : List Value).toArray xbe xme xc H locs (12 * cr + 2 * de) (60 * cr + 10 * de) (MQ xbe (xQi D A (lawQ kA ox os ob ot (fun r S2 X2 => r = nI 1 ∧ S2 = (V, m, P, kt, HH, HB, LL) ∧ X2 = [(dd, .inl (kA 0, 2, .inl g))]))) ([.ref (ox 0), .ref dd, .int x] : List Value).toArray xs 60 300 A) (F0 xm 97 ls []) := by
                        intro fuel
                        induction fuel with
                        | zero => intro k hmu; exact absurd hmu (Nat.not_lt_zero _)
                        | succ fuel ih97 =>
                          intro k hmu hk H locs hW ls hl
                          refine lv_iload hx hb dL_holds_97 (lv_at hl 0 rfl) ?_
                          refine lv_bipush (v := nI 10) hx hb dL_holds_99 (by decide) ?_
                          refine xIcmpGe C (tgt := 223) (by omega) (by decide) dL_holds_101 (by decide) (fun h_101 => ?_) (fun h_101 => ?_)
                          · skip
                            refine lv_iload_n hx hb dL_holds_223 rfl (lv_at hl 7 rfl) ?_
                            have J224 : ∀ (H : Heap) (locs : List Loc) (_ : WX D kA A xs.heap ox os ob ot (V, m, P, kt, HH, HB, LL) [(dd, .inl (kA 0, 2, .inl (g)))] H locs) (ls : Array Slot) (_ : lv_has ls 12 [(10, .int (nI k)), (9, .int (nI (loN ((x + (nI (7 * cr))) + (nI de)) % 10))), (8, .int (leI V cr de)), (7, .int (nI de)), (6, .int (nI cr)), (5, .int (nI 1)), (4, .int (nI 0)), (3, .int (nI (sumN (6 * cr + de) (lsF V)))), (0, .ref (ox 0)), (1, .ref dd), (2, .int x)]), W xp xl xe (headSpec wsL_holds { frames := 9, cells := 60, slots := 300, locals := 211 }).room xs xm ([.ref (ox 0), .ref dd, .int x] : List Value).toArray xbe xme xc H locs (12 * cr + 2 * de) (60 * cr + 10 * de) (MQ xbe (xQi D A (lawQ kA ox os ob ot (fun r S2 X2 => r = nI 1 ∧ S2 = (V, m, P, kt, HH, HB, LL) ∧ X2 = [(dd, .inl (kA 0, 2, .inl g))]))) ([.ref (ox 0), .ref dd, .int x] : List Value).toArray xs 60 300 A) (F0 xm 240 ls [.int (nI (10 - lstT (V 0) (TV V) cr de)), .int (nI (sumN (6 * cr + de) (lsF V)))]) := by
                              intro   H locs hW ls hl
                              refine xIadd C dL_holds_240 ?_
                              refine xTop (y := nI (sumN (6 * cr + (de + 1)) (lsF V))) (congrArg nI (lst_s (show de < 6 by omega))) ?_
                              refine lv_istore_n (lv' := [(3, .int (nI (sumN (6 * cr + (de + 1)) (lsF V)))), (10, .int (nI k)), (9, .int (nI (loN ((x + (nI (7 * cr))) + (nI de)) % 10))), (8, .int (leI V cr de)), (7, .int (nI de)), (6, .int (nI cr)), (5, .int (nI 1)), (4, .int (nI 0)), (0, .ref (ox 0)), (1, .ref dd), (2, .int x)]) hx hb dL_holds_241 rfl hl (by decide) rfl (fun ls hl => ?_)
                              refine lv_iload hx hb dL_holds_242 (lv_at hl 6 rfl) ?_
                              refine xIfEq C (tgt := 291) (by decide) dL_holds_244 (by decide) (fun h_244 => ?_) (fun h_244 => ?_)
                              · exact absurd h_244 (by decide)
                              · skip
                                refine lv_iload hx hb dL_holds_247 (lv_at hl 5 rfl) ?_
                                refine lv_iload hx hb dL_holds_249 (lv_at hl 4 rfl) ?_
                                refine xIadd C dL_holds_251 ?_
                                refine lv_iload_n hx hb dL_holds_252 rfl (lv_at hl 10 rfl) ?_
                                refine lv_iadd hx hb dL_holds_253 ?_
                                refine lv_iconst (v := nI 3) hx hb dL_holds_254 (by decide) ?_
                                refine lv_iand hx hb dL_holds_255 ?_
                                refine lv_if_ne (tgt := 291) hx hb dL_holds_256 (by decide) (fun h_256 => ?_) (fun h_256 => ?_)
                                · skip
                                  refine lv_iload hx hb dL_holds_291 (lv_at hl 6 rfl) ?_
                                  refine lv_istore (lv' := [(5, .int (nI 1)), (3, .int (nI (sumN (6 * cr + (de + 1)) (lsF V)))), (10, .int (nI k)), (9, .int (nI (loN ((x + (nI (7 * cr))) + (nI de)) % 10))), (8, .int (leI V cr de)), (7, .int (nI de)), (6, .int (nI cr)), (4, .int (nI 0)), (0, .ref (ox 0)), (1, .ref dd), (2, .int x)]) hx hb dL_holds_293 hl (by decide) rfl (fun ls hl => ?_)
                                  refine xIinc C (kx := 5) (d := 1) (lv' := [(7, .int (nI (de + 1))), (5, .int (nI 1)), (3, .int (nI (sumN (6 * cr + (de + 1)) (lsF V)))), (10, .int (nI k)), (9, .int (nI (loN ((x + (nI (7 * cr))) + (nI de)) % 10))), (8, .int (leI V cr de)), (6, .int (nI cr)), (4, .int (nI 0)), (0, .ref (ox 0)), (1, .ref dd), (2, .int x)]) dL_holds_295 hl rfl (by decide) (by decide) rfl (fun ls hl => ?_)
                                  refine lv_goto (tgt := 55) hx hb dL_holds_298 (by decide) ?_
                                  refine W.widen (k := 12 * cr + 2 * (de + 1)) (n := 60 * cr + 10 * (de + 1)) (by omega) (by omega) ?_
                                  exact ih55 (de + 1) (by omega) (by omega) _ _ hW _ (lv_sub hl [0, 6, 1, 7, 2, 8, 9, 10] rfl)
                                · skip
                                  refine lv_aload_n hx hb dL_holds_259 rfl (lv_at hl 8 rfl) ?_
                                  refine lv_iload hx hb dL_holds_260 (lv_at hl 5 rfl) ?_
                                  refine lv_iload hx hb dL_holds_262 (lv_at hl 4 rfl) ?_
                                  refine lv_iload hx hb dL_holds_264 (lv_at hl 2 rfl) ?_
                                  refine qVr C hN hA (S := (V, m, P, kt, HH, HB, LL)) (S2 := (V, m, P, kt, HH, HB, LL)) (v := (rsnT (V 0) (TV V) cr de (loN ((x + (nI (7 * cr))) + (nI de)) % 10))) (As := [.int (nI cr), .int (nI de), .int (nI (loN ((x + (nI (7 * cr))) + (nI de)) % 10))]) (rest := []) (fun u A1 h => k4_why xl D kA ox os ob ot (V, m, P, kt, HH, HB, LL) u hI h (nI cr) (nI de) (nI (loN ((x + (nI (7 * cr))) + (nI de)) % 10)) A1) (e_why (by omega) (by omega) (lo_mod (by decide))) (cwV 3 hts gL_holds_X4_why rfl rfl rfl (by decide +kernel) ⟨Nat.le_of_ble_eq_true rfl, Nat.le_of_ble_eq_true rfl⟩) hW rfl hl.1 rfl (Nat.le_of_ble_eq_true rfl) dL_holds_266 ⟨(show 12 * cr + 2 * de ≤ 60 by omega), (show 60 * cr + 10 * de ≤ 300 by omega)⟩ (fun H locs hW => ?_)
                                  refine lv_aload_n hx hb dL_holds_269 rfl (lv_at hl 8 rfl) ?_
                                  refine lv_iload hx hb dL_holds_270 (lv_at hl 5 rfl) ?_
                                  refine lv_iload hx hb dL_holds_272 (lv_at hl 4 rfl) ?_
                                  refine lv_iload hx hb dL_holds_274 (lv_at hl 2 rfl) ?_
                                  refine lv_iconst (v := (-1)) hx hb dL_holds_276 (by decide) ?_
                                  refine qS C hN hA (As := [.ref (ox 0), .int (nI cr), .int (nI de), .int (nI (loN ((x + (nI (7 * cr))) + (nI de)) % 10)), .int (-1)]) (rest := [.int (rsnT (V 0) (TV V) cr de (loN ((x + (nI (7 * cr))) + (nI de)) % 10))]) (Xc := []) (Xr := [(dd, .inl (kA 0, 2, .inl (g)))]) (fun u A1 h => c_L_why xl D kA ox os ob ot V m P kt HH HB LL hI cr de (loN ((x + (nI (7 * cr))) + (nI de)) % 10) (by omega) (by omega) (lo_mod (by decide)) u h A1) (va_cwS 5 hts gL_holds_L_why rfl rfl rfl (by decide +kernel) ⟨Nat.le_of_ble_eq_true rfl, Nat.le_of_ble_eq_true rfl⟩) hW (List.Perm.refl _) rfl hl.1 rfl (Nat.le_of_ble_eq_true rfl) dL_holds_277 ⟨(show (12 * cr + 2 * de) + 2 ≤ 60 by omega), (show (60 * cr + 10 * de) + 10 ≤ 300 by omega)⟩ (fun r_277 S2 X2 H locs hR hW => ?_)
                                  obtain ⟨rfl, rfl, rfl⟩ := hR
                                  have hW : WX D kA A xs.heap ox os ob ot (V, m, P, kt, HH, HB, LL) [(dd, .inl (kA 0, 2, .inl (g)))] H locs := hW
                                  refine lv_icmp_ne (tgt := 287) hx hb dL_holds_280 (by decide) (fun h_280 => ?_) (fun h_280 => ?_)
                                  · exact absurd rfl h_280
                                  · skip
                                    refine lv_iconst (v := nI 1) hx hb dL_holds_283 (by decide) ?_
                                    refine lv_goto (tgt := 293) hx hb dL_holds_284 (by decide) ?_
                                    refine lv_istore (lv' := [(5, .int (nI 1)), (3, .int (nI (sumN (6 * cr + (de + 1)) (lsF V)))), (10, .int (nI k)), (9, .int (nI (loN ((x + (nI (7 * cr))) + (nI de)) % 10))), (8, .int (leI V cr de)), (7, .int (nI de)), (6, .int (nI cr)), (4, .int (nI 0)), (0, .ref (ox 0)), (1, .ref dd), (2, .int x)]) hx hb dL_holds_293 hl (by decide) rfl (fun ls hl => ?_)
                                    refine xIinc C (kx := 5) (d := 1) (lv' := [(7, .int (nI (de + 1))), (5, .int (nI 1)), (3, .int (nI (sumN (6 * cr + (de + 1)) (lsF V)))), (10, .int (nI k)), (9, .int (nI (loN ((x + (nI (7 * cr))) + (nI de)) % 10))), (8, .int (leI V cr de)), (6, .int (nI cr)), (4, .int (nI 0)), (0, .ref (ox 0)), (1, .ref dd), (2, .int x)]) dL_holds_295 hl rfl (by decide) (by decide) rfl (fun ls hl => ?_)
                                    refine lv_goto (tgt := 55) hx hb dL_holds_298 (by decide) ?_
                                    refine W.widen (k := 12 * cr + 2 * (de + 1)) (n := 60 * cr + 10 * (de + 1)) (by omega) (by omega) ?_
                                    exact ih55 (de + 1) (by omega) (by omega) _ _ hW _ (lv_sub hl [0, 6, 1, 7, 2, 8, 9, 10] rfl)
                            have hlm := lst_max (c := cr) (d := de) hWf
                            refine lv_iload hx hb dL_holds_224 (lv_at hl 2 rfl) ?_
                            refine lv_bipush (v := (-6)) hx hb dL_holds_226 (by decide) ?_
                            refine lv_icmp_ne (tgt := 235) hx hb dL_holds_228 (by decide) (fun h_228 => ?_) (fun h_228 => ?_)
                            · skip
                              refine lv_bipush (v := nI 10) hx hb dL_holds_235 (by decide) ?_
                              refine lv_iload hx hb dL_holds_237 (lv_at hl 2 rfl) ?_
                              refine xTop (y := nI (lstT (V 0) (TV V) cr de)) (le_ne h_228) ?_
                              refine xIsub C (by omega) dL_holds_239 ?_
                              exact J224  _ _ hW _ (lv_sub hl [0, 1, 2, 3, 4, 5, 6, 7, 8, 9, 10] rfl)
                            · skip
                              refine lv_iconst (v := nI 0) hx hb dL_holds_231 (by decide) ?_
                              refine xTop (y := nI (10 - lstT (V 0) (TV V) cr de)) (sb_0 (le_10 hWf h_228)) ?_
                              refine lv_goto (tgt := 240) hx hb dL_holds_232 (by decide) ?_
                              exact J224  _ _ hW _ (lv_sub hl [0, 1, 2, 3, 4, 5, 6, 7, 8, 9, 10] rfl)
                          · skip
                            refine lv_iload hx hb dL_holds_104 (lv_at hl 5 rfl) ?_
                            refine xIfEq C (tgt := 223) (by decide) dL_holds_106 (by decide) (fun h_106 => ?_) (fun h_106 => ?_)
                            · exact absurd h_106 (by decide)
                            · skip
                              refine lv_aload_n hx hb dL_holds_109 rfl (lv_at hl 8 rfl) ?_
                              refine lv_iload hx hb dL_holds_110 (lv_at hl 4 rfl) ?_
                              refine lv_iload hx hb dL_holds_112 (lv_at hl 3 rfl) ?_
                              refine lv_iload hx hb dL_holds_114 (lv_at hl 0 rfl) ?_
                              refine lv_iconst (v := nI 0) hx hb dL_holds_116 (by decide) ?_
                              refine qVr C hN hA (S := (V, m, P, kt, HH, HB, LL)) (S2 := (V, m, P, kt, HH, HB, LL)) (v := bI (decide (lstT (V 0) (TV V) cr de ≤ k))) (As := [.int (nI cr), .int (nI de), .int (nI k), .int (nI 0)]) (rest := []) (fun u A1 h => k4_allowed xl D kA ox os ob ot (V, m, P, kt, HH, HB, LL) u hI h (nI cr) (nI de) (nI k) (nI 0) A1) (e_allowed (by omega) (by omega) (by omega) (by decide)) (cwV 4 hts gL_holds_X4_allowed rfl rfl rfl (by decide +kernel) ⟨Nat.le_of_ble_eq_true rfl, Nat.le_of_ble_eq_true rfl⟩) hW rfl hl.1 rfl (Nat.le_of_ble_eq_true rfl) dL_holds_117 ⟨(show 12 * cr + 2 * de ≤ 60 by omega), (show 60 * cr + 10 * de ≤ 300 by omega)⟩ (fun H locs hW => ?_)
                              have J120 : ∀ (H : Heap) (locs : List Loc) (_ : WX D kA A xs.heap ox os ob ot (V, m, P, kt, HH, HB, LL) [(dd, .inl (kA 0, 2, .inl (g)))] H locs) (ls : Array Slot) (_ : lv_has ls 12 [(10, .int (nI k)), (9, .int (nI (loN ((x + (nI (7 * cr))) + (nI de)) % 10))), (8, .int (leI V cr de)), (7, .int (nI de)), (6, .int (nI cr)), (5, .int (nI 1)), (4, .int (nI 0)), (3, .int (nI (sumN (6 * cr + de) (lsF V)))), (0, .ref (ox 0)), (1, .ref dd), (2, .int x)]), W xp xl xe (headSpec wsL_holds { frames := 9, cells := 60, slots := 300, locals := 211 }).room xs xm ([.ref (ox 0), .ref dd, .int x] : List Value).toArray xbe xme xc H locs (12 * cr + 2 * de) (60 * cr + 10 * de) (MQ xbe (xQi D A (lawQ kA ox os ob ot (fun r S2 X2 => r = nI 1 ∧ S2 = (V, m, P, kt, HH, HB, LL) ∧ X2 = [(dd, .inl (kA 0, 2, .inl g))]))) ([.ref (ox 0), .ref dd, .int x] : List Value).toArray xs 60 300 A) (F0 xm 139 ls [.int (bI (decide (lstT (V 0) (TV V) cr de ≤ k))), .int (bI (decide (lstT (V 0) (TV V) cr de ≤ k)))]) := by
                                intro   H locs hW ls hl
                                refine lv_icmp_ne (tgt := 214) hx hb dL_holds_139 (by decide) (fun h_139 => ?_) (fun h_139 => ?_)
                                · exact absurd rfl h_139
                                · skip
                                  refine lv_aload_n hx hb dL_holds_142 rfl (lv_at hl 8 rfl) ?_
                                  refine lv_iload hx hb dL_holds_143 (lv_at hl 4 rfl) ?_
                                  refine lv_iload hx hb dL_holds_145 (lv_at hl 3 rfl) ?_
                                  refine lv_iload hx hb dL_holds_147 (lv_at hl 0 rfl) ?_
                                  refine lv_iconst (v := nI 1) hx hb dL_holds_149 (by decide) ?_
                                  refine qVr C hN hA (S := (V, m, P, kt, HH, HB, LL)) (S2 := (V, m, P, kt, HH, HB, LL)) (v := bI (decide (lstT (V 0) (TV V) cr de ≤ k))) (As := [.int (nI cr), .int (nI de), .int (nI k), .int (nI 1)]) (rest := []) (fun u A1 h => k4_allowed xl D kA ox os ob ot (V, m, P, kt, HH, HB, LL) u hI h (nI cr) (nI de) (nI k) (nI 1) A1) (e_allowed (by omega) (by omega) (by omega) (by decide)) (cwV 4 hts gL_holds_X4_allowed rfl rfl rfl (by decide +kernel) ⟨Nat.le_of_ble_eq_true rfl, Nat.le_of_ble_eq_true rfl⟩) hW rfl hl.1 rfl (Nat.le_of_ble_eq_true rfl) dL_holds_150 ⟨(show 12 * cr + 2 * de ≤ 60 by omega), (show 60 * cr + 10 * de ≤ 300 by omega)⟩ (fun H locs hW => ?_)
                                  refine lv_aload_n hx hb dL_holds_153 rfl (lv_at hl 8 rfl) ?_
                                  refine lv_iload hx hb dL_holds_154 (lv_at hl 4 rfl) ?_
                                  refine lv_iload hx hb dL_holds_156 (lv_at hl 3 rfl) ?_
                                  refine lv_iload hx hb dL_holds_158 (lv_at hl 0 rfl) ?_
                                  refine lv_iconst (v := nI 0) hx hb dL_holds_160 (by decide) ?_
                                  refine qVr C hN hA (S := (V, m, P, kt, HH, HB, LL)) (S2 := (V, m, P, kt, HH, HB, LL)) (v := bI (decide (lstT (V 0) (TV V) cr de ≤ k))) (As := [.int (nI cr), .int (nI de), .int (nI k), .int (nI 0)]) (rest := [.int (bI (decide (lstT (V 0) (TV V) cr de ≤ k)))]) (fun u A1 h => k4_allowed xl D kA ox os ob ot (V, m, P, kt, HH, HB, LL) u hI h (nI cr) (nI de) (nI k) (nI 0) A1) (e_allowed (by omega) (by omega) (by omega) (by decide)) (cwV 4 hts gL_holds_X4_allowed rfl rfl rfl (by decide +kernel) ⟨Nat.le_of_ble_eq_true rfl, Nat.le_of_ble_eq_true rfl⟩) hW rfl hl.1 rfl (Nat.le_of_ble_eq_true rfl) dL_holds_161 ⟨(show 12 * cr + 2 * de ≤ 60 by omega), (show 60 * cr + 10 * de ≤ 300 by omega)⟩ (fun H locs hW => ?_)
                                  refine lv_icmp_ne (tgt := 214) hx hb dL_holds_164 (by decide) (fun h_164 => ?_) (fun h_164 => ?_)
                                  · exact absurd rfl h_164
                                  · skip
                                    refine lv_aload_n hx hb dL_holds_167 rfl (lv_at hl 8 rfl) ?_
                                    refine lv_iload hx hb dL_holds_168 (lv_at hl 4 rfl) ?_
                                    refine lv_iload hx hb dL_holds_170 (lv_at hl 3 rfl) ?_
                                    refine lv_iload hx hb dL_holds_172 (lv_at hl 0 rfl) ?_
                                    refine qVr C hN hA (S := (V, m, P, kt, HH, HB, LL)) (S2 := (V, m, P, kt, HH, HB, LL)) (v := (rsnT (V 0) (TV V) cr de k)) (As := [.int (nI cr), .int (nI de), .int (nI k)]) (rest := []) (fun u A1 h => k4_why xl D kA ox os ob ot (V, m, P, kt, HH, HB, LL) u hI h (nI cr) (nI de) (nI k) A1) (e_why (by omega) (by omega) (by omega)) (cwV 3 hts gL_holds_X4_why rfl rfl rfl (by decide +kernel) ⟨Nat.le_of_ble_eq_true rfl, Nat.le_of_ble_eq_true rfl⟩) hW rfl hl.1 rfl (Nat.le_of_ble_eq_true rfl) dL_holds_174 ⟨(show 12 * cr + 2 * de ≤ 60 by omega), (show 60 * cr + 10 * de ≤ 300 by omega)⟩ (fun H locs hW => ?_)
                                    refine lv_bipush (v := (-6)) hx hb dL_holds_177 (by decide) ?_
                                    refine lv_icmp_ne (tgt := 186) hx hb dL_holds_179 (by decide) (fun h_179 => ?_) (fun h_179 => ?_)
                                    · skip
                                      refine lv_iconst (v := nI 0) hx hb dL_holds_186 (by decide) ?_
                                      refine xTop (y := bI (decide (lstT (V 0) (TV V) cr de ≤ k))) (wy_0 hWf (by omega) (by omega) h_179) ?_
                                      refine lv_aload_n hx hb dL_holds_187 rfl (lv_at hl 8 rfl) ?_
                                      refine lv_iload hx hb dL_holds_188 (lv_at hl 4 rfl) ?_
                                      refine lv_iload hx hb dL_holds_190 (lv_at hl 3 rfl) ?_
                                      refine lv_iload hx hb dL_holds_192 (lv_at hl 0 rfl) ?_
                                      refine lv_iconst (v := nI 0) hx hb dL_holds_194 (by decide) ?_
                                      refine qVr C hN hA (S := (V, m, P, kt, HH, HB, LL)) (S2 := (V, m, P, kt, HH, HB, LL)) (v := bI (decide (lstT (V 0) (TV V) cr de ≤ k))) (As := [.int (nI cr), .int (nI de), .int (nI k), .int (nI 0)]) (rest := [.int (bI (decide (lstT (V 0) (TV V) cr de ≤ k)))]) (fun u A1 h => k4_allowed xl D kA ox os ob ot (V, m, P, kt, HH, HB, LL) u hI h (nI cr) (nI de) (nI k) (nI 0) A1) (e_allowed (by omega) (by omega) (by omega) (by decide)) (cwV 4 hts gL_holds_X4_allowed rfl rfl rfl (by decide +kernel) ⟨Nat.le_of_ble_eq_true rfl, Nat.le_of_ble_eq_true rfl⟩) hW rfl hl.1 rfl (Nat.le_of_ble_eq_true rfl) dL_holds_195 ⟨(show 12 * cr + 2 * de ≤ 60 by omega), (show 60 * cr + 10 * de ≤ 300 by omega)⟩ (fun H locs hW => ?_)
                                      refine lv_iconst (v := nI 1) hx hb dL_holds_198 (by decide) ?_
                                      refine lv_icmp_ne (tgt := 206) hx hb dL_holds_199 (by decide) (fun h_199 => ?_) (fun h_199 => ?_)
                                      · skip
                                        refine lv_iconst (v := nI 0) hx hb dL_holds_206 (by decide) ?_
                                        refine xTop (y := bI (decide (lstT (V 0) (TV V) cr de ≤ k))) (bq_0 h_199) ?_
                                        refine lv_icmp_ne (tgt := 214) hx hb dL_holds_207 (by decide) (fun h_207 => ?_) (fun h_207 => ?_)
                                        · exact absurd rfl h_207
                                        · skip
                                          refine lv_iconst (v := nI 1) hx hb dL_holds_210 (by decide) ?_
                                          refine lv_goto (tgt := 215) hx hb dL_holds_211 (by decide) ?_
                                          refine lv_istore (lv' := [(5, .int (nI 1)), (10, .int (nI k)), (9, .int (nI (loN ((x + (nI (7 * cr))) + (nI de)) % 10))), (8, .int (leI V cr de)), (7, .int (nI de)), (6, .int (nI cr)), (4, .int (nI 0)), (3, .int (nI (sumN (6 * cr + de) (lsF V)))), (0, .ref (ox 0)), (1, .ref dd), (2, .int x)]) hx hb dL_holds_215 hl (by decide) rfl (fun ls hl => ?_)
                                          refine xIinc C (kx := 1) (d := 1) (lv' := [(10, .int (nI (k + 1))), (5, .int (nI 1)), (9, .int (nI (loN ((x + (nI (7 * cr))) + (nI de)) % 10))), (8, .int (leI V cr de)), (7, .int (nI de)), (6, .int (nI cr)), (4, .int (nI 0)), (3, .int (nI (sumN (6 * cr + de) (lsF V)))), (0, .ref (ox 0)), (1, .ref dd), (2, .int x)]) dL_holds_217 hl rfl (by decide) (by decide) rfl (fun ls hl => ?_)
                                          refine lv_goto (tgt := 97) hx hb dL_holds_220 (by decide) ?_
                                          exact ih97 (k + 1) (by omega) (by omega) _ _ hW _ (lv_sub hl [0, 2, 3, 4, 5, 1, 6, 7, 8, 9, 10] rfl)
                                      · skip
                                        refine lv_iconst (v := nI 1) hx hb dL_holds_202 (by decide) ?_
                                        refine xTop (y := bI (decide (lstT (V 0) (TV V) cr de ≤ k))) (bq_1 h_199) ?_
                                        refine lv_goto (tgt := 207) hx hb dL_holds_203 (by decide) ?_
                                        refine lv_icmp_ne (tgt := 214) hx hb dL_holds_207 (by decide) (fun h_207 => ?_) (fun h_207 => ?_)
                                        · exact absurd rfl h_207
                                        · skip
                                          refine lv_iconst (v := nI 1) hx hb dL_holds_210 (by decide) ?_
                                          refine lv_goto (tgt := 215) hx hb dL_holds_211 (by decide) ?_
                                          refine lv_istore (lv' := [(5, .int (nI 1)), (10, .int (nI k)), (9, .int (nI (loN ((x + (nI (7 * cr))) + (nI de)) % 10))), (8, .int (leI V cr de)), (7, .int (nI de)), (6, .int (nI cr)), (4, .int (nI 0)), (3, .int (nI (sumN (6 * cr + de) (lsF V)))), (0, .ref (ox 0)), (1, .ref dd), (2, .int x)]) hx hb dL_holds_215 hl (by decide) rfl (fun ls hl => ?_)
                                          refine xIinc C (kx := 1) (d := 1) (lv' := [(10, .int (nI (k + 1))), (5, .int (nI 1)), (9, .int (nI (loN ((x + (nI (7 * cr))) + (nI de)) % 10))), (8, .int (leI V cr de)), (7, .int (nI de)), (6, .int (nI cr)), (4, .int (nI 0)), (3, .int (nI (sumN (6 * cr + de) (lsF V)))), (0, .ref (ox 0)), (1, .ref dd), (2, .int x)]) dL_holds_217 hl rfl (by decide) (by decide) rfl (fun ls hl => ?_)
                                          refine lv_goto (tgt := 97) hx hb dL_holds_220 (by decide) ?_
                                          exact ih97 (k + 1) (by omega) (by omega) _ _ hW _ (lv_sub hl [0, 2, 3, 4, 5, 1, 6, 7, 8, 9, 10] rfl)
                                    · skip
                                      refine lv_iconst (v := nI 1) hx hb dL_holds_182 (by decide) ?_
                                      refine xTop (y := bI (decide (lstT (V 0) (TV V) cr de ≤ k))) (wy_1 hWf (by omega) (by omega) h_179) ?_
                                      refine lv_goto (tgt := 187) hx hb dL_holds_183 (by decide) ?_
                                      refine lv_aload_n hx hb dL_holds_187 rfl (lv_at hl 8 rfl) ?_
                                      refine lv_iload hx hb dL_holds_188 (lv_at hl 4 rfl) ?_
                                      refine lv_iload hx hb dL_holds_190 (lv_at hl 3 rfl) ?_
                                      refine lv_iload hx hb dL_holds_192 (lv_at hl 0 rfl) ?_
                                      refine lv_iconst (v := nI 0) hx hb dL_holds_194 (by decide) ?_
                                      refine qVr C hN hA (S := (V, m, P, kt, HH, HB, LL)) (S2 := (V, m, P, kt, HH, HB, LL)) (v := bI (decide (lstT (V 0) (TV V) cr de ≤ k))) (As := [.int (nI cr), .int (nI de), .int (nI k), .int (nI 0)]) (rest := [.int (bI (decide (lstT (V 0) (TV V) cr de ≤ k)))]) (fun u A1 h => k4_allowed xl D kA ox os ob ot (V, m, P, kt, HH, HB, LL) u hI h (nI cr) (nI de) (nI k) (nI 0) A1) (e_allowed (by omega) (by omega) (by omega) (by decide)) (cwV 4 hts gL_holds_X4_allowed rfl rfl rfl (by decide +kernel) ⟨Nat.le_of_ble_eq_true rfl, Nat.le_of_ble_eq_true rfl⟩) hW rfl hl.1 rfl (Nat.le_of_ble_eq_true rfl) dL_holds_195 ⟨(show 12 * cr + 2 * de ≤ 60 by omega), (show 60 * cr + 10 * de ≤ 300 by omega)⟩ (fun H locs hW => ?_)
                                      refine lv_iconst (v := nI 1) hx hb dL_holds_198 (by decide) ?_
                                      refine lv_icmp_ne (tgt := 206) hx hb dL_holds_199 (by decide) (fun h_199 => ?_) (fun h_199 => ?_)
                                      · skip
                                        refine lv_iconst (v := nI 0) hx hb dL_holds_206 (by decide) ?_
                                        refine xTop (y := bI (decide (lstT (V 0) (TV V) cr de ≤ k))) (bq_0 h_199) ?_
                                        refine lv_icmp_ne (tgt := 214) hx hb dL_holds_207 (by decide) (fun h_207 => ?_) (fun h_207 => ?_)
                                        · exact absurd rfl h_207
                                        · skip
                                          refine lv_iconst (v := nI 1) hx hb dL_holds_210 (by decide) ?_
                                          refine lv_goto (tgt := 215) hx hb dL_holds_211 (by decide) ?_
                                          refine lv_istore (lv' := [(5, .int (nI 1)), (10, .int (nI k)), (9, .int (nI (loN ((x + (nI (7 * cr))) + (nI de)) % 10))), (8, .int (leI V cr de)), (7, .int (nI de)), (6, .int (nI cr)), (4, .int (nI 0)), (3, .int (nI (sumN (6 * cr + de) (lsF V)))), (0, .ref (ox 0)), (1, .ref dd), (2, .int x)]) hx hb dL_holds_215 hl (by decide) rfl (fun ls hl => ?_)
                                          refine xIinc C (kx := 1) (d := 1) (lv' := [(10, .int (nI (k + 1))), (5, .int (nI 1)), (9, .int (nI (loN ((x + (nI (7 * cr))) + (nI de)) % 10))), (8, .int (leI V cr de)), (7, .int (nI de)), (6, .int (nI cr)), (4, .int (nI 0)), (3, .int (nI (sumN (6 * cr + de) (lsF V)))), (0, .ref (ox 0)), (1, .ref dd), (2, .int x)]) dL_holds_217 hl rfl (by decide) (by decide) rfl (fun ls hl => ?_)
                                          refine lv_goto (tgt := 97) hx hb dL_holds_220 (by decide) ?_
                                          exact ih97 (k + 1) (by omega) (by omega) _ _ hW _ (lv_sub hl [0, 2, 3, 4, 5, 1, 6, 7, 8, 9, 10] rfl)
                                      · skip
                                        refine lv_iconst (v := nI 1) hx hb dL_holds_202 (by decide) ?_
                                        refine xTop (y := bI (decide (lstT (V 0) (TV V) cr de ≤ k))) (bq_1 h_199) ?_
                                        refine lv_goto (tgt := 207) hx hb dL_holds_203 (by decide) ?_
                                        refine lv_icmp_ne (tgt := 214) hx hb dL_holds_207 (by decide) (fun h_207 => ?_) (fun h_207 => ?_)
                                        · exact absurd rfl h_207
                                        · skip
                                          refine lv_iconst (v := nI 1) hx hb dL_holds_210 (by decide) ?_
                                          refine lv_goto (tgt := 215) hx hb dL_holds_211 (by decide) ?_
                                          refine lv_istore (lv' := [(5, .int (nI 1)), (10, .int (nI k)), (9, .int (nI (loN ((x + (nI (7 * cr))) + (nI de)) % 10))), (8, .int (leI V cr de)), (7, .int (nI de)), (6, .int (nI cr)), (4, .int (nI 0)), (3, .int (nI (sumN (6 * cr + de) (lsF V)))), (0, .ref (ox 0)), (1, .ref dd), (2, .int x)]) hx hb dL_holds_215 hl (by decide) rfl (fun ls hl => ?_)
                                          refine xIinc C (kx := 1) (d := 1) (lv' := [(10, .int (nI (k + 1))), (5, .int (nI 1)), (9, .int (nI (loN ((x + (nI (7 * cr))) + (nI de)) % 10))), (8, .int (leI V cr de)), (7, .int (nI de)), (6, .int (nI cr)), (4, .int (nI 0)), (3, .int (nI (sumN (6 * cr + de) (lsF V)))), (0, .ref (ox 0)), (1, .ref dd), (2, .int x)]) dL_holds_217 hl rfl (by decide) (by decide) rfl (fun ls hl => ?_)
                                          refine lv_goto (tgt := 97) hx hb dL_holds_220 (by decide) ?_
                                          exact ih97 (k + 1) (by omega) (by omega) _ _ hW _ (lv_sub hl [0, 2, 3, 4, 5, 1, 6, 7, 8, 9, 10] rfl)
                              have hlm := lst_max (c := cr) (d := de) hWf
                              refine lv_iload hx hb dL_holds_120 (lv_at hl 2 rfl) ?_
                              refine lv_bipush (v := (-6)) hx hb dL_holds_122 (by decide) ?_
                              refine lv_icmp_eq (tgt := 138) hx hb dL_holds_124 (by decide) (fun h_124 => ?_) (fun h_124 => ?_)
                              · skip
                                refine lv_iconst (v := nI 0) hx hb dL_holds_138 (by decide) ?_
                                refine xTop (y := bI (decide (lstT (V 0) (TV V) cr de ≤ k))) (by first | exact al_0n hWf h_124 h_101 | exact al_0l h_131) ?_
                                exact J120  _ _ hW _ (lv_sub hl [0, 1, 2, 3, 4, 5, 6, 7, 8, 9, 10] rfl)
                              · skip
                                refine lv_iload hx hb dL_holds_127 (lv_at hl 0 rfl) ?_
                                refine lv_iload hx hb dL_holds_129 (lv_at hl 2 rfl) ?_
                                refine xTop (y := nI (lstT (V 0) (TV V) cr de)) (le_ne h_124) ?_
                                refine xIcmpLt C (tgt := 138) (by omega) (by omega) dL_holds_131 (by decide) (fun h_131 => ?_) (fun h_131 => ?_)
                                · skip
                                  refine lv_iconst (v := nI 0) hx hb dL_holds_138 (by decide) ?_
                                  refine xTop (y := bI (decide (lstT (V 0) (TV V) cr de ≤ k))) (by first | exact al_0n hWf h_124 h_101 | exact al_0l h_131) ?_
                                  exact J120  _ _ hW _ (lv_sub hl [0, 1, 2, 3, 4, 5, 6, 7, 8, 9, 10] rfl)
                                · skip
                                  refine lv_iconst (v := nI 1) hx hb dL_holds_134 (by decide) ?_
                                  refine xTop (y := bI (decide (lstT (V 0) (TV V) cr de ≤ k))) (dc_1 (by omega)) ?_
                                  refine lv_goto (tgt := 139) hx hb dL_holds_135 (by decide) ?_
                                  exact J120  _ _ hW _ (lv_sub hl [0, 1, 2, 3, 4, 5, 6, 7, 8, 9, 10] rfl)
                      exact L97 _ 0 (Nat.lt_succ_self _) (by omega) _ _ hW _ (lv_sub hl [0, 1, 2, 3, 4, 5, 6, 7, 8, 9, 10] rfl)
              refine W.widen (k := 12 * cr + 2 * 0) (n := 60 * cr + 10 * 0) (by omega) (by omega) ?_
              exact L55 _ 0 (Nat.lt_succ_self _) (by omega) _ _ hW _ (lv_sub hl [0, 1, 2, 3, 4, 5, 6, 7] rfl)
      refine W.widen (k := 12 * 0) (n := 60 * 0) (by omega) (by omega) ?_
      exact L41 _ 0 (Nat.lt_succ_self _) (by omega) _ _ hW _ (lv_sub hl [0, 1, 2, 3, 4, 5, 6] rfl)
